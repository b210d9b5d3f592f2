/-! ===== fault() ===== -/
theorem FrR.nx {M N : Mem} (h : FrR M N) (j : Nat) (hj : 17 ≤ j) (v : Int32) : FrR M (sI N 65 j v) := h.tr (FrR.mv h.1 j hj v)
theorem readFrom_X {M : Mem} (h : SF M) {s : Nat} (hs : s = 4 ∨ s = 13) {t z : Nat} (ht : t < 4) (hz : z ≤ 60) (hsz : mI M (51 + 2 * t) 1 = nI z) : ∃ M', f_X2_readFrom s (51 + 2 * t) M = some ((prs (mI M (52 + 2 * t)) z 61 0 0 0 (fun _ _ => 0)).1, M') ∧ FrS s M M' ∧ Rs s (prs (mI M (52 + 2 * t)) z 61 0 0 0 (fun _ _ => 0)).2.1 (prs (mI M (52 + 2 * t)) z 61 0 0 0 (fun _ _ => 0)).2.2.1 (prs (mI M (52 + 2 * t)) z 61 0 0 0 (fun _ _ => 0)).2.2.2 M' := by
  have h3 : SF (sI (sI M s 0 0) s 1 0) := h
  have e : ∀ x, x ≠ s → mI (sI (sI M s 0 0) s 1 0) x = mI M x := fun x hx => by rw [mI_sI_row hx, mI_sI_row hx]
  have hR : Rs s 0 0 (fun _ _ => 0) (sI (sI M s 0 0) s 1 0) := by
    refine ⟨⟨by decide, by decide⟩, ⟨?_, ?_⟩, fun i hi => absurd hi (by omega), fun i hi => absurd hi (by omega), fun i o hi => absurd hi (by omega)⟩
    · rw [mI_sI, if_neg (by omega), mI_sI, if_pos ⟨rfl, rfl⟩]; rfl
    · rw [mI_sI, if_pos ⟨rfl, rfl⟩]; rfl
  obtain ⟨M', y1, y2, y3⟩ := readLoop_X hs ht hz (f := mI M (52 + 2 * t)) 61 FU 0 0 0 (fun _ _ => 0) 0 _ h3 hR (by rw [e _ (by omega)]; exact hsz) (by rw [e _ (by omega)]) (by decide) (by omega) (by unfold FU; omega) (by decide) (by omega)
  refine ⟨M', ?_, ?_, y3⟩
  · unfold f_X2_readFrom
    rw [if_pos (rollF h hs).1, pI_k (rollF h hs).1, Option.bind_some, pI_k (by rw [kd_sI]; exact (rollF h hs).1), Option.bind_some]
    exact y1
  · exact ⟨y2.1, y2.2.1, y2.2.2.1, fun x hx => by rw [y2.2.2.2 x hx, e x (by omega)]⟩
theorem faultOf_Y {M : Mem} (h : SF M) {t z : Nat} (ht : t < 4) (hz : z ≤ 60) (hl : mI M 74 t = nI z) {f : Nat → Int32} (hf : ∀ j, j < 60 → mI M 75 (60 * t + j) = f j) : ∃ M', f_X8_faultOf 65 (nI t) M = some ((prs f z 61 0 0 0 (fun _ _ => 0)).1, M') ∧ FrR M M' ∧ Vy (prs f z 61 0 0 0 (fun _ _ => 0)).2.1 (prs f z 61 0 0 0 (fun _ _ => 0)).2.2.1 (prs f z 61 0 0 0 (fun _ _ => 0)).2.2.2 M' := by
  have h3 : SF (sI (sI M 65 17 (nI (60 * t))) 65 18 0) := h
  have h5 : SF (sI (sI (sI (sI (sI M 65 17 (nI (60 * t))) 65 18 0) 65 19 (nI z)) 65 21 0) 65 23 0) := h
  have F5 : FrR M (sI (sI (sI (sI (sI M 65 17 (nI (60 * t))) 65 18 0) 65 19 (nI z)) 65 21 0) 65 23 0) := (((((FrR.id h).nx 17 (by decide) _).nx 18 (by decide) _).nx 19 (by decide) _).nx 21 (by decide) _).nx 23 (by decide) _
  have e : ∀ x, x ≠ 65 → mI (sI (sI (sI (sI (sI M 65 17 (nI (60 * t))) 65 18 0) 65 19 (nI z)) 65 21 0) 65 23 0) x = mI M x := fun x hx => by rw [mI_sI_row hx, mI_sI_row hx, mI_sI_row hx, mI_sI_row hx, mI_sI_row hx]
  have hP : Py t z 0 f (sI (sI (sI (sI (sI M 65 17 (nI (60 * t))) 65 18 0) 65 19 (nI z)) 65 21 0) 65 23 0) := by
    refine ⟨?_, ?_, ?_, fun j hj => ?_⟩
    · rw [mI_sI, if_neg (by decide), mI_sI, if_neg (by decide), mI_sI, if_neg (by decide), mI_sI, if_neg (by decide), mI_sI, if_pos ⟨rfl, rfl⟩]
    · rw [mI_sI, if_neg (by decide), mI_sI, if_neg (by decide), mI_sI, if_neg (by decide), mI_sI, if_pos ⟨rfl, rfl⟩]; rfl
    · rw [mI_sI, if_neg (by decide), mI_sI, if_neg (by decide), mI_sI, if_pos ⟨rfl, rfl⟩]
    · rw [e 75 (by decide)]; exact hf j hj
  have hV : Vy 0 0 (fun _ _ => 0) (sI (sI (sI (sI (sI M 65 17 (nI (60 * t))) 65 18 0) 65 19 (nI z)) 65 21 0) 65 23 0) := by
    refine ⟨⟨by decide, by decide⟩, ⟨?_, ?_⟩, fun i hi => absurd hi (by omega), fun i hi => absurd hi (by omega)⟩
    · rw [mI_sI, if_neg (by decide), mI_sI, if_pos ⟨rfl, rfl⟩]; rfl
    · rw [mI_sI, if_pos ⟨rfl, rfl⟩]; rfl
  obtain ⟨M', y1, y2, y3⟩ := readLoop_Y ht hz (f := f) 61 FU FU 0 0 0 (fun _ _ => 0) _ h5 hP hV (by omega) (by omega) (by unfold FU; omega) (by unfold FU; omega) (by decide)
  refine ⟨M', ?_, F5.tr y2, y3⟩
  unfold f_X8_faultOf f_X8_skip
  rw [if_pos (by simp only [KQ h]), pI_k (by simp only [KQ h]), Option.bind_some, pI_k (by rw [kd_sI]; simp only [KQ h]), Option.bind_some, show (60 : Int32) * nI t = nI (60 * t) from pk_mul 60 t]
  simp only [RQ h3, Option.bind_some]
  rw [aI_k (by simp only [KQ h3]) (by simp only [LQ]; omega), Option.bind_some, mI_sI_row (by decide), mI_sI_row (by decide), hl, pI_k (by simp only [KQ h3]), Option.bind_some, pI_k (by rw [kd_sI]; simp only [KQ h3]), Option.bind_some, pI_k (by rw [kd_sI, kd_sI]; simp only [KQ h3]), Option.bind_some, if_pos (by simp only [KQ h5])]
  exact y1
theorem Inv.rd {M N M' : Mem} (h : Inv M) {s : Nat} (hs : mR M 1 3 = s) (h1 : FrS s M N) (h2 : FrR N M') : Inv M' := by
  obtain ⟨g0, g1, g2, g3, r, s', n, m, G, d, cd, ⟨q1, q2, q3⟩, g5⟩ := h
  have hss : s' = s := q3.symm.trans hs
  subst hss
  have e : ∀ x, x ≠ 65 → x ≠ 77 → x ≠ 78 → (x < s' ∨ s' + 8 < x) → mI M' x = mI M x := fun x w1 w2 w3 w4 => (h2.2.2.2.1 x w1 w2 w3).trans (h1.2.2.2 x w4)
  have e65 : ∀ j, j < 17 → mI M' 65 j = mI M 65 j := fun j hj => (h2.2.2.2.2 j hj).trans (by rw [h1.2.2.2 65 (by omega)])
  have eR : mR M' = mR M := h2.2.1.trans h1.2.1
  have eL : mL M' = mL M := h2.2.2.1.trans h1.2.2.1
  refine ⟨h2.1, g1.congr (fun x hx => e x (by omega) (by omega) (by omega) (by omega)), g2.congr (fun x hx => e x (by omega) (by omega) (by omega) (by omega)), ?_, r, s', n, m, G, d, cd, ⟨q1, by rw [eR]; exact q2, by rw [eR]; exact q3⟩, g5.congr (fun x hx => ?_) (e65 1 (by decide)) (e65 4 (by decide))⟩
  · obtain ⟨t1, t2, t3, t4, t5⟩ := g3
    refine ⟨?_, ?_, ?_, ?_, fun f hf => ?_⟩
    · rw [e65 12 (by decide), e 1 (by decide) (by decide) (by decide) (by omega)]; exact t1
    · rw [eL]; exact t2
    · rw [eL]; exact t3
    · rw [e65 15 (by decide), e 1 (by decide) (by decide) (by decide) (by omega)]; exact t4
    · rw [e 76 (by decide) (by decide) (by decide) (by omega), e 38 (by decide) (by decide) (by decide) (by omega)]; exact t5 f hf
  · unfold gset at hx
    exact e x (by omega) (by omega) (by omega) (by omega)
theorem Inv.sp {M : Mem} (h : Inv M) : ∃ s, (s = 4 ∨ s = 13) ∧ mR M 1 3 = s ∧ gR M 17 1 3 = some s := by
  have hS := h.1
  obtain ⟨g0, g1, g2, g3, r, s, n, m, G, d, cd, ⟨q1, q2, q3⟩, g5⟩ := h
  exact ⟨s, by omega, q3, gR_k (by simp only [KQ hS]) q3 (by omega)⟩
theorem op8 {M : Mem} (h : Inv M) (a1 : Int32) : ∃ M', lawOp_8 a1 M = some M' ∧ Inv M' := by
  have hS := h.1
  unfold lawOp_8 f_X7_fault f_X8_fault
  simp only [KQ hS, if_true]
  rcases ixc a1 4 (by decide) with h1 | ⟨t, ht, rfl⟩
  · rw [textOf_bad hS h1]
    simp only [Option.bind_some, if_true, KQ hS]
    rw [isText_bad h1]
    simp only [Option.bind_some, if_true]
    exact ⟨M, rfl, h⟩
  · obtain ⟨w1, w2, w3⟩ := h.2.2.1 t ht
    rw [textOf_ok hS ht]
    simp only [Option.bind_some, show ¬ 51 + 2 * t = 0 by omega, if_false]
    rw [isMissingT_X hS ht]
    rcases szc w1 with hz | ⟨z, hz60, hz⟩
    · simp only [hz, if_true, Option.bind_some, show ¬ (1 : Int32) = 0 by decide, if_false]
      rw [show f_X7_refuse 1 1 M = some (-3, rf 1 M) from refuse_X hS (by decide)]
      simp only [Option.bind_some, KQ hS.rf, if_true]
      rw [isText_ok ht]
      simp only [Option.bind_some, show ¬ (1 : Int32) = 0 by decide, if_false, RQ hS.rf]
      rw [aI_k (by simp only [KQ hS.rf]) (by simp only [LQ]; omega), rf_row (by decide) (by decide), w2, hz, show f_X8_find 65 1 (rf 1 M) = some (-3, rm_ 1 (rf 1 M)) from find_Y hS.rf (by decide)]
      simp only [Option.bind_some, show ¬ (0 : Int32) ≤ -1 by decide, if_false, if_true]
      exact ⟨_, rfl, h.refused (by decide)⟩
    · obtain ⟨s, hs, s3, gs⟩ := h.sp
      obtain ⟨N, x1, x2, -⟩ := readFrom_X hS hs ht hz60 hz
      have e74 : mI N 74 t = nI z := by rw [x2.2.2.2 74 (by omega), w2]; exact hz
      obtain ⟨M', y1, y2, -⟩ := faultOf_Y x2.1 ht hz60 e74 (f := mI M (52 + 2 * t)) (fun j hj => by rw [x2.2.2.2 75 (by omega)]; exact (w3 j hj).1)
      simp only [hz, n1 (show z < 2 ^ 31 by omega), if_false, Option.bind_some, if_true, gs, x1, KQ x2.1, isText_ok ht, show ¬ (1 : Int32) = 0 by decide, RQ x2.1]
      rw [aI_k (by simp only [KQ x2.1]) (by simp only [LQ]; omega), e74]
      simp only [Option.bind_some, nI_pos' (show z < 2 ^ 31 by omega), if_true, y1]
      exact ⟨M', rfl, h.rd s3 x2 y2⟩
