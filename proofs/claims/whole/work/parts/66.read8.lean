theorem m3 (k : Nat) : (3 : Int32) * nI k = nI (3 * k) := pk_mul 3 k
theorem m31 (k : Nat) : nI (3 * k) + 1 = nI (3 * k + 1) := nI_1 _
theorem m32 (k : Nat) : nI (3 * k) + 2 = nI (3 * k + 2) := nI_add _ 2
/-- three values written behind those that are there -/
def w3 (M : Mem) (x k : Nat) (u v w : Int32) : Mem := sI (sI (sI M x (3 * k) u) x (3 * k + 1) v) x (3 * k + 2) w
theorem w3_row {M : Mem} {x k : Nat} {u v w : Int32} {y : Nat} (h : y ≠ x) : mI (w3 M x k u v w) y = mI M y := by unfold w3; rw [mI_sI_row h, mI_sI_row h, mI_sI_row h]
theorem w3_at {M : Mem} {x k : Nat} {u v w : Int32} : mI (w3 M x k u v w) x (3 * k) = u ∧ mI (w3 M x k u v w) x (3 * k + 1) = v ∧ mI (w3 M x k u v w) x (3 * k + 2) = w := by
  unfold w3
  refine ⟨?_, ?_, ?_⟩
  · rw [mI_sI, if_neg (by omega), mI_sI, if_neg (by omega), mI_sI, if_pos ⟨rfl, rfl⟩]
  · rw [mI_sI, if_neg (by omega), mI_sI, if_pos ⟨rfl, rfl⟩]
  · rw [mI_sI, if_pos ⟨rfl, rfl⟩]
theorem w3_ne {M : Mem} {x k i : Nat} {u v w : Int32} (h : i ≠ k) : mI (w3 M x k u v w) x (3 * i) = mI M x (3 * i) ∧ mI (w3 M x k u v w) x (3 * i + 1) = mI M x (3 * i + 1) ∧ mI (w3 M x k u v w) x (3 * i + 2) = mI M x (3 * i + 2) := by
  unfold w3
  refine ⟨?_, ?_, ?_⟩
  · rw [mI_sI, if_neg (by omega), mI_sI, if_neg (by omega), mI_sI, if_neg (by omega)]
  · rw [mI_sI, if_neg (by omega), mI_sI, if_neg (by omega), mI_sI, if_neg (by omega)]
  · rw [mI_sI, if_neg (by omega), mI_sI, if_neg (by omega), mI_sI, if_neg (by omega)]
theorem ro73 {M : Mem} (h : SF M) {t z p a b : Nat} {f : Nat → Int32} {V : Nat → Nat → Nat} (hP : Py t z p f M) (hV : Vy a b V M) (hb : b < 6) (u v w : Nat) (hw : w ≤ 9) : ∃ M', f_X8_readsOrder_73 65 (nI u) (nI v) (nI w) M = some (1, M') ∧ FrR M M' ∧ Py t z p f M' ∧ Vy a (b + 1) (addO V b u v w) M' := by
  obtain ⟨v0, ⟨v1, v2⟩, v3, v4⟩ := hV
  have hS1 : SF (sI M 78 (3 * b) (nI u)) := h
  have hS2 : SF (sI (sI M 78 (3 * b) (nI u)) 78 (3 * b + 1) (nI v)) := h
  have hS3 : SF (w3 M 78 b (nI u) (nI v) (nI w)) := h
  unfold f_X8_readsOrder_73
  rw [if_neg (n9 (by omega))]
  simp only [KQ h, RQ h, gI_k, v2, Option.bind_some, m3]
  rw [eI_k (by simp only [KQ h]) (by simp only [LQ]; omega), Option.bind_some]
  simp only [KQ hS1, RQ hS1, gI_k, mI_sI_row (show 65 ≠ 78 by decide), v2, Option.bind_some, m3, m31]
  rw [eI_k (by simp only [KQ hS1]) (by simp only [LQ]; omega), Option.bind_some]
  simp only [KQ hS2, RQ hS2, gI_k, mI_sI_row (show 65 ≠ 78 by decide), v2, Option.bind_some, m3, m32]
  rw [eI_k (by simp only [KQ hS2]) (by simp only [LQ]; omega), Option.bind_some]
  rw [show sI (sI (sI M 78 (3 * b) (nI u)) 78 (3 * b + 1) (nI v)) 78 (3 * b + 2) (nI w) = w3 M 78 b (nI u) (nI v) (nI w) from rfl]
  simp only [KQ hS3, gI_k, w3_row (show 65 ≠ 78 by decide), v2, Option.bind_some, nI_1]
  rw [pI_k (by simp only [KQ hS3]), Option.bind_some]
  refine ⟨_, rfl, ⟨hS3, rfl, rfl, fun x q1 q2 q3 => ?_, fun j hj => ?_⟩, ⟨?_, ?_, ?_, fun j hj => ?_⟩, ⟨by omega, by omega⟩, ⟨?_, ?_⟩, fun i hi => ?_, fun o ho => ?_⟩
  · rw [mI_sI_row q1, w3_row q3]
  · rw [mI_sI, if_neg (by omega), w3_row (by decide)]
  · rw [mI_sI, if_neg (by decide), w3_row (by decide)]; exact hP.1
  · rw [mI_sI, if_neg (by decide), w3_row (by decide)]; exact hP.2.1
  · rw [mI_sI, if_neg (by decide), w3_row (by decide)]; exact hP.2.2.1
  · rw [mI_sI_row (by decide), w3_row (by decide)]; exact hP.2.2.2 j hj
  · rw [mI_sI, if_neg (by decide), w3_row (by decide)]; exact v1
  · rw [mI_sI, if_pos ⟨rfl, rfl⟩]
  · rw [mI_sI_row (by decide), w3_row (by decide)]
    simp only [addO, pv, show ¬ (0 : Nat) = 4 by decide, show ¬ (0 : Nat) = 3 by decide, show ¬ (0 : Nat) = 2 by decide, show ¬ (5 : Nat) = 4 by decide, show ¬ (5 : Nat) = 3 by decide, show ¬ (5 : Nat) = 2 by decide, show ¬ (1 : Nat) = 4 by decide, show ¬ (1 : Nat) = 3 by decide, show ¬ (1 : Nat) = 2 by decide, false_and, if_false]
    exact v3 i hi
  · rw [mI_sI_row (by decide)]
    by_cases hob : o = b
    · subst hob
      have q := w3_at (M := M) (x := 78) (k := o) (u := nI u) (v := nI v) (w := nI w)
      rw [q.1, q.2.1, q.2.2]
      simp [addO, pv]
    · have q := w3_ne (M := M) (x := 78) (u := nI u) (v := nI v) (w := nI w) hob
      rw [q.1, q.2.1, q.2.2]
      simp only [addO, pv, hob, and_false, if_false]
      exact v4 o (by omega)
theorem rs67 {M : Mem} (h : SF M) {t z p a : Nat} {f : Nat → Int32} {V : Nat → Nat → Nat} (hP : Py t z p f M) (hV : Vy a 0 V M) (ha : a < 5) (u v w : Nat) (hw : w ≤ 9) : ∃ M', f_X8_readsSigher_67 65 (nI u) (nI v) (nI w) M = some (1, M') ∧ FrR M M' ∧ Py t z p f M' ∧ Vy (a + 1) 0 (addS V a u v w) M' := by
  obtain ⟨v0, ⟨v1, v2⟩, v3, v4⟩ := hV
  have hS1 : SF (sI M 77 (3 * a) (nI u)) := h
  have hS2 : SF (sI (sI M 77 (3 * a) (nI u)) 77 (3 * a + 1) (nI v)) := h
  have hS3 : SF (w3 M 77 a (nI u) (nI v) (nI w)) := h
  unfold f_X8_readsSigher_67
  rw [if_neg (n9 (by omega))]
  simp only [KQ h, RQ h, gI_k, v1, Option.bind_some, m3]
  rw [eI_k (by simp only [KQ h]) (by simp only [LQ]; omega), Option.bind_some]
  simp only [KQ hS1, RQ hS1, gI_k, mI_sI_row (show 65 ≠ 77 by decide), v1, Option.bind_some, m3, m31]
  rw [eI_k (by simp only [KQ hS1]) (by simp only [LQ]; omega), Option.bind_some]
  simp only [KQ hS2, RQ hS2, gI_k, mI_sI_row (show 65 ≠ 77 by decide), v1, Option.bind_some, m3, m32]
  rw [eI_k (by simp only [KQ hS2]) (by simp only [LQ]; omega), Option.bind_some]
  rw [show sI (sI (sI M 77 (3 * a) (nI u)) 77 (3 * a + 1) (nI v)) 77 (3 * a + 2) (nI w) = w3 M 77 a (nI u) (nI v) (nI w) from rfl]
  simp only [KQ hS3, gI_k, w3_row (show 65 ≠ 77 by decide), v1, Option.bind_some, nI_1]
  rw [pI_k (by simp only [KQ hS3]), Option.bind_some]
  refine ⟨_, rfl, ⟨hS3, rfl, rfl, fun x q1 q2 q3 => ?_, fun j hj => ?_⟩, ⟨?_, ?_, ?_, fun j hj => ?_⟩, ⟨by omega, by omega⟩, ⟨?_, ?_⟩, fun i hi => ?_, fun o ho => absurd ho (by omega)⟩
  · rw [mI_sI_row q1, w3_row q2]
  · rw [mI_sI, if_neg (by omega), w3_row (by decide)]
  · rw [mI_sI, if_neg (by decide), w3_row (by decide)]; exact hP.1
  · rw [mI_sI, if_neg (by decide), w3_row (by decide)]; exact hP.2.1
  · rw [mI_sI, if_neg (by decide), w3_row (by decide)]; exact hP.2.2.1
  · rw [mI_sI_row (by decide), w3_row (by decide)]; exact hP.2.2.2 j hj
  · rw [mI_sI, if_pos ⟨rfl, rfl⟩]
  · rw [mI_sI, if_neg (by decide), w3_row (by decide)]; exact v2
  · rw [mI_sI_row (by decide)]
    by_cases hob : i = a
    · subst hob
      have q := w3_at (M := M) (x := 77) (k := i) (u := nI u) (v := nI v) (w := nI w)
      rw [q.1, q.2.1, q.2.2]
      simp [addS, pv]
    · have q := w3_ne (M := M) (x := 77) (u := nI u) (v := nI v) (w := nI w) hob
      rw [q.1, q.2.1, q.2.2]
      simp only [addS, pv, hob, and_false, if_false]
      exact v3 i (by omega)
theorem l9 {l : Nat} (hl : l ≤ 1) {x : Int32} (h : nI l ≤ x) : ¬ x = -9 := by
  intro q
  rw [q, Int32.le_iff_toInt_le, nI_toInt (by omega), show (-9 : Int32).toInt = -9 from rfl] at h
  omega
theorem readsOrder_Y {M : Mem} (h : SF M) {t z p a b : Nat} {f : Nat → Int32} {V : Nat → Nat → Nat} (ht : t < 4) (hz : z ≤ 60) (hP : Py t z p f M) (hV : Vy a b V M) (hp : p < z) (hs : sgn f z p = 111) : ∃ M', FrR M M' ∧ ((itf f z p a b = -9 ∧ f_X8_readsOrder 65 M = some (1, M') ∧ p + 4 ≤ z ∧ Py t z (p + 4) f M' ∧ Vy a (b + 1) (addO V b (fgN f z (p + 1)) (fgN f z (p + 2)) (fgN f z (p + 3))) M') ∨ (¬ itf f z p a b = -9 ∧ f_X8_readsOrder 65 M = some (0, M') ∧ mI M' 65 18 = itf f z p a b ∧ Vy a b V M')) := by
  obtain ⟨v0, ⟨v1, v2⟩, v3, v4⟩ := id hV
  unfold f_X8_readsOrder
  simp only [KQ h, if_true, gI_k, v1, v2, hP.2.1, Option.bind_some]
  have stay : may (sgn f z p) a b = false → itf f z p a b = nI p := fun q => by unfold itf; rw [if_neg (by rw [q]; decide)]
  by_cases ca : a = 0
  · have e : itf f z p a b = nI p := stay (by unfold may; rw [if_pos hs, ca]; simp)
    rw [if_pos (by rw [ca]; rfl), e]
    exact ⟨M, FrR.id h, Or.inr ⟨n9 (by omega), rfl, hP.2.1, hV⟩⟩
  rw [if_neg (n0 ca (by omega))]
  by_cases cb : b = 6
  · have e : itf f z p a b = nI p := stay (by unfold may; rw [if_pos hs, cb]; simp)
    rw [if_pos (by rw [cb]; rfl), e]
    exact ⟨M, FrR.id h, Or.inr ⟨n9 (by omega), rfl, hP.2.1, hV⟩⟩
  rw [if_neg (show ¬ nI b = 6 from fun q => cb ((nI_eq (b := 6) (by omega) (by decide)).mp q)), pI_k (by simp only [KQ h]), Option.bind_some, nI_1]
  have hmay : may (sgn f z p) a b = true := by
    unfold may
    rw [if_pos hs]
    simp only [Bool.and_eq_true, decide_eq_true_eq]
    omega
  have ei : itf f z p a b = (if 0 ≤ fig f z (p + 1) then (if 1 ≤ fig f z (p + 2) then (if 0 ≤ fig f z (p + 3) then -9 else nI (min (p + 3) z)) else nI (min (p + 2) z)) else nI (min (p + 1) z)) := by
    unfold itf
    rw [if_pos hmay, if_pos hs]
  have f1 := figure_Y (show SF (sI M 65 18 (nI (p + 1))) from h) ht hz (hP.mv (p + 1)) (by omega) (l := 0) (by decide)
  rw [show f_X8_figure 65 0 9 (sI M 65 18 (nI (p + 1))) = _ from f1, ei, Option.bind_some]
  have F1 := FrR.mv h 18 (by decide) (nI (p + 1))
  have V1 := hV.mv (nI (p + 1))
  have P1 := hP.mv (p + 1)
  generalize hM1 : sI M 65 18 (nI (p + 1)) = M1 at *
  by_cases d1 : nI 0 ≤ fig f z (p + 1)
  · rw [if_pos d1, if_pos (show 0 ≤ fig f z (p + 1) from d1), if_neg (l9 (by decide) d1)]
    have b1 := fig_lt (by decide) d1
    have f2 := figure_Y (show SF (sI M1 65 18 (nI (p + 1 + 1))) from F1.1) ht hz (P1.mv (p + 2)) (by omega) (l := 1) (by decide)
    have F2 := F1.tr (FrR.mv F1.1 18 (by decide) (nI (p + 2)))
    have V2 := V1.mv (nI (p + 2))
    have P2 := P1.mv (p + 2)
    rw [show f_X8_figure 65 1 9 (sI M1 65 18 (nI (p + 1 + 1))) = _ from f2, Option.bind_some, show p + 1 + 1 = p + 2 from rfl]
    generalize hM2 : sI M1 65 18 (nI (p + 2)) = M2 at *
    by_cases d2 : nI 1 ≤ fig f z (p + 2)
    · rw [if_pos d2, if_pos (show 1 ≤ fig f z (p + 2) from d2)]
      have b2 := fig_lt (by decide) d2
      have f3 := figure_Y (show SF (sI M2 65 18 (nI (p + 2 + 1))) from F2.1) ht hz (P2.mv (p + 3)) (by omega) (l := 0) (by decide)
      have F3 := F2.tr (FrR.mv F2.1 18 (by decide) (nI (p + 3)))
      have V3 := V2.mv (nI (p + 3))
      have P3 := P2.mv (p + 3)
      unfold f_X8_readsOrder_54
      rw [if_neg (l9 (by decide) d2), show f_X8_figure 65 0 9 (sI M2 65 18 (nI (p + 2 + 1))) = _ from f3, Option.bind_some, show p + 2 + 1 = p + 3 from rfl]
      generalize hM3 : sI M2 65 18 (nI (p + 3)) = M3 at *
      by_cases d3 : nI 0 ≤ fig f z (p + 3)
      · rw [if_pos d3, if_pos (show 0 ≤ fig f z (p + 3) from d3)]
        have b3 := fig_lt (by decide) d3
        have w1 := fig_n (show 0 ≤ fig f z (p + 1) from d1)
        have w2 := fig_n (Int32.le_trans (by decide) (show 1 ≤ fig f z (p + 2) from d2))
        have w3 := fig_n (show 0 ≤ fig f z (p + 3) from d3)
        have F4 := F3.tr (FrR.mv F3.1 18 (by decide) (nI (p + 3 + 1)))
        obtain ⟨M5, y1, y2, y3, y4⟩ := ro73 (show SF (sI M3 65 18 (nI (p + 3 + 1))) from F3.1) (P3.mv (p + 4)) (V3.mv (nI (p + 4))) (by omega) (fgN f z (p + 1)) (fgN f z (p + 2)) (fgN f z (p + 3)) w3.2
        refine ⟨M5, F4.tr y2, Or.inl ⟨rfl, ?_, by omega, y3, y4⟩⟩
        rw [← y1, w1.1, w2.1, w3.1]
      · rw [if_neg d3, if_neg (show ¬ 0 ≤ fig f z (p + 3) from d3)]
        refine ⟨M3, F3, Or.inr ⟨n9 (by omega), ?_, ?_, V3⟩⟩
        · unfold f_X8_readsOrder_73; rw [if_pos rfl]
        · rw [P3.2.1, Nat.min_eq_left (by omega)]
    · rw [if_neg d2, if_neg (show ¬ 1 ≤ fig f z (p + 2) from d2)]
      refine ⟨M2, F2, Or.inr ⟨n9 (by omega), ?_, ?_, V2⟩⟩
      · unfold f_X8_readsOrder_54 f_X8_readsOrder_73; rw [if_pos rfl, if_pos rfl]
      · rw [P2.2.1, Nat.min_eq_left (by omega)]
  · rw [if_neg d1, if_neg (show ¬ 0 ≤ fig f z (p + 1) from d1), if_pos rfl]
    refine ⟨M1, F1, Or.inr ⟨n9 (by omega), ?_, ?_, V1⟩⟩
    · unfold f_X8_readsOrder_54 f_X8_readsOrder_73; rw [if_pos rfl, if_pos rfl]
    · rw [P1.2.1, Nat.min_eq_left (by omega)]
theorem readsSigher_Y {M : Mem} (h : SF M) {t z p a b : Nat} {f : Nat → Int32} {V : Nat → Nat → Nat} (ht : t < 4) (hz : z ≤ 60) (hP : Py t z p f M) (hV : Vy a b V M) (hp : p < z) (hs : ¬ sgn f z p = 111) : ∃ M', FrR M M' ∧ ((itf f z p a b = -9 ∧ f_X8_readsSigher 65 M = some (1, M') ∧ p + 3 ≤ z ∧ Py t z (p + 3) f M' ∧ Vy (a + 1) b (addS V a (klN (sgn f z p)) (fgN f z (p + 1)) (fgN f z (p + 2))) M') ∨ (¬ itf f z p a b = -9 ∧ f_X8_readsSigher 65 M = some (0, M') ∧ mI M' 65 18 = itf f z p a b ∧ Vy a b V M')) := by
  obtain ⟨v0, ⟨v1, v2⟩, v3, v4⟩ := id hV
  unfold f_X8_readsSigher
  simp only [KQ h, if_true, gI_k, v1, v2, hP.2.1, here_Y h ht hz hP hp, Option.bind_some, kl_Y]
  have stay : may (sgn f z p) a b = false → itf f z p a b = nI p := fun q => by unfold itf; rw [if_neg (by rw [q]; decide)]
  by_cases ck : kl (sgn f z p) = -9
  · have e : itf f z p a b = nI p := stay (by unfold may; rw [if_neg hs, ck]; simp)
    rw [if_pos ck, e]
    exact ⟨M, FrR.id h, Or.inr ⟨n9 (by omega), rfl, hP.2.1, hV⟩⟩
  rw [if_neg ck]
  by_cases ca : a = 5
  · have e : itf f z p a b = nI p := stay (by unfold may; rw [if_neg hs, ca]; simp)
    rw [if_pos (by rw [ca]; rfl), e]
    exact ⟨M, FrR.id h, Or.inr ⟨n9 (by omega), rfl, hP.2.1, hV⟩⟩
  rw [if_neg (show ¬ nI a = 5 from fun q => ca ((nI_eq (b := 5) (by omega) (by decide)).mp q))]
  by_cases cb : b = 0
  rotate_left
  · have e : itf f z p a b = nI p := stay (by unfold may; rw [if_neg hs]; simp [cb])
    rw [if_neg (nI_nle (by omega) (by omega)), e]
    exact ⟨M, FrR.id h, Or.inr ⟨n9 (by omega), rfl, hP.2.1, hV⟩⟩
  subst cb
  rw [if_pos (show nI 0 ≤ 0 from Int32.le_refl _), pI_k (by simp only [KQ h]), Option.bind_some, nI_1]
  have hmay : may (sgn f z p) a 0 = true := by
    unfold may
    rw [if_neg hs]
    simp [ck]
    omega
  have ei : itf f z p a 0 = (if 0 ≤ fig f z (p + 1) then (if 0 ≤ fig f z (p + 2) then -9 else nI (min (p + 2) z)) else nI (min (p + 1) z)) := by
    unfold itf
    rw [if_pos hmay, if_neg hs]
  have f1 := figure_Y (show SF (sI M 65 18 (nI (p + 1))) from h) ht hz (hP.mv (p + 1)) (by omega) (l := 0) (by decide)
  rw [show f_X8_figure 65 0 9 (sI M 65 18 (nI (p + 1))) = _ from f1, ei, Option.bind_some]
  have F1 := FrR.mv h 18 (by decide) (nI (p + 1))
  have V1 := hV.mv (nI (p + 1))
  have P1 := hP.mv (p + 1)
  generalize hM1 : sI M 65 18 (nI (p + 1)) = M1 at *
  by_cases d1 : nI 0 ≤ fig f z (p + 1)
  · rw [if_pos d1, if_pos (show 0 ≤ fig f z (p + 1) from d1), if_neg (l9 (by decide) d1)]
    have b1 := fig_lt (by decide) d1
    have f2 := figure_Y (show SF (sI M1 65 18 (nI (p + 1 + 1))) from F1.1) ht hz (P1.mv (p + 2)) (by omega) (l := 0) (by decide)
    have F2 := F1.tr (FrR.mv F1.1 18 (by decide) (nI (p + 2)))
    have V2 := V1.mv (nI (p + 2))
    have P2 := P1.mv (p + 2)
    rw [show f_X8_figure 65 0 9 (sI M1 65 18 (nI (p + 1 + 1))) = _ from f2, Option.bind_some, show p + 1 + 1 = p + 2 from rfl]
    generalize hM2 : sI M1 65 18 (nI (p + 2)) = M2 at *
    by_cases d2 : nI 0 ≤ fig f z (p + 2)
    · rw [if_pos d2, if_pos (show 0 ≤ fig f z (p + 2) from d2)]
      have b2 := fig_lt (by decide) d2
      have w0 := kl_n ck
      have w1 := fig_n (show 0 ≤ fig f z (p + 1) from d1)
      have w2 := fig_n (show 0 ≤ fig f z (p + 2) from d2)
      have F3 := F2.tr (FrR.mv F2.1 18 (by decide) (nI (p + 2 + 1)))
      obtain ⟨M5, y1, y2, y3, y4⟩ := rs67 (show SF (sI M2 65 18 (nI (p + 2 + 1))) from F2.1) (P2.mv (p + 3)) (V2.mv (nI (p + 3))) (by omega) (klN (sgn f z p)) (fgN f z (p + 1)) (fgN f z (p + 2)) w2.2
      refine ⟨M5, F3.tr y2, Or.inl ⟨rfl, ?_, by omega, y3, y4⟩⟩
      rw [← y1, w0.1, w1.1, w2.1]
    · rw [if_neg d2, if_neg (show ¬ 0 ≤ fig f z (p + 2) from d2)]
      refine ⟨M2, F2, Or.inr ⟨n9 (by omega), ?_, ?_, V2⟩⟩
      · unfold f_X8_readsSigher_67; rw [if_pos rfl]
      · rw [P2.2.1, Nat.min_eq_left (by omega)]
  · rw [if_neg d1, if_neg (show ¬ 0 ≤ fig f z (p + 1) from d1), if_pos rfl]
    refine ⟨M1, F1, Or.inr ⟨n9 (by omega), ?_, ?_, V1⟩⟩
    · unfold f_X8_readsSigher_67; rw [if_pos rfl]
    · rw [P1.2.1, Nat.min_eq_left (by omega)]
theorem readLoop_Y {t z : Nat} (ht : t < 4) (hz : z ≤ 60) {f : Nat → Int32} : ∀ k fs fu p a b V M, SF M → Py t z p f M → Vy a b V M → z < p + k → p ≤ z → k ≤ fs → k ≤ fu → k ≤ 99 → ∃ M', ((f_X8_skip_0 fs 65 M).bind fun N => f_X8_faultOf_39 fu 65 1 N) = some ((prs f z k p a b V).1, M') ∧ FrR M M' ∧ Vy (prs f z k p a b V).2.1 (prs f z k p a b V).2.2.1 (prs f z k p a b V).2.2.2 M' := by
  intro k
  induction k with
  | zero => intro fs fu p a b V M _ _ _ h1 h2; omega
  | succ k ih =>
    intro fs fu p a b V M hS hP hV hzp hp hfs hfu hk
    obtain ⟨fs, rfl⟩ : ∃ g, fs = g + 1 := ⟨fs - 1, by omega⟩
    obtain ⟨fu, rfl⟩ : ∃ g, fu = g + 1 := ⟨fu - 1, by omega⟩
    obtain ⟨v0, ⟨v1, v2⟩, v3, v4⟩ := id hV
    simp only [f_X8_skip_0, prs, KQ hS, gI_k, hP.2.1, hP.2.2.1, Option.bind_some]
    by_cases c0 : z ≤ p
    · rw [if_pos c0, if_pos (nI_le c0 (by omega)), Option.bind_some]
      refine ⟨M, ?_, FrR.id hS, hV⟩
      simp only [f_X8_faultOf_39, f_X8_faultOf_86, KQ hS, gI_k, hP.2.1, hP.2.2.1, v2, Option.bind_some]
      rw [if_neg (show ¬ (1 : Int32) = 0 by decide), if_pos (nI_le c0 (by omega)), if_neg (show ¬ (1 : Int32) = 0 by decide)]
      by_cases c : 0 < b
      · rw [if_neg (nI_nle c (by omega)), if_pos c]
      · have hb0 : b = 0 := by omega
        have hpz : p = z := by omega
        rw [if_pos (by rw [hb0]; exact Int32.le_refl _), if_neg c, hpz]
    · rw [if_neg c0, if_neg (nI_ge (by omega) (by omega)), here_Y hS ht hz hP (by omega), Option.bind_some]
      by_cases c1 : sgn f z p = 32
      · rw [if_pos c1, if_pos c1, pI_k (by simp only [KQ hS]), Option.bind_some, nI_1]
        obtain ⟨M2, y1, y2, y3⟩ := ih fs (fu + 1) (p + 1) a b V _ (show SF (sI M 65 18 (nI (p + 1))) from hS) (hP.mv (p + 1)) (hV.mv _) (by omega) (by omega) (by omega) (by omega) (by omega)
        exact ⟨M2, y1, (FrR.mv hS 18 (by decide) _).tr y2, y3⟩
      · rw [if_neg c1, if_neg c1, Option.bind_some]
        obtain ⟨fu, rfl⟩ : ∃ g, fu = g + 1 := ⟨fu - 1, by omega⟩
        have fin : ∀ N, SF N → mI N 65 18 = itf f z p a b → f_X8_faultOf_74 (f_X8_faultOf_39 (fu + 1)) 65 0 N = some (itf f z p a b, N) := by
          intro N hN hq
          unfold f_X8_faultOf_74
          rw [if_pos rfl]
          simp only [f_X8_faultOf_39, f_X8_faultOf_86, if_true, KQ hN, gI_k, hq, Option.bind_some]
        have go : ∀ N, SF N → f_X8_faultOf_74 (f_X8_faultOf_39 (fu + 1)) 65 1 N = (f_X8_skip_0 FU 65 N).bind fun N => f_X8_faultOf_39 (fu + 1) 65 1 N := by
          intro N hN
          unfold f_X8_faultOf_74 f_X8_skip
          rw [if_neg (show ¬ (1 : Int32) = 0 by decide), if_pos (by simp only [KQ hN])]
        rw [f_X8_faultOf_39]
        simp only [KQ hS, gI_k, hP.2.1, hP.2.2.1, here_Y hS ht hz hP (show p < z by omega), Option.bind_some]
        rw [if_neg (show ¬ (1 : Int32) = 0 by decide), if_neg (nI_ge (by omega) (by omega))]
        by_cases c3 : sgn f z p = 111
        · rw [if_pos c3, if_pos c3]
          obtain ⟨M1, F1, ⟨e1, e2, e3, e4, e5⟩ | ⟨e1, e2, e3, e4⟩⟩ := readsOrder_Y hS ht hz hP hV (by omega) c3
          · rw [e2, if_pos e1, Option.bind_some, go M1 F1.1]
            obtain ⟨M2, y1, y2, y3⟩ := ih FU (fu + 1) (p + 4) a (b + 1) _ M1 F1.1 e4 e5 (by omega) (by omega) (by unfold FU; omega) (by omega) (by omega)
            exact ⟨M2, y1, F1.tr y2, y3⟩
          · rw [e2, if_neg e1, Option.bind_some, fin M1 F1.1 e3]
            exact ⟨M1, rfl, F1, e4⟩
        · rw [if_neg c3, if_neg c3]
          obtain ⟨M1, F1, ⟨e1, e2, e3, e4, e5⟩ | ⟨e1, e2, e3, e4⟩⟩ := readsSigher_Y hS ht hz hP hV (by omega) c3
          · rw [e2, if_pos e1, Option.bind_some, go M1 F1.1]
            obtain ⟨M2, y1, y2, y3⟩ := ih FU (fu + 1) (p + 3) (a + 1) b _ M1 F1.1 e4 e5 (by omega) (by omega) (by unfold FU; omega) (by omega) (by omega)
            exact ⟨M2, y1, F1.tr y2, y3⟩
          · rw [e2, if_neg e1, Option.bind_some, fin M1 F1.1 e3]
            exact ⟨M1, rfl, F1, e4⟩
