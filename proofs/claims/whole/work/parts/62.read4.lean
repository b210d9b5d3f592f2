def addO (V : Nat → Nat → Nat) (b ho de wa : Nat) : Nat → Nat → Nat := pv (pv (pv V 2 b ho) 3 b de) 4 b wa
theorem takeOrder_X {M : Mem} (h : SF M) {s : Nat} (hs : s = 4 ∨ s = 13) {a b : Nat} {V : Nat → Nat → Nat} (hR : Rs s a b V M) (hb : b < 6) {t z : Nat} (ht : t < 4) (hz : z ≤ 60) (hsz : mI M (51 + 2 * t) 1 = nI z) {p ho de wa : Nat} (hp : p < 100) (hho : fig (mI M (52 + 2 * t)) z (p + 1) = nI ho) (hh9 : ho ≤ 9) (hde : fig (mI M (52 + 2 * t)) z (p + 2) = nI de) (hd1 : 1 ≤ de) (hd9 : de ≤ 9) (hwa : fig (mI M (52 + 2 * t)) z (p + 3) = nI wa) (hw9 : wa ≤ 9) : ∃ M', f_X2_takeOrder s (51 + 2 * t) (nI p) M = some M' ∧ FrS s M M' ∧ Rs s a (b + 1) (addO V b ho de wa) M' := by
  obtain ⟨r0, ⟨r1, r2⟩, r3, r4, r5⟩ := hR
  unfold f_X2_takeOrder
  simp only [rollF h hs, if_true, gI_k, r2, Option.bind_some, if_neg (show ¬ (6 : Int32) ≤ nI b from nI_ge (b := 6) hb (by decide)), show nI p + 1 = nI (p + 1) from nI_1 p, figureAt_X h ht hz hsz (show p + 1 < 2 ^ 30 by omega), hho]
  rw [eI_k (by simp only [rollF h hs]) (by simp only [rollL hs]; omega), Option.bind_some]
  generalize hM1 : sI M (s + 4) b (nI ho) = M1
  have hS1 : SF M1 := by rw [← hM1]; exact h
  have e1 : ∀ x, x ≠ s + 4 → mI M1 x = mI M x := fun x hx => by rw [← hM1, mI_sI_row hx]
  simp only [rollF hS1 hs, gI_k, Option.bind_some, e1 s (by omega), r2, show nI p + 2 = nI (p + 2) from nI_add p 2, figureAt_X hS1 ht hz (by rw [e1 (51 + 2 * t) (by omega)]; exact hsz) (show p + 2 < 2 ^ 30 by omega), e1 (52 + 2 * t) (by omega), hde]
  rw [eI_k (by simp only [rollF hS1 hs]) (by simp only [rollL hs]; omega), Option.bind_some]
  generalize hM2 : sI M1 (s + 5) b (nI de) = M2
  have hS2 : SF M2 := by rw [← hM2]; exact hS1
  have e2 : ∀ x, x ≠ s + 5 → mI M2 x = mI M1 x := fun x hx => by rw [← hM2, mI_sI_row hx]
  simp only [rollF hS2 hs, gI_k, Option.bind_some, e2 s (by omega), e1 s (by omega), r2, show nI p + 3 = nI (p + 3) from nI_add p 3, figureAt_X hS2 ht hz (by rw [e2 (51 + 2 * t) (by omega), e1 (51 + 2 * t) (by omega)]; exact hsz) (show p + 3 < 2 ^ 30 by omega), e2 (52 + 2 * t) (by omega), e1 (52 + 2 * t) (by omega), hwa]
  rw [eI_k (by simp only [rollF hS2 hs]) (by simp only [rollL hs]; omega), Option.bind_some]
  generalize hM3 : sI M2 (s + 6) b (nI wa) = M3
  have hS3 : SF M3 := by rw [← hM3]; exact hS2
  have e3 : ∀ x, x ≠ s + 6 → mI M3 x = mI M2 x := fun x hx => by rw [← hM3, mI_sI_row hx]
  have d5 : mI M3 (s + 5) b = nI de := by rw [e3 (s + 5) (by omega), ← hM2, mI_sI, if_pos ⟨rfl, rfl⟩]
  have d6 : mI M3 (s + 6) b = nI wa := by rw [← hM3, mI_sI, if_pos ⟨rfl, rfl⟩]
  have eall : ∀ x, x ≠ s + 4 → x ≠ s + 5 → x ≠ s + 6 → mI M3 x = mI M x := fun x q1 q2 q3 => by rw [e3 x q3, e2 x q2, e1 x q1]
  obtain ⟨N, k1, k2⟩ := lp_ex (F := fun fu i (N : Mem) => f_X2_takeOrder_59 fu s (nI i) N) a (fun N => some (sI N s 1 (nI (b + 1)))) (fun i N => SF N ∧ mR N = mR M ∧ mL N = mL M ∧ (∀ x, x ≠ s + 7 → x ≠ s + 8 → mI N x = mI M3 x) ∧ (∀ j q, q < b → j < a → mI N (s + 7) (6 * j + q) = mI M (s + 7) (6 * j + q) ∧ mI N (s + 8) (6 * j + q) = mI M (s + 8) (6 * j + q)) ∧ ∀ j, j < i → mI N (s + 7) (6 * j + b) = btv (V 0 j) de ∧ mI N (s + 8) (6 * j + b) = nI (bg (V 0 j) wa))
    (fun fu N hI => by
      obtain ⟨i1, i2, i3, i4, i5, i6⟩ := hI
      simp only [f_X2_takeOrder_59, rollF i1 hs, gI_k, Option.bind_some, i4 s (by omega) (by omega), eall s (by omega) (by omega) (by omega), r1, r2]
      rw [if_pos (Int32.le_refl _), pI_k (by simp only [rollF i1 hs]), Option.bind_some, nI_1])
    (fun fu i N hi hI => by
      obtain ⟨i1, i2, i3, i4, i5, i6⟩ := hI
      have hV := (r3 i hi).1
      have l1 : mI N (s + 1) i = nI (V 0 i) := by rw [i4 (s + 1) (by omega) (by omega), eall (s + 1) (by omega) (by omega) (by omega)]; exact hV.1
      simp only [f_X2_takeOrder_59, rollF i1 hs, gI_k, Option.bind_some, i4 s (by omega) (by omega), eall s (by omega) (by omega) (by omega), r1, r2, m6]
      rw [if_neg (nI_ge hi (by omega)), aI_k (x := s + 1) (by simp only [rollF i1 hs]) (by simp only [rollL hs]; omega), Option.bind_some, l1, aI_k (x := s + 5) (by simp only [rollF i1 hs]) (by simp only [rollL hs]; omega), Option.bind_some, i4 (s + 5) (by omega) (by omega), d5, brX _ hV.2 de (by omega), Option.bind_some, eI_k (x := s + 7) (by simp only [rollF i1 hs]) (by simp only [rollL hs]; omega), Option.bind_some]
      have hS4 : SF (sI N (s + 7) (6 * i + b) (btv (V 0 i) de)) := i1
      simp only [rollF hS4 hs, gI_k, Option.bind_some, mI_sI_row (show s ≠ s + 7 by omega), i4 s (by omega) (by omega), eall s (by omega) (by omega) (by omega), r2, m6]
      rw [aI_k (x := s + 1) (by simp only [rollF hS4 hs]) (by simp only [rollL hs]; omega), Option.bind_some, mI_sI_row (by omega), l1, aI_k (x := s + 6) (by simp only [rollF hS4 hs]) (by simp only [rollL hs]; omega), Option.bind_some, mI_sI_row (by omega), i4 (s + 6) (by omega) (by omega), d6, bgX _ hV.2 wa (by omega), eI_k (x := s + 8) (by simp only [rollF hS4 hs]) (by simp only [rollL hs]; omega), Option.bind_some, nI_1]
      refine ⟨_, rfl, hS4, i2, i3, fun x q1 q2 => ?_, fun j q hq hj => ⟨?_, ?_⟩, fun j hj => ⟨?_, ?_⟩⟩
      · rw [mI_sI_row q2, mI_sI_row q1, i4 x q1 q2]
      · rw [mI_sI_row (by omega), mI_sI, if_neg (by omega)]; exact (i5 j q hq hj).1
      · rw [mI_sI, if_neg (by omega), mI_sI_row (by omega)]; exact (i5 j q hq hj).2
      · rw [mI_sI_row (by omega), mI_sI]
        by_cases hji : j = i
        · rw [if_pos ⟨rfl, by omega⟩, hji]
        · rw [if_neg (by omega)]; exact (i6 j (by omega)).1
      · rw [mI_sI]
        by_cases hji : j = i
        · rw [if_pos ⟨rfl, by omega⟩, hji]
        · rw [if_neg (by omega), mI_sI_row (by omega)]; exact (i6 j (by omega)).2)
    a FU 0 M3 (by omega) (by unfold FU; omega) ⟨hS3, by rw [← hM3, ← hM2, ← hM1]; rfl, by rw [← hM3, ← hM2, ← hM1]; rfl, fun x _ _ => rfl, fun j q _ _ => ⟨by rw [eall (s + 7) (by omega) (by omega) (by omega)], by rw [eall (s + 8) (by omega) (by omega) (by omega)]⟩, fun j hj => absurd hj (by omega)⟩
  obtain ⟨i1, i2, i3, i4, i5, i6⟩ := k2
  refine ⟨_, k1, ⟨i1, i2, i3, fun x hx => ?_⟩, ⟨by omega, by omega⟩, ⟨?_, ?_⟩, fun i hi => ?_, fun o ho2 => ?_, fun i o hi ho2 => ?_⟩
  · rw [mI_sI_row (by omega), i4 x (by omega) (by omega), eall x (by omega) (by omega) (by omega)]
  · rw [mI_sI, if_neg (by omega), i4 s (by omega) (by omega), eall s (by omega) (by omega) (by omega)]; exact r1
  · rw [mI_sI, if_pos ⟨rfl, rfl⟩]
  · rw [mI_sI_row (by omega), mI_sI_row (by omega), mI_sI_row (by omega), i4 (s + 1) (by omega) (by omega), i4 (s + 2) (by omega) (by omega), i4 (s + 3) (by omega) (by omega), eall (s + 1) (by omega) (by omega) (by omega), eall (s + 2) (by omega) (by omega) (by omega), eall (s + 3) (by omega) (by omega) (by omega)]
    exact r3 i hi
  · rw [mI_sI_row (x := s) (y := s + 4) (by omega), mI_sI_row (x := s) (y := s + 5) (by omega), mI_sI_row (x := s) (y := s + 6) (by omega), i4 (s + 4) (by omega) (by omega), i4 (s + 5) (by omega) (by omega), i4 (s + 6) (by omega) (by omega)]
    by_cases hob : o = b
    · subst hob
      rw [d5, d6, e3 (s + 4) (by omega), e2 (s + 4) (by omega), ← hM1, mI_sI, if_pos ⟨rfl, rfl⟩]
      simp [addO, pv]
      exact ⟨hh9, ⟨hd1, hd9⟩, hw9⟩
    · have q := r4 o (by omega)
      rw [e3 (s + 4) (by omega), e2 (s + 4) (by omega), ← hM1, mI_sI, if_neg (fun q => hob q.2), e3 (s + 5) (by omega), ← hM2, mI_sI, if_neg (fun q => hob q.2), e1 (s + 5) (by omega), ← hM3, mI_sI, if_neg (fun q => hob q.2), e2 (s + 6) (by omega), e1 (s + 6) (by omega)]
      simp only [addO, pv, hob, and_false, if_false]
      exact q
  · rw [mI_sI_row (by omega), mI_sI_row (by omega)]
    by_cases hob : o = b
    · subst hob
      have q := i6 i hi
      rw [q.1, q.2]
      simp [addO, pv]
    · have q := r5 i o hi (by omega)
      rw [(i5 i o (by omega) hi).1, (i5 i o (by omega) hi).2]
      simp only [addO, pv, hob, and_false, if_false]
      exact q
