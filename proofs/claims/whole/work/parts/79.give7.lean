def FrQ (rr : Nat) (M N : Mem) : Prop := SF N ∧ mR N = mR M ∧ mL N = mL M ∧ (∀ x, x ≠ 66 → x ≠ 72 → x ≠ 73 → x ≠ 79 → x ≠ 80 → mI N x = mI M x) ∧ (∀ j, j < 1972 → mI N 66 j = mI M 66 j) ∧ (∀ j, j ≠ rr → mI N 72 j = mI M 72 j) ∧ ∀ j, j < 40 * rr ∨ 40 * rr + 40 ≤ j → mI N 73 j = mI M 73 j
theorem giveMost_Y {M : Mem} {r n m : Nat} {G S0 : Nat → Nat → Nat} {q0 : Nat} (h : Gd M r n m G) (hP : Part (mI M 66) 0 n S0) (hB : Bd n m S0 q0) {e rr : Nat} (he : e ≤ 1) (hrr : rr < 6) : ∃ M', f_X8_giveMost 65 (nI rr) (nI e) M = some (nI (Bv G n e m 0 S0), M') ∧ FrQ rr M M' ∧ mI M' 72 rr = nI m ∧ ∀ j, j < 40 → mI M' 73 (40 * rr + j) = if j < m then dv ((bp G n e m 0 S0 (fun _ => 0)).2 j) else 0 := by
  have hnm := h.nm
  have key := lp_up (F := fun fu j (N : Mem) => f_X8_giveMost_8 fu 65 (nI rr) (nI e) (-1) 1 (nI j) N) 6 (fun N => f_X8_giveMost_29 FU 65 (nI rr) (nI e) (-1) 1 N) (fun j N => sI N 79 (0 + j) 0) (fun j N => SF N)
    (fun fu N hI => by
      simp only [f_X8_giveMost_8]
      rw [if_pos (show (6 : Int32) ≤ nI 6 from Int32.le_refl _)])
    (fun fu j N hj hI => by
      refine ⟨?_, hI⟩
      simp only [f_X8_giveMost_8, RQ hI, Option.bind_some]
      rw [if_neg (show ¬ (6 : Int32) ≤ nI j from nI_ge (b := 6) hj (by decide)), eI_k (x := 79) (by simp only [KQ hI]) (by simp only [LQ]; omega), Option.bind_some, nI_1, Nat.zero_add])
    6 FU 0 M (by omega) (by unfold FU; omega) h.1
  rw [iter_sI (M := M) (x := 79) (p := 0) (v := fun _ => 0) 6] at key
  have F1 : FrZ M (sW M 79 (fun i => if 0 ≤ i ∧ i < 0 + 6 then (fun _ => (0 : Int32)) (i - 0) else mI M 79 i)) := ⟨h.1, rfl, rfl, fun x _ q _ => mI_ne q, fun j _ => by rw [mI_ne (by decide)]⟩
  have R1 : Rw m n (fun _ => 0) (sW M 79 (fun i => if 0 ≤ i ∧ i < 0 + 6 then (fun _ => (0 : Int32)) (i - 0) else mI M 79 i)) := fun j hj => ⟨by rw [mI_eq, if_pos (by omega)]; rfl, Nat.zero_le _⟩
  generalize sW M 79 (fun i => if 0 ≤ i ∧ i < 0 + 6 then (fun _ => (0 : Int32)) (i - 0) else mI M 79 i) = M1 at *
  have hpow : (n + 1) ^ m ≤ 46656 := Nat.le_trans (Nat.pow_le_pow_left (show n + 1 ≤ 6 by omega) m) (Nat.le_trans (Nat.pow_le_pow_right (by decide) hnm.2.1) (show 6 ^ 6 ≤ 46656 by decide))
  obtain ⟨X, fu', w1, w2, w3, w4, w5⟩ := walkG_Y h hP hB he (nI rr) m 0 (by omega) (fun _ => 0) (some (S0, 0)) (0, fun _ => 0) M1 FU 1 F1 R1 (fun _ _ _ => rfl) rfl (fun p hp => by rw [← Option.some.inj hp]; exact Wn.r0 hB) ⟨Nat.zero_le _, fun w => absurd w (Nat.lt_irrefl 0)⟩ (by unfold FU; omega)
  have hfo : fo G n e m 0 (some (S0, 0)) (fun _ => 0) (0, fun _ => 0) = (Bv G n e m 0 S0 + 1, (bp G n e m 0 S0 (fun _ => 0)).2) := by
    show fol G n e m 0 S0 0 (fun _ => 0) (0, fun _ => 0) = _
    rw [fol_bp]
    unfold ub
    rw [if_pos (show 0 < 0 + (bp G n e m 0 S0 (fun _ => 0)).1 + 1 by omega), bp_1, Nat.zero_add]
  rw [hfo] at w1 w4
  obtain ⟨Y, l1, l2, l3⟩ := last_Y h w2 (fun j hj => (w3 j hj).1)
  obtain ⟨fu, rfl⟩ : ∃ g, fu' = g + 1 := ⟨fu' - 1, by omega⟩
  have hb80 : ∀ j, j < m → mI Y 80 j = nI ((bp G n e m 0 S0 (fun _ => 0)).2 j) ∧ (bp G n e m 0 S0 (fun _ => 0)).2 j ≤ n := fun j hj => by rw [l3]; exact w4.2 (Nat.succ_pos _) j hj
  generalize (bp G n e m 0 S0 (fun _ => 0)).2 = B at *
  have hSM : SF (sW (sI Y 72 rr (nI m)) 73 (fun j => if 40 * rr ≤ j ∧ j < 40 * rr + 40 then 0 else mI Y 73 j)) := l2.1
  have g1 : mI Y 65 = mI M 65 := l2.2.2.2.1 65 (by decide) (by decide) (by decide)
  obtain ⟨M', y1, y2⟩ := lp_ex (F := fun fv j (W : Mem) => f_X8_giveMost_146 fv 65 (nI rr) (nI (Bv G n e m 0 S0)) (nI j) W) m (fun W => some (nI (Bv G n e m 0 S0), W)) (fun q W => SF W ∧ mR W = mR Y ∧ mL W = mL Y ∧ (∀ x, x ≠ 72 → x ≠ 73 → mI W x = mI Y x) ∧ (∀ j, j ≠ rr → mI W 72 j = mI Y 72 j) ∧ (∀ j, j < 40 * rr ∨ 40 * rr + 40 ≤ j → mI W 73 j = mI Y 73 j) ∧ mI W 72 rr = nI m ∧ ∀ j, j < 40 → mI W 73 (40 * rr + j) = if j < q then dv (B j) else 0)
    (fun fv W hI => by
      obtain ⟨i1, i2, i3, i4, -⟩ := hI
      simp only [f_X8_giveMost_146]
      rw [gI_k (by simp only [KQ i1]), Option.bind_some, i4 65 (by decide) (by decide), g1, h.2.2.2.2.1.2.1, if_pos (Int32.le_refl _)])
    (fun fv j W hj hI => by
      obtain ⟨i1, i2, i3, i4, i5, i6, i7, i8⟩ := hI
      obtain ⟨e1, e2⟩ := hb80 j hj
      simp only [f_X8_giveMost_146, RQ i1, Option.bind_some, m40]
      rw [gI_k (by simp only [KQ i1]), Option.bind_some, i4 65 (by decide) (by decide), g1, h.2.2.2.2.1.2.1, if_neg (nI_ge hj (by omega)), aI_k (x := 80) (by simp only [KQ i1]) (by simp only [LQ]; omega), Option.bind_some, i4 80 (by decide) (by decide), e1, nI_1]
      have hput : ∀ v : Int32, v = dv (B j) → (SF (sI W 73 (40 * rr + j) v) ∧ mR (sI W 73 (40 * rr + j) v) = mR Y ∧ mL (sI W 73 (40 * rr + j) v) = mL Y ∧ (∀ x, x ≠ 72 → x ≠ 73 → mI (sI W 73 (40 * rr + j) v) x = mI Y x) ∧ (∀ q, q ≠ rr → mI (sI W 73 (40 * rr + j) v) 72 q = mI Y 72 q) ∧ (∀ q, q < 40 * rr ∨ 40 * rr + 40 ≤ q → mI (sI W 73 (40 * rr + j) v) 73 q = mI Y 73 q) ∧ mI (sI W 73 (40 * rr + j) v) 72 rr = nI m ∧ ∀ q, q < 40 → mI (sI W 73 (40 * rr + j) v) 73 (40 * rr + q) = if q < j + 1 then dv (B q) else 0) := by
        intro v hv
        refine ⟨i1, i2, i3, fun x q1 q2 => ?_, fun q hq => ?_, fun q hq => ?_, ?_, fun q hq => ?_⟩
        · rw [mI_sI_row q2]; exact i4 x q1 q2
        · rw [mI_sI_row (by decide)]; exact i5 q hq
        · rw [mI_sI, if_neg (by omega)]; exact i6 q hq
        · rw [mI_sI_row (by decide)]; exact i7
        · rw [mI_sI]
          by_cases c : q = j
          · rw [if_pos ⟨rfl, by omega⟩, if_pos (by omega), c]; exact hv
          · rw [if_neg (by omega), i8 q hq]
            by_cases c2 : q < j
            · rw [if_pos c2, if_pos (by omega)]
            · rw [if_neg c2, if_neg (by omega)]
      by_cases c0 : B j = 0
      · rw [if_pos (by rw [c0]; rfl), eI_k (x := 73) (by simp only [KQ i1]) (by simp only [LQ]; omega), Option.bind_some]
        exact ⟨_, rfl, hput _ (by unfold dv; rw [if_pos c0])⟩
      · rw [if_neg (n0 c0 (by omega)), Option.bind_some, show nI (B j) - 1 = nI (B j - 1) from pk_sub (a := B j) (b := 1) (by omega), eI_k (x := 73) (by simp only [KQ i1]) (by simp only [LQ]; omega), Option.bind_some]
        exact ⟨_, rfl, hput _ (by unfold dv; rw [if_neg c0])⟩)
    m FU 0 _ (by omega) (by unfold FU; omega) ⟨hSM, rfl, rfl, fun x q1 q2 => by rw [mI_ne q2, mI_sI_row q1], fun j hj => by rw [mI_ne (by decide), mI_sI, if_neg (fun w => hj w.2)], fun j hj => by rw [mI_eq, if_neg (by omega)], by rw [mI_ne (by decide), mI_sI, if_pos ⟨rfl, rfl⟩], fun j hj => by rw [mI_eq, if_pos (by omega), if_neg (by omega)]⟩
  obtain ⟨i1, i2, i3, i4, i5, i6, i7, i8⟩ := y2
  refine ⟨M', ?_, ⟨i1, by rw [i2, l2.2.1], by rw [i3, l2.2.2.1], fun x q1 q2 q3 q4 q5 => by rw [i4 x q2 q3]; exact l2.2.2.2.1 x q1 q4 q5, fun j hj => by rw [i4 66 (by decide) (by decide)]; exact l2.2.2.2.2 j hj, fun j hj => by rw [i5 j hj, l2.2.2.2.1 72 (by decide) (by decide) (by decide)], fun j hj => by rw [i6 j hj, l2.2.2.2.1 73 (by decide) (by decide) (by decide)]⟩, i7, i8⟩
  unfold f_X8_giveMost
  rw [if_pos (by simp only [KQ h.1])]
  refine (show f_X8_giveMost_8 FU 65 (nI rr) (nI e) (-1) 1 0 M = _ from key.1).trans ?_
  refine (show f_X8_giveMost_29 FU 65 (nI rr) (nI e) (-1) 1 M1 = _ from w1).trans ?_
  unfold f_X8_giveMost_125
  rw [l1, Option.bind_some, f_X8_giveMost_29]
  rw [if_pos rfl, (l2.g h).sz.2.2.2, Option.bind_some, makeRow_Y l2.1 hrr, Option.bind_some, s1]
  exact y1
theorem giv {M : Mem} (h : Inv M) (a1 : Int32) {e : Nat} (he : e ≤ 1) : ∃ v N M', f_X7_giveOut 1 a1 (nI e) M = some (v, N) ∧ kd N 65 = 18 ∧ ((f_X8_isRow a1).bind fun v2 => if v2 = 0 then some (-1, N) else (gI N 18 65 1).bind fun v3 => if v3 = 0 then some (-4, N) else (f_X8_giveMost 65 a1 (nI e) N).bind fun q => some (q.1, q.2)) = some (v, M') ∧ Inv M' := by
  have hS := h.1
  obtain ⟨r, s, n, m, G, d, cd, -, -, hG, hN, hP, hB, -⟩ := h.op
  have hnm := hG.nm
  unfold f_X7_giveOut
  simp only [KQ hS, if_true, hG.R, Option.bind_some]
  rcases ixc a1 6 (by decide) with h3 | ⟨rr, hrr, rfl⟩
  · rw [rowOf_bad hS h3]
    simp only [Option.bind_some, if_true]
    refine ⟨_, _, M, rfl, by simp only [KQ hS], ?_, h⟩
    rw [isRow_bad h3]
    simp only [Option.bind_some, if_true]
  · rw [rowOf_ok hS hrr]
    simp only [Option.bind_some, show ¬ 39 + 2 * rr = 0 by omega, if_false, hG.sz]
    by_cases hn0 : n = 0
    · rw [if_pos (by rw [hn0]; rfl)]
      refine ⟨_, _, M, rfl, by simp only [KQ hS], ?_, h⟩
      rw [isRow_ok hrr]
      simp only [Option.bind_some, show ¬ (1 : Int32) = 0 by decide, if_false, hG.sz]
      rw [if_pos (by rw [hn0]; rfl)]
    · obtain ⟨X, x1, x2, x3⟩ := searchG_X hG hN hB he
      rw [if_neg (n0 hn0 (by omega))]
      simp only [RQ hS, Option.bind_some, x1]
      have hGX : Gd X r n m G := hG.congr x2.1 (x2.2.1 1 2 (by decide)) (fun x hx => x2.2.2.2 x (by omega)) (by rw [x2.2.2.2 65 (by omega)]) (by rw [x2.2.2.2 65 (by omega)])
      generalize hbv : Bv G n e m 0 (run G cd d) = bv at *
      generalize hbp : (bp G n e m 0 (run G cd d) (fun _ => 0)).2 = bpp at *
      rw [hGX.R, Option.bind_some, hGX.sz.2.1, Option.bind_some, renew_X x2.1 hrr, Option.bind_some]
      have e26 : ∀ x, x ≠ 39 + 2 * rr → x ≠ 40 + 2 * rr → mI (sI (sW X (40 + 2 * rr) (fun j => if j < 40 then 0 else mI X (40 + 2 * rr) j)) (39 + 2 * rr) 1 (nI m)) x = mI X x := fun x q1 q2 => by rw [mI_sI_row q1, mI_ne q2]
      have z26 : ∀ j, j < 40 → mI (sI (sW X (40 + 2 * rr) (fun j => if j < 40 then 0 else mI X (40 + 2 * rr) j)) (39 + 2 * rr) 1 (nI m)) (40 + 2 * rr) j = 0 := fun j hj => by rw [mI_sI_row (by omega), mI_eq, if_pos hj]
      have y26 : mI (sI (sW X (40 + 2 * rr) (fun j => if j < 40 then 0 else mI X (40 + 2 * rr) j)) (39 + 2 * rr) 1 (nI m)) (39 + 2 * rr) 1 = nI m := by rw [mI_sI, if_pos ⟨rfl, rfl⟩]
      have hS26 : SF (sI (sW X (40 + 2 * rr) (fun j => if j < 40 then 0 else mI X (40 + 2 * rr) j)) (39 + 2 * rr) 1 (nI m)) := x2.1
      have hR26 : mR (sI (sW X (40 + 2 * rr) (fun j => if j < 40 then 0 else mI X (40 + 2 * rr) j)) (39 + 2 * rr) 1 (nI m)) = mR X := rfl
      have hL26 : mL (sI (sW X (40 + 2 * rr) (fun j => if j < 40 then 0 else mI X (40 + 2 * rr) j)) (39 + 2 * rr) 1 (nI m)) = mL X := rfl
      generalize sI (sW X (40 + 2 * rr) (fun j => if j < 40 then 0 else mI X (40 + 2 * rr) j)) (39 + 2 * rr) 1 (nI m) = Y at *
      have eY : ∀ x, x < 31 ∨ 34 < x → x ≠ 39 + 2 * rr → x ≠ 40 + 2 * rr → mI Y x = mI M x := fun x q1 q2 q3 => by rw [e26 x q2 q3, x2.2.2.2 x q1]
      have hGY : Gd Y r n m G := hG.congr hS26 (by rw [hR26]; exact x2.2.1 1 2 (by decide)) (fun x hx => eY x (by omega) (by omega) (by omega)) (by rw [eY 65 (by omega) (by omega) (by omega)]) (by rw [eY 65 (by omega) (by omega) (by omega)])
      obtain ⟨-, k1, g1, k2, l2⟩ := rowF hS26 hrr
      simp only [RQ hS26, Option.bind_some, g1, hGY.R, hGY.sz]
      rw [show cpI Y 32 0 (40 + 2 * rr) 0 (nI m) = _ from cpI_k (a := 0) (b := 0) (n := m) (by simp only [KQ hS26]) k2 (by simp only [LQ]; omega) (by rw [l2]; omega), Option.bind_some]
      have hZ : ∀ x, x ≠ 40 + 2 * rr → mI (sW Y (40 + 2 * rr) (va_cpy (mI Y 32) (mI Y (40 + 2 * rr)) 0 0 m)) x = mI Y x := fun x hx => mI_ne hx
      have hZr : ∀ j, j < 40 → mI (sW Y (40 + 2 * rr) (va_cpy (mI Y 32) (mI Y (40 + 2 * rr)) 0 0 m)) (40 + 2 * rr) j = if j < m then dv (bpp j) else 0 := by
        intro j hj
        rw [mI_eq]
        by_cases q : j < m
        · rw [if_pos q, pk_cpy_in (by omega) (by omega), show 0 + (j - 0) = j by omega, e26 32 (by omega) (by omega)]
          exact x3 j q
        · rw [if_neg q, pk_cpy_out (by omega)]; exact z26 j hj
      have hSZ : SF (sW Y (40 + 2 * rr) (va_cpy (mI Y 32) (mI Y (40 + 2 * rr)) 0 0 m)) := hS26
      have hRZ : mR (sW Y (40 + 2 * rr) (va_cpy (mI Y 32) (mI Y (40 + 2 * rr)) 0 0 m)) = mR X := hR26
      have hLZ : mL (sW Y (40 + 2 * rr) (va_cpy (mI Y 32) (mI Y (40 + 2 * rr)) 0 0 m)) = mL M := (show mL Y = mL M by rw [hL26, x2.2.2.1])
      generalize sW Y (40 + 2 * rr) (va_cpy (mI Y 32) (mI Y (40 + 2 * rr)) 0 0 m) = Z at *
      have eZ : ∀ x, x < 31 ∨ 34 < x → x ≠ 39 + 2 * rr → x ≠ 40 + 2 * rr → mI Z x = mI M x := fun x q1 q2 q3 => by rw [hZ x q3]; exact eY x q1 q2 q3
      have hGZ : Gd Z r n m G := hG.congr hSZ (by rw [hRZ]; exact x2.2.1 1 2 (by decide)) (fun x hx => eZ x (by omega) (by omega) (by omega)) (by rw [eZ 65 (by omega) (by omega) (by omega)]) (by rw [eZ 65 (by omega) (by omega) (by omega)])
      obtain ⟨W, w1, w2, w3, w4⟩ := giveMost_Y hGZ (by rw [eZ 66 (by omega) (by omega) (by omega)]; exact hP) hB he hrr
      rw [hbv] at w1
      rw [hbp] at w4
      refine ⟨_, _, W, rfl, by simp only [KQ hSZ], ?_, ?_⟩
      · rw [isRow_ok hrr]
        simp only [Option.bind_some, show ¬ (1 : Int32) = 0 by decide, if_false, hGZ.sz]
        rw [if_neg (n0 hn0 (by omega)), w1, Option.bind_some]
      · have eW : ∀ x, x ≠ 66 → x ≠ 72 → x ≠ 73 → x ≠ 79 → x ≠ 80 → x < 31 ∨ 34 < x → x ≠ 39 + 2 * rr → x ≠ 40 + 2 * rr → mI W x = mI M x := fun x q1 q2 q3 q4 q5 q6 q7 q8 => (w2.2.2.2.1 x q1 q2 q3 q4 q5).trans (eZ x q6 q7 q8)
        have eL : mL W = mL M := w2.2.2.1.trans hLZ
        have eR : ∀ x j, x ≠ 31 → mR W x j = mR M x j := fun x j hx => by rw [w2.2.1, hRZ]; exact x2.2.1 x j hx
        have e65 : mI W 65 = mI M 65 := eW 65 (by omega) (by omega) (by omega) (by omega) (by omega) (by omega) (by omega) (by omega)
        have e1 : mI W 1 = mI M 1 := eW 1 (by omega) (by omega) (by omega) (by omega) (by omega) (by omega) (by omega) (by omega)
        refine h.scr w2.1 (eR 1 2 (by decide)) (eR 1 3 (by decide)) (fun x hx => eW x (by omega) (by omega) (by omega) (by omega) (by omega) (by omega) (by omega) (by omega)) (fun j hj => by rw [w2.2.2.2.2.1 j hj, eZ 66 (by omega) (by omega) (by omega)]) (by rw [e65]) (by rw [e65]) (by rw [e65]) (by rw [e1]) (by rw [e65, e1]; exact h.2.2.2.1.1) (by rw [eL]; exact h.2.2.2.1.2.1) (by rw [eL]; exact h.2.2.2.1.2.2.1) (fun q hq => ?_)
        obtain ⟨v1, v2, v3⟩ := h.2.1 q hq
        by_cases c : q = rr
        · subst c
          have eYq : mI W (39 + 2 * q) 1 = nI m := by rw [w2.2.2.2.1 (39 + 2 * q) (by omega) (by omega) (by omega) (by omega) (by omega), hZ (39 + 2 * q) (by omega)]; exact y26
          refine ⟨⟨m + 1, by omega, ?_⟩, ?_, fun j hj => ?_⟩
          · rw [eYq, s1]
          · rw [eYq]; exact w3
          · rw [w4 j hj, w2.2.2.2.1 (40 + 2 * q) (by omega) (by omega) (by omega) (by omega) (by omega), hZr j hj]
        · rw [eW (39 + 2 * q) (by omega) (by omega) (by omega) (by omega) (by omega) (by omega) (by omega) (by omega), eW (40 + 2 * q) (by omega) (by omega) (by omega) (by omega) (by omega) (by omega) (by omega) (by omega), w2.2.2.2.2.2.1 q c, eZ 72 (by omega) (by omega) (by omega)]
          refine ⟨v1, v2, fun j hj => ?_⟩
          rw [w2.2.2.2.2.2.2 (40 * q + j) (by omega), eZ 73 (by omega) (by omega) (by omega)]
          exact v3 j hj
theorem op21 {M : Mem} (h : Inv M) (a1 : Int32) : ∃ M', lawOp_21 a1 M = some M' ∧ Inv M' := by
  obtain ⟨v, N, M', g1, g2, g3, g4⟩ := giv h a1 (e := 1) (by decide)
  refine ⟨M', ?_, g4⟩
  unfold lawOp_21 f_X7_give f_X8_give
  rw [if_pos (by simp only [KQ h.1]), show f_X7_giveOut 1 a1 1 M = some (v, N) from g1]
  simp only [Option.bind_some, g2, if_true]
  rw [show nI 1 = (1 : Int32) from rfl] at g3
  rw [g3]
  simp only [Option.bind_some, if_true]
theorem op22 {M : Mem} (h : Inv M) (a1 : Int32) : ∃ M', lawOp_22 a1 M = some M' ∧ Inv M' := by
  obtain ⟨v, N, M', g1, g2, g3, g4⟩ := giv h a1 (e := 0) (by decide)
  refine ⟨M', ?_, g4⟩
  unfold lawOp_22 f_X7_most f_X8_most
  rw [if_pos (by simp only [KQ h.1]), show f_X7_giveOut 1 a1 0 M = some (v, N) from g1]
  simp only [Option.bind_some, g2, if_true]
  rw [show nI 0 = (0 : Int32) from rfl] at g3
  rw [g3]
  simp only [Option.bind_some, if_true]
