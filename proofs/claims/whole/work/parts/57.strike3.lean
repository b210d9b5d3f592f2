theorem mostNow_Y {M : Mem} {r n m : Nat} {G S : Nat → Nat → Nat} (h : Gd M r n m G) {b : Nat} (hb : b ≤ 1985) (hP : Part (mI M 66) b n S) (hW : Wk n S) : f_X8_mostNow 65 (nI b) M = some (nI (mo G n m S)) := by
  have hnm := h.nm
  have hO : ∀ o, o < m → G 4 o ≤ 9 := fun o ho => (h.o ho).2.2.2.2
  have inner : ∀ (k : Nat → Int32 → Int32 → Int32 → Mem → Option Int32) (i : Nat), i < n → ∀ a, a ≤ 11 → f_X8_mostNow_15 k FU 65 (nI b) (nI a) (nI i) 0 M = k 65 (nI b) (nI (moI G S m i a)) (nI i + 1) M := by
    intro k i hi a ha
    have key := lp_up (F := fun fu o (a : Nat) => f_X8_mostNow_15 k fu 65 (nI b) (nI a) (nI i) (nI o) M) m (fun a => k 65 (nI b) (nI a) (nI i + 1) M) (fun o a => if can G S i o = true then max a (bg (G 0 i) (G 4 o)) else a) (fun _ a => a ≤ 11)
      (fun fu a _ => by simp only [f_X8_mostNow_15, h.sz, Option.bind_some]; rw [if_pos (Int32.le_refl _)])
      (fun fu o a ho hI => by
        have hbg := bg_le _ (h.s hi).1.2.2 (G 4 o) (by have := hO o ho; omega)
        simp only [f_X8_mostNow_15, h.sz, Option.bind_some, can_Y h hb hP hW.1 hi ho (hW.2 i hi), brt h hi ho, nI_1]
        rw [if_neg (nI_ge ho (by omega))]
        by_cases c : can G S i o = true
        · simp only [c, if_true, show ¬ (1 : Int32) = 0 by decide, if_false]
          by_cases c2 : bg (G 0 i) (G 4 o) ≤ a
          · rw [if_pos (nI_le c2 (by omega)), Nat.max_eq_left c2]; exact ⟨rfl, hI⟩
          · rw [if_neg (nI_ge (by omega) (by omega)), Nat.max_eq_right (by omega)]; exact ⟨rfl, hbg⟩
        · simp only [c, if_false, Bool.false_eq_true, if_true]
          exact ⟨trivial, hI⟩)
      m FU 0 a (by omega) (by unfold FU; omega) ha
    exact key.1
  have key := lp_up (F := fun fu i (a : Nat) => f_X8_mostNow_4 fu 65 (nI b) (nI a) (nI i) M) n (fun a => some (nI a)) (moI G S m) (fun _ a => a ≤ 11)
    (fun fu a _ => by simp only [f_X8_mostNow_4, h.sz, Option.bind_some]; rw [if_pos (Int32.le_refl _)])
    (fun fu i a hi hI => by
      refine ⟨?_, moI_le (h.s hi).1.2.2 hO hI⟩
      simp only [f_X8_mostNow_4, h.sz, Option.bind_some]
      rw [if_neg (nI_ge hi (by omega)), inner _ i hi a hI, nI_1])
    n FU 0 0 (by omega) (by unfold FU; omega) (by decide)
  unfold f_X8_mostNow
  rw [if_pos (by simp only [KQ h.1])]
  exact key.1
theorem iter_min {h : Nat → Nat} : ∀ k j x y, iter (fun i a => min a (h i)) j k (min x y) = min x (iter (fun i a => min a (h i)) j k y) := by
  intro k
  induction k with
  | zero => intro j x y; rfl
  | succ k ih =>
    intro j x y
    show iter (fun i a => min a (h i)) (j + 1) k (min (min x y) (h j)) = min x (iter (fun i a => min a (h i)) (j + 1) k (min y (h j)))
    rw [Nat.min_assoc, ih]
theorem leastBehind_Y {M : Mem} {r n m : Nat} {G S : Nat → Nat → Nat} (h : Gd M r n m G) {b : Nat} (hb : b = 0 ∨ b = 1972) (hP : Part (mI M 66) b n S) (hW : Wk n S) : ∃ N, f_X8_leastBehind 65 (nI b) M = some (nI (lb G n m S), N) ∧ FrY M N ∧ ∀ j, j < 1985 → mI N 66 j = mI M 66 j := by
  have hnm := h.nm
  obtain ⟨s', p1, p2⟩ := lp_ex (F := fun fu i (t : Nat × Mem) => f_X8_leastBehind_6 fu 65 (nI b) (nI t.1) (nI i) t.2) (n + 1) (fun t => some (nI t.1, t.2)) (fun i t => t.1 = iter (fun i a => min a (if i < n then mo G n m (set0 S i) else mo G n m S)) 0 i 999 ∧ t.1 ≤ 999 ∧ FrY M t.2 ∧ ∀ j, j < 1985 → mI t.2 66 j = mI M 66 j)
    (fun fu t hI => by
      have hGN := hI.2.2.1.g h
      simp only [f_X8_leastBehind_6, hGN.sz, Option.bind_some]; rw [if_pos (nI_lt (by omega) (by omega))])
    (fun fu i t hi hI => by
      obtain ⟨i1, i2, i3, i4⟩ := hI
      have hGN := i3.g h
      have hPN : Part (mI t.2 66) b n S := hP.congr hnm.1 (fun j q1 q2 => i4 j (by omega))
      obtain ⟨N4, c1, c2, c3, c4⟩ := copyPart_P hGN.1 hnm.1 (a := b) (b := 1985) (by omega) (by omega) (by omega) (by omega) hPN
      have hG4 := c2.g hGN
      simp only [f_X8_leastBehind_6, f_X8_leastBehind_41, hGN.sz, Option.bind_some, nI_1]
      rw [if_neg (nI_nlt (by omega) (by omega)), show f_X8_copyPart 65 (nI b) 1985 t.2 = some N4 from c1]
      simp only [Option.bind_some, hG4.sz]
      have hmoS := mo_le h S
      by_cases hin : i < n
      · have hmo0 := mo_le h (set0 S i)
        rw [if_neg (nI_ge hin (by omega))]
        simp only [RQ c2.1, Option.bind_some, show (1988 : Int32) + nI i = nI (1988 + i) from nI_add 1988 i]
        rw [eI_k (by simp only [KQ c2.1]) (by simp only [LQ]; omega), Option.bind_some]
        have hS9 : SF (sI N4 66 (1988 + i) 0) := c2.1
        have hG9 : Gd (sI N4 66 (1988 + i) 0) r n m G := hG4.congr hS9 rfl (fun x hx => mI_sI_row (by omega)) (by rw [mI_sI_row (by decide)]) (by rw [mI_sI_row (by decide)])
        have hP9 : Part (mI (sI N4 66 (1988 + i) 0) 66) 1985 n (set0 S i) := by
          refine ⟨by rw [mI_sI, if_neg (by omega)]; exact c4.1, by rw [mI_sI, if_neg (by omega)]; exact c4.2.1, fun j hj => ⟨?_, ?_⟩⟩
          · rw [mI_sI]
            unfold set0
            by_cases hji : j = i
            · rw [if_pos (by omega), if_pos ⟨rfl, hji⟩]; rfl
            · rw [if_neg (by omega), if_neg (fun q => hji q.2)]; exact (c4.2.2 j hj).1
          · rw [mI_sI, if_neg (by omega)]; exact (c4.2.2 j hj).2
        have hW9 : Wk n (set0 S i) := ⟨hW.1, fun j hj => by
          unfold set0
          by_cases hij : j = i
          · rw [if_pos ⟨rfl, hij⟩]; exact Nat.zero_le _
          · rw [if_neg (fun q => hij q.2)]; exact hW.2 j hj⟩
        rw [show f_X8_mostNow 65 1985 (sI N4 66 (1988 + i) 0) = _ from mostNow_Y hG9 (b := 1985) (by omega) hP9 hW9, Option.bind_some]
        have hF9 : FrY M (sI N4 66 (1988 + i) 0) := i3.tr (c2.tr ⟨hS9, rfl, rfl, fun x hx => mI_sI_row hx, fun j hj => by rw [mI_sI, if_neg (by omega)]⟩)
        refine ⟨(min t.1 (mo G n m (set0 S i)), sI N4 66 (1988 + i) 0), ?_, ?_, Nat.le_trans (Nat.min_le_left _ _) i2, hF9, fun j hj => ?_⟩
        · by_cases c : t.1 ≤ mo G n m (set0 S i)
          · rw [if_pos (nI_le c (by omega)), Nat.min_eq_left c]
          · rw [if_neg (nI_ge (by omega) (by omega)), Nat.min_eq_right (by omega)]
        · rw [iter_snoc, ← i1, if_pos hin]
        · rw [mI_sI, if_neg (by omega), c3 j (by omega), i4 j hj]
      · have hie : i = n := by omega
        rw [if_pos (nI_le (by omega) (by omega)), show f_X8_mostNow 65 1985 N4 = _ from mostNow_Y hG4 (b := 1985) (by omega) c4 hW, Option.bind_some]
        refine ⟨(min t.1 (mo G n m S), N4), ?_, ?_, Nat.le_trans (Nat.min_le_left _ _) i2, i3.tr c2, fun j hj => ?_⟩
        · by_cases c : t.1 ≤ mo G n m S
          · rw [if_pos (nI_le c (by omega)), Nat.min_eq_left c]
          · rw [if_neg (nI_ge (by omega) (by omega)), Nat.min_eq_right (by omega)]
        · rw [iter_snoc, ← i1, if_neg hin]
        · rw [c3 j (by omega), i4 j hj])
    (n + 1) FU 0 (999, M) (by omega) (by unfold FU; omega) ⟨rfl, Nat.le_refl _, ⟨h.1, rfl, rfl, fun x _ => rfl, fun j _ => rfl⟩, fun j _ => rfl⟩
  have e : s'.1 = lb G n m S := by
    rw [p2.1, iter_snoc, if_neg (show ¬ n < n by omega)]
    rw [iter_congr (g := fun i a => min a (mo G n m (set0 S i))) n 0 999 (fun i a _ hi => by rw [if_pos (show i < n by omega)])]
    rw [Nat.min_comm, ← iter_min, Nat.min_eq_left (by have := mo_le h S; omega)]
    rfl
  unfold f_X8_leastBehind
  rw [if_pos (by simp only [KQ h.1])]
  refine ⟨s'.2, ?_, p2.2.2⟩
  rw [← e]
  exact p1
theorem strike_Y {M : Mem} {r n m : Nat} {G S : Nat → Nat → Nat} {q : Nat} (h : Gd M r n m G) (hP : Part (mI M 66) 0 n S) (hB : Bd n m S q) (hn : n ≠ 0) {b : Nat} (hb : b ≤ 22) : ∃ N, f_X8_strike_51 FU 65 (nI b) 0 M = some (nI (iter (fun i b => iter (fun o b => skS G n m S i o b) 0 m b) 0 n b), N) ∧ FrY M N := by
  have hnm := h.nm
  have hm0 : m ≠ 0 := fun q => hn (hnm.2.2.mpr q)
  have h6 := lt64 hnm.2.1 hB.2.1
  have hnm30 : m * n ≤ 6 * 5 := Nat.mul_le_mul hnm.2.1 hnm.1
  obtain ⟨s', p1, p2⟩ := lp_ex (F := fun fu k (t : Nat × Mem) => f_X8_strike_51 fu 65 (nI t.1) (nI k) t.2) (m * n) (fun t => some (nI t.1, t.2)) (fun k t => t.1 = iter (fun k b => skS G n m S (k / m) (k % m) b) 0 k b ∧ t.1 ≤ 22 ∧ FrY M t.2)
    (fun fu t hI => by
      have hGN := hI.2.2.g h
      simp only [f_X8_strike_51, hGN.sz, Option.bind_some, pk_mul]
      rw [if_pos (by rw [Nat.mul_comm]; exact Int32.le_refl _)])
    (fun fu k t hk hI => by
      obtain ⟨i1, i2, i3⟩ := hI
      have hGN := i3.g h
      have hi : k / m < n := (Nat.div_lt_iff_lt_mul (by omega)).mpr (by rw [Nat.mul_comm]; exact hk)
      have ho : k % m < m := Nat.mod_lt _ (by omega)
      have hle := skS_le h (S := S) hi ho i2
      have hPN := i3.p hnm.1 hP
      simp only [f_X8_strike_51, hGN.sz, Option.bind_some, pk_mul, if_neg (n0 hm0 (show m < 2 ^ 31 by omega)), nI_1]
      rw [if_neg (by rw [Nat.mul_comm n m]; exact nI_ge hk (by omega)), pk_rem (d := m) (a := k) (by omega) (by omega) (by omega), pk_div (d := m) (a := k) (by omega) (by omega) (by omega), show f_X8_can 65 0 (nI (k / m)) (nI (k % m)) t.2 = _ from can_Y hGN (b := 0) (by omega) hPN h6 hi ho (hB.1 _ hi).1, Option.bind_some]
      by_cases c : can G S (k / m) (k % m) = true
      · have hbg := bg_le _ (h.s hi).1.2.2 (G 4 (k % m)) (by have := (h.o ho).2.2.2.2; omega)
        have hlb := lb_le h (sighed G S (k / m) (k % m))
        obtain ⟨N1, c1, c2, -, c4⟩ := copyPart_P hGN.1 hnm.1 (a := 0) (b := 1972) (by omega) (by omega) (by omega) (by omega) hPN
        have hG1 := c2.g hGN
        obtain ⟨N2, u1, u2, u3, u4, u5, u6, u7⟩ := sighsAt_Y hG1 (b := 1972) (by omega) c4 hi ho (can_tk c).2.2
        have hF2 : FrY N1 N2 := ⟨u2, u3, u4, u5, fun j hj => u6 j (by omega)⟩
        have hG2 := hF2.g hG1
        have hB2 := sighed_Bd h hB hi ho c
        obtain ⟨N3, w1, w2, -⟩ := leastBehind_Y hG2 (b := 1972) (Or.inr rfl) u7 ⟨lt64 hnm.2.1 hB2.2.1, fun j hj => (hB2.1 j hj).1⟩
        have hF3 := i3.tr (c2.tr (hF2.tr w2))
        have hsk : skS G n m S (k / m) (k % m) t.1 = max t.1 (bg (G 0 (k / m)) (G 4 (k % m)) + lb G n m (sighed G S (k / m) (k % m))) := by unfold skS; rw [if_pos c]
        simp only [c, if_true, show ¬ (1 : Int32) = 0 by decide, if_false]
        rw [show f_X8_copyPart 65 0 1972 t.2 = some N1 from c1, Option.bind_some, show f_X8_sighsAt 65 1972 (nI (k / m)) (nI (k % m)) N1 = some N2 from u1, Option.bind_some, brt hG2 hi ho, Option.bind_some, show f_X8_leastBehind 65 1972 N2 = _ from w1, Option.bind_some]
        simp only [nI_add]
        refine ⟨(skS G n m S (k / m) (k % m) t.1, N3), ?_, ?_, hle, hF3⟩
        · rw [hsk]
          by_cases c5 : bg (G 0 (k / m)) (G 4 (k % m)) + lb G n m (sighed G S (k / m) (k % m)) ≤ t.1
          · rw [if_pos (nI_le c5 (by omega)), Nat.max_eq_left c5]
          · rw [if_neg (nI_ge (by omega) (by omega)), Nat.max_eq_right (by omega)]
        · rw [iter_snoc, ← i1]
      · simp only [c, if_false, Bool.false_eq_true, if_true]
        refine ⟨t, rfl, ?_, i2, i3⟩
        rw [iter_snoc, ← i1]; unfold skS; rw [if_neg c])
    (m * n) FU 0 (b, M) (by omega) (by unfold FU; omega) ⟨rfl, hb, h.1, rfl, rfl, fun x _ => rfl, fun j _ => rfl⟩
  refine ⟨s'.2, ?_, p2.2.2⟩
  have e : s'.1 = iter (fun i b => iter (fun o b => skS G n m S i o b) 0 m b) 0 n b := by
    rw [p2.1]
    have := iter_nestM (f := fun i o b => skS G n m S i o b) (m := m) (by omega) n 0 b
    rw [Nat.mul_zero] at this
    exact this
  rw [← e]
  exact p1
theorem Inv.sc4 {M N M' : Mem} (h : Inv M) (h1 : FrA M N) (h2 : FrY N M') : Inv M' := by
  have e : ∀ x, x ≠ 66 → x < 25 ∨ 27 < x → mI M' x = mI M x := fun x q1 q4 => (h2.2.2.2.1 x q1).trans (h1.2.2.2 x q4)
  have eR : mR M' = mR M := h2.2.1.trans h1.2.1
  have eL : mL M' = mL M := h2.2.2.1.trans h1.2.2.1
  refine h.scr h2.1 (by rw [eR]) (by rw [eR]) (fun x hx => e x (by omega) (by omega)) (fun j hj => ?_) (by rw [e 65 (by omega) (by omega)]) (by rw [e 65 (by omega) (by omega)]) (by rw [e 65 (by omega) (by omega)]) (by rw [e 1 (by omega) (by omega)]) (by rw [e 65 (by omega) (by omega), e 1 (by omega) (by omega)]; exact h.2.2.2.1.1) (by rw [eL]; exact h.2.2.2.1.2.1) (by rw [eL]; exact h.2.2.2.1.2.2.1) (h.2.1.congr (fun x hx => e x (by omega) (by omega)))
  rw [h2.2.2.2.2 j hj, h1.2.2.2 66 (by omega)]
theorem op33 {M : Mem} (h : Inv M) (a1 : Int32) : ∃ M', lawOp_33 a1 M = some M' ∧ Inv M' := by
  have hS := h.1
  obtain ⟨r, s, n, m, G, d, cd, -, -, hG, hN, hP, hB, -⟩ := h.op
  have hnm := hG.nm
  have hW : Wk n (run G cd d) := ⟨lt64 hnm.2.1 hB.2.1, fun i hi => (hB.1 i hi).1⟩
  unfold lawOp_33 f_X7_strike f_X8_strike
  simp only [KQ hS, if_true]
  rcases ixc a1 3 (by omega) with h2 | ⟨t, ht, rfl⟩
  · have e0 : f_X8_in (Int32.toInt64 a1) 0 2 = 0 := in_bad (n := 3) (by decide) rfl h2
    by_cases q : a1 < 0
    · simp only [if_pos q, e0, if_true, Option.bind_some, KQ hS]
      exact ⟨M, rfl, h⟩
    · have q5 : ¬ a1 ≤ 2 := by
        have := h2.resolve_left q
        rw [Int32.le_iff_toInt_le, nI_toInt (by omega)] at this
        rw [Int32.le_iff_toInt_le, show (2 : Int32).toInt = 2 from rfl]
        omega
      simp only [if_neg q, if_neg q5, e0, if_true, Option.bind_some, KQ hS]
      exact ⟨M, rfl, h⟩
  · have e1 : f_X8_in (Int32.toInt64 (nI t)) 0 2 = 1 := in_ok (n := 3) (by decide) rfl ht
    simp only [if_neg (nI_pos (show t < 2 ^ 31 by omega)), if_pos (show nI t ≤ 2 from nI_le (b := 2) (by omega) (by decide)), e1, show ¬ (1 : Int32) = 0 by decide, if_false, hG.R, hG.sz, Option.bind_some]
    by_cases h0 : n = 0
    · subst h0
      rw [if_pos (show nI 0 = 0 from rfl)]
      simp only [Option.bind_some, KQ hS, if_true, hG.sz]
      rw [if_pos (show nI 0 = 0 from rfl)]
      exact ⟨M, rfl, h⟩
    · obtain ⟨M1, t1, t2, t3, t4, t5, t6⟩ := takeOver_S hS hnm.1 hN
      have hF1 : FrA M M1 := ⟨t2, t3, t4, t5⟩
      have hG1 := hF1.g hG
      have hP1 : Part (mI M1 66) 0 n (run G cd d) := by rw [t5 66 (by omega)]; exact hP
      simp only [if_neg (n0 h0 (show n < 2 ^ 31 by omega)), RQ hS, Option.bind_some, t1]
      rcases (show t = 0 ∨ t = 1 ∨ t = 2 by omega) with rfl | rfl | rfl
      · have gx : f_X7_guildTurn 4 1 (nI 0) M1 = some (0, M1) := by
          show f_X7_guildTurn_b (f_X7_guildTurn 3) 1 (nI 0) M1 = _
          unfold f_X7_guildTurn_b
          rw [if_pos (by simp only [KQ t2]), if_pos (show nI 0 ≤ 0 from Int32.le_refl _)]
        rw [gx]
        simp only [Option.bind_some, KQ t2, if_true, hG1.sz, if_neg (n0 h0 (show n < 2 ^ 31 by omega))]
        rw [if_neg (show ¬ (2 : Int32) ≤ nI 0 by decide), if_pos (show nI 0 = 0 from rfl)]
        exact ⟨M1, rfl, h.sc4 hF1 ⟨t2, rfl, rfl, fun x _ => rfl, fun j _ => rfl⟩⟩
      · rw [show f_X7_guildTurn 4 1 (nI 1) M1 = _ from gt1_X hG1 t6 hW 3]
        simp only [Option.bind_some, KQ t2, if_true, hG1.sz, if_neg (n0 h0 (show n < 2 ^ 31 by omega))]
        rw [if_neg (show ¬ (2 : Int32) ≤ nI 1 by decide), if_neg (show ¬ nI 1 = 0 by decide), show f_X8_mostNow 65 0 M1 = _ from mostNow_Y hG1 (b := 0) (by omega) hP1 hW]
        simp only [Option.bind_some, if_true]
        exact ⟨M1, rfl, h.sc4 hF1 ⟨t2, rfl, rfl, fun x _ => rfl, fun j _ => rfl⟩⟩
      · obtain ⟨N, g1, g2⟩ := gt2_X hG1 t6 hW hB.2.1 2
        have hGN := g2.g hG1
        have hPN : Part (mI N 66) 0 n (run G cd d) := by rw [g2.2.2.2 66 (by omega)]; exact hP1
        obtain ⟨N2, w1, w2, -⟩ := leastBehind_Y hGN (b := 0) (Or.inl rfl) hPN hW
        have hlb := lb_le hG (run G cd d)
        obtain ⟨N3, y1, y2⟩ := strike_Y (w2.g hGN) (w2.p hnm.1 hPN) hB h0 (b := lb G n m (run G cd d)) (by omega)
        rw [show f_X7_guildTurn 4 1 (nI 2) M1 = _ from g1]
        simp only [Option.bind_some, KQ g2.1, if_true, hGN.sz, if_neg (n0 h0 (show n < 2 ^ 31 by omega))]
        rw [if_pos (show (2 : Int32) ≤ nI 2 by decide), show f_X8_leastBehind 65 0 N = _ from w1, Option.bind_some, y1]
        simp only [Option.bind_some, if_true]
        exact ⟨N3, rfl, h.sc4 (hF1.tr g2) (w2.tr y2)⟩
