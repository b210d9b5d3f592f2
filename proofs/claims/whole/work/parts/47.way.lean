/-! ===== way(), hours() ===== -/
theorem iter_rel {σ τ : Type} {f : Nat → σ → σ} {g : Nat → τ → τ} (R : Nat → σ → τ → Prop) : ∀ (k j : Nat) (s : σ) (t : τ), R j s t → (∀ i s t, j ≤ i → i < j + k → R i s t → R (i + 1) (f i s) (g i t)) → R (j + k) (iter f j k s) (iter g j k t) := by
  intro k
  induction k with
  | zero => intro j s t h _; exact h
  | succ k ih =>
    intro j s t h hs
    have := ih (j + 1) (f j s) (g j t) (hs j s t (Nat.le_refl _) (by omega) h) (fun i s t h1 h2 => hs i s t (by omega) (by omega))
    rw [show j + (k + 1) = j + 1 + k by omega]
    exact this
def pc (s : Nat) : Nat := s % 2 + s / 2 % 2 + s / 4 % 2 + s / 8 % 2 + s / 16 % 2 + s / 32 % 2
theorem pcX : ∀ s, s < 64 → f_J6_bitCount_0f7a4 (nI s) = nI (pc s) := by decide +kernel
theorem pcY : ∀ s, s < 64 → f_X8_bits (nI s) = some (nI (pc s)) := by decide +kernel
theorem andn : ∀ s, s < 64 → ∀ t, t < 64 → nI s &&& (nI t ^^^ (-1)) = nI (s &&& (63 - t)) := by decide +kernel
theorem mnI {a b : Nat} (ha : a < 2 ^ 31) (hb : b < 2 ^ 31) : f_J9_min_7cf53 (nI a) (nI b) = nI (min a b) := by
  unfold f_J9_min_7cf53
  by_cases h : b < a
  · rw [if_pos (nI_lt h ha), Nat.min_eq_right (by omega)]
  · rw [if_neg (nI_nlt (by omega) hb), Nat.min_eq_left (by omega)]
theorem mxI {a b : Nat} (ha : a < 2 ^ 31) (hb : b < 2 ^ 31) : f_J9_max_7cf53 (nI a) (nI b) = nI (max a b) := by
  unfold f_J9_max_7cf53
  by_cases h : a < b
  · rw [if_pos (nI_lt h hb), Nat.max_eq_right (by omega)]
  · rw [if_neg (nI_nlt (by omega) ha), Nat.max_eq_left (by omega)]
def wsX (G : Nat → Nat → Nat) (s o : Nat) (q : Nat × Nat) : Nat × Nat := if s.testBit o = true then (min q.1 (G 2 o), max q.2 (G 2 o)) else q
def wsY (G : Nat → Nat → Nat) (s o : Nat) (q : Nat × Nat) : Nat × Nat := if s.testBit o = true then (if q.1 ≤ G 2 o then q.1 else G 2 o, if G 2 o + 1 ≤ q.2 then q.2 else G 2 o + 1) else q
def wyX (G : Nat → Nat → Nat) (m s p : Nat) : Nat × Nat := iter (wsX G s) 0 m (p, p)
def wyY (G : Nat → Nat → Nat) (m s : Nat) : Nat × Nat := iter (wsY G s) 0 m (99, 0)
def wy (q : Nat × Nat) (p : Nat) : Nat := q.2 - q.1 + min (q.2 - p) (p - q.1)
theorem steps_X {M : Mem} {r n m : Nat} {G : Nat → Nat → Nat} (h : Gd M r n m G) {p s : Nat} (hp : p ≤ 9) (hs : s < 64) : f_X7_stepsThrough 1 (nI p) (nI s) M = some (nI (wy (wyX G m s p) p)) := by
  have hnm := h.nm
  unfold f_X7_stepsThrough
  simp only [KQ h.1, if_true]
  have key := lp_up (F := fun fu j (q : Nat × Nat) => f_X7_stepsThrough_8 fu 1 (nI p) (nI s) (nI q.1) (nI q.2) (nI j) M) m (fun q => some (nI (wy q p))) (wsX G s) (fun _ q => q.1 ≤ p ∧ p ≤ q.2 ∧ q.2 ≤ 9)
    (fun fu q hI => by
      simp only [f_X7_stepsThrough_8, h.R, h.sz, Option.bind_some]
      rw [if_pos (Int32.le_refl _), pk_sub (by omega), pk_sub (by omega), pk_sub (by omega), mnI (by omega) (by omega), nI_add]
      rfl)
    (fun fu j q hj hI => by
      have hh := (h.o hj).1.2.2
      unfold wsX
      by_cases hb : s.testBit j = true
      · rw [if_pos hb]
        refine ⟨?_, ?_, ?_, ?_⟩
        · simp only [f_X7_stepsThrough_8, h.R, h.sz, Option.bind_some, hs1 s hs j (show j < 6 by omega), hb, if_true, show ¬ (1 : Int32) = 0 by decide, if_false, rollF h.1 h.2.1, (ctab h).2 j hj]
          rw [if_neg (nI_ge hj (by omega)), mnI (by omega) (by omega), mxI (by omega) (by omega), nI_1]
        · exact Nat.le_trans (Nat.min_le_left _ _) hI.1
        · exact Nat.le_trans hI.2.1 (Nat.le_max_left _ _)
        · exact Nat.max_le.mpr ⟨hI.2.2, hh⟩
      · rw [if_neg hb]
        refine ⟨?_, hI⟩
        simp only [f_X7_stepsThrough_8, h.R, h.sz, Option.bind_some, hs1 s hs j (show j < 6 by omega), hb, if_true, if_false, Bool.false_eq_true]
        rw [if_neg (nI_ge hj (by omega)), nI_1])
    m FU 0 (p, p) (by omega) (by unfold FU; omega) ⟨Nat.le_refl _, Nat.le_refl _, hp⟩
  exact key.1
theorem leM {a b : Nat} (ha : a < 100) (hb : b < 100) : (nI a ≤ nI b - 1) ↔ a + 1 ≤ b := by
  rw [Int32.le_iff_toInt_le, nI_toInt (by omega), show (nI b - 1).toInt = (b : Int) - 1 from pk_sub_toInt (b := 1) (by omega) (by decide)]
  omega
theorem bits0 {s m : Nat} (h : s < 2 ^ m) (h0 : ∀ o, o < m → ¬ s.testBit o = true) : s = 0 := by
  apply Nat.eq_of_testBit_eq
  intro i
  rw [Nat.zero_testBit]
  by_cases hi : i < m
  · cases hq : s.testBit i with
    | false => rfl
    | true => exact absurd hq (h0 i hi)
  · exact Nat.testBit_lt_two_pow (Nat.lt_of_lt_of_le h (Nat.pow_le_pow_right (by decide) (by omega)))
def WyR (s p : Nat) (i : Nat) (q t : Nat × Nat) : Prop := (q.1 ≤ p ∧ p ≤ q.2 ∧ q.2 ≤ 9) ∧ ((∀ o, o < i → ¬ s.testBit o = true) ∧ q = (p, p) ∧ t = (99, 0) ∨ (∃ o, o < i ∧ s.testBit o = true) ∧ t.1 ≤ 9 ∧ t.1 + 1 ≤ t.2 ∧ t.2 ≤ 10 ∧ q.1 = min p t.1 ∧ q.2 + 1 = max (p + 1) t.2)
theorem wy_rel {G : Nat → Nat → Nat} {m s p : Nat} (hp : p ≤ 9) (hO : ∀ o, o < m → G 2 o ≤ 9) : WyR s p m (wyX G m s p) (wyY G m s) := by
  have key := iter_rel (f := wsX G s) (g := wsY G s) (WyR s p) m 0 (p, p) (99, 0) ⟨⟨Nat.le_refl _, Nat.le_refl _, hp⟩, Or.inl ⟨fun o ho => absurd ho (by omega), rfl, rfl⟩⟩ (fun i q t _ hi hR => by
    have hg := hO i (by omega)
    obtain ⟨⟨r1, r2, r3⟩, r⟩ := hR
    unfold wsX wsY
    by_cases hb : s.testBit i = true
    · rw [if_pos hb, if_pos hb]
      refine ⟨⟨Nat.le_trans (Nat.min_le_left _ _) r1, Nat.le_trans r2 (Nat.le_max_left _ _), Nat.max_le.mpr ⟨r3, hg⟩⟩, Or.inr ⟨⟨i, by omega, hb⟩, ?_⟩⟩
      rcases r with ⟨-, rfl, rfl⟩ | ⟨-, t1, t2, t3, t4, t5⟩
      · simp only
        rw [if_neg (show ¬ 99 ≤ G 2 i by omega), if_neg (show ¬ G 2 i + 1 ≤ 0 by omega)]
        exact ⟨hg, Nat.le_refl _, by omega, rfl, by omega⟩
      · simp only
        by_cases c1 : t.1 ≤ G 2 i
        · by_cases c2 : G 2 i + 1 ≤ t.2
          · rw [if_pos c1, if_pos c2]; omega
          · rw [if_pos c1, if_neg c2]; omega
        · by_cases c2 : G 2 i + 1 ≤ t.2
          · rw [if_neg c1, if_pos c2]; omega
          · rw [if_neg c1, if_neg c2]; omega
    · rw [if_neg hb, if_neg hb]
      refine ⟨⟨r1, r2, r3⟩, ?_⟩
      rcases r with ⟨q0, q1, q2⟩ | ⟨⟨o, ho, hbo⟩, t⟩
      · refine Or.inl ⟨fun o ho => ?_, q1, q2⟩
        by_cases hoi : o = i
        · rw [hoi]; exact hb
        · exact q0 o (by omega)
      · exact Or.inr ⟨⟨o, by omega, hbo⟩, t⟩)
  rw [Nat.zero_add] at key
  exact key
theorem wayOf_Y {M : Mem} {r n m : Nat} {G S : Nat → Nat → Nat} {q : Nat} (h : Gd M r n m G) (hP : Part (mI M 66) 0 n S) (hB : Bd n m S q) {i s : Nat} (hi : i < n) (hs : s < 2 ^ m) : f_X8_wayOf 65 (nI i) (nI s) M = some (nI (wy (wyX G m s (S 1 i)) (S 1 i))) := by
  have hnm := h.nm
  have hs6 := lt64 hnm.2.1 hs
  have hp := (hB.1 i hi).2
  have ea : mI M 66 (8 + i) = nI (S 1 i) := by have := (hP.2.2 i hi).2; rw [Nat.zero_add] at this; exact this
  unfold f_X8_wayOf
  simp only [KQ h.1, if_true]
  have key := lp_up (F := fun fu j (q : Nat × Nat) => f_X8_wayOf_9 fu 65 (nI i) (nI s) (nI q.1) (nI q.2 - 1) (nI j) M) m (fun q => if nI s = 0 then some 0 else if f_X8_apart (nI (S 1 i)) (nI q.2 - 1) ≤ f_X8_apart (nI (S 1 i)) (nI q.1) then some (nI q.2 - 1 - nI q.1 + f_X8_apart (nI (S 1 i)) (nI q.2 - 1)) else some (nI q.2 - 1 - nI q.1 + f_X8_apart (nI (S 1 i)) (nI q.1))) (wsY G s) (fun _ q => q.1 < 100 ∧ q.2 < 100)
    (fun fu q hI => by
      simp only [f_X8_wayOf_9, h.sz, RQ h.1, Option.bind_some, show (8 : Int32) + nI i = nI (8 + i) from nI_add 8 i]
      rw [if_pos (Int32.le_refl _), aI_k (x := 66) (by simp only [KQ h.1]) (by simp only [LQ]; omega), ea]
      simp only [Option.bind_some])
    (fun fu j q hj hI => by
      have hh := (h.o hj).1.2.2
      unfold wsY
      by_cases hb : s.testBit j = true
      · rw [if_pos hb]
        refine ⟨?_, ?_, ?_⟩
        · simp only [f_X8_wayOf_9, f_X8_wayOf_48, f_X8_wayOf_49, h.sz, RQ h.1, Option.bind_some, hs2 s hs6 j (show j < 6 by omega), hb, if_true, show ¬ (1 : Int32) = 0 by decide, if_false, (mtab h).2 j hj, nI_1]
          rw [if_neg (nI_ge hj (by omega))]
          by_cases c1 : q.1 ≤ G 2 j
          · rw [if_pos (nI_le c1 (by omega)), if_pos c1]
            by_cases c2 : G 2 j + 1 ≤ q.2
            · rw [if_pos ((leM (by omega) hI.2).mpr c2), if_pos c2]
            · rw [if_neg (fun q => c2 ((leM (by omega) hI.2).mp q)), if_neg c2, nI_pred]
          · rw [if_neg (nI_ge (by omega) (by omega)), if_neg c1]
            by_cases c2 : G 2 j + 1 ≤ q.2
            · rw [if_pos ((leM (by omega) hI.2).mpr c2), if_pos c2]
            · rw [if_neg (fun q => c2 ((leM (by omega) hI.2).mp q)), if_neg c2, nI_pred]
        · simp only
          by_cases c1 : q.1 ≤ G 2 j
          · rw [if_pos c1]; exact hI.1
          · rw [if_neg c1]; omega
        · simp only
          by_cases c2 : G 2 j + 1 ≤ q.2
          · rw [if_pos c2]; exact hI.2
          · rw [if_neg c2]; omega
      · rw [if_neg hb]
        refine ⟨?_, hI⟩
        simp only [f_X8_wayOf_9, f_X8_wayOf_48, f_X8_wayOf_49, h.sz, RQ h.1, Option.bind_some, hs2 s hs6 j (show j < 6 by omega), hb, if_true, if_false, Bool.false_eq_true, nI_1]
        rw [if_neg (nI_ge hj (by omega))])
    m FU 0 (99, 0) (by omega) (by unfold FU; omega) ⟨by decide, by decide⟩
  refine (show f_X8_wayOf_9 FU 65 (nI i) (nI s) 99 (-1) 0 M = _ from key.1).trans ?_
  have hr := wy_rel (G := G) (m := m) (s := s) hp (fun o ho => (h.o ho).1.2.2)
  show (if nI s = 0 then some 0 else if f_X8_apart (nI (S 1 i)) (nI (wyY G m s).2 - 1) ≤ f_X8_apart (nI (S 1 i)) (nI (wyY G m s).1) then some (nI (wyY G m s).2 - 1 - nI (wyY G m s).1 + f_X8_apart (nI (S 1 i)) (nI (wyY G m s).2 - 1)) else some (nI (wyY G m s).2 - 1 - nI (wyY G m s).1 + f_X8_apart (nI (S 1 i)) (nI (wyY G m s).1))) = _
  generalize wyY G m s = t at hr
  generalize wyX G m s (S 1 i) = x at hr
  obtain ⟨⟨r1, r2, r3⟩, hr⟩ := hr
  rcases hr with ⟨q0, rfl, rfl⟩ | ⟨⟨o, ho, hbo⟩, t1, t2, t3, t4, t5⟩
  · have := bits0 hs q0
    subst this
    rw [if_pos (show nI 0 = 0 from rfl)]
    unfold wy
    simp
    rfl
  · have hs0 : s ≠ 0 := by
      intro q
      rw [q, Nat.zero_testBit] at hbo
      exact absurd hbo (by decide)
    obtain ⟨b, hb⟩ : ∃ b, t.2 = b + 1 := ⟨t.2 - 1, by omega⟩
    rw [if_neg (n0 hs0 (by omega)), hb, nI_pred, apy _ (by omega) b (by omega), apy _ (by omega) t.1 (by omega), pk_sub (show t.1 ≤ b by omega), nI_add, nI_add]
    unfold wy
    have hx1 : x.1 = min (S 1 i) t.1 := t4
    have hx2 : x.2 = max (S 1 i) b := by omega
    rw [hx1, hx2]
    by_cases c1 : S 1 i ≤ b
    · rw [if_pos c1]
      by_cases c2 : S 1 i ≤ t.1
      · rw [if_pos c2]
        by_cases c3 : b - S 1 i ≤ t.1 - S 1 i
        · rw [if_pos (nI_le c3 (by omega))]; congr 2; omega
        · rw [if_neg (nI_ge (by omega) (by omega))]; congr 2; omega
      · rw [if_neg c2]
        by_cases c3 : b - S 1 i ≤ S 1 i - t.1
        · rw [if_pos (nI_le c3 (by omega))]; congr 2; omega
        · rw [if_neg (nI_ge (by omega) (by omega))]; congr 2; omega
    · rw [if_neg c1]
      by_cases c2 : S 1 i ≤ t.1
      · omega
      · rw [if_neg c2]
        by_cases c3 : S 1 i - b ≤ S 1 i - t.1
        · rw [if_pos (nI_le c3 (by omega))]; congr 2; omega
        · omega
theorem p2 {m : Nat} (hm : m ≤ 6) : 2 ^ m ≤ 64 := Nat.pow_le_pow_right (by decide) hm
theorem isSet_bad {M : Mem} {r n m : Nat} {G : Nat → Nat → Nat} (h : Gd M r n m G) {x : Int32} (hx : x < 0 ∨ nI (2 ^ m) ≤ x) : f_X2_isSetOfOrders r x M = some 0 ∧ f_X8_areOrders 65 x M = some 0 := by
  have hnm := h.nm
  have hp := p2 hnm.2.1
  unfold f_X2_isSetOfOrders f_X8_areOrders
  simp only [rollF h.1 h.2.1, KQ h.1, if_true, h.sz, Option.bind_some, sh1 m (show m < 10 by omega), in0 (show 2 ^ m < 2 ^ 30 by omega) hx]
  refine ⟨?_, rfl⟩
  by_cases q : x < 0
  · rw [if_pos q]
  · rw [if_neg q, if_pos (hx.resolve_left q)]
theorem isSet_ok {M : Mem} {r n m : Nat} {G : Nat → Nat → Nat} (h : Gd M r n m G) {s : Nat} (hs : s < 2 ^ m) : f_X2_isSetOfOrders r (nI s) M = some 1 ∧ f_X8_areOrders 65 (nI s) M = some 1 := by
  have hnm := h.nm
  have hp := p2 hnm.2.1
  unfold f_X2_isSetOfOrders f_X8_areOrders
  simp only [rollF h.1 h.2.1, KQ h.1, if_true, h.sz, Option.bind_some, sh1 m (show m < 10 by omega), in1 (show 2 ^ m < 2 ^ 30 by omega) hs]
  refine ⟨?_, rfl⟩
  rw [if_neg (nI_pos (by omega)), if_neg (nI_ge hs (by omega))]
theorem op24 {M : Mem} (h : Inv M) (a1 a2 : Int32) : ∃ M', lawOp_24 a1 a2 M = some M' ∧ Inv M' := by
  have hS := h.1
  obtain ⟨r, s, n, m, G, d, cd, -, -, hG, hN, hP, hB, -⟩ := h.op
  have hnm := hG.nm
  have hp2 := p2 hnm.2.1
  refine ⟨M, ?_, h⟩
  unfold lawOp_24 f_X7_way f_X8_way
  simp only [KQ hS, if_true, hG.R, Option.bind_some]
  rcases ixc a1 n (by omega) with h1 | ⟨i, hi, rfl⟩
  · simp only [hasS_bad hG h1, isS_bad hG h1, Option.bind_some, if_true]
  · simp only [hasS_ok hG hi, isS_ok hG hi, Option.bind_some, show ¬ (1 : Int32) = 0 by decide, if_false]
    rcases ixc a2 (2 ^ m) (by omega) with h2 | ⟨t, ht, rfl⟩
    · simp only [isSet_bad hG h2, Option.bind_some, if_true]
    · simp only [isSet_ok hG ht, Option.bind_some, show ¬ (1 : Int32) = 0 by decide, if_false, RQ hS, wayOf_Y hG hP hB hi ht]
      rw [aI_k (x := 24) (by simp only [KQ hS]) (by simp only [LQ]; omega), show mI M 24 i = _ from (hN.2.2 i hi).2]
      simp only [Option.bind_some, steps_X hG (hB.1 i hi).2 (lt64 hnm.2.1 ht), if_true]
/-- whether the breath is enough -/
def hrC (G : Nat → Nat → Nat) (b i s : Nat) : Nat → Nat → Nat → Bool
  | 0, _, a => decide (a ≤ b)
  | k + 1, j, a => if s.testBit j = true then (if td (G 0 i) (G 3 j) = true then false else hrC G b i s k (j + 1) (a + tk (G 0 i) (G 3 j))) else hrC G b i s k (j + 1) a
def hrM (G : Nat → Nat → Nat) (b i s : Nat) : Nat → Nat → Nat → Bool
  | 0, _, _ => true
  | k + 1, j, a => if s.testBit j = true then (if td (G 0 i) (G 3 j) = true then false else if a + tk (G 0 i) (G 3 j) ≤ b then hrM G b i s k (j + 1) (a + tk (G 0 i) (G 3 j)) else false) else hrM G b i s k (j + 1) a
theorem hrC_over {G : Nat → Nat → Nat} {b i s : Nat} : ∀ k j a, b < a → hrC G b i s k j a = false := by
  intro k
  induction k with
  | zero => intro j a h; simp only [hrC, decide_eq_false_iff_not]; omega
  | succ k ih =>
    intro j a h
    simp only [hrC]
    by_cases h1 : s.testBit j = true
    · rw [if_pos h1]
      by_cases h2 : td (G 0 i) (G 3 j) = true
      · rw [if_pos h2]
      · rw [if_neg h2]; exact ih _ _ (by omega)
    · rw [if_neg h1]; exact ih _ _ h
theorem hr_eq {G : Nat → Nat → Nat} {b i s : Nat} : ∀ k j a, a ≤ b → hrM G b i s k j a = hrC G b i s k j a := by
  intro k
  induction k with
  | zero => intro j a h; simp only [hrC, hrM]; exact (decide_eq_true h).symm
  | succ k ih =>
    intro j a h
    simp only [hrC, hrM]
    by_cases h1 : s.testBit j = true
    · rw [if_pos h1, if_pos h1]
      by_cases h2 : td (G 0 i) (G 3 j) = true
      · rw [if_pos h2, if_pos h2]
      · rw [if_neg h2, if_neg h2]
        by_cases h3 : a + tk (G 0 i) (G 3 j) ≤ b
        · rw [if_pos h3]; exact ih _ _ h3
        · rw [if_neg h3]; exact (hrC_over _ _ _ (by omega)).symm
    · rw [if_neg h1, if_neg h1]; exact ih _ _ h
theorem op26 {M : Mem} (h : Inv M) (a1 a2 : Int32) : ∃ M', lawOp_26 a1 a2 M = some M' ∧ Inv M' := by
  have hS := h.1
  obtain ⟨r, s, n, m, G, d, cd, -, -, hG, hN, hP, hB, -⟩ := h.op
  have hnm := hG.nm
  have hp2 := p2 hnm.2.1
  have h64 := lt64 hnm.2.1 hB.2.1
  refine ⟨M, ?_, h⟩
  unfold lawOp_26 f_X7_hours f_X8_hours
  simp only [KQ hS, if_true, hG.R, Option.bind_some]
  rcases ixc a1 n (by omega) with h1 | ⟨i, hi, rfl⟩
  · simp only [hasS_bad hG h1, isS_bad hG h1, Option.bind_some, if_true]
  · simp only [hasS_ok hG hi, isS_ok hG hi, Option.bind_some, show ¬ (1 : Int32) = 0 by decide, if_false]
    rcases ixc a2 (2 ^ m) (by omega) with h2 | ⟨t, ht, rfl⟩
    · simp only [isSet_bad hG h2, Option.bind_some, if_true]
    · have hb9 := (hB.1 i hi).1
      have eb : mI M 66 (3 + i) = nI (run G cd d 0 i) := by have := (hP.2.2 i hi).1; rw [Nat.zero_add] at this; exact this
      have hk := (hG.s hi).1.2.2
      simp only [isSet_ok hG ht, Option.bind_some, show ¬ (1 : Int32) = 0 by decide, if_false, RQ hS, KQ hS, gI_k, show mI M 22 2 = _ from hN.1]
      rw [show aI M 66 2 = _ from aI_k (j := 2) (by simp only [KQ hS]) (by simp only [LQ]; omega), show mI M 66 2 = _ from hP.2.1]
      simp only [Option.bind_some, andn t (show t < 64 by omega) _ h64]
      generalize hu : t &&& (63 - run G cd d 2 0) = u
      have hu2 : u < 2 ^ m := by rw [← hu]; exact Nat.lt_of_le_of_lt Nat.and_le_left ht
      have hu6 : u < 64 := by omega
      have hX : ∀ k fu j a, j + k = m → k < fu → a ≤ 9 * j → f_X7_hours_42 fu 1 (nI i) (nI u) (nI a) (nI j) M = some (if hrC G (run G cd d 0 i) i u k j a = true then nI (wy (wyX G m u (run G cd d 1 i)) (run G cd d 1 i)) + nI (pc u) else -9) := by
        intro k
        induction k with
        | zero =>
          intro fu j a hj hf ha
          obtain ⟨fu, rfl⟩ : ∃ f, fu = f + 1 := ⟨fu - 1, by omega⟩
          have hjm : j = m := by omega
          subst hjm
          simp only [f_X7_hours_42, hG.R, hG.sz, Option.bind_some, RQ hS]
          rw [if_pos (Int32.le_refl _), aI_k (x := 23) (by simp only [KQ hS]) (by simp only [LQ]; omega), show mI M 23 i = _ from (hN.2.2 i hi).1, aI_k (x := 24) (by simp only [KQ hS]) (by simp only [LQ]; omega), show mI M 24 i = _ from (hN.2.2 i hi).2]
          simp only [Option.bind_some, steps_X hG (hB.1 i hi).2 hu6, pcX u hu6, hrC, decide_eq_true_eq]
          by_cases c : a ≤ run G cd d 0 i
          · rw [if_pos (nI_le c (by omega)), if_pos c]
          · rw [if_neg (nI_ge (by omega) (by omega)), if_neg c]
        | succ k ih =>
          intro fu j a hj hf ha
          obtain ⟨fu, rfl⟩ : ∃ f, fu = f + 1 := ⟨fu - 1, by omega⟩
          have hjm : j < m := by omega
          have hdp := (hG.o hjm).2.1.2.2.2
          have htk := tk_le _ hk (G 3 j) (by omega)
          simp only [f_X7_hours_42, hG.R, hG.sz, Option.bind_some, hs1 u hu6 j (show j < 6 by omega), brF hG hi hjm, hrC]
          rw [if_neg (nI_ge hjm (by omega))]
          by_cases c1 : u.testBit j = true
          · simp only [c1, if_true, show ¬ (1 : Int32) = 0 by decide, if_false]
            have hbt : (btv (G 0 i) (G 3 j) = -9) ↔ (td (G 0 i) (G 3 j) = true) := Iff.of_eq (btv_n _ hk _ (show G 3 j < 10 by omega))
            by_cases c2 : td (G 0 i) (G 3 j) = true
            · rw [if_pos (hbt.mpr c2), if_pos c2]; simp only [Bool.false_eq_true, if_false]
            · rw [if_neg (fun q => c2 (hbt.mp q)), if_neg c2, btv, if_neg c2, nI_add, nI_1]
              exact ih fu (j + 1) _ (by omega) (by omega) (by omega)
          · simp only [c1, if_false, Bool.false_eq_true, if_true, nI_1]
            exact ih fu (j + 1) _ (by omega) (by omega) (by omega)
      have hY : ∀ k fu j a, j + k = m → k < fu → a ≤ 9 * j → f_X8_hours_35 fu 65 (nI i) (nI u) (nI a) (nI j) M = some (if hrM G (run G cd d 0 i) i u k j a = true then nI (wy (wyX G m u (run G cd d 1 i)) (run G cd d 1 i)) + nI (pc u) else -9) := by
        intro k
        induction k with
        | zero =>
          intro fu j a hj hf ha
          obtain ⟨fu, rfl⟩ : ∃ f, fu = f + 1 := ⟨fu - 1, by omega⟩
          have hjm : j = m := by omega
          subst hjm
          simp only [f_X8_hours_35, hG.sz, Option.bind_some]
          rw [if_pos (Int32.le_refl _), wayOf_Y hG hP hB hi hu2, Option.bind_some, pcY u hu6, Option.bind_some]
          simp only [hrM, if_true]
        | succ k ih =>
          intro fu j a hj hf ha
          obtain ⟨fu, rfl⟩ : ∃ f, fu = f + 1 := ⟨fu - 1, by omega⟩
          have hjm : j < m := by omega
          have hdp := (hG.o hjm).2.1.2.2.2
          have htk := tk_le _ hk (G 3 j) (by omega)
          simp only [f_X8_hours_35, hG.sz, Option.bind_some, hs2 u hu6 j (show j < 6 by omega), tkn hG hi hjm, hrM, RQ hS, (mtab hG).1 i hi, (mtab hG).2 j hjm, tdY _ hk _ (show G 3 j < 10 by omega), show (3 : Int32) + nI i = nI (3 + i) from nI_add 3 i, show nI a + nI (tk (G 0 i) (G 3 j)) = nI (a + tk (G 0 i) (G 3 j)) from nI_add _ _, nI_1]
          rw [if_neg (nI_ge hjm (by omega)), aI_k (x := 66) (by simp only [KQ hS]) (by simp only [LQ]; omega), eb]
          by_cases c1 : u.testBit j = true
          · simp only [c1, if_true, show ¬ (1 : Int32) = 0 by decide, if_false, Option.bind_some]
            by_cases c2 : td (G 0 i) (G 3 j) = true
            · simp only [c2, if_true, show ¬ (1 : Int32) = 0 by decide, if_false, Bool.false_eq_true]
            · simp only [c2, if_false, Bool.false_eq_true, if_true]
              by_cases c3 : a + tk (G 0 i) (G 3 j) ≤ run G cd d 0 i
              · rw [if_pos (nI_le c3 (by omega)), if_pos c3]
                exact ih fu (j + 1) _ (by omega) (by omega) (by omega)
              · rw [if_neg (nI_ge (by omega) (by omega)), if_neg c3]; simp only [Bool.false_eq_true, if_false]
          · simp only [c1, if_false, Bool.false_eq_true, if_true]
            exact ih fu (j + 1) _ (by omega) (by omega) (by omega)
      rw [show f_X7_hours_42 FU 1 (nI i) (nI u) 0 0 M = _ from hX m FU 0 0 (by omega) (by unfold FU; omega) (by omega), show f_X8_hours_35 FU 65 (nI i) (nI u) 0 0 M = _ from hY m FU 0 0 (by omega) (by unfold FU; omega) (by omega), hr_eq m 0 0 (Nat.zero_le _)]
      simp only [Option.bind_some, if_true]
