/-! ===== plain(): what is done aside ===== -/
/-- what stays when only scratch cells, rows and what is told change -/
theorem Inv.scr {M M' : Mem} (h : Inv M) (hS : SF M') (r2 : mR M' 1 2 = mR M 1 2) (r3 : mR M' 1 3 = mR M 1 3) (hf : ∀ x, (4 ≤ x ∧ x ≤ 24) ∨ (28 ≤ x ∧ x ≤ 30) ∨ x = 38 ∨ (51 ≤ x ∧ x ≤ 64) ∨ (67 ≤ x ∧ x ≤ 71) ∨ (74 ≤ x ∧ x ≤ 76) → mI M' x = mI M x) (h66 : ∀ j, j < 1972 → mI M' 66 j = mI M 66 j) (a1 : mI M' 65 1 = mI M 65 1) (a4 : mI M' 65 4 = mI M 65 4) (a15 : mI M' 65 15 = mI M 65 15) (b13 : mI M' 1 13 = mI M 1 13) (ht : mI M' 65 12 = mI M' 1 10) (l1 : mL M' 65 13 = mL M' 1 11) (l2 : mL M' 65 14 = mL M' 1 12) (hw : RwP (mI M')) : Inv M' := by
  obtain ⟨g0, g1, g2, g3, r, s, n, m, G, d, cd, g4, g5⟩ := h
  have hr : r = 4 ∨ r = 13 := by obtain ⟨q, -, -⟩ := g4; omega
  have hG : Gd M r n m G := ⟨g0, hr, g4.2.1, g5.1⟩
  have hG' : Gd M' r n m G := hG.congr hS r2 (fun x hx => hf x (by omega)) a1 a4
  have hn := hG.nm.1
  have hd := g5.2.1.1
  refine ⟨hS, hw, g2.congr (fun x hx => hf x (by omega)), ?_, r, s, n, m, G, d, cd, ?_, hG'.2.2.2, ⟨hd, ?_, ?_, fun k hk => ?_, ?_, fun k hk => ?_⟩, ?_, fun q hq => ?_⟩
  · obtain ⟨t1, t2, t3, t4, t5⟩ := g3
    refine ⟨ht, l1, l2, by rw [a15, b13]; exact t4, fun f hf2 => ?_⟩
    rw [hf 76 (by omega), hf 38 (by omega)]
    exact t5 f hf2
  · obtain ⟨q1, q2, q3⟩ := g4
    exact ⟨q1, by rw [r2]; exact q2, by rw [r3]; exact q3⟩
  · rw [hf 28 (by omega)]; exact g5.2.1.2.1
  · rw [h66 0 (by omega)]; exact g5.2.1.2.2.1
  · rw [hf 29 (by omega)]; exact g5.2.1.2.2.2.1 k hk
  · exact g5.2.1.2.2.2.2.1.congr hn (fun j q1 q2 => h66 j (by omega))
  · exact (g5.2.1.2.2.2.2.2 k hk).congr hn (fun j q1 q2 => h66 j (by omega))
  · rw [hf 22 (by omega), hf 23 (by omega), hf 24 (by omega)]; exact g5.2.2.1
  · rw [hf (59 + 2 * q) (by omega), hf (60 + 2 * q) (by omega)]
    rcases g5.2.2.2 q hq with ⟨z1, z2⟩ | ⟨z0, d', cd', z1, z2, z3, z4, z5, z6⟩
    · exact Or.inl ⟨z1, by rw [h66 _ (by omega)]; exact z2⟩
    · exact Or.inr ⟨z0, d', cd', z1, z2, by rw [h66 _ (by omega)]; exact z3, z4, z5.congr hn (fun j q1 q2 => h66 j (by omega)), fun k hk => (z6 k hk).congr hn (fun j q1 q2 => h66 j (by omega))⟩
def zg (S : Nat → Nat → Nat) (g : Nat) : Nat → Nat → Nat := fun a j => if a = 2 ∧ j = 1 then g else S a j
def plS (G : Nat → Nat → Nat) (s o i : Nat) (S : Nat → Nat → Nat) : Nat → Nat → Nat := if s.testBit o = true then S else if can G S i o = true then sighed G S i o else S
def plI (G : Nat → Nat → Nat) (n s o : Nat) (S : Nat → Nat → Nat) : Nat → Nat → Nat := iter (plS G s o) 0 n S
def pl (G : Nat → Nat → Nat) (n m s : Nat) (S : Nat → Nat → Nat) : Nat → Nat → Nat := iter (plI G n s) 0 m S
theorem sighed_Bd {M : Mem} {r n m : Nat} {G S : Nat → Nat → Nat} {q : Nat} (h : Gd M r n m G) (hB : Bd n m S q) {i o : Nat} (hi : i < n) (ho : o < m) (hc : can G S i o = true) : Bd n m (sighed G S i o) (q + 1) := by
  have hnm := h.nm
  have := perf_Bd (c := 100 * 1 + 10 * i + o) (fun i hi => (h.s hi).1.2.2) (fun o ho => (h.o ho).2.2.2.2) hB ⟨by omega, by omega, by omega⟩
  rw [perf_s (by omega) (by omega) hc] at this
  exact this
theorem takeOver_S {M : Mem} {n : Nat} {S : Nat → Nat → Nat} (h : SF M) (hn : n ≤ 5) (hN : NwP n S (mI M 22) (mI M (22 + 1)) (mI M (22 + 2))) : ∃ M', f_X6_takeOver 25 22 M = some M' ∧ SF M' ∧ mR M' = mR M ∧ mL M' = mL M ∧ (∀ x, x < 25 ∨ 27 < x → mI M' x = mI M x) ∧ NwP n S (mI M' 25) (mI M' (25 + 1)) (mI M' (25 + 2)) := by
  unfold f_X6_takeOver
  simp only [KQ h, RQ h, if_true, Option.bind_some]
  rw [show cpI M 23 0 26 0 5 = _ from cpI_k (a := 0) (b := 0) (n := 5) (by simp only [KQ h]) (by simp only [KQ h]) (by simp only [LQ]; omega) (by simp only [LQ]; omega), Option.bind_some]
  generalize hM5 : sW M 26 (va_cpy (mI M 23) (mI M 26) 0 0 5) = M5
  have hS5 : SF M5 := by rw [← hM5]; exact h
  have e5 : ∀ x, x ≠ 26 → mI M5 x = mI M x := fun x hx => by rw [← hM5, mI_ne hx]
  simp only [RQ hS5, Option.bind_some]
  rw [show cpI M5 24 0 27 0 5 = _ from cpI_k (a := 0) (b := 0) (n := 5) (by simp only [KQ hS5]) (by simp only [KQ hS5]) (by simp only [LQ]; omega) (by simp only [LQ]; omega), Option.bind_some]
  generalize hM11 : sW M5 27 (va_cpy (mI M5 24) (mI M5 27) 0 0 5) = M11
  have hS11 : SF M11 := by rw [← hM11]; exact hS5
  have e11 : ∀ x, x ≠ 27 → mI M11 x = mI M5 x := fun x hx => by rw [← hM11, mI_ne hx]
  rw [gI_k (by simp only [KQ hS11]), Option.bind_some, pI_k (by simp only [KQ hS11]), Option.bind_some, gI_k (by rw [kd_sI]; simp only [KQ hS11]), Option.bind_some, pI_k (by rw [kd_sI]; simp only [KQ hS11]), Option.bind_some, mI_sI_row (by decide), e11 22 (by decide), e5 22 (by decide), hN.1, hN.2.1]
  refine ⟨_, rfl, hS11, by rw [← hM11, ← hM5]; rfl, by rw [← hM11, ← hM5]; rfl, fun x hx => ?_, ?_, ?_, fun i hi => ⟨?_, ?_⟩⟩
  · rw [mI_sI_row (by omega), mI_sI_row (by omega), e11 x (by omega), e5 x (by omega)]
  · rw [mI_sI, if_neg (by omega), mI_sI, if_pos ⟨rfl, rfl⟩]
  · rw [mI_sI, if_pos ⟨rfl, rfl⟩]
  · rw [mI_sI_row (by omega), mI_sI_row (by omega), e11 (25 + 1) (by omega), ← hM5, show 25 + 1 = 26 from rfl, mI_eq, pk_cpy_in (by omega) (by omega), show 0 + (i - 0) = i by omega]
    exact (hN.2.2 i hi).1
  · rw [mI_sI_row (by omega), mI_sI_row (by omega), ← hM11, show 25 + 2 = 27 from rfl, mI_eq, pk_cpy_in (by omega) (by omega), show 0 + (i - 0) = i by omega, e5 24 (by omega)]
    exact (hN.2.2 i hi).2
/-- a frame around the cells aside -/
def FrA (M N : Mem) : Prop := SF N ∧ mR N = mR M ∧ mL N = mL M ∧ ∀ x, x < 25 ∨ 27 < x → mI N x = mI M x
theorem FrA.tr {A B C : Mem} (h1 : FrA A B) (h2 : FrA B C) : FrA A C := ⟨h2.1, h2.2.1.trans h1.2.1, h2.2.2.1.trans h1.2.2.1, fun x hx => (h2.2.2.2 x hx).trans (h1.2.2.2 x hx)⟩
theorem FrA.g {M N : Mem} {r n m : Nat} {G : Nat → Nat → Nat} (h : FrA M N) (hG : Gd M r n m G) : Gd N r n m G := hG.congr h.1 (by rw [h.2.1]) (fun x hx => h.2.2.2 x (by omega)) (by rw [h.2.2.2 65 (by omega)]) (by rw [h.2.2.2 65 (by omega)])
theorem plainLoop_X {M : Mem} {r n m : Nat} {G : Nat → Nat → Nat} (h : Gd M r n m G) {s : Nat} (hs : s < 64) {S0 : Nat → Nat → Nat} (hN0 : NwP n S0 (mI M 25) (mI M (25 + 1)) (mI M (25 + 2))) {q0 : Nat} (hB0 : Bd n m S0 q0) : ∃ M', f_X7_plainGold_21 FU 1 (nI s) 0 M = some (nI (pl G n m s S0 2 1), M') ∧ FrA M M' ∧ NwP n (pl G n m s S0) (mI M' 25) (mI M' (25 + 1)) (mI M' (25 + 2)) ∧ ∃ q, Bd n m (pl G n m s S0) q := by
  have hnm := h.nm
  have inner : ∀ (k : Nat → Int32 → Int32 → Mem → Option (Int32 × Mem)) (o : Nat), o < m → ∀ (N : Mem) (S : Nat → Nat → Nat) (q : Nat), FrA M N → NwP n S (mI N 25) (mI N (25 + 1)) (mI N (25 + 2)) → Bd n m S q → ∃ N', f_X7_plainGold_34 k FU 1 (nI s) (nI o) 0 N = k 1 (nI s) (nI o + 1) N' ∧ FrA M N' ∧ NwP n (plI G n s o S) (mI N' 25) (mI N' (25 + 1)) (mI N' (25 + 2)) ∧ ∃ q, Bd n m (plI G n s o S) q := by
    intro k o ho N S q hF hN hB
    by_cases hb : s.testBit o = true
    · refine ⟨N, ?_, hF, ?_, ?_⟩
      · have hGN := hF.g h
        obtain ⟨fu, hfu⟩ : ∃ f, FU = f + 1 := ⟨99999, rfl⟩
        rw [hfu]
        simp only [f_X7_plainGold_34, hGN.R, hGN.sz, Option.bind_some, hs1 s hs o (show o < 6 by omega), hb, if_true, show ¬ (1 : Int32) = 0 by decide, if_false]
        by_cases hn0 : n = 0
        · rw [if_pos (by rw [hn0]; exact Int32.le_refl _)]
        · rw [if_neg (show ¬ nI n ≤ 0 from nI_nle (by omega) (by omega))]
      · unfold plI
        rw [iter_id n 0 S (fun i _ _ => by unfold plS; rw [if_pos hb])]
        exact hN
      · unfold plI
        rw [iter_id n 0 S (fun i _ _ => by unfold plS; rw [if_pos hb])]
        exact ⟨q, hB⟩
    · obtain ⟨s', p1, p2⟩ := lp_ex (F := fun fu i (t : Mem × (Nat → Nat → Nat)) => f_X7_plainGold_34 k fu 1 (nI s) (nI o) (nI i) t.1) n (fun t => k 1 (nI s) (nI o + 1) t.1) (fun i t => FrA M t.1 ∧ NwP n t.2 (mI t.1 25) (mI t.1 (25 + 1)) (mI t.1 (25 + 2)) ∧ (∃ q, Bd n m t.2 q) ∧ t.2 = iter (plS G s o) 0 i S)
        (fun fu t hI => by
          have hGN := hI.1.g h
          simp only [f_X7_plainGold_34, hGN.R, hGN.sz, Option.bind_some]
          rw [if_pos (Int32.le_refl _)])
        (fun fu i t hi hI => by
          obtain ⟨i1, i2, ⟨q, i3⟩, i4⟩ := hI
          have hGN := i1.g h
          have h6 := lt64 hnm.2.1 i3.2.1
          have h9 := (i3.1 i hi).1
          have es : iter (plS G s o) 0 (i + 1) S = plS G s o i t.2 := by
            rw [iter_add, ← i4, Nat.zero_add]; rfl
          rw [es]
          unfold plS
          rw [if_neg hb]
          simp only [f_X7_plainGold_34, hGN.R, hGN.sz, Option.bind_some, hs1 s hs o (show o < 6 by omega), hb, if_false, Bool.false_eq_true, if_true, RQ i1.1, able_X hGN (Or.inr rfl) i2 h6 hi ho h9, nI_1]
          rw [if_neg (nI_ge hi (by omega))]
          by_cases hc : can G t.2 i o = true
          · obtain ⟨N', u1, u2, u3, u4, u5, u6⟩ := sighOrder_X hGN (Or.inr rfl) i2 h6 hi ho h9 hc
            refine ⟨(N', sighed G t.2 i o), ?_, i1.tr ⟨u2, u3, u4, fun x hx => u5 x (by omega) (by omega)⟩, u6, ⟨_, sighed_Bd h i3 hi ho hc⟩, ?_⟩
            · simp only [hc, if_true, show ¬ (1 : Int32) = 0 by decide, if_false, u1, Option.bind_some]
            · rw [if_pos hc]
          · refine ⟨t, ?_, i1, i2, ⟨q, i3⟩, ?_⟩
            · simp only [hc, if_false, Bool.false_eq_true, if_true]
            · rw [if_neg hc])
        n FU 0 (N, S) (by omega) (by unfold FU; omega) ⟨hF, hN, ⟨q, hB⟩, rfl⟩
      obtain ⟨i1, i2, i3, i4⟩ := p2
      refine ⟨s'.1, p1, i1, ?_, ?_⟩
      · unfold plI; rw [← i4]; exact i2
      · unfold plI; rw [← i4]; exact i3
  obtain ⟨s', p1, p2⟩ := lp_ex (F := fun fu o (t : Mem × (Nat → Nat → Nat)) => f_X7_plainGold_21 fu 1 (nI s) (nI o) t.1) m (fun t => some (nI (t.2 2 1), t.1)) (fun o t => FrA M t.1 ∧ NwP n t.2 (mI t.1 25) (mI t.1 (25 + 1)) (mI t.1 (25 + 2)) ∧ (∃ q, Bd n m t.2 q) ∧ t.2 = iter (plI G n s) 0 o S0)
    (fun fu t hI => by
      have hGN := hI.1.g h
      simp only [f_X7_plainGold_21, hGN.R, hGN.sz, Option.bind_some, RQ hI.1.1, KQ hI.1.1, gI_k]
      rw [if_pos (Int32.le_refl _), hI.2.1.2.1])
    (fun fu o t ho hI => by
      obtain ⟨i1, i2, ⟨q, i3⟩, i4⟩ := hI
      have hGN := i1.g h
      obtain ⟨N', u1, u2, u3, u4⟩ := inner (f_X7_plainGold_21 fu) o ho t.1 t.2 q i1 i2 i3
      refine ⟨(N', plI G n s o t.2), ?_, u2, u3, u4, ?_⟩
      · simp only [f_X7_plainGold_21, hGN.R, hGN.sz, Option.bind_some]
        rw [if_neg (nI_ge ho (by omega)), u1, nI_1]
      · show plI G n s o t.2 = iter (plI G n s) 0 (o + 1) S0
        rw [iter_add, ← i4, Nat.zero_add]; rfl)
    m FU 0 (M, S0) (by omega) (by unfold FU; omega) ⟨⟨h.1, rfl, rfl, fun x _ => rfl⟩, hN0, ⟨q0, hB0⟩, rfl⟩
  obtain ⟨i1, i2, i3, i4⟩ := p2
  have e : s'.2 = pl G n m s S0 := i4
  rw [e] at i2 i3
  refine ⟨s'.1, ?_, i1, i2, i3⟩
  rw [← e]
  exact p1
theorem plainGold_X {M : Mem} {r n m : Nat} {G S : Nat → Nat → Nat} {q : Nat} (h : Gd M r n m G) (hN : NwP n S (mI M 22) (mI M (22 + 1)) (mI M (22 + 2))) (hB : Bd n m S q) {s : Nat} (hs : s < 64) : ∃ M', f_X7_plainGold 1 (nI s) M = some (nI (pl G n m s (zg S 0) 2 1), M') ∧ FrA M M' ∧ NwP n (pl G n m s (zg S 0)) (mI M' 25) (mI M' (25 + 1)) (mI M' (25 + 2)) ∧ ∃ q, Bd n m (pl G n m s (zg S 0)) q := by
  obtain ⟨M6, t1, t2, t3, t4, t5, t6⟩ := takeOver_S h.1 h.nm.1 hN
  unfold f_X7_plainGold
  simp only [KQ h.1, RQ h.1, if_true, Option.bind_some, t1, RQ t2]
  rw [pI_k (by simp only [KQ t2]), Option.bind_some]
  have hF : FrA M (sI M6 25 3 0) := ⟨t2, t3, t4, fun x hx => by rw [mI_sI_row (by omega), t5 x hx]⟩
  have hN9 : NwP n (zg S 0) (mI (sI M6 25 3 0) 25) (mI (sI M6 25 3 0) (25 + 1)) (mI (sI M6 25 3 0) (25 + 2)) := by
    refine ⟨?_, ?_, fun i hi => ⟨?_, ?_⟩⟩
    · rw [mI_sI, if_neg (by omega), t6.1]; rfl
    · rw [mI_sI, if_pos ⟨rfl, rfl⟩]; rfl
    · rw [mI_sI_row (by omega), (t6.2.2 i hi).1]; rfl
    · rw [mI_sI_row (by omega), (t6.2.2 i hi).2]; rfl
  have hB9 : Bd n m (zg S 0) q := ⟨hB.1, hB.2.1, Nat.zero_le _⟩
  obtain ⟨M', p1, p2, p3, p4⟩ := plainLoop_X (hF.g h) hs hN9 hB9
  exact ⟨M', p1, hF.tr p2, p3, p4⟩
-- the model
def FrY (M N : Mem) : Prop := SF N ∧ mR N = mR M ∧ mL N = mL M ∧ (∀ x, x ≠ 66 → mI N x = mI M x) ∧ ∀ j, j < 1972 → mI N 66 j = mI M 66 j
theorem FrY.tr {A B C : Mem} (h1 : FrY A B) (h2 : FrY B C) : FrY A C := ⟨h2.1, h2.2.1.trans h1.2.1, h2.2.2.1.trans h1.2.2.1, fun x hx => (h2.2.2.2.1 x hx).trans (h1.2.2.2.1 x hx), fun j hj => (h2.2.2.2.2 j hj).trans (h1.2.2.2.2 j hj)⟩
theorem FrY.g {M N : Mem} {r n m : Nat} {G : Nat → Nat → Nat} (h : FrY M N) (hG : Gd M r n m G) : Gd N r n m G := hG.congr h.1 (by rw [h.2.1]) (fun x hx => h.2.2.2.1 x (by omega)) (by rw [h.2.2.2.1 65 (by omega)]) (by rw [h.2.2.2.1 65 (by omega)])
theorem copyPart_Y {M : Mem} (h : SF M) {a b : Nat} (ha : a + 13 ≤ 1998) (hb : b + 13 ≤ 1998) (hab : a + 13 ≤ b ∨ b + 13 ≤ a) : f_X8_copyPart 65 (nI a) (nI b) M = some (sW M 66 (fun j => if b ≤ j ∧ j < b + 13 then mI M 66 (a + (j - b)) else mI M 66 j)) := by
  unfold f_X8_copyPart
  simp only [KQ h, if_true]
  have key := lp_up (F := fun fu j (N : Mem) => f_X8_copyPart_2 fu 65 (nI a) (nI b) (nI j) N) 13 (fun N => some N) (fun j N => sI N 66 (b + j) (mI M 66 (a + j))) (fun j N => SF N ∧ ∀ i, a ≤ i → i < a + 13 → mI N 66 i = mI M 66 i)
    (fun fu N hI => by
      simp only [f_X8_copyPart_2]
      rw [if_pos (show (13 : Int32) ≤ nI 13 from Int32.le_refl _)])
    (fun fu j N hj hI => by
      refine ⟨?_, hI.1, fun i h1 h2 => ?_⟩
      · simp only [f_X8_copyPart_2]
        rw [if_neg (show ¬ (13 : Int32) ≤ nI j from nI_ge (b := 13) hj (by omega))]
        simp only [RQ hI.1, Option.bind_some, nI_add]
        rw [aI_k (by simp only [KQ hI.1]) (by simp only [LQ]; omega), Option.bind_some, hI.2 _ (by omega) (by omega), eI_k (by simp only [KQ hI.1]) (by simp only [LQ]; omega), Option.bind_some, nI_1]
      · rw [mI_sI, if_neg (by omega)]; exact hI.2 i h1 h2)
    13 FU 0 M (by omega) (by unfold FU; omega) ⟨h, fun i _ _ => rfl⟩
  refine (show f_X8_copyPart_2 FU 65 (nI a) (nI b) 0 M = _ from key.1).trans ?_
  rw [iter_sI (M := M) (x := 66) (p := b) (v := fun j => mI M 66 (a + j)) 13]
theorem copyPart_P {M : Mem} (h : SF M) {n a b : Nat} {S : Nat → Nat → Nat} (hn : n ≤ 5) (ha : a + 13 ≤ 1998) (hb : b + 13 ≤ 1998) (hb2 : 1972 ≤ b) (hab : a + 13 ≤ b ∨ b + 13 ≤ a) (hP : Part (mI M 66) a n S) : ∃ M', f_X8_copyPart 65 (nI a) (nI b) M = some M' ∧ FrY M M' ∧ (∀ j, j < b ∨ b + 13 ≤ j → mI M' 66 j = mI M 66 j) ∧ Part (mI M' 66) b n S := by
  refine ⟨_, copyPart_Y h ha hb hab, ⟨h, rfl, rfl, fun x hx => mI_ne hx, fun j hj => ?_⟩, fun j hj => ?_, ?_⟩
  · rw [mI_eq, if_neg (by omega)]
  · rw [mI_eq, if_neg (by omega)]
  · exact hP.move hn (fun j q1 q2 => by rw [mI_eq, if_pos (by omega), show b + j - b = j by omega])
theorem doesPlain_Y {M : Mem} {r n m : Nat} {G S0 : Nat → Nat → Nat} {q0 : Nat} (h : Gd M r n m G) (hP0 : Part (mI M 66) 0 n S0) (hB0 : Bd n m S0 q0) {s : Nat} (hs : s < 64) : ∃ M', f_X8_doesPlain 65 (nI s) M = some M' ∧ FrY M M' ∧ Part (mI M' 66) 1972 n (pl G n m s S0) ∧ ∃ q, Bd n m (pl G n m s S0) q := by
  have hnm := h.nm
  obtain ⟨M2, c1, c2, -, c3⟩ := copyPart_P h.1 hnm.1 (a := 0) (b := 1972) (by omega) (by omega) (by omega) (by omega) hP0
  have inner : ∀ (k : Nat → Int32 → Int32 → Mem → Option Mem) (o : Nat), o < m → ∀ (N : Mem) (S : Nat → Nat → Nat) (q : Nat), FrY M N → Part (mI N 66) 1972 n S → Bd n m S q → ∃ N', f_X8_doesPlain_20 k FU 65 (nI s) (nI o) 0 N = k 65 (nI s) (nI o + 1) N' ∧ FrY M N' ∧ Part (mI N' 66) 1972 n (plI G n s o S) ∧ ∃ q, Bd n m (plI G n s o S) q := by
    intro k o ho N S q hF hP hB
    obtain ⟨s', p1, p2⟩ := lp_ex (F := fun fu i (t : Mem × (Nat → Nat → Nat)) => f_X8_doesPlain_20 k fu 65 (nI s) (nI o) (nI i) t.1) n (fun t => k 65 (nI s) (nI o + 1) t.1) (fun i t => FrY M t.1 ∧ Part (mI t.1 66) 1972 n t.2 ∧ (∃ q, Bd n m t.2 q) ∧ t.2 = iter (plS G s o) 0 i S)
      (fun fu t hI => by
        have hGN := hI.1.g h
        simp only [f_X8_doesPlain_20, hGN.sz, Option.bind_some]
        rw [if_pos (Int32.le_refl _)])
      (fun fu i t hi hI => by
        obtain ⟨i1, i2, ⟨q, i3⟩, i4⟩ := hI
        have hGN := i1.g h
        have h6 := lt64 hnm.2.1 i3.2.1
        have h9 := (i3.1 i hi).1
        have es : iter (plS G s o) 0 (i + 1) S = plS G s o i t.2 := by
          rw [iter_add, ← i4, Nat.zero_add]; rfl
        rw [es]
        unfold plS
        simp only [f_X8_doesPlain_20, hGN.sz, Option.bind_some, hs2 s hs o (show o < 6 by omega), nI_1, show f_X8_can 65 1972 (nI i) (nI o) t.1 = _ from can_Y hGN (b := 1972) (by omega) i2 h6 hi ho h9]
        rw [if_neg (nI_ge hi (by omega))]
        by_cases hb : s.testBit o = true
        · refine ⟨t, ?_, i1, i2, ⟨q, i3⟩, ?_⟩
          · simp only [hb, if_true, show ¬ (1 : Int32) = 0 by decide, if_false]
          · rw [if_pos hb]
        · by_cases hc : can G t.2 i o = true
          · obtain ⟨N', u1, u2, u3, u4, u5, u6, u7⟩ := sighsAt_Y hGN (b := 1972) (by omega) i2 hi ho (can_tk hc).2.2
            refine ⟨(N', sighed G t.2 i o), ?_, i1.tr ⟨u2, u3, u4, u5, fun j hj => u6 j (by omega)⟩, u7, ⟨_, sighed_Bd h i3 hi ho hc⟩, ?_⟩
            · simp only [hb, hc, if_true, if_false, Bool.false_eq_true, show ¬ (1 : Int32) = 0 by decide, show f_X8_sighsAt 65 1972 (nI i) (nI o) t.1 = some N' from u1, Option.bind_some]
            · rw [if_neg hb, if_pos hc]
          · refine ⟨t, ?_, i1, i2, ⟨q, i3⟩, ?_⟩
            · simp only [hb, hc, if_false, Bool.false_eq_true, if_true]
            · rw [if_neg hb, if_neg hc])
      n FU 0 (N, S) (by omega) (by unfold FU; omega) ⟨hF, hP, ⟨q, hB⟩, rfl⟩
    obtain ⟨i1, i2, i3, i4⟩ := p2
    refine ⟨s'.1, p1, i1, ?_, ?_⟩
    · unfold plI; rw [← i4]; exact i2
    · unfold plI; rw [← i4]; exact i3
  unfold f_X8_doesPlain
  simp only [KQ h.1, if_true, show f_X8_copyPart 65 0 1972 M = some M2 from c1, Option.bind_some]
  obtain ⟨s', p1, p2⟩ := lp_ex (F := fun fu o (t : Mem × (Nat → Nat → Nat)) => f_X8_doesPlain_10 fu 65 (nI s) (nI o) t.1) m (fun t => some t.1) (fun o t => FrY M t.1 ∧ Part (mI t.1 66) 1972 n t.2 ∧ (∃ q, Bd n m t.2 q) ∧ t.2 = iter (plI G n s) 0 o S0)
    (fun fu t hI => by
      have hGN := hI.1.g h
      simp only [f_X8_doesPlain_10, hGN.sz, Option.bind_some]
      rw [if_pos (Int32.le_refl _)])
    (fun fu o t ho hI => by
      obtain ⟨i1, i2, ⟨q, i3⟩, i4⟩ := hI
      have hGN := i1.g h
      obtain ⟨N', u1, u2, u3, u4⟩ := inner (f_X8_doesPlain_10 fu) o ho t.1 t.2 q i1 i2 i3
      refine ⟨(N', plI G n s o t.2), ?_, u2, u3, u4, ?_⟩
      · simp only [f_X8_doesPlain_10, hGN.sz, Option.bind_some]
        rw [if_neg (nI_ge ho (by omega)), u1, nI_1]
      · show plI G n s o t.2 = iter (plI G n s) 0 (o + 1) S0
        rw [iter_add, ← i4, Nat.zero_add]; rfl)
    m FU 0 (M2, S0) (by omega) (by unfold FU; omega) ⟨c2, c3, ⟨q0, hB0⟩, rfl⟩
  obtain ⟨i1, i2, i3, i4⟩ := p2
  have e : s'.2 = pl G n m s S0 := i4
  rw [e] at i2 i3
  exact ⟨s'.1, p1, i1, i2, i3⟩
/-- with another gold at first -/
def RgP (g : Nat) (A B : Nat → Nat → Nat) : Prop := (∀ j, A 0 j = B 0 j) ∧ (∀ j, A 1 j = B 1 j) ∧ A 2 0 = B 2 0 ∧ A 2 1 = g + B 2 1
theorem pl_zg {G S : Nat → Nat → Nat} {n m s g : Nat} (hg : S 2 1 = g) : RgP g (pl G n m s S) (pl G n m s (zg S 0)) := by
  have stp : ∀ (o i : Nat) (A B : Nat → Nat → Nat), RgP g A B → RgP g (plS G s o i A) (plS G s o i B) := by
    intro o i A B hAB
    obtain ⟨r0, r1, r2, r3⟩ := hAB
    have hc : can G A i o = can G B i o := by unfold can; rw [r2, r0]
    unfold plS
    by_cases hb : s.testBit o = true
    · rw [if_pos hb, if_pos hb]; exact ⟨r0, r1, r2, r3⟩
    · rw [if_neg hb, if_neg hb, hc]
      by_cases hcc : can G B i o = true
      · rw [if_pos hcc, if_pos hcc]
        refine ⟨fun j => ?_, fun j => ?_, ?_, ?_⟩
        · simp [sighed, r0]
        · simp [sighed, r1]
        · simp [sighed, r2]
        · simp [sighed, r3, Nat.add_assoc]
      · rw [if_neg hcc, if_neg hcc]; exact ⟨r0, r1, r2, r3⟩
  have h0 : RgP g S (zg S 0) := ⟨fun j => rfl, fun j => rfl, rfl, hg⟩
  have inn : ∀ (o : Nat) (A B : Nat → Nat → Nat), RgP g A B → RgP g (plI G n s o A) (plI G n s o B) := fun o A B hAB => iter_rel (fun _ A B => RgP g A B) n 0 A B hAB (fun i A B _ _ hR => stp o i A B hR)
  exact iter_rel (fun _ A B => RgP g A B) m 0 S (zg S 0) h0 (fun o A B _ _ hR => inn o A B hR)
theorem Inv.sc2 {M N M' : Mem} (h : Inv M) {v : Int32} (h1 : FrA M N) (h2 : FrY (sI N 1 10 v) M') : Inv (sI M' 65 12 v) := by
  have e : ∀ x, x ≠ 66 → x ≠ 1 → x ≠ 65 → x < 25 ∨ 27 < x → mI (sI M' 65 12 v) x = mI M x := fun x q1 q2 q3 q4 => by rw [mI_sI_row q3, h2.2.2.2.1 x q1, mI_sI_row q2, h1.2.2.2 x q4]
  have e65 : ∀ j, j ≠ 12 → mI (sI M' 65 12 v) 65 j = mI M 65 j := fun j hj => by rw [mI_sI, if_neg (by omega), h2.2.2.2.1 65 (by decide), mI_sI_row (by decide), h1.2.2.2 65 (by omega)]
  have e1 : ∀ j, mI (sI M' 65 12 v) 1 j = mI (sI N 1 10 v) 1 j := fun j => by rw [mI_sI_row (by decide), h2.2.2.2.1 1 (by decide)]
  have eL : mL (sI M' 65 12 v) = mL M := h2.2.2.1.trans h1.2.2.1
  have eR : mR (sI M' 65 12 v) = mR M := h2.2.1.trans h1.2.1
  refine h.scr h2.1 (by rw [eR]) (by rw [eR]) (fun x hx => e x (by omega) (by omega) (by omega) (by omega)) (fun j hj => ?_) (e65 1 (by decide)) (e65 4 (by decide)) (e65 15 (by decide)) ?_ ?_ ?_ ?_ (h.2.1.congr (fun x hx => e x (by omega) (by omega) (by omega) (by omega)))
  · rw [mI_sI_row (by decide), h2.2.2.2.2 j hj, mI_sI_row (by decide), h1.2.2.2 66 (by omega)]
  · rw [e1, mI_sI, if_neg (by decide), h1.2.2.2 1 (by omega)]
  · rw [e1, mI_sI, if_pos ⟨rfl, rfl⟩, mI_sI, if_pos ⟨rfl, rfl⟩]
  · rw [eL]; exact h.2.2.2.1.2.1
  · rw [eL]; exact h.2.2.2.1.2.2.1
theorem op23 {M : Mem} (h : Inv M) : ∃ M', lawOp_23 M = some M' ∧ Inv M' := by
  have hS := h.1
  obtain ⟨r, s, n, m, G, d, cd, -, -, hG, hN, hP, hB, -⟩ := h.op
  have hnm := hG.nm
  unfold lawOp_23 f_X7_plain f_X8_plain
  simp only [KQ hS, if_true, hG.R, hG.sz, Option.bind_some]
  by_cases h0 : n = 0
  · subst h0
    rw [if_pos (show nI 0 = 0 from rfl)]
    simp only [Option.bind_some, KQ hS, if_true, hG.sz]
    rw [if_pos (show nI 0 = 0 from rfl)]
    exact ⟨M, rfl, h⟩
  · obtain ⟨M1, p1, p2, p3, q1, p4⟩ := plainGold_X hG hN hB (s := 0) (by decide)
    have hz := pl_zg (G := G) (n := n) (m := m) (s := 0) (S := run G cd d) rfl
    generalize hv : pl G n m 0 (zg (run G cd d) 0) = V at *
    have hS1 : SF (sI M1 1 10 (nI (V 2 1))) := p2.1
    have hG1 : Gd (sI M1 1 10 (nI (V 2 1))) r n m G := (p2.g hG).tell _
    have hP1 : Part (mI (sI M1 1 10 (nI (V 2 1))) 66) 0 n (run G cd d) := by rw [mI_sI_row (by decide), p2.2.2.2 66 (by omega)]; exact hP
    obtain ⟨M4, d1, d2, d3, -⟩ := doesPlain_Y hG1 hP1 hB (s := 0) (by decide)
    simp only [if_neg (n0 h0 (show n < 2 ^ 31 by omega)), RQ hS, KQ hS, gI_k, Option.bind_some, show f_X7_plainGold 1 0 M = _ from p1, KQ p2.1, pI_k]
    simp only [Option.bind_some, RQ hS1]
    rw [gI_k (x := 25) (by simp only [KQ hS1])]
    simp only [Option.bind_some, KQ hS1, if_true, hG1.sz, if_neg (n0 h0 (show n < 2 ^ 31 by omega)), show f_X8_doesPlain 65 0 (sI M1 1 10 (nI (V 2 1))) = some M4 from d1, RQ d2.1]
    rw [show aI M4 66 1973 = _ from aI_k (j := 1973) (by simp only [KQ d2.1]) (by simp only [LQ]; omega), show aI M4 66 1 = _ from aI_k (j := 1) (by simp only [KQ d2.1]) (by simp only [LQ]; omega), show mI M4 66 1973 = _ from d3.1, d2.2.2.2.2 1 (by omega), show mI (sI M1 1 10 (nI (V 2 1))) 66 1 = _ from hP1.1, hz.2.2.2]
    simp only [Option.bind_some, pk_sub (Nat.le_add_right _ _), Nat.add_sub_cancel_left]
    rw [pI_k (by simp only [KQ d2.1]), Option.bind_some]
    have hS5 : SF (sI M4 65 12 (nI (V 2 1))) := d2.1
    simp only [RQ hS5, Option.bind_some]
    rw [show aI (sI M4 65 12 (nI (V 2 1))) 66 1974 = _ from aI_k (j := 1974) (by simp only [KQ hS5]) (by simp only [LQ]; omega), show aI (sI M4 65 12 (nI (V 2 1))) 66 2 = _ from aI_k (j := 2) (by simp only [KQ hS5]) (by simp only [LQ]; omega), mI_sI_row (x := 65) (y := 66) (by decide), show mI M4 66 1974 = _ from d3.2.1, d2.2.2.2.2 2 (by omega), show mI (sI M1 1 10 (nI (V 2 1))) 66 2 = _ from hP1.2.1, hz.2.2.1]
    have v64 := lt64 hnm.2.1 p4.2.1
    have s64 := lt64 hnm.2.1 hB.2.1
    simp only [Option.bind_some, pcY _ v64, pcY _ s64, show mI M 22 2 = _ from hN.1, mI_sI_row (show 25 ≠ 1 by decide), show mI M1 25 2 = _ from p3.1, pcX _ v64, pcX _ s64, if_true]
    exact ⟨_, rfl, h.sc2 p2 d2⟩
