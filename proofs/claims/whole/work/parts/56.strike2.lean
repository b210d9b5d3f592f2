theorem mo_congr {G A B : Nat → Nat → Nat} {n m : Nat} (h0 : ∀ j, A 0 j = B 0 j) (h2 : A 2 0 = B 2 0) : mo G n m A = mo G n m B := by
  have hc : ∀ i o, can G A i o = can G B i o := fun i o => by unfold can; rw [h0, h2]
  unfold mo moI
  simp only [hc]
theorem lb_congr {G A B : Nat → Nat → Nat} {n m : Nat} (h0 : ∀ j, A 0 j = B 0 j) (h2 : A 2 0 = B 2 0) : lb G n m A = lb G n m B := by
  unfold lb
  rw [mo_congr h0 h2]
  exact iter_congr n 0 _ (fun i a _ _ => by
    rw [mo_congr (A := set0 A i) (B := set0 B i) (fun j => by unfold set0; rw [h0]) (by unfold set0; rw [if_neg (by omega), if_neg (by omega)]; exact h2)])
theorem lb_le {M : Mem} {r n m : Nat} {G : Nat → Nat → Nat} (h : Gd M r n m G) (S : Nat → Nat → Nat) : lb G n m S ≤ 11 := Nat.le_trans (full_le _ _ _) (mo_le h S)
def skS (G : Nat → Nat → Nat) (n m : Nat) (S : Nat → Nat → Nat) (i o b : Nat) : Nat := if can G S i o = true then max b (bg (G 0 i) (G 4 o) + lb G n m (sighed G S i o)) else b
theorem skS_le {M : Mem} {r n m : Nat} {G : Nat → Nat → Nat} (h : Gd M r n m G) {S : Nat → Nat → Nat} {i o b : Nat} (hi : i < n) (ho : o < m) (hb : b ≤ 22) : skS G n m S i o b ≤ 22 := by
  have h1 := bg_le _ (h.s hi).1.2.2 (G 4 o) (by have := (h.o ho).2.2.2.2; omega)
  have h2 := lb_le h (sighed G S i o)
  unfold skS
  by_cases c : can G S i o = true
  · rw [if_pos c]; exact Nat.max_le.mpr ⟨hb, by omega⟩
  · rw [if_neg c]; exact hb
theorem got_X {M : Mem} {r n m : Nat} {G S : Nat → Nat → Nat} {g : Nat} (h : Gd M r n m G) (hN : NwP n (zg S g) (mI M 25) (mI M (25 + 1)) (mI M (25 + 2))) (hW : Wk n S) (hd6 : S 2 0 < 2 ^ m) (dp : Nat) {i o b : Nat} (hi : i < n) (ho : o < m) (hc : can G S i o = true) (hb : b ≤ 22) : ∃ v N, f_X7_goldOfTurn (f_X7_guildTurn (dp + 1)) 1 (nI i) (nI o) 2 (nI b) M = some (nI v, N) ∧ max b v = max b (bg (G 0 i) (G 4 o) + lb G n m (sighed G S i o)) ∧ v < 100 ∧ FrA M N ∧ ∃ g', NwP n (zg S g') (mI N 25) (mI N (25 + 1)) (mI N (25 + 2)) := by
  have hnm := h.nm
  have hbg := bg_le _ (h.s hi).1.2.2 (G 4 o) (by have := (h.o ho).2.2.2.2; omega)
  obtain ⟨M', q1, q2, q3, q4, q5, q6⟩ := sighOrder_X h (Or.inr rfl) hN hW.1 hi ho (hW.2 i hi) hc
  have hG' : Gd M' r n m G := h.congr q2 (by rw [q3]) (fun x hx => q5 x (by omega) (by omega)) (by rw [q5 65 (by omega) (by omega)]) (by rw [q5 65 (by omega) (by omega)])
  have hW' : Wk n (sighed G (zg S g) i o) := by
    refine ⟨?_, fun j hj => ?_⟩
    · show S 2 0 ||| 2 ^ o < 64
      exact lt64 hnm.2.1 (Nat.or_lt_two_pow hd6 (Nat.pow_lt_pow_right (by decide) ho))
    · show (if j = i then S 0 i - tk (G 0 i) (G 3 o) else S 0 j) ≤ 9
      by_cases hji : j = i
      · rw [if_pos hji]; have := hW.2 i hi; omega
      · rw [if_neg hji]; exact hW.2 j hj
  have st := st2_X hG' q6 hW' dp (nI b - nI (bg (G 0 i) (G 4 o)))
  have hen : (nI b - nI (bg (G 0 i) (G 4 o))).toInt = (b : Int) - (bg (G 0 i) (G 4 o) : Nat) := pk_sub_toInt (by omega) (by omega)
  rw [hen] at st
  obtain ⟨s1, s2, s3⟩ := stq_spec (G := G) (n := n) (m := m) (S := sighed G (zg S g) i o) (en := (b : Int) - (bg (G 0 i) (G 4 o) : Nat)) n 0 (mo G n m (sighed G (zg S g) i o))
  have hlb : lb G n m (sighed G (zg S g) i o) = lb G n m (sighed G S i o) := lb_congr (fun j => rfl) rfl
  have hmo := mo_le h (sighed G (zg S g) i o)
  replace s1 : (b : Int) - (bg (G 0 i) (G 4 o) : Nat) < (lb G n m (sighed G (zg S g) i o) : Nat) → stq G n m (sighed G (zg S g) i o) ((b : Int) - (bg (G 0 i) (G 4 o) : Nat)) n 0 (mo G n m (sighed G (zg S g) i o)) = lb G n m (sighed G (zg S g) i o) := s1
  replace s2 : ((lb G n m (sighed G (zg S g) i o) : Nat) : Int) ≤ (b : Int) - (bg (G 0 i) (G 4 o) : Nat) → ((stq G n m (sighed G (zg S g) i o) ((b : Int) - (bg (G 0 i) (G 4 o) : Nat)) n 0 (mo G n m (sighed G (zg S g) i o)) : Nat) : Int) ≤ (b : Int) - (bg (G 0 i) (G 4 o) : Nat) := s2
  rw [hlb] at s1 s2
  generalize stq G n m (sighed G (zg S g) i o) ((b : Int) - (bg (G 0 i) (G 4 o) : Nat)) n 0 (mo G n m (sighed G (zg S g) i o)) = w at *
  unfold f_X7_goldOfTurn
  rw [if_pos (by simp only [KQ h.1]), h.R, Option.bind_some, goF h hi ho, Option.bind_some, if_pos (show (1 : Int32) < 2 by decide)]
  simp only [RQ h.1, h.R, Option.bind_some]
  rw [aI_k (by simp only [KQ h.1]) (by simp only [LQ]; omega), Option.bind_some, gI_k (by simp only [KQ h.1]), Option.bind_some, q1, Option.bind_some, st, Option.bind_some]
  simp only [RQ q2, Option.bind_some]
  rw [eI_k (by simp only [KQ q2]) (by simp only [LQ]; omega), Option.bind_some]
  have hS3 : SF (sI M' 26 i (mI M 26 i)) := q2
  simp only [RQ hS3, Option.bind_some]
  rw [pI_k (by simp only [KQ hS3]), Option.bind_some, nI_add]
  refine ⟨bg (G 0 i) (G 4 o) + w, _, rfl, ?_, by omega, ⟨q2, q3, q4, fun x hx => ?_⟩, g + bg (G 0 i) (G 4 o), ?_, ?_, fun j hj => ⟨?_, ?_⟩⟩
  · by_cases c : (b : Int) - (bg (G 0 i) (G 4 o) : Nat) < (lb G n m (sighed G S i o) : Nat)
    · rw [s1 c]
    · have := s2 (by omega)
      rw [Nat.max_eq_left (by omega), Nat.max_eq_left (by omega)]
  · rw [mI_sI_row (by omega), mI_sI_row (by omega), q5 x (by omega) (by omega)]
  · rw [mI_sI, if_pos ⟨rfl, rfl⟩]; exact hN.1
  · rw [mI_sI, if_neg (by decide), mI_sI_row (by decide)]; exact q6.2.1
  · rw [mI_sI_row (by decide), mI_sI]
    by_cases hji : j = i
    · rw [if_pos ⟨rfl, hji⟩, hji]; exact (hN.2.2 i hi).1
    · rw [if_neg (fun q => hji q.2), (q6.2.2 j hj).1]
      show nI (if j = i then _ else S 0 j) = nI (S 0 j)
      rw [if_neg hji]
  · rw [mI_sI_row (by decide), mI_sI_row (by decide), (q6.2.2 j hj).2]; rfl
theorem gt2_X {M : Mem} {r n m : Nat} {G S : Nat → Nat → Nat} (h : Gd M r n m G) (hN : NwP n S (mI M 25) (mI M (25 + 1)) (mI M (25 + 2))) (hW : Wk n S) (hd6 : S 2 0 < 2 ^ m) (dp : Nat) : ∃ N, f_X7_guildTurn (dp + 2) 1 2 M = some (nI (iter (fun i b => iter (fun o b => skS G n m S i o b) 0 m b) 0 n (lb G n m S)), N) ∧ FrA M N := by
  have hnm := h.nm
  have hl := lb_le h S
  have hst : stq G n m S 0 n 0 (mo G n m S) = lb G n m S := by
    obtain ⟨s1, s2, s3⟩ := stq_spec (G := G) (n := n) (m := m) (S := S) (en := 0) n 0 (mo G n m S)
    replace s1 : (0 : Int) < (lb G n m S : Nat) → stq G n m S 0 n 0 (mo G n m S) = lb G n m S := s1
    replace s2 : ((lb G n m S : Nat) : Int) ≤ 0 → ((stq G n m S 0 n 0 (mo G n m S) : Nat) : Int) ≤ 0 := s2
    by_cases c : (0 : Int) < (lb G n m S : Nat)
    · exact s1 c
    · have := s2 (by omega)
      omega
  have hz : S = zg S (S 2 1) := by
    funext a j
    unfold zg
    by_cases q : a = 2 ∧ j = 1
    · rw [if_pos q, q.1, q.2]
    · rw [if_neg q]
  have inner : ∀ (k : Nat → Int32 → Int32 → Int32 → Mem → Option (Int32 × Mem)) (i : Nat), i < n → ∀ (N : Mem) (b g : Nat), b ≤ 22 → FrA M N → NwP n (zg S g) (mI N 25) (mI N (25 + 1)) (mI N (25 + 2)) → ∃ N' g', f_X7_guildTurn_34 (f_X7_guildTurn (dp + 1)) k FU 1 2 (nI b) (nI i) 0 N = k 1 2 (nI (iter (fun o b => skS G n m S i o b) 0 m b)) (nI i + 1) N' ∧ FrA M N' ∧ NwP n (zg S g') (mI N' 25) (mI N' (25 + 1)) (mI N' (25 + 2)) ∧ iter (fun o b => skS G n m S i o b) 0 m b ≤ 22 := by
    intro k i hi N b g hb hF hNg
    obtain ⟨s', p1, p2⟩ := lp_ex (F := fun fu o (t : Nat × Mem) => f_X7_guildTurn_34 (f_X7_guildTurn (dp + 1)) k fu 1 2 (nI t.1) (nI i) (nI o) t.2) m (fun t => k 1 2 (nI t.1) (nI i + 1) t.2) (fun o t => t.1 = iter (fun o b => skS G n m S i o b) 0 o b ∧ t.1 ≤ 22 ∧ FrA M t.2 ∧ ∃ g', NwP n (zg S g') (mI t.2 25) (mI t.2 (25 + 1)) (mI t.2 (25 + 2)))
      (fun fu t hI => by
        have hGN := hI.2.2.1.g h
        simp only [f_X7_guildTurn_34, hGN.R, hGN.sz, Option.bind_some]; rw [if_pos (Int32.le_refl _)])
      (fun fu o t ho hI => by
        obtain ⟨i1, i2, i3, g', i4⟩ := hI
        have hGN := i3.g h
        have hle := skS_le h (S := S) hi ho i2
        simp only [f_X7_guildTurn_34, hGN.R, hGN.sz, Option.bind_some, RQ i3.1, able_X hGN (Or.inr rfl) i4 hW.1 hi ho (hW.2 i hi), nI_1]
        rw [if_neg (nI_ge ho (by omega))]
        have hcz : can G (zg S g') i o = can G S i o := rfl
        rw [hcz]
        by_cases c : can G S i o = true
        · obtain ⟨v, N', u1, u2, u3, u4, g2, u5⟩ := got_X hGN i4 hW hd6 dp hi ho c i2
          simp only [c, if_true, show ¬ (1 : Int32) = 0 by decide, if_false]
          rw [u1]
          simp only [Option.bind_some]
          rw [mxI (by omega) (by omega), u2]
          refine ⟨(max t.1 (bg (G 0 i) (G 4 o) + lb G n m (sighed G S i o)), N'), rfl, ?_, ?_, i3.tr u4, g2, u5⟩
          · rw [iter_snoc, ← i1]; unfold skS; rw [if_pos c]
          · unfold skS at hle; rw [if_pos c] at hle; exact hle
        · simp only [c, if_false, Bool.false_eq_true, if_true]
          refine ⟨t, rfl, ?_, i2, i3, g', i4⟩
          rw [iter_snoc, ← i1]; unfold skS; rw [if_neg c])
      m FU 0 (b, N) (by omega) (by unfold FU; omega) ⟨rfl, hb, hF, g, hNg⟩
    obtain ⟨i1, i2, i3, g', i4⟩ := p2
    rw [i1] at i2
    refine ⟨s'.2, g', ?_, i3, i4, i2⟩
    rw [← i1]
    exact p1
  obtain ⟨s', p1, p2⟩ := lp_ex (F := fun fu i (t : Nat × Mem) => f_X7_guildTurn_20 (f_X7_guildTurn (dp + 1)) fu 1 2 (nI t.1) (nI i) t.2) n (fun t => some (nI t.1, t.2)) (fun i t => t.1 = iter (fun i b => iter (fun o b => skS G n m S i o b) 0 m b) 0 i (lb G n m S) ∧ t.1 ≤ 22 ∧ FrA M t.2 ∧ ∃ g', NwP n (zg S g') (mI t.2 25) (mI t.2 (25 + 1)) (mI t.2 (25 + 2)))
    (fun fu t hI => by
      have hGN := hI.2.2.1.g h
      simp only [f_X7_guildTurn_20, hGN.R, hGN.sz, Option.bind_some]; rw [if_pos (Int32.le_refl _)])
    (fun fu i t hi hI => by
      obtain ⟨i1, i2, i3, g', i4⟩ := hI
      have hGN := i3.g h
      obtain ⟨N', g2, u1, u2, u3, u4⟩ := inner (f_X7_guildTurn_20 (f_X7_guildTurn (dp + 1)) fu) i hi t.2 t.1 g' i2 i3 i4
      refine ⟨(iter (fun o b => skS G n m S i o b) 0 m t.1, N'), ?_, ?_, u4, u2, g2, u3⟩
      · simp only [f_X7_guildTurn_20, hGN.R, hGN.sz, Option.bind_some]
        rw [if_neg (nI_ge hi (by omega)), u1, nI_1]
      · rw [iter_snoc, ← i1])
    n FU 0 (lb G n m S, M) (by omega) (by unfold FU; omega) ⟨rfl, by show lb G n m S ≤ 22; omega, ⟨h.1, rfl, rfl, fun x _ => rfl⟩, S 2 1, by rw [← hz]; exact hN⟩
  refine ⟨s'.2, ?_, p2.2.2.1⟩
  show f_X7_guildTurn_b (f_X7_guildTurn (dp + 1)) 1 2 M = _
  unfold f_X7_guildTurn_b
  rw [if_pos (by simp only [KQ h.1]), if_neg (show ¬ (2 : Int32) ≤ 0 by decide), if_pos (show (2 : Int32) ≤ 2 by decide), st2_X h hN hW dp 0, Option.bind_some, show (0 : Int32).toInt = 0 from rfl, hst, ← p2.1]
  rw [nI_0] at p1
  exact p1
