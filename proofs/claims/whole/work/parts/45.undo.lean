/-! ===== undo(), keep(), on() ===== -/
theorem lp_ex {σ ρ : Type} (F : Nat → Nat → σ → ρ) (m : Nat) (ex : σ → ρ) (I : Nat → σ → Prop) (hx : ∀ fu s, I m s → F (fu + 1) m s = ex s) (hs : ∀ fu j s, j < m → I j s → ∃ s', F (fu + 1) j s = F fu (j + 1) s' ∧ I (j + 1) s') : ∀ (k fu j : Nat) (s : σ), j + k = m → k < fu → I j s → ∃ s', F fu j s = ex s' ∧ I m s' := by
  intro k
  induction k with
  | zero =>
    intro fu j s hj hf hI
    obtain ⟨fu, rfl⟩ : ∃ f, fu = f + 1 := ⟨fu - 1, by omega⟩
    have hjm : j = m := by omega
    subst hjm
    exact ⟨s, hx fu s hI, hI⟩
  | succ k ih =>
    intro fu j s hj hf hI
    obtain ⟨fu, rfl⟩ : ∃ f, fu = f + 1 := ⟨fu - 1, by omega⟩
    obtain ⟨s', h1, h2⟩ := hs fu j s (by omega) hI
    rw [h1]
    exact ih fu (j + 1) s' (by omega) (by omega) h2
theorem begin_X {M : Mem} {r n m : Nat} {G : Nat → Nat → Nat} (h : Gd M r n m G) : ∃ M', f_X6_begin 22 r M = some M' ∧ SF M' ∧ mR M' = mR M ∧ mL M' = mL M ∧ (∀ x, x < 22 ∨ 24 < x → mI M' x = mI M x) ∧ NwP n (st0 G) (mI M' 22) (mI M' (22 + 1)) (mI M' (22 + 2)) := by
  have hnm := h.nm
  have hr := h.2.1
  unfold f_X6_begin
  simp only [KQ h.1, RQ h.1, if_true, Option.bind_some, rollF h.1 h.2.1]
  rw [show cpI M (r + 2) 0 23 0 5 = _ from cpI_k (a := 0) (b := 0) (n := 5) (by simp only [rollF h.1 h.2.1]) (by simp only [KQ h.1]) (by simp only [rollL h.2.1]; omega) (by simp only [LQ]; omega), Option.bind_some]
  generalize hM5 : sW M 23 (va_cpy (mI M (r + 2)) (mI M 23) 0 0 5) = M5
  have hS5 : SF M5 := by rw [← hM5]; exact h.1
  simp only [RQ hS5, Option.bind_some]
  rw [fillI (by simp only [KQ hS5]), Option.bind_some, pI_k (by rw [kd_sW]; simp only [KQ hS5]), Option.bind_some, pI_k (by rw [kd_sI, kd_sW]; simp only [KQ hS5]), Option.bind_some]
  simp only [LQ]
  refine ⟨_, rfl, hS5, by rw [← hM5]; rfl, by rw [← hM5]; rfl, fun x hx => ?_, ?_, ?_, fun i hi => ⟨?_, ?_⟩⟩
  · rw [mI_sI_row (by omega), mI_sI_row (by omega), mI_ne (by omega), ← hM5, mI_ne (by omega)]
  · rw [mI_sI, if_neg (by omega), mI_sI, if_pos ⟨rfl, rfl⟩]; rfl
  · rw [mI_sI, if_pos ⟨rfl, rfl⟩]; rfl
  · rw [mI_sI_row (by omega), mI_sI_row (by omega), mI_ne (by omega), ← hM5, mI_eq, pk_cpy_in (by omega) (by omega)]
    show mI M (r + 2) (0 + (i - 0)) = nI (G 5 i)
    rw [show 0 + (i - 0) = i by omega]
    exact (h.s hi).2.2.1
  · rw [mI_sI_row (by omega), mI_sI_row (by omega), mI_eq, if_pos (by omega)]; rfl
theorem doAgain_X {M : Mem} {r n m : Nat} {G : Nat → Nat → Nat} {d : Nat} {cd : Nat → Nat} (h : Gd M r n m G) (e28 : mI M 28 1 = nI d) (hd : d ≤ 40) (hc : ∀ k, k < d → mI M 29 k = nI (cd k) ∧ okc n m (cd k)) : ∃ M', f_X7_doAgain 1 M = some M' ∧ SF M' ∧ mR M' = mR M ∧ mL M' = mL M ∧ (∀ x, x < 22 ∨ 24 < x → mI M' x = mI M x) ∧ NwP n (run G cd d) (mI M' 22) (mI M' (22 + 1)) (mI M' (22 + 2)) := by
  have hnm := h.nm
  obtain ⟨M6, b1, b2, b3, b4, b5, b6⟩ := begin_X h
  unfold f_X7_doAgain
  simp only [KQ h.1, RQ h.1, h.R, if_true, Option.bind_some, b1]
  obtain ⟨M', p1, p2⟩ := lp_ex (F := fun fu j (N : Mem) => f_X7_doAgain_13 fu 1 (nI j) N) d (fun N => some N) (fun j N => SF N ∧ mR N = mR M ∧ mL N = mL M ∧ (∀ x, x < 22 ∨ 24 < x → mI N x = mI M x) ∧ NwP n (run G cd j) (mI N 22) (mI N (22 + 1)) (mI N (22 + 2)))
    (fun fu N hI => by
      obtain ⟨i1, i2, i3, i4, i5⟩ := hI
      simp only [f_X7_doAgain_13, RQ i1, KQ i1, gI_k, Option.bind_some]
      rw [i4 28 (by omega), e28, if_pos (Int32.le_refl _)])
    (fun fu j N hj hI => by
      obtain ⟨i1, i2, i3, i4, i5⟩ := hI
      have hGN : Gd N r n m G := h.congr i1 (by rw [i2]) (fun x hx => i4 x (by omega)) (by rw [i4 65 (by omega)]) (by rw [i4 65 (by omega)])
      obtain ⟨N', q1, q2, q3, q4, q5, q6⟩ := perform_X hGN i5 (hGN.runB (fun k hk => (hc k (by omega)).2)) (hc j hj).2
      refine ⟨N', ?_, q2, q3.trans i2, q4.trans i3, fun x hx => (q5 x hx).trans (i4 x hx), q6⟩
      simp only [f_X7_doAgain_13, RQ i1, KQ i1, gI_k, hGN.R, Option.bind_some]
      rw [i4 28 (by omega), e28, if_neg (nI_ge hj (by omega)), if_neg (show ¬ (40 : Int32) ≤ nI j from nI_ge (b := 40) (by omega) (by decide)), aI_k (by simp only [KQ i1]) (by simp only [LQ]; omega), Option.bind_some, i4 29 (by omega), (hc j hj).1, q1, Option.bind_some, nI_1])
    d FU 0 M6 (by omega) (by unfold FU; omega) ⟨b2, b3, b4, b5, b6⟩
  exact ⟨M', p1, p2⟩
theorem op16 {M : Mem} (h : Inv M) (a1 : Int32) : ∃ M', lawOp_16 a1 M = some M' ∧ Inv M' := by
  have hS := h.1
  obtain ⟨r, s, n, m, G, d, cd, hR, hH, hG, hN, hP, hB, hd⟩ := h.op
  obtain ⟨hC, hM⟩ := Inv.hf hH
  have hnm := hG.nm
  have eb : (Int32.toInt64 (nI d)).toInt = ((d + 1 : Nat) : Int) - 1 := by rw [Int32.toInt_toInt64, nI_toInt (by omega)]; omega
  unfold lawOp_16 f_X7_undo f_X8_undo
  simp only [KQ hS, if_true, RQ hS, Option.bind_some, gI_k, hC.2.1]
  rcases ixc a1 (d + 1) (by omega) with h1 | ⟨k, hk, rfl⟩
  · have ei : f_X8_in (Int32.toInt64 a1) 0 (Int32.toInt64 (nI d)) = 0 := in_bad (n := d + 1) (by omega) eb h1
    have emod : ∀ qv2 : Int32 × Mem, qv2 = (-1, M) → (∃ M', ((if kd qv2.2 65 = 18 then (gR qv2.2 18 65 0).bind fun v1 => (aI qv2.2 v1 0).bind fun v3 => if f_X8_in (Int32.toInt64 a1) 0 (Int32.toInt64 v3) = 0 then some (-1, qv2.2) else (gR qv2.2 18 65 0).bind fun v6 => (aI qv2.2 v6 0).bind fun v8 => f_X8_undo_29 FU 65 a1 (v8 - a1) 0 qv2.2 else none).bind fun qv5 => if qv2.1 = qv5.1 then some qv5.2 else none) = some M' ∧ Inv M') := by
      intro qv2 e
      subst e
      simp only [KQ hS, RQ hS, if_true, Option.bind_some]
      rw [show aI M 66 0 = _ from aI_k (j := 0) (by simp only [KQ hS]) (by simp only [LQ]; omega), hM.1]
      simp only [Option.bind_some, ei, if_true]
      exact ⟨M, rfl, h⟩
    by_cases q : a1 < 0
    · simp only [if_pos q, Option.bind_some]
      exact emod (-1, M) rfl
    · have q2 : ¬ a1 ≤ nI d := by
        have := h1.resolve_left q
        rw [Int32.le_iff_toInt_le, nI_toInt (by omega)] at this
        rw [Int32.le_iff_toInt_le, nI_toInt (by omega)]
        omega
      simp only [if_neg q, if_neg q2, Option.bind_some]
      exact emod (-1, M) rfl
  · have ei : f_X8_in (Int32.toInt64 (nI k)) 0 (Int32.toInt64 (nI d)) = 1 := in_ok (n := d + 1) (by omega) eb hk
    simp only [if_neg (nI_pos (show k < 2 ^ 31 by omega)), if_pos (nI_le (show k ≤ d by omega) (show d < 2 ^ 31 by omega)), pk_sub (show k ≤ d by omega)]
    by_cases hkd : k = d
    · subst hkd
      rw [Nat.sub_self, if_pos (show nI 0 ≤ 0 from Int32.le_refl _)]
      simp only [Option.bind_some, KQ hS, RQ hS, if_true]
      rw [show aI M 66 0 = _ from aI_k (j := 0) (by simp only [KQ hS]) (by simp only [LQ]; omega), hM.1]
      simp only [Option.bind_some, ei, show ¬ (1 : Int32) = 0 by decide, if_false, pk_sub (Nat.le_refl k), Nat.sub_self]
      have el : f_X8_undo_29 FU 65 (nI k) (nI 0) 0 M = some (nI 0, sI M 66 0 (nI k)) := by
        obtain ⟨fu, hfu⟩ : ∃ f, FU = f + 1 := ⟨99999, rfl⟩
        rw [hfu]
        simp only [f_X8_undo_29]
        rw [if_neg (show ¬ (12 : Int32) ≤ 0 by decide), if_pos (show nI 0 ≤ 0 from Int32.le_refl _)]
        simp only [RQ hS, Option.bind_some]
        rw [show eI M 66 0 (nI k) = _ from eI_k (j := 0) (by simp only [KQ hS]) (by simp only [LQ]; omega), Option.bind_some]
      rw [el]
      simp only [Option.bind_some, if_true]
      have em : ∀ x j, mI (sI M 66 0 (nI k)) x j = mI M x j := by
        intro x j
        rw [mI_sI]
        by_cases hq : x = 66 ∧ j = 0
        · rw [if_pos hq, hq.1, hq.2, hM.1]
        · rw [if_neg hq]
      have em1 : ∀ x, mI (sI M 66 0 (nI k)) x = mI M x := fun x => funext (em x)
      exact ⟨_, rfl, h.deeds hR hH hS rfl rfl (fun x _ _ => em1 x) (fun j _ => em 66 j) (hC.congr (fun x _ => em1 x)) (by rw [em1 66]; exact hM)⟩
    · rw [if_neg (show ¬ nI (d - k) ≤ 0 from nI_nle (by omega) (by omega)), pI_k (by simp only [KQ hS]), Option.bind_some]
      generalize hM1 : sI M 28 1 (nI k) = M1
      have hS1 : SF M1 := by rw [← hM1]; exact hS
      have e1 : ∀ x, x ≠ 28 → mI M1 x = mI M x := fun x hx => by rw [← hM1, mI_sI_row hx]
      have hG1 : Gd M1 r n m G := hG.congr hS1 (by rw [← hM1]; rfl) (fun x hx => e1 x (by omega)) (by rw [e1 65 (by omega)]) (by rw [e1 65 (by omega)])
      obtain ⟨M2, a1, a2, a3, a4, a5, a6⟩ := doAgain_X (cd := cd) hG1 (d := k) (by rw [← hM1, mI_sI, if_pos ⟨rfl, rfl⟩]) (by omega) (fun j hj => by rw [e1 29 (by omega)]; exact hC.2.2.1 j (by omega))
      rw [a1]
      simp only [Option.bind_some, KQ a2, RQ a2, if_true]
      have e66 : mI M2 66 = mI M 66 := by rw [a5 66 (by omega), e1 66 (by omega)]
      rw [show aI M2 66 0 = _ from aI_k (j := 0) (by simp only [KQ a2]) (by simp only [LQ]; omega), e66, hM.1]
      simp only [Option.bind_some, ei, show ¬ (1 : Int32) = 0 by decide, if_false, pk_sub (show k ≤ d by omega)]
      have key := lp_up (F := fun fu j (N : Mem) => f_X8_undo_29 fu 65 (nI k) (nI (d - k)) (nI j) N) 12 (fun N => some (nI (d - k), sI N 66 0 (nI k))) (fun j N => sI N 66 (1 + j) (mI M 66 (13 + 12 * k + j))) (fun j N => SF N ∧ ∀ i, 13 ≤ i → mI N 66 i = mI M 66 i)
        (fun fu N hI => by
          simp only [f_X8_undo_29]
          rw [if_pos (show (12 : Int32) ≤ nI 12 from Int32.le_refl _)]
          simp only [RQ hI.1, Option.bind_some]
          rw [show eI N 66 0 (nI k) = _ from eI_k (j := 0) (by simp only [KQ hI.1]) (by simp only [LQ]; omega), Option.bind_some])
        (fun fu j N hj hI => by
          refine ⟨?_, hI.1, fun i hi => ?_⟩
          · simp only [f_X8_undo_29]
            rw [if_neg (show ¬ (12 : Int32) ≤ nI j from nI_ge (b := 12) hj (by omega)), if_neg (show ¬ nI (d - k) ≤ 0 from nI_nle (by omega) (by omega))]
            simp only [RQ hI.1, Option.bind_some]
            rw [show (13 : Int32) + 12 * nI k + nI j = nI (13 + 12 * k + j) from by rw [show (12 : Int32) = nI 12 from rfl, show (13 : Int32) = nI 13 from rfl, pk_mul, nI_add, nI_add], aI_k (by simp only [KQ hI.1]) (by simp only [LQ]; omega), Option.bind_some, hI.2 _ (by omega), show (1 : Int32) + nI j = nI (1 + j) from nI_add 1 j, eI_k (by simp only [KQ hI.1]) (by simp only [LQ]; omega), Option.bind_some, nI_1]
          · rw [mI_sI, if_neg (by omega)]; exact hI.2 i hi)
        12 FU 0 M2 (by omega) (by unfold FU; omega) ⟨a2, fun i _ => by rw [e66]⟩
      rw [show f_X8_undo_29 FU 65 (nI k) (nI (d - k)) 0 M2 = _ from key.1, iter_sI (M := M2) (x := 66) (p := 1) (v := fun j => mI M 66 (13 + 12 * k + j)) 12]
      simp only [Option.bind_some, if_true]
      have ej : ∀ j, mI (sI (sW M2 66 (fun i => if 1 ≤ i ∧ i < 1 + 12 then mI M 66 (13 + 12 * k + (i - 1)) else mI M2 66 i)) 66 0 (nI k)) 66 j = if j = 0 then nI k else if 1 ≤ j ∧ j < 13 then mI M 66 (13 + 12 * k + (j - 1)) else mI M 66 j := by
        intro j
        rw [mI_sI, mI_eq, e66]
        simp only [true_and]
      have ex : ∀ x, x ≠ 66 → mI (sI (sW M2 66 (fun i => if 1 ≤ i ∧ i < 1 + 12 then mI M 66 (13 + 12 * k + (i - 1)) else mI M2 66 i)) 66 0 (nI k)) x = mI M2 x := by
        intro x hx
        rw [mI_sI_row hx, mI_ne hx]
      refine ⟨_, rfl, h.deeds (d' := k) (cd' := cd) hR hH a2 (a3.trans (by rw [← hM1]; rfl)) (a4.trans (by rw [← hM1]; rfl)) (fun x h1 h2 => ?_) (fun j hj => ?_) ⟨by omega, ?_, fun j hj => ?_, ?_⟩ ⟨?_, ?_, fun j hj => ?_⟩⟩
      · rw [ex x h2, a5 x (by omega), e1 x (by omega)]
      · rw [ej, if_neg (by omega), if_neg (by omega)]
      · rw [ex 28 (by decide), a5 28 (by omega), ← hM1, mI_sI, if_pos ⟨rfl, rfl⟩]
      · rw [ex 29 (by decide), a5 29 (by omega), e1 29 (by omega)]; exact hC.2.2.1 j (by omega)
      · rw [ex 22 (by decide), ex (22 + 1) (by decide), ex (22 + 2) (by decide)]; exact a6
      · rw [ej, if_pos rfl]
      · refine (hM.2.2 k (by omega)).move hnm.1 (fun j q1 q2 => ?_)
        rw [ej, if_neg (by omega), if_pos (by omega), show 13 + 12 * k + (0 + j - 1) = 0 + 12 + 12 * k + j by omega]
      · refine (hM.2.2 j (by omega)).congr hnm.1 (fun i q1 q2 => ?_)
        rw [ej, if_neg (by omega), if_neg (by omega)]
theorem copyGuild_Y {M : Mem} (h : SF M) {a b : Nat} (ha : a + 493 ≤ 1998) (hb : b + 493 ≤ 1998) (hab : a + 493 ≤ b ∨ b + 493 ≤ a) : f_X8_copyGuild 65 (nI a) (nI b) M = some (sW M 66 (fun j => if b ≤ j ∧ j < b + 493 then mI M 66 (a + (j - b)) else mI M 66 j)) := by
  unfold f_X8_copyGuild
  simp only [KQ h, if_true]
  have key := lp_up (F := fun fu j (N : Mem) => f_X8_copyGuild_2 fu 65 (nI a) (nI b) (nI j) N) 493 (fun N => some N) (fun j N => sI N 66 (b + j) (mI M 66 (a + j))) (fun j N => SF N ∧ ∀ i, a ≤ i → i < a + 493 → mI N 66 i = mI M 66 i)
    (fun fu N hI => by
      simp only [f_X8_copyGuild_2]
      rw [if_pos (show (493 : Int32) ≤ nI 493 from Int32.le_refl _)])
    (fun fu j N hj hI => by
      refine ⟨?_, hI.1, fun i h1 h2 => ?_⟩
      · simp only [f_X8_copyGuild_2]
        rw [if_neg (show ¬ (493 : Int32) ≤ nI j from nI_ge (b := 493) hj (by omega))]
        simp only [RQ hI.1, Option.bind_some, nI_add]
        rw [aI_k (by simp only [KQ hI.1]) (by simp only [LQ]; omega), Option.bind_some, hI.2 _ (by omega) (by omega), eI_k (by simp only [KQ hI.1]) (by simp only [LQ]; omega), Option.bind_some, nI_1]
      · rw [mI_sI, if_neg (by omega)]; exact hI.2 i h1 h2)
    493 FU 0 M (by omega) (by unfold FU; omega) ⟨h, fun i _ _ => rfl⟩
  refine (show f_X8_copyGuild_2 FU 65 (nI a) (nI b) 0 M = _ from key.1).trans ?_
  rw [iter_sI (M := M) (x := 66) (p := b) (v := fun j => mI M 66 (a + j)) 493]
theorem deedF {M : Mem} (h : SF M) {x : Nat} (hx : x = 28 ∨ x = 59 ∨ x = 61 ∨ x = 63) : kd M x = 10 ∧ gR M 10 x 0 = some (x + 1) ∧ kd M (x + 1) = 1 ∧ ln (x + 1) = 40 := by
  rcases hx with rfl | rfl | rfl | rfl
  all_goals exact ⟨h.k (by decide +kernel) (by decide), gR_k (h.k (by decide +kernel) (by decide)) (h.r (by decide +kernel)) (by decide), h.k (by decide +kernel) (by decide), by decide +kernel⟩
theorem takeOver_D {M : Mem} (h : SF M) {x y : Nat} (hx : x = 28 ∨ x = 59 ∨ x = 61 ∨ x = 63) (hy : y = 28 ∨ y = 59 ∨ y = 61 ∨ y = 63) : f_X0_takeOver x y M = some (sI (sW M (x + 1) (va_cpy (mI M (y + 1)) (mI M (x + 1)) 0 0 40)) x 1 (mI M y 1)) := by
  obtain ⟨x1, x2, x3, x4⟩ := deedF h hx
  obtain ⟨y1, y2, y3, y4⟩ := deedF h hy
  unfold f_X0_takeOver
  rw [if_pos x1, y2, Option.bind_some, x2, Option.bind_some, show cpI M (y + 1) 0 (x + 1) 0 40 = _ from cpI_k (a := 0) (b := 0) (n := 40) y3 x3 (by omega) (by omega), Option.bind_some, gI_k (by rw [kd_sW]; exact y1), Option.bind_some, pI_k (by rw [kd_sW]; exact x1), Option.bind_some, mI_ne (by omega)]
theorem keptOf_bad {M : Mem} (h : SF M) {x : Int32} (hx : x < 0 ∨ nI 3 ≤ x) : f_X7_keptOf 1 x M = some 0 := by
  unfold f_X7_keptOf
  by_cases h0 : x < 0
  · simp only [KQ h, if_true, if_pos h0]
  · have h6 : nI 3 ≤ x := hx.resolve_left h0
    simp only [KQ h, RQ h, LQ, if_true, if_neg h0, Option.bind_some, aN_k, if_pos h6]
theorem keptOf_ok {M : Mem} (h : SF M) {q : Nat} (hq : q < 3) : f_X7_keptOf 1 (nI q) M = some (59 + 2 * q) := by
  unfold f_X7_keptOf
  simp only [KQ h, RQ h, LQ, if_true, if_neg (nI_pos (show q < 2 ^ 31 by omega)), Option.bind_some, aN_k, if_neg (nI_ge hq (by omega)), keptF h hq]
theorem j493 (k : Nat) : (493 : Int32) * (1 + nI k) = nI (493 * (k + 1)) := by rw [show (1 : Int32) + nI k = nI (1 + k) from nI_add 1 k, show (493 : Int32) = nI 493 from rfl, pk_mul, Nat.add_comm 1 k]
theorem op17 {M : Mem} (h : Inv M) (a1 : Int32) : ∃ M', lawOp_17 a1 M = some M' ∧ Inv M' := by
  have hS := h.1
  obtain ⟨r, s, n, m, G, d, cd, hR, hH, hG, hN, hP, hB, hd⟩ := h.op
  obtain ⟨hC, hM⟩ := Inv.hf hH
  have hnm := hG.nm
  have hr := hG.2.1
  unfold lawOp_17 f_X7_keep f_X8_keep
  simp only [KQ hS, if_true]
  rcases ixc a1 3 (by omega) with h1 | ⟨k, hk, rfl⟩
  · have ei : f_X8_in (Int32.toInt64 a1) 0 2 = 0 := in_bad (n := 3) (by omega) rfl h1
    simp only [keptOf_bad hS h1, Option.bind_some, if_true, KQ hS, ei]
    exact ⟨M, rfl, h⟩
  · have ei : f_X8_in (Int32.toInt64 (nI k)) 0 2 = 1 := in_ok (n := 3) (by omega) rfl hk
    simp only [keptOf_ok hS hk, Option.bind_some, show ¬ 59 + 2 * k = 0 by omega, if_false, hG.R, hG.sz]
    by_cases h0 : n = 0
    · subst h0
      rw [if_pos (show nI 0 = 0 from rfl)]
      simp only [Option.bind_some, KQ hS, if_true, ei, show ¬ (1 : Int32) = 0 by decide, if_false, hG.sz]
      rw [if_pos (show nI 0 = 0 from rfl)]
      exact ⟨M, rfl, h⟩
    · have hx : 59 + 2 * k = 28 ∨ 59 + 2 * k = 59 ∨ 59 + 2 * k = 61 ∨ 59 + 2 * k = 63 := by omega
      rw [if_neg (n0 h0 (by omega))]
      simp only [RQ hS, Option.bind_some]
      rw [takeOver_D hS hx (Or.inl rfl), Option.bind_some]
      generalize hM1 : sI (sW M (59 + 2 * k + 1) (va_cpy (mI M (28 + 1)) (mI M (59 + 2 * k + 1)) 0 0 40)) (59 + 2 * k) 1 (mI M 28 1) = M1
      have hS1 : SF M1 := by rw [← hM1]; exact hS
      have e1 : ∀ x, x ≠ 59 + 2 * k → x ≠ 60 + 2 * k → mI M1 x = mI M x := fun x h1 h2 => by rw [← hM1, mI_sI_row h1, mI_ne (by omega)]
      have hG1 : Gd M1 r n m G := hG.congr hS1 (by rw [← hM1]; rfl) (fun x hx => e1 x (by omega) (by omega)) (by rw [e1 65 (by omega) (by omega)]) (by rw [e1 65 (by omega) (by omega)])
      have ek : mI M1 (59 + 2 * k) 1 = nI d := by rw [← hM1, mI_sI, if_pos ⟨rfl, rfl⟩]; exact hC.2.1
      have ec : ∀ j, j < 40 → mI M1 (60 + 2 * k) j = mI M 29 j := fun j hj => by
        rw [← hM1, mI_sI_row (by omega), show 59 + 2 * k + 1 = 60 + 2 * k by omega, mI_eq, pk_cpy_in (by omega) (by omega), show 0 + (j - 0) = j by omega]
      have e66 : mI M1 66 = mI M 66 := e1 66 (by omega) (by omega)
      rw [gI_k (deedF hS1 hx).1, ek]
      simp only [Option.bind_some, KQ hS1, if_true, ei, show ¬ (1 : Int32) = 0 by decide, if_false, hG1.sz, if_neg (n0 h0 (show n < 2 ^ 31 by omega)), j493]
      rw [show f_X8_copyGuild 65 0 (nI (493 * (k + 1))) M1 = _ from copyGuild_Y hS1 (a := 0) (b := 493 * (k + 1)) (by omega) (by omega) (by omega), e66]
      simp only [Option.bind_some]
      generalize hM2 : sW M1 66 (fun j => if 493 * (k + 1) ≤ j ∧ j < 493 * (k + 1) + 493 then mI M 66 (0 + (j - 493 * (k + 1))) else mI M 66 j) = M2
      have hS2 : SF M2 := by rw [← hM2]; exact hS1
      have e2 : ∀ x, x ≠ 66 → mI M2 x = mI M1 x := fun x hx => by rw [← hM2, mI_ne hx]
      have ej : ∀ j, mI M2 66 j = if 493 * (k + 1) ≤ j ∧ j < 493 * (k + 1) + 493 then mI M 66 (j - 493 * (k + 1)) else mI M 66 j := fun j => by rw [← hM2, mI_eq, Nat.zero_add]
      have hG2 : Gd M2 r n m G := hG1.congr hS2 (by rw [← hM2]; rfl) (fun x hx => e2 x (by omega)) (by rw [e2 65 (by omega)]) (by rw [e2 65 (by omega)])
      simp only [RQ hS2, Option.bind_some]
      rw [show aI M2 66 0 = _ from aI_k (j := 0) (by simp only [KQ hS2]) (by simp only [LQ]; omega), ej 0, if_neg (by omega), hM.1]
      simp only [Option.bind_some, if_true]
      refine ⟨M2, rfl, hS2, h.2.1.congr (fun x hx => by rw [e2 x (by omega), e1 x (by omega) (by omega)]), h.2.2.1.congr (fun x hx => by rw [e2 x (by omega), e1 x (by omega) (by omega)]), ?_, r, s, n, m, G, d, cd, ?_, hG2.2.2.2, ⟨hC.1, ?_, ?_, fun j hj => ?_, ?_, fun j hj => ?_⟩, ?_, fun q hq => ?_⟩
      · have t := h.2.2.2.1
        unfold TlP at t ⊢
        rw [e2 65 (by omega), e2 1 (by omega), e2 76 (by omega), e2 38 (by omega), e1 65 (by omega) (by omega), e1 1 (by omega) (by omega), e1 76 (by omega) (by omega), e1 38 (by omega) (by omega), ← hM2, ← hM1]
        exact t
      · rw [← hM2, ← hM1]; exact hR
      · rw [e2 28 (by omega), e1 28 (by omega) (by omega)]; exact hC.2.1
      · rw [ej, if_neg (by omega)]; exact hM.1
      · rw [e2 29 (by omega), e1 29 (by omega) (by omega)]; exact hC.2.2.1 j hj
      · exact hM.2.1.congr hnm.1 (fun i q1 q2 => by rw [ej, if_neg (by omega)])
      · exact (hM.2.2 j hj).congr hnm.1 (fun i q1 q2 => by rw [ej, if_neg (by omega)])
      · rw [e2 22 (by omega), e2 23 (by omega), e2 24 (by omega), e1 22 (by omega) (by omega), e1 23 (by omega) (by omega), e1 24 (by omega) (by omega)]; exact hN
      · rw [e2 (59 + 2 * q) (by omega), e2 (60 + 2 * q) (by omega)]
        by_cases hqk : q = k
        · subst hqk
          refine Or.inr ⟨by omega, d, cd, hd, ek, ?_, fun j hj => ?_, ?_, fun j hj => ?_⟩
          · rw [ej, if_pos (by omega), Nat.sub_self]; exact hM.1
          · rw [ec j (by omega)]; exact hC.2.2.1 j hj
          · exact hM.2.1.move hnm.1 (fun i q1 q2 => by rw [ej, if_pos (by omega), show 493 * (q + 1) + i - 493 * (q + 1) = 0 + i by omega])
          · exact (hM.2.2 j hj).move hnm.1 (fun i q1 q2 => by rw [ej, if_pos (by omega), show 493 * (q + 1) + 12 + 12 * j + i - 493 * (q + 1) = 0 + 12 + 12 * j + i by omega])
        · rw [e1 (59 + 2 * q) (by omega) (by omega), e1 (60 + 2 * q) (by omega) (by omega)]
          rcases hH.2.2.2 q hq with ⟨z1, z2⟩ | ⟨z0, d', cd', z1, z2, z3, z4, z5, z6⟩
          · exact Or.inl ⟨z1, by rw [ej, if_neg (by omega)]; exact z2⟩
          · refine Or.inr ⟨z0, d', cd', z1, z2, ?_, z4, ?_, fun j hj => ?_⟩
            · rw [ej, if_neg (by omega)]; exact z3
            · exact z5.congr hnm.1 (fun i q1 q2 => by rw [ej, if_neg (by omega)])
            · exact (z6 j hj).congr hnm.1 (fun i q1 q2 => by rw [ej, if_neg (by omega)])
theorem op18 {M : Mem} (h : Inv M) (a1 : Int32) : ∃ M', lawOp_18 a1 M = some M' ∧ Inv M' := by
  have hS := h.1
  obtain ⟨r, s, n, m, G, d, cd, hR, hH, hG, hN, hP, hB, hd⟩ := h.op
  obtain ⟨hC, hM⟩ := Inv.hf hH
  have hnm := hG.nm
  have hr := hG.2.1
  unfold lawOp_18 f_X7_on f_X8_on
  simp only [KQ hS, if_true]
  rcases ixc a1 3 (by omega) with h1 | ⟨k, hk, rfl⟩
  · have ei : f_X8_in (Int32.toInt64 a1) 0 2 = 0 := in_bad (n := 3) (by omega) rfl h1
    simp only [keptOf_bad hS h1, Option.bind_some, if_true, KQ hS, ei]
    exact ⟨M, rfl, h⟩
  · have ei : f_X8_in (Int32.toInt64 (nI k)) 0 2 = 1 := in_ok (n := 3) (by omega) rfl hk
    have hx : 59 + 2 * k = 28 ∨ 59 + 2 * k = 59 ∨ 59 + 2 * k = 61 ∨ 59 + 2 * k = 63 := by omega
    simp only [keptOf_ok hS hk, Option.bind_some, show ¬ 59 + 2 * k = 0 by omega, if_false]
    rw [gI_k (deedF hS hx).1, Option.bind_some]
    rcases hH.2.2.2 k hk with ⟨z1, z2⟩ | ⟨z0, d', cd', z1, z2, z3, z4, z5, z6⟩
    · rw [z1, if_pos rfl, show f_X7_refuse 1 1 M = some (-3, rf 1 M) from refuse_X hS (by decide)]
      simp only [Option.bind_some, KQ hS.rf, RQ hS.rf, if_true, ei, show ¬ (1 : Int32) = 0 by decide, if_false, i493s]
      rw [aI_k (by simp only [KQ hS.rf]) (by simp only [LQ]; omega), rf_row (by decide) (by decide), z2]
      simp only [Option.bind_some, show ¬ (0 : Int32) ≤ -1 by decide, if_false]
      rw [show f_X8_find 65 1 (rf 1 M) = some (-3, rm_ 1 (rf 1 M)) from find_Y hS.rf (by decide)]
      simp only [Option.bind_some, if_true]
      exact ⟨_, rfl, h.refused (by decide)⟩
    · rw [z2, if_neg (n1 (by omega))]
      simp only [RQ hS, Option.bind_some]
      rw [takeOver_D hS (Or.inl rfl) hx, Option.bind_some, z2]
      generalize hM1 : sI (sW M (28 + 1) (va_cpy (mI M (59 + 2 * k + 1)) (mI M (28 + 1)) 0 0 40)) 28 1 (nI d') = M1
      have hS1 : SF M1 := by rw [← hM1]; exact hS
      have e1 : ∀ x, x ≠ 28 → x ≠ 29 → mI M1 x = mI M x := fun x h1 h2 => by rw [← hM1, mI_sI_row h1, mI_ne (by omega)]
      have hG1 : Gd M1 r n m G := hG.congr hS1 (by rw [← hM1]; rfl) (fun x hx => e1 x (by omega) (by omega)) (by rw [e1 65 (by omega) (by omega)]) (by rw [e1 65 (by omega) (by omega)])
      have ek : mI M1 28 1 = nI d' := by rw [← hM1, mI_sI, if_pos ⟨rfl, rfl⟩]
      have ec : ∀ j, j < 40 → mI M1 29 j = mI M (60 + 2 * k) j := fun j hj => by
        rw [← hM1, mI_sI_row (by omega), show (29 : Nat) = 28 + 1 from rfl, mI_eq, pk_cpy_in (by omega) (by omega), show 0 + (j - 0) = j by omega, show 59 + 2 * k + 1 = 60 + 2 * k by omega]
      obtain ⟨M2, a1, a2, a3, a4, a5, a6⟩ := doAgain_X (cd := cd') hG1 (d := d') ek z1 (fun j hj => by rw [ec j (by omega)]; exact z4 j hj)
      rw [a1]
      have e66 : mI M2 66 = mI M 66 := by rw [a5 66 (by omega), e1 66 (by omega) (by omega)]
      simp only [Option.bind_some, KQ a2, RQ a2, if_true, gI_k, ei, show ¬ (1 : Int32) = 0 by decide, if_false, j493, Int32.add_zero]
      rw [aI_k (by simp only [KQ a2]) (by simp only [LQ]; omega), e66, z3, show f_X8_copyGuild 65 (nI (493 * (k + 1))) 0 M2 = _ from copyGuild_Y a2 (a := 493 * (k + 1)) (b := 0) (by omega) (by omega) (by omega), e66, a5 28 (by omega), ek]
      simp only [Option.bind_some, if_pos (nI_pos' (show d' < 2 ^ 31 by omega))]
      generalize hM3 : sW M2 66 (fun j => if 0 ≤ j ∧ j < 0 + 493 then mI M 66 (493 * (k + 1) + (j - 0)) else mI M 66 j) = M3
      have hS3 : SF M3 := by rw [← hM3]; exact a2
      have e3 : ∀ x, x ≠ 66 → mI M3 x = mI M2 x := fun x hx => by rw [← hM3, mI_ne hx]
      have ej : ∀ j, mI M3 66 j = if j < 493 then mI M 66 (493 * (k + 1) + j) else mI M 66 j := fun j => by
        rw [← hM3, mI_eq]
        simp only [Nat.zero_le, true_and, Nat.zero_add, Nat.sub_zero]
      simp only [RQ hS3, Option.bind_some]
      rw [show aI M3 66 0 = _ from aI_k (j := 0) (by simp only [KQ hS3]) (by simp only [LQ]; omega), ej 0, if_pos (by omega), Nat.add_zero, z3]
      simp only [Option.bind_some, if_true]
      refine ⟨M3, rfl, h.deeds (d' := d') (cd' := cd') hR hH hS3 (by rw [← hM3]; exact a3.trans (by rw [← hM1]; rfl)) (by rw [← hM3]; exact a4.trans (by rw [← hM1]; rfl)) (fun x h1 h2 => ?_) (fun j hj => ?_) ⟨z1, ?_, fun j hj => ?_, ?_⟩ ⟨?_, ?_, fun j hj => ?_⟩⟩
      · rw [e3 x h2, a5 x (by omega), e1 x (by omega) (by omega)]
      · rw [ej, if_neg (by omega)]
      · rw [e3 28 (by decide), a5 28 (by omega), ek]
      · rw [e3 29 (by decide), a5 29 (by omega), ec j (by omega)]; exact z4 j hj
      · rw [e3 22 (by decide), e3 (22 + 1) (by decide), e3 (22 + 2) (by decide)]; exact a6
      · rw [ej, if_pos (by omega), Nat.add_zero]; exact z3
      · exact z5.move hnm.1 (fun i q1 q2 => by rw [ej, if_pos (by omega), Nat.zero_add])
      · exact (z6 j hj).move hnm.1 (fun i q1 q2 => by rw [ej, if_pos (by omega), show 493 * (k + 1) + (0 + 12 + 12 * j + i) = 493 * (k + 1) + 12 + 12 * j + i by omega])
