theorem i32_add {a b : Int32} (h1 : -2147483648 ≤ a.toInt + b.toInt) (h2 : a.toInt + b.toInt < 2147483648) : (a + b).toInt = a.toInt + b.toInt := by
  rw [Int32.toInt_add]
  exact Int.bmod_eq_of_le (by simp; omega) (by simp; omega)
theorem i32_sub {a b : Int32} (h1 : -2147483648 ≤ a.toInt - b.toInt) (h2 : a.toInt - b.toInt < 2147483648) : (a - b).toInt = a.toInt - b.toInt := by
  rw [Int32.toInt_sub]
  exact Int.bmod_eq_of_le (by simp; omega) (by simp; omega)
theorem i64_add {a b : Int64} (h1 : -9223372036854775808 ≤ a.toInt + b.toInt) (h2 : a.toInt + b.toInt < 9223372036854775808) : (a + b).toInt = a.toInt + b.toInt := by
  rw [Int64.toInt_add]
  exact Int.bmod_eq_of_le (by simp; omega) (by simp; omega)
theorem i32_b (x : Int32) : -2147483648 ≤ x.toInt ∧ x.toInt < 2147483648 := ⟨x.le_toInt, x.toInt_lt⟩
def sp (i n : Int32) (s : Nat) : Bool := decide (0 ≤ i.toInt) && decide (i.toInt + n.toInt ≤ s)
theorem hasFrom_X {M : Mem} (h : SF M) {r s : Nat} (hr : r < 6) (hs : s ≤ 40) (hz : mI M (39 + 2 * r) 1 = nI s) (i n : Int32) (hn : 0 ≤ n) : f_X4_hasFrom (39 + 2 * r) i n M = some (if sp i n s = true then 1 else 0) := by
  obtain ⟨-, k1, g1, k2, l2⟩ := rowF h hr
  have hb := i32_b i
  have hc := i32_b n
  have hs2 : (nI s).toInt = s := nI_toInt (by omega)
  rw [Int32.le_iff_toInt_le, show (0 : Int32).toInt = 0 from rfl] at hn
  unfold f_X4_hasFrom sp
  rw [if_pos k1, gI_k k1, hz]
  simp only [Option.bind_some, Bool.and_eq_true, decide_eq_true_eq]
  by_cases h1 : i < 0
  · rw [if_pos h1]
    rw [Int32.lt_iff_toInt_lt, show (0 : Int32).toInt = 0 from rfl] at h1
    rw [if_neg (by omega)]
  · rw [if_neg h1]
    rw [Int32.lt_iff_toInt_lt, show (0 : Int32).toInt = 0 from rfl] at h1
    by_cases h2 : nI s < i
    · rw [if_pos h2]
      rw [Int32.lt_iff_toInt_lt, hs2] at h2
      rw [if_neg (by omega)]
    · rw [if_neg h2]
      rw [Int32.lt_iff_toInt_lt, hs2] at h2
      have hsub : (nI s - i).toInt = s - i.toInt := by rw [i32_sub (by omega) (by omega), hs2]
      by_cases h3 : nI s - i < n
      · rw [if_pos h3]
        rw [Int32.lt_iff_toInt_lt, hsub] at h3
        rw [if_neg (by omega)]
      · rw [if_neg h3]
        rw [Int32.lt_iff_toInt_lt, hsub] at h3
        rw [if_pos (by omega)]
theorem isSpan_Y {M : Mem} (h : SF M) {r s : Nat} (hr : r < 6) (hs : s ≤ 40) (hz : mI M 72 r = nI s) (i n : Int32) : f_X8_isSpan 65 (nI r) i n M = some (if sp i n s = true then 1 else 0) := by
  have hb := i32_b i
  have hc := i32_b n
  have hs2 : (nI s).toInt = s := nI_toInt (by omega)
  unfold f_X8_isSpan sp
  simp only [KQ h, RQ h, if_true, Option.bind_some, Bool.and_eq_true, decide_eq_true_eq]
  rw [aI_k (by simp only [KQ h]) (by simp only [LQ]; omega), hz, Option.bind_some]
  by_cases h1 : i < 0
  · rw [if_pos h1]
    rw [Int32.lt_iff_toInt_lt, show (0 : Int32).toInt = 0 from rfl] at h1
    rw [if_neg (by omega)]
  · rw [if_neg h1]
    rw [Int32.lt_iff_toInt_lt, show (0 : Int32).toInt = 0 from rfl] at h1
    have hadd : (Int32.toInt64 i + Int32.toInt64 n).toInt = i.toInt + n.toInt := by
      rw [i64_add (by rw [Int32.toInt_toInt64, Int32.toInt_toInt64]; omega) (by rw [Int32.toInt_toInt64, Int32.toInt_toInt64]; omega), Int32.toInt_toInt64, Int32.toInt_toInt64]
    have hiff : 0 < lg_cmp (Int32.toInt64 i + Int32.toInt64 n) (Int32.toInt64 (nI s)) ↔ (s : Int) < i.toInt + n.toInt := by
      rw [lgc_gt, Int64.lt_iff_toInt_lt, hadd, Int32.toInt_toInt64, hs2]
    by_cases h2 : 0 < lg_cmp (Int32.toInt64 i + Int32.toInt64 n) (Int32.toInt64 (nI s))
    · rw [if_pos h2]
      rw [hiff] at h2
      rw [if_neg (by omega)]
    · rw [if_neg h2]
      rw [hiff] at h2
      rw [if_pos (by omega)]
theorem sp_nat {i n : Int32} {s : Nat} (hn : 0 ≤ n) (hs : s ≤ 40) (h : sp i n s = true) : ∃ a c : Nat, i = nI a ∧ n = nI c ∧ a + c ≤ s := by
  unfold sp at h
  simp only [Bool.and_eq_true, decide_eq_true_eq] at h
  rw [Int32.le_iff_toInt_le, show (0 : Int32).toInt = 0 from rfl] at hn
  refine ⟨i.toInt.toNat, n.toInt.toNat, ?_, ?_, by omega⟩
  · apply Int32.toInt_inj.mp
    rw [nI_toInt (by omega)]; omega
  · apply Int32.toInt_inj.mp
    rw [nI_toInt (by omega)]; omega
/-- a part of a row moved within it, place by place, in the right order -/
theorem iter_mv {M : Mem} {x p q n : Nat} (at_ : Nat → Nat) (hat : (∀ k, k < n → at_ k = k) ∧ (q ≤ p ∨ p + n ≤ q) ∨ (∀ k, k < n → at_ k = n - 1 - k) ∧ (p ≤ q ∨ q + n ≤ p)) : iter (fun k N => sI N x (q + at_ k) (mI N x (p + at_ k))) 0 n M = sW M x (fun i => if q ≤ i ∧ i < q + n then mI M x (p + (i - q)) else mI M x i) := by
  rcases hat with ⟨h1, h2⟩ | ⟨h1, h2⟩
  · have ind := iter_ind (f := fun k N => sI N x (q + at_ k) (mI N x (p + at_ k))) (fun k N' => N' = sW M x (fun i => if q ≤ i ∧ i < q + k then mI M x (p + (i - q)) else mI M x i)) n 0 M (by
        have : (fun i => if q ≤ i ∧ i < q + 0 then mI M x (p + (i - q)) else mI M x i) = mI M x := by funext i; rw [if_neg (by omega)]
        rw [this, sW_self]) (fun k N' _ hk hN => by
      subst hN
      rw [sI_sW, sW_sW, mI_eq, h1 k (by omega)]
      congr 1
      funext i
      unfold upd
      by_cases e1 : i = q + k
      · rw [if_pos e1, if_neg (by omega), if_pos (by omega)]
        congr 1
        omega
      · rw [if_neg e1]
        show (if q ≤ i ∧ i < q + k then _ else _) = _
        by_cases e2 : q ≤ i ∧ i < q + k
        · rw [if_pos e2, if_pos (by omega)]
        · rw [if_neg e2, if_neg (by omega)])
    rw [Nat.zero_add] at ind
    exact ind
  · have ind := iter_ind (f := fun k N => sI N x (q + at_ k) (mI N x (p + at_ k))) (fun k N' => N' = sW M x (fun i => if q + n - k ≤ i ∧ i < q + n then mI M x (p + (i - q)) else mI M x i)) n 0 M (by
        have : (fun i => if q + n - 0 ≤ i ∧ i < q + n then mI M x (p + (i - q)) else mI M x i) = mI M x := by funext i; rw [if_neg (by omega)]
        rw [this, sW_self]) (fun k N' _ hk hN => by
      subst hN
      rw [sI_sW, sW_sW, mI_eq, h1 k (by omega)]
      congr 1
      funext i
      unfold upd
      by_cases e1 : i = q + (n - 1 - k)
      · rw [if_pos e1, if_neg (by omega), if_pos (by omega)]
        congr 1
        omega
      · rw [if_neg e1]
        show (if q + n - k ≤ i ∧ i < q + n then _ else _) = _
        by_cases e2 : q + n - k ≤ i ∧ i < q + n
        · rw [if_pos e2, if_pos (by omega)]
        · rw [if_neg e2, if_neg (by omega)])
    rw [Nat.zero_add] at ind
    rw [ind]
    congr 1
    funext i
    by_cases e2 : q ≤ i ∧ i < q + n
    · rw [if_pos (by omega), if_pos e2]
    · rw [if_neg (by omega), if_neg e2]
theorem copy_Y {M : Mem} (h : SF M) {r t a b c : Nat} (hr : r < 6) (ht : t < 6) (ha : a + c ≤ 40) (hb : b + c ≤ 40) {x6 : Int32} (h6 : (x6 = 0 ∧ b ≤ a) ∨ (¬ x6 = 0 ∧ a < b)) : f_X8_copy_96 FU 65 (nI r) (nI a) (nI t) (nI b) (nI c) x6 0 M = some (1, sW M 73 (fun i => if 40 * t + b ≤ i ∧ i < 40 * t + b + c then mI M 73 (40 * r + a + (i - (40 * t + b))) else mI M 73 i)) := by
  have key := lp_up (F := fun fu j (N : Mem) => f_X8_copy_96 fu 65 (nI r) (nI a) (nI t) (nI b) (nI c) x6 (nI j) N) c (fun N => some ((1 : Int32), N)) (fun j N => sI N 73 (40 * t + b + (if x6 = 0 then j else c - 1 - j)) (mI N 73 (40 * r + a + (if x6 = 0 then j else c - 1 - j)))) (fun _ N => SF N)
    (fun fu N _ => by simp only [f_X8_copy_96]; rw [if_pos (nI_le (Nat.le_refl _) (by omega))])
    (fun fu j N hj hI => by
      refine ⟨?_, hI⟩
      simp only [f_X8_copy_96]
      rw [if_neg (nI_ge hj (by omega))]
      by_cases h0 : x6 = 0
      · simp only [if_pos h0, f_X8_copy_120, RQ hI, Option.bind_some, m40, nI_add]
        rw [aI_k (by simp only [KQ hI]) (by simp only [LQ]; omega)]
        simp only [Option.bind_some]
        rw [eI_k (by simp only [KQ hI]) (by simp only [LQ]; omega), Option.bind_some, nI_1]
      · have e : nI c - 1 - nI j = nI (c - 1 - j) := by rw [show (1 : Int32) = nI 1 from rfl, pk_sub (by omega), pk_sub (by omega)]
        simp only [if_neg h0, f_X8_copy_120, RQ hI, Option.bind_some, m40, nI_add, e]
        rw [aI_k (by simp only [KQ hI]) (by simp only [LQ]; omega)]
        simp only [Option.bind_some]
        rw [eI_k (by simp only [KQ hI]) (by simp only [LQ]; omega), Option.bind_some, nI_1])
    c FU 0 M (by omega) (by unfold FU; omega) h
  refine (show f_X8_copy_96 FU 65 (nI r) (nI a) (nI t) (nI b) (nI c) x6 0 M = _ from key.1).trans ?_
  rw [iter_mv (M := M) (x := 73) (p := 40 * r + a) (q := 40 * t + b) (n := c) (fun j => if x6 = 0 then j else c - 1 - j)]
  rcases h6 with ⟨h0, h1⟩ | ⟨h0, h1⟩
  · exact Or.inl ⟨fun k _ => if_pos h0, by omega⟩
  · exact Or.inr ⟨fun k _ => if_neg h0, by omega⟩
theorem op4 {M : Mem} (h : Inv M) (a1 a2 a3 a4 a5 : Int32) : ∃ M', lawOp_4 a1 a2 a3 a4 a5 M = some M' ∧ Inv M' := by
  have hS := h.1
  unfold lawOp_4 f_X7_copy f_X8_copy f_X7_copy_53 f_X7_copy_82 f_X8_copy_45 f_X8_copy_74
  simp only [KQ hS, if_true]
  rcases ixc a1 6 (by decide) with h1 | ⟨r, hr, rfl⟩
  · rw [rowOf_bad hS h1]
    simp only [Option.bind_some, if_true, KQ hS]
    have hx : ((f_X7_rowOf 1 a3 M).bind fun v5 => if v5 = 0 then some ((-1 : Int32), M) else some (-1, M)) = some (-1, M) := by
      rcases ixc a3 6 (by decide) with h3 | ⟨t, ht, rfl⟩
      · rw [rowOf_bad hS h3]; rfl
      · rw [rowOf_ok hS ht]; simp
    rw [hx, isRow_bad h1]
    simp only [Option.bind_some, if_true, KQ hS]
    exact ⟨M, rfl, h⟩
  · obtain ⟨w1, w2, w3⟩ := h.2.1 r hr
    obtain ⟨-, k1, g1, k2, l2⟩ := rowF hS hr
    rw [rowOf_ok hS hr]
    simp only [Option.bind_some, show ¬ 39 + 2 * r = 0 by omega, if_false]
    rcases ixc a3 6 (by decide) with h3 | ⟨t, ht, rfl⟩
    · rw [rowOf_bad hS h3]
      simp only [Option.bind_some, if_true, KQ hS]
      rw [isRow_ok hr, isRow_bad h3]
      simp only [Option.bind_some, if_true, show ¬ (1 : Int32) = 0 by decide, if_false]
      exact ⟨M, rfl, h⟩
    · obtain ⟨y1, y2, y3⟩ := h.2.1 t ht
      obtain ⟨-, c1, d1, c2, l3⟩ := rowF hS ht
      rw [rowOf_ok hS ht]
      simp only [Option.bind_some, show ¬ 39 + 2 * t = 0 by omega, if_false]
      by_cases h5 : 0 ≤ a5
      · simp only [if_pos h5]
        rw [isMissing_X hS hr, isMissing_X hS ht]
        have refN : ∀ k, k < 6 → Inv (rm_ k (rf k M)) := fun k hk => h.refused hk
        rcases szc w1 with hz | ⟨s, hs, hz⟩
        · simp only [hz, if_true, Option.bind_some, show ¬ (1 : Int32) = 0 by decide, if_false]
          rw [show f_X7_refuse 1 1 M = some (-3, rf 1 M) from refuse_X hS (by decide)]
          simp only [Option.bind_some, KQ hS.rf, if_true]
          rw [isRow_ok hr, isRow_ok ht]
          simp only [Option.bind_some, show ¬ (1 : Int32) = 0 by decide, if_false, RQ hS.rf]
          rw [aI_k (j := r) (by simp only [KQ hS.rf]) (by simp only [LQ]; omega), rf_row (by decide) (by decide), w2, hz, show f_X8_find 65 1 (rf 1 M) = some (-3, rm_ 1 (rf 1 M)) from find_Y hS.rf (by decide)]
          simp only [Option.bind_some, show (-1 : Int32) < 0 by decide, if_true]
          exact ⟨_, rfl, refN 1 (by decide)⟩
        · rw [hz]
          simp only [n1 (show s < 2 ^ 31 by omega), if_false, Option.bind_some, if_true]
          rcases szc y1 with hy | ⟨s2, hs2, hy⟩
          · simp only [hy, if_true, Option.bind_some, show ¬ (1 : Int32) = 0 by decide, if_false]
            rw [show f_X7_refuse 1 1 M = some (-3, rf 1 M) from refuse_X hS (by decide)]
            simp only [Option.bind_some, KQ hS.rf, if_true]
            rw [isRow_ok hr, isRow_ok ht]
            simp only [Option.bind_some, show ¬ (1 : Int32) = 0 by decide, if_false, RQ hS.rf]
            rw [aI_k (j := r) (by simp only [KQ hS.rf]) (by simp only [LQ]; omega), aI_k (j := t) (by simp only [KQ hS.rf]) (by simp only [LQ]; omega), rf_row (by decide) (by decide), w2, hz, y2, hy, show f_X8_find 65 1 (rf 1 M) = some (-3, rm_ 1 (rf 1 M)) from find_Y hS.rf (by decide)]
            simp only [Option.bind_some, if_neg (nI_pos (show s < 2 ^ 31 by omega)), show ¬ (0 : Int32) ≤ -1 by decide, if_false, if_true]
            exact ⟨_, rfl, refN 1 (by decide)⟩
          · rw [hy]
            simp only [n1 (show s2 < 2 ^ 31 by omega), if_false, Option.bind_some, if_true]
            rw [hasFrom_X hS hr hs hz _ _ h5, hasFrom_X hS ht hs2 hy _ _ h5]
            by_cases q1 : sp a2 a5 s = true
            · by_cases q2 : sp a4 a5 s2 = true
              · obtain ⟨a, c, rfl, rfl, hac⟩ := sp_nat h5 hs q1
                obtain ⟨b, c', rfl, ec, hbc⟩ := sp_nat h5 hs2 q2
                have hcc : c' = c := ((nI_eq (by omega) (by omega)).mp ec).symm
                subst hcc
                simp only [q1, q2, if_true, Option.bind_some, show ¬ (1 : Int32) = 0 by decide, if_false, g1, d1]
                rw [cpI_k k2 c2 (by rw [l2]; omega) (by rw [l3]; omega)]
                simp only [Option.bind_some]
                generalize hM1 : sW M (40 + 2 * t) (va_cpy (mI M (40 + 2 * r)) (mI M (40 + 2 * t)) a b c') = M1
                have hS1 : SF M1 := by rw [← hM1]; exact hS
                have e1 : ∀ x, x ≠ 40 + 2 * t → mI M1 x = mI M x := fun x q => by rw [← hM1, mI_ne q]
                simp only [KQ hS1, if_true]
                rw [isRow_ok hr, isRow_ok ht]
                simp only [Option.bind_some, show ¬ (1 : Int32) = 0 by decide, if_false, RQ hS1]
                rw [aI_k (j := r) (by simp only [KQ hS1]) (by simp only [LQ]; omega), aI_k (j := t) (by simp only [KQ hS1]) (by simp only [LQ]; omega), e1 72 (by omega), w2, hz, y2, hy]
                simp only [Option.bind_some, if_neg (nI_pos (show s < 2 ^ 31 by omega)), nI_pos' (show s2 < 2 ^ 31 by omega), if_true]
                rw [isSpan_Y hS1 hr hs (by rw [e1 72 (by omega), w2, hz]), isSpan_Y hS1 ht hs2 (by rw [e1 72 (by omega), y2, hy])]
                simp only [q1, q2, if_true, Option.bind_some, show ¬ (1 : Int32) = 0 by decide, if_false]
                have hfin : (if nI b ≤ nI a then f_X8_copy_96 FU 65 (nI r) (nI a) (nI t) (nI b) (nI c') 0 0 M1 else f_X8_copy_96 FU 65 (nI r) (nI a) (nI t) (nI b) (nI c') 1 0 M1) = some (1, sW M1 73 (fun i => if 40 * t + b ≤ i ∧ i < 40 * t + b + c' then mI M1 73 (40 * r + a + (i - (40 * t + b))) else mI M1 73 i)) := by
                  by_cases hab : b ≤ a
                  · rw [if_pos (nI_le hab (by omega))]
                    exact copy_Y hS1 hr ht (by omega) (by omega) (Or.inl ⟨rfl, hab⟩)
                  · rw [if_neg (nI_ge (by omega) (by omega))]
                    exact copy_Y hS1 hr ht (by omega) (by omega) (Or.inr ⟨by decide, by omega⟩)
                rw [hfin]
                simp only [Option.bind_some, if_true]
                refine ⟨_, rfl, ?_⟩
                refine h.rows (SF.sW hS1) (by rw [← hM1]; rfl) (by rw [← hM1]; rfl) (fun x hx => ?_) (fun q hq => ?_) (fun q hq => ?_) ?_ (fun q hq => ?_)
                · rw [mI_ne (by omega), e1 x (by omega)]
                · rw [mI_ne (by omega), e1 1 (by omega)]
                · rw [mI_ne (by omega), e1 65 (by omega)]
                · rw [mI_ne (by omega), e1 65 (by omega), mI_ne (by omega), e1 1 (by omega)]
                  exact h.2.2.2.1.1
                · obtain ⟨v1, v2, v3⟩ := h.2.1 q hq
                  rw [mI_ne (x := 73) (y := 39 + 2 * q) (by omega), mI_ne (x := 73) (y := 40 + 2 * q) (by omega), mI_eq, mI_ne (x := 73) (y := 72) (by decide), e1 (39 + 2 * q) (by omega), e1 72 (by omega), e1 73 (by omega)]
                  refine ⟨v1, v2, fun j hj => ?_⟩
                  by_cases hqt : q = t
                  · subst hqt
                    rw [← hM1, mI_eq]
                    unfold va_cpy
                    by_cases hjb : b ≤ j ∧ j < b + c'
                    · rw [if_pos (by omega), if_pos hjb, show 40 * r + a + (40 * q + j - (40 * q + b)) = 40 * r + (a + (j - b)) by omega]
                      exact w3 (a + (j - b)) (by omega)
                    · rw [if_neg (by omega), if_neg hjb]
                      exact v3 j hj
                  · rw [if_neg (by omega), e1 (40 + 2 * q) (by omega)]
                    exact v3 j hj
              · simp only [q1, q2, if_true, if_false, Option.bind_some, show ¬ (1 : Int32) = 0 by decide, Bool.false_eq_true]
                rw [show f_X7_refuse 1 2 M = some (-3, rf 2 M) from refuse_X hS (by decide)]
                simp only [Option.bind_some, KQ hS.rf, if_true]
                rw [isRow_ok hr, isRow_ok ht]
                simp only [Option.bind_some, show ¬ (1 : Int32) = 0 by decide, if_false, RQ hS.rf]
                rw [aI_k (j := r) (by simp only [KQ hS.rf]) (by simp only [LQ]; omega), aI_k (j := t) (by simp only [KQ hS.rf]) (by simp only [LQ]; omega), rf_row (by decide) (by decide), w2, hz, y2, hy, show f_X8_find 65 2 (rf 2 M) = some (-3, rm_ 2 (rf 2 M)) from find_Y hS.rf (by decide)]
                simp only [Option.bind_some, if_neg (nI_pos (show s < 2 ^ 31 by omega)), nI_pos' (show s2 < 2 ^ 31 by omega), if_true]
                rw [isSpan_Y hS.rf hr hs (by rw [rf_row (by decide) (by decide), w2, hz]), isSpan_Y hS.rf ht hs2 (by rw [rf_row (by decide) (by decide), y2, hy])]
                simp only [q1, q2, if_true, if_false, Option.bind_some, show ¬ (1 : Int32) = 0 by decide, Bool.false_eq_true]
                exact ⟨_, rfl, refN 2 (by decide)⟩
            · simp only [q1, if_true, if_false, Option.bind_some, show ¬ (1 : Int32) = 0 by decide, Bool.false_eq_true]
              rw [show f_X7_refuse 1 2 M = some (-3, rf 2 M) from refuse_X hS (by decide)]
              simp only [Option.bind_some, KQ hS.rf, if_true]
              rw [isRow_ok hr, isRow_ok ht]
              simp only [Option.bind_some, show ¬ (1 : Int32) = 0 by decide, if_false, RQ hS.rf]
              rw [aI_k (j := r) (by simp only [KQ hS.rf]) (by simp only [LQ]; omega), aI_k (j := t) (by simp only [KQ hS.rf]) (by simp only [LQ]; omega), rf_row (by decide) (by decide), w2, hz, y2, hy, show f_X8_find 65 2 (rf 2 M) = some (-3, rm_ 2 (rf 2 M)) from find_Y hS.rf (by decide)]
              simp only [Option.bind_some, if_neg (nI_pos (show s < 2 ^ 31 by omega)), nI_pos' (show s2 < 2 ^ 31 by omega), if_true]
              rw [isSpan_Y hS.rf hr hs (by rw [rf_row (by decide) (by decide), w2, hz])]
              simp only [q1, if_true, if_false, Option.bind_some, Bool.false_eq_true]
              exact ⟨_, rfl, refN 2 (by decide)⟩
      · simp only [if_neg h5]
        rw [show f_X7_refuse 1 5 M = some (-3, rf 5 M) from refuse_X hS (by decide)]
        simp only [Option.bind_some, KQ hS.rf, if_true]
        rw [isRow_ok hr, isRow_ok ht]
        simp only [Option.bind_some, show ¬ (1 : Int32) = 0 by decide, if_false]
        rw [show f_X8_find 65 5 (rf 5 M) = some (-3, rm_ 5 (rf 5 M)) from find_Y hS.rf (by decide)]
        simp only [Option.bind_some, if_true]
        exact ⟨_, rfl, h.refused (by decide)⟩
