/-! ===== rows ===== -/
theorem rowF {M : Mem} (h : SF M) {r : Nat} (hr : r < 6) : aR M 4 2 (nI r) = some (39 + 2 * r) ∧ kd M (39 + 2 * r) = 14 ∧ gR M 14 (39 + 2 * r) 0 = some (40 + 2 * r) ∧ kd M (40 + 2 * r) = 1 ∧ ln (40 + 2 * r) = 40 := by
  rcases (show r = 0 ∨ r = 1 ∨ r = 2 ∨ r = 3 ∨ r = 4 ∨ r = 5 by omega) with rfl | rfl | rfl | rfl | rfl | rfl
  all_goals exact ⟨aR_k (h.k (by decide +kernel) (by decide)) (by decide +kernel) (h.r (by decide +kernel)) (by decide), h.k (by decide +kernel) (by decide), gR_k (h.k (by decide +kernel) (by decide)) (h.r (by decide +kernel)) (by decide), h.k (by decide +kernel) (by decide), by decide +kernel⟩
def rf (k : Nat) (M : Mem) : Mem := sI (sI M 1 13 (nI k)) 38 k (mI M 38 k + 1)
def rm_ (k : Nat) (M : Mem) : Mem := sI (sI M 65 15 (nI k)) 76 k (mI M 76 k + 1)
theorem refuse_X {M : Mem} (h : SF M) {k : Nat} (hk : k < 6) : f_X7_refuse 1 (nI k) M = some (-3, rf k M) := by
  have e38 : mI (sI M 1 13 (nI k)) 38 = mI M 38 := mI_sI_row (by decide)
  have hn : ¬ nI k < 0 := nI_pos (by omega)
  have h6 : ¬ nI 6 ≤ nI k := nI_ge hk (by omega)
  unfold f_X7_refuse
  simp only [KQ h, RQ h, LQ, pI_k, if_true, Option.bind_some, gR_sI, aN_sI, aN_k, if_neg hn, if_neg h6, kd_sI]
  rw [aI_k (by simp only [kd_sI, KQ h]) (by simp only [LQ]; omega)]
  simp only [Option.bind_some]
  rw [eI_k (by simp only [kd_sI, KQ h]) (by simp only [LQ]; omega), e38]
  rfl
theorem find_Y {M : Mem} (h : SF M) {k : Nat} (hk : k < 6) : f_X8_find 65 (nI k) M = some (-3, rm_ k M) := by
  have e76 : mI (sI M 65 15 (nI k)) 76 = mI M 76 := mI_sI_row (by decide)
  unfold f_X8_find
  simp only [KQ h, RQ h, pI_k, if_true, Option.bind_some, gR_sI, kd_sI]
  rw [aI_k (by simp only [kd_sI, KQ h]) (by simp only [LQ]; omega)]
  simp only [Option.bind_some]
  rw [eI_k (by simp only [kd_sI, KQ h]) (by simp only [LQ]; omega), e76]
  rfl
theorem rf_row {k : Nat} {M : Mem} {x : Nat} (h1 : x ≠ 1) (h2 : x ≠ 38) : mI (rf k M) x = mI M x := by
  unfold rf; rw [mI_sI_row h2, mI_sI_row h1]
theorem rm_row {k : Nat} {M : Mem} {x : Nat} (h1 : x ≠ 65) (h2 : x ≠ 76) : mI (rm_ k M) x = mI M x := by
  unfold rm_; rw [mI_sI_row h2, mI_sI_row h1]
theorem SF.rf {M : Mem} (h : SF M) {k : Nat} : SF (rf k M) := h
theorem SF.rm {M : Mem} (h : SF M) {k : Nat} : SF (rm_ k M) := h
/-- both refuse with a finding -/
theorem Inv.refused {M : Mem} (h : Inv M) {k : Nat} (hk : k < 6) : Inv (rm_ k (rf k M)) := by
  obtain ⟨h0, h1, h2, h3, r, s, n, m, G, d, cd, h4, h5⟩ := h
  have hrow : ∀ x, x ≠ 1 → x ≠ 38 → x ≠ 65 → x ≠ 76 → mI (rm_ k (rf k M)) x = mI M x := fun x a b c e => by rw [rm_row c e, rf_row a b]
  have hr : r = 4 ∨ r = 13 := by obtain ⟨q, -, -⟩ := h4; omega
  refine ⟨h0, h1.congr (fun x hx => hrow x (by omega) (by omega) (by omega) (by omega)), h2.congr (fun x hx => hrow x (by omega) (by omega) (by omega) (by omega)), ?_, r, s, n, m, G, d, cd, h4, h5.congr (fun x hx => hrow x (by unfold gset at hx; omega) (by unfold gset at hx; omega) (by unfold gset at hx; omega) (by unfold gset at hx; omega)) ?_ ?_⟩
  · obtain ⟨t1, t2, t3, t4, t5⟩ := h3
    unfold rm_ rf
    refine ⟨?_, t2, t3, ?_, fun f hf => ?_⟩
    · simp [mI_sI, t1]
    · simp [mI_sI]
    · by_cases hfk : f = k
      · subst hfk; simp [mI_sI, t5 f hf]
      · simp [mI_sI, hfk, t5 f hf]
  · unfold rm_ rf; simp [mI_sI]
  · unfold rm_ rf; simp [mI_sI]
theorem rowOf_bad {M : Mem} (h : SF M) {x : Int32} (hx : x < 0 ∨ nI 6 ≤ x) : f_X7_rowOf 1 x M = some 0 := by
  unfold f_X7_rowOf
  by_cases h0 : x < 0
  · simp only [KQ h, if_true, if_pos h0]
  · have h6 : nI 6 ≤ x := hx.resolve_left h0
    simp only [KQ h, RQ h, LQ, if_true, if_neg h0, Option.bind_some, aN_k, if_pos h6]
theorem rowOf_ok {M : Mem} (h : SF M) {r : Nat} (hr : r < 6) : f_X7_rowOf 1 (nI r) M = some (39 + 2 * r) := by
  unfold f_X7_rowOf
  simp only [KQ h, RQ h, LQ, if_true, if_neg (nI_pos (show r < 2 ^ 31 by omega)), Option.bind_some, aN_k, if_neg (nI_ge hr (by omega)), rowF h hr]
theorem isRow_bad {x : Int32} (hx : x < 0 ∨ nI 6 ≤ x) : f_X8_isRow x = some 0 := by
  rw [isRow_eq, if_neg]
  rw [Int32.lt_iff_toInt_lt, Int32.le_iff_toInt_le, nI_toInt (by omega)] at hx
  simp at hx
  omega
theorem isRow_ok {r : Nat} (hr : r < 6) : f_X8_isRow (nI r) = some 1 := by
  rw [isRow_eq, if_pos]
  rw [nI_toInt (by omega)]
  omega
theorem iter_sI {M : Mem} {x p : Nat} {v : Nat → Int32} (k : Nat) : iter (fun j N => sI N x (p + j) (v j)) 0 k M = sW M x (fun i => if p ≤ i ∧ i < p + k then v (i - p) else mI M x i) := by
  have ind := iter_ind (f := fun j N => sI N x (p + j) (v j)) (fun j N' => N' = sW M x (fun i => if p ≤ i ∧ i < p + j then v (i - p) else mI M x i)) k 0 M (by
      have : (fun i => if p ≤ i ∧ i < p + 0 then v (i - p) else mI M x i) = mI M x := by funext i; rw [if_neg (by omega)]
      rw [this, sW_self]) (fun i N' _ hi hN => by
    subst hN
    rw [sI_sW, sW_sW, mI_eq]
    congr 1
    funext q
    unfold upd
    by_cases h1 : q = p + i
    · rw [if_pos h1, if_pos (by omega), show q - p = i by omega]
    · rw [if_neg h1]
      show (if p ≤ q ∧ q < p + i then _ else _) = _
      by_cases h2 : p ≤ q ∧ q < p + i
      · rw [if_pos h2, if_pos (by omega)]
      · rw [if_neg h2, if_neg (by omega)])
  rw [Nat.zero_add] at ind
  exact ind
/-- Arrays.fill of ints -/
theorem fillI {M : Mem} {x : Nat} (hk : kd M x = 1) (v : Int32) : f_J7_fill_53178 x v M = some (sW M x (fun j => if j < ln x then v else mI M x j)) := by
  have hl := ln_le x
  unfold f_J7_fill_53178
  rw [aN_k hk, Option.bind_some]
  have key := lp_up (F := fun fu j (N : Mem) => f_J7_fill_53178_5 fu x v (nI j) (nI (ln x)) N) (ln x) (fun N => some N) (fun j N => sI N x j v) (fun j N => kd N x = 1)
    (fun fu N _ => by simp only [f_J7_fill_53178_5]; rw [if_pos (nI_le (Nat.le_refl _) (by omega))])
    (fun fu j N hj hI => by
      refine ⟨?_, hI⟩
      simp only [f_J7_fill_53178_5]
      rw [if_neg (nI_ge hj (by omega)), eI_k hI hj, Option.bind_some, nI_1])
    (ln x) FU 0 M (by omega) (by unfold FU; omega) hk
  refine key.1.trans ?_
  congr 1
  have it := iter_sI (M := M) (x := x) (p := 0) (v := fun _ => v) (ln x)
  simp only [Nat.zero_add, Nat.zero_le, true_and] at it
  exact it
theorem renew_X {M : Mem} (h : SF M) {r : Nat} (hr : r < 6) (v : Int32) : f_X4_renew (39 + 2 * r) v M = some (sI (sW M (40 + 2 * r) (fun j => if j < 40 then 0 else mI M (40 + 2 * r) j)) (39 + 2 * r) 1 v) := by
  obtain ⟨-, k1, g1, k2, l2⟩ := rowF h hr
  unfold f_X4_renew
  rw [if_pos k1, g1, Option.bind_some, fillI k2, l2, Option.bind_some, pI_k (by rw [kd_sW]; exact k1)]
  rfl
/-- makeRow: a row of the model anew -/
theorem makeRow_Y {M : Mem} (h : SF M) {r : Nat} (hr : r < 6) (v : Int32) : f_X8_makeRow 65 (nI r) v M = some (sW (sI M 72 r v) 73 (fun j => if 40 * r ≤ j ∧ j < 40 * r + 40 then 0 else mI M 73 j)) := by
  unfold f_X8_makeRow
  simp only [KQ h, RQ h, if_true, Option.bind_some]
  rw [eI_k (KQ h).2.2.2.2.2.2.2.2.2.2.2.2.2.2.2.2.2.2.2.2.2.2.2.2.2.2.2.2.2.2.2.2.2.2.2.2.2.2.2.2.2.2.2.2.2.2.2.2.2.2.2.2.2.2.2.2.2.2.2.2.2.2.2.2.2.2.2.2.2.2.2.1 (by simp only [LQ]; omega), Option.bind_some]
  generalize hN : sI M 72 r v = N
  have hS : SF N := by rw [← hN]; exact h
  have h73 : mI M 73 = mI N 73 := by rw [← hN, mI_sI_row (by decide)]
  rw [h73]
  have key := lp_up (F := fun fu j (N : Mem) => f_X8_makeRow_9 fu 65 (nI r) (nI j) N) 40 (fun N => some N) (fun j N => sI N 73 (40 * r + j) 0) (fun j N => SF N)
    (fun fu N _ => by simp only [f_X8_makeRow_9]; rw [if_pos (show (40 : Int32) ≤ nI 40 from Int32.le_refl _)])
    (fun fu j N hj hI => by
      refine ⟨?_, hI⟩
      simp only [f_X8_makeRow_9]
      rw [if_neg (show ¬ (40 : Int32) ≤ nI j from nI_ge (b := 40) hj (by omega))]
      simp only [RQ hI, Option.bind_some]
      rw [show (40 : Int32) * nI r + nI j = nI (40 * r + j) from by rw [show (40 : Int32) = nI 40 from rfl, pk_mul, nI_add], eI_k (by simp only [KQ hI]) (by simp only [LQ]; omega), Option.bind_some, nI_1])
    40 FU 0 N (by omega) (by unfold FU; omega) hS
  refine (show f_X8_makeRow_9 FU 65 (nI r) 0 N = _ from key.1).trans ?_
  congr 1
  exact iter_sI (M := N) (x := 73) (p := 40 * r) (v := fun _ => 0) 40
theorem ixc (x : Int32) (n : Nat) (hn : n < 2 ^ 31) : (x < 0 ∨ nI n ≤ x) ∨ ∃ j : Nat, j < n ∧ x = nI j := by
  rcases pk_ix x hn with h | h | h
  · exact Or.inl (Or.inl h)
  · exact Or.inl (Or.inr h)
  · exact Or.inr h
/-- what stays when a row changes -/
theorem Inv.rows {M M' : Mem} (h : Inv M) (hS : SF M') (hR : mR M' = mR M) (hL : mL M' = mL M) (hrow : ∀ x, (x ≤ 38 ∧ x ≠ 1) ∨ (51 ≤ x ∧ x ≠ 65 ∧ x ≠ 72 ∧ x ≠ 73) → mI M' x = mI M x) (h1 : ∀ j, j ≠ 10 → mI M' 1 j = mI M 1 j) (h65 : ∀ j, j ≠ 12 → mI M' 65 j = mI M 65 j) (ht : mI M' 65 12 = mI M' 1 10) (hw : RwP (mI M')) : Inv M' := by
  obtain ⟨g0, g1, g2, g3, r, s, n, m, G, d, cd, g4, g5⟩ := h
  have hr : r = 4 ∨ r = 13 := by obtain ⟨q, -, -⟩ := g4; omega
  refine ⟨hS, hw, g2.congr (fun x hx => hrow x (by omega)), ?_, r, s, n, m, G, d, cd, ?_, g5.congr (fun x hx => hrow x (by unfold gset at hx; omega)) (h65 1 (by decide)) (h65 4 (by decide))⟩
  · obtain ⟨t1, t2, t3, t4, t5⟩ := g3
    refine ⟨ht, by rw [hL]; exact t2, by rw [hL]; exact t3, by rw [h65 15 (by decide), h1 13 (by decide)]; exact t4, fun f hf => ?_⟩
    rw [hrow 76 (by omega), hrow 38 (by omega)]
    exact t5 f hf
  · obtain ⟨q1, q2, q3⟩ := g4
    exact ⟨q1, by rw [hR]; exact q2, by rw [hR]; exact q3⟩
theorem op0 {M : Mem} (h : Inv M) (a1 a2 : Int32) : ∃ M', lawOp_0 a1 a2 M = some M' ∧ Inv M' := by
  have hS := h.1
  unfold lawOp_0 f_X7_row f_X8_row
  simp only [KQ hS, if_true]
  rcases ixc a1 6 (by decide) with h1 | ⟨r, hr, rfl⟩
  · rw [rowOf_bad hS h1]
    simp only [Option.bind_some, if_true, KQ hS]
    rw [isRow_bad h1]
    simp only [Option.bind_some, if_true]
    exact ⟨M, rfl, h⟩
  · rw [rowOf_ok hS hr]
    simp only [Option.bind_some, show ¬ 39 + 2 * r = 0 by omega, if_false]
    by_cases h40 : a2 ≤ 40
    · simp only [if_pos h40]
      by_cases h0 : 0 ≤ a2
      · simp only [if_pos h0]
        rw [renew_X hS hr]
        simp only [Option.bind_some]
        generalize hM1 : sI (sW M (40 + 2 * r) (fun j => if j < 40 then 0 else mI M (40 + 2 * r) j)) (39 + 2 * r) 1 a2 = M1
        have hS1 : SF M1 := by rw [← hM1]; exact hS
        simp only [KQ hS1, if_true]
        rw [isRow_ok hr, makeRow_Y hS1 hr]
        simp only [Option.bind_some, show ¬ (1 : Int32) = 0 by decide, if_false, if_true]
        refine ⟨_, rfl, ?_⟩
        have e1 : ∀ x, x ≠ 39 + 2 * r → x ≠ 40 + 2 * r → mI M1 x = mI M x := fun x a b => by rw [← hM1, mI_sI_row a, mI_ne b]
        refine h.rows hS1 (by rw [← hM1]; rfl) (by rw [← hM1]; rfl) (fun x hx => ?_) (fun j _ => ?_) (fun j _ => ?_) ?_ (fun q hq => ?_)
        · rw [mI_ne (by omega), mI_sI_row (by omega), e1 x (by omega) (by omega)]
        · rw [mI_ne (by omega), mI_sI_row (by omega), e1 1 (by omega) (by omega)]
        · rw [mI_ne (by omega), mI_sI_row (by omega), e1 65 (by omega) (by omega)]
        · rw [mI_ne (by omega), mI_sI_row (by omega), e1 65 (by omega) (by omega), mI_ne (by omega), mI_sI_row (by omega), e1 1 (by omega) (by omega)]
          exact h.2.2.2.1.1
        · obtain ⟨w1, w2, w3⟩ := h.2.1 q hq
          rw [mI_ne (x := 73) (y := 39 + 2 * q) (by omega), mI_ne (x := 73) (y := 40 + 2 * q) (by omega), mI_eq, mI_ne (x := 73) (y := 72) (by decide), mI_sI_row (x := 72) (show 39 + 2 * q ≠ 72 by omega), mI_sI_row (x := 72) (show 40 + 2 * q ≠ 72 by omega), mI_sI, e1 72 (by omega) (by omega), e1 73 (by omega) (by omega)]
          by_cases hqr : q = r
          · subst hqr
            obtain ⟨z, hz, rfl⟩ : ∃ z, z ≤ 40 ∧ a2 = nI z := by
              obtain ⟨z, hz, e⟩ := nI_of2 (M := 40) (n := 40) rfl (by rw [Int32.not_lt]; exact h0) h40
              exact ⟨z, hz, e⟩
            refine ⟨⟨z + 1, by omega, ?_⟩, ?_, fun j hj => ?_⟩
            · rw [← hM1, mI_sI]; simp [nI_pred]
            · rw [← hM1, mI_sI]; simp
            · rw [if_pos (by omega), ← hM1, mI_sI_row (by omega), mI_eq, if_pos hj]
          · rw [e1 (39 + 2 * q) (by omega) (by omega), e1 (40 + 2 * q) (by omega) (by omega), if_neg (by omega)]
            refine ⟨w1, w2, fun j hj => ?_⟩
            rw [if_neg (by omega)]
            exact w3 j hj
      · simp only [if_neg h0]
        rw [show (5 : Int32) = nI 5 from rfl, refuse_X hS (by decide)]
        simp only [Option.bind_some, KQ hS.rf, if_true]
        rw [isRow_ok hr]
        simp only [Option.bind_some, show ¬ (1 : Int32) = 0 by decide, if_false]
        rw [find_Y hS.rf (by decide)]
        simp only [Option.bind_some, if_true]
        exact ⟨_, rfl, h.refused (by decide)⟩
    · simp only [if_neg h40, Option.bind_some, KQ hS, if_true]
      rw [isRow_ok hr]
      simp only [Option.bind_some, show ¬ (1 : Int32) = 0 by decide, if_false, if_true]
      exact ⟨M, rfl, h⟩
