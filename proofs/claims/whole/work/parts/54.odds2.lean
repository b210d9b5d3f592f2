def gN (G S : Nat → Nat → Nat) (n m b : Nat) : Nat := pl G n m b (zg S 0) 2 1
/-- what a set brings to the sum: e = 0 odds, e = 1 mid -/
def gE (G S : Nat → Nat → Nat) (n m v e b : Nat) : Nat := if e = 0 then (if gN G S n m b < v then 0 else 1) else gN G S n m b
def hC (G S : Nat → Nat → Nat) (n m v e p : Nat) (x : Nat) : Nat := if dj (S 2 0) m x = true then wC p (S 2 0) m x * gE G S n m v e x else 0
def aC (G S : Nat → Nat → Nat) (n m v e p : Nat) : Nat := Sg (hC G S n m v e p) 0 (2 ^ m)
def bC (S : Nat → Nat → Nat) (m : Nat) : Nat := iter (fun o a => if (S 2 0).testBit o = true then a else a * 12) 0 m 1
theorem Sg_snoc {h : Nat → Nat} {k : Nat} : Sg h 0 (k + 1) = Sg h 0 k + h k := by
  rw [Sg_add, Nat.zero_add]; rfl
theorem gN_le {M : Mem} {r n m : Nat} {G S : Nat → Nat → Nat} (h : Gd M r n m G) (b : Nat) : gN G S n m b ≤ 330 := by
  have hnm := h.nm
  have := pl_le (G := G) (T := zg S 0) (n := n) (m := m) (s := b) (fun i hi => (h.s hi).1.2.2) (fun o ho => (h.o ho).2.2.2.2)
  have h2 : 11 * n * m ≤ 11 * 5 * 6 := Nat.mul_le_mul (Nat.mul_le_mul_left 11 hnm.1) hnm.2.1
  have h3 : zg S 0 2 1 = 0 := rfl
  unfold gN
  omega
theorem gE_le {M : Mem} {r n m : Nat} {G S : Nat → Nat → Nat} (h : Gd M r n m G) (v e b : Nat) : gE G S n m v e b ≤ 330 := by
  have := gN_le (S := S) h b
  unfold gE
  by_cases h0 : e = 0
  · rw [if_pos h0]
    by_cases h1 : gN G S n m b < v
    · rw [if_pos h1]; omega
    · rw [if_neg h1]; omega
  · rw [if_neg h0]; exact this
theorem aC_le {M : Mem} {r n m : Nat} {G S : Nat → Nat → Nat} (h : Gd M r n m G) {v e p : Nat} (hp : p ≤ 12) : aC G S n m v e p ≤ 63063982080 := by
  have hnm := h.nm
  have h1 : aC G S n m v e p ≤ (12 ^ 6 * 330) * 2 ^ m := Sg_le _ _ (fun x hx => by
    rw [Nat.zero_add]
    unfold hC
    by_cases hd : dj (S 2 0) m x = true
    · rw [if_pos hd]
      exact Nat.mul_le_mul (Nat.le_trans (wC_le hp m) (Nat.pow_le_pow_right (by decide) hnm.2.1)) (gE_le h v e x)
    · rw [if_neg hd]; exact Nat.zero_le _)
  have h2 : (12 ^ 6 * 330) * 2 ^ m ≤ (12 ^ 6 * 330) * 64 := Nat.mul_le_mul_left _ (p2 hnm.2.1)
  exact Nat.le_trans h1 h2
theorem bC_b {S : Nat → Nat → Nat} {m : Nat} (hm : m ≤ 6) : 0 < bC S m ∧ bC S m ≤ 2985984 := by
  have := iter_ind (f := fun o a => if (S 2 0).testBit o = true then a else a * 12) (fun o a => 0 < a ∧ a ≤ 12 ^ o) m 0 1 ⟨by decide, by decide⟩ (fun o a _ _ hI => by
    rw [Nat.pow_succ]
    by_cases c : (S 2 0).testBit o = true
    · rw [if_pos c]; omega
    · rw [if_neg c]; omega)
  rw [Nat.zero_add] at this
  exact ⟨this.1, Nat.le_trans this.2 (Nat.le_trans (Nat.pow_le_pow_right (by decide) hm) (by decide))⟩
theorem FrA.n {M N : Mem} {n : Nat} {S : Nat → Nat → Nat} (h : FrA M N) (hN : NwP n S (mI M 22) (mI M (22 + 1)) (mI M (22 + 2))) : NwP n S (mI N 22) (mI N (22 + 1)) (mI N (22 + 2)) := by
  rw [h.2.2.2 22 (by omega), h.2.2.2 (22 + 1) (by omega), h.2.2.2 (22 + 2) (by omega)]; exact hN
theorem dj_and {M : Mem} {r n m : Nat} {G S : Nat → Nat → Nat} {q : Nat} (h : Gd M r n m G) (hB : Bd n m S q) {b : Nat} (hb : b < 2 ^ m) : (nI b &&& nI (S 2 0) = 0) ↔ dj (S 2 0) m b = true := by
  have hnm := h.nm
  have h6 := lt64 hnm.2.1 hB.2.1
  have hb6 := lt64 hnm.2.1 hb
  rw [and1 (by omega) (by omega), ← dj_iff hb, show (0 : Int32) = nI 0 from rfl, nI_eq (Nat.lt_of_le_of_lt Nat.and_le_left (by omega)) (by decide)]
theorem odds_X {M : Mem} {r n m : Nat} {G S : Nat → Nat → Nat} {q : Nat} (h : Gd M r n m G) (hN : NwP n S (mI M 22) (mI M (22 + 1)) (mI M (22 + 2))) (hB : Bd n m S q) {v p : Nat} (hv : v ≤ 66) (hp : p ≤ 12) : ∃ N, f_X7_odds_40 FU 1 (nI v) (nI p) 0 0 M = some (1, sL (sL N 1 11 (lN (aC G S n m v 0 p / Nat.gcd (bC S m) (aC G S n m v 0 p)))) 1 12 (lN (bC S m / Nat.gcd (bC S m) (aC G S n m v 0 p)))) ∧ FrA M N := by
  have hnm := h.nm
  have hp2 := p2 hnm.2.1
  have hA := aC_le (S := S) h (v := v) (e := 0) hp
  have hBb := bC_b (S := S) hnm.2.1
  obtain ⟨s', k1, k2⟩ := lp_ex (F := fun fu b (t : Nat × Mem) => f_X7_odds_40 fu 1 (nI v) (nI p) (lN t.1) (nI b) t.2) (2 ^ m) (fun t => some (1, sL (sL t.2 1 11 (lN (aC G S n m v 0 p / Nat.gcd (bC S m) (aC G S n m v 0 p)))) 1 12 (lN (bC S m / Nat.gcd (bC S m) (aC G S n m v 0 p))))) (fun b t => t.1 = Sg (hC G S n m v 0 p) 0 b ∧ FrA M t.2)
    (fun fu t hI => by
      have hGN := hI.2.g h
      simp only [f_X7_odds_40, hGN.R, hGN.sz, Option.bind_some, sh1 m (show m < 10 by omega)]
      rw [if_pos (Int32.le_refl _), weightAll_X hGN (hI.2.n hN) hB, Option.bind_some, hI.1]
      show (f_X7_tellChance 1 (lN (aC G S n m v 0 p)) (lN (bC S m)) t.2).bind _ = _
      rw [tell_X hI.2.1 (by omega) (by omega) hBb.1]
      rfl)
    (fun fu b t hb hI => by
      have hGN := hI.2.g h
      have hNN := hI.2.n hN
      have hb6 : b < 64 := by omega
      have hgl := gN_le (S := S) h b
      simp only [f_X7_odds_40, hGN.R, hGN.sz, Option.bind_some, sh1 m (show m < 10 by omega), RQ hI.2.1, KQ hI.2.1, gI_k, hNN.1]
      rw [if_neg (nI_ge hb (by omega))]
      by_cases hd : dj (S 2 0) m b = true
      · obtain ⟨N, u1, u2, u3, u4⟩ := plainGold_X hGN hNN hB hb6
        rw [if_pos ((dj_and h hB hb).mpr hd), u1]
        simp only [Option.bind_some]
        have hF2 := hI.2.tr u2
        have eg : pl G n m b (zg S 0) 2 1 = gN G S n m b := rfl
        rw [eg]
        by_cases hc : gN G S n m b < v
        · rw [if_pos (nI_lt hc (by omega)), nI_1]
          refine ⟨(t.1, N), rfl, ?_, hF2⟩
          rw [Sg_snoc, ← hI.1]
          unfold hC gE
          rw [if_pos hd, if_pos rfl, if_pos hc, Nat.mul_zero, Nat.add_zero]
        · rw [if_neg (nI_nlt (by omega) (by omega)), weight_X (hF2.g h) (hF2.n hN) hB hb6 hp, Option.bind_some, lN_add, nI_1]
          refine ⟨(t.1 + wC p (S 2 0) m b, N), rfl, ?_, hF2⟩
          rw [Sg_snoc, ← hI.1]
          unfold hC gE
          rw [if_pos hd, if_pos rfl, if_neg hc, Nat.mul_one]
      · rw [if_neg (fun q => hd ((dj_and h hB hb).mp q)), nI_1]
        refine ⟨t, rfl, ?_, hI.2⟩
        rw [Sg_snoc, ← hI.1]
        unfold hC
        rw [if_neg hd, Nat.add_zero])
    (2 ^ m) FU 0 (0, M) (by omega) (by unfold FU; omega) ⟨rfl, h.1, rfl, rfl, fun x _ => rfl⟩
  exact ⟨s'.2, k1, k2.2⟩
theorem mid_X {M : Mem} {r n m : Nat} {G S : Nat → Nat → Nat} {q : Nat} (h : Gd M r n m G) (hN : NwP n S (mI M 22) (mI M (22 + 1)) (mI M (22 + 2))) (hB : Bd n m S q) {p : Nat} (hp : p ≤ 12) : ∃ N, f_X7_mid_30 FU 1 (nI p) 0 0 M = some (1, sL (sL N 1 11 (lN (aC G S n m 0 1 p / Nat.gcd (bC S m) (aC G S n m 0 1 p)))) 1 12 (lN (bC S m / Nat.gcd (bC S m) (aC G S n m 0 1 p)))) ∧ FrA M N := by
  have hnm := h.nm
  have hp2 := p2 hnm.2.1
  have hA := aC_le (S := S) h (v := 0) (e := 1) hp
  have hBb := bC_b (S := S) hnm.2.1
  obtain ⟨s', k1, k2⟩ := lp_ex (F := fun fu b (t : Nat × Mem) => f_X7_mid_30 fu 1 (nI p) (lN t.1) (nI b) t.2) (2 ^ m) (fun t => some (1, sL (sL t.2 1 11 (lN (aC G S n m 0 1 p / Nat.gcd (bC S m) (aC G S n m 0 1 p)))) 1 12 (lN (bC S m / Nat.gcd (bC S m) (aC G S n m 0 1 p))))) (fun b t => t.1 = Sg (hC G S n m 0 1 p) 0 b ∧ FrA M t.2)
    (fun fu t hI => by
      have hGN := hI.2.g h
      simp only [f_X7_mid_30, hGN.R, hGN.sz, Option.bind_some, sh1 m (show m < 10 by omega)]
      rw [if_pos (Int32.le_refl _), weightAll_X hGN (hI.2.n hN) hB, Option.bind_some, hI.1]
      show (f_X7_tellChance 1 (lN (aC G S n m 0 1 p)) (lN (bC S m)) t.2).bind _ = _
      rw [tell_X hI.2.1 (by omega) (by omega) hBb.1]
      rfl)
    (fun fu b t hb hI => by
      have hGN := hI.2.g h
      have hNN := hI.2.n hN
      have hb6 : b < 64 := by omega
      have hgl := gN_le (S := S) h b
      simp only [f_X7_mid_30, hGN.R, hGN.sz, Option.bind_some, sh1 m (show m < 10 by omega), RQ hI.2.1, KQ hI.2.1, gI_k, hNN.1]
      rw [if_neg (nI_ge hb (by omega))]
      by_cases hd : dj (S 2 0) m b = true
      · obtain ⟨N, u1, u2, u3, u4⟩ := plainGold_X hGN hNN hB hb6
        have eg : pl G n m b (zg S 0) 2 1 = gN G S n m b := rfl
        rw [if_pos ((dj_and h hB hb).mpr hd), weight_X hGN hNN hB hb6 hp, Option.bind_some, u1, eg]
        simp only [Option.bind_some]
        rw [nI_l (by omega), lN_mul, lN_add, nI_1]
        refine ⟨(t.1 + wC p (S 2 0) m b * gN G S n m b, N), rfl, ?_, hI.2.tr u2⟩
        rw [Sg_snoc, ← hI.1]
        unfold hC gE
        rw [if_pos hd, if_neg (show ¬ (1 : Nat) = 0 by decide)]
      · rw [if_neg (fun q => hd ((dj_and h hB hb).mp q)), nI_1]
        refine ⟨t, rfl, ?_, hI.2⟩
        rw [Sg_snoc, ← hI.1]
        unfold hC
        rw [if_neg hd, Nat.add_zero])
    (2 ^ m) FU 0 (0, M) (by omega) (by unfold FU; omega) ⟨rfl, h.1, rfl, rfl, fun x _ => rfl⟩
  exact ⟨s'.2, k1, k2.2⟩
theorem FrY.p {M N : Mem} {n : Nat} {S : Nat → Nat → Nat} (h : FrY M N) (hn : n ≤ 5) (hP : Part (mI M 66) 0 n S) : Part (mI N 66) 0 n S := hP.congr hn (fun j _ hj => h.2.2.2.2 j (by omega))
theorem tp_Y {M : Mem} {r n m : Nat} {G S : Nat → Nat → Nat} {q : Nat} (h : Gd M r n m G) (hP : Part (mI M 66) 0 n S) (hB : Bd n m S q) {v p e : Nat} (hv : v ≤ 66) (hp : p ≤ 12) (he : e = 0 ∨ e = 1) : ∃ N, f_X8_tellPlain 65 (nI v) (nI p) (nI e) M = some (1, sL (sL N 65 13 (lN (aC G S n m v e p / Nat.gcd (bC S m) (aC G S n m v e p)))) 65 14 (lN (bC S m / Nat.gcd (bC S m) (aC G S n m v e p)))) ∧ FrY M N := by
  have hnm := h.nm
  have hp2 := p2 hnm.2.1
  have hA := aC_le (S := S) h (v := v) (e := e) hp
  have hBb := bC_b (S := S) hnm.2.1
  have e12 : (12 : Int32) - nI p = nI (12 - p) := pk_sub (a := 12) hp
  have inner : ∀ (k : Nat → Int32 → Int32 → Int32 → Int64 → Int64 → Int32 → Mem → Option (Int32 × Mem)) (b : Nat), b < 2 ^ m → ∀ (N : Mem) (a c : Nat), FrY M N → ∃ N', f_X8_tellPlain_26 k FU 65 (nI v) (nI p) (nI e) (lN a) (lN c) (nI b) 1 0 N = k 65 (nI v) (nI p) (nI e) (lN (a + wA p m b * gE G S n m v e b)) (lN (c + wA p m b)) (nI b + 1) N' ∧ FrY M N' := by
    intro k b hb N a c hF
    have hGN := hF.g h
    have hb6 : b < 64 := by omega
    have key := lp_up (F := fun fu o (w : Nat) => f_X8_tellPlain_26 k fu 65 (nI v) (nI p) (nI e) (lN a) (lN c) (nI b) (lN w) (nI o) N) m (fun w => f_X8_tellPlain_26 k 1 65 (nI v) (nI p) (nI e) (lN a) (lN c) (nI b) (lN w) (nI m) N) (fun o w => w * fc p b o) (fun _ _ => True)
      (fun fu w _ => by
        simp only [f_X8_tellPlain_26, hGN.sz, Option.bind_some]
        rw [if_pos (Int32.le_refl _), if_pos (Int32.le_refl _)])
      (fun fu o w ho _ => by
        refine ⟨?_, trivial⟩
        simp only [f_X8_tellPlain_26, hGN.sz, Option.bind_some, hs2 b hb6 o (show o < 6 by omega), e12, nI_l (show 12 - p < 2 ^ 31 by omega), nI_l (show p < 2 ^ 31 by omega), lN_mul, nI_1]
        rw [if_neg (nI_ge ho (by omega))]
        unfold fc
        by_cases c2 : b.testBit o = true
        · simp only [c2, if_true, show ¬ (1 : Int32) = 0 by decide, if_false]
        · simp only [c2, if_true, if_false, Bool.false_eq_true])
      m FU 0 1 (by omega) (by unfold FU; omega) trivial
    obtain ⟨N', d1, d2, d3, -⟩ := doesPlain_Y hGN (hF.p hnm.1 hP) hB hb6
    have hz := pl_zg (G := G) (n := n) (m := m) (s := b) (S := S) rfl
    have hgl := gN_le (S := S) h b
    have eg : pl G n m b (zg S 0) 2 1 = gN G S n m b := rfl
    refine ⟨N', ?_, hF.tr d2⟩
    refine (show f_X8_tellPlain_26 k FU 65 (nI v) (nI p) (nI e) (lN a) (lN c) (nI b) 1 0 N = f_X8_tellPlain_26 k 1 65 (nI v) (nI p) (nI e) (lN a) (lN c) (nI b) (lN (wA p m b)) (nI m) N from key.1).trans ?_
    simp only [f_X8_tellPlain_26, hGN.sz, Option.bind_some]
    rw [if_pos (Int32.le_refl _), d1]
    simp only [Option.bind_some, RQ d2.1]
    rw [show aI N' 66 1973 = _ from aI_k (j := 1973) (by simp only [KQ d2.1]) (by simp only [LQ]; omega), show aI N' 66 1 = _ from aI_k (j := 1) (by simp only [KQ d2.1]) (by simp only [LQ]; omega), show mI N' 66 1973 = _ from d3.1, (hF.tr d2).2.2.2.2 1 (by omega), show mI M 66 1 = _ from hP.1, hz.2.2.2]
    simp only [Option.bind_some, pk_sub (Nat.le_add_right _ _), Nat.add_sub_cancel_left, eg, lN_add]
    unfold gE
    rcases he with rfl | rfl
    · rw [if_pos (show nI 0 = 0 from rfl), if_pos rfl]
      by_cases hc : gN G S n m b < v
      · rw [if_pos (nI_lt hc (by omega)), if_pos hc, Nat.mul_zero, show lN a + (0 : Int64) = lN (a + 0) from lN_add a 0]
      · rw [if_neg (nI_nlt (by omega) (by omega)), if_neg hc, Nat.mul_one]
    · rw [if_neg (show ¬ nI 1 = 0 by decide), if_neg (show ¬ (1 : Nat) = 0 by decide), nI_l (by omega), lN_mul, lN_add]
  have hg : ∀ k t x, k < m → (S 2 0).testBit k = true → x < 2 ^ k → gE G S n m v e (2 ^ (k + 1) * t + x) = gE G S n m v e (2 ^ (k + 1) * t + 2 ^ k + x) := by
    intro k t x hk hD hx
    have e1 : gN G S n m (2 ^ (k + 1) * t + x) = gN G S n m (2 ^ (k + 1) * t + 2 ^ k + x) := by
      unfold gN
      rw [pl_done (T := zg S 0) (D := S 2 0) (s := 2 ^ (k + 1) * t + x) (s' := 2 ^ (k + 1) * t + 2 ^ k + x) rfl (fun o ho hDo => by
        have hx2 : x < 2 ^ (k + 1) := by rw [Nat.pow_succ]; omega
        have hx3 : 2 ^ k + x < 2 ^ (k + 1) := by rw [Nat.pow_succ]; omega
        rw [Nat.add_assoc, Nat.testBit_two_pow_mul_add t hx2, Nat.testBit_two_pow_mul_add t hx3]
        by_cases ho1 : o < k + 1
        · rw [if_pos ho1, if_pos ho1]
          by_cases hok : o = k
          · rw [hok, hD] at hDo; exact absurd hDo (by decide)
          · exact (lowb (by omega)).symm
        · rw [if_neg ho1, if_neg ho1])]
    unfold gE
    rw [e1]
  have sA : Sg (fun b => wA p m b * gE G S n m v e b) 0 (2 ^ m) = cD (S 2 0) m * aC G S n m v e p := by
    have t1 := TA_eq (p := p) (g := gE G S n m v e) m 0
    have t2 := TA_TC hp hg m 0 (Nat.le_refl _)
    have t3 := TC_eq (p := p) (D := S 2 0) (g := gE G S n m v e) m 0
    rw [Nat.mul_zero] at t2
    simp only [Nat.zero_add] at t1 t3
    rw [t1, t2, ← t3]
    rfl
  have sB : Sg (fun b => wA p m b) 0 (2 ^ m) = cD (S 2 0) m * bC S m := by
    have t1 := TA_eq (p := p) (g := fun _ => 1) m 0
    have t2 := TA_TC (D := S 2 0) (m := m) (g := fun _ => 1) hp (fun _ _ _ _ _ _ => rfl) m 0 (Nat.le_refl _)
    have t3 := TC_one (p := p) (D := S 2 0) hp m 0
    rw [Nat.mul_zero] at t2
    simp only [Nat.mul_one] at t1
    rw [t1, t2, t3]
    rfl
  have hcD : cD (S 2 0) m ≤ 12 ^ 6 := by
    have : ∀ k, cD (S 2 0) k ≤ 12 ^ k := by
      intro k
      induction k with
      | zero => exact Nat.le_refl _
      | succ k ih =>
        unfold cD
        rw [Nat.pow_succ]
        by_cases c : (S 2 0).testBit k = true
        · rw [if_pos c]; omega
        · rw [if_neg c]; omega
    exact Nat.le_trans (this m) (Nat.pow_le_pow_right (by decide) hnm.2.1)
  have hc0 := cD_pos (D := S 2 0) m
  have bA : cD (S 2 0) m * aC G S n m v e p ≤ 12 ^ 6 * 63063982080 := Nat.mul_le_mul hcD hA
  have bB : cD (S 2 0) m * bC S m ≤ 12 ^ 6 * 2985984 := Nat.mul_le_mul hcD hBb.2
  obtain ⟨s', k1, k2⟩ := lp_ex (F := fun fu b (t : Nat × Nat × Mem) => f_X8_tellPlain_9 fu 65 (nI v) (nI p) (nI e) (lN t.1) (lN t.2.1) (nI b) t.2.2) (2 ^ m) (fun t => some (1, sL (sL t.2.2 65 13 (lN (aC G S n m v e p / Nat.gcd (bC S m) (aC G S n m v e p)))) 65 14 (lN (bC S m / Nat.gcd (bC S m) (aC G S n m v e p))))) (fun b t => t.1 = Sg (fun b => wA p m b * gE G S n m v e b) 0 b ∧ t.2.1 = Sg (fun b => wA p m b) 0 b ∧ FrY M t.2.2)
    (fun fu t hI => by
      have hGN := hI.2.2.g h
      simp only [f_X8_tellPlain_9, hGN.sz, Option.bind_some, sh1 m (show m < 10 by omega)]
      rw [if_pos (Int32.le_refl _), hI.1, hI.2.1, sA, sB, tell_P hI.2.2.1 (by omega) (by omega) (Nat.mul_pos hc0 hBb.1), Nat.gcd_mul_left, Nat.mul_div_mul_left _ _ hc0, Nat.mul_div_mul_left _ _ hc0, Nat.gcd_comm (aC G S n m v e p)]
      rfl)
    (fun fu b t hb hI => by
      have hGN := hI.2.2.g h
      obtain ⟨N', u1, u2⟩ := inner (f_X8_tellPlain_9 fu) b hb t.2.2 t.1 t.2.1 hI.2.2
      refine ⟨(t.1 + wA p m b * gE G S n m v e b, t.2.1 + wA p m b, N'), ?_, ?_, ?_, u2⟩
      · simp only [f_X8_tellPlain_9, hGN.sz, Option.bind_some, sh1 m (show m < 10 by omega)]
        rw [if_neg (nI_ge hb (by omega)), u1, nI_1]
      · rw [Sg_snoc, ← hI.1]
      · rw [Sg_snoc, ← hI.2.1])
    (2 ^ m) FU 0 (0, 0, M) (by omega) (by unfold FU; omega) ⟨rfl, rfl, h.1, rfl, rfl, fun x _ => rfl, fun j _ => rfl⟩
  unfold f_X8_tellPlain
  simp only [KQ h.1, if_true]
  exact ⟨s'.2.2, k1, k2.2.2⟩
theorem Inv.sc3 {M N M' : Mem} (h : Inv M) {u l : Int64} (h1 : FrA M N) (h2 : FrY (sL (sL N 1 11 u) 1 12 l) M') : Inv (sL (sL M' 65 13 u) 65 14 l) := by
  have e : ∀ x, x ≠ 66 → x < 25 ∨ 27 < x → mI (sL (sL M' 65 13 u) 65 14 l) x = mI M x := fun x q1 q4 => (h2.2.2.2.1 x q1).trans (h1.2.2.2 x q4)
  have eR : mR (sL (sL M' 65 13 u) 65 14 l) = mR M := h2.2.1.trans h1.2.1
  refine h.scr h2.1 (by rw [eR]) (by rw [eR]) (fun x hx => e x (by omega) (by omega)) (fun j hj => ?_) (by rw [e 65 (by omega) (by omega)]) (by rw [e 65 (by omega) (by omega)]) (by rw [e 65 (by omega) (by omega)]) (by rw [e 1 (by omega) (by omega)]) (by rw [e 65 (by omega) (by omega), e 1 (by omega) (by omega)]; exact h.2.2.2.1.1) ?_ ?_ (h.2.1.congr (fun x hx => e x (by omega) (by omega)))
  · exact (h2.2.2.2.2 j hj).trans (by show mI N 66 j = mI M 66 j; rw [h1.2.2.2 66 (by omega)])
  · rw [mL_sL, if_neg (by decide), mL_sL, if_pos ⟨rfl, rfl⟩, mL_sL_row (by decide), mL_sL_row (by decide), h2.2.2.1, mL_sL, if_neg (by decide), mL_sL, if_pos ⟨rfl, rfl⟩]
  · rw [mL_sL, if_pos ⟨rfl, rfl⟩, mL_sL_row (by decide), mL_sL_row (by decide), h2.2.2.1, mL_sL, if_pos ⟨rfl, rfl⟩]
theorem Gd.lng {M : Mem} {r n m : Nat} {G : Nat → Nat → Nat} (h : Gd M r n m G) (u l : Int64) : Gd (sL (sL M 1 11 u) 1 12 l) r n m G := h
theorem op34 {M : Mem} (h : Inv M) (a1 a2 : Int32) : ∃ M', lawOp_34 a1 a2 M = some M' ∧ Inv M' := by
  have hS := h.1
  obtain ⟨r, s, n, m, G, d, cd, -, -, hG, hN, hP, hB, -⟩ := h.op
  have hnm := hG.nm
  unfold lawOp_34 f_X7_odds f_X8_odds
  simp only [KQ hS, if_true]
  rcases ixc a1 67 (by omega) with h1 | ⟨v, hv, rfl⟩
  · have e0 : f_X8_in (Int32.toInt64 a1) 0 66 = 0 := in_bad (n := 67) (by decide) rfl h1
    by_cases q : a1 < 0
    · simp only [if_pos q, e0, if_true, Option.bind_some, KQ hS]
      exact ⟨M, rfl, h⟩
    · have q5 : (66 : Int32) < a1 := by
        have := h1.resolve_left q
        rw [Int32.le_iff_toInt_le, nI_toInt (by omega)] at this
        rw [Int32.lt_iff_toInt_lt, show (66 : Int32).toInt = 66 from rfl]
        omega
      simp only [if_neg q, if_pos q5, e0, if_true, Option.bind_some, KQ hS]
      exact ⟨M, rfl, h⟩
  · have e1 : f_X8_in (Int32.toInt64 (nI v)) 0 66 = 1 := in_ok (n := 67) (by decide) rfl hv
    simp only [if_neg (nI_pos (show v < 2 ^ 31 by omega)), if_neg (show ¬ (66 : Int32) < nI v from nI_nlt (a := 66) (by omega) (by decide)), e1, show ¬ (1 : Int32) = 0 by decide, if_false]
    rcases ixc a2 13 (by omega) with h2 | ⟨p, hp, rfl⟩
    · have e0 : f_X8_in (Int32.toInt64 a2) 0 12 = 0 := in_bad (n := 13) (by decide) rfl h2
      by_cases q : a2 < 0
      · simp only [if_pos q, e0, if_true, Option.bind_some, KQ hS]
        exact ⟨M, rfl, h⟩
      · have q5 : ¬ a2 ≤ 12 := by
          have := h2.resolve_left q
          rw [Int32.le_iff_toInt_le, nI_toInt (by omega)] at this
          rw [Int32.le_iff_toInt_le, show (12 : Int32).toInt = 12 from rfl]
          omega
        simp only [if_neg q, if_neg q5, e0, if_true, Option.bind_some, KQ hS]
        exact ⟨M, rfl, h⟩
    · have e2 : f_X8_in (Int32.toInt64 (nI p)) 0 12 = 1 := in_ok (n := 13) (by decide) rfl hp
      simp only [if_neg (nI_pos (show p < 2 ^ 31 by omega)), if_pos (show nI p ≤ 12 from nI_le (b := 12) (by omega) (by decide)), e2, show ¬ (1 : Int32) = 0 by decide, if_false, hG.R, hG.sz, Option.bind_some]
      by_cases h0 : n = 0
      · subst h0
        rw [if_pos (show nI 0 = 0 from rfl)]
        simp only [Option.bind_some, KQ hS, if_true, hG.sz]
        rw [if_pos (show nI 0 = 0 from rfl)]
        exact ⟨M, rfl, h⟩
      · obtain ⟨N, x1, x2⟩ := odds_X hG hN hB (v := v) (p := p) (by omega) (by omega)
        rw [if_neg (n0 h0 (by omega)), x1]
        generalize hu : lN (aC G (run G cd d) n m v 0 p / Nat.gcd (bC (run G cd d) m) (aC G (run G cd d) n m v 0 p)) = u at *
        generalize hl : lN (bC (run G cd d) m / Nat.gcd (bC (run G cd d) m) (aC G (run G cd d) n m v 0 p)) = l at *
        have hG1 : Gd (sL (sL N 1 11 u) 1 12 l) r n m G := (x2.g hG).lng u l
        obtain ⟨N2, y1, y2⟩ := tp_Y hG1 (S := run G cd d) (show Part (mI N 66) 0 n (run G cd d) by rw [x2.2.2.2 66 (by omega)]; exact hP) hB (v := v) (p := p) (e := 0) (by omega) (by omega) (Or.inl rfl)
        rw [hu, hl] at y1
        simp only [Option.bind_some, KQ hG1.1, if_true, hG1.sz, if_neg (n0 h0 (show n < 2 ^ 31 by omega)), show f_X8_tellPlain 65 (nI v) (nI p) 0 (sL (sL N 1 11 u) 1 12 l) = _ from y1]
        exact ⟨_, rfl, h.sc3 x2 y2⟩
theorem op35 {M : Mem} (h : Inv M) (a1 : Int32) : ∃ M', lawOp_35 a1 M = some M' ∧ Inv M' := by
  have hS := h.1
  obtain ⟨r, s, n, m, G, d, cd, -, -, hG, hN, hP, hB, -⟩ := h.op
  have hnm := hG.nm
  unfold lawOp_35 f_X7_mid f_X8_mid
  simp only [KQ hS, if_true]
  rcases ixc a1 13 (by omega) with h2 | ⟨p, hp, rfl⟩
  · have e0 : f_X8_in (Int32.toInt64 a1) 0 12 = 0 := in_bad (n := 13) (by decide) rfl h2
    by_cases q : a1 < 0
    · simp only [if_pos q, e0, if_true, Option.bind_some, KQ hS]
      exact ⟨M, rfl, h⟩
    · have q5 : ¬ a1 ≤ 12 := by
        have := h2.resolve_left q
        rw [Int32.le_iff_toInt_le, nI_toInt (by omega)] at this
        rw [Int32.le_iff_toInt_le, show (12 : Int32).toInt = 12 from rfl]
        omega
      simp only [if_neg q, if_neg q5, e0, if_true, Option.bind_some, KQ hS]
      exact ⟨M, rfl, h⟩
  · have e2 : f_X8_in (Int32.toInt64 (nI p)) 0 12 = 1 := in_ok (n := 13) (by decide) rfl hp
    simp only [if_neg (nI_pos (show p < 2 ^ 31 by omega)), if_pos (show nI p ≤ 12 from nI_le (b := 12) (by omega) (by decide)), e2, show ¬ (1 : Int32) = 0 by decide, if_false, hG.R, hG.sz, Option.bind_some]
    by_cases h0 : n = 0
    · subst h0
      rw [if_pos (show nI 0 = 0 from rfl)]
      simp only [Option.bind_some, KQ hS, if_true, hG.sz]
      rw [if_pos (show nI 0 = 0 from rfl)]
      exact ⟨M, rfl, h⟩
    · obtain ⟨N, x1, x2⟩ := mid_X hG hN hB (p := p) (by omega)
      rw [if_neg (n0 h0 (by omega)), x1]
      generalize hu : lN (aC G (run G cd d) n m 0 1 p / Nat.gcd (bC (run G cd d) m) (aC G (run G cd d) n m 0 1 p)) = u at *
      generalize hl : lN (bC (run G cd d) m / Nat.gcd (bC (run G cd d) m) (aC G (run G cd d) n m 0 1 p)) = l at *
      have hG1 : Gd (sL (sL N 1 11 u) 1 12 l) r n m G := (x2.g hG).lng u l
      obtain ⟨N2, y1, y2⟩ := tp_Y hG1 (S := run G cd d) (show Part (mI N 66) 0 n (run G cd d) by rw [x2.2.2.2 66 (by omega)]; exact hP) hB (v := 0) (p := p) (e := 1) (by omega) (by omega) (Or.inr rfl)
      rw [hu, hl] at y1
      simp only [Option.bind_some, KQ hG1.1, if_true, hG1.sz, if_neg (n0 h0 (show n < 2 ^ 31 by omega)), show f_X8_tellPlain 65 0 (nI p) 1 (sL (sL N 1 11 u) 1 12 l) = _ from y1]
      exact ⟨_, rfl, h.sc3 x2 y2⟩
