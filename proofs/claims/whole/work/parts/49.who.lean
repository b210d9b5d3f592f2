/-! ===== who(), kinds(), breaths() ===== -/
def pok (f : Nat → Int32) (m j : Nat) : Bool := decide ((0 ≤ (f (2 * j)).toInt ∧ (f (2 * j)).toInt < (m : Int)) ∧ 0 ≤ (f (2 * j + 1)).toInt ∧ (f (2 * j + 1)).toInt ≤ 9)
theorem toI {x : Int32} {m : Nat} (hm : m < 2 ^ 31) (h : 0 ≤ x.toInt ∧ x.toInt < (m : Int)) : x = nI x.toInt.toNat ∧ x.toInt.toNat < m := by
  refine ⟨?_, by omega⟩
  apply Int32.toInt_inj.mp
  rw [nI_toInt (by omega)]
  omega
theorem pk_nI {f : Nat → Int32} {m j : Nat} (hm : m ≤ 6) (h : pok f m j = true) : f (2 * j) = nI (f (2 * j)).toInt.toNat ∧ (f (2 * j)).toInt.toNat < m ∧ f (2 * j + 1) = nI (f (2 * j + 1)).toInt.toNat ∧ (f (2 * j + 1)).toInt.toNat ≤ 9 := by
  unfold pok at h
  rw [decide_eq_true_eq] at h
  obtain ⟨h1, h2⟩ := h
  have a := toI (by omega) h1
  have b := toI (x := f (2 * j + 1)) (m := 10) (by decide) ⟨h2.1, by omega⟩
  exact ⟨a.1, a.2, b.1, by omega⟩
theorem fop_X {M : Mem} {r n m : Nat} {G : Nat → Nat → Nat} (h : Gd M r n m G) {w k : Nat} (hw : w < 6) (hk : k ≤ 6) (hz : mI M (39 + 2 * w) 1 = nI (2 * k)) : f_X7_findingOfPairs_31 FU 1 (39 + 2 * w) 0 M = some (if allB (pok (mI M (40 + 2 * w)) m) 0 k = true then 0 else 3) := by
  have hnm := h.nm
  obtain ⟨-, k1, g1, k2, l2⟩ := rowF h.1 hw
  have key : ∀ q fu j, j + q = k → q < fu → f_X7_findingOfPairs_31 fu 1 (39 + 2 * w) (nI (2 * j)) M = some (if allB (pok (mI M (40 + 2 * w)) m) j q = true then 0 else 3) := by
    intro q
    induction q with
    | zero =>
      intro fu j hj hf
      obtain ⟨fu, rfl⟩ : ∃ f, fu = f + 1 := ⟨fu - 1, by omega⟩
      simp only [f_X7_findingOfPairs_31, allB, if_true, nI_1]
      rw [gI_k k1, hz, Option.bind_some, if_pos (nI_le (by omega) (by omega))]
    | succ q ih =>
      intro fu j hj hf
      obtain ⟨fu, rfl⟩ : ∃ f, fu = f + 1 := ⟨fu - 1, by omega⟩
      simp only [f_X7_findingOfPairs_31, allB, nI_1, h.R, Option.bind_some, g1]
      rw [gI_k k1, hz, Option.bind_some, if_neg (nI_ge (by omega) (by omega)), aI_k k2 (by rw [l2]; omega), Option.bind_some, aI_k k2 (by rw [l2]; omega), Option.bind_some, show nI (2 * j) + (2 : Int32) = nI (2 * (j + 1)) from (nI_add (2 * j) 2).trans (by rw [show 2 * j + 2 = 2 * (j + 1) by omega]), ih fu (j + 1) (by omega) (by omega)]
      by_cases c : pok (mI M (40 + 2 * w)) m j = true
      · obtain ⟨p1, p2, p3, p4⟩ := pk_nI hnm.2.1 c
        rw [p1, p3, hasO_ok h p2]
        simp only [Option.bind_some, show ¬ (1 : Int32) = 0 by decide, if_false, if_neg (nI_pos (show (mI M (40 + 2 * w) (2 * j + 1)).toInt.toNat < 2 ^ 31 by omega)), if_pos (show nI (mI M (40 + 2 * w) (2 * j + 1)).toInt.toNat ≤ 9 from nI_le (b := 9) p4 (by decide)), c, Bool.true_and]
      · have c' : pok (mI M (40 + 2 * w)) m j = false := by cases hq : pok (mI M (40 + 2 * w)) m j with
          | true => exact absurd hq c
          | false => rfl
        simp only [c', Bool.false_and, Bool.false_eq_true, if_false]
        unfold pok at c
        rw [decide_eq_true_eq] at c
        have b1 := i32_b (mI M (40 + 2 * w) (2 * j))
        rcases ixc (mI M (40 + 2 * w) (2 * j)) m (by omega) with h1 | ⟨o, ho, e⟩
        · rw [hasO_bad h h1]; simp only [Option.bind_some, if_true]
        · rw [e, hasO_ok h ho]
          simp only [Option.bind_some, show ¬ (1 : Int32) = 0 by decide, if_false]
          rw [e, nI_toInt (by omega)] at c
          by_cases c2 : mI M (40 + 2 * w) (2 * j + 1) < 0
          · rw [if_pos c2]
          · rw [if_neg c2]
            rw [Int32.lt_iff_toInt_lt, show (0 : Int32).toInt = 0 from rfl] at c2
            rw [if_neg (show ¬ mI M (40 + 2 * w) (2 * j + 1) ≤ 9 by rw [Int32.le_iff_toInt_le, show (9 : Int32).toInt = 9 from rfl]; omega)]
  exact key k FU 0 (by omega) (by unfold FU; omega)
theorem nop_Y {M : Mem} {r n m : Nat} {G : Nat → Nat → Nat} (h : Gd M r n m G) {w k : Nat} {f : Nat → Int32} (hw : w < 6) (hk : k ≤ 6) (hz : mI M 72 w = nI (2 * k)) (hf : ∀ j, j < 40 → mI M 73 (40 * w + j) = f j) : f_X8_noPairs_50 FU 65 (nI w) 1 (nI (40 * w)) M = if allB (pok f m) 0 k = true then some (0, M) else some (-3, rm_ 3 M) := by
  have hnm := h.nm
  have key : ∀ q fu j (B : Bool), j + q = k → q < fu → f_X8_noPairs_50 fu 65 (nI w) (if B = true then 1 else 0) (nI (40 * w + 2 * j)) M = if (B && allB (pok f m) j q) = true then some (0, M) else some (-3, rm_ 3 M) := by
    intro q
    induction q with
    | zero =>
      intro fu j B hj hfu
      obtain ⟨fu, rfl⟩ : ∃ f, fu = f + 1 := ⟨fu - 1, by omega⟩
      simp only [f_X8_noPairs_50, RQ h.1, Option.bind_some, allB, Bool.and_true]
      rw [aI_k (by simp only [KQ h.1]) (by simp only [LQ]; omega), hz, Option.bind_some, m40, if_pos (nI_le (by omega) (by omega)), show f_X8_find 65 3 M = some (-3, rm_ 3 M) from find_Y h.1 (by decide)]
      cases B with
      | true => simp
      | false => simp
    | succ q ih =>
      intro fu j B hj hfu
      obtain ⟨fu, rfl⟩ : ∃ f, fu = f + 1 := ⟨fu - 1, by omega⟩
      have i1 := ih fu (j + 1) true (by omega) (by omega)
      have i0 := ih fu (j + 1) false (by omega) (by omega)
      simp only [if_true, Bool.true_and] at i1
      simp only [if_false, Bool.false_eq_true, Bool.false_and] at i0
      have b1 := i32_b (f (2 * j))
      have b2 := i32_b (f (2 * j + 1))
      simp only [f_X8_noPairs_50, RQ h.1, Option.bind_some, allB, show nI (40 * w + 2 * j) + (2 : Int32) = nI (40 * w + 2 * (j + 1)) from (nI_add (40 * w + 2 * j) 2).trans (by rw [show 40 * w + 2 * j + 2 = 40 * w + 2 * (j + 1) by omega]), i1, i0, nI_1]
      rw [aI_k (x := 72) (by simp only [KQ h.1]) (by simp only [LQ]; omega), hz, Option.bind_some, m40, if_neg (nI_ge (by omega) (by omega)), aI_k (x := 73) (by simp only [KQ h.1]) (by simp only [LQ]; omega), aI_k (x := 73) (by simp only [KQ h.1]) (by simp only [LQ]; omega), hf (2 * j) (by omega), show 40 * w + 2 * j + 1 = 40 * w + (2 * j + 1) by omega, hf (2 * j + 1) (by omega)]
      simp only [Option.bind_some, in_i, show (0 : Int64).toInt = 0 from rfl, show (9 : Int64).toInt = 9 from rfl]
      cases B with
      | false => simp
      | true =>
        simp only [if_true, show ¬ (1 : Int32) = 0 by decide, if_false, Bool.true_and]
        rcases ixc (f (2 * j)) m (by omega) with h1 | ⟨o, ho, e⟩
        · have c' : pok f m j = false := by
            unfold pok
            rw [decide_eq_false_iff_not]
            rw [Int32.lt_iff_toInt_lt, Int32.le_iff_toInt_le, nI_toInt (by omega), show (0 : Int32).toInt = 0 from rfl] at h1
            omega
          rw [isO_bad h h1, c']
          simp
        · rw [e, isO_ok h ho]
          simp only [Option.bind_some, show ¬ (1 : Int32) = 0 by decide, if_false]
          by_cases c : 0 ≤ (f (2 * j + 1)).toInt ∧ (f (2 * j + 1)).toInt ≤ 9
          · have c' : pok f m j = true := by
              unfold pok
              rw [decide_eq_true_eq, e, nI_toInt (by omega)]
              exact ⟨⟨by omega, by omega⟩, c⟩
            rw [c', if_pos c]
            simp
          · have c' : pok f m j = false := by
              unfold pok
              rw [decide_eq_false_iff_not]
              exact fun q => c q.2
            rw [c', if_neg c]
            simp
  have := key k FU 0 true (by omega) (by unfold FU; omega)
  rw [Bool.true_and] at this
  exact this
theorem m2 {z : Nat} (hz : z ≤ 40) : nI z - nI z / 2 * 2 = nI (z % 2) := pk_rem (d := 2) (by omega) (by decide) (by decide)
theorem noPairs_Y {M : Mem} {r n m : Nat} {G : Nat → Nat → Nat} (h : Gd M r n m G) {w : Nat} {f : Nat → Int32} (hw : w < 6) (hf : ∀ j, j < 40 → mI M 73 (40 * w + j) = f j) : (mI M 72 w = -1 → f_X8_noPairs 65 (nI w) M = some (-3, rm_ 1 M)) ∧ (∀ z, z ≤ 40 → mI M 72 w = nI z → (z % 2 ≠ 0 ∨ 12 < z → f_X8_noPairs 65 (nI w) M = some (-3, rm_ 5 M)) ∧ (z % 2 = 0 → z ≤ 12 → f_X8_noPairs 65 (nI w) M = if allB (pok f m) 0 (z / 2) = true then some (0, M) else some (-3, rm_ 3 M))) := by
  have e40 : (40 : Int32) * nI w = nI (40 * w) := pk_mul 40 w
  unfold f_X8_noPairs f_X8_noPairs_37
  simp only [KQ h.1, RQ h.1, if_true, Option.bind_some, e40]
  rw [aI_k (x := 72) (by simp only [KQ h.1]) (by simp only [LQ]; omega), show f_X8_find 65 1 M = some (-3, rm_ 1 M) from find_Y h.1 (by decide), show f_X8_find 65 5 M = some (-3, rm_ 5 M) from find_Y h.1 (by decide)]
  refine ⟨fun e => ?_, fun z hz e => ⟨fun c => ?_, fun c1 c2 => ?_⟩⟩
  · rw [e]; simp only [Option.bind_some, show ¬ (0 : Int32) ≤ -1 by decide, if_false]
  · rw [e]
    simp only [Option.bind_some, if_pos (nI_pos' (show z < 2 ^ 31 by omega)), m2 hz]
    by_cases c1 : z % 2 = 0
    · rw [c1, if_pos (show nI 0 = 0 from rfl), if_neg (show ¬ nI z ≤ 12 from nI_ge (a := 12) (by omega) (by omega))]
    · rw [if_neg (n0 c1 (by omega))]
  · rw [e]
    simp only [Option.bind_some, if_pos (nI_pos' (show z < 2 ^ 31 by omega)), m2 hz]
    rw [c1, if_pos (show nI 0 = 0 from rfl), if_pos (show nI z ≤ 12 from nI_le (b := 12) c2 (by decide))]
    exact nop_Y h hw (by omega) (by rw [e, show 2 * (z / 2) = z by omega]) hf
theorem Gd.rfG {M : Mem} {r n m : Nat} {G : Nat → Nat → Nat} (h : Gd M r n m G) (w : Nat) : Gd (rf w M) r n m G := h.congr h.1.rf rfl (fun x hx => rf_row (by omega) (by omega)) (by rw [rf_row (by decide) (by decide)]) (by rw [rf_row (by decide) (by decide)])
/-- the pairs of a row: a finding, or pairs -/
theorem pairsF {M : Mem} {r n m : Nat} {G : Nat → Nat → Nat} (hI : Inv M) (h : Gd M r n m G) {w : Nat} (hw : w < 6) : (∃ v, v ≠ 0 ∧ v < 6 ∧ f_X7_findingOfPairs 1 (39 + 2 * w) M = some (nI v) ∧ f_X8_noPairs 65 (nI w) (rf v M) = some (-3, rm_ v (rf v M))) ∨ (f_X7_findingOfPairs 1 (39 + 2 * w) M = some 0 ∧ f_X8_noPairs 65 (nI w) M = some (0, M) ∧ ∃ k, k ≤ 6 ∧ mI M (39 + 2 * w) 1 = nI (2 * k) ∧ ∀ j, j < k → pok (mI M (40 + 2 * w)) m j = true) := by
  have hS := hI.1
  obtain ⟨w1, w2, w3⟩ := hI.2.1 w hw
  obtain ⟨-, k1, g1, k2, l2⟩ := rowF hS hw
  have nM := noPairs_Y h hw (f := mI M (40 + 2 * w)) w3
  have nR : ∀ v, _ := fun v => noPairs_Y (h.rfG v) hw (f := mI M (40 + 2 * w)) (fun j hj => by rw [rf_row (by decide) (by decide)]; exact w3 j hj)
  have e72 : ∀ v, mI (rf v M) 72 w = mI M (39 + 2 * w) 1 := fun v => by rw [rf_row (by decide) (by decide), w2]
  unfold f_X7_findingOfPairs
  simp only [KQ hS, if_true]
  rw [isMissing_X hS hw, gI_k k1]
  rcases szc w1 with hz | ⟨z, hz40, hz⟩
  · left
    refine ⟨1, by decide, by decide, ?_, (nR 1).1 (by rw [e72, hz])⟩
    simp only [hz, if_true, Option.bind_some, show ¬ (1 : Int32) = 0 by decide, if_false]
    rfl
  · simp only [hz, n1 (show z < 2 ^ 31 by omega), if_false, Option.bind_some, if_true, m2 hz40]
    by_cases c1 : z % 2 = 0
    · rw [c1, if_pos (show nI 0 = 0 from rfl)]
      by_cases c2 : z ≤ 12
      · rw [if_pos (show nI z ≤ 12 from nI_le (b := 12) c2 (by decide)), fop_X h hw (k := z / 2) (by omega) (by rw [hz, show 2 * (z / 2) = z by omega])]
        by_cases c3 : allB (pok (mI M (40 + 2 * w)) m) 0 (z / 2) = true
        · right
          refine ⟨by rw [if_pos c3], ?_, z / 2, by omega, by rw [show 2 * (z / 2) = z by omega], fun j hj => (allB_iff _ _).mp c3 j (by omega) (by omega)⟩
          rw [(nM.2 z hz40 (by rw [w2, hz])).2 c1 c2, if_pos c3]
        · left
          refine ⟨3, by decide, by decide, by rw [if_neg c3]; rfl, ?_⟩
          rw [((nR 3).2 z hz40 (by rw [e72, hz])).2 c1 c2, if_neg c3]
      · left
        refine ⟨5, by decide, by decide, ?_, ((nR 5).2 z hz40 (by rw [e72, hz])).1 (Or.inr (by omega))⟩
        rw [if_neg (show ¬ nI z ≤ 12 from nI_ge (a := 12) (by omega) (by omega))]
        rfl
    · left
      refine ⟨5, by decide, by decide, ?_, ((nR 5).2 z hz40 (by rw [e72, hz])).1 (Or.inl c1)⟩
      rw [if_neg (n0 c1 (by omega))]
      rfl
/-- the order and the breath of a pair -/
def po (f : Nat → Int32) (j : Nat) : Nat := (f (2 * j)).toInt.toNat
def pb (f : Nat → Int32) (j : Nat) : Nat := (f (2 * j + 1)).toInt.toNat
def pso (G : Nat → Nat → Nat) (f : Nat → Int32) (kk j : Nat) : Bool := !td kk (G 3 (po f j)) && decide (tk kk (G 3 (po f j)) = pb f j)
def smT (G : Nat → Nat → Nat) (f : Nat → Int32) (kk : Nat) : Nat → Nat → Nat
  | _, 0 => 0
  | j, k + 1 => tk kk (G 3 (po f j)) + smT G f kk (j + 1) k
theorem btv_b : ∀ k, k < 6 → ∀ d, d < 10 → ∀ b, b < 10 → (btv k d = nI b) = ((!td k d && decide (tk k d = b)) = true) := by
  intro k hk d hd b hb
  apply propext
  revert b hb
  revert d hd
  revert k hk
  decide +kernel
theorem bop_X {M : Mem} {r n m : Nat} {G : Nat → Nat → Nat} (h : Gd M r n m G) {w k kk : Nat} (hw : w < 6) (hk : k ≤ 6) (hkk : kk < 6) (hz : mI M (39 + 2 * w) 1 = nI (2 * k)) (hp : ∀ j, j < k → pok (mI M (40 + 2 * w)) m j = true) : f_X7_breathOfPairs 1 (39 + 2 * w) (nI kk) M = some (if allB (pso G (mI M (40 + 2 * w)) kk) 0 k = true then nI (smT G (mI M (40 + 2 * w)) kk 0 k) else -9) := by
  have hnm := h.nm
  obtain ⟨-, k1, g1, k2, l2⟩ := rowF h.1 hw
  have key : ∀ q fu j a, j + q = k → q < fu → f_X7_breathOfPairs_5 fu 1 (39 + 2 * w) (nI kk) (nI a) (nI (2 * j)) M = some (if allB (pso G (mI M (40 + 2 * w)) kk) j q = true then nI (a + smT G (mI M (40 + 2 * w)) kk j q) else -9) := by
    intro q
    induction q with
    | zero =>
      intro fu j a hj hf
      obtain ⟨fu, rfl⟩ : ∃ f, fu = f + 1 := ⟨fu - 1, by omega⟩
      simp only [f_X7_breathOfPairs_5, allB, if_true, nI_1, smT, Nat.add_zero]
      rw [gI_k k1, hz, Option.bind_some, if_pos (nI_le (by omega) (by omega))]
    | succ q ih =>
      intro fu j a hj hf
      obtain ⟨fu, rfl⟩ : ∃ f, fu = f + 1 := ⟨fu - 1, by omega⟩
      obtain ⟨p1, p2, p3, p4⟩ := pk_nI hnm.2.1 (hp j (by omega))
      have hd := (h.o p2).2.1.2.2.2
      simp only [f_X7_breathOfPairs_5, allB, nI_1, h.R, Option.bind_some, g1, smT]
      rw [gI_k k1, hz, Option.bind_some, if_neg (nI_ge (by omega) (by omega)), aI_k (j := 2 * j) k2 (by rw [l2]; omega), Option.bind_some, aI_k (j := 2 * j + 1) k2 (by rw [l2]; omega), Option.bind_some, p1, p3, hasO_ok h p2]
      simp only [Option.bind_some, show ¬ (1 : Int32) = 0 by decide, if_false, rollF h.1 h.2.1, (ctab h).2 _ p2, brX kk hkk _ (show G 3 (mI M (40 + 2 * w) (2 * j)).toInt.toNat < 10 by omega), show nI (2 * j) + (2 : Int32) = nI (2 * (j + 1)) from (nI_add (2 * j) 2).trans (by rw [show 2 * j + 2 = 2 * (j + 1) by omega]), nI_add]
      have hb : (btv kk (G 3 (mI M (40 + 2 * w) (2 * j)).toInt.toNat) = nI (mI M (40 + 2 * w) (2 * j + 1)).toInt.toNat) ↔ (pso G (mI M (40 + 2 * w)) kk j = true) := Iff.of_eq (btv_b kk hkk _ (by omega) _ (by omega))
      by_cases c : pso G (mI M (40 + 2 * w)) kk j = true
      · have ct : tk kk (G 3 (po (mI M (40 + 2 * w)) j)) = pb (mI M (40 + 2 * w)) j := by
          unfold pso at c
          simp only [Bool.and_eq_true, decide_eq_true_eq] at c
          exact c.2
        rw [if_pos (hb.mpr c), ih fu (j + 1) _ (by omega) (by omega)]
        simp only [c, Bool.true_and, ct]
        rw [Nat.add_assoc]
        rfl
      · rw [if_neg (fun q => c (hb.mp q))]
        simp [c]
  unfold f_X7_breathOfPairs
  simp only [KQ h.1, if_true]
  have := key k FU 0 0 (by omega) (by unfold FU; omega)
  rw [Nat.zero_add] at this
  exact this
theorem smT_le {G : Nat → Nat → Nat} {f : Nat → Int32} {kk : Nat} (hkk : kk < 6) (hG : ∀ j, G 3 (po f j) < 10) : ∀ k j, smT G f kk j k ≤ 9 * k := by
  intro k
  induction k with
  | zero => intro j; exact Nat.le_refl _
  | succ k ih =>
    intro j
    have h1 := ih (j + 1)
    have h2 := tk_le kk hkk _ (hG j)
    simp only [smT]
    omega
