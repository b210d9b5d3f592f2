theorem isSo_Y {M : Mem} {r n m : Nat} {G : Nat → Nat → Nat} (h : Gd M r n m G) {w k kk B : Nat} {f : Nat → Int32} (hw : w < 6) (hk : k ≤ 6) (hkk : kk < 6) (hB : B < 100) (hz : mI M 72 w = nI (2 * k)) (hf : ∀ j, j < 40 → mI M 73 (40 * w + j) = f j) (hp : ∀ j, j < k → pok f m j = true) : f_X8_isSo 65 (nI w) (nI kk) (nI B) M = some (if (allB (pso G f kk) 0 k && decide (smT G f kk 0 k ≤ B)) = true then 1 else 0) := by
  have hnm := h.nm
  have e40 : (40 : Int32) * nI w = nI (40 * w) := pk_mul 40 w
  have key : ∀ q fu j a (ok : Bool), j + q = k → q < fu → a ≤ 9 * j → f_X8_isSo_12 fu 65 (nI w) (nI kk) (nI B - nI a) (if ok = true then 1 else 0) (nI (40 * w + 2 * j)) M = some (if (ok && (allB (pso G f kk) j q && decide (a + smT G f kk j q ≤ B))) = true then 1 else 0) := by
    intro q
    induction q with
    | zero =>
      intro fu j a ok hj hfu ha
      obtain ⟨fu, rfl⟩ : ∃ f, fu = f + 1 := ⟨fu - 1, by omega⟩
      simp only [f_X8_isSo_12, RQ h.1, Option.bind_some, allB, smT, Nat.add_zero, Bool.true_and]
      rw [aI_k (by simp only [KQ h.1]) (by simp only [LQ]; omega), hz, Option.bind_some, m40, if_pos (nI_le (by omega) (by omega))]
      have hl : (nI B - nI a < 0) ↔ B < a := by
        rw [Int32.lt_iff_toInt_lt, pk_sub_toInt (by omega) (by omega), show (0 : Int32).toInt = 0 from rfl]
        omega
      cases ok with
      | false => simp
      | true =>
        by_cases c : a ≤ B
        · rw [if_neg (show ¬ nI B - nI a < 0 from fun q => absurd (hl.mp q) (by omega))]; simp [c]
        · rw [if_pos (show nI B - nI a < 0 from hl.mpr (by omega))]; simp [c]
    | succ q ih =>
      intro fu j a ok hj hfu ha
      obtain ⟨fu, rfl⟩ : ∃ f, fu = f + 1 := ⟨fu - 1, by omega⟩
      obtain ⟨p1, p2, p3, p4⟩ := pk_nI hnm.2.1 (hp j (by omega))
      have hd := (h.o p2).2.1.2.2.2
      have ht := tk_le kk hkk (G 3 (po f j)) (show G 3 (f (2 * j)).toInt.toNat < 10 by omega)
      have i1 := ih fu (j + 1) (a + tk kk (G 3 (po f j))) true (by omega) (by omega) (by omega)
      have i0 := ih fu (j + 1) (a + tk kk (G 3 (po f j))) false (by omega) (by omega) (by omega)
      simp only [if_true, Bool.true_and] at i1
      simp only [if_false, Bool.false_eq_true, Bool.false_and] at i0
      simp only [f_X8_isSo_12, RQ h.1, Option.bind_some, allB, smT, show nI (40 * w + 2 * j) + (2 : Int32) = nI (40 * w + 2 * (j + 1)) from (nI_add (40 * w + 2 * j) 2).trans (by rw [show 40 * w + 2 * j + 2 = 40 * w + 2 * (j + 1) by omega]), nI_1]
      rw [aI_k (x := 72) (by simp only [KQ h.1]) (by simp only [LQ]; omega), hz, Option.bind_some, m40, if_neg (nI_ge (by omega) (by omega)), aI_k (x := 73) (by simp only [KQ h.1]) (by simp only [LQ]; omega), aI_k (x := 73) (by simp only [KQ h.1]) (by simp only [LQ]; omega), hf (2 * j) (by omega), show 40 * w + 2 * j + 1 = 40 * w + (2 * j + 1) by omega, hf (2 * j + 1) (by omega), p1, p3]
      simp only [Option.bind_some, (mtab h).2 _ p2, tkY kk hkk _ (show G 3 (f (2 * j)).toInt.toNat < 10 by omega), tdY kk hkk _ (show G 3 (f (2 * j)).toInt.toNat < 10 by omega), Int32.sub_sub, nI_add]
      change (if (if ok = true then (1 : Int32) else 0) = 0 then f_X8_isSo_12 fu 65 (nI w) (nI kk) (nI B - nI (a + tk kk (G 3 (po f j)))) 0 (nI (40 * w + 2 * (j + 1))) M else if (if td kk (G 3 (po f j)) = true then (1 : Int32) else 0) = 0 then if nI (tk kk (G 3 (po f j))) = nI (pb f j) then f_X8_isSo_12 fu 65 (nI w) (nI kk) (nI B - nI (a + tk kk (G 3 (po f j)))) 1 (nI (40 * w + 2 * (j + 1))) M else f_X8_isSo_12 fu 65 (nI w) (nI kk) (nI B - nI (a + tk kk (G 3 (po f j)))) 0 (nI (40 * w + 2 * (j + 1))) M else f_X8_isSo_12 fu 65 (nI w) (nI kk) (nI B - nI (a + tk kk (G 3 (po f j)))) 0 (nI (40 * w + 2 * (j + 1))) M) = _
      rw [i1, i0]
      have hpb : pb f j ≤ 9 := p4
      cases ok with
      | false => simp
      | true =>
        have epso : pso G f kk j = (!td kk (G 3 (po f j)) && decide (tk kk (G 3 (po f j)) = pb f j)) := rfl
        by_cases c1 : td kk (G 3 (po f j)) = true
        · simp [epso, c1]
        · by_cases c2 : tk kk (G 3 (po f j)) = pb f j
          · rw [if_neg (show ¬ (if true = true then (1 : Int32) else 0) = 0 by decide), if_pos (show (if td kk (G 3 (po f j)) = true then (1 : Int32) else 0) = 0 by rw [if_neg c1]), if_pos (by rw [c2])]
            simp only [epso, c1, c2, Bool.not_false, decide_true, Bool.true_and, Nat.add_assoc]
          · rw [if_neg (show ¬ (if true = true then (1 : Int32) else 0) = 0 by decide), if_pos (show (if td kk (G 3 (po f j)) = true then (1 : Int32) else 0) = 0 by rw [if_neg c1]), if_neg (fun q => c2 ((nI_eq (by omega) (by omega)).mp q))]
            simp [epso, c2]
  unfold f_X8_isSo
  simp only [KQ h.1, if_true, e40]
  have := key k FU 0 0 true (by omega) (by unfold FU; omega) (by omega)
  rw [Nat.zero_add] at this
  rw [show nI B - nI 0 = nI B from Int32.sub_zero _] at this
  simp only [Bool.true_and, if_true] at this
  exact this
def wsB (G : Nat → Nat → Nat) (f : Nat → Int32) (k kk B : Nat) : Bool := allB (pso G f kk) 0 k && decide (smT G f kk 0 k ≤ B)
theorem n9 {s : Nat} (h : s < 2 ^ 31) : ¬ nI s = -9 := by
  intro q
  have := congrArg Int32.toInt q
  rw [nI_toInt h] at this
  have h2 : (-9 : Int32).toInt = -9 := rfl
  omega
theorem smT_b {G : Nat → Nat → Nat} {f : Nat → Int32} {kk m : Nat} (hkk : kk < 6) (hm : m ≤ 6) (hG : ∀ o, o < m → G 3 o ≤ 9) : ∀ k j, (∀ i, i < j + k → pok f m i = true) → smT G f kk j k ≤ 9 * k := by
  intro k
  induction k with
  | zero => intro j _; exact Nat.le_refl _
  | succ k ih =>
    intro j hp
    have h1 := ih (j + 1) (fun i hi => hp i (by omega))
    have h3 := hG _ (pk_nI hm (hp j (by omega))).2.1
    have h2 := tk_le kk hkk (G 3 (po f j)) (show G 3 (f (2 * j)).toInt.toNat < 10 by omega)
    simp only [smT]
    omega
/-- the class's test -/
theorem ws_if {G : Nat → Nat → Nat} {f : Nat → Int32} {k kk B m : Nat} {α : Type} {X Y : α} (hk : k ≤ 6) (hkk : kk < 6) (hm : m ≤ 6) (hG : ∀ o, o < m → G 3 o ≤ 9) (hp : ∀ j, j < k → pok f m j = true) (hB : B < 100) : (if (if allB (pso G f kk) 0 k = true then nI (smT G f kk 0 k) else -9) = -9 then X else if nI B < (if allB (pso G f kk) 0 k = true then nI (smT G f kk 0 k) else -9) then X else Y) = if wsB G f k kk B = true then Y else X := by
  have hs := smT_b (G := G) hkk hm hG k 0 (fun i hi => hp i (by omega))
  unfold wsB
  by_cases c : allB (pso G f kk) 0 k = true
  · rw [if_pos c, if_neg (n9 (by omega))]
    by_cases c2 : smT G f kk 0 k ≤ B
    · rw [if_neg (nI_nlt c2 (by omega))]; simp [c, c2]
    · rw [if_pos (nI_lt (by omega) (by omega))]; simp [c2]
  · rw [if_neg c, if_pos rfl]; simp [c]
theorem op30 {M : Mem} (h : Inv M) (a1 : Int32) : ∃ M', lawOp_30 a1 M = some M' ∧ Inv M' := by
  have hS := h.1
  obtain ⟨r, s, n, m, G, d, cd, -, -, hG, hN, hP, hB, -⟩ := h.op
  have hnm := hG.nm
  unfold lawOp_30 f_X7_who f_X8_who
  simp only [KQ hS, if_true]
  rcases ixc a1 6 (by decide) with h1 | ⟨w, hw, rfl⟩
  · simp only [rowOf_bad hS h1, Option.bind_some, if_true, KQ hS, isRow_bad h1]
    exact ⟨M, rfl, h⟩
  · simp only [rowOf_ok hS hw, Option.bind_some, show ¬ 39 + 2 * w = 0 by omega, if_false]
    rcases pairsF h hG hw with ⟨v, v0, v6, e1, e2⟩ | ⟨e1, e2, k, hk, hz, hp⟩
    · rw [e1]
      simp only [Option.bind_some, if_neg (n0 v0 (show v < 2 ^ 31 by omega)), refuse_X hS v6, KQ hS.rf, if_true, isRow_ok hw, show ¬ (1 : Int32) = 0 by decide, if_false, e2, show ¬ (-3 : Int32) = 0 by decide]
      exact ⟨_, rfl, h.refused v6⟩
    · obtain ⟨w1, w2, w3⟩ := h.2.1 w hw
      have hGo : ∀ o, o < m → G 3 o ≤ 9 := fun o ho => (hG.o ho).2.1.2.2.2
      have kx := lp_up (F := fun fu i (a : Int32) => f_X7_who_34 fu 1 (39 + 2 * w) a (nI i) M) n (fun a => some (a, M)) (fun i a => if wsB G (mI M (40 + 2 * w)) k (G 0 i) (run G cd d 0 i) = true then a ||| nI (2 ^ i) else a) (fun _ _ => True)
        (fun fu a _ => by simp only [f_X7_who_34, hG.R, hG.sz, Option.bind_some]; rw [if_pos (Int32.le_refl _)])
        (fun fu i a hi _ => by
          refine ⟨?_, trivial⟩
          have hki := (hG.s hi).1.2.2
          simp only [f_X7_who_34, hG.R, hG.sz, Option.bind_some, rollF hS hG.2.1, (ctab hG).1 i hi, bop_X hG hw hk hki hz hp, RQ hS, sh1 i (show i < 10 by omega), nI_1]
          rw [if_neg (nI_ge hi (by omega)), aI_k (x := 23) (by simp only [KQ hS]) (by simp only [LQ]; omega), show mI M 23 i = _ from (hN.2.2 i hi).1]
          simp only [Option.bind_some]
          rw [ws_if hk hki hnm.2.1 hGo hp (by have := (hB.1 i hi).1; omega)]
          by_cases c : wsB G (mI M (40 + 2 * w)) k (G 0 i) (run G cd d 0 i) = true
          · rw [if_pos c, if_pos c]
          · rw [if_neg c, if_neg c])
        n FU 0 0 (by omega) (by unfold FU; omega) trivial
      have ky := lp_up (F := fun fu i (a : Int32) => f_X8_who_26 fu 65 (nI w) a (nI i) M) n (fun a => some (a, M)) (fun i a => if wsB G (mI M (40 + 2 * w)) k (G 0 i) (run G cd d 0 i) = true then a ||| nI (2 ^ i) else a) (fun _ _ => True)
        (fun fu a _ => by simp only [f_X8_who_26, hG.sz, Option.bind_some]; rw [if_pos (Int32.le_refl _)])
        (fun fu i a hi _ => by
          refine ⟨?_, trivial⟩
          have hki := (hG.s hi).1.2.2
          simp only [f_X8_who_26, hG.sz, Option.bind_some, (mtab hG).1 i hi, RQ hS, sh1 i (show i < 10 by omega), nI_1, show (3 : Int32) + nI i = nI (3 + i) from nI_add 3 i, Int32.or_zero]
          rw [if_neg (nI_ge hi (by omega)), aI_k (x := 66) (by simp only [KQ hS]) (by simp only [LQ]; omega), show mI M 66 (3 + i) = nI (run G cd d 0 i) from by have := (hP.2.2 i hi).1; rw [Nat.zero_add] at this; exact this, Option.bind_some, isSo_Y hG hw hk hki (by have := (hB.1 i hi).1; omega) (w2.trans hz) w3 hp, Option.bind_some]
          by_cases c : wsB G (mI M (40 + 2 * w)) k (G 0 i) (run G cd d 0 i) = true
          · rw [if_pos c]
            unfold wsB at c
            simp only [c, if_true, show ¬ (1 : Int32) = 0 by decide, if_false]
          · rw [if_neg c]
            unfold wsB at c
            simp only [c, if_true, Bool.false_eq_true, if_false])
        n FU 0 0 (by omega) (by unfold FU; omega) trivial
      simp only [e1, Option.bind_some, if_true, show f_X7_who_34 FU 1 (39 + 2 * w) 0 0 M = _ from kx.1, KQ hS, isRow_ok hw, show ¬ (1 : Int32) = 0 by decide, if_false, e2, show f_X8_who_26 FU 65 (nI w) 0 0 M = _ from ky.1]
      exact ⟨M, rfl, h⟩
theorem op31 {M : Mem} (h : Inv M) (a1 a2 : Int32) : ∃ M', lawOp_31 a1 a2 M = some M' ∧ Inv M' := by
  have hS := h.1
  obtain ⟨r, s, n, m, G, d, cd, -, -, hG, hN, hP, hB, -⟩ := h.op
  have hnm := hG.nm
  unfold lawOp_31 f_X7_kinds f_X8_kinds
  simp only [KQ hS, if_true, hG.R, Option.bind_some]
  rcases ixc a1 n (by omega) with g1 | ⟨i, hi, rfl⟩
  · simp only [hasS_bad hG g1, Option.bind_some, if_true]
    rcases ixc a2 6 (by decide) with h1 | ⟨w, hw, rfl⟩
    · simp only [rowOf_bad hS h1, Option.bind_some, if_true, KQ hS, isS_bad hG g1]
      exact ⟨M, rfl, h⟩
    · simp only [rowOf_ok hS hw, Option.bind_some, show ¬ 39 + 2 * w = 0 by omega, if_false, KQ hS, isS_bad hG g1, if_true]
      exact ⟨M, rfl, h⟩
  · simp only [hasS_ok hG hi, Option.bind_some, show ¬ (1 : Int32) = 0 by decide, if_false]
    rcases ixc a2 6 (by decide) with h1 | ⟨w, hw, rfl⟩
    · simp only [rowOf_bad hS h1, Option.bind_some, if_true, KQ hS, isS_ok hG hi, isRow_bad h1, show ¬ (1 : Int32) = 0 by decide, if_false]
      exact ⟨M, rfl, h⟩
    · simp only [rowOf_ok hS hw, Option.bind_some, show ¬ 39 + 2 * w = 0 by omega, if_false]
      rcases pairsF h hG hw with ⟨v, v0, v6, e1, e2⟩ | ⟨e1, e2, k, hk, hz, hp⟩
      · rw [e1]
        simp only [Option.bind_some, if_neg (n0 v0 (show v < 2 ^ 31 by omega)), refuse_X hS v6, KQ hS.rf, if_true, isS_ok (hG.rfG v) hi, isRow_ok hw, show ¬ (1 : Int32) = 0 by decide, if_false, e2, show ¬ (-3 : Int32) = 0 by decide]
        exact ⟨_, rfl, h.refused v6⟩
      · obtain ⟨w1, w2, w3⟩ := h.2.1 w hw
        have hGo : ∀ o, o < m → G 3 o ≤ 9 := fun o ho => (hG.o ho).2.1.2.2.2
        have kx := lp_up (F := fun fu q (a : Int32) => f_X7_kinds_48 fu 1 (nI i) (39 + 2 * w) a (nI q) M) 6 (fun a => some (a, M)) (fun q a => if wsB G (mI M (40 + 2 * w)) k q (run G cd d 0 i) = true then a ||| nI (2 ^ q) else a) (fun _ _ => True)
          (fun fu a _ => by simp only [f_X7_kinds_48]; rw [if_pos (show (5 : Int32) < nI 6 by decide)])
          (fun fu q a hq _ => by
            refine ⟨?_, trivial⟩
            simp only [f_X7_kinds_48, bop_X hG hw hk hq hz hp, RQ hS, sh1 q (show q < 10 by omega), nI_1, Option.bind_some]
            rw [if_neg (show ¬ (5 : Int32) < nI q from nI_nlt (a := 5) (by omega) (by decide)), aI_k (x := 23) (by simp only [KQ hS]) (by simp only [LQ]; omega), show mI M 23 i = _ from (hN.2.2 i hi).1]
            simp only [Option.bind_some]
            rw [ws_if hk hq hnm.2.1 hGo hp (by have := (hB.1 i hi).1; omega)]
            by_cases c : wsB G (mI M (40 + 2 * w)) k q (run G cd d 0 i) = true
            · rw [if_pos c, if_pos c]
            · rw [if_neg c, if_neg c])
          6 FU 0 0 (by omega) (by unfold FU; omega) trivial
        have ky := lp_up (F := fun fu q (a : Int32) => f_X8_kinds_35 fu 65 (nI i) (nI w) a (nI q) M) 6 (fun a => some (a, M)) (fun q a => if wsB G (mI M (40 + 2 * w)) k q (run G cd d 0 i) = true then a ||| nI (2 ^ q) else a) (fun _ _ => True)
          (fun fu a _ => by simp only [f_X8_kinds_35]; rw [if_pos (show (6 : Int32) ≤ nI 6 from Int32.le_refl _)])
          (fun fu q a hq _ => by
            refine ⟨?_, trivial⟩
            simp only [f_X8_kinds_35, RQ hS, sh1 q (show q < 10 by omega), nI_1, show (3 : Int32) + nI i = nI (3 + i) from nI_add 3 i, Int32.or_zero, Option.bind_some]
            rw [if_neg (show ¬ (6 : Int32) ≤ nI q from nI_ge (b := 6) hq (by omega)), aI_k (x := 66) (by simp only [KQ hS]) (by simp only [LQ]; omega), show mI M 66 (3 + i) = nI (run G cd d 0 i) from by have := (hP.2.2 i hi).1; rw [Nat.zero_add] at this; exact this, Option.bind_some, isSo_Y hG hw hk hq (by have := (hB.1 i hi).1; omega) (w2.trans hz) w3 hp, Option.bind_some]
            by_cases c : wsB G (mI M (40 + 2 * w)) k q (run G cd d 0 i) = true
            · rw [if_pos c]
              unfold wsB at c
              simp only [c, if_true, show ¬ (1 : Int32) = 0 by decide, if_false]
            · rw [if_neg c]
              unfold wsB at c
              simp only [c, if_true, Bool.false_eq_true, if_false])
          6 FU 0 0 (by omega) (by unfold FU; omega) trivial
        simp only [e1, Option.bind_some, if_true, show f_X7_kinds_48 FU 1 (nI i) (39 + 2 * w) 0 0 M = _ from kx.1, KQ hS, isS_ok hG hi, isRow_ok hw, show ¬ (1 : Int32) = 0 by decide, if_false, e2, show f_X8_kinds_35 FU 65 (nI i) (nI w) 0 0 M = _ from ky.1]
        exact ⟨M, rfl, h⟩
theorem iter_id {σ : Type} {f : Nat → σ → σ} : ∀ (k j : Nat) (s : σ), (∀ i, j ≤ i → i < j + k → f i s = s) → iter f j k s = s := by
  intro k
  induction k with
  | zero => intro j s _; rfl
  | succ k ih =>
    intro j s h
    show iter f (j + 1) k (f j s) = s
    rw [h j (Nat.le_refl _) (by omega)]
    exact ih (j + 1) s (fun i h1 h2 => h i (by omega) (by omega))
theorem op32 {M : Mem} (h : Inv M) (a1 a2 : Int32) : ∃ M', lawOp_32 a1 a2 M = some M' ∧ Inv M' := by
  have hS := h.1
  obtain ⟨r, s, n, m, G, d, cd, -, -, hG, hN, hP, hB, -⟩ := h.op
  have hnm := hG.nm
  unfold lawOp_32 f_X7_breaths f_X8_breaths
  simp only [KQ hS, if_true, hG.R, Option.bind_some]
  rcases ixc a1 n (by omega) with g1 | ⟨i, hi, rfl⟩
  · simp only [hasS_bad hG g1, Option.bind_some, if_true]
    rcases ixc a2 6 (by decide) with h1 | ⟨w, hw, rfl⟩
    · simp only [rowOf_bad hS h1, Option.bind_some, if_true, KQ hS, isS_bad hG g1]
      exact ⟨M, rfl, h⟩
    · simp only [rowOf_ok hS hw, Option.bind_some, show ¬ 39 + 2 * w = 0 by omega, if_false, KQ hS, isS_bad hG g1, if_true]
      exact ⟨M, rfl, h⟩
  · simp only [hasS_ok hG hi, Option.bind_some, show ¬ (1 : Int32) = 0 by decide, if_false]
    rcases ixc a2 6 (by decide) with h1 | ⟨w, hw, rfl⟩
    · simp only [rowOf_bad hS h1, Option.bind_some, if_true, KQ hS, isS_ok hG hi, isRow_bad h1, show ¬ (1 : Int32) = 0 by decide, if_false]
      exact ⟨M, rfl, h⟩
    · simp only [rowOf_ok hS hw, Option.bind_some, show ¬ 39 + 2 * w = 0 by omega, if_false]
      rcases pairsF h hG hw with ⟨v, v0, v6, e1, e2⟩ | ⟨e1, e2, k, hk, hz, hp⟩
      · rw [e1]
        simp only [Option.bind_some, if_neg (n0 v0 (show v < 2 ^ 31 by omega)), refuse_X hS v6, KQ hS.rf, if_true, isS_ok (hG.rfG v) hi, isRow_ok hw, show ¬ (1 : Int32) = 0 by decide, if_false, e2, show ¬ (-3 : Int32) = 0 by decide]
        exact ⟨_, rfl, h.refused v6⟩
      · obtain ⟨w1, w2, w3⟩ := h.2.1 w hw
        have hki := (hG.s hi).1.2.2
        have hGo : ∀ o, o < m → G 3 o ≤ 9 := fun o ho => (hG.o ho).2.1.2.2.2
        have hsm := smT_b (G := G) (f := mI M (40 + 2 * w)) hki hnm.2.1 hGo k 0 (fun j hj => hp j (by omega))
        have ky := lp_up (F := fun fu q (a : Int32) => f_X8_breaths_35 fu 65 (nI i) (nI w) a (nI q) M) 10 (fun a => some (a, M)) (fun q a => if wsB G (mI M (40 + 2 * w)) k (G 0 i) q = true then a ||| nI (2 ^ q) else a) (fun _ _ => True)
          (fun fu a _ => by simp only [f_X8_breaths_35]; rw [if_pos (show (10 : Int32) ≤ nI 10 from Int32.le_refl _)])
          (fun fu q a hq _ => by
            refine ⟨?_, trivial⟩
            simp only [f_X8_breaths_35, RQ hS, (mtab hG).1 i hi, sh1 q hq, nI_1, Int32.or_zero, Option.bind_some]
            rw [if_neg (show ¬ (10 : Int32) ≤ nI q from nI_ge (b := 10) hq (by omega)), isSo_Y hG hw hk hki (by omega) (w2.trans hz) w3 hp, Option.bind_some]
            by_cases c : wsB G (mI M (40 + 2 * w)) k (G 0 i) q = true
            · rw [if_pos c]
              unfold wsB at c
              simp only [c, if_true, show ¬ (1 : Int32) = 0 by decide, if_false]
            · rw [if_neg c]
              unfold wsB at c
              simp only [c, if_true, Bool.false_eq_true, if_false])
          10 FU 0 0 (by omega) (by unfold FU; omega) trivial
        have ex : ∃ v, (if (if allB (pso G (mI M (40 + 2 * w)) (G 0 i)) 0 k = true then nI (smT G (mI M (40 + 2 * w)) (G 0 i) 0 k) else -9) = -9 then some ((0 : Int32), M) else f_X7_breaths_74 FU 0 (if allB (pso G (mI M (40 + 2 * w)) (G 0 i)) 0 k = true then nI (smT G (mI M (40 + 2 * w)) (G 0 i) 0 k) else -9) M) = some (v, M) ∧ v = iter (fun q a => if wsB G (mI M (40 + 2 * w)) k (G 0 i) q = true then a ||| nI (2 ^ q) else a) 0 10 0 := by
          by_cases c : allB (pso G (mI M (40 + 2 * w)) (G 0 i)) 0 k = true
          · simp only [if_pos c, if_neg (n9 (show smT G (mI M (40 + 2 * w)) (G 0 i) 0 k < 2 ^ 31 by omega))]
            generalize hg : smT G (mI M (40 + 2 * w)) (G 0 i) 0 k = sm at *
            have hws : ∀ q, wsB G (mI M (40 + 2 * w)) k (G 0 i) q = decide (sm ≤ q) := by
              intro q
              unfold wsB
              rw [c, hg, Bool.true_and]
            by_cases c9 : sm ≤ 9
            · have kx := lp_up (F := fun fu q (a : Int32) => f_X7_breaths_74 fu a (nI q) M) 10 (fun a => some (a, M)) (fun q a => a ||| nI (2 ^ q)) (fun _ _ => True)
                (fun fu a _ => by simp only [f_X7_breaths_74]; rw [if_pos (show (9 : Int32) < nI 10 by decide)])
                (fun fu q a hq _ => by
                  refine ⟨?_, trivial⟩
                  simp only [f_X7_breaths_74, sh1 q hq, nI_1]
                  rw [if_neg (show ¬ (9 : Int32) < nI q from nI_nlt (a := 9) (by omega) (by decide))])
                (10 - sm) FU sm 0 (by omega) (by unfold FU; omega) trivial
              refine ⟨_, kx.1, ?_⟩
              rw [show (10 : Nat) = sm + (10 - sm) by omega, iter_add, Nat.zero_add, iter_id sm 0 0 (fun q _ hq => by rw [hws, if_neg (by rw [decide_eq_true_eq]; omega)]), show sm + (10 - sm) - sm = 10 - sm by omega]
              exact iter_congr _ _ _ (fun q a h1 _ => by rw [hws, if_pos (by rw [decide_eq_true_eq]; exact h1)])
            · obtain ⟨fu, hfu⟩ : ∃ f, FU = f + 1 := ⟨99999, rfl⟩
              refine ⟨0, ?_, (iter_id 10 0 0 (fun q _ hq => by rw [hws, if_neg (by rw [decide_eq_true_eq]; omega)])).symm⟩
              rw [hfu]
              simp only [f_X7_breaths_74]
              rw [if_pos (show (9 : Int32) < nI sm from nI_lt (a := 9) (by omega) (by omega))]
          · simp only [if_neg c, if_true]
            refine ⟨0, rfl, (iter_id 10 0 0 (fun q _ hq => ?_)).symm⟩
            unfold wsB
            rw [if_neg (by simp [c])]
        obtain ⟨v, x1, x2⟩ := ex
        simp only [e1, Option.bind_some, if_true, rollF hS hG.2.1, (ctab hG).1 i hi, bop_X hG hw hk hki hz hp]
        rw [x1]
        simp only [Option.bind_some, KQ hS, if_true, isS_ok hG hi, isRow_ok hw, show ¬ (1 : Int32) = 0 by decide, if_false, e2, show f_X8_breaths_35 FU 65 (nI i) (nI w) 0 0 M = _ from ky.1, x2]
        exact ⟨M, rfl, h⟩
