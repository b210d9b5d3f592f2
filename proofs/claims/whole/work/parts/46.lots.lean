/-! ===== lots() ===== -/
def lotc (G S : Nat → Nat → Nat) (n m L : Nat) : Nat := if L / 8 % 4 = 0 then 100 * 2 + 10 * (L % n) + 0 else if can G S (L % n) (L / 64 % m) = true ∧ S 1 (L % n) = G 2 (L / 64 % m) then 100 * 1 + 10 * (L % n) + L / 64 % m else 100 * 0 + 10 * (L % n) + G 2 (L / 64 % m)
def lotL (seed : Nat) : Nat → Nat
  | 0 => seed
  | k + 1 => lotL seed k * 48271 % 2147483647
def lotC (G : Nat → Nat → Nat) (n m d : Nat) (cd : Nat → Nat) (seed : Nat) : Nat → (Nat → Nat)
  | 0 => cd
  | k + 1 => psh (lotC G n m d cd seed k) (d + k) (lotc G (run G (lotC G n m d cd seed k) (d + k)) n m (lotL seed (k + 1)))
theorem lotL_lt {seed : Nat} (h : seed < 2147483647) : ∀ k, lotL seed k < 2147483647 := by
  intro k
  cases k with
  | zero => exact h
  | succ k => exact Nat.mod_lt _ (by decide)
theorem enactLot_X {M : Mem} {r n m : Nat} {G : Nat → Nat → Nat} {d : Nat} {cd : Nat → Nat} (h : Gd M r n m G) (hC : Cf G n m d cd M) (hd : d < 40) (hn0 : n ≠ 0) {L : Nat} (hL : L < 2147483647) : ∃ M', f_X7_enactLot 1 (nI L) M = some M' ∧ SF M' ∧ mR M' = mR M ∧ mL M' = mL M ∧ (∀ x, x < 22 ∨ 29 < x → mI M' x = mI M x) ∧ Cf G n m (d + 1) (psh cd d (lotc G (run G cd d) n m L)) M' := by
  have hnm := h.nm
  have hm0 : m ≠ 0 := fun q => hn0 (hnm.2.2.mpr q)
  have hB : Bd n m (run G cd d) d := h.runB (fun k hk => (hC.2.2.1 k hk).2)
  have hi : L % n < n := Nat.mod_lt _ (by omega)
  have ho : L / 64 % m < m := Nat.mod_lt _ (by omega)
  have hh9 := (h.o ho).1.2.2
  have hp9 := (hB.1 _ hi).2
  have ed8 : nI L / 8 = nI (L / 8) := pk_div (d := 8) (by omega) (by decide) (by decide)
  have e84 : nI (L / 8) - nI (L / 8) / 4 * 4 = nI (L / 8 % 4) := pk_rem (d := 4) (by omega) (by decide) (by decide)
  have e64 : nI L / 64 = nI (L / 64) := pk_div (d := 64) (by omega) (by decide) (by decide)
  have ei : nI L - nI L / nI n * nI n = nI (L % n) := pk_rem (by omega) (by omega) (by omega)
  have eo : nI (L / 64) - nI (L / 64) / nI m * nI m = nI (L / 64 % m) := pk_rem (by omega) (by omega) (by omega)
  have ew : ∀ M'', f_X7_enact 1 0 (nI (L % n)) (nI (G 2 (L / 64 % m))) M = some M'' → f_X7_enactLot_116 1 (nI (L % n)) (nI (L / 64 % m)) M = some M'' := by
    intro M'' q
    unfold f_X7_enactLot_116
    simp only [h.R, rollF h.1 h.2.1, Option.bind_some, (ctab h).2 _ ho, q]
  unfold f_X7_enactLot
  simp only [KQ h.1, RQ h.1, h.R, h.sz, if_true, Option.bind_some, if_neg (nI_pos (show L < 2 ^ 31 by omega)), if_neg (show ¬ nI n < 1 from nI_nlt (b := 1) (by omega) (by omega)), if_pos (show (1 : Int32) ≤ nI m from nI_le (a := 1) (by omega) (by omega)), if_neg (n0 hn0 (show n < 2 ^ 31 by omega)), if_neg (n0 hm0 (show m < 2 ^ 31 by omega)), ed8, e84, e64, ei, eo]
  unfold lotc
  by_cases h8 : L / 8 % 4 = 0
  · rw [h8, if_pos (show nI 0 = 0 from rfl), if_pos rfl]
    obtain ⟨M1, q1, q⟩ := enact_X h hC hd (w := 2) (i := L % n) (t := 0) (by decide) (by decide) ⟨by omega, by omega, by omega⟩
    rw [show f_X7_enact 1 2 (nI (L % n)) 0 M = some M1 from q1]
    exact ⟨M1, rfl, q⟩
  · rw [if_neg (n0 h8 (by omega)), if_neg h8, able_X h (Or.inl rfl) hC.2.2.2 (lt64 hnm.2.1 hB.2.1) hi ho (hB.1 _ hi).1]
    obtain ⟨M1, q1, q⟩ := enact_X h hC hd (w := 0) (i := L % n) (t := G 2 (L / 64 % m)) (by decide) (by omega) ⟨by omega, by omega, by omega⟩
    have q2 := ew M1 q1
    by_cases hc : can G (run G cd d) (L % n) (L / 64 % m) = true
    · simp only [hc, if_true, Option.bind_some, show ¬ (1 : Int32) = 0 by decide, if_false, rollF h.1 h.2.1, (ctab h).2 _ ho, true_and]
      rw [aI_k (x := 24) (by simp only [KQ h.1]) (by simp only [LQ]; omega), show mI M 24 (L % n) = _ from (hC.2.2.2.2.2 _ hi).2]
      simp only [Option.bind_some]
      by_cases hp : run G cd d 1 (L % n) = G 2 (L / 64 % m)
      · rw [if_pos (by rw [hp]), if_pos hp]
        obtain ⟨M2, p1, p⟩ := enact_X h hC hd (w := 1) (i := L % n) (t := L / 64 % m) (by decide) (by omega) ⟨by omega, by omega, by omega⟩
        rw [show f_X7_enact 1 1 (nI (L % n)) (nI (L / 64 % m)) M = some M2 from p1]
        exact ⟨M2, rfl, p⟩
      · rw [if_neg (fun q => hp ((nI_eq (by omega) (by omega)).mp q)), if_neg hp, q2]
        exact ⟨M1, rfl, q⟩
    · simp only [hc, if_false, Bool.false_eq_true, Option.bind_some, if_true, false_and, q2]
      exact ⟨M1, rfl, q⟩
theorem lotStep_Y {M : Mem} {r n m : Nat} {G : Nat → Nat → Nat} {d : Nat} {cd : Nat → Nat} (h : Gd M r n m G) (hM : Mf G n d 0 cd (mI M 66)) (hk : ∀ k, k < d → okc n m (cd k)) (hd : d < 40) (hn0 : n ≠ 0) {L0 L : Nat} (hL0 : L0 < 2147483647) (hL : L0 * 48271 % 2147483647 = L) {a j : Nat} (ha : a < 2 ^ 31) (hj : j < a) (fu : Nat) : ∃ M', f_X8_lots_58 (fu + 1) 65 (nI a) (lN L0) (nI j) M = f_X8_lots_58 fu 65 (nI a) (lN L) (nI (j + 1)) M' ∧ SF M' ∧ mR M' = mR M ∧ mL M' = mL M ∧ (∀ x, x ≠ 66 → mI M' x = mI M x) ∧ (∀ j, 493 ≤ j → mI M' 66 j = mI M 66 j) ∧ Mf G n (d + 1) 0 (psh cd d (lotc G (run G cd d) n m L)) (mI M' 66) := by
  have hnm := h.nm
  have hm0 : m ≠ 0 := fun q => hn0 (hnm.2.2.mpr q)
  have hB : Bd n m (run G cd d) d := h.runB hk
  have hLb : L < 2147483647 := by rw [← hL]; exact Nat.mod_lt _ (by decide)
  have hi : L % n < n := Nat.mod_lt _ (by omega)
  have ho : L / 64 % m < m := Nat.mod_lt _ (by omega)
  have hh9 := (h.o ho).1.2.2
  have hp9 := (hB.1 _ hi).2
  have e0 : lN L0 * 48271 - lN L0 * 48271 / 2147483647 * 2147483647 = lN L := by
    rw [show lN L0 * 48271 = lN (L0 * 48271) from lN_mul L0 48271, ← hL]
    exact pk_lRem (b := 2147483647) (by omega) (by decide) (by decide)
  have ed8 : lN L / 8 = lN (L / 8) := pk_lDiv (b := 8) (by omega) (by decide) (by decide)
  have e84 : lN (L / 8) - lN (L / 8) / 4 * 4 = lN (L / 8 % 4) := pk_lRem (b := 4) (by omega) (by decide) (by decide)
  have e64 : lN L / 64 = lN (L / 64) := pk_lDiv (b := 64) (by omega) (by decide) (by decide)
  have ei : lN L - lN L / lN n * lN n = lN (L % n) := pk_lRem (by omega) (by omega) (by omega)
  have eo : lN (L / 64) - lN (L / 64) / lN m * lN m = lN (L / 64 % m) := pk_lRem (by omega) (by omega) (by omega)
  have hzn : ¬ lN n = 0 := fun q => hn0 ((pk_lEQ (b := 0) (by omega) (by decide)).mp q)
  have hzm : ¬ lN m = 0 := fun q => hm0 ((pk_lEQ (b := 0) (by omega) (by decide)).mp q)
  simp only [f_X8_lots_58]
  rw [if_neg (nI_ge hj ha)]
  simp only [h.sz, Option.bind_some, nI_l (show n < 2 ^ 31 by omega), nI_l (show m < 2 ^ 31 by omega), if_neg hzn, if_neg hzm, e0, ed8, e84, e64, ei, eo, lN_i, nI_1]
  obtain ⟨M1, MW, w1, w2, w3, w4, w5, w6, w⟩ := mwalk_Y h hM hd hi (show G 2 (L / 64 % m) < 10 by omega)
  have ew : f_X8_lots_169 (f_X8_lots_58 fu) 65 (nI a) (lN L) (nI j) (nI (L % n)) (nI (L / 64 % m)) M1 = f_X8_lots_58 fu 65 (nI a) (lN L) (nI (j + 1)) MW := by
    unfold f_X8_lots_169
    simp only [RQ w2, Option.bind_some, (mtab w3).2 _ ho, show (8 : Int32) + nI (L % n) = nI (8 + L % n) from nI_add 8 _, w6, nI_1]
  rw [w1]
  simp only [Option.bind_some]
  unfold lotc
  by_cases h8 : L / 8 % 4 = 0
  · rw [if_pos ((lgc_eq _ _).mpr (by rw [h8]; rfl)), if_pos h8]
    obtain ⟨M1', M2, u1, u2, u3, u4, u5, u6, u⟩ := mrest_Y h hM hd hi (hB.1 _ hi).1
    rw [w1] at u1
    have eM := Option.some.inj u1
    subst eM
    rw [u6, Option.bind_some]
    exact ⟨M2, rfl, u⟩
  · rw [if_neg (show ¬ lg_cmp (lN (L / 8 % 4)) 0 = 0 from fun q => h8 ((pk_lEQ (b := 0) (by omega) (by decide)).mp ((lgc_eq _ _).mp q))), if_neg h8, show f_X8_can 65 0 (nI (L % n)) (nI (L / 64 % m)) M1 = _ from can_Y w3 (b := 0) (by omega) w4 (lt64 hnm.2.1 hB.2.1) hi ho (hB.1 _ hi).1]
    by_cases hc : can G (run G cd d) (L % n) (L / 64 % m) = true
    · simp only [hc, if_true, Option.bind_some, show ¬ (1 : Int32) = 0 by decide, if_false, RQ w2, (mtab w3).2 _ ho, show (8 : Int32) + nI (L % n) = nI (8 + L % n) from nI_add 8 _, true_and]
      rw [aI_k (x := 66) (by simp only [KQ w2]) (by simp only [LQ]; omega), show mI M1 66 (8 + L % n) = nI (run G cd d 1 (L % n)) from by have := (w4.2.2 _ hi).2; rw [Nat.zero_add] at this; exact this]
      simp only [Option.bind_some]
      by_cases hp : run G cd d 1 (L % n) = G 2 (L / 64 % m)
      · rw [if_pos (by rw [hp]), if_pos hp]
        obtain ⟨M1', M2, u1, u2, u3, u4, u5, u6, u⟩ := msigh_Y h hM hd hi ho hc
        rw [w1] at u1
        have eM := Option.some.inj u1
        subst eM
        rw [u6, Option.bind_some]
        exact ⟨M2, rfl, u⟩
      · rw [if_neg (fun q => hp ((nI_eq (by omega) (by omega)).mp q)), if_neg hp, ew]
        exact ⟨MW, rfl, w⟩
    · simp only [hc, if_false, Bool.false_eq_true, Option.bind_some, if_true, false_and, ew]
      exact ⟨MW, rfl, w⟩
theorem op36 {M : Mem} (h : Inv M) (a1 a2 : Int32) : ∃ M', lawOp_36 a1 a2 M = some M' ∧ Inv M' := by
  have hS := h.1
  obtain ⟨r, s, n, m, G, d, cd, hR, hH, hG, hN, hP, hB, hd⟩ := h.op
  obtain ⟨hC, hM⟩ := Inv.hf hH
  have hnm := hG.nm
  have hb1 := i32_b a1
  have hb2 := i32_b a2
  have hlc : (lg_cmp (Int32.toInt64 a2) 2147483647 < 0) ↔ a2.toInt < 2147483647 := by
    rw [lgc_lt, Int64.lt_iff_toInt_lt, Int32.toInt_toInt64, show (2147483647 : Int64).toInt = 2147483647 from rfl]
  unfold lawOp_36 f_X7_lots f_X8_lots
  rw [in_i, in_i, show (1 : Int64).toInt = 1 from rfl, show (20 : Int64).toInt = 20 from rfl, show (2147483646 : Int64).toInt = 2147483646 from rfl]
  simp only [KQ hS, if_true]
  by_cases g1 : 1 ≤ a1.toInt ∧ a1.toInt ≤ 20
  · rw [if_pos g1, if_neg (show ¬ a1 < 1 by rw [Int32.lt_iff_toInt_lt, show (1 : Int32).toInt = 1 from rfl]; omega), if_neg (show ¬ (20 : Int32) < a1 by rw [Int32.lt_iff_toInt_lt, show (20 : Int32).toInt = 20 from rfl]; omega)]
    simp only [show ¬ (1 : Int32) = 0 by decide, if_false]
    by_cases g2 : 1 ≤ a2.toInt ∧ a2.toInt ≤ 2147483646
    · rw [if_pos g2, if_neg (show ¬ a2 < 1 by rw [Int32.lt_iff_toInt_lt, show (1 : Int32).toInt = 1 from rfl]; omega), if_pos (hlc.mpr (by omega))]
      simp only [hG.R, hG.sz, Option.bind_some, show ¬ (1 : Int32) = 0 by decide, if_false]
      by_cases hn0 : n = 0
      · subst hn0
        rw [if_pos (show nI 0 = 0 from rfl)]
        simp only [Option.bind_some, KQ hS, if_true, hG.sz]
        rw [if_pos (show nI 0 = 0 from rfl)]
        exact ⟨M, rfl, h⟩
      · rw [if_neg (n0 hn0 (by omega))]
        obtain ⟨k, hk1, hk20, rfl⟩ : ∃ k : Nat, 1 ≤ k ∧ k ≤ 20 ∧ a1 = nI k := ⟨a1.toInt.toNat, by omega, by omega, by apply Int32.toInt_inj.mp; rw [nI_toInt (by omega)]; omega⟩
        obtain ⟨sd, hsd, rfl⟩ : ∃ k : Nat, k < 2147483647 ∧ a2 = nI k := ⟨a2.toInt.toNat, by omega, by apply Int32.toInt_inj.mp; rw [nI_toInt (by omega)]; omega⟩
        simp only [RQ hS, Option.bind_some]
        rw [lack_X hS hC.2.1 hd (by omega)]
        by_cases h40 : d + k ≤ 40
        · obtain ⟨s', p1, p2⟩ := lp_ex (F := fun fu j (q : Int64 × Mem) => f_X7_lots_60 fu 1 (nI k) q.1 (nI j) q.2) k (fun q => some (nI (run G (lotC G n m d cd sd k) (d + k) 2 1), q.2)) (fun j q => q.1 = lN (lotL sd j) ∧ SF q.2 ∧ mR q.2 = mR M ∧ mL q.2 = mL M ∧ (∀ x, x < 22 ∨ 29 < x → mI q.2 x = mI M x) ∧ Cf G n m (d + j) (lotC G n m d cd sd j) q.2)
            (fun fu q hI => by
              obtain ⟨i0, i1, i2, i3, i4, i5⟩ := hI
              simp only [f_X7_lots_60]
              rw [if_pos (Int32.le_refl _)]
              simp only [RQ i1, KQ i1, gI_k, Option.bind_some, i5.2.2.2.2.1])
            (fun fu j q hj hI => by
              obtain ⟨i0, i1, i2, i3, i4, i5⟩ := hI
              have hL0 := lotL_lt hsd j
              have hGN : Gd q.2 r n m G := hG.congr i1 (by rw [i2]) (fun x hx => i4 x (by omega)) (by rw [i4 65 (by omega)]) (by rw [i4 65 (by omega)])
              obtain ⟨N', u1, u2, u3, u4, u5, u6⟩ := enactLot_X hGN i5 (by omega) hn0 (lotL_lt hsd (j + 1))
              refine ⟨(lN (lotL sd (j + 1)), N'), ?_, rfl, u2, u3.trans i2, u4.trans i3, fun x hx => (u5 x hx).trans (i4 x hx), u6⟩
              simp only [f_X7_lots_60]
              have e0 : lN (lotL sd j) * 48271 - lN (lotL sd j) * 48271 / 2147483647 * 2147483647 = lN (lotL sd (j + 1)) := by
                rw [show lN (lotL sd j) * 48271 = lN (lotL sd j * 48271) from lN_mul _ 48271]
                exact pk_lRem (b := 2147483647) (by omega) (by decide) (by decide)
              rw [if_neg (nI_ge hj (by omega)), i0, e0, lN_i, u1, Option.bind_some, nI_1])
            k FU 0 (lN sd, M) (by omega) (by unfold FU; omega) ⟨rfl, hS, rfl, rfl, fun x _ => rfl, hC⟩
          obtain ⟨lt, M1⟩ := s'
          obtain ⟨-, i1, i2, i3, i4, i5⟩ := p2
          have e66 : mI M1 66 = mI M 66 := i4 66 (by omega)
          have hG1 : Gd M1 r n m G := hG.congr i1 (by rw [i2]) (fun x hx => i4 x (by omega)) (by rw [i4 65 (by omega)]) (by rw [i4 65 (by omega)])
          have hall : ∀ j, j ≤ k → ∀ i, i < d + j → okc n m (lotC G n m d cd sd j i) := by
            intro j hj i hi
            have e := (i5.2.2.1 i (by omega)).2
            have : ∀ t, j ≤ t → lotC G n m d cd sd t i = lotC G n m d cd sd j i := by
              intro t ht
              induction t with
              | zero => rw [show j = 0 by omega]
              | succ t ih =>
                by_cases hjt : j = t + 1
                · rw [hjt]
                · rw [← ih (by omega)]
                  show psh _ (d + t) _ i = _
                  unfold psh
                  rw [if_neg (by omega)]
            rw [this k hj] at e
            exact e
          have P1 : f_X7_lots_60 FU 1 (nI k) (Int32.toInt64 (nI sd)) 0 M = some (nI (run G (lotC G n m d cd sd k) (d + k) 2 1), M1) := by rw [nI_l (show sd < 2 ^ 31 by omega)]; exact p1
          simp only [if_pos h40, if_true, P1, Option.bind_some, KQ i1, hG1.sz, if_neg (n0 hn0 (show n < 2 ^ 31 by omega)), RQ i1]
          rw [show aI M1 66 0 = _ from aI_k (j := 0) (by simp only [KQ i1]) (by simp only [LQ]; omega), e66, hM.1]
          simp only [Option.bind_some, nI_add]
          rw [if_pos (show nI (d + k) ≤ 40 from nI_le (b := 40) h40 (by decide))]
          obtain ⟨s2, y1, y2⟩ := lp_ex (F := fun fu j (q : Int64 × Mem) => f_X8_lots_58 fu 65 (nI k) q.1 (nI j) q.2) k (fun q => some (nI (run G (lotC G n m d cd sd k) (d + k) 2 1), q.2)) (fun j q => q.1 = lN (lotL sd j) ∧ SF q.2 ∧ mR q.2 = mR M1 ∧ mL q.2 = mL M1 ∧ (∀ x, x ≠ 66 → mI q.2 x = mI M1 x) ∧ (∀ j, 493 ≤ j → mI q.2 66 j = mI M1 66 j) ∧ Mf G n (d + j) 0 (lotC G n m d cd sd j) (mI q.2 66))
            (fun fu q hI => by
              obtain ⟨v0, v1, v2, v3, v4, v5, v6⟩ := hI
              simp only [f_X8_lots_58]
              rw [if_pos (Int32.le_refl _)]
              simp only [RQ v1, Option.bind_some]
              rw [show aI q.2 66 1 = _ from aI_k (j := 1) (by simp only [KQ v1]) (by simp only [LQ]; omega), Option.bind_some, show mI q.2 66 1 = _ from v6.2.1.1])
            (fun fu j q hj hI => by
              obtain ⟨v0, v1, v2, v3, v4, v5, v6⟩ := hI
              have hGN : Gd q.2 r n m G := hG1.congr v1 (by rw [v2]) (fun x hx => v4 x (by omega)) (by rw [v4 65 (by omega)]) (by rw [v4 65 (by omega)])
              obtain ⟨N', u1, u2, u3, u4, u5, u6, u7⟩ := lotStep_Y hGN v6 (hall j (by omega)) (by omega) hn0 (lotL_lt hsd j) (L := lotL sd (j + 1)) rfl (a := k) (by omega) hj fu
              refine ⟨(lN (lotL sd (j + 1)), N'), ?_, rfl, u2, u3.trans v2, u4.trans v3, fun x hx => (u5 x hx).trans (v4 x hx), fun i hi => (u6 i hi).trans (v5 i hi), u7⟩
              rw [v0]
              exact u1)
            k FU 0 (lN sd, M1) (by omega) (by unfold FU; omega) ⟨rfl, i1, rfl, rfl, fun x _ => rfl, fun j _ => rfl, by rw [e66]; exact hM⟩
          obtain ⟨lt2, M2⟩ := s2
          obtain ⟨-, v1, v2, v3, v4, v5, v6⟩ := y2
          have Y1 : f_X8_lots_58 FU 65 (nI k) (Int32.toInt64 (nI sd)) 0 M1 = some (nI (run G (lotC G n m d cd sd k) (d + k) 2 1), M2) := by rw [nI_l (show sd < 2 ^ 31 by omega)]; exact y1
          simp only [Y1, Option.bind_some, if_true]
          exact ⟨M2, rfl, h.deeds hR hH v1 (v2.trans i2) (v3.trans i3) (fun x h1 h2 => (v4 x h2).trans (i4 x (by omega))) (fun j hj => (v5 j hj).trans (by rw [e66])) (i5.congr v4) v6⟩
        · simp only [if_neg h40, Option.bind_some, show ¬ (1 : Int32) = 0 by decide, if_false, KQ hS, if_true, hG.sz, if_neg (n0 hn0 (show n < 2 ^ 31 by omega)), RQ hS]
          rw [show aI M 66 0 = _ from aI_k (j := 0) (by simp only [KQ hS]) (by simp only [LQ]; omega), hM.1]
          simp only [Option.bind_some, nI_add]
          rw [if_neg (show ¬ nI (d + k) ≤ 40 from nI_ge (a := 40) (by omega) (by omega))]
          exact ⟨M, rfl, h⟩
    · rw [if_neg g2]
      by_cases g3 : a2 < 1
      · simp only [if_pos g3, Option.bind_some, KQ hS, if_true]
        exact ⟨M, rfl, h⟩
      · rw [Int32.lt_iff_toInt_lt, show (1 : Int32).toInt = 1 from rfl] at g3
        rw [if_neg (show ¬ a2 < 1 by rw [Int32.lt_iff_toInt_lt]; exact g3), if_neg (fun q => absurd (hlc.mp q) (by omega))]
        simp only [Option.bind_some, KQ hS, if_true]
        exact ⟨M, rfl, h⟩
  · rw [if_neg g1]
    by_cases g3 : a1 < 1
    · simp only [if_pos g3, Option.bind_some, KQ hS, if_true]
      exact ⟨M, rfl, h⟩
    · rw [Int32.lt_iff_toInt_lt, show (1 : Int32).toInt = 1 from rfl] at g3
      rw [if_neg (show ¬ a1 < 1 by rw [Int32.lt_iff_toInt_lt]; exact g3), if_pos (show (20 : Int32) < a1 by rw [Int32.lt_iff_toInt_lt, show (20 : Int32).toInt = 20 from rfl]; omega)]
      simp only [Option.bind_some, KQ hS, if_true]
      exact ⟨M, rfl, h⟩
