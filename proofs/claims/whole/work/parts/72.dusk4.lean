/-! ===== dusk(): both ===== -/
def rt (S : Nat → Nat → Nat) (i : Nat) : Nat → Nat := fun j => if j = 0 then S 1 i else if j = 2 then S 0 i else if j = 4 then S 2 0 else 0
def bestD (G S : Nat → Nat → Nat) (N i m : Nat) : Nat × Nat × (Nat → Nat) := ntr G N i m 6 (rt S i) 0 (fun _ => 0) (0, 0, fun _ => 0)
theorem rt_Nb {n m q N i : Nat} {S : Nat → Nat → Nat} (hB : Bd n m S q) (hi : i < n) : Nb m N 0 (rt S i) := ⟨(hB.1 i hi).2, Nat.zero_le _, (hB.1 i hi).1, Nat.zero_le _, hB.2.1, Nat.zero_le _⟩
theorem beginLine_Y {M : Mem} {r n m : Nat} {G S : Nat → Nat → Nat} (h : Gd M r n m G) (hP : Part (mI M 66) 0 n S) {i rr : Nat} (hi : i < n) : ∃ M', f_X8_beginLine 65 (nI i) M = some M' ∧ FrL rr M M' ∧ mI M' 65 26 = nI 0 ∧ mI M' 65 27 = 0 ∧ Sn 0 (fun _ => rt S i) (fun _ => 0) M' := by
  have hnm := h.nm
  have p66 : ∀ X, FrL rr M X → mI X 66 = mI M 66 := fun X hX => hX.2.2.2.1 66 (by decide) (by decide) (by decide) (by decide)
  unfold f_X8_beginLine
  rw [if_pos (by simp only [KQ h.1]), pI_k (by simp only [KQ h.1]), Option.bind_some, show bz 0 = some 0 from rfl, Option.bind_some, pI_k (by rw [kd_sI]; simp only [KQ h.1]), Option.bind_some]
  have F3 : FrL rr M (sI (sI M 65 26 0) 65 27 0) := (FrL.sz h.1 (Or.inl rfl) _).tr (FrL.sz (M := sI M 65 26 0) h.1 (Or.inr rfl) _)
  have a26 : mI (sI (sI M 65 26 0) 65 27 0) 65 26 = 0 := by rw [mI_sI, if_neg (by decide), mI_sI, if_pos ⟨rfl, rfl⟩]
  have a27 : mI (sI (sI M 65 26 0) 65 27 0) 65 27 = 0 := by rw [mI_sI, if_pos ⟨rfl, rfl⟩]
  generalize sI (sI M 65 26 0) 65 27 0 = M3 at *
  simp only [RQ F3.1, Option.bind_some]
  rw [show eI M3 82 0 0 = _ from eI_k (j := 0) (by simp only [KQ F3.1]) (by simp only [LQ]; omega), Option.bind_some]
  have F7 : FrL rr M (sI M3 82 0 0) := F3.tr (FrL.ln F3.1 (by omega) _)
  have l7 : ∀ x, x ≠ 82 → mI (sI M3 82 0 0) x = mI M3 x := fun x hx => mI_sI_row hx
  have m7 : mI (sI M3 82 0 0) 82 0 = 0 := by rw [mI_sI, if_pos ⟨rfl, rfl⟩]
  generalize sI M3 82 0 0 = M7 at *
  simp only [RQ F7.1, Option.bind_some]
  rw [show eI M7 83 0 0 = _ from eI_k (j := 0) (by simp only [KQ F7.1]) (by simp only [LQ]; omega), Option.bind_some]
  have F11 : FrL rr M (sI M7 83 0 0) := F7.tr (FrL.ln F7.1 (by omega) _)
  have l11 : ∀ x, x ≠ 83 → mI (sI M7 83 0 0) x = mI M7 x := fun x hx => mI_sI_row hx
  have m11 : mI (sI M7 83 0 0) 83 0 = 0 := by rw [mI_sI, if_pos ⟨rfl, rfl⟩]
  generalize sI M7 83 0 0 = M11 at *
  simp only [RQ F11.1, Option.bind_some]
  rw [show (3 : Int32) + nI i = nI (3 + i) from nI_add 3 i, aI_k (x := 66) (by simp only [KQ F11.1]) (by simp only [LQ]; omega), Option.bind_some, p66 M11 F11, show mI M 66 (3 + i) = nI (S 0 i) from (by have := (hP.2.2 i hi).1; rw [show 0 + 3 + i = 3 + i by omega] at this; exact this), show eI M11 84 0 (nI (S 0 i)) = _ from eI_k (j := 0) (by simp only [KQ F11.1]) (by simp only [LQ]; omega), Option.bind_some]
  have F19 : FrL rr M (sI M11 84 0 (nI (S 0 i))) := F11.tr (FrL.ln F11.1 (by omega) _)
  have l19 : ∀ x, x ≠ 84 → mI (sI M11 84 0 (nI (S 0 i))) x = mI M11 x := fun x hx => mI_sI_row hx
  have m19 : mI (sI M11 84 0 (nI (S 0 i))) 84 0 = nI (S 0 i) := by rw [mI_sI, if_pos ⟨rfl, rfl⟩]
  generalize sI M11 84 0 (nI (S 0 i)) = M19 at *
  simp only [RQ F19.1, Option.bind_some]
  rw [show aI M19 66 2 = _ from aI_k (j := 2) (by simp only [KQ F19.1]) (by simp only [LQ]; omega), Option.bind_some, p66 M19 F19, show mI M 66 2 = nI (S 2 0) from hP.2.1, show eI M19 85 0 (nI (S 2 0)) = _ from eI_k (j := 0) (by simp only [KQ F19.1]) (by simp only [LQ]; omega), Option.bind_some]
  have F27 : FrL rr M (sI M19 85 0 (nI (S 2 0))) := F19.tr (FrL.ln F19.1 (by omega) _)
  have l27 : ∀ x, x ≠ 85 → mI (sI M19 85 0 (nI (S 2 0))) x = mI M19 x := fun x hx => mI_sI_row hx
  have m27 : mI (sI M19 85 0 (nI (S 2 0))) 85 0 = nI (S 2 0) := by rw [mI_sI, if_pos ⟨rfl, rfl⟩]
  generalize sI M19 85 0 (nI (S 2 0)) = M27 at *
  simp only [RQ F27.1, Option.bind_some]
  rw [show (8 : Int32) + nI i = nI (8 + i) from nI_add 8 i, aI_k (x := 66) (by simp only [KQ F27.1]) (by simp only [LQ]; omega), Option.bind_some, p66 M27 F27, show mI M 66 (8 + i) = nI (S 1 i) from (by have := (hP.2.2 i hi).2; rw [show 0 + 8 + i = 8 + i by omega] at this; exact this), show eI M27 86 0 (nI (S 1 i)) = _ from eI_k (j := 0) (by simp only [KQ F27.1]) (by simp only [LQ]; omega), Option.bind_some]
  refine ⟨_, rfl, F27.tr (FrL.ln F27.1 (by omega) _), ?_, ?_, fun j hj => ?_, fun j hj => absurd hj (by omega)⟩
  · rw [mI_sI_row (by decide), l27 65 (by decide), l19 65 (by decide), l11 65 (by decide), l7 65 (by decide)]; exact a26
  · rw [mI_sI_row (by decide), l27 65 (by decide), l19 65 (by decide), l11 65 (by decide), l7 65 (by decide)]; exact a27
  · have hj0 : j = 0 := by omega
    subst hj0
    rw [mI_sI_row (show 82 ≠ 86 by decide), mI_sI_row (show 83 ≠ 86 by decide), mI_sI_row (show 84 ≠ 86 by decide), mI_sI_row (show 85 ≠ 86 by decide), l27 82 (by decide), l19 82 (by decide), l11 82 (by decide), m7, l27 83 (by decide), l19 83 (by decide), m11, l27 84 (by decide), m19, m27, mI_sI, if_pos ⟨rfl, rfl⟩]
    exact ⟨rfl, rfl, rfl, rfl, rfl⟩
theorem pop0_Y {M : Mem} {r n m : Nat} {G : Nat → Nat → Nat} (h : Gd M r n m G) {rr fl : Nat} {cs : Nat → Nat → Nat} {L : Nat → Nat} {b : Nat × Nat × (Nat → Nat)} (hS : Sk 0 cs L M) (hB : By rr b M) (x1 x2 : Int32) : ∃ M', f_X8_nextLine_47 (f_X8_nextLine_16 (fl + 1)) 65 x1 x2 (nI m) M = some (0, M') ∧ FrL rr M M' ∧ By rr b M' := by
  obtain ⟨⟨e26, e27⟩, e1, e2⟩ := hS
  have hS2 : SF (sI M 65 26 (-1)) := h.1
  have q26 : mI (sI M 65 26 (-1)) 65 26 = -1 := by rw [mI_sI, if_pos ⟨rfl, rfl⟩]
  unfold f_X8_nextLine_47
  rw [h.sz.2.2.2, Option.bind_some, if_pos (Int32.le_refl _), gI_k (by simp only [KQ h.1]), Option.bind_some, e26, pI_k (by simp only [KQ h.1]), Option.bind_some, show nI 0 - 1 = -1 from rfl, gI_k (by simp only [KQ hS2]), Option.bind_some, q26, if_neg (by decide), f_X8_nextLine_16, gI_k (by simp only [KQ hS2]), Option.bind_some, q26, if_pos (by decide)]
  refine ⟨_, rfl, FrL.sz h.1 (Or.inl rfl) _, hB.1, ?_, fun j hj => ?_⟩
  · rw [mI_sI_row (by decide)]; exact hB.2.1
  · rw [mI_sI_row (by decide)]; exact hB.2.2 j hj
theorem dusk_Y {M : Mem} {r n m : Nat} {G S : Nat → Nat → Nat} {q : Nat} (h : Gd M r n m G) (hP : Part (mI M 66) 0 n S) (hB : Bd n m S q) {N i rr : Nat} (hN : N ≤ 30) (hi : i < n) (hrr : rr < 6) : ∃ M', ((f_X8_beginLine 65 (nI i) M).bind fun M7 => f_X8_dusk_37 FU 65 (nI i) (nI N) (nI rr) (-1) M7) = some (nI (bestD G S N i m).1, M') ∧ FrL rr M M' ∧ By rr (bestD G S N i m) M' := by
  have hnm := h.nm
  obtain ⟨M7, s1, s2, s3, s4, s5⟩ := beginLine_Y (rr := rr) h hP hi
  have F8 : FrL rr M (sI M7 65 27 1) := s2.tr (FrL.sz s2.1 (Or.inr rfl) _)
  have S8 : Sk 0 (fun _ => rt S i) (fun _ => 0) (sI M7 65 27 1) := by
    refine ⟨⟨?_, ?_⟩, fun j hj => ?_, fun j hj => absurd hj (by omega)⟩
    · rw [mI_sI, if_neg (by decide)]; exact s3
    · rw [mI_sI, if_pos ⟨rfl, rfl⟩]
    · rw [mI_sI_row (show 82 ≠ 65 by decide), mI_sI_row (show 83 ≠ 65 by decide), mI_sI_row (show 84 ≠ 65 by decide), mI_sI_row (show 85 ≠ 65 by decide), mI_sI_row (show 86 ≠ 65 by decide)]
      exact s5.1 j hj
  obtain ⟨M9, t1, t2, t3, t4⟩ := new_Y (F8.g h) (k := 0) (rr := rr) (by decide) hrr S8 (show rt S i 3 ≤ 66 from Nat.zero_le _) (x4 := -1) (show ¬ nI (rt S i 3) ≤ -1 from (show ¬ nI 0 ≤ -1 by decide)) 99999 (nI i) (nI N)
  have F9 := F8.tr t2
  have hm6 : m * Qd 6 ≤ 6 * Qd 6 := Nat.mul_le_mul_right _ hnm.2.1
  have hQ6 : Qd 6 = 9331 := rfl
  obtain ⟨X, fu', fl', w1, w2, w3, w4, w5, w6⟩ := walk_Y h hN hi hrr 6 0 rfl m 0 (fun _ => rt S i) (fun _ => 0) (rt S i 3, 0, fun _ => 0) M9 99998 99999 FU 1 (by omega) F9 t3 (rt_Nb hB hi) t4 (by omega) (by unfold FU; omega) (by omega)
  rw [show iter (nst G N i m 6 (rt S i) 0 fun _ => 0) 0 m (rt S i 3, 0, fun _ => 0) = bestD G S N i m from ntr_eq.symm] at w1 w4
  obtain ⟨fl, rfl⟩ : ∃ g, fl' = g + 1 := ⟨fl' - 1, by omega⟩
  obtain ⟨M', z1, z2, z3⟩ := pop0_Y (w2.g h) (fl := fl) w3 w4 (nI i) (nI N)
  refine ⟨M', ?_, w2.tr z2, z3⟩
  rw [s1, Option.bind_some, show FU = 99999 + 1 from rfl, dusk_37_s]
  have n1' : f_X8_nextLine 65 (nI i) (nI N) M7 = some (1, sI M7 65 27 1) := by
    unfold f_X8_nextLine
    rw [if_pos (by simp only [KQ s2.1]), gI_k (by simp only [KQ s2.1]), Option.bind_some, s4, if_pos rfl, show bz 1 = some 1 from rfl, Option.bind_some, pI_k (by simp only [KQ s2.1]), Option.bind_some]
  rw [n1', Option.bind_some, t1, show 99999 = 99998 + 1 from rfl, dusk_37_s]
  have n2' : f_X8_nextLine 65 (nI i) (nI N) M9 = f_X8_nextLine_23 (f_X8_nextLine_16 99999) FU 65 (nI i) (nI N) (nI 0) M9 := by
    unfold f_X8_nextLine
    rw [if_pos (by simp only [KQ F9.1]), gI_k (by simp only [KQ F9.1]), Option.bind_some, t3.1.2, if_neg (show ¬ (1 : Int32) = 0 by decide), show f_X8_nextLine_16 FU = f_X8_nextLine_16 (99999 + 1) from rfl, f_X8_nextLine_16, gI_k (by simp only [KQ F9.1]), Option.bind_some, t3.1.1, if_neg (by decide)]
    rfl
  rw [n2']
  refine w1.trans ?_
  rw [z1, Option.bind_some]
  unfold Kd
  rw [if_pos rfl]
/-- the class's search -/
def FrE (M N : Mem) : Prop := SF N ∧ (∀ x j, x ≠ 35 → mR N x j = mR M x j) ∧ mL N = mL M ∧ ∀ x, x < 35 ∨ 37 < x → mI N x = mI M x
theorem search_X {M : Mem} {r n m : Nat} {G S : Nat → Nat → Nat} {q : Nat} (h : Gd M r n m G) (hNw : NwP n S (mI M 22) (mI M (22 + 1)) (mI M (22 + 2))) (hB : Bd n m S q) {N i : Nat} (hN : N ≤ 30) (hi : i < n) : ∃ M', f_X3_search 35 r 22 (nI i) (nI N) M = some (nI (bestD G S N i m).1, M') ∧ FrE M M' ∧ Bx (bestD G S N i m) M' := by
  have hnm := h.nm
  have hr := h.2.1
  have n4 : ∀ w, (35, 4, w) ∉ rT := by
    intro w hw
    have hall : ∀ q ∈ rT, ¬ (q.1 = 35 ∧ q.2.1 = 4) := by decide +kernel
    exact hall _ hw ⟨rfl, rfl⟩
  unfold f_X3_search
  rw [if_pos (by simp only [KQ h.1]), pI_k (by simp only [KQ h.1]), Option.bind_some, pI_k (by rw [kd_sI]; simp only [KQ h.1]), Option.bind_some, pN_k (by rw [kd_sI, kd_sI]; simp only [KQ h.1]) (by omega), Option.bind_some, pI_k (by rw [kd_sR, kd_sI, kd_sI]; simp only [KQ h.1]), Option.bind_some]
  have S7 : SF (sI (sR (sI (sI M 35 2 0) 35 3 0) 35 4 r) 35 5 (nI i)) := SF.sI (SF.sR (M := sI (sI M 35 2 0) 35 3 0) h.1 n4)
  have e7 : ∀ x, x ≠ 35 → mI (sI (sR (sI (sI M 35 2 0) 35 3 0) 35 4 r) 35 5 (nI i)) x = mI M x := fun x hx => by rw [mI_sI_row hx, mI_sR, mI_sI_row hx, mI_sI_row hx]
  have r7 : ∀ x j, x ≠ 35 → mR (sI (sR (sI (sI M 35 2 0) 35 3 0) 35 4 r) 35 5 (nI i)) x j = mR M x j := fun x j hx => by
    show mR (sR (sI (sI M 35 2 0) 35 3 0) 35 4 r) x j = mR M x j
    rw [mR_sR, if_neg (fun w => hx w.1)]; rfl
  have r74 : mR (sI (sR (sI (sI M 35 2 0) 35 3 0) 35 4 r) 35 5 (nI i)) 35 4 = r := by
    show mR (sR (sI (sI M 35 2 0) 35 3 0) 35 4 r) 35 4 = r
    rw [mR_sR, if_pos ⟨rfl, rfl⟩]
  have L7 : mL (sI (sR (sI (sI M 35 2 0) 35 3 0) 35 4 r) 35 5 (nI i)) = mL M := rfl
  have i5 : mI (sI (sR (sI (sI M 35 2 0) 35 3 0) 35 4 r) 35 5 (nI i)) 35 5 = nI i := by rw [mI_sI, if_pos ⟨rfl, rfl⟩]
  have i2 : mI (sI (sR (sI (sI M 35 2 0) 35 3 0) 35 4 r) 35 5 (nI i)) 35 2 = 0 := by rw [mI_sI, if_neg (by decide), mI_sR, mI_sI, if_neg (by decide), mI_sI, if_pos ⟨rfl, rfl⟩]
  have i3 : mI (sI (sR (sI (sI M 35 2 0) 35 3 0) 35 4 r) 35 5 (nI i)) 35 3 = 0 := by rw [mI_sI, if_neg (by decide), mI_sR, mI_sI, if_pos ⟨rfl, rfl⟩]
  generalize sI (sR (sI (sI M 35 2 0) 35 3 0) 35 4 r) 35 5 (nI i) = M7 at *
  have G7 : Gd M7 r n m G := h.congr S7 (r7 1 2 (by decide)) (fun x hx => e7 x (by omega)) (by rw [e7 65 (by decide)]) (by rw [e7 65 (by decide)])
  have N7 := hNw.2.2 i hi
  obtain ⟨X, y1, y2, y3, y4⟩ := goOn_X G7 r74 hi i5 hN 6 0 (rt S i) (fun _ => 0) (0, 0, fun _ => 0) M7 rfl ⟨S7, rfl, rfl, fun _ _ => rfl, rfl⟩ (rt_Nb hB hi) (fun j hj => absurd hj (by omega)) ⟨⟨Nat.zero_le _, Nat.zero_le _⟩, i2, i3, fun j hj => absurd hj (Nat.not_lt_zero j)⟩
  rw [show ntr G N i m 6 (rt S i) 0 (fun _ => 0) (nrec (rt S i) 0 (fun _ => 0) (0, 0, fun _ => 0)) = bestD G S N i m from rfl] at y4
  rw [hasS_ok G7 hi, Option.bind_some, if_neg (show ¬ (1 : Int32) = 0 by decide)]
  simp only [RQ S7, Option.bind_some]
  rw [aI_k (x := 24) (by simp only [KQ S7]) (by simp only [LQ]; omega), Option.bind_some, e7 24 (by decide), show mI M 24 i = _ from N7.2, aI_k (x := 23) (by simp only [KQ S7]) (by simp only [LQ]; omega), Option.bind_some, e7 23 (by decide), show mI M 23 i = _ from N7.1, gI_k (by simp only [KQ S7]), Option.bind_some, e7 22 (by decide), hNw.1, show f_X3_goOn 8 35 0 (nI (S 1 i)) (nI N) (nI (S 0 i)) 0 (nI (S 2 0)) M7 = some X from y1, Option.bind_some, gI_k (by simp only [KQ y2.1]), Option.bind_some, y4.2.2.1]
  exact ⟨X, rfl, ⟨y2.1, fun x j hx => by rw [y2.2.1]; exact r7 x j hx, by rw [y2.2.2.1]; exact L7, fun x hx => by rw [y2.2.2.2.1 x hx, e7 x (by omega)]⟩, y4⟩
theorem op25 {M : Mem} (h : Inv M) (a1 a2 a3 : Int32) : ∃ M', lawOp_25 a1 a2 a3 M = some M' ∧ Inv M' := by
  have hS := h.1
  obtain ⟨r, s, n, m, G, d, cd, -, -, hG, hN, hP, hB, -⟩ := h.op
  have hnm := hG.nm
  unfold lawOp_25 f_X7_dusk f_X8_dusk
  simp only [KQ hS, if_true, hG.R, Option.bind_some]
  rcases ixc a3 6 (by decide) with h3 | ⟨rr, hrr, rfl⟩
  · rw [rowOf_bad hS h3]
    simp only [Option.bind_some, if_true]
    rcases ixc a1 n (by omega) with h1 | ⟨i, hi, rfl⟩
    · rw [hasS_bad hG h1]
      simp only [Option.bind_some, if_true, KQ hS, isS_bad hG h1]
      exact ⟨M, rfl, h⟩
    · rw [hasS_ok hG hi]
      simp only [Option.bind_some, show ¬ (1 : Int32) = 0 by decide, if_false, ite_self, KQ hS, if_true, isS_ok hG hi, isRow_bad h3]
      exact ⟨M, rfl, h⟩
  · rw [rowOf_ok hS hrr]
    simp only [Option.bind_some, show ¬ 39 + 2 * rr = 0 by omega, if_false]
    rcases ixc a1 n (by omega) with h1 | ⟨i, hi, rfl⟩
    · rw [hasS_bad hG h1]
      simp only [Option.bind_some, if_true, KQ hS, isS_bad hG h1]
      exact ⟨M, rfl, h⟩
    · rw [hasS_ok hG hi]
      simp only [Option.bind_some, show ¬ (1 : Int32) = 0 by decide, if_false]
      rcases ixc a2 31 (by decide) with h2 | ⟨N, hN31, rfl⟩
      · have hin : f_X8_in (Int32.toInt64 a2) 0 30 = 0 := in_bad (n := 31) (by decide) (by decide) h2
        by_cases q : a2 < 0
        · simp only [if_pos q, Option.bind_some, KQ hS, if_true, isS_ok hG hi, show ¬ (1 : Int32) = 0 by decide, if_false, hin]
          exact ⟨M, rfl, h⟩
        · have q2 : (30 : Int32) < a2 := by
            have q3 := h2.resolve_left q
            rw [Int32.le_iff_toInt_le, nI_toInt (by decide)] at q3
            rw [Int32.lt_iff_toInt_lt, show (30 : Int32).toInt = 30 from rfl]
            omega
          simp only [if_neg q, if_pos q2, Option.bind_some, KQ hS, if_true, isS_ok hG hi, show ¬ (1 : Int32) = 0 by decide, if_false, hin]
          exact ⟨M, rfl, h⟩
      · have hin : f_X8_in (Int32.toInt64 (nI N)) 0 30 = 1 := in_ok (n := 31) (by decide) (by decide) hN31
        obtain ⟨X, x1, x2, x3⟩ := search_X hG hN hB (show N ≤ 30 by omega) hi
        obtain ⟨⟨b1, b2⟩, b3, b4, b5⟩ := x3
        generalize hbd : bestD G (run G cd d) N i m = b at *
        simp only [if_neg (nI_pos (show N < 2 ^ 31 by omega)), if_neg (show ¬ (30 : Int32) < nI N from nI_nlt (b := N) (a := 30) (by omega) (by decide)), RQ hS, Option.bind_some, x1, RQ x2.1]
        rw [gI_k (by simp only [KQ x2.1]), Option.bind_some, b3, renew_X x2.1 hrr, Option.bind_some]
        have e26 : ∀ x, x ≠ 39 + 2 * rr → x ≠ 40 + 2 * rr → mI (sI (sW X (40 + 2 * rr) (fun j => if j < 40 then 0 else mI X (40 + 2 * rr) j)) (39 + 2 * rr) 1 (nI b.2.1)) x = mI X x := fun x q1 q2 => by rw [mI_sI_row q1, mI_ne q2]
        have z26 : ∀ j, j < 40 → mI (sI (sW X (40 + 2 * rr) (fun j => if j < 40 then 0 else mI X (40 + 2 * rr) j)) (39 + 2 * rr) 1 (nI b.2.1)) (40 + 2 * rr) j = 0 := fun j hj => by rw [mI_sI_row (by omega), mI_eq, if_pos hj]
        have y26 : mI (sI (sW X (40 + 2 * rr) (fun j => if j < 40 then 0 else mI X (40 + 2 * rr) j)) (39 + 2 * rr) 1 (nI b.2.1)) (39 + 2 * rr) 1 = nI b.2.1 := by rw [mI_sI, if_pos ⟨rfl, rfl⟩]
        have hS26 : SF (sI (sW X (40 + 2 * rr) (fun j => if j < 40 then 0 else mI X (40 + 2 * rr) j)) (39 + 2 * rr) 1 (nI b.2.1)) := x2.1
        have hR26 : mR (sI (sW X (40 + 2 * rr) (fun j => if j < 40 then 0 else mI X (40 + 2 * rr) j)) (39 + 2 * rr) 1 (nI b.2.1)) = mR X := rfl
        have hL26 : mL (sI (sW X (40 + 2 * rr) (fun j => if j < 40 then 0 else mI X (40 + 2 * rr) j)) (39 + 2 * rr) 1 (nI b.2.1)) = mL X := rfl
        generalize sI (sW X (40 + 2 * rr) (fun j => if j < 40 then 0 else mI X (40 + 2 * rr) j)) (39 + 2 * rr) 1 (nI b.2.1) = Y at *
        obtain ⟨-, k1, g1, k2, l2⟩ := rowF hS26 hrr
        simp only [RQ hS26, Option.bind_some, g1]
        rw [gI_k (by simp only [KQ hS26]), Option.bind_some, e26 35 (by omega) (by omega), b3, show cpI Y 37 0 (40 + 2 * rr) 0 (nI b.2.1) = _ from cpI_k (a := 0) (b := 0) (n := b.2.1) (by simp only [KQ hS26]) k2 (by simp only [LQ]; omega) (by rw [l2]; omega), Option.bind_some]
        have hZ : ∀ x, x ≠ 40 + 2 * rr → mI (sW Y (40 + 2 * rr) (va_cpy (mI Y 37) (mI Y (40 + 2 * rr)) 0 0 b.2.1)) x = mI Y x := fun x hx => mI_ne hx
        have hZr : ∀ j, j < 40 → mI (sW Y (40 + 2 * rr) (va_cpy (mI Y 37) (mI Y (40 + 2 * rr)) 0 0 b.2.1)) (40 + 2 * rr) j = if j < b.2.1 then nI (b.2.2 j) else 0 := by
          intro j hj
          rw [mI_eq]
          by_cases q : j < b.2.1
          · rw [if_pos q, pk_cpy_in (by omega) (by omega), show 0 + (j - 0) = j by omega, e26 37 (by omega) (by omega)]
            exact b5 j q
          · rw [if_neg q, pk_cpy_out (by omega)]; exact z26 j hj
        have hSZ : SF (sW Y (40 + 2 * rr) (va_cpy (mI Y 37) (mI Y (40 + 2 * rr)) 0 0 b.2.1)) := hS26
        have hRZ : mR (sW Y (40 + 2 * rr) (va_cpy (mI Y 37) (mI Y (40 + 2 * rr)) 0 0 b.2.1)) = mR X := hR26
        have hLZ : mL (sW Y (40 + 2 * rr) (va_cpy (mI Y 37) (mI Y (40 + 2 * rr)) 0 0 b.2.1)) = mL M := (show mL Y = mL M by rw [hL26, x2.2.2.1])
        generalize sW Y (40 + 2 * rr) (va_cpy (mI Y 37) (mI Y (40 + 2 * rr)) 0 0 b.2.1) = Z at *
        have eZ : ∀ x, x < 35 ∨ 37 < x → x ≠ 39 + 2 * rr → x ≠ 40 + 2 * rr → mI Z x = mI M x := fun x q1 q2 q3 => by rw [hZ x q3, e26 x q2 q3, x2.2.2.2 x q1]
        have hGZ : Gd Z r n m G := hG.congr hSZ (by rw [hRZ]; exact x2.2.1 1 2 (by decide)) (fun x hx => eZ x (by omega) (by omega) (by omega)) (by rw [eZ 65 (by omega) (by omega) (by omega)]) (by rw [eZ 65 (by omega) (by omega) (by omega)])
        obtain ⟨W, w1, w2, w3⟩ := dusk_Y hGZ (by rw [eZ 66 (by omega) (by omega) (by omega)]; exact hP) hB (show N ≤ 30 by omega) hi hrr
        rw [hbd] at w1 w3
        simp only [KQ hSZ, if_true, isS_ok hGZ hi, Option.bind_some, show ¬ (1 : Int32) = 0 by decide, if_false, hin, isRow_ok hrr, w1]
        refine ⟨W, rfl, ?_⟩
        have eW : ∀ x, x ≠ 65 → x ≠ 72 → x ≠ 73 → x < 35 ∨ (37 < x ∧ x < 81) → x ≠ 39 + 2 * rr → x ≠ 40 + 2 * rr → mI W x = mI M x := fun x q1 q2 q3 q4 q5 q6 => (w2.2.2.2.1 x q1 q2 q3 (by omega)).trans (eZ x (by omega) q5 q6)
        have eW5 : ∀ j, j ≠ 26 → j ≠ 27 → mI W 65 j = mI M 65 j := fun j q1 q2 => by rw [w2.2.2.2.2.1 j q1 q2, eZ 65 (by omega) (by omega) (by omega)]
        have eL : mL W = mL M := w2.2.2.1.trans hLZ
        have eR : ∀ x j, x ≠ 35 → mR W x j = mR M x j := fun x j hx => by rw [w2.2.1, hRZ]; exact x2.2.1 x j hx
        refine h.scr w2.1 (eR 1 2 (by decide)) (eR 1 3 (by decide)) (fun x hx => eW x (by omega) (by omega) (by omega) (by omega) (by omega) (by omega)) (fun j hj => by rw [eW 66 (by omega) (by omega) (by omega) (by omega) (by omega) (by omega)]) (eW5 1 (by decide) (by decide)) (eW5 4 (by decide) (by decide)) (eW5 15 (by decide) (by decide)) (by rw [eW 1 (by omega) (by omega) (by omega) (by omega) (by omega) (by omega)]) ?_ (by rw [eL]; exact h.2.2.2.1.2.1) (by rw [eL]; exact h.2.2.2.1.2.2.1) (fun q hq => ?_)
        · rw [eW5 12 (by decide) (by decide), eW 1 (by omega) (by omega) (by omega) (by omega) (by omega) (by omega)]; exact h.2.2.2.1.1
        · obtain ⟨v1, v2, v3⟩ := h.2.1 q hq
          by_cases c : q = rr
          · subst c
            have eY : mI W (39 + 2 * q) 1 = nI b.2.1 := by rw [w2.2.2.2.1 (39 + 2 * q) (by omega) (by omega) (by omega) (by omega), hZ (39 + 2 * q) (by omega)]; exact y26
            refine ⟨⟨b.2.1 + 1, by omega, ?_⟩, ?_, fun j hj => ?_⟩
            · rw [eY, show nI (b.2.1 + 1) - 1 = nI b.2.1 from pk_sub (a := b.2.1 + 1) (b := 1) (by omega)]
            · rw [eY]; exact w3.2.1
            · rw [w3.2.2 j hj, w2.2.2.2.1 (40 + 2 * q) (by omega) (by omega) (by omega) (by omega), hZr j hj]
          · rw [eW (39 + 2 * q) (by omega) (by omega) (by omega) (by omega) (by omega) (by omega), eW (40 + 2 * q) (by omega) (by omega) (by omega) (by omega) (by omega) (by omega), w2.2.2.2.2.2.1 q c, eZ 72 (by omega) (by omega) (by omega)]
            refine ⟨v1, v2, fun j hj => ?_⟩
            rw [w2.2.2.2.2.2.2 (40 * q + j) (by omega), eZ 73 (by omega) (by omega) (by omega)]
            exact v3 j hj
