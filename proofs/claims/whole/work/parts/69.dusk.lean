/-! ===== dusk(): the tree of rows, the class ===== -/
def ap (a p : Nat) : Nat := if a ≤ p then p - a else a - p
theorem ap_comm (a p : Nat) : ap a p = ap p a := by unfold ap; split <;> split <;> omega
theorem ap_le {a p : Nat} (ha : a ≤ 9) (hp : p ≤ 9) : ap a p ≤ 9 := by unfold ap; split <;> omega
/-- a node: 0 its place, 1 the hours so far, 2 the breath left, 3 the gold, 4 the orders done -/
def nok (G : Nat → Nat → Nat) (N i o : Nat) (c : Nat → Nat) : Bool := !(c 4).testBit o && (!td (G 0 i) (G 3 o) && (decide (tk (G 0 i) (G 3 o) ≤ c 2) && decide (c 1 + ap (c 0) (G 2 o) + 1 ≤ N)))
def nch (G : Nat → Nat → Nat) (i o : Nat) (c : Nat → Nat) : Nat → Nat := fun j => if j = 0 then G 2 o else if j = 1 then c 1 + ap (c 0) (G 2 o) + 1 else if j = 2 then c 2 - tk (G 0 i) (G 3 o) else if j = 3 then c 3 + bg (G 0 i) (G 4 o) else c 4 ||| 2 ^ o
def pth (L : Nat → Nat) (k o : Nat) : Nat → Nat := fun j => if j = k then o else L j
def nrec (c : Nat → Nat) (k : Nat) (L : Nat → Nat) (b : Nat × Nat × (Nat → Nat)) : Nat × Nat × (Nat → Nat) := if b.1 < c 3 then (c 3, k, L) else b
def ntr (G : Nat → Nat → Nat) (N i m : Nat) : Nat → (Nat → Nat) → Nat → (Nat → Nat) → Nat × Nat × (Nat → Nat) → Nat × Nat × (Nat → Nat)
  | 0, _, _, _, b => b
  | dp + 1, c, k, L, b => iter (fun o b => if nok G N i o c = true then ntr G N i m dp (nch G i o c) (k + 1) (pth L k o) (nrec (nch G i o c) (k + 1) (pth L k o) b) else b) 0 m b
theorem pcb : ∀ D, D < 64 → ∀ o, o < 6 → D.testBit o = false → pc (D ||| 2 ^ o) = pc D + 1 ∧ pc D < 6 := by decide +kernel
def Nb (m N k : Nat) (c : Nat → Nat) : Prop := c 0 ≤ 9 ∧ c 1 ≤ N ∧ c 2 ≤ 9 ∧ c 3 ≤ 11 * k ∧ c 4 < 2 ^ m ∧ k ≤ pc (c 4)
theorem nok_s {G : Nat → Nat → Nat} {N i o : Nat} {c : Nat → Nat} : nok G N i o c = true ↔ ((c 4).testBit o = false ∧ td (G 0 i) (G 3 o) = false ∧ tk (G 0 i) (G 3 o) ≤ c 2 ∧ c 1 + ap (c 0) (G 2 o) + 1 ≤ N) := by
  unfold nok
  simp only [Bool.and_eq_true, Bool.not_eq_true', decide_eq_true_eq]
theorem Nb.ch {M : Mem} {r n m : Nat} {G : Nat → Nat → Nat} (h : Gd M r n m G) {N k i o : Nat} {c : Nat → Nat} (hb : Nb m N k c) (hi : i < n) (ho : o < m) (hok : nok G N i o c = true) : Nb m N (k + 1) (nch G i o c) ∧ k < 6 := by
  obtain ⟨b0, b1, b2, b3, b4, b5⟩ := hb
  obtain ⟨o1, o2, o3, o4⟩ := nok_s.mp hok
  have hnm := h.nm
  have h64 := lt64 hnm.2.1 b4
  have hp := pcb (c 4) h64 o (by omega) o1
  have hg := bg_le _ (h.s hi).1.2.2 _ (show G 4 o < 10 by have := (h.o ho).2.2.2.2; omega)
  refine ⟨⟨(h.o ho).1.2.2, ?_, ?_, ?_, ?_, ?_⟩, by omega⟩
  · show c 1 + ap (c 0) (G 2 o) + 1 ≤ N; exact o4
  · show c 2 - tk (G 0 i) (G 3 o) ≤ 9; omega
  · show c 3 + bg (G 0 i) (G 4 o) ≤ 11 * (k + 1); omega
  · show c 4 ||| 2 ^ o < 2 ^ m; exact Nat.or_lt_two_pow b4 (Nat.pow_lt_pow_right (by decide) ho)
  · show k + 1 ≤ pc (c 4 ||| 2 ^ o); omega
def FrD (M N : Mem) : Prop := SF N ∧ mR N = mR M ∧ mL N = mL M ∧ (∀ x, x < 35 ∨ 37 < x → mI N x = mI M x) ∧ mI N 35 5 = mI M 35 5
theorem FrD.tr {A B C : Mem} (h1 : FrD A B) (h2 : FrD B C) : FrD A C := ⟨h2.1, h2.2.1.trans h1.2.1, h2.2.2.1.trans h1.2.2.1, fun x hx => (h2.2.2.2.1 x hx).trans (h1.2.2.2.1 x hx), h2.2.2.2.2.trans h1.2.2.2.2⟩
theorem FrD.g {M N : Mem} {r n m : Nat} {G : Nat → Nat → Nat} (h : FrD M N) (hG : Gd M r n m G) : Gd N r n m G := hG.congr h.1 (by rw [h.2.1]) (fun x hx => h.2.2.2.1 x (by omega)) (by rw [h.2.2.2.1 65 (by omega)]) (by rw [h.2.2.2.1 65 (by omega)])
/-- the best so far, in the class -/
def Bx (b : Nat × Nat × (Nat → Nat)) (M : Mem) : Prop := (b.1 ≤ 66 ∧ b.2.1 ≤ 6) ∧ mI M 35 2 = nI b.2.1 ∧ mI M 35 3 = nI b.1 ∧ ∀ j, j < b.2.1 → mI M 37 j = nI (b.2.2 j)
def Ph (k : Nat) (L : Nat → Nat) (M : Mem) : Prop := ∀ j, j < k → mI M 36 j = nI (L j)
theorem rec_X {M : Mem} (h : SF M) {k : Nat} {c L : Nat → Nat} {b : Nat × Nat × (Nat → Nat)} (hk : k ≤ 6) (hc : c 3 ≤ 66) (hP : Ph k L M) (hB : Bx b M) (rc : Nat → Int32 → Int32 → Int32 → Int32 → Int32 → Int32 → Mem → Option Mem) (x2 x3 x4 x6 : Int32) : ∃ M', f_X3_goOn_b rc 35 (nI k) x2 x3 x4 (nI (c 3)) x6 M = f_X3_goOn_35 rc 35 (nI k) x2 x3 x4 (nI (c 3)) x6 M' ∧ FrD M M' ∧ Ph k L M' ∧ Bx (nrec c k L b) M' := by
  obtain ⟨⟨b1, b2⟩, b3, b4, b5⟩ := id hB
  unfold f_X3_goOn_b nrec
  rw [if_pos (by simp only [KQ h]), gI_k (by simp only [KQ h]), Option.bind_some, b4]
  by_cases q : b.1 < c 3
  · rw [if_pos q, if_neg (nI_ge q (by omega)), pI_k (by simp only [KQ h]), Option.bind_some, pI_k (by rw [kd_sI]; simp only [KQ h]), Option.bind_some]
    have h5 : SF (sI (sI M 35 3 (nI (c 3))) 35 2 (nI k)) := h
    simp only [RQ h5, Option.bind_some]
    rw [show cpI (sI (sI M 35 3 (nI (c 3))) 35 2 (nI k)) 36 0 37 0 6 = _ from cpI_k (a := 0) (b := 0) (n := 6) (by simp only [KQ h5]) (by simp only [KQ h5]) (by simp only [LQ]; omega) (by simp only [LQ]; omega), Option.bind_some]
    refine ⟨_, rfl, ⟨h, rfl, rfl, fun x hx => ?_, ?_⟩, fun j hj => ?_, ⟨hc, hk⟩, ?_, ?_, fun j hj => ?_⟩
    · rw [mI_ne (by omega), mI_sI_row (by omega), mI_sI_row (by omega)]
    · rw [mI_ne (by decide), mI_sI, if_neg (by decide), mI_sI, if_neg (by decide)]
    · rw [mI_ne (by decide), mI_sI_row (by decide), mI_sI_row (by decide)]; exact hP j hj
    · rw [mI_ne (by decide), mI_sI, if_pos ⟨rfl, rfl⟩]
    · rw [mI_ne (by decide), mI_sI, if_neg (by decide), mI_sI, if_pos ⟨rfl, rfl⟩]
    · replace hj : j < k := hj
      rw [mI_eq, pk_cpy_in (by omega) (by omega), show 0 + (j - 0) = j by omega, mI_sI_row (by decide), mI_sI_row (by decide)]
      exact hP j hj
  · rw [if_neg q, if_pos (nI_le (by omega) (by omega))]
    exact ⟨M, rfl, ⟨h, rfl, rfl, fun _ _ => rfl, rfl⟩, hP, hB⟩
theorem goOn_X {M : Mem} {r n m : Nat} {G : Nat → Nat → Nat} (h : Gd M r n m G) (hr4 : mR M 35 4 = r) {i N : Nat} (hi : i < n) (h5 : mI M 35 5 = nI i) (hN : N ≤ 30) : ∀ dp k (c L : Nat → Nat) b X, k + dp = 6 → FrD M X → Nb m N k c → Ph k L X → Bx b X → ∃ X', f_X3_goOn (dp + 2) 35 (nI k) (nI (c 0)) (nI (N - c 1)) (nI (c 2)) (nI (c 3)) (nI (c 4)) X = some X' ∧ FrD M X' ∧ Ph k L X' ∧ Bx (ntr G N i m dp c k L (nrec c k L b)) X' := by
  have hnm := h.nm
  have hr := h.2.1
  intro dp
  induction dp with
  | zero =>
    intro k c L b X hk hF hNb hP hB
    have hk6 : k = 6 := by omega
    obtain ⟨X1, e1, e2, e3, e4⟩ := rec_X hF.1 (c := c) (by omega) (by have := hNb.2.2.2.1; omega) hP hB (f_X3_goOn 1) (nI (c 0)) (nI (N - c 1)) (nI (c 2)) (nI (c 4))
    have hF1 := hF.tr e2
    refine ⟨X1, ?_, hF1, e3, e4⟩
    refine (show f_X3_goOn (0 + 2) 35 (nI k) (nI (c 0)) (nI (N - c 1)) (nI (c 2)) (nI (c 3)) (nI (c 4)) X = _ from e1).trans ?_
    unfold f_X3_goOn_35
    rw [gR_k (r := r) (by simp only [KQ hF1.1]) (by rw [hF1.2.1]; exact hr4) (by omega), Option.bind_some, hk6, if_neg (by decide), if_neg (by decide)]
  | succ dp ih =>
    intro k c L b X hk hF hNb hP hB
    obtain ⟨X1, e1, e2, e3, e4⟩ := rec_X hF.1 (c := c) (by omega) (by have := hNb.2.2.2.1; omega) hP hB (f_X3_goOn (dp + 2)) (nI (c 0)) (nI (N - c 1)) (nI (c 2)) (nI (c 4))
    have hF1 := hF.tr e2
    obtain ⟨b0, b1, b2, b3, b4, b5⟩ := id hNb
    have h64 := lt64 hnm.2.1 b4
    obtain ⟨X2, y1, y2⟩ := lp_ex (F := fun fu o (Y : Mem) => f_X3_goOn_56 (f_X3_goOn (dp + 2)) fu 35 (nI k) (nI (c 0)) (nI (N - c 1)) (nI (c 2)) (nI (c 3)) (nI (c 4)) (nI o) Y) m (fun Y => some Y) (fun o Y => FrD M Y ∧ Ph k L Y ∧ Bx (iter (fun o b => if nok G N i o c = true then ntr G N i m dp (nch G i o c) (k + 1) (pth L k o) (nrec (nch G i o c) (k + 1) (pth L k o) b) else b) 0 o (nrec c k L b)) Y)
      (fun fu Y hI => by
        have hGY := hI.1.g h
        simp only [f_X3_goOn_56]
        rw [gR_k (r := r) (by simp only [KQ hI.1.1]) (by rw [hI.1.2.1]; exact hr4) (by omega), Option.bind_some, hGY.sz.2.1, Option.bind_some, if_pos (Int32.le_refl _)])
      (fun fu o Y ho hI => by
        obtain ⟨i1, i2, i3⟩ := hI
        have hGY := i1.g h
        have g4 : gR Y 13 35 4 = some r := gR_k (r := r) (by simp only [KQ i1.1]) (by rw [i1.2.1]; exact hr4) (by omega)
        have g5 : gI Y 13 35 5 = some (nI i) := by rw [gI_k (by simp only [KQ i1.1]), i1.2.2.2.2, h5]
        have hk6 := (h.s hi).1.2.2
        have hd := (h.o ho).2.1.2.2
        have hh := (h.o ho).1.2.2
        have ht9 := tk_le _ hk6 (G 3 o) (by omega)
        have hap := ap_le b0 hh
        rw [iter_snoc]
        simp only [f_X3_goOn_56, g4, Option.bind_some, hGY.sz, g5, brF hGY hi ho, rollF i1.1 hr, (ctab hGY).2 o ho, hs1 (c 4) h64 o (by omega), apx (G 2 o) (by omega) (c 0) (by omega), show (if G 2 o ≤ c 0 then c 0 - G 2 o else G 2 o - c 0) = ap (c 0) (G 2 o) from ap_comm (G 2 o) (c 0), nI_1]
        rw [if_neg (nI_ge ho (by omega))]
        by_cases o1 : (c 4).testBit o = true
        · have hno : ¬ nok G N i o c = true := fun q => by rw [(nok_s.mp q).1] at o1; exact absurd o1 (by decide)
          rw [if_neg hno]
          refine ⟨Y, ?_, i1, i2, i3⟩
          simp only [o1, if_true, show ¬ (1 : Int32) = 0 by decide, if_false]
        · simp only [o1, if_false, Bool.false_eq_true, if_true]
          have hbt := btv_n _ hk6 (G 3 o) (by omega)
          by_cases o2 : td (G 0 i) (G 3 o) = true
          · have hno : ¬ nok G N i o c = true := fun q => by rw [(nok_s.mp q).2.1] at o2; exact absurd o2 (by decide)
            rw [if_neg hno, if_pos (by rw [hbt]; exact o2)]
            exact ⟨Y, rfl, i1, i2, i3⟩
          · rw [if_neg (by rw [hbt]; exact o2)]
            have hbv : btv (G 0 i) (G 3 o) = nI (tk (G 0 i) (G 3 o)) := by unfold btv; rw [if_neg o2]
            rw [hbv]
            by_cases o3 : tk (G 0 i) (G 3 o) ≤ c 2
            rotate_left
            · have hno : ¬ nok G N i o c = true := fun q => o3 (nok_s.mp q).2.2.1
              rw [if_neg hno, if_pos (nI_lt (by omega) (by omega))]
              exact ⟨Y, rfl, i1, i2, i3⟩
            rw [if_neg (nI_nlt o3 (by omega))]
            by_cases o4 : c 1 + ap (c 0) (G 2 o) + 1 ≤ N
            rotate_left
            · have hno : ¬ nok G N i o c = true := fun q => o4 (nok_s.mp q).2.2.2
              rw [if_neg hno, if_pos (nI_lt (by omega) (by omega))]
              exact ⟨Y, rfl, i1, i2, i3⟩
            rw [if_neg (nI_nlt (by omega) (by omega))]
            have hok : nok G N i o c = true := nok_s.mpr ⟨by simpa using o1, by simpa using o2, o3, o4⟩
            obtain ⟨hNb', hk6'⟩ := hNb.ch h hi ho hok
            rw [if_pos hok]
            simp only [RQ i1.1, Option.bind_some]
            rw [eI_k (by simp only [KQ i1.1]) (by simp only [LQ]; omega), Option.bind_some]
            have iF : FrD M (sI Y 36 k (nI o)) := i1.tr ⟨i1.1, rfl, rfl, fun x hx => mI_sI_row (by omega), by rw [mI_sI_row (by decide)]⟩
            have hGZ := iF.g h
            have g4' : gR (sI Y 36 k (nI o)) 13 35 4 = some r := g4
            have g5' : gI (sI Y 36 k (nI o)) 13 35 5 = some (nI i) := by rw [gI_k (by simp only [KQ iF.1]), iF.2.2.2.2, h5]
            have hPh : Ph (k + 1) (pth L k o) (sI Y 36 k (nI o)) := by
              intro j hj
              rw [mI_sI]
              unfold pth
              by_cases qj : j = k
              · rw [if_pos ⟨rfl, qj⟩, if_pos qj]
              · rw [if_neg (fun w => qj w.2), if_neg qj]; exact i2 j (by omega)
            have hBx : Bx (iter (fun o b => if nok G N i o c = true then ntr G N i m dp (nch G i o c) (k + 1) (pth L k o) (nrec (nch G i o c) (k + 1) (pth L k o) b) else b) 0 o (nrec c k L b)) (sI Y 36 k (nI o)) := by
              obtain ⟨z1, z2, z3, z4⟩ := i3
              exact ⟨z1, by rw [mI_sI_row (by decide)]; exact z2, by rw [mI_sI_row (by decide)]; exact z3, fun j hj => by rw [mI_sI_row (by decide)]; exact z4 j hj⟩
            obtain ⟨Z, u1, u2, u3, u4⟩ := ih (k + 1) (nch G i o c) (pth L k o) _ _ (by omega) iF hNb' hPh hBx
            simp only [g4', Option.bind_some, g5', rollF iF.1 hr, (ctab hGZ).2 o ho, goF hGZ hi ho, sh1 o (by omega), or1, nI_add, pk_sub o3, pk_sub (show ap (c 0) (G 2 o) + 1 ≤ N - c 1 by omega), show N - c 1 - (ap (c 0) (G 2 o) + 1) = N - (nch G i o c) 1 from (by show N - c 1 - (ap (c 0) (G 2 o) + 1) = N - (c 1 + ap (c 0) (G 2 o) + 1); omega)]
            refine ⟨Z, ?_, u2, fun j hj => ?_, u4⟩
            · rw [show f_X3_goOn (dp + 2) 35 (nI (k + 1)) (nI (G 2 o)) (nI (N - nch G i o c 1)) (nI (c 2 - tk (G 0 i) (G 3 o))) (nI (c 3 + bg (G 0 i) (G 4 o))) (nI (c 4 ||| 2 ^ o)) (sI Y 36 k (nI o)) = some Z from u1, Option.bind_some]
            · rw [u3 j (by omega)]
              unfold pth
              rw [if_neg (by omega)])
      m FU 0 X1 (by omega) (by unfold FU; omega) ⟨hF1, e3, e4⟩
    refine ⟨X2, ?_, y2⟩
    refine (show f_X3_goOn (dp + 1 + 2) 35 (nI k) (nI (c 0)) (nI (N - c 1)) (nI (c 2)) (nI (c 3)) (nI (c 4)) X = _ from e1).trans ?_
    unfold f_X3_goOn_35
    rw [gR_k (r := r) (by simp only [KQ hF1.1]) (by rw [hF1.2.1]; exact hr4) (by omega), Option.bind_some, if_neg (nI_pos (by omega)), if_pos (show nI k < 6 from nI_lt (b := 6) (by omega) (by decide))]
    exact y1
