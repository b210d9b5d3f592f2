/-! ===== deeds: one by one, in the class and in the model ===== -/
theorem run_congr {G : Nat → Nat → Nat} {cd cd' : Nat → Nat} : ∀ d, (∀ k, k < d → cd k = cd' k) → run G cd d = run G cd' d := by
  intro d
  induction d with
  | zero => intro _; rfl
  | succ d ih =>
    intro h
    show perf G (cd d) (run G cd d) = perf G (cd' d) (run G cd' d)
    rw [h d (by omega), ih (fun k hk => h k (by omega))]
theorem sighOrder_no {M : Mem} {r n m : Nat} {G S : Nat → Nat → Nat} (h : Gd M r n m G) {t : Nat} (ht : t = 22 ∨ t = 25) (hN : NwP n S (mI M t) (mI M (t + 1)) (mI M (t + 2))) (h6 : S 2 0 < 64) {i o : Nat} (hi : i < n) (ho : o < m) (h9 : S 0 i ≤ 9) (hc : ¬ can G S i o = true) : f_X6_sighOrder t r (nI i) (nI o) M = some M := by
  unfold f_X6_sighOrder
  simp only [stF h.1 ht, if_true, able_X h ht hN h6 hi ho h9, hc, if_false, Bool.false_eq_true, Option.bind_some]
theorem can_tk {G S : Nat → Nat → Nat} {i o : Nat} (hc : can G S i o = true) : (S 2 0).testBit o = false ∧ td (G 0 i) (G 3 o) = false ∧ tk (G 0 i) (G 3 o) ≤ S 0 i := by
  unfold can at hc
  simp only [Bool.and_eq_true, Bool.not_eq_true', decide_eq_true_eq] at hc
  exact ⟨hc.1.1, hc.1.2, hc.2⟩
theorem sighOrder_X {M : Mem} {r n m : Nat} {G S : Nat → Nat → Nat} (h : Gd M r n m G) {t : Nat} (ht : t = 22 ∨ t = 25) (hN : NwP n S (mI M t) (mI M (t + 1)) (mI M (t + 2))) (h6 : S 2 0 < 64) {i o : Nat} (hi : i < n) (ho : o < m) (h9 : S 0 i ≤ 9) (hc : can G S i o = true) : ∃ M', f_X6_sighOrder t r (nI i) (nI o) M = some M' ∧ SF M' ∧ mR M' = mR M ∧ mL M' = mL M ∧ (∀ x, x ≠ t → x ≠ t + 1 → mI M' x = mI M x) ∧ NwP n (sighed G S i o) (mI M' t) (mI M' (t + 1)) (mI M' (t + 2)) := by
  have hnm := h.nm
  obtain ⟨c1, c2, c3⟩ := can_tk hc
  obtain ⟨n1', n2', n3'⟩ := hN
  obtain ⟨k0, g0, g1, k1, k2, l1, l2⟩ := stF h.1 ht
  unfold f_X6_sighOrder
  simp only [k0, g0, if_true, able_X h ht ⟨n1', n2', n3'⟩ h6 hi ho h9, hc, Option.bind_some, show ¬ (1 : Int32) = 0 by decide, if_false, brF h hi ho]
  rw [aI_k k1 (by rw [l1]; omega), (n3' i hi).1]
  simp only [Option.bind_some, btv, c2, if_false, Bool.false_eq_true]
  rw [eI_k k1 (by rw [l1]; omega), Option.bind_some, pk_sub c3]
  generalize hM9 : sI M (t + 1) i (nI (S 0 i - tk (G 0 i) (G 3 o))) = M9
  have hS9 : SF M9 := by rw [← hM9]; exact h.1
  have e9 : ∀ x, x ≠ t + 1 → mI M9 x = mI M x := fun x hx => by rw [← hM9, mI_sI_row hx]
  have hG9 : Gd M9 r n m G := h.congr hS9 (by rw [← hM9]; rfl) (fun x hx => e9 x (by omega)) (by rw [e9 65 (by omega)]) (by rw [e9 65 (by omega)])
  have k9 : kd M9 t = 16 := by rw [← hM9]; exact k0
  rw [gI_k k9, Option.bind_some, goF hG9 hi ho, Option.bind_some, pI_k k9, Option.bind_some, gI_k (by rw [kd_sI]; exact k9), Option.bind_some, pI_k (by rw [kd_sI]; exact k9), Option.bind_some, sh1 o (by omega), e9 t (by omega), n2', nI_add, mI_sI, if_neg (by omega), e9 t (by omega), n1', or1]
  refine ⟨_, rfl, hS9, by rw [← hM9]; rfl, by rw [← hM9]; rfl, fun x h1 h2 => ?_, ?_, ?_, fun j hj => ⟨?_, ?_⟩⟩
  · rw [mI_sI_row h1, mI_sI_row h1, e9 x h2]
  · rw [mI_sI, if_pos ⟨rfl, rfl⟩]; simp [sighed]
  · rw [mI_sI, if_neg (by omega), mI_sI, if_pos ⟨rfl, rfl⟩]; simp [sighed]
  · rw [mI_sI_row (by omega), mI_sI_row (by omega), ← hM9, mI_sI]
    by_cases hji : j = i
    · subst hji; rw [if_pos ⟨rfl, rfl⟩]; simp [sighed]
    · rw [if_neg (fun q => hji q.2), (n3' j hj).1]; simp [sighed, hji]
  · rw [mI_sI_row (by omega), mI_sI_row (by omega), ← hM9, mI_sI_row (by omega), (n3' j hj).2]; simp [sighed]
theorem dsO {c : Nat} (hc : c < 300) : f_X0_sigherOf (nI c) = nI (c / 10 % 10) ∧ f_X0_targetOf (nI c) = nI (c % 10) ∧ f_X0_whatOf (nI c) = nI (c / 100) := by
  unfold f_X0_sigherOf f_X0_targetOf f_X0_whatOf
  have e1 : nI c / 10 = nI (c / 10) := pk_div (d := 10) (by omega) (by decide) (by decide)
  refine ⟨?_, pk_rem (d := 10) (by omega) (by decide) (by decide), pk_div (d := 100) (by omega) (by decide) (by decide)⟩
  rw [e1]
  exact pk_rem (d := 10) (by omega) (by decide) (by decide)
theorem mn9 : ∀ b, b < 10 → f_J9_min_7cf53 9 (nI b + 2) = nI (if 7 < b then 9 else b + 2) := by decide +kernel
theorem perform_X {M : Mem} {r n m : Nat} {G S : Nat → Nat → Nat} {q : Nat} (h : Gd M r n m G) (hN : NwP n S (mI M 22) (mI M (22 + 1)) (mI M (22 + 2))) (hB : Bd n m S q) {c : Nat} (hc : okc n m c) : ∃ M', f_X6_perform 22 r (nI c) M = some M' ∧ SF M' ∧ mR M' = mR M ∧ mL M' = mL M ∧ (∀ x, x < 22 ∨ 24 < x → mI M' x = mI M x) ∧ NwP n (perf G c S) (mI M' 22) (mI M' (22 + 1)) (mI M' (22 + 2)) := by
  have hnm := h.nm
  obtain ⟨c1, c2, c3⟩ := hc
  obtain ⟨e1, e2, e3⟩ := dsO c1
  have h9 := (hB.1 _ c2).1
  unfold f_X6_perform perf
  simp only [KQ h.1, RQ h.1, if_true, e1, e2, e3, hasS_ok h c2, Option.bind_some, show ¬ (1 : Int32) = 0 by decide, if_false]
  by_cases w0 : c / 100 = 0
  · rw [w0, if_pos (show nI 0 = 0 from rfl), if_pos rfl, eI_k (by simp only [KQ h.1]) (by simp only [LQ]; omega), Option.bind_some]
    refine ⟨_, rfl, h.1, rfl, rfl, fun x hx => mI_sI_row (by omega), ?_, ?_, fun j hj => ⟨?_, ?_⟩⟩
    · rw [mI_sI_row (by omega), hN.1]; rfl
    · rw [mI_sI_row (by omega), hN.2.1]; rfl
    · rw [mI_sI_row (by omega), (hN.2.2 j hj).1]; rfl
    · rw [mI_sI]
      unfold walked
      by_cases hj2 : j = c / 10 % 10
      · rw [if_pos ⟨rfl, hj2⟩, if_pos ⟨rfl, hj2⟩]
      · rw [if_neg (fun q => hj2 q.2), if_neg (fun q => hj2 q.2)]
        exact (hN.2.2 j hj).2
  · rw [if_neg (show ¬ nI (c / 100) = 0 from n0 w0 (by omega)), if_neg w0]
    by_cases w1 : c / 100 = 1
    · rw [w1, if_pos (show nI 1 = 1 from rfl), if_pos rfl]
      by_cases hcan : can G S (c / 10 % 10) (c % 10) = true
      · rw [if_pos hcan]
        obtain ⟨M', q1, q2, q3, q4, q5, q6⟩ := sighOrder_X h (Or.inl rfl) hN (lt64 hnm.2.1 hB.2.1) c2 (c3 w1) h9 hcan
        rw [q1]
        exact ⟨M', rfl, q2, q3, q4, fun x hx => q5 x (by omega) (by omega), q6⟩
      · rw [if_neg hcan, sighOrder_no h (Or.inl rfl) hN (lt64 hnm.2.1 hB.2.1) c2 (c3 w1) h9 hcan]
        exact ⟨M, rfl, h.1, rfl, rfl, fun x _ => rfl, hN⟩
    · rw [if_neg (show ¬ nI (c / 100) = 1 from fun q => w1 ((nI_eq (by omega) (b := 1) (by decide)).mp q)), if_neg w1, aI_k (by simp only [KQ h.1]) (by simp only [LQ]; omega), Option.bind_some, show mI M 23 (c / 10 % 10) = _ from (hN.2.2 _ c2).1, mn9 _ (by omega), eI_k (by simp only [KQ h.1]) (by simp only [LQ]; omega), Option.bind_some]
      refine ⟨_, rfl, h.1, rfl, rfl, fun x hx => mI_sI_row (by omega), ?_, ?_, fun j hj => ⟨?_, ?_⟩⟩
      · rw [mI_sI_row (by omega), hN.1]; rfl
      · rw [mI_sI_row (by omega), hN.2.1]; rfl
      · rw [mI_sI]
        unfold rested
        by_cases hj2 : j = c / 10 % 10
        · rw [if_pos ⟨rfl, hj2⟩]; exact congrArg nI (if_pos ⟨rfl, hj2⟩).symm
        · rw [if_neg (fun q => hj2 q.2), if_neg (fun q => hj2 q.2)]
          exact (hN.2.2 j hj).1
      · rw [mI_sI_row (by omega), (hN.2.2 j hj).2]; rfl
/-- the class's half of the deeds -/
def Cf (G : Nat → Nat → Nat) (n m d : Nat) (cd : Nat → Nat) (M : Mem) : Prop := d ≤ 40 ∧ mI M 28 1 = nI d ∧ (∀ k, k < d → mI M 29 k = nI (cd k) ∧ okc n m (cd k)) ∧ NwP n (run G cd d) (mI M 22) (mI M (22 + 1)) (mI M (22 + 2))
/-- the model's half -/
def Mf (G : Nat → Nat → Nat) (n d b : Nat) (cd : Nat → Nat) (f : Nat → Int32) : Prop := f b = nI d ∧ Part f b n (run G cd d) ∧ ∀ k, k < d → Part f (b + 12 + 12 * k) n (run G cd k)
def psh (cd : Nat → Nat) (d c : Nat) : Nat → Nat := fun k => if k = d then c else cd k
theorem run_psh {G : Nat → Nat → Nat} {cd : Nat → Nat} {d c : Nat} : run G (psh cd d c) (d + 1) = perf G c (run G cd d) := by
  show perf G (psh cd d c d) (run G (psh cd d c) d) = _
  rw [run_congr (cd' := cd) d (fun k hk => by unfold psh; rw [if_neg (by omega)])]
  unfold psh
  rw [if_pos rfl]
theorem run_psl {G : Nat → Nat → Nat} {cd : Nat → Nat} {d c k : Nat} (hk : k ≤ d) : run G (psh cd d c) k = run G cd k := run_congr k (fun j hj => by unfold psh; rw [if_neg (by omega)])
theorem Gd.runB {M : Mem} {r n m : Nat} {G : Nat → Nat → Nat} (h : Gd M r n m G) {d : Nat} {cd : Nat → Nat} (hk : ∀ k, k < d → okc n m (cd k)) : Bd n m (run G cd d) d := run_Bd (fun i hi => ⟨(h.s hi).1.2.2, (h.s hi).2.2.2⟩) (fun o ho => (h.o ho).2.2.2.2) d hk
theorem enact_X {M : Mem} {r n m : Nat} {G : Nat → Nat → Nat} {d : Nat} {cd : Nat → Nat} (h : Gd M r n m G) (hC : Cf G n m d cd M) (hd : d < 40) {w i t : Nat} (hw : w < 3) (ht : t < 10) (hc : okc n m (100 * w + 10 * i + t)) : ∃ M', f_X7_enact 1 (nI w) (nI i) (nI t) M = some M' ∧ SF M' ∧ mR M' = mR M ∧ mL M' = mL M ∧ (∀ x, x < 22 ∨ 29 < x → mI M' x = mI M x) ∧ Cf G n m (d + 1) (psh cd d (100 * w + 10 * i + t)) M' := by
  obtain ⟨c1, c2, c3, c4⟩ := hC
  have ec : f_X0_codeOf (nI w) (nI i) (nI t) = nI (100 * w + 10 * i + t) := by
    unfold f_X0_codeOf
    rw [show (100 : Int32) = nI 100 from rfl, show (10 : Int32) = nI 10 from rfl, pk_mul, pk_mul, nI_add, nI_add, Nat.mul_comm w, Nat.mul_comm i]
  generalize hcc : 100 * w + 10 * i + t = c at hc ec
  unfold f_X7_enact
  simp only [KQ h.1, RQ h.1, if_true, ec, Option.bind_some]
  have hwr : f_X0_write 28 (nI c) M = some (sI (sI M 29 d (nI c)) 28 1 (nI (d + 1))) := by
    unfold f_X0_write
    simp only [KQ h.1, RQ h.1, if_true, gI_k, c2, Option.bind_some, if_neg (nI_pos (show d < 2 ^ 31 by omega)), if_neg (show ¬ (40 : Int32) ≤ nI d from nI_ge (b := 40) hd (by decide))]
    rw [eI_k (by simp only [KQ h.1]) (by simp only [LQ]; omega), Option.bind_some, gI_k (by rw [kd_sI]; simp only [KQ h.1]), Option.bind_some, pI_k (by rw [kd_sI]; simp only [KQ h.1]), Option.bind_some, mI_sI_row (by decide), c2, nI_1]
  rw [hwr, Option.bind_some]
  generalize hM5 : sI (sI M 29 d (nI c)) 28 1 (nI (d + 1)) = M5
  have hS5 : SF M5 := by rw [← hM5]; exact h.1
  have e5 : ∀ x, x ≠ 28 → x ≠ 29 → mI M5 x = mI M x := fun x h1 h2 => by rw [← hM5, mI_sI_row h1, mI_sI_row h2]
  have hG5 : Gd M5 r n m G := h.congr hS5 (by rw [← hM5]; rfl) (fun x hx => e5 x (by omega) (by omega)) (by rw [e5 65 (by omega) (by omega)]) (by rw [e5 65 (by omega) (by omega)])
  have hN5 : NwP n (run G cd d) (mI M5 22) (mI M5 (22 + 1)) (mI M5 (22 + 2)) := by rw [e5 22 (by omega) (by omega), e5 (22 + 1) (by omega) (by omega), e5 (22 + 2) (by omega) (by omega)]; exact c4
  obtain ⟨M', p1, p2, p3, p4, p5, p6⟩ := perform_X hG5 hN5 (h.runB (fun k hk => (c3 k hk).2)) hc
  simp only [RQ hS5, hG5.R, Option.bind_some, p1]
  refine ⟨M', rfl, p2, p3.trans (by rw [← hM5]; rfl), p4.trans (by rw [← hM5]; rfl), fun x hx => (p5 x (by omega)).trans (e5 x (by omega) (by omega)), by omega, ?_, fun k hk => ?_, ?_⟩
  · rw [p5 28 (by omega), ← hM5, mI_sI, if_pos ⟨rfl, rfl⟩]
  · rw [p5 29 (by omega), ← hM5, mI_sI_row (by decide), mI_sI]
    unfold psh
    by_cases hkd : k = d
    · rw [if_pos ⟨rfl, hkd⟩, if_pos hkd]; exact ⟨rfl, hc⟩
    · rw [if_neg (fun q => hkd q.2), if_neg hkd]; exact c3 k (by omega)
  · rw [run_psh]; exact p6
-- the model
theorem Part.congr {f g : Nat → Int32} {b n : Nat} {S : Nat → Nat → Nat} (h : Part f b n S) (hn : n ≤ 5) (e : ∀ j, b < j → j < b + 13 → g j = f j) : Part g b n S := by
  obtain ⟨h1, h2, h3⟩ := h
  refine ⟨by rw [e (b + 1) (by omega) (by omega)]; exact h1, by rw [e (b + 2) (by omega) (by omega)]; exact h2, fun i hi => ?_⟩
  rw [e (b + 3 + i) (by omega) (by omega), e (b + 8 + i) (by omega) (by omega)]
  exact h3 i hi
/-- a part moved -/
theorem Part.move {f g : Nat → Int32} {a b n : Nat} {S : Nat → Nat → Nat} (h : Part f a n S) (hn : n ≤ 5) (e : ∀ j, 1 ≤ j → j < 13 → g (b + j) = f (a + j)) : Part g b n S := by
  obtain ⟨h1, h2, h3⟩ := h
  refine ⟨by rw [e 1 (by omega) (by omega)]; exact h1, by rw [e 2 (by omega) (by omega)]; exact h2, fun i hi => ?_⟩
  rw [show b + 3 + i = b + (3 + i) by omega, show b + 8 + i = b + (8 + i) by omega, e (3 + i) (by omega) (by omega), e (8 + i) (by omega) (by omega), show a + (3 + i) = a + 3 + i by omega, show a + (8 + i) = a + 8 + i by omega]
  exact h3 i hi
theorem keepPast_Y {M : Mem} (h : SF M) {d : Nat} (hd : d < 40) (e0 : mI M 66 0 = nI d) : f_X8_keepPast 65 M = some (sW M 66 (fun j => if j = 0 then nI (d + 1) else if 13 + 12 * d ≤ j ∧ j < 13 + 12 * d + 12 then mI M 66 (j - (13 + 12 * d) + 1) else mI M 66 j)) := by
  unfold f_X8_keepPast
  simp only [KQ h, if_true]
  have key := lp_up (F := fun fu j (N : Mem) => f_X8_keepPast_2 fu 65 (nI j) N) 12 (fun N => some (sI N 66 0 (mI N 66 0 + 1))) (fun j N => sI N 66 (13 + 12 * d + j) (mI M 66 (j + 1))) (fun j N => SF N ∧ ∀ i, i < 13 → mI N 66 i = mI M 66 i)
    (fun fu N hI => by
      simp only [f_X8_keepPast_2]
      rw [if_pos (show (12 : Int32) ≤ nI 12 from Int32.le_refl _)]
      simp only [RQ hI.1, Option.bind_some]
      rw [show aI N 66 0 = _ from aI_k (j := 0) (by simp only [KQ hI.1]) (by simp only [LQ]; omega), Option.bind_some, show eI N 66 0 _ = _ from eI_k (j := 0) (by simp only [KQ hI.1]) (by simp only [LQ]; omega), Option.bind_some])
    (fun fu j N hj hI => by
      refine ⟨?_, hI.1, fun i hi => ?_⟩
      · simp only [f_X8_keepPast_2]
        rw [if_neg (show ¬ (12 : Int32) ≤ nI j from nI_ge (b := 12) hj (by omega))]
        simp only [RQ hI.1, Option.bind_some]
        rw [show aI N 66 0 = _ from aI_k (j := 0) (by simp only [KQ hI.1]) (by simp only [LQ]; omega), Option.bind_some, hI.2 0 (by omega), e0, show (1 : Int32) + nI j = nI (1 + j) from nI_add 1 j, aI_k (by simp only [KQ hI.1]) (by simp only [LQ]; omega), Option.bind_some, hI.2 (1 + j) (by omega), show (13 : Int32) + 12 * nI d + nI j = nI (13 + 12 * d + j) from by rw [show (12 : Int32) = nI 12 from rfl, show (13 : Int32) = nI 13 from rfl, pk_mul, nI_add, nI_add], eI_k (by simp only [KQ hI.1]) (by simp only [LQ]; omega), Option.bind_some, nI_1, Nat.add_comm 1 j]
      · rw [mI_sI, if_neg (by omega)]; exact hI.2 i hi)
    12 FU 0 M (by omega) (by unfold FU; omega) ⟨h, fun i _ => rfl⟩
  refine (show f_X8_keepPast_2 FU 65 0 M = _ from key.1).trans ?_
  rw [key.2.2 0 (by omega), e0, nI_1, iter_sI (M := M) (x := 66) (p := 13 + 12 * d) (v := fun j => mI M 66 (j + 1)) 12, sI_sW, sW_sW, mI_eq]
  congr 2
theorem sighsAt_Y {M : Mem} {r n m : Nat} {G S : Nat → Nat → Nat} (h : Gd M r n m G) {b : Nat} (hb : b ≤ 1985) (hP : Part (mI M 66) b n S) {i o : Nat} (hi : i < n) (ho : o < m) (hc : tk (G 0 i) (G 3 o) ≤ S 0 i) : ∃ M', f_X8_sighsAt 65 (nI b) (nI i) (nI o) M = some M' ∧ SF M' ∧ mR M' = mR M ∧ mL M' = mL M ∧ (∀ x, x ≠ 66 → mI M' x = mI M x) ∧ (∀ j, j ≤ b ∨ b + 8 ≤ j → mI M' 66 j = mI M 66 j) ∧ Part (mI M' 66) b n (sighed G S i o) := by
  have hnm := h.nm
  obtain ⟨p1, p2, p3⟩ := hP
  unfold f_X8_sighsAt
  simp only [KQ h.1, RQ h.1, if_true, Option.bind_some, show nI b + (1 : Int32) = nI (b + 1) from nI_add b 1, show nI b + (2 : Int32) = nI (b + 2) from nI_add b 2, show nI b + (3 : Int32) = nI (b + 3) from nI_add b 3, nI_add, tkn h hi ho]
  rw [aI_k (j := b + 3 + i) (by simp only [KQ h.1]) (by simp only [LQ]; omega), Option.bind_some, eI_k (j := b + 3 + i) (by simp only [KQ h.1]) (by simp only [LQ]; omega), Option.bind_some, (p3 i hi).1, pk_sub hc]
  generalize hM7 : sI M 66 (b + 3 + i) (nI (S 0 i - tk (G 0 i) (G 3 o))) = M7
  have hS7 : SF M7 := by rw [← hM7]; exact h.1
  have e7 : ∀ x, x ≠ 66 → mI M7 x = mI M x := fun x hx => by rw [← hM7, mI_sI_row hx]
  have hG7 : Gd M7 r n m G := h.congr hS7 (by rw [← hM7]; rfl) (fun x hx => e7 x (by omega)) (by rw [e7 65 (by omega)]) (by rw [e7 65 (by omega)])
  simp only [RQ hS7, Option.bind_some, brt hG7 hi ho]
  rw [aI_k (j := b + 1) (by simp only [KQ hS7]) (by simp only [LQ]; omega), Option.bind_some, eI_k (j := b + 1) (by simp only [KQ hS7]) (by simp only [LQ]; omega), Option.bind_some, show mI M7 66 (b + 1) = nI (S 2 1) from by rw [← hM7, mI_sI, if_neg (by omega)]; exact p1, nI_add]
  generalize hM15 : sI M7 66 (b + 1) (nI (S 2 1 + bg (G 0 i) (G 4 o))) = M15
  have hS15 : SF M15 := by rw [← hM15]; exact hS7
  simp only [RQ hS15, Option.bind_some]
  rw [aI_k (j := b + 2) (by simp only [KQ hS15]) (by simp only [LQ]; omega), Option.bind_some, eI_k (j := b + 2) (by simp only [KQ hS15]) (by simp only [LQ]; omega), Option.bind_some, show mI M15 66 (b + 2) = nI (S 2 0) from by rw [← hM15, mI_sI, if_neg (by omega), ← hM7, mI_sI, if_neg (by omega)]; exact p2, sh1 o (by omega), or1]
  have ej : ∀ j, mI (sI M15 66 (b + 2) (nI (S 2 0 ||| 2 ^ o))) 66 j = if j = b + 2 then nI (S 2 0 ||| 2 ^ o) else if j = b + 1 then nI (S 2 1 + bg (G 0 i) (G 4 o)) else if j = b + 3 + i then nI (S 0 i - tk (G 0 i) (G 3 o)) else mI M 66 j := by
    intro j
    rw [mI_sI, ← hM15, mI_sI, ← hM7, mI_sI]
    simp only [true_and]
  refine ⟨_, rfl, hS15, by rw [← hM15, ← hM7]; rfl, by rw [← hM15, ← hM7]; rfl, fun x hx => ?_, fun j hj => ?_, ?_, ?_, fun k hk => ⟨?_, ?_⟩⟩
  · rw [mI_sI_row hx, ← hM15, mI_sI_row hx, e7 x hx]
  · rw [ej, if_neg (by omega), if_neg (by omega), if_neg (by omega)]
  · rw [ej, if_neg (by omega), if_pos rfl]; simp [sighed]
  · rw [ej, if_pos rfl]; simp [sighed]
  · rw [ej, if_neg (by omega), if_neg (by omega)]
    by_cases hki : k = i
    · subst hki; rw [if_pos rfl]; simp [sighed]
    · rw [if_neg (by omega), (p3 k hk).1]; simp [sighed, hki]
  · rw [ej, if_neg (by omega), if_neg (by omega), if_neg (by omega), (p3 k hk).2]; simp [sighed]
theorem rests_Y {M : Mem} {r n m : Nat} {G S : Nat → Nat → Nat} (h : Gd M r n m G) (hP : Part (mI M 66) 0 n S) {i : Nat} (hi : i < n) (h9 : S 0 i ≤ 9) : f_X8_rests 65 (nI i) M = some (sI M 66 (3 + i) (nI (if 7 < S 0 i then 9 else S 0 i + 2))) := by
  have hnm := h.nm
  have e : mI M 66 (3 + i) = nI (S 0 i) := by have := (hP.2.2 i hi).1; rw [Nat.zero_add] at this; exact this
  unfold f_X8_rests
  simp only [KQ h.1, RQ h.1, if_true, Option.bind_some, show (3 : Int32) + nI i = nI (3 + i) from nI_add 3 i]
  rw [aI_k (by simp only [KQ h.1]) (by simp only [LQ]; omega), e]
  simp only [Option.bind_some]
  by_cases h7 : 7 < S 0 i
  · rw [if_neg (show ¬ nI (S 0 i) ≤ 7 from nI_ge (a := 7) h7 (by omega)), eI_k (by simp only [KQ h.1]) (by simp only [LQ]; omega), if_pos h7]
    rfl
  · rw [if_pos (show nI (S 0 i) ≤ 7 from nI_le (b := 7) (by omega) (by omega)), eI_k (by simp only [KQ h.1]) (by simp only [LQ]; omega), if_neg h7, show nI (S 0 i) + 2 = nI (S 0 i + 2) from nI_add _ 2]
    rfl
