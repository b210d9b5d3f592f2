/-! ===== give(), most(): the class ===== -/
theorem ad1 (x : Int32) : x + (-1) = x - 1 := (Int32.sub_eq_add_neg x 1).symm
theorem t1M {b : Nat} (hb : b < 1000) : (nI b - 1).toInt = (b : Int) - 1 := pk_sub_toInt (b := 1) (by omega) (by decide)
theorem ltM {a b : Nat} (ha : a < 1000) (hb : b < 1000) : (nI b - 1 < nI a) ↔ b < a + 1 := by
  rw [Int32.lt_iff_toInt_lt, nI_toInt (by omega), t1M hb]; omega
theorem leM2 {a b : Nat} (ha : a < 1000) (hb : b < 1000) : (nI b - 1 ≤ nI a) ↔ b ≤ a + 1 := by
  rw [Int32.le_iff_toInt_le, nI_toInt (by omega), t1M hb]; omega
theorem ltM3 {a b : Nat} (ha : a < 1000) (hb : b < 1000) : (nI a < nI b - 1) ↔ a + 1 < b := by
  rw [Int32.lt_iff_toInt_lt, nI_toInt (by omega), t1M hb]; omega
theorem s1 (a : Nat) : nI (a + 1) - 1 = nI a := pk_sub (a := a + 1) (b := 1) (by omega)
theorem mxM {a b : Nat} (ha : a < 900) (hb : b < 900) : f_J9_max_7cf53 (nI b - 1) (nI a) = nI (max b (a + 1)) - 1 := by
  unfold f_J9_max_7cf53
  by_cases q : b < a + 1
  · rw [if_pos ((ltM (by omega) (by omega)).mpr q), Nat.max_eq_right (by omega), s1]
  · rw [if_neg (fun w => q ((ltM (by omega) (by omega)).mp w)), Nat.max_eq_left (by omega)]
def Gx (r D e : Nat) (M : Mem) : Prop := mR M 31 3 = r ∧ mI M 31 4 = nI D ∧ mI M 31 5 = nI e
def Sp (n : Nat) (S : Nat → Nat → Nat) (M : Mem) : Prop := ∀ i, i < n → mI M 33 i = nI (S 0 i)
def FrV (M N : Mem) : Prop := SF N ∧ mR N = mR M ∧ mL N = mL M ∧ (∀ x, x < 31 ∨ 33 < x → mI N x = mI M x) ∧ ∀ j, j ≠ 6 → mI N 31 j = mI M 31 j
theorem FrV.tr {A B C : Mem} (h1 : FrV A B) (h2 : FrV B C) : FrV A C := ⟨h2.1, h2.2.1.trans h1.2.1, h2.2.2.1.trans h1.2.2.1, fun x hx => (h2.2.2.2.1 x hx).trans (h1.2.2.2.1 x hx), fun j hj => (h2.2.2.2.2 j hj).trans (h1.2.2.2.2 j hj)⟩
theorem FrV.id {M : Mem} (h : SF M) : FrV M M := ⟨h, rfl, rfl, fun _ _ => rfl, fun _ _ => rfl⟩
theorem FrV.g {M N : Mem} {r n m : Nat} {G : Nat → Nat → Nat} (h : FrV M N) (hG : Gd M r n m G) : Gd N r n m G := hG.congr h.1 (by rw [h.2.1]) (fun x hx => h.2.2.2.1 x (by omega)) (by rw [h.2.2.2.1 65 (by omega)]) (by rw [h.2.2.2.1 65 (by omega)])
theorem FrV.x {M N : Mem} {r D e : Nat} (h : FrV M N) (hx : Gx r D e M) : Gx r D e N := ⟨by rw [h.2.1]; exact hx.1, by rw [h.2.2.2.2 4 (by decide)]; exact hx.2.1, by rw [h.2.2.2.2 5 (by decide)]; exact hx.2.2⟩
theorem FrV.sp {M : Mem} (h : SF M) {j : Nat} (v : Int32) : FrV M (sI M 33 j v) := ⟨h, rfl, rfl, fun x hx => mI_sI_row (by omega), fun k _ => by rw [mI_sI_row (by decide)]⟩
theorem FrV.ch {M : Mem} (h : SF M) {j : Nat} (v : Int32) : FrV M (sI M 32 j v) := ⟨h, rfl, rfl, fun x hx => mI_sI_row (by omega), fun k _ => by rw [mI_sI_row (by decide)]⟩
theorem FrV.be {M : Mem} (h : SF M) (v : Int32) : FrV M (sI M 31 6 v) := ⟨h, rfl, rfl, fun x hx => mI_sI_row (by omega), fun k hk => by rw [mI_sI, if_neg (fun w => hk w.2)]⟩
theorem Gx.r {M : Mem} {r D e : Nat} (h : SF M) (hr : r = 4 ∨ r = 13) (hx : Gx r D e M) : gR M 11 31 3 = some r := gR_k (by simp only [KQ h]) hx.1 (by omega)
theorem fits_X {M : Mem} {r n m : Nat} {G S : Nat → Nat → Nat} {D e : Nat} (h : Gd M r n m G) (hx : Gx r D e M) (hs : Sp n S M) (hD : D < 64) {i o : Nat} (hi : i < n) (ho : o < m) (h9 : S 0 i ≤ 9) (hb : (S 2 0).testBit o = D.testBit o) : f_X1_fits 31 (nI i) (nI o) M = some (if can G S i o = true then 1 else 0) := by
  have hnm := h.nm
  have hk6 := (h.s hi).1.2.2
  have hd := (h.o ho).2.1.2.2
  have ht9 := tk_le _ hk6 (G 3 o) (by omega)
  unfold f_X1_fits
  rw [if_pos (by simp only [KQ h.1]), hx.r h.1 h.2.1]
  simp only [Option.bind_some, hasS_ok h hi, show ¬ (1 : Int32) = 0 by decide, if_false, KQ h.1, gI_k, hx.2.1, hs1 D hD o (show o < 6 by omega), brF h hi ho, RQ h.1]
  rw [aI_k (x := 33) (by simp only [KQ h.1]) (by simp only [LQ]; omega), Option.bind_some, hs i hi]
  unfold can
  rw [hb]
  by_cases o1 : D.testBit o = true
  · simp [o1]
  · rw [if_neg o1, if_pos rfl]
    have hbt := btv_n _ hk6 (G 3 o) (by omega)
    by_cases o2 : td (G 0 i) (G 3 o) = true
    · rw [if_pos (by rw [hbt]; exact o2)]; simp [o2]
    · rw [if_neg (by rw [hbt]; exact o2)]
      have hbv : btv (G 0 i) (G 3 o) = nI (tk (G 0 i) (G 3 o)) := by unfold btv; rw [if_neg o2]
      rw [hbv]
      by_cases o3 : tk (G 0 i) (G 3 o) ≤ S 0 i
      · rw [if_neg (nI_nlt o3 (by omega))]; simp [o1, o2, o3]
      · rw [if_pos (nI_lt (by omega) (by omega))]; simp [o3]
theorem fits_no {M : Mem} {r n m : Nat} {G : Nat → Nat → Nat} {D e : Nat} (h : Gd M r n m G) (hx : Gx r D e M) {i o : Nat} (hi : n ≤ i) (hi5 : i < 5) : f_X1_fits 31 (nI i) (nI o) M = some 0 := by
  unfold f_X1_fits
  rw [if_pos (by simp only [KQ h.1]), hx.r h.1 h.2.1]
  simp only [Option.bind_some, hasS_bad h (Or.inr (nI_le hi (show i < 2 ^ 31 by omega))), if_true]
theorem fits_no2 {M : Mem} {r n m : Nat} {G : Nat → Nat → Nat} {D e : Nat} (h : Gd M r n m G) (hx : Gx r D e M) (hD : D < 2 ^ m) {i o : Nat} (hi : i < n) (ho : m ≤ o) (ho6 : o < 6) : f_X1_fits 31 (nI i) (nI o) M = some 0 := by
  have hnm := h.nm
  have hb : D.testBit o = false := Nat.testBit_lt_two_pow (Nat.lt_of_lt_of_le hD (Nat.pow_le_pow_right (by decide) ho))
  have hbr : f_X2_breathFor r (nI i) (nI o) M = some (-9) := by
    unfold f_X2_breathFor
    simp only [rollF h.1 h.2.1, if_true, hasS_ok h hi, hasO_bad h (Or.inr (nI_le ho (show o < 2 ^ 31 by omega))), Option.bind_some, show ¬ (1 : Int32) = 0 by decide, if_false]
  unfold f_X1_fits
  rw [if_pos (by simp only [KQ h.1]), hx.r h.1 h.2.1]
  simp only [Option.bind_some, hasS_ok h hi, show ¬ (1 : Int32) = 0 by decide, if_false, KQ h.1, gI_k, hx.2.1, hs1 D (lt64 hnm.2.1 hD) o ho6, hb, Bool.false_eq_true, if_true, hbr]
theorem worth_X {M : Mem} {r n m : Nat} {G : Nat → Nat → Nat} {D e : Nat} (h : Gd M r n m G) (hx : Gx r D e M) (he : e ≤ 1) {i o : Nat} (hi : i < n) (ho : o < m) : f_X1_worth 31 (nI i) (nI o) M = some (nI (wo G e i o)) := by
  unfold f_X1_worth wo
  rw [if_pos (by simp only [KQ h.1]), gI_k (by simp only [KQ h.1]), Option.bind_some, hx.2.2]
  by_cases q : e = 0
  · rw [if_pos (by rw [q]; rfl), if_pos q]; rfl
  · rw [if_neg (n0 q (by omega)), if_neg q, hx.r h.1 h.2.1]
    simp only [Option.bind_some, goF h hi ho]
/-- the bounds -/
def FrB (M N : Mem) : Prop := SF N ∧ mR N = mR M ∧ mL N = mL M ∧ ∀ x, x ≠ 34 → mI N x = mI M x
theorem FrB.g {M N : Mem} {r n m : Nat} {G : Nat → Nat → Nat} (h : FrB M N) (hG : Gd M r n m G) : Gd N r n m G := hG.congr h.1 (by rw [h.2.1]) (fun x hx => h.2.2.2 x (by omega)) (by rw [h.2.2.2 65 (by decide)]) (by rw [h.2.2.2 65 (by decide)])
theorem FrB.x {M N : Mem} {r D e : Nat} (h : FrB M N) (hx : Gx r D e M) : Gx r D e N := ⟨by rw [h.2.1]; exact hx.1, by rw [h.2.2.2 31 (by decide)]; exact hx.2.1, by rw [h.2.2.2 31 (by decide)]; exact hx.2.2⟩
def tq (G S0 : Nat → Nat → Nat) (n m e o : Nat) : Nat := if o < m then tp G S0 n e o else 0
theorem tq_it {G S0 : Nat → Nat → Nat} {n m e o : Nat} (hn : n ≤ 5) : iter (fun i t => if i < n ∧ o < m ∧ can G S0 i o = true then max t (wo G e i o) else t) 0 5 0 = tq G S0 n m e o := by
  unfold tq
  by_cases ho : o < m
  · rw [if_pos ho, show 5 = n + (5 - n) by omega, iter_add, iter_id (f := fun i t => if i < n ∧ o < m ∧ can G S0 i o = true then max t (wo G e i o) else t) (5 - n) (0 + n) _ (fun i q1 q2 => if_neg (fun w => by have := w.1; omega))]
    unfold tp
    refine iter_congr n 0 0 (fun i t q1 q2 => ?_)
    by_cases c : can G S0 i o = true
    · rw [if_pos c, if_pos ⟨by omega, ho, c⟩]
    · rw [if_neg c, if_neg (fun w => c w.2.2)]
  · rw [if_neg ho]
    exact iter_id 5 0 0 (fun i _ _ => if_neg (fun w => ho w.2.1))
theorem bd_tq {G S0 : Nat → Nat → Nat} {n m e o : Nat} : bd G S0 n e (m - o) o = bd G S0 n e (m - (o + 1)) (o + 1) + tq G S0 n m e o := by
  unfold tq
  by_cases ho : o < m
  · rw [if_pos ho, show m - o = (m - (o + 1)) + 1 by omega]; rfl
  · rw [if_neg ho, show m - o = 0 by omega, show m - (o + 1) = 0 by omega]; rfl
theorem setB_X {M : Mem} {r n m : Nat} {G S0 : Nat → Nat → Nat} {D e : Nat} (h : Gd M r n m G) (hx : Gx r D e M) (he : e ≤ 1) (hs : Sp n S0 M) (hD : S0 2 0 = D) (hDm : D < 2 ^ m) (h9 : ∀ i, i < n → S0 0 i ≤ 9) : ∃ M', f_X1_setBounds 31 M = some M' ∧ FrB M M' ∧ ∀ o, o ≤ m → mI M' 34 o = nI (bd G S0 n e (m - o) o) := by
  have hnm := h.nm
  have hD64 := lt64 hnm.2.1 hDm
  unfold f_X1_setBounds
  simp only [KQ h.1, if_true, RQ h.1, Option.bind_some]
  rw [fillI (by simp only [KQ h.1]), Option.bind_some]
  simp only [LQ]
  have key : ∀ q fu X, q ≤ 6 → q < fu → FrB M X → (∀ j, q ≤ j → j ≤ 6 → mI X 34 j = nI (bd G S0 n e (m - j) j)) → ∃ X', f_X1_setBounds_10 fu 31 (nI q - 1) X = some X' ∧ FrB M X' ∧ ∀ j, j ≤ 6 → mI X' 34 j = nI (bd G S0 n e (m - j) j) := by
    intro q
    induction q with
    | zero =>
      intro fu X _ hfu hF hb
      obtain ⟨fu, rfl⟩ : ∃ g, fu = g + 1 := ⟨fu - 1, by omega⟩
      refine ⟨X, ?_, hF, fun j hj => hb j (by omega) hj⟩
      simp only [f_X1_setBounds_10]
      rw [if_pos (by decide)]
    | succ o ih =>
      intro fu X hq hfu hF hb
      obtain ⟨fu, rfl⟩ : ∃ g, fu = g + 1 := ⟨fu - 1, by omega⟩
      have hGX := hF.g h
      have hxX := hF.x hx
      have hsX : Sp n S0 X := fun i hi => by rw [hF.2.2.2 33 (by decide)]; exact hs i hi
      simp only [f_X1_setBounds_10]
      rw [s1, if_neg (nI_pos (by omega))]
      have lp := lp_up (F := fun fv i (t : Nat) => f_X1_setBounds_18 (f_X1_setBounds_10 fu) fv 31 (nI o) (nI t) (nI i) X) 5 (fun t => f_X1_setBounds_10 fu 31 (nI o - 1) (sI X 34 o (nI (bd G S0 n e (m - (o + 1)) (o + 1) + t)))) (fun i t => if i < n ∧ o < m ∧ can G S0 i o = true then max t (wo G e i o) else t) (fun _ t => t ≤ 11)
        (fun fv t hI => by
          simp only [f_X1_setBounds_18, RQ hGX.1, Option.bind_some]
          rw [if_pos (show (5 : Int32) ≤ nI 5 from Int32.le_refl _), nI_1, aI_k (x := 34) (by simp only [KQ hGX.1]) (by simp only [LQ]; omega), Option.bind_some, hb (o + 1) (by omega) (by omega), nI_add, eI_k (x := 34) (by simp only [KQ hGX.1]) (by simp only [LQ]; omega), Option.bind_some, ad1])
        (fun fv i t hi hI => by
          simp only [f_X1_setBounds_18]
          rw [if_neg (show ¬ (5 : Int32) ≤ nI i from nI_ge (b := 5) hi (by decide))]
          by_cases q1 : i < n
          · by_cases q2 : o < m
            · rw [fits_X hGX hxX hsX hD64 q1 q2 (h9 i q1) (by rw [hD]), Option.bind_some]
              by_cases q3 : can G S0 i o = true
              · have hw := wo_le h (e := e) q1 q2
                rw [if_pos q3, if_neg (show ¬ (1 : Int32) = 0 by decide), worth_X hGX hxX he q1 q2, Option.bind_some, if_pos ⟨q1, q2, q3⟩, mxI (by omega) (by omega), nI_1]
                exact ⟨rfl, Nat.max_le.mpr ⟨hI, hw⟩⟩
              · rw [if_neg q3, if_pos rfl, if_neg (fun w => q3 w.2.2), nI_1]
                exact ⟨rfl, hI⟩
            · rw [fits_no2 hGX hxX hDm q1 (by omega) (by omega), Option.bind_some, if_pos rfl, if_neg (fun w => q2 w.2.1), nI_1]
              exact ⟨rfl, hI⟩
          · rw [fits_no hGX hxX (by omega) hi, Option.bind_some, if_pos rfl, if_neg (fun w => q1 w.1), nI_1]
            exact ⟨rfl, hI⟩)
        5 FU 0 0 (by omega) (by unfold FU; omega) (Nat.zero_le _)
      rw [tq_it hnm.1, ← bd_tq] at lp
      have hF2 : FrB M (sI X 34 o (nI (bd G S0 n e (m - o) o))) := ⟨hF.1, hF.2.1, hF.2.2.1, fun x hx => by rw [mI_sI_row hx]; exact hF.2.2.2 x hx⟩
      obtain ⟨X', y1, y2⟩ := ih fu _ (by omega) (by omega) hF2 (fun j q1 q2 => by
        rw [mI_sI]
        by_cases c : j = o
        · rw [if_pos ⟨rfl, c⟩, c]
        · rw [if_neg (fun w => c w.2)]; exact hb j (by omega) q2)
      exact ⟨X', (show f_X1_setBounds_18 (f_X1_setBounds_10 fu) FU 31 (nI o) 0 0 X = _ from lp.1).trans y1, y2⟩
  obtain ⟨M', y1, y2, y3⟩ := key 6 FU (sW M 34 (fun j => if j < 7 then 0 else mI M 34 j)) (by decide) (by unfold FU; omega) ⟨h.1, rfl, rfl, fun x hx => mI_ne hx⟩ (fun j q1 q2 => by
    have hj : j = 6 := by omega
    subst hj
    rw [mI_eq, if_pos (by decide), show m - 6 = 0 by omega]; rfl)
  exact ⟨M', y1, y2, fun o ho => y3 o (by omega)⟩
