/-! ===== a guild: what its roll and the model's tables say ===== -/
theorem hs1 : ∀ s, s < 64 → ∀ k, k < 6 → f_X7_holds (nI s) (nI k) = if s.testBit k = true then 1 else 0 := by decide +kernel
theorem hs2 : ∀ s, s < 64 → ∀ k, k < 6 → f_X8_has (nI s) (nI k) = if s.testBit k = true then 1 else 0 := hs1
theorem sh1 : ∀ k, k < 10 → (1 : Int32) <<< (nI k &&& 31) = nI (2 ^ k) := by decide +kernel
theorem or1 (a b : Nat) : nI a ||| nI b = nI (a ||| b) := by
  apply Int32.toBitVec_inj.1
  apply BitVec.eq_of_toNat_eq
  rw [Int32.toBitVec_or, BitVec.toNat_or]
  show a % 2 ^ 32 ||| b % 2 ^ 32 = (a ||| b) % 2 ^ 32
  rw [Nat.or_mod_two_pow]
theorem tdX : ∀ k, k < 6 → ∀ d, d < 10 → f_X7_isTooDeep (nI k) (nI d) = some (if td k d = true then 1 else 0) := by decide +kernel
theorem tdY : ∀ k, k < 6 → ∀ d, d < 10 → f_X8_isTooDeep (nI k) (nI d) = if td k d = true then 1 else 0 := by decide +kernel
theorem tkY : ∀ k, k < 6 → ∀ d, d < 10 → f_X8_takesOf (nI k) (nI d) = nI (tk k d) := by decide +kernel
theorem bgX : ∀ k, k < 6 → ∀ w, w < 10 → f_X7_goldByKind (nI k) (nI w) = nI (bg k w) := by decide +kernel
theorem bgY : ∀ k, k < 6 → ∀ w, w < 10 → f_X8_bringsBy (nI k) (nI w) = nI (bg k w) := by decide +kernel
theorem tk_le : ∀ k, k < 6 → ∀ d, d < 10 → tk k d ≤ 9 := by decide +kernel
theorem bg_le : ∀ k, k < 6 → ∀ w, w < 10 → bg k w ≤ 11 := by decide +kernel
def kof (k w : Nat) : Bool := k == w || (w == 1 && k == 4) || (w == 2 && k == 5) || w == 0
theorem isOfX : ∀ k, k < 6 → ∀ w, w < 6 → f_X7_isOf (nI k) (nI w) = some (if kof k w = true then 1 else 0) := by
  decide +kernel
theorem brX : ∀ k, k < 6 → ∀ d, d < 10 → f_X7_breathByKind (nI k) (nI d) = some (btv k d) := by
  intro k hk d hd
  unfold f_X7_breathByKind
  rw [tdX k hk d hd, show f_X7_isOf (nI k) 3 = _ from isOfX k hk 3 (by decide), show f_X7_isOf (nI k) 1 = _ from isOfX k hk 1 (by decide)]
  simp only [Option.bind_some]
  revert d hd
  revert k hk
  decide +kernel
def Bd (n m : Nat) (S : Nat → Nat → Nat) (q : Nat) : Prop := (∀ i, i < n → S 0 i ≤ 9 ∧ S 1 i ≤ 9) ∧ S 2 0 < 2 ^ m ∧ S 2 1 ≤ 11 * q
def Gd (M : Mem) (r n m : Nat) (G : Nat → Nat → Nat) : Prop := SF M ∧ (r = 4 ∨ r = 13) ∧ mR M 1 2 = r ∧ GsP r (mI M) (mI M 65 1) (mI M 65 4) n m G
theorem Gd.congr {M M' : Mem} {r n m : Nat} {G : Nat → Nat → Nat} (h : Gd M r n m G) (hS : SF M') (hR : mR M' 1 2 = mR M 1 2) (e : ∀ x, (4 ≤ x ∧ x ≤ 21) ∨ (67 ≤ x ∧ x ≤ 71) → mI M' x = mI M x) (e1 : mI M' 65 1 = mI M 65 1) (e4 : mI M' 65 4 = mI M 65 4) : Gd M' r n m G := by
  obtain ⟨h1, h2, h3, h4⟩ := h
  refine ⟨hS, h2, hR.trans h3, ?_⟩
  unfold GsP at h4 ⊢
  rw [e1, e4, e r (by omega), e (r + 1) (by omega), e (r + 2) (by omega), e (r + 3) (by omega), e (r + 4) (by omega), e (r + 5) (by omega), e (r + 6) (by omega), e (r + 7) (by omega), e (r + 8) (by omega), e 67 (by omega), e 68 (by omega), e 69 (by omega), e 70 (by omega), e 71 (by omega)]
  exact h4
theorem rollF {M : Mem} (h : SF M) {r : Nat} (hr : r = 4 ∨ r = 13) : kd M r = 12 ∧ gR M 12 r 2 = some (r + 1) ∧ gR M 12 r 3 = some (r + 2) ∧ gR M 12 r 4 = some (r + 3) ∧ gR M 12 r 5 = some (r + 4) ∧ gR M 12 r 6 = some (r + 5) ∧ gR M 12 r 7 = some (r + 6) ∧ gR M 12 r 8 = some (r + 7) ∧ gR M 12 r 9 = some (r + 8) ∧ kd M (r + 1) = 1 ∧ kd M (r + 2) = 1 ∧ kd M (r + 3) = 1 ∧ kd M (r + 4) = 1 ∧ kd M (r + 5) = 1 ∧ kd M (r + 6) = 1 ∧ kd M (r + 7) = 1 ∧ kd M (r + 8) = 1 := by
  rcases hr with rfl | rfl
  all_goals exact ⟨h.k (by decide +kernel) (by decide), gR_k (h.k (by decide +kernel) (by decide)) (h.r (by decide +kernel)) (by decide), gR_k (h.k (by decide +kernel) (by decide)) (h.r (by decide +kernel)) (by decide), gR_k (h.k (by decide +kernel) (by decide)) (h.r (by decide +kernel)) (by decide), gR_k (h.k (by decide +kernel) (by decide)) (h.r (by decide +kernel)) (by decide), gR_k (h.k (by decide +kernel) (by decide)) (h.r (by decide +kernel)) (by decide), gR_k (h.k (by decide +kernel) (by decide)) (h.r (by decide +kernel)) (by decide), gR_k (h.k (by decide +kernel) (by decide)) (h.r (by decide +kernel)) (by decide), gR_k (h.k (by decide +kernel) (by decide)) (h.r (by decide +kernel)) (by decide), h.k (by decide +kernel) (by decide), h.k (by decide +kernel) (by decide), h.k (by decide +kernel) (by decide), h.k (by decide +kernel) (by decide), h.k (by decide +kernel) (by decide), h.k (by decide +kernel) (by decide), h.k (by decide +kernel) (by decide), h.k (by decide +kernel) (by decide)⟩
theorem rollL {r : Nat} (hr : r = 4 ∨ r = 13) : ln (r + 1) = 5 ∧ ln (r + 2) = 5 ∧ ln (r + 3) = 5 ∧ ln (r + 4) = 6 ∧ ln (r + 5) = 6 ∧ ln (r + 6) = 6 ∧ ln (r + 7) = 30 ∧ ln (r + 8) = 30 := by
  rcases hr with rfl | rfl
  all_goals decide +kernel
theorem Gd.R {M : Mem} {r n m : Nat} {G : Nat → Nat → Nat} (h : Gd M r n m G) : gR M 17 1 2 = some r := by
  obtain ⟨h1, h2, h3, -⟩ := h
  exact gR_k (by simp only [KQ h1]) h3 (by omega)
theorem Gd.nm {M : Mem} {r n m : Nat} {G : Nat → Nat → Nat} (h : Gd M r n m G) : n ≤ 5 ∧ m ≤ 6 ∧ (n = 0 ↔ m = 0) := h.2.2.2.1
theorem Gd.sz {M : Mem} {r n m : Nat} {G : Nat → Nat → Nat} (h : Gd M r n m G) : gI M 12 r 0 = some (nI n) ∧ gI M 12 r 1 = some (nI m) ∧ gI M 18 65 1 = some (nI n) ∧ gI M 18 65 4 = some (nI m) := by
  obtain ⟨h1, h2, h3, h4⟩ := h
  obtain ⟨q1, q2, q3, q4⟩ := h4.2.1
  refine ⟨?_, ?_, ?_, ?_⟩
  · rw [gI_k (rollF h1 h2).1, q3]
  · rw [gI_k (rollF h1 h2).1, q4]
  · rw [gI_k (by simp only [KQ h1]), q1]
  · rw [gI_k (by simp only [KQ h1]), q2]
theorem Gd.s {M : Mem} {r n m : Nat} {G : Nat → Nat → Nat} (h : Gd M r n m G) {i : Nat} (hi : i < n) : (mI M (r + 1) i = nI (G 0 i) ∧ mI M 67 i = nI (G 0 i) ∧ G 0 i < 6) ∧ (mI M (r + 3) i = nI (G 1 i) ∧ mI M 68 i = nI (G 1 i) ∧ G 1 i ≤ 9) ∧ (mI M (r + 2) i = nI (G 5 i) ∧ G 5 i ≤ 9) := h.2.2.2.2.2.1 i hi
theorem Gd.o {M : Mem} {r n m : Nat} {G : Nat → Nat → Nat} (h : Gd M r n m G) {o : Nat} (ho : o < m) : (mI M (r + 4) o = nI (G 2 o) ∧ mI M 69 o = nI (G 2 o) ∧ G 2 o ≤ 9) ∧ (mI M (r + 5) o = nI (G 3 o) ∧ mI M 70 o = nI (G 3 o) ∧ 1 ≤ G 3 o ∧ G 3 o ≤ 9) ∧ (mI M (r + 6) o = nI (G 4 o) ∧ mI M 71 o = nI (G 4 o) ∧ G 4 o ≤ 9) := h.2.2.2.2.2.2.1 o ho
theorem Gd.t {M : Mem} {r n m : Nat} {G : Nat → Nat → Nat} (h : Gd M r n m G) {i o : Nat} (hi : i < n) (ho : o < m) : mI M (r + 7) (6 * i + o) = btv (G 0 i) (G 3 o) ∧ mI M (r + 8) (6 * i + o) = nI (bg (G 0 i) (G 4 o)) := h.2.2.2.2.2.2.2 i o hi ho
-- the class
theorem hasS_bad {M : Mem} {r n m : Nat} {G : Nat → Nat → Nat} (h : Gd M r n m G) {x : Int32} (hx : x < 0 ∨ nI n ≤ x) : f_X2_hasSigher r x M = some 0 := by
  unfold f_X2_hasSigher
  simp only [(rollF h.1 h.2.1).1, if_true, h.sz, Option.bind_some]
  by_cases q : x < 0
  · simp only [if_pos q]
  · simp only [if_neg q, if_pos (hx.resolve_left q)]
theorem hasS_ok {M : Mem} {r n m : Nat} {G : Nat → Nat → Nat} (h : Gd M r n m G) {i : Nat} (hi : i < n) : f_X2_hasSigher r (nI i) M = some 1 := by
  have := h.nm
  unfold f_X2_hasSigher
  simp only [(rollF h.1 h.2.1).1, if_true, h.sz, Option.bind_some, if_neg (nI_pos (show i < 2 ^ 31 by omega)), if_neg (nI_ge hi (show n < 2 ^ 31 by omega))]
theorem hasO_bad {M : Mem} {r n m : Nat} {G : Nat → Nat → Nat} (h : Gd M r n m G) {x : Int32} (hx : x < 0 ∨ nI m ≤ x) : f_X2_hasOrder r x M = some 0 := by
  unfold f_X2_hasOrder
  simp only [(rollF h.1 h.2.1).1, if_true, h.sz, Option.bind_some]
  by_cases q : x < 0
  · simp only [if_pos q]
  · simp only [if_neg q, if_pos (hx.resolve_left q)]
theorem hasO_ok {M : Mem} {r n m : Nat} {G : Nat → Nat → Nat} (h : Gd M r n m G) {o : Nat} (ho : o < m) : f_X2_hasOrder r (nI o) M = some 1 := by
  have := h.nm
  unfold f_X2_hasOrder
  simp only [(rollF h.1 h.2.1).1, if_true, h.sz, Option.bind_some, if_neg (nI_pos (show o < 2 ^ 31 by omega)), if_neg (nI_ge ho (show m < 2 ^ 31 by omega))]
theorem m6 (i o : Nat) : nI i * 6 + nI o = nI (6 * i + o) := by
  rw [show (6 : Int32) = nI 6 from rfl, pk_mul, nI_add, Nat.mul_comm]
theorem brF {M : Mem} {r n m : Nat} {G : Nat → Nat → Nat} (h : Gd M r n m G) {i o : Nat} (hi : i < n) (ho : o < m) : f_X2_breathFor r (nI i) (nI o) M = some (btv (G 0 i) (G 3 o)) := by
  have := h.nm
  unfold f_X2_breathFor
  simp only [rollF h.1 h.2.1, if_true, hasS_ok h hi, hasO_ok h ho, Option.bind_some, show ¬ (1 : Int32) = 0 by decide, if_false, m6]
  rw [aI_k (by simp only [rollF h.1 h.2.1]) (by simp only [rollL h.2.1]; omega), (h.t hi ho).1]
  rfl
theorem goF {M : Mem} {r n m : Nat} {G : Nat → Nat → Nat} (h : Gd M r n m G) {i o : Nat} (hi : i < n) (ho : o < m) : f_X2_goldFor r (nI i) (nI o) M = some (nI (bg (G 0 i) (G 4 o))) := by
  have := h.nm
  unfold f_X2_goldFor
  simp only [rollF h.1 h.2.1, if_true, hasS_ok h hi, hasO_ok h ho, Option.bind_some, show ¬ (1 : Int32) = 0 by decide, if_false, m6]
  rw [aI_k (by simp only [rollF h.1 h.2.1]) (by simp only [rollL h.2.1]; omega), (h.t hi ho).2]
  rfl
theorem stF {M : Mem} (h : SF M) {t : Nat} (ht : t = 22 ∨ t = 25) : kd M t = 16 ∧ gR M 16 t 0 = some (t + 1) ∧ gR M 16 t 1 = some (t + 2) ∧ kd M (t + 1) = 1 ∧ kd M (t + 2) = 1 ∧ ln (t + 1) = 5 ∧ ln (t + 2) = 5 := by
  rcases ht with rfl | rfl
  all_goals exact ⟨h.k (by decide +kernel) (by decide), gR_k (h.k (by decide +kernel) (by decide)) (h.r (by decide +kernel)) (by decide), gR_k (h.k (by decide +kernel) (by decide)) (h.r (by decide +kernel)) (by decide), h.k (by decide +kernel) (by decide), h.k (by decide +kernel) (by decide), by decide +kernel, by decide +kernel⟩
theorem lt64 {m x : Nat} (hm : m ≤ 6) (h : x < 2 ^ m) : x < 64 := Nat.lt_of_lt_of_le h (Nat.pow_le_pow_right (by decide) hm)
theorem isDone_X {M : Mem} (h : SF M) {t : Nat} (ht : t = 22 ∨ t = 25) {x o : Nat} (hx : mI M t 2 = nI x) (h64 : x < 64) (ho : o < 6) : f_X6_isDone t (nI o) M = some (if x.testBit o = true then 1 else 0) := by
  unfold f_X6_isDone
  simp only [stF h ht, if_true, gI_k, hx, Option.bind_some, hs1 x h64 o ho, bz_ite]
theorem btv_n : ∀ k, k < 6 → ∀ d, d < 10 → (btv k d = -9) = (td k d = true) := by
  intro k hk d hd
  apply propext
  revert d hd
  revert k hk
  decide +kernel
theorem able_X {M : Mem} {r n m : Nat} {G S : Nat → Nat → Nat} (h : Gd M r n m G) {t : Nat} (ht : t = 22 ∨ t = 25) (hN : NwP n S (mI M t) (mI M (t + 1)) (mI M (t + 2))) (h6 : S 2 0 < 64) {i o : Nat} (hi : i < n) (ho : o < m) (h9 : S 0 i ≤ 9) : f_X6_isAble t r (nI i) (nI o) M = some (if can G S i o = true then 1 else 0) := by
  have hnm := h.nm
  have hk := (h.s hi).1.2.2
  have hd := (h.o ho).2.1.2.2.2
  have htk := tk_le _ hk (G 3 o) (by omega)
  unfold f_X6_isAble can
  simp only [stF h.1 ht, if_true, hasS_ok h hi, Option.bind_some, show ¬ (1 : Int32) = 0 by decide, if_false, isDone_X h.1 ht hN.1 h6 (show o < 6 by omega), brF h hi ho]
  by_cases h1 : (S 2 0).testBit o = true
  · simp [h1]
  · simp only [h1, if_false, if_true]
    have hb : (btv (G 0 i) (G 3 o) = -9) ↔ (td (G 0 i) (G 3 o) = true) := Iff.of_eq (btv_n _ hk _ (show G 3 o < 10 by omega))
    by_cases h2 : td (G 0 i) (G 3 o) = true
    · rw [if_pos (hb.mpr h2)]; simp [h2]
    · rw [if_neg (fun q => h2 (hb.mp q)), aI_k (by simp only [stF h.1 ht]) (by simp only [stF h.1 ht]; omega), (hN.2.2 i hi).1, btv, if_neg h2]
      simp only [Option.bind_some]
      by_cases h3 : tk (G 0 i) (G 3 o) ≤ S 0 i
      · rw [if_neg (nI_nlt h3 (by omega))]; simp [h1, h2, h3]
      · rw [if_pos (nI_lt (by omega) (by omega))]; simp [h3]
-- the model
theorem in0 {x : Int32} {n : Nat} (hn : n < 2 ^ 30) (hx : x < 0 ∨ nI n ≤ x) : f_X8_in (Int32.toInt64 x) 0 (Int32.toInt64 (nI n - 1)) = 0 := by
  rw [in_i, if_neg]
  rw [Int32.lt_iff_toInt_lt, Int32.le_iff_toInt_le, nI_toInt (show n < 2 ^ 31 by omega), show (0 : Int32).toInt = 0 from rfl] at hx
  rw [Int32.toInt_toInt64, show (nI n - 1).toInt = (n : Int) - 1 from pk_sub_toInt (b := 1) (by omega) (by decide), show (0 : Int64).toInt = 0 from rfl]
  omega
theorem in1 {n j : Nat} (hn : n < 2 ^ 30) (hj : j < n) : f_X8_in (Int32.toInt64 (nI j)) 0 (Int32.toInt64 (nI n - 1)) = 1 := by
  rw [in_i, if_pos]
  rw [Int32.toInt_toInt64, show (nI n - 1).toInt = (n : Int) - 1 from pk_sub_toInt (b := 1) (by omega) (by decide), nI_toInt (by omega), show (0 : Int64).toInt = 0 from rfl]
  omega
theorem isS_bad {M : Mem} {r n m : Nat} {G : Nat → Nat → Nat} (h : Gd M r n m G) {x : Int32} (hx : x < 0 ∨ nI n ≤ x) : f_X8_isSigher 65 x M = some 0 := by
  have := h.nm
  unfold f_X8_isSigher
  simp only [KQ h.1, if_true, h.sz, Option.bind_some, in0 (show n < 2 ^ 30 by omega) hx]
  rfl
theorem isS_ok {M : Mem} {r n m : Nat} {G : Nat → Nat → Nat} (h : Gd M r n m G) {i : Nat} (hi : i < n) : f_X8_isSigher 65 (nI i) M = some 1 := by
  have := h.nm
  unfold f_X8_isSigher
  simp only [KQ h.1, if_true, h.sz, Option.bind_some, in1 (show n < 2 ^ 30 by omega) hi]
  rfl
theorem isO_bad {M : Mem} {r n m : Nat} {G : Nat → Nat → Nat} (h : Gd M r n m G) {x : Int32} (hx : x < 0 ∨ nI m ≤ x) : f_X8_isOrder 65 x M = some 0 := by
  have := h.nm
  unfold f_X8_isOrder
  simp only [KQ h.1, if_true, h.sz, Option.bind_some, in0 (show m < 2 ^ 30 by omega) hx]
  rfl
theorem isO_ok {M : Mem} {r n m : Nat} {G : Nat → Nat → Nat} (h : Gd M r n m G) {o : Nat} (ho : o < m) : f_X8_isOrder 65 (nI o) M = some 1 := by
  have := h.nm
  unfold f_X8_isOrder
  simp only [KQ h.1, if_true, h.sz, Option.bind_some, in1 (show m < 2 ^ 30 by omega) ho]
  rfl
theorem mtab {M : Mem} {r n m : Nat} {G : Nat → Nat → Nat} (h : Gd M r n m G) : (∀ i, i < n → aI M 67 (nI i) = some (nI (G 0 i)) ∧ aI M 68 (nI i) = some (nI (G 1 i))) ∧ ∀ o, o < m → aI M 69 (nI o) = some (nI (G 2 o)) ∧ aI M 70 (nI o) = some (nI (G 3 o)) ∧ aI M 71 (nI o) = some (nI (G 4 o)) := by
  have := h.nm
  refine ⟨fun i hi => ⟨?_, ?_⟩, fun o ho => ⟨?_, ?_, ?_⟩⟩
  · rw [aI_k (by simp only [KQ h.1]) (by simp only [LQ]; omega), (h.s hi).1.2.1]
  · rw [aI_k (by simp only [KQ h.1]) (by simp only [LQ]; omega), (h.s hi).2.1.2.1]
  · rw [aI_k (by simp only [KQ h.1]) (by simp only [LQ]; omega), (h.o ho).1.2.1]
  · rw [aI_k (by simp only [KQ h.1]) (by simp only [LQ]; omega), (h.o ho).2.1.2.1]
  · rw [aI_k (by simp only [KQ h.1]) (by simp only [LQ]; omega), (h.o ho).2.2.2.1]
theorem ctab {M : Mem} {r n m : Nat} {G : Nat → Nat → Nat} (h : Gd M r n m G) : (∀ i, i < n → aI M (r + 1) (nI i) = some (nI (G 0 i)) ∧ aI M (r + 3) (nI i) = some (nI (G 1 i))) ∧ ∀ o, o < m → aI M (r + 4) (nI o) = some (nI (G 2 o)) ∧ aI M (r + 5) (nI o) = some (nI (G 3 o)) ∧ aI M (r + 6) (nI o) = some (nI (G 4 o)) := by
  have := h.nm
  refine ⟨fun i hi => ⟨?_, ?_⟩, fun o ho => ⟨?_, ?_, ?_⟩⟩
  · rw [aI_k (by simp only [rollF h.1 h.2.1]) (by simp only [rollL h.2.1]; omega), (h.s hi).1.1]
  · rw [aI_k (by simp only [rollF h.1 h.2.1]) (by simp only [rollL h.2.1]; omega), (h.s hi).2.1.1]
  · rw [aI_k (by simp only [rollF h.1 h.2.1]) (by simp only [rollL h.2.1]; omega), (h.o ho).1.1]
  · rw [aI_k (by simp only [rollF h.1 h.2.1]) (by simp only [rollL h.2.1]; omega), (h.o ho).2.1.1]
  · rw [aI_k (by simp only [rollF h.1 h.2.1]) (by simp only [rollL h.2.1]; omega), (h.o ho).2.2.1]
theorem tkn {M : Mem} {r n m : Nat} {G : Nat → Nat → Nat} (h : Gd M r n m G) {i o : Nat} (hi : i < n) (ho : o < m) : f_X8_taken 65 (nI i) (nI o) M = some (nI (tk (G 0 i) (G 3 o))) := by
  have hd := (h.o ho).2.1.2.2.2
  unfold f_X8_taken
  simp only [KQ h.1, RQ h.1, if_true, Option.bind_some, (mtab h).1 i hi, (mtab h).2 o ho, tkY _ (h.s hi).1.2.2 _ (show G 3 o < 10 by omega)]
theorem brt {M : Mem} {r n m : Nat} {G : Nat → Nat → Nat} (h : Gd M r n m G) {i o : Nat} (hi : i < n) (ho : o < m) : f_X8_brought 65 (nI i) (nI o) M = some (nI (bg (G 0 i) (G 4 o))) := by
  have hd := (h.o ho).2.2.2.2
  unfold f_X8_brought
  simp only [KQ h.1, RQ h.1, if_true, Option.bind_some, (mtab h).1 i hi, (mtab h).2 o ho, bgY _ (h.s hi).1.2.2 _ (show G 4 o < 10 by omega)]
theorem can_Y {M : Mem} {r n m : Nat} {G S : Nat → Nat → Nat} (h : Gd M r n m G) {b : Nat} (hb : b ≤ 1985) (hP : Part (mI M 66) b n S) (h6 : S 2 0 < 64) {i o : Nat} (hi : i < n) (ho : o < m) (h9 : S 0 i ≤ 9) : f_X8_can 65 (nI b) (nI i) (nI o) M = some (if can G S i o = true then 1 else 0) := by
  have hnm := h.nm
  have hk := (h.s hi).1.2.2
  have hd := (h.o ho).2.1.2.2.2
  have htk := tk_le _ hk (G 3 o) (by omega)
  unfold f_X8_can can
  simp only [KQ h.1, RQ h.1, if_true, Option.bind_some, show nI b + (2 : Int32) = nI (b + 2) from nI_add b 2, show nI b + (3 : Int32) = nI (b + 3) from nI_add b 3, nI_add]
  rw [aI_k (j := b + 2) (by simp only [KQ h.1]) (by simp only [LQ]; omega), hP.2.1]
  simp only [Option.bind_some, hs2 _ h6 o (show o < 6 by omega)]
  by_cases h1 : (S 2 0).testBit o = true
  · simp [h1]
  · simp only [h1, if_false, Bool.false_eq_true, if_true, (mtab h).1 i hi, (mtab h).2 o ho, Option.bind_some, tdY _ hk _ (show G 3 o < 10 by omega), tkn h hi ho]
    by_cases h2 : td (G 0 i) (G 3 o) = true
    · simp [h2]
    · rw [aI_k (by simp only [KQ h.1]) (by simp only [LQ]; omega), (hP.2.2 i hi).1]
      simp only [h2, if_false, Bool.false_eq_true, if_true, Option.bind_some]
      by_cases h3 : tk (G 0 i) (G 3 o) ≤ S 0 i
      · rw [if_neg (nI_nlt h3 (by omega))]; simp [h3]
      · rw [if_pos (nI_lt (by omega) (by omega))]; simp [h3]
