/-- a reference is put, which isn't null -/
def pN (M : Mem) (c x j v : Nat) : Option Mem := if v = 0 then none else pR M c x j v
theorem pN_spec {M M' : Mem} {c x j v : Nat} (h : pN M c x j v = some M') : v ≠ 0 ∧ pR M c x j v = some M' := by
  unfold pN at h
  by_cases h0 : v = 0
  · rw [if_pos h0] at h; cases h
  · rw [if_neg h0] at h; exact ⟨h0, h⟩
theorem ck {α : Type} {M : Mem} {x c : Nat} {a : Option α} {r : α} (h : (if kd M x = c then a else none) = some r) : kd M x = c := by
  by_cases hk : kd M x = c
  · exact hk
  · rw [if_neg hk] at h; cases h
theorem aR_nz {M : Mem} {k x : Nat} {i : Int32} {v : Nat} (h : aR M k x i = some v) : v ≠ 0 := by
  unfold aR at h
  by_cases hk : okB M k x i = true ∧ mR M x i.toNatClampNeg ≠ 0
  · rw [if_pos hk] at h
    rw [← Option.some.inj h]
    exact hk.2
  · rw [if_neg hk] at h; cases h
theorem bz_self {v b : Int32} (h : bz v = some b) : bz v = some v := by
  unfold bz at h ⊢
  by_cases hk : v = 0 ∨ v = 1
  · rw [if_pos hk]
  · rw [if_neg hk] at h; cases h
theorem bz_nf {v b : Int32} (h : bz v = some b) : narrow .boolean (.int v) = .int v ∧ fits .boolean (.int v) = true := by
  unfold bz at h
  by_cases hk : v = 0 ∨ v = 1
  · rcases hk with rfl | rfl
    · exact ⟨rfl, rfl⟩
    · exact ⟨rfl, rfl⟩
  · rw [if_neg hk] at h; cases h
def f_J6_bitCount_0f7a4  (x0 : Int32) : Int32 :=
  ((((((((x0 - ((Int32.toUInt32 x0 >>> (Int32.toUInt32 1 &&& Int32.toUInt32 31)).toInt32 &&& 1431655765)) &&& 858993459) + ((Int32.toUInt32 (x0 - ((Int32.toUInt32 x0 >>> (Int32.toUInt32 1 &&& Int32.toUInt32 31)).toInt32 &&& 1431655765)) >>> (Int32.toUInt32 2 &&& Int32.toUInt32 31)).toInt32 &&& 858993459)) + (Int32.toUInt32 (((x0 - ((Int32.toUInt32 x0 >>> (Int32.toUInt32 1 &&& Int32.toUInt32 31)).toInt32 &&& 1431655765)) &&& 858993459) + ((Int32.toUInt32 (x0 - ((Int32.toUInt32 x0 >>> (Int32.toUInt32 1 &&& Int32.toUInt32 31)).toInt32 &&& 1431655765)) >>> (Int32.toUInt32 2 &&& Int32.toUInt32 31)).toInt32 &&& 858993459)) >>> (Int32.toUInt32 4 &&& Int32.toUInt32 31)).toInt32) &&& 252645135) + (Int32.toUInt32 (((((x0 - ((Int32.toUInt32 x0 >>> (Int32.toUInt32 1 &&& Int32.toUInt32 31)).toInt32 &&& 1431655765)) &&& 858993459) + ((Int32.toUInt32 (x0 - ((Int32.toUInt32 x0 >>> (Int32.toUInt32 1 &&& Int32.toUInt32 31)).toInt32 &&& 1431655765)) >>> (Int32.toUInt32 2 &&& Int32.toUInt32 31)).toInt32 &&& 858993459)) + (Int32.toUInt32 (((x0 - ((Int32.toUInt32 x0 >>> (Int32.toUInt32 1 &&& Int32.toUInt32 31)).toInt32 &&& 1431655765)) &&& 858993459) + ((Int32.toUInt32 (x0 - ((Int32.toUInt32 x0 >>> (Int32.toUInt32 1 &&& Int32.toUInt32 31)).toInt32 &&& 1431655765)) >>> (Int32.toUInt32 2 &&& Int32.toUInt32 31)).toInt32 &&& 858993459)) >>> (Int32.toUInt32 4 &&& Int32.toUInt32 31)).toInt32) &&& 252645135) >>> (Int32.toUInt32 8 &&& Int32.toUInt32 31)).toInt32) + (Int32.toUInt32 ((((((x0 - ((Int32.toUInt32 x0 >>> (Int32.toUInt32 1 &&& Int32.toUInt32 31)).toInt32 &&& 1431655765)) &&& 858993459) + ((Int32.toUInt32 (x0 - ((Int32.toUInt32 x0 >>> (Int32.toUInt32 1 &&& Int32.toUInt32 31)).toInt32 &&& 1431655765)) >>> (Int32.toUInt32 2 &&& Int32.toUInt32 31)).toInt32 &&& 858993459)) + (Int32.toUInt32 (((x0 - ((Int32.toUInt32 x0 >>> (Int32.toUInt32 1 &&& Int32.toUInt32 31)).toInt32 &&& 1431655765)) &&& 858993459) + ((Int32.toUInt32 (x0 - ((Int32.toUInt32 x0 >>> (Int32.toUInt32 1 &&& Int32.toUInt32 31)).toInt32 &&& 1431655765)) >>> (Int32.toUInt32 2 &&& Int32.toUInt32 31)).toInt32 &&& 858993459)) >>> (Int32.toUInt32 4 &&& Int32.toUInt32 31)).toInt32) &&& 252645135) + (Int32.toUInt32 (((((x0 - ((Int32.toUInt32 x0 >>> (Int32.toUInt32 1 &&& Int32.toUInt32 31)).toInt32 &&& 1431655765)) &&& 858993459) + ((Int32.toUInt32 (x0 - ((Int32.toUInt32 x0 >>> (Int32.toUInt32 1 &&& Int32.toUInt32 31)).toInt32 &&& 1431655765)) >>> (Int32.toUInt32 2 &&& Int32.toUInt32 31)).toInt32 &&& 858993459)) + (Int32.toUInt32 (((x0 - ((Int32.toUInt32 x0 >>> (Int32.toUInt32 1 &&& Int32.toUInt32 31)).toInt32 &&& 1431655765)) &&& 858993459) + ((Int32.toUInt32 (x0 - ((Int32.toUInt32 x0 >>> (Int32.toUInt32 1 &&& Int32.toUInt32 31)).toInt32 &&& 1431655765)) >>> (Int32.toUInt32 2 &&& Int32.toUInt32 31)).toInt32 &&& 858993459)) >>> (Int32.toUInt32 4 &&& Int32.toUInt32 31)).toInt32) &&& 252645135) >>> (Int32.toUInt32 8 &&& Int32.toUInt32 31)).toInt32) >>> (Int32.toUInt32 16 &&& Int32.toUInt32 31)).toInt32) &&& 63)
def f_J7_fill_031fb_5   : Nat → Nat → Int32 → Int32 → Int32 → Mem → Option Mem
  | 0, _, _, _, _, _ => none
  | n + 1, x0, x1, x2, x3, M =>
    if x3 ≤ x2 then (
    some M) else
    (eB M x0 x2 x1).bind fun M3 =>
    f_J7_fill_031fb_5 n x0 x1 (x2 + 1) x3 M3
def f_J7_fill_031fb  (x0 : Nat) (x1 : Int32) (M : Mem) : Option Mem :=
  (aN M 2 x0).bind fun v1 =>
  f_J7_fill_031fb_5 FU x0 x1 0 v1 M
def f_J7_fill_53178_5   : Nat → Nat → Int32 → Int32 → Int32 → Mem → Option Mem
  | 0, _, _, _, _, _ => none
  | n + 1, x0, x1, x2, x3, M =>
    if x3 ≤ x2 then (
    some M) else
    (eI M x0 x2 x1).bind fun M3 =>
    f_J7_fill_53178_5 n x0 x1 (x2 + 1) x3 M3
def f_J7_fill_53178  (x0 : Nat) (x1 : Int32) (M : Mem) : Option Mem :=
  (aN M 1 x0).bind fun v1 =>
  f_J7_fill_53178_5 FU x0 x1 0 v1 M
def f_J9_abs_0f7a4  (x0 : Int32) : Int32 :=
  if 0 ≤ x0 then x0 else 0 - x0
def f_J9_max_7cf53  (x0 : Int32) (x1 : Int32) : Int32 :=
  if x0 < x1 then (
  x1) else
  x0
def f_J9_min_7cf53  (x0 : Int32) (x1 : Int32) : Int32 :=
  if x1 < x0 then (
  x1) else
  x0
def f_X7_asked  (x0 : Nat) (M : Mem) : Option Int32 :=
  if kd M x0 = 17 then (
  (gI M 17 x0 10).bind fun v1 =>
  some v1) else none
def f_X4_has  (x0 : Nat) (x1 : Int32) (M : Mem) : Option Int32 :=
  if kd M x0 = 14 then (
  if x1 < 0 then (
  some 0) else
  (gI M 14 x0 1).bind fun v1 =>
  if v1 ≤ x1 then (
  some 0) else
  some 1) else none
def f_X4_isMissing  (x0 : Nat) (M : Mem) : Option Int32 :=
  if kd M x0 = 14 then (
  (gI M 14 x0 1).bind fun v1 =>
  if v1 = (-1) then (
  some 1) else
  some 0) else none
def f_X7_refuse  (x0 : Nat) (x1 : Int32) (M : Mem) : Option (Int32 × Mem) :=
  if kd M x0 = 17 then (
  (pI M 17 x0 13 x1).bind fun M1 =>
  if x1 < 0 then (
  some ((-3), M1)) else
  (gR M1 17 x0 14).bind fun v3 =>
  (aN M1 1 v3).bind fun v5 =>
  if v5 ≤ x1 then (
  some ((-3), M1)) else
  (gR M1 17 x0 14).bind fun v7 =>
  (aI M1 v7 x1).bind fun v9 =>
  (eI M1 v7 x1 (v9 + 1)).bind fun M11 =>
  some ((-3), M11)) else none
def f_X7_rowOf  (x0 : Nat) (x1 : Int32) (M : Mem) : Option Nat :=
  if kd M x0 = 17 then (
  if x1 < 0 then (
  some 0) else
  (gR M 17 x0 0).bind fun v1 =>
  (aN M 4 v1).bind fun v3 =>
  if v3 ≤ x1 then (
  some 0) else
  (gR M 17 x0 0).bind fun v5 =>
  (aR M 4 v5 x1).bind fun v7 =>
  some v7) else none
def f_X7_at  (x0 : Nat) (x1 : Int32) (x2 : Int32) (M : Mem) : Option (Int32 × Mem) :=
  if kd M x0 = 17 then (
  (f_X7_rowOf x0 x1 M).bind fun v2 =>
  if v2 = 0 then (
  some ((-1), M)) else
  (f_X4_isMissing v2 M).bind fun v5 =>
  if v5 = 0 then (
  (f_X4_has v2 x2 M).bind fun v7 =>
  if v7 = 0 then (
  (f_X7_refuse x0 2 M).bind fun qv15 =>
  some (qv15.1, qv15.2)) else
  (gR M 14 v2 0).bind fun v8 =>
  (aI M v8 x2).bind fun v10 =>
  (pI M 17 x0 10 v10).bind fun M12 =>
  some (1, M12)) else
  (f_X7_refuse x0 1 M).bind fun qv18 =>
  some (qv18.1, qv18.2)) else none
def f_X2_hasSigher  (x0 : Nat) (x1 : Int32) (M : Mem) : Option Int32 :=
  if kd M x0 = 12 then (
  if x1 < 0 then (
  some 0) else
  (gI M 12 x0 0).bind fun v1 =>
  if v1 ≤ x1 then (
  some 0) else
  some 1) else none
def f_X2_hasOrder  (x0 : Nat) (x1 : Int32) (M : Mem) : Option Int32 :=
  if kd M x0 = 12 then (
  if x1 < 0 then (
  some 0) else
  (gI M 12 x0 1).bind fun v1 =>
  if v1 ≤ x1 then (
  some 0) else
  some 1) else none
def f_X7_isKind  (x0 : Int32) : Int32 :=
  if x0 < 0 then (
  0) else
  if 5 < x0 then (
  0) else
  1
def f_X7_isOf_4   : Nat → Int32 → Int32 → Int32 → Option Int32
  | 0, _, _, _ => none
  | n + 1, x1, x2, x3 =>
    if 5 < x3 then (
    some 0) else
    if (f_X7_isKind x2) = 0 then (
    some 0) else
    if x2 = x1 then (
    some 1) else
    (aT 1 x2).bind fun v2 =>
    f_X7_isOf_4 n x1 v2 (x3 + 1)
def f_X7_isOf  (x0 : Int32) (x1 : Int32) : Option Int32 :=
  f_X7_isOf_4 FU x1 x0 0
def f_X7_isTooDeep  (x0 : Int32) (x1 : Int32) : Option Int32 :=
  if (f_X7_isKind x0) = 0 then (
  some 0) else
  (aT 2 x0).bind fun v2 =>
  if x1 ≤ v2 then (
  some 0) else
  some 1
def f_X7_breathByKind  (x0 : Int32) (x1 : Int32) : Option Int32 :=
  (f_X7_isTooDeep x0 x1).bind fun v2 =>
  if v2 = 0 then (
  (f_X7_isOf x0 3).bind fun v4 =>
  if v4 = 0 then (
  (f_X7_isOf x0 1).bind fun v6 =>
  if v6 = 0 then (
  some x1) else
  some ((f_J9_max_7cf53 1 (x1 / 2)))) else
  some 0) else
  some ((-9))
def f_X7_breathOfPairs_5   : Nat → Nat → Nat → Int32 → Int32 → Int32 → Mem → Option Int32
  | 0, _, _, _, _, _, _ => none
  | n + 1, x0, x1, x2, x3, x4, M =>
    (gI M 14 x1 1).bind fun v1 =>
    if v1 ≤ (x4 + 1) then (
    some x3) else
    (gR M 14 x1 0).bind fun v3 =>
    (aI M v3 x4).bind fun v5 =>
    (gR M 14 x1 0).bind fun v7 =>
    (aI M v7 (x4 + 1)).bind fun v9 =>
    (gR M 17 x0 2).bind fun v11 =>
    (f_X2_hasOrder v11 v5 M).bind fun v14 =>
    if v14 = 0 then (
    some ((-9))) else
    (gR M 17 x0 2).bind fun v15 =>
    (gR M 12 v15 6).bind fun v17 =>
    (aI M v17 v5).bind fun v19 =>
    (f_X7_breathByKind x2 v19).bind fun v22 =>
    if v22 = v9 then (
    f_X7_breathOfPairs_5 n x0 x1 x2 (x3 + v9) (x4 + 2) M) else
    some ((-9))
def f_X7_breathOfPairs  (x0 : Nat) (x1 : Nat) (x2 : Int32) (M : Mem) : Option Int32 :=
  if kd M x0 = 17 then (
  f_X7_breathOfPairs_5 FU x0 x1 x2 0 0 M) else none
def f_X7_findingOfPairs_31   : Nat → Nat → Nat → Int32 → Mem → Option Int32
  | 0, _, _, _, _ => none
  | n + 1, x0, x1, x2, M =>
    (gI M 14 x1 1).bind fun v7 =>
    if v7 ≤ (x2 + 1) then (
    some 0) else
    (gR M 14 x1 0).bind fun v9 =>
    (aI M v9 (x2 + 1)).bind fun v11 =>
    (gR M 17 x0 2).bind fun v13 =>
    (gR M 14 x1 0).bind fun v15 =>
    (aI M v15 x2).bind fun v17 =>
    (f_X2_hasOrder v13 v17 M).bind fun v20 =>
    if v20 = 0 then (
    some 3) else
    if v11 < 0 then (
    some 3) else
    if v11 ≤ 9 then (
    f_X7_findingOfPairs_31 n x0 x1 (x2 + 2) M) else
    some 3
def f_X7_findingOfPairs  (x0 : Nat) (x1 : Nat) (M : Mem) : Option Int32 :=
  if kd M x0 = 17 then (
  (f_X4_isMissing x1 M).bind fun v2 =>
  if v2 = 0 then (
  (gI M 14 x1 1).bind fun v3 =>
  if (v3 - v3 / 2 * 2) = 0 then (
  (gI M 14 x1 1).bind fun v5 =>
  if v5 ≤ 12 then (
  f_X7_findingOfPairs_31 FU x0 x1 0 M) else
  some 5) else
  some 5) else
  some 1) else none
def f_X7_breaths_74   : Nat → Int32 → Int32 → Mem → Option (Int32 × Mem)
  | 0, _, _, _ => none
  | n + 1, x6, x7, M =>
    if 9 < x7 then (
    some (x6, M)) else
    f_X7_breaths_74 n (x6 ||| (1 <<< (x7 &&& 31))) (x7 + 1) M
def f_X7_breaths  (x0 : Nat) (x1 : Int32) (x2 : Int32) (M : Mem) : Option (Int32 × Mem) :=
  if kd M x0 = 17 then (
  (f_X7_rowOf x0 x2 M).bind fun v2 =>
  if v2 = 0 then (
  (gR M 17 x0 2).bind fun v4 =>
  (f_X2_hasSigher v4 x1 M).bind fun v7 =>
  if v7 = 0 then (
  some ((-1), M)) else
  some ((-1), M)) else
  (gR M 17 x0 2).bind fun v8 =>
  (f_X2_hasSigher v8 x1 M).bind fun v11 =>
  if v11 = 0 then (
  some ((-1), M)) else
  (f_X7_findingOfPairs x0 v2 M).bind fun v13 =>
  if v13 = 0 then (
  (gR M 17 x0 2).bind fun v14 =>
  (gR M 12 v14 2).bind fun v16 =>
  (aI M v16 x1).bind fun v18 =>
  (f_X7_breathOfPairs x0 v2 v18 M).bind fun v21 =>
  if v21 = (-9) then (
  some (0, M)) else
  f_X7_breaths_74 FU 0 v21 M) else
  (f_X7_refuse x0 v13 M).bind fun qv23 =>
  some (qv23.1, qv23.2)) else none
def f_X2_goldFor  (x0 : Nat) (x1 : Int32) (x2 : Int32) (M : Mem) : Option Int32 :=
  if kd M x0 = 12 then (
  (f_X2_hasSigher x0 x1 M).bind fun v2 =>
  if v2 = 0 then (
  some 0) else
  (f_X2_hasOrder x0 x2 M).bind fun v4 =>
  if v4 = 0 then (
  some 0) else
  (gR M 12 x0 9).bind fun v5 =>
  (aI M v5 ((x1 * 6) + x2)).bind fun v7 =>
  some v7) else none
def f_X7_brings  (x0 : Nat) (x1 : Int32) (x2 : Int32) (M : Mem) : Option Int32 :=
  if kd M x0 = 17 then (
  (gR M 17 x0 2).bind fun v1 =>
  (f_X2_hasSigher v1 x1 M).bind fun v4 =>
  if v4 = 0 then (
  some ((-1))) else
  (gR M 17 x0 2).bind fun v5 =>
  (f_X2_hasOrder v5 x2 M).bind fun v8 =>
  if v8 = 0 then (
  some ((-1))) else
  (gR M 17 x0 2).bind fun v9 =>
  (f_X2_goldFor v9 x1 x2 M).bind fun v12 =>
  some v12) else none
def f_X2_areInTune  (x0 : Nat) (x1 : Int32) (x2 : Int32) (x3 : Int32) (M : Mem) : Option Int32 :=
  if kd M x0 = 12 then (
  (f_X2_hasSigher x0 x1 M).bind fun v2 =>
  if v2 = 0 then (
  some 0) else
  (f_X2_hasSigher x0 x2 M).bind fun v4 =>
  if v4 = 0 then (
  some 0) else
  (gR M 12 x0 4).bind fun v5 =>
  (aI M v5 x1).bind fun v7 =>
  (gR M 12 x0 4).bind fun v9 =>
  (aI M v9 x2).bind fun v11 =>
  if x3 < (f_J9_abs_0f7a4 (v7 - v11)) then (
  some 0) else
  some 1) else none
def f_X7_holds  (x0 : Int32) (x1 : Int32) : Int32 :=
  if ((x0 >>> (x1 &&& 31)) &&& 1) = 1 then (
  1) else
  0
def f_X2_isChoir_15  (k2 : Nat → Int32 → Int32 → Int32 → Mem → Option Int32) : Nat → Nat → Int32 → Int32 → Int32 → Int32 → Mem → Option Int32
  | 0, _, _, _, _, _, _ => none
  | n + 1, x0, x1, x2, x3, x4, M =>
    (gI M 12 x0 0).bind fun v3 =>
    if v3 ≤ x4 then (
    k2 x0 x1 x2 (x3 + 1) M) else
    if (f_X7_holds x1 x3) = 0 then (
    f_X2_isChoir_15 k2 n x0 x1 x2 x3 (x4 + 1) M) else
    if (f_X7_holds x1 x4) = 0 then (
    f_X2_isChoir_15 k2 n x0 x1 x2 x3 (x4 + 1) M) else
    (f_X2_areInTune x0 x3 x4 x2 M).bind fun v8 =>
    if v8 = 0 then (
    some 0) else
    f_X2_isChoir_15 k2 n x0 x1 x2 x3 (x4 + 1) M
def f_X2_isChoir_2   : Nat → Nat → Int32 → Int32 → Int32 → Mem → Option Int32
  | 0, _, _, _, _, _ => none
  | n + 1, x0, x1, x2, x3, M =>
    (gI M 12 x0 0).bind fun v1 =>
    if v1 ≤ x3 then (
    some 1) else
    f_X2_isChoir_15 (f_X2_isChoir_2 n) FU x0 x1 x2 x3 (x3 + 1) M
def f_X2_isChoir  (x0 : Nat) (x1 : Int32) (x2 : Int32) (M : Mem) : Option Int32 :=
  if kd M x0 = 12 then (
  f_X2_isChoir_2 FU x0 x1 x2 0 M) else none
def f_X7_choir_29   : Nat → Nat → Int32 → Int32 → Int32 → Mem → Option (Int32 × Mem)
  | 0, _, _, _, _, _ => none
  | n + 1, x0, x1, x2, x3, M =>
    (gR M 17 x0 2).bind fun v5 =>
    (gI M 12 v5 0).bind fun v7 =>
    if (1 <<< (v7 &&& 31)) ≤ x3 then (
    (pI M 17 x0 10 x2).bind fun M9 =>
    some ((f_J6_bitCount_0f7a4 x2), M9)) else
    if (f_J6_bitCount_0f7a4 x3) ≤ (f_J6_bitCount_0f7a4 x2) then (
    f_X7_choir_29 n x0 x1 x2 (x3 + 1) M) else
    (gR M 17 x0 2).bind fun v14 =>
    (f_X2_isChoir v14 x3 x1 M).bind fun v17 =>
    if v17 = 0 then (
    f_X7_choir_29 n x0 x1 x2 (x3 + 1) M) else
    f_X7_choir_29 n x0 x1 x3 (x3 + 1) M
def f_X7_choir  (x0 : Nat) (x1 : Int32) (M : Mem) : Option (Int32 × Mem) :=
  if kd M x0 = 17 then (
  if x1 < 0 then (
  some ((-1), M)) else
  if x1 ≤ 9 then (
  (gR M 17 x0 2).bind fun v1 =>
  (gI M 12 v1 0).bind fun v3 =>
  if v3 = 0 then (
  some ((-4), M)) else
  f_X7_choir_29 FU x0 x1 0 1 M) else
  some ((-1), M)) else none
def f_X4_hasFrom  (x0 : Nat) (x1 : Int32) (x2 : Int32) (M : Mem) : Option Int32 :=
  if kd M x0 = 14 then (
  if x1 < 0 then (
  some 0) else
  (gI M 14 x0 1).bind fun v1 =>
  if v1 < x1 then (
  some 0) else
  (gI M 14 x0 1).bind fun v3 =>
  if (v3 - x1) < x2 then (
  some 0) else
  some 1) else none
def f_X7_copy_53   (x0 : Nat) (M : Mem) : Option (Int32 × Mem) :=
  (f_X7_refuse x0 1 M).bind fun qv28 =>
  some (qv28.1, qv28.2)
def f_X7_copy_82   (x0 : Nat) (M : Mem) : Option (Int32 × Mem) :=
  (f_X7_refuse x0 2 M).bind fun qv31 =>
  some (qv31.1, qv31.2)
def f_X7_copy  (x0 : Nat) (x1 : Int32) (x2 : Int32) (x3 : Int32) (x4 : Int32) (x5 : Int32) (M : Mem) : Option (Int32 × Mem) :=
  if kd M x0 = 17 then (
  (f_X7_rowOf x0 x1 M).bind fun v2 =>
  if v2 = 0 then (
  (f_X7_rowOf x0 x3 M).bind fun v5 =>
  if v5 = 0 then (
  some ((-1), M)) else
  some ((-1), M)) else
  (f_X7_rowOf x0 x3 M).bind fun v8 =>
  if v8 = 0 then (
  some ((-1), M)) else
  if 0 ≤ x5 then (
  (f_X4_isMissing v2 M).bind fun v11 =>
  if v11 = 0 then (
  (f_X4_isMissing v8 M).bind fun v13 =>
  if v13 = 0 then (
  (f_X4_hasFrom v2 x2 x5 M).bind fun v15 =>
  if v15 = 0 then (
  f_X7_copy_82 x0 M) else
  (f_X4_hasFrom v8 x4 x5 M).bind fun v17 =>
  if v17 = 0 then (
  f_X7_copy_82 x0 M) else
  (gR M 14 v2 0).bind fun v18 =>
  (gR M 14 v8 0).bind fun v20 =>
  (cpI M v18 x2 v20 x4 x5).bind fun M22 =>
  some (1, M22)) else
  f_X7_copy_53 x0 M) else
  f_X7_copy_53 x0 M) else
  (f_X7_refuse x0 5 M).bind fun qv25 =>
  some (qv25.1, qv25.2)) else none
def f_X2_countOfKind_4   : Nat → Nat → Int32 → Int32 → Int32 → Mem → Option Int32
  | 0, _, _, _, _, _ => none
  | n + 1, x0, x1, x2, x3, M =>
    (gI M 12 x0 0).bind fun v1 =>
    if v1 ≤ x3 then (
    some x2) else
    (gR M 12 x0 2).bind fun v3 =>
    (aI M v3 x3).bind fun v5 =>
    (f_X7_isOf v5 x1).bind fun v8 =>
    if v8 = 0 then (
    f_X2_countOfKind_4 n x0 x1 (x2 + 0) (x3 + 1) M) else
    f_X2_countOfKind_4 n x0 x1 (x2 + 1) (x3 + 1) M
def f_X2_countOfKind  (x0 : Nat) (x1 : Int32) (M : Mem) : Option Int32 :=
  if kd M x0 = 12 then (
  f_X2_countOfKind_4 FU x0 x1 0 0 M) else none
def f_X6_allBreath_4   : Nat → Nat → Nat → Int32 → Int32 → Mem → Option Int32
  | 0, _, _, _, _, _ => none
  | n + 1, x0, x1, x2, x3, M =>
    (gI M 12 x1 0).bind fun v1 =>
    if v1 ≤ x3 then (
    some x2) else
    (gR M 16 x0 0).bind fun v3 =>
    (aI M v3 x3).bind fun v5 =>
    f_X6_allBreath_4 n x0 x1 (x2 + v5) (x3 + 1) M
def f_X6_allBreath  (x0 : Nat) (x1 : Nat) (M : Mem) : Option Int32 :=
  if kd M x0 = 16 then (
  f_X6_allBreath_4 FU x0 x1 0 0 M) else none
def f_X7_countKept_4   : Nat → Nat → Int32 → Int32 → Mem → Option Int32
  | 0, _, _, _, _ => none
  | n + 1, x0, x1, x2, M =>
    (gR M 17 x0 7).bind fun v1 =>
    (aN M 3 v1).bind fun v3 =>
    if v3 ≤ x2 then (
    some x1) else
    (gR M 17 x0 7).bind fun v5 =>
    (aR M 3 v5 x2).bind fun v7 =>
    (gI M 10 v7 1).bind fun v9 =>
    if v9 = (-1) then (
    f_X7_countKept_4 n x0 (x1 + 0) (x2 + 1) M) else
    f_X7_countKept_4 n x0 (x1 + 1) (x2 + 1) M
def f_X7_countKept  (x0 : Nat) (M : Mem) : Option Int32 :=
  if kd M x0 = 17 then (
  f_X7_countKept_4 FU x0 0 0 M) else none
def f_X7_countRows_4   : Nat → Nat → Int32 → Int32 → Mem → Option Int32
  | 0, _, _, _, _ => none
  | n + 1, x0, x1, x2, M =>
    (gR M 17 x0 0).bind fun v1 =>
    (aN M 4 v1).bind fun v3 =>
    if v3 ≤ x2 then (
    some x1) else
    (gR M 17 x0 0).bind fun v5 =>
    (aR M 4 v5 x2).bind fun v7 =>
    (f_X4_isMissing v7 M).bind fun v10 =>
    if v10 = 0 then (
    f_X7_countRows_4 n x0 (x1 + 1) (x2 + 1) M) else
    f_X7_countRows_4 n x0 (x1 + 0) (x2 + 1) M
def f_X7_countRows  (x0 : Nat) (M : Mem) : Option Int32 :=
  if kd M x0 = 17 then (
  f_X7_countRows_4 FU x0 0 0 M) else none
def f_X5_isMissing  (x0 : Nat) (M : Mem) : Option Int32 :=
  if kd M x0 = 15 then (
  (gI M 15 x0 1).bind fun v1 =>
  if v1 = (-1) then (
  some 1) else
  some 0) else none
def f_X7_countTexts_4   : Nat → Nat → Int32 → Int32 → Mem → Option Int32
  | 0, _, _, _, _ => none
  | n + 1, x0, x1, x2, M =>
    (gR M 17 x0 1).bind fun v1 =>
    (aN M 5 v1).bind fun v3 =>
    if v3 ≤ x2 then (
    some x1) else
    (gR M 17 x0 1).bind fun v5 =>
    (aR M 5 v5 x2).bind fun v7 =>
    (f_X5_isMissing v7 M).bind fun v10 =>
    if v10 = 0 then (
    f_X7_countTexts_4 n x0 (x1 + 1) (x2 + 1) M) else
    f_X7_countTexts_4 n x0 (x1 + 0) (x2 + 1) M
def f_X7_countTexts  (x0 : Nat) (M : Mem) : Option Int32 :=
  if kd M x0 = 17 then (
  f_X7_countTexts_4 FU x0 0 0 M) else none
def f_X7_countOf  (x0 : Nat) (x1 : Int32) (M : Mem) : Option Int32 :=
  if kd M x0 = 17 then (
  if x1 = 0 then (
  (gR M 17 x0 2).bind fun v2 =>
  (gI M 12 v2 0).bind fun v4 =>
  some v4) else
  if x1 = 1 then (
  (gR M 17 x0 2).bind fun v7 =>
  (gI M 12 v7 1).bind fun v9 =>
  some v9) else
  if x1 = 2 then (
  (gR M 17 x0 6).bind fun v12 =>
  (gI M 10 v12 1).bind fun v14 =>
  some v14) else
  if x1 = 3 then (
  (gR M 17 x0 4).bind fun v17 =>
  (gI M 16 v17 3).bind fun v19 =>
  some v19) else
  if x1 = 4 then (
  (gR M 17 x0 4).bind fun v22 =>
  (gI M 16 v22 2).bind fun v24 =>
  some v24) else
  if x1 = 5 then (
  (gR M 17 x0 4).bind fun v27 =>
  (gR M 17 x0 2).bind fun v29 =>
  (f_X6_allBreath v27 v29 M).bind fun v32 =>
  some v32) else
  if x1 = 6 then (
  (gR M 17 x0 2).bind fun v34 =>
  (f_X2_countOfKind v34 1 M).bind fun v37 =>
  some v37) else
  if x1 = 7 then (
  (gR M 17 x0 2).bind fun v39 =>
  (f_X2_countOfKind v39 2 M).bind fun v42 =>
  some v42) else
  if x1 = 8 then (
  (f_X7_countRows x0 M).bind fun v45 =>
  some v45) else
  if x1 = 9 then (
  (f_X7_countTexts x0 M).bind fun v48 =>
  some v48) else
  (f_X7_countKept x0 M).bind fun v50 =>
  some v50) else none
def f_X7_count  (x0 : Nat) (x1 : Int32) (M : Mem) : Option Int32 :=
  if kd M x0 = 17 then (
  if x1 < 0 then (
  some ((-1))) else
  if x1 < 11 then (
  (f_X7_countOf x0 x1 M).bind fun v2 =>
  some v2) else
  some ((-1))) else none
def f_X4_digestFrom_15   : Nat → Nat → Int64 → Int32 → Mem → Option Int64
  | 0, _, _, _, _ => none
  | n + 1, x0, x3, x5, M =>
    (gI M 14 x0 1).bind fun v3 =>
    if v3 ≤ x5 then (
    some x3) else
    (gR M 14 x0 0).bind fun v5 =>
    (aI M v5 x5).bind fun v7 =>
    f_X4_digestFrom_15 n x0 ((31 * x3) + (Int32.toInt64 v7)) (x5 + 1) M
def f_X4_digestFrom  (x0 : Nat) (x1 : Int64) (M : Mem) : Option Int64 :=
  if kd M x0 = 14 then (
  (gI M 14 x0 1).bind fun v1 =>
  f_X4_digestFrom_15 FU x0 ((31 * x1) + (Int32.toInt64 v1)) 0 M) else none
def f_X5_digestFrom_15   : Nat → Nat → Int64 → Int32 → Mem → Option Int64
  | 0, _, _, _, _ => none
  | n + 1, x0, x3, x5, M =>
    (gI M 15 x0 1).bind fun v3 =>
    if v3 ≤ x5 then (
    some x3) else
    (gR M 15 x0 0).bind fun v5 =>
    (aB M v5 x5).bind fun v7 =>
    f_X5_digestFrom_15 n x0 ((31 * x3) + (Int32.toInt64 v7)) (x5 + 1) M
def f_X5_digestFrom  (x0 : Nat) (x1 : Int64) (M : Mem) : Option Int64 :=
  if kd M x0 = 15 then (
  (gI M 15 x0 1).bind fun v1 =>
  f_X5_digestFrom_15 FU x0 ((31 * x1) + (Int32.toInt64 v1)) 0 M) else none
def f_X6_isDone  (x0 : Nat) (x1 : Int32) (M : Mem) : Option Int32 :=
  if kd M x0 = 16 then (
  (gI M 16 x0 2).bind fun v1 =>
  (bz (f_X7_holds v1 x1)).bind fun zqb4 =>
  some ((f_X7_holds v1 x1))) else none
def f_X2_breathFor  (x0 : Nat) (x1 : Int32) (x2 : Int32) (M : Mem) : Option Int32 :=
  if kd M x0 = 12 then (
  (f_X2_hasSigher x0 x1 M).bind fun v2 =>
  if v2 = 0 then (
  some ((-9))) else
  (f_X2_hasOrder x0 x2 M).bind fun v4 =>
  if v4 = 0 then (
  some ((-9))) else
  (gR M 12 x0 8).bind fun v5 =>
  (aI M v5 ((x1 * 6) + x2)).bind fun v7 =>
  some v7) else none
def f_X6_isAble  (x0 : Nat) (x1 : Nat) (x2 : Int32) (x3 : Int32) (M : Mem) : Option Int32 :=
  if kd M x0 = 16 then (
  (f_X2_hasSigher x1 x2 M).bind fun v2 =>
  if v2 = 0 then (
  some 0) else
  (f_X6_isDone x0 x3 M).bind fun v4 =>
  if v4 = 0 then (
  (f_X2_breathFor x1 x2 x3 M).bind fun v6 =>
  if v6 = (-9) then (
  some 0) else
  (gR M 16 x0 0).bind fun v7 =>
  (aI M v7 x2).bind fun v9 =>
  if v9 < v6 then (
  some 0) else
  some 1) else
  some 0) else none
def f_X7_sighersFor_4   : Nat → Nat → Int32 → Int32 → Int32 → Mem → Option Int32
  | 0, _, _, _, _, _ => none
  | n + 1, x0, x1, x2, x3, M =>
    (gR M 17 x0 2).bind fun v1 =>
    (gI M 12 v1 0).bind fun v3 =>
    if v3 ≤ x3 then (
    some x2) else
    (gR M 17 x0 4).bind fun v5 =>
    (gR M 17 x0 2).bind fun v7 =>
    (f_X6_isAble v5 v7 x3 x1 M).bind fun v10 =>
    if v10 = 0 then (
    f_X7_sighersFor_4 n x0 x1 x2 (x3 + 1) M) else
    f_X7_sighersFor_4 n x0 x1 (x2 ||| (1 <<< (x3 &&& 31))) (x3 + 1) M
def f_X7_sighersFor  (x0 : Nat) (x1 : Int32) (M : Mem) : Option Int32 :=
  if kd M x0 = 17 then (
  f_X7_sighersFor_4 FU x0 x1 0 0 M) else none
def f_X7_orderTells  (x0 : Nat) (x1 : Int32) (x2 : Int32) (M : Mem) : Option Int32 :=
  if kd M x0 = 17 then (
  (gR M 17 x0 2).bind fun v1 =>
  (f_X2_hasOrder v1 x1 M).bind fun v4 =>
  if v4 = 0 then (
  some 0) else
  if x2 = 0 then (
  (gR M 17 x0 2).bind fun v6 =>
  (gR M 12 v6 5).bind fun v8 =>
  (aI M v8 x1).bind fun v10 =>
  some v10) else
  if x2 = 1 then (
  (gR M 17 x0 2).bind fun v13 =>
  (gR M 12 v13 6).bind fun v15 =>
  (aI M v15 x1).bind fun v17 =>
  some v17) else
  if x2 = 2 then (
  (gR M 17 x0 2).bind fun v20 =>
  (gR M 12 v20 7).bind fun v22 =>
  (aI M v22 x1).bind fun v24 =>
  some v24) else
  if x2 = 3 then (
  (gR M 17 x0 4).bind fun v27 =>
  (f_X6_isDone v27 x1 M).bind fun v30 =>
  if v30 = 0 then (
  some 0) else
  some 1) else
  (f_X7_sighersFor x0 x1 M).bind fun v32 =>
  some v32) else none
def f_X7_ordersFor_4   : Nat → Nat → Int32 → Int32 → Int32 → Mem → Option Int32
  | 0, _, _, _, _, _ => none
  | n + 1, x0, x1, x2, x3, M =>
    (gR M 17 x0 2).bind fun v1 =>
    (gI M 12 v1 1).bind fun v3 =>
    if v3 ≤ x3 then (
    some x2) else
    (gR M 17 x0 4).bind fun v5 =>
    (gR M 17 x0 2).bind fun v7 =>
    (f_X6_isAble v5 v7 x1 x3 M).bind fun v10 =>
    if v10 = 0 then (
    f_X7_ordersFor_4 n x0 x1 x2 (x3 + 1) M) else
    f_X7_ordersFor_4 n x0 x1 (x2 ||| (1 <<< (x3 &&& 31))) (x3 + 1) M
def f_X7_ordersFor  (x0 : Nat) (x1 : Int32) (M : Mem) : Option Int32 :=
  if kd M x0 = 17 then (
  f_X7_ordersFor_4 FU x0 x1 0 0 M) else none
def f_X7_sigherTells  (x0 : Nat) (x1 : Int32) (x2 : Int32) (M : Mem) : Option Int32 :=
  if kd M x0 = 17 then (
  (gR M 17 x0 2).bind fun v1 =>
  (f_X2_hasSigher v1 x1 M).bind fun v4 =>
  if v4 = 0 then (
  some 0) else
  if x2 = 0 then (
  (gR M 17 x0 2).bind fun v6 =>
  (gR M 12 v6 2).bind fun v8 =>
  (aI M v8 x1).bind fun v10 =>
  some v10) else
  if x2 = 1 then (
  (gR M 17 x0 4).bind fun v13 =>
  (gR M 16 v13 0).bind fun v15 =>
  (aI M v15 x1).bind fun v17 =>
  some v17) else
  if x2 = 2 then (
  (gR M 17 x0 2).bind fun v20 =>
  (gR M 12 v20 4).bind fun v22 =>
  (aI M v22 x1).bind fun v24 =>
  some v24) else
  if x2 = 3 then (
  (gR M 17 x0 4).bind fun v27 =>
  (gR M 16 v27 1).bind fun v29 =>
  (aI M v29 x1).bind fun v31 =>
  some v31) else
  (f_X7_ordersFor x0 x1 M).bind fun v34 =>
  some v34) else none
def f_X7_digest_193   : Nat → Nat → Int64 → Int32 → Mem → Option Int64
  | 0, _, _, _, _ => none
  | n + 1, x0, x1, x3, M =>
    (gR M 17 x0 1).bind fun v35 =>
    (aN M 5 v35).bind fun v37 =>
    if v37 ≤ x3 then (
    some x1) else
    (gR M 17 x0 1).bind fun v39 =>
    (aR M 5 v39 x3).bind fun v41 =>
    (f_X5_digestFrom v41 x1 M).bind fun v44 =>
    f_X7_digest_193 n x0 v44 (x3 + 1) M
def f_X7_digest_165   : Nat → Nat → Int64 → Int32 → Mem → Option Int64
  | 0, _, _, _, _ => none
  | n + 1, x0, x1, x3, M =>
    (gR M 17 x0 0).bind fun v25 =>
    (aN M 4 v25).bind fun v27 =>
    if v27 ≤ x3 then (
    f_X7_digest_193 FU x0 x1 0 M) else
    (gR M 17 x0 0).bind fun v29 =>
    (aR M 4 v29 x3).bind fun v31 =>
    (f_X4_digestFrom v31 x1 M).bind fun v34 =>
    f_X7_digest_165 n x0 v34 (x3 + 1) M
def f_X7_digest_131   : Nat → Nat → Int64 → Int32 → Mem → Option Int64
  | 0, _, _, _, _ => none
  | n + 1, x0, x1, x3, M =>
    (gR M 17 x0 7).bind fun v13 =>
    (aN M 3 v13).bind fun v15 =>
    if v15 ≤ x3 then (
    f_X7_digest_165 FU x0 x1 0 M) else
    (gR M 17 x0 7).bind fun v17 =>
    (aR M 3 v17 x3).bind fun v19 =>
    (gI M 10 v19 1).bind fun v21 =>
    f_X7_digest_131 n x0 ((31 * x1) + (Int32.toInt64 v21)) (x3 + 1) M
def f_X7_digest_96  (k82 : Nat → Int64 → Int32 → Mem → Option Int64) : Nat → Nat → Int64 → Int32 → Int32 → Mem → Option Int64
  | 0, _, _, _, _, _ => none
  | n + 1, x0, x1, x3, x4, M =>
    if 5 ≤ x4 then (
    k82 x0 x1 (x3 + 1) M) else
    (f_X7_orderTells x0 x3 x4 M).bind fun v24 =>
    f_X7_digest_96 k82 n x0 ((31 * x1) + (Int32.toInt64 v24)) x3 (x4 + 1) M
def f_X7_digest_82   : Nat → Nat → Int64 → Int32 → Mem → Option Int64
  | 0, _, _, _, _ => none
  | n + 1, x0, x1, x3, M =>
    (gR M 17 x0 2).bind fun v7 =>
    (gI M 12 v7 1).bind fun v9 =>
    if v9 ≤ x3 then (
    f_X7_digest_131 FU x0 x1 0 M) else
    f_X7_digest_96 (f_X7_digest_82 n) FU x0 x1 x3 0 M
def f_X7_digest_47  (k33 : Nat → Int64 → Int32 → Mem → Option Int64) : Nat → Nat → Int64 → Int32 → Int32 → Mem → Option Int64
  | 0, _, _, _, _, _ => none
  | n + 1, x0, x1, x3, x4, M =>
    if 5 ≤ x4 then (
    k33 x0 x1 (x3 + 1) M) else
    (f_X7_sigherTells x0 x3 x4 M).bind fun v12 =>
    f_X7_digest_47 k33 n x0 ((31 * x1) + (Int32.toInt64 v12)) x3 (x4 + 1) M
def f_X7_digest_33   : Nat → Nat → Int64 → Int32 → Mem → Option Int64
  | 0, _, _, _, _ => none
  | n + 1, x0, x1, x3, M =>
    (gR M 17 x0 2).bind fun v3 =>
    (gI M 12 v3 0).bind fun v5 =>
    if v5 ≤ x3 then (
    f_X7_digest_82 FU x0 x1 0 M) else
    f_X7_digest_47 (f_X7_digest_33 n) FU x0 x1 x3 0 M
def f_X7_digest_6   : Nat → Nat → Int64 → Int32 → Mem → Option Int64
  | 0, _, _, _, _ => none
  | n + 1, x0, x1, x3, M =>
    if 11 ≤ x3 then (
    f_X7_digest_33 FU x0 x1 0 M) else
    (f_X7_countOf x0 x3 M).bind fun v2 =>
    f_X7_digest_6 n x0 ((31 * x1) + (Int32.toInt64 v2)) (x3 + 1) M
def f_X7_digest  (x0 : Nat) (M : Mem) : Option Int64 :=
  if kd M x0 = 17 then (
  f_X7_digest_6 FU x0 17 0 M) else none
def f_X3_goOn_56 (rc : Nat → Int32 → Int32 → Int32 → Int32 → Int32 → Int32 → Mem → Option Mem)  : Nat → Nat → Int32 → Int32 → Int32 → Int32 → Int32 → Int32 → Int32 → Mem → Option Mem
  | 0, _, _, _, _, _, _, _, _, _ => none
  | n + 1, x0, x1, x2, x3, x4, x5, x6, x7, M =>
    (gR M 13 x0 4).bind fun v15 =>
    (gI M 12 v15 1).bind fun v17 =>
    if v17 ≤ x7 then (
    some M) else
    (gR M 13 x0 4).bind fun v19 =>
    (gI M 13 x0 5).bind fun v21 =>
    (f_X2_breathFor v19 v21 x7 M).bind fun v24 =>
    (gR M 13 x0 4).bind fun v25 =>
    (gR M 12 v25 5).bind fun v27 =>
    (aI M v27 x7).bind fun v29 =>
    if (f_X7_holds x6 x7) = 0 then (
    if v24 = (-9) then (
    f_X3_goOn_56 rc n x0 x1 x2 x3 x4 x5 x6 (x7 + 1) M) else
    if x4 < v24 then (
    f_X3_goOn_56 rc n x0 x1 x2 x3 x4 x5 x6 (x7 + 1) M) else
    if x3 < ((f_J9_abs_0f7a4 (v29 - x2)) + 1) then (
    f_X3_goOn_56 rc n x0 x1 x2 x3 x4 x5 x6 (x7 + 1) M) else
    (gR M 13 x0 0).bind fun v32 =>
    (eI M v32 x1 x7).bind fun M34 =>
    (gR M34 13 x0 4).bind fun v36 =>
    (gR M34 12 v36 5).bind fun v38 =>
    (aI M34 v38 x7).bind fun v40 =>
    (gR M34 13 x0 4).bind fun v42 =>
    (gI M34 13 x0 5).bind fun v44 =>
    (f_X2_goldFor v42 v44 x7 M34).bind fun v47 =>
    (rc x0 (x1 + 1) v40 (x3 - ((f_J9_abs_0f7a4 (v29 - x2)) + 1)) (x4 - v24) (x5 + v47) (x6 ||| (1 <<< (x7 &&& 31))) M34).bind fun M49 =>
    f_X3_goOn_56 rc n x0 x1 x2 x3 x4 x5 x6 (x7 + 1) M49) else
    f_X3_goOn_56 rc n x0 x1 x2 x3 x4 x5 x6 (x7 + 1) M
def f_X3_goOn_35 (rc : Nat → Int32 → Int32 → Int32 → Int32 → Int32 → Int32 → Mem → Option Mem)  (x0 : Nat) (x1 : Int32) (x2 : Int32) (x3 : Int32) (x4 : Int32) (x5 : Int32) (x6 : Int32) (M : Mem) : Option Mem :=
  (gR M 13 x0 4).bind fun v13 =>
  if x1 < 0 then (
  some M) else
  if x1 < 6 then (
  f_X3_goOn_56 rc FU x0 x1 x2 x3 x4 x5 x6 0 M) else
  some M
def f_X3_goOn_b (rc : Nat → Int32 → Int32 → Int32 → Int32 → Int32 → Int32 → Mem → Option Mem) (x0 : Nat) (x1 : Int32) (x2 : Int32) (x3 : Int32) (x4 : Int32) (x5 : Int32) (x6 : Int32) (M : Mem) : Option Mem :=
  if kd M x0 = 13 then (
  (gI M 13 x0 3).bind fun v1 =>
  if x5 ≤ v1 then (
  f_X3_goOn_35 rc x0 x1 x2 x3 x4 x5 x6 M) else
  (pI M 13 x0 3 x5).bind fun M3 =>
  (pI M3 13 x0 2 x1).bind fun M5 =>
  (gR M5 13 x0 0).bind fun v7 =>
  (gR M5 13 x0 1).bind fun v9 =>
  (cpI M5 v7 0 v9 0 6).bind fun M11 =>
  f_X3_goOn_35 rc x0 x1 x2 x3 x4 x5 x6 M11) else none
def f_X3_goOn : Nat → Nat → Int32 → Int32 → Int32 → Int32 → Int32 → Int32 → Mem → Option Mem
  | 0, _, _, _, _, _, _, _, _ => none
  | dp + 1, x0, x1, x2, x3, x4, x5, x6, M => f_X3_goOn_b (f_X3_goOn dp) x0 x1 x2 x3 x4 x5 x6 M
def f_X3_search  (x0 : Nat) (x1 : Nat) (x2 : Nat) (x3 : Int32) (x4 : Int32) (M : Mem) : Option (Int32 × Mem) :=
  if kd M x0 = 13 then (
  (pI M 13 x0 2 0).bind fun M1 =>
  (pI M1 13 x0 3 0).bind fun M3 =>
  (pN M3 13 x0 4 x1).bind fun M5 =>
  (pI M5 13 x0 5 x3).bind fun M7 =>
  (f_X2_hasSigher x1 x3 M7).bind fun v10 =>
  if v10 = 0 then (
  (gI M7 13 x0 3).bind fun v11 =>
  some (v11, M7)) else
  (gR M7 16 x2 1).bind fun v13 =>
  (aI M7 v13 x3).bind fun v15 =>
  (gR M7 16 x2 0).bind fun v17 =>
  (aI M7 v17 x3).bind fun v19 =>
  (gI M7 16 x2 2).bind fun v21 =>
  (f_X3_goOn 8 x0 0 v15 x4 v19 0 v21 M7).bind fun M24 =>
  (gI M24 13 x0 3).bind fun v25 =>
  some (v25, M24)) else none
def f_X4_renew  (x0 : Nat) (x1 : Int32) (M : Mem) : Option Mem :=
  if kd M x0 = 14 then (
  (gR M 14 x0 0).bind fun v1 =>
  (f_J7_fill_53178 v1 0 M).bind fun M4 =>
  (pI M4 14 x0 1 x1).bind fun M5 =>
  some M5) else none
def f_X7_dusk  (x0 : Nat) (x1 : Int32) (x2 : Int32) (x3 : Int32) (M : Mem) : Option (Int32 × Mem) :=
  if kd M x0 = 17 then (
  (f_X7_rowOf x0 x3 M).bind fun v2 =>
  if v2 = 0 then (
  (gR M 17 x0 2).bind fun v4 =>
  (f_X2_hasSigher v4 x1 M).bind fun v7 =>
  if v7 = 0 then (
  some ((-1), M)) else
  if x2 < 0 then (
  some ((-1), M)) else
  if 30 < x2 then (
  some ((-1), M)) else
  some ((-1), M)) else
  (gR M 17 x0 2).bind fun v8 =>
  (f_X2_hasSigher v8 x1 M).bind fun v11 =>
  if v11 = 0 then (
  some ((-1), M)) else
  if x2 < 0 then (
  some ((-1), M)) else
  if 30 < x2 then (
  some ((-1), M)) else
  (gR M 17 x0 9).bind fun v12 =>
  (gR M 17 x0 2).bind fun v14 =>
  (gR M 17 x0 4).bind fun v16 =>
  (f_X3_search v12 v14 v16 x1 x2 M).bind fun qv19 =>
  (gR qv19.2 17 x0 9).bind fun v21 =>
  (gI qv19.2 13 v21 2).bind fun v23 =>
  (f_X4_renew v2 v23 qv19.2).bind fun M26 =>
  (gR M26 17 x0 9).bind fun v27 =>
  (gR M26 13 v27 1).bind fun v29 =>
  (gR M26 14 v2 0).bind fun v31 =>
  (gR M26 17 x0 9).bind fun v33 =>
  (gI M26 13 v33 2).bind fun v35 =>
  (cpI M26 v29 0 v31 0 v35).bind fun M37 =>
  some (qv19.1, M37)) else none
def f_X2_kindOf_2   : Nat → Int32 → Int32 → Option Int32
  | 0, _, _ => none
  | n + 1, x0, x1 =>
    if 6 ≤ x1 then (
    some ((-9))) else
    (aT 0 x1).bind fun v1 =>
    if v1 = x0 then (
    some x1) else
    f_X2_kindOf_2 n x0 (x1 + 1)
def f_X2_kindOf  (x0 : Int32) : Option Int32 :=
  f_X2_kindOf_2 FU x0 0
def f_X2_mayCome  (x0 : Nat) (x1 : Int32) (M : Mem) : Option Int32 :=
  if kd M x0 = 12 then (
  if x1 = 111 then (
  (gI M 12 x0 0).bind fun v7 =>
  if v7 ≤ 0 then (
  some 0) else
  (gI M 12 x0 1).bind fun v9 =>
  if 6 ≤ v9 then (
  some 0) else
  some 1) else
  (f_X2_kindOf x1).bind fun v2 =>
  if v2 = (-9) then (
  some 0) else
  (gI M 12 x0 1).bind fun v3 =>
  if v3 = 0 then (
  (gI M 12 x0 0).bind fun v5 =>
  if 5 ≤ v5 then (
  some 0) else
  some 1) else
  some 0) else none
def f_X5_has  (x0 : Nat) (x1 : Int32) (M : Mem) : Option Int32 :=
  if kd M x0 = 15 then (
  if x1 < 0 then (
  some 0) else
  (gI M 15 x0 1).bind fun v1 =>
  if v1 ≤ x1 then (
  some 0) else
  some 1) else none
def f_X5_signAt  (x0 : Nat) (x1 : Int32) (M : Mem) : Option Int32 :=
  if kd M x0 = 15 then (
  (f_X5_has x0 x1 M).bind fun v2 =>
  if v2 = 0 then (
  some ((-9))) else
  (gR M 15 x0 0).bind fun v3 =>
  (aB M v3 x1).bind fun v5 =>
  some v5) else none
def f_X5_figureAt  (x0 : Nat) (x1 : Int32) (M : Mem) : Option Int32 :=
  if kd M x0 = 15 then (
  (f_X5_signAt x0 x1 M).bind fun v2 =>
  if (v2 - 48) < 0 then (
  some ((-9))) else
  if 9 < (v2 - 48) then (
  some ((-9))) else
  some ((v2 - 48))) else none
def f_X2_faultOfItem_66  (k44 : Nat → Int32 → Int32 → Int32 → Int32 → Mem → Option Int32) (x1 : Nat) (x2 : Int32) (x3 : Int32) (x4 : Int32) (x5 : Int32) (s0 : Int32) (M : Mem) : Option Int32 :=
  (f_X5_figureAt x1 (x2 + x5) M).bind fun v8 =>
  if s0 ≤ v8 then (
  k44 x1 x2 x3 x4 (x5 + 1) M) else
  (gI M 15 x1 1).bind fun v9 =>
  some ((f_J9_min_7cf53 (x2 + x5) v9))
def f_X2_faultOfItem_65  (k44 : Nat → Int32 → Int32 → Int32 → Int32 → Mem → Option Int32) (x1 : Nat) (x2 : Int32) (x3 : Int32) (x4 : Int32) (x5 : Int32) (M : Mem) : Option Int32 :=
  f_X2_faultOfItem_66 k44 x1 x2 x3 x4 x5 0 M
def f_X2_faultOfItem_44   : Nat → Nat → Int32 → Int32 → Int32 → Int32 → Mem → Option Int32
  | 0, _, _, _, _, _, _ => none
  | n + 1, x1, x2, x3, x4, x5, M =>
    if x4 < x5 then (
    some ((-9))) else
    if x3 = 0 then (
    f_X2_faultOfItem_65 (f_X2_faultOfItem_44 n) x1 x2 x3 x4 x5 M) else
    if x5 = 2 then (
    f_X2_faultOfItem_66 (f_X2_faultOfItem_44 n) x1 x2 x3 x4 x5 1 M) else
    f_X2_faultOfItem_65 (f_X2_faultOfItem_44 n) x1 x2 x3 x4 x5 M
def f_X2_faultOfItem_29   (x1 : Nat) (x2 : Int32) (s0 : Int32) (M : Mem) : Option Int32 :=
  if s0 = 0 then (
  f_X2_faultOfItem_44 FU x1 x2 s0 2 1 M) else
  f_X2_faultOfItem_44 FU x1 x2 s0 3 1 M
def f_X2_faultOfItem  (x0 : Nat) (x1 : Nat) (x2 : Int32) (M : Mem) : Option Int32 :=
  if kd M x0 = 12 then (
  (f_X5_signAt x1 x2 M).bind fun v2 =>
  (f_X2_mayCome x0 v2 M).bind fun v4 =>
  if v4 = 0 then (
  some x2) else
  (f_X5_signAt x1 x2 M).bind fun v6 =>
  if v6 = 111 then (
  f_X2_faultOfItem_29 x1 x2 1 M) else
  f_X2_faultOfItem_29 x1 x2 0 M) else none
def f_X7_goldByKind  (x0 : Int32) (x1 : Int32) : Int32 :=
  if x0 = 3 then (
  (x1 / 2)) else
  if x0 = 4 then (
  (x1 + 2)) else
  if x0 = 5 then (
  (f_J9_max_7cf53 0 (x1 - 1))) else
  x1
def f_X2_takeOrder_59   : Nat → Nat → Int32 → Mem → Option Mem
  | 0, _, _, _ => none
  | n + 1, x0, x3, M =>
    (gI M 12 x0 0).bind fun v27 =>
    if v27 ≤ x3 then (
    (gI M 12 x0 1).bind fun v29 =>
    (pI M 12 x0 1 (v29 + 1)).bind fun M31 =>
    some M31) else
    (gR M 12 x0 8).bind fun v33 =>
    (gI M 12 x0 1).bind fun v35 =>
    (gR M 12 x0 2).bind fun v37 =>
    (aI M v37 x3).bind fun v39 =>
    (gR M 12 x0 6).bind fun v41 =>
    (gI M 12 x0 1).bind fun v43 =>
    (aI M v41 v43).bind fun v45 =>
    (f_X7_breathByKind v39 v45).bind fun v48 =>
    (eI M v33 ((x3 * 6) + v35) v48).bind fun M49 =>
    (gR M49 12 x0 9).bind fun v51 =>
    (gI M49 12 x0 1).bind fun v53 =>
    (gR M49 12 x0 2).bind fun v55 =>
    (aI M49 v55 x3).bind fun v57 =>
    (gR M49 12 x0 7).bind fun v59 =>
    (gI M49 12 x0 1).bind fun v61 =>
    (aI M49 v59 v61).bind fun v63 =>
    (eI M49 v51 ((x3 * 6) + v53) (f_X7_goldByKind v57 v63)).bind fun M66 =>
    f_X2_takeOrder_59 n x0 (x3 + 1) M66
def f_X2_takeOrder  (x0 : Nat) (x1 : Nat) (x2 : Int32) (M : Mem) : Option Mem :=
  if kd M x0 = 12 then (
  (gI M 12 x0 1).bind fun v1 =>
  if 6 ≤ v1 then (
  some M) else
  (gR M 12 x0 5).bind fun v3 =>
  (gI M 12 x0 1).bind fun v5 =>
  (f_X5_figureAt x1 (x2 + 1) M).bind fun v8 =>
  (eI M v3 v5 v8).bind fun M9 =>
  (gR M9 12 x0 6).bind fun v11 =>
  (gI M9 12 x0 1).bind fun v13 =>
  (f_X5_figureAt x1 (x2 + 2) M9).bind fun v16 =>
  (eI M9 v11 v13 v16).bind fun M17 =>
  (gR M17 12 x0 7).bind fun v19 =>
  (gI M17 12 x0 1).bind fun v21 =>
  (f_X5_figureAt x1 (x2 + 3) M17).bind fun v24 =>
  (eI M17 v19 v21 v24).bind fun M25 =>
  f_X2_takeOrder_59 FU x0 0 M25) else none
def f_X2_takeSigher  (x0 : Nat) (x1 : Nat) (x2 : Int32) (M : Mem) : Option Mem :=
  if kd M x0 = 12 then (
  (gI M 12 x0 0).bind fun v1 =>
  if 5 ≤ v1 then (
  some M) else
  (gR M 12 x0 2).bind fun v3 =>
  (gI M 12 x0 0).bind fun v5 =>
  (f_X5_signAt x1 x2 M).bind fun v8 =>
  (f_X2_kindOf v8).bind fun v10 =>
  (eI M v3 v5 v10).bind fun M11 =>
  (gR M11 12 x0 3).bind fun v13 =>
  (gI M11 12 x0 0).bind fun v15 =>
  (f_X5_figureAt x1 (x2 + 1) M11).bind fun v18 =>
  (eI M11 v13 v15 v18).bind fun M19 =>
  (gR M19 12 x0 4).bind fun v21 =>
  (gI M19 12 x0 0).bind fun v23 =>
  (f_X5_figureAt x1 (x2 + 2) M19).bind fun v26 =>
  (eI M19 v21 v23 v26).bind fun M27 =>
  (gI M27 12 x0 0).bind fun v29 =>
  (pI M27 12 x0 0 (v29 + 1)).bind fun M31 =>
  some M31) else none
def f_X2_takeItem  (x0 : Nat) (x1 : Nat) (x2 : Int32) (M : Mem) : Option (Int32 × Mem) :=
  if kd M x0 = 12 then (
  (f_X5_signAt x1 x2 M).bind fun v2 =>
  if v2 = 111 then (
  (f_X2_takeOrder x0 x1 x2 M).bind fun M6 =>
  some (4, M6)) else
  (f_X2_takeSigher x0 x1 x2 M).bind fun M4 =>
  some (3, M4)) else none
def f_X2_readFrom_77   (x0 : Nat) (x1 : Nat) (M : Mem) : Option (Int32 × Mem) :=
  (gI M 12 x0 1).bind fun v14 =>
  if v14 ≤ 0 then (
  (gI M 15 x1 1).bind fun v16 =>
  some (v16, M)) else
  some ((-9), M)
def f_X2_readFrom_14   : Nat → Nat → Nat → Int32 → Int32 → Mem → Option (Int32 × Mem)
  | 0, _, _, _, _, _ => none
  | n + 1, x0, x1, x2, x3, M =>
    if 60 ≤ x3 then (
    f_X2_readFrom_77 x0 x1 M) else
    (gI M 15 x1 1).bind fun v5 =>
    if v5 ≤ x2 then (
    f_X2_readFrom_77 x0 x1 M) else
    (f_X5_signAt x1 x2 M).bind fun v8 =>
    if v8 = 32 then (
    f_X2_readFrom_14 n x0 x1 (x2 + 1) (x3 + 1) M) else
    (f_X2_faultOfItem x0 x1 x2 M).bind fun v10 =>
    if v10 = (-9) then (
    (f_X2_takeItem x0 x1 x2 M).bind fun qv12 =>
    f_X2_readFrom_14 n x0 x1 (x2 + qv12.1) (x3 + 1) qv12.2) else
    some (v10, M)
def f_X2_readFrom  (x0 : Nat) (x1 : Nat) (M : Mem) : Option (Int32 × Mem) :=
  if kd M x0 = 12 then (
  (pI M 12 x0 0 0).bind fun M1 =>
  (pI M1 12 x0 1 0).bind fun M3 =>
  f_X2_readFrom_14 FU x0 x1 0 0 M3) else none
def f_X7_textOf  (x0 : Nat) (x1 : Int32) (M : Mem) : Option Nat :=
  if kd M x0 = 17 then (
  if x1 < 0 then (
  some 0) else
  (gR M 17 x0 1).bind fun v1 =>
  (aN M 5 v1).bind fun v3 =>
  if v3 ≤ x1 then (
  some 0) else
  (gR M 17 x0 1).bind fun v5 =>
  (aR M 5 v5 x1).bind fun v7 =>
  some v7) else none
def f_X7_fault  (x0 : Nat) (x1 : Int32) (M : Mem) : Option (Int32 × Mem) :=
  if kd M x0 = 17 then (
  (f_X7_textOf x0 x1 M).bind fun v2 =>
  if v2 = 0 then (
  some ((-1), M)) else
  (f_X5_isMissing v2 M).bind fun v5 =>
  if v5 = 0 then (
  (gR M 17 x0 3).bind fun v6 =>
  (f_X2_readFrom v6 v2 M).bind fun qv9 =>
  some (qv9.1, qv9.2)) else
  (f_X7_refuse x0 1 M).bind fun qv12 =>
  some (qv12.1, qv12.2)) else none
def f_X7_finding  (x0 : Nat) (M : Mem) : Option Int32 :=
  if kd M x0 = 17 then (
  (gI M 17 x0 13).bind fun v1 =>
  some v1) else none
def f_X7_findings  (x0 : Nat) (x1 : Int32) (M : Mem) : Option Int32 :=
  if kd M x0 = 17 then (
  if x1 < 1 then (
  some ((-1))) else
  if x1 ≤ 5 then (
  (gR M 17 x0 14).bind fun v1 =>
  (aI M v1 x1).bind fun v3 =>
  some v3) else
  some ((-1))) else none
def f_X1_fits  (x0 : Nat) (x1 : Int32) (x2 : Int32) (M : Mem) : Option Int32 :=
  if kd M x0 = 11 then (
  (gR M 11 x0 3).bind fun v1 =>
  (gR M 11 x0 3).bind fun v3 =>
  (f_X2_hasSigher v3 x1 M).bind fun v6 =>
  if v6 = 0 then (
  some 0) else
  (gI M 11 x0 4).bind fun v7 =>
  if (f_X7_holds v7 x2) = 0 then (
  (gR M 11 x0 3).bind fun v10 =>
  (f_X2_breathFor v10 x1 x2 M).bind fun v13 =>
  if v13 = (-9) then (
  some 0) else
  (gR M 11 x0 1).bind fun v14 =>
  (aI M v14 x1).bind fun v16 =>
  if v16 < v13 then (
  some 0) else
  some 1) else
  some 0) else none
def f_X1_worth  (x0 : Nat) (x1 : Int32) (x2 : Int32) (M : Mem) : Option Int32 :=
  if kd M x0 = 11 then (
  (gI M 11 x0 5).bind fun v1 =>
  if v1 = 0 then (
  some 1) else
  (gR M 11 x0 3).bind fun v3 =>
  (gR M 11 x0 3).bind fun v5 =>
  (f_X2_goldFor v5 x1 x2 M).bind fun v8 =>
  some v8) else none
def f_X1_climb_22 (rc : Nat → Int32 → Int32 → Mem → Option Mem)  (x0 : Nat) (x2 : Int32) (M : Mem) : Option Mem :=
  (gI M 11 x0 6).bind fun v13 =>
  (pI M 11 x0 6 (f_J9_max_7cf53 v13 x2)).bind fun M15 =>
  some M15
def f_X1_climb_53 (rc : Nat → Int32 → Int32 → Mem → Option Mem)  : Nat → Nat → Int32 → Int32 → Int32 → Mem → Option Mem
  | 0, _, _, _, _, _ => none
  | n + 1, x0, x1, x2, x3, M =>
    (gR M 11 x0 3).bind fun v17 =>
    (gI M 12 v17 0).bind fun v19 =>
    if v19 ≤ x3 then (
    (rc x0 (x1 + 1) x2 M).bind fun M22 =>
    some M22) else
    (f_X1_fits x0 x3 x1 M).bind fun v24 =>
    if v24 = 0 then (
    f_X1_climb_53 rc n x0 x1 x2 (x3 + 1) M) else
    (gR M 11 x0 3).bind fun v25 =>
    (f_X2_breathFor v25 x3 x1 M).bind fun v28 =>
    (gR M 11 x0 1).bind fun v29 =>
    (aI M v29 x3).bind fun v31 =>
    (eI M v29 x3 (v31 - v28)).bind fun M33 =>
    (f_X1_worth x0 x3 x1 M33).bind fun v36 =>
    (rc x0 (x1 + 1) (x2 + v36) M33).bind fun M38 =>
    (gR M38 11 x0 1).bind fun v39 =>
    (aI M38 v39 x3).bind fun v41 =>
    (eI M38 v39 x3 (v41 + v28)).bind fun M43 =>
    f_X1_climb_53 rc n x0 x1 x2 (x3 + 1) M43
def f_X1_climb_b (rc : Nat → Int32 → Int32 → Mem → Option Mem) (x0 : Nat) (x1 : Int32) (x2 : Int32) (M : Mem) : Option Mem :=
  if kd M x0 = 11 then (
  (gR M 11 x0 3).bind fun v1 =>
  if x1 < 0 then (
  f_X1_climb_22 rc x0 x2 M) else
  (gR M 11 x0 3).bind fun v3 =>
  (gI M 12 v3 1).bind fun v5 =>
  if x1 < v5 then (
  (gR M 11 x0 2).bind fun v7 =>
  (aI M v7 x1).bind fun v9 =>
  (gI M 11 x0 6).bind fun v11 =>
  if v11 < (x2 + v9) then (
  f_X1_climb_53 rc FU x0 x1 x2 0 M) else
  some M) else
  f_X1_climb_22 rc x0 x2 M) else none
def f_X1_climb : Nat → Nat → Int32 → Int32 → Mem → Option Mem
  | 0, _, _, _, _ => none
  | dp + 1, x0, x1, x2, M => f_X1_climb_b (f_X1_climb dp) x0 x1 x2 M
def f_X1_setBounds_18  (k10 : Nat → Int32 → Mem → Option Mem) : Nat → Nat → Int32 → Int32 → Int32 → Mem → Option Mem
  | 0, _, _, _, _, _ => none
  | n + 1, x0, x1, x2, x3, M =>
    if 5 ≤ x3 then (
    (gR M 11 x0 2).bind fun v5 =>
    (gR M 11 x0 2).bind fun v7 =>
    (aI M v7 (x1 + 1)).bind fun v9 =>
    (eI M v5 x1 (v9 + x2)).bind fun M11 =>
    k10 x0 (x1 + (-1)) M11) else
    (f_X1_fits x0 x3 x1 M).bind fun v14 =>
    if v14 = 0 then (
    f_X1_setBounds_18 k10 n x0 x1 x2 (x3 + 1) M) else
    (f_X1_worth x0 x3 x1 M).bind fun v16 =>
    f_X1_setBounds_18 k10 n x0 x1 (f_J9_max_7cf53 x2 v16) (x3 + 1) M
def f_X1_setBounds_10   : Nat → Nat → Int32 → Mem → Option Mem
  | 0, _, _, _ => none
  | n + 1, x0, x1, M =>
    if x1 < 0 then (
    some M) else
    f_X1_setBounds_18 (f_X1_setBounds_10 n) FU x0 x1 0 0 M
def f_X1_setBounds  (x0 : Nat) (M : Mem) : Option Mem :=
  if kd M x0 = 11 then (
  (gR M 11 x0 2).bind fun v1 =>
  (f_J7_fill_53178 v1 0 M).bind fun M4 =>
  f_X1_setBounds_10 FU x0 5 M4) else none
def f_X1_settle_22 (rc : Nat → Int32 → Int32 → Mem → Option (Int32 × Mem))  (x0 : Nat) (x2 : Int32) (M : Mem) : Option (Int32 × Mem) :=
  (gI M 11 x0 6).bind fun v20 =>
  if x2 < v20 then (
  some (0, M)) else
  some (1, M)
def f_X1_settle_73 (rc : Nat → Int32 → Int32 → Mem → Option (Int32 × Mem))  : Nat → Nat → Int32 → Int32 → Int32 → Int32 → Mem → Option (Int32 × Mem)
  | 0, _, _, _, _, _, _ => none
  | n + 1, x0, x1, x2, x3, x4, M =>
    (gR M 11 x0 3).bind fun v22 =>
    (gI M 12 v22 0).bind fun v24 =>
    if v24 ≤ x4 then (
    (bz x3).bind fun zqb26 =>
    some (x3, M)) else
    if x3 = 0 then (
    (f_X1_fits x0 x4 x1 M).bind fun v31 =>
    if v31 = 0 then (
    f_X1_settle_73 rc n x0 x1 x2 x3 (x4 + 1) M) else
    (gR M 11 x0 3).bind fun v32 =>
    (f_X2_breathFor v32 x4 x1 M).bind fun v35 =>
    (gR M 11 x0 0).bind fun v36 =>
    (eI M v36 x1 x4).bind fun M38 =>
    (gR M38 11 x0 1).bind fun v40 =>
    (aI M38 v40 x4).bind fun v42 =>
    (eI M38 v40 x4 (v42 - v35)).bind fun M44 =>
    (f_X1_worth x0 x4 x1 M44).bind fun v47 =>
    (rc x0 (x1 + 1) (x2 + v47) M44).bind fun qv49 =>
    (gR qv49.2 11 x0 1).bind fun v51 =>
    (aI qv49.2 v51 x4).bind fun v53 =>
    (eI qv49.2 v51 x4 (v53 + v35)).bind fun M55 =>
    f_X1_settle_73 rc n x0 x1 x2 qv49.1 (x4 + 1) M55) else
    (bz x3).bind fun zqb28 =>
    some (x3, M)
def f_X1_settle_b (rc : Nat → Int32 → Int32 → Mem → Option (Int32 × Mem)) (x0 : Nat) (x1 : Int32) (x2 : Int32) (M : Mem) : Option (Int32 × Mem) :=
  if kd M x0 = 11 then (
  (gR M 11 x0 3).bind fun v1 =>
  if x1 < 0 then (
  f_X1_settle_22 rc x0 x2 M) else
  (gR M 11 x0 3).bind fun v3 =>
  (gI M 12 v3 1).bind fun v5 =>
  if x1 < v5 then (
  (gR M 11 x0 2).bind fun v7 =>
  (aI M v7 x1).bind fun v9 =>
  (gI M 11 x0 6).bind fun v11 =>
  if v11 ≤ (x2 + v9) then (
  (gR M 11 x0 0).bind fun v13 =>
  (eI M v13 x1 (-9)).bind fun M15 =>
  (rc x0 (x1 + 1) x2 M15).bind fun qv18 =>
  f_X1_settle_73 rc FU x0 x1 x2 qv18.1 0 qv18.2) else
  some (0, M)) else
  f_X1_settle_22 rc x0 x2 M) else none
def f_X1_settle : Nat → Nat → Int32 → Int32 → Mem → Option (Int32 × Mem)
  | 0, _, _, _, _ => none
  | dp + 1, x0, x1, x2, M => f_X1_settle_b (f_X1_settle dp) x0 x1 x2 M
def f_X1_search  (x0 : Nat) (x1 : Nat) (x2 : Nat) (x3 : Int32) (M : Mem) : Option (Int32 × Mem) :=
  if kd M x0 = 11 then (
  (pN M 11 x0 3 x1).bind fun M1 =>
  (gI M1 16 x2 2).bind fun v3 =>
  (pI M1 11 x0 4 v3).bind fun M5 =>
  (bz x3).bind fun zqb30 =>
  (pI M5 11 x0 5 x3).bind fun M7 =>
  (pI M7 11 x0 6 (-1)).bind fun M9 =>
  (gR M9 16 x2 0).bind fun v11 =>
  (gR M9 11 x0 1).bind fun v13 =>
  (cpI M9 v11 0 v13 0 5).bind fun M15 =>
  (gR M15 11 x0 0).bind fun v17 =>
  (f_J7_fill_53178 v17 (-9) M15).bind fun M20 =>
  (f_X1_setBounds x0 M20).bind fun M22 =>
  (f_X1_climb 8 x0 0 0 M22).bind fun M24 =>
  (f_X1_settle 8 x0 0 0 M24).bind fun qv26 =>
  (gI qv26.2 11 x0 6).bind fun v28 =>
  some (v28, qv26.2)) else none
def f_X7_giveOut  (x0 : Nat) (x1 : Int32) (x2 : Int32) (M : Mem) : Option (Int32 × Mem) :=
  if kd M x0 = 17 then (
  (f_X7_rowOf x0 x1 M).bind fun v2 =>
  if v2 = 0 then (
  some ((-1), M)) else
  (gR M 17 x0 2).bind fun v4 =>
  (gI M 12 v4 0).bind fun v6 =>
  if v6 = 0 then (
  some ((-4), M)) else
  (gR M 17 x0 8).bind fun v8 =>
  (gR M 17 x0 2).bind fun v10 =>
  (gR M 17 x0 4).bind fun v12 =>
  (f_X1_search v8 v10 v12 x2 M).bind fun qv15 =>
  (gR qv15.2 17 x0 2).bind fun v17 =>
  (gI qv15.2 12 v17 1).bind fun v19 =>
  (f_X4_renew v2 v19 qv15.2).bind fun M22 =>
  (gR M22 17 x0 8).bind fun v23 =>
  (gR M22 11 v23 0).bind fun v25 =>
  (gR M22 14 v2 0).bind fun v27 =>
  (gR M22 17 x0 2).bind fun v29 =>
  (gI M22 12 v29 1).bind fun v31 =>
  (cpI M22 v25 0 v27 0 v31).bind fun M33 =>
  some (qv15.1, M33)) else none
def f_X7_give  (x0 : Nat) (x1 : Int32) (M : Mem) : Option (Int32 × Mem) :=
  if kd M x0 = 17 then (
  (f_X7_giveOut x0 x1 1 M).bind fun qv2 =>
  some (qv2.1, qv2.2)) else none
def f_X6_begin  (x0 : Nat) (x1 : Nat) (M : Mem) : Option Mem :=
  if kd M x0 = 16 then (
  (gR M 12 x1 3).bind fun v1 =>
  (gR M 16 x0 0).bind fun v3 =>
  (cpI M v1 0 v3 0 5).bind fun M5 =>
  (gR M5 16 x0 1).bind fun v7 =>
  (f_J7_fill_53178 v7 0 M5).bind fun M10 =>
  (pI M10 16 x0 2 0).bind fun M11 =>
  (pI M11 16 x0 3 0).bind fun M13 =>
  some M13) else none
def f_X7_guild_81   : Nat → Nat → Int32 → Mem → Option (Int32 × Mem)
  | 0, _, _, _ => none
  | n + 1, x0, x4, M =>
    (gR M 17 x0 7).bind fun v32 =>
    (aN M 3 v32).bind fun v34 =>
    if v34 ≤ x4 then (
    (gR M 17 x0 2).bind fun v36 =>
    (gI M 12 v36 1).bind fun v38 =>
    some (v38, M)) else
    (gR M 17 x0 7).bind fun v40 =>
    (aR M 3 v40 x4).bind fun v42 =>
    (pI M 10 v42 1 (-1)).bind fun M44 =>
    f_X7_guild_81 n x0 (x4 + 1) M44
def f_X7_guild  (x0 : Nat) (x1 : Int32) (M : Mem) : Option (Int32 × Mem) :=
  if kd M x0 = 17 then (
  (f_X7_textOf x0 x1 M).bind fun v2 =>
  if v2 = 0 then (
  some ((-1), M)) else
  (f_X5_isMissing v2 M).bind fun v5 =>
  if v5 = 0 then (
  (gR M 17 x0 3).bind fun v6 =>
  (f_X2_readFrom v6 v2 M).bind fun qv9 =>
  if qv9.1 = (-9) then (
  (gR qv9.2 17 x0 2).bind fun v11 =>
  (gR qv9.2 17 x0 3).bind fun v13 =>
  (pN qv9.2 17 x0 2 v13).bind fun M15 =>
  (pN M15 17 x0 3 v11).bind fun M17 =>
  (gR M17 17 x0 4).bind fun v19 =>
  (gR M17 17 x0 2).bind fun v21 =>
  (f_X6_begin v19 v21 M17).bind fun M24 =>
  (gR M24 17 x0 6).bind fun v25 =>
  (pI M24 10 v25 1 0).bind fun M27 =>
  f_X7_guild_81 FU x0 0 M27) else
  some ((-4), qv9.2)) else
  (f_X7_refuse x0 1 M).bind fun qv30 =>
  some (qv30.1, qv30.2)) else none
def f_X2_isSetOfOrders  (x0 : Nat) (x1 : Int32) (M : Mem) : Option Int32 :=
  if kd M x0 = 12 then (
  if x1 < 0 then (
  some 0) else
  (gI M 12 x0 1).bind fun v1 =>
  if (1 <<< (v1 &&& 31)) ≤ x1 then (
  some 0) else
  some 1) else none
def f_X7_stepsThrough_8   : Nat → Nat → Int32 → Int32 → Int32 → Int32 → Int32 → Mem → Option Int32
  | 0, _, _, _, _, _, _, _ => none
  | n + 1, x0, x1, x2, x3, x4, x5, M =>
    (gR M 17 x0 2).bind fun v1 =>
    (gI M 12 v1 1).bind fun v3 =>
    if v3 ≤ x5 then (
    some (((x4 - x3) + (f_J9_min_7cf53 (x4 - x1) (x1 - x3))))) else
    if (f_X7_holds x2 x5) = 0 then (
    f_X7_stepsThrough_8 n x0 x1 x2 x3 x4 (x5 + 1) M) else
    (gR M 17 x0 2).bind fun v6 =>
    (gR M 12 v6 5).bind fun v8 =>
    (aI M v8 x5).bind fun v10 =>
    (gR M 17 x0 2).bind fun v12 =>
    (gR M 12 v12 5).bind fun v14 =>
    (aI M v14 x5).bind fun v16 =>
    f_X7_stepsThrough_8 n x0 x1 x2 (f_J9_min_7cf53 x3 v10) (f_J9_max_7cf53 x4 v16) (x5 + 1) M
def f_X7_stepsThrough  (x0 : Nat) (x1 : Int32) (x2 : Int32) (M : Mem) : Option Int32 :=
  if kd M x0 = 17 then (
  f_X7_stepsThrough_8 FU x0 x1 x2 x1 x1 0 M) else none
def f_X7_hours_42   : Nat → Nat → Int32 → Int32 → Int32 → Int32 → Mem → Option Int32
  | 0, _, _, _, _, _, _ => none
  | n + 1, x0, x1, x3, x4, x5, M =>
    (gR M 17 x0 2).bind fun v13 =>
    (gI M 12 v13 1).bind fun v15 =>
    if v15 ≤ x5 then (
    (gR M 17 x0 4).bind fun v17 =>
    (gR M 16 v17 0).bind fun v19 =>
    (aI M v19 x1).bind fun v21 =>
    if x4 ≤ v21 then (
    (gR M 17 x0 4).bind fun v23 =>
    (gR M 16 v23 1).bind fun v25 =>
    (aI M v25 x1).bind fun v27 =>
    (f_X7_stepsThrough x0 v27 x3 M).bind fun v30 =>
    some ((v30 + (f_J6_bitCount_0f7a4 x3)))) else
    some ((-9))) else
    if (f_X7_holds x3 x5) = 0 then (
    f_X7_hours_42 n x0 x1 x3 x4 (x5 + 1) M) else
    (gR M 17 x0 2).bind fun v33 =>
    (f_X2_breathFor v33 x1 x5 M).bind fun v36 =>
    if v36 = (-9) then (
    some ((-9))) else
    f_X7_hours_42 n x0 x1 x3 (x4 + v36) (x5 + 1) M
def f_X7_hours  (x0 : Nat) (x1 : Int32) (x2 : Int32) (M : Mem) : Option Int32 :=
  if kd M x0 = 17 then (
  (gR M 17 x0 2).bind fun v1 =>
  (f_X2_hasSigher v1 x1 M).bind fun v4 =>
  if v4 = 0 then (
  some ((-1))) else
  (gR M 17 x0 2).bind fun v5 =>
  (f_X2_isSetOfOrders v5 x2 M).bind fun v8 =>
  if v8 = 0 then (
  some ((-1))) else
  (gR M 17 x0 4).bind fun v9 =>
  (gI M 16 v9 2).bind fun v11 =>
  f_X7_hours_42 FU x0 x1 (x2 &&& (v11 ^^^ (-1))) 0 0 M) else none
def f_X0_takeOver  (x0 : Nat) (x1 : Nat) (M : Mem) : Option Mem :=
  if kd M x0 = 10 then (
  (gR M 10 x1 0).bind fun v1 =>
  (gR M 10 x0 0).bind fun v3 =>
  (cpI M v1 0 v3 0 40).bind fun M5 =>
  (gI M5 10 x1 1).bind fun v7 =>
  (pI M5 10 x0 1 v7).bind fun M9 =>
  some M9) else none
def f_X7_keptOf  (x0 : Nat) (x1 : Int32) (M : Mem) : Option Nat :=
  if kd M x0 = 17 then (
  if x1 < 0 then (
  some 0) else
  (gR M 17 x0 7).bind fun v1 =>
  (aN M 3 v1).bind fun v3 =>
  if v3 ≤ x1 then (
  some 0) else
  (gR M 17 x0 7).bind fun v5 =>
  (aR M 3 v5 x1).bind fun v7 =>
  some v7) else none
def f_X7_keep  (x0 : Nat) (x1 : Int32) (M : Mem) : Option (Int32 × Mem) :=
  if kd M x0 = 17 then (
  (f_X7_keptOf x0 x1 M).bind fun v2 =>
  if v2 = 0 then (
  some ((-1), M)) else
  (gR M 17 x0 2).bind fun v4 =>
  (gI M 12 v4 0).bind fun v6 =>
  if v6 = 0 then (
  some ((-4), M)) else
  (gR M 17 x0 6).bind fun v8 =>
  (f_X0_takeOver v2 v8 M).bind fun M11 =>
  (gI M11 10 v2 1).bind fun v12 =>
  some (v12, M11)) else none
def f_X7_kinds_48   : Nat → Nat → Int32 → Nat → Int32 → Int32 → Mem → Option (Int32 × Mem)
  | 0, _, _, _, _, _, _ => none
  | n + 1, x0, x1, x3, x5, x6, M =>
    if 5 < x6 then (
    some (x5, M)) else
    (f_X7_breathOfPairs x0 x3 x6 M).bind fun v18 =>
    if v18 = (-9) then (
    f_X7_kinds_48 n x0 x1 x3 x5 (x6 + 1) M) else
    (gR M 17 x0 4).bind fun v19 =>
    (gR M 16 v19 0).bind fun v21 =>
    (aI M v21 x1).bind fun v23 =>
    if v23 < v18 then (
    f_X7_kinds_48 n x0 x1 x3 x5 (x6 + 1) M) else
    f_X7_kinds_48 n x0 x1 x3 (x5 ||| (1 <<< (x6 &&& 31))) (x6 + 1) M
def f_X7_kinds  (x0 : Nat) (x1 : Int32) (x2 : Int32) (M : Mem) : Option (Int32 × Mem) :=
  if kd M x0 = 17 then (
  (f_X7_rowOf x0 x2 M).bind fun v2 =>
  if v2 = 0 then (
  (gR M 17 x0 2).bind fun v4 =>
  (f_X2_hasSigher v4 x1 M).bind fun v7 =>
  if v7 = 0 then (
  some ((-1), M)) else
  some ((-1), M)) else
  (gR M 17 x0 2).bind fun v8 =>
  (f_X2_hasSigher v8 x1 M).bind fun v11 =>
  if v11 = 0 then (
  some ((-1), M)) else
  (f_X7_findingOfPairs x0 v2 M).bind fun v13 =>
  if v13 = 0 then (
  f_X7_kinds_48 FU x0 x1 v2 0 0 M) else
  (f_X7_refuse x0 v13 M).bind fun qv15 =>
  some (qv15.1, qv15.2)) else none
def f_X7_lay  (x0 : Nat) (x1 : Int32) (x2 : Int32) (x3 : Int32) (M : Mem) : Option (Int32 × Mem) :=
  if kd M x0 = 17 then (
  (f_X7_rowOf x0 x1 M).bind fun v2 =>
  if v2 = 0 then (
  some ((-1), M)) else
  (f_X4_isMissing v2 M).bind fun v5 =>
  if v5 = 0 then (
  (f_X4_has v2 x2 M).bind fun v7 =>
  if v7 = 0 then (
  (f_X7_refuse x0 2 M).bind fun qv19 =>
  some (qv19.1, qv19.2)) else
  (gR M 14 v2 0).bind fun v8 =>
  (aI M v8 x2).bind fun v10 =>
  (pI M 17 x0 10 v10).bind fun M12 =>
  (gR M12 14 v2 0).bind fun v14 =>
  (eI M12 v14 x2 x3).bind fun M16 =>
  some (1, M16)) else
  (f_X7_refuse x0 1 M).bind fun qv22 =>
  some (qv22.1, qv22.2)) else none
def f_X2_ordersAt_4   : Nat → Nat → Int32 → Int32 → Int32 → Mem → Option Int32
  | 0, _, _, _, _, _ => none
  | n + 1, x0, x1, x2, x3, M =>
    (gI M 12 x0 1).bind fun v1 =>
    if v1 ≤ x3 then (
    some x2) else
    (gR M 12 x0 5).bind fun v3 =>
    (aI M v3 x3).bind fun v5 =>
    if v5 = x1 then (
    f_X2_ordersAt_4 n x0 x1 (x2 ||| (1 <<< (x3 &&& 31))) (x3 + 1) M) else
    f_X2_ordersAt_4 n x0 x1 x2 (x3 + 1) M
def f_X2_ordersAt  (x0 : Nat) (x1 : Int32) (M : Mem) : Option Int32 :=
  if kd M x0 = 12 then (
  f_X2_ordersAt_4 FU x0 x1 0 0 M) else none
def f_X7_isPlace  (x0 : Int32) : Int32 :=
  if x0 < 0 then (
  0) else
  if 10 ≤ x0 then (
  0) else
  1
def f_X7_loose_36   : Nat → Nat → Int32 → Int32 → Int32 → Int32 → Int32 → Mem → Option Int32
  | 0, _, _, _, _, _, _, _ => none
  | n + 1, x0, x1, x2, x3, x4, x5, M =>
    if x3 < x5 then (
    some x4) else
    if x2 ≤ x5 then (
    some x4) else
    (gR M 17 x0 2).bind fun v2 =>
    (f_X2_ordersAt v2 ((x1 + x5) - (x1 + x5) / 10 * 10) M).bind fun v5 =>
    f_X7_loose_36 n x0 x1 x2 x3 (x4 ||| v5) (x5 + 1) M
def f_X7_loose  (x0 : Nat) (x1 : Int32) (x2 : Int32) (x3 : Int32) (M : Mem) : Option Int32 :=
  if kd M x0 = 17 then (
  if (f_X7_isPlace x1) = 0 then (
  some ((-1))) else
  if x2 < 1 then (
  some ((-1))) else
  if 9 < x2 then (
  some ((-1))) else
  if x3 < 0 then (
  some ((-1))) else
  if x3 ≤ 20 then (
  f_X7_loose_36 FU x0 x1 x2 x3 0 0 M) else
  some ((-1))) else none
def f_X0_lackRoomFor  (x0 : Nat) (x1 : Int32) (M : Mem) : Option Int32 :=
  if kd M x0 = 10 then (
  (gI M 10 x0 1).bind fun v1 =>
  if (v1 + x1) ≤ 40 then (
  some 0) else
  some 1) else none
def f_X0_codeOf  (x0 : Int32) (x1 : Int32) (x2 : Int32) : Int32 :=
  (((x0 * 100) + (x1 * 10)) + x2)
def f_X0_write  (x0 : Nat) (x1 : Int32) (M : Mem) : Option Mem :=
  if kd M x0 = 10 then (
  (gI M 10 x0 1).bind fun v1 =>
  if v1 < 0 then (
  some M) else
  (gI M 10 x0 1).bind fun v3 =>
  if 40 ≤ v3 then (
  some M) else
  (gR M 10 x0 0).bind fun v5 =>
  (gI M 10 x0 1).bind fun v7 =>
  (eI M v5 v7 x1).bind fun M9 =>
  (gI M9 10 x0 1).bind fun v11 =>
  (pI M9 10 x0 1 (v11 + 1)).bind fun M13 =>
  some M13) else none
def f_X0_sigherOf  (x0 : Int32) : Int32 :=
  ((x0 / 10) - (x0 / 10) / 10 * 10)
def f_X0_targetOf  (x0 : Int32) : Int32 :=
  (x0 - x0 / 10 * 10)
def f_X0_whatOf  (x0 : Int32) : Int32 :=
  (x0 / 100)
def f_X6_sighOrder  (x0 : Nat) (x1 : Nat) (x2 : Int32) (x3 : Int32) (M : Mem) : Option Mem :=
  if kd M x0 = 16 then (
  (f_X6_isAble x0 x1 x2 x3 M).bind fun v2 =>
  if v2 = 0 then (
  some M) else
  (gR M 16 x0 0).bind fun v3 =>
  (aI M v3 x2).bind fun v5 =>
  (f_X2_breathFor x1 x2 x3 M).bind fun v8 =>
  (eI M v3 x2 (v5 - v8)).bind fun M9 =>
  (gI M9 16 x0 3).bind fun v11 =>
  (f_X2_goldFor x1 x2 x3 M9).bind fun v14 =>
  (pI M9 16 x0 3 (v11 + v14)).bind fun M15 =>
  (gI M15 16 x0 2).bind fun v17 =>
  (pI M15 16 x0 2 (v17 ||| (1 <<< (x3 &&& 31)))).bind fun M19 =>
  some M19) else none
def f_X6_perform  (x0 : Nat) (x1 : Nat) (x2 : Int32) (M : Mem) : Option Mem :=
  if kd M x0 = 16 then (
  (f_X2_hasSigher x1 (f_X0_sigherOf x2) M).bind fun v3 =>
  if v3 = 0 then (
  some M) else
  if (f_X0_whatOf x2) = 0 then (
  (gR M 16 x0 1).bind fun v6 =>
  (eI M v6 (f_X0_sigherOf x2) (f_X0_targetOf x2)).bind fun M9 =>
  some M9) else
  if (f_X0_whatOf x2) = 1 then (
  (f_X6_sighOrder x0 x1 (f_X0_sigherOf x2) (f_X0_targetOf x2) M).bind fun M14 =>
  some M14) else
  (gR M 16 x0 0).bind fun v15 =>
  (gR M 16 x0 0).bind fun v17 =>
  (aI M v17 (f_X0_sigherOf x2)).bind fun v19 =>
  (eI M v15 (f_X0_sigherOf x2) (f_J9_min_7cf53 9 (v19 + 2))).bind fun M21 =>
  some M21) else none
def f_X7_enact  (x0 : Nat) (x1 : Int32) (x2 : Int32) (x3 : Int32) (M : Mem) : Option Mem :=
  if kd M x0 = 17 then (
  (gR M 17 x0 6).bind fun v2 =>
  (f_X0_write v2 (f_X0_codeOf x1 x2 x3) M).bind fun M5 =>
  (gR M5 17 x0 4).bind fun v6 =>
  (gR M5 17 x0 2).bind fun v8 =>
  (f_X6_perform v6 v8 (f_X0_codeOf x1 x2 x3) M5).bind fun M11 =>
  some M11) else none
def f_X7_enactLot_116   (x0 : Nat) (x2 : Int32) (x3 : Int32) (M : Mem) : Option Mem :=
  (gR M 17 x0 2).bind fun v41 =>
  (gR M 12 v41 5).bind fun v43 =>
  (aI M v43 x3).bind fun v45 =>
  (f_X7_enact x0 0 x2 v45 M).bind fun M48 =>
  some M48
def f_X7_enactLot  (x0 : Nat) (x1 : Int32) (M : Mem) : Option Mem :=
  if kd M x0 = 17 then (
  if x1 < 0 then (
  some M) else
  (gR M 17 x0 2).bind fun v1 =>
  (gI M 12 v1 0).bind fun v3 =>
  if v3 < 1 then (
  some M) else
  (gR M 17 x0 2).bind fun v5 =>
  (gI M 12 v5 1).bind fun v7 =>
  if 1 ≤ v7 then (
  (gR M 17 x0 2).bind fun v9 =>
  (gI M 12 v9 0).bind fun v11 =>
  if v11 = 0 then none else
  (gR M 17 x0 2).bind fun v13 =>
  (gI M 12 v13 1).bind fun v15 =>
  if v15 = 0 then none else
  if ((x1 / 8) - (x1 / 8) / 4 * 4) = 0 then (
  (f_X7_enact x0 2 (x1 - x1 / v11 * v11) 0 M).bind fun M38 =>
  some M38) else
  (gR M 17 x0 4).bind fun v17 =>
  (gR M 17 x0 2).bind fun v19 =>
  (f_X6_isAble v17 v19 (x1 - x1 / v11 * v11) ((x1 / 64) - (x1 / 64) / v15 * v15) M).bind fun v22 =>
  if v22 = 0 then (
  f_X7_enactLot_116 x0 (x1 - x1 / v11 * v11) ((x1 / 64) - (x1 / 64) / v15 * v15) M) else
  (gR M 17 x0 4).bind fun v23 =>
  (gR M 16 v23 1).bind fun v25 =>
  (aI M v25 (x1 - x1 / v11 * v11)).bind fun v27 =>
  (gR M 17 x0 2).bind fun v29 =>
  (gR M 12 v29 5).bind fun v31 =>
  (aI M v31 ((x1 / 64) - (x1 / 64) / v15 * v15)).bind fun v33 =>
  if v27 = v33 then (
  (f_X7_enact x0 1 (x1 - x1 / v11 * v11) ((x1 / 64) - (x1 / 64) / v15 * v15) M).bind fun M36 =>
  some M36) else
  f_X7_enactLot_116 x0 (x1 - x1 / v11 * v11) ((x1 / 64) - (x1 / 64) / v15 * v15) M) else
  some M) else none
def f_X7_lots_60   : Nat → Nat → Int32 → Int64 → Int32 → Mem → Option (Int32 × Mem)
  | 0, _, _, _, _, _ => none
  | n + 1, x0, x1, x3, x5, M =>
    if x1 ≤ x5 then (
    (gR M 17 x0 4).bind fun v9 =>
    (gI M 16 v9 3).bind fun v11 =>
    some (v11, M)) else
    (f_X7_enactLot x0 (Int64.toInt32 ((x3 * 48271) - (x3 * 48271) / 2147483647 * 2147483647)) M).bind fun M14 =>
    f_X7_lots_60 n x0 x1 ((x3 * 48271) - (x3 * 48271) / 2147483647 * 2147483647) (x5 + 1) M14
def f_X7_lots  (x0 : Nat) (x1 : Int32) (x2 : Int32) (M : Mem) : Option (Int32 × Mem) :=
  if kd M x0 = 17 then (
  if x1 < 1 then (
  some ((-1), M)) else
  if 20 < x1 then (
  some ((-1), M)) else
  if x2 < 1 then (
  some ((-1), M)) else
  if (lg_cmp (Int32.toInt64 x2) 2147483647) < 0 then (
  (gR M 17 x0 2).bind fun v1 =>
  (gI M 12 v1 0).bind fun v3 =>
  if v3 = 0 then (
  some ((-4), M)) else
  (gR M 17 x0 6).bind fun v5 =>
  (f_X0_lackRoomFor v5 x1 M).bind fun v8 =>
  if v8 = 0 then (
  f_X7_lots_60 FU x0 x1 (Int32.toInt64 x2) 0 M) else
  some ((-2), M)) else
  some ((-1), M)) else none
def f_X7_lower  (x0 : Nat) (M : Mem) : Option Int64 :=
  if kd M x0 = 17 then (
  (gL M 17 x0 12).bind fun v1 =>
  some v1) else none
def f_X7_markOfOrder  (x0 : Nat) (x1 : Int32) (x2 : Int32) (x3 : Int32) (M : Mem) : Option Int32 :=
  if kd M x0 = 17 then (
  (gR M 17 x0 2).bind fun v1 =>
  (gR M 12 v1 6).bind fun v3 =>
  (aI M v3 x3).bind fun v5 =>
  (gR M 17 x0 2).bind fun v7 =>
  (gR M 12 v7 2).bind fun v9 =>
  (aI M v9 x1).bind fun v11 =>
  (f_X7_isTooDeep v11 v5).bind fun v14 =>
  if x2 = 1 then (
  (gR M 17 x0 2).bind fun v16 =>
  (f_X2_breathFor v16 x1 x3 M).bind fun v19 =>
  some ((v5 - v19))) else
  if x2 = 2 then (
  if v14 = 0 then (
  some 0) else
  some 1) else
  if x2 = 3 then (
  (gR M 17 x0 2).bind fun v22 =>
  (gR M 12 v22 7).bind fun v24 =>
  (aI M v24 x3).bind fun v26 =>
  (gR M 17 x0 2).bind fun v28 =>
  (f_X2_goldFor v28 x1 x3 M).bind fun v31 =>
  some ((v26 - v31))) else
  if x2 = 4 then (
  (gR M 17 x0 4).bind fun v33 =>
  (f_X6_isDone v33 x3 M).bind fun v36 =>
  if v36 = 0 then (
  some 1) else
  some 0) else
  if v14 = 0 then (
  (f_X7_isTooDeep 2 v5).bind fun v38 =>
  if v38 = 0 then (
  some 0) else
  some 1) else
  some 0) else none
def f_X7_mark_50   : Nat → Nat → Int32 → Int32 → Int32 → Int32 → Mem → Option (Int32 × Mem)
  | 0, _, _, _, _, _, _ => none
  | n + 1, x0, x1, x2, x3, x4, M =>
    (gR M 17 x0 2).bind fun v16 =>
    (gI M 12 v16 1).bind fun v18 =>
    if v18 ≤ x4 then (
    some (x3, M)) else
    (f_X7_markOfOrder x0 x1 x2 x4 M).bind fun v21 =>
    f_X7_mark_50 n x0 x1 x2 (x3 + v21) (x4 + 1) M
def f_X7_mark  (x0 : Nat) (x1 : Int32) (x2 : Int32) (M : Mem) : Option (Int32 × Mem) :=
  if kd M x0 = 17 then (
  (gR M 17 x0 2).bind fun v1 =>
  (f_X2_hasSigher v1 x1 M).bind fun v4 =>
  if v4 = 0 then (
  some ((-1), M)) else
  if x2 < 1 then (
  some ((-1), M)) else
  if x2 ≤ 5 then (
  (gR M 17 x0 2).bind fun v5 =>
  (gR M 12 v5 2).bind fun v7 =>
  (aI M v7 x1).bind fun v9 =>
  (f_X7_isOf v9 x2).bind fun v12 =>
  if v12 = 0 then (
  (f_X7_refuse x0 3 M).bind fun qv14 =>
  some (qv14.1, qv14.2)) else
  f_X7_mark_50 FU x0 x1 x2 0 0 M) else
  some ((-1), M)) else none
def f_X4_total_4   : Nat → Nat → Int64 → Int32 → Mem → Option Int64
  | 0, _, _, _, _ => none
  | n + 1, x0, x1, x3, M =>
    (gI M 14 x0 1).bind fun v1 =>
    if v1 ≤ x3 then (
    some x1) else
    (gR M 14 x0 0).bind fun v3 =>
    (aI M v3 x3).bind fun v5 =>
    f_X4_total_4 n x0 (x1 + (Int32.toInt64 v5)) (x3 + 1) M
def f_X4_total  (x0 : Nat) (M : Mem) : Option Int64 :=
  if kd M x0 = 14 then (
  f_X4_total_4 FU x0 0 0 M) else none
def f_X7_mean  (x0 : Nat) (x1 : Int32) (M : Mem) : Option (Int32 × Mem) :=
  if kd M x0 = 17 then (
  (f_X7_rowOf x0 x1 M).bind fun v2 =>
  if v2 = 0 then (
  some ((-1), M)) else
  (f_X4_isMissing v2 M).bind fun v5 =>
  if v5 = 0 then (
  (gI M 14 v2 1).bind fun v6 =>
  if v6 = 0 then (
  (f_X7_refuse x0 4 M).bind fun qv16 =>
  some (qv16.1, qv16.2)) else
  (f_X4_total v2 M).bind fun v9 =>
  (gI M 14 v2 1).bind fun v10 =>
  if (Int32.toInt64 v10) = 0 then none else
  (pI M 17 x0 10 (Int64.toInt32 (v9 / (Int32.toInt64 v10)))).bind fun M12 =>
  some (1, M12)) else
  (f_X7_refuse x0 1 M).bind fun qv19 =>
  some (qv19.1, qv19.2)) else none
def f_X6_takeOver  (x0 : Nat) (x1 : Nat) (M : Mem) : Option Mem :=
  if kd M x0 = 16 then (
  (gR M 16 x1 0).bind fun v1 =>
  (gR M 16 x0 0).bind fun v3 =>
  (cpI M v1 0 v3 0 5).bind fun M5 =>
  (gR M5 16 x1 1).bind fun v7 =>
  (gR M5 16 x0 1).bind fun v9 =>
  (cpI M5 v7 0 v9 0 5).bind fun M11 =>
  (gI M11 16 x1 2).bind fun v13 =>
  (pI M11 16 x0 2 v13).bind fun M15 =>
  (gI M15 16 x1 3).bind fun v17 =>
  (pI M15 16 x0 3 v17).bind fun M19 =>
  some M19) else none
def f_X7_plainGold_34  (k21 : Nat → Int32 → Int32 → Mem → Option (Int32 × Mem)) : Nat → Nat → Int32 → Int32 → Int32 → Mem → Option (Int32 × Mem)
  | 0, _, _, _, _, _ => none
  | n + 1, x0, x1, x2, x3, M =>
    (gR M 17 x0 2).bind fun v19 =>
    (gI M 12 v19 0).bind fun v21 =>
    if v21 ≤ x3 then (
    k21 x0 x1 (x2 + 1) M) else
    if (f_X7_holds x1 x2) = 0 then (
    (gR M 17 x0 5).bind fun v24 =>
    (gR M 17 x0 2).bind fun v26 =>
    (f_X6_isAble v24 v26 x3 x2 M).bind fun v29 =>
    if v29 = 0 then (
    f_X7_plainGold_34 k21 n x0 x1 x2 (x3 + 1) M) else
    (gR M 17 x0 5).bind fun v30 =>
    (gR M 17 x0 2).bind fun v32 =>
    (f_X6_sighOrder v30 v32 x3 x2 M).bind fun M35 =>
    f_X7_plainGold_34 k21 n x0 x1 x2 (x3 + 1) M35) else
    k21 x0 x1 (x2 + 1) M
def f_X7_plainGold_21   : Nat → Nat → Int32 → Int32 → Mem → Option (Int32 × Mem)
  | 0, _, _, _, _ => none
  | n + 1, x0, x1, x2, M =>
    (gR M 17 x0 2).bind fun v11 =>
    (gI M 12 v11 1).bind fun v13 =>
    if v13 ≤ x2 then (
    (gR M 17 x0 5).bind fun v15 =>
    (gI M 16 v15 3).bind fun v17 =>
    some (v17, M)) else
    f_X7_plainGold_34 (f_X7_plainGold_21 n) FU x0 x1 x2 0 M
def f_X7_plainGold  (x0 : Nat) (x1 : Int32) (M : Mem) : Option (Int32 × Mem) :=
  if kd M x0 = 17 then (
  (gR M 17 x0 5).bind fun v1 =>
  (gR M 17 x0 4).bind fun v3 =>
  (f_X6_takeOver v1 v3 M).bind fun M6 =>
  (gR M6 17 x0 5).bind fun v7 =>
  (pI M6 16 v7 3 0).bind fun M9 =>
  f_X7_plainGold_21 FU x0 x1 0 M9) else none
def f_X7_tellChance_45   (x0 : Nat) (x1 : Int64) (x3 : Int64) (x5 : Int64) (M : Mem) : Option Mem :=
  if (lg_cmp x5 0) ≤ 0 then (
  some M) else
  if x5 = 0 then none else
  (pL M 17 x0 11 (x1 / x5)).bind fun M2 =>
  if x5 = 0 then none else
  (pL M2 17 x0 12 (x3 / x5)).bind fun M4 =>
  some M4
def f_X7_tellChance_9   : Nat → Nat → Int64 → Int64 → Int64 → Int64 → Int32 → Mem → Option Mem
  | 0, _, _, _, _, _, _, _ => none
  | n + 1, x0, x1, x3, x5, x7, x9, M =>
    if 128 ≤ x9 then (
    f_X7_tellChance_45 x0 x1 x3 x5 M) else
    if (lg_cmp x7 0) = 0 then (
    f_X7_tellChance_45 x0 x1 x3 x5 M) else
    if x7 = 0 then none else
    f_X7_tellChance_9 n x0 x1 x3 x7 (x5 - x5 / x7 * x7) (x9 + 1) M
def f_X7_tellChance  (x0 : Nat) (x1 : Int64) (x3 : Int64) (M : Mem) : Option Mem :=
  if kd M x0 = 17 then (
  f_X7_tellChance_9 FU x0 x1 x3 x3 x1 0 M) else none
def f_X7_weightOf_5   : Nat → Nat → Int32 → Int32 → Int64 → Int32 → Mem → Option Int64
  | 0, _, _, _, _, _, _ => none
  | n + 1, x0, x1, x2, x3, x5, M =>
    (gR M 17 x0 2).bind fun v1 =>
    (gI M 12 v1 1).bind fun v3 =>
    if v3 ≤ x5 then (
    some x3) else
    (gR M 17 x0 4).bind fun v5 =>
    (f_X6_isDone v5 x5 M).bind fun v8 =>
    if v8 = 0 then (
    if (f_X7_holds x1 x5) = 0 then (
    f_X7_weightOf_5 n x0 x1 x2 (x3 * (Int32.toInt64 (12 - x2))) (x5 + 1) M) else
    f_X7_weightOf_5 n x0 x1 x2 (x3 * (Int32.toInt64 x2)) (x5 + 1) M) else
    f_X7_weightOf_5 n x0 x1 x2 x3 (x5 + 1) M
def f_X7_weightOf  (x0 : Nat) (x1 : Int32) (x2 : Int32) (M : Mem) : Option Int64 :=
  if kd M x0 = 17 then (
  f_X7_weightOf_5 FU x0 x1 x2 1 0 M) else none
def f_X7_weightOfAll_4   : Nat → Nat → Int64 → Int32 → Mem → Option Int64
  | 0, _, _, _, _ => none
  | n + 1, x0, x1, x3, M =>
    (gR M 17 x0 2).bind fun v1 =>
    (gI M 12 v1 1).bind fun v3 =>
    if v3 ≤ x3 then (
    some x1) else
    (gR M 17 x0 4).bind fun v5 =>
    (f_X6_isDone v5 x3 M).bind fun v8 =>
    if v8 = 0 then (
    f_X7_weightOfAll_4 n x0 (x1 * 12) (x3 + 1) M) else
    f_X7_weightOfAll_4 n x0 x1 (x3 + 1) M
def f_X7_weightOfAll  (x0 : Nat) (M : Mem) : Option Int64 :=
  if kd M x0 = 17 then (
  f_X7_weightOfAll_4 FU x0 1 0 M) else none
def f_X7_mid_30   : Nat → Nat → Int32 → Int64 → Int32 → Mem → Option (Int32 × Mem)
  | 0, _, _, _, _, _ => none
  | n + 1, x0, x1, x2, x4, M =>
    (gR M 17 x0 2).bind fun v5 =>
    (gI M 12 v5 1).bind fun v7 =>
    if (1 <<< (v7 &&& 31)) ≤ x4 then (
    (f_X7_weightOfAll x0 M).bind fun v10 =>
    (f_X7_tellChance x0 x2 v10 M).bind fun M12 =>
    some (1, M12)) else
    (gR M 17 x0 4).bind fun v13 =>
    (gI M 16 v13 2).bind fun v15 =>
    if (x4 &&& v15) = 0 then (
    (f_X7_weightOf x0 x4 x1 M).bind fun v18 =>
    (f_X7_plainGold x0 x4 M).bind fun qv20 =>
    f_X7_mid_30 n x0 x1 (x2 + (v18 * (Int32.toInt64 qv20.1))) (x4 + 1) qv20.2) else
    f_X7_mid_30 n x0 x1 x2 (x4 + 1) M
def f_X7_mid  (x0 : Nat) (x1 : Int32) (M : Mem) : Option (Int32 × Mem) :=
  if kd M x0 = 17 then (
  if x1 < 0 then (
  some ((-1), M)) else
  if x1 ≤ 12 then (
  (gR M 17 x0 2).bind fun v1 =>
  (gI M 12 v1 0).bind fun v3 =>
  if v3 = 0 then (
  some ((-4), M)) else
  f_X7_mid_30 FU x0 x1 0 0 M) else
  some ((-1), M)) else none
def f_X7_most  (x0 : Nat) (x1 : Int32) (M : Mem) : Option (Int32 × Mem) :=
  if kd M x0 = 17 then (
  (f_X7_giveOut x0 x1 0 M).bind fun qv2 =>
  some (qv2.1, qv2.2)) else none
def f_X7_odds_40   : Nat → Nat → Int32 → Int32 → Int64 → Int32 → Mem → Option (Int32 × Mem)
  | 0, _, _, _, _, _, _ => none
  | n + 1, x0, x1, x2, x3, x5, M =>
    (gR M 17 x0 2).bind fun v5 =>
    (gI M 12 v5 1).bind fun v7 =>
    if (1 <<< (v7 &&& 31)) ≤ x5 then (
    (f_X7_weightOfAll x0 M).bind fun v10 =>
    (f_X7_tellChance x0 x3 v10 M).bind fun M12 =>
    some (1, M12)) else
    (gR M 17 x0 4).bind fun v13 =>
    (gI M 16 v13 2).bind fun v15 =>
    if (x5 &&& v15) = 0 then (
    (f_X7_plainGold x0 x5 M).bind fun qv18 =>
    if qv18.1 < x1 then (
    f_X7_odds_40 n x0 x1 x2 x3 (x5 + 1) qv18.2) else
    (f_X7_weightOf x0 x5 x2 qv18.2).bind fun v21 =>
    f_X7_odds_40 n x0 x1 x2 (x3 + v21) (x5 + 1) qv18.2) else
    f_X7_odds_40 n x0 x1 x2 x3 (x5 + 1) M
def f_X7_odds  (x0 : Nat) (x1 : Int32) (x2 : Int32) (M : Mem) : Option (Int32 × Mem) :=
  if kd M x0 = 17 then (
  if x1 < 0 then (
  some ((-1), M)) else
  if 66 < x1 then (
  some ((-1), M)) else
  if x2 < 0 then (
  some ((-1), M)) else
  if x2 ≤ 12 then (
  (gR M 17 x0 2).bind fun v1 =>
  (gI M 12 v1 0).bind fun v3 =>
  if v3 = 0 then (
  some ((-4), M)) else
  f_X7_odds_40 FU x0 x1 x2 0 0 M) else
  some ((-1), M)) else none
def f_X7_doAgain_13   : Nat → Nat → Int32 → Mem → Option Mem
  | 0, _, _, _ => none
  | n + 1, x0, x1, M =>
    (gR M 17 x0 6).bind fun v7 =>
    (gI M 10 v7 1).bind fun v9 =>
    if v9 ≤ x1 then (
    some M) else
    if 40 ≤ x1 then (
    some M) else
    (gR M 17 x0 4).bind fun v11 =>
    (gR M 17 x0 2).bind fun v13 =>
    (gR M 17 x0 6).bind fun v15 =>
    (gR M 10 v15 0).bind fun v17 =>
    (aI M v17 x1).bind fun v19 =>
    (f_X6_perform v11 v13 v19 M).bind fun M22 =>
    f_X7_doAgain_13 n x0 (x1 + 1) M22
def f_X7_doAgain  (x0 : Nat) (M : Mem) : Option Mem :=
  if kd M x0 = 17 then (
  (gR M 17 x0 4).bind fun v1 =>
  (gR M 17 x0 2).bind fun v3 =>
  (f_X6_begin v1 v3 M).bind fun M6 =>
  f_X7_doAgain_13 FU x0 0 M6) else none
def f_X7_on  (x0 : Nat) (x1 : Int32) (M : Mem) : Option (Int32 × Mem) :=
  if kd M x0 = 17 then (
  (f_X7_keptOf x0 x1 M).bind fun v2 =>
  if v2 = 0 then (
  some ((-1), M)) else
  (gI M 10 v2 1).bind fun v4 =>
  if v4 = (-1) then (
  (f_X7_refuse x0 1 M).bind fun qv17 =>
  some (qv17.1, qv17.2)) else
  (gR M 17 x0 6).bind fun v6 =>
  (f_X0_takeOver v6 v2 M).bind fun M9 =>
  (f_X7_doAgain x0 M9).bind fun M11 =>
  (gR M11 17 x0 6).bind fun v12 =>
  (gI M11 10 v12 1).bind fun v14 =>
  some (v14, M11)) else none
def f_X7_order  (x0 : Nat) (x1 : Int32) (x2 : Int32) (M : Mem) : Option (Int32 × Mem) :=
  if kd M x0 = 17 then (
  (gR M 17 x0 2).bind fun v1 =>
  (f_X2_hasOrder v1 x1 M).bind fun v4 =>
  if v4 = 0 then (
  some ((-1), M)) else
  if x2 < 0 then (
  some ((-1), M)) else
  if x2 < 5 then (
  (f_X7_orderTells x0 x1 x2 M).bind fun v6 =>
  (pI M 17 x0 10 v6).bind fun M7 =>
  some (1, M7)) else
  some ((-1), M)) else none
def f_X7_pairs_38  (k20 : Nat → Int32 → Int32 → Int32 → Int32 → Mem → Option (Int32 × Mem)) : Nat → Nat → Int32 → Int32 → Int32 → Int32 → Int32 → Mem → Option (Int32 × Mem)
  | 0, _, _, _, _, _, _, _ => none
  | n + 1, x0, x1, x2, x3, x4, x5, M =>
    (gR M 17 x0 2).bind fun v7 =>
    (gI M 12 v7 0).bind fun v9 =>
    if v9 ≤ x5 then (
    k20 x0 x1 x2 x3 (x4 + 1) M) else
    (gR M 17 x0 2).bind fun v11 =>
    (f_X2_areInTune v11 x4 x5 x1 M).bind fun v14 =>
    if v14 = 0 then (
    f_X7_pairs_38 k20 n x0 x1 x2 x3 x4 (x5 + 1) M) else
    if x2 = 0 then (
    f_X7_pairs_38 k20 n x0 x1 (x2 + 1) ((5 * x4) + x5) x4 (x5 + 1) M) else
    f_X7_pairs_38 k20 n x0 x1 (x2 + 1) x3 x4 (x5 + 1) M
def f_X7_pairs_20   : Nat → Nat → Int32 → Int32 → Int32 → Int32 → Mem → Option (Int32 × Mem)
  | 0, _, _, _, _, _, _ => none
  | n + 1, x0, x1, x2, x3, x4, M =>
    (gR M 17 x0 2).bind fun v1 =>
    (gI M 12 v1 0).bind fun v3 =>
    if v3 ≤ x4 then (
    (pI M 17 x0 10 x3).bind fun M5 =>
    some (x2, M5)) else
    f_X7_pairs_38 (f_X7_pairs_20 n) FU x0 x1 x2 x3 x4 (x4 + 1) M
def f_X7_pairs  (x0 : Nat) (x1 : Int32) (M : Mem) : Option (Int32 × Mem) :=
  if kd M x0 = 17 then (
  if x1 < 0 then (
  some ((-1), M)) else
  if x1 ≤ 9 then (
  f_X7_pairs_20 FU x0 x1 0 (-9) 0 M) else
  some ((-1), M)) else none
def f_X7_plain  (x0 : Nat) (M : Mem) : Option (Int32 × Mem) :=
  if kd M x0 = 17 then (
  (gR M 17 x0 2).bind fun v1 =>
  (gI M 12 v1 0).bind fun v3 =>
  if v3 = 0 then (
  some ((-4), M)) else
  (gR M 17 x0 4).bind fun v5 =>
  (gI M 16 v5 2).bind fun v7 =>
  (f_X7_plainGold x0 0 M).bind fun qv11 =>
  (pI qv11.2 17 x0 10 qv11.1).bind fun M13 =>
  (gR M13 17 x0 5).bind fun v15 =>
  (gI M13 16 v15 2).bind fun v17 =>
  some (((f_J6_bitCount_0f7a4 v17) - (f_J6_bitCount_0f7a4 v7)), M13)) else none
def f_X7_put  (x0 : Nat) (x1 : Int32) (x2 : Int32) (x3 : Int32) (M : Mem) : Option (Int32 × Mem) :=
  if kd M x0 = 17 then (
  (f_X7_textOf x0 x1 M).bind fun v2 =>
  if v2 = 0 then (
  some ((-1), M)) else
  (f_X5_isMissing v2 M).bind fun v5 =>
  if v5 = 0 then (
  (f_X5_has v2 x2 M).bind fun v7 =>
  if v7 = 0 then (
  (f_X7_refuse x0 2 M).bind fun qv17 =>
  some (qv17.1, qv17.2)) else
  (gR M 15 v2 0).bind fun v8 =>
  (aB M v8 x2).bind fun v10 =>
  (gR M 15 v2 0).bind fun v12 =>
  (eB M v12 x2 (Int8.toInt32 (Int32.toInt8 x3))).bind fun M14 =>
  some ((v10 + 1000), M14)) else
  (f_X7_refuse x0 1 M).bind fun qv20 =>
  some (qv20.1, qv20.2)) else none
def f_X7_rest  (x0 : Nat) (x1 : Int32) (M : Mem) : Option (Int32 × Mem) :=
  if kd M x0 = 17 then (
  (gR M 17 x0 2).bind fun v1 =>
  (f_X2_hasSigher v1 x1 M).bind fun v4 =>
  if v4 = 0 then (
  some ((-1), M)) else
  (gR M 17 x0 4).bind fun v5 =>
  (gR M 16 v5 0).bind fun v7 =>
  (aI M v7 x1).bind fun v9 =>
  if v9 < 9 then (
  (gR M 17 x0 6).bind fun v11 =>
  (f_X0_lackRoomFor v11 1 M).bind fun v14 =>
  if v14 = 0 then (
  (f_X7_enact x0 2 x1 0 M).bind fun M16 =>
  (gR M16 17 x0 4).bind fun v17 =>
  (gR M16 16 v17 0).bind fun v19 =>
  (aI M16 v19 x1).bind fun v21 =>
  some (v21, M16)) else
  some ((-2), M)) else
  some ((-4), M)) else none
def f_X7_row  (x0 : Nat) (x1 : Int32) (x2 : Int32) (M : Mem) : Option (Int32 × Mem) :=
  if kd M x0 = 17 then (
  (f_X7_rowOf x0 x1 M).bind fun v2 =>
  if v2 = 0 then (
  some ((-1), M)) else
  if x2 ≤ 40 then (
  if 0 ≤ x2 then (
  (f_X4_renew v2 x2 M).bind fun M5 =>
  some (x2, M5)) else
  (f_X7_refuse x0 5 M).bind fun qv7 =>
  some (qv7.1, qv7.2)) else
  some ((-1), M)) else none
def f_X7_sigh  (x0 : Nat) (x1 : Int32) (x2 : Int32) (M : Mem) : Option (Int32 × Mem) :=
  if kd M x0 = 17 then (
  (gR M 17 x0 2).bind fun v1 =>
  (f_X2_hasSigher v1 x1 M).bind fun v4 =>
  if v4 = 0 then (
  some ((-1), M)) else
  (gR M 17 x0 2).bind fun v5 =>
  (f_X2_hasOrder v5 x2 M).bind fun v8 =>
  if v8 = 0 then (
  some ((-1), M)) else
  (gR M 17 x0 2).bind fun v9 =>
  (f_X2_breathFor v9 x1 x2 M).bind fun v12 =>
  (gR M 17 x0 4).bind fun v13 =>
  (f_X6_isDone v13 x2 M).bind fun v16 =>
  if v16 = 0 then (
  (gR M 17 x0 4).bind fun v17 =>
  (gR M 16 v17 1).bind fun v19 =>
  (aI M v19 x1).bind fun v21 =>
  (gR M 17 x0 2).bind fun v23 =>
  (gR M 12 v23 5).bind fun v25 =>
  (aI M v25 x2).bind fun v27 =>
  if v21 = v27 then (
  if v12 = (-9) then (
  some ((-4), M)) else
  (gR M 17 x0 4).bind fun v29 =>
  (gR M 16 v29 0).bind fun v31 =>
  (aI M v31 x1).bind fun v33 =>
  if v12 ≤ v33 then (
  (gR M 17 x0 6).bind fun v35 =>
  (f_X0_lackRoomFor v35 1 M).bind fun v38 =>
  if v38 = 0 then (
  (f_X7_enact x0 1 x1 x2 M).bind fun M40 =>
  (gR M40 17 x0 4).bind fun v41 =>
  (gI M40 16 v41 3).bind fun v43 =>
  some (v43, M40)) else
  some ((-2), M)) else
  some ((-6), M)) else
  some ((-4), M)) else
  some ((-4), M)) else none
def f_X7_sigher  (x0 : Nat) (x1 : Int32) (x2 : Int32) (M : Mem) : Option (Int32 × Mem) :=
  if kd M x0 = 17 then (
  (gR M 17 x0 2).bind fun v1 =>
  (f_X2_hasSigher v1 x1 M).bind fun v4 =>
  if v4 = 0 then (
  some ((-1), M)) else
  if x2 < 0 then (
  some ((-1), M)) else
  if x2 < 5 then (
  (f_X7_sigherTells x0 x1 x2 M).bind fun v6 =>
  (pI M 17 x0 10 v6).bind fun M7 =>
  some (1, M7)) else
  some ((-1), M)) else none
def f_X7_strikeTurn_18 (rc : Nat → Int32 → Mem → Option (Int32 × Mem))  : Nat → Nat → Int32 → Int32 → Int32 → Int32 → Mem → Option (Int32 × Mem)
  | 0, _, _, _, _, _, _ => none
  | n + 1, x0, x1, x2, x3, x4, M =>
    (gR M 17 x0 2).bind fun v4 =>
    (gI M 12 v4 0).bind fun v6 =>
    if v6 ≤ x4 then (
    some (x3, M)) else
    if x3 ≤ x2 then (
    some (x3, M)) else
    (gR M 17 x0 5).bind fun v8 =>
    (gR M 16 v8 0).bind fun v10 =>
    (aI M v10 x4).bind fun v12 =>
    (gR M 17 x0 5).bind fun v14 =>
    (gR M 16 v14 0).bind fun v16 =>
    (eI M v16 x4 0).bind fun M18 =>
    (rc x0 (x1 - 1) M18).bind fun qv21 =>
    (gR qv21.2 17 x0 5).bind fun v23 =>
    (gR qv21.2 16 v23 0).bind fun v25 =>
    (eI qv21.2 v25 x4 v12).bind fun M27 =>
    f_X7_strikeTurn_18 rc n x0 x1 x2 (f_J9_min_7cf53 x3 qv21.1) (x4 + 1) M27
def f_X7_strikeTurn (rc : Nat → Int32 → Mem → Option (Int32 × Mem)) (x0 : Nat) (x1 : Int32) (x2 : Int32) (M : Mem) : Option (Int32 × Mem) :=
  if kd M x0 = 17 then (
  if 1 < x1 then (
  (rc x0 (x1 - 1) M).bind fun qv2 =>
  f_X7_strikeTurn_18 rc FU x0 x1 x2 qv2.1 0 qv2.2) else
  some (0, M)) else none
def f_X7_goldOfTurn (rc : Nat → Int32 → Mem → Option (Int32 × Mem)) (x0 : Nat) (x1 : Int32) (x2 : Int32) (x3 : Int32) (x4 : Int32) (M : Mem) : Option (Int32 × Mem) :=
  if kd M x0 = 17 then (
  (gR M 17 x0 2).bind fun v1 =>
  (f_X2_goldFor v1 x1 x2 M).bind fun v4 =>
  if 1 < x3 then (
  (gR M 17 x0 5).bind fun v5 =>
  (gR M 16 v5 0).bind fun v7 =>
  (aI M v7 x1).bind fun v9 =>
  (gR M 17 x0 5).bind fun v11 =>
  (gI M 16 v11 2).bind fun v13 =>
  (gR M 17 x0 5).bind fun v15 =>
  (gR M 17 x0 2).bind fun v17 =>
  (f_X6_sighOrder v15 v17 x1 x2 M).bind fun M20 =>
  (f_X7_strikeTurn rc x0 x3 (x4 - v4) M20).bind fun qv22 =>
  (gR qv22.2 17 x0 5).bind fun v24 =>
  (gR qv22.2 16 v24 0).bind fun v26 =>
  (eI qv22.2 v26 x1 v9).bind fun M28 =>
  (gR M28 17 x0 5).bind fun v30 =>
  (pI M28 16 v30 2 v13).bind fun M32 =>
  some ((v4 + qv22.1), M32)) else
  some (v4, M)) else none
def f_X7_guildTurn_34 (rc : Nat → Int32 → Mem → Option (Int32 × Mem)) (k20 : Nat → Int32 → Int32 → Int32 → Mem → Option (Int32 × Mem)) : Nat → Nat → Int32 → Int32 → Int32 → Int32 → Mem → Option (Int32 × Mem)
  | 0, _, _, _, _, _, _ => none
  | n + 1, x0, x1, x2, x3, x4, M =>
    (gR M 17 x0 2).bind fun v8 =>
    (gI M 12 v8 1).bind fun v10 =>
    if v10 ≤ x4 then (
    k20 x0 x1 x2 (x3 + 1) M) else
    (gR M 17 x0 5).bind fun v12 =>
    (gR M 17 x0 2).bind fun v14 =>
    (f_X6_isAble v12 v14 x3 x4 M).bind fun v17 =>
    if v17 = 0 then (
    f_X7_guildTurn_34 rc k20 n x0 x1 x2 x3 (x4 + 1) M) else
    (f_X7_goldOfTurn rc x0 x3 x4 x1 x2 M).bind fun qv19 =>
    f_X7_guildTurn_34 rc k20 n x0 x1 (f_J9_max_7cf53 x2 qv19.1) x3 (x4 + 1) qv19.2
def f_X7_guildTurn_20 (rc : Nat → Int32 → Mem → Option (Int32 × Mem))  : Nat → Nat → Int32 → Int32 → Int32 → Mem → Option (Int32 × Mem)
  | 0, _, _, _, _, _ => none
  | n + 1, x0, x1, x2, x3, M =>
    (gR M 17 x0 2).bind fun v4 =>
    (gI M 12 v4 0).bind fun v6 =>
    if v6 ≤ x3 then (
    some (x2, M)) else
    f_X7_guildTurn_34 rc (f_X7_guildTurn_20 rc n) FU x0 x1 x2 x3 0 M
def f_X7_guildTurn_b (rc : Nat → Int32 → Mem → Option (Int32 × Mem)) (x0 : Nat) (x1 : Int32) (M : Mem) : Option (Int32 × Mem) :=
  if kd M x0 = 17 then (
  if x1 ≤ 0 then (
  some (0, M)) else
  if x1 ≤ 2 then (
  (f_X7_strikeTurn rc x0 x1 0 M).bind fun qv2 =>
  f_X7_guildTurn_20 rc FU x0 x1 qv2.1 0 qv2.2) else
  some (0, M)) else none
def f_X7_guildTurn : Nat → Nat → Int32 → Mem → Option (Int32 × Mem)
  | 0, _, _, _ => none
  | dp + 1, x0, x1, M => f_X7_guildTurn_b (f_X7_guildTurn dp) x0 x1 M
def f_X7_strike  (x0 : Nat) (x1 : Int32) (M : Mem) : Option (Int32 × Mem) :=
  if kd M x0 = 17 then (
  if x1 < 0 then (
  some ((-1), M)) else
  if x1 ≤ 2 then (
  (gR M 17 x0 2).bind fun v1 =>
  (gI M 12 v1 0).bind fun v3 =>
  if v3 = 0 then (
  some ((-4), M)) else
  (gR M 17 x0 5).bind fun v5 =>
  (gR M 17 x0 4).bind fun v7 =>
  (f_X6_takeOver v5 v7 M).bind fun M10 =>
  (f_X7_guildTurn 4 x0 x1 M10).bind fun qv12 =>
  some (qv12.1, qv12.2)) else
  some ((-1), M)) else none
def f_X7_takes  (x0 : Nat) (x1 : Int32) (x2 : Int32) (M : Mem) : Option Int32 :=
  if kd M x0 = 17 then (
  (gR M 17 x0 2).bind fun v1 =>
  (f_X2_hasSigher v1 x1 M).bind fun v4 =>
  if v4 = 0 then (
  some ((-1))) else
  (gR M 17 x0 2).bind fun v5 =>
  (f_X2_hasOrder v5 x2 M).bind fun v8 =>
  if v8 = 0 then (
  some ((-1))) else
  (gR M 17 x0 2).bind fun v9 =>
  (f_X2_breathFor v9 x1 x2 M).bind fun v12 =>
  some v12) else none
def f_X7_tear  (x0 : Nat) (x1 : Int32) (M : Mem) : Option (Int32 × Mem) :=
  if kd M x0 = 17 then (
  (f_X7_rowOf x0 x1 M).bind fun v2 =>
  if v2 = 0 then (
  some ((-1), M)) else
  (f_X4_isMissing v2 M).bind fun v5 =>
  if v5 = 0 then (
  (pI M 14 v2 1 (-1)).bind fun M6 =>
  some (1, M6)) else
  (f_X7_refuse x0 1 M).bind fun qv9 =>
  some (qv9.1, qv9.2)) else none
def f_X5_renew  (x0 : Nat) (x1 : Int32) (M : Mem) : Option Mem :=
  if kd M x0 = 15 then (
  (gR M 15 x0 0).bind fun v1 =>
  (f_J7_fill_031fb v1 32 M).bind fun M4 =>
  (pI M4 15 x0 1 x1).bind fun M5 =>
  some M5) else none
def f_X7_text  (x0 : Nat) (x1 : Int32) (x2 : Int32) (M : Mem) : Option (Int32 × Mem) :=
  if kd M x0 = 17 then (
  (f_X7_textOf x0 x1 M).bind fun v2 =>
  if v2 = 0 then (
  some ((-1), M)) else
  if x2 ≤ 60 then (
  if 0 ≤ x2 then (
  (f_X5_renew v2 x2 M).bind fun M5 =>
  some (x2, M5)) else
  (f_X7_refuse x0 5 M).bind fun qv7 =>
  some (qv7.1, qv7.2)) else
  some ((-1), M)) else none
def f_X7_undo  (x0 : Nat) (x1 : Int32) (M : Mem) : Option (Int32 × Mem) :=
  if kd M x0 = 17 then (
  if x1 < 0 then (
  some ((-1), M)) else
  (gR M 17 x0 6).bind fun v1 =>
  (gI M 10 v1 1).bind fun v3 =>
  if x1 ≤ v3 then (
  (gR M 17 x0 6).bind fun v5 =>
  (gI M 10 v5 1).bind fun v7 =>
  if (v7 - x1) ≤ 0 then (
  some ((v7 - x1), M)) else
  (gR M 17 x0 6).bind fun v9 =>
  (pI M 10 v9 1 x1).bind fun M11 =>
  (f_X7_doAgain x0 M11).bind fun M14 =>
  some ((v7 - x1), M14)) else
  some ((-1), M)) else none
def f_X7_upper  (x0 : Nat) (M : Mem) : Option Int64 :=
  if kd M x0 = 17 then (
  (gL M 17 x0 11).bind fun v1 =>
  some v1) else none
def f_X7_walk  (x0 : Nat) (x1 : Int32) (x2 : Int32) (M : Mem) : Option (Int32 × Mem) :=
  if kd M x0 = 17 then (
  (gR M 17 x0 2).bind fun v1 =>
  (f_X2_hasSigher v1 x1 M).bind fun v4 =>
  if v4 = 0 then (
  some ((-1), M)) else
  if (f_X7_isPlace x2) = 0 then (
  some ((-1), M)) else
  (gR M 17 x0 4).bind fun v6 =>
  (gR M 16 v6 1).bind fun v8 =>
  (aI M v8 x1).bind fun v10 =>
  if (f_J9_abs_0f7a4 (v10 - x2)) = 0 then (
  some ((-4), M)) else
  (gR M 17 x0 6).bind fun v12 =>
  (f_X0_lackRoomFor v12 1 M).bind fun v15 =>
  if v15 = 0 then (
  (f_X7_enact x0 0 x1 x2 M).bind fun M17 =>
  some ((f_J9_abs_0f7a4 (v10 - x2)), M17)) else
  some ((-2), M)) else none
def f_X7_way  (x0 : Nat) (x1 : Int32) (x2 : Int32) (M : Mem) : Option Int32 :=
  if kd M x0 = 17 then (
  (gR M 17 x0 2).bind fun v1 =>
  (f_X2_hasSigher v1 x1 M).bind fun v4 =>
  if v4 = 0 then (
  some ((-1))) else
  (gR M 17 x0 2).bind fun v5 =>
  (f_X2_isSetOfOrders v5 x2 M).bind fun v8 =>
  if v8 = 0 then (
  some ((-1))) else
  (gR M 17 x0 4).bind fun v9 =>
  (gR M 16 v9 1).bind fun v11 =>
  (aI M v11 x1).bind fun v13 =>
  (f_X7_stepsThrough x0 v13 x2 M).bind fun v16 =>
  some v16) else none
def f_X7_who_34   : Nat → Nat → Nat → Int32 → Int32 → Mem → Option (Int32 × Mem)
  | 0, _, _, _, _, _ => none
  | n + 1, x0, x2, x4, x5, M =>
    (gR M 17 x0 2).bind fun v9 =>
    (gI M 12 v9 0).bind fun v11 =>
    if v11 ≤ x5 then (
    some (x4, M)) else
    (gR M 17 x0 2).bind fun v13 =>
    (gR M 12 v13 2).bind fun v15 =>
    (aI M v15 x5).bind fun v17 =>
    (f_X7_breathOfPairs x0 x2 v17 M).bind fun v20 =>
    if v20 = (-9) then (
    f_X7_who_34 n x0 x2 x4 (x5 + 1) M) else
    (gR M 17 x0 4).bind fun v21 =>
    (gR M 16 v21 0).bind fun v23 =>
    (aI M v23 x5).bind fun v25 =>
    if v25 < v20 then (
    f_X7_who_34 n x0 x2 x4 (x5 + 1) M) else
    f_X7_who_34 n x0 x2 (x4 ||| (1 <<< (x5 &&& 31))) (x5 + 1) M
def f_X7_who  (x0 : Nat) (x1 : Int32) (M : Mem) : Option (Int32 × Mem) :=
  if kd M x0 = 17 then (
  (f_X7_rowOf x0 x1 M).bind fun v2 =>
  if v2 = 0 then (
  some ((-1), M)) else
  (f_X7_findingOfPairs x0 v2 M).bind fun v5 =>
  if v5 = 0 then (
  f_X7_who_34 FU x0 v2 0 0 M) else
  (f_X7_refuse x0 v5 M).bind fun qv7 =>
  some (qv7.1, qv7.2)) else none
def f_X8_asked  (x0 : Nat) (M : Mem) : Option Int32 :=
  if kd M x0 = 18 then (
  (gI M 18 x0 12).bind fun v1 =>
  some v1) else none
def f_X8_find  (x0 : Nat) (x1 : Int32) (M : Mem) : Option (Int32 × Mem) :=
  if kd M x0 = 18 then (
  (pI M 18 x0 15 x1).bind fun M1 =>
  (gR M1 18 x0 16).bind fun v3 =>
  (aI M1 v3 x1).bind fun v5 =>
  (eI M1 v3 x1 (v5 + 1)).bind fun M7 =>
  some ((-3), M7)) else none
def f_X8_in  (x0 : Int64) (x2 : Int64) (x4 : Int64) : Int32 :=
  if (lg_cmp x0 x2) < 0 then (
  0) else
  if 0 < (lg_cmp x0 x4) then (
  0) else
  1
def f_X8_isRow  (x0 : Int32) : Option Int32 :=
  (bz (f_X8_in (Int32.toInt64 x0) 0 5)).bind fun zqb2 =>
  some ((f_X8_in (Int32.toInt64 x0) 0 5))
def f_X8_refused  (x0 : Nat) (x1 : Int32) (x2 : Int32) (M : Mem) : Option (Int32 × Mem) :=
  if kd M x0 = 18 then (
  (f_X8_isRow x1).bind fun v2 =>
  if v2 = 0 then (
  some ((-1), M)) else
  (gR M 18 x0 8).bind fun v3 =>
  (aI M v3 x1).bind fun v5 =>
  if 0 ≤ v5 then (
  (gR M 18 x0 8).bind fun v7 =>
  (aI M v7 x1).bind fun v9 =>
  if (f_X8_in (Int32.toInt64 x2) 0 (Int32.toInt64 (v9 - 1))) = 0 then (
  (f_X8_find x0 2 M).bind fun qv13 =>
  some (qv13.1, qv13.2)) else
  some (0, M)) else
  (f_X8_find x0 1 M).bind fun qv16 =>
  some (qv16.1, qv16.2)) else none
def f_X8_tell  (x0 : Nat) (x1 : Int32) (M : Mem) : Option (Int32 × Mem) :=
  if kd M x0 = 18 then (
  (pI M 18 x0 12 x1).bind fun M1 =>
  some (1, M1)) else none
def f_X8_at  (x0 : Nat) (x1 : Int32) (x2 : Int32) (M : Mem) : Option (Int32 × Mem) :=
  if kd M x0 = 18 then (
  (f_X8_refused x0 x1 x2 M).bind fun qv2 =>
  if qv2.1 = 0 then (
  (gR qv2.2 18 x0 9).bind fun v4 =>
  (aI qv2.2 v4 ((40 * x1) + x2)).bind fun v6 =>
  (f_X8_tell x0 v6 qv2.2).bind fun qv9 =>
  some (qv9.1, qv9.2)) else
  some (qv2.1, qv2.2)) else none
def f_X8_isSigher  (x0 : Nat) (x1 : Int32) (M : Mem) : Option Int32 :=
  if kd M x0 = 18 then (
  (gI M 18 x0 1).bind fun v1 =>
  (bz (f_X8_in (Int32.toInt64 x1) 0 (Int32.toInt64 (v1 - 1)))).bind fun zqb4 =>
  some ((f_X8_in (Int32.toInt64 x1) 0 (Int32.toInt64 (v1 - 1))))) else none
def f_X8_isTooDeep_10   (x0 : Int32) (x1 : Int32) : Int32 :=
  if x0 = 5 then (
  if x1 ≤ 6 then (
  0) else
  1) else
  0
def f_X8_isTooDeep  (x0 : Int32) (x1 : Int32) : Int32 :=
  if x0 = 2 then (
  if 3 < x1 then (
  1) else
  f_X8_isTooDeep_10 x0 x1) else
  f_X8_isTooDeep_10 x0 x1
def f_X8_isDeep  (x0 : Int32) : Int32 :=
  if x0 = 1 then (
  1) else
  if x0 = 4 then (
  1) else
  0
def f_X8_takesOf_12   (x0 : Int32) (x1 : Int32) (s0 : Int32) : Int32 :=
  if (f_X8_isDeep x0) = 0 then (
  if x0 = 3 then (
  0) else
  x1) else
  s0
def f_X8_takesOf  (x0 : Int32) (x1 : Int32) : Int32 :=
  if 2 ≤ x1 then (
  f_X8_takesOf_12 x0 x1 (x1 / 2)) else
  f_X8_takesOf_12 x0 x1 1
def f_X8_isSo_12   : Nat → Nat → Int32 → Int32 → Int32 → Int32 → Int32 → Mem → Option Int32
  | 0, _, _, _, _, _, _, _ => none
  | n + 1, x0, x1, x2, x4, x5, x6, M =>
    (gR M 18 x0 8).bind fun v1 =>
    (aI M v1 x1).bind fun v3 =>
    if ((40 * x1) + v3) ≤ x6 then (
    if x5 = 0 then (
    some 0) else
    if x4 < 0 then (
    some 0) else
    some 1) else
    (gR M 18 x0 6).bind fun v5 =>
    (gR M 18 x0 9).bind fun v7 =>
    (aI M v7 x6).bind fun v9 =>
    (aI M v5 v9).bind fun v11 =>
    if x5 = 0 then (
    f_X8_isSo_12 n x0 x1 x2 (x4 - (f_X8_takesOf x2 v11)) 0 (x6 + 2) M) else
    if (f_X8_isTooDeep x2 v11) = 0 then (
    (gR M 18 x0 9).bind fun v16 =>
    (aI M v16 (x6 + 1)).bind fun v18 =>
    if (f_X8_takesOf x2 v11) = v18 then (
    f_X8_isSo_12 n x0 x1 x2 (x4 - (f_X8_takesOf x2 v11)) 1 (x6 + 2) M) else
    f_X8_isSo_12 n x0 x1 x2 (x4 - (f_X8_takesOf x2 v11)) 0 (x6 + 2) M) else
    f_X8_isSo_12 n x0 x1 x2 (x4 - (f_X8_takesOf x2 v11)) 0 (x6 + 2) M
def f_X8_isSo  (x0 : Nat) (x1 : Int32) (x2 : Int32) (x3 : Int32) (M : Mem) : Option Int32 :=
  if kd M x0 = 18 then (
  f_X8_isSo_12 FU x0 x1 x2 x3 1 (40 * x1) M) else none
def f_X8_isOrder  (x0 : Nat) (x1 : Int32) (M : Mem) : Option Int32 :=
  if kd M x0 = 18 then (
  (gI M 18 x0 4).bind fun v1 =>
  (bz (f_X8_in (Int32.toInt64 x1) 0 (Int32.toInt64 (v1 - 1)))).bind fun zqb4 =>
  some ((f_X8_in (Int32.toInt64 x1) 0 (Int32.toInt64 (v1 - 1))))) else none
def f_X8_noPairs_37   (x0 : Nat) (M : Mem) : Option (Int32 × Mem) :=
  (f_X8_find x0 5 M).bind fun qv17 =>
  some (qv17.1, qv17.2)
def f_X8_noPairs_50   : Nat → Nat → Int32 → Int32 → Int32 → Mem → Option (Int32 × Mem)
  | 0, _, _, _, _, _ => none
  | n + 1, x0, x1, x2, x3, M =>
    (gR M 18 x0 8).bind fun v19 =>
    (aI M v19 x1).bind fun v21 =>
    if ((40 * x1) + v21) ≤ x3 then (
    if x2 = 0 then (
    (f_X8_find x0 3 M).bind fun qv24 =>
    some (qv24.1, qv24.2)) else
    some (0, M)) else
    if x2 = 0 then (
    f_X8_noPairs_50 n x0 x1 0 (x3 + 2) M) else
    (gR M 18 x0 9).bind fun v26 =>
    (aI M v26 x3).bind fun v28 =>
    (f_X8_isOrder x0 v28 M).bind fun v31 =>
    if v31 = 0 then (
    f_X8_noPairs_50 n x0 x1 0 (x3 + 2) M) else
    (gR M 18 x0 9).bind fun v32 =>
    (aI M v32 (x3 + 1)).bind fun v34 =>
    if (f_X8_in (Int32.toInt64 v34) 0 9) = 0 then (
    f_X8_noPairs_50 n x0 x1 0 (x3 + 2) M) else
    f_X8_noPairs_50 n x0 x1 1 (x3 + 2) M
def f_X8_noPairs  (x0 : Nat) (x1 : Int32) (M : Mem) : Option (Int32 × Mem) :=
  if kd M x0 = 18 then (
  (gR M 18 x0 8).bind fun v1 =>
  (aI M v1 x1).bind fun v3 =>
  if 0 ≤ v3 then (
  (gR M 18 x0 8).bind fun v5 =>
  (aI M v5 x1).bind fun v7 =>
  if (v7 - v7 / 2 * 2) = 0 then (
  (gR M 18 x0 8).bind fun v9 =>
  (aI M v9 x1).bind fun v11 =>
  if v11 ≤ 12 then (
  f_X8_noPairs_50 FU x0 x1 1 (40 * x1) M) else
  f_X8_noPairs_37 x0 M) else
  f_X8_noPairs_37 x0 M) else
  (f_X8_find x0 1 M).bind fun qv14 =>
  some (qv14.1, qv14.2)) else none
def f_X8_breaths_35   : Nat → Nat → Int32 → Int32 → Int32 → Int32 → Mem → Option (Int32 × Mem)
  | 0, _, _, _, _, _, _ => none
  | n + 1, x0, x1, x2, x4, x5, M =>
    if 10 ≤ x5 then (
    some (x4, M)) else
    (gR M 18 x0 2).bind fun v8 =>
    (aI M v8 x1).bind fun v10 =>
    (f_X8_isSo x0 x2 v10 x5 M).bind fun v13 =>
    if v13 = 0 then (
    f_X8_breaths_35 n x0 x1 x2 (x4 ||| 0) (x5 + 1) M) else
    f_X8_breaths_35 n x0 x1 x2 (x4 ||| (1 <<< (x5 &&& 31))) (x5 + 1) M
def f_X8_breaths  (x0 : Nat) (x1 : Int32) (x2 : Int32) (M : Mem) : Option (Int32 × Mem) :=
  if kd M x0 = 18 then (
  (f_X8_isSigher x0 x1 M).bind fun v2 =>
  if v2 = 0 then (
  some ((-1), M)) else
  (f_X8_isRow x2).bind fun v4 =>
  if v4 = 0 then (
  some ((-1), M)) else
  (f_X8_noPairs x0 x2 M).bind fun qv6 =>
  if qv6.1 = 0 then (
  f_X8_breaths_35 FU x0 x1 x2 0 0 qv6.2) else
  some (qv6.1, qv6.2)) else none
def f_X8_some  (x0 : Int32) : Int32 :=
  if 0 ≤ x0 then (
  x0) else
  0
def f_X8_bringsBy  (x0 : Int32) (x1 : Int32) : Int32 :=
  if x0 = 3 then (
  (x1 / 2)) else
  if x0 = 4 then (
  (x1 + 2)) else
  if x0 = 5 then (
  (f_X8_some (x1 - 1))) else
  x1
def f_X8_brought  (x0 : Nat) (x1 : Int32) (x2 : Int32) (M : Mem) : Option Int32 :=
  if kd M x0 = 18 then (
  (gR M 18 x0 2).bind fun v1 =>
  (aI M v1 x1).bind fun v3 =>
  (gR M 18 x0 7).bind fun v5 =>
  (aI M v5 x2).bind fun v7 =>
  some ((f_X8_bringsBy v3 v7))) else none
def f_X8_brings  (x0 : Nat) (x1 : Int32) (x2 : Int32) (M : Mem) : Option Int32 :=
  if kd M x0 = 18 then (
  (f_X8_isSigher x0 x1 M).bind fun v2 =>
  if v2 = 0 then (
  some ((-1))) else
  (f_X8_isOrder x0 x2 M).bind fun v4 =>
  if v4 = 0 then (
  some ((-1))) else
  (f_X8_brought x0 x1 x2 M).bind fun v6 =>
  some v6) else none
def f_X8_bits_4   : Nat → Int32 → Int32 → Int32 → Option Int32
  | 0, _, _, _ => none
  | n + 1, x0, x1, x2 =>
    if 6 ≤ x2 then (
    some x1) else
    f_X8_bits_4 n x0 (x1 + ((x0 >>> (x2 &&& 31)) &&& 1)) (x2 + 1)
def f_X8_bits  (x0 : Int32) : Option Int32 :=
  f_X8_bits_4 FU x0 0 0
def f_X8_apart  (x0 : Int32) (x1 : Int32) : Int32 :=
  if x1 ≤ x0 then (
  (x0 - x1)) else
  (x1 - x0)
def f_X8_areInTune  (x0 : Nat) (x1 : Int32) (x2 : Int32) (x3 : Int32) (M : Mem) : Option Int32 :=
  if kd M x0 = 18 then (
  (gR M 18 x0 3).bind fun v1 =>
  (aI M v1 x1).bind fun v3 =>
  (gR M 18 x0 3).bind fun v5 =>
  (aI M v5 x2).bind fun v7 =>
  if x3 < (f_X8_apart v3 v7) then (
  some 0) else
  some 1) else none
def f_X8_has  (x0 : Int32) (x1 : Int32) : Int32 :=
  if ((x0 >>> (x1 &&& 31)) &&& 1) = 1 then (
  1) else
  0
def f_X8_isChoir_17  (k5 : Nat → Int32 → Int32 → Int32 → Int32 → Mem → Option Int32) : Nat → Nat → Int32 → Int32 → Int32 → Int32 → Int32 → Mem → Option Int32
  | 0, _, _, _, _, _, _, _ => none
  | n + 1, x0, x1, x2, x3, x4, x5, M =>
    if x4 ≤ x5 then (
    k5 x0 x1 x2 x3 (x4 + 1) M) else
    if x3 = 0 then (
    f_X8_isChoir_17 k5 n x0 x1 x2 0 x4 (x5 + 1) M) else
    if (f_X8_has x1 x4) = 0 then (
    f_X8_isChoir_17 k5 n x0 x1 x2 1 x4 (x5 + 1) M) else
    if (f_X8_has x1 x5) = 0 then (
    f_X8_isChoir_17 k5 n x0 x1 x2 1 x4 (x5 + 1) M) else
    (f_X8_areInTune x0 x4 x5 x2 M).bind fun v8 =>
    if v8 = 0 then (
    f_X8_isChoir_17 k5 n x0 x1 x2 0 x4 (x5 + 1) M) else
    f_X8_isChoir_17 k5 n x0 x1 x2 1 x4 (x5 + 1) M
def f_X8_isChoir_5   : Nat → Nat → Int32 → Int32 → Int32 → Int32 → Mem → Option Int32
  | 0, _, _, _, _, _, _ => none
  | n + 1, x0, x1, x2, x3, x4, M =>
    (gI M 18 x0 1).bind fun v1 =>
    if v1 ≤ x4 then (
    (bz x3).bind fun zqb3 =>
    some x3) else
    f_X8_isChoir_17 (f_X8_isChoir_5 n) FU x0 x1 x2 x3 x4 0 M
def f_X8_isChoir  (x0 : Nat) (x1 : Int32) (x2 : Int32) (M : Mem) : Option Int32 :=
  if kd M x0 = 18 then (
  f_X8_isChoir_5 FU x0 x1 x2 1 0 M) else none
def f_X8_choir_28   : Nat → Nat → Int32 → Int32 → Int32 → Mem → Option (Int32 × Mem)
  | 0, _, _, _, _, _ => none
  | n + 1, x0, x1, x2, x3, M =>
    (gI M 18 x0 1).bind fun v4 =>
    if (1 <<< (v4 &&& 31)) ≤ x3 then (
    (pI M 18 x0 12 x2).bind fun M6 =>
    (f_X8_bits x2).bind fun v9 =>
    some (v9, M6)) else
    (f_X8_bits x3).bind fun v11 =>
    (f_X8_bits x2).bind fun v13 =>
    if v11 ≤ v13 then (
    f_X8_choir_28 n x0 x1 x2 (x3 + 1) M) else
    (f_X8_isChoir x0 x3 x1 M).bind fun v15 =>
    if v15 = 0 then (
    f_X8_choir_28 n x0 x1 x2 (x3 + 1) M) else
    f_X8_choir_28 n x0 x1 x3 (x3 + 1) M
def f_X8_choir  (x0 : Nat) (x1 : Int32) (M : Mem) : Option (Int32 × Mem) :=
  if kd M x0 = 18 then (
  if (f_X8_in (Int32.toInt64 x1) 0 9) = 0 then (
  some ((-1), M)) else
  (gI M 18 x0 1).bind fun v2 =>
  if v2 = 0 then (
  some ((-4), M)) else
  f_X8_choir_28 FU x0 x1 0 1 M) else none
def f_X8_isSpan  (x0 : Nat) (x1 : Int32) (x2 : Int32) (x3 : Int32) (M : Mem) : Option Int32 :=
  if kd M x0 = 18 then (
  if x2 < 0 then (
  some 0) else
  (gR M 18 x0 8).bind fun v1 =>
  (aI M v1 x1).bind fun v3 =>
  if 0 < (lg_cmp ((Int32.toInt64 x2) + (Int32.toInt64 x3)) (Int32.toInt64 v3)) then (
  some 0) else
  some 1) else none
def f_X8_copy_45   (x0 : Nat) (M : Mem) : Option (Int32 × Mem) :=
  (f_X8_find x0 1 M).bind fun qv21 =>
  some (qv21.1, qv21.2)
def f_X8_copy_74   (x0 : Nat) (M : Mem) : Option (Int32 × Mem) :=
  (f_X8_find x0 2 M).bind fun qv24 =>
  some (qv24.1, qv24.2)
def f_X8_copy_120  (k96 : Nat → Int32 → Int32 → Int32 → Int32 → Int32 → Int32 → Int32 → Mem → Option (Int32 × Mem)) (x0 : Nat) (x1 : Int32) (x2 : Int32) (x3 : Int32) (x4 : Int32) (x5 : Int32) (x6 : Int32) (x7 : Int32) (s0 : Int32) (M : Mem) : Option (Int32 × Mem) :=
  (gR M 18 x0 9).bind fun v26 =>
  (gR M 18 x0 9).bind fun v28 =>
  (aI M v28 (((40 * x1) + x2) + s0)).bind fun v30 =>
  (eI M v26 (((40 * x3) + x4) + s0) v30).bind fun M32 =>
  k96 x0 x1 x2 x3 x4 x5 x6 (x7 + 1) M32
def f_X8_copy_96   : Nat → Nat → Int32 → Int32 → Int32 → Int32 → Int32 → Int32 → Int32 → Mem → Option (Int32 × Mem)
  | 0, _, _, _, _, _, _, _, _, _ => none
  | n + 1, x0, x1, x2, x3, x4, x5, x6, x7, M =>
    if x5 ≤ x7 then (
    some (1, M)) else
    if x6 = 0 then (
    f_X8_copy_120 (f_X8_copy_96 n) x0 x1 x2 x3 x4 x5 x6 x7 x7 M) else
    f_X8_copy_120 (f_X8_copy_96 n) x0 x1 x2 x3 x4 x5 x6 x7 ((x5 - 1) - x7) M
def f_X8_copy  (x0 : Nat) (x1 : Int32) (x2 : Int32) (x3 : Int32) (x4 : Int32) (x5 : Int32) (M : Mem) : Option (Int32 × Mem) :=
  if kd M x0 = 18 then (
  (f_X8_isRow x1).bind fun v2 =>
  if v2 = 0 then (
  some ((-1), M)) else
  (f_X8_isRow x3).bind fun v4 =>
  if v4 = 0 then (
  some ((-1), M)) else
  if 0 ≤ x5 then (
  (gR M 18 x0 8).bind fun v5 =>
  (aI M v5 x1).bind fun v7 =>
  if v7 < 0 then (
  f_X8_copy_45 x0 M) else
  (gR M 18 x0 8).bind fun v9 =>
  (aI M v9 x3).bind fun v11 =>
  if 0 ≤ v11 then (
  (f_X8_isSpan x0 x1 x2 x5 M).bind fun v14 =>
  if v14 = 0 then (
  f_X8_copy_74 x0 M) else
  (f_X8_isSpan x0 x3 x4 x5 M).bind fun v16 =>
  if v16 = 0 then (
  f_X8_copy_74 x0 M) else
  if x4 ≤ x2 then (
  f_X8_copy_96 FU x0 x1 x2 x3 x4 x5 0 0 M) else
  f_X8_copy_96 FU x0 x1 x2 x3 x4 x5 1 0 M) else
  f_X8_copy_45 x0 M) else
  (f_X8_find x0 5 M).bind fun qv18 =>
  some (qv18.1, qv18.2)) else none
def f_X8_allBreath_4   : Nat → Nat → Int32 → Int32 → Mem → Option Int32
  | 0, _, _, _, _ => none
  | n + 1, x0, x1, x2, M =>
    (gI M 18 x0 1).bind fun v1 =>
    if v1 ≤ x2 then (
    some x1) else
    (gR M 18 x0 0).bind fun v3 =>
    (aI M v3 (3 + x2)).bind fun v5 =>
    f_X8_allBreath_4 n x0 (x1 + v5) (x2 + 1) M
def f_X8_allBreath  (x0 : Nat) (M : Mem) : Option Int32 :=
  if kd M x0 = 18 then (
  f_X8_allBreath_4 FU x0 0 0 M) else none
def f_X8_thereOf_4   : Nat → Nat → Int32 → Int32 → Int32 → Mem → Option Int32
  | 0, _, _, _, _, _ => none
  | n + 1, x0, x1, x2, x3, M =>
    if 6 ≤ x3 then (
    some x2) else
    if x1 = 8 then (
    (gR M 18 x0 8).bind fun v9 =>
    (aI M v9 x3).bind fun v11 =>
    if 0 ≤ v11 then (
    f_X8_thereOf_4 n x0 x1 (x2 + 1) (x3 + 1) M) else
    f_X8_thereOf_4 n x0 x1 (x2 + 0) (x3 + 1) M) else
    if x1 = 9 then (
    if 4 ≤ x3 then (
    f_X8_thereOf_4 n x0 x1 (x2 + 0) (x3 + 1) M) else
    (gR M 18 x0 10).bind fun v5 =>
    (aI M v5 x3).bind fun v7 =>
    if v7 < 0 then (
    f_X8_thereOf_4 n x0 x1 (x2 + 0) (x3 + 1) M) else
    f_X8_thereOf_4 n x0 x1 (x2 + 1) (x3 + 1) M) else
    if 3 ≤ x3 then (
    f_X8_thereOf_4 n x0 x1 (x2 + 0) (x3 + 1) M) else
    (gR M 18 x0 0).bind fun v1 =>
    (aI M v1 ((493 * (1 + x3)) + 0)).bind fun v3 =>
    if v3 < 0 then (
    f_X8_thereOf_4 n x0 x1 (x2 + 0) (x3 + 1) M) else
    f_X8_thereOf_4 n x0 x1 (x2 + 1) (x3 + 1) M
def f_X8_thereOf  (x0 : Nat) (x1 : Int32) (M : Mem) : Option Int32 :=
  if kd M x0 = 18 then (
  f_X8_thereOf_4 FU x0 x1 0 0 M) else none
def f_X8_isOf_22   (x2 : Int32) (x3 : Int32) (M : Mem) : Option Int32 :=
  if x2 = 2 then (
  if x3 = 5 then (
  some 1) else
  some 0) else
  some 0
def f_X8_isOf  (x0 : Nat) (x1 : Int32) (x2 : Int32) (M : Mem) : Option Int32 :=
  if kd M x0 = 18 then (
  (gR M 18 x0 2).bind fun v1 =>
  (aI M v1 x1).bind fun v3 =>
  if v3 = x2 then (
  some 1) else
  if x2 = 1 then (
  if v3 = 4 then (
  some 1) else
  f_X8_isOf_22 x2 v3 M) else
  f_X8_isOf_22 x2 v3 M) else none
def f_X8_those_4   : Nat → Nat → Int32 → Int32 → Int32 → Mem → Option Int32
  | 0, _, _, _, _, _ => none
  | n + 1, x0, x1, x2, x3, M =>
    (gI M 18 x0 1).bind fun v1 =>
    if v1 ≤ x3 then (
    some x2) else
    (f_X8_isOf x0 x3 x1 M).bind fun v4 =>
    if v4 = 0 then (
    f_X8_those_4 n x0 x1 (x2 + 0) (x3 + 1) M) else
    f_X8_those_4 n x0 x1 (x2 + 1) (x3 + 1) M
def f_X8_those  (x0 : Nat) (x1 : Int32) (M : Mem) : Option Int32 :=
  if kd M x0 = 18 then (
  f_X8_those_4 FU x0 x1 0 0 M) else none
def f_X8_countOf  (x0 : Nat) (x1 : Int32) (M : Mem) : Option Int32 :=
  if kd M x0 = 18 then (
  if x1 = 0 then (
  (gI M 18 x0 1).bind fun v2 =>
  some v2) else
  if x1 = 1 then (
  (gI M 18 x0 4).bind fun v5 =>
  some v5) else
  if x1 = 2 then (
  (gR M 18 x0 0).bind fun v8 =>
  (aI M v8 0).bind fun v10 =>
  some v10) else
  if x1 = 3 then (
  (gR M 18 x0 0).bind fun v13 =>
  (aI M v13 1).bind fun v15 =>
  some v15) else
  if x1 = 4 then (
  (gR M 18 x0 0).bind fun v18 =>
  (aI M v18 2).bind fun v20 =>
  some v20) else
  if x1 = 5 then (
  (f_X8_allBreath x0 M).bind fun v24 =>
  some v24) else
  if x1 = 6 then (
  (f_X8_those x0 1 M).bind fun v27 =>
  some v27) else
  if x1 = 7 then (
  (f_X8_those x0 2 M).bind fun v30 =>
  some v30) else
  (f_X8_thereOf x0 x1 M).bind fun v32 =>
  some v32) else none
def f_X8_count  (x0 : Nat) (x1 : Int32) (M : Mem) : Option Int32 :=
  if kd M x0 = 18 then (
  if (f_X8_in (Int32.toInt64 x1) 0 10) = 0 then (
  some ((-1))) else
  (f_X8_countOf x0 x1 M).bind fun v3 =>
  some v3) else none
def f_X8_taken  (x0 : Nat) (x1 : Int32) (x2 : Int32) (M : Mem) : Option Int32 :=
  if kd M x0 = 18 then (
  (gR M 18 x0 2).bind fun v1 =>
  (aI M v1 x1).bind fun v3 =>
  (gR M 18 x0 6).bind fun v5 =>
  (aI M v5 x2).bind fun v7 =>
  some ((f_X8_takesOf v3 v7))) else none
def f_X8_can  (x0 : Nat) (x1 : Int32) (x2 : Int32) (x3 : Int32) (M : Mem) : Option Int32 :=
  if kd M x0 = 18 then (
  (gR M 18 x0 0).bind fun v1 =>
  (aI M v1 (x1 + 2)).bind fun v3 =>
  if (f_X8_has v3 x3) = 0 then (
  (gR M 18 x0 2).bind fun v6 =>
  (aI M v6 x2).bind fun v8 =>
  (gR M 18 x0 6).bind fun v10 =>
  (aI M v10 x3).bind fun v12 =>
  if (f_X8_isTooDeep v8 v12) = 0 then (
  (gR M 18 x0 0).bind fun v15 =>
  (aI M v15 ((x1 + 3) + x2)).bind fun v17 =>
  (f_X8_taken x0 x2 x3 M).bind fun v20 =>
  if v17 < v20 then (
  some 0) else
  some 1) else
  some 0) else
  some 0) else none
def f_X8_orderTold_67   : Nat → Nat → Int32 → Int32 → Int32 → Mem → Option Int32
  | 0, _, _, _, _, _ => none
  | n + 1, x0, x1, x3, x4, M =>
    (gI M 18 x0 1).bind fun v21 =>
    if v21 ≤ x4 then (
    some x3) else
    (f_X8_can x0 0 x4 x1 M).bind fun v24 =>
    if v24 = 0 then (
    f_X8_orderTold_67 n x0 x1 (x3 ||| 0) (x4 + 1) M) else
    f_X8_orderTold_67 n x0 x1 (x3 ||| (1 <<< (x4 &&& 31))) (x4 + 1) M
def f_X8_orderTold  (x0 : Nat) (x1 : Int32) (x2 : Int32) (M : Mem) : Option Int32 :=
  if kd M x0 = 18 then (
  if x2 = 0 then (
  (gR M 18 x0 5).bind fun v2 =>
  (aI M v2 x1).bind fun v4 =>
  some v4) else
  if x2 = 1 then (
  (gR M 18 x0 6).bind fun v7 =>
  (aI M v7 x1).bind fun v9 =>
  some v9) else
  if x2 = 2 then (
  (gR M 18 x0 7).bind fun v12 =>
  (aI M v12 x1).bind fun v14 =>
  some v14) else
  if x2 = 3 then (
  (gR M 18 x0 0).bind fun v17 =>
  (aI M v17 2).bind fun v19 =>
  some (((v19 >>> (x1 &&& 31)) &&& 1))) else
  f_X8_orderTold_67 FU x0 x1 0 0 M) else none
def f_X8_sigherTold_68   : Nat → Nat → Int32 → Int32 → Int32 → Mem → Option Int32
  | 0, _, _, _, _, _ => none
  | n + 1, x0, x1, x3, x4, M =>
    (gI M 18 x0 4).bind fun v21 =>
    if v21 ≤ x4 then (
    some x3) else
    (f_X8_can x0 0 x1 x4 M).bind fun v24 =>
    if v24 = 0 then (
    f_X8_sigherTold_68 n x0 x1 (x3 ||| 0) (x4 + 1) M) else
    f_X8_sigherTold_68 n x0 x1 (x3 ||| (1 <<< (x4 &&& 31))) (x4 + 1) M
def f_X8_sigherTold  (x0 : Nat) (x1 : Int32) (x2 : Int32) (M : Mem) : Option Int32 :=
  if kd M x0 = 18 then (
  if x2 = 0 then (
  (gR M 18 x0 2).bind fun v2 =>
  (aI M v2 x1).bind fun v4 =>
  some v4) else
  if x2 = 1 then (
  (gR M 18 x0 0).bind fun v7 =>
  (aI M v7 (3 + x1)).bind fun v9 =>
  some v9) else
  if x2 = 2 then (
  (gR M 18 x0 3).bind fun v12 =>
  (aI M v12 x1).bind fun v14 =>
  some v14) else
  if x2 = 3 then (
  (gR M 18 x0 0).bind fun v17 =>
  (aI M v17 (8 + x1)).bind fun v19 =>
  some v19) else
  f_X8_sigherTold_68 FU x0 x1 0 0 M) else none
def f_X8_digest_228  (k206 : Nat → Int64 → Int32 → Mem → Option Int64) : Nat → Nat → Int64 → Int32 → Int32 → Mem → Option Int64
  | 0, _, _, _, _, _ => none
  | n + 1, x0, x1, x3, x4, M =>
    (gR M 18 x0 10).bind fun v31 =>
    (aI M v31 x3).bind fun v33 =>
    if v33 ≤ x4 then (
    k206 x0 x1 (x3 + 1) M) else
    (gR M 18 x0 11).bind fun v35 =>
    (aI M v35 ((60 * x3) + x4)).bind fun v37 =>
    f_X8_digest_228 k206 n x0 ((31 * x1) + (Int32.toInt64 v37)) x3 (x4 + 1) M
def f_X8_digest_206   : Nat → Nat → Int64 → Int32 → Mem → Option Int64
  | 0, _, _, _, _ => none
  | n + 1, x0, x1, x3, M =>
    if 4 ≤ x3 then (
    some x1) else
    (gR M 18 x0 10).bind fun v19 =>
    (aI M v19 x3).bind fun v21 =>
    f_X8_digest_228 (f_X8_digest_206 n) FU x0 ((31 * x1) + (Int32.toInt64 v21)) x3 0 M
def f_X8_digest_161  (k138 : Nat → Int64 → Int32 → Mem → Option Int64) : Nat → Nat → Int64 → Int32 → Int32 → Mem → Option Int64
  | 0, _, _, _, _, _ => none
  | n + 1, x0, x1, x3, x4, M =>
    (gR M 18 x0 8).bind fun v23 =>
    (aI M v23 x3).bind fun v25 =>
    if v25 ≤ x4 then (
    k138 x0 x1 (x3 + 1) M) else
    (gR M 18 x0 9).bind fun v27 =>
    (aI M v27 ((40 * x3) + x4)).bind fun v29 =>
    f_X8_digest_161 k138 n x0 ((31 * x1) + (Int32.toInt64 v29)) x3 (x4 + 1) M
def f_X8_digest_138   : Nat → Nat → Int64 → Int32 → Mem → Option Int64
  | 0, _, _, _, _ => none
  | n + 1, x0, x1, x3, M =>
    if 6 ≤ x3 then (
    f_X8_digest_206 FU x0 x1 0 M) else
    (gR M 18 x0 8).bind fun v15 =>
    (aI M v15 x3).bind fun v17 =>
    f_X8_digest_161 (f_X8_digest_138 n) FU x0 ((31 * x1) + (Int32.toInt64 v17)) x3 0 M
def f_X8_digest_105   : Nat → Nat → Int64 → Int32 → Mem → Option Int64
  | 0, _, _, _, _ => none
  | n + 1, x0, x1, x3, M =>
    if 4 ≤ x3 then (
    f_X8_digest_138 FU x0 x1 0 M) else
    (gR M 18 x0 0).bind fun v11 =>
    (aI M v11 ((493 * x3) + 0)).bind fun v13 =>
    f_X8_digest_105 n x0 ((31 * x1) + (Int32.toInt64 v13)) (x3 + 1) M
def f_X8_digest_69   : Nat → Nat → Int64 → Int32 → Mem → Option Int64
  | 0, _, _, _, _ => none
  | n + 1, x0, x1, x3, M =>
    (gI M 18 x0 4).bind fun v7 =>
    if (5 * v7) ≤ x3 then (
    f_X8_digest_105 FU x0 x1 1 M) else
    (f_X8_orderTold x0 (x3 / 5) (x3 - x3 / 5 * 5) M).bind fun v10 =>
    f_X8_digest_69 n x0 ((31 * x1) + (Int32.toInt64 v10)) (x3 + 1) M
def f_X8_digest_33   : Nat → Nat → Int64 → Int32 → Mem → Option Int64
  | 0, _, _, _, _ => none
  | n + 1, x0, x1, x3, M =>
    (gI M 18 x0 1).bind fun v3 =>
    if (5 * v3) ≤ x3 then (
    f_X8_digest_69 FU x0 x1 0 M) else
    (f_X8_sigherTold x0 (x3 / 5) (x3 - x3 / 5 * 5) M).bind fun v6 =>
    f_X8_digest_33 n x0 ((31 * x1) + (Int32.toInt64 v6)) (x3 + 1) M
def f_X8_digest_6   : Nat → Nat → Int64 → Int32 → Mem → Option Int64
  | 0, _, _, _, _ => none
  | n + 1, x0, x1, x3, M =>
    if 11 ≤ x3 then (
    f_X8_digest_33 FU x0 x1 0 M) else
    (f_X8_countOf x0 x3 M).bind fun v2 =>
    f_X8_digest_6 n x0 ((31 * x1) + (Int32.toInt64 v2)) (x3 + 1) M
def f_X8_digest  (x0 : Nat) (M : Mem) : Option Int64 :=
  if kd M x0 = 18 then (
  f_X8_digest_6 FU x0 17 0 M) else none
def f_X8_beginLine  (x0 : Nat) (x1 : Int32) (M : Mem) : Option Mem :=
  if kd M x0 = 18 then (
  (pI M 18 x0 26 0).bind fun M1 =>
  (bz 0).bind fun zqb37 =>
  (pI M1 18 x0 27 0).bind fun M3 =>
  (gR M3 18 x0 29).bind fun v5 =>
  (eI M3 v5 0 0).bind fun M7 =>
  (gR M7 18 x0 30).bind fun v9 =>
  (eI M7 v9 0 0).bind fun M11 =>
  (gR M11 18 x0 31).bind fun v13 =>
  (gR M11 18 x0 0).bind fun v15 =>
  (aI M11 v15 (3 + x1)).bind fun v17 =>
  (eI M11 v13 0 v17).bind fun M19 =>
  (gR M19 18 x0 32).bind fun v21 =>
  (gR M19 18 x0 0).bind fun v23 =>
  (aI M19 v23 2).bind fun v25 =>
  (eI M19 v21 0 v25).bind fun M27 =>
  (gR M27 18 x0 33).bind fun v29 =>
  (gR M27 18 x0 0).bind fun v31 =>
  (aI M27 v31 (8 + x1)).bind fun v33 =>
  (eI M27 v29 0 v33).bind fun M35 =>
  some M35) else none
def f_X8_makeRow_9   : Nat → Nat → Int32 → Int32 → Mem → Option Mem
  | 0, _, _, _, _ => none
  | n + 1, x0, x1, x3, M =>
    if 40 ≤ x3 then (
    some M) else
    (gR M 18 x0 9).bind fun v5 =>
    (eI M v5 ((40 * x1) + x3) 0).bind fun M7 =>
    f_X8_makeRow_9 n x0 x1 (x3 + 1) M7
def f_X8_makeRow  (x0 : Nat) (x1 : Int32) (x2 : Int32) (M : Mem) : Option Mem :=
  if kd M x0 = 18 then (
  (gR M 18 x0 8).bind fun v1 =>
  (eI M v1 x1 x2).bind fun M3 =>
  f_X8_makeRow_9 FU x0 x1 0 M3) else none
def f_X8_hoursTo  (x0 : Nat) (x1 : Int32) (M : Mem) : Option Int32 :=
  if kd M x0 = 18 then (
  (gR M 18 x0 29).bind fun v1 =>
  (gI M 18 x0 26).bind fun v3 =>
  (aI M v1 v3).bind fun v5 =>
  (gR M 18 x0 33).bind fun v7 =>
  (gI M 18 x0 26).bind fun v9 =>
  (aI M v7 v9).bind fun v11 =>
  (gR M 18 x0 5).bind fun v13 =>
  (aI M v13 x1).bind fun v15 =>
  some (((v5 + (f_X8_apart v11 v15)) + 1))) else none
def f_X8_mayNext_39   (x0 : Nat) (x1 : Int32) (x2 : Int32) (x3 : Int32) (s0 : Int32) (M : Mem) : Option Int32 :=
  if s0 = 0 then (
  some 0) else
  (gR M 18 x0 31).bind fun v17 =>
  (gI M 18 x0 26).bind fun v19 =>
  (aI M v17 v19).bind fun v21 =>
  (f_X8_taken x0 x1 x2 M).bind fun v24 =>
  if v21 < v24 then (
  some 0) else
  (f_X8_hoursTo x0 x2 M).bind fun v26 =>
  if x3 < v26 then (
  some 0) else
  some 1
def f_X8_mayNext_38   (x0 : Nat) (x1 : Int32) (x2 : Int32) (x3 : Int32) (M : Mem) : Option Int32 :=
  f_X8_mayNext_39 x0 x1 x2 x3 0 M
def f_X8_mayNext  (x0 : Nat) (x1 : Int32) (x2 : Int32) (x3 : Int32) (M : Mem) : Option Int32 :=
  if kd M x0 = 18 then (
  (gR M 18 x0 32).bind fun v1 =>
  (gI M 18 x0 26).bind fun v3 =>
  (aI M v1 v3).bind fun v5 =>
  if (f_X8_has v5 x2) = 0 then (
  (gR M 18 x0 2).bind fun v8 =>
  (aI M v8 x1).bind fun v10 =>
  (gR M 18 x0 6).bind fun v12 =>
  (aI M v12 x2).bind fun v14 =>
  if (f_X8_isTooDeep v10 v14) = 0 then (
  f_X8_mayNext_39 x0 x1 x2 x3 1 M) else
  f_X8_mayNext_38 x0 x1 x2 x3 M) else
  f_X8_mayNext_38 x0 x1 x2 x3 M) else none
def f_X8_nextLine_47  (k16 : Nat → Int32 → Int32 → Int32 → Mem → Option (Int32 × Mem)) (x0 : Nat) (x1 : Int32) (x2 : Int32) (x3 : Int32) (M : Mem) : Option (Int32 × Mem) :=
  (gI M 18 x0 4).bind fun v13 =>
  if v13 ≤ x3 then (
  (gI M 18 x0 26).bind fun v15 =>
  (pI M 18 x0 26 (v15 - 1)).bind fun M17 =>
  (gI M17 18 x0 26).bind fun v19 =>
  if 0 ≤ v19 then (
  (gR M17 18 x0 28).bind fun v21 =>
  (gI M17 18 x0 26).bind fun v23 =>
  (aI M17 v21 v23).bind fun v25 =>
  k16 x0 x1 x2 (v25 + 1) M17) else
  k16 x0 x1 x2 0 M17) else
  (gI M 18 x0 26).bind fun v27 =>
  (gR M 18 x0 28).bind fun v29 =>
  (eI M v29 v27 x3).bind fun M31 =>
  (gR M31 18 x0 29).bind fun v33 =>
  (f_X8_hoursTo x0 x3 M31).bind fun v36 =>
  (eI M31 v33 (v27 + 1) v36).bind fun M37 =>
  (gR M37 18 x0 30).bind fun v39 =>
  (gR M37 18 x0 30).bind fun v41 =>
  (aI M37 v41 v27).bind fun v43 =>
  (f_X8_brought x0 x1 x3 M37).bind fun v46 =>
  (eI M37 v39 (v27 + 1) (v43 + v46)).bind fun M47 =>
  (gR M47 18 x0 31).bind fun v49 =>
  (gR M47 18 x0 31).bind fun v51 =>
  (aI M47 v51 v27).bind fun v53 =>
  (f_X8_taken x0 x1 x3 M47).bind fun v56 =>
  (eI M47 v49 (v27 + 1) (v53 - v56)).bind fun M57 =>
  (gR M57 18 x0 32).bind fun v59 =>
  (gR M57 18 x0 32).bind fun v61 =>
  (aI M57 v61 v27).bind fun v63 =>
  (eI M57 v59 (v27 + 1) (v63 ||| (1 <<< (x3 &&& 31)))).bind fun M65 =>
  (gR M65 18 x0 33).bind fun v67 =>
  (gR M65 18 x0 5).bind fun v69 =>
  (aI M65 v69 x3).bind fun v71 =>
  (eI M65 v67 (v27 + 1) v71).bind fun M73 =>
  (gI M73 18 x0 26).bind fun v75 =>
  (pI M73 18 x0 26 (v75 + 1)).bind fun M77 =>
  some (1, M77)
def f_X8_nextLine_23  (k16 : Nat → Int32 → Int32 → Int32 → Mem → Option (Int32 × Mem)) : Nat → Nat → Int32 → Int32 → Int32 → Mem → Option (Int32 × Mem)
  | 0, _, _, _, _, _ => none
  | n + 1, x0, x1, x2, x3, M =>
    (gI M 18 x0 4).bind fun v9 =>
    if v9 ≤ x3 then (
    f_X8_nextLine_47 k16 x0 x1 x2 x3 M) else
    (f_X8_mayNext x0 x1 x3 x2 M).bind fun v12 =>
    if v12 = 0 then (
    f_X8_nextLine_23 k16 n x0 x1 x2 (x3 + 1) M) else
    f_X8_nextLine_47 k16 x0 x1 x2 x3 M
def f_X8_nextLine_16   : Nat → Nat → Int32 → Int32 → Int32 → Mem → Option (Int32 × Mem)
  | 0, _, _, _, _, _ => none
  | n + 1, x0, x1, x2, x3, M =>
    (gI M 18 x0 26).bind fun v7 =>
    if v7 < 0 then (
    some (0, M)) else
    f_X8_nextLine_23 (f_X8_nextLine_16 n) FU x0 x1 x2 x3 M
def f_X8_nextLine  (x0 : Nat) (x1 : Int32) (x2 : Int32) (M : Mem) : Option (Int32 × Mem) :=
  if kd M x0 = 18 then (
  (gI M 18 x0 27).bind fun v1 =>
  if v1 = 0 then (
  (bz 1).bind fun zqb5 =>
  (pI M 18 x0 27 1).bind fun M3 =>
  some (1, M3)) else
  f_X8_nextLine_16 FU x0 x1 x2 0 M) else none
def f_X8_dusk_83  (k37 : Nat → Int32 → Int32 → Int32 → Int32 → Mem → Option (Int32 × Mem)) : Nat → Nat → Int32 → Int32 → Int32 → Int32 → Int32 → Mem → Option (Int32 × Mem)
  | 0, _, _, _, _, _, _, _ => none
  | n + 1, x0, x1, x2, x3, x4, x5, M =>
    (gI M 18 x0 26).bind fun v27 =>
    if v27 ≤ x5 then (
    k37 x0 x1 x2 x3 x4 M) else
    (gR M 18 x0 9).bind fun v29 =>
    (gR M 18 x0 28).bind fun v31 =>
    (aI M v31 x5).bind fun v33 =>
    (eI M v29 ((40 * x3) + x5) v33).bind fun M35 =>
    f_X8_dusk_83 k37 n x0 x1 x2 x3 x4 (x5 + 1) M35
def f_X8_dusk_37   : Nat → Nat → Int32 → Int32 → Int32 → Int32 → Mem → Option (Int32 × Mem)
  | 0, _, _, _, _, _, _ => none
  | n + 1, x0, x1, x2, x3, x4, M =>
    (f_X8_nextLine x0 x1 x2 M).bind fun qv9 =>
    if qv9.1 = 0 then (
    some (x4, qv9.2)) else
    (gR qv9.2 18 x0 30).bind fun v11 =>
    (gI qv9.2 18 x0 26).bind fun v13 =>
    (aI qv9.2 v11 v13).bind fun v15 =>
    if v15 ≤ x4 then (
    f_X8_dusk_37 n x0 x1 x2 x3 x4 qv9.2) else
    (gR qv9.2 18 x0 30).bind fun v17 =>
    (gI qv9.2 18 x0 26).bind fun v19 =>
    (aI qv9.2 v17 v19).bind fun v21 =>
    (gI qv9.2 18 x0 26).bind fun v23 =>
    (f_X8_makeRow x0 x3 v23 qv9.2).bind fun M26 =>
    f_X8_dusk_83 (f_X8_dusk_37 n) FU x0 x1 x2 x3 v21 0 M26
def f_X8_dusk  (x0 : Nat) (x1 : Int32) (x2 : Int32) (x3 : Int32) (M : Mem) : Option (Int32 × Mem) :=
  if kd M x0 = 18 then (
  (f_X8_isSigher x0 x1 M).bind fun v2 =>
  if v2 = 0 then (
  some ((-1), M)) else
  if (f_X8_in (Int32.toInt64 x2) 0 30) = 0 then (
  some ((-1), M)) else
  (f_X8_isRow x3).bind fun v5 =>
  if v5 = 0 then (
  some ((-1), M)) else
  (f_X8_beginLine x0 x1 M).bind fun M7 =>
  f_X8_dusk_37 FU x0 x1 x2 x3 (-1) M7) else none
def f_X8_here  (x0 : Nat) (M : Mem) : Option Int32 :=
  if kd M x0 = 18 then (
  (gR M 18 x0 11).bind fun v1 =>
  (gI M 18 x0 17).bind fun v3 =>
  (gI M 18 x0 18).bind fun v5 =>
  (aI M v1 (v3 + v5)).bind fun v7 =>
  some v7) else none
def f_X8_figure  (x0 : Nat) (x1 : Int32) (x2 : Int32) (M : Mem) : Option (Int32 × Mem) :=
  if kd M x0 = 18 then (
  (gI M 18 x0 18).bind fun v1 =>
  (gI M 18 x0 19).bind fun v3 =>
  if v1 = v3 then (
  some ((-9), M)) else
  (f_X8_here x0 M).bind fun v6 =>
  if (f_X8_in (Int32.toInt64 v6) (Int32.toInt64 (48 + x1)) (Int32.toInt64 (48 + x2))) = 0 then (
  some ((-9), M)) else
  (gI M 18 x0 18).bind fun v8 =>
  (pI M 18 x0 18 (v8 + 1)).bind fun M10 =>
  (gR M10 18 x0 11).bind fun v12 =>
  (gI M10 18 x0 17).bind fun v14 =>
  (gI M10 18 x0 18).bind fun v16 =>
  (aI M10 v12 ((v14 + v16) - 1)).bind fun v18 =>
  some ((v18 - 48), M10)) else none
def f_X8_readsOrder_73   (x0 : Nat) (x1 : Int32) (x2 : Int32) (s0 : Int32) (M : Mem) : Option (Int32 × Mem) :=
  if s0 = (-9) then (
  some (0, M)) else
  (gR M 18 x0 22).bind fun v18 =>
  (gI M 18 x0 23).bind fun v20 =>
  (eI M v18 (3 * v20) x1).bind fun M22 =>
  (gR M22 18 x0 22).bind fun v24 =>
  (gI M22 18 x0 23).bind fun v26 =>
  (eI M22 v24 ((3 * v26) + 1) x2).bind fun M28 =>
  (gR M28 18 x0 22).bind fun v30 =>
  (gI M28 18 x0 23).bind fun v32 =>
  (eI M28 v30 ((3 * v32) + 2) s0).bind fun M34 =>
  (gI M34 18 x0 23).bind fun v36 =>
  (pI M34 18 x0 23 (v36 + 1)).bind fun M38 =>
  some (1, M38)
def f_X8_readsOrder_54   (x0 : Nat) (x1 : Int32) (s0 : Int32) (M : Mem) : Option (Int32 × Mem) :=
  if s0 = (-9) then (
  f_X8_readsOrder_73 x0 x1 s0 (-9) M) else
  (f_X8_figure x0 0 9 M).bind fun qv16 =>
  f_X8_readsOrder_73 x0 x1 s0 qv16.1 qv16.2
def f_X8_readsOrder  (x0 : Nat) (M : Mem) : Option (Int32 × Mem) :=
  if kd M x0 = 18 then (
  (gI M 18 x0 21).bind fun v1 =>
  if v1 = 0 then (
  some (0, M)) else
  (gI M 18 x0 23).bind fun v3 =>
  if v3 = 6 then (
  some (0, M)) else
  (gI M 18 x0 18).bind fun v5 =>
  (pI M 18 x0 18 (v5 + 1)).bind fun M7 =>
  (f_X8_figure x0 0 9 M7).bind fun qv10 =>
  if qv10.1 = (-9) then (
  f_X8_readsOrder_54 x0 qv10.1 (-9) qv10.2) else
  (f_X8_figure x0 1 9 qv10.2).bind fun qv13 =>
  f_X8_readsOrder_54 x0 qv10.1 qv13.1 qv13.2) else none
def f_X8_kindOfLetter  (x0 : Int32) : Int32 :=
  if x0 = 115 then (
  0) else
  if x0 = 100 then (
  1) else
  if x0 = 97 then (
  2) else
  if x0 = 102 then (
  3) else
  if x0 = 109 then (
  4) else
  if x0 = 112 then (
  5) else
  (-9)
def f_X8_readsSigher_67   (x0 : Nat) (x1 : Int32) (x2 : Int32) (s0 : Int32) (M : Mem) : Option (Int32 × Mem) :=
  if s0 = (-9) then (
  some (0, M)) else
  (gR M 18 x0 20).bind fun v18 =>
  (gI M 18 x0 21).bind fun v20 =>
  (eI M v18 (3 * v20) x1).bind fun M22 =>
  (gR M22 18 x0 20).bind fun v24 =>
  (gI M22 18 x0 21).bind fun v26 =>
  (eI M22 v24 ((3 * v26) + 1) x2).bind fun M28 =>
  (gR M28 18 x0 20).bind fun v30 =>
  (gI M28 18 x0 21).bind fun v32 =>
  (eI M28 v30 ((3 * v32) + 2) s0).bind fun M34 =>
  (gI M34 18 x0 21).bind fun v36 =>
  (pI M34 18 x0 21 (v36 + 1)).bind fun M38 =>
  some (1, M38)
def f_X8_readsSigher  (x0 : Nat) (M : Mem) : Option (Int32 × Mem) :=
  if kd M x0 = 18 then (
  (f_X8_here x0 M).bind fun v2 =>
  if (f_X8_kindOfLetter v2) = (-9) then (
  some (0, M)) else
  (gI M 18 x0 21).bind fun v4 =>
  if v4 = 5 then (
  some (0, M)) else
  (gI M 18 x0 23).bind fun v6 =>
  if v6 ≤ 0 then (
  (gI M 18 x0 18).bind fun v8 =>
  (pI M 18 x0 18 (v8 + 1)).bind fun M10 =>
  (f_X8_figure x0 0 9 M10).bind fun qv13 =>
  if qv13.1 = (-9) then (
  f_X8_readsSigher_67 x0 (f_X8_kindOfLetter v2) qv13.1 (-9) qv13.2) else
  (f_X8_figure x0 0 9 qv13.2).bind fun qv16 =>
  f_X8_readsSigher_67 x0 (f_X8_kindOfLetter v2) qv13.1 qv16.1 qv16.2) else
  some (0, M)) else none
def f_X8_skip_0   : Nat → Nat → Mem → Option Mem
  | 0, _, _ => none
  | n + 1, x0, M =>
    (gI M 18 x0 18).bind fun v1 =>
    (gI M 18 x0 19).bind fun v3 =>
    if v3 ≤ v1 then (
    some M) else
    (f_X8_here x0 M).bind fun v6 =>
    if v6 = 32 then (
    (gI M 18 x0 18).bind fun v7 =>
    (pI M 18 x0 18 (v7 + 1)).bind fun M9 =>
    f_X8_skip_0 n x0 M9) else
    some M
def f_X8_skip  (x0 : Nat) (M : Mem) : Option Mem :=
  if kd M x0 = 18 then (
  f_X8_skip_0 FU x0 M) else none
def f_X8_faultOf_86   (x0 : Nat) (x2 : Int32) (M : Mem) : Option (Int32 × Mem) :=
  if x2 = 0 then (
  (gI M 18 x0 18).bind fun v29 =>
  some (v29, M)) else
  (gI M 18 x0 23).bind fun v31 =>
  if v31 ≤ 0 then (
  (gI M 18 x0 18).bind fun v33 =>
  some (v33, M)) else
  some ((-9), M)
def f_X8_faultOf_74  (k39 : Nat → Int32 → Mem → Option (Int32 × Mem)) (x0 : Nat) (s0 : Int32) (M : Mem) : Option (Int32 × Mem) :=
  if s0 = 0 then (
  k39 x0 s0 M) else
  (f_X8_skip x0 M).bind fun M36 =>
  k39 x0 s0 M36
def f_X8_faultOf_39   : Nat → Nat → Int32 → Mem → Option (Int32 × Mem)
  | 0, _, _, _ => none
  | n + 1, x0, x2, M =>
    if x2 = 0 then (
    f_X8_faultOf_86 x0 x2 M) else
    (gI M 18 x0 18).bind fun v17 =>
    (gI M 18 x0 19).bind fun v19 =>
    if v19 ≤ v17 then (
    f_X8_faultOf_86 x0 x2 M) else
    (f_X8_here x0 M).bind fun v22 =>
    if v22 = 111 then (
    (f_X8_readsOrder x0 M).bind fun qv27 =>
    f_X8_faultOf_74 (f_X8_faultOf_39 n) x0 qv27.1 qv27.2) else
    (f_X8_readsSigher x0 M).bind fun qv24 =>
    f_X8_faultOf_74 (f_X8_faultOf_39 n) x0 qv24.1 qv24.2
def f_X8_faultOf  (x0 : Nat) (x1 : Int32) (M : Mem) : Option (Int32 × Mem) :=
  if kd M x0 = 18 then (
  (pI M 18 x0 17 (60 * x1)).bind fun M1 =>
  (pI M1 18 x0 18 0).bind fun M3 =>
  (gR M3 18 x0 10).bind fun v5 =>
  (aI M3 v5 x1).bind fun v7 =>
  (pI M3 18 x0 19 v7).bind fun M9 =>
  (pI M9 18 x0 21 0).bind fun M11 =>
  (pI M11 18 x0 23 0).bind fun M13 =>
  (f_X8_skip x0 M13).bind fun M16 =>
  f_X8_faultOf_39 FU x0 1 M16) else none
def f_X8_isText  (x0 : Int32) : Option Int32 :=
  (bz (f_X8_in (Int32.toInt64 x0) 0 3)).bind fun zqb2 =>
  some ((f_X8_in (Int32.toInt64 x0) 0 3))
def f_X8_fault  (x0 : Nat) (x1 : Int32) (M : Mem) : Option (Int32 × Mem) :=
  if kd M x0 = 18 then (
  (f_X8_isText x1).bind fun v2 =>
  if v2 = 0 then (
  some ((-1), M)) else
  (gR M 18 x0 10).bind fun v3 =>
  (aI M v3 x1).bind fun v5 =>
  if 0 ≤ v5 then (
  (f_X8_faultOf x0 x1 M).bind fun qv8 =>
  some (qv8.1, qv8.2)) else
  (f_X8_find x0 1 M).bind fun qv11 =>
  some (qv11.1, qv11.2)) else none
def f_X8_finding  (x0 : Nat) (M : Mem) : Option Int32 :=
  if kd M x0 = 18 then (
  (gI M 18 x0 15).bind fun v1 =>
  some v1) else none
def f_X8_findings  (x0 : Nat) (x1 : Int32) (M : Mem) : Option Int32 :=
  if kd M x0 = 18 then (
  if (f_X8_in (Int32.toInt64 x1) 1 5) = 0 then (
  some ((-1))) else
  (gR M 18 x0 16).bind fun v2 =>
  (aI M v2 x1).bind fun v4 =>
  some v4) else none
def f_X8_copyPart_2   : Nat → Nat → Int32 → Int32 → Int32 → Mem → Option Mem
  | 0, _, _, _, _, _ => none
  | n + 1, x0, x1, x2, x3, M =>
    if 13 ≤ x3 then (
    some M) else
    (gR M 18 x0 0).bind fun v1 =>
    (gR M 18 x0 0).bind fun v3 =>
    (aI M v3 (x1 + x3)).bind fun v5 =>
    (eI M v1 (x2 + x3) v5).bind fun M7 =>
    f_X8_copyPart_2 n x0 x1 x2 (x3 + 1) M7
def f_X8_copyPart  (x0 : Nat) (x1 : Int32) (x2 : Int32) (M : Mem) : Option Mem :=
  if kd M x0 = 18 then (
  f_X8_copyPart_2 FU x0 x1 x2 0 M) else none
def f_X8_sighsAt  (x0 : Nat) (x1 : Int32) (x2 : Int32) (x3 : Int32) (M : Mem) : Option Mem :=
  if kd M x0 = 18 then (
  (gR M 18 x0 0).bind fun v1 =>
  (aI M v1 ((x1 + 3) + x2)).bind fun v3 =>
  (f_X8_taken x0 x2 x3 M).bind fun v6 =>
  (eI M v1 ((x1 + 3) + x2) (v3 - v6)).bind fun M7 =>
  (gR M7 18 x0 0).bind fun v9 =>
  (aI M7 v9 (x1 + 1)).bind fun v11 =>
  (f_X8_brought x0 x2 x3 M7).bind fun v14 =>
  (eI M7 v9 (x1 + 1) (v11 + v14)).bind fun M15 =>
  (gR M15 18 x0 0).bind fun v17 =>
  (aI M15 v17 (x1 + 2)).bind fun v19 =>
  (eI M15 v17 (x1 + 2) (v19 ||| (1 <<< (x3 &&& 31)))).bind fun M21 =>
  some M21) else none
def f_X8_doesGivens_10   : Nat → Nat → Int32 → Mem → Option (Int32 × Mem)
  | 0, _, _, _ => none
  | n + 1, x0, x1, M =>
    (gI M 18 x0 4).bind fun v3 =>
    if v3 ≤ x1 then (
    some (1, M)) else
    (gR M 18 x0 24).bind fun v5 =>
    (aI M v5 x1).bind fun v7 =>
    if (v7 - 1) < 0 then (
    f_X8_doesGivens_10 n x0 (x1 + 1) M) else
    (f_X8_can x0 1972 (v7 - 1) x1 M).bind fun v10 =>
    if v10 = 0 then (
    some (0, M)) else
    (f_X8_sighsAt x0 1972 (v7 - 1) x1 M).bind fun M12 =>
    f_X8_doesGivens_10 n x0 (x1 + 1) M12
def f_X8_doesGivens  (x0 : Nat) (M : Mem) : Option (Int32 × Mem) :=
  if kd M x0 = 18 then (
  (f_X8_copyPart x0 0 1972 M).bind fun M2 =>
  f_X8_doesGivens_10 FU x0 0 M2) else none
def f_X8_nextGivens_37   (x0 : Nat) (x1 : Int32) (M : Mem) : Option (Int32 × Mem) :=
  if 0 ≤ x1 then (
  (gR M 18 x0 24).bind fun v13 =>
  (aI M v13 x1).bind fun v15 =>
  (eI M v13 x1 (v15 + 1)).bind fun M17 =>
  some (1, M17)) else
  some (0, M)
def f_X8_nextGivens_7   : Nat → Nat → Int32 → Mem → Option (Int32 × Mem)
  | 0, _, _, _ => none
  | n + 1, x0, x1, M =>
    if x1 < 0 then (
    f_X8_nextGivens_37 x0 x1 M) else
    (gR M 18 x0 24).bind fun v3 =>
    (aI M v3 x1).bind fun v5 =>
    (gI M 18 x0 1).bind fun v7 =>
    if v5 = v7 then (
    (gR M 18 x0 24).bind fun v9 =>
    (eI M v9 x1 0).bind fun M11 =>
    f_X8_nextGivens_7 n x0 (x1 + (-1)) M11) else
    f_X8_nextGivens_37 x0 x1 M
def f_X8_nextGivens  (x0 : Nat) (M : Mem) : Option (Int32 × Mem) :=
  if kd M x0 = 18 then (
  (gI M 18 x0 4).bind fun v1 =>
  f_X8_nextGivens_7 FU x0 (v1 - 1) M) else none
def f_X8_giveMost_146   : Nat → Nat → Int32 → Int32 → Int32 → Mem → Option (Int32 × Mem)
  | 0, _, _, _, _, _ => none
  | n + 1, x0, x1, x3, x5, M =>
    (gI M 18 x0 4).bind fun v32 =>
    if v32 ≤ x5 then (
    some (x3, M)) else
    (gR M 18 x0 9).bind fun v34 =>
    (gR M 18 x0 25).bind fun v36 =>
    (aI M v36 x5).bind fun v38 =>
    if v38 = 0 then (
    (eI M v34 ((40 * x1) + x5) (-9)).bind fun M46 =>
    f_X8_giveMost_146 n x0 x1 x3 (x5 + 1) M46) else
    (gR M 18 x0 25).bind fun v40 =>
    (aI M v40 x5).bind fun v42 =>
    (eI M v34 ((40 * x1) + x5) (v42 - 1)).bind fun M44 =>
    f_X8_giveMost_146 n x0 x1 x3 (x5 + 1) M44
def f_X8_giveMost_125  (k29 : Nat → Int32 → Int32 → Int32 → Int32 → Mem → Option (Int32 × Mem)) (x0 : Nat) (x1 : Int32) (x2 : Int32) (x3 : Int32) (M : Mem) : Option (Int32 × Mem) :=
  (f_X8_nextGivens x0 M).bind fun qv49 =>
  k29 x0 x1 x2 x3 qv49.1 qv49.2
def f_X8_giveMost_98  (k29 : Nat → Int32 → Int32 → Int32 → Int32 → Mem → Option (Int32 × Mem)) : Nat → Nat → Int32 → Int32 → Int32 → Int32 → Mem → Option (Int32 × Mem)
  | 0, _, _, _, _, _, _ => none
  | n + 1, x0, x1, x2, x3, x6, M =>
    if 6 ≤ x6 then (
    f_X8_giveMost_125 k29 x0 x1 x2 x3 M) else
    (gR M 18 x0 25).bind fun v51 =>
    (gR M 18 x0 24).bind fun v53 =>
    (aI M v53 x6).bind fun v55 =>
    (eI M v51 x6 v55).bind fun M57 =>
    f_X8_giveMost_98 k29 n x0 x1 x2 x3 (x6 + 1) M57
def f_X8_giveMost_84  (k29 : Nat → Int32 → Int32 → Int32 → Int32 → Mem → Option (Int32 × Mem)) (x0 : Nat) (x1 : Int32) (x2 : Int32) (x3 : Int32) (s0 : Int32) (M : Mem) : Option (Int32 × Mem) :=
  if s0 ≤ x3 then (
  f_X8_giveMost_125 k29 x0 x1 x2 x3 M) else
  f_X8_giveMost_98 k29 FU x0 x1 x2 s0 0 M
def f_X8_giveMost_29   : Nat → Nat → Int32 → Int32 → Int32 → Int32 → Mem → Option (Int32 × Mem)
  | 0, _, _, _, _, _, _ => none
  | n + 1, x0, x1, x2, x3, x4, M =>
    if x4 = 0 then (
    (gI M 18 x0 4).bind fun v5 =>
    (f_X8_makeRow x0 x1 v5 M).bind fun M8 =>
    f_X8_giveMost_146 FU x0 x1 x3 0 M8) else
    (f_X8_doesGivens x0 M).bind fun qv10 =>
    if qv10.1 = 0 then (
    f_X8_giveMost_125 (f_X8_giveMost_29 n) x0 x1 x2 x3 qv10.2) else
    if x2 = 0 then (
    (gR qv10.2 18 x0 0).bind fun v12 =>
    (aI qv10.2 v12 1974).bind fun v14 =>
    (f_X8_bits v14).bind fun v17 =>
    (gR qv10.2 18 x0 0).bind fun v18 =>
    (aI qv10.2 v18 2).bind fun v20 =>
    (f_X8_bits v20).bind fun v23 =>
    f_X8_giveMost_84 (f_X8_giveMost_29 n) x0 x1 x2 x3 (v17 - v23) qv10.2) else
    (gR qv10.2 18 x0 0).bind fun v24 =>
    (aI qv10.2 v24 1973).bind fun v26 =>
    (gR qv10.2 18 x0 0).bind fun v28 =>
    (aI qv10.2 v28 1).bind fun v30 =>
    f_X8_giveMost_84 (f_X8_giveMost_29 n) x0 x1 x2 x3 (v26 - v30) qv10.2
def f_X8_giveMost_8   : Nat → Nat → Int32 → Int32 → Int32 → Int32 → Int32 → Mem → Option (Int32 × Mem)
  | 0, _, _, _, _, _, _, _ => none
  | n + 1, x0, x1, x2, x3, x4, x5, M =>
    if 6 ≤ x5 then (
    f_X8_giveMost_29 FU x0 x1 x2 x3 x4 M) else
    (gR M 18 x0 24).bind fun v1 =>
    (eI M v1 x5 0).bind fun M3 =>
    f_X8_giveMost_8 n x0 x1 x2 x3 x4 (x5 + 1) M3
def f_X8_giveMost  (x0 : Nat) (x1 : Int32) (x2 : Int32) (M : Mem) : Option (Int32 × Mem) :=
  if kd M x0 = 18 then (
  f_X8_giveMost_8 FU x0 x1 x2 (-1) 1 0 M) else none
def f_X8_give  (x0 : Nat) (x1 : Int32) (M : Mem) : Option (Int32 × Mem) :=
  if kd M x0 = 18 then (
  (f_X8_isRow x1).bind fun v2 =>
  if v2 = 0 then (
  some ((-1), M)) else
  (gI M 18 x0 1).bind fun v3 =>
  if v3 = 0 then (
  some ((-4), M)) else
  (f_X8_giveMost x0 x1 1 M).bind fun qv6 =>
  some (qv6.1, qv6.2)) else none
def f_X8_guild_203   : Nat → Nat → Int32 → Mem → Option (Int32 × Mem)
  | 0, _, _, _ => none
  | n + 1, x0, x2, M =>
    if 4 ≤ x2 then (
    (gI M 18 x0 4).bind fun v77 =>
    some (v77, M)) else
    (gR M 18 x0 0).bind fun v79 =>
    (eI M v79 ((493 * x2) + 0) (-1)).bind fun M81 =>
    f_X8_guild_203 n x0 (x2 + 1) M81
def f_X8_guild_141   : Nat → Nat → Int32 → Mem → Option (Int32 × Mem)
  | 0, _, _, _ => none
  | n + 1, x0, x2, M =>
    (gI M 18 x0 4).bind fun v51 =>
    if v51 ≤ x2 then (
    f_X8_guild_203 FU x0 1 M) else
    (gR M 18 x0 5).bind fun v53 =>
    (gR M 18 x0 22).bind fun v55 =>
    (aI M v55 (3 * x2)).bind fun v57 =>
    (eI M v53 x2 v57).bind fun M59 =>
    (gR M59 18 x0 6).bind fun v61 =>
    (gR M59 18 x0 22).bind fun v63 =>
    (aI M59 v63 ((3 * x2) + 1)).bind fun v65 =>
    (eI M59 v61 x2 v65).bind fun M67 =>
    (gR M67 18 x0 7).bind fun v69 =>
    (gR M67 18 x0 22).bind fun v71 =>
    (aI M67 v71 ((3 * x2) + 2)).bind fun v73 =>
    (eI M67 v69 x2 v73).bind fun M75 =>
    f_X8_guild_141 n x0 (x2 + 1) M75
def f_X8_guild_77   : Nat → Nat → Int32 → Mem → Option (Int32 × Mem)
  | 0, _, _, _ => none
  | n + 1, x0, x2, M =>
    (gI M 18 x0 1).bind fun v25 =>
    if v25 ≤ x2 then (
    f_X8_guild_141 FU x0 0 M) else
    (gR M 18 x0 2).bind fun v27 =>
    (gR M 18 x0 20).bind fun v29 =>
    (aI M v29 (3 * x2)).bind fun v31 =>
    (eI M v27 x2 v31).bind fun M33 =>
    (gR M33 18 x0 0).bind fun v35 =>
    (gR M33 18 x0 20).bind fun v37 =>
    (aI M33 v37 ((3 * x2) + 1)).bind fun v39 =>
    (eI M33 v35 (3 + x2) v39).bind fun M41 =>
    (gR M41 18 x0 3).bind fun v43 =>
    (gR M41 18 x0 20).bind fun v45 =>
    (aI M41 v45 ((3 * x2) + 2)).bind fun v47 =>
    (eI M41 v43 x2 v47).bind fun M49 =>
    f_X8_guild_77 n x0 (x2 + 1) M49
def f_X8_guild_39   : Nat → Nat → Int32 → Mem → Option (Int32 × Mem)
  | 0, _, _, _ => none
  | n + 1, x0, x2, M =>
    if 493 ≤ x2 then (
    (gI M 18 x0 21).bind fun v13 =>
    (pI M 18 x0 1 v13).bind fun M15 =>
    (gI M15 18 x0 23).bind fun v17 =>
    (pI M15 18 x0 4 v17).bind fun M19 =>
    f_X8_guild_77 FU x0 0 M19) else
    (gR M 18 x0 0).bind fun v21 =>
    (eI M v21 x2 0).bind fun M23 =>
    f_X8_guild_39 n x0 (x2 + 1) M23
def f_X8_guild  (x0 : Nat) (x1 : Int32) (M : Mem) : Option (Int32 × Mem) :=
  if kd M x0 = 18 then (
  (f_X8_isText x1).bind fun v2 =>
  if v2 = 0 then (
  some ((-1), M)) else
  (gR M 18 x0 10).bind fun v3 =>
  (aI M v3 x1).bind fun v5 =>
  if 0 ≤ v5 then (
  (f_X8_faultOf x0 x1 M).bind fun qv8 =>
  if qv8.1 = (-9) then (
  f_X8_guild_39 FU x0 0 qv8.2) else
  some ((-4), qv8.2)) else
  (f_X8_find x0 1 M).bind fun qv11 =>
  some (qv11.1, qv11.2)) else none
def f_X8_areOrders  (x0 : Nat) (x1 : Int32) (M : Mem) : Option Int32 :=
  if kd M x0 = 18 then (
  (gI M 18 x0 4).bind fun v1 =>
  (bz (f_X8_in (Int32.toInt64 x1) 0 (Int32.toInt64 ((1 <<< (v1 &&& 31)) - 1)))).bind fun zqb4 =>
  some ((f_X8_in (Int32.toInt64 x1) 0 (Int32.toInt64 ((1 <<< (v1 &&& 31)) - 1))))) else none
def f_X8_wayOf_49  (k9 : Nat → Int32 → Int32 → Int32 → Int32 → Int32 → Mem → Option Int32) (x0 : Nat) (x1 : Int32) (x2 : Int32) (x4 : Int32) (x5 : Int32) (s0 : Int32) (M : Mem) : Option Int32 :=
  if (f_X8_has x2 x5) = 0 then (
  k9 x0 x1 x2 s0 x4 (x5 + 1) M) else
  (gR M 18 x0 5).bind fun v23 =>
  (aI M v23 x5).bind fun v25 =>
  if v25 ≤ x4 then (
  k9 x0 x1 x2 s0 x4 (x5 + 1) M) else
  (gR M 18 x0 5).bind fun v27 =>
  (aI M v27 x5).bind fun v29 =>
  k9 x0 x1 x2 s0 v29 (x5 + 1) M
def f_X8_wayOf_48  (k9 : Nat → Int32 → Int32 → Int32 → Int32 → Int32 → Mem → Option Int32) (x0 : Nat) (x1 : Int32) (x2 : Int32) (x3 : Int32) (x4 : Int32) (x5 : Int32) (M : Mem) : Option Int32 :=
  f_X8_wayOf_49 k9 x0 x1 x2 x4 x5 x3 M
def f_X8_wayOf_9   : Nat → Nat → Int32 → Int32 → Int32 → Int32 → Int32 → Mem → Option Int32
  | 0, _, _, _, _, _, _, _ => none
  | n + 1, x0, x1, x2, x3, x4, x5, M =>
    (gI M 18 x0 4).bind fun v1 =>
    if v1 ≤ x5 then (
    (gR M 18 x0 0).bind fun v3 =>
    (aI M v3 (8 + x1)).bind fun v5 =>
    (gR M 18 x0 0).bind fun v8 =>
    (aI M v8 (8 + x1)).bind fun v10 =>
    if x2 = 0 then (
    some 0) else
    if (f_X8_apart v10 x4) ≤ (f_X8_apart v5 x3) then (
    some (((x4 - x3) + (f_X8_apart v10 x4)))) else
    some (((x4 - x3) + (f_X8_apart v5 x3)))) else
    if (f_X8_has x2 x5) = 0 then (
    f_X8_wayOf_48 (f_X8_wayOf_9 n) x0 x1 x2 x3 x4 x5 M) else
    (gR M 18 x0 5).bind fun v14 =>
    (aI M v14 x5).bind fun v16 =>
    if x3 ≤ v16 then (
    f_X8_wayOf_48 (f_X8_wayOf_9 n) x0 x1 x2 x3 x4 x5 M) else
    (gR M 18 x0 5).bind fun v18 =>
    (aI M v18 x5).bind fun v20 =>
    f_X8_wayOf_49 (f_X8_wayOf_9 n) x0 x1 x2 x4 x5 v20 M
def f_X8_wayOf  (x0 : Nat) (x1 : Int32) (x2 : Int32) (M : Mem) : Option Int32 :=
  if kd M x0 = 18 then (
  f_X8_wayOf_9 FU x0 x1 x2 99 (-1) 0 M) else none
def f_X8_hours_35   : Nat → Nat → Int32 → Int32 → Int32 → Int32 → Mem → Option Int32
  | 0, _, _, _, _, _, _ => none
  | n + 1, x0, x1, x3, x4, x5, M =>
    (gI M 18 x0 4).bind fun v9 =>
    if v9 ≤ x5 then (
    (f_X8_wayOf x0 x1 x3 M).bind fun v12 =>
    (f_X8_bits x3).bind fun v14 =>
    some ((v12 + v14))) else
    if (f_X8_has x3 x5) = 0 then (
    f_X8_hours_35 n x0 x1 x3 x4 (x5 + 1) M) else
    (f_X8_taken x0 x1 x5 M).bind fun v17 =>
    (gR M 18 x0 2).bind fun v18 =>
    (aI M v18 x1).bind fun v20 =>
    (gR M 18 x0 6).bind fun v22 =>
    (aI M v22 x5).bind fun v24 =>
    if (f_X8_isTooDeep v20 v24) = 0 then (
    (gR M 18 x0 0).bind fun v27 =>
    (aI M v27 (3 + x1)).bind fun v29 =>
    if (x4 + v17) ≤ v29 then (
    f_X8_hours_35 n x0 x1 x3 (x4 + v17) (x5 + 1) M) else
    some ((-9))) else
    some ((-9))
def f_X8_hours  (x0 : Nat) (x1 : Int32) (x2 : Int32) (M : Mem) : Option Int32 :=
  if kd M x0 = 18 then (
  (f_X8_isSigher x0 x1 M).bind fun v2 =>
  if v2 = 0 then (
  some ((-1))) else
  (f_X8_areOrders x0 x2 M).bind fun v4 =>
  if v4 = 0 then (
  some ((-1))) else
  (gR M 18 x0 0).bind fun v5 =>
  (aI M v5 2).bind fun v7 =>
  f_X8_hours_35 FU x0 x1 (x2 &&& (v7 ^^^ (-1))) 0 0 M) else none
def f_X8_copyGuild_2   : Nat → Nat → Int32 → Int32 → Int32 → Mem → Option Mem
  | 0, _, _, _, _, _ => none
  | n + 1, x0, x1, x2, x3, M =>
    if 493 ≤ x3 then (
    some M) else
    (gR M 18 x0 0).bind fun v1 =>
    (gR M 18 x0 0).bind fun v3 =>
    (aI M v3 (x1 + x3)).bind fun v5 =>
    (eI M v1 (x2 + x3) v5).bind fun M7 =>
    f_X8_copyGuild_2 n x0 x1 x2 (x3 + 1) M7
def f_X8_copyGuild  (x0 : Nat) (x1 : Int32) (x2 : Int32) (M : Mem) : Option Mem :=
  if kd M x0 = 18 then (
  f_X8_copyGuild_2 FU x0 x1 x2 0 M) else none
def f_X8_keep  (x0 : Nat) (x1 : Int32) (M : Mem) : Option (Int32 × Mem) :=
  if kd M x0 = 18 then (
  if (f_X8_in (Int32.toInt64 x1) 0 2) = 0 then (
  some ((-1), M)) else
  (gI M 18 x0 1).bind fun v2 =>
  if v2 = 0 then (
  some ((-4), M)) else
  (f_X8_copyGuild x0 0 (493 * (1 + x1)) M).bind fun M5 =>
  (gR M5 18 x0 0).bind fun v6 =>
  (aI M5 v6 0).bind fun v8 =>
  some (v8, M5)) else none
def f_X8_kinds_35   : Nat → Nat → Int32 → Int32 → Int32 → Int32 → Mem → Option (Int32 × Mem)
  | 0, _, _, _, _, _, _ => none
  | n + 1, x0, x1, x2, x4, x5, M =>
    if 6 ≤ x5 then (
    some (x4, M)) else
    (gR M 18 x0 0).bind fun v8 =>
    (aI M v8 (3 + x1)).bind fun v10 =>
    (f_X8_isSo x0 x2 x5 v10 M).bind fun v13 =>
    if v13 = 0 then (
    f_X8_kinds_35 n x0 x1 x2 (x4 ||| 0) (x5 + 1) M) else
    f_X8_kinds_35 n x0 x1 x2 (x4 ||| (1 <<< (x5 &&& 31))) (x5 + 1) M
def f_X8_kinds  (x0 : Nat) (x1 : Int32) (x2 : Int32) (M : Mem) : Option (Int32 × Mem) :=
  if kd M x0 = 18 then (
  (f_X8_isSigher x0 x1 M).bind fun v2 =>
  if v2 = 0 then (
  some ((-1), M)) else
  (f_X8_isRow x2).bind fun v4 =>
  if v4 = 0 then (
  some ((-1), M)) else
  (f_X8_noPairs x0 x2 M).bind fun qv6 =>
  if qv6.1 = 0 then (
  f_X8_kinds_35 FU x0 x1 x2 0 0 qv6.2) else
  some (qv6.1, qv6.2)) else none
def f_X8_lay  (x0 : Nat) (x1 : Int32) (x2 : Int32) (x3 : Int32) (M : Mem) : Option (Int32 × Mem) :=
  if kd M x0 = 18 then (
  (f_X8_refused x0 x1 x2 M).bind fun qv2 =>
  if qv2.1 = 0 then (
  (gR qv2.2 18 x0 9).bind fun v4 =>
  (aI qv2.2 v4 ((40 * x1) + x2)).bind fun v6 =>
  (gR qv2.2 18 x0 9).bind fun v8 =>
  (eI qv2.2 v8 ((40 * x1) + x2) x3).bind fun M10 =>
  (f_X8_tell x0 v6 M10).bind fun qv13 =>
  some (qv13.1, qv13.2)) else
  some (qv2.1, qv2.2)) else none
def f_X8_loose_59  (k44 : Nat → Int32 → Int32 → Int32 → Int32 → Int32 → Mem → Option Int32) : Nat → Nat → Int32 → Int32 → Int32 → Int32 → Int32 → Int32 → Mem → Option Int32
  | 0, _, _, _, _, _, _, _, _ => none
  | n + 1, x0, x1, x2, x3, x4, x5, x6, M =>
    (gI M 18 x0 4).bind fun v4 =>
    if v4 ≤ x6 then (
    k44 x0 x1 x2 x3 x4 (x5 + 1) M) else
    (gR M 18 x0 5).bind fun v6 =>
    (aI M v6 x6).bind fun v8 =>
    if v8 = ((x1 + x5) - (x1 + x5) / 10 * 10) then (
    f_X8_loose_59 k44 n x0 x1 x2 x3 (x4 ||| (1 <<< (x6 &&& 31))) x5 (x6 + 1) M) else
    f_X8_loose_59 k44 n x0 x1 x2 x3 (x4 ||| 0) x5 (x6 + 1) M
def f_X8_loose_44   : Nat → Nat → Int32 → Int32 → Int32 → Int32 → Int32 → Mem → Option Int32
  | 0, _, _, _, _, _, _, _ => none
  | n + 1, x0, x1, x2, x3, x4, x5, M =>
    if x3 < x5 then (
    some x4) else
    if x2 ≤ x5 then (
    some x4) else
    f_X8_loose_59 (f_X8_loose_44 n) FU x0 x1 x2 x3 x4 x5 0 M
def f_X8_loose  (x0 : Nat) (x1 : Int32) (x2 : Int32) (x3 : Int32) (M : Mem) : Option Int32 :=
  if kd M x0 = 18 then (
  if (f_X8_in (Int32.toInt64 x1) 0 9) = 0 then (
  some ((-1))) else
  if (f_X8_in (Int32.toInt64 x2) 1 9) = 0 then (
  some ((-1))) else
  if (f_X8_in (Int32.toInt64 x3) 0 20) = 0 then (
  some ((-1))) else
  f_X8_loose_44 FU x0 x1 x2 x3 0 0 M) else none
def f_X8_keepPast_2   : Nat → Nat → Int32 → Mem → Option Mem
  | 0, _, _, _ => none
  | n + 1, x0, x1, M =>
    if 12 ≤ x1 then (
    (gR M 18 x0 0).bind fun v1 =>
    (aI M v1 0).bind fun v3 =>
    (eI M v1 0 (v3 + 1)).bind fun M5 =>
    some M5) else
    (gR M 18 x0 0).bind fun v7 =>
    (gR M 18 x0 0).bind fun v9 =>
    (aI M v9 0).bind fun v11 =>
    (gR M 18 x0 0).bind fun v13 =>
    (aI M v13 (1 + x1)).bind fun v15 =>
    (eI M v7 ((13 + (12 * v11)) + x1) v15).bind fun M17 =>
    f_X8_keepPast_2 n x0 (x1 + 1) M17
def f_X8_keepPast  (x0 : Nat) (M : Mem) : Option Mem :=
  if kd M x0 = 18 then (
  f_X8_keepPast_2 FU x0 0 M) else none
def f_X8_rests  (x0 : Nat) (x1 : Int32) (M : Mem) : Option Mem :=
  if kd M x0 = 18 then (
  (gR M 18 x0 0).bind fun v1 =>
  (gR M 18 x0 0).bind fun v3 =>
  (aI M v3 (3 + x1)).bind fun v5 =>
  if v5 ≤ 7 then (
  (gR M 18 x0 0).bind fun v7 =>
  (aI M v7 (3 + x1)).bind fun v9 =>
  (eI M v1 (3 + x1) (v9 + 2)).bind fun M11 =>
  some M11) else
  (eI M v1 (3 + x1) 9).bind fun M13 =>
  some M13) else none
def f_X8_lots_169  (k58 : Nat → Int32 → Int64 → Int32 → Mem → Option (Int32 × Mem)) (x0 : Nat) (x1 : Int32) (x3 : Int64) (x5 : Int32) (x6 : Int32) (x7 : Int32) (M : Mem) : Option (Int32 × Mem) :=
  (gR M 18 x0 0).bind fun v35 =>
  (gR M 18 x0 5).bind fun v37 =>
  (aI M v37 x7).bind fun v39 =>
  (eI M v35 (8 + x6) v39).bind fun M41 =>
  k58 x0 x1 x3 (x5 + 1) M41
def f_X8_lots_58   : Nat → Nat → Int32 → Int64 → Int32 → Mem → Option (Int32 × Mem)
  | 0, _, _, _, _, _ => none
  | n + 1, x0, x1, x3, x5, M =>
    if x1 ≤ x5 then (
    (gR M 18 x0 0).bind fun v9 =>
    (aI M v9 1).bind fun v11 =>
    some (v11, M)) else
    (gI M 18 x0 1).bind fun v13 =>
    if (Int32.toInt64 v13) = 0 then none else
    (gI M 18 x0 4).bind fun v15 =>
    if (Int32.toInt64 v15) = 0 then none else
    (f_X8_keepPast x0 M).bind fun M18 =>
    if (lg_cmp ((((x3 * 48271) - (x3 * 48271) / 2147483647 * 2147483647) / 8) - (((x3 * 48271) - (x3 * 48271) / 2147483647 * 2147483647) / 8) / 4 * 4) 0) = 0 then (
    (f_X8_rests x0 (Int64.toInt32 (((x3 * 48271) - (x3 * 48271) / 2147483647 * 2147483647) - ((x3 * 48271) - (x3 * 48271) / 2147483647 * 2147483647) / (Int32.toInt64 v13) * (Int32.toInt64 v13))) M18).bind fun M32 =>
    f_X8_lots_58 n x0 x1 ((x3 * 48271) - (x3 * 48271) / 2147483647 * 2147483647) (x5 + 1) M32) else
    (f_X8_can x0 0 (Int64.toInt32 (((x3 * 48271) - (x3 * 48271) / 2147483647 * 2147483647) - ((x3 * 48271) - (x3 * 48271) / 2147483647 * 2147483647) / (Int32.toInt64 v13) * (Int32.toInt64 v13))) (Int64.toInt32 ((((x3 * 48271) - (x3 * 48271) / 2147483647 * 2147483647) / 64) - (((x3 * 48271) - (x3 * 48271) / 2147483647 * 2147483647) / 64) / (Int32.toInt64 v15) * (Int32.toInt64 v15))) M18).bind fun v20 =>
    if v20 = 0 then (
    f_X8_lots_169 (f_X8_lots_58 n) x0 x1 ((x3 * 48271) - (x3 * 48271) / 2147483647 * 2147483647) x5 (Int64.toInt32 (((x3 * 48271) - (x3 * 48271) / 2147483647 * 2147483647) - ((x3 * 48271) - (x3 * 48271) / 2147483647 * 2147483647) / (Int32.toInt64 v13) * (Int32.toInt64 v13))) (Int64.toInt32 ((((x3 * 48271) - (x3 * 48271) / 2147483647 * 2147483647) / 64) - (((x3 * 48271) - (x3 * 48271) / 2147483647 * 2147483647) / 64) / (Int32.toInt64 v15) * (Int32.toInt64 v15))) M18) else
    (gR M18 18 x0 0).bind fun v21 =>
    (aI M18 v21 (8 + (Int64.toInt32 (((x3 * 48271) - (x3 * 48271) / 2147483647 * 2147483647) - ((x3 * 48271) - (x3 * 48271) / 2147483647 * 2147483647) / (Int32.toInt64 v13) * (Int32.toInt64 v13))))).bind fun v23 =>
    (gR M18 18 x0 5).bind fun v25 =>
    (aI M18 v25 (Int64.toInt32 ((((x3 * 48271) - (x3 * 48271) / 2147483647 * 2147483647) / 64) - (((x3 * 48271) - (x3 * 48271) / 2147483647 * 2147483647) / 64) / (Int32.toInt64 v15) * (Int32.toInt64 v15)))).bind fun v27 =>
    if v23 = v27 then (
    (f_X8_sighsAt x0 0 (Int64.toInt32 (((x3 * 48271) - (x3 * 48271) / 2147483647 * 2147483647) - ((x3 * 48271) - (x3 * 48271) / 2147483647 * 2147483647) / (Int32.toInt64 v13) * (Int32.toInt64 v13))) (Int64.toInt32 ((((x3 * 48271) - (x3 * 48271) / 2147483647 * 2147483647) / 64) - (((x3 * 48271) - (x3 * 48271) / 2147483647 * 2147483647) / 64) / (Int32.toInt64 v15) * (Int32.toInt64 v15))) M18).bind fun M30 =>
    f_X8_lots_58 n x0 x1 ((x3 * 48271) - (x3 * 48271) / 2147483647 * 2147483647) (x5 + 1) M30) else
    f_X8_lots_169 (f_X8_lots_58 n) x0 x1 ((x3 * 48271) - (x3 * 48271) / 2147483647 * 2147483647) x5 (Int64.toInt32 (((x3 * 48271) - (x3 * 48271) / 2147483647 * 2147483647) - ((x3 * 48271) - (x3 * 48271) / 2147483647 * 2147483647) / (Int32.toInt64 v13) * (Int32.toInt64 v13))) (Int64.toInt32 ((((x3 * 48271) - (x3 * 48271) / 2147483647 * 2147483647) / 64) - (((x3 * 48271) - (x3 * 48271) / 2147483647 * 2147483647) / 64) / (Int32.toInt64 v15) * (Int32.toInt64 v15))) M18
def f_X8_lots  (x0 : Nat) (x1 : Int32) (x2 : Int32) (M : Mem) : Option (Int32 × Mem) :=
  if kd M x0 = 18 then (
  if (f_X8_in (Int32.toInt64 x1) 1 20) = 0 then (
  some ((-1), M)) else
  if (f_X8_in (Int32.toInt64 x2) 1 2147483646) = 0 then (
  some ((-1), M)) else
  (gI M 18 x0 1).bind fun v3 =>
  if v3 = 0 then (
  some ((-4), M)) else
  (gR M 18 x0 0).bind fun v5 =>
  (aI M v5 0).bind fun v7 =>
  if (v7 + x1) ≤ 40 then (
  f_X8_lots_58 FU x0 x1 (Int32.toInt64 x2) 0 M) else
  some ((-2), M)) else none
def f_X8_lower  (x0 : Nat) (M : Mem) : Option Int64 :=
  if kd M x0 = 18 then (
  (gL M 18 x0 14).bind fun v1 =>
  some v1) else none
def f_X8_markOf  (x0 : Nat) (x1 : Int32) (x2 : Int32) (x3 : Int32) (M : Mem) : Option Int32 :=
  if kd M x0 = 18 then (
  if x3 = 1 then (
  (gR M 18 x0 6).bind fun v2 =>
  (aI M v2 x2).bind fun v4 =>
  (f_X8_taken x0 x1 x2 M).bind fun v7 =>
  some ((v4 - v7))) else
  if x3 = 2 then (
  (gR M 18 x0 2).bind fun v9 =>
  (aI M v9 x1).bind fun v11 =>
  (gR M 18 x0 6).bind fun v13 =>
  (aI M v13 x2).bind fun v15 =>
  if (f_X8_isTooDeep v11 v15) = 0 then (
  some 0) else
  some 1) else
  if x3 = 3 then (
  (gR M 18 x0 7).bind fun v19 =>
  (aI M v19 x2).bind fun v21 =>
  (f_X8_brought x0 x1 x2 M).bind fun v24 =>
  some ((v21 - v24))) else
  if x3 = 4 then (
  (gR M 18 x0 0).bind fun v26 =>
  (aI M v26 2).bind fun v28 =>
  if (f_X8_has v28 x2) = 0 then (
  some 1) else
  some 0) else
  (gR M 18 x0 6).bind fun v31 =>
  (aI M v31 x2).bind fun v33 =>
  if (f_X8_isTooDeep 2 v33) = 0 then (
  some 0) else
  (gR M 18 x0 6).bind fun v36 =>
  (aI M v36 x2).bind fun v38 =>
  if (f_X8_isTooDeep 5 v38) = 0 then (
  some 1) else
  some 0) else none
def f_X8_mark_42   : Nat → Nat → Int32 → Int32 → Int32 → Int32 → Mem → Option (Int32 × Mem)
  | 0, _, _, _, _, _, _ => none
  | n + 1, x0, x1, x2, x3, x4, M =>
    (gI M 18 x0 4).bind fun v9 =>
    if v9 ≤ x4 then (
    some (x3, M)) else
    (f_X8_markOf x0 x1 x4 x2 M).bind fun v12 =>
    f_X8_mark_42 n x0 x1 x2 (x3 + v12) (x4 + 1) M
def f_X8_mark  (x0 : Nat) (x1 : Int32) (x2 : Int32) (M : Mem) : Option (Int32 × Mem) :=
  if kd M x0 = 18 then (
  (f_X8_isSigher x0 x1 M).bind fun v2 =>
  if v2 = 0 then (
  some ((-1), M)) else
  if (f_X8_in (Int32.toInt64 x2) 1 5) = 0 then (
  some ((-1), M)) else
  (f_X8_isOf x0 x1 x2 M).bind fun v5 =>
  if v5 = 0 then (
  (f_X8_find x0 3 M).bind fun qv7 =>
  some (qv7.1, qv7.2)) else
  f_X8_mark_42 FU x0 x1 x2 0 0 M) else none
def f_X8_mean_44   : Nat → Nat → Int32 → Int64 → Int32 → Mem → Option (Int32 × Mem)
  | 0, _, _, _, _, _ => none
  | n + 1, x0, x1, x2, x4, M =>
    (gR M 18 x0 8).bind fun v17 =>
    (aI M v17 x1).bind fun v19 =>
    if v19 ≤ x4 then (
    (gR M 18 x0 8).bind fun v21 =>
    (aI M v21 x1).bind fun v23 =>
    if (Int32.toInt64 v23) = 0 then none else
    (f_X8_tell x0 (Int64.toInt32 (x2 / (Int32.toInt64 v23))) M).bind fun qv26 =>
    some (qv26.1, qv26.2)) else
    (gR M 18 x0 9).bind fun v29 =>
    (aI M v29 ((40 * x1) + x4)).bind fun v31 =>
    f_X8_mean_44 n x0 x1 (x2 + (Int32.toInt64 v31)) (x4 + 1) M
def f_X8_mean  (x0 : Nat) (x1 : Int32) (M : Mem) : Option (Int32 × Mem) :=
  if kd M x0 = 18 then (
  (f_X8_isRow x1).bind fun v2 =>
  if v2 = 0 then (
  some ((-1), M)) else
  (gR M 18 x0 8).bind fun v3 =>
  (aI M v3 x1).bind fun v5 =>
  if 0 ≤ v5 then (
  (gR M 18 x0 8).bind fun v7 =>
  (aI M v7 x1).bind fun v9 =>
  if v9 = 0 then (
  (f_X8_find x0 4 M).bind fun qv12 =>
  some (qv12.1, qv12.2)) else
  f_X8_mean_44 FU x0 x1 0 0 M) else
  (f_X8_find x0 1 M).bind fun qv15 =>
  some (qv15.1, qv15.2)) else none
def f_X8_doesPlain_20  (k10 : Nat → Int32 → Int32 → Mem → Option Mem) : Nat → Nat → Int32 → Int32 → Int32 → Mem → Option Mem
  | 0, _, _, _, _, _ => none
  | n + 1, x0, x1, x2, x3, M =>
    (gI M 18 x0 1).bind fun v5 =>
    if v5 ≤ x3 then (
    k10 x0 x1 (x2 + 1) M) else
    if (f_X8_has x1 x2) = 0 then (
    (f_X8_can x0 1972 x3 x2 M).bind fun v9 =>
    if v9 = 0 then (
    f_X8_doesPlain_20 k10 n x0 x1 x2 (x3 + 1) M) else
    (f_X8_sighsAt x0 1972 x3 x2 M).bind fun M11 =>
    f_X8_doesPlain_20 k10 n x0 x1 x2 (x3 + 1) M11) else
    f_X8_doesPlain_20 k10 n x0 x1 x2 (x3 + 1) M
def f_X8_doesPlain_10   : Nat → Nat → Int32 → Int32 → Mem → Option Mem
  | 0, _, _, _, _ => none
  | n + 1, x0, x1, x2, M =>
    (gI M 18 x0 4).bind fun v3 =>
    if v3 ≤ x2 then (
    some M) else
    f_X8_doesPlain_20 (f_X8_doesPlain_10 n) FU x0 x1 x2 0 M
def f_X8_doesPlain  (x0 : Nat) (x1 : Int32) (M : Mem) : Option Mem :=
  if kd M x0 = 18 then (
  (f_X8_copyPart x0 0 1972 M).bind fun M2 =>
  f_X8_doesPlain_10 FU x0 x1 0 M2) else none
def f_X8_tellParts_6   : Nat → Nat → Int64 → Int64 → Int64 → Int64 → Mem → Option (Int32 × Mem)
  | 0, _, _, _, _, _, _ => none
  | n + 1, x0, x1, x3, x5, x7, M =>
    if (lg_cmp x7 0) = 0 then (
    if x5 = 0 then none else
    (pL M 18 x0 13 (x1 / x5)).bind fun M1 =>
    if x5 = 0 then none else
    (pL M1 18 x0 14 (x3 / x5)).bind fun M3 =>
    some (1, M3)) else
    if x7 = 0 then none else
    f_X8_tellParts_6 n x0 x1 x3 x7 (x5 - x5 / x7 * x7) M
def f_X8_tellParts  (x0 : Nat) (x1 : Int64) (x3 : Int64) (M : Mem) : Option (Int32 × Mem) :=
  if kd M x0 = 18 then (
  f_X8_tellParts_6 FU x0 x1 x3 x1 x3 M) else none
def f_X8_tellPlain_26  (k9 : Nat → Int32 → Int32 → Int32 → Int64 → Int64 → Int32 → Mem → Option (Int32 × Mem)) : Nat → Nat → Int32 → Int32 → Int32 → Int64 → Int64 → Int32 → Int64 → Int32 → Mem → Option (Int32 × Mem)
  | 0, _, _, _, _, _, _, _, _, _, _ => none
  | n + 1, x0, x1, x2, x3, x4, x6, x8, x9, x11, M =>
    (gI M 18 x0 4).bind fun v6 =>
    if v6 ≤ x11 then (
    (f_X8_doesPlain x0 x8 M).bind fun M9 =>
    (gR M9 18 x0 0).bind fun v10 =>
    (aI M9 v10 1973).bind fun v12 =>
    (gR M9 18 x0 0).bind fun v14 =>
    (aI M9 v14 1).bind fun v16 =>
    if x3 = 0 then (
    if (v12 - v16) < x1 then (
    k9 x0 x1 x2 x3 (x4 + 0) (x6 + x9) (x8 + 1) M9) else
    k9 x0 x1 x2 x3 (x4 + x9) (x6 + x9) (x8 + 1) M9) else
    k9 x0 x1 x2 x3 (x4 + (x9 * (Int32.toInt64 (v12 - v16)))) (x6 + x9) (x8 + 1) M9) else
    if (f_X8_has x8 x11) = 0 then (
    f_X8_tellPlain_26 k9 n x0 x1 x2 x3 x4 x6 x8 (x9 * (Int32.toInt64 (12 - x2))) (x11 + 1) M) else
    f_X8_tellPlain_26 k9 n x0 x1 x2 x3 x4 x6 x8 (x9 * (Int32.toInt64 x2)) (x11 + 1) M
def f_X8_tellPlain_9   : Nat → Nat → Int32 → Int32 → Int32 → Int64 → Int64 → Int32 → Mem → Option (Int32 × Mem)
  | 0, _, _, _, _, _, _, _, _ => none
  | n + 1, x0, x1, x2, x3, x4, x6, x8, M =>
    (gI M 18 x0 4).bind fun v1 =>
    if (1 <<< (v1 &&& 31)) ≤ x8 then (
    (f_X8_tellParts x0 x4 x6 M).bind fun qv4 =>
    some (qv4.1, qv4.2)) else
    f_X8_tellPlain_26 (f_X8_tellPlain_9 n) FU x0 x1 x2 x3 x4 x6 x8 1 0 M
def f_X8_tellPlain  (x0 : Nat) (x1 : Int32) (x2 : Int32) (x3 : Int32) (M : Mem) : Option (Int32 × Mem) :=
  if kd M x0 = 18 then (
  f_X8_tellPlain_9 FU x0 x1 x2 x3 0 0 0 M) else none
def f_X8_mid  (x0 : Nat) (x1 : Int32) (M : Mem) : Option (Int32 × Mem) :=
  if kd M x0 = 18 then (
  if (f_X8_in (Int32.toInt64 x1) 0 12) = 0 then (
  some ((-1), M)) else
  (gI M 18 x0 1).bind fun v2 =>
  if v2 = 0 then (
  some ((-4), M)) else
  (f_X8_tellPlain x0 0 x1 1 M).bind fun qv5 =>
  some (qv5.1, qv5.2)) else none
def f_X8_most  (x0 : Nat) (x1 : Int32) (M : Mem) : Option (Int32 × Mem) :=
  if kd M x0 = 18 then (
  (f_X8_isRow x1).bind fun v2 =>
  if v2 = 0 then (
  some ((-1), M)) else
  (gI M 18 x0 1).bind fun v3 =>
  if v3 = 0 then (
  some ((-4), M)) else
  (f_X8_giveMost x0 x1 0 M).bind fun qv6 =>
  some (qv6.1, qv6.2)) else none
def f_X8_odds  (x0 : Nat) (x1 : Int32) (x2 : Int32) (M : Mem) : Option (Int32 × Mem) :=
  if kd M x0 = 18 then (
  if (f_X8_in (Int32.toInt64 x1) 0 66) = 0 then (
  some ((-1), M)) else
  if (f_X8_in (Int32.toInt64 x2) 0 12) = 0 then (
  some ((-1), M)) else
  (gI M 18 x0 1).bind fun v3 =>
  if v3 = 0 then (
  some ((-4), M)) else
  (f_X8_tellPlain x0 x1 x2 0 M).bind fun qv6 =>
  some (qv6.1, qv6.2)) else none
def f_X8_on  (x0 : Nat) (x1 : Int32) (M : Mem) : Option (Int32 × Mem) :=
  if kd M x0 = 18 then (
  if (f_X8_in (Int32.toInt64 x1) 0 2) = 0 then (
  some ((-1), M)) else
  (gR M 18 x0 0).bind fun v2 =>
  (aI M v2 ((493 * (1 + x1)) + 0)).bind fun v4 =>
  if 0 ≤ v4 then (
  (f_X8_copyGuild x0 (493 * (1 + x1)) 0 M).bind fun M7 =>
  (gR M7 18 x0 0).bind fun v8 =>
  (aI M7 v8 0).bind fun v10 =>
  some (v10, M7)) else
  (f_X8_find x0 1 M).bind fun qv13 =>
  some (qv13.1, qv13.2)) else none
def f_X8_order  (x0 : Nat) (x1 : Int32) (x2 : Int32) (M : Mem) : Option (Int32 × Mem) :=
  if kd M x0 = 18 then (
  (f_X8_isOrder x0 x1 M).bind fun v2 =>
  if v2 = 0 then (
  some ((-1), M)) else
  if (f_X8_in (Int32.toInt64 x2) 0 4) = 0 then (
  some ((-1), M)) else
  (f_X8_orderTold x0 x1 x2 M).bind fun v5 =>
  (f_X8_tell x0 v5 M).bind fun qv7 =>
  some (qv7.1, qv7.2)) else none
def f_X8_pairs_75  (k24 : Nat → Int32 → Int32 → Int32 → Mem → Option (Int32 × Mem)) (k37 : Nat → Int32 → Int32 → Int32 → Int32 → Mem → Option (Int32 × Mem)) (x0 : Nat) (x1 : Int32) (x2 : Int32) (x3 : Int32) (x4 : Int32) (s0 : Int32) (s1 : Nat) (M : Mem) : Option (Int32 × Mem) :=
  (pI M 18 s1 12 s0).bind fun M12 =>
  (f_X8_areInTune x0 x3 x4 x1 M12).bind fun v15 =>
  if v15 = 0 then (
  k37 x0 x1 (x2 + 0) x3 (x4 + 1) M12) else
  k37 x0 x1 (x2 + 1) x3 (x4 + 1) M12
def f_X8_pairs_71  (k24 : Nat → Int32 → Int32 → Int32 → Mem → Option (Int32 × Mem)) (k37 : Nat → Int32 → Int32 → Int32 → Int32 → Mem → Option (Int32 × Mem)) (x0 : Nat) (x1 : Int32) (x2 : Int32) (x3 : Int32) (x4 : Int32) (s0 : Nat) (M : Mem) : Option (Int32 × Mem) :=
  (gI M 18 x0 12).bind fun v10 =>
  f_X8_pairs_75 k24 k37 x0 x1 x2 x3 x4 v10 s0 M
def f_X8_pairs_37  (k24 : Nat → Int32 → Int32 → Int32 → Mem → Option (Int32 × Mem)) : Nat → Nat → Int32 → Int32 → Int32 → Int32 → Mem → Option (Int32 × Mem)
  | 0, _, _, _, _, _, _ => none
  | n + 1, x0, x1, x2, x3, x4, M =>
    (gI M 18 x0 1).bind fun v6 =>
    if v6 ≤ x4 then (
    k24 x0 x1 x2 (x3 + 1) M) else
    (f_X8_areInTune x0 x3 x4 x1 M).bind fun v9 =>
    if v9 = 0 then (
    f_X8_pairs_71 k24 (f_X8_pairs_37 k24 n) x0 x1 x2 x3 x4 x0 M) else
    if x2 = 0 then (
    f_X8_pairs_75 k24 (f_X8_pairs_37 k24 n) x0 x1 x2 x3 x4 ((5 * x3) + x4) x0 M) else
    f_X8_pairs_71 k24 (f_X8_pairs_37 k24 n) x0 x1 x2 x3 x4 x0 M
def f_X8_pairs_24   : Nat → Nat → Int32 → Int32 → Int32 → Mem → Option (Int32 × Mem)
  | 0, _, _, _, _, _ => none
  | n + 1, x0, x1, x2, x3, M =>
    (gI M 18 x0 1).bind fun v4 =>
    if v4 ≤ x3 then (
    some (x2, M)) else
    f_X8_pairs_37 (f_X8_pairs_24 n) FU x0 x1 x2 x3 (x3 + 1) M
def f_X8_pairs  (x0 : Nat) (x1 : Int32) (M : Mem) : Option (Int32 × Mem) :=
  if kd M x0 = 18 then (
  if (f_X8_in (Int32.toInt64 x1) 0 9) = 0 then (
  some ((-1), M)) else
  (pI M 18 x0 12 (-9)).bind fun M2 =>
  f_X8_pairs_24 FU x0 x1 0 0 M2) else none
def f_X8_plain  (x0 : Nat) (M : Mem) : Option (Int32 × Mem) :=
  if kd M x0 = 18 then (
  (gI M 18 x0 1).bind fun v1 =>
  if v1 = 0 then (
  some ((-4), M)) else
  (f_X8_doesPlain x0 0 M).bind fun M4 =>
  (gR M4 18 x0 0).bind fun v5 =>
  (aI M4 v5 1973).bind fun v7 =>
  (gR M4 18 x0 0).bind fun v9 =>
  (aI M4 v9 1).bind fun v11 =>
  (pI M4 18 x0 12 (v7 - v11)).bind fun M13 =>
  (gR M13 18 x0 0).bind fun v15 =>
  (aI M13 v15 1974).bind fun v17 =>
  (f_X8_bits v17).bind fun v20 =>
  (gR M13 18 x0 0).bind fun v21 =>
  (aI M13 v21 2).bind fun v23 =>
  (f_X8_bits v23).bind fun v26 =>
  some ((v20 - v26), M13)) else none
def f_X8_put  (x0 : Nat) (x1 : Int32) (x2 : Int32) (x3 : Int32) (M : Mem) : Option (Int32 × Mem) :=
  if kd M x0 = 18 then (
  (f_X8_isText x1).bind fun v2 =>
  if v2 = 0 then (
  some ((-1), M)) else
  (gR M 18 x0 10).bind fun v3 =>
  (aI M v3 x1).bind fun v5 =>
  if 0 ≤ v5 then (
  (gR M 18 x0 10).bind fun v7 =>
  (aI M v7 x1).bind fun v9 =>
  if (f_X8_in (Int32.toInt64 x2) 0 (Int32.toInt64 (v9 - 1))) = 0 then (
  (f_X8_find x0 2 M).bind fun qv21 =>
  some (qv21.1, qv21.2)) else
  (gR M 18 x0 11).bind fun v12 =>
  (aI M v12 ((60 * x1) + x2)).bind fun v14 =>
  (gR M 18 x0 11).bind fun v16 =>
  (eI M v16 ((60 * x1) + x2) (Int8.toInt32 (Int32.toInt8 x3))).bind fun M18 =>
  some ((v14 + 1000), M18)) else
  (f_X8_find x0 1 M).bind fun qv24 =>
  some (qv24.1, qv24.2)) else none
def f_X8_rest  (x0 : Nat) (x1 : Int32) (M : Mem) : Option (Int32 × Mem) :=
  if kd M x0 = 18 then (
  (f_X8_isSigher x0 x1 M).bind fun v2 =>
  if v2 = 0 then (
  some ((-1), M)) else
  (gR M 18 x0 0).bind fun v3 =>
  (aI M v3 (3 + x1)).bind fun v5 =>
  if v5 = 9 then (
  some ((-4), M)) else
  (gR M 18 x0 0).bind fun v7 =>
  (aI M v7 0).bind fun v9 =>
  if v9 = 40 then (
  some ((-2), M)) else
  (f_X8_keepPast x0 M).bind fun M12 =>
  (f_X8_rests x0 x1 M12).bind fun M14 =>
  (gR M14 18 x0 0).bind fun v15 =>
  (aI M14 v15 (3 + x1)).bind fun v17 =>
  some (v17, M14)) else none
def f_X8_row  (x0 : Nat) (x1 : Int32) (x2 : Int32) (M : Mem) : Option (Int32 × Mem) :=
  if kd M x0 = 18 then (
  (f_X8_isRow x1).bind fun v2 =>
  if v2 = 0 then (
  some ((-1), M)) else
  if x2 ≤ 40 then (
  if 0 ≤ x2 then (
  (f_X8_makeRow x0 x1 x2 M).bind fun M4 =>
  some (x2, M4)) else
  (f_X8_find x0 5 M).bind fun qv6 =>
  some (qv6.1, qv6.2)) else
  some ((-1), M)) else none
def f_X8_sigh  (x0 : Nat) (x1 : Int32) (x2 : Int32) (M : Mem) : Option (Int32 × Mem) :=
  if kd M x0 = 18 then (
  (f_X8_isSigher x0 x1 M).bind fun v2 =>
  if v2 = 0 then (
  some ((-1), M)) else
  (f_X8_isOrder x0 x2 M).bind fun v4 =>
  if v4 = 0 then (
  some ((-1), M)) else
  (gR M 18 x0 0).bind fun v5 =>
  (aI M v5 2).bind fun v7 =>
  if (f_X8_has v7 x2) = 0 then (
  (gR M 18 x0 0).bind fun v10 =>
  (aI M v10 (8 + x1)).bind fun v12 =>
  (gR M 18 x0 5).bind fun v14 =>
  (aI M v14 x2).bind fun v16 =>
  if v12 = v16 then (
  (gR M 18 x0 2).bind fun v18 =>
  (aI M v18 x1).bind fun v20 =>
  (gR M 18 x0 6).bind fun v22 =>
  (aI M v22 x2).bind fun v24 =>
  if (f_X8_isTooDeep v20 v24) = 0 then (
  (gR M 18 x0 0).bind fun v27 =>
  (aI M v27 (3 + x1)).bind fun v29 =>
  (f_X8_taken x0 x1 x2 M).bind fun v32 =>
  if v32 ≤ v29 then (
  (gR M 18 x0 0).bind fun v33 =>
  (aI M v33 0).bind fun v35 =>
  if v35 = 40 then (
  some ((-2), M)) else
  (f_X8_keepPast x0 M).bind fun M38 =>
  (f_X8_sighsAt x0 0 x1 x2 M38).bind fun M40 =>
  (gR M40 18 x0 0).bind fun v41 =>
  (aI M40 v41 1).bind fun v43 =>
  some (v43, M40)) else
  some ((-6), M)) else
  some ((-4), M)) else
  some ((-4), M)) else
  some ((-4), M)) else none
def f_X8_sigher  (x0 : Nat) (x1 : Int32) (x2 : Int32) (M : Mem) : Option (Int32 × Mem) :=
  if kd M x0 = 18 then (
  (f_X8_isSigher x0 x1 M).bind fun v2 =>
  if v2 = 0 then (
  some ((-1), M)) else
  if (f_X8_in (Int32.toInt64 x2) 0 4) = 0 then (
  some ((-1), M)) else
  (f_X8_sigherTold x0 x1 x2 M).bind fun v5 =>
  (f_X8_tell x0 v5 M).bind fun qv7 =>
  some (qv7.1, qv7.2)) else none
def f_X8_mostNow_15  (k4 : Nat → Int32 → Int32 → Int32 → Mem → Option Int32) : Nat → Nat → Int32 → Int32 → Int32 → Int32 → Mem → Option Int32
  | 0, _, _, _, _, _, _ => none
  | n + 1, x0, x1, x2, x3, x4, M =>
    (gI M 18 x0 4).bind fun v3 =>
    if v3 ≤ x4 then (
    k4 x0 x1 x2 (x3 + 1) M) else
    (f_X8_can x0 x1 x3 x4 M).bind fun v6 =>
    if v6 = 0 then (
    f_X8_mostNow_15 k4 n x0 x1 x2 x3 (x4 + 1) M) else
    (f_X8_brought x0 x3 x4 M).bind fun v8 =>
    if v8 ≤ x2 then (
    f_X8_mostNow_15 k4 n x0 x1 x2 x3 (x4 + 1) M) else
    (f_X8_brought x0 x3 x4 M).bind fun v10 =>
    f_X8_mostNow_15 k4 n x0 x1 v10 x3 (x4 + 1) M
def f_X8_mostNow_4   : Nat → Nat → Int32 → Int32 → Int32 → Mem → Option Int32
  | 0, _, _, _, _, _ => none
  | n + 1, x0, x1, x2, x3, M =>
    (gI M 18 x0 1).bind fun v1 =>
    if v1 ≤ x3 then (
    some x2) else
    f_X8_mostNow_15 (f_X8_mostNow_4 n) FU x0 x1 x2 x3 0 M
def f_X8_mostNow  (x0 : Nat) (x1 : Int32) (M : Mem) : Option Int32 :=
  if kd M x0 = 18 then (
  f_X8_mostNow_4 FU x0 x1 0 0 M) else none
def f_X8_leastBehind_41  (k6 : Nat → Int32 → Int32 → Int32 → Mem → Option (Int32 × Mem)) (x0 : Nat) (x1 : Int32) (x2 : Int32) (x3 : Int32) (M : Mem) : Option (Int32 × Mem) :=
  (f_X8_mostNow x0 1985 M).bind fun v12 =>
  if x2 ≤ v12 then (
  k6 x0 x1 x2 (x3 + 1) M) else
  k6 x0 x1 v12 (x3 + 1) M
def f_X8_leastBehind_6   : Nat → Nat → Int32 → Int32 → Int32 → Mem → Option (Int32 × Mem)
  | 0, _, _, _, _, _ => none
  | n + 1, x0, x1, x2, x3, M =>
    (gI M 18 x0 1).bind fun v1 =>
    if v1 < x3 then (
    some (x2, M)) else
    (f_X8_copyPart x0 x1 1985 M).bind fun M4 =>
    (gI M4 18 x0 1).bind fun v5 =>
    if v5 ≤ x3 then (
    f_X8_leastBehind_41 (f_X8_leastBehind_6 n) x0 x1 x2 x3 M4) else
    (gR M4 18 x0 0).bind fun v7 =>
    (eI M4 v7 (1988 + x3) 0).bind fun M9 =>
    f_X8_leastBehind_41 (f_X8_leastBehind_6 n) x0 x1 x2 x3 M9
def f_X8_leastBehind  (x0 : Nat) (x1 : Int32) (M : Mem) : Option (Int32 × Mem) :=
  if kd M x0 = 18 then (
  f_X8_leastBehind_6 FU x0 x1 999 0 M) else none
def f_X8_strike_51   : Nat → Nat → Int32 → Int32 → Mem → Option (Int32 × Mem)
  | 0, _, _, _, _ => none
  | n + 1, x0, x2, x3, M =>
    (gI M 18 x0 1).bind fun v9 =>
    (gI M 18 x0 4).bind fun v11 =>
    if (v9 * v11) ≤ x3 then (
    some (x2, M)) else
    (gI M 18 x0 4).bind fun v13 =>
    if v13 = 0 then none else
    (gI M 18 x0 4).bind fun v15 =>
    if v15 = 0 then none else
    (f_X8_can x0 0 (x3 / v13) (x3 - x3 / v15 * v15) M).bind fun v18 =>
    if v18 = 0 then (
    f_X8_strike_51 n x0 x2 (x3 + 1) M) else
    (f_X8_copyPart x0 0 1972 M).bind fun M20 =>
    (f_X8_sighsAt x0 1972 (x3 / v13) (x3 - x3 / v15 * v15) M20).bind fun M22 =>
    (f_X8_brought x0 (x3 / v13) (x3 - x3 / v15 * v15) M22).bind fun v24 =>
    (f_X8_leastBehind x0 1972 M22).bind fun qv26 =>
    if (v24 + qv26.1) ≤ x2 then (
    f_X8_strike_51 n x0 x2 (x3 + 1) qv26.2) else
    f_X8_strike_51 n x0 (v24 + qv26.1) (x3 + 1) qv26.2
def f_X8_strike  (x0 : Nat) (x1 : Int32) (M : Mem) : Option (Int32 × Mem) :=
  if kd M x0 = 18 then (
  if (f_X8_in (Int32.toInt64 x1) 0 2) = 0 then (
  some ((-1), M)) else
  (gI M 18 x0 1).bind fun v2 =>
  if v2 = 0 then (
  some ((-4), M)) else
  if 2 ≤ x1 then (
  (f_X8_leastBehind x0 0 M).bind fun qv5 =>
  f_X8_strike_51 FU x0 qv5.1 0 qv5.2) else
  if x1 = 0 then (
  some (0, M)) else
  (f_X8_mostNow x0 0 M).bind fun v8 =>
  some (v8, M)) else none
def f_X8_takes  (x0 : Nat) (x1 : Int32) (x2 : Int32) (M : Mem) : Option Int32 :=
  if kd M x0 = 18 then (
  (f_X8_isSigher x0 x1 M).bind fun v2 =>
  if v2 = 0 then (
  some ((-1))) else
  (f_X8_isOrder x0 x2 M).bind fun v4 =>
  if v4 = 0 then (
  some ((-1))) else
  (gR M 18 x0 2).bind fun v5 =>
  (aI M v5 x1).bind fun v7 =>
  (gR M 18 x0 6).bind fun v9 =>
  (aI M v9 x2).bind fun v11 =>
  if (f_X8_isTooDeep v7 v11) = 0 then (
  (f_X8_taken x0 x1 x2 M).bind fun v15 =>
  some v15) else
  some ((-9))) else none
def f_X8_tear  (x0 : Nat) (x1 : Int32) (M : Mem) : Option (Int32 × Mem) :=
  if kd M x0 = 18 then (
  (f_X8_isRow x1).bind fun v2 =>
  if v2 = 0 then (
  some ((-1), M)) else
  (gR M 18 x0 8).bind fun v3 =>
  (aI M v3 x1).bind fun v5 =>
  if 0 ≤ v5 then (
  (gR M 18 x0 8).bind fun v7 =>
  (eI M v7 x1 (-1)).bind fun M9 =>
  some (1, M9)) else
  (f_X8_find x0 1 M).bind fun qv12 =>
  some (qv12.1, qv12.2)) else none
def f_X8_text_34   : Nat → Nat → Int32 → Int32 → Int32 → Mem → Option (Int32 × Mem)
  | 0, _, _, _, _, _ => none
  | n + 1, x0, x1, x2, x3, M =>
    if 60 ≤ x3 then (
    some (x2, M)) else
    (gR M 18 x0 11).bind fun v10 =>
    (eI M v10 ((60 * x1) + x3) 32).bind fun M12 =>
    f_X8_text_34 n x0 x1 x2 (x3 + 1) M12
def f_X8_text  (x0 : Nat) (x1 : Int32) (x2 : Int32) (M : Mem) : Option (Int32 × Mem) :=
  if kd M x0 = 18 then (
  (f_X8_isText x1).bind fun v2 =>
  if v2 = 0 then (
  some ((-1), M)) else
  if x2 ≤ 60 then (
  if 0 ≤ x2 then (
  (gR M 18 x0 10).bind fun v3 =>
  (eI M v3 x1 x2).bind fun M5 =>
  f_X8_text_34 FU x0 x1 x2 0 M5) else
  (f_X8_find x0 5 M).bind fun qv8 =>
  some (qv8.1, qv8.2)) else
  some ((-1), M)) else none
def f_X8_undo_29   : Nat → Nat → Int32 → Int32 → Int32 → Mem → Option (Int32 × Mem)
  | 0, _, _, _, _, _ => none
  | n + 1, x0, x1, x2, x3, M =>
    if 12 ≤ x3 then (
    (gR M 18 x0 0).bind fun v10 =>
    (eI M v10 0 x1).bind fun M12 =>
    some (x2, M12)) else
    if x2 ≤ 0 then (
    (gR M 18 x0 0).bind fun v14 =>
    (eI M v14 0 x1).bind fun M16 =>
    some (x2, M16)) else
    (gR M 18 x0 0).bind fun v18 =>
    (gR M 18 x0 0).bind fun v20 =>
    (aI M v20 ((13 + (12 * x1)) + x3)).bind fun v22 =>
    (eI M v18 (1 + x3) v22).bind fun M24 =>
    f_X8_undo_29 n x0 x1 x2 (x3 + 1) M24
def f_X8_undo  (x0 : Nat) (x1 : Int32) (M : Mem) : Option (Int32 × Mem) :=
  if kd M x0 = 18 then (
  (gR M 18 x0 0).bind fun v1 =>
  (aI M v1 0).bind fun v3 =>
  if (f_X8_in (Int32.toInt64 x1) 0 (Int32.toInt64 v3)) = 0 then (
  some ((-1), M)) else
  (gR M 18 x0 0).bind fun v6 =>
  (aI M v6 0).bind fun v8 =>
  f_X8_undo_29 FU x0 x1 (v8 - x1) 0 M) else none
def f_X8_upper  (x0 : Nat) (M : Mem) : Option Int64 :=
  if kd M x0 = 18 then (
  (gL M 18 x0 13).bind fun v1 =>
  some v1) else none
def f_X8_walk  (x0 : Nat) (x1 : Int32) (x2 : Int32) (M : Mem) : Option (Int32 × Mem) :=
  if kd M x0 = 18 then (
  (f_X8_isSigher x0 x1 M).bind fun v2 =>
  if v2 = 0 then (
  some ((-1), M)) else
  if (f_X8_in (Int32.toInt64 x2) 0 9) = 0 then (
  some ((-1), M)) else
  (gR M 18 x0 0).bind fun v4 =>
  (aI M v4 (8 + x1)).bind fun v6 =>
  if (f_X8_apart v6 x2) = 0 then (
  some ((-4), M)) else
  (gR M 18 x0 0).bind fun v9 =>
  (aI M v9 0).bind fun v11 =>
  if v11 = 40 then (
  some ((-2), M)) else
  (f_X8_keepPast x0 M).bind fun M14 =>
  (gR M14 18 x0 0).bind fun v15 =>
  (eI M14 v15 (8 + x1) x2).bind fun M17 =>
  some ((f_X8_apart v6 x2), M17)) else none
def f_X8_way  (x0 : Nat) (x1 : Int32) (x2 : Int32) (M : Mem) : Option Int32 :=
  if kd M x0 = 18 then (
  (f_X8_isSigher x0 x1 M).bind fun v2 =>
  if v2 = 0 then (
  some ((-1))) else
  (f_X8_areOrders x0 x2 M).bind fun v4 =>
  if v4 = 0 then (
  some ((-1))) else
  (f_X8_wayOf x0 x1 x2 M).bind fun v6 =>
  some v6) else none
def f_X8_who_26   : Nat → Nat → Int32 → Int32 → Int32 → Mem → Option (Int32 × Mem)
  | 0, _, _, _, _, _ => none
  | n + 1, x0, x1, x3, x4, M =>
    (gI M 18 x0 1).bind fun v6 =>
    if v6 ≤ x4 then (
    some (x3, M)) else
    (gR M 18 x0 2).bind fun v8 =>
    (aI M v8 x4).bind fun v10 =>
    (gR M 18 x0 0).bind fun v12 =>
    (aI M v12 (3 + x4)).bind fun v14 =>
    (f_X8_isSo x0 x1 v10 v14 M).bind fun v17 =>
    if v17 = 0 then (
    f_X8_who_26 n x0 x1 (x3 ||| 0) (x4 + 1) M) else
    f_X8_who_26 n x0 x1 (x3 ||| (1 <<< (x4 &&& 31))) (x4 + 1) M
def f_X8_who  (x0 : Nat) (x1 : Int32) (M : Mem) : Option (Int32 × Mem) :=
  if kd M x0 = 18 then (
  (f_X8_isRow x1).bind fun v2 =>
  if v2 = 0 then (
  some ((-1), M)) else
  (f_X8_noPairs x0 x1 M).bind fun qv4 =>
  if qv4.1 = 0 then (
  f_X8_who_26 FU x0 x1 0 0 qv4.2) else
  some (qv4.1, qv4.2)) else none
