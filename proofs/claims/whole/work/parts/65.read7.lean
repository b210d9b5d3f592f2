/-! ===== the model reads a text ===== -/
def Py (t z p : Nat) (f : Nat → Int32) (M : Mem) : Prop := mI M 65 17 = nI (60 * t) ∧ mI M 65 18 = nI p ∧ mI M 65 19 = nI z ∧ ∀ j, j < 60 → mI M 75 (60 * t + j) = f j
def Vy (a b : Nat) (V : Nat → Nat → Nat) (M : Mem) : Prop := (a ≤ 5 ∧ b ≤ 6) ∧ (mI M 65 21 = nI a ∧ mI M 65 23 = nI b) ∧ (∀ i, i < a → mI M 77 (3 * i) = nI (V 0 i) ∧ mI M 77 (3 * i + 1) = nI (V 5 i) ∧ mI M 77 (3 * i + 2) = nI (V 1 i)) ∧ ∀ o, o < b → mI M 78 (3 * o) = nI (V 2 o) ∧ mI M 78 (3 * o + 1) = nI (V 3 o) ∧ mI M 78 (3 * o + 2) = nI (V 4 o)
def FrR (M N : Mem) : Prop := SF N ∧ mR N = mR M ∧ mL N = mL M ∧ (∀ x, x ≠ 65 → x ≠ 77 → x ≠ 78 → mI N x = mI M x) ∧ ∀ j, j < 17 → mI N 65 j = mI M 65 j
theorem FrR.tr {A B C : Mem} (h1 : FrR A B) (h2 : FrR B C) : FrR A C := ⟨h2.1, h2.2.1.trans h1.2.1, h2.2.2.1.trans h1.2.2.1, fun x q1 q2 q3 => (h2.2.2.2.1 x q1 q2 q3).trans (h1.2.2.2.1 x q1 q2 q3), fun j hj => (h2.2.2.2.2 j hj).trans (h1.2.2.2.2 j hj)⟩
theorem FrR.id {M : Mem} (h : SF M) : FrR M M := ⟨h, rfl, rfl, fun _ _ _ _ => rfl, fun _ _ => rfl⟩
theorem FrR.mv {M : Mem} (h : SF M) (j : Nat) (hj : 17 ≤ j) (v : Int32) : FrR M (sI M 65 j v) := ⟨h, rfl, rfl, fun x q _ _ => mI_sI_row q, fun k hk => by rw [mI_sI, if_neg (by omega)]⟩
theorem Py.mv {t z p : Nat} {f : Nat → Int32} {M : Mem} (h : Py t z p f M) (q : Nat) : Py t z q f (sI M 65 18 (nI q)) := by
  obtain ⟨p1, p2, p3, p4⟩ := h
  refine ⟨?_, ?_, ?_, fun j hj => ?_⟩
  · rw [mI_sI, if_neg (by decide)]; exact p1
  · rw [mI_sI, if_pos ⟨rfl, rfl⟩]
  · rw [mI_sI, if_neg (by decide)]; exact p3
  · rw [mI_sI_row (by decide)]; exact p4 j hj
theorem Vy.mv {a b : Nat} {V : Nat → Nat → Nat} {M : Mem} (h : Vy a b V M) (v : Int32) : Vy a b V (sI M 65 18 v) := by
  obtain ⟨v0, ⟨v1, v2⟩, v3, v4⟩ := h
  refine ⟨v0, ⟨?_, ?_⟩, fun i hi => ?_, fun o ho => ?_⟩
  · rw [mI_sI, if_neg (by decide)]; exact v1
  · rw [mI_sI, if_neg (by decide)]; exact v2
  · rw [mI_sI_row (by decide)]; exact v3 i hi
  · rw [mI_sI_row (by decide)]; exact v4 o ho
theorem here_Y {M : Mem} (h : SF M) {t z p : Nat} {f : Nat → Int32} (ht : t < 4) (hz : z ≤ 60) (hP : Py t z p f M) (hp : p < z) : f_X8_here 65 M = some (sgn f z p) := by
  obtain ⟨p1, p2, p3, p4⟩ := hP
  unfold f_X8_here sgn
  simp only [KQ h, RQ h, if_true, gI_k, Option.bind_some, p1, p2, nI_add]
  rw [aI_k (by simp only [KQ h]) (by simp only [LQ]; omega), Option.bind_some, p4 p (by omega), if_pos hp]
theorem fig_at (s : Int32) {l : Nat} (hl : l ≤ 1) : (nI l ≤ (if s - 48 < 0 then -9 else if 9 < s - 48 then -9 else s - 48)) ↔ (48 + (l : Int) ≤ s.toInt ∧ s.toInt ≤ 57) := by
  have hb := i32_b s
  have e : (s - 48).toInt = (s.toInt - 48).bmod (2 ^ 32) := Int32.toInt_sub s 48
  have e2 : (s - 48).toInt = if s.toInt < -2147483600 then s.toInt - 48 + 4294967296 else s.toInt - 48 := by
    rw [e]
    unfold Int.bmod
    by_cases c : s.toInt < -2147483600
    · rw [if_pos c, show (s.toInt - 48) % ((2 ^ 32 : Nat) : Int) = s.toInt - 48 + 4294967296 by omega]
      rw [if_pos (by omega)]
    · rw [if_neg c]
      by_cases c2 : s.toInt < 48
      · rw [show (s.toInt - 48) % ((2 ^ 32 : Nat) : Int) = s.toInt - 48 + 4294967296 by omega, if_neg (by omega)]; omega
      · rw [show (s.toInt - 48) % ((2 ^ 32 : Nat) : Int) = s.toInt - 48 by omega, if_pos (by omega)]
  rw [Int32.le_iff_toInt_le, nI_toInt (by omega)]
  by_cases c1 : s - 48 < 0
  · rw [if_pos c1, show (-9 : Int32).toInt = -9 from rfl]
    rw [Int32.lt_iff_toInt_lt, e2, show (0 : Int32).toInt = 0 from rfl] at c1
    split at c1 <;> omega
  · rw [if_neg c1]
    rw [Int32.lt_iff_toInt_lt, e2, show (0 : Int32).toInt = 0 from rfl] at c1
    by_cases c2 : 9 < s - 48
    · rw [if_pos c2, show (-9 : Int32).toInt = -9 from rfl]
      rw [Int32.lt_iff_toInt_lt, e2, show (9 : Int32).toInt = 9 from rfl] at c2
      split at c1 <;> split at c2 <;> omega
    · rw [if_neg c2, e2]
      rw [Int32.lt_iff_toInt_lt, e2, show (9 : Int32).toInt = 9 from rfl] at c2
      split at c1 <;> split at c2 <;> split <;> omega
theorem fig_lt {f : Nat → Int32} {z j l : Nat} (hl : l ≤ 1) (h : nI l ≤ fig f z j) : j < z := by
  by_cases c : j < z
  · exact c
  · have e : fig f z j = -9 := by
      unfold fig sgn
      rw [if_neg c]
      decide
    rw [e, Int32.le_iff_toInt_le, nI_toInt (by omega), show (-9 : Int32).toInt = -9 from rfl] at h
    omega
theorem fig_val {f : Nat → Int32} {z j l : Nat} (hl : l ≤ 1) (h : nI l ≤ fig f z j) : fig f z j = f j - 48 := by
  have hj := fig_lt hl h
  unfold fig sgn at h ⊢
  rw [if_pos hj] at h ⊢
  by_cases c1 : f j - 48 < 0
  · rw [if_pos c1, Int32.le_iff_toInt_le, nI_toInt (by omega), show (-9 : Int32).toInt = -9 from rfl] at h
    omega
  · rw [if_neg c1] at h ⊢
    by_cases c2 : 9 < f j - 48
    · rw [if_pos c2, Int32.le_iff_toInt_le, nI_toInt (by omega), show (-9 : Int32).toInt = -9 from rfl] at h
      omega
    · rw [if_neg c2]
theorem fig_in {f : Nat → Int32} {z p l : Nat} (hl : l ≤ 1) : f_X8_in (Int32.toInt64 (sgn f z p)) (Int32.toInt64 (48 + nI l)) (Int32.toInt64 (48 + 9)) = if nI l ≤ fig f z p then 1 else 0 := by
  rw [in_i, Int32.toInt_toInt64, Int32.toInt_toInt64, show (48 : Int32) + nI l = nI (48 + l) from nI_add 48 l, nI_toInt (by omega), show ((48 : Int32) + 9).toInt = 57 from rfl]
  have k := fig_at (sgn f z p) hl
  unfold fig
  by_cases c : nI l ≤ (if sgn f z p - 48 < 0 then -9 else if 9 < sgn f z p - 48 then -9 else sgn f z p - 48)
  · rw [if_pos c, if_pos (by have := k.mp c; omega)]
  · rw [if_neg c, if_neg (fun q => c (k.mpr (by omega)))]
theorem figure_Y {M : Mem} (h : SF M) {t z p : Nat} {f : Nat → Int32} (ht : t < 4) (hz : z ≤ 60) (hP : Py t z p f M) (hp : p ≤ z) {l : Nat} (hl : l ≤ 1) : f_X8_figure 65 (nI l) 9 M = some (if nI l ≤ fig f z p then (fig f z p, sI M 65 18 (nI (p + 1))) else (-9, M)) := by
  obtain ⟨p1, p2, p3, p4⟩ := id hP
  unfold f_X8_figure
  simp only [KQ h, if_true, gI_k, p2, p3, Option.bind_some]
  by_cases c : p = z
  · rw [if_pos (by rw [c]), if_neg (fun q => absurd (fig_lt hl q) (by omega))]
  · rw [if_neg (fun q => c ((nI_eq (by omega) (by omega)).mp q)), here_Y h ht hz hP (by omega), Option.bind_some, fig_in hl]
    by_cases d : nI l ≤ fig f z p
    · rw [if_pos d, if_pos d, if_neg (show ¬ (1 : Int32) = 0 by decide), pI_k (by simp only [KQ h]), Option.bind_some, nI_1]
      have h2 : SF (sI M 65 18 (nI (p + 1))) := h
      obtain ⟨y1, y2, y3, y4⟩ := hP.mv (p + 1)
      simp only [KQ h2, RQ h2, gI_k, Option.bind_some, y1, y2, nI_add]
      rw [show nI (60 * t + (p + 1)) - 1 = nI (60 * t + p) from pk_sub (a := 60 * t + (p + 1)) (b := 1) (by omega), aI_k (by simp only [KQ h2]) (by simp only [LQ]; omega), Option.bind_some, y4 p (by omega), fig_val hl d]
    · rw [if_neg d, if_neg d, if_pos rfl]
