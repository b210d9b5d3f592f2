/-! ===== reading a text ===== -/
/-- the sign at a place; -9: there is none -/
def sgn (f : Nat → Int32) (z j : Nat) : Int32 := if j < z then f j else -9
/-- the figure at a place; -9: there is none -/
def fig (f : Nat → Int32) (z j : Nat) : Int32 := if sgn f z j - 48 < 0 then -9 else if 9 < sgn f z j - 48 then -9 else sgn f z j - 48
theorem signAt_X {M : Mem} (h : SF M) {t z : Nat} (ht : t < 4) (hz : z ≤ 60) (hs : mI M (51 + 2 * t) 1 = nI z) {j : Nat} (hj : j < 2 ^ 30) : f_X5_signAt (51 + 2 * t) (nI j) M = some (sgn (mI M (52 + 2 * t)) z j) := by
  obtain ⟨-, k1, g1, k2, l2⟩ := textF h ht
  unfold f_X5_signAt sgn
  rw [if_pos k1, hasT_X h ht, hs]
  simp only [Option.bind_some, if_neg (nI_pos (show j < 2 ^ 31 by omega))]
  by_cases c : j < z
  · rw [if_neg (nI_ge c (by omega)), if_neg (show ¬ (1 : Int32) = 0 by decide), if_pos c, g1, Option.bind_some, aB_k k2 (by rw [l2]; omega)]
    rfl
  · rw [if_pos (nI_le (by omega) (by omega)), if_pos rfl, if_neg c]
theorem figureAt_X {M : Mem} (h : SF M) {t z : Nat} (ht : t < 4) (hz : z ≤ 60) (hs : mI M (51 + 2 * t) 1 = nI z) {j : Nat} (hj : j < 2 ^ 30) : f_X5_figureAt (51 + 2 * t) (nI j) M = some (fig (mI M (52 + 2 * t)) z j) := by
  obtain ⟨-, k1, g1, k2, l2⟩ := textF h ht
  unfold f_X5_figureAt fig
  rw [if_pos k1, signAt_X h ht hz hs hj, Option.bind_some]
  by_cases c1 : sgn (mI M (52 + 2 * t)) z j - 48 < 0
  · rw [if_pos c1, if_pos c1]
  · rw [if_neg c1, if_neg c1]
    by_cases c2 : 9 < sgn (mI M (52 + 2 * t)) z j - 48
    · rw [if_pos c2, if_pos c2]
    · rw [if_neg c2, if_neg c2]
/-- the kind of a letter; -9: it is none -/
def kl (c : Int32) : Int32 := if c = 115 then 0 else if c = 100 then 1 else if c = 97 then 2 else if c = 102 then 3 else if c = 109 then 4 else if c = 112 then 5 else -9
theorem kl_Y (c : Int32) : f_X8_kindOfLetter c = kl c := rfl
theorem aT0 : aT 0 0 = some 115 ∧ aT 0 1 = some 100 ∧ aT 0 2 = some 97 ∧ aT 0 3 = some 102 ∧ aT 0 4 = some 109 ∧ aT 0 5 = some 112 := by decide +kernel
theorem kl_X (c : Int32) : f_X2_kindOf c = some (kl c) := by
  obtain ⟨f, hf⟩ : ∃ f, FU = f + 7 := ⟨99993, rfl⟩
  unfold f_X2_kindOf kl
  rw [hf]
  simp only [f_X2_kindOf_2, show (0 : Int32) + 1 = 1 by decide, show (1 : Int32) + 1 = 2 by decide, show (2 : Int32) + 1 = 3 by decide, show (3 : Int32) + 1 = 4 by decide, show (4 : Int32) + 1 = 5 by decide, show (5 : Int32) + 1 = 6 by decide, show ¬ (6 : Int32) ≤ 0 by decide, show ¬ (6 : Int32) ≤ 1 by decide, show ¬ (6 : Int32) ≤ 2 by decide, show ¬ (6 : Int32) ≤ 3 by decide, show ¬ (6 : Int32) ≤ 4 by decide, show ¬ (6 : Int32) ≤ 5 by decide, if_false, aT0, Option.bind_some, show (6 : Int32) ≤ 6 by decide, if_true]
  by_cases c1 : c = 115
  · rw [if_pos c1.symm, if_pos c1]
  rw [if_neg (fun q => c1 q.symm), if_neg c1]
  by_cases c2 : c = 100
  · rw [if_pos c2.symm, if_pos c2]
  rw [if_neg (fun q => c2 q.symm), if_neg c2]
  by_cases c3 : c = 97
  · rw [if_pos c3.symm, if_pos c3]
  rw [if_neg (fun q => c3 q.symm), if_neg c3]
  by_cases c4 : c = 102
  · rw [if_pos c4.symm, if_pos c4]
  rw [if_neg (fun q => c4 q.symm), if_neg c4]
  by_cases c5 : c = 109
  · rw [if_pos c5.symm, if_pos c5]
  rw [if_neg (fun q => c5 q.symm), if_neg c5]
  by_cases c6 : c = 112
  · rw [if_pos c6.symm, if_pos c6]
  rw [if_neg (fun q => c6 q.symm), if_neg c6]
/-- whether an item may come: a sighers, b orders so far -/
def may (c : Int32) (a b : Nat) : Bool := if c = 111 then decide (0 < a) && decide (b < 6) else !(kl c == -9) && decide (b = 0) && decide (a < 5)
theorem mayCome_X {M : Mem} (h : SF M) {s : Nat} (hs : s = 4 ∨ s = 13) {a b : Nat} (ha : a ≤ 5) (hb : b ≤ 6) (e0 : mI M s 0 = nI a) (e1 : mI M s 1 = nI b) (c : Int32) : f_X2_mayCome s c M = some (if may c a b = true then 1 else 0) := by
  unfold f_X2_mayCome may
  simp only [rollF h hs, if_true, gI_k, e0, e1, Option.bind_some, kl_X]
  by_cases c1 : c = 111
  · rw [if_pos c1, if_pos c1]
    by_cases c2 : 0 < a
    · rw [if_neg (nI_nle c2 (by omega))]
      by_cases c3 : b < 6
      · rw [if_neg (show ¬ (6 : Int32) ≤ nI b from nI_ge (b := 6) c3 (by decide))]; simp [c2, c3]
      · rw [if_pos (show (6 : Int32) ≤ nI b from nI_le (a := 6) (by omega) (by omega))]; simp [c3]
    · have : a = 0 := by omega
      subst this
      rw [if_pos (show nI 0 ≤ 0 from Int32.le_refl _)]; simp
  · rw [if_neg c1, if_neg c1]
    by_cases c2 : kl c = -9
    · rw [if_pos c2]; simp [c2]
    · rw [if_neg c2]
      by_cases c3 : b = 0
      · subst c3
        rw [if_pos (show nI 0 = 0 from rfl)]
        by_cases c4 : a < 5
        · rw [if_neg (show ¬ (5 : Int32) ≤ nI a from nI_ge (b := 5) c4 (by decide))]; simp [c2, c4]
        · rw [if_pos (show (5 : Int32) ≤ nI a from nI_le (a := 5) (by omega) (by omega))]; simp [c4]
      · rw [if_neg (n0 c3 (by omega))]; simp [c3]
