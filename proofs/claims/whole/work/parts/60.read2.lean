/-- the fault of an item at p; -9: it has none -/
def itf (f : Nat → Int32) (z p a b : Nat) : Int32 := if may (sgn f z p) a b = true then (if sgn f z p = 111 then (if 0 ≤ fig f z (p + 1) then (if 1 ≤ fig f z (p + 2) then (if 0 ≤ fig f z (p + 3) then -9 else nI (min (p + 3) z)) else nI (min (p + 2) z)) else nI (min (p + 1) z)) else (if 0 ≤ fig f z (p + 1) then (if 0 ≤ fig f z (p + 2) then -9 else nI (min (p + 2) z)) else nI (min (p + 1) z))) else nI p
theorem faultOfItem_X {M : Mem} (h : SF M) {s : Nat} (hs : s = 4 ∨ s = 13) {a b : Nat} (ha : a ≤ 5) (hb : b ≤ 6) (e0 : mI M s 0 = nI a) (e1 : mI M s 1 = nI b) {t z : Nat} (ht : t < 4) (hz : z ≤ 60) (hsz : mI M (51 + 2 * t) 1 = nI z) {p : Nat} (hp : p < 100) : f_X2_faultOfItem s (51 + 2 * t) (nI p) M = some (itf (mI M (52 + 2 * t)) z p a b) := by
  obtain ⟨-, k1, g1, k2, l2⟩ := textF h ht
  obtain ⟨fu, hfu⟩ : ∃ f, FU = f + 4 := ⟨99996, rfl⟩
  have hmn : ∀ q, q < 200 → f_J9_min_7cf53 (nI q) (nI z) = nI (min q z) := fun q hq => mnI (by omega) (by omega)
  unfold f_X2_faultOfItem itf
  rw [if_pos (rollF h hs).1, signAt_X h ht hz hsz (by omega), Option.bind_some, mayCome_X h hs ha hb e0 e1, Option.bind_some]
  by_cases c0 : may (sgn (mI M (52 + 2 * t)) z p) a b = true
  · rw [if_pos c0, if_neg (show ¬ (1 : Int32) = 0 by decide), Option.bind_some, if_pos c0]
    have F1 := figureAt_X h ht hz hsz (show p + 1 < 2 ^ 30 by omega)
    have F2 := figureAt_X h ht hz hsz (show p + 2 < 2 ^ 30 by omega)
    have F3 := figureAt_X h ht hz hsz (show p + 3 < 2 ^ 30 by omega)
    by_cases c1 : sgn (mI M (52 + 2 * t)) z p = 111
    · rw [if_pos c1, if_pos c1]
      unfold f_X2_faultOfItem_29
      rw [if_neg (show ¬ (1 : Int32) = 0 by decide), hfu]
      simp only [f_X2_faultOfItem_44, f_X2_faultOfItem_65, f_X2_faultOfItem_66, show ¬ (3 : Int32) < 1 by decide, show ¬ (1 : Int32) = 0 by decide, show ¬ (1 : Int32) = 2 by decide, if_false, show nI p + 1 = nI (p + 1) from nI_1 p, F1, Option.bind_some, show (1 : Int32) + 1 = 2 by decide, show ¬ (3 : Int32) < 2 by decide, if_true, show nI p + 2 = nI (p + 2) from nI_add p 2, F2, show (2 : Int32) + 1 = 3 by decide, show ¬ (3 : Int32) < 3 by decide, show ¬ (3 : Int32) = 2 by decide, show nI p + 3 = nI (p + 3) from nI_add p 3, F3, show (3 : Int32) + 1 = 4 by decide, show (3 : Int32) < 4 by decide, gI_k k1, hsz, hmn (p + 1) (by omega), hmn (p + 2) (by omega), hmn (p + 3) (by omega)]
      by_cases d1 : 0 ≤ fig (mI M (52 + 2 * t)) z (p + 1)
      · rw [if_pos d1, if_pos d1]
        by_cases d2 : 1 ≤ fig (mI M (52 + 2 * t)) z (p + 2)
        · rw [if_pos d2, if_pos d2]
          by_cases d3 : 0 ≤ fig (mI M (52 + 2 * t)) z (p + 3)
          · rw [if_pos d3, if_pos d3]
          · rw [if_neg d3, if_neg d3]
        · rw [if_neg d2, if_neg d2]
      · rw [if_neg d1, if_neg d1]
    · rw [if_neg c1, if_neg c1]
      unfold f_X2_faultOfItem_29
      rw [if_pos rfl, hfu]
      simp only [f_X2_faultOfItem_44, f_X2_faultOfItem_65, f_X2_faultOfItem_66, show ¬ (2 : Int32) < 1 by decide, if_false, show nI p + 1 = nI (p + 1) from nI_1 p, F1, Option.bind_some, show (1 : Int32) + 1 = 2 by decide, show ¬ (2 : Int32) < 2 by decide, if_true, show nI p + 2 = nI (p + 2) from nI_add p 2, F2, show (2 : Int32) + 1 = 3 by decide, show (2 : Int32) < 3 by decide, gI_k k1, hsz, hmn (p + 1) (by omega), hmn (p + 2) (by omega)]
      by_cases d1 : 0 ≤ fig (mI M (52 + 2 * t)) z (p + 1)
      · rw [if_pos d1, if_pos d1]
        by_cases d2 : 0 ≤ fig (mI M (52 + 2 * t)) z (p + 2)
        · rw [if_pos d2, if_pos d2]
        · rw [if_neg d2, if_neg d2]
      · rw [if_neg d1, if_neg d1]
  · rw [if_neg c0, if_pos rfl, if_neg c0]
