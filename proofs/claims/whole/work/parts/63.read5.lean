def fgN (f : Nat → Int32) (z j : Nat) : Nat := (fig f z j).toInt.toNat
def klN (c : Int32) : Nat := (kl c).toInt.toNat
/-- the whole text: its fault or -9, how many sighers, orders, what they are -/
def prs (f : Nat → Int32) (z : Nat) : Nat → Nat → Nat → Nat → (Nat → Nat → Nat) → Int32 × Nat × Nat × (Nat → Nat → Nat)
  | 0, _, a, b, V => (-9, a, b, V)
  | k + 1, p, a, b, V => if z ≤ p then (if 0 < b then -9 else nI z, a, b, V) else if sgn f z p = 32 then prs f z k (p + 1) a b V else if itf f z p a b = -9 then (if sgn f z p = 111 then prs f z k (p + 4) a (b + 1) (addO V b (fgN f z (p + 1)) (fgN f z (p + 2)) (fgN f z (p + 3))) else prs f z k (p + 3) (a + 1) b (addS V a (klN (sgn f z p)) (fgN f z (p + 1)) (fgN f z (p + 2)))) else (itf f z p a b, a, b, V)
theorem fig_n {f : Nat → Int32} {z j : Nat} (h : 0 ≤ fig f z j) : fig f z j = nI (fgN f z j) ∧ fgN f z j ≤ 9 := by
  have hb := i32_b (fig f z j)
  have h9 : (fig f z j).toInt ≤ 9 := by
    unfold fig at h ⊢
    by_cases c1 : sgn f z j - 48 < 0
    · rw [if_pos c1] at h; exact absurd h (by decide)
    · rw [if_neg c1] at h ⊢
      by_cases c2 : 9 < sgn f z j - 48
      · rw [if_pos c2] at h; exact absurd h (by decide)
      · rw [if_neg c2]
        rw [Int32.lt_iff_toInt_lt, show (9 : Int32).toInt = 9 from rfl] at c2
        omega
  rw [Int32.le_iff_toInt_le, show (0 : Int32).toInt = 0 from rfl] at h
  unfold fgN
  refine ⟨?_, by omega⟩
  apply Int32.toInt_inj.mp
  rw [nI_toInt (by omega)]
  omega
theorem kl_n {c : Int32} (h : ¬ kl c = -9) : kl c = nI (klN c) ∧ klN c < 6 := by
  unfold klN kl at *
  by_cases c1 : c = 115
  · simp only [if_pos c1]; decide
  simp only [if_neg c1] at h ⊢
  by_cases c2 : c = 100
  · simp only [if_pos c2]; decide
  simp only [if_neg c2] at h ⊢
  by_cases c3 : c = 97
  · simp only [if_pos c3]; decide
  simp only [if_neg c3] at h ⊢
  by_cases c4 : c = 102
  · simp only [if_pos c4]; decide
  simp only [if_neg c4] at h ⊢
  by_cases c5 : c = 109
  · simp only [if_pos c5]; decide
  simp only [if_neg c5] at h ⊢
  by_cases c6 : c = 112
  · simp only [if_pos c6]; decide
  · simp only [if_neg c6] at h
    exact absurd trivial h
