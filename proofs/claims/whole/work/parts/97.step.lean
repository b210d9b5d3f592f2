theorem hstepA : ∀ (v a1 a2 a3 a4 a5 : Int32) (M : Mem), Inv M → ∃ M', lawOps v a1 a2 a3 a4 a5 M = some M' ∧ Inv M' := by
  intro v a1 a2 a3 a4 a5 M hI
  unfold lawOps
  by_cases c0 : v = 0
  · rw [if_pos c0]; exact op0 hI a1 a2
  rw [if_neg c0]
  by_cases c1 : v = 1
  · rw [if_pos c1]; exact op1 hI a1 a2 a3
  rw [if_neg c1]
  by_cases c2 : v = 2
  · rw [if_pos c2]; exact op2 hI a1 a2
  rw [if_neg c2]
  by_cases c3 : v = 3
  · rw [if_pos c3]; exact op3 hI a1
  rw [if_neg c3]
  by_cases c4 : v = 4
  · rw [if_pos c4]; exact op4 hI a1 a2 a3 a4 a5
  rw [if_neg c4]
  by_cases c5 : v = 5
  · rw [if_pos c5]; exact op5 hI a1
  rw [if_neg c5]
  by_cases c6 : v = 6
  · rw [if_pos c6]; exact op6 hI a1 a2
  rw [if_neg c6]
  by_cases c7 : v = 7
  · rw [if_pos c7]; exact op7 hI a1 a2 a3
  rw [if_neg c7]
  by_cases c8 : v = 8
  · rw [if_pos c8]; exact op8 hI a1
  rw [if_neg c8]
  by_cases c9 : v = 9
  · rw [if_pos c9]; exact op9 hI a1
  rw [if_neg c9]
  by_cases c10 : v = 10
  · rw [if_pos c10]; exact op10 hI a1 a2
  rw [if_neg c10]
  by_cases c11 : v = 11
  · rw [if_pos c11]; exact op11 hI a1 a2
  rw [if_neg c11]
  by_cases c12 : v = 12
  · rw [if_pos c12]; exact op12 hI a1 a2
  rw [if_neg c12]
  by_cases c13 : v = 13
  · rw [if_pos c13]; exact op13 hI a1 a2
  rw [if_neg c13]
  by_cases c14 : v = 14
  · rw [if_pos c14]; exact op14 hI a1 a2
  rw [if_neg c14]
  by_cases c15 : v = 15
  · rw [if_pos c15]; exact op15 hI a1
  rw [if_neg c15]
  by_cases c16 : v = 16
  · rw [if_pos c16]; exact op16 hI a1
  rw [if_neg c16]
  by_cases c17 : v = 17
  · rw [if_pos c17]; exact op17 hI a1
  rw [if_neg c17]
  by_cases c18 : v = 18
  · rw [if_pos c18]; exact op18 hI a1
  rw [if_neg c18]
  by_cases c19 : v = 19
  · rw [if_pos c19]; exact op19 hI a1 a2
  rw [if_neg c19]
  by_cases c20 : v = 20
  · rw [if_pos c20]; exact op20 hI a1 a2
  rw [if_neg c20]
  by_cases c21 : v = 21
  · rw [if_pos c21]; exact op21 hI a1
  rw [if_neg c21]
  by_cases c22 : v = 22
  · rw [if_pos c22]; exact op22 hI a1
  rw [if_neg c22]
  by_cases c23 : v = 23
  · rw [if_pos c23]; exact op23 hI
  rw [if_neg c23]
  by_cases c24 : v = 24
  · rw [if_pos c24]; exact op24 hI a1 a2
  rw [if_neg c24]
  by_cases c25 : v = 25
  · rw [if_pos c25]; exact op25 hI a1 a2 a3
  rw [if_neg c25]
  by_cases c26 : v = 26
  · rw [if_pos c26]; exact op26 hI a1 a2
  rw [if_neg c26]
  by_cases c27 : v = 27
  · rw [if_pos c27]; exact op27 hI a1
  rw [if_neg c27]
  by_cases c28 : v = 28
  · rw [if_pos c28]; exact op28 hI a1
  rw [if_neg c28]
  by_cases c29 : v = 29
  · rw [if_pos c29]; exact op29 hI a1 a2 a3
  rw [if_neg c29]
  by_cases c30 : v = 30
  · rw [if_pos c30]; exact op30 hI a1
  rw [if_neg c30]
  by_cases c31 : v = 31
  · rw [if_pos c31]; exact op31 hI a1 a2
  rw [if_neg c31]
  by_cases c32 : v = 32
  · rw [if_pos c32]; exact op32 hI a1 a2
  rw [if_neg c32]
  by_cases c33 : v = 33
  · rw [if_pos c33]; exact op33 hI a1
  rw [if_neg c33]
  by_cases c34 : v = 34
  · rw [if_pos c34]; exact op34 hI a1 a2
  rw [if_neg c34]
  by_cases c35 : v = 35
  · rw [if_pos c35]; exact op35 hI a1
  rw [if_neg c35]
  by_cases c36 : v = 36
  · rw [if_pos c36]; exact op36 hI a1 a2
  rw [if_neg c36]
  by_cases c37 : v = 37
  · rw [if_pos c37]; exact op37 hI
  rw [if_neg c37]
  by_cases c38 : v = 38
  · rw [if_pos c38]; exact op38 hI
  rw [if_neg c38]
  by_cases c39 : v = 39
  · rw [if_pos c39]; exact op39 hI
  rw [if_neg c39]
  by_cases c40 : v = 40
  · rw [if_pos c40]; exact op40 hI a1
  rw [if_neg c40]
  by_cases c41 : v = 41
  · rw [if_pos c41]; exact op41 hI
  rw [if_neg c41]
  by_cases c42 : v = 42
  · rw [if_pos c42]; exact op42 hI a1
  rw [if_neg c42]
  by_cases c43 : v = 43
  · rw [if_pos c43]; exact op43 hI
  rw [if_neg c43]
  exact ⟨M, rfl, hI⟩
