/-- what a roll holds while it is read -/
def Rs (s a b : Nat) (V : Nat → Nat → Nat) (M : Mem) : Prop :=
  (a ≤ 5 ∧ b ≤ 6) ∧ (mI M s 0 = nI a ∧ mI M s 1 = nI b) ∧
  (∀ i, i < a → (mI M (s + 1) i = nI (V 0 i) ∧ V 0 i < 6) ∧ (mI M (s + 3) i = nI (V 1 i) ∧ V 1 i ≤ 9) ∧ (mI M (s + 2) i = nI (V 5 i) ∧ V 5 i ≤ 9)) ∧
  (∀ o, o < b → (mI M (s + 4) o = nI (V 2 o) ∧ V 2 o ≤ 9) ∧ (mI M (s + 5) o = nI (V 3 o) ∧ 1 ≤ V 3 o ∧ V 3 o ≤ 9) ∧ (mI M (s + 6) o = nI (V 4 o) ∧ V 4 o ≤ 9)) ∧
  (∀ i o, i < a → o < b → mI M (s + 7) (6 * i + o) = btv (V 0 i) (V 3 o) ∧ mI M (s + 8) (6 * i + o) = nI (bg (V 0 i) (V 4 o)))
def FrS (s : Nat) (M N : Mem) : Prop := SF N ∧ mR N = mR M ∧ mL N = mL M ∧ ∀ x, x < s ∨ s + 8 < x → mI N x = mI M x
theorem FrS.tr {s : Nat} {A B C : Mem} (h1 : FrS s A B) (h2 : FrS s B C) : FrS s A C := ⟨h2.1, h2.2.1.trans h1.2.1, h2.2.2.1.trans h1.2.2.1, fun x hx => (h2.2.2.2 x hx).trans (h1.2.2.2 x hx)⟩
/-- a value put -/
def pv (V : Nat → Nat → Nat) (a i v : Nat) : Nat → Nat → Nat := fun x j => if x = a ∧ j = i then v else V x j
def addS (V : Nat → Nat → Nat) (a k br tu : Nat) : Nat → Nat → Nat := pv (pv (pv V 0 a k) 5 a br) 1 a tu
theorem takeSigher_X {M : Mem} (h : SF M) {s : Nat} (hs : s = 4 ∨ s = 13) {a : Nat} {V : Nat → Nat → Nat} (hR : Rs s a 0 V M) (ha : a < 5) {t z : Nat} (ht : t < 4) (hz : z ≤ 60) (hsz : mI M (51 + 2 * t) 1 = nI z) {p k br tu : Nat} (hp : p < 100) (hk : kl (sgn (mI M (52 + 2 * t)) z p) = nI k) (hk6 : k < 6) (hbr : fig (mI M (52 + 2 * t)) z (p + 1) = nI br) (hb9 : br ≤ 9) (htu : fig (mI M (52 + 2 * t)) z (p + 2) = nI tu) (ht9 : tu ≤ 9) : ∃ M', f_X2_takeSigher s (51 + 2 * t) (nI p) M = some M' ∧ FrS s M M' ∧ Rs s (a + 1) 0 (addS V a k br tu) M' := by
  obtain ⟨r0, ⟨r1, r2⟩, r3, r4, r5⟩ := hR
  unfold f_X2_takeSigher
  simp only [rollF h hs, if_true, gI_k, r1, Option.bind_some, if_neg (show ¬ (5 : Int32) ≤ nI a from nI_ge (b := 5) ha (by decide)), signAt_X h ht hz hsz (show p < 2 ^ 30 by omega), kl_X, hk]
  rw [eI_k (by simp only [rollF h hs]) (by simp only [rollL hs]; omega), Option.bind_some]
  generalize hM1 : sI M (s + 1) a (nI k) = M1
  have hS1 : SF M1 := by rw [← hM1]; exact h
  have e1 : ∀ x, x ≠ s + 1 → mI M1 x = mI M x := fun x hx => by rw [← hM1, mI_sI_row hx]
  simp only [rollF hS1 hs, gI_k, Option.bind_some, e1 s (by omega), r1, show nI p + 1 = nI (p + 1) from nI_1 p, figureAt_X hS1 ht hz (by rw [e1 (51 + 2 * t) (by omega)]; exact hsz) (show p + 1 < 2 ^ 30 by omega), e1 (52 + 2 * t) (by omega), hbr]
  rw [eI_k (by simp only [rollF hS1 hs]) (by simp only [rollL hs]; omega), Option.bind_some]
  generalize hM2 : sI M1 (s + 2) a (nI br) = M2
  have hS2 : SF M2 := by rw [← hM2]; exact hS1
  have e2 : ∀ x, x ≠ s + 2 → mI M2 x = mI M1 x := fun x hx => by rw [← hM2, mI_sI_row hx]
  simp only [rollF hS2 hs, gI_k, Option.bind_some, e2 s (by omega), e1 s (by omega), r1, show nI p + 2 = nI (p + 2) from nI_add p 2, figureAt_X hS2 ht hz (by rw [e2 (51 + 2 * t) (by omega), e1 (51 + 2 * t) (by omega)]; exact hsz) (show p + 2 < 2 ^ 30 by omega), e2 (52 + 2 * t) (by omega), e1 (52 + 2 * t) (by omega), htu]
  rw [eI_k (by simp only [rollF hS2 hs]) (by simp only [rollL hs]; omega), Option.bind_some]
  generalize hM3 : sI M2 (s + 3) a (nI tu) = M3
  have hS3 : SF M3 := by rw [← hM3]; exact hS2
  have e3 : ∀ x, x ≠ s + 3 → mI M3 x = mI M2 x := fun x hx => by rw [← hM3, mI_sI_row hx]
  simp only [rollF hS3 hs, gI_k, Option.bind_some, e3 s (by omega), e2 s (by omega), e1 s (by omega), r1, nI_1]
  rw [pI_k (by simp only [rollF hS3 hs]), Option.bind_some]
  refine ⟨_, rfl, ⟨hS3, by rw [← hM3, ← hM2, ← hM1]; rfl, by rw [← hM3, ← hM2, ← hM1]; rfl, fun x hx => ?_⟩, ⟨by omega, by omega⟩, ⟨?_, ?_⟩, fun i hi => ?_, fun o ho => absurd ho (by omega), fun i o _ ho => absurd ho (by omega)⟩
  · rw [mI_sI_row (by omega), e3 x (by omega), e2 x (by omega), e1 x (by omega)]
  · rw [mI_sI, if_pos ⟨rfl, rfl⟩]
  · rw [mI_sI, if_neg (by omega), e3 s (by omega), e2 s (by omega), e1 s (by omega)]; exact r2
  · have q3 := fun (hia : ¬ i = a) => r3 i (by omega)
    refine ⟨⟨?_, ?_⟩, ⟨?_, ?_⟩, ⟨?_, ?_⟩⟩
    · rw [mI_sI_row (by omega), e3 (s + 1) (by omega), e2 (s + 1) (by omega), ← hM1, mI_sI]
      by_cases hia : i = a
      · rw [if_pos ⟨rfl, hia⟩]; simp [addS, pv, hia]
      · rw [if_neg (fun q => hia q.2), (q3 hia).1.1]; simp [addS, pv, hia]
    · by_cases hia : i = a
      · simp [addS, pv, hia]; exact hk6
      · simp [addS, pv, hia]; exact (q3 hia).1.2
    · rw [mI_sI_row (by omega), ← hM3, mI_sI]
      by_cases hia : i = a
      · rw [if_pos ⟨rfl, hia⟩]; simp [addS, pv, hia]
      · rw [if_neg (fun q => hia q.2), e2 (s + 3) (by omega), e1 (s + 3) (by omega), (q3 hia).2.1.1]; simp [addS, pv, hia]
    · by_cases hia : i = a
      · simp [addS, pv, hia]; exact ht9
      · simp [addS, pv, hia]; exact (q3 hia).2.1.2
    · rw [mI_sI_row (by omega), e3 (s + 2) (by omega), ← hM2, mI_sI]
      by_cases hia : i = a
      · rw [if_pos ⟨rfl, hia⟩]; simp [addS, pv, hia]
      · rw [if_neg (fun q => hia q.2), e1 (s + 2) (by omega), (q3 hia).2.2.1]; simp [addS, pv, hia]
    · by_cases hia : i = a
      · simp [addS, pv, hia]; exact hb9
      · simp [addS, pv, hia]; exact (q3 hia).2.2.2
