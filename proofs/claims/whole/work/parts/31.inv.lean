/-! ===== a guild as numbers: G 0 kinds, G 1 tunes, G 2 houses, G 3 depths, G 4 wages, G 5 breath at first; S 0 breath, S 1 places, S 2 0 the orders done, S 2 1 gold ===== -/
/-- too deep for a kind -/
def td (k d : Nat) : Bool := (k == 2 && decide (3 < d)) || (k == 5 && decide (6 < d))
/-- the breath that it takes -/
def tk (k d : Nat) : Nat := if k = 1 ∨ k = 4 then (if d < 2 then 1 else d / 2) else if k = 3 then 0 else d
/-- what it brings -/
def bg (k w : Nat) : Nat := if k = 3 then w / 2 else if k = 4 then w + 2 else if k = 5 then w - 1 else w
def btv (k d : Nat) : Int32 := if td k d = true then -9 else nI (tk k d)
/-- sigher i can do order o -/
def can (G S : Nat → Nat → Nat) (i o : Nat) : Bool := !(S 2 0).testBit o && !td (G 0 i) (G 3 o) && decide (tk (G 0 i) (G 3 o) ≤ S 0 i)
def st0 (G : Nat → Nat → Nat) : Nat → Nat → Nat := fun a i => if a = 0 then G 5 i else 0
def sighed (G S : Nat → Nat → Nat) (i o : Nat) : Nat → Nat → Nat := fun a j =>
  if a = 0 then (if j = i then S 0 i - tk (G 0 i) (G 3 o) else S 0 j)
  else if a = 1 then S 1 j
  else if j = 0 then S 2 0 ||| 2 ^ o else if j = 1 then S 2 1 + bg (G 0 i) (G 4 o) else S a j
def walked (S : Nat → Nat → Nat) (i p : Nat) : Nat → Nat → Nat := fun a j => if a = 1 ∧ j = i then p else S a j
def rested (S : Nat → Nat → Nat) (i : Nat) : Nat → Nat → Nat := fun a j => if a = 0 ∧ j = i then (if 7 < S 0 i then 9 else S 0 i + 2) else S a j
/-- one deed, by its number -/
def perf (G : Nat → Nat → Nat) (c : Nat) (S : Nat → Nat → Nat) : Nat → Nat → Nat :=
  if c / 100 = 0 then walked S (c / 10 % 10) (c % 10)
  else if c / 100 = 1 then (if can G S (c / 10 % 10) (c % 10) = true then sighed G S (c / 10 % 10) (c % 10) else S)
  else rested S (c / 10 % 10)
def run (G : Nat → Nat → Nat) (cd : Nat → Nat) : Nat → (Nat → Nat → Nat)
  | 0 => st0 G
  | k + 1 => perf G (cd k) (run G cd k)
def okc (n m c : Nat) : Prop := c < 300 ∧ c / 10 % 10 < n ∧ (c / 100 = 1 → c % 10 < m)
/-- the model's part of a guild at a base -/
def Part (f : Nat → Int32) (b n : Nat) (S : Nat → Nat → Nat) : Prop := f (b + 1) = nI (S 2 1) ∧ f (b + 2) = nI (S 2 0) ∧ ∀ i, i < n → f (b + 3 + i) = nI (S 0 i) ∧ f (b + 8 + i) = nI (S 1 i)
/-- the deeds: the class's numbers, the model's parts -/
def HsP (G : Nat → Nat → Nat) (n m : Nat) (cods : Nat → Int32) (cnt : Int32) (f : Nat → Int32) (b d : Nat) (cd : Nat → Nat) : Prop :=
  d ≤ 40 ∧ cnt = nI d ∧ f b = nI d ∧ (∀ k, k < d → cods k = nI (cd k) ∧ okc n m (cd k)) ∧ Part f b n (run G cd d) ∧ ∀ k, k < d → Part f (b + 12 + 12 * k) n (run G cd k)
def KpP (G : Nat → Nat → Nat) (n m : Nat) (cods : Nat → Int32) (cnt : Int32) (f : Nat → Int32) (b : Nat) : Prop :=
  (cnt = -1 ∧ f b = -1) ∨ (0 < n ∧ ∃ d cd, HsP G n m cods cnt f b d cd)
def NwP (n : Nat) (S : Nat → Nat → Nat) (fo fb fp : Nat → Int32) : Prop := fo 2 = nI (S 2 0) ∧ fo 3 = nI (S 2 1) ∧ ∀ i, i < n → fb i = nI (S 0 i) ∧ fp i = nI (S 1 i)
/-- what a text said, in a roll and in the model -/
def GsP (r : Nat) (g : Nat → Nat → Int32) (a b : Int32) (n m : Nat) (G : Nat → Nat → Nat) : Prop :=
  (n ≤ 5 ∧ m ≤ 6 ∧ (n = 0 ↔ m = 0)) ∧ (a = nI n ∧ b = nI m ∧ g r 0 = nI n ∧ g r 1 = nI m) ∧
  (∀ i, i < n → (g (r + 1) i = nI (G 0 i) ∧ g 67 i = nI (G 0 i) ∧ G 0 i < 6) ∧ (g (r + 3) i = nI (G 1 i) ∧ g 68 i = nI (G 1 i) ∧ G 1 i ≤ 9) ∧ (g (r + 2) i = nI (G 5 i) ∧ G 5 i ≤ 9)) ∧
  (∀ o, o < m → (g (r + 4) o = nI (G 2 o) ∧ g 69 o = nI (G 2 o) ∧ G 2 o ≤ 9) ∧ (g (r + 5) o = nI (G 3 o) ∧ g 70 o = nI (G 3 o) ∧ 1 ≤ G 3 o ∧ G 3 o ≤ 9) ∧ (g (r + 6) o = nI (G 4 o) ∧ g 71 o = nI (G 4 o) ∧ G 4 o ≤ 9)) ∧
  (∀ i o, i < n → o < m → g (r + 7) (6 * i + o) = btv (G 0 i) (G 3 o) ∧ g (r + 8) (6 * i + o) = nI (bg (G 0 i) (G 4 o)))
def GhP (r : Nat) (g : Nat → Nat → Int32) (a b : Int32) (n m : Nat) (G : Nat → Nat → Nat) (d : Nat) (cd : Nat → Nat) : Prop :=
  GsP r g a b n m G ∧ HsP G n m (g 29) (g 28 1) (g 66) 0 d cd ∧ NwP n (run G cd d) (g 22) (g 23) (g 24) ∧ ∀ q, q < 3 → KpP G n m (g (60 + 2 * q)) (g (59 + 2 * q) 1) (g 66) (493 * (q + 1))
def gset (r x : Nat) : Prop := (r ≤ x ∧ x ≤ r + 8) ∨ (22 ≤ x ∧ x ≤ 24) ∨ x = 28 ∨ x = 29 ∨ (59 ≤ x ∧ x ≤ 64) ∨ (66 ≤ x ∧ x ≤ 71)
theorem GsP.congr {r : Nat} {g g' : Nat → Nat → Int32} {a b a' b' : Int32} {n m : Nat} {G : Nat → Nat → Nat} (h : GsP r g a b n m G) (e : ∀ x, gset r x → g' x = g x) (ea : a' = a) (eb : b' = b) : GsP r g' a' b' n m G := by
  subst ea; subst eb
  unfold GsP at h ⊢
  rw [e r (Or.inl ⟨by omega, by omega⟩), e (r + 1) (Or.inl ⟨by omega, by omega⟩), e (r + 2) (Or.inl ⟨by omega, by omega⟩), e (r + 3) (Or.inl ⟨by omega, by omega⟩), e (r + 4) (Or.inl ⟨by omega, by omega⟩), e (r + 5) (Or.inl ⟨by omega, by omega⟩), e (r + 6) (Or.inl ⟨by omega, by omega⟩), e (r + 7) (Or.inl ⟨by omega, by omega⟩), e (r + 8) (Or.inl ⟨by omega, by omega⟩), e 67 (by unfold gset; omega), e 68 (by unfold gset; omega), e 69 (by unfold gset; omega), e 70 (by unfold gset; omega), e 71 (by unfold gset; omega)]
  exact h
theorem GhP.congr {r : Nat} {g g' : Nat → Nat → Int32} {a b a' b' : Int32} {n m : Nat} {G : Nat → Nat → Nat} {d : Nat} {cd : Nat → Nat} (h : GhP r g a b n m G d cd) (e : ∀ x, gset r x → g' x = g x) (ea : a' = a) (eb : b' = b) : GhP r g' a' b' n m G d cd := by
  obtain ⟨h1, h2, h3, h4⟩ := h
  refine ⟨h1.congr e ea eb, ?_, ?_, fun q hq => ?_⟩
  · rw [e 29 (by unfold gset; omega), e 28 (by unfold gset; omega), e 66 (by unfold gset; omega)]; exact h2
  · rw [e 22 (by unfold gset; omega), e 23 (by unfold gset; omega), e 24 (by unfold gset; omega)]; exact h3
  · rw [e (60 + 2 * q) (by unfold gset; omega), e (59 + 2 * q) (by unfold gset; omega), e 66 (by unfold gset; omega)]; exact h4 q hq
def RwP (g : Nat → Nat → Int32) : Prop := ∀ r, r < 6 → (∃ z, z ≤ 41 ∧ g (39 + 2 * r) 1 = nI z - 1) ∧ g 72 r = g (39 + 2 * r) 1 ∧ ∀ j, j < 40 → g 73 (40 * r + j) = g (40 + 2 * r) j
def TxP (g : Nat → Nat → Int32) : Prop := ∀ t, t < 4 → (∃ z, z ≤ 61 ∧ g (51 + 2 * t) 1 = nI z - 1) ∧ g 74 t = g (51 + 2 * t) 1 ∧ ∀ j, j < 60 → g 75 (60 * t + j) = g (52 + 2 * t) j ∧ (g (52 + 2 * t) j).toInt8.toInt32 = g (52 + 2 * t) j
def TlP (g : Nat → Nat → Int32) (h : Nat → Nat → Int64) : Prop := g 65 12 = g 1 10 ∧ h 65 13 = h 1 11 ∧ h 65 14 = h 1 12 ∧ g 65 15 = g 1 13 ∧ ∀ f, f < 6 → g 76 f = g 38 f
def RoP (r s : Nat) (M : Mem) : Prop := ((r = 4 ∧ s = 13) ∨ (r = 13 ∧ s = 4)) ∧ mR M 1 2 = r ∧ mR M 1 3 = s
theorem RwP.congr {g g' : Nat → Nat → Int32} (h : RwP g) (e : ∀ x, (39 ≤ x ∧ x ≤ 50) ∨ x = 72 ∨ x = 73 → g' x = g x) : RwP g' := by
  intro r hr
  rw [e (39 + 2 * r) (by omega), e (40 + 2 * r) (by omega), e 72 (by omega), e 73 (by omega)]
  exact h r hr
theorem TxP.congr {g g' : Nat → Nat → Int32} (h : TxP g) (e : ∀ x, (51 ≤ x ∧ x ≤ 58) ∨ x = 74 ∨ x = 75 → g' x = g x) : TxP g' := by
  intro t ht
  rw [e (51 + 2 * t) (by omega), e (52 + 2 * t) (by omega), e 74 (by omega), e 75 (by omega)]
  exact h t ht
def Inv (M : Mem) : Prop := SF M ∧ RwP (mI M) ∧ TxP (mI M) ∧ TlP (mI M) (mL M) ∧ ∃ r s n m G d cd, RoP r s M ∧ GhP r (mI M) (mI M 65 1) (mI M 65 4) n m G d cd
-- numbers
theorem lgc_lt (x y : Int64) : lg_cmp x y < 0 ↔ x < y := by
  unfold lg_cmp
  by_cases h1 : x > y
  · rw [if_pos h1]
    refine ⟨fun h => absurd h (by decide), fun h => ?_⟩
    rw [gt_iff_lt, Int64.lt_iff_toInt_lt] at h1
    rw [Int64.lt_iff_toInt_lt] at h
    omega
  · rw [if_neg h1]
    by_cases h2 : x = y
    · rw [if_pos h2]
      refine ⟨fun h => absurd h (by decide), fun h => ?_⟩
      subst h2
      rw [Int64.lt_iff_toInt_lt] at h
      omega
    · rw [if_neg h2]
      refine ⟨fun _ => ?_, fun _ => by decide⟩
      rw [gt_iff_lt, Int64.lt_iff_toInt_lt] at h1
      rw [Int64.lt_iff_toInt_lt]
      have : x.toInt ≠ y.toInt := fun q => h2 (Int64.toInt_inj.mp q)
      omega
theorem lgc_gt (x y : Int64) : 0 < lg_cmp x y ↔ y < x := by
  unfold lg_cmp
  by_cases h1 : x > y
  · rw [if_pos h1]
    exact ⟨fun _ => h1, fun _ => by decide⟩
  · rw [if_neg h1]
    by_cases h2 : x = y
    · rw [if_pos h2]
      exact ⟨fun h => absurd h (by decide), fun h => absurd h h1⟩
    · rw [if_neg h2]
      exact ⟨fun h => absurd h (by decide), fun h => absurd h h1⟩
theorem lgc_eq (x y : Int64) : lg_cmp x y = 0 ↔ x = y := by
  unfold lg_cmp
  by_cases h1 : x > y
  · rw [if_pos h1]
    refine ⟨fun h => absurd h (by decide), fun h => ?_⟩
    subst h
    rw [gt_iff_lt, Int64.lt_iff_toInt_lt] at h1
    omega
  · rw [if_neg h1]
    by_cases h2 : x = y
    · rw [if_pos h2]; exact ⟨fun _ => h2, fun _ => rfl⟩
    · rw [if_neg h2]; exact ⟨fun h => absurd h (by decide), fun h => absurd h h2⟩
theorem in_int (x a b : Int64) : f_X8_in x a b = if a.toInt ≤ x.toInt ∧ x.toInt ≤ b.toInt then 1 else 0 := by
  unfold f_X8_in
  by_cases h1 : x < a
  · rw [if_pos ((lgc_lt x a).mpr h1)]
    rw [Int64.lt_iff_toInt_lt] at h1
    rw [if_neg (by omega)]
  · rw [if_neg (fun q => h1 ((lgc_lt x a).mp q))]
    by_cases h2 : b < x
    · rw [if_pos ((lgc_gt x b).mpr h2)]
      rw [Int64.lt_iff_toInt_lt] at h2
      rw [if_neg (by omega)]
    · rw [if_neg (fun q => h2 ((lgc_gt x b).mp q))]
      rw [Int64.lt_iff_toInt_lt] at h1 h2
      rw [if_pos (by omega)]
/-- in(v, a, b) of ints -/
theorem in_i (x : Int32) (a b : Int64) : f_X8_in (Int32.toInt64 x) a b = if a.toInt ≤ x.toInt ∧ x.toInt ≤ b.toInt then 1 else 0 := by
  rw [in_int, Int32.toInt_toInt64]
theorem bz_ite {c : Prop} [Decidable c] : bz (if c then 1 else 0) = some (if c then 1 else 0) := by
  by_cases h : c
  · rw [if_pos h]; rfl
  · rw [if_neg h]; rfl
theorem isRow_eq (x : Int32) : f_X8_isRow x = some (if 0 ≤ x.toInt ∧ x.toInt ≤ 5 then 1 else 0) := by
  unfold f_X8_isRow
  rw [in_i, show (0 : Int64).toInt = 0 from rfl, show (5 : Int64).toInt = 5 from rfl, bz_ite]; rfl
theorem isText_eq (x : Int32) : f_X8_isText x = some (if 0 ≤ x.toInt ∧ x.toInt ≤ 3 then 1 else 0) := by
  unfold f_X8_isText
  rw [in_i, show (0 : Int64).toInt = 0 from rfl, show (3 : Int64).toInt = 3 from rfl, bz_ite]; rfl
