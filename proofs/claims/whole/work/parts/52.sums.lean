/-! ===== sums over sets ===== -/
def Sg (h : Nat → Nat) : Nat → Nat → Nat
  | _, 0 => 0
  | j, k + 1 => h j + Sg h (j + 1) k
theorem iter_sum {h : Nat → Nat} : ∀ k j a, iter (fun b a => a + h b) j k a = a + Sg h j k := by
  intro k
  induction k with
  | zero => intro j a; rfl
  | succ k ih =>
    intro j a
    show iter (fun b a => a + h b) (j + 1) k (a + h j) = a + (h j + Sg h (j + 1) k)
    rw [ih, Nat.add_assoc]
theorem Sg_add {h : Nat → Nat} : ∀ a b j, Sg h j (a + b) = Sg h j a + Sg h (j + a) b := by
  intro a
  induction a with
  | zero => intro b j; rw [Nat.zero_add]; simp [Sg]
  | succ a ih =>
    intro b j
    rw [show a + 1 + b = (a + b) + 1 by omega]
    show h j + Sg h (j + 1) (a + b) = h j + Sg h (j + 1) a + Sg h (j + (a + 1)) b
    rw [ih, show j + 1 + a = j + (a + 1) by omega, Nat.add_assoc]
theorem Sg_congr {h g : Nat → Nat} : ∀ k j i, (∀ x, x < k → h (j + x) = g (i + x)) → Sg h j k = Sg g i k := by
  intro k
  induction k with
  | zero => intro j i _; rfl
  | succ k ih =>
    intro j i e
    show h j + Sg h (j + 1) k = g i + Sg g (i + 1) k
    rw [show h j = g i from e 0 (by omega), ih (j + 1) (i + 1) (fun x hx => by rw [show j + 1 + x = j + (x + 1) by omega, show i + 1 + x = i + (x + 1) by omega]; exact e (x + 1) (by omega))]
theorem Sg_mul {h : Nat → Nat} {c : Nat} : ∀ k j, Sg (fun x => c * h x) j k = c * Sg h j k := by
  intro k
  induction k with
  | zero => intro j; rfl
  | succ k ih =>
    intro j
    show c * h j + Sg (fun x => c * h x) (j + 1) k = c * (h j + Sg h (j + 1) k)
    rw [ih, Nat.mul_add]
theorem Sg_le {h : Nat → Nat} {c : Nat} : ∀ k j, (∀ x, x < k → h (j + x) ≤ c) → Sg h j k ≤ c * k := by
  intro k
  induction k with
  | zero => intro j _; exact Nat.zero_le _
  | succ k ih =>
    intro j e
    have h1 := ih (j + 1) (fun x hx => by rw [show j + 1 + x = j + (x + 1) by omega]; exact e (x + 1) (by omega))
    have h2 := e 0 (by omega)
    show h j + Sg h (j + 1) k ≤ c * (k + 1)
    rw [Nat.mul_succ]
    have : h j ≤ c := h2
    omega
def fc (p x o : Nat) : Nat := if x.testBit o = true then p else 12 - p
def wA (p k x : Nat) : Nat := iter (fun o a => a * fc p x o) 0 k 1
def wC (p D k x : Nat) : Nat := iter (fun o a => if D.testBit o = true then a else a * fc p x o) 0 k 1
theorem iter_snoc {σ : Type} {f : Nat → σ → σ} {k : Nat} {s : σ} : iter f 0 (k + 1) s = f k (iter f 0 k s) := by
  rw [iter_add, Nat.zero_add]; rfl
theorem fc_le {p x o : Nat} (hp : p ≤ 12) : fc p x o ≤ 12 := by
  unfold fc
  by_cases h : x.testBit o = true
  · rw [if_pos h]; exact hp
  · rw [if_neg h]; omega
theorem wC_le {p D x : Nat} (hp : p ≤ 12) : ∀ k, wC p D k x ≤ 12 ^ k := by
  intro k
  induction k with
  | zero => exact Nat.le_refl _
  | succ k ih =>
    unfold wC at ih ⊢
    rw [iter_snoc, Nat.pow_succ]
    by_cases h : D.testBit k = true
    · rw [if_pos h]; exact Nat.le_trans ih (Nat.le_mul_of_pos_right _ (by decide))
    · rw [if_neg h]; exact Nat.mul_le_mul ih (fc_le hp)
theorem lowb {k x o : Nat} (ho : o < k) : (2 ^ k + x).testBit o = x.testBit o := Nat.testBit_two_pow_add_gt ho x
theorem topb {k x : Nat} (hx : x < 2 ^ k) : (2 ^ k + x).testBit k = true := by rw [Nat.testBit_two_pow_add_eq, Nat.testBit_lt_two_pow hx]; rfl
theorem wA_low {p k x y : Nat} (h : ∀ o, o < k → x.testBit o = y.testBit o) : wA p k x = wA p k y := by
  unfold wA
  exact iter_congr k 0 1 (fun o a _ ho => by unfold fc; rw [h o (by omega)])
theorem wC_low {p D k x y : Nat} (h : ∀ o, o < k → x.testBit o = y.testBit o) : wC p D k x = wC p D k y := by
  unfold wC
  exact iter_congr k 0 1 (fun o a _ ho => by unfold fc; rw [h o (by omega)])
def TA (p : Nat) (g : Nat → Nat) : Nat → Nat → Nat
  | 0, c => g c
  | k + 1, c => (12 - p) * TA p g k c + p * TA p g k (c + 2 ^ k)
theorem TA_eq {p : Nat} {g : Nat → Nat} : ∀ k c, Sg (fun x => wA p k x * g (c + x)) 0 (2 ^ k) = TA p g k c := by
  intro k
  induction k with
  | zero => intro c; show 1 * g (c + 0) + 0 = g c; simp
  | succ k ih =>
    intro c
    rw [show 2 ^ (k + 1) = 2 ^ k + 2 ^ k from by rw [Nat.pow_succ]; omega, Sg_add, Nat.zero_add]
    have e1 : Sg (fun x => wA p (k + 1) x * g (c + x)) 0 (2 ^ k) = Sg (fun x => (12 - p) * (wA p k x * g (c + x))) 0 (2 ^ k) := Sg_congr _ _ _ (fun x hx => by
      rw [Nat.zero_add]
      show wA p (k + 1) x * g (c + x) = (12 - p) * (wA p k x * g (c + x))
      rw [show wA p (k + 1) x = wA p k x * (12 - p) from by unfold wA; rw [iter_snoc]; unfold fc; rw [if_neg (by rw [Nat.testBit_lt_two_pow hx]; decide)], Nat.mul_comm (wA p k x), Nat.mul_assoc])
    have e2 : Sg (fun x => wA p (k + 1) x * g (c + x)) (2 ^ k) (2 ^ k) = Sg (fun x => p * (wA p k x * g (c + 2 ^ k + x))) 0 (2 ^ k) := Sg_congr _ _ _ (fun x hx => by
      rw [Nat.zero_add]
      show wA p (k + 1) (2 ^ k + x) * g (c + (2 ^ k + x)) = p * (wA p k x * g (c + 2 ^ k + x))
      rw [show wA p (k + 1) (2 ^ k + x) = wA p k x * p from by rw [← wA_low (x := 2 ^ k + x) (fun o ho => lowb ho)]; unfold wA; rw [iter_snoc]; unfold fc; rw [if_pos (topb hx)], Nat.mul_comm (wA p k x), Nat.mul_assoc, Nat.add_assoc])
    rw [e1, e2, Sg_mul, Sg_mul, ih c, ih (c + 2 ^ k)]
    rfl
def TC (p D : Nat) (g : Nat → Nat) : Nat → Nat → Nat
  | 0, c => g c
  | k + 1, c => if D.testBit k = true then TC p D g k c else (12 - p) * TC p D g k c + p * TC p D g k (c + 2 ^ k)
def dj (D k x : Nat) : Bool := allB (fun o => !(x.testBit o && D.testBit o)) 0 k
theorem allB_snoc {f : Nat → Bool} {k : Nat} : allB f 0 (k + 1) = (allB f 0 k && f k) := by
  have h : allB f 0 (k + 1) = true ↔ (allB f 0 k && f k) = true := by
    rw [Bool.and_eq_true, allB_iff, allB_iff]
    refine ⟨fun h => ⟨fun b h1 h2 => h b h1 (by omega), h k (by omega) (by omega)⟩, fun h b h1 h2 => ?_⟩
    by_cases hb : b = k
    · rw [hb]; exact h.2
    · exact h.1 b h1 (by omega)
  cases h1 : allB f 0 (k + 1) with
  | true => exact (h.mp h1).symm
  | false =>
    cases h2 : (allB f 0 k && f k) with
    | true => rw [h.mpr h2] at h1; exact h1.symm
    | false => rfl
theorem dj_low {D k x y : Nat} (h : ∀ o, o < k → x.testBit o = y.testBit o) : dj D k x = dj D k y := by
  have : ∀ q j, j + q ≤ k → allB (fun o => !(x.testBit o && D.testBit o)) j q = allB (fun o => !(y.testBit o && D.testBit o)) j q := by
    intro q
    induction q with
    | zero => intro j _; rfl
    | succ q ih =>
      intro j hj
      simp only [allB]
      rw [h j (by omega), ih (j + 1) (by omega)]
  exact this k 0 (by omega)
theorem TC_eq {p D : Nat} {g : Nat → Nat} : ∀ k c, Sg (fun x => if dj D k x = true then wC p D k x * g (c + x) else 0) 0 (2 ^ k) = TC p D g k c := by
  intro k
  induction k with
  | zero =>
    intro c
    show (if dj D 0 0 = true then 1 * g (c + 0) else 0) + 0 = g c
    rw [if_pos (show dj D 0 0 = true from rfl)]; simp
  | succ k ih =>
    intro c
    rw [show 2 ^ (k + 1) = 2 ^ k + 2 ^ k from by rw [Nat.pow_succ]; omega, Sg_add, Nat.zero_add]
    have d1 : ∀ x, x < 2 ^ k → dj D (k + 1) x = dj D k x := fun x hx => by
      unfold dj; rw [allB_snoc, Nat.testBit_lt_two_pow hx]; simp
    have d2 : ∀ x, x < 2 ^ k → dj D (k + 1) (2 ^ k + x) = (dj D k x && !D.testBit k) := fun x hx => by
      rw [← dj_low (x := 2 ^ k + x) (fun o ho => lowb ho)]
      unfold dj; rw [allB_snoc, topb hx]; simp
    by_cases hD : D.testBit k = true
    · have e1 : Sg (fun x => if dj D (k + 1) x = true then wC p D (k + 1) x * g (c + x) else 0) 0 (2 ^ k) = Sg (fun x => if dj D k x = true then wC p D k x * g (c + x) else 0) 0 (2 ^ k) := Sg_congr _ _ _ (fun x hx => by
        rw [Nat.zero_add]
        show (if dj D (k + 1) x = true then wC p D (k + 1) x * g (c + x) else 0) = if dj D k x = true then wC p D k x * g (c + x) else 0
        rw [d1 x hx, show wC p D (k + 1) x = wC p D k x from by unfold wC; rw [iter_snoc, if_pos hD]])
      have e2 : Sg (fun x => if dj D (k + 1) x = true then wC p D (k + 1) x * g (c + x) else 0) (2 ^ k) (2 ^ k) = 0 * 2 ^ k := by
        rw [Nat.zero_mul]
        apply Nat.le_zero.mp
        have := Sg_le (h := fun x => if dj D (k + 1) x = true then wC p D (k + 1) x * g (c + x) else 0) (c := 0) (2 ^ k) (2 ^ k) (fun x hx => by
          show (if dj D (k + 1) (2 ^ k + x) = true then wC p D (k + 1) (2 ^ k + x) * g (c + (2 ^ k + x)) else 0) ≤ 0
          rw [d2 x hx, hD]; simp)
        rw [Nat.zero_mul] at this
        exact this
      rw [e1, e2, ih c, Nat.zero_mul, Nat.add_zero]
      show TC p D g k c = if D.testBit k = true then TC p D g k c else _
      rw [if_pos hD]
    · have hD' : D.testBit k = false := by cases hq : D.testBit k with
        | true => exact absurd hq hD
        | false => rfl
      have e1 : Sg (fun x => if dj D (k + 1) x = true then wC p D (k + 1) x * g (c + x) else 0) 0 (2 ^ k) = Sg (fun x => (12 - p) * (if dj D k x = true then wC p D k x * g (c + x) else 0)) 0 (2 ^ k) := Sg_congr _ _ _ (fun x hx => by
        rw [Nat.zero_add]
        show (if dj D (k + 1) x = true then wC p D (k + 1) x * g (c + x) else 0) = (12 - p) * (if dj D k x = true then wC p D k x * g (c + x) else 0)
        rw [d1 x hx, show wC p D (k + 1) x = wC p D k x * (12 - p) from by unfold wC; rw [iter_snoc, if_neg hD]; unfold fc; rw [if_neg (by rw [Nat.testBit_lt_two_pow hx]; decide)]]
        by_cases hj : dj D k x = true
        · rw [if_pos hj, if_pos hj, Nat.mul_comm (wC p D k x), Nat.mul_assoc]
        · rw [if_neg hj, if_neg hj, Nat.mul_zero])
      have e2 : Sg (fun x => if dj D (k + 1) x = true then wC p D (k + 1) x * g (c + x) else 0) (2 ^ k) (2 ^ k) = Sg (fun x => p * (if dj D k x = true then wC p D k x * g (c + 2 ^ k + x) else 0)) 0 (2 ^ k) := Sg_congr _ _ _ (fun x hx => by
        rw [Nat.zero_add]
        show (if dj D (k + 1) (2 ^ k + x) = true then wC p D (k + 1) (2 ^ k + x) * g (c + (2 ^ k + x)) else 0) = p * (if dj D k x = true then wC p D k x * g (c + 2 ^ k + x) else 0)
        rw [d2 x hx, hD', show wC p D (k + 1) (2 ^ k + x) = wC p D k x * p from by rw [← wC_low (x := 2 ^ k + x) (fun o ho => lowb ho)]; unfold wC; rw [iter_snoc, if_neg hD]; unfold fc; rw [if_pos (topb hx)]]
        by_cases hj : dj D k x = true
        · rw [if_pos (by rw [hj]; rfl), if_pos hj, Nat.mul_comm (wC p D k x), Nat.mul_assoc, Nat.add_assoc]
        · rw [if_neg (by simp [hj]), if_neg hj, Nat.mul_zero])
      rw [e1, e2, Sg_mul, Sg_mul, ih c, ih (c + 2 ^ k)]
      show _ = if D.testBit k = true then _ else _
      rw [if_neg hD]
def cD (D : Nat) : Nat → Nat
  | 0 => 1
  | k + 1 => if D.testBit k = true then 12 * cD D k else cD D k
theorem cD_pos {D : Nat} : ∀ k, 0 < cD D k := by
  intro k
  induction k with
  | zero => exact Nat.one_pos
  | succ k ih =>
    unfold cD
    by_cases h : D.testBit k = true
    · rw [if_pos h]; omega
    · rw [if_neg h]; exact ih
/-- the model's sum is the class's, times what the orders done have -/
theorem TA_TC {p D m : Nat} {g : Nat → Nat} (hp : p ≤ 12) (hg : ∀ k t x, k < m → D.testBit k = true → x < 2 ^ k → g (2 ^ (k + 1) * t + x) = g (2 ^ (k + 1) * t + 2 ^ k + x)) : ∀ k t, k ≤ m → TA p g k (2 ^ k * t) = cD D k * TC p D g k (2 ^ k * t) := by
  intro k
  induction k with
  | zero => intro t _; exact (Nat.one_mul _).symm
  | succ k ih =>
    intro t hk
    have e1 : 2 ^ (k + 1) * t = 2 ^ k * (2 * t) := by rw [Nat.pow_succ, Nat.mul_assoc]
    have e2 : 2 ^ (k + 1) * t + 2 ^ k = 2 ^ k * (2 * t + 1) := by rw [e1, Nat.mul_add, Nat.mul_one]
    show (12 - p) * TA p g k (2 ^ (k + 1) * t) + p * TA p g k (2 ^ (k + 1) * t + 2 ^ k) = (if D.testBit k = true then 12 * cD D k else cD D k) * (if D.testBit k = true then TC p D g k (2 ^ (k + 1) * t) else (12 - p) * TC p D g k (2 ^ (k + 1) * t) + p * TC p D g k (2 ^ (k + 1) * t + 2 ^ k))
    rw [e2, ih (2 * t + 1) (by omega), e1, ih (2 * t) (by omega), ← e1, ← e2]
    by_cases hD : D.testBit k = true
    · rw [if_pos hD, if_pos hD]
      have : TC p D g k (2 ^ (k + 1) * t + 2 ^ k) = TC p D g k (2 ^ (k + 1) * t) := by
        rw [← TC_eq, ← TC_eq]
        exact Sg_congr _ _ _ (fun x hx => by
          rw [Nat.zero_add]
          show (if dj D k x = true then wC p D k x * g (2 ^ (k + 1) * t + 2 ^ k + x) else 0) = if dj D k x = true then wC p D k x * g (2 ^ (k + 1) * t + x) else 0
          rw [hg k t x (by omega) hD hx])
      rw [this, ← Nat.add_mul, show 12 - p + p = 12 by omega, ← Nat.mul_assoc]
    · rw [if_neg hD, if_neg hD, Nat.mul_add, ← Nat.mul_assoc, ← Nat.mul_assoc, ← Nat.mul_assoc, ← Nat.mul_assoc, Nat.mul_comm (cD D k) (12 - p), Nat.mul_comm (cD D k) p]
theorem TC_one {p D : Nat} (hp : p ≤ 12) : ∀ k c, TC p D (fun _ => 1) k c = iter (fun o a => if D.testBit o = true then a else a * 12) 0 k 1 := by
  intro k
  induction k with
  | zero => intro c; rfl
  | succ k ih =>
    intro c
    rw [iter_snoc]
    show (if D.testBit k = true then TC p D (fun _ => 1) k c else (12 - p) * TC p D (fun _ => 1) k c + p * TC p D (fun _ => 1) k (c + 2 ^ k)) = _
    rw [ih c, ih (c + 2 ^ k)]
    by_cases hD : D.testBit k = true
    · rw [if_pos hD, if_pos hD]
    · rw [if_neg hD, if_neg hD, ← Nat.add_mul, show 12 - p + p = 12 by omega, Nat.mul_comm]
