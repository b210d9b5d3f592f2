/-! ===== give(), most(): what is best, and the first row that has it ===== -/
def wo (G : Nat → Nat → Nat) (e i o : Nat) : Nat := if e = 0 then 1 else bg (G 0 i) (G 4 o)
def Bv (G : Nat → Nat → Nat) (n e : Nat) : Nat → Nat → (Nat → Nat → Nat) → Nat
  | 0, _, _ => 0
  | k + 1, o, S => iter (fun i a => if can G S i o = true then max a (wo G e i o + Bv G n e k (o + 1) (sighed G S i o)) else a) 0 n (Bv G n e k (o + 1) S)
def bp (G : Nat → Nat → Nat) (n e : Nat) : Nat → Nat → (Nat → Nat → Nat) → (Nat → Nat) → Nat × (Nat → Nat)
  | 0, _, _, c => (0, c)
  | k + 1, o, S, c => iter (fun i p => if can G S i o = true then (if p.1 < wo G e i o + (bp G n e k (o + 1) (sighed G S i o) (pth c o (i + 1))).1 then (wo G e i o + (bp G n e k (o + 1) (sighed G S i o) (pth c o (i + 1))).1, (bp G n e k (o + 1) (sighed G S i o) (pth c o (i + 1))).2) else p) else p) 0 n (bp G n e k (o + 1) S (pth c o 0))
def fol (G : Nat → Nat → Nat) (n e : Nat) : Nat → Nat → (Nat → Nat → Nat) → Nat → (Nat → Nat) → Nat × (Nat → Nat) → Nat × (Nat → Nat)
  | 0, _, _, had, c, b => if b.1 < had + 1 then (had + 1, c) else b
  | k + 1, o, S, had, c, b => iter (fun i b => if can G S i o = true then fol G n e k (o + 1) (sighed G S i o) (had + wo G e i o) (pth c o (i + 1)) b else b) 0 n (fol G n e k (o + 1) S had (pth c o 0) b)
theorem bp_1 {G : Nat → Nat → Nat} {n e : Nat} : ∀ k o S c, (bp G n e k o S c).1 = Bv G n e k o S := by
  intro k
  induction k with
  | zero => intro o S c; rfl
  | succ k ih =>
    intro o S c
    refine iter_rel (fun _ (p : Nat × (Nat → Nat)) (a : Nat) => p.1 = a) n 0 _ _ (ih _ _ _) (fun i p a _ _ hR => ?_)
    by_cases hc : can G S i o = true
    · rw [if_pos hc, if_pos hc, ih]
      by_cases q : p.1 < wo G e i o + Bv G n e k (o + 1) (sighed G S i o)
      · rw [if_pos q, Nat.max_eq_right (by omega)]
      · rw [if_neg q, Nat.max_eq_left (by omega)]; exact hR
    · rw [if_neg hc, if_neg hc]; exact hR
def ub (h : Nat) (p b : Nat × (Nat → Nat)) : Nat × (Nat → Nat) := if b.1 < h + p.1 + 1 then (h + p.1 + 1, p.2) else b
theorem fol_bp {G : Nat → Nat → Nat} {n e : Nat} : ∀ k o S had c b, fol G n e k o S had c b = ub had (bp G n e k o S c) b := by
  intro k
  induction k with
  | zero => intro o S had c b; rfl
  | succ k ih =>
    intro o S had c b0
    refine iter_rel (fun _ (b p : Nat × (Nat → Nat)) => b = ub had p b0) n 0 _ _ (ih _ _ _ _ _) (fun i b p _ _ hR => ?_)
    by_cases hc : can G S i o = true
    · rw [if_pos hc, if_pos hc, ih, hR]
      generalize bp G n e k (o + 1) (sighed G S i o) (pth c o (i + 1)) = q
      generalize wo G e i o = w
      unfold ub
      by_cases c1 : b0.1 < had + p.1 + 1
      · rw [if_pos c1]
        by_cases c2 : p.1 < w + q.1
        · rw [if_pos c2, if_pos (show had + p.1 + 1 < had + w + q.1 + 1 by omega), if_pos (show b0.1 < had + (w + q.1) + 1 by omega), Nat.add_assoc had w q.1]
        · rw [if_neg c2, if_neg (show ¬ had + p.1 + 1 < had + w + q.1 + 1 by omega), if_pos c1]
      · rw [if_neg c1]
        by_cases c2 : b0.1 < had + w + q.1 + 1
        · rw [if_pos c2, if_pos (show p.1 < w + q.1 by omega), if_pos (show b0.1 < had + (w + q.1) + 1 by omega), Nat.add_assoc had w q.1]
        · rw [if_neg c2]
          by_cases c3 : p.1 < w + q.1
          · rw [if_pos c3, if_neg (show ¬ b0.1 < had + (w + q.1) + 1 by omega)]
          · rw [if_neg c3, if_neg c1]
    · rw [if_neg hc, if_neg hc]; exact hR
/-- a running best keeps its row while nothing is more -/
theorem run_2 {y : Nat → Nat} {R : Nat → Nat → Nat} {q : Nat → Bool} : ∀ k j (p : Nat × (Nat → Nat)), p.1 ≤ (iter (fun i p => if q i = true then (if p.1 < y i then (y i, R i) else p) else p) j k p).1 ∧ ((iter (fun i p => if q i = true then (if p.1 < y i then (y i, R i) else p) else p) j k p).1 ≤ p.1 → iter (fun i p => if q i = true then (if p.1 < y i then (y i, R i) else p) else p) j k p = p) := by
  intro k
  induction k with
  | zero => intro j p; exact ⟨Nat.le_refl _, fun _ => rfl⟩
  | succ k ih =>
    intro j p
    simp only [iter]
    by_cases c : q j = true
    · rw [if_pos c]
      by_cases c2 : p.1 < y j
      · rw [if_pos c2]
        have := ih (j + 1) (y j, R j)
        exact ⟨by have := this.1; simp only at this; omega, fun h => by have := this.1; simp only at this; omega⟩
      · rw [if_neg c2]; exact ih (j + 1) p
    · rw [if_neg c]; exact ih (j + 1) p
theorem iter_max {y : Nat → Nat} {q : Nat → Bool} : ∀ k j x a, iter (fun i a => if q i = true then max a (y i) else a) j k (max x a) = max x (iter (fun i a => if q i = true then max a (y i) else a) j k a) := by
  intro k
  induction k with
  | zero => intro j x a; rfl
  | succ k ih =>
    intro j x a
    simp only [iter]
    by_cases c : q j = true
    · rw [if_pos c, if_pos c, Nat.max_assoc]; exact ih (j + 1) x (max a (y j))
    · rw [if_neg c, if_neg c]; exact ih (j + 1) x a
theorem climb_max {y : Nat → Nat} {q : Nat → Bool} {had : Nat} : ∀ k j b a, max (iter (fun i b => if q i = true then max b (had + y i + 1) else b) j k b) (had + a + 1) = max b (had + iter (fun i a => if q i = true then max a (y i) else a) j k a + 1) := by
  intro k
  induction k with
  | zero => intro j b a; rfl
  | succ k ih =>
    intro j b a
    simp only [iter]
    by_cases c : q j = true
    · rw [if_pos c, if_pos c, ih (j + 1), Nat.max_comm a (y j), iter_max]
      omega
    · rw [if_neg c, if_neg c]; exact ih (j + 1) b a
/-- a node of the search: how the guild stands when the orders ahead of o are given -/
def Wn (S0 : Nat → Nat → Nat) (n m e o had : Nat) (S : Nat → Nat → Nat) : Prop := (∀ i, i < n → S 0 i ≤ S0 0 i ∧ S0 0 i ≤ 9) ∧ S 2 0 < 2 ^ m ∧ (∀ j, o ≤ j → j < m → (S 2 0).testBit j = (S0 2 0).testBit j) ∧ had ≤ 11 * o ∧ (if e = 0 then pc (S 2 0) = pc (S0 2 0) + had else S 2 1 = S0 2 1 + had) ∧ S 2 1 ≤ S0 2 1 + 11 * o ∧ S0 2 0 < 2 ^ m
theorem Wn.no {S0 : Nat → Nat → Nat} {n m e o had : Nat} {S : Nat → Nat → Nat} (h : Wn S0 n m e o had S) : Wn S0 n m e (o + 1) had S := by
  obtain ⟨h1, h2, h3, h4, h5, h6, h7⟩ := h
  exact ⟨h1, h2, fun j q1 q2 => h3 j (by omega) q2, by omega, h5, by omega, h7⟩
theorem wo_le {M : Mem} {r n m : Nat} {G : Nat → Nat → Nat} (h : Gd M r n m G) {e i o : Nat} (hi : i < n) (ho : o < m) : wo G e i o ≤ 11 := by
  have hg := bg_le _ (h.s hi).1.2.2 _ (show G 4 o < 10 by have := (h.o ho).2.2.2.2; omega)
  unfold wo
  split <;> omega
theorem Wn.sg {M : Mem} {r n m : Nat} {G : Nat → Nat → Nat} (hG : Gd M r n m G) {S0 : Nat → Nat → Nat} {e o had : Nat} {S : Nat → Nat → Nat} (h : Wn S0 n m e o had S) {i : Nat} (hi : i < n) (ho : o < m) (hc : can G S i o = true) : Wn S0 n m e (o + 1) (had + wo G e i o) (sighed G S i o) := by
  have hnm := hG.nm
  obtain ⟨h1, h2, h3, h4, h5, h6, h7⟩ := h
  have hw := wo_le hG (e := e) hi ho
  have hg := bg_le _ (hG.s hi).1.2.2 _ (show G 4 o < 10 by have := (hG.o ho).2.2.2.2; omega)
  obtain ⟨t1, t2, t3⟩ := can_tk hc
  refine ⟨fun j hj => ?_, ?_, fun j q1 q2 => ?_, by omega, ?_, ?_, h7⟩
  · have := h1 j hj
    show (if j = i then S 0 i - tk (G 0 i) (G 3 o) else S 0 j) ≤ S0 0 j ∧ S0 0 j ≤ 9
    by_cases q : j = i
    · subst q; rw [if_pos rfl]; omega
    · rw [if_neg q]; exact this
  · show S 2 0 ||| 2 ^ o < 2 ^ m
    exact Nat.or_lt_two_pow h2 (Nat.pow_lt_pow_right (by decide) ho)
  · show (S 2 0 ||| 2 ^ o).testBit j = (S0 2 0).testBit j
    rw [Nat.testBit_or, Nat.testBit_two_pow, decide_eq_false (by omega), Bool.or_false]
    exact h3 j (by omega) q2
  · show (if e = 0 then pc (S 2 0 ||| 2 ^ o) = pc (S0 2 0) + (had + wo G e i o) else S 2 1 + bg (G 0 i) (G 4 o) = S0 2 1 + (had + wo G e i o))
    unfold wo
    by_cases q : e = 0
    · rw [if_pos q] at h5
      rw [if_pos q, if_pos q, (pcb _ (lt64 hnm.2.1 h2) o (by omega) t1).1]
      omega
    · rw [if_neg q] at h5
      rw [if_neg q, if_neg q]
      omega
  · show S 2 1 + bg (G 0 i) (G 4 o) ≤ S0 2 1 + 11 * (o + 1)
    omega
/-- the bound: no more than this can come of an order and those behind it -/
def tp (G S0 : Nat → Nat → Nat) (n e o : Nat) : Nat := iter (fun i t => if can G S0 i o = true then max t (wo G e i o) else t) 0 n 0
def bd (G S0 : Nat → Nat → Nat) (n e : Nat) : Nat → Nat → Nat
  | 0, _ => 0
  | k + 1, o => bd G S0 n e k (o + 1) + tp G S0 n e o
theorem tp_ge {G S0 : Nat → Nat → Nat} {n e o i : Nat} (hi : i < n) (hc : can G S0 i o = true) : wo G e i o ≤ tp G S0 n e o := by
  unfold tp
  have key := iter_ind (f := fun i t => if can G S0 i o = true then max t (wo G e i o) else t) (fun j t => i < j → wo G e i o ≤ t) n 0 0 (fun h => absurd h (by omega)) (fun j t _ _ hI hj => by
    by_cases q : i = j
    · subst q
      simp only [if_pos hc]
      exact Nat.le_max_right _ _
    · have := hI (by omega)
      by_cases c : can G S0 j o = true
      · simp only [if_pos c]; exact Nat.le_trans this (Nat.le_max_left _ _)
      · simp only [if_neg c]; exact this)
  exact key (by omega)
theorem tp_le {M : Mem} {r n m : Nat} {G : Nat → Nat → Nat} (h : Gd M r n m G) {S0 : Nat → Nat → Nat} {e o : Nat} (ho : o < m) : tp G S0 n e o ≤ 11 := by
  unfold tp
  exact iter_ind (f := fun i t => if can G S0 i o = true then max t (wo G e i o) else t) (fun j t => t ≤ 11) n 0 0 (Nat.zero_le _) (fun j t _ hj hI => by
    by_cases c : can G S0 j o = true
    · simp only [if_pos c]; exact Nat.max_le.mpr ⟨hI, wo_le h (by omega) ho⟩
    · simp only [if_neg c]; exact hI)
theorem can_less {G S S0 : Nat → Nat → Nat} {i o : Nat} (h1 : S 0 i ≤ S0 0 i) (h2 : (S 2 0).testBit o = (S0 2 0).testBit o) (hc : can G S i o = true) : can G S0 i o = true := by
  obtain ⟨t1, t2, t3⟩ := can_tk hc
  unfold can
  rw [← h2, t1, t2]
  simp
  omega
theorem Bv_bd {M : Mem} {r n m : Nat} {G : Nat → Nat → Nat} (hG : Gd M r n m G) {S0 : Nat → Nat → Nat} {e : Nat} : ∀ k o had S, o + k = m → Wn S0 n m e o had S → Bv G n e k o S ≤ bd G S0 n e k o := by
  intro k
  induction k with
  | zero => intro o had S _ _; exact Nat.le_refl _
  | succ k ih =>
    intro o had S ho hW
    show iter (fun i a => if can G S i o = true then max a (wo G e i o + Bv G n e k (o + 1) (sighed G S i o)) else a) 0 n (Bv G n e k (o + 1) S) ≤ bd G S0 n e k (o + 1) + tp G S0 n e o
    refine iter_ind (f := fun i a => if can G S i o = true then max a (wo G e i o + Bv G n e k (o + 1) (sighed G S i o)) else a) (fun _ a => a ≤ bd G S0 n e k (o + 1) + tp G S0 n e o) n 0 _ ?_ (fun i a _ hi hI => ?_)
    · have := ih (o + 1) had S (by omega) hW.no; omega
    · by_cases c : can G S i o = true
      · simp only [if_pos c]
        refine Nat.max_le.mpr ⟨hI, ?_⟩
        have h1 := ih (o + 1) _ _ (by omega) (hW.sg hG (show i < n by omega) (by omega) c)
        have h2 := tp_ge (G := G) (S0 := S0) (e := e) (show i < n by omega) (can_less (hW.1 i (by omega)).1 (hW.2.2.1 o (Nat.le_refl _) (by omega)) c)
        omega
      · simp only [if_neg c]; exact hI
theorem bd_le {M : Mem} {r n m : Nat} {G : Nat → Nat → Nat} (hG : Gd M r n m G) {S0 : Nat → Nat → Nat} {e : Nat} : ∀ k o, o + k = m → bd G S0 n e k o ≤ 11 * k := by
  intro k
  induction k with
  | zero => intro o _; exact Nat.zero_le _
  | succ k ih =>
    intro o ho
    have h1 := ih (o + 1) (by omega)
    have h2 := tp_le hG (S0 := S0) (e := e) (show o < m by omega)
    show bd G S0 n e k (o + 1) + tp G S0 n e o ≤ 11 * (k + 1)
    omega
