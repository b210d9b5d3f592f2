/-! ===== strike() ===== -/
def moI (G S : Nat → Nat → Nat) (m i a : Nat) : Nat := iter (fun o a => if can G S i o = true then max a (bg (G 0 i) (G 4 o)) else a) 0 m a
def mo (G : Nat → Nat → Nat) (n m : Nat) (S : Nat → Nat → Nat) : Nat := iter (moI G S m) 0 n 0
def set0 (S : Nat → Nat → Nat) (i : Nat) : Nat → Nat → Nat := fun a j => if a = 0 ∧ j = i then 0 else S a j
def lb (G : Nat → Nat → Nat) (n m : Nat) (S : Nat → Nat → Nat) : Nat := iter (fun i a => min a (mo G n m (set0 S i))) 0 n (mo G n m S)
theorem moI_le {G S : Nat → Nat → Nat} {m i a : Nat} (hG : G 0 i < 6) (hO : ∀ o, o < m → G 4 o ≤ 9) (ha : a ≤ 11) : moI G S m i a ≤ 11 :=
  iter_ind (f := fun o a => if can G S i o = true then max a (bg (G 0 i) (G 4 o)) else a) (fun _ a => a ≤ 11) m 0 a ha (fun o a _ ho hI => by
    by_cases c : can G S i o = true
    · rw [if_pos c]
      have := bg_le _ hG (G 4 o) (by have := hO o (by omega); omega)
      exact Nat.max_le.mpr ⟨hI, this⟩
    · rw [if_neg c]; exact hI)
theorem mo_le {M : Mem} {r n m : Nat} {G : Nat → Nat → Nat} (h : Gd M r n m G) (S : Nat → Nat → Nat) : mo G n m S ≤ 11 :=
  iter_ind (f := moI G S m) (fun _ a => a ≤ 11) n 0 0 (by decide) (fun i a _ hi hI => moI_le (h.s (by omega)).1.2.2 (fun o ho => (h.o ho).2.2.2.2) hI)
theorem sI_self {M : Mem} {x j : Nat} : sI M x j (mI M x j) = M := by
  rw [sI_sW]
  have : upd (mI M x) j (mI M x j) = mI M x := by
    funext i
    unfold upd
    by_cases h : i = j
    · rw [if_pos h, h]
    · rw [if_neg h]
  rw [this, sW_self]
/-- what is able only looks at this -/
def Wk (n : Nat) (S : Nat → Nat → Nat) : Prop := S 2 0 < 64 ∧ ∀ i, i < n → S 0 i ≤ 9
theorem gt1_X {M : Mem} {r n m : Nat} {G S : Nat → Nat → Nat} (h : Gd M r n m G) (hN : NwP n S (mI M 25) (mI M (25 + 1)) (mI M (25 + 2))) (hW : Wk n S) (dp : Nat) : f_X7_guildTurn (dp + 1) 1 1 M = some (nI (mo G n m S), M) := by
  have hnm := h.nm
  have hO : ∀ o, o < m → G 4 o ≤ 9 := fun o ho => (h.o ho).2.2.2.2
  have gold : ∀ i o, i < n → o < m → ∀ x2, f_X7_goldOfTurn (f_X7_guildTurn dp) 1 (nI i) (nI o) 1 x2 M = some (nI (bg (G 0 i) (G 4 o)), M) := by
    intro i o hi ho x2
    unfold f_X7_goldOfTurn
    simp only [KQ h.1, if_true, h.R, Option.bind_some, goF h hi ho, show ¬ (1 : Int32) < 1 by decide, if_false]
  have inner : ∀ (k : Nat → Int32 → Int32 → Int32 → Mem → Option (Int32 × Mem)) (i : Nat), i < n → ∀ a, a ≤ 11 → f_X7_guildTurn_34 (f_X7_guildTurn dp) k FU 1 1 (nI a) (nI i) 0 M = k 1 1 (nI (moI G S m i a)) (nI i + 1) M := by
    intro k i hi a ha
    have key := lp_up (F := fun fu o (a : Nat) => f_X7_guildTurn_34 (f_X7_guildTurn dp) k fu 1 1 (nI a) (nI i) (nI o) M) m (fun a => k 1 1 (nI a) (nI i + 1) M) (fun o a => if can G S i o = true then max a (bg (G 0 i) (G 4 o)) else a) (fun _ a => a ≤ 11)
      (fun fu a _ => by simp only [f_X7_guildTurn_34, h.R, h.sz, Option.bind_some]; rw [if_pos (Int32.le_refl _)])
      (fun fu o a ho hI => by
        have hb := bg_le _ (h.s hi).1.2.2 (G 4 o) (by have := hO o ho; omega)
        simp only [f_X7_guildTurn_34, h.R, h.sz, Option.bind_some, RQ h.1, able_X h (Or.inr rfl) hN hW.1 hi ho (hW.2 i hi), gold i o hi ho, nI_1]
        rw [if_neg (nI_ge ho (by omega))]
        by_cases c : can G S i o = true
        · simp only [c, if_true, show ¬ (1 : Int32) = 0 by decide, if_false]
          rw [mxI (by omega) (by omega)]
          exact ⟨rfl, Nat.max_le.mpr ⟨hI, hb⟩⟩
        · simp only [c, if_false, Bool.false_eq_true, if_true]
          exact ⟨trivial, hI⟩)
      m FU 0 a (by omega) (by unfold FU; omega) ha
    exact key.1
  have key := lp_up (F := fun fu i (a : Nat) => f_X7_guildTurn_20 (f_X7_guildTurn dp) fu 1 1 (nI a) (nI i) M) n (fun a => some (nI a, M)) (moI G S m) (fun _ a => a ≤ 11)
    (fun fu a _ => by simp only [f_X7_guildTurn_20, h.R, h.sz, Option.bind_some]; rw [if_pos (Int32.le_refl _)])
    (fun fu i a hi hI => by
      refine ⟨?_, moI_le (h.s hi).1.2.2 hO hI⟩
      simp only [f_X7_guildTurn_20, h.R, h.sz, Option.bind_some]
      rw [if_neg (nI_ge hi (by omega)), inner _ i hi a hI, nI_1])
    n FU 0 0 (by omega) (by unfold FU; omega) (by decide)
  show f_X7_guildTurn_b (f_X7_guildTurn dp) 1 1 M = _
  unfold f_X7_guildTurn_b f_X7_strikeTurn
  simp only [KQ h.1, if_true, show ¬ (1 : Int32) ≤ 0 by decide, if_false, show (1 : Int32) ≤ 2 by decide, show ¬ (1 : Int32) < 1 by decide, Option.bind_some]
  exact key.1
/-- how the strike's look goes: it stops at what is enough -/
def stq (G : Nat → Nat → Nat) (n m : Nat) (S : Nat → Nat → Nat) (en : Int) : Nat → Nat → Nat → Nat
  | 0, _, l => l
  | k + 1, j, l => if (l : Int) ≤ en then l else stq G n m S en k (j + 1) (min l (mo G n m (set0 S j)))
theorem full_le {h : Nat → Nat} : ∀ k j l, iter (fun i a => min a (h i)) j k l ≤ l := by
  intro k
  induction k with
  | zero => intro j l; exact Nat.le_refl _
  | succ k ih => intro j l; exact Nat.le_trans (ih (j + 1) (min l (h j))) (Nat.min_le_left _ _)
theorem stq_spec {G : Nat → Nat → Nat} {n m : Nat} {S : Nat → Nat → Nat} {en : Int} : ∀ k j l, (en < (iter (fun i a => min a (mo G n m (set0 S i))) j k l : Nat) → stq G n m S en k j l = iter (fun i a => min a (mo G n m (set0 S i))) j k l) ∧ (((iter (fun i a => min a (mo G n m (set0 S i))) j k l : Nat) : Int) ≤ en → (stq G n m S en k j l : Int) ≤ en) ∧ stq G n m S en k j l ≤ l := by
  intro k
  induction k with
  | zero => intro j l; exact ⟨fun _ => rfl, fun h => h, Nat.le_refl _⟩
  | succ k ih =>
    intro j l
    have e : iter (fun i a => min a (mo G n m (set0 S i))) j (k + 1) l = iter (fun i a => min a (mo G n m (set0 S i))) (j + 1) k (min l (mo G n m (set0 S j))) := rfl
    have hf := full_le (h := fun i => mo G n m (set0 S i)) (k + 1) j l
    rw [e] at hf ⊢
    obtain ⟨i1, i2, i3⟩ := ih (j + 1) (min l (mo G n m (set0 S j)))
    simp only [stq]
    by_cases c : (l : Int) ≤ en
    · rw [if_pos c]
      exact ⟨fun h => absurd h (by omega), fun _ => c, Nat.le_refl _⟩
    · rw [if_neg c]
      exact ⟨i1, i2, Nat.le_trans i3 (Nat.min_le_left _ _)⟩
theorem st2_k {M : Mem} {r n m : Nat} {G S : Nat → Nat → Nat} (h : Gd M r n m G) (hN : NwP n S (mI M 25) (mI M (25 + 1)) (mI M (25 + 2))) (hW : Wk n S) (dp : Nat) (x2 : Int32) : ∀ k fu j l, j + k = n → k < fu → l ≤ 11 → f_X7_strikeTurn_18 (f_X7_guildTurn (dp + 1)) fu 1 2 x2 (nI l) (nI j) M = some (nI (stq G n m S x2.toInt k j l), M) := by
  have hnm := h.nm
  intro k
  induction k with
  | zero =>
    intro fu j l hj hf hl
    obtain ⟨fu, rfl⟩ : ∃ f, fu = f + 1 := ⟨fu - 1, by omega⟩
    have hjn : j = n := by omega
    subst hjn
    simp only [f_X7_strikeTurn_18, h.R, h.sz, Option.bind_some, stq]
    rw [if_pos (Int32.le_refl _)]
  | succ k ih =>
    intro fu j l hj hf hl
    obtain ⟨fu, rfl⟩ : ∃ f, fu = f + 1 := ⟨fu - 1, by omega⟩
    have hjn : j < n := by omega
    have hle : (nI l ≤ x2) ↔ (l : Int) ≤ x2.toInt := by rw [Int32.le_iff_toInt_le, nI_toInt (by omega)]
    simp only [f_X7_strikeTurn_18, h.R, h.sz, Option.bind_some, stq, RQ h.1]
    rw [if_neg (nI_ge hjn (by omega))]
    by_cases c : (l : Int) ≤ x2.toInt
    · rw [if_pos (hle.mpr c), if_pos c]
    · rw [if_neg (fun q => c (hle.mp q)), if_neg c, aI_k (by simp only [KQ h.1]) (by simp only [LQ]; omega), Option.bind_some, eI_k (by simp only [KQ h.1]) (by simp only [LQ]; omega), Option.bind_some]
      have hS1 : SF (sI M 26 j 0) := h.1
      have hG1 : Gd (sI M 26 j 0) r n m G := h.congr hS1 rfl (fun x hx => mI_sI_row (by omega)) (by rw [mI_sI_row (by decide)]) (by rw [mI_sI_row (by decide)])
      have hN1 : NwP n (set0 S j) (mI (sI M 26 j 0) 25) (mI (sI M 26 j 0) (25 + 1)) (mI (sI M 26 j 0) (25 + 2)) := by
        refine ⟨?_, ?_, fun i hi => ⟨?_, ?_⟩⟩
        · rw [mI_sI_row (by decide)]; exact hN.1
        · rw [mI_sI_row (by decide)]; exact hN.2.1
        · rw [mI_sI]
          unfold set0
          by_cases hij : i = j
          · rw [if_pos ⟨rfl, hij⟩, if_pos ⟨rfl, hij⟩]; rfl
          · rw [if_neg (fun q => hij q.2), if_neg (fun q => hij q.2)]; exact (hN.2.2 i hi).1
        · rw [mI_sI_row (by decide)]; exact (hN.2.2 i hi).2
      have hW1 : Wk n (set0 S j) := ⟨hW.1, fun i hi => by
        unfold set0
        by_cases hij : i = j
        · rw [if_pos ⟨rfl, hij⟩]; exact Nat.zero_le _
        · rw [if_neg (fun q => hij q.2)]; exact hW.2 i hi⟩
      have hm := mo_le h (set0 S j)
      rw [show (2 : Int32) - 1 = 1 by decide, gt1_X hG1 hN1 hW1 dp]
      simp only [Option.bind_some, RQ hS1]
      rw [eI_k (by simp only [KQ hS1]) (by simp only [LQ]; omega), Option.bind_some, sI_sI, sI_self, mnI (by omega) (by omega), nI_1]
      exact ih fu (j + 1) _ (by omega) (by omega) (Nat.le_trans (Nat.min_le_left _ _) hl)
theorem st2_X {M : Mem} {r n m : Nat} {G S : Nat → Nat → Nat} (h : Gd M r n m G) (hN : NwP n S (mI M 25) (mI M (25 + 1)) (mI M (25 + 2))) (hW : Wk n S) (dp : Nat) (x2 : Int32) : f_X7_strikeTurn (f_X7_guildTurn (dp + 1)) 1 2 x2 M = some (nI (stq G n m S x2.toInt n 0 (mo G n m S)), M) := by
  have hnm := h.nm
  have h0 := mo_le h S
  have key2 := st2_k h hN hW dp x2 n FU 0 (mo G n m S) (by omega) (by unfold FU; omega) h0
  rw [nI_0] at key2
  unfold f_X7_strikeTurn
  rw [if_pos (by simp only [KQ h.1]), if_pos (show (1 : Int32) < 2 by decide), show (2 : Int32) - 1 = 1 by decide, gt1_X h hN hW dp, Option.bind_some]
  exact key2
theorem iter_nestM {σ : Type} {f : Nat → Nat → σ → σ} {m : Nat} (hm : 0 < m) : ∀ (n j : Nat) (s : σ), iter (fun k h => f (k / m) (k % m) h) (m * j) (m * n) s = iter (fun i h => iter (f i) 0 m h) j n s := by
  intro n
  induction n with
  | zero => intro j s; rfl
  | succ n ih =>
    intro j s
    rw [show m * (n + 1) = m + m * n by rw [Nat.mul_succ]; omega, iter_add, show m * j + m = m * (j + 1) by rw [Nat.mul_succ], ih]
    show _ = iter (fun i h => iter (f i) 0 m h) (j + 1) n (iter (f j) 0 m s)
    congr 1
    have sh : ∀ (k q : Nat) (s : σ), q + k ≤ m → iter (fun k h => f (k / m) (k % m) h) (m * j + q) k s = iter (f j) q k s := by
      intro k
      induction k with
      | zero => intro q s _; rfl
      | succ k ih2 =>
        intro q s hq
        show iter (fun k h => f (k / m) (k % m) h) (m * j + q + 1) k (f ((m * j + q) / m) ((m * j + q) % m) s) = iter (f j) (q + 1) k (f j q s)
        rw [Nat.mul_add_div hm, Nat.div_eq_of_lt (show q < m by omega), Nat.add_zero, Nat.mul_add_mod, Nat.mod_eq_of_lt (show q < m by omega)]
        exact ih2 (q + 1) _ (by omega)
    exact sh m 0 s (by omega)
