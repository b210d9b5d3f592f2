/-! ===== pairs(), choir(), loose() ===== -/
def tn (G : Nat → Nat → Nat) (t a b : Nat) : Bool := decide ((if G 1 a ≤ G 1 b then G 1 b - G 1 a else G 1 a - G 1 b) ≤ t)
theorem tn_comm {G : Nat → Nat → Nat} {t a b : Nat} : tn G t a b = tn G t b a := by
  unfold tn
  congr 2
  by_cases h : G 1 a ≤ G 1 b
  · rw [if_pos h]
    by_cases h2 : G 1 b ≤ G 1 a
    · rw [if_pos h2]; omega
    · rw [if_neg h2]
  · rw [if_neg h, if_pos (by omega)]
theorem tune_X {M : Mem} {r n m : Nat} {G : Nat → Nat → Nat} (h : Gd M r n m G) {a b t : Nat} (ha : a < n) (hb : b < n) (ht : t < 10) : f_X2_areInTune r (nI a) (nI b) (nI t) M = some (if tn G t a b = true then 1 else 0) := by
  have g1 := (h.s ha).2.1.2.2
  have g2 := (h.s hb).2.1.2.2
  have hv : (if G 1 a ≤ G 1 b then G 1 b - G 1 a else G 1 a - G 1 b) < 100 := by
    by_cases q : G 1 a ≤ G 1 b
    · rw [if_pos q]; omega
    · rw [if_neg q]; omega
  unfold f_X2_areInTune tn
  simp only [rollF h.1 h.2.1, if_true, hasS_ok h ha, hasS_ok h hb, Option.bind_some, show ¬ (1 : Int32) = 0 by decide, if_false, (ctab h).1 a ha, (ctab h).1 b hb, apx _ (show G 1 a < 10 by omega) _ (show G 1 b < 10 by omega), decide_eq_true_eq]
  generalize (if G 1 a ≤ G 1 b then G 1 b - G 1 a else G 1 a - G 1 b) = v at hv
  by_cases hc : v ≤ t
  · rw [if_neg (nI_nlt hc (by omega)), if_pos hc]
  · rw [if_pos (nI_lt (by omega) (by omega)), if_neg hc]
theorem tune_Y {M : Mem} {r n m : Nat} {G : Nat → Nat → Nat} (h : Gd M r n m G) {a b t : Nat} (ha : a < n) (hb : b < n) (ht : t < 10) : f_X8_areInTune 65 (nI a) (nI b) (nI t) M = some (if tn G t a b = true then 1 else 0) := by
  have g1 := (h.s ha).2.1.2.2
  have g2 := (h.s hb).2.1.2.2
  have hv : (if G 1 a ≤ G 1 b then G 1 b - G 1 a else G 1 a - G 1 b) < 100 := by
    by_cases q : G 1 a ≤ G 1 b
    · rw [if_pos q]; omega
    · rw [if_neg q]; omega
  unfold f_X8_areInTune tn
  simp only [KQ h.1, RQ h.1, if_true, Option.bind_some, (mtab h).1 a ha, (mtab h).1 b hb, apy _ (show G 1 a < 10 by omega) _ (show G 1 b < 10 by omega), decide_eq_true_eq]
  generalize (if G 1 a ≤ G 1 b then G 1 b - G 1 a else G 1 a - G 1 b) = v at hv
  by_cases hc : v ≤ t
  · rw [if_neg (nI_nlt hc (by omega)), if_pos hc]
  · rw [if_pos (nI_lt (by omega) (by omega)), if_neg hc]
def prS (G : Nat → Nat → Nat) (t i j : Nat) (a : Int32 × Int32) : Int32 × Int32 := if tn G t i j = true then (a.1 + 1, if a.1 = 0 then nI (5 * i + j) else a.2) else a
def prI (G : Nat → Nat → Nat) (n t i : Nat) (a : Int32 × Int32) : Int32 × Int32 := iter (fun j a => prS G t i j a) (i + 1) (n - (i + 1)) a
theorem m5 (i j : Nat) : (5 : Int32) * nI i + nI j = nI (5 * i + j) := by rw [show (5 : Int32) = nI 5 from rfl, pk_mul, nI_add]
theorem pairs_X {M : Mem} {r n m : Nat} {G : Nat → Nat → Nat} (h : Gd M r n m G) {t : Nat} (ht : t < 10) : f_X7_pairs_20 FU 1 (nI t) 0 (-9) 0 M = some ((iter (prI G n t) 0 n (0, -9)).1, sI M 1 10 (iter (prI G n t) 0 n (0, -9)).2) := by
  have hnm := h.nm
  have inner : ∀ (k : Nat → Int32 → Int32 → Int32 → Int32 → Mem → Option (Int32 × Mem)) (i : Nat), i < n → ∀ a : Int32 × Int32, f_X7_pairs_38 k FU 1 (nI t) a.1 a.2 (nI i) (nI (i + 1)) M = k 1 (nI t) (prI G n t i a).1 (prI G n t i a).2 (nI i + 1) M := by
    intro k i hi a
    have key := lp_up (F := fun fu j (a : Int32 × Int32) => f_X7_pairs_38 k fu 1 (nI t) a.1 a.2 (nI i) (nI j) M) n (fun a => k 1 (nI t) a.1 a.2 (nI i + 1) M) (fun j a => prS G t i j a) (fun _ _ => True)
      (fun fu a _ => by simp only [f_X7_pairs_38, h.R, h.sz, Option.bind_some]; rw [if_pos (Int32.le_refl _)])
      (fun fu j a hj _ => by
        refine ⟨?_, trivial⟩
        simp only [f_X7_pairs_38, h.R, h.sz, Option.bind_some, tune_X h hi hj ht, m5, nI_1]
        rw [if_neg (nI_ge hj (by omega))]
        unfold prS
        by_cases hc : tn G t i j = true
        · simp only [hc, if_true, show ¬ (1 : Int32) = 0 by decide, if_false]
          by_cases h0 : a.1 = 0
          · rw [if_pos h0, if_pos h0]
          · rw [if_neg h0, if_neg h0]
        · simp only [hc, if_false, Bool.false_eq_true, if_true])
      (n - (i + 1)) FU (i + 1) a (by omega) (by unfold FU; omega) trivial
    exact key.1
  have key := lp_up (F := fun fu i (a : Int32 × Int32) => f_X7_pairs_20 fu 1 (nI t) a.1 a.2 (nI i) M) n (fun a => some (a.1, sI M 1 10 a.2)) (prI G n t) (fun _ _ => True)
    (fun fu a _ => by simp only [f_X7_pairs_20, h.R, h.sz, Option.bind_some]; rw [if_pos (Int32.le_refl _), pI_k (by simp only [KQ h.1]), Option.bind_some])
    (fun fu i a hi _ => by
      refine ⟨?_, trivial⟩
      simp only [f_X7_pairs_20, h.R, h.sz, Option.bind_some, nI_1]
      rw [if_neg (nI_ge hi (by omega)), inner _ i hi a, nI_1])
    n FU 0 (0, -9) (by omega) (by unfold FU; omega) trivial
  exact key.1
theorem sI_sI {M : Mem} {x j : Nat} {a b : Int32} : sI (sI M x j a) x j b = sI M x j b := by
  rw [sI_sW, sI_sW, sI_sW, sW_sW, mI_eq]
  congr 1
  funext i
  unfold upd
  by_cases h : i = j
  · rw [if_pos h, if_pos h]
  · rw [if_neg h, if_neg h, if_neg h]
theorem pairs_Y {M : Mem} {r n m : Nat} {G : Nat → Nat → Nat} (h : ∀ v, Gd (sI M 65 12 v) r n m G) {t : Nat} (ht : t < 10) : f_X8_pairs_24 FU 65 (nI t) 0 0 (sI M 65 12 (-9)) = some ((iter (prI G n t) 0 n (0, -9)).1, sI M 65 12 (iter (prI G n t) 0 n (0, -9)).2) := by
  have hnm := (h 0).nm
  have inner : ∀ (k : Nat → Int32 → Int32 → Int32 → Mem → Option (Int32 × Mem)) (i : Nat), i < n → ∀ a : Int32 × Int32, f_X8_pairs_37 k FU 65 (nI t) a.1 (nI i) (nI (i + 1)) (sI M 65 12 a.2) = k 65 (nI t) (prI G n t i a).1 (nI i + 1) (sI M 65 12 (prI G n t i a).2) := by
    intro k i hi a
    have key := lp_up (F := fun fu j (a : Int32 × Int32) => f_X8_pairs_37 k fu 65 (nI t) a.1 (nI i) (nI j) (sI M 65 12 a.2)) n (fun a => k 65 (nI t) a.1 (nI i + 1) (sI M 65 12 a.2)) (fun j a => prS G t i j a) (fun _ _ => True)
      (fun fu a _ => by simp only [f_X8_pairs_37, (h a.2).sz, Option.bind_some]; rw [if_pos (Int32.le_refl _)])
      (fun fu j a hj _ => by
        refine ⟨?_, trivial⟩
        have hk : kd (sI M 65 12 a.2) 65 = 18 := by simp only [KQ (h a.2).1]
        have e12 : mI (sI M 65 12 a.2) 65 12 = a.2 := by rw [mI_sI, if_pos ⟨rfl, rfl⟩]
        simp only [f_X8_pairs_37, f_X8_pairs_71, f_X8_pairs_75, (h a.2).sz, Option.bind_some, tune_Y (h a.2) hi hj ht, m5, nI_1, gI_k hk, pI_k hk, sI_sI, e12, tune_Y (h (nI (5 * i + j))) hi hj ht, Int32.add_zero]
        rw [if_neg (nI_ge hj (by omega))]
        unfold prS
        by_cases hc : tn G t i j = true
        · simp only [hc, if_true, show ¬ (1 : Int32) = 0 by decide, if_false]
          by_cases h0 : a.1 = 0
          · rw [if_pos h0, if_pos h0]
          · rw [if_neg h0, if_neg h0]
        · simp only [hc, if_false, Bool.false_eq_true, if_true])
      (n - (i + 1)) FU (i + 1) a (by omega) (by unfold FU; omega) trivial
    exact key.1
  have key := lp_up (F := fun fu i (a : Int32 × Int32) => f_X8_pairs_24 fu 65 (nI t) a.1 (nI i) (sI M 65 12 a.2)) n (fun a => some (a.1, sI M 65 12 a.2)) (prI G n t) (fun _ _ => True)
    (fun fu a _ => by simp only [f_X8_pairs_24, (h a.2).sz, Option.bind_some]; rw [if_pos (Int32.le_refl _)])
    (fun fu i a hi _ => by
      refine ⟨?_, trivial⟩
      simp only [f_X8_pairs_24, (h a.2).sz, Option.bind_some, nI_1]
      rw [if_neg (nI_ge hi (by omega)), inner _ i hi a, nI_1])
    n FU 0 (0, -9) (by omega) (by unfold FU; omega) trivial
  exact key.1
theorem Gd.tell {M : Mem} {r n m : Nat} {G : Nat → Nat → Nat} (h : Gd M r n m G) (v : Int32) : Gd (sI M 1 10 v) r n m G := h.congr h.1 rfl (fun x hx => mI_sI_row (by omega)) (by rw [mI_sI_row (by decide)]) (by rw [mI_sI_row (by decide)])
theorem Gd.tellY {M : Mem} {r n m : Nat} {G : Nat → Nat → Nat} (h : Gd M r n m G) (v : Int32) : Gd (sI M 65 12 v) r n m G := h.congr h.1 rfl (fun x hx => mI_sI_row (by omega)) (by rw [mI_sI, if_neg (by decide)]) (by rw [mI_sI, if_neg (by decide)])
theorem op27 {M : Mem} (h : Inv M) (a1 : Int32) : ∃ M', lawOp_27 a1 M = some M' ∧ Inv M' := by
  have hS := h.1
  obtain ⟨r, s, n, m, G, d, cd, -, -, hG, hN, hP, hB, -⟩ := h.op
  unfold lawOp_27 f_X7_pairs f_X8_pairs
  simp only [KQ hS, if_true]
  rcases ixc a1 10 (by omega) with h2 | ⟨t, ht, rfl⟩
  · have e0 : f_X8_in (Int32.toInt64 a1) 0 9 = 0 := in_bad (n := 10) (by decide) rfl h2
    by_cases q : a1 < 0
    · simp only [if_pos q, e0, if_true, Option.bind_some, KQ hS]
      exact ⟨M, rfl, h⟩
    · have q5 : ¬ a1 ≤ 9 := by
        have := h2.resolve_left q
        rw [Int32.le_iff_toInt_le, nI_toInt (by omega)] at this
        rw [Int32.le_iff_toInt_le, show (9 : Int32).toInt = 9 from rfl]
        omega
      simp only [if_neg q, if_neg q5, e0, if_true, Option.bind_some, KQ hS]
      exact ⟨M, rfl, h⟩
  · have e1 : f_X8_in (Int32.toInt64 (nI t)) 0 9 = 1 := in_ok (n := 10) (by decide) rfl ht
    obtain ⟨v, hv⟩ : ∃ v, iter (prI G n t) 0 n (0, -9) = v := ⟨_, rfl⟩
    have px := pairs_X hG ht
    have py := pairs_Y (M := sI M 1 10 v.2) (fun w => (hG.tell v.2).tellY w) ht
    rw [hv] at px py
    have hS1 : SF (sI M 1 10 v.2) := hS
    simp only [if_neg (nI_pos (show t < 2 ^ 31 by omega)), if_pos (show nI t ≤ 9 from nI_le (b := 9) (by omega) (by decide)), px, Option.bind_some, e1, show ¬ (1 : Int32) = 0 by decide, if_false, KQ hS1, if_true, pI_k, py]
    exact ⟨_, rfl, h.told _⟩
-- choir()
def allB (f : Nat → Bool) : Nat → Nat → Bool
  | _, 0 => true
  | j, k + 1 => f j && allB f (j + 1) k
theorem allB_iff {f : Nat → Bool} : ∀ k j, allB f j k = true ↔ ∀ b, j ≤ b → b < j + k → f b = true := by
  intro k
  induction k with
  | zero => intro j; exact ⟨fun _ b h1 h2 => absurd h2 (by omega), fun _ => rfl⟩
  | succ k ih =>
    intro j
    simp only [allB, Bool.and_eq_true, ih]
    refine ⟨fun h b h1 h2 => ?_, fun h => ⟨h j (by omega) (by omega), fun b h1 h2 => h b (by omega) (by omega)⟩⟩
    by_cases hb : b = j
    · rw [hb]; exact h.1
    · exact h.2 b (by omega) (by omega)
def chc (G : Nat → Nat → Nat) (s t a b : Nat) : Bool := !s.testBit a || !s.testBit b || tn G t a b
theorem chc_comm {G : Nat → Nat → Nat} {s t a b : Nat} : chc G s t a b = chc G s t b a := by
  unfold chc
  rw [tn_comm, Bool.or_comm (!s.testBit a)]
def chX (G : Nat → Nat → Nat) (n s t : Nat) : Bool := allB (fun i => allB (chc G s t i) (i + 1) (n - (i + 1))) 0 n
def chY (G : Nat → Nat → Nat) (n s t : Nat) : Bool := allB (fun i => allB (chc G s t i) 0 i) 0 n
theorem ch_eq {G : Nat → Nat → Nat} {n s t : Nat} : chX G n s t = chY G n s t := by
  have h : chX G n s t = true ↔ chY G n s t = true := by
    unfold chX chY
    simp only [allB_iff]
    refine ⟨fun h i _ hi b _ hb => ?_, fun h i _ hi b h1 hb => ?_⟩
    · rw [chc_comm]
      exact h b (by omega) (by omega) i (by omega) (by omega)
    · rw [chc_comm]
      exact h b (by omega) (by omega) i (by omega) (by omega)
  cases h1 : chX G n s t with
  | true => exact (h.mp h1).symm
  | false =>
    cases h2 : chY G n s t with
    | true => rw [h.mpr h2] at h1; exact h1.symm
    | false => rfl
theorem isChoir_X {M : Mem} {r n m : Nat} {G : Nat → Nat → Nat} (h : Gd M r n m G) {s t : Nat} (hs : s < 64) (ht : t < 10) : f_X2_isChoir r (nI s) (nI t) M = some (if chX G n s t = true then 1 else 0) := by
  have hnm := h.nm
  have inner : ∀ (k : Nat → Int32 → Int32 → Int32 → Mem → Option Int32) (i : Nat), i < n → ∀ q fu j, j + q = n → q < fu → f_X2_isChoir_15 k fu r (nI s) (nI t) (nI i) (nI j) M = if allB (chc G s t i) j q = true then k r (nI s) (nI t) (nI i + 1) M else some 0 := by
    intro k i hi q
    induction q with
    | zero =>
      intro fu j hj hf
      obtain ⟨fu, rfl⟩ : ∃ f, fu = f + 1 := ⟨fu - 1, by omega⟩
      have hjn : j = n := by omega
      subst hjn
      simp only [f_X2_isChoir_15, h.sz, Option.bind_some, allB, if_true]
      rw [if_pos (Int32.le_refl _)]
    | succ q ih =>
      intro fu j hj hf
      obtain ⟨fu, rfl⟩ : ∃ f, fu = f + 1 := ⟨fu - 1, by omega⟩
      have hjn : j < n := by omega
      simp only [f_X2_isChoir_15, h.sz, Option.bind_some, allB, hs1 s hs i (show i < 6 by omega), hs1 s hs j (show j < 6 by omega), tune_X h hi hjn ht, nI_1]
      rw [if_neg (nI_ge hjn (by omega)), ih fu (j + 1) (by omega) (by omega), nI_1]
      unfold chc
      by_cases c1 : s.testBit i = true
      · by_cases c2 : s.testBit j = true
        · by_cases c3 : tn G t i j = true
          · simp [c1, c2, c3]
          · simp [c1, c2, c3]
        · simp [c1, c2]
      · simp [c1]
  have outer : ∀ q fu i, i + q = n → q < fu → f_X2_isChoir_2 fu r (nI s) (nI t) (nI i) M = some (if allB (fun i => allB (chc G s t i) (i + 1) (n - (i + 1))) i q = true then 1 else 0) := by
    intro q
    induction q with
    | zero =>
      intro fu j hj hf
      obtain ⟨fu, rfl⟩ : ∃ f, fu = f + 1 := ⟨fu - 1, by omega⟩
      have hjn : j = n := by omega
      subst hjn
      simp only [f_X2_isChoir_2, h.sz, Option.bind_some, allB, if_true]
      rw [if_pos (Int32.le_refl _)]
    | succ q ih =>
      intro fu j hj hf
      obtain ⟨fu, rfl⟩ : ∃ f, fu = f + 1 := ⟨fu - 1, by omega⟩
      have hjn : j < n := by omega
      simp only [f_X2_isChoir_2, h.sz, Option.bind_some, allB, nI_1]
      rw [if_neg (nI_ge hjn (by omega)), inner _ j hjn (n - (j + 1)) FU (j + 1) (by omega) (by unfold FU; omega), nI_1, ih fu (j + 1) (by omega) (by omega)]
      by_cases c1 : allB (chc G s t j) (j + 1) (n - (j + 1)) = true
      · simp [c1]
      · simp [c1]
  unfold f_X2_isChoir
  simp only [rollF h.1 h.2.1, if_true]
  exact outer n FU 0 (by omega) (by unfold FU; omega)
theorem isChoir_Y {M : Mem} {r n m : Nat} {G : Nat → Nat → Nat} (h : Gd M r n m G) {s t : Nat} (hs : s < 64) (ht : t < 10) : f_X8_isChoir 65 (nI s) (nI t) M = some (if chY G n s t = true then 1 else 0) := by
  have hnm := h.nm
  have inner : ∀ (k : Nat → Int32 → Int32 → Int32 → Int32 → Mem → Option Int32) (i : Nat), i < n → ∀ q fu j (B : Bool), j + q = i → q < fu → f_X8_isChoir_17 k fu 65 (nI s) (nI t) (if B = true then 1 else 0) (nI i) (nI j) M = k 65 (nI s) (nI t) (if (B && allB (chc G s t i) j q) = true then 1 else 0) (nI i + 1) M := by
    intro k i hi q
    induction q with
    | zero =>
      intro fu j B hj hf
      obtain ⟨fu, rfl⟩ : ∃ f, fu = f + 1 := ⟨fu - 1, by omega⟩
      have hjn : j = i := by omega
      subst hjn
      simp only [f_X8_isChoir_17, allB, Bool.and_true]
      rw [if_pos (Int32.le_refl _)]
    | succ q ih =>
      intro fu j B hj hf
      obtain ⟨fu, rfl⟩ : ∃ f, fu = f + 1 := ⟨fu - 1, by omega⟩
      have hjn : j < i := by omega
      have i1 := ih fu (j + 1) true (by omega) (by omega)
      have i0 := ih fu (j + 1) false (by omega) (by omega)
      simp only [if_true, Bool.true_and] at i1
      simp only [if_false, Bool.false_eq_true, Bool.false_and] at i0
      simp only [f_X8_isChoir_17, allB, hs2 s hs i (show i < 6 by omega), hs2 s hs j (show j < 6 by omega), tune_Y h hi (show j < n by omega) ht, Option.bind_some, nI_1, i1, i0]
      rw [if_neg (nI_ge hjn (by omega))]
      unfold chc
      cases B with
      | false => simp
      | true =>
        by_cases c1 : s.testBit i = true
        · by_cases c2 : s.testBit j = true
          · by_cases c3 : tn G t i j = true
            · simp [c1, c2, c3]
            · simp [c1, c2, c3]
          · simp [c1, c2]
        · simp [c1]
  have outer : ∀ q fu i (B : Bool), i + q = n → q < fu → f_X8_isChoir_5 fu 65 (nI s) (nI t) (if B = true then 1 else 0) (nI i) M = some (if (B && allB (fun i => allB (chc G s t i) 0 i) i q) = true then 1 else 0) := by
    intro q
    induction q with
    | zero =>
      intro fu j B hj hf
      obtain ⟨fu, rfl⟩ : ∃ f, fu = f + 1 := ⟨fu - 1, by omega⟩
      have hjn : j = n := by omega
      subst hjn
      simp only [f_X8_isChoir_5, h.sz, Option.bind_some, allB, Bool.and_true]
      rw [if_pos (Int32.le_refl _), bz_ite]
      rfl
    | succ q ih =>
      intro fu j B hj hf
      obtain ⟨fu, rfl⟩ : ∃ f, fu = f + 1 := ⟨fu - 1, by omega⟩
      have hjn : j < n := by omega
      simp only [f_X8_isChoir_5, h.sz, Option.bind_some, allB]
      rw [if_neg (nI_ge hjn (by omega)), show f_X8_isChoir_17 (f_X8_isChoir_5 fu) FU 65 (nI s) (nI t) (if B = true then 1 else 0) (nI j) 0 M = _ from inner _ j hjn j FU 0 B (by omega) (by unfold FU; omega), nI_1, ih fu (j + 1) _ (by omega) (by omega)]
      cases B with
      | false => simp
      | true =>
        by_cases c1 : allB (chc G s t j) 0 j = true
        · simp [c1]
        · simp [c1]
  unfold f_X8_isChoir
  simp only [KQ h.1, if_true]
  have := outer n FU 0 true (by omega) (by unfold FU; omega)
  rw [Bool.true_and] at this
  exact this
def chS (G : Nat → Nat → Nat) (n t s b : Nat) : Nat := if pc s ≤ pc b then b else if chY G n s t = true then s else b
theorem pc_lt (s : Nat) : pc s < 10 := by unfold pc; omega
theorem op28 {M : Mem} (h : Inv M) (a1 : Int32) : ∃ M', lawOp_28 a1 M = some M' ∧ Inv M' := by
  have hS := h.1
  obtain ⟨r, s, n, m, G, d, cd, -, -, hG, hN, hP, hB, -⟩ := h.op
  have hnm := hG.nm
  have hp2 : 2 ^ n ≤ 2 ^ 5 := Nat.pow_le_pow_right (by decide) hnm.1
  have hp0 : 0 < 2 ^ n := Nat.two_pow_pos n
  unfold lawOp_28 f_X7_choir f_X8_choir
  simp only [KQ hS, if_true]
  rcases ixc a1 10 (by omega) with h2 | ⟨t, ht, rfl⟩
  · have e0 : f_X8_in (Int32.toInt64 a1) 0 9 = 0 := in_bad (n := 10) (by decide) rfl h2
    by_cases q : a1 < 0
    · simp only [if_pos q, e0, if_true, Option.bind_some, KQ hS]
      exact ⟨M, rfl, h⟩
    · have q5 : ¬ a1 ≤ 9 := by
        have := h2.resolve_left q
        rw [Int32.le_iff_toInt_le, nI_toInt (by omega)] at this
        rw [Int32.le_iff_toInt_le, show (9 : Int32).toInt = 9 from rfl]
        omega
      simp only [if_neg q, if_neg q5, e0, if_true, Option.bind_some, KQ hS]
      exact ⟨M, rfl, h⟩
  · have e1 : f_X8_in (Int32.toInt64 (nI t)) 0 9 = 1 := in_ok (n := 10) (by decide) rfl ht
    simp only [if_neg (nI_pos (show t < 2 ^ 31 by omega)), if_pos (show nI t ≤ 9 from nI_le (b := 9) (by omega) (by decide)), hG.R, hG.sz, Option.bind_some]
    by_cases h0 : n = 0
    · subst h0
      rw [if_pos (show nI 0 = 0 from rfl)]
      simp only [Option.bind_some, KQ hS, if_true, e1, show ¬ (1 : Int32) = 0 by decide, if_false, hG.sz]
      rw [if_pos (show nI 0 = 0 from rfl)]
      exact ⟨M, rfl, h⟩
    · have kx := lp_up (F := fun fu j (b : Nat) => f_X7_choir_29 fu 1 (nI t) (nI b) (nI j) M) (2 ^ n) (fun b => some (nI (pc b), sI M 1 10 (nI b))) (chS G n t) (fun j b => b < 64)
        (fun fu b hI => by
          simp only [f_X7_choir_29, hG.R, hG.sz, Option.bind_some, sh1 n (show n < 10 by omega)]
          rw [if_pos (Int32.le_refl _), pI_k (by simp only [KQ hS]), Option.bind_some, pcX b hI])
        (fun fu j b hj hI => by
          have hj6 : j < 64 := by omega
          have l1 := pc_lt j
          have l2 := pc_lt b
          simp only [f_X7_choir_29, hG.R, hG.sz, Option.bind_some, sh1 n (show n < 10 by omega), pcX j hj6, pcX b hI, isChoir_X hG hj6 ht, ch_eq, nI_1]
          rw [if_neg (nI_ge hj (by omega))]
          unfold chS
          by_cases c1 : pc j ≤ pc b
          · rw [if_pos (nI_le c1 (by omega)), if_pos c1]; exact ⟨rfl, hI⟩
          · rw [if_neg (nI_ge (by omega) (by omega)), if_neg c1]
            by_cases c2 : chY G n j t = true
            · simp only [c2, if_true, show ¬ (1 : Int32) = 0 by decide, if_false]; exact ⟨trivial, hj6⟩
            · simp only [c2, if_false, Bool.false_eq_true, if_true]; exact ⟨trivial, hI⟩)
        (2 ^ n - 1) FU 1 0 (by omega) (by unfold FU; omega) (by decide)
      obtain ⟨b, hb⟩ : ∃ b, iter (chS G n t) 1 (2 ^ n - 1) 0 = b := ⟨_, rfl⟩
      rw [hb] at kx
      have hG1 := hG.tell (nI b)
      have ky := lp_up (F := fun fu j (b : Nat) => f_X8_choir_28 fu 65 (nI t) (nI b) (nI j) (sI M 1 10 (nI (iter (chS G n t) 1 (2 ^ n - 1) 0)))) (2 ^ n) (fun b => some (nI (pc b), sI (sI M 1 10 (nI (iter (chS G n t) 1 (2 ^ n - 1) 0))) 65 12 (nI b))) (chS G n t) (fun j b => b < 64)
        (fun fu c hI => by
          simp only [hb, f_X8_choir_28, hG1.sz, Option.bind_some, sh1 n (show n < 10 by omega)]
          rw [if_pos (Int32.le_refl _), pI_k (by simp only [KQ hG1.1]), Option.bind_some, pcY c hI, Option.bind_some])
        (fun fu j c hj hI => by
          have hj6 : j < 64 := by omega
          have l1 := pc_lt j
          have l2 := pc_lt c
          simp only [hb, f_X8_choir_28, hG1.sz, Option.bind_some, sh1 n (show n < 10 by omega), pcY j hj6, pcY c hI, isChoir_Y hG1 hj6 ht, nI_1]
          rw [if_neg (nI_ge hj (by omega))]
          unfold chS
          by_cases c1 : pc j ≤ pc c
          · rw [if_pos (nI_le c1 (by omega)), if_pos c1]; exact ⟨rfl, hI⟩
          · rw [if_neg (nI_ge (by omega) (by omega)), if_neg c1]
            by_cases c2 : chY G n j t = true
            · simp only [c2, if_true, show ¬ (1 : Int32) = 0 by decide, if_false]; exact ⟨trivial, hj6⟩
            · simp only [c2, if_false, Bool.false_eq_true, if_true]; exact ⟨trivial, hI⟩)
        (2 ^ n - 1) FU 1 0 (by omega) (by unfold FU; omega) (by decide)
      rw [hb] at ky
      simp only [if_neg (n0 h0 (show n < 2 ^ 31 by omega)), show f_X7_choir_29 FU 1 (nI t) 0 1 M = _ from kx.1, Option.bind_some, KQ hG1.1, if_true, e1, show ¬ (1 : Int32) = 0 by decide, if_false, hG1.sz, show f_X8_choir_28 FU 65 (nI t) 0 1 (sI M 1 10 (nI b)) = _ from ky.1]
      exact ⟨_, rfl, h.told _⟩
-- loose()
theorem iter_or {c : Nat → Prop} [DecidablePred c] {v : Nat → Int32} : ∀ (k j : Nat) (x y : Int32), iter (fun o a => if c o then a ||| v o else a) j k (x ||| y) = x ||| iter (fun o a => if c o then a ||| v o else a) j k y := by
  intro k
  induction k with
  | zero => intro j x y; rfl
  | succ k ih =>
    intro j x y
    show iter (fun o a => if c o then a ||| v o else a) (j + 1) k (if c j then x ||| y ||| v j else x ||| y) = x ||| iter (fun o a => if c o then a ||| v o else a) (j + 1) k (if c j then y ||| v j else y)
    by_cases h : c j
    · rw [if_pos h, if_pos h, Int32.or_assoc, ih]
    · rw [if_neg h, if_neg h, ih]
def oAt (G : Nat → Nat → Nat) (m p : Nat) (a : Int32) : Int32 := iter (fun o a => if G 2 o = p then a ||| nI (2 ^ o) else a) 0 m a
theorem ordersAt_X {M : Mem} {r n m : Nat} {G : Nat → Nat → Nat} (h : Gd M r n m G) {p : Nat} (hp : p < 10) : f_X2_ordersAt r (nI p) M = some (oAt G m p 0) := by
  have hnm := h.nm
  unfold f_X2_ordersAt
  simp only [rollF h.1 h.2.1, if_true]
  have key := lp_up (F := fun fu j (a : Int32) => f_X2_ordersAt_4 fu r (nI p) a (nI j) M) m (fun a => some a) (fun o a => if G 2 o = p then a ||| nI (2 ^ o) else a) (fun _ _ => True)
    (fun fu a _ => by simp only [f_X2_ordersAt_4, h.sz, Option.bind_some]; rw [if_pos (Int32.le_refl _)])
    (fun fu j a hj _ => by
      refine ⟨?_, trivial⟩
      have hh := (h.o hj).1.2.2
      simp only [f_X2_ordersAt_4, h.sz, Option.bind_some, rollF h.1 h.2.1, (ctab h).2 j hj, sh1 j (show j < 10 by omega), nI_1]
      rw [if_neg (nI_ge hj (by omega))]
      by_cases c : G 2 j = p
      · rw [if_pos (by rw [c]), if_pos c]
      · rw [if_neg (fun q => c ((nI_eq (by omega) (by omega)).mp q)), if_neg c])
    m FU 0 0 (by omega) (by unfold FU; omega) trivial
  exact key.1
theorem loose_X {M : Mem} {r n m : Nat} {G : Nat → Nat → Nat} (h : Gd M r n m G) {p dp c : Nat} (hp : p < 10) (hd : dp < 10) (hc : c ≤ 20) : ∀ k fu j a, j + k = min (c + 1) dp → k < fu → f_X7_loose_36 fu 1 (nI p) (nI dp) (nI c) a (nI j) M = some (iter (fun j a => oAt G m ((p + j) % 10) a) j k a) := by
  intro k
  induction k with
  | zero =>
    intro fu j a hj hf
    obtain ⟨fu, rfl⟩ : ∃ f, fu = f + 1 := ⟨fu - 1, by omega⟩
    simp only [f_X7_loose_36]
    by_cases c1 : c < j
    · rw [if_pos (nI_lt c1 (by omega))]; rfl
    · rw [if_neg (nI_nlt (by omega) (by omega)), if_pos (nI_le (by omega) (by omega))]; rfl
  | succ k ih =>
    intro fu j a hj hf
    obtain ⟨fu, rfl⟩ : ∃ f, fu = f + 1 := ⟨fu - 1, by omega⟩
    simp only [f_X7_loose_36, nI_add, nI_1]
    rw [if_neg (nI_nlt (by omega) (by omega)), if_neg (nI_ge (by omega) (by omega)), h.R, Option.bind_some, show nI (p + j) - nI (p + j) / 10 * 10 = nI ((p + j) % 10) from pk_rem (d := 10) (by omega) (by decide) (by decide), ordersAt_X h (by omega), Option.bind_some, ih fu (j + 1) _ (by omega) (by omega)]
    show _ = some (iter (fun j a => oAt G m ((p + j) % 10) a) (j + 1) k (oAt G m ((p + j) % 10) a))
    congr 2
    unfold oAt
    rw [← iter_or, Int32.or_zero]
theorem loose_Y {M : Mem} {r n m : Nat} {G : Nat → Nat → Nat} (h : Gd M r n m G) {p dp c : Nat} (hp : p < 10) (hd : dp < 10) (hc : c ≤ 20) : ∀ k fu j a, j + k = min (c + 1) dp → k < fu → f_X8_loose_44 fu 65 (nI p) (nI dp) (nI c) a (nI j) M = some (iter (fun j a => oAt G m ((p + j) % 10) a) j k a) := by
  have hnm := h.nm
  have inner : ∀ (k : Nat → Int32 → Int32 → Int32 → Int32 → Int32 → Mem → Option Int32) (j : Nat), j < 100 → ∀ a, f_X8_loose_59 k FU 65 (nI p) (nI dp) (nI c) a (nI j) 0 M = k 65 (nI p) (nI dp) (nI c) (oAt G m ((p + j) % 10) a) (nI j + 1) M := by
    intro k j hj a
    have key := lp_up (F := fun fu o (a : Int32) => f_X8_loose_59 k fu 65 (nI p) (nI dp) (nI c) a (nI j) (nI o) M) m (fun a => k 65 (nI p) (nI dp) (nI c) a (nI j + 1) M) (fun o a => if G 2 o = (p + j) % 10 then a ||| nI (2 ^ o) else a) (fun _ _ => True)
      (fun fu a _ => by simp only [f_X8_loose_59, h.sz, Option.bind_some]; rw [if_pos (Int32.le_refl _)])
      (fun fu o a ho _ => by
        refine ⟨?_, trivial⟩
        have hh := (h.o ho).1.2.2
        simp only [f_X8_loose_59, h.sz, Option.bind_some, RQ h.1, (mtab h).2 o ho, sh1 o (show o < 10 by omega), show nI p + nI j = nI (p + j) from nI_add _ _, show nI (p + j) - nI (p + j) / 10 * 10 = nI ((p + j) % 10) from pk_rem (d := 10) (by omega) (by decide) (by decide), nI_1, Int32.or_zero]
        rw [if_neg (nI_ge ho (by omega))]
        by_cases c : G 2 o = (p + j) % 10
        · rw [if_pos (by rw [c]), if_pos c]
        · rw [if_neg (fun q => c ((nI_eq (by omega) (by omega)).mp q)), if_neg c])
      m FU 0 a (by omega) (by unfold FU; omega) trivial
    exact key.1
  intro k
  induction k with
  | zero =>
    intro fu j a hj hf
    obtain ⟨fu, rfl⟩ : ∃ f, fu = f + 1 := ⟨fu - 1, by omega⟩
    simp only [f_X8_loose_44]
    by_cases c1 : c < j
    · rw [if_pos (nI_lt c1 (by omega))]; rfl
    · rw [if_neg (nI_nlt (by omega) (by omega)), if_pos (nI_le (by omega) (by omega))]; rfl
  | succ k ih =>
    intro fu j a hj hf
    obtain ⟨fu, rfl⟩ : ∃ f, fu = f + 1 := ⟨fu - 1, by omega⟩
    simp only [f_X8_loose_44]
    rw [if_neg (nI_nlt (by omega) (by omega)), if_neg (nI_ge (by omega) (by omega)), inner _ j (by omega) a, nI_1, ih fu (j + 1) _ (by omega) (by omega)]
    rfl
theorem op29 {M : Mem} (h : Inv M) (a1 a2 a3 : Int32) : ∃ M', lawOp_29 a1 a2 a3 M = some M' ∧ Inv M' := by
  have hS := h.1
  obtain ⟨r, s, n, m, G, d, cd, -, -, hG, hN, hP, hB, -⟩ := h.op
  have hnm := hG.nm
  refine ⟨M, ?_, h⟩
  unfold lawOp_29 f_X7_loose f_X8_loose
  simp only [KQ hS, if_true]
  rcases ixc a1 10 (by omega) with h1 | ⟨p, hp, rfl⟩
  · have e0 : f_X8_in (Int32.toInt64 a1) 0 9 = 0 := in_bad (n := 10) (by decide) rfl h1
    simp only [isPlace_bad h1, e0, if_true, Option.bind_some]
  · have e1 : f_X8_in (Int32.toInt64 (nI p)) 0 9 = 1 := in_ok (n := 10) (by decide) rfl hp
    simp only [isPlace_ok p hp, e1, show ¬ (1 : Int32) = 0 by decide, if_false]
    rw [in_i, show (1 : Int64).toInt = 1 from rfl, show (9 : Int64).toInt = 9 from rfl]
    have hb := i32_b a2
    by_cases g : 1 ≤ a2.toInt ∧ a2.toInt ≤ 9
    · obtain ⟨dp, hd1, hd9, rfl⟩ : ∃ k : Nat, 1 ≤ k ∧ k ≤ 9 ∧ a2 = nI k := ⟨a2.toInt.toNat, by omega, by omega, by apply Int32.toInt_inj.mp; rw [nI_toInt (by omega)]; omega⟩
      rw [if_pos g, if_neg (show ¬ nI dp < 1 from nI_nlt (b := 1) hd1 (by omega)), if_neg (show ¬ (9 : Int32) < nI dp from nI_nlt (a := 9) hd9 (by decide))]
      simp only [show ¬ (1 : Int32) = 0 by decide, if_false]
      rcases ixc a3 21 (by omega) with h3 | ⟨c, hc, rfl⟩
      · have e0 : f_X8_in (Int32.toInt64 a3) 0 20 = 0 := in_bad (n := 21) (by decide) rfl h3
        by_cases q : a3 < 0
        · simp only [if_pos q, e0, if_true, Option.bind_some]
        · have q5 : ¬ a3 ≤ 20 := by
            have := h3.resolve_left q
            rw [Int32.le_iff_toInt_le, nI_toInt (by omega)] at this
            rw [Int32.le_iff_toInt_le, show (20 : Int32).toInt = 20 from rfl]
            omega
          simp only [if_neg q, if_neg q5, e0, if_true, Option.bind_some]
      · have e2 : f_X8_in (Int32.toInt64 (nI c)) 0 20 = 1 := in_ok (n := 21) (by decide) rfl hc
        simp only [if_neg (nI_pos (show c < 2 ^ 31 by omega)), if_pos (show nI c ≤ 20 from nI_le (b := 20) (by omega) (by decide)), e2, show ¬ (1 : Int32) = 0 by decide, if_false]
        rw [show f_X7_loose_36 FU 1 (nI p) (nI dp) (nI c) 0 0 M = _ from loose_X hG hp (by omega) (by omega) (min (c + 1) dp) FU 0 0 (by omega) (by unfold FU; omega), show f_X8_loose_44 FU 65 (nI p) (nI dp) (nI c) 0 0 M = _ from loose_Y hG hp (by omega) (by omega) (min (c + 1) dp) FU 0 0 (by omega) (by unfold FU; omega)]
        simp only [Option.bind_some, if_true]
    · rw [if_neg g]
      by_cases g3 : a2 < 1
      · simp only [if_pos g3, Option.bind_some, if_true]
      · rw [Int32.lt_iff_toInt_lt, show (1 : Int32).toInt = 1 from rfl] at g3
        rw [if_neg (show ¬ a2 < 1 by rw [Int32.lt_iff_toInt_lt]; exact g3), if_pos (show (9 : Int32) < a2 by rw [Int32.lt_iff_toInt_lt, show (9 : Int32).toInt = 9 from rfl]; omega)]
        simp only [Option.bind_some, if_true]
