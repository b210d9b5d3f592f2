/-! ===== digest() ===== -/
theorem iter_add {σ : Type} {f : Nat → σ → σ} : ∀ (a b j : Nat) (s : σ), iter f j (a + b) s = iter f (j + a) b (iter f j a s) := by
  intro a
  induction a with
  | zero => intro b j s; rw [Nat.zero_add]; rfl
  | succ a ih =>
    intro b j s
    rw [show a + 1 + b = (a + b) + 1 by omega]
    show iter f (j + 1) (a + b) (f j s) = iter f (j + (a + 1)) b (iter f (j + 1) a (f j s))
    rw [ih, show j + 1 + a = j + (a + 1) by omega]
theorem iter_nest {σ : Type} {f : Nat → Nat → σ → σ} : ∀ (n j : Nat) (s : σ), iter (fun k h => f (k / 5) (k % 5) h) (5 * j) (5 * n) s = iter (fun i h => iter (f i) 0 5 h) j n s := by
  intro n
  induction n with
  | zero => intro j s; rfl
  | succ n ih =>
    intro j s
    rw [show 5 * (n + 1) = 5 + 5 * n by omega, iter_add, show 5 * j + 5 = 5 * (j + 1) by omega, ih]
    show _ = iter (fun i h => iter (f i) 0 5 h) (j + 1) n (iter (f j) 0 5 s)
    congr 1
    simp only [iter, show 5 * j / 5 = j by omega, show 5 * j % 5 = 0 by omega, show (5 * j + 1) / 5 = j by omega, show (5 * j + 1) % 5 = 1 by omega, show (5 * j + 1 + 1) / 5 = j by omega, show (5 * j + 1 + 1) % 5 = 2 by omega, show (5 * j + 1 + 1 + 1) / 5 = j by omega, show (5 * j + 1 + 1 + 1) % 5 = 3 by omega, show (5 * j + 1 + 1 + 1 + 1) / 5 = j by omega, show (5 * j + 1 + 1 + 1 + 1) % 5 = 4 by omega]
def dg (v : Int32) (h : Int64) : Int64 := 31 * h + v.toInt64
theorem szl {x : Int32} {N : Nat} (hN : N < 2 ^ 30) (h : ∃ z, z ≤ N + 1 ∧ x = nI z - 1) : x.toNatClampNeg ≤ N ∧ x ≤ nI x.toNatClampNeg ∧ ∀ j, j < x.toNatClampNeg → ¬ x ≤ nI j := by
  rcases szc h with e | ⟨s, hs, e⟩
  · subst e
    refine ⟨Nat.zero_le _, by decide, fun j hj => ?_⟩
    exact absurd hj (by rw [show (-1 : Int32).toNatClampNeg = 0 from rfl]; omega)
  · subst e
    rw [nI_cl (by omega)]
    exact ⟨hs, Int32.le_refl _, fun j hj => nI_ge hj (by omega)⟩
def dRow (M : Mem) (b c : Nat) (r : Nat) (h : Int64) : Int64 := iter (fun j h => dg (mI M (c + 2 * r) j) h) 0 (mI M (b + 2 * r) 1).toNatClampNeg (dg (mI M (b + 2 * r) 1) h)
theorem rowDig_X {M : Mem} (h : Inv M) {r : Nat} (hr : r < 6) (v : Int64) : f_X4_digestFrom (39 + 2 * r) v M = some (dRow M 39 40 r v) := by
  have hS := h.1
  obtain ⟨-, k1, g1, k2, l2⟩ := rowF hS hr
  obtain ⟨s1, s2, s3⟩ := szl (by decide) (h.2.1 r hr).1
  unfold f_X4_digestFrom dRow
  rw [if_pos k1, gI_k k1, Option.bind_some]
  generalize hz : (mI M (39 + 2 * r) 1).toNatClampNeg = z at s1 s2 s3
  have key := lp_up (F := fun fu j (a : Int64) => f_X4_digestFrom_15 fu (39 + 2 * r) a (nI j) M) z (fun a => some a) (fun j a => dg (mI M (40 + 2 * r) j) a) (fun _ _ => True)
    (fun fu a _ => by simp only [f_X4_digestFrom_15]; rw [gI_k k1, Option.bind_some, if_pos s2])
    (fun fu j a hj _ => by
      refine ⟨?_, trivial⟩
      simp only [f_X4_digestFrom_15]
      rw [gI_k k1, Option.bind_some, if_neg (s3 j hj), g1, Option.bind_some, aI_k k2 (by rw [l2]; omega), Option.bind_some, nI_1]
      rfl)
    z FU 0 (dg (mI M (39 + 2 * r) 1) v) (by omega) (by unfold FU; omega) trivial
  exact key.1
theorem textDig_X {M : Mem} (h : Inv M) {r : Nat} (hr : r < 4) (v : Int64) : f_X5_digestFrom (51 + 2 * r) v M = some (dRow M 51 52 r v) := by
  have hS := h.1
  obtain ⟨-, k1, g1, k2, l2⟩ := textF hS hr
  obtain ⟨s1, s2, s3⟩ := szl (by decide) (h.2.2.1 r hr).1
  unfold f_X5_digestFrom dRow
  rw [if_pos k1, gI_k k1, Option.bind_some]
  generalize hz : (mI M (51 + 2 * r) 1).toNatClampNeg = z at s1 s2 s3
  have key := lp_up (F := fun fu j (a : Int64) => f_X5_digestFrom_15 fu (51 + 2 * r) a (nI j) M) z (fun a => some a) (fun j a => dg (mI M (52 + 2 * r) j) a) (fun _ _ => True)
    (fun fu a _ => by simp only [f_X5_digestFrom_15]; rw [gI_k k1, Option.bind_some, if_pos s2])
    (fun fu j a hj _ => by
      refine ⟨?_, trivial⟩
      simp only [f_X5_digestFrom_15]
      rw [gI_k k1, Option.bind_some, if_neg (s3 j hj), g1, Option.bind_some, aB_k k2 (by rw [l2]; omega), Option.bind_some, nI_1]
      rfl)
    z FU 0 (dg (mI M (51 + 2 * r) 1) v) (by omega) (by unfold FU; omega) trivial
  exact key.1
def dT (M : Mem) (h : Int64) : Int64 := iter (fun t h => dRow M 51 52 t h) 0 4 h
def dR (M : Mem) (h : Int64) : Int64 := dT M (iter (fun r h => dRow M 39 40 r h) 0 6 h)
def dK (M : Mem) (h : Int64) : Int64 := dR M (iter (fun q h => dg (mI M (59 + 2 * q) 1) h) 0 3 h)
def dO (G S : Nat → Nat → Nat) (n m : Nat) (M : Mem) (h : Int64) : Int64 := dK M (iter (fun o h => iter (fun w h => dg (orv G S n o w) h) 0 5 h) 0 m h)
def dS (G S : Nat → Nat → Nat) (n m : Nat) (M : Mem) (h : Int64) : Int64 := dO G S n m M (iter (fun i h => iter (fun w h => dg (sgv G S m i w) h) 0 5 h) 0 n h)
theorem dT_X {M : Mem} (h : Inv M) (v : Int64) : f_X7_digest_193 FU 1 v 0 M = some (dT M v) := by
  have hS := h.1
  have key := lp_up (F := fun fu j (a : Int64) => f_X7_digest_193 fu 1 a (nI j) M) 4 (fun a => some a) (fun t h => dRow M 51 52 t h) (fun _ _ => True)
    (fun fu a _ => by simp only [f_X7_digest_193, RQ hS, KQ hS, LQ, aN_k, Option.bind_some]; rw [if_pos (nI_le (Nat.le_refl _) (by omega))])
    (fun fu j a hj _ => by
      refine ⟨?_, trivial⟩
      simp only [f_X7_digest_193, RQ hS, KQ hS, LQ, aN_k, Option.bind_some]
      rw [if_neg (nI_ge hj (by omega)), (textF hS hj).1, Option.bind_some, textDig_X h hj, Option.bind_some, nI_1])
    4 FU 0 v (by omega) (by unfold FU; omega) trivial
  exact key.1
theorem dR_X {M : Mem} (h : Inv M) (v : Int64) : f_X7_digest_165 FU 1 v 0 M = some (dR M v) := by
  have hS := h.1
  have key := lp_up (F := fun fu j (a : Int64) => f_X7_digest_165 fu 1 a (nI j) M) 6 (fun a => some (dT M a)) (fun t h => dRow M 39 40 t h) (fun _ _ => True)
    (fun fu a _ => by simp only [f_X7_digest_165, RQ hS, KQ hS, LQ, aN_k, Option.bind_some]; rw [if_pos (nI_le (Nat.le_refl _) (by omega)), dT_X h])
    (fun fu j a hj _ => by
      refine ⟨?_, trivial⟩
      simp only [f_X7_digest_165, RQ hS, KQ hS, LQ, aN_k, Option.bind_some]
      rw [if_neg (nI_ge hj (by omega)), (rowF hS hj).1, Option.bind_some, rowDig_X h hj, Option.bind_some, nI_1])
    6 FU 0 v (by omega) (by unfold FU; omega) trivial
  exact key.1
theorem dK_X {M : Mem} (h : Inv M) (v : Int64) : f_X7_digest_131 FU 1 v 0 M = some (dK M v) := by
  have hS := h.1
  have key := lp_up (F := fun fu j (a : Int64) => f_X7_digest_131 fu 1 a (nI j) M) 3 (fun a => some (dR M a)) (fun q h => dg (mI M (59 + 2 * q) 1) h) (fun _ _ => True)
    (fun fu a _ => by simp only [f_X7_digest_131, RQ hS, KQ hS, LQ, aN_k, Option.bind_some]; rw [if_pos (nI_le (Nat.le_refl _) (by omega)), dR_X h])
    (fun fu j a hj _ => by
      refine ⟨?_, trivial⟩
      simp only [f_X7_digest_131, RQ hS, KQ hS, LQ, aN_k, Option.bind_some]
      rw [if_neg (nI_ge hj (by omega)), (keptF hS hj).1, Option.bind_some, gI_k (keptF hS hj).2.1, Option.bind_some, nI_1]
      rfl)
    3 FU 0 v (by omega) (by unfold FU; omega) trivial
  exact key.1
theorem dO_X {M : Mem} {r n m : Nat} {G S : Nat → Nat → Nat} {q : Nat} (hI : Inv M) (h : Gd M r n m G) (hN : NwP n S (mI M 22) (mI M (22 + 1)) (mI M (22 + 2))) (hB : Bd n m S q) (v : Int64) : f_X7_digest_82 FU 1 v 0 M = some (dO G S n m M v) := by
  have hnm := h.nm
  have inner : ∀ (k : Nat → Int64 → Int32 → Mem → Option Int64) (o : Nat), o < m → ∀ v, f_X7_digest_96 k FU 1 v (nI o) 0 M = k 1 (iter (fun w h => dg (orv G S n o w) h) 0 5 v) (nI o + 1) M := by
    intro k o ho v
    have key := lp_up (F := fun fu j (a : Int64) => f_X7_digest_96 k fu 1 a (nI o) (nI j) M) 5 (fun a => k 1 a (nI o + 1) M) (fun w h => dg (orv G S n o w) h) (fun _ _ => True)
      (fun fu a _ => by simp only [f_X7_digest_96]; rw [if_pos (show (5 : Int32) ≤ nI 5 from Int32.le_refl _)])
      (fun fu j a hj _ => by
        refine ⟨?_, trivial⟩
        simp only [f_X7_digest_96]
        rw [if_neg (show ¬ (5 : Int32) ≤ nI j from nI_ge (b := 5) hj (by omega)), orderTells_X h hN hB ho hj, Option.bind_some, nI_1]
        rfl)
      5 FU 0 v (by omega) (by unfold FU; omega) trivial
    exact key.1
  have key := lp_up (F := fun fu j (a : Int64) => f_X7_digest_82 fu 1 a (nI j) M) m (fun a => some (dK M a)) (fun o h => iter (fun w h => dg (orv G S n o w) h) 0 5 h) (fun _ _ => True)
    (fun fu a _ => by simp only [f_X7_digest_82, h.R, h.sz, Option.bind_some]; rw [if_pos (nI_le (Nat.le_refl _) (by omega)), dK_X hI])
    (fun fu j a hj _ => by
      refine ⟨?_, trivial⟩
      simp only [f_X7_digest_82, h.R, h.sz, Option.bind_some]
      rw [if_neg (nI_ge hj (by omega)), inner _ j hj, nI_1])
    m FU 0 v (by omega) (by unfold FU; omega) trivial
  exact key.1
theorem dS_X {M : Mem} {r n m : Nat} {G S : Nat → Nat → Nat} {q : Nat} (hI : Inv M) (h : Gd M r n m G) (hN : NwP n S (mI M 22) (mI M (22 + 1)) (mI M (22 + 2))) (hB : Bd n m S q) (v : Int64) : f_X7_digest_33 FU 1 v 0 M = some (dS G S n m M v) := by
  have hnm := h.nm
  have inner : ∀ (k : Nat → Int64 → Int32 → Mem → Option Int64) (o : Nat), o < n → ∀ v, f_X7_digest_47 k FU 1 v (nI o) 0 M = k 1 (iter (fun w h => dg (sgv G S m o w) h) 0 5 v) (nI o + 1) M := by
    intro k o ho v
    have key := lp_up (F := fun fu j (a : Int64) => f_X7_digest_47 k fu 1 a (nI o) (nI j) M) 5 (fun a => k 1 a (nI o + 1) M) (fun w h => dg (sgv G S m o w) h) (fun _ _ => True)
      (fun fu a _ => by simp only [f_X7_digest_47]; rw [if_pos (show (5 : Int32) ≤ nI 5 from Int32.le_refl _)])
      (fun fu j a hj _ => by
        refine ⟨?_, trivial⟩
        simp only [f_X7_digest_47]
        rw [if_neg (show ¬ (5 : Int32) ≤ nI j from nI_ge (b := 5) hj (by omega)), sigherTells_X h hN hB ho hj, Option.bind_some, nI_1]
        rfl)
      5 FU 0 v (by omega) (by unfold FU; omega) trivial
    exact key.1
  have key := lp_up (F := fun fu j (a : Int64) => f_X7_digest_33 fu 1 a (nI j) M) n (fun a => some (dO G S n m M a)) (fun o h => iter (fun w h => dg (sgv G S m o w) h) 0 5 h) (fun _ _ => True)
    (fun fu a _ => by simp only [f_X7_digest_33, h.R, h.sz, Option.bind_some]; rw [if_pos (nI_le (Nat.le_refl _) (by omega)), dO_X hI h hN hB])
    (fun fu j a hj _ => by
      refine ⟨?_, trivial⟩
      simp only [f_X7_digest_33, h.R, h.sz, Option.bind_some]
      rw [if_neg (nI_ge hj (by omega)), inner _ j hj, nI_1])
    n FU 0 v (by omega) (by unfold FU; omega) trivial
  exact key.1
-- the model
theorem dT_Y {M : Mem} (h : Inv M) (v : Int64) : f_X8_digest_206 FU 65 v 0 M = some (dT M v) := by
  have hS := h.1
  have inner : ∀ (k : Nat → Int64 → Int32 → Mem → Option Int64) (t : Nat), t < 4 → ∀ v, f_X8_digest_228 k FU 65 (dg (mI M (51 + 2 * t) 1) v) (nI t) 0 M = k 65 (dRow M 51 52 t v) (nI t + 1) M := by
    intro k t ht v
    obtain ⟨w1, w2, w3⟩ := h.2.2.1 t ht
    obtain ⟨s1, s2, s3⟩ := szl (by decide) w1
    unfold dRow
    generalize hz : (mI M (51 + 2 * t) 1).toNatClampNeg = z at s1 s2 s3
    have key := lp_up (F := fun fu j (a : Int64) => f_X8_digest_228 k fu 65 a (nI t) (nI j) M) z (fun a => k 65 a (nI t + 1) M) (fun j h => dg (mI M (52 + 2 * t) j) h) (fun _ _ => True)
      (fun fu a _ => by
        simp only [f_X8_digest_228, RQ hS, Option.bind_some]
        rw [aI_k (by simp only [KQ hS]) (by simp only [LQ]; omega), Option.bind_some, w2, if_pos s2])
      (fun fu j a hj _ => by
        refine ⟨?_, trivial⟩
        simp only [f_X8_digest_228, RQ hS, Option.bind_some, m60]
        rw [aI_k (j := t) (by simp only [KQ hS]) (by simp only [LQ]; omega), Option.bind_some, w2, if_neg (s3 j hj), aI_k (by simp only [KQ hS]) (by simp only [LQ]; omega), Option.bind_some, nI_1, (w3 j (by omega)).1]
        rfl)
      z FU 0 (dg (mI M (51 + 2 * t) 1) v) (by omega) (by unfold FU; omega) trivial
    exact key.1
  have key := lp_up (F := fun fu j (a : Int64) => f_X8_digest_206 fu 65 a (nI j) M) 4 (fun a => some a) (fun t h => dRow M 51 52 t h) (fun _ _ => True)
    (fun fu a _ => by simp only [f_X8_digest_206]; rw [if_pos (show (4 : Int32) ≤ nI 4 from Int32.le_refl _)])
    (fun fu j a hj _ => by
      refine ⟨?_, trivial⟩
      simp only [f_X8_digest_206, RQ hS, Option.bind_some]
      rw [if_neg (show ¬ (4 : Int32) ≤ nI j from nI_ge (b := 4) hj (by omega)), aI_k (by simp only [KQ hS]) (by simp only [LQ]; omega), Option.bind_some, (h.2.2.1 j hj).2.1]
      refine (inner _ j hj a).trans ?_
      rw [nI_1])
    4 FU 0 v (by omega) (by unfold FU; omega) trivial
  exact key.1
theorem dR_Y {M : Mem} (h : Inv M) (v : Int64) : f_X8_digest_138 FU 65 v 0 M = some (dR M v) := by
  have hS := h.1
  have inner : ∀ (k : Nat → Int64 → Int32 → Mem → Option Int64) (t : Nat), t < 6 → ∀ v, f_X8_digest_161 k FU 65 (dg (mI M (39 + 2 * t) 1) v) (nI t) 0 M = k 65 (dRow M 39 40 t v) (nI t + 1) M := by
    intro k t ht v
    obtain ⟨w1, w2, w3⟩ := h.2.1 t ht
    obtain ⟨s1, s2, s3⟩ := szl (by decide) w1
    unfold dRow
    generalize hz : (mI M (39 + 2 * t) 1).toNatClampNeg = z at s1 s2 s3
    have key := lp_up (F := fun fu j (a : Int64) => f_X8_digest_161 k fu 65 a (nI t) (nI j) M) z (fun a => k 65 a (nI t + 1) M) (fun j h => dg (mI M (40 + 2 * t) j) h) (fun _ _ => True)
      (fun fu a _ => by
        simp only [f_X8_digest_161, RQ hS, Option.bind_some]
        rw [aI_k (by simp only [KQ hS]) (by simp only [LQ]; omega), Option.bind_some, w2, if_pos s2])
      (fun fu j a hj _ => by
        refine ⟨?_, trivial⟩
        simp only [f_X8_digest_161, RQ hS, Option.bind_some, m40]
        rw [aI_k (j := t) (by simp only [KQ hS]) (by simp only [LQ]; omega), Option.bind_some, w2, if_neg (s3 j hj), aI_k (by simp only [KQ hS]) (by simp only [LQ]; omega), Option.bind_some, nI_1, w3 j (by omega)]
        rfl)
      z FU 0 (dg (mI M (39 + 2 * t) 1) v) (by omega) (by unfold FU; omega) trivial
    exact key.1
  have key := lp_up (F := fun fu j (a : Int64) => f_X8_digest_138 fu 65 a (nI j) M) 6 (fun a => some (dT M a)) (fun t h => dRow M 39 40 t h) (fun _ _ => True)
    (fun fu a _ => by simp only [f_X8_digest_138]; rw [if_pos (show (6 : Int32) ≤ nI 6 from Int32.le_refl _), dT_Y h])
    (fun fu j a hj _ => by
      refine ⟨?_, trivial⟩
      simp only [f_X8_digest_138, RQ hS, Option.bind_some]
      rw [if_neg (show ¬ (6 : Int32) ≤ nI j from nI_ge (b := 6) hj (by omega)), aI_k (by simp only [KQ hS]) (by simp only [LQ]; omega), Option.bind_some, (h.2.1 j hj).2.1]
      refine (inner _ j hj a).trans ?_
      rw [nI_1])
    6 FU 0 v (by omega) (by unfold FU; omega) trivial
  exact key.1
theorem dK_Y {M : Mem} {r n m : Nat} {G : Nat → Nat → Nat} {d : Nat} {cd : Nat → Nat} (h : Inv M) (hH : GhP r (mI M) (mI M 65 1) (mI M 65 4) n m G d cd) (v : Int64) : f_X8_digest_105 FU 65 v 1 M = some (dK M v) := by
  have hS := h.1
  have key := lp_up (F := fun fu j (a : Int64) => f_X8_digest_105 fu 65 a (nI j) M) 4 (fun a => some (dR M a)) (fun q h => dg (mI M 66 (493 * q)) h) (fun _ _ => True)
    (fun fu a _ => by simp only [f_X8_digest_105]; rw [if_pos (show (4 : Int32) ≤ nI 4 from Int32.le_refl _), dR_Y h])
    (fun fu j a hj _ => by
      refine ⟨?_, trivial⟩
      simp only [f_X8_digest_105, RQ hS, Option.bind_some, i493]
      rw [if_neg (show ¬ (4 : Int32) ≤ nI j from nI_ge (b := 4) hj (by omega)), aI_k (by simp only [KQ hS]) (by simp only [LQ]; omega), Option.bind_some, nI_1]
      rfl)
    3 FU 1 v (by omega) (by unfold FU; omega) trivial
  refine (show f_X8_digest_105 FU 65 v 1 M = _ from key.1).trans ?_
  unfold dK
  simp only [iter]
  rw [show mI M 66 (493 * 1) = _ from (kpc hH (q := 0) (by decide)).1, show mI M 66 (493 * (1 + 1)) = _ from (kpc hH (q := 1) (by decide)).1, show mI M 66 (493 * (1 + 1 + 1)) = _ from (kpc hH (q := 2) (by decide)).1]
theorem dO_Y {M : Mem} {r n m : Nat} {G : Nat → Nat → Nat} {d : Nat} {cd : Nat → Nat} {q : Nat} (hI : Inv M) (hH : GhP r (mI M) (mI M 65 1) (mI M 65 4) n m G d cd) (h : Gd M r n m G) (hP : Part (mI M 66) 0 n (run G cd d)) (hB : Bd n m (run G cd d) q) (v : Int64) : f_X8_digest_69 FU 65 v 0 M = some (dO G (run G cd d) n m M v) := by
  have hnm := h.nm
  have key := lp_up (F := fun fu j (a : Int64) => f_X8_digest_69 fu 65 a (nI j) M) (5 * m) (fun a => some (dK M a)) (fun k h => dg (orv G (run G cd d) n (k / 5) (k % 5)) h) (fun _ _ => True)
    (fun fu a _ => by
      simp only [f_X8_digest_69, h.sz, Option.bind_some, show (5 : Int32) * nI m = nI (5 * m) from pk_mul 5 m]
      rw [if_pos (nI_le (Nat.le_refl _) (by omega)), dK_Y hI hH])
    (fun fu j a hj _ => by
      refine ⟨?_, trivial⟩
      simp only [f_X8_digest_69, h.sz, Option.bind_some, show (5 : Int32) * nI m = nI (5 * m) from pk_mul 5 m]
      rw [if_neg (nI_ge hj (by omega)), show nI j - nI j / 5 * 5 = nI (j % 5) from pk_rem (d := 5) (by omega) (by decide) (by decide), show nI j / 5 = nI (j / 5) from pk_div (d := 5) (by omega) (by decide) (by decide), orderTold_Y h hP hB (by omega) (by omega), Option.bind_some, nI_1]
      rfl)
    (5 * m) FU 0 v (by omega) (by unfold FU; omega) trivial
  refine (show f_X8_digest_69 FU 65 v 0 M = _ from key.1).trans ?_
  unfold dO
  congr 2
  exact iter_nest (f := fun o w h => dg (orv G (run G cd d) n o w) h) m 0 v
theorem dS_Y {M : Mem} {r n m : Nat} {G : Nat → Nat → Nat} {d : Nat} {cd : Nat → Nat} {q : Nat} (hI : Inv M) (hH : GhP r (mI M) (mI M 65 1) (mI M 65 4) n m G d cd) (h : Gd M r n m G) (hP : Part (mI M 66) 0 n (run G cd d)) (hB : Bd n m (run G cd d) q) (v : Int64) : f_X8_digest_33 FU 65 v 0 M = some (dS G (run G cd d) n m M v) := by
  have hnm := h.nm
  have key := lp_up (F := fun fu j (a : Int64) => f_X8_digest_33 fu 65 a (nI j) M) (5 * n) (fun a => some (dO G (run G cd d) n m M a)) (fun k h => dg (sgv G (run G cd d) m (k / 5) (k % 5)) h) (fun _ _ => True)
    (fun fu a _ => by
      simp only [f_X8_digest_33, h.sz, Option.bind_some, show (5 : Int32) * nI n = nI (5 * n) from pk_mul 5 n]
      rw [if_pos (nI_le (Nat.le_refl _) (by omega)), dO_Y hI hH h hP hB])
    (fun fu j a hj _ => by
      refine ⟨?_, trivial⟩
      simp only [f_X8_digest_33, h.sz, Option.bind_some, show (5 : Int32) * nI n = nI (5 * n) from pk_mul 5 n]
      rw [if_neg (nI_ge hj (by omega)), show nI j - nI j / 5 * 5 = nI (j % 5) from pk_rem (d := 5) (by omega) (by decide) (by decide), show nI j / 5 = nI (j / 5) from pk_div (d := 5) (by omega) (by decide) (by decide), sigherTold_Y h hP hB (by omega) (by omega), Option.bind_some, nI_1]
      rfl)
    (5 * n) FU 0 v (by omega) (by unfold FU; omega) trivial
  refine (show f_X8_digest_33 FU 65 v 0 M = _ from key.1).trans ?_
  unfold dS
  congr 2
  exact iter_nest (f := fun i w h => dg (sgv G (run G cd d) m i w) h) n 0 v
theorem op43 {M : Mem} (h : Inv M) : ∃ M', lawOp_43 M = some M' ∧ Inv M' := by
  have hS := h.1
  obtain ⟨r, s, n, m, G, d, cd, -, hH, hG, hN, hP, hB, -⟩ := h.op
  refine ⟨M, ?_, h⟩
  have k1 := lp_up (F := fun fu j (a : Int64) => f_X7_digest_6 fu 1 a (nI j) M) 11 (fun a => some (dS G (run G cd d) n m M a)) (fun w h => dg (cnv G (run G cd d) n m d M w) h) (fun _ _ => True)
    (fun fu a _ => by simp only [f_X7_digest_6]; rw [if_pos (show (11 : Int32) ≤ nI 11 from Int32.le_refl _), dS_X h hG hN hB])
    (fun fu j a hj _ => by
      refine ⟨?_, trivial⟩
      simp only [f_X7_digest_6]
      rw [if_neg (show ¬ (11 : Int32) ≤ nI j from nI_ge (b := 11) hj (by omega)), countOf_X hH hG hj, Option.bind_some, nI_1]
      rfl)
    11 FU 0 17 (by omega) (by unfold FU; omega) trivial
  have k2 := lp_up (F := fun fu j (a : Int64) => f_X8_digest_6 fu 65 a (nI j) M) 11 (fun a => some (dS G (run G cd d) n m M a)) (fun w h => dg (cnv G (run G cd d) n m d M w) h) (fun _ _ => True)
    (fun fu a _ => by simp only [f_X8_digest_6]; rw [if_pos (show (11 : Int32) ≤ nI 11 from Int32.le_refl _), dS_Y h hH hG hP hB])
    (fun fu j a hj _ => by
      refine ⟨?_, trivial⟩
      simp only [f_X8_digest_6]
      rw [if_neg (show ¬ (11 : Int32) ≤ nI j from nI_ge (b := 11) hj (by omega)), countOf_Y h hH hG hj, Option.bind_some, nI_1]
      rfl)
    11 FU 0 17 (by omega) (by unfold FU; omega) trivial
  unfold lawOp_43 f_X7_digest f_X8_digest
  simp only [KQ hS, if_true, show f_X7_digest_6 FU 1 17 0 M = _ from k1.1, show f_X8_digest_6 FU 65 17 0 M = _ from k2.1, Option.bind_some, (lgc_eq _ _).mpr rfl]
