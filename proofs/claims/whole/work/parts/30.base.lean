/-! ===== what no call changes: how many cells, where they point ===== -/
def rT : List (Nat × Nat × Nat) := [(1, 0, 2), (1, 1, 3), (1, 4, 22), (1, 5, 25), (1, 6, 28), (1, 7, 30), (1, 8, 31), (1, 9, 35), (1, 14, 38), (2, 0, 39), (2, 1, 41), (2, 2, 43), (2, 3, 45), (2, 4, 47), (2, 5, 49), (3, 0, 51), (3, 1, 53), (3, 2, 55), (3, 3, 57), (4, 2, 5), (4, 3, 6), (4, 4, 7), (4, 5, 8), (4, 6, 9), (4, 7, 10), (4, 8, 11), (4, 9, 12), (13, 2, 14), (13, 3, 15), (13, 4, 16), (13, 5, 17), (13, 6, 18), (13, 7, 19), (13, 8, 20), (13, 9, 21), (22, 0, 23), (22, 1, 24), (25, 0, 26), (25, 1, 27), (28, 0, 29), (30, 0, 59), (30, 1, 61), (30, 2, 63), (31, 0, 32), (31, 1, 33), (31, 2, 34), (35, 0, 36), (35, 1, 37), (39, 0, 40), (41, 0, 42), (43, 0, 44), (45, 0, 46), (47, 0, 48), (49, 0, 50), (51, 0, 52), (53, 0, 54), (55, 0, 56), (57, 0, 58), (59, 0, 60), (61, 0, 62), (63, 0, 64), (65, 0, 66), (65, 2, 67), (65, 3, 68), (65, 5, 69), (65, 6, 70), (65, 7, 71), (65, 8, 72), (65, 9, 73), (65, 10, 74), (65, 11, 75), (65, 16, 76), (65, 20, 77), (65, 22, 78), (65, 24, 79), (65, 25, 80), (65, 28, 81), (65, 29, 82), (65, 30, 83), (65, 31, 84), (65, 32, 85), (65, 33, 86)]
def SF (M : Mem) : Prop := mN M = 86 ∧ ∀ x j r, (x, j, r) ∈ rT → mR M x j = r
theorem SF.k {M : Mem} (h : SF M) {x c : Nat} (hc : (sh x).1 = c) (hx : x ≤ 86) : kd M x = c := by
  unfold kd; rw [if_pos (by rw [h.1]; exact hx)]; exact hc
theorem SF.r {M : Mem} (h : SF M) {x j r : Nat} (hm : (x, j, r) ∈ rT) : mR M x j = r := h.2 x j r hm
theorem SF.sI {M : Mem} (h : SF M) {x j : Nat} {v : Int32} : SF (sI M x j v) := h
theorem SF.sL {M : Mem} (h : SF M) {x j : Nat} {v : Int64} : SF (sL M x j v) := h
theorem SF.sW {M : Mem} (h : SF M) {x : Nat} {f : Nat → Int32} : SF (sW M x f) := h
theorem SF.sR {M : Mem} (h : SF M) {x j v : Nat} (hn : ∀ r, (x, j, r) ∉ rT) : SF (sR M x j v) := by
  refine ⟨h.1, fun y k r hm => ?_⟩
  rw [mR_sR]
  by_cases hq : y = x ∧ k = j
  · obtain ⟨rfl, rfl⟩ := hq
    exact absurd hm (hn r)
  · rw [if_neg hq]; exact h.2 y k r hm
theorem gI_k {M : Mem} {c x j : Nat} (h : kd M x = c) : gI M c x j = some (mI M x j) := by unfold gI; rw [if_pos h]
theorem gL_k {M : Mem} {c x j : Nat} (h : kd M x = c) : gL M c x j = some (mL M x j) := by unfold gL; rw [if_pos h]
theorem gR_k {M : Mem} {c x j r : Nat} (h : kd M x = c) (h2 : mR M x j = r) (h0 : r ≠ 0) : gR M c x j = some r := by
  unfold gR; rw [if_pos ⟨h, by rw [h2]; exact h0⟩, h2]
theorem pI_k {M : Mem} {c x j : Nat} {v : Int32} (h : kd M x = c) : pI M c x j v = some (sI M x j v) := by unfold pI; rw [if_pos h]
theorem pL_k {M : Mem} {c x j : Nat} {v : Int64} (h : kd M x = c) : pL M c x j v = some (sL M x j v) := by unfold pL; rw [if_pos h]
theorem pR_k {M : Mem} {c x j v : Nat} (h : kd M x = c) : pR M c x j v = some (sR M x j v) := by unfold pR; rw [if_pos h]
theorem pN_k {M : Mem} {c x j v : Nat} (h : kd M x = c) (h0 : v ≠ 0) : pN M c x j v = some (sR M x j v) := by unfold pN; rw [if_neg h0, pR_k h]
theorem ln_le (x : Nat) : ln x ≤ 1998 := by
  unfold ln sh
  rw [List.getD_eq_getElem?_getD]
  cases h : shL[x]? with
  | none => exact Nat.zero_le _
  | some q =>
    have hm := List.mem_of_getElem? h
    have hall : ∀ q ∈ shL, q.2 ≤ 1998 := by decide +kernel
    exact hall q hm
theorem nI_cl {j : Nat} (h : j < 2 ^ 31) : (nI j).toNatClampNeg = j := nI_clamp h
theorem okB_n {M : Mem} {k x j : Nat} (h : kd M x = k) (hj : j < ln x) : okB M k x (nI j) = true := by
  have hl := ln_le x
  unfold okB
  rw [nI_cl (by omega)]
  simp [h, hj, nI_pos' (show j < 2 ^ 31 by omega)]
theorem aI_k {M : Mem} {x j : Nat} (h : kd M x = 1) (hj : j < ln x) : aI M x (nI j) = some (mI M x j) := by
  unfold aI; rw [if_pos (okB_n h hj), nI_cl (by have := ln_le x; omega)]
theorem aB_k {M : Mem} {x j : Nat} (h : kd M x = 2) (hj : j < ln x) : aB M x (nI j) = some (mI M x j) := by
  unfold aB; rw [if_pos (okB_n h hj), nI_cl (by have := ln_le x; omega)]
theorem aR_k {M : Mem} {k x j r : Nat} (h : kd M x = k) (hj : j < ln x) (hr : mR M x j = r) (h0 : r ≠ 0) : aR M k x (nI j) = some r := by
  unfold aR; rw [nI_cl (by have := ln_le x; omega), if_pos ⟨okB_n h hj, by rw [hr]; exact h0⟩, hr]
theorem eI_k {M : Mem} {x j : Nat} {v : Int32} (h : kd M x = 1) (hj : j < ln x) : eI M x (nI j) v = some (sI M x j v) := by
  unfold eI; rw [if_pos (okB_n h hj), nI_cl (by have := ln_le x; omega)]
theorem eB_k {M : Mem} {x j : Nat} {v : Int32} (h : kd M x = 2) (hj : j < ln x) : eB M x (nI j) v = some (sI M x j (vp_nar .byte v)) := by
  unfold eB; rw [if_pos (okB_n h hj), nI_cl (by have := ln_le x; omega)]
theorem aN_k {M : Mem} {k x : Nat} (h : kd M x = k) : aN M k x = some (nI (ln x)) := by unfold aN; rw [if_pos h]
theorem cpI_k {M : Mem} {x y a b n : Nat} (h : kd M x = 1) (h2 : kd M y = 1) (ha : a + n ≤ ln x) (hb : b + n ≤ ln y) : cpI M x (nI a) y (nI b) (nI n) = some (sW M y (va_cpy (mI M x) (mI M y) a b n)) := by
  have l1 := ln_le x
  have l2 := ln_le y
  unfold cpI
  rw [nI_cl (show a < 2 ^ 31 by omega), nI_cl (show b < 2 ^ 31 by omega), nI_cl (show n < 2 ^ 31 by omega), if_pos ⟨h, h2, nI_pos (by omega), nI_pos (by omega), nI_pos (by omega), ha, hb⟩]
-- what stays under the changes
theorem kd_sI {M : Mem} {x j : Nat} {v : Int32} {y : Nat} : kd (sI M x j v) y = kd M y := rfl
theorem kd_sL {M : Mem} {x j : Nat} {v : Int64} {y : Nat} : kd (sL M x j v) y = kd M y := rfl
theorem kd_sR {M : Mem} {x j v : Nat} {y : Nat} : kd (sR M x j v) y = kd M y := rfl
theorem kd_sW {M : Mem} {x : Nat} {f : Nat → Int32} {y : Nat} : kd (sW M x f) y = kd M y := rfl
theorem gR_sI {M : Mem} {x j : Nat} {v : Int32} {c y k : Nat} : gR (sI M x j v) c y k = gR M c y k := rfl
theorem gR_sL {M : Mem} {x j : Nat} {v : Int64} {c y k : Nat} : gR (sL M x j v) c y k = gR M c y k := rfl
theorem gR_sW {M : Mem} {x : Nat} {f : Nat → Int32} {c y k : Nat} : gR (sW M x f) c y k = gR M c y k := rfl
theorem aN_sI {M : Mem} {x j : Nat} {v : Int32} {k y : Nat} : aN (sI M x j v) k y = aN M k y := rfl
theorem aN_sW {M : Mem} {x : Nat} {f : Nat → Int32} {k y : Nat} : aN (sW M x f) k y = aN M k y := rfl
theorem sI_sW {M : Mem} {x j : Nat} {v : Int32} : sI M x j v = sW M x (upd (mI M x) j v) := by
  unfold sI sW
  congr 1
theorem sW_sW {M : Mem} {x : Nat} {f g : Nat → Int32} : sW (sW M x f) x g = sW M x g := by
  unfold sW
  congr 1
  funext y
  unfold va_up
  by_cases h : y = x <;> simp [h]
theorem sW_self {M : Mem} {x : Nat} : sW M x (mI M x) = M := by
  unfold sW mI
  have : va_up M.1 x (M.1 x) = M.1 := by
    funext y
    unfold va_up
    by_cases h : y = x <;> simp [h]
  rw [this]
theorem sW_comm {M : Mem} {x y : Nat} {f g : Nat → Int32} (h : x ≠ y) : sW (sW M x f) y g = sW (sW M y g) x f := by
  unfold sW
  congr 1
  funext z
  unfold va_up
  by_cases h1 : z = x <;> by_cases h2 : z = y <;> simp [h1, h2]
  · subst h1; exact absurd h2 h
  · simp [h]
  · simp [Ne.symm h]
theorem mI_eq {M : Mem} {x : Nat} {f : Nat → Int32} : mI (sW M x f) x = f := by rw [mI_sW, if_pos rfl]
theorem mI_ne {M : Mem} {x y : Nat} {f : Nat → Int32} (h : y ≠ x) : mI (sW M x f) y = mI M y := by rw [mI_sW, if_neg h]
theorem fu7 {k : Nat} (h : k ≤ 99999) : ∃ f, FU = f + 1 + k := ⟨99999 - k, by unfold FU; omega⟩
/-- a loop that counts up: its turns one behind the other -/
def iter {σ : Type} (step : Nat → σ → σ) : Nat → Nat → σ → σ
  | _, 0, s => s
  | j, k + 1, s => iter step (j + 1) k (step j s)
theorem lp_up {σ ρ : Type} (F : Nat → Nat → σ → ρ) (m : Nat) (ex : σ → ρ) (step : Nat → σ → σ) (I : Nat → σ → Prop) (hx : ∀ fu s, I m s → F (fu + 1) m s = ex s) (hs : ∀ fu j s, j < m → I j s → F (fu + 1) j s = F fu (j + 1) (step j s) ∧ I (j + 1) (step j s)) : ∀ (k fu j : Nat) (s : σ), j + k = m → k < fu → I j s → F fu j s = ex (iter step j k s) ∧ I m (iter step j k s) := by
  intro k
  induction k with
  | zero =>
    intro fu j s hj hf hI
    obtain ⟨fu, rfl⟩ : ∃ f, fu = f + 1 := ⟨fu - 1, by omega⟩
    have hjm : j = m := by omega
    subst hjm
    exact ⟨hx fu s hI, hI⟩
  | succ k ih =>
    intro fu j s hj hf hI
    obtain ⟨fu, rfl⟩ : ∃ f, fu = f + 1 := ⟨fu - 1, by omega⟩
    obtain ⟨h1, h2⟩ := hs fu j s (by omega) hI
    rw [h1]
    exact ih fu (j + 1) (step j s) (by omega) (by omega) h2
theorem iter_congr {σ : Type} {f g : Nat → σ → σ} : ∀ (k j : Nat) (s : σ), (∀ i s, j ≤ i → i < j + k → f i s = g i s) → iter f j k s = iter g j k s := by
  intro k
  induction k with
  | zero => intro j s h; rfl
  | succ k ih =>
    intro j s h
    show iter f (j + 1) k (f j s) = iter g (j + 1) k (g j s)
    rw [h j s (Nat.le_refl _) (by omega)]
    exact ih (j + 1) _ (fun i s h1 h2 => h i s (by omega) (by omega))
/-- what holds of a loop's states one by one -/
theorem iter_ind {σ : Type} {f : Nat → σ → σ} (I : Nat → σ → Prop) : ∀ (k j : Nat) (s : σ), I j s → (∀ i s, j ≤ i → i < j + k → I i s → I (i + 1) (f i s)) → I (j + k) (iter f j k s) := by
  intro k
  induction k with
  | zero => intro j s h _; exact h
  | succ k ih =>
    intro j s h hs
    have := ih (j + 1) (f j s) (hs j s (Nat.le_refl _) (by omega) h) (fun i s h1 h2 => hs i s (by omega) (by omega))
    rw [show j + (k + 1) = j + 1 + k by omega]
    exact this
theorem RQ {M : Mem} (h : SF M) : gR M 17 1 0 = some 2 ∧ gR M 17 1 1 = some 3 ∧ gR M 17 1 4 = some 22 ∧ gR M 17 1 5 = some 25 ∧ gR M 17 1 6 = some 28 ∧ gR M 17 1 7 = some 30 ∧ gR M 17 1 8 = some 31 ∧ gR M 17 1 9 = some 35 ∧ gR M 17 1 14 = some 38 ∧ gR M 16 22 0 = some 23 ∧ gR M 16 22 1 = some 24 ∧ gR M 16 25 0 = some 26 ∧ gR M 16 25 1 = some 27 ∧ gR M 10 28 0 = some 29 ∧ gR M 11 31 0 = some 32 ∧ gR M 11 31 1 = some 33 ∧ gR M 11 31 2 = some 34 ∧ gR M 13 35 0 = some 36 ∧ gR M 13 35 1 = some 37 ∧ gR M 18 65 0 = some 66 ∧ gR M 18 65 2 = some 67 ∧ gR M 18 65 3 = some 68 ∧ gR M 18 65 5 = some 69 ∧ gR M 18 65 6 = some 70 ∧ gR M 18 65 7 = some 71 ∧ gR M 18 65 8 = some 72 ∧ gR M 18 65 9 = some 73 ∧ gR M 18 65 10 = some 74 ∧ gR M 18 65 11 = some 75 ∧ gR M 18 65 16 = some 76 ∧ gR M 18 65 20 = some 77 ∧ gR M 18 65 22 = some 78 ∧ gR M 18 65 24 = some 79 ∧ gR M 18 65 25 = some 80 ∧ gR M 18 65 28 = some 81 ∧ gR M 18 65 29 = some 82 ∧ gR M 18 65 30 = some 83 ∧ gR M 18 65 31 = some 84 ∧ gR M 18 65 32 = some 85 ∧ gR M 18 65 33 = some 86 :=
  ⟨gR_k (h.k (by decide +kernel) (by decide)) (h.r (x := 1) (j := 0) (by decide +kernel)) (by decide), gR_k (h.k (by decide +kernel) (by decide)) (h.r (x := 1) (j := 1) (by decide +kernel)) (by decide), gR_k (h.k (by decide +kernel) (by decide)) (h.r (x := 1) (j := 4) (by decide +kernel)) (by decide), gR_k (h.k (by decide +kernel) (by decide)) (h.r (x := 1) (j := 5) (by decide +kernel)) (by decide), gR_k (h.k (by decide +kernel) (by decide)) (h.r (x := 1) (j := 6) (by decide +kernel)) (by decide), gR_k (h.k (by decide +kernel) (by decide)) (h.r (x := 1) (j := 7) (by decide +kernel)) (by decide), gR_k (h.k (by decide +kernel) (by decide)) (h.r (x := 1) (j := 8) (by decide +kernel)) (by decide), gR_k (h.k (by decide +kernel) (by decide)) (h.r (x := 1) (j := 9) (by decide +kernel)) (by decide), gR_k (h.k (by decide +kernel) (by decide)) (h.r (x := 1) (j := 14) (by decide +kernel)) (by decide), gR_k (h.k (by decide +kernel) (by decide)) (h.r (x := 22) (j := 0) (by decide +kernel)) (by decide), gR_k (h.k (by decide +kernel) (by decide)) (h.r (x := 22) (j := 1) (by decide +kernel)) (by decide), gR_k (h.k (by decide +kernel) (by decide)) (h.r (x := 25) (j := 0) (by decide +kernel)) (by decide), gR_k (h.k (by decide +kernel) (by decide)) (h.r (x := 25) (j := 1) (by decide +kernel)) (by decide), gR_k (h.k (by decide +kernel) (by decide)) (h.r (x := 28) (j := 0) (by decide +kernel)) (by decide), gR_k (h.k (by decide +kernel) (by decide)) (h.r (x := 31) (j := 0) (by decide +kernel)) (by decide), gR_k (h.k (by decide +kernel) (by decide)) (h.r (x := 31) (j := 1) (by decide +kernel)) (by decide), gR_k (h.k (by decide +kernel) (by decide)) (h.r (x := 31) (j := 2) (by decide +kernel)) (by decide), gR_k (h.k (by decide +kernel) (by decide)) (h.r (x := 35) (j := 0) (by decide +kernel)) (by decide), gR_k (h.k (by decide +kernel) (by decide)) (h.r (x := 35) (j := 1) (by decide +kernel)) (by decide), gR_k (h.k (by decide +kernel) (by decide)) (h.r (x := 65) (j := 0) (by decide +kernel)) (by decide), gR_k (h.k (by decide +kernel) (by decide)) (h.r (x := 65) (j := 2) (by decide +kernel)) (by decide), gR_k (h.k (by decide +kernel) (by decide)) (h.r (x := 65) (j := 3) (by decide +kernel)) (by decide), gR_k (h.k (by decide +kernel) (by decide)) (h.r (x := 65) (j := 5) (by decide +kernel)) (by decide), gR_k (h.k (by decide +kernel) (by decide)) (h.r (x := 65) (j := 6) (by decide +kernel)) (by decide), gR_k (h.k (by decide +kernel) (by decide)) (h.r (x := 65) (j := 7) (by decide +kernel)) (by decide), gR_k (h.k (by decide +kernel) (by decide)) (h.r (x := 65) (j := 8) (by decide +kernel)) (by decide), gR_k (h.k (by decide +kernel) (by decide)) (h.r (x := 65) (j := 9) (by decide +kernel)) (by decide), gR_k (h.k (by decide +kernel) (by decide)) (h.r (x := 65) (j := 10) (by decide +kernel)) (by decide), gR_k (h.k (by decide +kernel) (by decide)) (h.r (x := 65) (j := 11) (by decide +kernel)) (by decide), gR_k (h.k (by decide +kernel) (by decide)) (h.r (x := 65) (j := 16) (by decide +kernel)) (by decide), gR_k (h.k (by decide +kernel) (by decide)) (h.r (x := 65) (j := 20) (by decide +kernel)) (by decide), gR_k (h.k (by decide +kernel) (by decide)) (h.r (x := 65) (j := 22) (by decide +kernel)) (by decide), gR_k (h.k (by decide +kernel) (by decide)) (h.r (x := 65) (j := 24) (by decide +kernel)) (by decide), gR_k (h.k (by decide +kernel) (by decide)) (h.r (x := 65) (j := 25) (by decide +kernel)) (by decide), gR_k (h.k (by decide +kernel) (by decide)) (h.r (x := 65) (j := 28) (by decide +kernel)) (by decide), gR_k (h.k (by decide +kernel) (by decide)) (h.r (x := 65) (j := 29) (by decide +kernel)) (by decide), gR_k (h.k (by decide +kernel) (by decide)) (h.r (x := 65) (j := 30) (by decide +kernel)) (by decide), gR_k (h.k (by decide +kernel) (by decide)) (h.r (x := 65) (j := 31) (by decide +kernel)) (by decide), gR_k (h.k (by decide +kernel) (by decide)) (h.r (x := 65) (j := 32) (by decide +kernel)) (by decide), gR_k (h.k (by decide +kernel) (by decide)) (h.r (x := 65) (j := 33) (by decide +kernel)) (by decide)⟩
theorem KQ {M : Mem} (h : SF M) : kd M 1 = 17 ∧ kd M 2 = 4 ∧ kd M 3 = 5 ∧ kd M 4 = 12 ∧ kd M 5 = 1 ∧ kd M 6 = 1 ∧ kd M 7 = 1 ∧ kd M 8 = 1 ∧ kd M 9 = 1 ∧ kd M 10 = 1 ∧ kd M 11 = 1 ∧ kd M 12 = 1 ∧ kd M 13 = 12 ∧ kd M 14 = 1 ∧ kd M 15 = 1 ∧ kd M 16 = 1 ∧ kd M 17 = 1 ∧ kd M 18 = 1 ∧ kd M 19 = 1 ∧ kd M 20 = 1 ∧ kd M 21 = 1 ∧ kd M 22 = 16 ∧ kd M 23 = 1 ∧ kd M 24 = 1 ∧ kd M 25 = 16 ∧ kd M 26 = 1 ∧ kd M 27 = 1 ∧ kd M 28 = 10 ∧ kd M 29 = 1 ∧ kd M 30 = 3 ∧ kd M 31 = 11 ∧ kd M 32 = 1 ∧ kd M 33 = 1 ∧ kd M 34 = 1 ∧ kd M 35 = 13 ∧ kd M 36 = 1 ∧ kd M 37 = 1 ∧ kd M 38 = 1 ∧ kd M 39 = 14 ∧ kd M 40 = 1 ∧ kd M 41 = 14 ∧ kd M 42 = 1 ∧ kd M 43 = 14 ∧ kd M 44 = 1 ∧ kd M 45 = 14 ∧ kd M 46 = 1 ∧ kd M 47 = 14 ∧ kd M 48 = 1 ∧ kd M 49 = 14 ∧ kd M 50 = 1 ∧ kd M 51 = 15 ∧ kd M 52 = 2 ∧ kd M 53 = 15 ∧ kd M 54 = 2 ∧ kd M 55 = 15 ∧ kd M 56 = 2 ∧ kd M 57 = 15 ∧ kd M 58 = 2 ∧ kd M 59 = 10 ∧ kd M 60 = 1 ∧ kd M 61 = 10 ∧ kd M 62 = 1 ∧ kd M 63 = 10 ∧ kd M 64 = 1 ∧ kd M 65 = 18 ∧ kd M 66 = 1 ∧ kd M 67 = 1 ∧ kd M 68 = 1 ∧ kd M 69 = 1 ∧ kd M 70 = 1 ∧ kd M 71 = 1 ∧ kd M 72 = 1 ∧ kd M 73 = 1 ∧ kd M 74 = 1 ∧ kd M 75 = 1 ∧ kd M 76 = 1 ∧ kd M 77 = 1 ∧ kd M 78 = 1 ∧ kd M 79 = 1 ∧ kd M 80 = 1 ∧ kd M 81 = 1 ∧ kd M 82 = 1 ∧ kd M 83 = 1 ∧ kd M 84 = 1 ∧ kd M 85 = 1 ∧ kd M 86 = 1 :=
  ⟨h.k (by decide +kernel) (by decide), h.k (by decide +kernel) (by decide), h.k (by decide +kernel) (by decide), h.k (by decide +kernel) (by decide), h.k (by decide +kernel) (by decide), h.k (by decide +kernel) (by decide), h.k (by decide +kernel) (by decide), h.k (by decide +kernel) (by decide), h.k (by decide +kernel) (by decide), h.k (by decide +kernel) (by decide), h.k (by decide +kernel) (by decide), h.k (by decide +kernel) (by decide), h.k (by decide +kernel) (by decide), h.k (by decide +kernel) (by decide), h.k (by decide +kernel) (by decide), h.k (by decide +kernel) (by decide), h.k (by decide +kernel) (by decide), h.k (by decide +kernel) (by decide), h.k (by decide +kernel) (by decide), h.k (by decide +kernel) (by decide), h.k (by decide +kernel) (by decide), h.k (by decide +kernel) (by decide), h.k (by decide +kernel) (by decide), h.k (by decide +kernel) (by decide), h.k (by decide +kernel) (by decide), h.k (by decide +kernel) (by decide), h.k (by decide +kernel) (by decide), h.k (by decide +kernel) (by decide), h.k (by decide +kernel) (by decide), h.k (by decide +kernel) (by decide), h.k (by decide +kernel) (by decide), h.k (by decide +kernel) (by decide), h.k (by decide +kernel) (by decide), h.k (by decide +kernel) (by decide), h.k (by decide +kernel) (by decide), h.k (by decide +kernel) (by decide), h.k (by decide +kernel) (by decide), h.k (by decide +kernel) (by decide), h.k (by decide +kernel) (by decide), h.k (by decide +kernel) (by decide), h.k (by decide +kernel) (by decide), h.k (by decide +kernel) (by decide), h.k (by decide +kernel) (by decide), h.k (by decide +kernel) (by decide), h.k (by decide +kernel) (by decide), h.k (by decide +kernel) (by decide), h.k (by decide +kernel) (by decide), h.k (by decide +kernel) (by decide), h.k (by decide +kernel) (by decide), h.k (by decide +kernel) (by decide), h.k (by decide +kernel) (by decide), h.k (by decide +kernel) (by decide), h.k (by decide +kernel) (by decide), h.k (by decide +kernel) (by decide), h.k (by decide +kernel) (by decide), h.k (by decide +kernel) (by decide), h.k (by decide +kernel) (by decide), h.k (by decide +kernel) (by decide), h.k (by decide +kernel) (by decide), h.k (by decide +kernel) (by decide), h.k (by decide +kernel) (by decide), h.k (by decide +kernel) (by decide), h.k (by decide +kernel) (by decide), h.k (by decide +kernel) (by decide), h.k (by decide +kernel) (by decide), h.k (by decide +kernel) (by decide), h.k (by decide +kernel) (by decide), h.k (by decide +kernel) (by decide), h.k (by decide +kernel) (by decide), h.k (by decide +kernel) (by decide), h.k (by decide +kernel) (by decide), h.k (by decide +kernel) (by decide), h.k (by decide +kernel) (by decide), h.k (by decide +kernel) (by decide), h.k (by decide +kernel) (by decide), h.k (by decide +kernel) (by decide), h.k (by decide +kernel) (by decide), h.k (by decide +kernel) (by decide), h.k (by decide +kernel) (by decide), h.k (by decide +kernel) (by decide), h.k (by decide +kernel) (by decide), h.k (by decide +kernel) (by decide), h.k (by decide +kernel) (by decide), h.k (by decide +kernel) (by decide), h.k (by decide +kernel) (by decide), h.k (by decide +kernel) (by decide)⟩
theorem LQ : ln 1 = 15 ∧ ln 2 = 6 ∧ ln 3 = 4 ∧ ln 4 = 10 ∧ ln 5 = 5 ∧ ln 6 = 5 ∧ ln 7 = 5 ∧ ln 8 = 6 ∧ ln 9 = 6 ∧ ln 10 = 6 ∧ ln 11 = 30 ∧ ln 12 = 30 ∧ ln 13 = 10 ∧ ln 14 = 5 ∧ ln 15 = 5 ∧ ln 16 = 5 ∧ ln 17 = 6 ∧ ln 18 = 6 ∧ ln 19 = 6 ∧ ln 20 = 30 ∧ ln 21 = 30 ∧ ln 22 = 4 ∧ ln 23 = 5 ∧ ln 24 = 5 ∧ ln 25 = 4 ∧ ln 26 = 5 ∧ ln 27 = 5 ∧ ln 28 = 2 ∧ ln 29 = 40 ∧ ln 30 = 3 ∧ ln 31 = 7 ∧ ln 32 = 6 ∧ ln 33 = 5 ∧ ln 34 = 7 ∧ ln 35 = 6 ∧ ln 36 = 6 ∧ ln 37 = 6 ∧ ln 38 = 6 ∧ ln 39 = 2 ∧ ln 40 = 40 ∧ ln 41 = 2 ∧ ln 42 = 40 ∧ ln 43 = 2 ∧ ln 44 = 40 ∧ ln 45 = 2 ∧ ln 46 = 40 ∧ ln 47 = 2 ∧ ln 48 = 40 ∧ ln 49 = 2 ∧ ln 50 = 40 ∧ ln 51 = 2 ∧ ln 52 = 60 ∧ ln 53 = 2 ∧ ln 54 = 60 ∧ ln 55 = 2 ∧ ln 56 = 60 ∧ ln 57 = 2 ∧ ln 58 = 60 ∧ ln 59 = 2 ∧ ln 60 = 40 ∧ ln 61 = 2 ∧ ln 62 = 40 ∧ ln 63 = 2 ∧ ln 64 = 40 ∧ ln 65 = 34 ∧ ln 66 = 1998 ∧ ln 67 = 5 ∧ ln 68 = 5 ∧ ln 69 = 6 ∧ ln 70 = 6 ∧ ln 71 = 6 ∧ ln 72 = 6 ∧ ln 73 = 240 ∧ ln 74 = 4 ∧ ln 75 = 240 ∧ ln 76 = 6 ∧ ln 77 = 15 ∧ ln 78 = 18 ∧ ln 79 = 6 ∧ ln 80 = 6 ∧ ln 81 = 7 ∧ ln 82 = 7 ∧ ln 83 = 7 ∧ ln 84 = 7 ∧ ln 85 = 7 ∧ ln 86 = 7 :=
  ⟨by decide +kernel, by decide +kernel, by decide +kernel, by decide +kernel, by decide +kernel, by decide +kernel, by decide +kernel, by decide +kernel, by decide +kernel, by decide +kernel, by decide +kernel, by decide +kernel, by decide +kernel, by decide +kernel, by decide +kernel, by decide +kernel, by decide +kernel, by decide +kernel, by decide +kernel, by decide +kernel, by decide +kernel, by decide +kernel, by decide +kernel, by decide +kernel, by decide +kernel, by decide +kernel, by decide +kernel, by decide +kernel, by decide +kernel, by decide +kernel, by decide +kernel, by decide +kernel, by decide +kernel, by decide +kernel, by decide +kernel, by decide +kernel, by decide +kernel, by decide +kernel, by decide +kernel, by decide +kernel, by decide +kernel, by decide +kernel, by decide +kernel, by decide +kernel, by decide +kernel, by decide +kernel, by decide +kernel, by decide +kernel, by decide +kernel, by decide +kernel, by decide +kernel, by decide +kernel, by decide +kernel, by decide +kernel, by decide +kernel, by decide +kernel, by decide +kernel, by decide +kernel, by decide +kernel, by decide +kernel, by decide +kernel, by decide +kernel, by decide +kernel, by decide +kernel, by decide +kernel, by decide +kernel, by decide +kernel, by decide +kernel, by decide +kernel, by decide +kernel, by decide +kernel, by decide +kernel, by decide +kernel, by decide +kernel, by decide +kernel, by decide +kernel, by decide +kernel, by decide +kernel, by decide +kernel, by decide +kernel, by decide +kernel, by decide +kernel, by decide +kernel, by decide +kernel, by decide +kernel, by decide +kernel⟩
