/-! ===== the memory: cells 1 .. mN, by the order in which they are made; ints, longs, references (0: null) ===== -/
abbrev Mem : Type := (Nat → Nat → Int32) × (Nat → Nat → Int64) × (Nat → Nat → Nat) × Nat
def mI (M : Mem) : Nat → Nat → Int32 := M.1
def mL (M : Mem) : Nat → Nat → Int64 := M.2.1
def mR (M : Mem) : Nat → Nat → Nat := M.2.2.1
def mN (M : Mem) : Nat := M.2.2.2
def up2 {α : Type} (f : Nat → Nat → α) (x j : Nat) (v : α) : Nat → Nat → α := fun y => if y = x then va_up (f x) j v else f y
def sI (M : Mem) (x j : Nat) (v : Int32) : Mem := (up2 M.1 x j v, M.2)
def sL (M : Mem) (x j : Nat) (v : Int64) : Mem := (M.1, up2 M.2.1 x j v, M.2.2)
def sR (M : Mem) (x j : Nat) (v : Nat) : Mem := (M.1, M.2.1, up2 M.2.2.1 x j v, M.2.2.2)
def sW (M : Mem) (x : Nat) (f : Nat → Int32) : Mem := (va_up M.1 x f, M.2)
/-- a cell more, with noughts in it -/
def sN (M : Mem) : Mem := (va_up M.1 (M.2.2.2 + 1) (fun _ => 0), va_up M.2.1 (M.2.2.2 + 1) (fun _ => 0), va_up M.2.2.1 (M.2.2.2 + 1) (fun _ => 0), M.2.2.2 + 1)
/-- what each cell is: 1 int[], 2 byte[], 3 Deeds[], 4 Row[], 5 Script[], 10 + its number among the classes; and how long -/
def shL : List (Nat × Nat) := [(0, 0), (17, 15), (4, 6), (5, 4), (12, 10), (1, 5), (1, 5), (1, 5), (1, 6), (1, 6), (1, 6), (1, 30), (1, 30), (12, 10), (1, 5), (1, 5), (1, 5), (1, 6), (1, 6), (1, 6), (1, 30), (1, 30), (16, 4), (1, 5), (1, 5), (16, 4), (1, 5), (1, 5), (10, 2), (1, 40), (3, 3), (11, 7), (1, 6), (1, 5), (1, 7), (13, 6), (1, 6), (1, 6), (1, 6), (14, 2), (1, 40), (14, 2), (1, 40), (14, 2), (1, 40), (14, 2), (1, 40), (14, 2), (1, 40), (14, 2), (1, 40), (15, 2), (2, 60), (15, 2), (2, 60), (15, 2), (2, 60), (15, 2), (2, 60), (10, 2), (1, 40), (10, 2), (1, 40), (10, 2), (1, 40), (18, 34), (1, 1998), (1, 5), (1, 5), (1, 6), (1, 6), (1, 6), (1, 6), (1, 240), (1, 4), (1, 240), (1, 6), (1, 15), (1, 18), (1, 6), (1, 6), (1, 7), (1, 7), (1, 7), (1, 7), (1, 7), (1, 7)]
def sh (x : Nat) : Nat × Nat := shL.getD x (0, 0)
def kd (M : Mem) (x : Nat) : Nat := if x ≤ mN M then (sh x).1 else 0
def ln (x : Nat) : Nat := (sh x).2
/-- fields: 0 an int, 1 a long, 2 a reference -/
def fty (c : Nat) : List Nat := match c with
  | 0 => [2, 0]
  | 1 => [2, 2, 2, 2, 0, 0, 0]
  | 2 => [0, 0, 2, 2, 2, 2, 2, 2, 2, 2]
  | 3 => [2, 2, 0, 0, 2, 0]
  | 4 => [2, 0]
  | 5 => [2, 0]
  | 6 => [2, 2, 0, 0]
  | 7 => [2, 2, 2, 2, 2, 2, 2, 2, 2, 2, 0, 1, 1, 0, 2]
  | 8 => [2, 0, 2, 2, 0, 2, 2, 2, 2, 2, 2, 2, 0, 1, 1, 0, 2, 0, 0, 0, 2, 0, 2, 0, 2, 2, 0, 0, 2, 2, 2, 2, 2, 2]
  | _ => []
/-- the constant tables of the class: LETTERS, ABOVE, DEPTH_LIMIT -/
def tbl (t : Nat) (j : Nat) : Int32 := match t with
  | 0 => [115, 100, 97, 102, 109, 112].getD j 0
  | 1 => [-9, 0, 0, 0, 1, 2].getD j 0
  | _ => [9, 9, 3, 9, 9, 6].getD j 0
-- what an instruction does
def gI (M : Mem) (c x j : Nat) : Option Int32 := if kd M x = c then some (mI M x j) else none
def gL (M : Mem) (c x j : Nat) : Option Int64 := if kd M x = c then some (mL M x j) else none
def gR (M : Mem) (c x j : Nat) : Option Nat := if kd M x = c ∧ mR M x j ≠ 0 then some (mR M x j) else none
def pI (M : Mem) (c x j : Nat) (v : Int32) : Option Mem := if kd M x = c then some (sI M x j v) else none
def pL (M : Mem) (c x j : Nat) (v : Int64) : Option Mem := if kd M x = c then some (sL M x j v) else none
def pR (M : Mem) (c x j : Nat) (v : Nat) : Option Mem := if kd M x = c then some (sR M x j v) else none
def bz (v : Int32) : Option Int32 := if v = 0 ∨ v = 1 then some v else none
def okI (M : Mem) (k x : Nat) (i : Int32) : Prop := kd M x = k ∧ ¬ (i < 0) ∧ i.toNatClampNeg < ln x
def okB (M : Mem) (k x : Nat) (i : Int32) : Bool := (kd M x == k) && (!decide (i < 0)) && decide (i.toNatClampNeg < ln x)
def aI (M : Mem) (x : Nat) (i : Int32) : Option Int32 := if okB M 1 x i = true then some (mI M x i.toNatClampNeg) else none
def aB (M : Mem) (x : Nat) (i : Int32) : Option Int32 := if okB M 2 x i = true then some (mI M x i.toNatClampNeg) else none
def aR (M : Mem) (k x : Nat) (i : Int32) : Option Nat := if okB M k x i = true ∧ mR M x i.toNatClampNeg ≠ 0 then some (mR M x i.toNatClampNeg) else none
def eI (M : Mem) (x : Nat) (i v : Int32) : Option Mem := if okB M 1 x i = true then some (sI M x i.toNatClampNeg v) else none
def eB (M : Mem) (x : Nat) (i v : Int32) : Option Mem := if okB M 2 x i = true then some (sI M x i.toNatClampNeg (vp_nar .byte v)) else none
def eR (M : Mem) (k c x : Nat) (i : Int32) (v : Nat) : Option Mem := if okB M k x i = true ∧ kd M v = c then some (sR M x i.toNatClampNeg v) else none
def aN (M : Mem) (k x : Nat) : Option Int32 := if kd M x = k then some (nI (ln x)) else none
def aT (t : Nat) (i : Int32) : Option Int32 := if ¬ (i < 0) ∧ i.toNatClampNeg < 6 then some (tbl t i.toNatClampNeg) else none
def nO (M : Mem) (k n : Nat) : Option (Nat × Mem) := if sh (mN M + 1) = (k, n) then some (mN M + 1, sN M) else none
def nA (M : Mem) (k : Nat) (n : Int32) : Option (Nat × Mem) := if ¬ (n < 0) ∧ sh (mN M + 1) = (k, n.toNatClampNeg) then some (mN M + 1, sN M) else none
def cpI (M : Mem) (x : Nat) (sp : Int32) (y : Nat) (dp n : Int32) : Option Mem := if kd M x = 1 ∧ kd M y = 1 ∧ ¬ (sp < 0) ∧ ¬ (dp < 0) ∧ ¬ (n < 0) ∧ sp.toNatClampNeg + n.toNatClampNeg ≤ ln x ∧ dp.toNatClampNeg + n.toNatClampNeg ≤ ln y then some (sW M y (va_cpy (mI M x) (mI M y) sp.toNatClampNeg dp.toNatClampNeg n.toNatClampNeg)) else none
/-- more turns than any loop here takes -/
def FU : Nat := 100000
theorem ob {α β : Type} {a : Option α} {f : α → Option β} {r : β} (h : a.bind f = some r) : ∃ v, a = some v ∧ f v = some r := Option.bind_eq_some_iff.mp h
theorem ip {α : Type} {c : Prop} [Decidable c] {a b r : α} (hc : c) (h : (if c then a else b) = r) : a = r := by rw [if_pos hc] at h; exact h
theorem iq {α : Type} {c : Prop} [Decidable c] {a b r : α} (hc : ¬ c) (h : (if c then a else b) = r) : b = r := by rw [if_neg hc] at h; exact h
theorem mI_sI (M : Mem) (x j : Nat) (v : Int32) (y k : Nat) : mI (sI M x j v) y k = if y = x ∧ k = j then v else mI M y k := by
  unfold mI sI up2 va_up
  by_cases h : y = x
  · subst h
    by_cases hk : k = j <;> simp [hk]
  · simp [h]
theorem mL_sI (M : Mem) (x j : Nat) (v : Int32) : mL (sI M x j v) = mL M := rfl
theorem mR_sI (M : Mem) (x j : Nat) (v : Int32) : mR (sI M x j v) = mR M := rfl
theorem mN_sI (M : Mem) (x j : Nat) (v : Int32) : mN (sI M x j v) = mN M := rfl
theorem mL_sL (M : Mem) (x j : Nat) (v : Int64) (y k : Nat) : mL (sL M x j v) y k = if y = x ∧ k = j then v else mL M y k := by
  unfold mL sL up2 va_up
  by_cases h : y = x
  · subst h
    by_cases hk : k = j <;> simp [hk]
  · simp [h]
theorem mI_sL (M : Mem) (x j : Nat) (v : Int64) : mI (sL M x j v) = mI M := rfl
theorem mR_sL (M : Mem) (x j : Nat) (v : Int64) : mR (sL M x j v) = mR M := rfl
theorem mN_sL (M : Mem) (x j : Nat) (v : Int64) : mN (sL M x j v) = mN M := rfl
theorem mR_sR (M : Mem) (x j : Nat) (v : Nat) (y k : Nat) : mR (sR M x j v) y k = if y = x ∧ k = j then v else mR M y k := by
  unfold mR sR up2 va_up
  by_cases h : y = x
  · subst h
    by_cases hk : k = j <;> simp [hk]
  · simp [h]
theorem mI_sR (M : Mem) (x j : Nat) (v : Nat) : mI (sR M x j v) = mI M := rfl
theorem mL_sR (M : Mem) (x j : Nat) (v : Nat) : mL (sR M x j v) = mL M := rfl
theorem mN_sR (M : Mem) (x j : Nat) (v : Nat) : mN (sR M x j v) = mN M := rfl
theorem mI_sW (M : Mem) (x : Nat) (f : Nat → Int32) (y : Nat) : mI (sW M x f) y = if y = x then f else mI M y := by
  unfold mI sW va_up
  by_cases h : y = x <;> simp [h]
theorem mL_sW (M : Mem) (x : Nat) (f : Nat → Int32) : mL (sW M x f) = mL M := rfl
theorem mR_sW (M : Mem) (x : Nat) (f : Nat → Int32) : mR (sW M x f) = mR M := rfl
theorem mN_sW (M : Mem) (x : Nat) (f : Nat → Int32) : mN (sW M x f) = mN M := rfl
theorem mN_sN (M : Mem) : mN (sN M) = mN M + 1 := rfl
theorem mI_sN (M : Mem) (y : Nat) : mI (sN M) y = if y = mN M + 1 then (fun _ => 0) else mI M y := rfl
theorem mL_sN (M : Mem) (y : Nat) : mL (sN M) y = if y = mN M + 1 then (fun _ => 0) else mL M y := rfl
theorem mR_sN (M : Mem) (y : Nat) : mR (sN M) y = if y = mN M + 1 then (fun _ => 0) else mR M y := rfl
/-! ===== the memory in the heap: cell x lies at B + x ===== -/
def rO (B r : Nat) : Option Nat := if r = 0 then none else some (B + r)
theorem rO_ne {B r : Nat} (h : r ≠ 0) : va_rf (rO B r) = .ref (B + r) := by unfold rO va_rf; rw [if_neg h]
theorem rO_0 (B : Nat) : va_rf (rO B 0) = .null := rfl
def fV (B : Nat) (M : Mem) (x j t : Nat) : Value := if t = 0 then .int (mI M x j) else if t = 1 then .long (mL M x j) else va_rf (rO B (mR M x j))
def fL (B : Nat) (M : Mem) (x : Nat) (ts : List Nat) : List Value := ts.mapIdx (fun j t => fV B M x j t)
def cE (B : Nat) (ca : Nat → ClassId) (M : Mem) (x : Nat) : va_E :=
  if (sh x).1 = 1 then .inl (ca 1, ln x, .inl (mI M x)) else if (sh x).1 = 2 then .inl (ca 2, ln x, .inl (mI M x))
  else if (sh x).1 < 6 then .inl (ca (sh x).1, ln x, .inr (.inr (.inr (.inr (fun j => rO B (mR M x j))))))
  else .inr ((sh x).1 - 10, fL B M x (fty ((sh x).1 - 10)))
def wO (B : Nat) (ca : Nat → ClassId) (M : Mem) : va_W := (List.range (mN M)).map (fun i => (B + (i + 1), cE B ca M (i + 1)))
theorem sh_0 : sh 0 = (0, 0) := by decide +kernel
theorem kd_spec {M : Mem} {x k : Nat} (h : kd M x = k) (hk : k ≠ 0) : 1 ≤ x ∧ x ≤ mN M ∧ (sh x).1 = k := by
  unfold kd at h
  by_cases hx : x ≤ mN M
  · rw [if_pos hx] at h
    refine ⟨?_, hx, h⟩
    rcases Nat.eq_zero_or_pos x with h0 | h0
    · subst h0
      rw [sh_0] at h
      exact absurd h.symm hk
    · exact h0
  · rw [if_neg hx] at h
    exact absurd h.symm hk
theorem wO_get {B : Nat} {ca : Nat → ClassId} {M : Mem} {x : Nat} (h1 : 1 ≤ x) (h2 : x ≤ mN M) : (wO B ca M)[x - 1]? = some (B + x, cE B ca M x) := by
  unfold wO
  rw [List.getElem?_map, List.getElem?_range (by omega)]
  show some (B + (x - 1 + 1), cE B ca M (x - 1 + 1)) = _
  rw [Nat.sub_add_cancel h1]
theorem wO_len {B : Nat} {ca : Nat → ClassId} {M : Mem} : (wO B ca M).length = mN M := by simp [wO]
theorem wO_set {B : Nat} {ca : Nat → ClassId} {M M' : Mem} {x : Nat} {e : va_E} (h1 : 1 ≤ x) (h2 : x ≤ mN M) (hn : mN M' = mN M) (he : cE B ca M' x = e) (ho : ∀ y, y ≠ x → cE B ca M' y = cE B ca M y) : (wO B ca M).set (x - 1) (B + x, e) = wO B ca M' := by
  apply List.ext_getElem?
  intro i
  by_cases hi : i = x - 1
  · subst hi
    rw [List.getElem?_set_self (by rw [wO_len]; omega), wO_get h1 (by omega), he]
  · rw [List.getElem?_set_ne (Ne.symm hi)]
    unfold wO
    rw [List.getElem?_map, List.getElem?_map, hn]
    by_cases hl : i < mN M
    · rw [List.getElem?_range hl]
      show some (B + (i + 1), cE B ca M (i + 1)) = some (B + (i + 1), cE B ca M' (i + 1))
      rw [ho (i + 1) (by omega)]
    · rw [List.getElem?_eq_none (by simpa using hl)]; rfl
theorem wO_push {B : Nat} {ca : Nat → ClassId} {M M' : Mem} {e : va_E} (hn : mN M' = mN M + 1) (he : cE B ca M' (mN M + 1) = e) (ho : ∀ y, y ≤ mN M → cE B ca M' y = cE B ca M y) : wO B ca M ++ [(B + (mN M + 1), e)] = wO B ca M' := by
  unfold wO
  rw [hn, List.range_succ, List.map_append]
  congr 1
  · apply List.map_congr_left
    intro i hi
    rw [ho (i + 1) (by have := List.mem_range.mp hi; omega)]
  · rw [← he]; rfl
theorem cE_i {B : Nat} {ca : Nat → ClassId} {M : Mem} {x : Nat} (h : (sh x).1 = 1) : cE B ca M x = .inl (ca 1, ln x, .inl (mI M x)) := by unfold cE; rw [if_pos h]
theorem cE_b {B : Nat} {ca : Nat → ClassId} {M : Mem} {x : Nat} (h : (sh x).1 = 2) : cE B ca M x = .inl (ca 2, ln x, .inl (mI M x)) := by unfold cE; rw [if_neg (by omega), if_pos h]
theorem cE_r {B : Nat} {ca : Nat → ClassId} {M : Mem} {x k : Nat} (h : (sh x).1 = k) (h1 : 3 ≤ k) (h2 : k < 6) : cE B ca M x = .inl (ca k, ln x, .inr (.inr (.inr (.inr (fun j => rO B (mR M x j)))))) := by unfold cE; rw [if_neg (by omega), if_neg (by omega), if_pos (by omega), h]
theorem cE_o {B : Nat} {ca : Nat → ClassId} {M : Mem} {x ci : Nat} (h : (sh x).1 = 10 + ci) : cE B ca M x = .inr (ci, fL B M x (fty ci)) := by
  unfold cE; rw [if_neg (by omega), if_neg (by omega), if_neg (by omega), h, Nat.add_sub_cancel_left]
theorem cE_eq {B : Nat} {ca : Nat → ClassId} {M M' : Mem} {x : Nat} (hI : mI M' x = mI M x) (hL : mL M' x = mL M x) (hR : mR M' x = mR M x) : cE B ca M' x = cE B ca M x := by
  unfold cE fL fV
  rw [hI, hL, hR]
theorem fL_get {B : Nat} {M : Mem} {x j t : Nat} {ts : List Nat} (h : ts[j]? = some t) : (fL B M x ts)[j]? = some (fV B M x j t) := by
  unfold fL
  rw [List.getElem?_mapIdx, h]; rfl
theorem fL_len {B : Nat} {M : Mem} {x : Nat} {ts : List Nat} : (fL B M x ts).length = ts.length := by simp [fL]
theorem fL_set {B : Nat} {M M' : Mem} {x j t : Nat} {ts : List Nat} {v : Value} (h : ts[j]? = some t) (hv : fV B M' x j t = v) (ho : ∀ k t', k ≠ j → fV B M' x k t' = fV B M x k t') : (fL B M x ts).set j v = fL B M' x ts := by
  have hl : j < ts.length := (List.getElem?_eq_some_iff.mp h).1
  apply List.ext_getElem?
  intro i
  by_cases hi : i = j
  · subst hi
    rw [List.getElem?_set_self (by rw [fL_len]; exact hl), fL_get h, hv]
  · rw [List.getElem?_set_ne (Ne.symm hi)]
    unfold fL
    rw [List.getElem?_mapIdx, List.getElem?_mapIdx]
    cases hq : ts[i]? with
    | none => rfl
    | some t' => show some (fV B M x i t') = some (fV B M' x i t'); rw [ho i t' hi]
theorem mI_sI_row {M : Mem} {x j : Nat} {v : Int32} {y : Nat} (h : y ≠ x) : mI (sI M x j v) y = mI M y := by unfold mI sI up2; simp [h]
theorem mI_sI_self {M : Mem} {x j : Nat} {v : Int32} : mI (sI M x j v) x = upd (mI M x) j v := by unfold mI sI up2; simp; rfl
theorem mL_sL_row {M : Mem} {x j : Nat} {v : Int64} {y : Nat} (h : y ≠ x) : mL (sL M x j v) y = mL M y := by unfold mL sL up2; simp [h]
theorem mR_sR_row {M : Mem} {x j : Nat} {v : Nat} {y : Nat} (h : y ≠ x) : mR (sR M x j v) y = mR M y := by unfold mR sR up2; simp [h]
theorem cE_sI {B : Nat} {ca : Nat → ClassId} {M : Mem} {x j : Nat} {v : Int32} {y : Nat} (h : y ≠ x) : cE B ca (sI M x j v) y = cE B ca M y := cE_eq (mI_sI_row h) rfl rfl
theorem cE_sL {B : Nat} {ca : Nat → ClassId} {M : Mem} {x j : Nat} {v : Int64} {y : Nat} (h : y ≠ x) : cE B ca (sL M x j v) y = cE B ca M y := cE_eq rfl (mL_sL_row h) rfl
theorem cE_sR {B : Nat} {ca : Nat → ClassId} {M : Mem} {x j : Nat} {v : Nat} {y : Nat} (h : y ≠ x) : cE B ca (sR M x j v) y = cE B ca M y := cE_eq rfl rfl (mR_sR_row h)
