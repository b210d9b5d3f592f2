/-! ===== the first memory ===== -/
def inM : Option Mem := (f_X7_init 1 (sN M0)).bind fun M1 => if mN M1 ≤ 86 then (nO M1 18 34).bind fun q => if q.1 = 65 then f_X8_init 65 q.2 else none else none
def tsA (M : Mem) : Bool := decide (mN M = 86) && rT.all (fun q => mR M q.1 q.2.1 == q.2.2)
def tsB (M : Mem) : Bool := allB (fun r => (mI M (39 + 2 * r) 1 == -1) && (mI M 72 r == -1) && allB (fun j => (mI M 73 (40 * r + j) == 0) && (mI M (40 + 2 * r) j == 0)) 0 40) 0 6
def tsC (M : Mem) : Bool := allB (fun r => (mI M (51 + 2 * r) 1 == -1) && (mI M 74 r == -1) && allB (fun j => (mI M 75 (60 * r + j) == 0) && (mI M (52 + 2 * r) j == 0)) 0 60) 0 4
def tsD (M : Mem) : Bool := (mI M 65 12 == mI M 1 10) && (mL M 65 13 == mL M 1 11) && (mL M 65 14 == mL M 1 12) && (mI M 65 15 == mI M 1 13) && allB (fun f => mI M 76 f == mI M 38 f) 0 6 && (mR M 1 2 == 4) && (mR M 1 3 == 13)
def tsE (M : Mem) : Bool := (mI M 65 1 == 0) && (mI M 65 4 == 0) && (mI M 4 0 == 0) && (mI M 4 1 == 0) && (mI M 28 1 == 0) && (mI M 66 0 == 0) && (mI M 66 1 == 0) && (mI M 66 2 == 0) && (mI M 22 2 == 0) && (mI M 22 3 == 0) && allB (fun q => (mI M (59 + 2 * q) 1 == -1) && (mI M 66 (493 * (q + 1)) == -1)) 0 3
theorem inM_ok : (match inM with | some M => tsA M && tsD M && tsE M | none => false) = true := by decide +kernel
theorem inM_ok2 : (match inM with | some M => tsB M && tsC M | none => false) = true := by decide +kernel
theorem first : ∃ M1 M2 M3, f_X7_init 1 (sN M0) = some M1 ∧ mN M1 ≤ 86 ∧ nO M1 18 34 = some (65, M2) ∧ f_X8_init 65 M2 = some M3 ∧ Inv M3 := by
  have k1 := inM_ok
  have k2 := inM_ok2
  cases e : inM with
  | none => rw [e] at k1; exact absurd k1 (by decide)
  | some M =>
    rw [e] at k1 k2
    replace k1 : (tsA M && tsD M && tsE M) = true := k1
    replace k2 : (tsB M && tsC M) = true := k2
    unfold inM at e
    cases e1 : f_X7_init 1 (sN M0) with
    | none => rw [e1] at e; exact absurd e (by simp)
    | some M1 =>
      rw [e1, Option.bind_some] at e
      by_cases hm : mN M1 ≤ 86
      · rw [if_pos hm] at e
        cases e2 : nO M1 18 34 with
        | none => rw [e2] at e; exact absurd e (by simp)
        | some q =>
          rw [e2, Option.bind_some] at e
          by_cases hq : q.1 = 65
          · rw [if_pos hq] at e
            refine ⟨M1, q.2, M, rfl, hm, by rw [← hq]; exact e2, e, ?_⟩
            simp only [Bool.and_eq_true] at k1 k2
            obtain ⟨⟨kA, kD⟩, kE⟩ := k1
            obtain ⟨kB, kC⟩ := k2
            unfold tsA at kA
            unfold tsB at kB
            unfold tsC at kC
            unfold tsD at kD
            unfold tsE at kE
            simp only [Bool.and_eq_true, decide_eq_true_eq, List.all_eq_true, beq_iff_eq, allB_iff] at kA kB kC kD kE
            obtain ⟨a1, a2⟩ := kA
            obtain ⟨⟨⟨⟨⟨⟨d1, d2⟩, d3⟩, d4⟩, d5⟩, d6⟩, d7⟩ := kD
            obtain ⟨⟨⟨⟨⟨⟨⟨⟨⟨⟨x1, x2⟩, x3⟩, x4⟩, x5⟩, x6⟩, x7⟩, x8⟩, x9⟩, x10⟩, x11⟩ := kE
            refine ⟨⟨a1, fun x j r hm => a2 (x, j, r) hm⟩, fun r hr => ?_, fun r hr => ?_, ⟨d1, d2, d3, d4, fun f hf => d5 f (by omega) (by omega)⟩, 4, 13, 0, 0, fun _ _ => 0, 0, fun _ => 0, ⟨Or.inl ⟨rfl, rfl⟩, d6, d7⟩, ⟨⟨by decide, by decide, by decide⟩, ⟨x1, x2, x3, x4⟩, fun i hi => absurd hi (by omega), fun i hi => absurd hi (by omega), fun i o hi => absurd hi (by omega)⟩, ⟨by decide, x5, x6, fun k hk => absurd hk (by omega), ⟨x7, x8, fun i hi => absurd hi (by omega)⟩, fun k hk => absurd hk (by omega)⟩, ⟨x9, x10, fun i hi => absurd hi (by omega)⟩, fun q hq => ?_⟩
            · obtain ⟨⟨b1, b2⟩, b3⟩ := kB r (by omega) (by omega)
              exact ⟨⟨0, by omega, b1⟩, by rw [b1, b2], fun j hj => by rw [(b3 j (by omega) (by omega)).1, (b3 j (by omega) (by omega)).2]⟩
            · obtain ⟨⟨b1, b2⟩, b3⟩ := kC r (by omega) (by omega)
              exact ⟨⟨0, by omega, b1⟩, by rw [b1, b2], fun j hj => by rw [(b3 j (by omega) (by omega)).1, (b3 j (by omega) (by omega)).2]; exact ⟨rfl, rfl⟩⟩
            · exact Or.inl (x11 q (by omega) (by omega))
          · rw [if_neg hq] at e; cases e
      · rw [if_neg hm] at e; cases e
