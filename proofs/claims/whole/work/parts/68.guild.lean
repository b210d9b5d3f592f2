/-! ===== guild() ===== -/
theorem prs_ok {f : Nat → Int32} {z : Nat} (hz : z ≤ 60) : ∀ k p a b V, z < p + k → p ≤ z + 4 → (0 < b → 0 < a) → (prs f z k p a b V).1 = -9 → 1 ≤ k → 0 < (prs f z k p a b V).2.2.1 ∧ 0 < (prs f z k p a b V).2.1 := by
  intro k
  induction k with
  | zero => intro p a b V _ _ _ _ h1; omega
  | succ k ih =>
    intro p a b V hzp hp hab h9 _
    simp only [prs] at h9 ⊢
    by_cases c0 : z ≤ p
    · rw [if_pos c0] at h9 ⊢
      by_cases c : 0 < b
      · exact ⟨c, hab c⟩
      · exact absurd (show nI z = -9 by simpa only [if_neg c] using h9) (n9 (by omega))
    · rw [if_neg c0] at h9 ⊢
      by_cases c1 : sgn f z p = 32
      · rw [if_pos c1] at h9 ⊢
        exact ih (p + 1) a b V (by omega) (by omega) hab h9 (by omega)
      · rw [if_neg c1] at h9 ⊢
        by_cases c2 : itf f z p a b = -9
        · rw [if_pos c2] at h9 ⊢
          by_cases c3 : sgn f z p = 111
          · rw [if_pos c3] at h9 ⊢
            have hmay : may (sgn f z p) a b = true := by
              by_cases q : may (sgn f z p) a b = true
              · exact q
              · unfold itf at c2; rw [if_neg q] at c2; exact absurd c2 (n9 (by omega))
            unfold may at hmay
            rw [if_pos c3] at hmay
            simp only [Bool.and_eq_true, decide_eq_true_eq] at hmay
            exact ih (p + 4) a (b + 1) _ (by omega) (by omega) (fun _ => hmay.1) h9 (by omega)
          · rw [if_neg c3] at h9 ⊢
            exact ih (p + 3) (a + 1) b _ (by omega) (by omega) (fun _ => by omega) h9 (by omega)
        · rw [if_neg c2] at h9
          exact absurd h9 c2
theorem begin2_X {M : Mem} (h : SF M) {s a b : Nat} {V : Nat → Nat → Nat} (hs : s = 4 ∨ s = 13) (hR : Rs s a b V M) : ∃ M', f_X6_begin 22 s M = some M' ∧ SF M' ∧ mR M' = mR M ∧ mL M' = mL M ∧ (∀ x, x < 22 ∨ 24 < x → mI M' x = mI M x) ∧ NwP a (st0 V) (mI M' 22) (mI M' (22 + 1)) (mI M' (22 + 2)) := by
  have ha := hR.1.1
  unfold f_X6_begin
  simp only [KQ h, RQ h, if_true, Option.bind_some, rollF h hs]
  rw [show cpI M (s + 2) 0 23 0 5 = _ from cpI_k (a := 0) (b := 0) (n := 5) (by simp only [rollF h hs]) (by simp only [KQ h]) (by simp only [rollL hs]; omega) (by simp only [LQ]; omega), Option.bind_some]
  generalize hM5 : sW M 23 (va_cpy (mI M (s + 2)) (mI M 23) 0 0 5) = M5
  have hS5 : SF M5 := by rw [← hM5]; exact h
  simp only [RQ hS5, Option.bind_some]
  rw [fillI (by simp only [KQ hS5]), Option.bind_some, pI_k (by rw [kd_sW]; simp only [KQ hS5]), Option.bind_some, pI_k (by rw [kd_sI, kd_sW]; simp only [KQ hS5]), Option.bind_some]
  simp only [LQ]
  refine ⟨_, rfl, hS5, by rw [← hM5]; rfl, by rw [← hM5]; rfl, fun x hx => ?_, ?_, ?_, fun i hi => ⟨?_, ?_⟩⟩
  · rw [mI_sI_row (by omega), mI_sI_row (by omega), mI_ne (by omega), ← hM5, mI_ne (by omega)]
  · rw [mI_sI, if_neg (by omega), mI_sI, if_pos ⟨rfl, rfl⟩]; rfl
  · rw [mI_sI, if_pos ⟨rfl, rfl⟩]; rfl
  · rw [mI_sI_row (by omega), mI_sI_row (by omega), mI_ne (by omega), ← hM5, mI_eq, pk_cpy_in (by omega) (by omega)]
    show mI M (s + 2) (0 + (i - 0)) = nI (V 5 i)
    rw [show 0 + (i - 0) = i by omega]
    exact (hR.2.2.1 i hi).2.2.1
  · rw [mI_sI_row (by omega), mI_sI_row (by omega), mI_eq, if_pos (by omega)]; rfl
theorem Rs.congr {s a b : Nat} {V : Nat → Nat → Nat} {M N : Mem} (h : Rs s a b V M) (e : ∀ x, s ≤ x → x ≤ s + 8 → mI N x = mI M x) : Rs s a b V N := by
  unfold Rs at h ⊢
  rw [e s (by omega) (by omega), e (s + 1) (by omega) (by omega), e (s + 2) (by omega) (by omega), e (s + 3) (by omega) (by omega), e (s + 4) (by omega) (by omega), e (s + 5) (by omega) (by omega), e (s + 6) (by omega) (by omega), e (s + 7) (by omega) (by omega), e (s + 8) (by omega) (by omega)]
  exact h
/-- the class's part of guild() behind the reading: the rolls change places -/
theorem guild_X {M : Mem} (h : SF M) {r s a b : Nat} {V : Nat → Nat → Nat} (hrs : (r = 4 ∧ s = 13) ∨ (r = 13 ∧ s = 4)) (e2 : mR M 1 2 = r) (e3 : mR M 1 3 = s) (hR : Rs s a b V M) : ∃ M', ((gR M 17 1 2).bind fun v11 => (gR M 17 1 3).bind fun v13 => (pN M 17 1 2 v13).bind fun M15 => (pN M15 17 1 3 v11).bind fun M17 => (gR M17 17 1 4).bind fun v19 => (gR M17 17 1 2).bind fun v21 => (f_X6_begin v19 v21 M17).bind fun M24 => (gR M24 17 1 6).bind fun v25 => (pI M24 10 v25 1 0).bind fun M27 => f_X7_guild_81 FU 1 0 M27) = some (nI b, M') ∧ SF M' ∧ mR M' 1 2 = s ∧ mR M' 1 3 = r ∧ mL M' = mL M ∧ (∀ x, x < 22 ∨ (24 < x ∧ x ≠ 28 ∧ x ≠ 59 ∧ x ≠ 61 ∧ x ≠ 63) → mI M' x = mI M x) ∧ mI M' 28 1 = 0 ∧ (∀ q, q < 3 → mI M' (59 + 2 * q) 1 = -1) ∧ NwP a (st0 V) (mI M' 22) (mI M' (22 + 1)) (mI M' (22 + 2)) := by
  have n2 : ∀ w, (1, 2, w) ∉ rT := by
    intro w hw
    have hall : ∀ q ∈ rT, ¬ (q.1 = 1 ∧ q.2.1 = 2) := by decide +kernel
    exact hall _ hw ⟨rfl, rfl⟩
  have n3 : ∀ w, (1, 3, w) ∉ rT := by
    intro w hw
    have hall : ∀ q ∈ rT, ¬ (q.1 = 1 ∧ q.2.1 = 3) := by decide +kernel
    exact hall _ hw ⟨rfl, rfl⟩
  have k1 : kd M 1 = 17 := by simp only [KQ h]
  have h2 : SF (sR (sR M 1 2 s) 1 3 r) := SF.sR (SF.sR h n2) n3
  have hs : s = 4 ∨ s = 13 := by omega
  rw [gR_k k1 e2 (by omega), Option.bind_some, gR_k k1 e3 (by omega), Option.bind_some, pN_k k1 (by omega), Option.bind_some, pN_k (by rw [kd_sR]; exact k1) (by omega), Option.bind_some]
  generalize hN : sR (sR M 1 2 s) 1 3 r = N at *
  have eI : mI N = mI M := by rw [← hN]; rfl
  have eL : mL N = mL M := by rw [← hN]; rfl
  have r2 : mR N 1 2 = s := by rw [← hN, mR_sR, if_neg (by decide), mR_sR, if_pos ⟨rfl, rfl⟩]
  have r3 : mR N 1 3 = r := by rw [← hN, mR_sR, if_pos ⟨rfl, rfl⟩]
  obtain ⟨N4, b1, b2, b3, b4, b5, b6⟩ := begin2_X h2 hs (hR.congr (N := N) (fun x _ _ => by rw [eI]))
  have hb6 := hR.1.2
  simp only [RQ h2, Option.bind_some, gR_k (show kd N 1 = 17 by simp only [KQ h2]) r2 (by omega), b1, RQ b2]
  rw [pI_k (by simp only [KQ b2]), Option.bind_some]
  obtain ⟨M', y1, y2⟩ := lp_ex (F := fun fu q (X : Mem) => f_X7_guild_81 fu 1 (nI q) X) 3 (fun X => some (nI b, X)) (fun q X => SF X ∧ mR X = mR N ∧ mL X = mL N ∧ (∀ x, x < 22 ∨ (24 < x ∧ x ≠ 28 ∧ x ≠ 59 ∧ x ≠ 61 ∧ x ≠ 63) → mI X x = mI M x) ∧ mI X 28 1 = 0 ∧ (∀ i, i < q → mI X (59 + 2 * i) 1 = -1) ∧ NwP a (st0 V) (mI X 22) (mI X (22 + 1)) (mI X (22 + 2)))
    (fun fu X hI => by
      obtain ⟨i1, i2, i3, i4, i5, i6, i7⟩ := hI
      simp only [f_X7_guild_81, RQ i1, Option.bind_some]
      rw [aN_k (k := 3) (by simp only [KQ i1]), Option.bind_some, show ln 30 = 3 by simp only [LQ], if_pos (Int32.le_refl _), gR_k (r := s) (by simp only [KQ i1]) (by rw [i2]; exact r2) (by omega), Option.bind_some, gI_k (rollF i1 hs).1, Option.bind_some, i4 s (by omega), hR.2.1.2])
    (fun fu q X hq hI => by
      obtain ⟨i1, i2, i3, i4, i5, i6, i7⟩ := hI
      obtain ⟨a1, a2, -, -, -⟩ := keptF i1 hq
      simp only [f_X7_guild_81, RQ i1, Option.bind_some]
      rw [aN_k (k := 3) (by simp only [KQ i1]), Option.bind_some, show ln 30 = 3 by simp only [LQ], if_neg (nI_ge hq (by decide)), a1, Option.bind_some, pI_k a2, Option.bind_some, nI_1]
      refine ⟨_, rfl, i1, i2, i3, fun x hx => ?_, ?_, fun i hi => ?_, ?_⟩
      · rw [mI_sI_row (by omega)]; exact i4 x hx
      · rw [mI_sI_row (by omega)]; exact i5
      · rw [mI_sI]
        by_cases c : i = q
        · rw [if_pos ⟨by omega, rfl⟩]
        · rw [if_neg (by omega)]; exact i6 i (by omega)
      · rw [mI_sI_row (show 22 ≠ 59 + 2 * q by omega), mI_sI_row (show 22 + 1 ≠ 59 + 2 * q by omega), mI_sI_row (show 22 + 2 ≠ 59 + 2 * q by omega)]; exact i7)
    3 FU 0 (sI N4 28 1 0) (by omega) (by unfold FU; omega) ⟨b2, b3, b4, fun x hx => by rw [mI_sI_row (by omega), b5 x (by omega), eI], by rw [mI_sI, if_pos ⟨rfl, rfl⟩], fun i hi => absurd hi (by omega), by rw [mI_sI_row (show 22 ≠ 28 by decide), mI_sI_row (show 22 + 1 ≠ 28 by decide), mI_sI_row (show 22 + 2 ≠ 28 by decide)]; exact b6⟩
  obtain ⟨i1, i2, i3, i4, i5, i6, i7⟩ := y2
  exact ⟨M', y1, i1, by rw [i2]; exact r2, by rw [i2]; exact r3, by rw [i3, eL], i4, i5, i6, i7⟩
/-- the model's part behind the reading -/
def FrG (M N : Mem) : Prop := SF N ∧ mR N = mR M ∧ mL N = mL M ∧ (∀ x, x ≠ 65 → x < 66 ∨ 71 < x → mI N x = mI M x) ∧ ∀ j, j ≠ 1 → j ≠ 4 → mI N 65 j = mI M 65 j
theorem g203_Y {M : Mem} (h : SF M) : ∃ M', f_X8_guild_203 FU 65 1 M = some (mI M 65 4, M') ∧ SF M' ∧ mR M' = mR M ∧ mL M' = mL M ∧ (∀ x, x ≠ 66 → mI M' x = mI M x) ∧ (∀ j, j < 493 → mI M' 66 j = mI M 66 j) ∧ ∀ q, q < 3 → mI M' 66 (493 * (q + 1)) = -1 := by
  obtain ⟨M', y1, y2⟩ := lp_ex (F := fun fu q (X : Mem) => f_X8_guild_203 fu 65 (nI (q + 1)) X) 3 (fun X => some (mI M 65 4, X)) (fun q X => SF X ∧ mR X = mR M ∧ mL X = mL M ∧ (∀ x, x ≠ 66 → mI X x = mI M x) ∧ (∀ j, j < 493 → mI X 66 j = mI M 66 j) ∧ ∀ i, i < q → mI X 66 (493 * (i + 1)) = -1)
    (fun fu X hI => by
      obtain ⟨i1, i2, i3, i4, i5, i6⟩ := hI
      simp only [f_X8_guild_203]
      rw [if_pos (show (4 : Int32) ≤ nI (3 + 1) from Int32.le_refl _), gI_k (by simp only [KQ i1]), Option.bind_some, i4 65 (by decide)])
    (fun fu q X hq hI => by
      obtain ⟨i1, i2, i3, i4, i5, i6⟩ := hI
      simp only [f_X8_guild_203, RQ i1, Option.bind_some]
      rw [if_neg (show ¬ (4 : Int32) ≤ nI (q + 1) from nI_ge (b := 4) (by omega) (by decide)), i493, eI_k (by simp only [KQ i1]) (by simp only [LQ]; omega), Option.bind_some, nI_1]
      refine ⟨_, rfl, i1, i2, i3, fun x hx => ?_, fun j hj => ?_, fun i hi => ?_⟩
      · rw [mI_sI_row hx]; exact i4 x hx
      · rw [mI_sI, if_neg (by omega)]; exact i5 j hj
      · rw [mI_sI]
        by_cases c : i = q
        · rw [if_pos ⟨rfl, by rw [c]⟩]
        · rw [if_neg (by omega)]; exact i6 i (by omega))
    3 FU 0 M (by omega) (by unfold FU; omega) ⟨h, rfl, rfl, fun x _ => rfl, fun j _ => rfl, fun i hi => absurd hi (by omega)⟩
  obtain ⟨i1, i2, i3, i4, i5, i6⟩ := y2
  exact ⟨M', y1, i1, i2, i3, i4, i5, i6⟩
theorem g141_Y {M : Mem} (h : SF M) {a b : Nat} {V : Nat → Nat → Nat} (hV : Vy a b V M) (h4 : mI M 65 4 = nI b) : ∃ M', f_X8_guild_141 FU 65 0 M = f_X8_guild_203 FU 65 1 M' ∧ SF M' ∧ mR M' = mR M ∧ mL M' = mL M ∧ (∀ x, x < 69 ∨ 71 < x → mI M' x = mI M x) ∧ ∀ o, o < b → mI M' 69 o = nI (V 2 o) ∧ mI M' 70 o = nI (V 3 o) ∧ mI M' 71 o = nI (V 4 o) := by
  obtain ⟨v0, ⟨v1, v2⟩, v3, v4⟩ := hV
  obtain ⟨M', y1, y2⟩ := lp_ex (F := fun fu o (X : Mem) => f_X8_guild_141 fu 65 (nI o) X) b (fun X => f_X8_guild_203 FU 65 1 X) (fun q X => SF X ∧ mR X = mR M ∧ mL X = mL M ∧ (∀ x, x < 69 ∨ 71 < x → mI X x = mI M x) ∧ ∀ o, o < q → mI X 69 o = nI (V 2 o) ∧ mI X 70 o = nI (V 3 o) ∧ mI X 71 o = nI (V 4 o))
    (fun fu X hI => by
      obtain ⟨i1, i2, i3, i4, i5⟩ := hI
      simp only [f_X8_guild_141]
      rw [gI_k (by simp only [KQ i1]), Option.bind_some, i4 65 (by decide), h4, if_pos (Int32.le_refl _)])
    (fun fu o X ho hI => by
      obtain ⟨i1, i2, i3, i4, i5⟩ := hI
      obtain ⟨w1, w2, w3⟩ := v4 o ho
      simp only [f_X8_guild_141, m3, m31, m32]
      rw [gI_k (by simp only [KQ i1]), Option.bind_some, i4 65 (by decide), h4, if_neg (nI_ge ho (by omega))]
      simp only [RQ i1, Option.bind_some]
      rw [aI_k (by simp only [KQ i1]) (by simp only [LQ]; omega), Option.bind_some, i4 78 (by decide), w1, eI_k (by simp only [KQ i1]) (by simp only [LQ]; omega), Option.bind_some]
      have j1 : SF (sI X 69 o (nI (V 2 o))) := i1
      simp only [RQ j1, Option.bind_some]
      rw [aI_k (by simp only [KQ j1]) (by simp only [LQ]; omega), Option.bind_some, mI_sI_row (by decide), i4 78 (by decide), w2, eI_k (by simp only [KQ j1]) (by simp only [LQ]; omega), Option.bind_some]
      have j2 : SF (sI (sI X 69 o (nI (V 2 o))) 70 o (nI (V 3 o))) := i1
      simp only [RQ j2, Option.bind_some]
      rw [aI_k (by simp only [KQ j2]) (by simp only [LQ]; omega), Option.bind_some, mI_sI_row (by decide), mI_sI_row (by decide), i4 78 (by decide), w3, eI_k (by simp only [KQ j2]) (by simp only [LQ]; omega), Option.bind_some, nI_1]
      refine ⟨_, rfl, i1, i2, i3, fun x hx => ?_, fun q hq => ⟨?_, ?_, ?_⟩⟩
      · rw [mI_sI_row (by omega), mI_sI_row (by omega), mI_sI_row (by omega)]; exact i4 x hx
      · rw [mI_sI_row (by decide), mI_sI_row (by decide), mI_sI]
        by_cases c : q = o
        · rw [if_pos ⟨rfl, c⟩, c]
        · rw [if_neg (fun w => c w.2)]; exact (i5 q (by omega)).1
      · rw [mI_sI_row (by decide), mI_sI]
        by_cases c : q = o
        · rw [if_pos ⟨rfl, c⟩, c]
        · rw [if_neg (fun w => c w.2), mI_sI_row (by decide)]; exact (i5 q (by omega)).2.1
      · rw [mI_sI]
        by_cases c : q = o
        · rw [if_pos ⟨rfl, c⟩, c]
        · rw [if_neg (fun w => c w.2), mI_sI_row (by decide), mI_sI_row (by decide)]; exact (i5 q (by omega)).2.2)
    b FU 0 M (by omega) (by unfold FU; omega) ⟨h, rfl, rfl, fun x _ => rfl, fun o ho => absurd ho (by omega)⟩
  obtain ⟨i1, i2, i3, i4, i5⟩ := y2
  exact ⟨M', y1, i1, i2, i3, i4, i5⟩
theorem g77_Y {M : Mem} (h : SF M) {a b : Nat} {V : Nat → Nat → Nat} (hV : Vy a b V M) (h1 : mI M 65 1 = nI a) : ∃ M', f_X8_guild_77 FU 65 0 M = f_X8_guild_141 FU 65 0 M' ∧ SF M' ∧ mR M' = mR M ∧ mL M' = mL M ∧ (∀ x, x < 66 ∨ 68 < x → mI M' x = mI M x) ∧ (∀ j, j < 3 ∨ 8 ≤ j → mI M' 66 j = mI M 66 j) ∧ ∀ i, i < a → mI M' 67 i = nI (V 0 i) ∧ mI M' 66 (3 + i) = nI (V 5 i) ∧ mI M' 68 i = nI (V 1 i) := by
  obtain ⟨v0, ⟨v1, v2⟩, v3, v4⟩ := hV
  obtain ⟨M', y1, y2⟩ := lp_ex (F := fun fu o (X : Mem) => f_X8_guild_77 fu 65 (nI o) X) a (fun X => f_X8_guild_141 FU 65 0 X) (fun q X => SF X ∧ mR X = mR M ∧ mL X = mL M ∧ (∀ x, x < 66 ∨ 68 < x → mI X x = mI M x) ∧ (∀ j, j < 3 ∨ 8 ≤ j → mI X 66 j = mI M 66 j) ∧ ∀ i, i < q → mI X 67 i = nI (V 0 i) ∧ mI X 66 (3 + i) = nI (V 5 i) ∧ mI X 68 i = nI (V 1 i))
    (fun fu X hI => by
      obtain ⟨i1, i2, i3, i4, i5, i6⟩ := hI
      simp only [f_X8_guild_77]
      rw [gI_k (by simp only [KQ i1]), Option.bind_some, i4 65 (by decide), h1, if_pos (Int32.le_refl _)])
    (fun fu o X ho hI => by
      obtain ⟨i1, i2, i3, i4, i5, i6⟩ := hI
      obtain ⟨w1, w2, w3⟩ := v3 o ho
      simp only [f_X8_guild_77, m3, m31, m32]
      rw [gI_k (by simp only [KQ i1]), Option.bind_some, i4 65 (by decide), h1, if_neg (nI_ge ho (by omega))]
      simp only [RQ i1, Option.bind_some]
      rw [aI_k (by simp only [KQ i1]) (by simp only [LQ]; omega), Option.bind_some, i4 77 (by decide), w1, eI_k (by simp only [KQ i1]) (by simp only [LQ]; omega), Option.bind_some]
      have j1 : SF (sI X 67 o (nI (V 0 o))) := i1
      simp only [RQ j1, Option.bind_some]
      rw [aI_k (by simp only [KQ j1]) (by simp only [LQ]; omega), Option.bind_some, mI_sI_row (by decide), i4 77 (by decide), w2, show (3 : Int32) + nI o = nI (3 + o) from nI_add 3 o, eI_k (by simp only [KQ j1]) (by simp only [LQ]; omega), Option.bind_some]
      have j2 : SF (sI (sI X 67 o (nI (V 0 o))) 66 (3 + o) (nI (V 5 o))) := i1
      simp only [RQ j2, Option.bind_some]
      rw [aI_k (by simp only [KQ j2]) (by simp only [LQ]; omega), Option.bind_some, mI_sI_row (by decide), mI_sI_row (by decide), i4 77 (by decide), w3, eI_k (by simp only [KQ j2]) (by simp only [LQ]; omega), Option.bind_some, nI_1]
      refine ⟨_, rfl, i1, i2, i3, fun x hx => ?_, fun j hj => ?_, fun q hq => ⟨?_, ?_, ?_⟩⟩
      · rw [mI_sI_row (by omega), mI_sI_row (by omega), mI_sI_row (by omega)]; exact i4 x hx
      · rw [mI_sI_row (by omega), mI_sI, if_neg (by omega), mI_sI_row (by omega)]; exact i5 j hj
      · rw [mI_sI_row (by decide), mI_sI_row (by decide), mI_sI]
        by_cases c : q = o
        · rw [if_pos ⟨rfl, c⟩, c]
        · rw [if_neg (fun w => c w.2)]; exact (i6 q (by omega)).1
      · rw [mI_sI_row (by decide), mI_sI]
        by_cases c : q = o
        · rw [if_pos ⟨rfl, by omega⟩, c]
        · rw [if_neg (by omega), mI_sI_row (by decide)]; exact (i6 q (by omega)).2.1
      · rw [mI_sI]
        by_cases c : q = o
        · rw [if_pos ⟨rfl, c⟩, c]
        · rw [if_neg (fun w => c w.2), mI_sI_row (by decide), mI_sI_row (by decide)]; exact (i6 q (by omega)).2.2)
    a FU 0 M (by omega) (by unfold FU; omega) ⟨h, rfl, rfl, fun x _ => rfl, fun j _ => rfl, fun o ho => absurd ho (by omega)⟩
  obtain ⟨i1, i2, i3, i4, i5, i6⟩ := y2
  exact ⟨M', y1, i1, i2, i3, i4, i5, i6⟩
theorem Vy.congr {a b : Nat} {V : Nat → Nat → Nat} {M N : Mem} (h : Vy a b V M) (e1 : mI N 65 21 = mI M 65 21) (e2 : mI N 65 23 = mI M 65 23) (e7 : mI N 77 = mI M 77) (e8 : mI N 78 = mI M 78) : Vy a b V N := by
  unfold Vy at h ⊢
  rw [e1, e2, e7, e8]
  exact h
theorem guild_Y {M : Mem} (h : SF M) {a b : Nat} {V : Nat → Nat → Nat} (hV : Vy a b V M) : ∃ M', f_X8_guild_39 FU 65 0 M = some (nI b, M') ∧ FrG M M' ∧ (mI M' 65 1 = nI a ∧ mI M' 65 4 = nI b) ∧ (∀ i, i < a → mI M' 67 i = nI (V 0 i) ∧ mI M' 68 i = nI (V 1 i)) ∧ (∀ o, o < b → mI M' 69 o = nI (V 2 o) ∧ mI M' 70 o = nI (V 3 o) ∧ mI M' 71 o = nI (V 4 o)) ∧ mI M' 66 0 = 0 ∧ Part (mI M' 66) 0 a (st0 V) ∧ ∀ q, q < 3 → mI M' 66 (493 * (q + 1)) = -1 := by
  obtain ⟨v0, ⟨v1, v2⟩, v3, v4⟩ := id hV
  have key := lp_up (F := fun fu j (N : Mem) => f_X8_guild_39 fu 65 (nI j) N) 493 (fun N => f_X8_guild_77 FU 65 0 (sI (sI N 65 1 (nI a)) 65 4 (nI b))) (fun j N => sI N 66 (0 + j) 0) (fun j N => SF N ∧ mI N 65 21 = nI a ∧ mI N 65 23 = nI b)
    (fun fu N hI => by
      simp only [f_X8_guild_39]
      rw [if_pos (show (493 : Int32) ≤ nI 493 from Int32.le_refl _), gI_k (by simp only [KQ hI.1]), Option.bind_some, pI_k (by simp only [KQ hI.1]), Option.bind_some, gI_k (by rw [kd_sI]; simp only [KQ hI.1]), Option.bind_some, pI_k (by rw [kd_sI]; simp only [KQ hI.1]), Option.bind_some, mI_sI, if_neg (by decide), hI.2.1, hI.2.2])
    (fun fu j N hj hI => by
      refine ⟨?_, hI.1, ?_, ?_⟩
      · simp only [f_X8_guild_39]
        rw [if_neg (show ¬ (493 : Int32) ≤ nI j from nI_ge (b := 493) hj (by decide))]
        simp only [RQ hI.1, Option.bind_some]
        rw [eI_k (by simp only [KQ hI.1]) (by simp only [LQ]; omega), Option.bind_some, nI_1, Nat.zero_add]
      · rw [mI_sI_row (by decide)]; exact hI.2.1
      · rw [mI_sI_row (by decide)]; exact hI.2.2)
    493 FU 0 M (by omega) (by unfold FU; omega) ⟨h, v1, v2⟩
  rw [iter_sI (M := M) (x := 66) (p := 0) (v := fun _ => 0) 493] at key
  generalize hM2 : sW M 66 (fun i => if 0 ≤ i ∧ i < 0 + 493 then (fun _ => (0 : Int32)) (i - 0) else mI M 66 i) = M2 at key
  have hS2 : SF M2 := by rw [← hM2]; exact h
  have e2 : ∀ x, x ≠ 66 → mI M2 x = mI M x := fun x hx => by rw [← hM2, mI_ne hx]
  have z2 : ∀ j, j < 493 → mI M2 66 j = 0 := fun j hj => by rw [← hM2, mI_eq, if_pos (by omega)]
  have R2 : mR M2 = mR M := by rw [← hM2]; rfl
  have L2 : mL M2 = mL M := by rw [← hM2]; rfl
  have V3 : Vy a b V (sI (sI M2 65 1 (nI a)) 65 4 (nI b)) := hV.congr (by rw [mI_sI, if_neg (by decide), mI_sI, if_neg (by decide), e2 65 (by decide)]) (by rw [mI_sI, if_neg (by decide), mI_sI, if_neg (by decide), e2 65 (by decide)]) (by rw [mI_sI_row (by decide), mI_sI_row (by decide), e2 77 (by decide)]) (by rw [mI_sI_row (by decide), mI_sI_row (by decide), e2 78 (by decide)])
  have w31 : mI (sI (sI M2 65 1 (nI a)) 65 4 (nI b)) 65 1 = nI a := by rw [mI_sI, if_neg (by decide), mI_sI, if_pos ⟨rfl, rfl⟩]
  have w34 : mI (sI (sI M2 65 1 (nI a)) 65 4 (nI b)) 65 4 = nI b := by rw [mI_sI, if_pos ⟨rfl, rfl⟩]
  have w3j : ∀ j, j ≠ 1 → j ≠ 4 → mI (sI (sI M2 65 1 (nI a)) 65 4 (nI b)) 65 j = mI M 65 j := fun j q1 q2 => by rw [mI_sI, if_neg (by omega), mI_sI, if_neg (by omega), e2 65 (by decide)]
  have w3x : ∀ x, x ≠ 65 → mI (sI (sI M2 65 1 (nI a)) 65 4 (nI b)) x = mI M2 x := fun x q => by rw [mI_sI_row q, mI_sI_row q]
  have hS3 : SF (sI (sI M2 65 1 (nI a)) 65 4 (nI b)) := hS2
  have R3 : mR (sI (sI M2 65 1 (nI a)) 65 4 (nI b)) = mR M := R2
  have L3 : mL (sI (sI M2 65 1 (nI a)) 65 4 (nI b)) = mL M := L2
  generalize sI (sI M2 65 1 (nI a)) 65 4 (nI b) = M3 at *
  obtain ⟨M4, a1, a2, a3, a4, a5, a6, a7⟩ := g77_Y hS3 V3 w31
  have V4 : Vy a b V M4 := V3.congr (by rw [a5 65 (by decide)]) (by rw [a5 65 (by decide)]) (a5 77 (by decide)) (a5 78 (by decide))
  obtain ⟨M5, b1, b2, b3, b4, b5, b6⟩ := g141_Y a2 V4 (by rw [a5 65 (by decide)]; exact w34)
  obtain ⟨M6, c1, c2, c3, c4, c5, c6, c7⟩ := g203_Y b2
  have z6 : ∀ j, j < 3 ∨ (8 ≤ j ∧ j < 493) → mI M6 66 j = 0 := fun j hj => by rw [c6 j (by omega), b5 66 (by decide), a6 j (by omega), w3x 66 (by decide), z2 j (by omega)]
  have e65 : mI M6 65 = mI M3 65 := by rw [c5 65 (by decide), b5 65 (by decide), a5 65 (by decide)]
  refine ⟨M6, ?_, ⟨c2, by rw [c3, b3, a3, R3], by rw [c4, b4, a4, L3], fun x q1 q2 => ?_, fun j q1 q2 => ?_⟩, ⟨?_, ?_⟩, fun i hi => ⟨?_, ?_⟩, fun o ho => ?_, z6 0 (by omega), ⟨?_, ?_, fun i hi => ⟨?_, ?_⟩⟩, c7⟩
  · refine (show f_X8_guild_39 FU 65 0 M = _ from key.1).trans ?_
    rw [a1, b1, c1, b5 65 (by decide), a5 65 (by decide), w34]
  · rw [c5 x (by omega), b5 x (by omega), a5 x (by omega), w3x x q1, e2 x (by omega)]
  · rw [e65]; exact w3j j q1 q2
  · rw [e65]; exact w31
  · rw [e65]; exact w34
  · rw [c5 67 (by decide), b5 67 (by decide)]; exact (a7 i hi).1
  · rw [c5 68 (by decide), b5 68 (by decide)]; exact (a7 i hi).2.2
  · rw [c5 69 (by decide), c5 70 (by decide), c5 71 (by decide)]; exact b6 o ho
  · rw [z6 (0 + 1) (by omega)]; rfl
  · rw [z6 (0 + 2) (by omega)]; rfl
  · rw [show 0 + 3 + i = 3 + i by omega, c6 (3 + i) (by omega), b5 66 (by decide)]; exact (a7 i hi).2.1
  · rw [z6 (0 + 8 + i) (by omega)]; rfl
theorem op9 {M : Mem} (h : Inv M) (a1 : Int32) : ∃ M', lawOp_9 a1 M = some M' ∧ Inv M' := by
  have hS := h.1
  unfold lawOp_9 f_X7_guild f_X8_guild
  simp only [KQ hS, if_true]
  rcases ixc a1 4 (by decide) with h1 | ⟨t, ht, rfl⟩
  · rw [textOf_bad hS h1]
    simp only [Option.bind_some, if_true, KQ hS]
    rw [isText_bad h1]
    simp only [Option.bind_some, if_true]
    exact ⟨M, rfl, h⟩
  · obtain ⟨w1, w2, w3⟩ := h.2.2.1 t ht
    rw [textOf_ok hS ht]
    simp only [Option.bind_some, show ¬ 51 + 2 * t = 0 by omega, if_false]
    rw [isMissingT_X hS ht]
    rcases szc w1 with hz | ⟨z, hz60, hz⟩
    · simp only [hz, if_true, Option.bind_some, show ¬ (1 : Int32) = 0 by decide, if_false]
      rw [show f_X7_refuse 1 1 M = some (-3, rf 1 M) from refuse_X hS (by decide)]
      simp only [Option.bind_some, KQ hS.rf, if_true]
      rw [isText_ok ht]
      simp only [Option.bind_some, show ¬ (1 : Int32) = 0 by decide, if_false, RQ hS.rf]
      rw [aI_k (by simp only [KQ hS.rf]) (by simp only [LQ]; omega), rf_row (by decide) (by decide), w2, hz, show f_X8_find 65 1 (rf 1 M) = some (-3, rm_ 1 (rf 1 M)) from find_Y hS.rf (by decide)]
      simp only [Option.bind_some, show ¬ (0 : Int32) ≤ -1 by decide, if_false, if_true]
      exact ⟨_, rfl, h.refused (by decide)⟩
    · obtain ⟨s, hs, s3, gs⟩ := h.sp
      obtain ⟨N, x1, x2, x3⟩ := readFrom_X hS hs ht hz60 hz
      simp only [hz, n1 (show z < 2 ^ 31 by omega), if_false, Option.bind_some, if_true, gs, x1]
      have hok := prs_ok (f := mI M (52 + 2 * t)) hz60 61 0 0 0 (fun _ _ => 0) (by omega) (by omega) (by omega)
      have yk := fun (X : Mem) (hX : SF X) (q1 : mI X 74 = mI M 74) (q2 : mI X 75 = mI M 75) => faultOf_Y hX ht hz60 (f := mI M (52 + 2 * t)) (by rw [q1, w2]; exact hz) (fun j hj => by rw [q2]; exact (w3 j hj).1)
      generalize prs (mI M (52 + 2 * t)) z 61 0 0 0 (fun _ _ => 0) = P at *
      obtain ⟨v, a, b, V⟩ := P
      by_cases c9 : v = -9
      · subst c9
        obtain ⟨hb0, ha0⟩ := hok rfl (by decide)
        replace hb0 : 0 < b := hb0
        replace ha0 : 0 < a := ha0
        replace x3 : Rs s a b V N := x3
        obtain ⟨g0, g1, g2, g3, r, s', n, m, G, d, cd, ⟨q1, q2, q3⟩, g5⟩ := h
        have hss : s' = s := q3.symm.trans s3
        subst hss
        obtain ⟨N5, p1, p2, p3, p4, p5, p6, p7, p8, p9⟩ := guild_X x2.1 q1 (by rw [x2.2.1]; exact q2) (by rw [x2.2.1]; exact q3) x3
        obtain ⟨M6, y1, y2, y3⟩ := yk N5 p2 (by rw [p6 74 (by omega), x2.2.2.2 74 (by omega)]) (by rw [p6 75 (by omega), x2.2.2.2 75 (by omega)])
        replace y3 : Vy a b V M6 := y3
        obtain ⟨M7, k1, k2, k3, k4, k5, k6, k7, k8⟩ := guild_Y y2.1 y3
        simp only [if_true, p1, Option.bind_some, KQ p2, isText_ok ht, show ¬ (1 : Int32) = 0 by decide, if_false, RQ p2]
        rw [aI_k (by simp only [KQ p2]) (by simp only [LQ]; omega), p6 74 (by omega), x2.2.2.2 74 (by omega), w2, hz]
        simp only [Option.bind_some, nI_pos' (show z < 2 ^ 31 by omega), if_true, y1, k1]
        have ex : ∀ x, x ≠ 65 → x ≠ 77 → x ≠ 78 → x < 66 ∨ 71 < x → mI M7 x = mI N5 x := fun x u1 u2 u3 u4 => (k2.2.2.2.1 x u1 u4).trans (y2.2.2.2.1 x u1 u2 u3)
        have eN : ∀ x, x ≠ 65 → x ≠ 77 → x ≠ 78 → x < 22 ∨ (24 < x ∧ x < 66 ∧ x ≠ 28 ∧ x ≠ 59 ∧ x ≠ 61 ∧ x ≠ 63) ∨ 71 < x → mI M7 x = mI N x := fun x u1 u2 u3 u4 => (ex x u1 u2 u3 (by omega)).trans (p6 x (by omega))
        have eM : ∀ x, x ≠ 65 → x ≠ 77 → x ≠ 78 → x < 4 ∨ x = 38 ∨ (39 ≤ x ∧ x < 59) ∨ 71 < x → mI M7 x = mI M x := fun x u1 u2 u3 u4 => (eN x u1 u2 u3 (by omega)).trans (x2.2.2.2 x (by omega))
        have e65 : ∀ j, j < 17 → j ≠ 1 → j ≠ 4 → mI M7 65 j = mI M 65 j := fun j u1 u2 u3 => by rw [k2.2.2.2.2 j u2 u3, y2.2.2.2.2 j u1, p6 65 (by omega), x2.2.2.2 65 (by omega)]
        have eL : mL M7 = mL M := by rw [k2.2.2.1, y2.2.2.1, p5, x2.2.2.1]
        have eR : mR M7 = mR N5 := by rw [k2.2.1, y2.2.1]
        have xR : Rs s' a b V M7 := x3.congr (fun x u1 u2 => eN x (by omega) (by omega) (by omega) (by omega))
        obtain ⟨r0, ⟨r1, r2⟩, r3, r4, r5⟩ := xR
        refine ⟨M7, rfl, k2.1, g1.congr (fun x hx => eM x (by omega) (by omega) (by omega) (by omega)), g2.congr (fun x hx => eM x (by omega) (by omega) (by omega) (by omega)), ?_, s', r, a, b, V, 0, fun _ => 0, ⟨by omega, by rw [eR]; exact p3, by rw [eR]; exact p4⟩, ⟨⟨r0.1, r0.2, by omega⟩, ⟨k3.1, k3.2, r1, r2⟩, fun i hi => ?_, fun o ho => ?_, r5⟩, ⟨by omega, ?_, k6, fun k hk => absurd hk (by omega), k7, fun k hk => absurd hk (by omega)⟩, ?_, fun q hq => Or.inl ⟨?_, k8 q hq⟩⟩
        · obtain ⟨t1, t2, t3, t4, t5⟩ := g3
          refine ⟨?_, ?_, ?_, ?_, fun f hf => ?_⟩
          · rw [e65 12 (by decide) (by decide) (by decide), eM 1 (by decide) (by decide) (by decide) (by omega)]; exact t1
          · rw [eL]; exact t2
          · rw [eL]; exact t3
          · rw [e65 15 (by decide) (by decide) (by decide), eM 1 (by decide) (by decide) (by decide) (by omega)]; exact t4
          · rw [eM 76 (by decide) (by decide) (by decide) (by omega), eM 38 (by decide) (by decide) (by decide) (by omega)]; exact t5 f hf
        · obtain ⟨u1, u2, u3⟩ := r3 i hi
          exact ⟨⟨u1.1, (k4 i hi).1, u1.2⟩, ⟨u2.1, (k4 i hi).2, u2.2⟩, u3⟩
        · obtain ⟨u1, u2, u3⟩ := r4 o ho
          exact ⟨⟨u1.1, (k5 o ho).1, u1.2⟩, ⟨u2.1, (k5 o ho).2.1, u2.2⟩, ⟨u3.1, (k5 o ho).2.2, u3.2⟩⟩
        · rw [ex 28 (by decide) (by decide) (by decide) (by omega)]; exact p7
        · rw [ex 22 (by decide) (by decide) (by decide) (by omega), ex 23 (by decide) (by decide) (by decide) (by omega), ex 24 (by decide) (by decide) (by decide) (by omega)]; exact p9
        · rw [ex (59 + 2 * q) (by omega) (by omega) (by omega) (by omega)]; exact p8 q hq
      · obtain ⟨M', y1, y2, -⟩ := yk N x2.1 (by rw [x2.2.2.2 74 (by omega)]) (by rw [x2.2.2.2 75 (by omega)])
        simp only [if_neg c9, Option.bind_some, KQ x2.1, if_true, isText_ok ht, show ¬ (1 : Int32) = 0 by decide, if_false, RQ x2.1]
        rw [aI_k (by simp only [KQ x2.1]) (by simp only [LQ]; omega), x2.2.2.2 74 (by omega), w2, hz]
        simp only [Option.bind_some, nI_pos' (show z < 2 ^ 31 by omega), if_true, y1, if_neg c9]
        exact ⟨M', rfl, h.rd s3 x2 y2⟩
