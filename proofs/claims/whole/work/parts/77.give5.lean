def FrW (M N : Mem) : Prop := SF N ∧ (∀ x j, x ≠ 31 → mR N x j = mR M x j) ∧ mL N = mL M ∧ ∀ x, x < 31 ∨ 34 < x → mI N x = mI M x
theorem Wn.r0 {n m q e : Nat} {S : Nat → Nat → Nat} (hB : Bd n m S q) : Wn S n m e 0 0 S := by
  refine ⟨fun i hi => ⟨Nat.le_refl _, (hB.1 i hi).1⟩, hB.2.1, fun _ _ _ => rfl, Nat.zero_le _, ?_, by omega, hB.2.1⟩
  by_cases c : e = 0
  · rw [if_pos c]; rfl
  · rw [if_neg c]; rfl
theorem searchG_X {M : Mem} {r n m : Nat} {G S : Nat → Nat → Nat} {q : Nat} (h : Gd M r n m G) (hNw : NwP n S (mI M 22) (mI M (22 + 1)) (mI M (22 + 2))) (hB : Bd n m S q) {e : Nat} (he : e ≤ 1) : ∃ M', f_X1_search 31 r 22 (nI e) M = some (nI (Bv G n e m 0 S), M') ∧ FrW M M' ∧ ∀ j, j < m → mI M' 32 j = dv ((bp G n e m 0 S (fun _ => 0)).2 j) := by
  have hnm := h.nm
  have hr := h.2.1
  have n3 : ∀ w, (31, 3, w) ∉ rT := by
    intro w hw
    have hall : ∀ q ∈ rT, ¬ (q.1 = 31 ∧ q.2.1 = 3) := by decide +kernel
    exact hall _ hw ⟨rfl, rfl⟩
  have hbz : bz (nI e) = some (nI e) := by
    have : e = 0 ∨ e = 1 := by omega
    rcases this with q | q <;> rw [q] <;> rfl
  have S1 : SF (sR M 31 3 r) := SF.sR h.1 n3
  unfold f_X1_search
  rw [if_pos (by simp only [KQ h.1]), pN_k (by simp only [KQ h.1]) (by omega), Option.bind_some, gI_k (by simp only [KQ S1]), Option.bind_some, mI_sR, hNw.1, pI_k (by simp only [KQ S1]), Option.bind_some, hbz, Option.bind_some, pI_k (by rw [kd_sI]; simp only [KQ S1]), Option.bind_some, pI_k (by rw [kd_sI, kd_sI]; simp only [KQ S1]), Option.bind_some]
  have S9 : SF (sI (sI (sI (sR M 31 3 r) 31 4 (nI (S 2 0))) 31 5 (nI e)) 31 6 (-1)) := S1
  have e9 : ∀ x, x ≠ 31 → mI (sI (sI (sI (sR M 31 3 r) 31 4 (nI (S 2 0))) 31 5 (nI e)) 31 6 (-1)) x = mI M x := fun x hx => by rw [mI_sI_row hx, mI_sI_row hx, mI_sI_row hx, mI_sR]
  have r9 : ∀ x j, x ≠ 31 → mR (sI (sI (sI (sR M 31 3 r) 31 4 (nI (S 2 0))) 31 5 (nI e)) 31 6 (-1)) x j = mR M x j := fun x j hx => by
    show mR (sR M 31 3 r) x j = mR M x j
    rw [mR_sR, if_neg (fun w => hx w.1)]
  have g9 : Gx r (S 2 0) e (sI (sI (sI (sR M 31 3 r) 31 4 (nI (S 2 0))) 31 5 (nI e)) 31 6 (-1)) := by
    refine ⟨?_, ?_, ?_⟩
    · show mR (sR M 31 3 r) 31 3 = r
      rw [mR_sR, if_pos ⟨rfl, rfl⟩]
    · rw [mI_sI, if_neg (by decide), mI_sI, if_neg (by decide), mI_sI, if_pos ⟨rfl, rfl⟩]
    · rw [mI_sI, if_neg (by decide), mI_sI, if_pos ⟨rfl, rfl⟩]
  have b9 : mI (sI (sI (sI (sR M 31 3 r) 31 4 (nI (S 2 0))) 31 5 (nI e)) 31 6 (-1)) 31 6 = nI 0 - 1 := by rw [mI_sI, if_pos ⟨rfl, rfl⟩]; rfl
  have L9 : mL (sI (sI (sI (sR M 31 3 r) 31 4 (nI (S 2 0))) 31 5 (nI e)) 31 6 (-1)) = mL M := rfl
  generalize sI (sI (sI (sR M 31 3 r) 31 4 (nI (S 2 0))) 31 5 (nI e)) 31 6 (-1) = M9 at *
  simp only [RQ S9, Option.bind_some]
  rw [show cpI M9 23 0 33 0 5 = _ from cpI_k (a := 0) (b := 0) (n := 5) (by simp only [KQ S9]) (by simp only [KQ S9]) (by simp only [LQ]; omega) (by simp only [LQ]; omega), Option.bind_some]
  have S15 : SF (sW M9 33 (va_cpy (mI M9 23) (mI M9 33) 0 0 5)) := S9
  simp only [RQ S15, Option.bind_some]
  rw [fillI (by simp only [KQ S15]), Option.bind_some]
  have S20 : SF (sW (sW M9 33 (va_cpy (mI M9 23) (mI M9 33) 0 0 5)) 32 (fun j => if j < ln 32 then -9 else mI (sW M9 33 (va_cpy (mI M9 23) (mI M9 33) 0 0 5)) 32 j)) := S9
  have e20 : ∀ x, x ≠ 32 → x ≠ 33 → mI (sW (sW M9 33 (va_cpy (mI M9 23) (mI M9 33) 0 0 5)) 32 (fun j => if j < ln 32 then -9 else mI (sW M9 33 (va_cpy (mI M9 23) (mI M9 33) 0 0 5)) 32 j)) x = mI M9 x := fun x q1 q2 => by rw [mI_ne q1, mI_ne q2]
  have r20 : mR (sW (sW M9 33 (va_cpy (mI M9 23) (mI M9 33) 0 0 5)) 32 (fun j => if j < ln 32 then -9 else mI (sW M9 33 (va_cpy (mI M9 23) (mI M9 33) 0 0 5)) 32 j)) = mR M9 := rfl
  have L20 : mL (sW (sW M9 33 (va_cpy (mI M9 23) (mI M9 33) 0 0 5)) 32 (fun j => if j < ln 32 then -9 else mI (sW M9 33 (va_cpy (mI M9 23) (mI M9 33) 0 0 5)) 32 j)) = mL M9 := rfl
  have p20 : Sp n S (sW (sW M9 33 (va_cpy (mI M9 23) (mI M9 33) 0 0 5)) 32 (fun j => if j < ln 32 then -9 else mI (sW M9 33 (va_cpy (mI M9 23) (mI M9 33) 0 0 5)) 32 j)) := by
    intro i hi
    rw [mI_ne (by decide), mI_eq, pk_cpy_in (by omega) (by omega), show 0 + (i - 0) = i by omega, e9 23 (by decide)]
    exact (hNw.2.2 i hi).1
  generalize sW (sW M9 33 (va_cpy (mI M9 23) (mI M9 33) 0 0 5)) 32 (fun j => if j < ln 32 then -9 else mI (sW M9 33 (va_cpy (mI M9 23) (mI M9 33) 0 0 5)) 32 j) = M20 at *
  have eM : ∀ x, x < 31 ∨ 34 < x → mI M20 x = mI M x := fun x hx => by rw [e20 x (by omega) (by omega), e9 x (by omega)]
  have G20 : Gd M20 r n m G := h.congr S20 (by rw [r20]; exact r9 1 2 (by decide)) (fun x hx => eM x (by omega)) (by rw [eM 65 (by omega)]) (by rw [eM 65 (by omega)])
  have x20 : Gx r (S 2 0) e M20 := ⟨by rw [r20]; exact g9.1, by rw [e20 31 (by decide) (by decide)]; exact g9.2.1, by rw [e20 31 (by decide) (by decide)]; exact g9.2.2⟩
  obtain ⟨M22, s1', s2', s3'⟩ := setB_X (e := e) G20 x20 he p20 rfl hB.2.1 (fun i hi => (hB.1 i hi).1)
  rw [s1', Option.bind_some]
  have G22 := s2'.g G20
  have x22 := s2'.x x20
  have p22 : Sp n S M22 := fun i hi => by rw [s2'.2.2.2 33 (by decide)]; exact p20 i hi
  have b22 : mI M22 31 6 = nI 0 - 1 := by rw [s2'.2.2.2 31 (by decide), e20 31 (by decide) (by decide)]; exact b9
  have hW := Wn.r0 (e := e) hB
  have hBv := Bv_bd G22 m 0 0 S (by omega) hW
  have hbd := bd_le G22 (S0 := S) (e := e) m 0 (by omega)
  obtain ⟨M24, c1, c2, c3, c4⟩ := climb_X G22 x22 he rfl hB.2.1 s3' m 0 0 S 0 M22 8 (by omega) (by omega) (FrV.id G22.1) p22 hW b22 (by decide)
  rw [Nat.max_eq_right (Nat.zero_le _), Nat.zero_add] at c4
  obtain ⟨M26, d1, d2, d3, d4, d5, d6⟩ := settle_X G22 x22 he rfl hB.2.1 s3' (b := Bv G n e m 0 S + 1) (by omega) m 0 0 S (fun _ => 0) M24 8 (by omega) (by omega) c2 c3 hW c4 (by omega)
  rw [show f_X1_climb 8 31 0 0 M22 = some M24 from c1, Option.bind_some, show f_X1_settle 8 31 0 0 M24 = _ from d1, Option.bind_some, gI_k (by simp only [KQ d2.1]), Option.bind_some, d4, s1]
  refine ⟨M26, rfl, ⟨d2.1, fun x j hx => by rw [d2.2.1, s2'.2.1, r20]; exact r9 x j hx, by rw [d2.2.2.1, s2'.2.2.1, L20, L9], fun x hx => by rw [d2.2.2.2.1 x (by omega), s2'.2.2.2 x (by omega)]; exact eM x hx⟩, fun j hj => d6 (by omega) j (Nat.zero_le _) hj⟩
/-! ===== the model: its rows one behind the other ===== -/
def FrZ (M N : Mem) : Prop := SF N ∧ mR N = mR M ∧ mL N = mL M ∧ (∀ x, x ≠ 66 → x ≠ 79 → x ≠ 80 → mI N x = mI M x) ∧ ∀ j, j < 1972 → mI N 66 j = mI M 66 j
theorem FrZ.tr {A B C : Mem} (h1 : FrZ A B) (h2 : FrZ B C) : FrZ A C := ⟨h2.1, h2.2.1.trans h1.2.1, h2.2.2.1.trans h1.2.2.1, fun x q1 q2 q3 => (h2.2.2.2.1 x q1 q2 q3).trans (h1.2.2.2.1 x q1 q2 q3), fun j hj => (h2.2.2.2.2 j hj).trans (h1.2.2.2.2 j hj)⟩
theorem FrZ.id {M : Mem} (h : SF M) : FrZ M M := ⟨h, rfl, rfl, fun _ _ _ _ => rfl, fun _ _ => rfl⟩
theorem FrZ.g {M N : Mem} {r n m : Nat} {G : Nat → Nat → Nat} (h : FrZ M N) (hG : Gd M r n m G) : Gd N r n m G := hG.congr h.1 (by rw [h.2.1]) (fun x hx => h.2.2.2.1 x (by omega) (by omega) (by omega)) (by rw [h.2.2.2.1 65 (by decide) (by decide) (by decide)]) (by rw [h.2.2.2.1 65 (by decide) (by decide) (by decide)])
theorem FrZ.y {M N : Mem} (h : FrY M N) : FrZ M N := ⟨h.1, h.2.1, h.2.2.1, fun x q1 _ _ => h.2.2.2.1 x q1, h.2.2.2.2⟩
theorem FrZ.s {M : Mem} (h : SF M) {x j : Nat} (hx : x = 79 ∨ x = 80) (v : Int32) : FrZ M (sI M x j v) := ⟨h, rfl, rfl, fun y q1 q2 q3 => mI_sI_row (by omega), fun k _ => by rw [mI_sI_row (by omega)]⟩
def stG (G : Nat → Nat → Nat) (c : Nat → Nat) (o : Nat) (S : Nat → Nat → Nat) : Option (Nat → Nat → Nat) := if c o = 0 then some S else if can G S (c o - 1) o = true then some (sighed G S (c o - 1) o) else none
def gs (G : Nat → Nat → Nat) (c : Nat → Nat) (S0 : Nat → Nat → Nat) : Nat → Option (Nat → Nat → Nat)
  | 0 => some S0
  | o + 1 => (gs G c S0 o).bind (stG G c o)
theorem gs_none {G : Nat → Nat → Nat} {c : Nat → Nat} {S0 : Nat → Nat → Nat} {o : Nat} (h : gs G c S0 o = none) : ∀ k, gs G c S0 (o + k) = none := by
  intro k
  induction k with
  | zero => exact h
  | succ k ih => show (gs G c S0 (o + k)).bind _ = none; rw [ih]; rfl
theorem gs_congr {G : Nat → Nat → Nat} {c c' : Nat → Nat} {S0 : Nat → Nat → Nat} : ∀ o, (∀ j, j < o → c' j = c j) → gs G c' S0 o = gs G c S0 o := by
  intro o
  induction o with
  | zero => intro _; rfl
  | succ o ih =>
    intro h
    show (gs G c' S0 o).bind (stG G c' o) = (gs G c S0 o).bind (stG G c o)
    have : stG G c' o = stG G c o := by funext S; unfold stG; rw [h o (by omega)]
    rw [ih (fun j hj => h j (by omega)), this]
def Rw (m n : Nat) (c : Nat → Nat) (M : Mem) : Prop := ∀ j, j < m → mI M 79 j = nI (c j) ∧ c j ≤ n
theorem does_Y {M : Mem} {r n m : Nat} {G S0 : Nat → Nat → Nat} {q0 : Nat} (h : Gd M r n m G) (hP : Part (mI M 66) 0 n S0) (hB : Bd n m S0 q0) {c : Nat → Nat} (hR : Rw m n c M) : ∃ v M', f_X8_doesGivens 65 M = some (v, M') ∧ FrY M M' ∧ ((v = 0 ∧ gs G c S0 m = none) ∨ (v = 1 ∧ ∃ S, gs G c S0 m = some S ∧ Part (mI M' 66) 1972 n S)) := by
  have hnm := h.nm
  obtain ⟨M2, c1, c2, -, c3⟩ := copyPart_P h.1 hnm.1 (a := 0) (b := 1972) (by omega) (by omega) (by omega) (by omega) hP
  have loop : ∀ k o S q X fu, o + k = m → k < fu → FrY M X → gs G c S0 o = some S → Part (mI X 66) 1972 n S → Bd n m S q → ∃ v M', f_X8_doesGivens_10 fu 65 (nI o) X = some (v, M') ∧ FrY M M' ∧ ((v = 0 ∧ gs G c S0 m = none) ∨ (v = 1 ∧ ∃ S, gs G c S0 m = some S ∧ Part (mI M' 66) 1972 n S)) := by
    intro k
    induction k with
    | zero =>
      intro o S q X fu ho hfu hF hg hp hb
      obtain ⟨fu, rfl⟩ : ∃ g, fu = g + 1 := ⟨fu - 1, by omega⟩
      have hom : o = m := by omega
      refine ⟨1, X, ?_, hF, Or.inr ⟨rfl, S, by rw [← hom]; exact hg, hp⟩⟩
      simp only [f_X8_doesGivens_10]
      rw [(hF.g h).sz.2.2.2, Option.bind_some, hom, if_pos (Int32.le_refl _)]
    | succ k ih =>
      intro o S q X fu ho hfu hF hg hp hb
      obtain ⟨fu, rfl⟩ : ∃ g, fu = g + 1 := ⟨fu - 1, by omega⟩
      have hom : o < m := by omega
      have hGX := hF.g h
      obtain ⟨hr1, hr2⟩ := hR o hom
      have hgs : gs G c S0 (o + 1) = stG G c o S := by show (gs G c S0 o).bind (stG G c o) = _; rw [hg]; rfl
      simp only [f_X8_doesGivens_10, RQ hF.1, Option.bind_some]
      rw [hGX.sz.2.2.2, Option.bind_some, if_neg (nI_ge hom (by omega)), aI_k (x := 79) (by simp only [KQ hF.1]) (by simp only [LQ]; omega), Option.bind_some, hF.2.2.2.1 79 (by decide), hr1, nI_1]
      by_cases q0' : c o = 0
      · rw [q0', if_pos (by decide)]
        exact ih (o + 1) S q X fu (by omega) (by omega) hF (by rw [hgs]; unfold stG; rw [if_pos q0']) hp hb
      · have e1 : nI (c o) - 1 = nI (c o - 1) := pk_sub (a := c o) (b := 1) (by omega)
        have hi : c o - 1 < n := by omega
        have h6 := lt64 hnm.2.1 hb.2.1
        have h9 := (hb.1 _ hi).1
        rw [e1, if_neg (nI_pos (by omega)), show f_X8_can 65 1972 (nI (c o - 1)) (nI o) X = _ from can_Y hGX (b := 1972) (by omega) hp h6 hi hom h9, Option.bind_some]
        by_cases hc : can G S (c o - 1) o = true
        · obtain ⟨N', u1, u2, u3, u4, u5, u6, u7⟩ := sighsAt_Y hGX (b := 1972) (by omega) hp hi hom (can_tk hc).2.2
          rw [if_pos hc, if_neg (show ¬ (1 : Int32) = 0 by decide), show f_X8_sighsAt 65 1972 (nI (c o - 1)) (nI o) X = some N' from u1, Option.bind_some]
          exact ih (o + 1) (sighed G S (c o - 1) o) (q + 1) N' fu (by omega) (by omega) (hF.tr ⟨u2, u3, u4, u5, fun j hj => u6 j (by omega)⟩) (by rw [hgs]; unfold stG; rw [if_neg q0', if_pos hc]) u7 (sighed_Bd h hb hi hom hc)
        · rw [if_neg hc, if_pos rfl]
          have hn : gs G c S0 (o + 1) = none := by rw [hgs]; unfold stG; rw [if_neg q0', if_neg hc]
          have hn2 := gs_none hn k
          rw [show o + 1 + k = m by omega] at hn2
          exact ⟨0, X, rfl, hF, Or.inl ⟨rfl, hn2⟩⟩
  unfold f_X8_doesGivens
  simp only [KQ h.1, if_true, show f_X8_copyPart 65 0 1972 M = some M2 from c1, Option.bind_some]
  exact loop m 0 S0 q0 M2 FU (by omega) (by unfold FU; omega) c2 rfl c3 hB
theorem nx7_Y {M : Mem} {r n m : Nat} {G : Nat → Nat → Nat} (h : Gd M r n m G) {p : Nat} : ∀ t fu X, p + t ≤ m → t < fu → FrZ M X → (∀ j, p ≤ j → j < p + t → mI X 79 j = nI n) → ∃ X' fu', f_X8_nextGivens_7 fu 65 (nI (p + t) - 1) X = f_X8_nextGivens_7 (fu' + 1) 65 (nI p - 1) X' ∧ FrZ M X' ∧ (∀ j, j < p ∨ p + t ≤ j → mI X' 79 j = mI X 79 j) ∧ (∀ j, p ≤ j → j < p + t → mI X' 79 j = 0) ∧ mI X' 80 = mI X 80 := by
  have hnm := h.nm
  intro t
  induction t with
  | zero =>
    intro fu X _ hfu hF _
    exact ⟨X, fu - 1, by rw [show fu - 1 + 1 = fu by omega]; rfl, hF, fun _ _ => rfl, fun j q1 q2 => absurd q2 (by omega), rfl⟩
  | succ t ih =>
    intro fu X hp hfu hF hn
    obtain ⟨fu, rfl⟩ : ∃ g, fu = g + 1 := ⟨fu - 1, by omega⟩
    obtain ⟨X', fu', y1, y2, y3, y4, y5⟩ := ih fu (sI X 79 (p + t) 0) (by omega) (by omega) (hF.tr (FrZ.s hF.1 (Or.inl rfl) _)) (fun j q1 q2 => by rw [mI_sI, if_neg (by omega)]; exact hn j q1 (by omega))
    refine ⟨X', fu', ?_, y2, fun j hj => ?_, fun j q1 q2 => ?_, ?_⟩
    · refine Eq.trans ?_ y1
      rw [show p + (t + 1) = (p + t) + 1 by omega, s1, f_X8_nextGivens_7]
      rw [if_neg (nI_pos (by omega))]
      simp only [RQ hF.1, Option.bind_some]
      rw [aI_k (x := 79) (by simp only [KQ hF.1]) (by simp only [LQ]; omega), Option.bind_some, hn (p + t) (by omega) (by omega), (hF.g h).sz.2.2.1, Option.bind_some, if_pos rfl, eI_k (x := 79) (by simp only [KQ hF.1]) (by simp only [LQ]; omega), Option.bind_some, ad1]
    · rw [y3 j (by omega), mI_sI, if_neg (by omega)]
    · by_cases c : j = p + t
      · rw [y3 j (by omega), c, mI_sI, if_pos ⟨rfl, rfl⟩]
      · exact y4 j q1 (by omega)
    · rw [y5, mI_sI_row (by decide)]
