theorem Sp.dn {n : Nat} {G S : Nat → Nat → Nat} {M : Mem} (h : Sp n S M) {i o : Nat} : Sp n (sighed G S i o) (sI M 33 i (nI (S 0 i - tk (G 0 i) (G 3 o)))) := by
  intro j hj
  rw [mI_sI]
  show _ = nI (if j = i then S 0 i - tk (G 0 i) (G 3 o) else S 0 j)
  by_cases q : j = i
  · rw [if_pos ⟨rfl, q⟩, if_pos q]
  · rw [if_neg (fun w => q w.2), if_neg q]; exact h j hj
theorem Sp.up {n : Nat} {G S : Nat → Nat → Nat} {M : Mem} {i o : Nat} (h : Sp n (sighed G S i o) M) : Sp n S (sI M 33 i (nI (S 0 i))) := by
  intro j hj
  rw [mI_sI]
  by_cases q : j = i
  · rw [if_pos ⟨rfl, q⟩, q]
  · rw [if_neg (fun w => q w.2), h j hj]
    show nI (if j = i then S 0 i - tk (G 0 i) (G 3 o) else S 0 j) = _
    rw [if_neg q]
theorem btv_c {M : Mem} {r n m : Nat} {G S : Nat → Nat → Nat} (h : Gd M r n m G) {i o : Nat} (hi : i < n) (ho : o < m) (hc : can G S i o = true) : f_X2_breathFor r (nI i) (nI o) M = some (nI (tk (G 0 i) (G 3 o))) := by
  rw [brF h hi ho]
  unfold btv
  rw [if_neg (by rw [(can_tk hc).2.1]; decide)]
def Bnd (G S0 : Nat → Nat → Nat) (n m e : Nat) (M : Mem) : Prop := ∀ o, o ≤ m → mI M 34 o = nI (bd G S0 n e (m - o) o)
theorem climb_X {M : Mem} {r n m : Nat} {G S0 : Nat → Nat → Nat} {D e : Nat} (h : Gd M r n m G) (hx : Gx r D e M) (he : e ≤ 1) (hD : S0 2 0 = D) (hDm : D < 2 ^ m) (hbd : Bnd G S0 n m e M) : ∀ k o had S b X dp, o + k = m → k < dp → FrV M X → Sp n S X → Wn S0 n m e o had S → mI X 31 6 = nI b - 1 → b ≤ 67 → ∃ X', f_X1_climb dp 31 (nI o) (nI had) X = some X' ∧ FrV M X' ∧ Sp n S X' ∧ mI X' 31 6 = nI (max b (had + Bv G n e k o S + 1)) - 1 := by
  have hnm := h.nm
  have hD64 := lt64 hnm.2.1 hDm
  have hr := h.2.1
  intro k
  induction k with
  | zero =>
    intro o had S b X dp ho hdp hF hs hW hb hb67
    obtain ⟨dp, rfl⟩ : ∃ g, dp = g + 1 := ⟨dp - 1, by omega⟩
    have hGX := hF.g h
    have hh := hW.2.2.2.1
    have hom : o = m := by omega
    refine ⟨sI X 31 6 (nI (max b (had + 0 + 1)) - 1), ?_, hF.tr (FrV.be hF.1 _), fun i hi => ?_, ?_⟩
    · simp only [f_X1_climb, f_X1_climb_b, f_X1_climb_22]
      rw [if_pos (by simp only [KQ hF.1]), (hF.x hx).r hF.1 hr, Option.bind_some, if_neg (nI_pos (by omega)), Option.bind_some, hGX.sz.2.1, Option.bind_some, if_neg (nI_nlt (by omega) (by omega)), gI_k (by simp only [KQ hF.1]), Option.bind_some, hb, mxM (by omega) (by omega), pI_k (by simp only [KQ hF.1]), Option.bind_some]
    · rw [mI_sI_row (by decide)]; exact hs i hi
    · rw [mI_sI, if_pos ⟨rfl, rfl⟩]; rfl
  | succ k ih =>
    intro o had S b X dp ho hdp hF hs hW hb hb67
    obtain ⟨dp, rfl⟩ : ∃ g, dp = g + 1 := ⟨dp - 1, by omega⟩
    have hGX := hF.g h
    have hh := hW.2.2.2.1
    have hom : o < m := by omega
    have hB1 := Bv_bd h (k + 1) o had S (by omega) hW
    have hB2 := bd_le h (S0 := S0) (e := e) (k + 1) o (by omega)
    have e34 : mI X 34 o = nI (bd G S0 n e (k + 1) o) := by rw [hF.2.2.2.1 34 (by omega), hbd o (by omega), show m - o = k + 1 by omega]
    simp only [f_X1_climb, f_X1_climb_b]
    rw [if_pos (by simp only [KQ hF.1]), (hF.x hx).r hF.1 hr, Option.bind_some, if_neg (nI_pos (by omega)), Option.bind_some, hGX.sz.2.1, Option.bind_some, if_pos (nI_lt hom (by omega))]
    simp only [RQ hF.1, Option.bind_some]
    rw [aI_k (x := 34) (by simp only [KQ hF.1]) (by simp only [LQ]; omega), Option.bind_some, e34, gI_k (by simp only [KQ hF.1]), Option.bind_some, hb, nI_add]
    by_cases hp : b < had + bd G S0 n e (k + 1) o + 1
    · rw [if_pos ((ltM (by omega) (by omega)).mpr hp)]
      obtain ⟨X1, y1, y2, y3, y4, y5⟩ := lp_ex (F := fun fu i (Y : Mem) => f_X1_climb_53 (f_X1_climb dp) fu 31 (nI o) (nI had) (nI i) Y) n (fun Y => (f_X1_climb dp 31 (nI (o + 1)) (nI had) Y).bind fun Z => some Z) (fun i Y => FrV M Y ∧ Sp n S Y ∧ mI Y 31 6 = nI (iter (fun i b => if can G S i o = true then max b (had + (wo G e i o + Bv G n e k (o + 1) (sighed G S i o)) + 1) else b) 0 i b) - 1 ∧ iter (fun i b => if can G S i o = true then max b (had + (wo G e i o + Bv G n e k (o + 1) (sighed G S i o)) + 1) else b) 0 i b ≤ 67)
        (fun fu Y hI => by
          simp only [f_X1_climb_53]
          rw [(hI.1.x hx).r hI.1.1 hr, Option.bind_some, (hI.1.g h).sz.1, Option.bind_some, if_pos (Int32.le_refl _), nI_1])
        (fun fu i Y hi hI => by
          obtain ⟨i1, i2, i3, i4⟩ := hI
          have hGY := i1.g h
          have hxY := i1.x hx
          simp only [f_X1_climb_53]
          rw [hxY.r i1.1 hr, Option.bind_some, hGY.sz.1, Option.bind_some, if_neg (nI_ge hi (by omega)), fits_X hGY hxY i2 hD64 hi hom (by have := hW.1 i hi; omega) (by rw [hW.2.2.1 o (Nat.le_refl _) hom, hD]), Option.bind_some, iter_snoc, nI_1, nI_1]
          by_cases hc : can G S i o = true
          · have hW2 := hW.sg h hi hom hc
            have hB3 := Bv_bd h k (o + 1) _ _ (by omega) hW2
            have hB4 := bd_le h (S0 := S0) (e := e) k (o + 1) (by omega)
            have hw := wo_le h (e := e) hi hom
            obtain ⟨t1, t2, t3⟩ := can_tk hc
            rw [if_pos hc, if_neg (show ¬ (1 : Int32) = 0 by decide), if_pos hc, Option.bind_some, btv_c hGY hi hom hc, Option.bind_some]
            simp only [RQ i1.1, Option.bind_some]
            rw [aI_k (x := 33) (by simp only [KQ i1.1]) (by simp only [LQ]; omega), Option.bind_some, i2 i hi, pk_sub t3, eI_k (x := 33) (by simp only [KQ i1.1]) (by simp only [LQ]; omega), Option.bind_some]
            have F2 : FrV M (sI Y 33 i (nI (S 0 i - tk (G 0 i) (G 3 o)))) := i1.tr (FrV.sp i1.1 _)
            have s2 : Sp n (sighed G S i o) (sI Y 33 i (nI (S 0 i - tk (G 0 i) (G 3 o)))) := i2.dn
            have b2 : mI (sI Y 33 i (nI (S 0 i - tk (G 0 i) (G 3 o)))) 31 6 = mI Y 31 6 := (by rw [mI_sI_row (by decide)])
            generalize sI Y 33 i (nI (S 0 i - tk (G 0 i) (G 3 o))) = Y2 at *
            rw [worth_X (F2.g h) (F2.x hx) he hi hom, Option.bind_some, nI_add]
            obtain ⟨Z, z1, z2, z3, z4⟩ := ih (o + 1) (had + wo G e i o) (sighed G S i o) _ Y2 dp (by omega) (by omega) F2 s2 hW2 (b2.trans i3) i4
            rw [z1, Option.bind_some]
            simp only [RQ z2.1, Option.bind_some]
            rw [aI_k (x := 33) (by simp only [KQ z2.1]) (by simp only [LQ]; omega), Option.bind_some, z3 i hi, show sighed G S i o 0 i = S 0 i - tk (G 0 i) (G 3 o) by simp [sighed], nI_add, show S 0 i - tk (G 0 i) (G 3 o) + tk (G 0 i) (G 3 o) = S 0 i by omega, eI_k (x := 33) (by simp only [KQ z2.1]) (by simp only [LQ]; omega), Option.bind_some]
            refine ⟨_, rfl, z2.tr (FrV.sp z2.1 _), z3.up, ?_, ?_⟩
            · rw [mI_sI_row (by decide), z4, Nat.add_assoc had]
            · exact Nat.max_le.mpr ⟨i4, by omega⟩
          · rw [if_neg hc, if_pos rfl, if_neg hc]
            exact ⟨Y, rfl, i1, i2, i3, i4⟩)
        n FU 0 X (by omega) (by unfold FU; omega) ⟨hF, hs, hb, hb67⟩
      obtain ⟨X2, z1, z2, z3, z4⟩ := ih (o + 1) had S _ X1 dp (by omega) (by omega) y2 y3 hW.no y4 y5
      refine ⟨X2, ?_, z2, z3, ?_⟩
      · refine (show f_X1_climb_53 (f_X1_climb dp) FU 31 (nI o) (nI had) 0 X = _ from y1).trans ?_
        rw [z1, Option.bind_some]
      · rw [z4, climb_max]
        rfl
    · rw [if_neg (fun w => hp ((ltM (by omega) (by omega)).mp w))]
      exact ⟨X, rfl, hF, hs, by rw [hb, Nat.max_eq_left (by omega)]⟩
/-- a digit of a row, as the class writes it -/
def dv (d : Nat) : Int32 := if d = 0 then -9 else nI (d - 1)
theorem bp_lo {G : Nat → Nat → Nat} {n e : Nat} : ∀ k o S c j, j < o → (bp G n e k o S c).2 j = c j := by
  intro k
  induction k with
  | zero => intro o S c j _; rfl
  | succ k ih =>
    intro o S c j hj
    refine iter_ind (f := fun i p => if can G S i o = true then (if p.1 < wo G e i o + (bp G n e k (o + 1) (sighed G S i o) (pth c o (i + 1))).1 then (wo G e i o + (bp G n e k (o + 1) (sighed G S i o) (pth c o (i + 1))).1, (bp G n e k (o + 1) (sighed G S i o) (pth c o (i + 1))).2) else p) else p) (fun _ (p : Nat × (Nat → Nat)) => p.2 j = c j) n 0 _ ?_ (fun i p _ _ hI => ?_)
    · rw [ih _ _ _ j (by omega)]; exact if_neg (by omega)
    · by_cases c1 : can G S i o = true
      · simp only [if_pos c1]
        by_cases c2 : p.1 < wo G e i o + (bp G n e k (o + 1) (sighed G S i o) (pth c o (i + 1))).1
        · simp only [if_pos c2]
          rw [ih _ _ _ j (by omega)]; exact if_neg (by omega)
        · simp only [if_neg c2]; exact hI
      · simp only [if_neg c1]; exact hI
