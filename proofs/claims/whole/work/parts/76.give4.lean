theorem Bv_no {G : Nat → Nat → Nat} {n e k o : Nat} {S : Nat → Nat → Nat} : Bv G n e k (o + 1) S ≤ Bv G n e (k + 1) o S := by
  refine iter_ind (f := fun i a => if can G S i o = true then max a (wo G e i o + Bv G n e k (o + 1) (sighed G S i o)) else a) (fun _ a => Bv G n e k (o + 1) S ≤ a) n 0 _ (Nat.le_refl _) (fun i a _ _ hI => ?_)
  by_cases c : can G S i o = true
  · simp only [if_pos c]; exact Nat.le_trans hI (Nat.le_max_left _ _)
  · simp only [if_neg c]; exact hI
theorem Bv_ge {G : Nat → Nat → Nat} {n e k o i : Nat} {S : Nat → Nat → Nat} (hi : i < n) (hc : can G S i o = true) : wo G e i o + Bv G n e k (o + 1) (sighed G S i o) ≤ Bv G n e (k + 1) o S := by
  have key := iter_ind (f := fun i a => if can G S i o = true then max a (wo G e i o + Bv G n e k (o + 1) (sighed G S i o)) else a) (fun j a => i < j → wo G e i o + Bv G n e k (o + 1) (sighed G S i o) ≤ a) n 0 (Bv G n e k (o + 1) S) (fun h => absurd h (by omega)) (fun j t _ _ hI hj => by
    by_cases q : i = j
    · subst q
      simp only [if_pos hc]
      exact Nat.le_max_right _ _
    · have := hI (by omega)
      by_cases c : can G S j o = true
      · simp only [if_pos c]; exact Nat.le_trans this (Nat.le_max_left _ _)
      · simp only [if_neg c]; exact this)
  exact key (by omega)
def bst (G : Nat → Nat → Nat) (n e k o : Nat) (S : Nat → Nat → Nat) (c : Nat → Nat) (i : Nat) (p : Nat × (Nat → Nat)) : Nat × (Nat → Nat) := if can G S i o = true then (if p.1 < wo G e i o + (bp G n e k (o + 1) (sighed G S i o) (pth c o (i + 1))).1 then (wo G e i o + (bp G n e k (o + 1) (sighed G S i o) (pth c o (i + 1))).1, (bp G n e k (o + 1) (sighed G S i o) (pth c o (i + 1))).2) else p) else p
theorem bst_c {G : Nat → Nat → Nat} {n e k o : Nat} {S : Nat → Nat → Nat} {c : Nat → Nat} {i : Nat} {p : Nat × (Nat → Nat)} (hc : can G S i o = true) : bst G n e k o S c i p = if p.1 < wo G e i o + (bp G n e k (o + 1) (sighed G S i o) (pth c o (i + 1))).1 then (wo G e i o + (bp G n e k (o + 1) (sighed G S i o) (pth c o (i + 1))).1, (bp G n e k (o + 1) (sighed G S i o) (pth c o (i + 1))).2) else p := by
  unfold bst; rw [if_pos hc]
theorem bst_n {G : Nat → Nat → Nat} {n e k o : Nat} {S : Nat → Nat → Nat} {c : Nat → Nat} {i : Nat} {p : Nat × (Nat → Nat)} (hc : ¬ can G S i o = true) : bst G n e k o S c i p = p := by
  unfold bst; rw [if_neg hc]
theorem bp_it {G : Nat → Nat → Nat} {n e k o : Nat} {S : Nat → Nat → Nat} {c : Nat → Nat} : bp G n e (k + 1) o S c = iter (bst G n e k o S c) 0 n (bp G n e k (o + 1) S (pth c o 0)) := rfl
theorem bst_2 {G : Nat → Nat → Nat} {n e k o : Nat} {S : Nat → Nat → Nat} {c : Nat → Nat} {j q : Nat} {p : Nat × (Nat → Nat)} (h : (iter (bst G n e k o S c) j q p).1 ≤ p.1) : iter (bst G n e k o S c) j q p = p :=
  (run_2 (y := fun i => wo G e i o + (bp G n e k (o + 1) (sighed G S i o) (pth c o (i + 1))).1) (R := fun i => (bp G n e k (o + 1) (sighed G S i o) (pth c o (i + 1))).2) (q := fun i => can G S i o) q j p).2 h
theorem settle_X {M : Mem} {r n m : Nat} {G S0 : Nat → Nat → Nat} {D e : Nat} (h : Gd M r n m G) (hx : Gx r D e M) (he : e ≤ 1) (hD : S0 2 0 = D) (hDm : D < 2 ^ m) (hbd : Bnd G S0 n m e M) {b : Nat} (hb67 : b ≤ 67) : ∀ k o had S c X dp, o + k = m → k < dp → FrV M X → Sp n S X → Wn S0 n m e o had S → mI X 31 6 = nI b - 1 → had + Bv G n e k o S + 1 ≤ b → ∃ X', f_X1_settle dp 31 (nI o) (nI had) X = some (if b = had + Bv G n e k o S + 1 then 1 else 0, X') ∧ FrV M X' ∧ Sp n S X' ∧ mI X' 31 6 = nI b - 1 ∧ (∀ j, j < o → mI X' 32 j = mI X 32 j) ∧ (b = had + Bv G n e k o S + 1 → ∀ j, o ≤ j → j < m → mI X' 32 j = dv ((bp G n e k o S c).2 j)) := by
  have hnm := h.nm
  have hD64 := lt64 hnm.2.1 hDm
  have hr := h.2.1
  intro k
  induction k with
  | zero =>
    intro o had S c X dp ho hdp hF hs hW hb hle
    obtain ⟨dp, rfl⟩ : ∃ g, dp = g + 1 := ⟨dp - 1, by omega⟩
    have hGX := hF.g h
    have hom : o = m := by omega
    have hB0 : Bv G n e 0 o S = 0 := rfl
    refine ⟨X, ?_, hF, hs, hb, fun _ _ => rfl, fun _ j q1 q2 => absurd q2 (by omega)⟩
    simp only [f_X1_settle, f_X1_settle_b, f_X1_settle_22]
    rw [if_pos (by simp only [KQ hF.1]), (hF.x hx).r hF.1 hr, Option.bind_some, if_neg (nI_pos (by omega)), Option.bind_some, hGX.sz.2.1, Option.bind_some, if_neg (nI_nlt (by omega) (by omega)), gI_k (by simp only [KQ hF.1]), Option.bind_some, hb]
    by_cases q : had + 1 < b
    · rw [if_pos ((ltM3 (by omega) (by omega)).mpr q), if_neg (by omega)]
    · rw [if_neg (fun w => q ((ltM3 (by omega) (by omega)).mp w)), if_pos (by omega)]
  | succ k ih =>
    intro o had S c X dp ho hdp hF hs hW hb hle
    obtain ⟨dp, rfl⟩ : ∃ g, dp = g + 1 := ⟨dp - 1, by omega⟩
    have hGX := hF.g h
    have hh := hW.2.2.2.1
    have hom : o < m := by omega
    have hB1 := Bv_bd h (k + 1) o had S (by omega) hW
    have hB2 := bd_le h (S0 := S0) (e := e) (k + 1) o (by omega)
    have hB3 := Bv_no (G := G) (n := n) (e := e) (k := k) (o := o) (S := S)
    have hbp1 := bp_1 (G := G) (n := n) (e := e) (k + 1) o S c
    have e34 : mI X 34 o = nI (bd G S0 n e (k + 1) o) := by rw [hF.2.2.2.1 34 (by omega), hbd o (by omega), show m - o = k + 1 by omega]
    have loop : ∀ q i (x : Int32) Y fu, i + q = n → q < fu → FrV M Y → Sp n S Y → mI Y 31 6 = nI b - 1 → (∀ j, j < o → mI Y 32 j = mI X 32 j) → ((x = 1 ∧ b = had + Bv G n e (k + 1) o S + 1 ∧ ∀ j, o ≤ j → j < m → mI Y 32 j = dv ((bp G n e (k + 1) o S c).2 j)) ∨ (x = 0 ∧ had + (iter (bst G n e k o S c) 0 i (bp G n e k (o + 1) S (pth c o 0))).1 + 1 < b)) → ∃ X', f_X1_settle_73 (f_X1_settle dp) fu 31 (nI o) (nI had) x (nI i) Y = some (if b = had + Bv G n e (k + 1) o S + 1 then 1 else 0, X') ∧ FrV M X' ∧ Sp n S X' ∧ mI X' 31 6 = nI b - 1 ∧ (∀ j, j < o → mI X' 32 j = mI X 32 j) ∧ (b = had + Bv G n e (k + 1) o S + 1 → ∀ j, o ≤ j → j < m → mI X' 32 j = dv ((bp G n e (k + 1) o S c).2 j)) := by
      intro q
      induction q with
      | zero =>
        intro i x Y fu hi hfu i1 i2 i3 i4 i5
        obtain ⟨fu, rfl⟩ : ∃ g, fu = g + 1 := ⟨fu - 1, by omega⟩
        have hin : i = n := by omega
        rw [f_X1_settle_73]
        rw [(i1.x hx).r i1.1 hr, Option.bind_some, (i1.g h).sz.1, Option.bind_some, hin, if_pos (Int32.le_refl _)]
        rcases i5 with ⟨u1, u2, u3⟩ | ⟨u1, u2⟩
        · refine ⟨Y, ?_, i1, i2, i3, i4, fun _ => u3⟩
          rw [u1, if_pos u2]; rfl
        · rw [hin, ← bp_it, hbp1] at u2
          refine ⟨Y, ?_, i1, i2, i3, i4, fun w => absurd w (by omega)⟩
          rw [u1, if_neg (by omega)]; rfl
      | succ q ihq =>
        intro i x Y fu hi hfu i1 i2 i3 i4 i5
        obtain ⟨fu, rfl⟩ : ∃ g, fu = g + 1 := ⟨fu - 1, by omega⟩
        have hin : i < n := by omega
        have hGY := i1.g h
        have hxY := i1.x hx
        rw [f_X1_settle_73]
        rw [hxY.r i1.1 hr, Option.bind_some, hGY.sz.1, Option.bind_some, if_neg (nI_ge hin (by omega))]
        rcases i5 with ⟨u1, u2, u3⟩ | ⟨u1, u2⟩
        · refine ⟨Y, ?_, i1, i2, i3, i4, fun _ => u3⟩
          rw [u1, if_neg (show ¬ (1 : Int32) = 0 by decide), if_pos u2]; rfl
        · rw [u1, if_pos rfl, fits_X hGY hxY i2 hD64 hin hom (by have := hW.1 i hin; omega) (by rw [hW.2.2.1 o (Nat.le_refl _) hom, hD]), Option.bind_some, nI_1]
          by_cases hc : can G S i o = true
          · have hW2 := hW.sg h hin hom hc
            have hB4 := Bv_ge (e := e) (k := k) hin hc
            obtain ⟨t1, t2, t3⟩ := can_tk hc
            rw [if_pos hc, if_neg (show ¬ (1 : Int32) = 0 by decide), Option.bind_some, btv_c hGY hin hom hc, Option.bind_some]
            simp only [RQ i1.1, Option.bind_some]
            rw [eI_k (x := 32) (by simp only [KQ i1.1]) (by simp only [LQ]; omega), Option.bind_some]
            have F1 : FrV M (sI Y 32 o (nI i)) := i1.tr (FrV.ch i1.1 _)
            have s1' : Sp n S (sI Y 32 o (nI i)) := fun j hj => by rw [mI_sI_row (by decide)]; exact i2 j hj
            have b1' : mI (sI Y 32 o (nI i)) 31 6 = nI b - 1 := by rw [mI_sI_row (by decide)]; exact i3
            have c1' : mI (sI Y 32 o (nI i)) 32 o = nI i := by rw [mI_sI, if_pos ⟨rfl, rfl⟩]
            have d1' : ∀ j, j < o → mI (sI Y 32 o (nI i)) 32 j = mI X 32 j := fun j hj => by rw [mI_sI, if_neg (by omega)]; exact i4 j hj
            generalize sI Y 32 o (nI i) = Y1 at *
            simp only [RQ F1.1, Option.bind_some]
            rw [aI_k (x := 33) (by simp only [KQ F1.1]) (by simp only [LQ]; omega), Option.bind_some, s1' i hin, pk_sub t3, eI_k (x := 33) (by simp only [KQ F1.1]) (by simp only [LQ]; omega), Option.bind_some]
            have F2 : FrV M (sI Y1 33 i (nI (S 0 i - tk (G 0 i) (G 3 o)))) := F1.tr (FrV.sp F1.1 _)
            have s2 : Sp n (sighed G S i o) (sI Y1 33 i (nI (S 0 i - tk (G 0 i) (G 3 o)))) := s1'.dn
            have b2 : mI (sI Y1 33 i (nI (S 0 i - tk (G 0 i) (G 3 o)))) 31 6 = nI b - 1 := by rw [mI_sI_row (by decide)]; exact b1'
            have c2 : mI (sI Y1 33 i (nI (S 0 i - tk (G 0 i) (G 3 o)))) 32 = mI Y1 32 := mI_sI_row (by decide)
            generalize sI Y1 33 i (nI (S 0 i - tk (G 0 i) (G 3 o))) = Y2 at *
            rw [worth_X (F2.g h) (F2.x hx) he hin hom, Option.bind_some, nI_add]
            obtain ⟨Z, z1, z2, z3, z4, z5, z6⟩ := ih (o + 1) (had + wo G e i o) (sighed G S i o) (pth c o (i + 1)) Y2 dp (by omega) (by omega) F2 s2 hW2 b2 (by omega)
            rw [show nI o + 1 = nI (o + 1) from nI_1 o, z1, Option.bind_some]
            simp only [RQ z2.1, Option.bind_some]
            rw [aI_k (x := 33) (by simp only [KQ z2.1]) (by simp only [LQ]; omega), Option.bind_some, z3 i hin, show sighed G S i o 0 i = S 0 i - tk (G 0 i) (G 3 o) by simp [sighed], nI_add, show S 0 i - tk (G 0 i) (G 3 o) + tk (G 0 i) (G 3 o) = S 0 i by omega, eI_k (x := 33) (by simp only [KQ z2.1]) (by simp only [LQ]; omega), Option.bind_some]
            have hch := bp_1 (G := G) (n := n) (e := e) k (o + 1) (sighed G S i o) (pth c o (i + 1))
            have hsn : iter (bst G n e k o S c) 0 (i + 1) (bp G n e k (o + 1) S (pth c o 0)) = bst G n e k o S c i (iter (bst G n e k o S c) 0 i (bp G n e k (o + 1) S (pth c o 0))) := iter_snoc
            have hspl : bp G n e (k + 1) o S c = iter (bst G n e k o S c) (i + 1) q (iter (bst G n e k o S c) 0 (i + 1) (bp G n e k (o + 1) S (pth c o 0))) := by
              rw [bp_it, show n = (i + 1) + q by omega, iter_add, Nat.zero_add]
            refine ihq (i + 1) _ _ fu (by omega) (by omega) (z2.tr (FrV.sp z2.1 _)) z3.up (by rw [mI_sI_row (by decide)]; exact z4) (fun j hj => by rw [mI_sI_row (by decide), z5 j (by omega), c2]; exact d1' j hj) ?_
            by_cases w : b = had + wo G e i o + Bv G n e k (o + 1) (sighed G S i o) + 1
            · left
              have hBm : Bv G n e (k + 1) o S = wo G e i o + Bv G n e k (o + 1) (sighed G S i o) := by omega
              have hp2 : bst G n e k o S c i (iter (bst G n e k o S c) 0 i (bp G n e k (o + 1) S (pth c o 0))) = (wo G e i o + (bp G n e k (o + 1) (sighed G S i o) (pth c o (i + 1))).1, (bp G n e k (o + 1) (sighed G S i o) (pth c o (i + 1))).2) := by
                rw [bst_c hc, if_pos (by rw [hch]; omega)]
              rw [hsn, hp2] at hspl
              have hfin : bp G n e (k + 1) o S c = (wo G e i o + (bp G n e k (o + 1) (sighed G S i o) (pth c o (i + 1))).1, (bp G n e k (o + 1) (sighed G S i o) (pth c o (i + 1))).2) := by
                rw [hspl]
                refine bst_2 ?_
                rw [← hspl, hbp1, hch, hBm]
                exact Nat.le_refl _
              refine ⟨if_pos w, by omega, fun j q1 q2 => ?_⟩
              rw [hfin, mI_sI_row (by decide)]
              show mI Z 32 j = dv ((bp G n e k (o + 1) (sighed G S i o) (pth c o (i + 1))).2 j)
              by_cases cj : j = o
              · rw [cj, z5 o (by omega), c2, c1', bp_lo k (o + 1) _ _ o (by omega)]
                unfold pth dv
                rw [if_pos rfl, if_neg (by omega)]; rfl
              · exact z6 w j (by omega) q2
            · right
              refine ⟨if_neg w, ?_⟩
              rw [hsn, bst_c hc]
              by_cases w2 : (iter (bst G n e k o S c) 0 i (bp G n e k (o + 1) S (pth c o 0))).1 < wo G e i o + (bp G n e k (o + 1) (sighed G S i o) (pth c o (i + 1))).1
              · have w3 : (if (iter (bst G n e k o S c) 0 i (bp G n e k (o + 1) S (pth c o 0))).1 < wo G e i o + (bp G n e k (o + 1) (sighed G S i o) (pth c o (i + 1))).1 then (wo G e i o + (bp G n e k (o + 1) (sighed G S i o) (pth c o (i + 1))).1, (bp G n e k (o + 1) (sighed G S i o) (pth c o (i + 1))).2) else (iter (bst G n e k o S c) 0 i (bp G n e k (o + 1) S (pth c o 0)))).1 = wo G e i o + (bp G n e k (o + 1) (sighed G S i o) (pth c o (i + 1))).1 := by rw [if_pos w2]
                have w4 : had + (wo G e i o + (bp G n e k (o + 1) (sighed G S i o) (pth c o (i + 1))).1) + 1 < b := by rw [hch]; omega
                exact (congrArg (fun t => had + t + 1 < b) w3).mpr w4
              · have w3 : (if (iter (bst G n e k o S c) 0 i (bp G n e k (o + 1) S (pth c o 0))).1 < wo G e i o + (bp G n e k (o + 1) (sighed G S i o) (pth c o (i + 1))).1 then (wo G e i o + (bp G n e k (o + 1) (sighed G S i o) (pth c o (i + 1))).1, (bp G n e k (o + 1) (sighed G S i o) (pth c o (i + 1))).2) else (iter (bst G n e k o S c) 0 i (bp G n e k (o + 1) S (pth c o 0)))).1 = (iter (bst G n e k o S c) 0 i (bp G n e k (o + 1) S (pth c o 0))).1 := by rw [if_neg w2]
                exact (congrArg (fun t => had + t + 1 < b) w3).mpr u2
          · rw [if_neg hc, if_pos rfl]
            refine ihq (i + 1) 0 Y fu (by omega) (by omega) i1 i2 i3 i4 (Or.inr ⟨rfl, ?_⟩)
            rw [iter_snoc, bst_n hc]
            exact u2
    simp only [f_X1_settle, f_X1_settle_b]
    rw [if_pos (by simp only [KQ hF.1]), (hF.x hx).r hF.1 hr, Option.bind_some, if_neg (nI_pos (by omega)), Option.bind_some, hGX.sz.2.1, Option.bind_some, if_pos (nI_lt hom (by omega))]
    simp only [RQ hF.1, Option.bind_some]
    rw [aI_k (x := 34) (by simp only [KQ hF.1]) (by simp only [LQ]; omega), Option.bind_some, e34, gI_k (by simp only [KQ hF.1]), Option.bind_some, hb, nI_add]
    by_cases hp : b ≤ had + bd G S0 n e (k + 1) o + 1
    · rw [if_pos ((leM2 (by omega) (by omega)).mpr hp), eI_k (x := 32) (by simp only [KQ hF.1]) (by simp only [LQ]; omega), Option.bind_some]
      have F1 : FrV M (sI X 32 o (-9)) := hF.tr (FrV.ch hF.1 _)
      have s1' : Sp n S (sI X 32 o (-9)) := fun j hj => by rw [mI_sI_row (by decide)]; exact hs j hj
      have b1' : mI (sI X 32 o (-9)) 31 6 = nI b - 1 := by rw [mI_sI_row (by decide)]; exact hb
      have c1' : mI (sI X 32 o (-9)) 32 o = -9 := by rw [mI_sI, if_pos ⟨rfl, rfl⟩]
      have d1' : ∀ j, j < o → mI (sI X 32 o (-9)) 32 j = mI X 32 j := fun j hj => by rw [mI_sI, if_neg (by omega)]
      generalize sI X 32 o (-9) = X1 at *
      obtain ⟨Z, z1, z2, z3, z4, z5, z6⟩ := ih (o + 1) had S (pth c o 0) X1 dp (by omega) (by omega) F1 s1' hW.no b1' (by omega)
      rw [nI_1, z1, Option.bind_some]
      refine loop n 0 _ Z FU (by omega) (by unfold FU; omega) z2 z3 z4 (fun j hj => by rw [z5 j (by omega)]; exact d1' j hj) ?_
      have hch := bp_1 (G := G) (n := n) (e := e) k (o + 1) S (pth c o 0)
      by_cases w : b = had + Bv G n e k (o + 1) S + 1
      · left
        have hfin : bp G n e (k + 1) o S c = bp G n e k (o + 1) S (pth c o 0) := by
          rw [bp_it]
          refine bst_2 ?_
          rw [← bp_it, hbp1, hch]
          omega
        refine ⟨if_pos w, by omega, fun j q1 q2 => ?_⟩
        rw [hfin]
        by_cases cj : j = o
        · rw [cj, z5 o (by omega), c1', bp_lo k (o + 1) _ _ o (by omega)]
          unfold pth dv
          rw [if_pos rfl, if_pos rfl]
        · exact z6 w j (by omega) q2
      · right
        refine ⟨if_neg w, ?_⟩
        show had + (bp G n e k (o + 1) S (pth c o 0)).1 + 1 < b
        rw [hch]; omega
    · rw [if_neg (fun w => hp ((leM2 (by omega) (by omega)).mp w))]
      refine ⟨X, ?_, hF, hs, hb, fun _ _ => rfl, fun w => absurd w (by omega)⟩
      rw [if_neg (by omega)]
