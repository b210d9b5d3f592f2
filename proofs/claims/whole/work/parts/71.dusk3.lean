/-- what dusk() does with a line -/
def Kd (fu : Nat) (x1 x2 x3 x4 : Int32) : Int32 × Mem → Option (Int32 × Mem) := fun qv9 =>
    if qv9.1 = 0 then (
    some (x4, qv9.2)) else
    (gR qv9.2 18 65 30).bind fun v11 =>
    (gI qv9.2 18 65 26).bind fun v13 =>
    (aI qv9.2 v11 v13).bind fun v15 =>
    if v15 ≤ x4 then (
    f_X8_dusk_37 fu 65 x1 x2 x3 x4 qv9.2) else
    (gR qv9.2 18 65 30).bind fun v17 =>
    (gI qv9.2 18 65 26).bind fun v19 =>
    (aI qv9.2 v17 v19).bind fun v21 =>
    (gI qv9.2 18 65 26).bind fun v23 =>
    (f_X8_makeRow 65 x3 v23 qv9.2).bind fun M26 =>
    f_X8_dusk_83 (f_X8_dusk_37 fu) FU 65 x1 x2 x3 v21 0 M26
theorem dusk_37_s (fu : Nat) (x1 x2 x3 x4 : Int32) (M : Mem) : f_X8_dusk_37 (fu + 1) 65 x1 x2 x3 x4 M = (f_X8_nextLine 65 x1 x2 M).bind (Kd fu x1 x2 x3 x4) := rfl
theorem Sk.fr {k : Nat} {cs : Nat → Nat → Nat} {L : Nat → Nat} {M N : Mem} (h : Sk k cs L M) (e : ∀ x, x = 65 ∨ (81 ≤ x ∧ x ≤ 86) → mI N x = mI M x) : Sk k cs L N := by
  unfold Sk Sn at h ⊢
  rw [e 65 (by omega), e 81 (by omega), e 82 (by omega), e 83 (by omega), e 84 (by omega), e 85 (by omega), e 86 (by omega)]
  exact h
theorem new_Y {M : Mem} {r n m : Nat} {G : Nat → Nat → Nat} (h : Gd M r n m G) {k rr : Nat} {cs : Nat → Nat → Nat} {L : Nat → Nat} (hk : k ≤ 6) (hrr : rr < 6) (hS : Sk k cs L M) (h66 : cs k 3 ≤ 66) {x4 : Int32} (hx : ¬ nI (cs k 3) ≤ x4) (fu : Nat) (x1 x2 : Int32) : ∃ M', Kd fu x1 x2 (nI rr) x4 (1, M) = f_X8_dusk_37 fu 65 x1 x2 (nI rr) (nI (cs k 3)) M' ∧ FrL rr M M' ∧ Sk k cs L M' ∧ By rr (cs k 3, k, L) M' := by
  obtain ⟨⟨e26, e27⟩, e1, e2⟩ := id hS
  have c2 := (e1 k (Nat.le_refl _)).2.1
  unfold Kd
  simp only [if_neg (show ¬ (1 : Int32) = 0 by decide), RQ h.1, KQ h.1, gI_k, e26, Option.bind_some]
  rw [aI_k (x := 83) (by simp only [KQ h.1]) (by simp only [LQ]; omega), Option.bind_some, c2, if_neg hx, Option.bind_some, makeRow_Y h.1 hrr, Option.bind_some]
  have hSM : SF (sW (sI M 72 rr (nI k)) 73 (fun j => if 40 * rr ≤ j ∧ j < 40 * rr + 40 then 0 else mI M 73 j)) := h.1
  obtain ⟨M', y1, y2⟩ := lp_ex (F := fun fv j (X : Mem) => f_X8_dusk_83 (f_X8_dusk_37 fu) fv 65 x1 x2 (nI rr) (nI (cs k 3)) (nI j) X) k (fun X => f_X8_dusk_37 fu 65 x1 x2 (nI rr) (nI (cs k 3)) X) (fun q X => SF X ∧ mR X = mR M ∧ mL X = mL M ∧ (∀ x, x ≠ 72 → x ≠ 73 → mI X x = mI M x) ∧ (∀ j, j ≠ rr → mI X 72 j = mI M 72 j) ∧ (∀ j, j < 40 * rr ∨ 40 * rr + 40 ≤ j → mI X 73 j = mI M 73 j) ∧ mI X 72 rr = nI k ∧ ∀ j, j < 40 → mI X 73 (40 * rr + j) = if j < q then nI (L j) else 0)
    (fun fv X hI => by
      obtain ⟨i1, i2, i3, i4, -⟩ := hI
      simp only [f_X8_dusk_83]
      rw [gI_k (by simp only [KQ i1]), Option.bind_some, i4 65 (by decide) (by decide), e26, if_pos (Int32.le_refl _)])
    (fun fv j X hj hI => by
      obtain ⟨i1, i2, i3, i4, i5, i6, i7, i8⟩ := hI
      simp only [f_X8_dusk_83, RQ i1, Option.bind_some, m40]
      rw [gI_k (by simp only [KQ i1]), Option.bind_some, i4 65 (by decide) (by decide), e26, if_neg (nI_ge hj (by omega)), aI_k (x := 81) (by simp only [KQ i1]) (by simp only [LQ]; omega), Option.bind_some, i4 81 (by decide) (by decide), e2 j hj, eI_k (x := 73) (by simp only [KQ i1]) (by simp only [LQ]; omega), Option.bind_some, nI_1]
      refine ⟨_, rfl, i1, i2, i3, fun x q1 q2 => ?_, fun q hq => ?_, fun q hq => ?_, ?_, fun q hq => ?_⟩
      · rw [mI_sI_row q2]; exact i4 x q1 q2
      · rw [mI_sI_row (by decide)]; exact i5 q hq
      · rw [mI_sI, if_neg (by omega)]; exact i6 q hq
      · rw [mI_sI_row (by decide)]; exact i7
      · rw [mI_sI]
        by_cases c : q = j
        · rw [if_pos ⟨rfl, by omega⟩, if_pos (by omega), c]
        · rw [if_neg (by omega), i8 q hq]
          by_cases c2 : q < j
          · rw [if_pos c2, if_pos (by omega)]
          · rw [if_neg c2, if_neg (by omega)])
    k FU 0 _ (by omega) (by unfold FU; omega) ⟨hSM, rfl, rfl, fun x q1 q2 => by rw [mI_ne q2, mI_sI_row q1], fun j hj => by rw [mI_ne (by decide), mI_sI, if_neg (fun w => hj w.2)], fun j hj => by rw [mI_eq, if_neg (by omega)], by rw [mI_ne (by decide), mI_sI, if_pos ⟨rfl, rfl⟩], fun j hj => by rw [mI_eq, if_pos (by omega), if_neg (by omega)]⟩
  obtain ⟨i1, i2, i3, i4, i5, i6, i7, i8⟩ := y2
  exact ⟨M', y1, ⟨i1, i2, i3, fun x _ q2 q3 _ => i4 x q2 q3, fun j _ _ => by rw [i4 65 (by decide) (by decide)], i5, i6⟩, hS.fr (fun x hx => i4 x (by omega) (by omega)), ⟨h66, hk⟩, i7, i8⟩
theorem rec_Y {M : Mem} {r n m : Nat} {G : Nat → Nat → Nat} (h : Gd M r n m G) {k rr : Nat} {cs : Nat → Nat → Nat} {L : Nat → Nat} {b : Nat × Nat × (Nat → Nat)} (hk : k ≤ 6) (hrr : rr < 6) (hS : Sk k cs L M) (hB : By rr b M) (h66 : cs k 3 ≤ 66) (fu : Nat) (x1 x2 : Int32) : ∃ M', Kd fu x1 x2 (nI rr) (nI b.1) (1, M) = f_X8_dusk_37 fu 65 x1 x2 (nI rr) (nI (nrec (cs k) k L b).1) M' ∧ FrL rr M M' ∧ Sk k cs L M' ∧ By rr (nrec (cs k) k L b) M' := by
  have hb66 := hB.1.1
  by_cases q : b.1 < cs k 3
  · have e : nrec (cs k) k L b = (cs k 3, k, L) := by unfold nrec; rw [if_pos q]
    rw [e]
    exact new_Y h hk hrr hS h66 (nI_ge q (by omega)) fu x1 x2
  · have e : nrec (cs k) k L b = b := by unfold nrec; rw [if_neg q]
    rw [e]
    obtain ⟨⟨e26, e27⟩, e1, e2⟩ := id hS
    have c2 := (e1 k (Nat.le_refl _)).2.1
    refine ⟨M, ?_, FrL.id h.1, hS, hB⟩
    unfold Kd
    simp only [if_neg (show ¬ (1 : Int32) = 0 by decide), RQ h.1, KQ h.1, gI_k, e26, Option.bind_some]
    rw [aI_k (x := 83) (by simp only [KQ h.1]) (by simp only [LQ]; omega), Option.bind_some, c2, if_pos (nI_le (by omega) (by omega))]
def nst (G : Nat → Nat → Nat) (N i m dp : Nat) (c : Nat → Nat) (k : Nat) (L : Nat → Nat) (o : Nat) (b : Nat × Nat × (Nat → Nat)) : Nat × Nat × (Nat → Nat) :=
  match dp with
  | 0 => b
  | d + 1 => if nok G N i o c = true then ntr G N i m d (nch G i o c) (k + 1) (pth L k o) (nrec (nch G i o c) (k + 1) (pth L k o) b) else b
theorem ntr_eq {G : Nat → Nat → Nat} {N i m dp : Nat} {c : Nat → Nat} {k : Nat} {L : Nat → Nat} {b : Nat × Nat × (Nat → Nat)} : ntr G N i m dp c k L b = iter (nst G N i m dp c k L) 0 m b := by
  cases dp with
  | zero => rw [iter_id m 0 b (fun _ _ _ => rfl)]; rfl
  | succ d => rfl
def Qd : Nat → Nat
  | 0 => 0
  | d + 1 => 1 + 6 * Qd d
theorem walk_Y {M : Mem} {r n m : Nat} {G : Nat → Nat → Nat} (h : Gd M r n m G) {N i rr : Nat} (hN : N ≤ 30) (hi : i < n) (hrr : rr < 6) : ∀ dp k, k + dp = 6 → ∀ q o (cs : Nat → Nat → Nat) (L : Nat → Nat) b X fu fl fs e, o + q = m → FrL rr M X → Sk k cs L X → Nb m N k (cs k) → By rr b X → k + 1 ≤ fl → q < fs → e + q * Qd dp ≤ fu → ∃ X' fu' fl', (f_X8_nextLine_23 (f_X8_nextLine_16 fl) fs 65 (nI i) (nI N) (nI o) X).bind (Kd fu (nI i) (nI N) (nI rr) (nI b.1)) = (f_X8_nextLine_47 (f_X8_nextLine_16 fl') 65 (nI i) (nI N) (nI m) X').bind (Kd fu' (nI i) (nI N) (nI rr) (nI (iter (nst G N i m dp (cs k) k L) o q b).1)) ∧ FrL rr M X' ∧ Sk k cs L X' ∧ By rr (iter (nst G N i m dp (cs k) k L) o q b) X' ∧ k + 1 ≤ fl' ∧ e ≤ fu' := by
  have hnm := h.nm
  intro dp
  induction dp with
  | zero =>
    intro k hk q
    induction q with
    | zero =>
      intro o cs L b X fu fl fs e ho hF hS hb hB hfl hfs hfu
      obtain ⟨fs, rfl⟩ : ∃ g, fs = g + 1 := ⟨fs - 1, by omega⟩
      refine ⟨X, fu, fl, ?_, hF, hS, hB, hfl, by omega⟩
      have hom : o = m := by omega
      simp only [f_X8_nextLine_23]
      rw [(hF.g h).sz.2.2.2, Option.bind_some, hom, if_pos (Int32.le_refl _)]
      rfl
    | succ q ihq =>
      intro o cs L b X fu fl fs e ho hF hS hb hB hfl hfs hfu
      obtain ⟨fs, rfl⟩ : ∃ g, fs = g + 1 := ⟨fs - 1, by omega⟩
      have hno : ¬ nok G N i o (cs k) = true := fun w => by have := (hb.ch h hi (by omega) w).2; omega
      obtain ⟨X', fu', fl', y1, y2⟩ := ihq (o + 1) cs L b X fu fl fs e (by omega) hF hS hb hB hfl (by omega) (by simpa [Qd] using hfu)
      refine ⟨X', fu', fl', ?_, y2⟩
      refine Eq.trans ?_ y1
      rw [f_X8_nextLine_23]
      rw [(hF.g h).sz.2.2.2, Option.bind_some, if_neg (nI_ge (by omega) (by omega)), mayNext_Y (hF.g h) (by omega) hS hb hN hi (by omega), Option.bind_some, if_neg hno, if_pos rfl, nI_1]
  | succ d ihd =>
    intro k hk q
    induction q with
    | zero =>
      intro o cs L b X fu fl fs e ho hF hS hb hB hfl hfs hfu
      obtain ⟨fs, rfl⟩ : ∃ g, fs = g + 1 := ⟨fs - 1, by omega⟩
      refine ⟨X, fu, fl, ?_, hF, hS, hB, hfl, by omega⟩
      have hom : o = m := by omega
      simp only [f_X8_nextLine_23]
      rw [(hF.g h).sz.2.2.2, Option.bind_some, hom, if_pos (Int32.le_refl _)]
      rfl
    | succ q ihq =>
      intro o cs L b X fu fl fs e ho hF hS hb hB hfl hfs hfu
      obtain ⟨fs, rfl⟩ : ∃ g, fs = g + 1 := ⟨fs - 1, by omega⟩
      have hom : o < m := by omega
      have hmul : (q + 1) * Qd (d + 1) = q * Qd (d + 1) + Qd (d + 1) := Nat.succ_mul _ _
      have hQ : Qd (d + 1) = 1 + 6 * Qd d := rfl
      have hit : iter (nst G N i m (d + 1) (cs k) k L) o (q + 1) b = iter (nst G N i m (d + 1) (cs k) k L) (o + 1) q (nst G N i m (d + 1) (cs k) k L o b) := rfl
      have hGX := hF.g h
      by_cases hok : nok G N i o (cs k) = true
      · have hns : nst G N i m (d + 1) (cs k) k L o b = ntr G N i m d (nch G i o (cs k)) (k + 1) (pth L k o) (nrec (nch G i o (cs k)) (k + 1) (pth L k o) b) := if_pos hok
        obtain ⟨hb', hk6⟩ := hb.ch h hi hom hok
        obtain ⟨X1, p1, p2, p3, p4⟩ := push_Y hGX (rr := rr) hk6 hS hB hb hi hom (nok_s.mp hok).2.2.1 (f_X8_nextLine_16 fl)
        have hF1 := hF.tr p2
        have hck : cpu cs (k + 1) (nch G i o (cs k)) (k + 1) = nch G i o (cs k) := by unfold cpu; rw [if_pos rfl]
        obtain ⟨X2, r1, r2, r3, r4⟩ := rec_Y (hF1.g h) (by omega) hrr p3 p4 (by rw [hck]; have := hb'.2.2.2.1; omega) fu (nI i) (nI N)
        have hF2 := hF1.tr r2
        rw [hck] at r1 r4
        obtain ⟨fu2, rfl⟩ : ∃ g, fu = g + 1 := ⟨fu - 1, by omega⟩
        have hm6 : m * Qd d ≤ 6 * Qd d := Nat.mul_le_mul_right _ hnm.2.1
        obtain ⟨X3, fu3, fl3, w1, w2, w3, w4, w5, w6⟩ := ihd (k + 1) (by omega) m 0 (cpu cs (k + 1) (nch G i o (cs k))) (pth L k o) (nrec (nch G i o (cs k)) (k + 1) (pth L k o) b) X2 fu2 99999 FU (e + q * Qd (d + 1)) (by omega) hF2 r3 (by rw [hck]; exact hb') r4 (by omega) (by unfold FU; omega) (by omega)
        rw [hck, ← ntr_eq, ← hns] at w1 w4
        obtain ⟨X4, z1, z2, z3, z4⟩ := pop_Y (w2.g h) (rr := rr) hk6 w3 w4 (f_X8_nextLine_16 fl3) (nI i) (nI N)
        have hF4 := w2.tr z2
        have hS4 : Sk k cs L X4 := z3.congr (fun j hj => by unfold cpu; rw [if_neg (by omega)]) (fun j hj => by unfold pth; rw [if_neg (by omega)])
        obtain ⟨fl4, rfl⟩ : ∃ g, fl3 = g + 1 := ⟨fl3 - 1, by omega⟩
        obtain ⟨X', fu', fl', y1, y2⟩ := ihq (o + 1) cs L (nst G N i m (d + 1) (cs k) k L o b) X4 fu3 fl4 FU e (by omega) hF4 hS4 hb z4 (by omega) (by unfold FU; omega) w6
        rw [hit]
        refine ⟨X', fu', fl', ?_, y2⟩
        refine Eq.trans ?_ y1
        have hpo : pth L k o k + 1 = o + 1 := by unfold pth; rw [if_pos rfl]
        have s1 : f_X8_nextLine_16 (fl4 + 1) 65 (nI i) (nI N) (nI (pth L k o k + 1)) X4 = f_X8_nextLine_23 (f_X8_nextLine_16 fl4) FU 65 (nI i) (nI N) (nI (o + 1)) X4 := by
          rw [f_X8_nextLine_16, gI_k (by simp only [KQ hF4.1]), Option.bind_some, hS4.1.1, if_neg (nI_pos (by omega)), hpo]
        rw [s1] at z1
        rw [z1] at w1
        refine Eq.trans ?_ w1
        rw [f_X8_nextLine_23]
        rw [hGX.sz.2.2.2, Option.bind_some, if_neg (nI_ge hom (by omega)), mayNext_Y hGX (by omega) hS hb hN hi hom, Option.bind_some, if_pos hok, if_neg (show ¬ (1 : Int32) = 0 by decide), p1, Option.bind_some, r1, dusk_37_s]
        unfold f_X8_nextLine
        rw [if_pos (by simp only [KQ hF2.1]), gI_k (by simp only [KQ hF2.1]), Option.bind_some, r3.1.2, if_neg (show ¬ (1 : Int32) = 0 by decide), show FU = 99999 + 1 from rfl]
        rw [f_X8_nextLine_16, gI_k (by simp only [KQ hF2.1]), Option.bind_some, r3.1.1, if_neg (nI_pos (by omega))]
        rfl
      · have hns : nst G N i m (d + 1) (cs k) k L o b = b := if_neg hok
        rw [hit, hns]
        obtain ⟨X', fu', fl', y1, y2⟩ := ihq (o + 1) cs L b X fu fl fs e (by omega) hF hS hb hB hfl (by omega) (by omega)
        refine ⟨X', fu', fl', ?_, y2⟩
        refine Eq.trans ?_ y1
        rw [f_X8_nextLine_23]
        rw [hGX.sz.2.2.2, Option.bind_some, if_neg (nI_ge hom (by omega)), mayNext_Y hGX (by omega) hS hb hN hi hom, Option.bind_some, if_neg hok, if_pos rfl, nI_1]
