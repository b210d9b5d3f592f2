/-! ===== dusk(): the model's lines ===== -/
def FrL (rr : Nat) (M N : Mem) : Prop := SF N ∧ mR N = mR M ∧ mL N = mL M ∧ (∀ x, x ≠ 65 → x ≠ 72 → x ≠ 73 → x < 81 ∨ 86 < x → mI N x = mI M x) ∧ (∀ j, j ≠ 26 → j ≠ 27 → mI N 65 j = mI M 65 j) ∧ (∀ j, j ≠ rr → mI N 72 j = mI M 72 j) ∧ ∀ j, j < 40 * rr ∨ 40 * rr + 40 ≤ j → mI N 73 j = mI M 73 j
theorem FrL.tr {rr : Nat} {A B C : Mem} (h1 : FrL rr A B) (h2 : FrL rr B C) : FrL rr A C := ⟨h2.1, h2.2.1.trans h1.2.1, h2.2.2.1.trans h1.2.2.1, fun x q1 q2 q3 q4 => (h2.2.2.2.1 x q1 q2 q3 q4).trans (h1.2.2.2.1 x q1 q2 q3 q4), fun j q1 q2 => (h2.2.2.2.2.1 j q1 q2).trans (h1.2.2.2.2.1 j q1 q2), fun j hj => (h2.2.2.2.2.2.1 j hj).trans (h1.2.2.2.2.2.1 j hj), fun j hj => (h2.2.2.2.2.2.2 j hj).trans (h1.2.2.2.2.2.2 j hj)⟩
theorem FrL.id {rr : Nat} {M : Mem} (h : SF M) : FrL rr M M := ⟨h, rfl, rfl, fun _ _ _ _ _ => rfl, fun _ _ _ => rfl, fun _ _ => rfl, fun _ _ => rfl⟩
theorem FrL.g {rr : Nat} {M N : Mem} {r n m : Nat} {G : Nat → Nat → Nat} (h : FrL rr M N) (hG : Gd M r n m G) : Gd N r n m G := hG.congr h.1 (by rw [h.2.1]) (fun x hx => h.2.2.2.1 x (by omega) (by omega) (by omega) (by omega)) (h.2.2.2.2.1 1 (by decide) (by decide)) (h.2.2.2.2.1 4 (by decide) (by decide))
theorem FrL.ln {rr : Nat} {M : Mem} (h : SF M) {x j : Nat} (hx : 81 ≤ x ∧ x ≤ 86) (v : Int32) : FrL rr M (sI M x j v) := ⟨h, rfl, rfl, fun y q1 q2 q3 q4 => mI_sI_row (by omega), fun k _ _ => by rw [mI_sI_row (by omega)], fun k _ => by rw [mI_sI_row (by omega)], fun k _ => by rw [mI_sI_row (by omega)]⟩
theorem FrL.sz {rr : Nat} {M : Mem} (h : SF M) {j : Nat} (hj : j = 26 ∨ j = 27) (v : Int32) : FrL rr M (sI M 65 j v) := ⟨h, rfl, rfl, fun y q1 q2 q3 q4 => mI_sI_row q1, fun k _ _ => by rw [mI_sI, if_neg (by omega)], fun k _ => by rw [mI_sI_row (by decide)], fun k _ => by rw [mI_sI_row (by decide)]⟩
/-- the nodes of the line, in the model -/
def Sn (k : Nat) (cs : Nat → Nat → Nat) (L : Nat → Nat) (M : Mem) : Prop := (∀ j, j ≤ k → mI M 82 j = nI (cs j 1) ∧ mI M 83 j = nI (cs j 3) ∧ mI M 84 j = nI (cs j 2) ∧ mI M 85 j = nI (cs j 4) ∧ mI M 86 j = nI (cs j 0)) ∧ ∀ j, j < k → mI M 81 j = nI (L j)
def Sk (k : Nat) (cs : Nat → Nat → Nat) (L : Nat → Nat) (M : Mem) : Prop := (mI M 65 26 = nI k ∧ mI M 65 27 = 1) ∧ Sn k cs L M
def By (rr : Nat) (b : Nat × Nat × (Nat → Nat)) (M : Mem) : Prop := (b.1 ≤ 66 ∧ b.2.1 ≤ 6) ∧ mI M 72 rr = nI b.2.1 ∧ ∀ j, j < 40 → mI M 73 (40 * rr + j) = if j < b.2.1 then nI (b.2.2 j) else 0
theorem hoursTo_Y {M : Mem} {r n m : Nat} {G : Nat → Nat → Nat} (h : Gd M r n m G) {k : Nat} {c : Nat → Nat} (hk : k ≤ 6) (e26 : mI M 65 26 = nI k) (e82 : mI M 82 k = nI (c 1)) (e86 : mI M 86 k = nI (c 0)) (h0 : c 0 ≤ 9) {o : Nat} (ho : o < m) : f_X8_hoursTo 65 (nI o) M = some (nI (c 1 + ap (c 0) (G 2 o) + 1)) := by
  have hh := (h.o ho).1.2.2
  unfold f_X8_hoursTo
  simp only [KQ h.1, RQ h.1, if_true, Option.bind_some, gI_k, e26, (mtab h).2 o ho]
  rw [aI_k (x := 82) (by simp only [KQ h.1]) (by simp only [LQ]; omega), Option.bind_some, aI_k (x := 86) (by simp only [KQ h.1]) (by simp only [LQ]; omega), Option.bind_some, e82, e86, apy (c 0) (by omega) (G 2 o) (by omega), nI_add, nI_1]
  rfl
theorem mayNext_Y {M : Mem} {r n m : Nat} {G : Nat → Nat → Nat} (h : Gd M r n m G) {k N i o : Nat} {cs : Nat → Nat → Nat} {L : Nat → Nat} (hk : k ≤ 6) (hS : Sk k cs L M) (hb : Nb m N k (cs k)) (hN : N ≤ 30) (hi : i < n) (ho : o < m) : f_X8_mayNext 65 (nI i) (nI o) (nI N) M = some (if nok G N i o (cs k) = true then 1 else 0) := by
  obtain ⟨⟨e26, e27⟩, e1, e2⟩ := hS
  obtain ⟨b0, b1, b2, b3, b4, b5⟩ := id hb
  obtain ⟨c1, c2, c3, c4, c5⟩ := e1 k (Nat.le_refl _)
  have hnm := h.nm
  have h64 := lt64 hnm.2.1 b4
  have hk6 := (h.s hi).1.2.2
  have hd := (h.o ho).2.1.2.2
  have hh := (h.o ho).1.2.2
  have hap := ap_le b0 hh
  have ht9 := tk_le _ hk6 (G 3 o) (by omega)
  have hH := hoursTo_Y h hk e26 c1 c5 b0 ho
  unfold f_X8_mayNext
  simp only [KQ h.1, RQ h.1, if_true, Option.bind_some, gI_k, e26]
  rw [aI_k (x := 85) (by simp only [KQ h.1]) (by simp only [LQ]; omega), Option.bind_some, c4, hs2 _ h64 o (by omega), ((mtab h).1 i hi).1, ((mtab h).2 o ho).2.1]
  simp only [Option.bind_some, tdY _ hk6 (G 3 o) (show G 3 o < 10 by omega)]
  by_cases o1 : (cs k 4).testBit o = true
  · have hno : ¬ nok G N i o (cs k) = true := fun q => by rw [(nok_s.mp q).1] at o1; exact absurd o1 (by decide)
    rw [if_pos o1, if_neg (show ¬ (1 : Int32) = 0 by decide), if_neg hno]
    unfold f_X8_mayNext_38 f_X8_mayNext_39
    rw [if_pos rfl]
  · rw [if_neg o1, if_pos rfl]
    by_cases o2 : td (G 0 i) (G 3 o) = true
    · have hno : ¬ nok G N i o (cs k) = true := fun q => by rw [(nok_s.mp q).2.1] at o2; exact absurd o2 (by decide)
      rw [if_pos o2, if_neg (show ¬ (1 : Int32) = 0 by decide), if_neg hno]
      unfold f_X8_mayNext_38 f_X8_mayNext_39
      rw [if_pos rfl]
    · rw [if_neg o2, if_pos rfl]
      unfold f_X8_mayNext_39
      simp only [KQ h.1, RQ h.1, if_true, Option.bind_some, gI_k, e26, tkn h hi ho, hH]
      rw [if_neg (show ¬ (1 : Int32) = 0 by decide), aI_k (x := 84) (by simp only [KQ h.1]) (by simp only [LQ]; omega), Option.bind_some, c3]
      by_cases o3 : tk (G 0 i) (G 3 o) ≤ cs k 2
      rotate_left
      · have hno : ¬ nok G N i o (cs k) = true := fun q => o3 (nok_s.mp q).2.2.1
        rw [if_pos (nI_lt (by omega) (by omega)), if_neg hno]
      rw [if_neg (nI_nlt o3 (by omega))]
      by_cases o4 : cs k 1 + ap (cs k 0) (G 2 o) + 1 ≤ N
      · rw [if_neg (nI_nlt o4 (by omega)), if_pos (nok_s.mpr ⟨by simpa using o1, by simpa using o2, o3, o4⟩)]
      · have hno : ¬ nok G N i o (cs k) = true := fun q => o4 (nok_s.mp q).2.2.2
        rw [if_pos (nI_lt (by omega) (by omega)), if_neg hno]
def cpu (cs : Nat → Nat → Nat) (k : Nat) (c : Nat → Nat) : Nat → Nat → Nat := fun j => if j = k then c else cs j
theorem push_Y {M : Mem} {r n m : Nat} {G : Nat → Nat → Nat} (h : Gd M r n m G) {k N i o rr : Nat} {cs : Nat → Nat → Nat} {L : Nat → Nat} {b : Nat × Nat × (Nat → Nat)} (hk : k < 6) (hS : Sk k cs L M) (hB : By rr b M) (hb : Nb m N k (cs k)) (hi : i < n) (ho : o < m) (h3 : tk (G 0 i) (G 3 o) ≤ cs k 2) (k16 : Nat → Int32 → Int32 → Int32 → Mem → Option (Int32 × Mem)) : ∃ M', f_X8_nextLine_47 k16 65 (nI i) (nI N) (nI o) M = some (1, M') ∧ FrL rr M M' ∧ Sk (k + 1) (cpu cs (k + 1) (nch G i o (cs k))) (pth L k o) M' ∧ By rr b M' := by
  obtain ⟨⟨e26, e27⟩, e1, e2⟩ := hS
  obtain ⟨b0, b1, b2, b3, b4, b5⟩ := id hb
  obtain ⟨c1, c2, c3, c4, c5⟩ := e1 k (Nat.le_refl _)
  have hnm := h.nm
  unfold f_X8_nextLine_47
  rw [h.sz.2.2.2, Option.bind_some, if_neg (nI_ge ho (by omega)), gI_k (by simp only [KQ h.1]), Option.bind_some, e26]
  simp only [RQ h.1, Option.bind_some]
  rw [eI_k (x := 81) (by simp only [KQ h.1]) (by simp only [LQ]; omega), Option.bind_some]
  have F1 : FrL rr M (sI M 81 k (nI o)) := FrL.ln h.1 (by omega) _
  have l1 : ∀ x, x ≠ 81 → mI (sI M 81 k (nI o)) x = mI M x := fun x hx => mI_sI_row hx
  have m1 : ∀ j, mI (sI M 81 k (nI o)) 81 j = if j = k then nI o else mI M 81 j := fun j => by rw [mI_sI]; simp
  generalize sI M 81 k (nI o) = M1 at *
  have g1 := F1.g h
  rw [hoursTo_Y g1 (k := k) (c := cs k) (by omega) (by rw [l1 65 (by decide)]; exact e26) (by rw [l1 82 (by decide)]; exact c1) (by rw [l1 86 (by decide)]; exact c5) b0 ho]
  simp only [RQ F1.1, Option.bind_some, nI_1]
  rw [eI_k (x := 82) (by simp only [KQ F1.1]) (by simp only [LQ]; omega), Option.bind_some]
  have F2 : FrL rr M (sI M1 82 (k + 1) (nI (cs k 1 + ap (cs k 0) (G 2 o) + 1))) := F1.tr (FrL.ln F1.1 (by omega) _)
  have l2 : ∀ x, x ≠ 82 → mI (sI M1 82 (k + 1) (nI (cs k 1 + ap (cs k 0) (G 2 o) + 1))) x = mI M1 x := fun x hx => mI_sI_row hx
  have m2 : ∀ j, mI (sI M1 82 (k + 1) (nI (cs k 1 + ap (cs k 0) (G 2 o) + 1))) 82 j = if j = k + 1 then nI (cs k 1 + ap (cs k 0) (G 2 o) + 1) else mI M1 82 j := fun j => by rw [mI_sI]; simp
  generalize sI M1 82 (k + 1) (nI (cs k 1 + ap (cs k 0) (G 2 o) + 1)) = M2 at *
  have g2 := F2.g h
  simp only [RQ F2.1, Option.bind_some, brt g2 hi ho]
  rw [aI_k (x := 83) (by simp only [KQ F2.1]) (by simp only [LQ]; omega), Option.bind_some, l2 83 (by decide), l1 83 (by decide), c2, nI_add, eI_k (x := 83) (by simp only [KQ F2.1]) (by simp only [LQ]; omega), Option.bind_some]
  have F3 : FrL rr M (sI M2 83 (k + 1) (nI (cs k 3 + bg (G 0 i) (G 4 o)))) := F2.tr (FrL.ln F2.1 (by omega) _)
  have l3 : ∀ x, x ≠ 83 → mI (sI M2 83 (k + 1) (nI (cs k 3 + bg (G 0 i) (G 4 o)))) x = mI M2 x := fun x hx => mI_sI_row hx
  have m3' : ∀ j, mI (sI M2 83 (k + 1) (nI (cs k 3 + bg (G 0 i) (G 4 o)))) 83 j = if j = k + 1 then nI (cs k 3 + bg (G 0 i) (G 4 o)) else mI M2 83 j := fun j => by rw [mI_sI]; simp
  generalize sI M2 83 (k + 1) (nI (cs k 3 + bg (G 0 i) (G 4 o))) = M3 at *
  have g3 := F3.g h
  simp only [RQ F3.1, Option.bind_some, tkn g3 hi ho]
  rw [aI_k (x := 84) (by simp only [KQ F3.1]) (by simp only [LQ]; omega), Option.bind_some, l3 84 (by decide), l2 84 (by decide), l1 84 (by decide), c3, pk_sub h3, eI_k (x := 84) (by simp only [KQ F3.1]) (by simp only [LQ]; omega), Option.bind_some]
  have F4 : FrL rr M (sI M3 84 (k + 1) (nI (cs k 2 - tk (G 0 i) (G 3 o)))) := F3.tr (FrL.ln F3.1 (by omega) _)
  have l4 : ∀ x, x ≠ 84 → mI (sI M3 84 (k + 1) (nI (cs k 2 - tk (G 0 i) (G 3 o)))) x = mI M3 x := fun x hx => mI_sI_row hx
  have m4 : ∀ j, mI (sI M3 84 (k + 1) (nI (cs k 2 - tk (G 0 i) (G 3 o)))) 84 j = if j = k + 1 then nI (cs k 2 - tk (G 0 i) (G 3 o)) else mI M3 84 j := fun j => by rw [mI_sI]; simp
  generalize sI M3 84 (k + 1) (nI (cs k 2 - tk (G 0 i) (G 3 o))) = M4 at *
  simp only [RQ F4.1, Option.bind_some]
  rw [aI_k (x := 85) (by simp only [KQ F4.1]) (by simp only [LQ]; omega), Option.bind_some, l4 85 (by decide), l3 85 (by decide), l2 85 (by decide), l1 85 (by decide), c4, sh1 o (by omega), or1, eI_k (x := 85) (by simp only [KQ F4.1]) (by simp only [LQ]; omega), Option.bind_some]
  have F5 : FrL rr M (sI M4 85 (k + 1) (nI (cs k 4 ||| 2 ^ o))) := F4.tr (FrL.ln F4.1 (by omega) _)
  have l5 : ∀ x, x ≠ 85 → mI (sI M4 85 (k + 1) (nI (cs k 4 ||| 2 ^ o))) x = mI M4 x := fun x hx => mI_sI_row hx
  have m5 : ∀ j, mI (sI M4 85 (k + 1) (nI (cs k 4 ||| 2 ^ o))) 85 j = if j = k + 1 then nI (cs k 4 ||| 2 ^ o) else mI M4 85 j := fun j => by rw [mI_sI]; simp
  generalize sI M4 85 (k + 1) (nI (cs k 4 ||| 2 ^ o)) = M5 at *
  have g5 := F5.g h
  simp only [RQ F5.1, Option.bind_some, (mtab g5).2 o ho]
  rw [eI_k (x := 86) (by simp only [KQ F5.1]) (by simp only [LQ]; omega), Option.bind_some]
  have F6 : FrL rr M (sI M5 86 (k + 1) (nI (G 2 o))) := F5.tr (FrL.ln F5.1 (by omega) _)
  have l6 : ∀ x, x ≠ 86 → mI (sI M5 86 (k + 1) (nI (G 2 o))) x = mI M5 x := fun x hx => mI_sI_row hx
  have m6' : ∀ j, mI (sI M5 86 (k + 1) (nI (G 2 o))) 86 j = if j = k + 1 then nI (G 2 o) else mI M5 86 j := fun j => by rw [mI_sI]; simp
  generalize sI M5 86 (k + 1) (nI (G 2 o)) = M6 at *
  have la : ∀ x, x < 81 ∨ 86 < x → mI M6 x = mI M x := fun x hx => by rw [l6 x (by omega), l5 x (by omega), l4 x (by omega), l3 x (by omega), l2 x (by omega), l1 x (by omega)]
  rw [gI_k (by simp only [KQ F6.1]), Option.bind_some, la 65 (by omega), e26, nI_1, pI_k (by simp only [KQ F6.1]), Option.bind_some]
  refine ⟨_, rfl, F6.tr (FrL.sz F6.1 (Or.inl rfl) _), ⟨⟨?_, ?_⟩, fun j hj => ?_, fun j hj => ?_⟩, hB.1, ?_, fun j hj => ?_⟩
  · rw [mI_sI, if_pos ⟨rfl, rfl⟩]
  · rw [mI_sI, if_neg (by decide), la 65 (by omega)]; exact e27
  · rw [mI_sI_row (show 82 ≠ 65 by decide), mI_sI_row (show 83 ≠ 65 by decide), mI_sI_row (show 84 ≠ 65 by decide), mI_sI_row (show 85 ≠ 65 by decide), mI_sI_row (show 86 ≠ 65 by decide), l6 82 (by decide), l5 82 (by decide), l4 82 (by decide), l3 82 (by decide), m2, l1 82 (by decide), l6 83 (by decide), l5 83 (by decide), l4 83 (by decide), m3', l2 83 (by decide), l1 83 (by decide), l6 84 (by decide), l5 84 (by decide), m4, l3 84 (by decide), l2 84 (by decide), l1 84 (by decide), l6 85 (by decide), m5, l4 85 (by decide), l3 85 (by decide), l2 85 (by decide), l1 85 (by decide), m6', l5 86 (by decide), l4 86 (by decide), l3 86 (by decide), l2 86 (by decide), l1 86 (by decide)]
    unfold cpu
    by_cases q : j = k + 1
    · simp only [if_pos q]
      exact ⟨rfl, rfl, rfl, rfl, rfl⟩
    · simp only [if_neg q]
      exact e1 j (by omega)
  · rw [mI_sI_row (by decide), l6 81 (by decide), l5 81 (by decide), l4 81 (by decide), l3 81 (by decide), l2 81 (by decide), m1]
    unfold pth
    by_cases q : j = k
    · rw [if_pos q, if_pos q]
    · rw [if_neg q, if_neg q]; exact e2 j (by omega)
  · rw [mI_sI_row (by decide), la 72 (by omega)]; exact hB.2.1
  · rw [mI_sI_row (by decide), la 73 (by omega)]; exact hB.2.2 j hj
theorem pop_Y {M : Mem} {r n m : Nat} {G : Nat → Nat → Nat} (h : Gd M r n m G) {k rr : Nat} {cs : Nat → Nat → Nat} {L : Nat → Nat} {b : Nat × Nat × (Nat → Nat)} (hk : k < 6) (hS : Sk (k + 1) cs L M) (hB : By rr b M) (k16 : Nat → Int32 → Int32 → Int32 → Mem → Option (Int32 × Mem)) (x1 x2 : Int32) : ∃ M', f_X8_nextLine_47 k16 65 x1 x2 (nI m) M = k16 65 x1 x2 (nI (L k + 1)) M' ∧ FrL rr M M' ∧ Sk k cs L M' ∧ By rr b M' := by
  obtain ⟨⟨e26, e27⟩, e1, e2⟩ := hS
  have hS2 : SF (sI M 65 26 (nI k)) := h.1
  unfold f_X8_nextLine_47
  rw [h.sz.2.2.2, Option.bind_some, if_pos (Int32.le_refl _), gI_k (by simp only [KQ h.1]), Option.bind_some, e26, pI_k (by simp only [KQ h.1]), Option.bind_some, show nI (k + 1) - 1 = nI k from pk_sub (a := k + 1) (b := 1) (by omega)]
  simp only [RQ hS2, Option.bind_some, KQ hS2, gI_k]
  have q26 : mI (sI M 65 26 (nI k)) 65 26 = nI k := by rw [mI_sI, if_pos ⟨rfl, rfl⟩]
  rw [q26, if_pos (nI_pos' (by omega)), aI_k (x := 81) (by simp only [KQ hS2]) (by simp only [LQ]; omega), Option.bind_some, mI_sI_row (by decide), e2 k (by omega), nI_1]
  refine ⟨_, rfl, FrL.sz h.1 (Or.inl rfl) _, ⟨⟨?_, ?_⟩, fun j hj => ?_, fun j hj => ?_⟩, hB.1, ?_, fun j hj => ?_⟩
  · rw [mI_sI, if_pos ⟨rfl, rfl⟩]
  · rw [mI_sI, if_neg (by decide)]; exact e27
  · rw [mI_sI_row (show 82 ≠ 65 by decide), mI_sI_row (show 83 ≠ 65 by decide), mI_sI_row (show 84 ≠ 65 by decide), mI_sI_row (show 85 ≠ 65 by decide), mI_sI_row (show 86 ≠ 65 by decide)]; exact e1 j (by omega)
  · rw [mI_sI_row (by decide)]; exact e2 j (by omega)
  · rw [mI_sI_row (by decide)]; exact hB.2.1
  · rw [mI_sI_row (by decide)]; exact hB.2.2 j hj
theorem Sk.congr {k : Nat} {cs cs' : Nat → Nat → Nat} {L L' : Nat → Nat} {M : Mem} (h : Sk k cs L M) (e : ∀ j, j ≤ k → cs' j = cs j) (e2 : ∀ j, j < k → L' j = L j) : Sk k cs' L' M := by
  refine ⟨h.1, fun j hj => ?_, fun j hj => ?_⟩
  · rw [e j hj]; exact h.2.1 j hj
  · rw [e2 j hj]; exact h.2.2 j hj
