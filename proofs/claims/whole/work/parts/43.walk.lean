/-! ===== walk(), sigh(), rest() ===== -/
theorem KpP.congr {G : Nat → Nat → Nat} {n m : Nat} {cods : Nat → Int32} {cnt : Int32} {f g : Nat → Int32} {b : Nat} (h : KpP G n m cods cnt f b) (hn : n ≤ 5) (e : ∀ j, b ≤ j → g j = f j) : KpP G n m cods cnt g b := by
  rcases h with ⟨h1, h2⟩ | ⟨h0, d, cd, h1, h2, h3, h4, h5, h6⟩
  · exact Or.inl ⟨h1, by rw [e b (Nat.le_refl _)]; exact h2⟩
  · exact Or.inr ⟨h0, d, cd, h1, h2, by rw [e b (Nat.le_refl _)]; exact h3, h4, h5.congr hn (fun j h1 h2 => e j (by omega)), fun k hk => (h6 k hk).congr hn (fun j h1 h2 => e j (by omega))⟩
theorem Inv.deeds {M M' : Mem} (h : Inv M) {r s n m : Nat} {G : Nat → Nat → Nat} {d : Nat} {cd : Nat → Nat} (hR : RoP r s M) (hH : GhP r (mI M) (mI M 65 1) (mI M 65 4) n m G d cd) (hS : SF M') (hmR : mR M' = mR M) (hmL : mL M' = mL M) (hf : ∀ x, x < 22 ∨ 29 < x → x ≠ 66 → mI M' x = mI M x) (h66 : ∀ j, 493 ≤ j → mI M' 66 j = mI M 66 j) {d' : Nat} {cd' : Nat → Nat} (hC : Cf G n m d' cd' M') (hM : Mf G n d' 0 cd' (mI M' 66)) : Inv M' := by
  have hG : Gd M r n m G := ⟨h.1, by obtain ⟨q, -, -⟩ := hR; omega, hR.2.1, hH.1⟩
  have hG' : Gd M' r n m G := hG.congr hS (by rw [hmR]) (fun x hx => hf x (by omega) (by omega)) (by rw [hf 65 (by omega) (by omega)]) (by rw [hf 65 (by omega) (by omega)])
  refine ⟨hS, h.2.1.congr (fun x hx => hf x (by omega) (by omega)), h.2.2.1.congr (fun x hx => hf x (by omega) (by omega)), ?_, r, s, n, m, G, d', cd', ?_, hG'.2.2.2, ⟨hC.1, hC.2.1, hM.1, hC.2.2.1, hM.2.1, hM.2.2⟩, hC.2.2.2, fun q hq => ?_⟩
  · have t := h.2.2.2.1
    unfold TlP at t ⊢
    rw [hf 65 (by omega) (by omega), hf 1 (by omega) (by omega), hf 76 (by omega) (by omega), hf 38 (by omega) (by omega), hmL]
    exact t
  · obtain ⟨q1, q2, q3⟩ := hR
    exact ⟨q1, by rw [hmR]; exact q2, by rw [hmR]; exact q3⟩
  · have := (hH.2.2.2 q hq).congr (g := mI M' 66) hG.nm.1 (fun j hj => h66 j (by omega))
    rw [hf (59 + 2 * q) (by omega) (by omega), hf (60 + 2 * q) (by omega) (by omega)]
    exact this
theorem kp_Y {M : Mem} {n d : Nat} {G : Nat → Nat → Nat} {cd : Nat → Nat} (h : SF M) (hn : n ≤ 5) (hM : Mf G n d 0 cd (mI M 66)) (hd : d < 40) : ∃ M', f_X8_keepPast 65 M = some M' ∧ SF M' ∧ mR M' = mR M ∧ mL M' = mL M ∧ (∀ x, x ≠ 66 → mI M' x = mI M x) ∧ (∀ j, 493 ≤ j → mI M' 66 j = mI M 66 j) ∧ mI M' 66 0 = nI (d + 1) ∧ Part (mI M' 66) 0 n (run G cd d) ∧ ∀ k, k < d + 1 → Part (mI M' 66) (0 + 12 + 12 * k) n (run G cd k) := by
  obtain ⟨h1, h2, h3⟩ := hM
  refine ⟨_, keepPast_Y h hd h1, h, rfl, rfl, fun x hx => mI_ne hx, fun j hj => ?_, ?_, ?_, fun k hk => ?_⟩
  · rw [mI_eq, if_neg (by omega), if_neg (by omega)]
  · rw [mI_eq, if_pos rfl]
  · refine h2.congr hn (fun j q1 q2 => ?_)
    rw [mI_eq, if_neg (by omega), if_neg (by omega)]
  · by_cases hkd : k = d
    · subst hkd
      refine h2.move hn (fun j q1 q2 => ?_)
      rw [mI_eq, if_neg (by omega), if_pos (by omega), show 0 + 12 + 12 * k + j - (13 + 12 * k) + 1 = 0 + j by omega]
    · refine (h3 k (by omega)).congr hn (fun j q1 q2 => ?_)
      rw [mI_eq, if_neg (by omega), if_neg (by omega)]
theorem mf_step {n d c : Nat} {G : Nat → Nat → Nat} {cd : Nat → Nat} {f1 f2 : Nat → Int32} (hn : n ≤ 5) (e0 : f1 0 = nI (d + 1)) (hk : ∀ k, k < d + 1 → Part f1 (0 + 12 + 12 * k) n (run G cd k)) (e : ∀ j, j = 0 ∨ 13 ≤ j → f2 j = f1 j) (hP : Part f2 0 n (perf G c (run G cd d))) : Mf G n (d + 1) 0 (psh cd d c) f2 := by
  refine ⟨by rw [e 0 (Or.inl rfl)]; exact e0, by rw [run_psh]; exact hP, fun k hk2 => ?_⟩
  rw [run_psl (by omega)]
  exact (hk k hk2).congr hn (fun j q1 q2 => e j (by omega))
theorem perf_w {G S : Nat → Nat → Nat} {i p : Nat} (hi : i < 10) (hp : p < 10) : perf G (100 * 0 + 10 * i + p) S = walked S i p := by
  unfold perf
  rw [if_pos (by omega), show (100 * 0 + 10 * i + p) / 10 % 10 = i by omega, show (100 * 0 + 10 * i + p) % 10 = p by omega]
theorem perf_s {G S : Nat → Nat → Nat} {i p : Nat} (hi : i < 10) (hp : p < 10) (hc : can G S i p = true) : perf G (100 * 1 + 10 * i + p) S = sighed G S i p := by
  unfold perf
  rw [if_neg (by omega), if_pos (by omega), show (100 * 1 + 10 * i + p) / 10 % 10 = i by omega, show (100 * 1 + 10 * i + p) % 10 = p by omega, if_pos hc]
theorem perf_r {G S : Nat → Nat → Nat} {i : Nat} (hi : i < 10) : perf G (100 * 2 + 10 * i + 0) S = rested S i := by
  unfold perf
  rw [if_neg (by omega), if_neg (by omega), show (100 * 2 + 10 * i + 0) / 10 % 10 = i by omega]
/-- a model's deed, each -/
theorem mwalk_Y {M : Mem} {r n m d : Nat} {G : Nat → Nat → Nat} {cd : Nat → Nat} (h : Gd M r n m G) (hM : Mf G n d 0 cd (mI M 66)) (hd : d < 40) {i p : Nat} (hi : i < n) (hp : p < 10) : ∃ M1 M', f_X8_keepPast 65 M = some M1 ∧ SF M1 ∧ Gd M1 r n m G ∧ Part (mI M1 66) 0 n (run G cd d) ∧ (∀ x, x ≠ 66 → mI M1 x = mI M x) ∧ eI M1 66 (nI (8 + i)) (nI p) = some M' ∧ SF M' ∧ mR M' = mR M ∧ mL M' = mL M ∧ (∀ x, x ≠ 66 → mI M' x = mI M x) ∧ (∀ j, 493 ≤ j → mI M' 66 j = mI M 66 j) ∧ Mf G n (d + 1) 0 (psh cd d (100 * 0 + 10 * i + p)) (mI M' 66) := by
  have hnm := h.nm
  obtain ⟨M1, k1, k2, k3, k4, k5, k6, k7, k8, k9⟩ := kp_Y h.1 hnm.1 hM hd
  have hG1 : Gd M1 r n m G := h.congr k2 (by rw [k3]) (fun x hx => k5 x (by omega)) (by rw [k5 65 (by omega)]) (by rw [k5 65 (by omega)])
  refine ⟨M1, _, k1, k2, hG1, k8, k5, eI_k (by simp only [KQ k2]) (by simp only [LQ]; omega), k2, k3, k4, fun x hx => ?_, fun j hj => ?_, mf_step (f1 := mI M1 66) hnm.1 k7 k9 (fun j hj => ?_) ?_⟩
  · rw [mI_sI_row hx, k5 x hx]
  · rw [mI_sI, if_neg (by omega), k6 j hj]
  · rw [mI_sI, if_neg (by omega)]
  · rw [perf_w (by omega) hp]
    obtain ⟨p1, p2, p3⟩ := k8
    refine ⟨by rw [mI_sI, if_neg (by omega)]; exact p1, by rw [mI_sI, if_neg (by omega)]; exact p2, fun j hj => ⟨?_, ?_⟩⟩
    · rw [mI_sI, if_neg (by omega)]; exact (p3 j hj).1
    · rw [mI_sI]
      unfold walked
      by_cases hji : j = i
      · rw [if_pos (by omega), if_pos ⟨rfl, hji⟩]
      · rw [if_neg (by omega), if_neg (fun q => hji q.2)]; exact (p3 j hj).2
theorem msigh_Y {M : Mem} {r n m d : Nat} {G : Nat → Nat → Nat} {cd : Nat → Nat} (h : Gd M r n m G) (hM : Mf G n d 0 cd (mI M 66)) (hd : d < 40) {i o : Nat} (hi : i < n) (ho : o < m) (hc : can G (run G cd d) i o = true) : ∃ M1 M', f_X8_keepPast 65 M = some M1 ∧ SF M1 ∧ Gd M1 r n m G ∧ Part (mI M1 66) 0 n (run G cd d) ∧ (∀ x, x ≠ 66 → mI M1 x = mI M x) ∧ f_X8_sighsAt 65 0 (nI i) (nI o) M1 = some M' ∧ SF M' ∧ mR M' = mR M ∧ mL M' = mL M ∧ (∀ x, x ≠ 66 → mI M' x = mI M x) ∧ (∀ j, 493 ≤ j → mI M' 66 j = mI M 66 j) ∧ Mf G n (d + 1) 0 (psh cd d (100 * 1 + 10 * i + o)) (mI M' 66) := by
  have hnm := h.nm
  obtain ⟨M1, k1, k2, k3, k4, k5, k6, k7, k8, k9⟩ := kp_Y h.1 hnm.1 hM hd
  have hG1 : Gd M1 r n m G := h.congr k2 (by rw [k3]) (fun x hx => k5 x (by omega)) (by rw [k5 65 (by omega)]) (by rw [k5 65 (by omega)])
  obtain ⟨M', s1, s2, s3, s4, s5, s6, s7⟩ := sighsAt_Y hG1 (b := 0) (by omega) k8 hi ho (can_tk hc).2.2
  refine ⟨M1, M', k1, k2, hG1, k8, k5, s1, s2, s3.trans k3, s4.trans k4, fun x hx => (s5 x hx).trans (k5 x hx), fun j hj => (s6 j (by omega)).trans (k6 j hj), mf_step (f1 := mI M1 66) hnm.1 k7 k9 (fun j hj => s6 j (by omega)) ?_⟩
  rw [perf_s (by omega) (by omega) hc]
  exact s7
theorem mrest_Y {M : Mem} {r n m d : Nat} {G : Nat → Nat → Nat} {cd : Nat → Nat} (h : Gd M r n m G) (hM : Mf G n d 0 cd (mI M 66)) (hd : d < 40) {i : Nat} (hi : i < n) (h9 : run G cd d 0 i ≤ 9) : ∃ M1 M', f_X8_keepPast 65 M = some M1 ∧ SF M1 ∧ Gd M1 r n m G ∧ Part (mI M1 66) 0 n (run G cd d) ∧ (∀ x, x ≠ 66 → mI M1 x = mI M x) ∧ f_X8_rests 65 (nI i) M1 = some M' ∧ SF M' ∧ mR M' = mR M ∧ mL M' = mL M ∧ (∀ x, x ≠ 66 → mI M' x = mI M x) ∧ (∀ j, 493 ≤ j → mI M' 66 j = mI M 66 j) ∧ Mf G n (d + 1) 0 (psh cd d (100 * 2 + 10 * i + 0)) (mI M' 66) := by
  have hnm := h.nm
  obtain ⟨M1, k1, k2, k3, k4, k5, k6, k7, k8, k9⟩ := kp_Y h.1 hnm.1 hM hd
  have hG1 : Gd M1 r n m G := h.congr k2 (by rw [k3]) (fun x hx => k5 x (by omega)) (by rw [k5 65 (by omega)]) (by rw [k5 65 (by omega)])
  refine ⟨M1, _, k1, k2, hG1, k8, k5, rests_Y hG1 k8 hi h9, k2, k3, k4, fun x hx => ?_, fun j hj => ?_, mf_step (f1 := mI M1 66) hnm.1 k7 k9 (fun j hj => ?_) ?_⟩
  · rw [mI_sI_row hx, k5 x hx]
  · rw [mI_sI, if_neg (by omega), k6 j hj]
  · rw [mI_sI, if_neg (by omega)]
  · rw [perf_r (by omega)]
    obtain ⟨p1, p2, p3⟩ := k8
    refine ⟨by rw [mI_sI, if_neg (by omega)]; exact p1, by rw [mI_sI, if_neg (by omega)]; exact p2, fun j hj => ⟨?_, ?_⟩⟩
    · rw [mI_sI]
      unfold rested
      by_cases hji : j = i
      · rw [if_pos (by omega)]; exact congrArg nI (if_pos ⟨rfl, hji⟩).symm
      · rw [if_neg (by omega), if_neg (fun q => hji q.2)]; exact (p3 j hj).1
    · rw [mI_sI, if_neg (by omega)]; exact (p3 j hj).2
theorem Inv.hf {M : Mem} {r n m : Nat} {G : Nat → Nat → Nat} {d : Nat} {cd : Nat → Nat} (hH : GhP r (mI M) (mI M 65 1) (mI M 65 4) n m G d cd) : Cf G n m d cd M ∧ Mf G n d 0 cd (mI M 66) := by
  obtain ⟨-, ⟨a1, a2, a3, a4, a5, a6⟩, a7, -⟩ := hH
  exact ⟨⟨a1, a2, a4, a7⟩, a3, a5, a6⟩
theorem isPlace_bad {x : Int32} (hx : x < 0 ∨ nI 10 ≤ x) : f_X7_isPlace x = 0 := by
  unfold f_X7_isPlace
  by_cases q : x < 0
  · rw [if_pos q]
  · rw [if_neg q]; exact if_pos (hx.resolve_left q)
theorem isPlace_ok : ∀ p, p < 10 → f_X7_isPlace (nI p) = 1 := by decide +kernel
theorem apx : ∀ a, a < 10 → ∀ p, p < 10 → f_J9_abs_0f7a4 (nI a - nI p) = nI (if a ≤ p then p - a else a - p) := by decide +kernel
theorem apy : ∀ a, a < 10 → ∀ p, p < 10 → f_X8_apart (nI a) (nI p) = nI (if a ≤ p then p - a else a - p) := by decide +kernel
theorem lack_X {M : Mem} (h : SF M) {d k : Nat} (hd : mI M 28 1 = nI d) (hd2 : d ≤ 40) (hk : k ≤ 40) : f_X0_lackRoomFor 28 (nI k) M = some (if d + k ≤ 40 then 0 else 1) := by
  unfold f_X0_lackRoomFor
  simp only [KQ h, if_true, gI_k, hd, Option.bind_some, nI_add]
  by_cases hc : d + k ≤ 40
  · rw [if_pos (show nI (d + k) ≤ 40 from nI_le (b := 40) hc (by decide)), if_pos hc]
  · rw [if_neg (show ¬ nI (d + k) ≤ 40 from nI_ge (a := 40) (by omega) (by omega)), if_neg hc]
theorem op13 {M : Mem} (h : Inv M) (a1 a2 : Int32) : ∃ M', lawOp_13 a1 a2 M = some M' ∧ Inv M' := by
  have hS := h.1
  obtain ⟨r, s, n, m, G, d, cd, hR, hH, hG, hN, hP, hB, hd⟩ := h.op
  have hnm := hG.nm
  unfold lawOp_13 f_X7_walk f_X8_walk
  simp only [KQ hS, if_true, hG.R, Option.bind_some]
  rcases ixc a1 n (by omega) with h1 | ⟨i, hi, rfl⟩
  · simp only [hasS_bad hG h1, Option.bind_some, if_true, KQ hS, isS_bad hG h1]
    exact ⟨M, rfl, h⟩
  · simp only [hasS_ok hG hi, Option.bind_some, show ¬ (1 : Int32) = 0 by decide, if_false]
    rcases ixc a2 10 (by omega) with h2 | ⟨p, hp, rfl⟩
    · have e0 : f_X8_in (Int32.toInt64 a2) 0 9 = 0 := in_bad (n := 10) (by decide) rfl h2
      simp only [isPlace_bad h2, if_true, Option.bind_some, KQ hS, isS_ok hG hi, show ¬ (1 : Int32) = 0 by decide, if_false, e0]
      exact ⟨M, rfl, h⟩
    · have e1 : f_X8_in (Int32.toInt64 (nI p)) 0 9 = 1 := in_ok (n := 10) (by decide) rfl hp
      have hp9 := (hB.1 i hi).2
      have ea : mI M 66 (8 + i) = nI (run G cd d 1 i) := by have := (hP.2.2 i hi).2; rw [Nat.zero_add] at this; exact this
      simp only [isPlace_ok p hp, show ¬ (1 : Int32) = 0 by decide, if_false, RQ hS, Option.bind_some]
      rw [aI_k (x := 24) (by simp only [KQ hS]) (by simp only [LQ]; omega), show mI M 24 i = _ from (hN.2.2 i hi).2]
      simp only [Option.bind_some, apx _ (show run G cd d 1 i < 10 by omega) p hp]
      generalize hst : (if run G cd d 1 i ≤ p then p - run G cd d 1 i else run G cd d 1 i - p) = st
      have hst2 : st < 10 := by
        rw [← hst]
        by_cases q : run G cd d 1 i ≤ p
        · rw [if_pos q]; omega
        · rw [if_neg q]; omega
      by_cases h0 : st = 0
      · subst h0
        rw [if_pos (show nI 0 = 0 from rfl)]
        simp only [Option.bind_some, KQ hS, if_true, isS_ok hG hi, show ¬ (1 : Int32) = 0 by decide, if_false, e1, RQ hS, show (8 : Int32) + nI i = nI (8 + i) from nI_add 8 i]
        rw [aI_k (by simp only [KQ hS]) (by simp only [LQ]; omega), ea]
        simp only [Option.bind_some, apy _ (show run G cd d 1 i < 10 by omega) p hp, hst]
        rw [if_pos (show nI 0 = 0 from rfl)]
        exact ⟨M, rfl, h⟩
      · rw [if_neg (n0 h0 (by omega)), show f_X0_lackRoomFor 28 1 M = _ from lack_X hS (k := 1) hH.2.1.2.1 hd (by decide)]
        by_cases h40 : d + 1 ≤ 40
        · obtain ⟨hC, hM⟩ := Inv.hf hH
          obtain ⟨M1, q1, q2, q3, q4, q5, q6⟩ := enact_X hG hC (by omega) (w := 0) (i := i) (t := p) (by decide) hp ⟨by omega, by omega, by omega⟩
          have hG1 : Gd M1 r n m G := hG.congr q2 (by rw [q3]) (fun x hx => q5 x (by omega)) (by rw [q5 65 (by omega)]) (by rw [q5 65 (by omega)])
          have hM1 : Mf G n d 0 cd (mI M1 66) := by rw [q5 66 (by omega)]; exact hM
          obtain ⟨M2, M3, w1, w2, w3, w4, w5, w6, w7, w8, w9, w10, w11, w12⟩ := mwalk_Y hG1 hM1 (by omega) hi hp
          simp only [if_pos h40, Option.bind_some, if_true, show f_X7_enact 1 0 (nI i) (nI p) M = some M1 from q1, KQ q2, isS_ok hG1 hi, show ¬ (1 : Int32) = 0 by decide, if_false, e1, RQ q2, show (8 : Int32) + nI i = nI (8 + i) from nI_add 8 i]
          rw [aI_k (by simp only [KQ q2]) (by simp only [LQ]; omega), q5 66 (by omega), ea]
          simp only [Option.bind_some, apy _ (show run G cd d 1 i < 10 by omega) p hp, hst]
          rw [if_neg (n0 h0 (by omega)), show aI M1 66 0 = _ from aI_k (j := 0) (by simp only [KQ q2]) (by simp only [LQ]; omega), q5 66 (by omega), hM.1]
          simp only [Option.bind_some]
          rw [if_neg (show ¬ nI d = 40 from fun q => absurd ((nI_eq (by omega) (b := 40) (by decide)).mp q) (by omega)), w1, Option.bind_some]
          simp only [RQ w2, Option.bind_some, w6, if_true]
          exact ⟨M3, rfl, h.deeds hR hH w7 (w8.trans q3) (w9.trans q4) (fun x h1 h2 => (w10 x h2).trans (q5 x (by omega))) (fun j hj => (w11 j hj).trans (by rw [q5 66 (by omega)])) (by
            obtain ⟨c1, c2, c3, c4⟩ := q6
            refine ⟨c1, ?_, ?_, ?_⟩
            · rw [w10 28 (by decide)]; exact c2
            · rw [w10 29 (by decide)]; exact c3
            · rw [w10 22 (by decide), w10 (22 + 1) (by decide), w10 (22 + 2) (by decide)]; exact c4) w12⟩
        · have hd40 : d = 40 := by omega
          simp only [if_neg h40, Option.bind_some, show ¬ (1 : Int32) = 0 by decide, if_false, KQ hS, if_true, isS_ok hG hi, e1, RQ hS, show (8 : Int32) + nI i = nI (8 + i) from nI_add 8 i]
          rw [aI_k (by simp only [KQ hS]) (by simp only [LQ]; omega), ea]
          simp only [Option.bind_some, apy _ (show run G cd d 1 i < 10 by omega) p hp, hst]
          rw [if_neg (n0 h0 (by omega)), show aI M 66 0 = _ from aI_k (j := 0) (by simp only [KQ hS]) (by simp only [LQ]; omega), hH.2.1.2.2.1, hd40]
          simp only [Option.bind_some]
          rw [if_pos (show nI 40 = 40 from rfl)]
          exact ⟨M, rfl, h⟩
