theorem next_Y {M : Mem} {r n m : Nat} {G : Nat → Nat → Nat} (h : Gd M r n m G) {o d : Nat} (ho : o < m) (hd : d < n) {X : Mem} (hF : FrZ M X) (h1 : mI X 79 o = nI d) (h2 : ∀ j, o < j → j < m → mI X 79 j = nI n) : ∃ X', f_X8_nextGivens 65 X = some (1, X') ∧ FrZ M X' ∧ (∀ j, j < o → mI X' 79 j = mI X 79 j) ∧ mI X' 79 o = nI (d + 1) ∧ (∀ j, o < j → j < m → mI X' 79 j = 0) ∧ mI X' 80 = mI X 80 := by
  have hnm := h.nm
  obtain ⟨Y, fu', y1, y2, y3, y4, y5⟩ := nx7_Y h (p := o + 1) (m - (o + 1)) FU X (by omega) (by unfold FU; omega) hF (fun j q1 q2 => h2 j (by omega) (by omega))
  unfold f_X8_nextGivens
  rw [if_pos (by simp only [KQ hF.1]), (hF.g h).sz.2.2.2, Option.bind_some, show nI m - 1 = nI (o + 1 + (m - (o + 1))) - 1 by rw [show o + 1 + (m - (o + 1)) = m by omega], y1, s1, f_X8_nextGivens_7]
  rw [if_neg (nI_pos (by omega))]
  simp only [RQ y2.1, Option.bind_some]
  rw [aI_k (x := 79) (by simp only [KQ y2.1]) (by simp only [LQ]; omega), Option.bind_some, y3 o (by omega), h1, (y2.g h).sz.2.2.1, Option.bind_some, if_neg (fun w => by have := (nI_eq (by omega) (by omega)).mp w; omega)]
  unfold f_X8_nextGivens_37
  simp only [RQ y2.1, Option.bind_some]
  rw [if_pos (nI_pos' (by omega)), aI_k (x := 79) (by simp only [KQ y2.1]) (by simp only [LQ]; omega), Option.bind_some, y3 o (by omega), h1, nI_1, eI_k (x := 79) (by simp only [KQ y2.1]) (by simp only [LQ]; omega), Option.bind_some]
  refine ⟨_, rfl, y2.tr (FrZ.s y2.1 (Or.inl rfl) _), fun j hj => ?_, ?_, fun j q1 q2 => ?_, ?_⟩
  · rw [mI_sI, if_neg (by omega)]; exact y3 j (by omega)
  · rw [mI_sI, if_pos ⟨rfl, rfl⟩]
  · rw [mI_sI, if_neg (by omega)]; exact y4 j (by omega) (by omega)
  · rw [mI_sI_row (by decide)]; exact y5
theorem last_Y {M : Mem} {r n m : Nat} {G : Nat → Nat → Nat} (h : Gd M r n m G) {X : Mem} (hF : FrZ M X) (h2 : ∀ j, j < m → mI X 79 j = nI n) : ∃ X', f_X8_nextGivens 65 X = some (0, X') ∧ FrZ M X' ∧ mI X' 80 = mI X 80 := by
  have hnm := h.nm
  obtain ⟨Y, fu', y1, y2, y3, y4, y5⟩ := nx7_Y h (p := 0) m FU X (by omega) (by unfold FU; omega) hF (fun j q1 q2 => h2 j (by omega))
  rw [Nat.zero_add] at y1
  unfold f_X8_nextGivens
  rw [if_pos (by simp only [KQ hF.1]), (hF.g h).sz.2.2.2, Option.bind_some, y1, f_X8_nextGivens_7]
  rw [if_pos (by decide)]
  unfold f_X8_nextGivens_37
  rw [if_neg (by decide)]
  exact ⟨Y, rfl, y2, y5⟩
def Bz (m n : Nat) (b : Nat × (Nat → Nat)) (M : Mem) : Prop := b.1 ≤ 67 ∧ (0 < b.1 → ∀ j, j < m → mI M 80 j = nI (b.2 j) ∧ b.2 j ≤ n)
def fo (G : Nat → Nat → Nat) (n e k o : Nat) (st : Option ((Nat → Nat → Nat) × Nat)) (c : Nat → Nat) (b : Nat × (Nat → Nat)) : Nat × (Nat → Nat) :=
  match st with
  | none => b
  | some p => fol G n e k o p.1 p.2 c b
def chs (G : Nat → Nat → Nat) (e : Nat) (st : Option ((Nat → Nat → Nat) × Nat)) (o d : Nat) : Option ((Nat → Nat → Nat) × Nat) := st.bind fun p => if d = 0 then some p else if can G p.1 (d - 1) o = true then some (sighed G p.1 (d - 1) o, p.2 + wo G e (d - 1) o) else none
theorem iter_shift {σ : Type} {f : Nat → σ → σ} : ∀ k j (s : σ), iter f (j + 1) k s = iter (fun i => f (i + 1)) j k s := by
  intro k
  induction k with
  | zero => intro j s; rfl
  | succ k ih => intro j s; exact ih (j + 1) (f (j + 1) s)
theorem fo_s {G : Nat → Nat → Nat} {n e k o : Nat} {st : Option ((Nat → Nat → Nat) × Nat)} {c : Nat → Nat} {b : Nat × (Nat → Nat)} : fo G n e (k + 1) o st c b = iter (fun d b => fo G n e k (o + 1) (chs G e st o d) (pth c o d) b) 0 (n + 1) b := by
  cases st with
  | none => exact (iter_id (n + 1) 0 b (fun _ _ _ => rfl)).symm
  | some p =>
    show iter (fun i b => if can G p.1 i o = true then fol G n e k (o + 1) (sighed G p.1 i o) (p.2 + wo G e i o) (pth c o (i + 1)) b else b) 0 n (fol G n e k (o + 1) p.1 p.2 (pth c o 0) b) = iter (fun d b => fo G n e k (o + 1) (chs G e (some p) o d) (pth c o d) b) (0 + 1) n (fol G n e k (o + 1) p.1 p.2 (pth c o 0) b)
    rw [iter_shift]
    refine iter_congr n 0 _ (fun i s _ _ => ?_)
    have hch : chs G e (some p) o (i + 1) = if can G p.1 i o = true then some (sighed G p.1 i o, p.2 + wo G e i o) else none := by
      show (if i + 1 = 0 then some p else _) = _
      rw [if_neg (by omega)]; rfl
    rw [hch]
    by_cases q : can G p.1 i o = true
    · rw [if_pos q, if_pos q]; rfl
    · rw [if_neg q, if_neg q]; rfl
def Os (S0 : Nat → Nat → Nat) (n m e o : Nat) (st : Option ((Nat → Nat → Nat) × Nat)) : Prop := ∀ p, st = some p → Wn S0 n m e o p.2 p.1
theorem Os.ch {M : Mem} {r n m : Nat} {G S0 : Nat → Nat → Nat} (h : Gd M r n m G) {e o d : Nat} {st : Option ((Nat → Nat → Nat) × Nat)} (hO : Os S0 n m e o st) (ho : o < m) (hd : d ≤ n) : Os S0 n m e (o + 1) (chs G e st o d) := by
  intro p hp
  cases st with
  | none => exact absurd hp (by simp [chs])
  | some q =>
    replace hp : (if d = 0 then some q else if can G q.1 (d - 1) o = true then some (sighed G q.1 (d - 1) o, q.2 + wo G e (d - 1) o) else none) = some p := hp
    by_cases c : d = 0
    · rw [if_pos c] at hp
      rw [← Option.some.inj hp]
      exact (hO q rfl).no
    · rw [if_neg c] at hp
      by_cases c2 : can G q.1 (d - 1) o = true
      · rw [if_pos c2] at hp
        rw [← Option.some.inj hp]
        exact (hO q rfl).sg h (by omega) ho c2
      · rw [if_neg c2] at hp; exact absurd hp (by simp)
theorem gs_ch {G S0 : Nat → Nat → Nat} {e o d : Nat} {c : Nat → Nat} {st : Option ((Nat → Nat → Nat) × Nat)} (h : gs G c S0 o = st.map Prod.fst) : gs G (pth c o d) S0 (o + 1) = (chs G e st o d).map Prod.fst := by
  show (gs G (pth c o d) S0 o).bind (stG G (pth c o d) o) = _
  rw [gs_congr (c := c) (c' := pth c o d) o (fun j hj => if_neg (by omega)), h]
  have hpo : pth c o d o = d := if_pos rfl
  cases st with
  | none => rfl
  | some p =>
    show stG G (pth c o d) o p.1 = Option.map Prod.fst (if d = 0 then some p else if can G p.1 (d - 1) o = true then some (sighed G p.1 (d - 1) o, p.2 + wo G e (d - 1) o) else none)
    unfold stG
    rw [hpo]
    by_cases q : d = 0
    · rw [if_pos q, if_pos q]; rfl
    · rw [if_neg q, if_neg q]
      by_cases q2 : can G p.1 (d - 1) o = true
      · rw [if_pos q2, if_pos q2]; rfl
      · rw [if_neg q2, if_neg q2]; rfl
theorem Rw.congr {m n : Nat} {c c' : Nat → Nat} {M : Mem} (h : Rw m n c M) (e : ∀ j, j < m → c' j = c j) : Rw m n c' M := fun j hj => by rw [e j hj]; exact h j hj
theorem leaf_Y {M : Mem} {r n m : Nat} {G S0 : Nat → Nat → Nat} {q0 : Nat} (h : Gd M r n m G) (hP : Part (mI M 66) 0 n S0) (hB : Bd n m S0 q0) {e : Nat} (he : e ≤ 1) (x1 : Int32) {c : Nat → Nat} {st : Option ((Nat → Nat → Nat) × Nat)} {b : Nat × (Nat → Nat)} {X : Mem} {fu : Nat} (hF : FrZ M X) (hR : Rw m n c X) (hg : gs G c S0 m = st.map Prod.fst) (hO : Os S0 n m e m st) (hb : Bz m n b X) : ∃ X', f_X8_giveMost_29 (fu + 1) 65 x1 (nI e) (nI b.1 - 1) 1 X = f_X8_giveMost_125 (f_X8_giveMost_29 fu) 65 x1 (nI e) (nI (fo G n e 0 m st c b).1 - 1) X' ∧ FrZ M X' ∧ Rw m n c X' ∧ Bz m n (fo G n e 0 m st c b) X' := by
  have hnm := h.nm
  have hGX := hF.g h
  have hPX : Part (mI X 66) 0 n S0 := hP.congr hnm.1 (fun j _ hj => hF.2.2.2.2 j (by omega))
  obtain ⟨v, Y, y1, y2, y3⟩ := does_Y hGX hPX hB hR
  have hFY := hF.tr (FrZ.y y2)
  have hRY : Rw m n c Y := fun j hj => by rw [y2.2.2.2.1 79 (by decide)]; exact hR j hj
  have hbY : Bz m n b Y := ⟨hb.1, fun w j hj => by rw [y2.2.2.2.1 80 (by decide)]; exact hb.2 w j hj⟩
  have hb67 := hb.1
  rw [f_X8_giveMost_29]
  rw [if_neg (show ¬ (1 : Int32) = 0 by decide), y1, Option.bind_some]
  rcases y3 with ⟨u1, u2⟩ | ⟨u1, S, u2, u3⟩
  · have hst : st = none := by
      cases st with
      | none => rfl
      | some p => rw [u2] at hg; exact absurd hg (by simp)
    subst hst
    rw [u1, if_pos rfl]
    exact ⟨Y, rfl, hFY, hRY, hbY⟩
  · obtain ⟨p, hst, hpS⟩ : ∃ p, st = some p ∧ p.1 = S := by
      cases st with
      | none => rw [u2] at hg; exact absurd hg (by simp)
      | some p => rw [u2] at hg; exact ⟨p, rfl, (Option.some.inj hg).symm⟩
    subst hst
    obtain ⟨T, had⟩ := p
    replace hpS : T = S := hpS
    subst hpS
    obtain ⟨w1, w2, w3, w4, w5, w6, w7⟩ := hO (T, had) rfl
    replace w4 : had ≤ 11 * m := w4
    have h84 : ∀ (Z : Mem), FrZ M Z → Rw m n c Z → Bz m n b Z → ∃ X', f_X8_giveMost_84 (f_X8_giveMost_29 fu) 65 x1 (nI e) (nI b.1 - 1) (nI had) Z = f_X8_giveMost_125 (f_X8_giveMost_29 fu) 65 x1 (nI e) (nI (fo G n e 0 m (some (T, had)) c b).1 - 1) X' ∧ FrZ M X' ∧ Rw m n c X' ∧ Bz m n (fo G n e 0 m (some (T, had)) c b) X' := by
      intro Z hZ hRZ hbZ
      have hfo : fo G n e 0 m (some (T, had)) c b = if b.1 < had + 1 then (had + 1, c) else b := rfl
      rw [hfo]
      unfold f_X8_giveMost_84
      by_cases q : b.1 < had + 1
      · rw [if_pos q, if_neg (fun w => by have := (leM (by omega) (by omega)).mp w; omega)]
        obtain ⟨X', z1, z2⟩ := lp_ex (F := fun fv j (W : Mem) => f_X8_giveMost_98 (f_X8_giveMost_29 fu) fv 65 x1 (nI e) (nI had) (nI j) W) 6 (fun W => f_X8_giveMost_125 (f_X8_giveMost_29 fu) 65 x1 (nI e) (nI had) W) (fun j W => FrZ M W ∧ Rw m n c W ∧ ∀ i, i < j → i < m → mI W 80 i = nI (c i))
          (fun fv W hI => by
            simp only [f_X8_giveMost_98]
            rw [if_pos (show (6 : Int32) ≤ nI 6 from Int32.le_refl _)])
          (fun fv j W hj hI => by
            obtain ⟨i1, i2, i3⟩ := hI
            simp only [f_X8_giveMost_98, RQ i1.1, Option.bind_some]
            rw [if_neg (show ¬ (6 : Int32) ≤ nI j from nI_ge (b := 6) hj (by decide)), aI_k (x := 79) (by simp only [KQ i1.1]) (by simp only [LQ]; omega), Option.bind_some, eI_k (x := 80) (by simp only [KQ i1.1]) (by simp only [LQ]; omega), Option.bind_some, nI_1]
            refine ⟨_, rfl, i1.tr (FrZ.s i1.1 (Or.inr rfl) _), fun i hi => ?_, fun i q1 q2 => ?_⟩
            · rw [mI_sI_row (by decide)]; exact i2 i hi
            · rw [mI_sI]
              by_cases cc : i = j
              · rw [if_pos ⟨rfl, cc⟩, ← cc]; exact (i2 i q2).1
              · rw [if_neg (fun w => cc w.2)]; exact i3 i (by omega) q2)
          6 FU 0 Z (by omega) (by unfold FU; omega) ⟨hZ, hRZ, fun i hi => absurd hi (by omega)⟩
        obtain ⟨i1, i2, i3⟩ := z2
        refine ⟨X', ?_, i1, i2, (by show had + 1 ≤ 67; omega), fun _ j hj => ⟨i3 j (by omega) hj, (i2 j hj).2⟩⟩
        rw [s1]
        exact z1
      · rw [if_neg q, if_pos ((leM (by omega) (by omega)).mpr (by omega))]
        exact ⟨Z, rfl, hZ, hRZ, hbZ⟩
    rw [u1, if_neg (show ¬ (1 : Int32) = 0 by decide)]
    have a1 : mI Y 66 1 = nI (S0 2 1) := by rw [y2.2.2.2.2 1 (by omega)]; exact hPX.1
    have a2 : mI Y 66 2 = nI (S0 2 0) := by rw [y2.2.2.2.2 2 (by omega)]; exact hPX.2.1
    by_cases q : e = 0
    · rw [if_pos q] at w5
      replace w5 : pc (T 2 0) = pc (S0 2 0) + had := w5
      rw [if_pos (by rw [q]; rfl)]
      simp only [RQ hFY.1, Option.bind_some]
      rw [show aI Y 66 1974 = _ from aI_k (j := 1974) (by simp only [KQ hFY.1]) (by simp only [LQ]; omega), Option.bind_some, show mI Y 66 1974 = _ from u3.2.1, pcY _ (lt64 hnm.2.1 w2), Option.bind_some, show aI Y 66 2 = _ from aI_k (j := 2) (by simp only [KQ hFY.1]) (by simp only [LQ]; omega), Option.bind_some, a2, pcY _ (lt64 hnm.2.1 w7), Option.bind_some, w5, pk_sub (by omega), show pc (S0 2 0) + had - pc (S0 2 0) = had by omega]
      exact h84 Y hFY hRY hbY
    · rw [if_neg q] at w5
      replace w5 : T 2 1 = S0 2 1 + had := w5
      rw [if_neg (n0 q (by omega))]
      simp only [RQ hFY.1, Option.bind_some]
      rw [show aI Y 66 1973 = _ from aI_k (j := 1973) (by simp only [KQ hFY.1]) (by simp only [LQ]; omega), Option.bind_some, show mI Y 66 1973 = _ from u3.1, show aI Y 66 1 = _ from aI_k (j := 1) (by simp only [KQ hFY.1]) (by simp only [LQ]; omega), Option.bind_some, a1, w5, pk_sub (by omega), show S0 2 1 + had - S0 2 1 = had by omega]
      exact h84 Y hFY hRY hbY
theorem walkG_Y {M : Mem} {r n m : Nat} {G S0 : Nat → Nat → Nat} {q0 : Nat} (h : Gd M r n m G) (hP : Part (mI M 66) 0 n S0) (hB : Bd n m S0 q0) {e : Nat} (he : e ≤ 1) (x1 : Int32) : ∀ k o, o + k = m → ∀ c st b X fu e', FrZ M X → Rw m n c X → (∀ j, o ≤ j → j < m → c j = 0) → gs G c S0 o = Option.map Prod.fst st → Os S0 n m e o st → Bz m n b X → e' + (n + 1) ^ k ≤ fu → ∃ X' fu', f_X8_giveMost_29 fu 65 x1 (nI e) (nI b.1 - 1) 1 X = f_X8_giveMost_125 (f_X8_giveMost_29 fu') 65 x1 (nI e) (nI (fo G n e k o st c b).1 - 1) X' ∧ FrZ M X' ∧ Rw m n (fun j => if j < o then c j else n) X' ∧ Bz m n (fo G n e k o st c b) X' ∧ e' ≤ fu' := by
  have hnm := h.nm
  intro k
  induction k with
  | zero =>
    intro o ho c st b X fu e' hF hR h0 hg hO hb hfu
    have hom : o = m := by omega
    subst hom
    obtain ⟨fu, rfl⟩ : ∃ g, fu = g + 1 := ⟨fu - 1, by simp at hfu; omega⟩
    obtain ⟨X', y1, y2, y3, y4⟩ := leaf_Y h hP hB he x1 (fu := fu) hF hR hg hO hb
    exact ⟨X', fu, y1, y2, y3.congr (fun j hj => if_pos hj), y4, by simp at hfu; omega⟩
  | succ k ih =>
    intro o ho c st b X fu e' hF hR h0 hg hO hb hfu
    have hom : o < m := by omega
    have inner : ∀ q d, d + q = n → ∀ b X fu, FrZ M X → Rw m n (pth c o d) X → Bz m n b X → e' + (q + 1) * (n + 1) ^ k ≤ fu → ∃ X' fu', f_X8_giveMost_29 fu 65 x1 (nI e) (nI b.1 - 1) 1 X = f_X8_giveMost_125 (f_X8_giveMost_29 fu') 65 x1 (nI e) (nI (iter (fun d b => fo G n e k (o + 1) (chs G e st o d) (pth c o d) b) d (q + 1) b).1 - 1) X' ∧ FrZ M X' ∧ Rw m n (fun j => if j < o then c j else n) X' ∧ Bz m n (iter (fun d b => fo G n e k (o + 1) (chs G e st o d) (pth c o d) b) d (q + 1) b) X' ∧ e' ≤ fu' := by
      intro q
      induction q with
      | zero =>
        intro d hd b X fu hF hR hb hfu
        obtain ⟨X1, fu1, y1, y2, y3, y4, y5⟩ := ih (o + 1) (by omega) (pth c o d) (chs G e st o d) b X fu e' hF hR (fun j q1 q2 => by unfold pth; rw [if_neg (by omega)]; exact h0 j (by omega) q2) (gs_ch hg) (hO.ch h hom (by omega)) hb (by omega)
        refine ⟨X1, fu1, y1, y2, y3.congr (fun j hj => ?_), y4, y5⟩
        show (if j < o then c j else n) = (if j < o + 1 then pth c o d j else n)
        unfold pth
        by_cases c1 : j < o
        · rw [if_pos c1, if_pos (by omega), if_neg (by omega)]
        · rw [if_neg c1]
          by_cases c2 : j < o + 1
          · rw [if_pos c2, if_pos (by omega)]; omega
          · rw [if_neg c2]
      | succ q ihq =>
        intro d hd b X fu hF hR hb hfu
        have hmul : (q + 1 + 1) * (n + 1) ^ k = (q + 1) * (n + 1) ^ k + (n + 1) ^ k := Nat.succ_mul _ _
        obtain ⟨X1, fu1, y1, y2, y3, y4, y5⟩ := ih (o + 1) (by omega) (pth c o d) (chs G e st o d) b X fu (e' + (q + 1) * (n + 1) ^ k) hF hR (fun j q1 q2 => by unfold pth; rw [if_neg (by omega)]; exact h0 j (by omega) q2) (gs_ch hg) (hO.ch h hom (by omega)) hb (by omega)
        have hy3 : ∀ j, j < m → mI X1 79 j = nI (if j < o + 1 then pth c o d j else n) := fun j hj => (y3 j hj).1
        obtain ⟨X2, z1, z2, z3, z4, z5, z6⟩ := next_Y h hom (show d < n by omega) y2 (by rw [hy3 o hom, if_pos (by omega)]; unfold pth; rw [if_pos rfl]) (fun j q1 q2 => by rw [hy3 j q2, if_neg (by omega)])
        have hR2 : Rw m n (pth c o (d + 1)) X2 := by
          intro j hj
          unfold pth
          by_cases c1 : j = o
          · rw [if_pos c1, c1]; exact ⟨z4, by omega⟩
          · rw [if_neg c1]
            by_cases c2 : j < o
            · have hq : mI X1 79 j = nI (if j < o + 1 then pth c o d j else n) ∧ (if j < o + 1 then pth c o d j else n) ≤ n := y3 j hj
              rw [if_pos (show j < o + 1 by omega), show pth c o d j = c j from if_neg c1] at hq
              rw [z3 j c2]; exact hq
            · rw [z5 j (by omega) hj, h0 j (by omega) hj]; exact ⟨rfl, Nat.zero_le _⟩
        obtain ⟨X3, fu3, w1, w2⟩ := ihq (d + 1) (by omega) (fo G n e k (o + 1) (chs G e st o d) (pth c o d) b) X2 fu1 z2 hR2 ⟨y4.1, fun w j hj => by rw [z6]; exact y4.2 w j hj⟩ y5
        refine ⟨X3, fu3, ?_, w2⟩
        rw [y1]
        unfold f_X8_giveMost_125
        rw [z1, Option.bind_some]
        exact w1
    rw [fo_s]
    refine inner n 0 (by omega) b X fu hF (fun j hj => ?_) hb ?_
    · unfold pth
      by_cases c1 : j = o
      · rw [if_pos c1]
        have := hR j hj
        rw [h0 j (by omega) hj] at this
        exact this
      · rw [if_neg c1]; exact hR j hj
    · rw [Nat.mul_comm, ← Nat.pow_succ]; exact hfu
