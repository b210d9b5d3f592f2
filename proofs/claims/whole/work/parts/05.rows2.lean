theorem okB_spec {M : Mem} {k x : Nat} {i : Int32} (h : okB M k x i = true) : kd M x = k ∧ vp_in i (ln x) := by
  unfold okB at h
  simp only [Bool.and_eq_true, beq_iff_eq, Bool.not_eq_true', decide_eq_false_iff_not, decide_eq_true_eq] at h
  exact ⟨h.1.1, fun q => q.elim h.1.2 (fun q2 => absurd h.2 (Nat.not_lt.mpr q2))⟩
section Rows2
variable {p : Program} {l : Launch} {e : Env} {R : Room} {s : State} {m : MethodId} {args : Array Value} {below : List Frame} {meth : Method} {c : Code} {H : Heap} {locs : List Loc} {cells slots : Nat} {Q : State → Prop}
variable {own : String} {cc : ByteArray} {nL : Nat} {ret : Option FieldType} {D : va_G} {B : Nat} {ca : Nat → ClassId} {st : Nat → Nat} {M M' : Mem} {pc idx x j : Nat} {ls : Array Slot} {rest : List Value}
-- arrays
theorem ra_I (C : Cx p s m args meth c own cc nL ret D B ca st) (hR : RH D B ca M H) {i v : Int32} (hv : aI M x i = some v) (hd : decode cc pc = .ok (.iaload, 1))
    (kk : W p l e R s m args below meth c H locs cells slots Q (F0 m (pc + 1) ls (.int v :: rest))) : W p l e R s m args below meth c H locs cells slots Q (F0 m pc ls (.int i :: .ref (B + x) :: rest)) := by
  obtain ⟨hx, hb, -, hown, hts, -, -, hK, hN, -⟩ := C
  unfold aI at hv
  by_cases hk : okB M 1 x i = true
  · rw [if_pos hk] at hv
    obtain ⟨hk1, hin⟩ := okB_spec hk
    obtain ⟨h1, h2, h3⟩ := kd_spec hk1 (by omega)
    have he := wO_get (B := B) (ca := ca) h1 h2
    rw [cE_i h3] at he
    have hv := Option.some.inj hv
    subst hv
    exact va_iald hx hb hK hR.1 (x - 1) 0 he rfl hin hd kk
  · rw [if_neg hk] at hv; cases hv
theorem ra_B (C : Cx p s m args meth c own cc nL ret D B ca st) (hR : RH D B ca M H) {i v : Int32} (hv : aB M x i = some v) (hd : decode cc pc = .ok (.baload, 1))
    (kk : W p l e R s m args below meth c H locs cells slots Q (F0 m (pc + 1) ls (.int v :: rest))) : W p l e R s m args below meth c H locs cells slots Q (F0 m pc ls (.int i :: .ref (B + x) :: rest)) := by
  obtain ⟨hx, hb, -, hown, hts, -, -, hK, hN, -⟩ := C
  unfold aB at hv
  by_cases hk : okB M 2 x i = true
  · rw [if_pos hk] at hv
    obtain ⟨hk1, hin⟩ := okB_spec hk
    obtain ⟨h1, h2, h3⟩ := kd_spec hk1 (by omega)
    have he := wO_get (B := B) (ca := ca) h1 h2
    rw [cE_b h3] at he
    have hv := Option.some.inj hv
    subst hv
    exact va_bald hx hb hK hR.1 (x - 1) 1 he rfl hin hd kk
  · rw [if_neg hk] at hv; cases hv
theorem ra_R (C : Cx p s m args meth c own cc nL ret D B ca st) (hR : RH D B ca M H) {k : Nat} {Cn : String} (h3k : 3 ≤ k) (hk6 : k < 6) (hty : (tyE ca)[k - 1]? = some (ca k, .object Cn)) {i : Int32} {v : Nat} (hv : aR M k x i = some v) (hd : decode cc pc = .ok (.aaload, 1))
    (kk : W p l e R s m args below meth c H locs cells slots Q (F0 m (pc + 1) ls (.ref (B + v) :: rest))) : W p l e R s m args below meth c H locs cells slots Q (F0 m pc ls (.int i :: .ref (B + x) :: rest)) := by
  obtain ⟨hx, hb, -, hown, hts, -, -, hK, hN, -⟩ := C
  unfold aR at hv
  by_cases hk : okB M k x i = true ∧ mR M x i.toNatClampNeg ≠ 0
  · rw [if_pos hk] at hv
    obtain ⟨hk1, hin⟩ := okB_spec hk.1
    obtain ⟨h1, h2, h3⟩ := kd_spec hk1 (by omega)
    have he := wO_get (B := B) (ca := ca) h1 h2
    rw [cE_r h3 h3k hk6] at he
    have hv := Option.some.inj hv
    subst hv
    refine va_aldq hx hb hK hR.1 (x - 1) (k - 1) he hty hin hd ?_
    rw [rO_ne hk.2]
    exact kk
  · rw [if_neg hk] at hv; cases hv
theorem ra_N (C : Cx p s m args meth c own cc nL ret D B ca st) (hR : RH D B ca M H) {k : Nat} (hk0 : 1 ≤ k) (hk6 : k < 6) {v : Int32} (hv : aN M k x = some v) (hd : decode cc pc = .ok (.arraylength, 1))
    (kk : W p l e R s m args below meth c H locs cells slots Q (F0 m (pc + 1) ls (.int v :: rest))) : W p l e R s m args below meth c H locs cells slots Q (F0 m pc ls (.ref (B + x) :: rest)) := by
  obtain ⟨hx, hb, -, hown, hts, -, -, hK, hN, -⟩ := C
  unfold aN at hv
  by_cases hk : kd M x = k
  · rw [if_pos hk] at hv
    obtain ⟨h1, h2, h3⟩ := kd_spec hk (by omega)
    have he := wO_get (B := B) (ca := ca) h1 h2
    have hv := Option.some.inj hv
    subst hv
    rcases (show k = 1 ∨ k = 2 ∨ k = 3 ∨ k = 4 ∨ k = 5 by omega) with rfl | rfl | rfl | rfl | rfl
    · rw [cE_i h3] at he; exact va_alen hx hb hK hR.1 (x - 1) 0 he rfl rfl hd kk
    · rw [cE_b h3] at he; exact va_alen hx hb hK hR.1 (x - 1) 1 he rfl rfl hd kk
    · rw [cE_r h3 (by omega) (by omega)] at he; exact va_alen hx hb hK hR.1 (x - 1) 2 he rfl rfl hd kk
    · rw [cE_r h3 (by omega) (by omega)] at he; exact va_alen hx hb hK hR.1 (x - 1) 3 he rfl rfl hd kk
    · rw [cE_r h3 (by omega) (by omega)] at he; exact va_alen hx hb hK hR.1 (x - 1) 4 he rfl rfl hd kk
  · rw [if_neg hk] at hv; cases hv
theorem re_I (C : Cx p s m args meth c own cc nL ret D B ca st) (hR : RH D B ca M H) (hS : va_S (AA B) s.heap H locs) {i v : Int32} (hv : eI M x i v = some M') (hd : decode cc pc = .ok (.iastore, 1))
    (kk : ∀ (H : Heap) (locs : List Loc), RH D B ca M' H → va_S (AA B) s.heap H locs → W p l e R s m args below meth c H locs cells slots Q (F0 m (pc + 1) ls rest)) : W p l e R s m args below meth c H locs cells slots Q (F0 m pc ls (.int v :: .int i :: .ref (B + x) :: rest)) := by
  obtain ⟨hx, hb, -, hown, hts, -, -, hK, hN, -⟩ := C
  unfold eI at hv
  by_cases hk : okB M 1 x i = true
  · rw [if_pos hk] at hv
    obtain ⟨hk1, hin⟩ := okB_spec hk
    obtain ⟨h1, h2, h3⟩ := kd_spec hk1 (by omega)
    have he := wO_get (B := B) (ca := ca) h1 h2
    rw [cE_i h3] at he
    have hv := Option.some.inj hv
    subst hv
    have hw : (wO B ca M).set (x - 1) (B + x, .inl (ca 1, ln x, .inl (upd (mI M x) i.toNatClampNeg v))) = wO B ca (sI M x i.toNatClampNeg v) := wO_set h1 h2 rfl (by rw [cE_i h3, mI_sI_self]) (fun y hy => cE_sI hy)
    exact va_iast hx hb hK hR.1 hR.2 hS (x - 1) 0 he rfl hin hd (fun H1 l1 g1 g2 g3 => kk H1 l1 ⟨hw ▸ g1, hw ▸ g2⟩ g3)
  · rw [if_neg hk] at hv; cases hv
theorem re_B (C : Cx p s m args meth c own cc nL ret D B ca st) (hR : RH D B ca M H) (hS : va_S (AA B) s.heap H locs) {i v : Int32} (hv : eB M x i v = some M') (hd : decode cc pc = .ok (.bastore, 1))
    (kk : ∀ (H : Heap) (locs : List Loc), RH D B ca M' H → va_S (AA B) s.heap H locs → W p l e R s m args below meth c H locs cells slots Q (F0 m (pc + 1) ls rest)) : W p l e R s m args below meth c H locs cells slots Q (F0 m pc ls (.int v :: .int i :: .ref (B + x) :: rest)) := by
  obtain ⟨hx, hb, -, hown, hts, -, -, hK, hN, -⟩ := C
  unfold eB at hv
  by_cases hk : okB M 2 x i = true
  · rw [if_pos hk] at hv
    obtain ⟨hk1, hin⟩ := okB_spec hk
    obtain ⟨h1, h2, h3⟩ := kd_spec hk1 (by omega)
    have he := wO_get (B := B) (ca := ca) h1 h2
    rw [cE_b h3] at he
    have hv := Option.some.inj hv
    subst hv
    have hw : (wO B ca M).set (x - 1) (B + x, .inl (ca 2, ln x, .inl (upd (mI M x) i.toNatClampNeg (vp_nar .byte v)))) = wO B ca (sI M x i.toNatClampNeg (vp_nar .byte v)) := wO_set h1 h2 rfl (by rw [cE_b h3, mI_sI_self]) (fun y hy => cE_sI hy)
    exact va_bast hx hb hK hR.1 hR.2 hS (x - 1) 1 he rfl hin hd (fun H1 l1 g1 g2 g3 => kk H1 l1 ⟨hw ▸ g1, hw ▸ g2⟩ g3)
  · rw [if_neg hk] at hv; cases hv
theorem re_R (C : Cx p s m args meth c own cc nL ret D B ca st) (hR : RH D B ca M H) (hS : va_S (AA B) s.heap H locs) {k ci : Nat} {r : vw_C} (h3k : 3 ≤ k) (hk6 : k < 6) (hc : vwCl[ci]? = some r) (hty : (tyE ca)[k - 1]? = some (ca k, .object r.1)) {i : Int32} {v : Nat} (hv : eR M k (10 + ci) x i v = some M') (hd : decode cc pc = .ok (.aastore, 1))
    (kk : ∀ (H : Heap) (locs : List Loc), RH D B ca M' H → va_S (AA B) s.heap H locs → W p l e R s m args below meth c H locs cells slots Q (F0 m (pc + 1) ls rest)) : W p l e R s m args below meth c H locs cells slots Q (F0 m pc ls (.ref (B + v) :: .int i :: .ref (B + x) :: rest)) := by
  obtain ⟨hx, hb, -, hown, hts, -, -, hK, hN, -⟩ := C
  unfold eR at hv
  by_cases hk : okB M k x i = true ∧ kd M v = 10 + ci
  · rw [if_pos hk] at hv
    obtain ⟨hk1, hin⟩ := okB_spec hk.1
    obtain ⟨h1, h2, h3⟩ := kd_spec hk1 (by omega)
    obtain ⟨g1, g2, g3⟩ := kd_spec hk.2 (by omega)
    have he := wO_get (B := B) (ca := ca) h1 h2
    rw [cE_r h3 h3k hk6] at he
    have hq := wO_get (B := B) (ca := ca) g1 g2
    rw [cE_o g3] at hq
    have hv := Option.some.inj hv
    subst hv
    have hw : (wO B ca M).set (x - 1) (B + x, .inl (ca k, ln x, .inr (.inr (.inr (.inr (va_up (fun j => rO B (mR M x j)) i.toNatClampNeg (some (B + v)))))))) = wO B ca (sR M x i.toNatClampNeg v) := by
      refine wO_set h1 h2 rfl ?_ (fun y hy => cE_sR hy)
      rw [cE_r h3 h3k hk6]
      have hf : (fun j => rO B (mR (sR M x i.toNatClampNeg v) x j)) = va_up (fun j => rO B (mR M x j)) i.toNatClampNeg (some (B + v)) := by
        funext q
        rw [mR_sR]
        unfold va_up
        by_cases hq2 : q = i.toNatClampNeg
        · simp [hq2]
          unfold rO
          rw [if_neg (by omega)]
        · simp [hq2]
      rw [hf]
    exact va_astq hx hb hK hR.1 hR.2 hS (x - 1) (k - 1) (v - 1) ci he hty hq hc hin hd (fun H1 l1 g1 g2 g3 => kk H1 l1 ⟨hw ▸ g1, hw ▸ g2⟩ g3)
  · rw [if_neg hk] at hv; cases hv
-- the constant tables
theorem rs_T (C : Cx p s m args meth c own cc nL ret D B ca st) (hS : va_S (AA B) s.heap H locs) {t : Nat} (ht : t < 3) (hl : Cond.fieldLink own idx "SighGuild" (stN t) "[I" ∈ wsA ∨ ∃ host, Cond.fieldLinkNest own idx "SighGuild" (stN t) "[I" host ∈ nwA) (hd : decode cc pc = .ok (.getstatic idx, 3))
    (kk : W p l e R s m args below meth c H locs cells slots Q (F0 m (pc + 3) ls (.ref (st t) :: rest))) : W p l e R s m args below meth c H locs cells slots Q (F0 m pc ls rest) := by
  obtain ⟨hx, hb, -, hown, hts, -, -, hK, hN, hT⟩ := C
  rcases hl with hl | ⟨host, hl⟩
  · exact va_gets hx hb (hT t ht).1 hS hown (hts _ hl) (fun _ h => h) hd kk
  · exact va_getsN hx hb (hT t ht).1 hS hown (va_Nw.use rfl (hN _ hl)) (fun _ h => h) hd kk
theorem rs_A (C : Cx p s m args meth c own cc nL ret D B ca st) (hS : va_S (AA B) s.heap H locs) {t : Nat} (ht : t < 3) {i v : Int32} (hv : aT t i = some v) (hd : decode cc pc = .ok (.iaload, 1))
    (kk : W p l e R s m args below meth c H locs cells slots Q (F0 m (pc + 1) ls (.int v :: rest))) : W p l e R s m args below meth c H locs cells slots Q (F0 m pc ls (.int i :: .ref (st t) :: rest)) := by
  obtain ⟨hx, hb, -, hown, hts, -, -, hK, hN, hT⟩ := C
  unfold aT at hv
  by_cases hk : ¬ (i < 0) ∧ i.toNatClampNeg < 6
  · rw [if_pos hk] at hv
    exact va_ti hx hb (hT t ht).2 hS (fun q => q.elim hk.1 (fun q2 => absurd hk.2 (Nat.not_lt.mpr q2))) (by rw [← Option.some.inj hv]) hd kk
  · rw [if_neg hk] at hv; cases hv
theorem rs_N (C : Cx p s m args meth c own cc nL ret D B ca st) (hS : va_S (AA B) s.heap H locs) {t : Nat} (ht : t < 3) (hd : decode cc pc = .ok (.arraylength, 1))
    (kk : W p l e R s m args below meth c H locs cells slots Q (F0 m (pc + 1) ls (.int 6 :: rest))) : W p l e R s m args below meth c H locs cells slots Q (F0 m pc ls (.ref (st t) :: rest)) := by
  obtain ⟨hx, hb, -, hown, hts, -, -, hK, hN, hT⟩ := C
  exact va_tlen hx hb (hT t ht).2 hS (by decide +kernel) hd kk
-- ends
theorem rr_I (C : Cx p s m args meth c own cc nL (some .int) D B ca st) (hR : RH D B ca M H) (hS : va_S (AA B) s.heap H locs) {v : Int32} (hd : decode cc pc = .ok (.ireturn, 1)) : W p l e R s m args below meth c H locs cells slots (MQ below (Qp D B ca st (some (.int v)) M) args s cells slots (AA B)) (F0 m pc ls [.int v]) :=
  W.iret C.1 C.2.1 C.2.2.2.2.2.1 (fun t ht hW => ⟨rfl, RW.at C hR hS ht hW, hS.F ht⟩) (fun q hq => hS.2.2 q hq) hd C.2.2.2.2.2.2.1
theorem rr_Z (C : Cx p s m args meth c own cc nL (some .boolean) D B ca st) (hR : RH D B ca M H) (hS : va_S (AA B) s.heap H locs) {v : Int32} (hb : bz v = some v) (hd : decode cc pc = .ok (.ireturn, 1)) : W p l e R s m args below meth c H locs cells slots (MQ below (Qp D B ca st (some (.int v)) M) args s cells slots (AA B)) (F0 m pc ls [.int v]) := by
  refine W.zret C.1 C.2.1 C.2.2.2.2.2.1 ?_ (fun t ht hW => ⟨rfl, RW.at C hR hS ht hW, hS.F ht⟩) (fun q hq => hS.2.2 q hq) hd C.2.2.2.2.2.2.1
  unfold bz at hb
  by_cases h : v = 0 ∨ v = 1
  · rcases h with rfl | rfl <;> rfl
  · rw [if_neg h] at hb; cases hb
theorem rr_L (C : Cx p s m args meth c own cc nL (some .long) D B ca st) (hR : RH D B ca M H) (hS : va_S (AA B) s.heap H locs) {v : Int64} (hd : decode cc pc = .ok (.lreturn, 1)) : W p l e R s m args below meth c H locs cells slots (MQ below (Qp D B ca st (some (.long v)) M) args s cells slots (AA B)) (F0 m pc ls [.long v]) :=
  W.lret C.1 C.2.1 C.2.2.2.2.2.1 (fun t ht hW => ⟨rfl, RW.at C hR hS ht hW, hS.F ht⟩) (fun q hq => hS.2.2 q hq) hd C.2.2.2.2.2.2.1
theorem rr_V (C : Cx p s m args meth c own cc nL none D B ca st) (hR : RH D B ca M H) (hS : va_S (AA B) s.heap H locs) (hd : decode cc pc = .ok (.return_, 1)) : W p l e R s m args below meth c H locs cells slots (MQ below (Qp D B ca st none M) args s cells slots (AA B)) (F0 m pc ls []) :=
  W.vret C.1 C.2.1 C.2.2.2.2.2.1 (fun t ht hW => ⟨rfl, RW.at C hR hS ht hW, hS.F ht⟩) (fun q hq => hS.2.2 q hq) hd C.2.2.2.2.2.2.1
theorem rr_R {Cn : String} (C : Cx p s m args meth c own cc nL (some (.object Cn)) D B ca st) (hR : RH D B ca M H) (hS : va_S (AA B) s.heap H locs) {v : Nat} {w : Value} (hw : va_rf (rO B v) = w) (hd : decode cc pc = .ok (.areturn, 1)) : W p l e R s m args below meth c H locs cells slots (MQ below (Qp D B ca st (some (va_rf (rO B v))) M) args s cells slots (AA B)) (F0 m pc ls [w]) := by
  subst hw
  exact W.aret C.1 C.2.1 C.2.2.2.2.2.1 (Or.inl ⟨_, rfl⟩) (va_rf_or _) (fun t ht hW => ⟨rfl, RW.at C hR hS ht hW, hS.F ht⟩) (fun q hq => hS.2.2 q hq) hd C.2.2.2.2.2.2.1
end Rows2
