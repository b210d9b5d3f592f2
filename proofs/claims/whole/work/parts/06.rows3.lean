/-! ===== calls ===== -/
/-- what the tables say of a method that is called -/
def CF (y : MethodName) (ycc : ByteArray) (ynL : Nat) (yret : Option FieldType) (n : Nat) : Prop :=
  Cond.code y ycc ynL yret ∈ wsA ∧ Cond.initialized y.cls ∈ wsA ∧ (y.cls ≠ "java/lang/invoke/MethodHandle" ∧ y.cls ≠ "java/lang/invoke/VarHandle") ∧ (parseMethodDescriptor y.desc).map (fun d => d.parameters.length) = some n
def CV (y : MethodName) (ci : Nat) : Prop := Cond.instanceMethod y ∈ wsA ∧ Cond.selects y.cls y y ∈ wsA ∧ ∃ T N, vwCl[ci]? = some (y.cls, T, N)
section Rows3
variable {p : Program} {l : Launch} {e : Env} {R : Room} {s : State} {m : MethodId} {args : Array Value} {below : List Frame} {meth : Method} {c : Code} {H : Heap} {locs : List Loc} {cells slots : Nat} {Q : State → Prop}
variable {own : String} {cc : ByteArray} {nL : Nat} {ret : Option FieldType} {D : va_G} {B : Nat} {ca : Nat → ClassId} {st : Nat → Nat} {M M' : Mem} {pc idx x j : Nat} {ls : Array Slot} {rest st0 : List Value}
variable {y : MethodName} {ycc : ByteArray} {ynL n d ci : Nat} {yret : Option FieldType} {As : List Value} {v : Option Value}
theorem rc_go {a : Array Value} (hr : va_Run p l e R s m args below meth c H locs cells slots 0 0 (F0 m pc ls st0) rest (Qp D B ca st v M' a) (AA B)) (hS : va_S (AA B) s.heap H locs)
    (kk : ∀ (H : Heap) (locs : List Loc), RH D B ca M' H → va_S (AA B) s.heap H locs → W p l e R s m args below meth c H locs cells slots Q (F0 m (pc + 3) ls (v.toList ++ rest))) : W p l e R s m args below meth c H locs cells slots Q (F0 m pc ls st0) := by
  intro T hT X
  obtain ⟨v', st₀, t, T', L, h0, X', hL, e1, e2, ⟨hv, hw, hz, hk⟩, hgo⟩ := hr T hT X
  cases hv
  rw [h0] at hz hk
  obtain ⟨t2, a1, b1⟩ := kk T'.heap (locs ++ L) (by rw [e1]; exact hw.1)
    ⟨Nat.le_trans hS.1 (by rw [e1]; exact hz), fun q h1 h2 => by rw [e1, hk q (Nat.lt_of_lt_of_le h1 hS.1) h2]; exact hS.2.1 q h1 h2, fun q hq => by
      rcases List.mem_append.mp hq with h | h
      · exact hS.2.2 q h
      · exact hL q h⟩ T' rfl X'
  exact ⟨t2, hgo t2 a1, b1⟩
theorem rc_hws (C : Cx p s m args meth c own cc nL ret D B ca st) (F : CF y ycc ynL yret n) : ∀ w ∈ (Cond.code y ycc ynL yret :: wsA), ∀ (a' : Array Value) (U : State), s.WarmedH U.vm → w.before a' U = true := by
  intro w hw a' U hW
  have hm : w ∈ wsA := by
    rcases List.mem_cons.mp hw with h | h
    · rw [h]; exact F.1
    · exact h
  exact word_at hW (goodA w hm) (C.2.2.2.2.1 w hm)
theorem rc_sig (F : CF y ycc ynL yret n) : ∀ sig, parseMethodDescriptor y.desc = some sig → n = sig.parameters.length := by
  intro sig h
  have h2 := F.2.2.2
  rw [h] at h2
  exact (Option.some.inj h2).symm
theorem rc_recv (C : Cx p s m args meth c own cc nL ret D B ca st) (hR : RH D B ca M H) (hk : kd M x = 10 + ci) (V : CV y ci) : ∃ cellB : Cell, H[B + x]? = some cellB ∧ cellB.vm.isStatics = false ∧ s.vm.findClass y.cls = some cellB.cls := by
  obtain ⟨h1, h2, h3⟩ := kd_spec hk (by omega)
  have he := wO_get (B := B) (ca := ca) h1 h2
  rw [cE_o h3] at he
  obtain ⟨T, N, hc⟩ := V.2.2
  exact va_recv C.2.2.2.2.2.2.2.1 hR.1 hc he
theorem rc_V (C : Cx p s m args meth c own cc nL ret D B ca st) (hR : RH D B ca M H) (hS : va_S (AA B) s.heap H locs) (F : CF y ycc ynL yret n) (V : CV y ci) (hl : Cond.methodLink own idx y ∈ wsA) (hM : Ok l y ycc ynL yret d (.ref (B + x) :: As) D B ca st M v M') (hk : kd M x = 10 + ci)
    (hroom : d + 1 ≤ R.frames ∧ 8 + (ynL + 11) + 40 * d ≤ R.locals) (hcs : cells ≤ R.cells ∧ slots ≤ R.slots) (hst : st0 = As.reverse ++ .ref (B + x) :: rest) (hn : As.length = n) (hls : ls.size = nL) (hw : (rest.map fun v => v.category).sum ≤ 8) (hd : decode cc pc = .ok (.invokevirtual idx, 3))
    (kk : ∀ (H : Heap) (locs : List Loc), RH D B ca M' H → va_S (AA B) s.heap H locs → W p l e R s m args below meth c H locs cells slots Q (F0 m (pc + 3) ls (v.toList ++ rest))) : W p l e R s m args below meth c H locs cells slots Q (F0 m pc ls st0) := by
  have hts := C.2.2.2.2.1
  exact rc_go (va_runV (C := y.cls) (As := As) (rest := rest) ⟨C.1, C.2.1, C.2.2.1, C.2.2.2.1, hts⟩ hM
    ⟨⟨rfl, rfl, hroom.1, hroom.2, rc_hws C F, List.mem_cons_self, hts _ F.1, hts _ F.2.1, F.2.2.1, rc_sig F, hts _ hl⟩, hts _ V.1, hts _ V.2.1⟩
    ⟨RW.blind, rc_recv C hR hk V, fun U hU hW => ⟨rfl, RW.at C hR hS hU hW⟩⟩ rfl hn hls hst (lv_room hw) hd hcs) hS kk
theorem rc_VN (C : Cx p s m args meth c own cc nL ret D B ca st) (hR : RH D B ca M H) (hS : va_S (AA B) s.heap H locs) (F : CF y ycc ynL yret n) (V : CV y ci) {host : String} (hl : Cond.methodLinkNest own idx y host ∈ nwA) (hM : Ok l y ycc ynL yret d (.ref (B + x) :: As) D B ca st M v M') (hk : kd M x = 10 + ci)
    (hroom : d + 1 ≤ R.frames ∧ 8 + (ynL + 11) + 40 * d ≤ R.locals) (hcs : cells ≤ R.cells ∧ slots ≤ R.slots) (hst : st0 = As.reverse ++ .ref (B + x) :: rest) (hn : As.length = n) (hls : ls.size = nL) (hw : (rest.map fun v => v.category).sum ≤ 8) (hd : decode cc pc = .ok (.invokevirtual idx, 3))
    (kk : ∀ (H : Heap) (locs : List Loc), RH D B ca M' H → va_S (AA B) s.heap H locs → W p l e R s m args below meth c H locs cells slots Q (F0 m (pc + 3) ls (v.toList ++ rest))) : W p l e R s m args below meth c H locs cells slots Q (F0 m pc ls st0) := by
  have hts := C.2.2.2.2.1
  exact rc_go (va_runVN (C := y.cls) (As := As) (rest := rest) ⟨C.1, C.2.1, C.2.2.1, C.2.2.2.1, hts⟩ hM
    ⟨⟨⟨rfl, rfl, hroom.1, hroom.2, rc_hws C F, List.mem_cons_self⟩, hts _ F.1, hts _ F.2.1, F.2.2.1, rc_sig F, va_Nw.use rfl (C.2.2.2.2.2.2.2.2.1 _ hl)⟩, hts _ V.1, hts _ V.2.1⟩
    ⟨RW.blind, rc_recv C hR hk V, fun U hU hW => ⟨rfl, RW.at C hR hS hU hW⟩⟩ rfl hn hls hst (lv_room hw) hd hcs) hS kk
theorem rc_S (C : Cx p s m args meth c own cc nL ret D B ca st) (hR : RH D B ca M H) (hS : va_S (AA B) s.heap H locs) (F : CF y ycc ynL yret n) (V : Cond.static y ∈ wsA) (hl : Cond.methodLink own idx y ∈ wsA) (hM : Ok l y ycc ynL yret d As D B ca st M v M')
    (hroom : d + 1 ≤ R.frames ∧ 8 + (ynL + 11) + 40 * d ≤ R.locals) (hcs : cells ≤ R.cells ∧ slots ≤ R.slots) (hst : st0 = As.reverse ++ rest) (hn : As.length = n) (hls : ls.size = nL) (hw : (rest.map fun v => v.category).sum ≤ 8) (hd : decode cc pc = .ok (.invokestatic idx, 3))
    (kk : ∀ (H : Heap) (locs : List Loc), RH D B ca M' H → va_S (AA B) s.heap H locs → W p l e R s m args below meth c H locs cells slots Q (F0 m (pc + 3) ls (v.toList ++ rest))) : W p l e R s m args below meth c H locs cells slots Q (F0 m pc ls st0) := by
  have hts := C.2.2.2.2.1
  exact rc_go (va_runS (As := As) (rest := rest) ⟨C.1, C.2.1, C.2.2.1, C.2.2.2.1, hts⟩ hM
    ⟨⟨rfl, rfl, hroom.1, hroom.2, rc_hws C F, List.mem_cons_self, hts _ F.1, hts _ F.2.1, F.2.2.1, rc_sig F, hts _ hl⟩, hts _ V⟩
    ⟨RW.blind, fun U hU hW => ⟨rfl, RW.at C hR hS hU hW⟩⟩ rfl hn hls hst (lv_room hw) hd hcs) hS kk
theorem rc_SN (C : Cx p s m args meth c own cc nL ret D B ca st) (hR : RH D B ca M H) (hS : va_S (AA B) s.heap H locs) (F : CF y ycc ynL yret n) (V : Cond.static y ∈ wsA) {host : String} (hl : Cond.methodLinkNest own idx y host ∈ nwA) (hM : Ok l y ycc ynL yret d As D B ca st M v M')
    (hroom : d + 1 ≤ R.frames ∧ 8 + (ynL + 11) + 40 * d ≤ R.locals) (hcs : cells ≤ R.cells ∧ slots ≤ R.slots) (hst : st0 = As.reverse ++ rest) (hn : As.length = n) (hls : ls.size = nL) (hw : (rest.map fun v => v.category).sum ≤ 8) (hd : decode cc pc = .ok (.invokestatic idx, 3))
    (kk : ∀ (H : Heap) (locs : List Loc), RH D B ca M' H → va_S (AA B) s.heap H locs → W p l e R s m args below meth c H locs cells slots Q (F0 m (pc + 3) ls (v.toList ++ rest))) : W p l e R s m args below meth c H locs cells slots Q (F0 m pc ls st0) := by
  have hts := C.2.2.2.2.1
  exact rc_go (va_runSN (As := As) (rest := rest) ⟨C.1, C.2.1, C.2.2.1, C.2.2.2.1, hts⟩ hM
    ⟨⟨⟨rfl, rfl, hroom.1, hroom.2, rc_hws C F, List.mem_cons_self⟩, hts _ F.1, hts _ F.2.1, F.2.2.1, rc_sig F, va_Nw.use rfl (C.2.2.2.2.2.2.2.2.1 _ hl)⟩, hts _ V, trivial⟩
    ⟨RW.blind, fun U hU hW => ⟨rfl, RW.at C hR hS hU hW⟩⟩ rfl hn hls hst (lv_room hw) hd hcs) hS kk
/-- System.arraycopy of ints -/
theorem rcp (C : Cx p s m args meth c own cc nL ret D B ca st) (hR : RH D B ca M H) (hS : va_S (AA B) s.heap H locs) (hls : ls.size = nL) (hl : Cond.methodLink own idx arraycopyName ∈ wsA) (hnat : Cond.native arraycopyName ∈ wsA) (hstt : Cond.static arraycopyName ∈ wsA) (hini : Cond.initialized "java/lang/System" ∈ wsA)
    {xs xd : Nat} {sp dp n : Int32} (hv : cpI M xs sp xd dp n = some M') (hroom : 1 ≤ R.frames ∧ (rest.map fun v => v.category).sum + (nativeFrameWords "java/lang/System" "arraycopy" 5 + 11) ≤ R.locals) (hd : decode cc pc = .ok (.invokestatic idx, 3))
    (kk : ∀ (H : Heap) (locs : List Loc), RH D B ca M' H → va_S (AA B) s.heap H locs → W p l e R s m args below meth c H locs cells slots Q (F0 m (pc + 3) ls rest)) : W p l e R s m args below meth c H locs cells slots Q (F0 m pc ls (.int n :: .int dp :: .ref (B + xd) :: .int sp :: .ref (B + xs) :: rest)) := by
  obtain ⟨hx, hb, hml, hown, hts, -, -, hK, hN, -⟩ := C
  unfold cpI at hv
  by_cases hk : kd M xs = 1 ∧ kd M xd = 1 ∧ ¬ (sp < 0) ∧ ¬ (dp < 0) ∧ ¬ (n < 0) ∧ sp.toNatClampNeg + n.toNatClampNeg ≤ ln xs ∧ dp.toNatClampNeg + n.toNatClampNeg ≤ ln xd
  · rw [if_pos hk] at hv
    obtain ⟨k1, k2, a1, a2, a3, a4, a5⟩ := hk
    obtain ⟨h1, h2, h3⟩ := kd_spec k1 (by omega)
    obtain ⟨g1, g2, g3⟩ := kd_spec k2 (by omega)
    have he := wO_get (B := B) (ca := ca) h1 h2
    rw [cE_i h3] at he
    have hq := wO_get (B := B) (ca := ca) g1 g2
    rw [cE_i g3] at hq
    have hv := Option.some.inj hv
    subst hv
    have hw : (wO B ca M).set (xd - 1) (B + xd, .inl (ca 1, ln xd, .inl (va_cpy (mI M xs) (mI M xd) sp.toNatClampNeg dp.toNatClampNeg n.toNatClampNeg))) = wO B ca (sW M xd (va_cpy (mI M xs) (mI M xd) sp.toNatClampNeg dp.toNatClampNeg n.toNatClampNeg)) := by
      refine wO_set g1 g2 rfl ?_ (fun y hy => cE_eq ?_ rfl rfl)
      · rw [cE_i g3, mI_sW, if_pos rfl]
      · rw [mI_sW, if_neg hy]
    exact va_copyi hx hb (hml.trans hls.symm) hown (hts _ hl) (hts _ hnat) (hts _ hstt) (hts _ hini) hK hR.1 hR.2 hS (xs - 1) (xd - 1) 0 0 he hq rfl rfl rfl a1 a2 a3 a4 a5 (fun i _ => rfl) hroom.1 hroom.2 hd (fun H1 l1 g1 g2 g3 => kk H1 l1 ⟨hw ▸ g1, hw ▸ g2⟩ g3)
  · rw [if_neg hk] at hv; cases hv
end Rows3
