/-! ===== the words that every method of the system may use ===== -/
def wsA : List Cond := lw_tbl.filter goodWord
def isNest : Cond → Bool
  | .fieldLinkNest .. => true
  | .methodLinkNest .. => true
  | _ => false
def nwA : List Cond := lw_tbl.filter isNest
theorem in_A {w : Cond} (i : Nat) (h : lw_tbl[i]? = some w) (g : goodWord w = true) : w ∈ wsA := List.mem_filter.mpr ⟨List.mem_of_getElem? h, g⟩
theorem in_N {w : Cond} (i : Nat) (h : lw_tbl[i]? = some w) (g : isNest w = true) : w ∈ nwA := List.mem_filter.mpr ⟨List.mem_of_getElem? h, g⟩
theorem goodA : ∀ w ∈ wsA, (w.onTables && w.keeps) = true ∨ ∃ ty, w = .arrayClass ty := fun w h => good_of_word (List.mem_filter.mp h).2
def NW (U : State) : Prop := ∀ w ∈ nwA, va_Nw w U
theorem NW.warm {s U : State} (hW : s.WarmedH U.vm) (h : NW s) : NW U := by
  intro w hw
  have hn := (List.mem_filter.mp hw).2
  have hh := h w hw
  cases w <;> first | exact va_Nw.warmF hW hh | exact va_Nw.warmM hW hh | (simp [isNest] at hn)
theorem NW.same {u U : State} (hv : u.vm = U.vm) (h : NW u) : NW U := by
  intro w hw
  have hn := (List.mem_filter.mp hw).2
  have hh := h w hw
  refine va_Nw.same ?_ hv hh
  cases w <;> first | rfl | (simp [isNest] at hn)
def AA (B : Nat) : Nat → Prop := fun q => B < q
def tyE (ca : Nat → ClassId) : List (ClassId × FieldType) := [(ca 1, .int), (ca 2, .byte), (ca 3, .object "SighGuild$Deeds"), (ca 4, .object "SighGuild$Row"), (ca 5, .object "SighGuild$Script")]
def stN (t : Nat) : String := match t with
  | 0 => "LETTERS"
  | 1 => "ABOVE"
  | _ => "DEPTH_LIMIT"
def ST (B : Nat) (st : Nat → Nat) (U : State) (H : Heap) : Prop := ∀ t, t < 3 → va_Z "SighGuild" (stN t) "[I" (.ref (st t)) (AA B) U H ∧ va_T .int (st t) 6 (fun j => .int (tbl t j)) (AA B) U H
def RH (D : va_G) (B : Nat) (ca : Nat → ClassId) (M : Mem) (H : Heap) : Prop := va_P D vwCl (wO B ca M) H ∧ va_D (AA B) (wO B ca M)
def RW (D : va_G) (B : Nat) (ca : Nat → ClassId) (st : Nat → Nat) (M : Mem) (U : State) : Prop := RH D B ca M U.heap ∧ va_K D vwCl (tyE ca) U ∧ NW U ∧ ST B st U U.heap
def Qp (D : va_G) (B : Nat) (ca : Nat → ClassId) (st : Nat → Nat) (v : Option Value) (M' : Mem) : Array Value → State → Outcome → State → Prop := fun _ s0 oc t => oc = .returned v ∧ RW D B ca st M' t ∧ va_F (AA B) s0 t
def rmD (d : Nat) : Room := { frames := d, cells := 0, slots := 0, locals := 40 * d }
def Ok (l : Launch) (y : MethodName) (cc : ByteArray) (nL : Nat) (ret : Option FieldType) (d : Nat) (av : List Value) (D : va_G) (B : Nat) (ca : Nat → ClassId) (st : Nat → Nat) (M : Mem) (v : Option Value) (M' : Mem) : Prop :=
  Met l y (.code y cc nL ret :: wsA) (rmD d) (va_Pc av (RW D B ca st M)) (Qp D B ca st v M') 0 0 (AA B)
/-- what holds all through a method's body -/
def Cx (p : Program) (s : State) (m : MethodId) (args : Array Value) (meth : Method) (c : Code) (own : String) (cc : ByteArray) (nL : Nat) (ret : Option FieldType) (D : va_G) (B : Nat) (ca : Nat → ClassId) (st : Nat → Nat) : Prop :=
  p.tables.exec = Jvm.exec ∧ c.code = cc ∧ c.maxLocals = nL ∧ s.vm.findClass own = some m.cls ∧ (∀ w ∈ wsA, w.before args s = true) ∧ meth.sig.returnType = ret ∧ meth.locks = false ∧ va_K D vwCl (tyE ca) s ∧ NW s ∧ ST B st s s.heap
theorem ST.at {B : Nat} {st : Nat → Nat} {s U : State} {H : Heap} {locs : List Loc} (h : ST B st s s.heap) (hS : va_S (AA B) s.heap H locs) (hal : s.vm.Alike U.vm) : ST B st U H := by
  intro t ht
  obtain ⟨h1, h2⟩ := h t ht
  exact ⟨(h1.kept (fun a g1 g2 => hS.2.1 a g1 g2)).moved hal, (h2.kept (fun a g1 g2 => hS.2.1 a g1 g2)).moved hal⟩
theorem RW.blind {D : va_G} {B : Nat} {ca : Nat → ClassId} {st : Nat → Nat} {M : Mem} {av : List Value} : FrameBlind (va_Pc av (RW D B ca st M)) := by
  intro a U g mk h
  obtain ⟨h0, h1, h2, h3, h4⟩ := h
  refine ⟨h0, h1, va_K.moved (u := U) (U := U.calling g mk a) (Vm.Alike.refl U.vm) h2, NW.same (u := U) (U := U.calling g mk a) rfl h3, ?_⟩
  intro t ht
  exact ⟨(h4 t ht).1.moved (U := U.calling g mk a) (Vm.Alike.refl U.vm), (h4 t ht).2.moved (U := U.calling g mk a) (Vm.Alike.refl U.vm)⟩
section Rows
variable {p : Program} {l : Launch} {e : Env} {R : Room} {s : State} {m : MethodId} {args : Array Value} {below : List Frame} {meth : Method} {c : Code} {H : Heap} {locs : List Loc} {cells slots : Nat} {Q : State → Prop}
variable {own : String} {cc : ByteArray} {nL : Nat} {ret : Option FieldType} {D : va_G} {B : Nat} {ca : Nat → ClassId} {st : Nat → Nat} {M M' : Mem} {pc idx x j : Nat} {ls : Array Slot} {rest : List Value}
theorem RW.at {U : State} (C : Cx p s m args meth c own cc nL ret D B ca st) (hR : RH D B ca M H) (hS : va_S (AA B) s.heap H locs) (hU : U.heap = H) (hW : s.WarmedH U.vm) : RW D B ca st M U := by
  obtain ⟨-, -, -, -, -, -, -, hK, hN, hT⟩ := C
  subst hU
  exact ⟨hR, va_K.moved hW.alike hK, hN.warm hW, hT.at hS hW.alike⟩
theorem w_size (k : H.size ≤ s.heap.size + cells → W p l e R s m args below meth c H locs cells slots Q (F0 m pc ls rest)) : W p l e R s m args below meth c H locs cells slots Q (F0 m pc ls rest) := by
  intro T hT X
  have h := X.same.2.2.1
  exact k (by rw [← hT]; exact h) T hT X
-- fields
theorem rg_I (C : Cx p s m args meth c own cc nL ret D B ca st) (hR : RH D B ca M H) {ci N : Nat} {Cn : String} {T : u_T} (hc : vwCl[ci]? = some (Cn, T, N)) (hin : ∀ w ∈ u_ws Cn T N, w ∈ wsA) (hj : j < N) (ht : (fty ci)[j]? = some 0)
    (hl : Cond.fieldLink own idx (T j).1 (T j).2.1 (T j).2.2.1 ∈ wsA ∨ ∃ host, Cond.fieldLinkNest own idx (T j).1 (T j).2.1 (T j).2.2.1 host ∈ nwA) {v : Int32} (hv : gI M (10 + ci) x j = some v) (hd : decode cc pc = .ok (.getfield idx, 3))
    (kk : W p l e R s m args below meth c H locs cells slots Q (F0 m (pc + 3) ls (.int v :: rest))) : W p l e R s m args below meth c H locs cells slots Q (F0 m pc ls (.ref (B + x) :: rest)) := by
  obtain ⟨hx, hb, -, hown, hts, -, -, hK, hN, -⟩ := C
  unfold gI at hv
  by_cases hk : kd M x = 10 + ci
  · rw [if_pos hk] at hv
    obtain ⟨h1, h2, h3⟩ := kd_spec hk (by omega)
    have hvv : (fL B M x (fty ci))[j]? = some (.int v) := by rw [fL_get ht, ← Option.some.inj hv]; rfl
    have he := wO_get (B := B) (ca := ca) h1 h2
    rw [cE_o h3] at he
    rcases hl with hl | ⟨host, hl⟩
    · exact va_get hx hb hts hin hown hK hR.1 (x - 1) he hc j hj (hts _ hl) (fun _ h => h) hvv hd kk
    · exact va_getN hx hb hts hin hown hK hR.1 (x - 1) he hc j hj (va_Nw.use rfl (hN _ hl)) (fun _ h => h) hvv hd kk
  · rw [if_neg hk] at hv; cases hv
theorem rg_L (C : Cx p s m args meth c own cc nL ret D B ca st) (hR : RH D B ca M H) {ci N : Nat} {Cn : String} {T : u_T} (hc : vwCl[ci]? = some (Cn, T, N)) (hin : ∀ w ∈ u_ws Cn T N, w ∈ wsA) (hj : j < N) (ht : (fty ci)[j]? = some 1)
    (hl : Cond.fieldLink own idx (T j).1 (T j).2.1 (T j).2.2.1 ∈ wsA ∨ ∃ host, Cond.fieldLinkNest own idx (T j).1 (T j).2.1 (T j).2.2.1 host ∈ nwA) {v : Int64} (hv : gL M (10 + ci) x j = some v) (hd : decode cc pc = .ok (.getfield idx, 3))
    (kk : W p l e R s m args below meth c H locs cells slots Q (F0 m (pc + 3) ls (.long v :: rest))) : W p l e R s m args below meth c H locs cells slots Q (F0 m pc ls (.ref (B + x) :: rest)) := by
  obtain ⟨hx, hb, -, hown, hts, -, -, hK, hN, -⟩ := C
  unfold gL at hv
  by_cases hk : kd M x = 10 + ci
  · rw [if_pos hk] at hv
    obtain ⟨h1, h2, h3⟩ := kd_spec hk (by omega)
    have hvv : (fL B M x (fty ci))[j]? = some (.long v) := by rw [fL_get ht, ← Option.some.inj hv]; rfl
    have he := wO_get (B := B) (ca := ca) h1 h2
    rw [cE_o h3] at he
    rcases hl with hl | ⟨host, hl⟩
    · exact va_get hx hb hts hin hown hK hR.1 (x - 1) he hc j hj (hts _ hl) (fun _ h => h) hvv hd kk
    · exact va_getN hx hb hts hin hown hK hR.1 (x - 1) he hc j hj (va_Nw.use rfl (hN _ hl)) (fun _ h => h) hvv hd kk
  · rw [if_neg hk] at hv; cases hv
theorem rg_R (C : Cx p s m args meth c own cc nL ret D B ca st) (hR : RH D B ca M H) {ci N : Nat} {Cn : String} {T : u_T} (hc : vwCl[ci]? = some (Cn, T, N)) (hin : ∀ w ∈ u_ws Cn T N, w ∈ wsA) (hj : j < N) (ht : (fty ci)[j]? = some 2)
    (hl : Cond.fieldLink own idx (T j).1 (T j).2.1 (T j).2.2.1 ∈ wsA ∨ ∃ host, Cond.fieldLinkNest own idx (T j).1 (T j).2.1 (T j).2.2.1 host ∈ nwA) {v : Nat} (hv : gR M (10 + ci) x j = some v) (hd : decode cc pc = .ok (.getfield idx, 3))
    (kk : W p l e R s m args below meth c H locs cells slots Q (F0 m (pc + 3) ls (.ref (B + v) :: rest))) : W p l e R s m args below meth c H locs cells slots Q (F0 m pc ls (.ref (B + x) :: rest)) := by
  obtain ⟨hx, hb, -, hown, hts, -, -, hK, hN, -⟩ := C
  unfold gR at hv
  by_cases hk : kd M x = 10 + ci ∧ mR M x j ≠ 0
  · rw [if_pos hk] at hv
    obtain ⟨h1, h2, h3⟩ := kd_spec hk.1 (by omega)
    have hvv : (fL B M x (fty ci))[j]? = some (.ref (B + v)) := by
      rw [fL_get ht, ← Option.some.inj hv]
      show some (va_rf (rO B (mR M x j))) = _
      rw [rO_ne hk.2]
    have he := wO_get (B := B) (ca := ca) h1 h2
    rw [cE_o h3] at he
    rcases hl with hl | ⟨host, hl⟩
    · exact va_get hx hb hts hin hown hK hR.1 (x - 1) he hc j hj (hts _ hl) (fun _ h => h) hvv hd kk
    · exact va_getN hx hb hts hin hown hK hR.1 (x - 1) he hc j hj (va_Nw.use rfl (hN _ hl)) (fun _ h => h) hvv hd kk
  · rw [if_neg hk] at hv; cases hv
/-- putfield: what the kit's row asks, the new cell being the old one with a new value -/
theorem rp_X (C : Cx p s m args meth c own cc nL ret D B ca st) (hR : RH D B ca M H) (hS : va_S (AA B) s.heap H locs) {ci N : Nat} {Cn : String} {T : u_T} (hc : vwCl[ci]? = some (Cn, T, N)) (hin : ∀ w ∈ u_ws Cn T N, w ∈ wsA) (ty0 : Nat → FieldType) (hty : ∀ k, k < N → parseFieldDescriptor (T k).2.2.1 = some (ty0 k)) (hnm : ∀ a, a < N → ∀ b, b < N → a ≠ b → (T a).2.1 ≠ (T b).2.1) (hj : j < N)
    (hl : Cond.fieldLink own idx (T j).1 (T j).2.1 (T j).2.2.1 ∈ wsA ∨ ∃ host, Cond.fieldLinkNest own idx (T j).1 (T j).2.1 (T j).2.2.1 host ∈ nwA) (hfin : (T j).2.2.2 = false ∨ ((T j).2.2.2 = true ∧ meth.name = "<init>" ∧ (T j).1 = own ∧ Cond.fieldLink own idx (T j).1 (T j).2.1 (T j).2.2.1 ∈ wsA)) (hk : kd M x = 10 + ci) {v : Value} (hn : narrow (ty0 j) v = v) (hfit : fits (ty0 j) v = true) {t : Nat} (ht : (fty ci)[j]? = some t)
    (hset : (fL B M x (fty ci)).set j v = fL B M' x (fty ci)) (hmn : mN M' = mN M) (hoth : ∀ y, y ≠ x → cE B ca M' y = cE B ca M y) (hd : decode cc pc = .ok (.putfield idx, 3))
    (kk : ∀ (H : Heap) (locs : List Loc), RH D B ca M' H → va_S (AA B) s.heap H locs → W p l e R s m args below meth c H locs cells slots Q (F0 m (pc + 3) ls rest)) : W p l e R s m args below meth c H locs cells slots Q (F0 m pc ls (v :: .ref (B + x) :: rest)) := by
  obtain ⟨hx, hb, -, hown, hts, -, -, hK, hN, -⟩ := C
  obtain ⟨h1, h2, h3⟩ := kd_spec hk (by omega)
  have he := wO_get (B := B) (ca := ca) h1 h2
  rw [cE_o h3] at he
  have hlen : j < (fL B M x (fty ci)).length := by rw [fL_len]; exact (List.getElem?_eq_some_iff.mp ht).1
  have hw : (wO B ca M).set (x - 1) (B + x, .inr (ci, (fL B M x (fty ci)).set j v)) = wO B ca M' := by
    refine wO_set h1 h2 hmn ?_ hoth
    rw [cE_o h3, hset]
  rcases hfin with hfin | ⟨hfin, hini, hdecl, hl2⟩
  · rcases hl with hl | ⟨host, hl⟩
    · exact va_put hx hb hts hin ty0 hty hnm hown hK hR.1 hR.2 hS (x - 1) he hc j hj (hts _ hl) (fun _ h => h) hfin (hty j hj) hn hfit hlen hd (fun H1 l1 g1 g2 g3 => kk H1 l1 ⟨hw ▸ g1, hw ▸ g2⟩ g3)
    · exact va_putN hx hb hts hin ty0 hty hnm hown hK hR.1 hR.2 hS (x - 1) he hc j hj (va_Nw.use rfl (hN _ hl)) (fun _ h => h) hfin (hty j hj) hn hfit hlen hd (fun H1 l1 g1 g2 g3 => kk H1 l1 ⟨hw ▸ g1, hw ▸ g2⟩ g3)
  · exact va_putF hx hb hts hin ty0 hty hnm hown hK hR.1 hR.2 hS (x - 1) he hc j hj (hts _ hl2) (fun _ h => h) hfin hini hdecl (hty j hj) hn hfit hlen hd (fun H1 l1 g1 g2 g3 => kk H1 l1 ⟨hw ▸ g1, hw ▸ g2⟩ g3)
theorem rp_I (C : Cx p s m args meth c own cc nL ret D B ca st) (hR : RH D B ca M H) (hS : va_S (AA B) s.heap H locs) {ci N : Nat} {Cn : String} {T : u_T} (hc : vwCl[ci]? = some (Cn, T, N)) (hin : ∀ w ∈ u_ws Cn T N, w ∈ wsA) (ty0 : Nat → FieldType) (hty : ∀ k, k < N → parseFieldDescriptor (T k).2.2.1 = some (ty0 k)) (hnm : ∀ a, a < N → ∀ b, b < N → a ≠ b → (T a).2.1 ≠ (T b).2.1) (hj : j < N)
    (hl : Cond.fieldLink own idx (T j).1 (T j).2.1 (T j).2.2.1 ∈ wsA ∨ ∃ host, Cond.fieldLinkNest own idx (T j).1 (T j).2.1 (T j).2.2.1 host ∈ nwA) (hfin : (T j).2.2.2 = false ∨ ((T j).2.2.2 = true ∧ meth.name = "<init>" ∧ (T j).1 = own ∧ Cond.fieldLink own idx (T j).1 (T j).2.1 (T j).2.2.1 ∈ wsA)) {v : Int32} (hnf : narrow (ty0 j) (.int v) = .int v ∧ fits (ty0 j) (.int v) = true) (ht : (fty ci)[j]? = some 0)
    (hv : pI M (10 + ci) x j v = some M') (hd : decode cc pc = .ok (.putfield idx, 3))
    (kk : ∀ (H : Heap) (locs : List Loc), RH D B ca M' H → va_S (AA B) s.heap H locs → W p l e R s m args below meth c H locs cells slots Q (F0 m (pc + 3) ls rest)) : W p l e R s m args below meth c H locs cells slots Q (F0 m pc ls (.int v :: .ref (B + x) :: rest)) := by
  unfold pI at hv
  by_cases hk : kd M x = 10 + ci
  · rw [if_pos hk] at hv
    have hv := Option.some.inj hv
    subst hv
    refine rp_X (M' := sI M x j v) C hR hS hc hin ty0 hty hnm hj hl hfin hk hnf.1 hnf.2 ht (fL_set ht ?_ ?_) rfl (fun y hy => cE_sI hy) hd kk
    · show Value.int (mI (sI M x j v) x j) = _
      rw [mI_sI]; simp
    · intro k t' hk2
      unfold fV
      simp [mI_sI, mL_sI, mR_sI, hk2]
  · rw [if_neg hk] at hv; cases hv
theorem rp_L (C : Cx p s m args meth c own cc nL ret D B ca st) (hR : RH D B ca M H) (hS : va_S (AA B) s.heap H locs) {ci N : Nat} {Cn : String} {T : u_T} (hc : vwCl[ci]? = some (Cn, T, N)) (hin : ∀ w ∈ u_ws Cn T N, w ∈ wsA) (ty0 : Nat → FieldType) (hty : ∀ k, k < N → parseFieldDescriptor (T k).2.2.1 = some (ty0 k)) (hnm : ∀ a, a < N → ∀ b, b < N → a ≠ b → (T a).2.1 ≠ (T b).2.1) (hj : j < N)
    (hl : Cond.fieldLink own idx (T j).1 (T j).2.1 (T j).2.2.1 ∈ wsA ∨ ∃ host, Cond.fieldLinkNest own idx (T j).1 (T j).2.1 (T j).2.2.1 host ∈ nwA) (hfin : (T j).2.2.2 = false ∨ ((T j).2.2.2 = true ∧ meth.name = "<init>" ∧ (T j).1 = own ∧ Cond.fieldLink own idx (T j).1 (T j).2.1 (T j).2.2.1 ∈ wsA)) {v : Int64} (hnf : narrow (ty0 j) (.long v) = .long v ∧ fits (ty0 j) (.long v) = true) (ht : (fty ci)[j]? = some 1)
    (hv : pL M (10 + ci) x j v = some M') (hd : decode cc pc = .ok (.putfield idx, 3))
    (kk : ∀ (H : Heap) (locs : List Loc), RH D B ca M' H → va_S (AA B) s.heap H locs → W p l e R s m args below meth c H locs cells slots Q (F0 m (pc + 3) ls rest)) : W p l e R s m args below meth c H locs cells slots Q (F0 m pc ls (.long v :: .ref (B + x) :: rest)) := by
  unfold pL at hv
  by_cases hk : kd M x = 10 + ci
  · rw [if_pos hk] at hv
    have hv := Option.some.inj hv
    subst hv
    refine rp_X (M' := sL M x j v) C hR hS hc hin ty0 hty hnm hj hl hfin hk hnf.1 hnf.2 ht (fL_set ht ?_ ?_) rfl (fun y hy => cE_sL hy) hd kk
    · show Value.long (mL (sL M x j v) x j) = _
      rw [mL_sL]; simp
    · intro k t' hk2
      unfold fV
      simp [mI_sL, mL_sL, mR_sL, hk2]
  · rw [if_neg hk] at hv; cases hv
theorem rp_R (C : Cx p s m args meth c own cc nL ret D B ca st) (hR : RH D B ca M H) (hS : va_S (AA B) s.heap H locs) {ci N : Nat} {Cn : String} {T : u_T} (hc : vwCl[ci]? = some (Cn, T, N)) (hin : ∀ w ∈ u_ws Cn T N, w ∈ wsA) (ty0 : Nat → FieldType) (hty : ∀ k, k < N → parseFieldDescriptor (T k).2.2.1 = some (ty0 k)) (hnm : ∀ a, a < N → ∀ b, b < N → a ≠ b → (T a).2.1 ≠ (T b).2.1) (hj : j < N)
    (hl : Cond.fieldLink own idx (T j).1 (T j).2.1 (T j).2.2.1 ∈ wsA ∨ ∃ host, Cond.fieldLinkNest own idx (T j).1 (T j).2.1 (T j).2.2.1 host ∈ nwA) (hfin : (T j).2.2.2 = false ∨ ((T j).2.2.2 = true ∧ meth.name = "<init>" ∧ (T j).1 = own ∧ Cond.fieldLink own idx (T j).1 (T j).2.1 (T j).2.2.1 ∈ wsA)) {v : Nat} {w : Value} (hw : va_rf (rO B v) = w) (hnf : narrow (ty0 j) w = w ∧ fits (ty0 j) w = true) (ht : (fty ci)[j]? = some 2)
    (hv : pR M (10 + ci) x j v = some M') (hd : decode cc pc = .ok (.putfield idx, 3))
    (kk : ∀ (H : Heap) (locs : List Loc), RH D B ca M' H → va_S (AA B) s.heap H locs → W p l e R s m args below meth c H locs cells slots Q (F0 m (pc + 3) ls rest)) : W p l e R s m args below meth c H locs cells slots Q (F0 m pc ls (w :: .ref (B + x) :: rest)) := by
  unfold pR at hv
  by_cases hk : kd M x = 10 + ci
  · rw [if_pos hk] at hv
    have hv := Option.some.inj hv
    subst hv
    refine rp_X (M' := sR M x j v) C hR hS hc hin ty0 hty hnm hj hl hfin hk hnf.1 hnf.2 ht (fL_set ht ?_ ?_) rfl (fun y hy => cE_sR hy) hd kk
    · show va_rf (rO B (mR (sR M x j v) x j)) = _
      rw [mR_sR]; simp [hw]
    · intro k t' hk2
      unfold fV
      simp [mI_sR, mL_sR, mR_sR, hk2]
  · rw [if_neg hk] at hv; cases hv
end Rows
