/-! ===== constructors: cells are made ===== -/
def AO (U : State) : Prop := va_AO "SighGuild$Row" U ∧ va_AO "SighGuild$Script" U ∧ va_AO "SighGuild$Deeds" U
def RC (D : va_G) (B : Nat) (ca : Nat → ClassId) (st : Nat → Nat) (M : Mem) (U : State) : Prop := RW D B ca st M U ∧ U.heap.size = B + 1 + mN M ∧ AO U
def Qk (D : va_G) (B : Nat) (ca : Nat → ClassId) (st : Nat → Nat) (M' : Mem) : Array Value → State → Outcome → State → Prop := fun _ s0 oc t => oc = .returned none ∧ RC D B ca st M' t ∧ va_F (AA B) s0 t
def rmC (d mc ms : Nat) : Room := { frames := d, cells := mc, slots := ms, locals := 40 * d }
def Oc (l : Launch) (y : MethodName) (cc : ByteArray) (nL d mc ms : Nat) (av : List Value) (D : va_G) (B : Nat) (ca : Nat → ClassId) (st : Nat → Nat) (M M' : Mem) : Prop :=
  Met l y (.code y cc nL none :: wsA) (rmC d mc ms) (va_Pc av (RC D B ca st M)) (Qk D B ca st M') mc ms (AA B)
theorem AO.moved {u U : State} (h : AO u) (hvm : u.vm.Alike U.vm) : AO U := ⟨h.1.moved hvm, h.2.1.moved hvm, h.2.2.moved hvm⟩
theorem RC.blind {D : va_G} {B : Nat} {ca : Nat → ClassId} {st : Nat → Nat} {M : Mem} {av : List Value} : FrameBlind (va_Pc av (RC D B ca st M)) := by
  intro a U g mk h
  obtain ⟨h0, h1, h2, h3⟩ := h
  have hb := RW.blind (av := av) a U g mk ⟨h0, h1⟩
  exact ⟨h0, hb.2, h2, h3.moved (U := U.calling g mk a) (Vm.Alike.refl U.vm)⟩
theorem pI_n {M M' : Mem} {c x j : Nat} {v : Int32} (h : pI M c x j v = some M') : mN M' = mN M := by
  unfold pI at h
  by_cases hk : kd M x = c
  · rw [if_pos hk] at h; rw [← Option.some.inj h]; rfl
  · rw [if_neg hk] at h; cases h
theorem pL_n {M M' : Mem} {c x j : Nat} {v : Int64} (h : pL M c x j v = some M') : mN M' = mN M := by
  unfold pL at h
  by_cases hk : kd M x = c
  · rw [if_pos hk] at h; rw [← Option.some.inj h]; rfl
  · rw [if_neg hk] at h; cases h
theorem pR_n {M M' : Mem} {c x j v : Nat} (h : pR M c x j v = some M') : mN M' = mN M := by
  unfold pR at h
  by_cases hk : kd M x = c
  · rw [if_pos hk] at h; rw [← Option.some.inj h]; rfl
  · rw [if_neg hk] at h; cases h
theorem pN_n {M M' : Mem} {c x j v : Nat} (h : pN M c x j v = some M') : mN M' = mN M := pR_n (pN_spec h).2
theorem eI_n {M M' : Mem} {x : Nat} {i v : Int32} (h : eI M x i v = some M') : mN M' = mN M := by
  unfold eI at h
  by_cases hk : okB M 1 x i = true
  · rw [if_pos hk] at h; rw [← Option.some.inj h]; rfl
  · rw [if_neg hk] at h; cases h
theorem eR_n {M M' : Mem} {k c x : Nat} {i : Int32} {v : Nat} (h : eR M k c x i v = some M') : mN M' = mN M := by
  unfold eR at h
  by_cases hk : okB M k x i = true ∧ kd M v = c
  · rw [if_pos hk] at h; rw [← Option.some.inj h]; rfl
  · rw [if_neg hk] at h; cases h
theorem ge1 {n0 k : Nat} {M : Mem} (h : 1 ≤ n0) (hc : mN M = n0 + k) : 1 ≤ mN M := by omega
theorem nA_spec {M M' : Mem} {k q : Nat} {n : Int32} (h : nA M k n = some (q, M')) : ¬ n < 0 ∧ sh (mN M + 1) = (k, n.toNatClampNeg) ∧ q = mN M + 1 ∧ M' = sN M := by
  unfold nA at h
  by_cases hk : ¬ (n < 0) ∧ sh (mN M + 1) = (k, n.toNatClampNeg)
  · rw [if_pos hk] at h
    have := Option.some.inj h
    exact ⟨hk.1, hk.2, (congrArg Prod.fst this).symm, (congrArg Prod.snd this).symm⟩
  · rw [if_neg hk] at h; cases h
theorem nO_spec {M M' : Mem} {k q n : Nat} (h : nO M k n = some (q, M')) : sh (mN M + 1) = (k, n) ∧ q = mN M + 1 ∧ M' = sN M := by
  unfold nO at h
  by_cases hk : sh (mN M + 1) = (k, n)
  · rw [if_pos hk] at h
    have := Option.some.inj h
    exact ⟨hk, (congrArg Prod.fst this).symm, (congrArg Prod.snd this).symm⟩
  · rw [if_neg hk] at h; cases h
theorem nA_n {M M' : Mem} {k q : Nat} {n : Int32} (h : nA M k n = some (q, M')) : mN M' = mN M + 1 := by
  obtain ⟨-, -, -, rfl⟩ := nA_spec h; rfl
theorem nO_n {M M' : Mem} {k q n : Nat} (h : nO M k n = some (q, M')) : mN M' = mN M + 1 := by
  obtain ⟨-, -, rfl⟩ := nO_spec h; rfl
theorem sh_top {x k n : Nat} (h : sh x = (k, n)) (hk : k ≠ 0) : x ≤ 86 := by
  rcases Nat.lt_or_ge x 87 with h1 | h1
  · omega
  · have h2 : sh x = (0, 0) := by
      unfold sh
      rw [List.getD_eq_getElem?_getD, List.getElem?_eq_none (show shL.length ≤ x from h1)]
      rfl
    rw [h2] at h
    exact absurd (congrArg Prod.fst h).symm hk
theorem cE_sN {B : Nat} {ca : Nat → ClassId} {M : Mem} {y : Nat} (h : y ≤ mN M) : cE B ca (sN M) y = cE B ca M y := by
  have hy : ¬ y = mN M + 1 := by omega
  exact cE_eq (by rw [mI_sN, if_neg hy]) (by rw [mL_sN, if_neg hy]) (by rw [mR_sN, if_neg hy])
/-- a new cell at the heap's end -/
theorem RH.push {D : va_G} {B : Nat} {ca : Nat → ClassId} {M : Mem} {H H1 : Heap} (hR : RH D B ca M H) (hz : H.size = B + (mN M + 1)) (hat : va_at D vwCl (B + (mN M + 1), cE B ca (sN M) (mN M + 1)) H1) (o1 : ∀ q : Nat, q < B + (mN M + 1) → H1[q]? = H[q]?) : RH D B ca (sN M) H1 := by
  have hw := wO_push (B := B) (ca := ca) (M := M) (M' := sN M) rfl rfl (fun y hy => cE_sN hy)
  refine ⟨?_, ?_⟩
  · rw [← hw]
    refine va_P.app (hR.1.kept (fun k x hx => o1 x.1 (by rw [← hz]; exact (hR.1 k x hx).lt))) (fun k x hx => ?_)
    have hz1 : k < 1 := (List.getElem?_eq_some_iff.mp hx).1
    rw [show k = 0 by omega] at hx
    cases hx
    exact hat
  · rw [← hw]
    exact hR.2.push hR.1 hz.symm (show B < B + (mN M + 1) by omega)
section CRows
variable {p : Program} {l : Launch} {e : Env} {R : Room} {s : State} {m : MethodId} {args : Array Value} {below : List Frame} {meth : Method} {c : Code} {H : Heap} {locs : List Loc} {cells slots : Nat} {Q : State → Prop}
variable {own : String} {cc : ByteArray} {nL : Nat} {ret : Option FieldType} {D : va_G} {B : Nat} {ca : Nat → ClassId} {st : Nat → Nat} {M M' : Mem} {pc idx x j : Nat} {ls : Array Slot} {rest st0 : List Value}
theorem rn_sz (hR : RH D B ca M H) {n0 : Nat} (hs : s.heap.size = B + 1 + n0) (hc : mN M = n0 + cells) (h1 : 1 ≤ mN M) (hz : H.size ≤ s.heap.size + cells) : H.size = B + (mN M + 1) := by
  have := (hR.1 (mN M - 1) _ (wO_get h1 (Nat.le_refl _))).lt
  simp only at this
  omega
theorem rn_A (C : Cx p s m args meth c own cc nL ret D B ca st) (hR : RH D B ca M H) (hS : va_S (AA B) s.heap H locs) {n0 : Nat} (hs : s.heap.size = B + 1 + n0) (hc : mN M = n0 + cells) (h1 : 1 ≤ mN M) {aty : ArrayType} {k : Nat} (hk : (k = 1 ∧ aty = .int) ∨ (k = 2 ∧ aty = .byte)) (harr : Cond.arrayClass (newarray.typeOf aty) ∈ wsA)
    {n : Int32} {N q : Nat} (hN : n.toNatClampNeg = N) (hN2 : N ≤ 2000) (hv : nA M k n = some (q, M')) (hcs : cells + 1 ≤ R.cells ∧ slots + N ≤ R.slots) (hd : decode cc pc = .ok (.newarray aty, 2))
    (kk : ∀ (H : Heap), RH D B ca M' H → va_S (AA B) s.heap H locs → mN M' = n0 + (cells + 1) → W p l e R s m args below meth c H locs (cells + 1) (slots + N) Q (F0 m (pc + 2) ls (.ref (B + q) :: rest))) : W p l e R s m args below meth c H locs cells slots Q (F0 m pc ls (.int n :: rest)) := by
  refine w_size (fun hz0 => ?_)
  have hz := rn_sz hR hs hc h1 hz0
  obtain ⟨hn, hsh, rfl, rfl⟩ := nA_spec hv
  have hx := C.1
  have hb := C.2.1
  have hK := C.2.2.2.2.2.2.2.1
  rw [hN] at hsh
  refine va_newaK hx hb (C.2.2.2.2.1 _ harr) rfl hd rfl hn hN ?_ hcs.1 hcs.2 hz fun H1 cA e1 z1 o1 hAr hNm => ?_
  · rcases hk with ⟨-, rfl⟩ | ⟨-, rfl⟩
    · show N * 4 ≤ _; omega
    · show N * 1 ≤ _; omega
  refine kk H1 (hR.push hz ?_ o1) ⟨Nat.le_trans hS.1 (by omega), fun x g1 g2 => (o1 x (by have := hS.1; omega)).trans (hS.2.1 x g1 g2), hS.2.2⟩ (by rw [mN_sN]; omega)
  rcases hk with ⟨rfl, rfl⟩ | ⟨rfl, rfl⟩
  · have hA : cA = ca 1 := Option.some.inj (hNm.symm.trans (hK.2 0 _ rfl).2)
    rw [cE_i (by rw [hsh]), mI_sN, if_pos rfl, show ln (mN M + 1) = N by unfold ln; rw [hsh]]
    show H1[B + (mN M + 1)]? = some (vp_cell (ca 1) (N, .inl (fun _ => 0)))
    rw [e1, hA]; rfl
  · have hA : cA = ca 2 := Option.some.inj (hNm.symm.trans (hK.2 1 _ rfl).2)
    rw [cE_b (by rw [hsh]), mI_sN, if_pos rfl, show ln (mN M + 1) = N by unfold ln; rw [hsh]]
    show H1[B + (mN M + 1)]? = some (vp_cell (ca 2) (N, .inl (fun _ => 0)))
    rw [e1, hA]; rfl
theorem rn_Q (C : Cx p s m args meth c own cc nL ret D B ca st) (hR : RH D B ca M H) (hS : va_S (AA B) s.heap H locs) {n0 : Nat} (hs : s.heap.size = B + 1 + n0) (hc : mN M = n0 + cells) (h1 : 1 ≤ mN M) {k : Nat} {Cn : String} (h3k : 3 ≤ k) (hk6 : k < 6) (hty : (tyE ca)[k - 1]? = some (ca k, .object Cn)) (hcl : Cond.classLink own idx Cn ∈ wsA) (hao : va_AO Cn s)
    {n : Int32} {N q : Nat} (hN : n.toNatClampNeg = N) (hN2 : N ≤ 2000) (hv : nA M k n = some (q, M')) (hcs : cells + 1 ≤ R.cells ∧ slots + N ≤ R.slots) (hd : decode cc pc = .ok (.anewarray idx, 3))
    (kk : ∀ (H : Heap), RH D B ca M' H → va_S (AA B) s.heap H locs → mN M' = n0 + (cells + 1) → W p l e R s m args below meth c H locs (cells + 1) (slots + N) Q (F0 m (pc + 3) ls (.ref (B + q) :: rest))) : W p l e R s m args below meth c H locs cells slots Q (F0 m pc ls (.int n :: rest)) := by
  refine w_size (fun hz0 => ?_)
  have hz := rn_sz hR hs hc h1 hz0
  obtain ⟨hn, hsh, rfl, rfl⟩ := nA_spec hv
  have hK := C.2.2.2.2.2.2.2.1
  subst hN
  refine W.anew C.1 C.2.1 C.2.2.2.1 (C.2.2.2.2.1 _ hcl) (va_AO.use hao) rfl hd rfl hn (by omega) hcs.1 hcs.2 fun cA kA comp f1 f2 f3 f4 => ?_
  generalize hH1 : H.push ({ cls := cA, slots := Array.replicate n.toNatClampNeg .null, vm := .none } : Cell) = H1
  have z1 : H1.size = H.size + 1 := by rw [← hH1, Array.size_push]
  have e1 : H1[B + (mN M + 1)]? = some (arrV cA n.toNatClampNeg (fun _ => .null)) := by rw [← hH1, ← hz, Array.getElem?_push_size, ← arrV_new]
  have o1 : ∀ q : Nat, q < B + (mN M + 1) → H1[q]? = H[q]? := fun q hq => by rw [← hH1, Array.getElem?_push, if_neg (by omega)]
  have hk2 := kk H1 (hR.push hz ?_ o1) ⟨Nat.le_trans hS.1 (by omega), fun x g1 g2 => (o1 x (by have := hS.1; omega)).trans (hS.2.1 x g1 g2), hS.2.2⟩ (by rw [mN_sN]; omega)
  · rw [hz]; exact hk2
  · obtain ⟨-, kA2, comp2, r1, r2, r3, r4⟩ := hK.2 (k - 1) _ hty
    have hA : cA = ca k := Option.some.inj (f1.symm.trans r4)
    rw [cE_r (by rw [hsh]) h3k hk6, show ln (mN M + 1) = n.toNatClampNeg by unfold ln; rw [hsh], mR_sN, if_pos rfl]
    show H1[B + (mN M + 1)]? = some (vp_cell (ca k) (n.toNatClampNeg, .inr (.inr (.inr (.inr (fun _ => rO B 0))))))
    rw [e1, hA]; rfl
def dV (t : Nat) : Value := if t = 0 then .int 0 else if t = 1 then .long 0 else .null
theorem rn_O (C : Cx p s m args meth c own cc nL ret D B ca st) (hR : RH D B ca M H) (hS : va_S (AA B) s.heap H locs) (hz : H.size = B + (mN M + 1)) {ci N : Nat} {Cn : String} {T : u_T} (hc : vwCl[ci]? = some (Cn, T, N)) (hin : ∀ w ∈ u_ws Cn T N, w ∈ wsA) (ty0 : Nat → FieldType) (hty : ∀ k, k < N → parseFieldDescriptor (T k).2.2.1 = some (ty0 k)) (hdv : ∀ k, k < N → ((fty ci)[k]?).map dV = some (defaultValue (ty0 k)))
    (hcl : Cond.classLink own idx Cn ∈ wsA) (hins : Cond.instantiable Cn N ∈ wsA) (hini : Cond.initialized Cn ∈ wsA) {q : Nat} (hv : nO M (10 + ci) N = some (q, M')) (hcs : cells + 1 ≤ R.cells ∧ slots + N ≤ R.slots) (hd : decode cc pc = .ok (.new idx, 3))
    (kk : ∀ (H : Heap), RH D B ca M' H → va_S (AA B) s.heap H locs → H.size = B + (mN M' + 1) → W p l e R s m args below meth c H locs (cells + 1) (slots + N) Q (F0 m (pc + 3) ls (.ref (B + q) :: rest))) : W p l e R s m args below meth c H locs cells slots Q (F0 m pc ls rest) := by
  obtain ⟨hsh, rfl, rfl⟩ := nO_spec hv
  have hts := C.2.2.2.2.1
  have hK := C.2.2.2.2.2.2.2.1
  have hKn := hK.1 ci _ hc
  refine W.newcK C.1 C.2.1 C.2.2.2.1 (hts _ hcl) (hts _ hins) (hts _ hini) rfl hd hcs.1 hcs.2 hKn.2.1 hz fun H1 kC hkC e1 z1 o1 => ?_
  refine kk H1 (hR.push hz ?_ o1) ⟨Nat.le_trans hS.1 (by omega), fun x g1 g2 => (o1 x (by have := hS.1; omega)).trans (hS.2.1 x g1 g2), hS.2.2⟩ (by rw [z1, mN_sN]; omega)
  rw [cE_o (by rw [hsh])]
  refine ⟨_, hc, (u_born ty0 hts hin hKn hkC e1 hty).to (fun j hj => ?_)⟩
  have h2 := hdv j hj
  cases ht : (fty ci)[j]? with
  | none => rw [ht] at h2; cases h2
  | some t =>
    rw [ht] at h2
    have h3 : dV t = defaultValue (ty0 j) := Option.some.inj h2
    show defaultValue (ty0 j) = (fL B (sN M) (mN M + 1) (fty ci)).getD j .null
    rw [List.getD_eq_getElem?_getD, fL_get ht, ← h3]
    unfold fV dV
    rw [mI_sN, mL_sN, mR_sN, if_pos rfl, if_pos rfl, if_pos rfl]
    rfl
/-- a constructor is called -/
theorem rk_go {a : Array Value} {mc ms : Nat} (hr : va_Run p l e R s m args below meth c H locs cells slots mc ms (F0 m pc ls st0) rest (Qk D B ca st M' a) (AA B)) (hS : va_S (AA B) s.heap H locs)
    (kk : ∀ (H : Heap) (locs : List Loc), RH D B ca M' H → va_S (AA B) s.heap H locs → H.size = B + (mN M' + 1) → W p l e R s m args below meth c H locs (cells + mc) (slots + ms) Q (F0 m (pc + 3) ls rest)) : W p l e R s m args below meth c H locs cells slots Q (F0 m pc ls st0) := by
  intro T hT X
  obtain ⟨v', st₀, t, T', L, h0, X', hL, e1, e2, ⟨hv, hw, hz, hk⟩, hgo⟩ := hr T hT X
  cases hv
  rw [h0] at hz hk
  obtain ⟨t2, a1, b1⟩ := kk T'.heap (locs ++ L) (by rw [e1]; exact hw.1.1)
    ⟨Nat.le_trans hS.1 (by rw [e1]; exact hz), fun q h1 h2 => by rw [e1, hk q (Nat.lt_of_lt_of_le h1 hS.1) h2]; exact hS.2.1 q h1 h2, fun q hq => by
      rcases List.mem_append.mp hq with h | h
      · exact hS.2.2 q h
      · exact hL q h⟩ (by rw [e1, hw.2.1]; omega) T' rfl X'
  exact ⟨t2, hgo t2 a1, b1⟩
theorem rk_I (C : Cx p s m args meth c own cc nL ret D B ca st) (hao : AO s) (hR : RH D B ca M H) (hS : va_S (AA B) s.heap H locs) (hz : H.size = B + (mN M + 1)) {y : MethodName} {ycc : ByteArray} {ynL d mc ms : Nat} (F : CF y ycc ynL none 0) (hy1 : y.name = "<init>") (V : Cond.instanceMethod y ∈ wsA)
    (hl : Cond.methodLink own idx y ∈ wsA ∨ ∃ host, Cond.methodLinkNest own idx y host ∈ nwA) (hM : Oc l y ycc ynL d mc ms [.ref (B + x)] D B ca st M M') (hroom : d + 1 ≤ R.frames ∧ 8 + (ynL + 11) + 40 * d ≤ R.locals) (hcs : cells + mc ≤ R.cells ∧ slots + ms ≤ R.slots) (hls : ls.size = nL) (hw : (rest.map fun v => v.category).sum ≤ 8) (hd : decode cc pc = .ok (.invokespecial idx, 3))
    (kk : ∀ (H : Heap) (locs : List Loc), RH D B ca M' H → va_S (AA B) s.heap H locs → H.size = B + (mN M' + 1) → W p l e R s m args below meth c H locs (cells + mc) (slots + ms) Q (F0 m (pc + 3) ls rest)) : W p l e R s m args below meth c H locs cells slots Q (F0 m pc ls (.ref (B + x) :: rest)) := by
  have hts := C.2.2.2.2.1
  have hpre : PreS s H (va_Pc [.ref (B + x)] (RC D B ca st M)) [.ref (B + x)] := ⟨RC.blind, fun U hU hW => ⟨rfl, RW.at C hR hS hU hW, by rw [hU, hz]; omega, hao.moved hW.alike⟩⟩
  rcases hl with hl | ⟨host, hl⟩
  · exact rk_go (va_runI (As := []) (rest := rest) ⟨C.1, C.2.1, C.2.2.1, C.2.2.2.1, hts⟩ hM
      ⟨⟨rfl, rfl, hroom.1, hroom.2, rc_hws C F, List.mem_cons_self, hts _ F.1, hts _ F.2.1, F.2.2.1, rc_sig F, hts _ hl⟩, hy1, hts _ V⟩ hpre rfl rfl hls rfl (lv_room hw) hd hcs) hS kk
  · exact rk_go (va_runIN (As := []) (rest := rest) ⟨C.1, C.2.1, C.2.2.1, C.2.2.2.1, hts⟩ hM
      ⟨⟨⟨rfl, rfl, hroom.1, hroom.2, rc_hws C F, List.mem_cons_self⟩, hts _ F.1, hts _ F.2.1, F.2.2.1, rc_sig F, va_Nw.use rfl (C.2.2.2.2.2.2.2.2.1 _ hl)⟩, hy1, hts _ V⟩ hpre rfl rfl hls rfl (lv_room hw) hd hcs) hS kk
theorem rk_V (C : Cx p s m args meth c own cc nL none D B ca st) (hao : AO s) (hR : RH D B ca M H) (hS : va_S (AA B) s.heap H locs) (hz : H.size = B + (mN M + 1)) (hd : decode cc pc = .ok (.return_, 1)) : W p l e R s m args below meth c H locs cells slots (MQ below (Qk D B ca st M) args s cells slots (AA B)) (F0 m pc ls []) :=
  W.vret C.1 C.2.1 C.2.2.2.2.2.1 (fun t ht hW => ⟨rfl, ⟨RW.at C hR hS ht hW, by rw [ht, hz]; omega, hao.moved hW.alike⟩, hS.F ht⟩) (fun q hq => hS.2.2 q hq) hd C.2.2.2.2.2.2.1
theorem oc_of {y : MethodName} {d mc ms : Nat} {av : List Value} (hy : plainName y.cls = true) (hown : y.cls = own) (hnm : y.name = "<init>") (hlen : (lg_sl av).length ≤ nL)
    (body : ∀ (p : Program) (e : Env) (s : State) (m : MethodId) (args : Array Value) (below : List Frame) (meth : Method) (c : Code) (ls : Array Slot), Cx p s m args meth c own cc nL none D B ca st → meth.name = "<init>" → AO s → s.heap.size = B + 1 + mN M → lv_has ls nL (lv_args 0 av) → RH D B ca M s.heap → va_S (AA B) s.heap s.heap [] →
      W p l e (rmC d mc ms) s m args below meth c s.heap [] 0 0 (MQ below (Qk D B ca st M') args s mc ms (AA B)) (F0 m 0 ls [])) : Oc l y cc nL d mc ms av D B ca st M M' := by
  refine Met.ofW (cc := cc) (maxL := nL) (ret := none) hy rfl ?_
  intro p e s m args below meth c s₁ Bd hml hv
  obtain ⟨rfl, ⟨hR, hK, hN, hT⟩, hsz, hao⟩ := hv
  have hts := atoms_spec (ws := Cond.code y cc nL none :: wsA) Bd.pre
  have hl := lv_entry av (n := nL) hlen
  rw [lg_entry_eq]
  exact body p e s m _ below meth c _ ⟨Bd.exec, Bd.bytes, hml, hown ▸ findClass_of_methodNamed Bd.named, fun w hw => hts w (List.mem_cons_of_mem _ hw), Bd.returns, Bd.notSynchronized, hK, hN, hT⟩ ((name_of_methodNamed Bd.named Bd.method).1.trans hnm) hao hsz hl hR va_S.rf
end CRows
/-- the large constructors: how many cells, how many slots by now -/
def Bk (n0 cells slots : Nat) (M : Mem) : Prop := 1 ≤ n0 ∧ mN M = n0 + cells ∧ slots ≤ 2000 * cells ∧ mN M ≤ 86
theorem Bk.st {n0 cells slots : Nat} {M M' : Mem} (h : mN M' = mN M) (hB : Bk n0 cells slots M) : Bk n0 cells slots M' := by
  unfold Bk at hB ⊢; rw [h]; exact hB
section BRows
variable {p : Program} {l : Launch} {e : Env} {R : Room} {s : State} {m : MethodId} {args : Array Value} {below : List Frame} {meth : Method} {c : Code} {H : Heap} {locs : List Loc} {cells slots : Nat} {Q : State → Prop}
variable {own : String} {cc : ByteArray} {nL : Nat} {ret : Option FieldType} {D : va_G} {B : Nat} {ca : Nat → ClassId} {st : Nat → Nat} {M M' : Mem} {pc idx x j n0 : Nat} {ls : Array Slot} {rest st0 : List Value}
theorem bn_A (C : Cx p s m args meth c own cc nL ret D B ca st) (hR : RH D B ca M H) (hS : va_S (AA B) s.heap H locs) (hs : s.heap.size = B + 1 + n0) (hB : Bk n0 cells slots M) {aty : ArrayType} {k : Nat} (hk : (k = 1 ∧ aty = .int) ∨ (k = 2 ∧ aty = .byte)) (harr : Cond.arrayClass (newarray.typeOf aty) ∈ wsA)
    {n : Int32} {N : Nat} {q : Nat × Mem} (hN : n.toNatClampNeg = N) (hN2 : N ≤ 2000) (hv : nA M k n = some q) (hcs : 86 ≤ R.cells ∧ 172000 ≤ R.slots) (hd : decode cc pc = .ok (.newarray aty, 2))
    (kk : ∀ (H : Heap), RH D B ca q.2 H → va_S (AA B) s.heap H locs → Bk n0 (cells + 1) (slots + N) q.2 → W p l e R s m args below meth c H locs (cells + 1) (slots + N) Q (F0 m (pc + 2) ls (.ref (B + q.1) :: rest))) : W p l e R s m args below meth c H locs cells slots Q (F0 m pc ls (.int n :: rest)) := by
  obtain ⟨b1, b2, b3, b4⟩ := hB
  have ht : mN M + 1 ≤ 86 := sh_top (nA_spec (q := q.1) (M' := q.2) hv).2.1 (by omega)
  exact rn_A (q := q.1) (M' := q.2) C hR hS hs b2 (by omega) hk harr hN hN2 hv ⟨by omega, by omega⟩ hd (fun H1 g1 g2 g3 => kk H1 g1 g2 ⟨b1, g3, by omega, by have := nA_n (q := q.1) (M' := q.2) hv; omega⟩)
theorem bn_Q (C : Cx p s m args meth c own cc nL ret D B ca st) (hR : RH D B ca M H) (hS : va_S (AA B) s.heap H locs) (hs : s.heap.size = B + 1 + n0) (hB : Bk n0 cells slots M) {k : Nat} {Cn : String} (h3k : 3 ≤ k) (hk6 : k < 6) (hty : (tyE ca)[k - 1]? = some (ca k, .object Cn)) (hcl : Cond.classLink own idx Cn ∈ wsA) (hao : va_AO Cn s)
    {n : Int32} {N : Nat} {q : Nat × Mem} (hN : n.toNatClampNeg = N) (hN2 : N ≤ 2000) (hv : nA M k n = some q) (hcs : 86 ≤ R.cells ∧ 172000 ≤ R.slots) (hd : decode cc pc = .ok (.anewarray idx, 3))
    (kk : ∀ (H : Heap), RH D B ca q.2 H → va_S (AA B) s.heap H locs → Bk n0 (cells + 1) (slots + N) q.2 → W p l e R s m args below meth c H locs (cells + 1) (slots + N) Q (F0 m (pc + 3) ls (.ref (B + q.1) :: rest))) : W p l e R s m args below meth c H locs cells slots Q (F0 m pc ls (.int n :: rest)) := by
  obtain ⟨b1, b2, b3, b4⟩ := hB
  have ht : mN M + 1 ≤ 86 := sh_top (nA_spec (q := q.1) (M' := q.2) hv).2.1 (by omega)
  exact rn_Q (q := q.1) (M' := q.2) C hR hS hs b2 (by omega) h3k hk6 hty hcl hao hN hN2 hv ⟨by omega, by omega⟩ hd (fun H1 g1 g2 g3 => kk H1 g1 g2 ⟨b1, g3, by omega, by have := nA_n (q := q.1) (M' := q.2) hv; omega⟩)
theorem bn_O (C : Cx p s m args meth c own cc nL ret D B ca st) (hR : RH D B ca M H) (hS : va_S (AA B) s.heap H locs) (hs : s.heap.size = B + 1 + n0) (hB : Bk n0 cells slots M) {ci N : Nat} {Cn : String} {T : u_T} (hc : vwCl[ci]? = some (Cn, T, N)) (hin : ∀ w ∈ u_ws Cn T N, w ∈ wsA) (ty0 : Nat → FieldType) (hty : ∀ k, k < N → parseFieldDescriptor (T k).2.2.1 = some (ty0 k)) (hdv : ∀ k, k < N → ((fty ci)[k]?).map dV = some (defaultValue (ty0 k)))
    (hcl : Cond.classLink own idx Cn ∈ wsA) (hins : Cond.instantiable Cn N ∈ wsA) (hini : Cond.initialized Cn ∈ wsA) {q : Nat × Mem} (hv : nO M (10 + ci) N = some q) (hN2 : N ≤ 2000) (hcs : 86 ≤ R.cells ∧ 172000 ≤ R.slots) (hd : decode cc pc = .ok (.new idx, 3))
    (kk : ∀ (H : Heap), RH D B ca q.2 H → va_S (AA B) s.heap H locs → Bk n0 (cells + 1) (slots + N) q.2 → W p l e R s m args below meth c H locs (cells + 1) (slots + N) Q (F0 m (pc + 3) ls (.ref (B + q.1) :: rest))) : W p l e R s m args below meth c H locs cells slots Q (F0 m pc ls rest) := by
  obtain ⟨b1, b2, b3, b4⟩ := hB
  have ht : mN M + 1 ≤ 86 := sh_top (nO_spec (q := q.1) (M' := q.2) hv).1 (by omega)
  have hn := nO_n (q := q.1) (M' := q.2) hv
  refine w_size (fun hz0 => ?_)
  exact rn_O (q := q.1) (M' := q.2) C hR hS (rn_sz hR hs b2 (by omega) hz0) hc hin ty0 hty hdv hcl hins hini hv ⟨by omega, by omega⟩ hd (fun H1 g1 g2 g3 => kk H1 g1 g2 ⟨b1, by omega, by omega, by omega⟩)
theorem bk_I (C : Cx p s m args meth c own cc nL ret D B ca st) (hao : AO s) (hR : RH D B ca M H) (hS : va_S (AA B) s.heap H locs) (hs : s.heap.size = B + 1 + n0) (hB : Bk n0 cells slots M) {y : MethodName} {ycc : ByteArray} {ynL d mc ms : Nat} (F : CF y ycc ynL none 0) (hy1 : y.name = "<init>") (V : Cond.instanceMethod y ∈ wsA)
    (hl : Cond.methodLink own idx y ∈ wsA ∨ ∃ host, Cond.methodLinkNest own idx y host ∈ nwA) (hM : Oc l y ycc ynL d mc ms [.ref (B + x)] D B ca st M M') (hN : mN M' = mN M + mc ∧ mN M' ≤ 86) (hms : ms ≤ 2000 * mc) (hroom : d + 1 ≤ R.frames ∧ 8 + (ynL + 11) + 40 * d ≤ R.locals) (hcs : 86 ≤ R.cells ∧ 172000 ≤ R.slots) (hls : ls.size = nL) (hw : (rest.map fun v => v.category).sum ≤ 8) (hd : decode cc pc = .ok (.invokespecial idx, 3))
    (kk : ∀ (H : Heap) (locs : List Loc), RH D B ca M' H → va_S (AA B) s.heap H locs → Bk n0 (cells + mc) (slots + ms) M' → W p l e R s m args below meth c H locs (cells + mc) (slots + ms) Q (F0 m (pc + 3) ls rest)) : W p l e R s m args below meth c H locs cells slots Q (F0 m pc ls (.ref (B + x) :: rest)) := by
  obtain ⟨b1, b2, b3, b4⟩ := hB
  refine w_size (fun hz0 => ?_)
  exact rk_I C hao hR hS (rn_sz hR hs b2 (by omega) hz0) F hy1 V hl hM hroom ⟨by omega, by omega⟩ hls hw hd (fun H1 l1 g1 g2 g3 => kk H1 l1 g1 g2 ⟨b1, by omega, by omega, by omega⟩)
theorem bk_V (C : Cx p s m args meth c own cc nL none D B ca st) (hao : AO s) (hR : RH D B ca M H) (hS : va_S (AA B) s.heap H locs) (hs : s.heap.size = B + 1 + n0) (hB : Bk n0 cells slots M) (hd : decode cc pc = .ok (.return_, 1)) : W p l e R s m args below meth c H locs cells slots (MQ below (Qk D B ca st M) args s 86 172000 (AA B)) (F0 m pc ls []) := by
  obtain ⟨b1, b2, b3, b4⟩ := hB
  refine w_size (fun hz0 => ?_)
  refine W.widen (k := 86) (n := 172000) (by omega) (by omega) ?_
  exact rk_V C hao hR hS (rn_sz hR hs b2 (by omega) hz0) hd
end BRows
