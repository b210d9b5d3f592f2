theorem lk133 : Cond.classLink RL 7 RX7 ∈ wsA := in_A 133 (by decide +kernel) rfl
theorem lk134 : Cond.instantiable RX7 15 ∈ wsA := in_A 134 (by decide +kernel) rfl
theorem lk136 : Cond.instanceMethod yX7_init ∈ wsA := in_A 136 (by decide +kernel) rfl
theorem lk135 : Cond.methodLink RL 9 yX7_init ∈ wsA := in_A 135 (by decide +kernel) rfl
theorem lk942 : Cond.classLink RL 10 RX8 ∈ wsA := in_A 942 (by decide +kernel) rfl
theorem lk943 : Cond.instantiable RX8 34 ∈ wsA := in_A 943 (by decide +kernel) rfl
theorem lk945 : Cond.instanceMethod yX8_init ∈ wsA := in_A 945 (by decide +kernel) rfl
theorem lk944 : Cond.methodLink RL 12 yX8_init ∈ wsA := in_A 944 (by decide +kernel) rfl
/-! THE CLAIM OUT OF ONE WALK OF THE LAW'S BODY. Your part is whole_start (and what it stands on); all else here is the same for every law, but numbers. -/
def R_law : String := "SighGuildLaw"
def lw_P (b : Addr) (xs : List Int32) (args : Array Value) (s : State) : Prop := args = #[.ref b] ∧ s.IntsAt b xs ∧ xs.length ≤ 384 ∧ (Jvm.Cond.and given_1 narrow_1).before args s = true
def lw_Q (_ : Array Value) (s : State) (o : Outcome) (t : State) : Prop := o = .returned (some (.int 1)) ∧ Framed s o t [] 600000 7302250
def lw_Z (below : List Frame) (a : Array Value) (s : State) : State → Prop := fun t => ∃ o, t.status = .running ∧ Ended t below o ∧ lw_Q a s o t
/-- the law's own end, with 1 on the stack, nothing written that was there before, its room as the claim has it -/
theorem lw_ret {p : Program} {l : Launch} {e : Env} {s : State} {m : MethodId} {below : List Frame} {meth : Method} {c : Code} {b : Nat} (hx : p.tables.exec = Jvm.exec) (hb : c.code = code) (hr : meth.sig.returnType = ret) (hlocks : meth.locks = false) {pc : Nat} {H : Heap} {ls : Array Slot} (hdg : decode code pc = .ok (.ireturn, 1)) : W p l e room_1 s m #[Value.ref b] below meth c H [] 600000 7302250 (lw_Z below #[Value.ref b] s) (F0 m pc ls [.int 1]) := by
  intro T hT X
  obtain ⟨fs, hret, hrun, hended, hW, hframe⟩ := X.leave (v := some (.int 1)) (hlocks := hlocks) (fun h => by rw [hr] at h; cases h)
  have hmeth' : T.vm.method? m = some meth := X.method'
  refine ⟨T.setFrames fs, ?_, .returned (some (.int 1)), hrun, hended, rfl, ⟨_, rfl⟩, hW, hframe⟩
  jvm_step X.here [X.here.top, hx, hb, hdg, hmeth', hr, ret, narrow_b1]
  (try refine ⟨rfl, ?_⟩); (try refine ⟨rfl, ?_⟩)
  first | (intro acts; rw [hret _ acts rfl rfl rfl]) | rw [hret _ _ rfl rfl rfl]
  exact Steps.refl _
/-- what holds at the law's entry: the machine, the code, the tables' words (any of lw_tbl by 'hts w (by decide +kernel)'), the script of L ints xs at the cell b, what the Statement gives of the start (any of its parts by flat_of_before) -/
def lw_At (p : Program) (s : State) (m : MethodId) (meth : Method) (c : Code) (b L : Nat) (xs : Nat → Int32) : Prop :=
  p.tables.exec = Jvm.exec ∧ c.code = code ∧ meth.sig.returnType = ret ∧ c.maxLocals = 4 ∧ s.vm.findClass R_law = some m.cls ∧ (∀ w ∈ lw_tbl, w.before #[Value.ref b] s = true) ∧ va_X b L xs s s.heap ∧ b < s.heap.size ∧ meth.locks = false ∧ (Jvm.Cond.and given_1 narrow_1).before #[Value.ref b] s = true
/-! ===== the law's loop and its start, over what is proved of the memory alone ===== -/
def M0 : Mem := (fun _ _ => 0, fun _ _ => 0, fun _ _ => 0, 0)
theorem nO_0 : nO M0 (10 + 7) 15 = some (1, sN M0) := by
  unfold nO
  rw [if_pos (by decide +kernel)]
  rfl
theorem eq_int_of {args : Array Value} {s : State} {a : Term} {k : Int32} (h : (Cond.eq a (.int k)).before args s = true) : a.eval args s none [] s = some (.int k) := by
  obtain ⟨y, h1, h2⟩ := Cond.eq_one (show (Cond.eq a (.int k)).holds args s none s [] = true from h)
  rw [h1]
  exact h2.symm ▸ rfl
theorem gt6 {L t : Nat} (hL : L ≤ 384) (ht : 6 * t ≤ 390) (h : ¬ (nI L - 6 < nI (6 * t))) : 6 * t + 6 ≤ L := by
  have h1 : (nI L - 6).toInt = (L : Int) - 6 := by
    have := pk_sub_toInt (a := L) (b := 6) (by omega) (by omega)
    exact this
  have h2 : (nI (6 * t)).toInt = ((6 * t : Nat) : Int) := nI_toInt (by omega)
  rw [Int32.lt_iff_toInt_lt, h1, h2] at h
  omega
section LawStart
variable {p : Program} {l : Launch} {e : Env} {s : State} {m : MethodId} {below : List Frame} {meth : Method} {c : Code}
variable {D : va_G} {B : Nat} {ca : Nat → ClassId} {st : Nat → Nat} {b L : Nat} {xs : Nat → Int32}
set_option maxHeartbeats 4000000 in
set_option maxRecDepth 100000 in
theorem law_loop {Inv : Mem → Prop} (hstep : ∀ (v a1 a2 a3 a4 a5 : Int32) (M : Mem), Inv M → ∃ M', lawOps v a1 a2 a3 a4 a5 M = some M' ∧ Inv M') (C : Cx p s m #[Value.ref b] meth c RL cL_law 4 (some .boolean) D B ca st) (hX : va_X b L xs s s.heap) (hbl : b < s.heap.size) (hbA : ¬ AA B b) (hL : L ≤ 384) (hB : s.heap.size = B + 1) : ∀ (n t : Nat) (M : Mem), Inv M → 6 * t ≤ 390 → 400 - 6 * t < n → ∀ {H : Heap} {locs : List Loc} {ls : Array Slot}, RH D B ca M H → va_S (AA B) s.heap H locs → lv_has ls 4 [(0, .ref b), (1, .ref (B + 1)), (2, .ref (B + 65)), (3, .int (nI (6 * t)))] → W p l e room_1 s m #[Value.ref b] below meth c H locs 174 344049 (lw_Z below #[Value.ref b] s) (F0 m 18 ls []) := by
  have hx := C.1
  have hb := C.2.1
  intro n
  induction n with
  | zero => intro t M hI ht hn; omega
  | succ n ih =>
    intro t M hI ht hn H locs ls hR hS hl
    refine lv_iload_n hx hb dL_law_18 rfl (lv_at hl 3 rfl) ?_
    refine lv_aload_n hx hb dL_law_19 rfl (lv_at hl 0 rfl) ?_
    refine va_slen hx hb hX hbl hbA hS dL_law_20 ?_
    refine lv_bipush (v := 6) hx hb dL_law_21 (by decide) ?_
    refine lv_isub hx hb dL_law_23 ?_
    refine lv_icmp_gt (tgt := 1465) hx hb dL_law_24 (by decide) (fun zqc => ?_) (fun zqc => ?_)
    · refine lv_iconst (v := 1) hx hb dL_law_1465 (by decide) ?_
      refine va_forget (fun q hq => by have := hS.2.2 q hq; unfold AA at this; omega) ?_
      refine W.widen (k := 600000) (n := 7302250) (Nat.le_of_ble_eq_true rfl) (Nat.le_of_ble_eq_true rfl) ?_
      exact lw_ret hx hb C.2.2.2.2.2.1 C.2.2.2.2.2.2.1 dL_law_1466
    · have h6 : 6 * t + 6 ≤ L := gt6 hL ht zqc
      have hj : ∀ j : Nat, j < 6 → vp_in (nI (6 * t + j)) L := fun j hj => vp_in_nI (by omega) (by omega)
      have ej : ∀ j : Nat, nI (6 * t) + nI j = nI (6 * t + j) := fun j => nI_add _ _
      obtain ⟨M', hM', hI'⟩ := hstep (xs (nI (6 * t)).toNatClampNeg &&& 63) (xs (nI (6 * t) + 1).toNatClampNeg) (xs (nI (6 * t) + 2).toNatClampNeg) (xs (nI (6 * t) + 3).toNatClampNeg) (xs (nI (6 * t) + 4).toNatClampNeg) (xs (nI (6 * t) + 5).toNatClampNeg) M hI
      refine law_turn C hX hbl hbA ⟨Nat.le_of_ble_eq_true rfl, Nat.le_of_ble_eq_true rfl⟩ (hj 0 (by omega)) ((ej 1).symm ▸ hj 1 (by omega)) ((ej 2).symm ▸ hj 2 (by omega)) ((ej 3).symm ▸ hj 3 (by omega)) ((ej 4).symm ▸ hj 4 (by omega)) ((ej 5).symm ▸ hj 5 (by omega)) rfl rfl rfl rfl rfl rfl hM' (fun H locs ls hR hS hl => ?_) hR hS hl
      refine lv_iinc (v := nI (6 * (t + 1))) (lv' := [(3, .int (nI (6 * (t + 1)))), (0, .ref b), (1, .ref (B + 1)), (2, .ref (B + 65))]) hx hb dL_law_1459 hl (k := 3) rfl (ej 6) (by decide) rfl (fun ls hl => ?_)
      refine lv_goto (tgt := 18) hx hb dL_law_1462 (by decide) ?_
      exact ih (t + 1) M' hI' (by omega) (by omega) hR hS (lv_sub hl [1, 2, 3, 0] rfl)
theorem st_of {args : Array Value} {hgv : (Jvm.Cond.and given_1 narrow_1).before args s = true} (hts : ∀ w ∈ lw_tbl, w.before args s = true) (hB : s.heap.size = B + 1) (t : Nat) (ht : t < 3) : ∃ a : Nat, va_Z "SighGuild" (stN t) "[I" (.ref a) (AA B) s s.heap ∧ va_T .int a 6 (fun j => .int (tbl t j)) (AA B) s s.heap := by
  have hs := flat_of_before _ hgv
  have hA : ∀ a : Nat, a < s.heap.size → ¬ AA B a := fun a h => by unfold AA; omega
  have hini : (Cond.initialized "SighGuild").before args s = true := hts _ (by decide +kernel)
  have go : ∀ nm : String, (Cond.laysStatic "SighGuild" nm "[I").before args s = true → (Cond.arrayOf (.static "SighGuild" nm "[I") .int).before args s = true → (Cond.eq (.length (.static "SighGuild" nm "[I")) (.int 6)).before args s = true → (∀ j : Nat, j < 6 → (Cond.eq (.elem (.static "SighGuild" nm "[I") (.int (Int32.ofNat j))) (.int (tbl t j))).before args s = true) → ∃ a : Nat, va_Z "SighGuild" nm "[I" (.ref a) (AA B) s s.heap ∧ va_T .int a 6 (fun j => .int (tbl t j)) (AA B) s s.heap := by
    intro nm h1 h2 h3 h4
    obtain ⟨a, e1, e2⟩ := va_Tof (A := AA B) (f := fun j => .int (tbl t j)) (N := 6) (by decide) h2 (eq_int_of h3) (fun j hj => eq_int_of (h4 j hj)) hA
    exact ⟨a, va_Zref h1 hini e1 hA, e2⟩
  rcases (show t = 0 ∨ t = 1 ∨ t = 2 by omega) with rfl | rfl | rfl
  · refine go "LETTERS" (hts _ (by decide +kernel)) (hs _ (by decide +kernel)) (hs _ (by decide +kernel)) (fun j hj => ?_)
    rcases (show j = 0 ∨ j = 1 ∨ j = 2 ∨ j = 3 ∨ j = 4 ∨ j = 5 by omega) with rfl | rfl | rfl | rfl | rfl | rfl <;> exact hs _ (by decide +kernel)
  · refine go "ABOVE" (hts _ (by decide +kernel)) (hs _ (by decide +kernel)) (hs _ (by decide +kernel)) (fun j hj => ?_)
    rcases (show j = 0 ∨ j = 1 ∨ j = 2 ∨ j = 3 ∨ j = 4 ∨ j = 5 by omega) with rfl | rfl | rfl | rfl | rfl | rfl <;> exact hs _ (by decide +kernel)
  · refine go "DEPTH_LIMIT" (hts _ (by decide +kernel)) (hs _ (by decide +kernel)) (hs _ (by decide +kernel)) (fun j hj => ?_)
    rcases (show j = 0 ∨ j = 1 ∨ j = 2 ∨ j = 3 ∨ j = 4 ∨ j = 5 by omega) with rfl | rfl | rfl | rfl | rfl | rfl <;> exact hs _ (by decide +kernel)
theorem arr_int {args : Array Value} {ty : FieldType} (h : (Cond.arrayClass ty).before args s = true) (hty : ∀ C, ty ≠ .object C) : ∃ cA : ClassId, ArrOfT s cA ty ∧ va_RA s cA ty := by
  obtain ⟨cA, k, comp, h1, h2, h3⟩ := Cond.arrayClass_spec h
  refine ⟨cA, fun n z => ⟨(fun k h => by cases h), k, h2, comp, h3⟩, ?_⟩
  cases ty <;> first | exact h1 | exact absurd rfl (hty _)
theorem arr_ref {C : String} (h : va_AO C s) : ∃ cA : ClassId, ArrOfT s cA (.object C) ∧ va_RA s cA (.object C) := by
  obtain ⟨comp, cA, k, h1, h2, h3, h4, h5⟩ := Cond.arrayOver_spec h
  exact ⟨cA, fun n z => ⟨(fun k h => by cases h), k, h3, comp, h4⟩, k, comp, h3, h4, h1, h5⟩
end LawStart
set_option maxHeartbeats 4000000 in
set_option maxRecDepth 100000 in
theorem whole_open {Inv : Mem → Prop} (hstep : ∀ (v a1 a2 a3 a4 a5 : Int32) (M : Mem), Inv M → ∃ M', lawOps v a1 a2 a3 a4 a5 M = some M' ∧ Inv M') (hinit : ∃ M1 M2 M3, f_X7_init 1 (sN M0) = some M1 ∧ mN M1 ≤ 86 ∧ nO M1 18 34 = some (65, M2) ∧ f_X8_init 65 M2 = some M3 ∧ Inv M3)
    {p : Program} {e : Env} {s : State} {m : MethodId} {below : List Frame} {meth : Method} {c : Code} (l : Launch) {b L : Nat} {xs : Nat → Int32} (hL : L ≤ 384) (C0 : lw_At p s m meth c b L xs) : W p l e room_1 s m #[Value.ref b] below meth c s.heap [] 0 0 (lw_Z below #[Value.ref b] s) (entryFrame m ([Value.ref b] : List Value).toArray 4) := by
  obtain ⟨hx, hb, hr, hml, hown, hts, hX, hbl, hlocks, hgv⟩ := id C0
  obtain ⟨B, hB⟩ : ∃ B, s.heap.size = B + 1 := ⟨s.heap.size - 1, by omega⟩
  have htA : ∀ w ∈ wsA, w.before #[Value.ref b] s = true := fun w hw => hts w (List.mem_filter.mp hw).1
  have hNW : NW s := by
    intro w hw
    have hn := (List.mem_filter.mp hw).2
    have hh := hts w (List.mem_filter.mp hw).1
    refine va_Nw.of ?_ hh
    cases w <;> first | rfl | (simp [isNest] at hn)
  have hao : AO s := ⟨va_AO.of (hts _ (by decide +kernel)), va_AO.of (hts _ (by decide +kernel)), va_AO.of (hts _ (by decide +kernel))⟩
  obtain ⟨st, hst⟩ := Classical.axiomOfChoice (r := fun (t : Nat) (a : Nat) => t < 3 → va_Z "SighGuild" (stN t) "[I" (.ref a) (AA B) s s.heap ∧ va_T .int a 6 (fun j => .int (tbl t j)) (AA B) s s.heap) (fun t => by
    by_cases ht : t < 3
    · obtain ⟨a, ha⟩ := st_of (hgv := hgv) hts hB t ht
      exact ⟨a, fun _ => ha⟩
    · exact ⟨0, fun h => absurd h ht⟩)
  obtain ⟨c1, g1⟩ := arr_int (s := s) (hts (.arrayClass .int) (by decide +kernel)) (fun _ h => by cases h)
  obtain ⟨c2, g2⟩ := arr_int (s := s) (hts (.arrayClass .byte) (by decide +kernel)) (fun _ h => by cases h)
  obtain ⟨c3, g3⟩ := arr_ref hao.2.2
  obtain ⟨c4, g4⟩ := arr_ref hao.1
  obtain ⟨c5, g5⟩ := arr_ref hao.2.1
  obtain ⟨ca, hca⟩ : ∃ ca : Nat → ClassId, ca 1 = c1 ∧ ca 2 = c2 ∧ ca 3 = c3 ∧ ca 4 = c4 ∧ ca 5 = c5 := ⟨fun k => if k = 1 then c1 else if k = 2 then c2 else if k = 3 then c3 else if k = 4 then c4 else c5, rfl, rfl, rfl, rfl, rfl⟩
  obtain ⟨dC, dI, hKc⟩ : ∃ (dC : Nat → ClassId) (dI : Nat → Nat → Nat), ∀ (k : Nat) (q : vw_C), vwCl[k]? = some q → u_Kn s q.1 q.2.1 q.2.2 (dC k) (dI k) := by
    have hex : ∀ k : Nat, ∃ z : ClassId × (Nat → Nat), ∀ q : vw_C, vwCl[k]? = some q → u_Kn s q.1 q.2.1 q.2.2 z.1 z.2 := by
      intro k
      by_cases hk : k < 9
      · have go : ∀ {Cn : String} {T : u_T} {N : Nat}, (∀ w ∈ u_ws Cn T N, w ∈ wsA) → Cond.instantiable Cn N ∈ lw_tbl → vwCl[k]? = some (Cn, T, N) → ∃ z : ClassId × (Nat → Nat), ∀ q : vw_C, vwCl[k]? = some q → u_Kn s q.1 q.2.1 q.2.2 z.1 z.2 := by
          intro Cn T N hin hi he
          obtain ⟨cC, iS, hk2⟩ := u_known (n := N) htA hin (hts _ hi)
          exact ⟨(cC, iS), fun q hq => by rw [he] at hq; cases hq; exact hk2⟩
        rcases (show k = 0 ∨ k = 1 ∨ k = 2 ∨ k = 3 ∨ k = 4 ∨ k = 5 ∨ k = 6 ∨ k = 7 ∨ k = 8 by omega) with rfl | rfl | rfl | rfl | rfl | rfl | rfl | rfl | rfl
        · exact go inA0 (by decide +kernel) rfl
        · exact go inA1 (by decide +kernel) rfl
        · exact go inA2 (by decide +kernel) rfl
        · exact go inA3 (by decide +kernel) rfl
        · exact go inA4 (by decide +kernel) rfl
        · exact go inA5 (by decide +kernel) rfl
        · exact go inA6 (by decide +kernel) rfl
        · exact go inA7 (by decide +kernel) rfl
        · exact go inA8 (by decide +kernel) rfl
      · exact ⟨(0, fun _ => 0), fun q hq => by
          have := (List.getElem?_eq_some_iff.mp hq).1
          exact absurd this (by show ¬ k < 9; exact hk)⟩
    obtain ⟨f, hf⟩ := Classical.axiomOfChoice hex
    exact ⟨fun k => (f k).1, fun k => (f k).2, hf⟩
  have hK : va_K (dC, dI) vwCl (tyE ca) s := by
    refine ⟨hKc, fun k q hq => ?_⟩
    obtain ⟨e1, e2, e3, e4, e5⟩ := hca
    have hlt : k < 5 := (List.getElem?_eq_some_iff.mp hq).1
    rcases (show k = 0 ∨ k = 1 ∨ k = 2 ∨ k = 3 ∨ k = 4 by omega) with rfl | rfl | rfl | rfl | rfl
    · cases hq; rw [e1]; exact g1
    · cases hq; rw [e2]; exact g2
    · cases hq; rw [e3]; exact g3
    · cases hq; rw [e4]; exact g4
    · cases hq; rw [e5]; exact g5
  have C : Cx p s m #[Value.ref b] meth c RL cL_law 4 (some .boolean) (dC, dI) B ca st := ⟨hx, hb, hml, hown, htA, hr, hlocks, hK, hNW, hst⟩
  have hbA : ¬ AA B b := by unfold AA; omega
  have hS : va_S (AA B) s.heap s.heap [] := va_S.rf
  have hR : RH (dC, dI) B ca M0 s.heap := ⟨fun k q h => by simp [wO, M0, mN] at h, ⟨fun i j p q h => by simp [wO, M0, mN] at h, fun k q h => by simp [wO, M0, mN] at h⟩⟩
  obtain ⟨M1, M2, M3, i1, im, i2, i3, hI⟩ := hinit
  have hl := lv_entry ([.ref b]) (n := 4) (Nat.le_of_ble_eq_true rfl)
  rw [lg_entry_eq]
  generalize (lg_sl ([.ref b]) ++ List.replicate (4 - (lg_sl ([.ref b])).length) Slot.unset).toArray = ls at hl ⊢
  have hl : lv_has ls 4 [(0, .ref b)] := hl
  refine rn_O (q := 1) (M' := sN M0) C hR hS (by rw [hB]; rfl) (ci := 7) rfl inA7 tyX7 tyX7_ok dv7 lk133 lk134 lk120 nO_0 ⟨Nat.le_of_ble_eq_true rfl, Nat.le_of_ble_eq_true rfl⟩ dL_law_0 (fun H hR hS hz => ?_)
  refine lv_dup hx hb dL_law_3 rfl ?_
  refine rk_I C hao hR hS hz cf_X7_init rfl lk136 (Or.inl lk135) (ok_X7_init (by decide) i1) ⟨Nat.le_of_ble_eq_true rfl, Nat.le_of_ble_eq_true rfl⟩ ⟨Nat.le_of_ble_eq_true rfl, Nat.le_of_ble_eq_true rfl⟩ hl.1 (Nat.le_of_ble_eq_true rfl) dL_law_4 (fun H locs hR hS hz => ?_)
  refine lv_astore_n (lv' := [(1, .ref (B + 1)), (0, .ref b)]) hx hb dL_law_7 rfl hl (by decide) rfl (fun ls hl => ?_)
  refine rn_O (q := 65) (M' := M2) C hR hS hz (ci := 8) rfl inA8 tyX8 tyX8_ok dv8 lk942 lk943 lk128 i2 ⟨Nat.le_of_ble_eq_true rfl, Nat.le_of_ble_eq_true rfl⟩ dL_law_8 (fun H hR hS hz => ?_)
  refine lv_dup hx hb dL_law_11 rfl ?_
  have hm2 : mN M2 ≤ 86 := by
    have := nO_n i2
    have h2 := sh_top (nO_spec i2).1 (by decide)
    omega
  refine rk_I C hao hR hS hz cf_X8_init rfl lk945 (Or.inl lk944) (ok_X8_init hm2 i3) ⟨Nat.le_of_ble_eq_true rfl, Nat.le_of_ble_eq_true rfl⟩ ⟨Nat.le_of_ble_eq_true rfl, Nat.le_of_ble_eq_true rfl⟩ hl.1 (Nat.le_of_ble_eq_true rfl) dL_law_12 (fun H locs hR hS hz => ?_)
  refine lv_astore_n (lv' := [(2, .ref (B + 65)), (1, .ref (B + 1)), (0, .ref b)]) hx hb dL_law_15 rfl hl (by decide) rfl (fun ls hl => ?_)
  refine lv_iconst (v := 0) hx hb dL_law_16 (by decide) ?_
  refine lv_istore_n (lv' := [(3, .int 0), (2, .ref (B + 65)), (1, .ref (B + 1)), (0, .ref b)]) hx hb dL_law_17 rfl hl (by decide) rfl (fun ls hl => ?_)
  exact law_loop hstep C hX hbl hbA hL hB 401 0 M3 hI (by omega) (by omega) hR hS (lv_sub hl [3, 2, 1, 0] rfl)
