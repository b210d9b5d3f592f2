section Rows4
variable {p : Program} {l : Launch} {e : Env} {R : Room} {s : State} {m : MethodId} {args : Array Value} {below : List Frame} {meth : Method} {c : Code} {H : Heap} {locs : List Loc} {cells slots : Nat} {Q : State → Prop}
variable {D : va_G} {B : Nat} {ca : Nat → ClassId} {st : Nat → Nat} {M M' : Mem} {pc : Nat} {ls : Array Slot} {rest : List Value}
theorem rc_k1 {w : Value} (kk : ∀ (H : Heap) (locs : List Loc), RH D B ca M' H → va_S (AA B) s.heap H locs → W p l e R s m args below meth c H locs cells slots Q (F0 m pc ls (w :: rest))) : ∀ (H : Heap) (locs : List Loc), RH D B ca M' H → va_S (AA B) s.heap H locs → W p l e R s m args below meth c H locs cells slots Q (F0 m pc ls ((some w).toList ++ rest)) := kk
theorem rc_k0 (kk : ∀ (H : Heap) (locs : List Loc), RH D B ca M' H → va_S (AA B) s.heap H locs → W p l e R s m args below meth c H locs cells slots Q (F0 m pc ls rest)) : ∀ (H : Heap) (locs : List Loc), RH D B ca M' H → va_S (AA B) s.heap H locs → W p l e R s m args below meth c H locs cells slots Q (F0 m pc ls ((none : Option Value).toList ++ rest)) := kk
theorem rc_nul {v : Nat} (k0 : v = 0 → W p l e R s m args below meth c H locs cells slots Q (F0 m pc ls (.null :: rest))) (k1 : ¬ v = 0 → W p l e R s m args below meth c H locs cells slots Q (F0 m pc ls (.ref (B + v) :: rest))) : W p l e R s m args below meth c H locs cells slots Q (F0 m pc ls (va_rf (rO B v) :: rest)) := by
  by_cases h : v = 0
  · have := k0 h
    subst h
    exact this
  · rw [rO_ne h]
    exact k1 h
theorem ok_of {y : MethodName} {cc : ByteArray} {nL : Nat} {ret : Option FieldType} {own : String} {d : Nat} {av : List Value} {v : Option Value} (hy : plainName y.cls = true) (hown : y.cls = own) (hlen : (lg_sl av).length ≤ nL)
    (body : ∀ (p : Program) (e : Env) (s : State) (m : MethodId) (args : Array Value) (below : List Frame) (meth : Method) (c : Code) (ls : Array Slot), Cx p s m args meth c own cc nL ret D B ca st → lv_has ls nL (lv_args 0 av) → RH D B ca M s.heap → va_S (AA B) s.heap s.heap [] →
      W p l e (rmD d) s m args below meth c s.heap [] 0 0 (MQ below (Qp D B ca st v M') args s 0 0 (AA B)) (F0 m 0 ls [])) : Ok l y cc nL ret d av D B ca st M v M' := by
  refine Met.ofW (cc := cc) (maxL := nL) (ret := ret) hy rfl ?_
  intro p e s m args below meth c s₁ Bd hml hv
  obtain ⟨rfl, hR, hK, hN, hT⟩ := hv
  have hts := atoms_spec (ws := Cond.code y cc nL ret :: wsA) Bd.pre
  have hl := lv_entry av (n := nL) hlen
  rw [lg_entry_eq]
  exact body p e s m _ below meth c _ ⟨Bd.exec, Bd.bytes, hml, hown ▸ findClass_of_methodNamed Bd.named, fun w hw => hts w (List.mem_cons_of_mem _ hw), Bd.returns, Bd.notSynchronized, hK, hN, hT⟩ hl hR va_S.rf
end Rows4
