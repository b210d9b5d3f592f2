section FRows
variable {p : Program} {l : Launch} {e : Env} {R : Room} {s : State} {m : MethodId} {args : Array Value} {below : List Frame} {meth : Method} {c : Code} {H : Heap} {locs : List Loc} {cells slots : Nat} {Q : State → Prop}
variable {cc : ByteArray} {nL : Nat} {ret : Option FieldType} {D : va_G} {B : Nat} {ca : Nat → ClassId} {st : Nat → Nat} {M M' : Mem} {pc x : Nat} {ls : Array Slot} {rest : List Value}
theorem gf151 (C : Cx p s m args meth c RX2 cc nL ret D B ca st) (hR : RH D B ca M H) {v : Int32} (hv : gI M 12 x 0 = some v) (hd : decode cc pc = .ok (.getfield 9, 3)) (kk : W p l e R s m args below meth c H locs cells slots Q (F0 m (pc + 3) ls (.int v :: rest))) : W p l e R s m args below meth c H locs cells slots Q (F0 m pc ls (.ref (B + x) :: rest)) :=
  rg_I C hR (j := 0) (ci := 2) (N := 10) (T := TX2) rfl inA2 (by decide) rfl (Or.inl lk151) hv hd kk
theorem pf151 (C : Cx p s m args meth c RX2 cc nL ret D B ca st) (hR : RH D B ca M H) (hS : va_S (AA B) s.heap H locs) {v : Int32} (hv : pI M 12 x 0 v = some M') (hd : decode cc pc = .ok (.putfield 9, 3)) (kk : ∀ (H : Heap) (locs : List Loc), RH D B ca M' H → va_S (AA B) s.heap H locs → W p l e R s m args below meth c H locs cells slots Q (F0 m (pc + 3) ls (rest))) : W p l e R s m args below meth c H locs cells slots Q (F0 m pc ls (.int v :: .ref (B + x) :: rest)) :=
  rp_I C hR hS (j := 0) (ci := 2) (N := 10) (T := TX2) rfl inA2 tyX2 tyX2_ok nmX2 (by decide) (Or.inl lk151) (Or.inl rfl) ⟨rfl, rfl⟩ rfl hv hd kk
theorem gf152 (C : Cx p s m args meth c RX6 cc nL ret D B ca st) (hR : RH D B ca M H) {v : Int32} (hv : gI M 12 x 0 = some v) (hd : decode cc pc = .ok (.getfield 55, 3)) (kk : W p l e R s m args below meth c H locs cells slots Q (F0 m (pc + 3) ls (.int v :: rest))) : W p l e R s m args below meth c H locs cells slots Q (F0 m pc ls (.ref (B + x) :: rest)) :=
  rg_I C hR (j := 0) (ci := 2) (N := 10) (T := TX2) rfl inA2 (by decide) rfl (Or.inr ⟨_, lk152⟩) hv hd kk
theorem gf153 (C : Cx p s m args meth c RX1 cc nL ret D B ca st) (hR : RH D B ca M H) {v : Int32} (hv : gI M 12 x 0 = some v) (hd : decode cc pc = .ok (.getfield 95, 3)) (kk : W p l e R s m args below meth c H locs cells slots Q (F0 m (pc + 3) ls (.int v :: rest))) : W p l e R s m args below meth c H locs cells slots Q (F0 m pc ls (.ref (B + x) :: rest)) :=
  rg_I C hR (j := 0) (ci := 2) (N := 10) (T := TX2) rfl inA2 (by decide) rfl (Or.inr ⟨_, lk153⟩) hv hd kk
theorem gf154 (C : Cx p s m args meth c RX7 cc nL ret D B ca st) (hR : RH D B ca M H) {v : Int32} (hv : gI M 12 x 0 = some v) (hd : decode cc pc = .ok (.getfield 214, 3)) (kk : W p l e R s m args below meth c H locs cells slots Q (F0 m (pc + 3) ls (.int v :: rest))) : W p l e R s m args below meth c H locs cells slots Q (F0 m pc ls (.ref (B + x) :: rest)) :=
  rg_I C hR (j := 0) (ci := 2) (N := 10) (T := TX2) rfl inA2 (by decide) rfl (Or.inr ⟨_, lk154⟩) hv hd kk
theorem gf155 (C : Cx p s m args meth c RX2 cc nL ret D B ca st) (hR : RH D B ca M H) {v : Int32} (hv : gI M 12 x 1 = some v) (hd : decode cc pc = .ok (.getfield 15, 3)) (kk : W p l e R s m args below meth c H locs cells slots Q (F0 m (pc + 3) ls (.int v :: rest))) : W p l e R s m args below meth c H locs cells slots Q (F0 m pc ls (.ref (B + x) :: rest)) :=
  rg_I C hR (j := 1) (ci := 2) (N := 10) (T := TX2) rfl inA2 (by decide) rfl (Or.inl lk155) hv hd kk
theorem pf155 (C : Cx p s m args meth c RX2 cc nL ret D B ca st) (hR : RH D B ca M H) (hS : va_S (AA B) s.heap H locs) {v : Int32} (hv : pI M 12 x 1 v = some M') (hd : decode cc pc = .ok (.putfield 15, 3)) (kk : ∀ (H : Heap) (locs : List Loc), RH D B ca M' H → va_S (AA B) s.heap H locs → W p l e R s m args below meth c H locs cells slots Q (F0 m (pc + 3) ls (rest))) : W p l e R s m args below meth c H locs cells slots Q (F0 m pc ls (.int v :: .ref (B + x) :: rest)) :=
  rp_I C hR hS (j := 1) (ci := 2) (N := 10) (T := TX2) rfl inA2 tyX2 tyX2_ok nmX2 (by decide) (Or.inl lk155) (Or.inl rfl) ⟨rfl, rfl⟩ rfl hv hd kk
theorem gf156 (C : Cx p s m args meth c RX3 cc nL ret D B ca st) (hR : RH D B ca M H) {v : Int32} (hv : gI M 12 x 1 = some v) (hd : decode cc pc = .ok (.getfield 59, 3)) (kk : W p l e R s m args below meth c H locs cells slots Q (F0 m (pc + 3) ls (.int v :: rest))) : W p l e R s m args below meth c H locs cells slots Q (F0 m pc ls (.ref (B + x) :: rest)) :=
  rg_I C hR (j := 1) (ci := 2) (N := 10) (T := TX2) rfl inA2 (by decide) rfl (Or.inr ⟨_, lk156⟩) hv hd kk
theorem gf157 (C : Cx p s m args meth c RX1 cc nL ret D B ca st) (hR : RH D B ca M H) {v : Int32} (hv : gI M 12 x 1 = some v) (hd : decode cc pc = .ok (.getfield 92, 3)) (kk : W p l e R s m args below meth c H locs cells slots Q (F0 m (pc + 3) ls (.int v :: rest))) : W p l e R s m args below meth c H locs cells slots Q (F0 m pc ls (.ref (B + x) :: rest)) :=
  rg_I C hR (j := 1) (ci := 2) (N := 10) (T := TX2) rfl inA2 (by decide) rfl (Or.inr ⟨_, lk157⟩) hv hd kk
theorem gf158 (C : Cx p s m args meth c RX7 cc nL ret D B ca st) (hR : RH D B ca M H) {v : Int32} (hv : gI M 12 x 1 = some v) (hd : decode cc pc = .ok (.getfield 148, 3)) (kk : W p l e R s m args below meth c H locs cells slots Q (F0 m (pc + 3) ls (.int v :: rest))) : W p l e R s m args below meth c H locs cells slots Q (F0 m pc ls (.ref (B + x) :: rest)) :=
  rg_I C hR (j := 1) (ci := 2) (N := 10) (T := TX2) rfl inA2 (by decide) rfl (Or.inr ⟨_, lk158⟩) hv hd kk
theorem gf159 (C : Cx p s m args meth c RX2 cc nL ret D B ca st) (hR : RH D B ca M H) {v : Nat} (hv : gR M 12 x 2 = some v) (hd : decode cc pc = .ok (.getfield 18, 3)) (kk : W p l e R s m args below meth c H locs cells slots Q (F0 m (pc + 3) ls (.ref (B + v) :: rest))) : W p l e R s m args below meth c H locs cells slots Q (F0 m pc ls (.ref (B + x) :: rest)) :=
  rg_R C hR (j := 2) (ci := 2) (N := 10) (T := TX2) rfl inA2 (by decide) rfl (Or.inl lk159) hv hd kk
theorem gf160 (C : Cx p s m args meth c RX7 cc nL ret D B ca st) (hR : RH D B ca M H) {v : Nat} (hv : gR M 12 x 2 = some v) (hd : decode cc pc = .ok (.getfield 164, 3)) (kk : W p l e R s m args below meth c H locs cells slots Q (F0 m (pc + 3) ls (.ref (B + v) :: rest))) : W p l e R s m args below meth c H locs cells slots Q (F0 m pc ls (.ref (B + x) :: rest)) :=
  rg_R C hR (j := 2) (ci := 2) (N := 10) (T := TX2) rfl inA2 (by decide) rfl (Or.inr ⟨_, lk160⟩) hv hd kk
theorem gf161 (C : Cx p s m args meth c RX2 cc nL ret D B ca st) (hR : RH D B ca M H) {v : Nat} (hv : gR M 12 x 3 = some v) (hd : decode cc pc = .ok (.getfield 22, 3)) (kk : W p l e R s m args below meth c H locs cells slots Q (F0 m (pc + 3) ls (.ref (B + v) :: rest))) : W p l e R s m args below meth c H locs cells slots Q (F0 m pc ls (.ref (B + x) :: rest)) :=
  rg_R C hR (j := 3) (ci := 2) (N := 10) (T := TX2) rfl inA2 (by decide) rfl (Or.inl lk161) hv hd kk
theorem gf162 (C : Cx p s m args meth c RX6 cc nL ret D B ca st) (hR : RH D B ca M H) {v : Nat} (hv : gR M 12 x 3 = some v) (hd : decode cc pc = .ok (.getfield 25, 3)) (kk : W p l e R s m args below meth c H locs cells slots Q (F0 m (pc + 3) ls (.ref (B + v) :: rest))) : W p l e R s m args below meth c H locs cells slots Q (F0 m pc ls (.ref (B + x) :: rest)) :=
  rg_R C hR (j := 3) (ci := 2) (N := 10) (T := TX2) rfl inA2 (by decide) rfl (Or.inr ⟨_, lk162⟩) hv hd kk
theorem gf163 (C : Cx p s m args meth c RX2 cc nL ret D B ca st) (hR : RH D B ca M H) {v : Nat} (hv : gR M 12 x 4 = some v) (hd : decode cc pc = .ok (.getfield 25, 3)) (kk : W p l e R s m args below meth c H locs cells slots Q (F0 m (pc + 3) ls (.ref (B + v) :: rest))) : W p l e R s m args below meth c H locs cells slots Q (F0 m pc ls (.ref (B + x) :: rest)) :=
  rg_R C hR (j := 4) (ci := 2) (N := 10) (T := TX2) rfl inA2 (by decide) rfl (Or.inl lk163) hv hd kk
theorem gf164 (C : Cx p s m args meth c RX7 cc nL ret D B ca st) (hR : RH D B ca M H) {v : Nat} (hv : gR M 12 x 4 = some v) (hd : decode cc pc = .ok (.getfield 327, 3)) (kk : W p l e R s m args below meth c H locs cells slots Q (F0 m (pc + 3) ls (.ref (B + v) :: rest))) : W p l e R s m args below meth c H locs cells slots Q (F0 m pc ls (.ref (B + x) :: rest)) :=
  rg_R C hR (j := 4) (ci := 2) (N := 10) (T := TX2) rfl inA2 (by decide) rfl (Or.inr ⟨_, lk164⟩) hv hd kk
theorem gf165 (C : Cx p s m args meth c RX2 cc nL ret D B ca st) (hR : RH D B ca M H) {v : Nat} (hv : gR M 12 x 5 = some v) (hd : decode cc pc = .ok (.getfield 28, 3)) (kk : W p l e R s m args below meth c H locs cells slots Q (F0 m (pc + 3) ls (.ref (B + v) :: rest))) : W p l e R s m args below meth c H locs cells slots Q (F0 m pc ls (.ref (B + x) :: rest)) :=
  rg_R C hR (j := 5) (ci := 2) (N := 10) (T := TX2) rfl inA2 (by decide) rfl (Or.inl lk165) hv hd kk
theorem gf166 (C : Cx p s m args meth c RX3 cc nL ret D B ca st) (hR : RH D B ca M H) {v : Nat} (hv : gR M 12 x 5 = some v) (hd : decode cc pc = .ok (.getfield 66, 3)) (kk : W p l e R s m args below meth c H locs cells slots Q (F0 m (pc + 3) ls (.ref (B + v) :: rest))) : W p l e R s m args below meth c H locs cells slots Q (F0 m pc ls (.ref (B + x) :: rest)) :=
  rg_R C hR (j := 5) (ci := 2) (N := 10) (T := TX2) rfl inA2 (by decide) rfl (Or.inr ⟨_, lk166⟩) hv hd kk
theorem gf167 (C : Cx p s m args meth c RX7 cc nL ret D B ca st) (hR : RH D B ca M H) {v : Nat} (hv : gR M 12 x 5 = some v) (hd : decode cc pc = .ok (.getfield 198, 3)) (kk : W p l e R s m args below meth c H locs cells slots Q (F0 m (pc + 3) ls (.ref (B + v) :: rest))) : W p l e R s m args below meth c H locs cells slots Q (F0 m pc ls (.ref (B + x) :: rest)) :=
  rg_R C hR (j := 5) (ci := 2) (N := 10) (T := TX2) rfl inA2 (by decide) rfl (Or.inr ⟨_, lk167⟩) hv hd kk
theorem gf168 (C : Cx p s m args meth c RX2 cc nL ret D B ca st) (hR : RH D B ca M H) {v : Nat} (hv : gR M 12 x 6 = some v) (hd : decode cc pc = .ok (.getfield 31, 3)) (kk : W p l e R s m args below meth c H locs cells slots Q (F0 m (pc + 3) ls (.ref (B + v) :: rest))) : W p l e R s m args below meth c H locs cells slots Q (F0 m pc ls (.ref (B + x) :: rest)) :=
  rg_R C hR (j := 6) (ci := 2) (N := 10) (T := TX2) rfl inA2 (by decide) rfl (Or.inl lk168) hv hd kk
theorem gf169 (C : Cx p s m args meth c RX7 cc nL ret D B ca st) (hR : RH D B ca M H) {v : Nat} (hv : gR M 12 x 6 = some v) (hd : decode cc pc = .ok (.getfield 333, 3)) (kk : W p l e R s m args below meth c H locs cells slots Q (F0 m (pc + 3) ls (.ref (B + v) :: rest))) : W p l e R s m args below meth c H locs cells slots Q (F0 m pc ls (.ref (B + x) :: rest)) :=
  rg_R C hR (j := 6) (ci := 2) (N := 10) (T := TX2) rfl inA2 (by decide) rfl (Or.inr ⟨_, lk169⟩) hv hd kk
theorem gf170 (C : Cx p s m args meth c RX2 cc nL ret D B ca st) (hR : RH D B ca M H) {v : Nat} (hv : gR M 12 x 7 = some v) (hd : decode cc pc = .ok (.getfield 34, 3)) (kk : W p l e R s m args below meth c H locs cells slots Q (F0 m (pc + 3) ls (.ref (B + v) :: rest))) : W p l e R s m args below meth c H locs cells slots Q (F0 m pc ls (.ref (B + x) :: rest)) :=
  rg_R C hR (j := 7) (ci := 2) (N := 10) (T := TX2) rfl inA2 (by decide) rfl (Or.inl lk170) hv hd kk
theorem gf171 (C : Cx p s m args meth c RX7 cc nL ret D B ca st) (hR : RH D B ca M H) {v : Nat} (hv : gR M 12 x 7 = some v) (hd : decode cc pc = .ok (.getfield 336, 3)) (kk : W p l e R s m args below meth c H locs cells slots Q (F0 m (pc + 3) ls (.ref (B + v) :: rest))) : W p l e R s m args below meth c H locs cells slots Q (F0 m pc ls (.ref (B + x) :: rest)) :=
  rg_R C hR (j := 7) (ci := 2) (N := 10) (T := TX2) rfl inA2 (by decide) rfl (Or.inr ⟨_, lk171⟩) hv hd kk
theorem gf172 (C : Cx p s m args meth c RX2 cc nL ret D B ca st) (hR : RH D B ca M H) {v : Nat} (hv : gR M 12 x 8 = some v) (hd : decode cc pc = .ok (.getfield 37, 3)) (kk : W p l e R s m args below meth c H locs cells slots Q (F0 m (pc + 3) ls (.ref (B + v) :: rest))) : W p l e R s m args below meth c H locs cells slots Q (F0 m pc ls (.ref (B + x) :: rest)) :=
  rg_R C hR (j := 8) (ci := 2) (N := 10) (T := TX2) rfl inA2 (by decide) rfl (Or.inl lk172) hv hd kk
theorem gf173 (C : Cx p s m args meth c RX2 cc nL ret D B ca st) (hR : RH D B ca M H) {v : Nat} (hv : gR M 12 x 9 = some v) (hd : decode cc pc = .ok (.getfield 40, 3)) (kk : W p l e R s m args below meth c H locs cells slots Q (F0 m (pc + 3) ls (.ref (B + v) :: rest))) : W p l e R s m args below meth c H locs cells slots Q (F0 m pc ls (.ref (B + x) :: rest)) :=
  rg_R C hR (j := 9) (ci := 2) (N := 10) (T := TX2) rfl inA2 (by decide) rfl (Or.inl lk173) hv hd kk
theorem gf202 (C : Cx p s m args meth c RX6 cc nL ret D B ca st) (hR : RH D B ca M H) {v : Nat} (hv : gR M 16 x 0 = some v) (hd : decode cc pc = .ok (.getfield 9, 3)) (kk : W p l e R s m args below meth c H locs cells slots Q (F0 m (pc + 3) ls (.ref (B + v) :: rest))) : W p l e R s m args below meth c H locs cells slots Q (F0 m pc ls (.ref (B + x) :: rest)) :=
  rg_R C hR (j := 0) (ci := 6) (N := 4) (T := TX6) rfl inA6 (by decide) rfl (Or.inl lk202) hv hd kk
theorem gf203 (C : Cx p s m args meth c RX1 cc nL ret D B ca st) (hR : RH D B ca M H) {v : Nat} (hv : gR M 16 x 0 = some v) (hd : decode cc pc = .ok (.getfield 39, 3)) (kk : W p l e R s m args below meth c H locs cells slots Q (F0 m (pc + 3) ls (.ref (B + v) :: rest))) : W p l e R s m args below meth c H locs cells slots Q (F0 m pc ls (.ref (B + x) :: rest)) :=
  rg_R C hR (j := 0) (ci := 6) (N := 4) (T := TX6) rfl inA6 (by decide) rfl (Or.inr ⟨_, lk203⟩) hv hd kk
theorem gf204 (C : Cx p s m args meth c RX3 cc nL ret D B ca st) (hR : RH D B ca M H) {v : Nat} (hv : gR M 16 x 0 = some v) (hd : decode cc pc = .ok (.getfield 43, 3)) (kk : W p l e R s m args below meth c H locs cells slots Q (F0 m (pc + 3) ls (.ref (B + v) :: rest))) : W p l e R s m args below meth c H locs cells slots Q (F0 m pc ls (.ref (B + x) :: rest)) :=
  rg_R C hR (j := 0) (ci := 6) (N := 4) (T := TX6) rfl inA6 (by decide) rfl (Or.inr ⟨_, lk204⟩) hv hd kk
theorem gf205 (C : Cx p s m args meth c RX7 cc nL ret D B ca st) (hR : RH D B ca M H) {v : Nat} (hv : gR M 16 x 0 = some v) (hd : decode cc pc = .ok (.getfield 201, 3)) (kk : W p l e R s m args below meth c H locs cells slots Q (F0 m (pc + 3) ls (.ref (B + v) :: rest))) : W p l e R s m args below meth c H locs cells slots Q (F0 m pc ls (.ref (B + x) :: rest)) :=
  rg_R C hR (j := 0) (ci := 6) (N := 4) (T := TX6) rfl inA6 (by decide) rfl (Or.inr ⟨_, lk205⟩) hv hd kk
theorem gf206 (C : Cx p s m args meth c RX6 cc nL ret D B ca st) (hR : RH D B ca M H) {v : Nat} (hv : gR M 16 x 1 = some v) (hd : decode cc pc = .ok (.getfield 15, 3)) (kk : W p l e R s m args below meth c H locs cells slots Q (F0 m (pc + 3) ls (.ref (B + v) :: rest))) : W p l e R s m args below meth c H locs cells slots Q (F0 m pc ls (.ref (B + x) :: rest)) :=
  rg_R C hR (j := 1) (ci := 6) (N := 4) (T := TX6) rfl inA6 (by decide) rfl (Or.inl lk206) hv hd kk
theorem gf207 (C : Cx p s m args meth c RX3 cc nL ret D B ca st) (hR : RH D B ca M H) {v : Nat} (hv : gR M 16 x 1 = some v) (hd : decode cc pc = .ok (.getfield 38, 3)) (kk : W p l e R s m args below meth c H locs cells slots Q (F0 m (pc + 3) ls (.ref (B + v) :: rest))) : W p l e R s m args below meth c H locs cells slots Q (F0 m pc ls (.ref (B + x) :: rest)) :=
  rg_R C hR (j := 1) (ci := 6) (N := 4) (T := TX6) rfl inA6 (by decide) rfl (Or.inr ⟨_, lk207⟩) hv hd kk
theorem gf208 (C : Cx p s m args meth c RX7 cc nL ret D B ca st) (hR : RH D B ca M H) {v : Nat} (hv : gR M 16 x 1 = some v) (hd : decode cc pc = .ok (.getfield 177, 3)) (kk : W p l e R s m args below meth c H locs cells slots Q (F0 m (pc + 3) ls (.ref (B + v) :: rest))) : W p l e R s m args below meth c H locs cells slots Q (F0 m pc ls (.ref (B + x) :: rest)) :=
  rg_R C hR (j := 1) (ci := 6) (N := 4) (T := TX6) rfl inA6 (by decide) rfl (Or.inr ⟨_, lk208⟩) hv hd kk
theorem gf209 (C : Cx p s m args meth c RX6 cc nL ret D B ca st) (hR : RH D B ca M H) {v : Int32} (hv : gI M 16 x 2 = some v) (hd : decode cc pc = .ok (.getfield 18, 3)) (kk : W p l e R s m args below meth c H locs cells slots Q (F0 m (pc + 3) ls (.int v :: rest))) : W p l e R s m args below meth c H locs cells slots Q (F0 m pc ls (.ref (B + x) :: rest)) :=
  rg_I C hR (j := 2) (ci := 6) (N := 4) (T := TX6) rfl inA6 (by decide) rfl (Or.inl lk209) hv hd kk
theorem pf209 (C : Cx p s m args meth c RX6 cc nL ret D B ca st) (hR : RH D B ca M H) (hS : va_S (AA B) s.heap H locs) {v : Int32} (hv : pI M 16 x 2 v = some M') (hd : decode cc pc = .ok (.putfield 18, 3)) (kk : ∀ (H : Heap) (locs : List Loc), RH D B ca M' H → va_S (AA B) s.heap H locs → W p l e R s m args below meth c H locs cells slots Q (F0 m (pc + 3) ls (rest))) : W p l e R s m args below meth c H locs cells slots Q (F0 m pc ls (.int v :: .ref (B + x) :: rest)) :=
  rp_I C hR hS (j := 2) (ci := 6) (N := 4) (T := TX6) rfl inA6 tyX6 tyX6_ok nmX6 (by decide) (Or.inl lk209) (Or.inl rfl) ⟨rfl, rfl⟩ rfl hv hd kk
theorem gf210 (C : Cx p s m args meth c RX1 cc nL ret D B ca st) (hR : RH D B ca M H) {v : Int32} (hv : gI M 16 x 2 = some v) (hd : decode cc pc = .ok (.getfield 36, 3)) (kk : W p l e R s m args below meth c H locs cells slots Q (F0 m (pc + 3) ls (.int v :: rest))) : W p l e R s m args below meth c H locs cells slots Q (F0 m pc ls (.ref (B + x) :: rest)) :=
  rg_I C hR (j := 2) (ci := 6) (N := 4) (T := TX6) rfl inA6 (by decide) rfl (Or.inr ⟨_, lk210⟩) hv hd kk
theorem gf211 (C : Cx p s m args meth c RX3 cc nL ret D B ca st) (hR : RH D B ca M H) {v : Int32} (hv : gI M 16 x 2 = some v) (hd : decode cc pc = .ok (.getfield 46, 3)) (kk : W p l e R s m args below meth c H locs cells slots Q (F0 m (pc + 3) ls (.int v :: rest))) : W p l e R s m args below meth c H locs cells slots Q (F0 m pc ls (.ref (B + x) :: rest)) :=
  rg_I C hR (j := 2) (ci := 6) (N := 4) (T := TX6) rfl inA6 (by decide) rfl (Or.inr ⟨_, lk211⟩) hv hd kk
theorem gf212 (C : Cx p s m args meth c RX7 cc nL ret D B ca st) (hR : RH D B ca M H) {v : Int32} (hv : gI M 16 x 2 = some v) (hd : decode cc pc = .ok (.getfield 228, 3)) (kk : W p l e R s m args below meth c H locs cells slots Q (F0 m (pc + 3) ls (.int v :: rest))) : W p l e R s m args below meth c H locs cells slots Q (F0 m pc ls (.ref (B + x) :: rest)) :=
  rg_I C hR (j := 2) (ci := 6) (N := 4) (T := TX6) rfl inA6 (by decide) rfl (Or.inr ⟨_, lk212⟩) hv hd kk
theorem pf212 (C : Cx p s m args meth c RX7 cc nL ret D B ca st) (hR : RH D B ca M H) (hS : va_S (AA B) s.heap H locs) {v : Int32} (hv : pI M 16 x 2 v = some M') (hd : decode cc pc = .ok (.putfield 228, 3)) (kk : ∀ (H : Heap) (locs : List Loc), RH D B ca M' H → va_S (AA B) s.heap H locs → W p l e R s m args below meth c H locs cells slots Q (F0 m (pc + 3) ls (rest))) : W p l e R s m args below meth c H locs cells slots Q (F0 m pc ls (.int v :: .ref (B + x) :: rest)) :=
  rp_I C hR hS (j := 2) (ci := 6) (N := 4) (T := TX6) rfl inA6 tyX6 tyX6_ok nmX6 (by decide) (Or.inr ⟨_, lk212⟩) (Or.inl rfl) ⟨rfl, rfl⟩ rfl hv hd kk
theorem gf213 (C : Cx p s m args meth c RX6 cc nL ret D B ca st) (hR : RH D B ca M H) {v : Int32} (hv : gI M 16 x 3 = some v) (hd : decode cc pc = .ok (.getfield 22, 3)) (kk : W p l e R s m args below meth c H locs cells slots Q (F0 m (pc + 3) ls (.int v :: rest))) : W p l e R s m args below meth c H locs cells slots Q (F0 m pc ls (.ref (B + x) :: rest)) :=
  rg_I C hR (j := 3) (ci := 6) (N := 4) (T := TX6) rfl inA6 (by decide) rfl (Or.inl lk213) hv hd kk
theorem pf213 (C : Cx p s m args meth c RX6 cc nL ret D B ca st) (hR : RH D B ca M H) (hS : va_S (AA B) s.heap H locs) {v : Int32} (hv : pI M 16 x 3 v = some M') (hd : decode cc pc = .ok (.putfield 22, 3)) (kk : ∀ (H : Heap) (locs : List Loc), RH D B ca M' H → va_S (AA B) s.heap H locs → W p l e R s m args below meth c H locs cells slots Q (F0 m (pc + 3) ls (rest))) : W p l e R s m args below meth c H locs cells slots Q (F0 m pc ls (.int v :: .ref (B + x) :: rest)) :=
  rp_I C hR hS (j := 3) (ci := 6) (N := 4) (T := TX6) rfl inA6 tyX6 tyX6_ok nmX6 (by decide) (Or.inl lk213) (Or.inl rfl) ⟨rfl, rfl⟩ rfl hv hd kk
theorem gf214 (C : Cx p s m args meth c RX7 cc nL ret D B ca st) (hR : RH D B ca M H) {v : Int32} (hv : gI M 16 x 3 = some v) (hd : decode cc pc = .ok (.getfield 204, 3)) (kk : W p l e R s m args below meth c H locs cells slots Q (F0 m (pc + 3) ls (.int v :: rest))) : W p l e R s m args below meth c H locs cells slots Q (F0 m pc ls (.ref (B + x) :: rest)) :=
  rg_I C hR (j := 3) (ci := 6) (N := 4) (T := TX6) rfl inA6 (by decide) rfl (Or.inr ⟨_, lk214⟩) hv hd kk
theorem pf214 (C : Cx p s m args meth c RX7 cc nL ret D B ca st) (hR : RH D B ca M H) (hS : va_S (AA B) s.heap H locs) {v : Int32} (hv : pI M 16 x 3 v = some M') (hd : decode cc pc = .ok (.putfield 204, 3)) (kk : ∀ (H : Heap) (locs : List Loc), RH D B ca M' H → va_S (AA B) s.heap H locs → W p l e R s m args below meth c H locs cells slots Q (F0 m (pc + 3) ls (rest))) : W p l e R s m args below meth c H locs cells slots Q (F0 m pc ls (.int v :: .ref (B + x) :: rest)) :=
  rp_I C hR hS (j := 3) (ci := 6) (N := 4) (T := TX6) rfl inA6 tyX6 tyX6_ok nmX6 (by decide) (Or.inr ⟨_, lk214⟩) (Or.inl rfl) ⟨rfl, rfl⟩ rfl hv hd kk
theorem gf230 (C : Cx p s m args meth c RX0 cc nL ret D B ca st) (hR : RH D B ca M H) {v : Nat} (hv : gR M 10 x 0 = some v) (hd : decode cc pc = .ok (.getfield 9, 3)) (kk : W p l e R s m args below meth c H locs cells slots Q (F0 m (pc + 3) ls (.ref (B + v) :: rest))) : W p l e R s m args below meth c H locs cells slots Q (F0 m pc ls (.ref (B + x) :: rest)) :=
  rg_R C hR (j := 0) (ci := 0) (N := 2) (T := TX0) rfl inA0 (by decide) rfl (Or.inl lk230) hv hd kk
theorem gf231 (C : Cx p s m args meth c RX7 cc nL ret D B ca st) (hR : RH D B ca M H) {v : Nat} (hv : gR M 10 x 0 = some v) (hd : decode cc pc = .ok (.getfield 372, 3)) (kk : W p l e R s m args below meth c H locs cells slots Q (F0 m (pc + 3) ls (.ref (B + v) :: rest))) : W p l e R s m args below meth c H locs cells slots Q (F0 m pc ls (.ref (B + x) :: rest)) :=
  rg_R C hR (j := 0) (ci := 0) (N := 2) (T := TX0) rfl inA0 (by decide) rfl (Or.inr ⟨_, lk231⟩) hv hd kk
theorem gf232 (C : Cx p s m args meth c RX0 cc nL ret D B ca st) (hR : RH D B ca M H) {v : Int32} (hv : gI M 10 x 1 = some v) (hd : decode cc pc = .ok (.getfield 15, 3)) (kk : W p l e R s m args below meth c H locs cells slots Q (F0 m (pc + 3) ls (.int v :: rest))) : W p l e R s m args below meth c H locs cells slots Q (F0 m pc ls (.ref (B + x) :: rest)) :=
  rg_I C hR (j := 1) (ci := 0) (N := 2) (T := TX0) rfl inA0 (by decide) rfl (Or.inl lk232) hv hd kk
theorem pf232 (C : Cx p s m args meth c RX0 cc nL ret D B ca st) (hR : RH D B ca M H) (hS : va_S (AA B) s.heap H locs) {v : Int32} (hv : pI M 10 x 1 v = some M') (hd : decode cc pc = .ok (.putfield 15, 3)) (kk : ∀ (H : Heap) (locs : List Loc), RH D B ca M' H → va_S (AA B) s.heap H locs → W p l e R s m args below meth c H locs cells slots Q (F0 m (pc + 3) ls (rest))) : W p l e R s m args below meth c H locs cells slots Q (F0 m pc ls (.int v :: .ref (B + x) :: rest)) :=
  rp_I C hR hS (j := 1) (ci := 0) (N := 2) (T := TX0) rfl inA0 tyX0 tyX0_ok nmX0 (by decide) (Or.inl lk232) (Or.inl rfl) ⟨rfl, rfl⟩ rfl hv hd kk
theorem gf233 (C : Cx p s m args meth c RX7 cc nL ret D B ca st) (hR : RH D B ca M H) {v : Int32} (hv : gI M 10 x 1 = some v) (hd : decode cc pc = .ok (.getfield 86, 3)) (kk : W p l e R s m args below meth c H locs cells slots Q (F0 m (pc + 3) ls (.int v :: rest))) : W p l e R s m args below meth c H locs cells slots Q (F0 m pc ls (.ref (B + x) :: rest)) :=
  rg_I C hR (j := 1) (ci := 0) (N := 2) (T := TX0) rfl inA0 (by decide) rfl (Or.inr ⟨_, lk233⟩) hv hd kk
theorem pf233 (C : Cx p s m args meth c RX7 cc nL ret D B ca st) (hR : RH D B ca M H) (hS : va_S (AA B) s.heap H locs) {v : Int32} (hv : pI M 10 x 1 v = some M') (hd : decode cc pc = .ok (.putfield 86, 3)) (kk : ∀ (H : Heap) (locs : List Loc), RH D B ca M' H → va_S (AA B) s.heap H locs → W p l e R s m args below meth c H locs cells slots Q (F0 m (pc + 3) ls (rest))) : W p l e R s m args below meth c H locs cells slots Q (F0 m pc ls (.int v :: .ref (B + x) :: rest)) :=
  rp_I C hR hS (j := 1) (ci := 0) (N := 2) (T := TX0) rfl inA0 tyX0 tyX0_ok nmX0 (by decide) (Or.inr ⟨_, lk233⟩) (Or.inl rfl) ⟨rfl, rfl⟩ rfl hv hd kk
theorem gf246 (C : Cx p s m args meth c RX1 cc nL ret D B ca st) (hR : RH D B ca M H) {v : Nat} (hv : gR M 11 x 0 = some v) (hd : decode cc pc = .ok (.getfield 9, 3)) (kk : W p l e R s m args below meth c H locs cells slots Q (F0 m (pc + 3) ls (.ref (B + v) :: rest))) : W p l e R s m args below meth c H locs cells slots Q (F0 m pc ls (.ref (B + x) :: rest)) :=
  rg_R C hR (j := 0) (ci := 1) (N := 7) (T := TX1) rfl inA1 (by decide) rfl (Or.inl lk246) hv hd kk
theorem gf247 (C : Cx p s m args meth c RX7 cc nL ret D B ca st) (hR : RH D B ca M H) {v : Nat} (hv : gR M 11 x 0 = some v) (hd : decode cc pc = .ok (.getfield 378, 3)) (kk : W p l e R s m args below meth c H locs cells slots Q (F0 m (pc + 3) ls (.ref (B + v) :: rest))) : W p l e R s m args below meth c H locs cells slots Q (F0 m pc ls (.ref (B + x) :: rest)) :=
  rg_R C hR (j := 0) (ci := 1) (N := 7) (T := TX1) rfl inA1 (by decide) rfl (Or.inr ⟨_, lk247⟩) hv hd kk
theorem gf248 (C : Cx p s m args meth c RX1 cc nL ret D B ca st) (hR : RH D B ca M H) {v : Nat} (hv : gR M 11 x 1 = some v) (hd : decode cc pc = .ok (.getfield 15, 3)) (kk : W p l e R s m args below meth c H locs cells slots Q (F0 m (pc + 3) ls (.ref (B + v) :: rest))) : W p l e R s m args below meth c H locs cells slots Q (F0 m pc ls (.ref (B + x) :: rest)) :=
  rg_R C hR (j := 1) (ci := 1) (N := 7) (T := TX1) rfl inA1 (by decide) rfl (Or.inl lk248) hv hd kk
theorem gf249 (C : Cx p s m args meth c RX1 cc nL ret D B ca st) (hR : RH D B ca M H) {v : Nat} (hv : gR M 11 x 2 = some v) (hd : decode cc pc = .ok (.getfield 18, 3)) (kk : W p l e R s m args below meth c H locs cells slots Q (F0 m (pc + 3) ls (.ref (B + v) :: rest))) : W p l e R s m args below meth c H locs cells slots Q (F0 m pc ls (.ref (B + x) :: rest)) :=
  rg_R C hR (j := 2) (ci := 1) (N := 7) (T := TX1) rfl inA1 (by decide) rfl (Or.inl lk249) hv hd kk
theorem gf250 (C : Cx p s m args meth c RX1 cc nL ret D B ca st) (hR : RH D B ca M H) {v : Nat} (hv : gR M 11 x 3 = some v) (hd : decode cc pc = .ok (.getfield 21, 3)) (kk : W p l e R s m args below meth c H locs cells slots Q (F0 m (pc + 3) ls (.ref (B + v) :: rest))) : W p l e R s m args below meth c H locs cells slots Q (F0 m pc ls (.ref (B + x) :: rest)) :=
  rg_R C hR (j := 3) (ci := 1) (N := 7) (T := TX1) rfl inA1 (by decide) rfl (Or.inl lk250) hv hd kk
theorem pf250 (C : Cx p s m args meth c RX1 cc nL ret D B ca st) (hR : RH D B ca M H) (hS : va_S (AA B) s.heap H locs) {v : Nat} (hv : pN M 11 x 3 v = some M') (hd : decode cc pc = .ok (.putfield 21, 3)) (kk : ∀ (H : Heap) (locs : List Loc), RH D B ca M' H → va_S (AA B) s.heap H locs → W p l e R s m args below meth c H locs cells slots Q (F0 m (pc + 3) ls (rest))) : W p l e R s m args below meth c H locs cells slots Q (F0 m pc ls (.ref (B + v) :: .ref (B + x) :: rest)) := by
  obtain ⟨h0, hv⟩ := pN_spec hv
  exact rp_R C hR hS (j := 3) (ci := 1) (N := 7) (T := TX1) rfl inA1 tyX1 tyX1_ok nmX1 (by decide) (Or.inl lk250) (Or.inl rfl) (rO_ne h0) ⟨rfl, rfl⟩ rfl hv hd kk
theorem gf251 (C : Cx p s m args meth c RX1 cc nL ret D B ca st) (hR : RH D B ca M H) {v : Int32} (hv : gI M 11 x 4 = some v) (hd : decode cc pc = .ok (.getfield 25, 3)) (kk : W p l e R s m args below meth c H locs cells slots Q (F0 m (pc + 3) ls (.int v :: rest))) : W p l e R s m args below meth c H locs cells slots Q (F0 m pc ls (.ref (B + x) :: rest)) :=
  rg_I C hR (j := 4) (ci := 1) (N := 7) (T := TX1) rfl inA1 (by decide) rfl (Or.inl lk251) hv hd kk
theorem pf251 (C : Cx p s m args meth c RX1 cc nL ret D B ca st) (hR : RH D B ca M H) (hS : va_S (AA B) s.heap H locs) {v : Int32} (hv : pI M 11 x 4 v = some M') (hd : decode cc pc = .ok (.putfield 25, 3)) (kk : ∀ (H : Heap) (locs : List Loc), RH D B ca M' H → va_S (AA B) s.heap H locs → W p l e R s m args below meth c H locs cells slots Q (F0 m (pc + 3) ls (rest))) : W p l e R s m args below meth c H locs cells slots Q (F0 m pc ls (.int v :: .ref (B + x) :: rest)) :=
  rp_I C hR hS (j := 4) (ci := 1) (N := 7) (T := TX1) rfl inA1 tyX1 tyX1_ok nmX1 (by decide) (Or.inl lk251) (Or.inl rfl) ⟨rfl, rfl⟩ rfl hv hd kk
theorem gf252 (C : Cx p s m args meth c RX1 cc nL ret D B ca st) (hR : RH D B ca M H) {v : Int32} (hv : gI M 11 x 5 = some v) (hd : decode cc pc = .ok (.getfield 29, 3)) (kk : W p l e R s m args below meth c H locs cells slots Q (F0 m (pc + 3) ls (.int v :: rest))) : W p l e R s m args below meth c H locs cells slots Q (F0 m pc ls (.ref (B + x) :: rest)) :=
  rg_I C hR (j := 5) (ci := 1) (N := 7) (T := TX1) rfl inA1 (by decide) rfl (Or.inl lk252) hv hd kk
theorem pf252 (C : Cx p s m args meth c RX1 cc nL ret D B ca st) (hR : RH D B ca M H) (hS : va_S (AA B) s.heap H locs) {v b : Int32} (hz : bz v = some b) (hv : pI M 11 x 5 v = some M') (hd : decode cc pc = .ok (.putfield 29, 3)) (kk : ∀ (H : Heap) (locs : List Loc), RH D B ca M' H → va_S (AA B) s.heap H locs → W p l e R s m args below meth c H locs cells slots Q (F0 m (pc + 3) ls (rest))) : W p l e R s m args below meth c H locs cells slots Q (F0 m pc ls (.int v :: .ref (B + x) :: rest)) :=
  rp_I C hR hS (j := 5) (ci := 1) (N := 7) (T := TX1) rfl inA1 tyX1 tyX1_ok nmX1 (by decide) (Or.inl lk252) (Or.inl rfl) (bz_nf hz) rfl hv hd kk
theorem gf253 (C : Cx p s m args meth c RX1 cc nL ret D B ca st) (hR : RH D B ca M H) {v : Int32} (hv : gI M 11 x 6 = some v) (hd : decode cc pc = .ok (.getfield 33, 3)) (kk : W p l e R s m args below meth c H locs cells slots Q (F0 m (pc + 3) ls (.int v :: rest))) : W p l e R s m args below meth c H locs cells slots Q (F0 m pc ls (.ref (B + x) :: rest)) :=
  rg_I C hR (j := 6) (ci := 1) (N := 7) (T := TX1) rfl inA1 (by decide) rfl (Or.inl lk253) hv hd kk
theorem pf253 (C : Cx p s m args meth c RX1 cc nL ret D B ca st) (hR : RH D B ca M H) (hS : va_S (AA B) s.heap H locs) {v : Int32} (hv : pI M 11 x 6 v = some M') (hd : decode cc pc = .ok (.putfield 33, 3)) (kk : ∀ (H : Heap) (locs : List Loc), RH D B ca M' H → va_S (AA B) s.heap H locs → W p l e R s m args below meth c H locs cells slots Q (F0 m (pc + 3) ls (rest))) : W p l e R s m args below meth c H locs cells slots Q (F0 m pc ls (.int v :: .ref (B + x) :: rest)) :=
  rp_I C hR hS (j := 6) (ci := 1) (N := 7) (T := TX1) rfl inA1 tyX1 tyX1_ok nmX1 (by decide) (Or.inl lk253) (Or.inl rfl) ⟨rfl, rfl⟩ rfl hv hd kk
theorem gf275 (C : Cx p s m args meth c RX3 cc nL ret D B ca st) (hR : RH D B ca M H) {v : Nat} (hv : gR M 13 x 0 = some v) (hd : decode cc pc = .ok (.getfield 9, 3)) (kk : W p l e R s m args below meth c H locs cells slots Q (F0 m (pc + 3) ls (.ref (B + v) :: rest))) : W p l e R s m args below meth c H locs cells slots Q (F0 m pc ls (.ref (B + x) :: rest)) :=
  rg_R C hR (j := 0) (ci := 3) (N := 6) (T := TX3) rfl inA3 (by decide) rfl (Or.inl lk275) hv hd kk
theorem gf276 (C : Cx p s m args meth c RX3 cc nL ret D B ca st) (hR : RH D B ca M H) {v : Nat} (hv : gR M 13 x 1 = some v) (hd : decode cc pc = .ok (.getfield 15, 3)) (kk : W p l e R s m args below meth c H locs cells slots Q (F0 m (pc + 3) ls (.ref (B + v) :: rest))) : W p l e R s m args below meth c H locs cells slots Q (F0 m pc ls (.ref (B + x) :: rest)) :=
  rg_R C hR (j := 1) (ci := 3) (N := 6) (T := TX3) rfl inA3 (by decide) rfl (Or.inl lk276) hv hd kk
theorem gf277 (C : Cx p s m args meth c RX7 cc nL ret D B ca st) (hR : RH D B ca M H) {v : Nat} (hv : gR M 13 x 1 = some v) (hd : decode cc pc = .ok (.getfield 252, 3)) (kk : W p l e R s m args below meth c H locs cells slots Q (F0 m (pc + 3) ls (.ref (B + v) :: rest))) : W p l e R s m args below meth c H locs cells slots Q (F0 m pc ls (.ref (B + x) :: rest)) :=
  rg_R C hR (j := 1) (ci := 3) (N := 6) (T := TX3) rfl inA3 (by decide) rfl (Or.inr ⟨_, lk277⟩) hv hd kk
theorem pf278 (C : Cx p s m args meth c RX3 cc nL ret D B ca st) (hR : RH D B ca M H) (hS : va_S (AA B) s.heap H locs) {v : Int32} (hv : pI M 13 x 2 v = some M') (hd : decode cc pc = .ok (.putfield 18, 3)) (kk : ∀ (H : Heap) (locs : List Loc), RH D B ca M' H → va_S (AA B) s.heap H locs → W p l e R s m args below meth c H locs cells slots Q (F0 m (pc + 3) ls (rest))) : W p l e R s m args below meth c H locs cells slots Q (F0 m pc ls (.int v :: .ref (B + x) :: rest)) :=
  rp_I C hR hS (j := 2) (ci := 3) (N := 6) (T := TX3) rfl inA3 tyX3 tyX3_ok nmX3 (by decide) (Or.inl lk278) (Or.inl rfl) ⟨rfl, rfl⟩ rfl hv hd kk
theorem gf279 (C : Cx p s m args meth c RX7 cc nL ret D B ca st) (hR : RH D B ca M H) {v : Int32} (hv : gI M 13 x 2 = some v) (hd : decode cc pc = .ok (.getfield 249, 3)) (kk : W p l e R s m args below meth c H locs cells slots Q (F0 m (pc + 3) ls (.int v :: rest))) : W p l e R s m args below meth c H locs cells slots Q (F0 m pc ls (.ref (B + x) :: rest)) :=
  rg_I C hR (j := 2) (ci := 3) (N := 6) (T := TX3) rfl inA3 (by decide) rfl (Or.inr ⟨_, lk279⟩) hv hd kk
theorem gf280 (C : Cx p s m args meth c RX3 cc nL ret D B ca st) (hR : RH D B ca M H) {v : Int32} (hv : gI M 13 x 3 = some v) (hd : decode cc pc = .ok (.getfield 22, 3)) (kk : W p l e R s m args below meth c H locs cells slots Q (F0 m (pc + 3) ls (.int v :: rest))) : W p l e R s m args below meth c H locs cells slots Q (F0 m pc ls (.ref (B + x) :: rest)) :=
  rg_I C hR (j := 3) (ci := 3) (N := 6) (T := TX3) rfl inA3 (by decide) rfl (Or.inl lk280) hv hd kk
theorem pf280 (C : Cx p s m args meth c RX3 cc nL ret D B ca st) (hR : RH D B ca M H) (hS : va_S (AA B) s.heap H locs) {v : Int32} (hv : pI M 13 x 3 v = some M') (hd : decode cc pc = .ok (.putfield 22, 3)) (kk : ∀ (H : Heap) (locs : List Loc), RH D B ca M' H → va_S (AA B) s.heap H locs → W p l e R s m args below meth c H locs cells slots Q (F0 m (pc + 3) ls (rest))) : W p l e R s m args below meth c H locs cells slots Q (F0 m pc ls (.int v :: .ref (B + x) :: rest)) :=
  rp_I C hR hS (j := 3) (ci := 3) (N := 6) (T := TX3) rfl inA3 tyX3 tyX3_ok nmX3 (by decide) (Or.inl lk280) (Or.inl rfl) ⟨rfl, rfl⟩ rfl hv hd kk
theorem gf281 (C : Cx p s m args meth c RX3 cc nL ret D B ca st) (hR : RH D B ca M H) {v : Nat} (hv : gR M 13 x 4 = some v) (hd : decode cc pc = .ok (.getfield 25, 3)) (kk : W p l e R s m args below meth c H locs cells slots Q (F0 m (pc + 3) ls (.ref (B + v) :: rest))) : W p l e R s m args below meth c H locs cells slots Q (F0 m pc ls (.ref (B + x) :: rest)) :=
  rg_R C hR (j := 4) (ci := 3) (N := 6) (T := TX3) rfl inA3 (by decide) rfl (Or.inl lk281) hv hd kk
theorem pf281 (C : Cx p s m args meth c RX3 cc nL ret D B ca st) (hR : RH D B ca M H) (hS : va_S (AA B) s.heap H locs) {v : Nat} (hv : pN M 13 x 4 v = some M') (hd : decode cc pc = .ok (.putfield 25, 3)) (kk : ∀ (H : Heap) (locs : List Loc), RH D B ca M' H → va_S (AA B) s.heap H locs → W p l e R s m args below meth c H locs cells slots Q (F0 m (pc + 3) ls (rest))) : W p l e R s m args below meth c H locs cells slots Q (F0 m pc ls (.ref (B + v) :: .ref (B + x) :: rest)) := by
  obtain ⟨h0, hv⟩ := pN_spec hv
  exact rp_R C hR hS (j := 4) (ci := 3) (N := 6) (T := TX3) rfl inA3 tyX3 tyX3_ok nmX3 (by decide) (Or.inl lk281) (Or.inl rfl) (rO_ne h0) ⟨rfl, rfl⟩ rfl hv hd kk
theorem gf282 (C : Cx p s m args meth c RX3 cc nL ret D B ca st) (hR : RH D B ca M H) {v : Int32} (hv : gI M 13 x 5 = some v) (hd : decode cc pc = .ok (.getfield 29, 3)) (kk : W p l e R s m args below meth c H locs cells slots Q (F0 m (pc + 3) ls (.int v :: rest))) : W p l e R s m args below meth c H locs cells slots Q (F0 m pc ls (.ref (B + x) :: rest)) :=
  rg_I C hR (j := 5) (ci := 3) (N := 6) (T := TX3) rfl inA3 (by decide) rfl (Or.inl lk282) hv hd kk
theorem pf282 (C : Cx p s m args meth c RX3 cc nL ret D B ca st) (hR : RH D B ca M H) (hS : va_S (AA B) s.heap H locs) {v : Int32} (hv : pI M 13 x 5 v = some M') (hd : decode cc pc = .ok (.putfield 29, 3)) (kk : ∀ (H : Heap) (locs : List Loc), RH D B ca M' H → va_S (AA B) s.heap H locs → W p l e R s m args below meth c H locs cells slots Q (F0 m (pc + 3) ls (rest))) : W p l e R s m args below meth c H locs cells slots Q (F0 m pc ls (.int v :: .ref (B + x) :: rest)) :=
  rp_I C hR hS (j := 5) (ci := 3) (N := 6) (T := TX3) rfl inA3 tyX3 tyX3_ok nmX3 (by decide) (Or.inl lk282) (Or.inl rfl) ⟨rfl, rfl⟩ rfl hv hd kk
theorem gf301 (C : Cx p s m args meth c RX4 cc nL ret D B ca st) (hR : RH D B ca M H) {v : Nat} (hv : gR M 14 x 0 = some v) (hd : decode cc pc = .ok (.getfield 9, 3)) (kk : W p l e R s m args below meth c H locs cells slots Q (F0 m (pc + 3) ls (.ref (B + v) :: rest))) : W p l e R s m args below meth c H locs cells slots Q (F0 m pc ls (.ref (B + x) :: rest)) :=
  rg_R C hR (j := 0) (ci := 4) (N := 2) (T := TX4) rfl inA4 (by decide) rfl (Or.inl lk301) hv hd kk
theorem gf302 (C : Cx p s m args meth c RX7 cc nL ret D B ca st) (hR : RH D B ca M H) {v : Nat} (hv : gR M 14 x 0 = some v) (hd : decode cc pc = .ok (.getfield 109, 3)) (kk : W p l e R s m args below meth c H locs cells slots Q (F0 m (pc + 3) ls (.ref (B + v) :: rest))) : W p l e R s m args below meth c H locs cells slots Q (F0 m pc ls (.ref (B + x) :: rest)) :=
  rg_R C hR (j := 0) (ci := 4) (N := 2) (T := TX4) rfl inA4 (by decide) rfl (Or.inr ⟨_, lk302⟩) hv hd kk
theorem gf303 (C : Cx p s m args meth c RX4 cc nL ret D B ca st) (hR : RH D B ca M H) {v : Int32} (hv : gI M 14 x 1 = some v) (hd : decode cc pc = .ok (.getfield 15, 3)) (kk : W p l e R s m args below meth c H locs cells slots Q (F0 m (pc + 3) ls (.int v :: rest))) : W p l e R s m args below meth c H locs cells slots Q (F0 m pc ls (.ref (B + x) :: rest)) :=
  rg_I C hR (j := 1) (ci := 4) (N := 2) (T := TX4) rfl inA4 (by decide) rfl (Or.inl lk303) hv hd kk
theorem pf303 (C : Cx p s m args meth c RX4 cc nL ret D B ca st) (hR : RH D B ca M H) (hS : va_S (AA B) s.heap H locs) {v : Int32} (hv : pI M 14 x 1 v = some M') (hd : decode cc pc = .ok (.putfield 15, 3)) (kk : ∀ (H : Heap) (locs : List Loc), RH D B ca M' H → va_S (AA B) s.heap H locs → W p l e R s m args below meth c H locs cells slots Q (F0 m (pc + 3) ls (rest))) : W p l e R s m args below meth c H locs cells slots Q (F0 m pc ls (.int v :: .ref (B + x) :: rest)) :=
  rp_I C hR hS (j := 1) (ci := 4) (N := 2) (T := TX4) rfl inA4 tyX4 tyX4_ok nmX4 (by decide) (Or.inl lk303) (Or.inl rfl) ⟨rfl, rfl⟩ rfl hv hd kk
theorem gf304 (C : Cx p s m args meth c RX7 cc nL ret D B ca st) (hR : RH D B ca M H) {v : Int32} (hv : gI M 14 x 1 = some v) (hd : decode cc pc = .ok (.getfield 112, 3)) (kk : W p l e R s m args below meth c H locs cells slots Q (F0 m (pc + 3) ls (.int v :: rest))) : W p l e R s m args below meth c H locs cells slots Q (F0 m pc ls (.ref (B + x) :: rest)) :=
  rg_I C hR (j := 1) (ci := 4) (N := 2) (T := TX4) rfl inA4 (by decide) rfl (Or.inr ⟨_, lk304⟩) hv hd kk
theorem pf304 (C : Cx p s m args meth c RX7 cc nL ret D B ca st) (hR : RH D B ca M H) (hS : va_S (AA B) s.heap H locs) {v : Int32} (hv : pI M 14 x 1 v = some M') (hd : decode cc pc = .ok (.putfield 112, 3)) (kk : ∀ (H : Heap) (locs : List Loc), RH D B ca M' H → va_S (AA B) s.heap H locs → W p l e R s m args below meth c H locs cells slots Q (F0 m (pc + 3) ls (rest))) : W p l e R s m args below meth c H locs cells slots Q (F0 m pc ls (.int v :: .ref (B + x) :: rest)) :=
  rp_I C hR hS (j := 1) (ci := 4) (N := 2) (T := TX4) rfl inA4 tyX4 tyX4_ok nmX4 (by decide) (Or.inr ⟨_, lk304⟩) (Or.inl rfl) ⟨rfl, rfl⟩ rfl hv hd kk
theorem gf315 (C : Cx p s m args meth c RX5 cc nL ret D B ca st) (hR : RH D B ca M H) {v : Nat} (hv : gR M 15 x 0 = some v) (hd : decode cc pc = .ok (.getfield 9, 3)) (kk : W p l e R s m args below meth c H locs cells slots Q (F0 m (pc + 3) ls (.ref (B + v) :: rest))) : W p l e R s m args below meth c H locs cells slots Q (F0 m pc ls (.ref (B + x) :: rest)) :=
  rg_R C hR (j := 0) (ci := 5) (N := 2) (T := TX5) rfl inA5 (by decide) rfl (Or.inl lk315) hv hd kk
theorem gf316 (C : Cx p s m args meth c RX7 cc nL ret D B ca st) (hR : RH D B ca M H) {v : Nat} (hv : gR M 15 x 0 = some v) (hd : decode cc pc = .ok (.getfield 136, 3)) (kk : W p l e R s m args below meth c H locs cells slots Q (F0 m (pc + 3) ls (.ref (B + v) :: rest))) : W p l e R s m args below meth c H locs cells slots Q (F0 m pc ls (.ref (B + x) :: rest)) :=
  rg_R C hR (j := 0) (ci := 5) (N := 2) (T := TX5) rfl inA5 (by decide) rfl (Or.inr ⟨_, lk316⟩) hv hd kk
theorem gf317 (C : Cx p s m args meth c RX5 cc nL ret D B ca st) (hR : RH D B ca M H) {v : Int32} (hv : gI M 15 x 1 = some v) (hd : decode cc pc = .ok (.getfield 15, 3)) (kk : W p l e R s m args below meth c H locs cells slots Q (F0 m (pc + 3) ls (.int v :: rest))) : W p l e R s m args below meth c H locs cells slots Q (F0 m pc ls (.ref (B + x) :: rest)) :=
  rg_I C hR (j := 1) (ci := 5) (N := 2) (T := TX5) rfl inA5 (by decide) rfl (Or.inl lk317) hv hd kk
theorem pf317 (C : Cx p s m args meth c RX5 cc nL ret D B ca st) (hR : RH D B ca M H) (hS : va_S (AA B) s.heap H locs) {v : Int32} (hv : pI M 15 x 1 v = some M') (hd : decode cc pc = .ok (.putfield 15, 3)) (kk : ∀ (H : Heap) (locs : List Loc), RH D B ca M' H → va_S (AA B) s.heap H locs → W p l e R s m args below meth c H locs cells slots Q (F0 m (pc + 3) ls (rest))) : W p l e R s m args below meth c H locs cells slots Q (F0 m pc ls (.int v :: .ref (B + x) :: rest)) :=
  rp_I C hR hS (j := 1) (ci := 5) (N := 2) (T := TX5) rfl inA5 tyX5 tyX5_ok nmX5 (by decide) (Or.inl lk317) (Or.inl rfl) ⟨rfl, rfl⟩ rfl hv hd kk
theorem gf318 (C : Cx p s m args meth c RX2 cc nL ret D B ca st) (hR : RH D B ca M H) {v : Int32} (hv : gI M 15 x 1 = some v) (hd : decode cc pc = .ok (.getfield 67, 3)) (kk : W p l e R s m args below meth c H locs cells slots Q (F0 m (pc + 3) ls (.int v :: rest))) : W p l e R s m args below meth c H locs cells slots Q (F0 m pc ls (.ref (B + x) :: rest)) :=
  rg_I C hR (j := 1) (ci := 5) (N := 2) (T := TX5) rfl inA5 (by decide) rfl (Or.inr ⟨_, lk318⟩) hv hd kk
theorem gf325 (C : Cx p s m args meth c RX7 cc nL ret D B ca st) (hR : RH D B ca M H) {v : Nat} (hv : gR M 17 x 0 = some v) (hd : decode cc pc = .ok (.getfield 11, 3)) (kk : W p l e R s m args below meth c H locs cells slots Q (F0 m (pc + 3) ls (.ref (B + v) :: rest))) : W p l e R s m args below meth c H locs cells slots Q (F0 m pc ls (.ref (B + x) :: rest)) :=
  rg_R C hR (j := 0) (ci := 7) (N := 15) (T := TX7) rfl inA7 (by decide) rfl (Or.inl lk325) hv hd kk
theorem gf326 (C : Cx p s m args meth c RX7 cc nL ret D B ca st) (hR : RH D B ca M H) {v : Nat} (hv : gR M 17 x 1 = some v) (hd : decode cc pc = .ok (.getfield 17, 3)) (kk : W p l e R s m args below meth c H locs cells slots Q (F0 m (pc + 3) ls (.ref (B + v) :: rest))) : W p l e R s m args below meth c H locs cells slots Q (F0 m pc ls (.ref (B + x) :: rest)) :=
  rg_R C hR (j := 1) (ci := 7) (N := 15) (T := TX7) rfl inA7 (by decide) rfl (Or.inl lk326) hv hd kk
theorem gf327 (C : Cx p s m args meth c RX7 cc nL ret D B ca st) (hR : RH D B ca M H) {v : Nat} (hv : gR M 17 x 2 = some v) (hd : decode cc pc = .ok (.getfield 24, 3)) (kk : W p l e R s m args below meth c H locs cells slots Q (F0 m (pc + 3) ls (.ref (B + v) :: rest))) : W p l e R s m args below meth c H locs cells slots Q (F0 m pc ls (.ref (B + x) :: rest)) :=
  rg_R C hR (j := 2) (ci := 7) (N := 15) (T := TX7) rfl inA7 (by decide) rfl (Or.inl lk327) hv hd kk
theorem pf327 (C : Cx p s m args meth c RX7 cc nL ret D B ca st) (hR : RH D B ca M H) (hS : va_S (AA B) s.heap H locs) {v : Nat} (hv : pN M 17 x 2 v = some M') (hd : decode cc pc = .ok (.putfield 24, 3)) (kk : ∀ (H : Heap) (locs : List Loc), RH D B ca M' H → va_S (AA B) s.heap H locs → W p l e R s m args below meth c H locs cells slots Q (F0 m (pc + 3) ls (rest))) : W p l e R s m args below meth c H locs cells slots Q (F0 m pc ls (.ref (B + v) :: .ref (B + x) :: rest)) := by
  obtain ⟨h0, hv⟩ := pN_spec hv
  exact rp_R C hR hS (j := 2) (ci := 7) (N := 15) (T := TX7) rfl inA7 tyX7 tyX7_ok nmX7 (by decide) (Or.inl lk327) (Or.inl rfl) (rO_ne h0) ⟨rfl, rfl⟩ rfl hv hd kk
theorem gf328 (C : Cx p s m args meth c RX7 cc nL ret D B ca st) (hR : RH D B ca M H) {v : Nat} (hv : gR M 17 x 3 = some v) (hd : decode cc pc = .ok (.getfield 28, 3)) (kk : W p l e R s m args below meth c H locs cells slots Q (F0 m (pc + 3) ls (.ref (B + v) :: rest))) : W p l e R s m args below meth c H locs cells slots Q (F0 m pc ls (.ref (B + x) :: rest)) :=
  rg_R C hR (j := 3) (ci := 7) (N := 15) (T := TX7) rfl inA7 (by decide) rfl (Or.inl lk328) hv hd kk
theorem pf328 (C : Cx p s m args meth c RX7 cc nL ret D B ca st) (hR : RH D B ca M H) (hS : va_S (AA B) s.heap H locs) {v : Nat} (hv : pN M 17 x 3 v = some M') (hd : decode cc pc = .ok (.putfield 28, 3)) (kk : ∀ (H : Heap) (locs : List Loc), RH D B ca M' H → va_S (AA B) s.heap H locs → W p l e R s m args below meth c H locs cells slots Q (F0 m (pc + 3) ls (rest))) : W p l e R s m args below meth c H locs cells slots Q (F0 m pc ls (.ref (B + v) :: .ref (B + x) :: rest)) := by
  obtain ⟨h0, hv⟩ := pN_spec hv
  exact rp_R C hR hS (j := 3) (ci := 7) (N := 15) (T := TX7) rfl inA7 tyX7 tyX7_ok nmX7 (by decide) (Or.inl lk328) (Or.inl rfl) (rO_ne h0) ⟨rfl, rfl⟩ rfl hv hd kk
theorem gf329 (C : Cx p s m args meth c RX7 cc nL ret D B ca st) (hR : RH D B ca M H) {v : Nat} (hv : gR M 17 x 4 = some v) (hd : decode cc pc = .ok (.getfield 34, 3)) (kk : W p l e R s m args below meth c H locs cells slots Q (F0 m (pc + 3) ls (.ref (B + v) :: rest))) : W p l e R s m args below meth c H locs cells slots Q (F0 m pc ls (.ref (B + x) :: rest)) :=
  rg_R C hR (j := 4) (ci := 7) (N := 15) (T := TX7) rfl inA7 (by decide) rfl (Or.inl lk329) hv hd kk
theorem gf330 (C : Cx p s m args meth c RX7 cc nL ret D B ca st) (hR : RH D B ca M H) {v : Nat} (hv : gR M 17 x 5 = some v) (hd : decode cc pc = .ok (.getfield 38, 3)) (kk : W p l e R s m args below meth c H locs cells slots Q (F0 m (pc + 3) ls (.ref (B + v) :: rest))) : W p l e R s m args below meth c H locs cells slots Q (F0 m pc ls (.ref (B + x) :: rest)) :=
  rg_R C hR (j := 5) (ci := 7) (N := 15) (T := TX7) rfl inA7 (by decide) rfl (Or.inl lk330) hv hd kk
theorem gf331 (C : Cx p s m args meth c RX7 cc nL ret D B ca st) (hR : RH D B ca M H) {v : Nat} (hv : gR M 17 x 6 = some v) (hd : decode cc pc = .ok (.getfield 44, 3)) (kk : W p l e R s m args below meth c H locs cells slots Q (F0 m (pc + 3) ls (.ref (B + v) :: rest))) : W p l e R s m args below meth c H locs cells slots Q (F0 m pc ls (.ref (B + x) :: rest)) :=
  rg_R C hR (j := 6) (ci := 7) (N := 15) (T := TX7) rfl inA7 (by decide) rfl (Or.inl lk331) hv hd kk
theorem gf332 (C : Cx p s m args meth c RX7 cc nL ret D B ca st) (hR : RH D B ca M H) {v : Nat} (hv : gR M 17 x 7 = some v) (hd : decode cc pc = .ok (.getfield 48, 3)) (kk : W p l e R s m args below meth c H locs cells slots Q (F0 m (pc + 3) ls (.ref (B + v) :: rest))) : W p l e R s m args below meth c H locs cells slots Q (F0 m pc ls (.ref (B + x) :: rest)) :=
  rg_R C hR (j := 7) (ci := 7) (N := 15) (T := TX7) rfl inA7 (by decide) rfl (Or.inl lk332) hv hd kk
theorem gf333 (C : Cx p s m args meth c RX7 cc nL ret D B ca st) (hR : RH D B ca M H) {v : Nat} (hv : gR M 17 x 8 = some v) (hd : decode cc pc = .ok (.getfield 55, 3)) (kk : W p l e R s m args below meth c H locs cells slots Q (F0 m (pc + 3) ls (.ref (B + v) :: rest))) : W p l e R s m args below meth c H locs cells slots Q (F0 m pc ls (.ref (B + x) :: rest)) :=
  rg_R C hR (j := 8) (ci := 7) (N := 15) (T := TX7) rfl inA7 (by decide) rfl (Or.inl lk333) hv hd kk
theorem gf334 (C : Cx p s m args meth c RX7 cc nL ret D B ca st) (hR : RH D B ca M H) {v : Nat} (hv : gR M 17 x 9 = some v) (hd : decode cc pc = .ok (.getfield 62, 3)) (kk : W p l e R s m args below meth c H locs cells slots Q (F0 m (pc + 3) ls (.ref (B + v) :: rest))) : W p l e R s m args below meth c H locs cells slots Q (F0 m pc ls (.ref (B + x) :: rest)) :=
  rg_R C hR (j := 9) (ci := 7) (N := 15) (T := TX7) rfl inA7 (by decide) rfl (Or.inl lk334) hv hd kk
theorem gf335 (C : Cx p s m args meth c RX7 cc nL ret D B ca st) (hR : RH D B ca M H) {v : Int32} (hv : gI M 17 x 10 = some v) (hd : decode cc pc = .ok (.getfield 66, 3)) (kk : W p l e R s m args below meth c H locs cells slots Q (F0 m (pc + 3) ls (.int v :: rest))) : W p l e R s m args below meth c H locs cells slots Q (F0 m pc ls (.ref (B + x) :: rest)) :=
  rg_I C hR (j := 10) (ci := 7) (N := 15) (T := TX7) rfl inA7 (by decide) rfl (Or.inl lk335) hv hd kk
theorem pf335 (C : Cx p s m args meth c RX7 cc nL ret D B ca st) (hR : RH D B ca M H) (hS : va_S (AA B) s.heap H locs) {v : Int32} (hv : pI M 17 x 10 v = some M') (hd : decode cc pc = .ok (.putfield 66, 3)) (kk : ∀ (H : Heap) (locs : List Loc), RH D B ca M' H → va_S (AA B) s.heap H locs → W p l e R s m args below meth c H locs cells slots Q (F0 m (pc + 3) ls (rest))) : W p l e R s m args below meth c H locs cells slots Q (F0 m pc ls (.int v :: .ref (B + x) :: rest)) :=
  rp_I C hR hS (j := 10) (ci := 7) (N := 15) (T := TX7) rfl inA7 tyX7 tyX7_ok nmX7 (by decide) (Or.inl lk335) (Or.inl rfl) ⟨rfl, rfl⟩ rfl hv hd kk
theorem gf336 (C : Cx p s m args meth c RX7 cc nL ret D B ca st) (hR : RH D B ca M H) {v : Int64} (hv : gL M 17 x 11 = some v) (hd : decode cc pc = .ok (.getfield 70, 3)) (kk : W p l e R s m args below meth c H locs cells slots Q (F0 m (pc + 3) ls (.long v :: rest))) : W p l e R s m args below meth c H locs cells slots Q (F0 m pc ls (.ref (B + x) :: rest)) :=
  rg_L C hR (j := 11) (ci := 7) (N := 15) (T := TX7) rfl inA7 (by decide) rfl (Or.inl lk336) hv hd kk
theorem pf336 (C : Cx p s m args meth c RX7 cc nL ret D B ca st) (hR : RH D B ca M H) (hS : va_S (AA B) s.heap H locs) {v : Int64} (hv : pL M 17 x 11 v = some M') (hd : decode cc pc = .ok (.putfield 70, 3)) (kk : ∀ (H : Heap) (locs : List Loc), RH D B ca M' H → va_S (AA B) s.heap H locs → W p l e R s m args below meth c H locs cells slots Q (F0 m (pc + 3) ls (rest))) : W p l e R s m args below meth c H locs cells slots Q (F0 m pc ls (.long v :: .ref (B + x) :: rest)) :=
  rp_L C hR hS (j := 11) (ci := 7) (N := 15) (T := TX7) rfl inA7 tyX7 tyX7_ok nmX7 (by decide) (Or.inl lk336) (Or.inl rfl) ⟨rfl, rfl⟩ rfl hv hd kk
theorem gf337 (C : Cx p s m args meth c RX7 cc nL ret D B ca st) (hR : RH D B ca M H) {v : Int64} (hv : gL M 17 x 12 = some v) (hd : decode cc pc = .ok (.getfield 74, 3)) (kk : W p l e R s m args below meth c H locs cells slots Q (F0 m (pc + 3) ls (.long v :: rest))) : W p l e R s m args below meth c H locs cells slots Q (F0 m pc ls (.ref (B + x) :: rest)) :=
  rg_L C hR (j := 12) (ci := 7) (N := 15) (T := TX7) rfl inA7 (by decide) rfl (Or.inl lk337) hv hd kk
theorem pf337 (C : Cx p s m args meth c RX7 cc nL ret D B ca st) (hR : RH D B ca M H) (hS : va_S (AA B) s.heap H locs) {v : Int64} (hv : pL M 17 x 12 v = some M') (hd : decode cc pc = .ok (.putfield 74, 3)) (kk : ∀ (H : Heap) (locs : List Loc), RH D B ca M' H → va_S (AA B) s.heap H locs → W p l e R s m args below meth c H locs cells slots Q (F0 m (pc + 3) ls (rest))) : W p l e R s m args below meth c H locs cells slots Q (F0 m pc ls (.long v :: .ref (B + x) :: rest)) :=
  rp_L C hR hS (j := 12) (ci := 7) (N := 15) (T := TX7) rfl inA7 tyX7 tyX7_ok nmX7 (by decide) (Or.inl lk337) (Or.inl rfl) ⟨rfl, rfl⟩ rfl hv hd kk
theorem gf338 (C : Cx p s m args meth c RX7 cc nL ret D B ca st) (hR : RH D B ca M H) {v : Int32} (hv : gI M 17 x 13 = some v) (hd : decode cc pc = .ok (.getfield 77, 3)) (kk : W p l e R s m args below meth c H locs cells slots Q (F0 m (pc + 3) ls (.int v :: rest))) : W p l e R s m args below meth c H locs cells slots Q (F0 m pc ls (.ref (B + x) :: rest)) :=
  rg_I C hR (j := 13) (ci := 7) (N := 15) (T := TX7) rfl inA7 (by decide) rfl (Or.inl lk338) hv hd kk
theorem pf338 (C : Cx p s m args meth c RX7 cc nL ret D B ca st) (hR : RH D B ca M H) (hS : va_S (AA B) s.heap H locs) {v : Int32} (hv : pI M 17 x 13 v = some M') (hd : decode cc pc = .ok (.putfield 77, 3)) (kk : ∀ (H : Heap) (locs : List Loc), RH D B ca M' H → va_S (AA B) s.heap H locs → W p l e R s m args below meth c H locs cells slots Q (F0 m (pc + 3) ls (rest))) : W p l e R s m args below meth c H locs cells slots Q (F0 m pc ls (.int v :: .ref (B + x) :: rest)) :=
  rp_I C hR hS (j := 13) (ci := 7) (N := 15) (T := TX7) rfl inA7 tyX7 tyX7_ok nmX7 (by decide) (Or.inl lk338) (Or.inl rfl) ⟨rfl, rfl⟩ rfl hv hd kk
theorem gf339 (C : Cx p s m args meth c RX7 cc nL ret D B ca st) (hR : RH D B ca M H) {v : Nat} (hv : gR M 17 x 14 = some v) (hd : decode cc pc = .ok (.getfield 80, 3)) (kk : W p l e R s m args below meth c H locs cells slots Q (F0 m (pc + 3) ls (.ref (B + v) :: rest))) : W p l e R s m args below meth c H locs cells slots Q (F0 m pc ls (.ref (B + x) :: rest)) :=
  rg_R C hR (j := 14) (ci := 7) (N := 15) (T := TX7) rfl inA7 (by decide) rfl (Or.inl lk339) hv hd kk
theorem gf948 (C : Cx p s m args meth c RX8 cc nL ret D B ca st) (hR : RH D B ca M H) {v : Nat} (hv : gR M 18 x 0 = some v) (hd : decode cc pc = .ok (.getfield 7, 3)) (kk : W p l e R s m args below meth c H locs cells slots Q (F0 m (pc + 3) ls (.ref (B + v) :: rest))) : W p l e R s m args below meth c H locs cells slots Q (F0 m pc ls (.ref (B + x) :: rest)) :=
  rg_R C hR (j := 0) (ci := 8) (N := 34) (T := TX8) rfl inA8 (by decide) rfl (Or.inl lk948) hv hd kk
theorem gf949 (C : Cx p s m args meth c RX8 cc nL ret D B ca st) (hR : RH D B ca M H) {v : Int32} (hv : gI M 18 x 1 = some v) (hd : decode cc pc = .ok (.getfield 156, 3)) (kk : W p l e R s m args below meth c H locs cells slots Q (F0 m (pc + 3) ls (.int v :: rest))) : W p l e R s m args below meth c H locs cells slots Q (F0 m pc ls (.ref (B + x) :: rest)) :=
  rg_I C hR (j := 1) (ci := 8) (N := 34) (T := TX8) rfl inA8 (by decide) rfl (Or.inl lk949) hv hd kk
theorem pf949 (C : Cx p s m args meth c RX8 cc nL ret D B ca st) (hR : RH D B ca M H) (hS : va_S (AA B) s.heap H locs) {v : Int32} (hv : pI M 18 x 1 v = some M') (hd : decode cc pc = .ok (.putfield 156, 3)) (kk : ∀ (H : Heap) (locs : List Loc), RH D B ca M' H → va_S (AA B) s.heap H locs → W p l e R s m args below meth c H locs cells slots Q (F0 m (pc + 3) ls (rest))) : W p l e R s m args below meth c H locs cells slots Q (F0 m pc ls (.int v :: .ref (B + x) :: rest)) :=
  rp_I C hR hS (j := 1) (ci := 8) (N := 34) (T := TX8) rfl inA8 tyX8 tyX8_ok nmX8 (by decide) (Or.inl lk949) (Or.inl rfl) ⟨rfl, rfl⟩ rfl hv hd kk
theorem gf950 (C : Cx p s m args meth c RX8 cc nL ret D B ca st) (hR : RH D B ca M H) {v : Nat} (hv : gR M 18 x 2 = some v) (hd : decode cc pc = .ok (.getfield 13, 3)) (kk : W p l e R s m args below meth c H locs cells slots Q (F0 m (pc + 3) ls (.ref (B + v) :: rest))) : W p l e R s m args below meth c H locs cells slots Q (F0 m pc ls (.ref (B + x) :: rest)) :=
  rg_R C hR (j := 2) (ci := 8) (N := 34) (T := TX8) rfl inA8 (by decide) rfl (Or.inl lk950) hv hd kk
theorem gf951 (C : Cx p s m args meth c RX8 cc nL ret D B ca st) (hR : RH D B ca M H) {v : Nat} (hv : gR M 18 x 3 = some v) (hd : decode cc pc = .ok (.getfield 16, 3)) (kk : W p l e R s m args below meth c H locs cells slots Q (F0 m (pc + 3) ls (.ref (B + v) :: rest))) : W p l e R s m args below meth c H locs cells slots Q (F0 m pc ls (.ref (B + x) :: rest)) :=
  rg_R C hR (j := 3) (ci := 8) (N := 34) (T := TX8) rfl inA8 (by decide) rfl (Or.inl lk951) hv hd kk
theorem gf952 (C : Cx p s m args meth c RX8 cc nL ret D B ca st) (hR : RH D B ca M H) {v : Int32} (hv : gI M 18 x 4 = some v) (hd : decode cc pc = .ok (.getfield 159, 3)) (kk : W p l e R s m args below meth c H locs cells slots Q (F0 m (pc + 3) ls (.int v :: rest))) : W p l e R s m args below meth c H locs cells slots Q (F0 m pc ls (.ref (B + x) :: rest)) :=
  rg_I C hR (j := 4) (ci := 8) (N := 34) (T := TX8) rfl inA8 (by decide) rfl (Or.inl lk952) hv hd kk
theorem pf952 (C : Cx p s m args meth c RX8 cc nL ret D B ca st) (hR : RH D B ca M H) (hS : va_S (AA B) s.heap H locs) {v : Int32} (hv : pI M 18 x 4 v = some M') (hd : decode cc pc = .ok (.putfield 159, 3)) (kk : ∀ (H : Heap) (locs : List Loc), RH D B ca M' H → va_S (AA B) s.heap H locs → W p l e R s m args below meth c H locs cells slots Q (F0 m (pc + 3) ls (rest))) : W p l e R s m args below meth c H locs cells slots Q (F0 m pc ls (.int v :: .ref (B + x) :: rest)) :=
  rp_I C hR hS (j := 4) (ci := 8) (N := 34) (T := TX8) rfl inA8 tyX8 tyX8_ok nmX8 (by decide) (Or.inl lk952) (Or.inl rfl) ⟨rfl, rfl⟩ rfl hv hd kk
theorem gf953 (C : Cx p s m args meth c RX8 cc nL ret D B ca st) (hR : RH D B ca M H) {v : Nat} (hv : gR M 18 x 5 = some v) (hd : decode cc pc = .ok (.getfield 19, 3)) (kk : W p l e R s m args below meth c H locs cells slots Q (F0 m (pc + 3) ls (.ref (B + v) :: rest))) : W p l e R s m args below meth c H locs cells slots Q (F0 m pc ls (.ref (B + x) :: rest)) :=
  rg_R C hR (j := 5) (ci := 8) (N := 34) (T := TX8) rfl inA8 (by decide) rfl (Or.inl lk953) hv hd kk
theorem gf954 (C : Cx p s m args meth c RX8 cc nL ret D B ca st) (hR : RH D B ca M H) {v : Nat} (hv : gR M 18 x 6 = some v) (hd : decode cc pc = .ok (.getfield 22, 3)) (kk : W p l e R s m args below meth c H locs cells slots Q (F0 m (pc + 3) ls (.ref (B + v) :: rest))) : W p l e R s m args below meth c H locs cells slots Q (F0 m pc ls (.ref (B + x) :: rest)) :=
  rg_R C hR (j := 6) (ci := 8) (N := 34) (T := TX8) rfl inA8 (by decide) rfl (Or.inl lk954) hv hd kk
theorem gf955 (C : Cx p s m args meth c RX8 cc nL ret D B ca st) (hR : RH D B ca M H) {v : Nat} (hv : gR M 18 x 7 = some v) (hd : decode cc pc = .ok (.getfield 25, 3)) (kk : W p l e R s m args below meth c H locs cells slots Q (F0 m (pc + 3) ls (.ref (B + v) :: rest))) : W p l e R s m args below meth c H locs cells slots Q (F0 m pc ls (.ref (B + x) :: rest)) :=
  rg_R C hR (j := 7) (ci := 8) (N := 34) (T := TX8) rfl inA8 (by decide) rfl (Or.inl lk955) hv hd kk
theorem gf956 (C : Cx p s m args meth c RX8 cc nL ret D B ca st) (hR : RH D B ca M H) {v : Nat} (hv : gR M 18 x 8 = some v) (hd : decode cc pc = .ok (.getfield 28, 3)) (kk : W p l e R s m args below meth c H locs cells slots Q (F0 m (pc + 3) ls (.ref (B + v) :: rest))) : W p l e R s m args below meth c H locs cells slots Q (F0 m pc ls (.ref (B + x) :: rest)) :=
  rg_R C hR (j := 8) (ci := 8) (N := 34) (T := TX8) rfl inA8 (by decide) rfl (Or.inl lk956) hv hd kk
theorem gf957 (C : Cx p s m args meth c RX8 cc nL ret D B ca st) (hR : RH D B ca M H) {v : Nat} (hv : gR M 18 x 9 = some v) (hd : decode cc pc = .ok (.getfield 31, 3)) (kk : W p l e R s m args below meth c H locs cells slots Q (F0 m (pc + 3) ls (.ref (B + v) :: rest))) : W p l e R s m args below meth c H locs cells slots Q (F0 m pc ls (.ref (B + x) :: rest)) :=
  rg_R C hR (j := 9) (ci := 8) (N := 34) (T := TX8) rfl inA8 (by decide) rfl (Or.inl lk957) hv hd kk
theorem gf958 (C : Cx p s m args meth c RX8 cc nL ret D B ca st) (hR : RH D B ca M H) {v : Nat} (hv : gR M 18 x 10 = some v) (hd : decode cc pc = .ok (.getfield 34, 3)) (kk : W p l e R s m args below meth c H locs cells slots Q (F0 m (pc + 3) ls (.ref (B + v) :: rest))) : W p l e R s m args below meth c H locs cells slots Q (F0 m pc ls (.ref (B + x) :: rest)) :=
  rg_R C hR (j := 10) (ci := 8) (N := 34) (T := TX8) rfl inA8 (by decide) rfl (Or.inl lk958) hv hd kk
theorem gf959 (C : Cx p s m args meth c RX8 cc nL ret D B ca st) (hR : RH D B ca M H) {v : Nat} (hv : gR M 18 x 11 = some v) (hd : decode cc pc = .ok (.getfield 37, 3)) (kk : W p l e R s m args below meth c H locs cells slots Q (F0 m (pc + 3) ls (.ref (B + v) :: rest))) : W p l e R s m args below meth c H locs cells slots Q (F0 m pc ls (.ref (B + x) :: rest)) :=
  rg_R C hR (j := 11) (ci := 8) (N := 34) (T := TX8) rfl inA8 (by decide) rfl (Or.inl lk959) hv hd kk
theorem gf960 (C : Cx p s m args meth c RX8 cc nL ret D B ca st) (hR : RH D B ca M H) {v : Int32} (hv : gI M 18 x 12 = some v) (hd : decode cc pc = .ok (.getfield 81, 3)) (kk : W p l e R s m args below meth c H locs cells slots Q (F0 m (pc + 3) ls (.int v :: rest))) : W p l e R s m args below meth c H locs cells slots Q (F0 m pc ls (.ref (B + x) :: rest)) :=
  rg_I C hR (j := 12) (ci := 8) (N := 34) (T := TX8) rfl inA8 (by decide) rfl (Or.inl lk960) hv hd kk
theorem pf960 (C : Cx p s m args meth c RX8 cc nL ret D B ca st) (hR : RH D B ca M H) (hS : va_S (AA B) s.heap H locs) {v : Int32} (hv : pI M 18 x 12 v = some M') (hd : decode cc pc = .ok (.putfield 81, 3)) (kk : ∀ (H : Heap) (locs : List Loc), RH D B ca M' H → va_S (AA B) s.heap H locs → W p l e R s m args below meth c H locs cells slots Q (F0 m (pc + 3) ls (rest))) : W p l e R s m args below meth c H locs cells slots Q (F0 m pc ls (.int v :: .ref (B + x) :: rest)) :=
  rp_I C hR hS (j := 12) (ci := 8) (N := 34) (T := TX8) rfl inA8 tyX8 tyX8_ok nmX8 (by decide) (Or.inl lk960) (Or.inl rfl) ⟨rfl, rfl⟩ rfl hv hd kk
theorem gf961 (C : Cx p s m args meth c RX8 cc nL ret D B ca st) (hR : RH D B ca M H) {v : Int64} (hv : gL M 18 x 13 = some v) (hd : decode cc pc = .ok (.getfield 298, 3)) (kk : W p l e R s m args below meth c H locs cells slots Q (F0 m (pc + 3) ls (.long v :: rest))) : W p l e R s m args below meth c H locs cells slots Q (F0 m pc ls (.ref (B + x) :: rest)) :=
  rg_L C hR (j := 13) (ci := 8) (N := 34) (T := TX8) rfl inA8 (by decide) rfl (Or.inl lk961) hv hd kk
theorem pf961 (C : Cx p s m args meth c RX8 cc nL ret D B ca st) (hR : RH D B ca M H) (hS : va_S (AA B) s.heap H locs) {v : Int64} (hv : pL M 18 x 13 v = some M') (hd : decode cc pc = .ok (.putfield 298, 3)) (kk : ∀ (H : Heap) (locs : List Loc), RH D B ca M' H → va_S (AA B) s.heap H locs → W p l e R s m args below meth c H locs cells slots Q (F0 m (pc + 3) ls (rest))) : W p l e R s m args below meth c H locs cells slots Q (F0 m pc ls (.long v :: .ref (B + x) :: rest)) :=
  rp_L C hR hS (j := 13) (ci := 8) (N := 34) (T := TX8) rfl inA8 tyX8 tyX8_ok nmX8 (by decide) (Or.inl lk961) (Or.inl rfl) ⟨rfl, rfl⟩ rfl hv hd kk
theorem gf962 (C : Cx p s m args meth c RX8 cc nL ret D B ca st) (hR : RH D B ca M H) {v : Int64} (hv : gL M 18 x 14 = some v) (hd : decode cc pc = .ok (.getfield 40, 3)) (kk : W p l e R s m args below meth c H locs cells slots Q (F0 m (pc + 3) ls (.long v :: rest))) : W p l e R s m args below meth c H locs cells slots Q (F0 m pc ls (.ref (B + x) :: rest)) :=
  rg_L C hR (j := 14) (ci := 8) (N := 34) (T := TX8) rfl inA8 (by decide) rfl (Or.inl lk962) hv hd kk
theorem pf962 (C : Cx p s m args meth c RX8 cc nL ret D B ca st) (hR : RH D B ca M H) (hS : va_S (AA B) s.heap H locs) {v : Int64} (hv : pL M 18 x 14 v = some M') (hd : decode cc pc = .ok (.putfield 40, 3)) (kk : ∀ (H : Heap) (locs : List Loc), RH D B ca M' H → va_S (AA B) s.heap H locs → W p l e R s m args below meth c H locs cells slots Q (F0 m (pc + 3) ls (rest))) : W p l e R s m args below meth c H locs cells slots Q (F0 m pc ls (.long v :: .ref (B + x) :: rest)) :=
  rp_L C hR hS (j := 14) (ci := 8) (N := 34) (T := TX8) rfl inA8 tyX8 tyX8_ok nmX8 (by decide) (Or.inl lk962) (Or.inl rfl) ⟨rfl, rfl⟩ rfl hv hd kk
theorem gf963 (C : Cx p s m args meth c RX8 cc nL ret D B ca st) (hR : RH D B ca M H) {v : Int32} (hv : gI M 18 x 15 = some v) (hd : decode cc pc = .ok (.getfield 77, 3)) (kk : W p l e R s m args below meth c H locs cells slots Q (F0 m (pc + 3) ls (.int v :: rest))) : W p l e R s m args below meth c H locs cells slots Q (F0 m pc ls (.ref (B + x) :: rest)) :=
  rg_I C hR (j := 15) (ci := 8) (N := 34) (T := TX8) rfl inA8 (by decide) rfl (Or.inl lk963) hv hd kk
theorem pf963 (C : Cx p s m args meth c RX8 cc nL ret D B ca st) (hR : RH D B ca M H) (hS : va_S (AA B) s.heap H locs) {v : Int32} (hv : pI M 18 x 15 v = some M') (hd : decode cc pc = .ok (.putfield 77, 3)) (kk : ∀ (H : Heap) (locs : List Loc), RH D B ca M' H → va_S (AA B) s.heap H locs → W p l e R s m args below meth c H locs cells slots Q (F0 m (pc + 3) ls (rest))) : W p l e R s m args below meth c H locs cells slots Q (F0 m pc ls (.int v :: .ref (B + x) :: rest)) :=
  rp_I C hR hS (j := 15) (ci := 8) (N := 34) (T := TX8) rfl inA8 tyX8 tyX8_ok nmX8 (by decide) (Or.inl lk963) (Or.inl rfl) ⟨rfl, rfl⟩ rfl hv hd kk
theorem gf964 (C : Cx p s m args meth c RX8 cc nL ret D B ca st) (hR : RH D B ca M H) {v : Nat} (hv : gR M 18 x 16 = some v) (hd : decode cc pc = .ok (.getfield 44, 3)) (kk : W p l e R s m args below meth c H locs cells slots Q (F0 m (pc + 3) ls (.ref (B + v) :: rest))) : W p l e R s m args below meth c H locs cells slots Q (F0 m pc ls (.ref (B + x) :: rest)) :=
  rg_R C hR (j := 16) (ci := 8) (N := 34) (T := TX8) rfl inA8 (by decide) rfl (Or.inl lk964) hv hd kk
theorem gf965 (C : Cx p s m args meth c RX8 cc nL ret D B ca st) (hR : RH D B ca M H) {v : Int32} (hv : gI M 18 x 17 = some v) (hd : decode cc pc = .ok (.getfield 118, 3)) (kk : W p l e R s m args below meth c H locs cells slots Q (F0 m (pc + 3) ls (.int v :: rest))) : W p l e R s m args below meth c H locs cells slots Q (F0 m pc ls (.ref (B + x) :: rest)) :=
  rg_I C hR (j := 17) (ci := 8) (N := 34) (T := TX8) rfl inA8 (by decide) rfl (Or.inl lk965) hv hd kk
theorem pf965 (C : Cx p s m args meth c RX8 cc nL ret D B ca st) (hR : RH D B ca M H) (hS : va_S (AA B) s.heap H locs) {v : Int32} (hv : pI M 18 x 17 v = some M') (hd : decode cc pc = .ok (.putfield 118, 3)) (kk : ∀ (H : Heap) (locs : List Loc), RH D B ca M' H → va_S (AA B) s.heap H locs → W p l e R s m args below meth c H locs cells slots Q (F0 m (pc + 3) ls (rest))) : W p l e R s m args below meth c H locs cells slots Q (F0 m pc ls (.int v :: .ref (B + x) :: rest)) :=
  rp_I C hR hS (j := 17) (ci := 8) (N := 34) (T := TX8) rfl inA8 tyX8 tyX8_ok nmX8 (by decide) (Or.inl lk965) (Or.inl rfl) ⟨rfl, rfl⟩ rfl hv hd kk
theorem gf966 (C : Cx p s m args meth c RX8 cc nL ret D B ca st) (hR : RH D B ca M H) {v : Int32} (hv : gI M 18 x 18 = some v) (hd : decode cc pc = .ok (.getfield 121, 3)) (kk : W p l e R s m args below meth c H locs cells slots Q (F0 m (pc + 3) ls (.int v :: rest))) : W p l e R s m args below meth c H locs cells slots Q (F0 m pc ls (.ref (B + x) :: rest)) :=
  rg_I C hR (j := 18) (ci := 8) (N := 34) (T := TX8) rfl inA8 (by decide) rfl (Or.inl lk966) hv hd kk
theorem pf966 (C : Cx p s m args meth c RX8 cc nL ret D B ca st) (hR : RH D B ca M H) (hS : va_S (AA B) s.heap H locs) {v : Int32} (hv : pI M 18 x 18 v = some M') (hd : decode cc pc = .ok (.putfield 121, 3)) (kk : ∀ (H : Heap) (locs : List Loc), RH D B ca M' H → va_S (AA B) s.heap H locs → W p l e R s m args below meth c H locs cells slots Q (F0 m (pc + 3) ls (rest))) : W p l e R s m args below meth c H locs cells slots Q (F0 m pc ls (.int v :: .ref (B + x) :: rest)) :=
  rp_I C hR hS (j := 18) (ci := 8) (N := 34) (T := TX8) rfl inA8 tyX8 tyX8_ok nmX8 (by decide) (Or.inl lk966) (Or.inl rfl) ⟨rfl, rfl⟩ rfl hv hd kk
theorem gf967 (C : Cx p s m args meth c RX8 cc nL ret D B ca st) (hR : RH D B ca M H) {v : Int32} (hv : gI M 18 x 19 = some v) (hd : decode cc pc = .ok (.getfield 124, 3)) (kk : W p l e R s m args below meth c H locs cells slots Q (F0 m (pc + 3) ls (.int v :: rest))) : W p l e R s m args below meth c H locs cells slots Q (F0 m pc ls (.ref (B + x) :: rest)) :=
  rg_I C hR (j := 19) (ci := 8) (N := 34) (T := TX8) rfl inA8 (by decide) rfl (Or.inl lk967) hv hd kk
theorem pf967 (C : Cx p s m args meth c RX8 cc nL ret D B ca st) (hR : RH D B ca M H) (hS : va_S (AA B) s.heap H locs) {v : Int32} (hv : pI M 18 x 19 v = some M') (hd : decode cc pc = .ok (.putfield 124, 3)) (kk : ∀ (H : Heap) (locs : List Loc), RH D B ca M' H → va_S (AA B) s.heap H locs → W p l e R s m args below meth c H locs cells slots Q (F0 m (pc + 3) ls (rest))) : W p l e R s m args below meth c H locs cells slots Q (F0 m pc ls (.int v :: .ref (B + x) :: rest)) :=
  rp_I C hR hS (j := 19) (ci := 8) (N := 34) (T := TX8) rfl inA8 tyX8 tyX8_ok nmX8 (by decide) (Or.inl lk967) (Or.inl rfl) ⟨rfl, rfl⟩ rfl hv hd kk
theorem gf968 (C : Cx p s m args meth c RX8 cc nL ret D B ca st) (hR : RH D B ca M H) {v : Nat} (hv : gR M 18 x 20 = some v) (hd : decode cc pc = .ok (.getfield 47, 3)) (kk : W p l e R s m args below meth c H locs cells slots Q (F0 m (pc + 3) ls (.ref (B + v) :: rest))) : W p l e R s m args below meth c H locs cells slots Q (F0 m pc ls (.ref (B + x) :: rest)) :=
  rg_R C hR (j := 20) (ci := 8) (N := 34) (T := TX8) rfl inA8 (by decide) rfl (Or.inl lk968) hv hd kk
theorem gf969 (C : Cx p s m args meth c RX8 cc nL ret D B ca st) (hR : RH D B ca M H) {v : Int32} (hv : gI M 18 x 21 = some v) (hd : decode cc pc = .ok (.getfield 134, 3)) (kk : W p l e R s m args below meth c H locs cells slots Q (F0 m (pc + 3) ls (.int v :: rest))) : W p l e R s m args below meth c H locs cells slots Q (F0 m pc ls (.ref (B + x) :: rest)) :=
  rg_I C hR (j := 21) (ci := 8) (N := 34) (T := TX8) rfl inA8 (by decide) rfl (Or.inl lk969) hv hd kk
theorem pf969 (C : Cx p s m args meth c RX8 cc nL ret D B ca st) (hR : RH D B ca M H) (hS : va_S (AA B) s.heap H locs) {v : Int32} (hv : pI M 18 x 21 v = some M') (hd : decode cc pc = .ok (.putfield 134, 3)) (kk : ∀ (H : Heap) (locs : List Loc), RH D B ca M' H → va_S (AA B) s.heap H locs → W p l e R s m args below meth c H locs cells slots Q (F0 m (pc + 3) ls (rest))) : W p l e R s m args below meth c H locs cells slots Q (F0 m pc ls (.int v :: .ref (B + x) :: rest)) :=
  rp_I C hR hS (j := 21) (ci := 8) (N := 34) (T := TX8) rfl inA8 tyX8 tyX8_ok nmX8 (by decide) (Or.inl lk969) (Or.inl rfl) ⟨rfl, rfl⟩ rfl hv hd kk
theorem gf970 (C : Cx p s m args meth c RX8 cc nL ret D B ca st) (hR : RH D B ca M H) {v : Nat} (hv : gR M 18 x 22 = some v) (hd : decode cc pc = .ok (.getfield 50, 3)) (kk : W p l e R s m args below meth c H locs cells slots Q (F0 m (pc + 3) ls (.ref (B + v) :: rest))) : W p l e R s m args below meth c H locs cells slots Q (F0 m pc ls (.ref (B + x) :: rest)) :=
  rg_R C hR (j := 22) (ci := 8) (N := 34) (T := TX8) rfl inA8 (by decide) rfl (Or.inl lk970) hv hd kk
theorem gf971 (C : Cx p s m args meth c RX8 cc nL ret D B ca st) (hR : RH D B ca M H) {v : Int32} (hv : gI M 18 x 23 = some v) (hd : decode cc pc = .ok (.getfield 137, 3)) (kk : W p l e R s m args below meth c H locs cells slots Q (F0 m (pc + 3) ls (.int v :: rest))) : W p l e R s m args below meth c H locs cells slots Q (F0 m pc ls (.ref (B + x) :: rest)) :=
  rg_I C hR (j := 23) (ci := 8) (N := 34) (T := TX8) rfl inA8 (by decide) rfl (Or.inl lk971) hv hd kk
theorem pf971 (C : Cx p s m args meth c RX8 cc nL ret D B ca st) (hR : RH D B ca M H) (hS : va_S (AA B) s.heap H locs) {v : Int32} (hv : pI M 18 x 23 v = some M') (hd : decode cc pc = .ok (.putfield 137, 3)) (kk : ∀ (H : Heap) (locs : List Loc), RH D B ca M' H → va_S (AA B) s.heap H locs → W p l e R s m args below meth c H locs cells slots Q (F0 m (pc + 3) ls (rest))) : W p l e R s m args below meth c H locs cells slots Q (F0 m pc ls (.int v :: .ref (B + x) :: rest)) :=
  rp_I C hR hS (j := 23) (ci := 8) (N := 34) (T := TX8) rfl inA8 tyX8 tyX8_ok nmX8 (by decide) (Or.inl lk971) (Or.inl rfl) ⟨rfl, rfl⟩ rfl hv hd kk
theorem gf972 (C : Cx p s m args meth c RX8 cc nL ret D B ca st) (hR : RH D B ca M H) {v : Nat} (hv : gR M 18 x 24 = some v) (hd : decode cc pc = .ok (.getfield 53, 3)) (kk : W p l e R s m args below meth c H locs cells slots Q (F0 m (pc + 3) ls (.ref (B + v) :: rest))) : W p l e R s m args below meth c H locs cells slots Q (F0 m pc ls (.ref (B + x) :: rest)) :=
  rg_R C hR (j := 24) (ci := 8) (N := 34) (T := TX8) rfl inA8 (by decide) rfl (Or.inl lk972) hv hd kk
theorem gf973 (C : Cx p s m args meth c RX8 cc nL ret D B ca st) (hR : RH D B ca M H) {v : Nat} (hv : gR M 18 x 25 = some v) (hd : decode cc pc = .ok (.getfield 56, 3)) (kk : W p l e R s m args below meth c H locs cells slots Q (F0 m (pc + 3) ls (.ref (B + v) :: rest))) : W p l e R s m args below meth c H locs cells slots Q (F0 m pc ls (.ref (B + x) :: rest)) :=
  rg_R C hR (j := 25) (ci := 8) (N := 34) (T := TX8) rfl inA8 (by decide) rfl (Or.inl lk973) hv hd kk
theorem gf974 (C : Cx p s m args meth c RX8 cc nL ret D B ca st) (hR : RH D B ca M H) {v : Int32} (hv : gI M 18 x 26 = some v) (hd : decode cc pc = .ok (.getfield 257, 3)) (kk : W p l e R s m args below meth c H locs cells slots Q (F0 m (pc + 3) ls (.int v :: rest))) : W p l e R s m args below meth c H locs cells slots Q (F0 m pc ls (.ref (B + x) :: rest)) :=
  rg_I C hR (j := 26) (ci := 8) (N := 34) (T := TX8) rfl inA8 (by decide) rfl (Or.inl lk974) hv hd kk
theorem pf974 (C : Cx p s m args meth c RX8 cc nL ret D B ca st) (hR : RH D B ca M H) (hS : va_S (AA B) s.heap H locs) {v : Int32} (hv : pI M 18 x 26 v = some M') (hd : decode cc pc = .ok (.putfield 257, 3)) (kk : ∀ (H : Heap) (locs : List Loc), RH D B ca M' H → va_S (AA B) s.heap H locs → W p l e R s m args below meth c H locs cells slots Q (F0 m (pc + 3) ls (rest))) : W p l e R s m args below meth c H locs cells slots Q (F0 m pc ls (.int v :: .ref (B + x) :: rest)) :=
  rp_I C hR hS (j := 26) (ci := 8) (N := 34) (T := TX8) rfl inA8 tyX8 tyX8_ok nmX8 (by decide) (Or.inl lk974) (Or.inl rfl) ⟨rfl, rfl⟩ rfl hv hd kk
theorem gf975 (C : Cx p s m args meth c RX8 cc nL ret D B ca st) (hR : RH D B ca M H) {v : Int32} (hv : gI M 18 x 27 = some v) (hd : decode cc pc = .ok (.getfield 260, 3)) (kk : W p l e R s m args below meth c H locs cells slots Q (F0 m (pc + 3) ls (.int v :: rest))) : W p l e R s m args below meth c H locs cells slots Q (F0 m pc ls (.ref (B + x) :: rest)) :=
  rg_I C hR (j := 27) (ci := 8) (N := 34) (T := TX8) rfl inA8 (by decide) rfl (Or.inl lk975) hv hd kk
theorem pf975 (C : Cx p s m args meth c RX8 cc nL ret D B ca st) (hR : RH D B ca M H) (hS : va_S (AA B) s.heap H locs) {v b : Int32} (hz : bz v = some b) (hv : pI M 18 x 27 v = some M') (hd : decode cc pc = .ok (.putfield 260, 3)) (kk : ∀ (H : Heap) (locs : List Loc), RH D B ca M' H → va_S (AA B) s.heap H locs → W p l e R s m args below meth c H locs cells slots Q (F0 m (pc + 3) ls (rest))) : W p l e R s m args below meth c H locs cells slots Q (F0 m pc ls (.int v :: .ref (B + x) :: rest)) :=
  rp_I C hR hS (j := 27) (ci := 8) (N := 34) (T := TX8) rfl inA8 tyX8 tyX8_ok nmX8 (by decide) (Or.inl lk975) (Or.inl rfl) (bz_nf hz) rfl hv hd kk
theorem gf976 (C : Cx p s m args meth c RX8 cc nL ret D B ca st) (hR : RH D B ca M H) {v : Nat} (hv : gR M 18 x 28 = some v) (hd : decode cc pc = .ok (.getfield 59, 3)) (kk : W p l e R s m args below meth c H locs cells slots Q (F0 m (pc + 3) ls (.ref (B + v) :: rest))) : W p l e R s m args below meth c H locs cells slots Q (F0 m pc ls (.ref (B + x) :: rest)) :=
  rg_R C hR (j := 28) (ci := 8) (N := 34) (T := TX8) rfl inA8 (by decide) rfl (Or.inl lk976) hv hd kk
theorem gf977 (C : Cx p s m args meth c RX8 cc nL ret D B ca st) (hR : RH D B ca M H) {v : Nat} (hv : gR M 18 x 29 = some v) (hd : decode cc pc = .ok (.getfield 62, 3)) (kk : W p l e R s m args below meth c H locs cells slots Q (F0 m (pc + 3) ls (.ref (B + v) :: rest))) : W p l e R s m args below meth c H locs cells slots Q (F0 m pc ls (.ref (B + x) :: rest)) :=
  rg_R C hR (j := 29) (ci := 8) (N := 34) (T := TX8) rfl inA8 (by decide) rfl (Or.inl lk977) hv hd kk
theorem gf978 (C : Cx p s m args meth c RX8 cc nL ret D B ca st) (hR : RH D B ca M H) {v : Nat} (hv : gR M 18 x 30 = some v) (hd : decode cc pc = .ok (.getfield 65, 3)) (kk : W p l e R s m args below meth c H locs cells slots Q (F0 m (pc + 3) ls (.ref (B + v) :: rest))) : W p l e R s m args below meth c H locs cells slots Q (F0 m pc ls (.ref (B + x) :: rest)) :=
  rg_R C hR (j := 30) (ci := 8) (N := 34) (T := TX8) rfl inA8 (by decide) rfl (Or.inl lk978) hv hd kk
theorem gf979 (C : Cx p s m args meth c RX8 cc nL ret D B ca st) (hR : RH D B ca M H) {v : Nat} (hv : gR M 18 x 31 = some v) (hd : decode cc pc = .ok (.getfield 68, 3)) (kk : W p l e R s m args below meth c H locs cells slots Q (F0 m (pc + 3) ls (.ref (B + v) :: rest))) : W p l e R s m args below meth c H locs cells slots Q (F0 m pc ls (.ref (B + x) :: rest)) :=
  rg_R C hR (j := 31) (ci := 8) (N := 34) (T := TX8) rfl inA8 (by decide) rfl (Or.inl lk979) hv hd kk
theorem gf980 (C : Cx p s m args meth c RX8 cc nL ret D B ca st) (hR : RH D B ca M H) {v : Nat} (hv : gR M 18 x 32 = some v) (hd : decode cc pc = .ok (.getfield 71, 3)) (kk : W p l e R s m args below meth c H locs cells slots Q (F0 m (pc + 3) ls (.ref (B + v) :: rest))) : W p l e R s m args below meth c H locs cells slots Q (F0 m pc ls (.ref (B + x) :: rest)) :=
  rg_R C hR (j := 32) (ci := 8) (N := 34) (T := TX8) rfl inA8 (by decide) rfl (Or.inl lk980) hv hd kk
theorem gf981 (C : Cx p s m args meth c RX8 cc nL ret D B ca st) (hR : RH D B ca M H) {v : Nat} (hv : gR M 18 x 33 = some v) (hd : decode cc pc = .ok (.getfield 74, 3)) (kk : W p l e R s m args below meth c H locs cells slots Q (F0 m (pc + 3) ls (.ref (B + v) :: rest))) : W p l e R s m args below meth c H locs cells slots Q (F0 m pc ls (.ref (B + x) :: rest)) :=
  rg_R C hR (j := 33) (ci := 8) (N := 34) (T := TX8) rfl inA8 (by decide) rfl (Or.inl lk981) hv hd kk
end FRows
theorem cf_J6_bitCount_0f7a4 : CF yJ6_bitCount_0f7a4 cJ6_bitCount_0f7a4 1 (some .int) 1 := ⟨lk733, lk132, ⟨by decide +kernel, by decide +kernel⟩, by decide +kernel⟩
theorem cs_J6_bitCount_0f7a4 : Cond.static yJ6_bitCount_0f7a4 ∈ wsA := lk732
theorem cf_J7_fill_031fb : CF yJ7_fill_031fb cJ7_fill_031fb 4 none 2 := ⟨lk443, lk129, ⟨by decide +kernel, by decide +kernel⟩, by decide +kernel⟩
theorem cs_J7_fill_031fb : Cond.static yJ7_fill_031fb ∈ wsA := lk442
theorem cf_J7_fill_53178 : CF yJ7_fill_53178 cJ7_fill_53178 4 none 2 := ⟨lk389, lk129, ⟨by decide +kernel, by decide +kernel⟩, by decide +kernel⟩
theorem cs_J7_fill_53178 : Cond.static yJ7_fill_53178 ∈ wsA := lk388
theorem cf_J9_abs_0f7a4 : CF yJ9_abs_0f7a4 cJ9_abs_0f7a4 1 (some .int) 1 := ⟨lk607, lk131, ⟨by decide +kernel, by decide +kernel⟩, by decide +kernel⟩
theorem cs_J9_abs_0f7a4 : Cond.static yJ9_abs_0f7a4 ∈ wsA := lk606
theorem cf_J9_max_7cf53 : CF yJ9_max_7cf53 cJ9_max_7cf53 2 (some .int) 2 := ⟨lk516, lk131, ⟨by decide +kernel, by decide +kernel⟩, by decide +kernel⟩
theorem cs_J9_max_7cf53 : Cond.static yJ9_max_7cf53 ∈ wsA := lk515
theorem cf_J9_min_7cf53 : CF yJ9_min_7cf53 cJ9_min_7cf53 2 (some .int) 2 := ⟨lk489, lk131, ⟨by decide +kernel, by decide +kernel⟩, by decide +kernel⟩
theorem cs_J9_min_7cf53 : Cond.static yJ9_min_7cf53 ∈ wsA := lk488
theorem cf_X7_asked : CF yX7_asked cX7_asked 1 (some .int) 0 := ⟨lk880, lk120, ⟨by decide +kernel, by decide +kernel⟩, by decide +kernel⟩
theorem cv_X7_asked : CV yX7_asked 7 := ⟨lk878, lk879, _, _, rfl⟩
theorem cf_X4_has : CF yX4_has cX4_has 2 (some .boolean) 1 := ⟨lk401, lk126, ⟨by decide +kernel, by decide +kernel⟩, by decide +kernel⟩
theorem cv_X4_has : CV yX4_has 4 := ⟨lk400, lk4, _, _, rfl⟩
theorem cf_X4_isMissing : CF yX4_isMissing cX4_isMissing 1 (some .boolean) 0 := ⟨lk397, lk126, ⟨by decide +kernel, by decide +kernel⟩, by decide +kernel⟩
theorem cv_X4_isMissing : CV yX4_isMissing 4 := ⟨lk396, lk3, _, _, rfl⟩
theorem cf_X7_refuse : CF yX7_refuse cX7_refuse 2 (some .int) 1 := ⟨lk382, lk120, ⟨by decide +kernel, by decide +kernel⟩, by decide +kernel⟩
theorem cv_X7_refuse : CV yX7_refuse 7 := ⟨lk381, lk1, _, _, rfl⟩
theorem cf_X7_rowOf : CF yX7_rowOf cX7_rowOf 2 (some (.object "SighGuild$Row")) 1 := ⟨lk378, lk120, ⟨by decide +kernel, by decide +kernel⟩, by decide +kernel⟩
theorem cv_X7_rowOf : CV yX7_rowOf 7 := ⟨lk377, lk0, _, _, rfl⟩
theorem cf_X7_at : CF yX7_at cX7_at 4 (some .int) 2 := ⟨lk405, lk120, ⟨by decide +kernel, by decide +kernel⟩, by decide +kernel⟩
theorem cv_X7_at : CV yX7_at 7 := ⟨lk403, lk404, _, _, rfl⟩
theorem cf_X2_hasSigher : CF yX2_hasSigher cX2_hasSigher 2 (some .boolean) 1 := ⟨lk541, lk121, ⟨by decide +kernel, by decide +kernel⟩, by decide +kernel⟩
theorem cv_X2_hasSigher : CV yX2_hasSigher 2 := ⟨lk540, lk20, _, _, rfl⟩
theorem cf_X2_hasOrder : CF yX2_hasOrder cX2_hasOrder 2 (some .boolean) 1 := ⟨lk570, lk121, ⟨by decide +kernel, by decide +kernel⟩, by decide +kernel⟩
theorem cv_X2_hasOrder : CV yX2_hasOrder 2 := ⟨lk569, lk26, _, _, rfl⟩
theorem cf_X7_isKind : CF yX7_isKind cX7_isKind 1 (some .boolean) 1 := ⟨lk506, lk120, ⟨by decide +kernel, by decide +kernel⟩, by decide +kernel⟩
theorem cs_X7_isKind : Cond.static yX7_isKind ∈ wsA := lk505
theorem cf_X7_isOf : CF yX7_isOf cX7_isOf 4 (some .boolean) 2 := ⟨lk511, lk120, ⟨by decide +kernel, by decide +kernel⟩, by decide +kernel⟩
theorem cs_X7_isOf : Cond.static yX7_isOf ∈ wsA := lk510
theorem cf_X7_isTooDeep : CF yX7_isTooDeep cX7_isTooDeep 2 (some .boolean) 2 := ⟨lk503, lk120, ⟨by decide +kernel, by decide +kernel⟩, by decide +kernel⟩
theorem cs_X7_isTooDeep : Cond.static yX7_isTooDeep ∈ wsA := lk502
theorem cf_X7_breathByKind : CF yX7_breathByKind cX7_breathByKind 2 (some .int) 2 := ⟨lk500, lk120, ⟨by decide +kernel, by decide +kernel⟩, by decide +kernel⟩
theorem cs_X7_breathByKind : Cond.static yX7_breathByKind ∈ wsA := lk499
theorem cf_X7_breathOfPairs : CF yX7_breathOfPairs cX7_breathOfPairs 7 (some .int) 2 := ⟨lk820, lk120, ⟨by decide +kernel, by decide +kernel⟩, by decide +kernel⟩
theorem cv_X7_breathOfPairs : CV yX7_breathOfPairs 7 := ⟨lk819, lk56, _, _, rfl⟩
theorem cf_X7_findingOfPairs : CF yX7_findingOfPairs cX7_findingOfPairs 4 (some .int) 1 := ⟨lk816, lk120, ⟨by decide +kernel, by decide +kernel⟩, by decide +kernel⟩
theorem cv_X7_findingOfPairs : CV yX7_findingOfPairs 7 := ⟨lk815, lk55, _, _, rfl⟩
theorem cf_X7_breaths : CF yX7_breaths cX7_breaths 8 (some .int) 2 := ⟨lk829, lk120, ⟨by decide +kernel, by decide +kernel⟩, by decide +kernel⟩
theorem cv_X7_breaths : CV yX7_breaths 7 := ⟨lk827, lk828, _, _, rfl⟩
theorem cf_X2_goldFor : CF yX2_goldFor cX2_goldFor 3 (some .int) 2 := ⟨lk597, lk121, ⟨by decide +kernel, by decide +kernel⟩, by decide +kernel⟩
theorem cv_X2_goldFor : CV yX2_goldFor 2 := ⟨lk596, lk30, _, _, rfl⟩
theorem cf_X7_brings : CF yX7_brings cX7_brings 3 (some .int) 2 := ⟨lk683, lk120, ⟨by decide +kernel, by decide +kernel⟩, by decide +kernel⟩
theorem cv_X7_brings : CV yX7_brings 7 := ⟨lk681, lk682, _, _, rfl⟩
theorem cf_X2_areInTune : CF yX2_areInTune cX2_areInTune 4 (some .boolean) 3 := ⟨lk789, lk121, ⟨by decide +kernel, by decide +kernel⟩, by decide +kernel⟩
theorem cv_X2_areInTune : CV yX2_areInTune 2 := ⟨lk788, lk52, _, _, rfl⟩
theorem cf_X7_holds : CF yX7_holds cX7_holds 2 (some .boolean) 2 := ⟨lk561, lk120, ⟨by decide +kernel, by decide +kernel⟩, by decide +kernel⟩
theorem cs_X7_holds : Cond.static yX7_holds ∈ wsA := lk560
theorem cf_X2_isChoir : CF yX2_isChoir cX2_isChoir 5 (some .boolean) 2 := ⟨lk798, lk121, ⟨by decide +kernel, by decide +kernel⟩, by decide +kernel⟩
theorem cv_X2_isChoir : CV yX2_isChoir 2 := ⟨lk797, lk53, _, _, rfl⟩
theorem cf_X7_choir : CF yX7_choir cX7_choir 4 (some .int) 1 := ⟨lk794, lk120, ⟨by decide +kernel, by decide +kernel⟩, by decide +kernel⟩
theorem cv_X7_choir : CV yX7_choir 7 := ⟨lk792, lk793, _, _, rfl⟩
theorem cf_X4_hasFrom : CF yX4_hasFrom cX4_hasFrom 3 (some .boolean) 2 := ⟨lk417, lk126, ⟨by decide +kernel, by decide +kernel⟩, by decide +kernel⟩
theorem cv_X4_hasFrom : CV yX4_hasFrom 4 := ⟨lk416, lk5, _, _, rfl⟩
theorem cf_X7_copy : CF yX7_copy cX7_copy 8 (some .int) 5 := ⟨lk413, lk120, ⟨by decide +kernel, by decide +kernel⟩, by decide +kernel⟩
theorem cv_X7_copy : CV yX7_copy 7 := ⟨lk411, lk412, _, _, rfl⟩
theorem cf_X2_countOfKind : CF yX2_countOfKind cX2_countOfKind 4 (some .int) 1 := ⟨lk904, lk121, ⟨by decide +kernel, by decide +kernel⟩, by decide +kernel⟩
theorem cv_X2_countOfKind : CV yX2_countOfKind 2 := ⟨lk903, lk66, _, _, rfl⟩
theorem cf_X6_allBreath : CF yX6_allBreath cX6_allBreath 4 (some .int) 1 := ⟨lk900, lk122, ⟨by decide +kernel, by decide +kernel⟩, by decide +kernel⟩
theorem cv_X6_allBreath : CV yX6_allBreath 6 := ⟨lk899, lk65, _, _, rfl⟩
theorem cf_X7_countKept : CF yX7_countKept cX7_countKept 3 (some .int) 0 := ⟨lk917, lk120, ⟨by decide +kernel, by decide +kernel⟩, by decide +kernel⟩
theorem cv_X7_countKept : CV yX7_countKept 7 := ⟨lk916, lk69, _, _, rfl⟩
theorem cf_X7_countRows : CF yX7_countRows cX7_countRows 3 (some .int) 0 := ⟨lk909, lk120, ⟨by decide +kernel, by decide +kernel⟩, by decide +kernel⟩
theorem cv_X7_countRows : CV yX7_countRows 7 := ⟨lk908, lk67, _, _, rfl⟩
theorem cf_X5_isMissing : CF yX5_isMissing cX5_isMissing 1 (some .boolean) 0 := ⟨lk451, lk127, ⟨by decide +kernel, by decide +kernel⟩, by decide +kernel⟩
theorem cv_X5_isMissing : CV yX5_isMissing 5 := ⟨lk450, lk9, _, _, rfl⟩
theorem cf_X7_countTexts : CF yX7_countTexts cX7_countTexts 3 (some .int) 0 := ⟨lk913, lk120, ⟨by decide +kernel, by decide +kernel⟩, by decide +kernel⟩
theorem cv_X7_countTexts : CV yX7_countTexts 7 := ⟨lk912, lk68, _, _, rfl⟩
theorem cf_X7_countOf : CF yX7_countOf cX7_countOf 2 (some .int) 1 := ⟨lk896, lk120, ⟨by decide +kernel, by decide +kernel⟩, by decide +kernel⟩
theorem cv_X7_countOf : CV yX7_countOf 7 := ⟨lk895, lk64, _, _, rfl⟩
theorem cf_X7_count : CF yX7_count cX7_count 2 (some .int) 1 := ⟨lk892, lk120, ⟨by decide +kernel, by decide +kernel⟩, by decide +kernel⟩
theorem cv_X7_count : CV yX7_count 7 := ⟨lk890, lk891, _, _, rfl⟩
theorem cf_X4_digestFrom : CF yX4_digestFrom cX4_digestFrom 6 (some .long) 1 := ⟨lk935, lk126, ⟨by decide +kernel, by decide +kernel⟩, by decide +kernel⟩
theorem cv_X4_digestFrom : CV yX4_digestFrom 4 := ⟨lk934, lk70, _, _, rfl⟩
theorem cf_X5_digestFrom : CF yX5_digestFrom cX5_digestFrom 6 (some .long) 1 := ⟨lk940, lk127, ⟨by decide +kernel, by decide +kernel⟩, by decide +kernel⟩
theorem cv_X5_digestFrom : CV yX5_digestFrom 5 := ⟨lk939, lk71, _, _, rfl⟩
theorem cf_X6_isDone : CF yX6_isDone cX6_isDone 2 (some .boolean) 1 := ⟨lk558, lk122, ⟨by decide +kernel, by decide +kernel⟩, by decide +kernel⟩
theorem cv_X6_isDone : CV yX6_isDone 6 := ⟨lk557, lk24, _, _, rfl⟩
theorem cf_X2_breathFor : CF yX2_breathFor cX2_breathFor 3 (some .int) 2 := ⟨lk565, lk121, ⟨by decide +kernel, by decide +kernel⟩, by decide +kernel⟩
theorem cv_X2_breathFor : CV yX2_breathFor 2 := ⟨lk564, lk25, _, _, rfl⟩
theorem cf_X6_isAble : CF yX6_isAble cX6_isAble 5 (some .boolean) 3 := ⟨lk553, lk122, ⟨by decide +kernel, by decide +kernel⟩, by decide +kernel⟩
theorem cv_X6_isAble : CV yX6_isAble 6 := ⟨lk552, lk23, _, _, rfl⟩
theorem cf_X7_sighersFor : CF yX7_sighersFor cX7_sighersFor 4 (some .int) 1 := ⟨lk584, lk120, ⟨by decide +kernel, by decide +kernel⟩, by decide +kernel⟩
theorem cv_X7_sighersFor : CV yX7_sighersFor 7 := ⟨lk583, lk28, _, _, rfl⟩
theorem cf_X7_orderTells : CF yX7_orderTells cX7_orderTells 3 (some .int) 2 := ⟨lk579, lk120, ⟨by decide +kernel, by decide +kernel⟩, by decide +kernel⟩
theorem cv_X7_orderTells : CV yX7_orderTells 7 := ⟨lk578, lk27, _, _, rfl⟩
theorem cf_X7_ordersFor : CF yX7_ordersFor cX7_ordersFor 4 (some .int) 1 := ⟨lk549, lk120, ⟨by decide +kernel, by decide +kernel⟩, by decide +kernel⟩
theorem cv_X7_ordersFor : CV yX7_ordersFor 7 := ⟨lk548, lk22, _, _, rfl⟩
theorem cf_X7_sigherTells : CF yX7_sigherTells cX7_sigherTells 3 (some .int) 2 := ⟨lk545, lk120, ⟨by decide +kernel, by decide +kernel⟩, by decide +kernel⟩
theorem cv_X7_sigherTells : CV yX7_sigherTells 7 := ⟨lk544, lk21, _, _, rfl⟩
theorem cf_X7_digest : CF yX7_digest cX7_digest 5 (some .long) 0 := ⟨lk929, lk120, ⟨by decide +kernel, by decide +kernel⟩, by decide +kernel⟩
theorem cv_X7_digest : CV yX7_digest 7 := ⟨lk927, lk928, _, _, rfl⟩
theorem cf_X3_goOn : CF yX3_goOn cX3_goOn 10 none 6 := ⟨lk772, lk125, ⟨by decide +kernel, by decide +kernel⟩, by decide +kernel⟩
theorem cv_X3_goOn : CV yX3_goOn 3 := ⟨lk771, lk51, _, _, rfl⟩
theorem cf_X3_search : CF yX3_search cX3_search 5 (some .int) 4 := ⟨lk767, lk125, ⟨by decide +kernel, by decide +kernel⟩, by decide +kernel⟩
theorem cv_X3_search : CV yX3_search 3 := ⟨lk766, lk50, _, _, rfl⟩
theorem cf_X4_renew : CF yX4_renew cX4_renew 2 none 1 := ⟨lk386, lk126, ⟨by decide +kernel, by decide +kernel⟩, by decide +kernel⟩
theorem cv_X4_renew : CV yX4_renew 4 := ⟨lk385, lk2, _, _, rfl⟩
theorem cf_X7_dusk : CF yX7_dusk cX7_dusk 6 (some .int) 3 := ⟨lk763, lk120, ⟨by decide +kernel, by decide +kernel⟩, by decide +kernel⟩
theorem cv_X7_dusk : CV yX7_dusk 7 := ⟨lk761, lk762, _, _, rfl⟩
theorem cf_X2_kindOf : CF yX2_kindOf cX2_kindOf 2 (some .int) 1 := ⟨lk479, lk121, ⟨by decide +kernel, by decide +kernel⟩, by decide +kernel⟩
theorem cs_X2_kindOf : Cond.static yX2_kindOf ∈ wsA := lk478
theorem cf_X2_mayCome : CF yX2_mayCome cX2_mayCome 2 (some .boolean) 1 := ⟨lk476, lk121, ⟨by decide +kernel, by decide +kernel⟩, by decide +kernel⟩
theorem cv_X2_mayCome : CV yX2_mayCome 2 := ⟨lk475, lk14, _, _, rfl⟩
theorem cf_X5_has : CF yX5_has cX5_has 2 (some .boolean) 1 := ⟨lk455, lk127, ⟨by decide +kernel, by decide +kernel⟩, by decide +kernel⟩
theorem cv_X5_has : CV yX5_has 5 := ⟨lk454, lk10, _, _, rfl⟩
theorem cf_X5_signAt : CF yX5_signAt cX5_signAt 2 (some .int) 1 := ⟨lk467, lk127, ⟨by decide +kernel, by decide +kernel⟩, by decide +kernel⟩
theorem cv_X5_signAt : CV yX5_signAt 5 := ⟨lk466, lk12, _, _, rfl⟩
theorem cf_X5_figureAt : CF yX5_figureAt cX5_figureAt 3 (some .int) 1 := ⟨lk485, lk127, ⟨by decide +kernel, by decide +kernel⟩, by decide +kernel⟩
theorem cv_X5_figureAt : CV yX5_figureAt 5 := ⟨lk484, lk15, _, _, rfl⟩
theorem cf_X2_faultOfItem : CF yX2_faultOfItem cX2_faultOfItem 7 (some .int) 2 := ⟨lk472, lk121, ⟨by decide +kernel, by decide +kernel⟩, by decide +kernel⟩
theorem cv_X2_faultOfItem : CV yX2_faultOfItem 2 := ⟨lk471, lk13, _, _, rfl⟩
theorem cf_X7_goldByKind : CF yX7_goldByKind cX7_goldByKind 2 (some .int) 2 := ⟨lk519, lk120, ⟨by decide +kernel, by decide +kernel⟩, by decide +kernel⟩
theorem cs_X7_goldByKind : Cond.static yX7_goldByKind ∈ wsA := lk518
theorem cf_X2_takeOrder : CF yX2_takeOrder cX2_takeOrder 4 none 2 := ⟨lk497, lk121, ⟨by decide +kernel, by decide +kernel⟩, by decide +kernel⟩
theorem cv_X2_takeOrder : CV yX2_takeOrder 2 := ⟨lk496, lk17, _, _, rfl⟩
theorem cf_X2_takeSigher : CF yX2_takeSigher cX2_takeSigher 3 none 2 := ⟨lk523, lk121, ⟨by decide +kernel, by decide +kernel⟩, by decide +kernel⟩
theorem cv_X2_takeSigher : CV yX2_takeSigher 2 := ⟨lk522, lk18, _, _, rfl⟩
theorem cf_X2_takeItem : CF yX2_takeItem cX2_takeItem 3 (some .int) 2 := ⟨lk493, lk121, ⟨by decide +kernel, by decide +kernel⟩, by decide +kernel⟩
theorem cv_X2_takeItem : CV yX2_takeItem 2 := ⟨lk492, lk16, _, _, rfl⟩
theorem cf_X2_readFrom : CF yX2_readFrom cX2_readFrom 5 (some .int) 1 := ⟨lk463, lk121, ⟨by decide +kernel, by decide +kernel⟩, by decide +kernel⟩
theorem cv_X2_readFrom : CV yX2_readFrom 2 := ⟨lk462, lk11, _, _, rfl⟩
theorem cf_X7_textOf : CF yX7_textOf cX7_textOf 2 (some (.object "SighGuild$Script")) 1 := ⟨lk436, lk120, ⟨by decide +kernel, by decide +kernel⟩, by decide +kernel⟩
theorem cv_X7_textOf : CV yX7_textOf 7 := ⟨lk435, lk7, _, _, rfl⟩
theorem cf_X7_fault : CF yX7_fault cX7_fault 3 (some .int) 1 := ⟨lk459, lk120, ⟨by decide +kernel, by decide +kernel⟩, by decide +kernel⟩
theorem cv_X7_fault : CV yX7_fault 7 := ⟨lk457, lk458, _, _, rfl⟩
theorem cf_X7_finding : CF yX7_finding cX7_finding 1 (some .int) 0 := ⟨lk921, lk120, ⟨by decide +kernel, by decide +kernel⟩, by decide +kernel⟩
theorem cv_X7_finding : CV yX7_finding 7 := ⟨lk919, lk920, _, _, rfl⟩
theorem cf_X7_findings : CF yX7_findings cX7_findings 2 (some .int) 1 := ⟨lk925, lk120, ⟨by decide +kernel, by decide +kernel⟩, by decide +kernel⟩
theorem cv_X7_findings : CV yX7_findings 7 := ⟨lk923, lk924, _, _, rfl⟩
theorem cf_X1_fits : CF yX1_fits cX1_fits 4 (some .boolean) 2 := ⟨lk705, lk124, ⟨by decide +kernel, by decide +kernel⟩, by decide +kernel⟩
theorem cv_X1_fits : CV yX1_fits 1 := ⟨lk704, lk42, _, _, rfl⟩
theorem cf_X1_worth : CF yX1_worth cX1_worth 3 (some .int) 2 := ⟨lk712, lk124, ⟨by decide +kernel, by decide +kernel⟩, by decide +kernel⟩
theorem cv_X1_worth : CV yX1_worth 1 := ⟨lk711, lk43, _, _, rfl⟩
theorem cf_X1_climb : CF yX1_climb cX1_climb 5 none 2 := ⟨lk718, lk124, ⟨by decide +kernel, by decide +kernel⟩, by decide +kernel⟩
theorem cv_X1_climb : CV yX1_climb 1 := ⟨lk717, lk44, _, _, rfl⟩
theorem cf_X1_setBounds : CF yX1_setBounds cX1_setBounds 4 none 0 := ⟨lk701, lk124, ⟨by decide +kernel, by decide +kernel⟩, by decide +kernel⟩
theorem cv_X1_setBounds : CV yX1_setBounds 1 := ⟨lk700, lk41, _, _, rfl⟩
theorem cf_X1_settle : CF yX1_settle cX1_settle 6 (some .boolean) 2 := ⟨lk722, lk124, ⟨by decide +kernel, by decide +kernel⟩, by decide +kernel⟩
theorem cv_X1_settle : CV yX1_settle 1 := ⟨lk721, lk45, _, _, rfl⟩
theorem cf_X1_search : CF yX1_search cX1_search 4 (some .int) 3 := ⟨lk695, lk124, ⟨by decide +kernel, by decide +kernel⟩, by decide +kernel⟩
theorem cv_X1_search : CV yX1_search 1 := ⟨lk694, lk40, _, _, rfl⟩
theorem cf_X7_giveOut : CF yX7_giveOut cX7_giveOut 5 (some .int) 2 := ⟨lk691, lk120, ⟨by decide +kernel, by decide +kernel⟩, by decide +kernel⟩
theorem cv_X7_giveOut : CV yX7_giveOut 7 := ⟨lk690, lk39, _, _, rfl⟩
theorem cf_X7_give : CF yX7_give cX7_give 2 (some .int) 1 := ⟨lk687, lk120, ⟨by decide +kernel, by decide +kernel⟩, by decide +kernel⟩
theorem cv_X7_give : CV yX7_give 7 := ⟨lk685, lk686, _, _, rfl⟩
theorem cf_X6_begin : CF yX6_begin cX6_begin 2 none 1 := ⟨lk531, lk122, ⟨by decide +kernel, by decide +kernel⟩, by decide +kernel⟩
theorem cv_X6_begin : CV yX6_begin 6 := ⟨lk530, lk19, _, _, rfl⟩
theorem cf_X7_guild : CF yX7_guild cX7_guild 5 (some .int) 1 := ⟨lk527, lk120, ⟨by decide +kernel, by decide +kernel⟩, by decide +kernel⟩
theorem cv_X7_guild : CV yX7_guild 7 := ⟨lk525, lk526, _, _, rfl⟩
theorem cf_X2_isSetOfOrders : CF yX2_isSetOfOrders cX2_isSetOfOrders 2 (some .boolean) 1 := ⟨lk754, lk121, ⟨by decide +kernel, by decide +kernel⟩, by decide +kernel⟩
theorem cv_X2_isSetOfOrders : CV yX2_isSetOfOrders 2 := ⟨lk753, lk48, _, _, rfl⟩
theorem cf_X7_stepsThrough : CF yX7_stepsThrough cX7_stepsThrough 6 (some .int) 2 := ⟨lk758, lk120, ⟨by decide +kernel, by decide +kernel⟩, by decide +kernel⟩
theorem cv_X7_stepsThrough : CV yX7_stepsThrough 7 := ⟨lk757, lk49, _, _, rfl⟩
theorem cf_X7_hours : CF yX7_hours cX7_hours 7 (some .int) 2 := ⟨lk781, lk120, ⟨by decide +kernel, by decide +kernel⟩, by decide +kernel⟩
theorem cv_X7_hours : CV yX7_hours 7 := ⟨lk779, lk780, _, _, rfl⟩
theorem cf_X0_takeOver : CF yX0_takeOver cX0_takeOver 2 none 1 := ⟨lk670, lk123, ⟨by decide +kernel, by decide +kernel⟩, by decide +kernel⟩
theorem cv_X0_takeOver : CV yX0_takeOver 0 := ⟨lk669, lk38, _, _, rfl⟩
theorem cf_X7_keptOf : CF yX7_keptOf cX7_keptOf 2 (some (.object "SighGuild$Deeds")) 1 := ⟨lk666, lk120, ⟨by decide +kernel, by decide +kernel⟩, by decide +kernel⟩
theorem cv_X7_keptOf : CV yX7_keptOf 7 := ⟨lk665, lk37, _, _, rfl⟩
theorem cf_X7_keep : CF yX7_keep cX7_keep 3 (some .int) 1 := ⟨lk662, lk120, ⟨by decide +kernel, by decide +kernel⟩, by decide +kernel⟩
theorem cv_X7_keep : CV yX7_keep 7 := ⟨lk660, lk661, _, _, rfl⟩
theorem cf_X7_kinds : CF yX7_kinds cX7_kinds 8 (some .int) 2 := ⟨lk825, lk120, ⟨by decide +kernel, by decide +kernel⟩, by decide +kernel⟩
theorem cv_X7_kinds : CV yX7_kinds 7 := ⟨lk823, lk824, _, _, rfl⟩
theorem cf_X7_lay : CF yX7_lay cX7_lay 5 (some .int) 3 := ⟨lk393, lk120, ⟨by decide +kernel, by decide +kernel⟩, by decide +kernel⟩
theorem cv_X7_lay : CV yX7_lay 7 := ⟨lk391, lk392, _, _, rfl⟩
theorem cf_X2_ordersAt : CF yX2_ordersAt cX2_ordersAt 4 (some .int) 1 := ⟨lk808, lk121, ⟨by decide +kernel, by decide +kernel⟩, by decide +kernel⟩
theorem cv_X2_ordersAt : CV yX2_ordersAt 2 := ⟨lk807, lk54, _, _, rfl⟩
theorem cf_X7_isPlace : CF yX7_isPlace cX7_isPlace 1 (some .boolean) 1 := ⟨lk604, lk120, ⟨by decide +kernel, by decide +kernel⟩, by decide +kernel⟩
theorem cs_X7_isPlace : Cond.static yX7_isPlace ∈ wsA := lk603
theorem cf_X7_loose : CF yX7_loose cX7_loose 6 (some .int) 3 := ⟨lk804, lk120, ⟨by decide +kernel, by decide +kernel⟩, by decide +kernel⟩
theorem cv_X7_loose : CV yX7_loose 7 := ⟨lk802, lk803, _, _, rfl⟩
theorem cf_X0_lackRoomFor : CF yX0_lackRoomFor cX0_lackRoomFor 2 (some .boolean) 1 := ⟨lk611, lk123, ⟨by decide +kernel, by decide +kernel⟩, by decide +kernel⟩
theorem cv_X0_lackRoomFor : CV yX0_lackRoomFor 0 := ⟨lk610, lk31, _, _, rfl⟩
theorem cf_X0_codeOf : CF yX0_codeOf cX0_codeOf 3 (some .int) 3 := ⟨lk618, lk123, ⟨by decide +kernel, by decide +kernel⟩, by decide +kernel⟩
theorem cs_X0_codeOf : Cond.static yX0_codeOf ∈ wsA := lk617
theorem cf_X0_write : CF yX0_write cX0_write 2 none 1 := ⟨lk622, lk123, ⟨by decide +kernel, by decide +kernel⟩, by decide +kernel⟩
theorem cv_X0_write : CV yX0_write 0 := ⟨lk621, lk33, _, _, rfl⟩
theorem cf_X0_sigherOf : CF yX0_sigherOf cX0_sigherOf 1 (some .int) 1 := ⟨lk629, lk123, ⟨by decide +kernel, by decide +kernel⟩, by decide +kernel⟩
theorem cs_X0_sigherOf : Cond.static yX0_sigherOf ∈ wsA := lk628
theorem cf_X0_targetOf : CF yX0_targetOf cX0_targetOf 1 (some .int) 1 := ⟨lk635, lk123, ⟨by decide +kernel, by decide +kernel⟩, by decide +kernel⟩
theorem cs_X0_targetOf : Cond.static yX0_targetOf ∈ wsA := lk634
theorem cf_X0_whatOf : CF yX0_whatOf cX0_whatOf 1 (some .int) 1 := ⟨lk632, lk123, ⟨by decide +kernel, by decide +kernel⟩, by decide +kernel⟩
theorem cs_X0_whatOf : Cond.static yX0_whatOf ∈ wsA := lk631
theorem cf_X6_sighOrder : CF yX6_sighOrder cX6_sighOrder 4 none 3 := ⟨lk639, lk122, ⟨by decide +kernel, by decide +kernel⟩, by decide +kernel⟩
theorem cv_X6_sighOrder : CV yX6_sighOrder 6 := ⟨lk638, lk35, _, _, rfl⟩
theorem cf_X6_perform : CF yX6_perform cX6_perform 4 none 2 := ⟨lk626, lk122, ⟨by decide +kernel, by decide +kernel⟩, by decide +kernel⟩
theorem cv_X6_perform : CV yX6_perform 6 := ⟨lk625, lk34, _, _, rfl⟩
theorem cf_X7_enact : CF yX7_enact cX7_enact 5 none 3 := ⟨lk615, lk120, ⟨by decide +kernel, by decide +kernel⟩, by decide +kernel⟩
theorem cv_X7_enact : CV yX7_enact 7 := ⟨lk614, lk32, _, _, rfl⟩
theorem cf_X7_enactLot : CF yX7_enactLot cX7_enactLot 4 none 1 := ⟨lk876, lk120, ⟨by decide +kernel, by decide +kernel⟩, by decide +kernel⟩
theorem cv_X7_enactLot : CV yX7_enactLot 7 := ⟨lk875, lk63, _, _, rfl⟩
theorem cf_X7_lots : CF yX7_lots cX7_lots 6 (some .int) 2 := ⟨lk870, lk120, ⟨by decide +kernel, by decide +kernel⟩, by decide +kernel⟩
theorem cv_X7_lots : CV yX7_lots 7 := ⟨lk868, lk869, _, _, rfl⟩
theorem cf_X7_lower : CF yX7_lower cX7_lower 1 (some .long) 0 := ⟨lk888, lk120, ⟨by decide +kernel, by decide +kernel⟩, by decide +kernel⟩
theorem cv_X7_lower : CV yX7_lower 7 := ⟨lk886, lk887, _, _, rfl⟩
theorem cf_X7_markOfOrder : CF yX7_markOfOrder cX7_markOfOrder 6 (some .int) 3 := ⟨lk592, lk120, ⟨by decide +kernel, by decide +kernel⟩, by decide +kernel⟩
theorem cv_X7_markOfOrder : CV yX7_markOfOrder 7 := ⟨lk591, lk29, _, _, rfl⟩
theorem cf_X7_mark : CF yX7_mark cX7_mark 5 (some .int) 2 := ⟨lk588, lk120, ⟨by decide +kernel, by decide +kernel⟩, by decide +kernel⟩
theorem cv_X7_mark : CV yX7_mark 7 := ⟨lk586, lk587, _, _, rfl⟩
theorem cf_X4_total : CF yX4_total cX4_total 4 (some .long) 0 := ⟨lk428, lk126, ⟨by decide +kernel, by decide +kernel⟩, by decide +kernel⟩
theorem cv_X4_total : CV yX4_total 4 := ⟨lk427, lk6, _, _, rfl⟩
theorem cf_X7_mean : CF yX7_mean cX7_mean 3 (some .int) 1 := ⟨lk424, lk120, ⟨by decide +kernel, by decide +kernel⟩, by decide +kernel⟩
theorem cv_X7_mean : CV yX7_mean 7 := ⟨lk422, lk423, _, _, rfl⟩
theorem cf_X6_takeOver : CF yX6_takeOver cX6_takeOver 2 none 1 := ⟨lk744, lk122, ⟨by decide +kernel, by decide +kernel⟩, by decide +kernel⟩
theorem cv_X6_takeOver : CV yX6_takeOver 6 := ⟨lk743, lk47, _, _, rfl⟩
theorem cf_X7_plainGold : CF yX7_plainGold cX7_plainGold 4 (some .int) 1 := ⟨lk740, lk120, ⟨by decide +kernel, by decide +kernel⟩, by decide +kernel⟩
theorem cv_X7_plainGold : CV yX7_plainGold 7 := ⟨lk739, lk46, _, _, rfl⟩
theorem cf_X7_tellChance : CF yX7_tellChance cX7_tellChance 12 none 2 := ⟨lk862, lk120, ⟨by decide +kernel, by decide +kernel⟩, by decide +kernel⟩
theorem cv_X7_tellChance : CV yX7_tellChance 7 := ⟨lk861, lk62, _, _, rfl⟩
theorem cf_X7_weightOf : CF yX7_weightOf cX7_weightOf 6 (some .long) 2 := ⟨lk853, lk120, ⟨by decide +kernel, by decide +kernel⟩, by decide +kernel⟩
theorem cv_X7_weightOf : CV yX7_weightOf 7 := ⟨lk852, lk60, _, _, rfl⟩
theorem cf_X7_weightOfAll : CF yX7_weightOfAll cX7_weightOfAll 4 (some .long) 0 := ⟨lk857, lk120, ⟨by decide +kernel, by decide +kernel⟩, by decide +kernel⟩
theorem cv_X7_weightOfAll : CV yX7_weightOfAll 7 := ⟨lk856, lk61, _, _, rfl⟩
theorem cf_X7_mid : CF yX7_mid cX7_mid 5 (some .int) 1 := ⟨lk866, lk120, ⟨by decide +kernel, by decide +kernel⟩, by decide +kernel⟩
theorem cv_X7_mid : CV yX7_mid 7 := ⟨lk864, lk865, _, _, rfl⟩
theorem cf_X7_most : CF yX7_most cX7_most 2 (some .int) 1 := ⟨lk726, lk120, ⟨by decide +kernel, by decide +kernel⟩, by decide +kernel⟩
theorem cv_X7_most : CV yX7_most 7 := ⟨lk724, lk725, _, _, rfl⟩
theorem cf_X7_odds : CF yX7_odds cX7_odds 6 (some .int) 2 := ⟨lk849, lk120, ⟨by decide +kernel, by decide +kernel⟩, by decide +kernel⟩
theorem cv_X7_odds : CV yX7_odds 7 := ⟨lk847, lk848, _, _, rfl⟩
theorem cf_X7_doAgain : CF yX7_doAgain cX7_doAgain 2 none 0 := ⟨lk658, lk120, ⟨by decide +kernel, by decide +kernel⟩, by decide +kernel⟩
theorem cv_X7_doAgain : CV yX7_doAgain 7 := ⟨lk657, lk36, _, _, rfl⟩
theorem cf_X7_on : CF yX7_on cX7_on 3 (some .int) 1 := ⟨lk675, lk120, ⟨by decide +kernel, by decide +kernel⟩, by decide +kernel⟩
theorem cv_X7_on : CV yX7_on 7 := ⟨lk673, lk674, _, _, rfl⟩
theorem cf_X7_order : CF yX7_order cX7_order 3 (some .int) 2 := ⟨lk574, lk120, ⟨by decide +kernel, by decide +kernel⟩, by decide +kernel⟩
theorem cv_X7_order : CV yX7_order 7 := ⟨lk572, lk573, _, _, rfl⟩
theorem cf_X7_pairs : CF yX7_pairs cX7_pairs 6 (some .int) 1 := ⟨lk785, lk120, ⟨by decide +kernel, by decide +kernel⟩, by decide +kernel⟩
theorem cv_X7_pairs : CV yX7_pairs 7 := ⟨lk783, lk784, _, _, rfl⟩
theorem cf_X7_plain : CF yX7_plain cX7_plain 2 (some .int) 0 := ⟨lk730, lk120, ⟨by decide +kernel, by decide +kernel⟩, by decide +kernel⟩
theorem cv_X7_plain : CV yX7_plain 7 := ⟨lk728, lk729, _, _, rfl⟩
theorem cf_X7_put : CF yX7_put cX7_put 6 (some .int) 3 := ⟨lk447, lk120, ⟨by decide +kernel, by decide +kernel⟩, by decide +kernel⟩
theorem cv_X7_put : CV yX7_put 7 := ⟨lk445, lk446, _, _, rfl⟩
theorem cf_X7_rest : CF yX7_rest cX7_rest 2 (some .int) 1 := ⟨lk650, lk120, ⟨by decide +kernel, by decide +kernel⟩, by decide +kernel⟩
theorem cv_X7_rest : CV yX7_rest 7 := ⟨lk648, lk649, _, _, rfl⟩
theorem cf_X7_row : CF yX7_row cX7_row 4 (some .int) 2 := ⟨lk374, lk120, ⟨by decide +kernel, by decide +kernel⟩, by decide +kernel⟩
theorem cv_X7_row : CV yX7_row 7 := ⟨lk372, lk373, _, _, rfl⟩
theorem cf_X7_sigh : CF yX7_sigh cX7_sigh 4 (some .int) 2 := ⟨lk646, lk120, ⟨by decide +kernel, by decide +kernel⟩, by decide +kernel⟩
theorem cv_X7_sigh : CV yX7_sigh 7 := ⟨lk644, lk645, _, _, rfl⟩
theorem cf_X7_sigher : CF yX7_sigher cX7_sigher 3 (some .int) 2 := ⟨lk537, lk120, ⟨by decide +kernel, by decide +kernel⟩, by decide +kernel⟩
theorem cv_X7_sigher : CV yX7_sigher 7 := ⟨lk535, lk536, _, _, rfl⟩
theorem cf_X7_strikeTurn : CF yX7_strikeTurn cX7_strikeTurn 6 (some .int) 2 := ⟨lk841, lk120, ⟨by decide +kernel, by decide +kernel⟩, by decide +kernel⟩
theorem cv_X7_strikeTurn : CV yX7_strikeTurn 7 := ⟨lk840, lk58, _, _, rfl⟩
theorem cf_X7_goldOfTurn : CF yX7_goldOfTurn cX7_goldOfTurn 8 (some .int) 4 := ⟨lk845, lk120, ⟨by decide +kernel, by decide +kernel⟩, by decide +kernel⟩
theorem cv_X7_goldOfTurn : CV yX7_goldOfTurn 7 := ⟨lk844, lk59, _, _, rfl⟩
theorem cf_X7_guildTurn : CF yX7_guildTurn cX7_guildTurn 5 (some .int) 1 := ⟨lk837, lk120, ⟨by decide +kernel, by decide +kernel⟩, by decide +kernel⟩
theorem cv_X7_guildTurn : CV yX7_guildTurn 7 := ⟨lk836, lk57, _, _, rfl⟩
theorem cf_X7_strike : CF yX7_strike cX7_strike 2 (some .int) 1 := ⟨lk833, lk120, ⟨by decide +kernel, by decide +kernel⟩, by decide +kernel⟩
theorem cv_X7_strike : CV yX7_strike 7 := ⟨lk831, lk832, _, _, rfl⟩
theorem cf_X7_takes : CF yX7_takes cX7_takes 3 (some .int) 2 := ⟨lk679, lk120, ⟨by decide +kernel, by decide +kernel⟩, by decide +kernel⟩
theorem cv_X7_takes : CV yX7_takes 7 := ⟨lk677, lk678, _, _, rfl⟩
theorem cf_X7_tear : CF yX7_tear cX7_tear 3 (some .int) 1 := ⟨lk409, lk120, ⟨by decide +kernel, by decide +kernel⟩, by decide +kernel⟩
theorem cv_X7_tear : CV yX7_tear 7 := ⟨lk407, lk408, _, _, rfl⟩
theorem cf_X5_renew : CF yX5_renew cX5_renew 2 none 1 := ⟨lk440, lk127, ⟨by decide +kernel, by decide +kernel⟩, by decide +kernel⟩
theorem cv_X5_renew : CV yX5_renew 5 := ⟨lk439, lk8, _, _, rfl⟩
theorem cf_X7_text : CF yX7_text cX7_text 4 (some .int) 2 := ⟨lk432, lk120, ⟨by decide +kernel, by decide +kernel⟩, by decide +kernel⟩
theorem cv_X7_text : CV yX7_text 7 := ⟨lk430, lk431, _, _, rfl⟩
theorem cf_X7_undo : CF yX7_undo cX7_undo 3 (some .int) 1 := ⟨lk654, lk120, ⟨by decide +kernel, by decide +kernel⟩, by decide +kernel⟩
theorem cv_X7_undo : CV yX7_undo 7 := ⟨lk652, lk653, _, _, rfl⟩
theorem cf_X7_upper : CF yX7_upper cX7_upper 1 (some .long) 0 := ⟨lk884, lk120, ⟨by decide +kernel, by decide +kernel⟩, by decide +kernel⟩
theorem cv_X7_upper : CV yX7_upper 7 := ⟨lk882, lk883, _, _, rfl⟩
theorem cf_X7_walk : CF yX7_walk cX7_walk 4 (some .int) 2 := ⟨lk601, lk120, ⟨by decide +kernel, by decide +kernel⟩, by decide +kernel⟩
theorem cv_X7_walk : CV yX7_walk 7 := ⟨lk599, lk600, _, _, rfl⟩
theorem cf_X7_way : CF yX7_way cX7_way 3 (some .int) 2 := ⟨lk750, lk120, ⟨by decide +kernel, by decide +kernel⟩, by decide +kernel⟩
theorem cv_X7_way : CV yX7_way 7 := ⟨lk748, lk749, _, _, rfl⟩
theorem cf_X7_who : CF yX7_who cX7_who 7 (some .int) 1 := ⟨lk812, lk120, ⟨by decide +kernel, by decide +kernel⟩, by decide +kernel⟩
theorem cv_X7_who : CV yX7_who 7 := ⟨lk810, lk811, _, _, rfl⟩
theorem cf_X8_asked : CF yX8_asked cX8_asked 1 (some .int) 0 := ⟨lk1424, lk128, ⟨by decide +kernel, by decide +kernel⟩, by decide +kernel⟩
theorem cv_X8_asked : CV yX8_asked 8 := ⟨lk1422, lk1423, _, _, rfl⟩
theorem cf_X8_find : CF yX8_find cX8_find 2 (some .int) 1 := ⟨lk1065, lk128, ⟨by decide +kernel, by decide +kernel⟩, by decide +kernel⟩
theorem cv_X8_find : CV yX8_find 8 := ⟨lk1064, lk72, _, _, rfl⟩
theorem cf_X8_in : CF yX8_in cX8_in 6 (some .boolean) 3 := ⟨lk1061, lk128, ⟨by decide +kernel, by decide +kernel⟩, by decide +kernel⟩
theorem cs_X8_in : Cond.static yX8_in ∈ wsA := lk1060
theorem cf_X8_isRow : CF yX8_isRow cX8_isRow 1 (some .boolean) 1 := ⟨lk1057, lk128, ⟨by decide +kernel, by decide +kernel⟩, by decide +kernel⟩
theorem cs_X8_isRow : Cond.static yX8_isRow ∈ wsA := lk1056
theorem cf_X8_refused : CF yX8_refused cX8_refused 3 (some .int) 2 := ⟨lk1077, lk128, ⟨by decide +kernel, by decide +kernel⟩, by decide +kernel⟩
theorem cv_X8_refused : CV yX8_refused 8 := ⟨lk1076, lk74, _, _, rfl⟩
theorem cf_X8_tell : CF yX8_tell cX8_tell 2 (some .int) 1 := ⟨lk1081, lk128, ⟨by decide +kernel, by decide +kernel⟩, by decide +kernel⟩
theorem cv_X8_tell : CV yX8_tell 8 := ⟨lk1080, lk75, _, _, rfl⟩
theorem cf_X8_at : CF yX8_at cX8_at 4 (some .int) 2 := ⟨lk1085, lk128, ⟨by decide +kernel, by decide +kernel⟩, by decide +kernel⟩
theorem cv_X8_at : CV yX8_at 8 := ⟨lk1083, lk1084, _, _, rfl⟩
theorem cf_X8_isSigher : CF yX8_isSigher cX8_isSigher 2 (some .boolean) 1 := ⟨lk1156, lk128, ⟨by decide +kernel, by decide +kernel⟩, by decide +kernel⟩
theorem cv_X8_isSigher : CV yX8_isSigher 8 := ⟨lk1155, lk83, _, _, rfl⟩
theorem cf_X8_isTooDeep : CF yX8_isTooDeep cX8_isTooDeep 2 (some .boolean) 2 := ⟨lk1171, lk128, ⟨by decide +kernel, by decide +kernel⟩, by decide +kernel⟩
theorem cs_X8_isTooDeep : Cond.static yX8_isTooDeep ∈ wsA := lk1170
theorem cf_X8_isDeep : CF yX8_isDeep cX8_isDeep 1 (some .boolean) 1 := ⟨lk1181, lk128, ⟨by decide +kernel, by decide +kernel⟩, by decide +kernel⟩
theorem cs_X8_isDeep : Cond.static yX8_isDeep ∈ wsA := lk1180
theorem cf_X8_takesOf : CF yX8_takesOf cX8_takesOf 3 (some .int) 2 := ⟨lk1178, lk128, ⟨by decide +kernel, by decide +kernel⟩, by decide +kernel⟩
theorem cs_X8_takesOf : Cond.static yX8_takesOf ∈ wsA := lk1177
theorem cf_X8_isSo : CF yX8_isSo cX8_isSo 8 (some .boolean) 3 := ⟨lk1373, lk128, ⟨by decide +kernel, by decide +kernel⟩, by decide +kernel⟩
theorem cv_X8_isSo : CV yX8_isSo 8 := ⟨lk1372, lk110, _, _, rfl⟩
theorem cf_X8_isOrder : CF yX8_isOrder cX8_isOrder 2 (some .boolean) 1 := ⟨lk1189, lk128, ⟨by decide +kernel, by decide +kernel⟩, by decide +kernel⟩
theorem cv_X8_isOrder : CV yX8_isOrder 8 := ⟨lk1188, lk87, _, _, rfl⟩
theorem cf_X8_noPairs : CF yX8_noPairs cX8_noPairs 4 (some .int) 1 := ⟨lk1369, lk128, ⟨by decide +kernel, by decide +kernel⟩, by decide +kernel⟩
theorem cv_X8_noPairs : CV yX8_noPairs 8 := ⟨lk1368, lk109, _, _, rfl⟩
theorem cf_X8_breaths : CF yX8_breaths cX8_breaths 6 (some .int) 2 := ⟨lk1381, lk128, ⟨by decide +kernel, by decide +kernel⟩, by decide +kernel⟩
theorem cv_X8_breaths : CV yX8_breaths 8 := ⟨lk1379, lk1380, _, _, rfl⟩
theorem cf_X8_some : CF yX8_some cX8_some 1 (some .int) 1 := ⟨lk1215, lk128, ⟨by decide +kernel, by decide +kernel⟩, by decide +kernel⟩
theorem cs_X8_some : Cond.static yX8_some ∈ wsA := lk1214
theorem cf_X8_bringsBy : CF yX8_bringsBy cX8_bringsBy 2 (some .int) 2 := ⟨lk1212, lk128, ⟨by decide +kernel, by decide +kernel⟩, by decide +kernel⟩
theorem cs_X8_bringsBy : Cond.static yX8_bringsBy ∈ wsA := lk1211
theorem cf_X8_brought : CF yX8_brought cX8_brought 3 (some .int) 2 := ⟨lk1209, lk128, ⟨by decide +kernel, by decide +kernel⟩, by decide +kernel⟩
theorem cv_X8_brought : CV yX8_brought 8 := ⟨lk1208, lk91, _, _, rfl⟩
theorem cf_X8_brings : CF yX8_brings cX8_brings 3 (some .int) 2 := ⟨lk1268, lk128, ⟨by decide +kernel, by decide +kernel⟩, by decide +kernel⟩
theorem cv_X8_brings : CV yX8_brings 8 := ⟨lk1266, lk1267, _, _, rfl⟩
theorem cf_X8_bits : CF yX8_bits cX8_bits 3 (some .int) 1 := ⟨lk1287, lk128, ⟨by decide +kernel, by decide +kernel⟩, by decide +kernel⟩
theorem cs_X8_bits : Cond.static yX8_bits ∈ wsA := lk1286
theorem cf_X8_apart : CF yX8_apart cX8_apart 2 (some .int) 2 := ⟨lk1223, lk128, ⟨by decide +kernel, by decide +kernel⟩, by decide +kernel⟩
theorem cs_X8_apart : Cond.static yX8_apart ∈ wsA := lk1222
theorem cf_X8_areInTune : CF yX8_areInTune cX8_areInTune 4 (some .boolean) 3 := ⟨lk1348, lk128, ⟨by decide +kernel, by decide +kernel⟩, by decide +kernel⟩
theorem cv_X8_areInTune : CV yX8_areInTune 8 := ⟨lk1347, lk107, _, _, rfl⟩
theorem cf_X8_has : CF yX8_has cX8_has 2 (some .boolean) 2 := ⟨lk1168, lk128, ⟨by decide +kernel, by decide +kernel⟩, by decide +kernel⟩
theorem cs_X8_has : Cond.static yX8_has ∈ wsA := lk1167
theorem cf_X8_isChoir : CF yX8_isChoir cX8_isChoir 6 (some .boolean) 2 := ⟨lk1356, lk128, ⟨by decide +kernel, by decide +kernel⟩, by decide +kernel⟩
theorem cv_X8_isChoir : CV yX8_isChoir 8 := ⟨lk1355, lk108, _, _, rfl⟩
theorem cf_X8_choir : CF yX8_choir cX8_choir 4 (some .int) 1 := ⟨lk1352, lk128, ⟨by decide +kernel, by decide +kernel⟩, by decide +kernel⟩
theorem cv_X8_choir : CV yX8_choir 8 := ⟨lk1350, lk1351, _, _, rfl⟩
theorem cf_X8_isSpan : CF yX8_isSpan cX8_isSpan 4 (some .boolean) 3 := ⟨lk1097, lk128, ⟨by decide +kernel, by decide +kernel⟩, by decide +kernel⟩
theorem cv_X8_isSpan : CV yX8_isSpan 8 := ⟨lk1096, lk76, _, _, rfl⟩
theorem cf_X8_copy : CF yX8_copy cX8_copy 9 (some .int) 5 := ⟨lk1093, lk128, ⟨by decide +kernel, by decide +kernel⟩, by decide +kernel⟩
theorem cv_X8_copy : CV yX8_copy 8 := ⟨lk1091, lk1092, _, _, rfl⟩
theorem cf_X8_allBreath : CF yX8_allBreath cX8_allBreath 3 (some .int) 0 := ⟨lk1445, lk128, ⟨by decide +kernel, by decide +kernel⟩, by decide +kernel⟩
theorem cv_X8_allBreath : CV yX8_allBreath 8 := ⟨lk1444, lk116, _, _, rfl⟩
theorem cf_X8_thereOf : CF yX8_thereOf cX8_thereOf 4 (some .int) 1 := ⟨lk1453, lk128, ⟨by decide +kernel, by decide +kernel⟩, by decide +kernel⟩
theorem cv_X8_thereOf : CV yX8_thereOf 8 := ⟨lk1452, lk118, _, _, rfl⟩
theorem cf_X8_isOf : CF yX8_isOf cX8_isOf 4 (some .boolean) 2 := ⟨lk1201, lk128, ⟨by decide +kernel, by decide +kernel⟩, by decide +kernel⟩
theorem cv_X8_isOf : CV yX8_isOf 8 := ⟨lk1200, lk89, _, _, rfl⟩
theorem cf_X8_those : CF yX8_those cX8_those 4 (some .int) 1 := ⟨lk1449, lk128, ⟨by decide +kernel, by decide +kernel⟩, by decide +kernel⟩
theorem cv_X8_those : CV yX8_those 8 := ⟨lk1448, lk117, _, _, rfl⟩
theorem cf_X8_countOf : CF yX8_countOf cX8_countOf 2 (some .int) 1 := ⟨lk1441, lk128, ⟨by decide +kernel, by decide +kernel⟩, by decide +kernel⟩
theorem cv_X8_countOf : CV yX8_countOf 8 := ⟨lk1440, lk115, _, _, rfl⟩
theorem cf_X8_count : CF yX8_count cX8_count 2 (some .int) 1 := ⟨lk1436, lk128, ⟨by decide +kernel, by decide +kernel⟩, by decide +kernel⟩
theorem cv_X8_count : CV yX8_count 8 := ⟨lk1434, lk1435, _, _, rfl⟩
theorem cf_X8_taken : CF yX8_taken cX8_taken 3 (some .int) 2 := ⟨lk1175, lk128, ⟨by decide +kernel, by decide +kernel⟩, by decide +kernel⟩
theorem cv_X8_taken : CV yX8_taken 8 := ⟨lk1174, lk86, _, _, rfl⟩
theorem cf_X8_can : CF yX8_can cX8_can 4 (some .boolean) 3 := ⟨lk1165, lk128, ⟨by decide +kernel, by decide +kernel⟩, by decide +kernel⟩
theorem cv_X8_can : CV yX8_can 8 := ⟨lk1164, lk85, _, _, rfl⟩
theorem cf_X8_orderTold : CF yX8_orderTold cX8_orderTold 5 (some .int) 2 := ⟨lk1193, lk128, ⟨by decide +kernel, by decide +kernel⟩, by decide +kernel⟩
theorem cv_X8_orderTold : CV yX8_orderTold 8 := ⟨lk1192, lk88, _, _, rfl⟩
theorem cf_X8_sigherTold : CF yX8_sigherTold cX8_sigherTold 5 (some .int) 2 := ⟨lk1161, lk128, ⟨by decide +kernel, by decide +kernel⟩, by decide +kernel⟩
theorem cv_X8_sigherTold : CV yX8_sigherTold 8 := ⟨lk1160, lk84, _, _, rfl⟩
theorem cf_X8_digest : CF yX8_digest cX8_digest 5 (some .long) 0 := ⟨lk1465, lk128, ⟨by decide +kernel, by decide +kernel⟩, by decide +kernel⟩
theorem cv_X8_digest : CV yX8_digest 8 := ⟨lk1463, lk1464, _, _, rfl⟩
theorem cf_X8_beginLine : CF yX8_beginLine cX8_beginLine 2 none 1 := ⟨lk1324, lk128, ⟨by decide +kernel, by decide +kernel⟩, by decide +kernel⟩
theorem cv_X8_beginLine : CV yX8_beginLine 8 := ⟨lk1323, lk103, _, _, rfl⟩
theorem cf_X8_makeRow : CF yX8_makeRow cX8_makeRow 4 none 2 := ⟨lk1069, lk128, ⟨by decide +kernel, by decide +kernel⟩, by decide +kernel⟩
theorem cv_X8_makeRow : CV yX8_makeRow 8 := ⟨lk1068, lk73, _, _, rfl⟩
theorem cf_X8_hoursTo : CF yX8_hoursTo cX8_hoursTo 2 (some .int) 1 := ⟨lk1336, lk128, ⟨by decide +kernel, by decide +kernel⟩, by decide +kernel⟩
theorem cv_X8_hoursTo : CV yX8_hoursTo 8 := ⟨lk1335, lk106, _, _, rfl⟩
theorem cf_X8_mayNext : CF yX8_mayNext cX8_mayNext 5 (some .boolean) 3 := ⟨lk1332, lk128, ⟨by decide +kernel, by decide +kernel⟩, by decide +kernel⟩
theorem cv_X8_mayNext : CV yX8_mayNext 8 := ⟨lk1331, lk105, _, _, rfl⟩
theorem cf_X8_nextLine : CF yX8_nextLine cX8_nextLine 5 (some .boolean) 2 := ⟨lk1328, lk128, ⟨by decide +kernel, by decide +kernel⟩, by decide +kernel⟩
theorem cv_X8_nextLine : CV yX8_nextLine 8 := ⟨lk1327, lk104, _, _, rfl⟩
theorem cf_X8_dusk : CF yX8_dusk cX8_dusk 6 (some .int) 3 := ⟨lk1319, lk128, ⟨by decide +kernel, by decide +kernel⟩, by decide +kernel⟩
theorem cv_X8_dusk : CV yX8_dusk 8 := ⟨lk1317, lk1318, _, _, rfl⟩
theorem cf_X8_here : CF yX8_here cX8_here 1 (some .int) 0 := ⟨lk1129, lk128, ⟨by decide +kernel, by decide +kernel⟩, by decide +kernel⟩
theorem cv_X8_here : CV yX8_here 8 := ⟨lk1128, lk79, _, _, rfl⟩
theorem cf_X8_figure : CF yX8_figure cX8_figure 3 (some .int) 2 := ⟨lk1137, lk128, ⟨by decide +kernel, by decide +kernel⟩, by decide +kernel⟩
theorem cv_X8_figure : CV yX8_figure 8 := ⟨lk1136, lk81, _, _, rfl⟩
theorem cf_X8_readsOrder : CF yX8_readsOrder cX8_readsOrder 4 (some .boolean) 0 := ⟨lk1133, lk128, ⟨by decide +kernel, by decide +kernel⟩, by decide +kernel⟩
theorem cv_X8_readsOrder : CV yX8_readsOrder 8 := ⟨lk1132, lk80, _, _, rfl⟩
theorem cf_X8_kindOfLetter : CF yX8_kindOfLetter cX8_kindOfLetter 1 (some .int) 1 := ⟨lk1144, lk128, ⟨by decide +kernel, by decide +kernel⟩, by decide +kernel⟩
theorem cs_X8_kindOfLetter : Cond.static yX8_kindOfLetter ∈ wsA := lk1143
theorem cf_X8_readsSigher : CF yX8_readsSigher cX8_readsSigher 4 (some .boolean) 0 := ⟨lk1141, lk128, ⟨by decide +kernel, by decide +kernel⟩, by decide +kernel⟩
theorem cv_X8_readsSigher : CV yX8_readsSigher 8 := ⟨lk1140, lk82, _, _, rfl⟩
theorem cf_X8_skip : CF yX8_skip cX8_skip 1 none 0 := ⟨lk1125, lk128, ⟨by decide +kernel, by decide +kernel⟩, by decide +kernel⟩
theorem cv_X8_skip : CV yX8_skip 8 := ⟨lk1124, lk78, _, _, rfl⟩
theorem cf_X8_faultOf : CF yX8_faultOf cX8_faultOf 3 (some .int) 1 := ⟨lk1121, lk128, ⟨by decide +kernel, by decide +kernel⟩, by decide +kernel⟩
theorem cv_X8_faultOf : CV yX8_faultOf 8 := ⟨lk1120, lk77, _, _, rfl⟩
theorem cf_X8_isText : CF yX8_isText cX8_isText 1 (some .boolean) 1 := ⟨lk1108, lk128, ⟨by decide +kernel, by decide +kernel⟩, by decide +kernel⟩
theorem cs_X8_isText : Cond.static yX8_isText ∈ wsA := lk1107
theorem cf_X8_fault : CF yX8_fault cX8_fault 2 (some .int) 1 := ⟨lk1117, lk128, ⟨by decide +kernel, by decide +kernel⟩, by decide +kernel⟩
theorem cv_X8_fault : CV yX8_fault 8 := ⟨lk1115, lk1116, _, _, rfl⟩
theorem cf_X8_finding : CF yX8_finding cX8_finding 1 (some .int) 0 := ⟨lk1457, lk128, ⟨by decide +kernel, by decide +kernel⟩, by decide +kernel⟩
theorem cv_X8_finding : CV yX8_finding 8 := ⟨lk1455, lk1456, _, _, rfl⟩
theorem cf_X8_findings : CF yX8_findings cX8_findings 2 (some .int) 1 := ⟨lk1461, lk128, ⟨by decide +kernel, by decide +kernel⟩, by decide +kernel⟩
theorem cv_X8_findings : CV yX8_findings 8 := ⟨lk1459, lk1460, _, _, rfl⟩
theorem cf_X8_copyPart : CF yX8_copyPart cX8_copyPart 4 none 2 := ⟨lk1284, lk128, ⟨by decide +kernel, by decide +kernel⟩, by decide +kernel⟩
theorem cv_X8_copyPart : CV yX8_copyPart 8 := ⟨lk1283, lk98, _, _, rfl⟩
theorem cf_X8_sighsAt : CF yX8_sighsAt cX8_sighsAt 4 none 3 := ⟨lk1235, lk128, ⟨by decide +kernel, by decide +kernel⟩, by decide +kernel⟩
theorem cv_X8_sighsAt : CV yX8_sighsAt 8 := ⟨lk1234, lk93, _, _, rfl⟩
theorem cf_X8_doesGivens : CF yX8_doesGivens cX8_doesGivens 3 (some .boolean) 0 := ⟨lk1280, lk128, ⟨by decide +kernel, by decide +kernel⟩, by decide +kernel⟩
theorem cv_X8_doesGivens : CV yX8_doesGivens 8 := ⟨lk1279, lk97, _, _, rfl⟩
theorem cf_X8_nextGivens : CF yX8_nextGivens cX8_nextGivens 2 (some .boolean) 0 := ⟨lk1291, lk128, ⟨by decide +kernel, by decide +kernel⟩, by decide +kernel⟩
theorem cv_X8_nextGivens : CV yX8_nextGivens 8 := ⟨lk1290, lk99, _, _, rfl⟩
theorem cf_X8_giveMost : CF yX8_giveMost cX8_giveMost 7 (some .int) 2 := ⟨lk1276, lk128, ⟨by decide +kernel, by decide +kernel⟩, by decide +kernel⟩
theorem cv_X8_giveMost : CV yX8_giveMost 8 := ⟨lk1275, lk96, _, _, rfl⟩
theorem cf_X8_give : CF yX8_give cX8_give 2 (some .int) 1 := ⟨lk1272, lk128, ⟨by decide +kernel, by decide +kernel⟩, by decide +kernel⟩
theorem cv_X8_give : CV yX8_give 8 := ⟨lk1270, lk1271, _, _, rfl⟩
theorem cf_X8_guild : CF yX8_guild cX8_guild 3 (some .int) 1 := ⟨lk1148, lk128, ⟨by decide +kernel, by decide +kernel⟩, by decide +kernel⟩
theorem cv_X8_guild : CV yX8_guild 8 := ⟨lk1146, lk1147, _, _, rfl⟩
theorem cf_X8_areOrders : CF yX8_areOrders cX8_areOrders 2 (some .boolean) 1 := ⟨lk1311, lk128, ⟨by decide +kernel, by decide +kernel⟩, by decide +kernel⟩
theorem cv_X8_areOrders : CV yX8_areOrders 8 := ⟨lk1310, lk101, _, _, rfl⟩
theorem cf_X8_wayOf : CF yX8_wayOf cX8_wayOf 7 (some .int) 2 := ⟨lk1315, lk128, ⟨by decide +kernel, by decide +kernel⟩, by decide +kernel⟩
theorem cv_X8_wayOf : CV yX8_wayOf 8 := ⟨lk1314, lk102, _, _, rfl⟩
theorem cf_X8_hours : CF yX8_hours cX8_hours 6 (some .int) 2 := ⟨lk1340, lk128, ⟨by decide +kernel, by decide +kernel⟩, by decide +kernel⟩
theorem cv_X8_hours : CV yX8_hours 8 := ⟨lk1338, lk1339, _, _, rfl⟩
theorem cf_X8_copyGuild : CF yX8_copyGuild cX8_copyGuild 4 none 2 := ⟨lk1256, lk128, ⟨by decide +kernel, by decide +kernel⟩, by decide +kernel⟩
theorem cv_X8_copyGuild : CV yX8_copyGuild 8 := ⟨lk1255, lk95, _, _, rfl⟩
theorem cf_X8_keep : CF yX8_keep cX8_keep 2 (some .int) 1 := ⟨lk1251, lk128, ⟨by decide +kernel, by decide +kernel⟩, by decide +kernel⟩
theorem cv_X8_keep : CV yX8_keep 8 := ⟨lk1249, lk1250, _, _, rfl⟩
theorem cf_X8_kinds : CF yX8_kinds cX8_kinds 6 (some .int) 2 := ⟨lk1377, lk128, ⟨by decide +kernel, by decide +kernel⟩, by decide +kernel⟩
theorem cv_X8_kinds : CV yX8_kinds 8 := ⟨lk1375, lk1376, _, _, rfl⟩
theorem cf_X8_lay : CF yX8_lay cX8_lay 6 (some .int) 3 := ⟨lk1073, lk128, ⟨by decide +kernel, by decide +kernel⟩, by decide +kernel⟩
theorem cv_X8_lay : CV yX8_lay 8 := ⟨lk1071, lk1072, _, _, rfl⟩
theorem cf_X8_loose : CF yX8_loose cX8_loose 7 (some .int) 3 := ⟨lk1360, lk128, ⟨by decide +kernel, by decide +kernel⟩, by decide +kernel⟩
theorem cv_X8_loose : CV yX8_loose 8 := ⟨lk1358, lk1359, _, _, rfl⟩
theorem cf_X8_keepPast : CF yX8_keepPast cX8_keepPast 2 none 0 := ⟨lk1227, lk128, ⟨by decide +kernel, by decide +kernel⟩, by decide +kernel⟩
theorem cv_X8_keepPast : CV yX8_keepPast 8 := ⟨lk1226, lk92, _, _, rfl⟩
theorem cf_X8_rests : CF yX8_rests cX8_rests 2 none 1 := ⟨lk1243, lk128, ⟨by decide +kernel, by decide +kernel⟩, by decide +kernel⟩
theorem cv_X8_rests : CV yX8_rests 8 := ⟨lk1242, lk94, _, _, rfl⟩
theorem cf_X8_lots : CF yX8_lots cX8_lots 8 (some .int) 2 := ⟨lk1415, lk128, ⟨by decide +kernel, by decide +kernel⟩, by decide +kernel⟩
theorem cv_X8_lots : CV yX8_lots 8 := ⟨lk1413, lk1414, _, _, rfl⟩
theorem cf_X8_lower : CF yX8_lower cX8_lower 1 (some .long) 0 := ⟨lk1432, lk128, ⟨by decide +kernel, by decide +kernel⟩, by decide +kernel⟩
theorem cv_X8_lower : CV yX8_lower 8 := ⟨lk1430, lk1431, _, _, rfl⟩
theorem cf_X8_markOf : CF yX8_markOf cX8_markOf 4 (some .int) 3 := ⟨lk1205, lk128, ⟨by decide +kernel, by decide +kernel⟩, by decide +kernel⟩
theorem cv_X8_markOf : CV yX8_markOf 8 := ⟨lk1204, lk90, _, _, rfl⟩
theorem cf_X8_mark : CF yX8_mark cX8_mark 5 (some .int) 2 := ⟨lk1197, lk128, ⟨by decide +kernel, by decide +kernel⟩, by decide +kernel⟩
theorem cv_X8_mark : CV yX8_mark 8 := ⟨lk1195, lk1196, _, _, rfl⟩
theorem cf_X8_mean : CF yX8_mean cX8_mean 5 (some .int) 1 := ⟨lk1101, lk128, ⟨by decide +kernel, by decide +kernel⟩, by decide +kernel⟩
theorem cv_X8_mean : CV yX8_mean 8 := ⟨lk1099, lk1100, _, _, rfl⟩
theorem cf_X8_doesPlain : CF yX8_doesPlain cX8_doesPlain 4 none 1 := ⟨lk1303, lk128, ⟨by decide +kernel, by decide +kernel⟩, by decide +kernel⟩
theorem cv_X8_doesPlain : CV yX8_doesPlain 8 := ⟨lk1302, lk100, _, _, rfl⟩
theorem cf_X8_tellParts : CF yX8_tellParts cX8_tellParts 11 (some .int) 2 := ⟨lk1407, lk128, ⟨by decide +kernel, by decide +kernel⟩, by decide +kernel⟩
theorem cv_X8_tellParts : CV yX8_tellParts 8 := ⟨lk1406, lk114, _, _, rfl⟩
theorem cf_X8_tellPlain : CF yX8_tellPlain cX8_tellPlain 12 (some .int) 3 := ⟨lk1403, lk128, ⟨by decide +kernel, by decide +kernel⟩, by decide +kernel⟩
theorem cv_X8_tellPlain : CV yX8_tellPlain 8 := ⟨lk1402, lk113, _, _, rfl⟩
theorem cf_X8_mid : CF yX8_mid cX8_mid 2 (some .int) 1 := ⟨lk1411, lk128, ⟨by decide +kernel, by decide +kernel⟩, by decide +kernel⟩
theorem cv_X8_mid : CV yX8_mid 8 := ⟨lk1409, lk1410, _, _, rfl⟩
theorem cf_X8_most : CF yX8_most cX8_most 2 (some .int) 1 := ⟨lk1295, lk128, ⟨by decide +kernel, by decide +kernel⟩, by decide +kernel⟩
theorem cv_X8_most : CV yX8_most 8 := ⟨lk1293, lk1294, _, _, rfl⟩
theorem cf_X8_odds : CF yX8_odds cX8_odds 3 (some .int) 2 := ⟨lk1397, lk128, ⟨by decide +kernel, by decide +kernel⟩, by decide +kernel⟩
theorem cv_X8_odds : CV yX8_odds 8 := ⟨lk1395, lk1396, _, _, rfl⟩
theorem cf_X8_on : CF yX8_on cX8_on 2 (some .int) 1 := ⟨lk1260, lk128, ⟨by decide +kernel, by decide +kernel⟩, by decide +kernel⟩
theorem cv_X8_on : CV yX8_on 8 := ⟨lk1258, lk1259, _, _, rfl⟩
theorem cf_X8_order : CF yX8_order cX8_order 3 (some .int) 2 := ⟨lk1185, lk128, ⟨by decide +kernel, by decide +kernel⟩, by decide +kernel⟩
theorem cv_X8_order : CV yX8_order 8 := ⟨lk1183, lk1184, _, _, rfl⟩
theorem cf_X8_pairs : CF yX8_pairs cX8_pairs 5 (some .int) 1 := ⟨lk1344, lk128, ⟨by decide +kernel, by decide +kernel⟩, by decide +kernel⟩
theorem cv_X8_pairs : CV yX8_pairs 8 := ⟨lk1342, lk1343, _, _, rfl⟩
theorem cf_X8_plain : CF yX8_plain cX8_plain 1 (some .int) 0 := ⟨lk1299, lk128, ⟨by decide +kernel, by decide +kernel⟩, by decide +kernel⟩
theorem cv_X8_plain : CV yX8_plain 8 := ⟨lk1297, lk1298, _, _, rfl⟩
theorem cf_X8_put : CF yX8_put cX8_put 5 (some .int) 3 := ⟨lk1113, lk128, ⟨by decide +kernel, by decide +kernel⟩, by decide +kernel⟩
theorem cv_X8_put : CV yX8_put 8 := ⟨lk1111, lk1112, _, _, rfl⟩
theorem cf_X8_rest : CF yX8_rest cX8_rest 2 (some .int) 1 := ⟨lk1239, lk128, ⟨by decide +kernel, by decide +kernel⟩, by decide +kernel⟩
theorem cv_X8_rest : CV yX8_rest 8 := ⟨lk1237, lk1238, _, _, rfl⟩
theorem cf_X8_row : CF yX8_row cX8_row 3 (some .int) 2 := ⟨lk1054, lk128, ⟨by decide +kernel, by decide +kernel⟩, by decide +kernel⟩
theorem cv_X8_row : CV yX8_row 8 := ⟨lk1052, lk1053, _, _, rfl⟩
theorem cf_X8_sigh : CF yX8_sigh cX8_sigh 3 (some .int) 2 := ⟨lk1231, lk128, ⟨by decide +kernel, by decide +kernel⟩, by decide +kernel⟩
theorem cv_X8_sigh : CV yX8_sigh 8 := ⟨lk1229, lk1230, _, _, rfl⟩
theorem cf_X8_sigher : CF yX8_sigher cX8_sigher 3 (some .int) 2 := ⟨lk1152, lk128, ⟨by decide +kernel, by decide +kernel⟩, by decide +kernel⟩
theorem cv_X8_sigher : CV yX8_sigher 8 := ⟨lk1150, lk1151, _, _, rfl⟩
theorem cf_X8_mostNow : CF yX8_mostNow cX8_mostNow 5 (some .int) 1 := ⟨lk1389, lk128, ⟨by decide +kernel, by decide +kernel⟩, by decide +kernel⟩
theorem cv_X8_mostNow : CV yX8_mostNow 8 := ⟨lk1388, lk111, _, _, rfl⟩
theorem cf_X8_leastBehind : CF yX8_leastBehind cX8_leastBehind 5 (some .int) 1 := ⟨lk1393, lk128, ⟨by decide +kernel, by decide +kernel⟩, by decide +kernel⟩
theorem cv_X8_leastBehind : CV yX8_leastBehind 8 := ⟨lk1392, lk112, _, _, rfl⟩
theorem cf_X8_strike : CF yX8_strike cX8_strike 7 (some .int) 1 := ⟨lk1385, lk128, ⟨by decide +kernel, by decide +kernel⟩, by decide +kernel⟩
theorem cv_X8_strike : CV yX8_strike 8 := ⟨lk1383, lk1384, _, _, rfl⟩
theorem cf_X8_takes : CF yX8_takes cX8_takes 3 (some .int) 2 := ⟨lk1264, lk128, ⟨by decide +kernel, by decide +kernel⟩, by decide +kernel⟩
theorem cv_X8_takes : CV yX8_takes 8 := ⟨lk1262, lk1263, _, _, rfl⟩
theorem cf_X8_tear : CF yX8_tear cX8_tear 2 (some .int) 1 := ⟨lk1089, lk128, ⟨by decide +kernel, by decide +kernel⟩, by decide +kernel⟩
theorem cv_X8_tear : CV yX8_tear 8 := ⟨lk1087, lk1088, _, _, rfl⟩
theorem cf_X8_text : CF yX8_text cX8_text 4 (some .int) 2 := ⟨lk1105, lk128, ⟨by decide +kernel, by decide +kernel⟩, by decide +kernel⟩
theorem cv_X8_text : CV yX8_text 8 := ⟨lk1103, lk1104, _, _, rfl⟩
theorem cf_X8_undo : CF yX8_undo cX8_undo 4 (some .int) 1 := ⟨lk1247, lk128, ⟨by decide +kernel, by decide +kernel⟩, by decide +kernel⟩
theorem cv_X8_undo : CV yX8_undo 8 := ⟨lk1245, lk1246, _, _, rfl⟩
theorem cf_X8_upper : CF yX8_upper cX8_upper 1 (some .long) 0 := ⟨lk1428, lk128, ⟨by decide +kernel, by decide +kernel⟩, by decide +kernel⟩
theorem cv_X8_upper : CV yX8_upper 8 := ⟨lk1426, lk1427, _, _, rfl⟩
theorem cf_X8_walk : CF yX8_walk cX8_walk 4 (some .int) 2 := ⟨lk1219, lk128, ⟨by decide +kernel, by decide +kernel⟩, by decide +kernel⟩
theorem cv_X8_walk : CV yX8_walk 8 := ⟨lk1217, lk1218, _, _, rfl⟩
theorem cf_X8_way : CF yX8_way cX8_way 3 (some .int) 2 := ⟨lk1307, lk128, ⟨by decide +kernel, by decide +kernel⟩, by decide +kernel⟩
theorem cv_X8_way : CV yX8_way 8 := ⟨lk1305, lk1306, _, _, rfl⟩
theorem cf_X8_who : CF yX8_who cX8_who 5 (some .int) 1 := ⟨lk1365, lk128, ⟨by decide +kernel, by decide +kernel⟩, by decide +kernel⟩
theorem cv_X8_who : CV yX8_who 8 := ⟨lk1363, lk1364, _, _, rfl⟩

section RMath
variable {p : Program} {l : Launch} {e : Env} {R : Room} {s : State} {m : MethodId} {args : Array Value} {below : List Frame} {meth : Method} {c : Code} {H : Heap} {locs : List Loc} {cells slots : Nat} {Q : State → Prop}
variable {own : String} {cc : ByteArray} {nL : Nat} {ret : Option FieldType} {D : va_G} {B : Nat} {ca : Nat → ClassId} {st : Nat → Nat} {pc idx : Nat} {ls : Array Slot} {rest : List Value}
theorem rm_max_code : Cond.code Lib.Math.max.name Lib.Math.max.code 2 (some .int) ∈ wsA := in_A 516 (by decide +kernel) rfl
theorem rm_max (C : Cx p s m args meth c own cc nL ret D B ca st) (hl : Cond.methodLink own idx yJ9_max_7cf53 ∈ wsA) (hls : ls.size = nL) (hroom : 1 ≤ R.frames ∧ (rest.map fun v => v.category).sum + 13 ≤ R.locals) (hcs : cells ≤ R.cells ∧ slots ≤ R.slots) {x y : Int32} (hd : decode cc pc = .ok (.invokestatic idx, 3))
    (kk : W p l e R s m args below meth c H locs cells slots Q (F0 m (pc + 3) ls (.int (f_J9_max_7cf53 x y) :: rest))) : W p l e R s m args below meth c H locs cells slots Q (F0 m pc ls (.int y :: .int x :: rest)) :=
  va_mmax C.1 C.2.1 (C.2.2.1.trans hls.symm) C.2.2.2.1 (C.2.2.2.2.1 _ hl) (C.2.2.2.2.1 _ cs_J9_max_7cf53) (C.2.2.2.2.1 _ lk131) (C.2.2.2.2.1 _ rm_max_code) hroom.1 hroom.2 hcs.1 hcs.2 hd kk
theorem rm_min_code : Cond.code Lib.Math.min.name Lib.Math.min.code 2 (some .int) ∈ wsA := in_A 489 (by decide +kernel) rfl
theorem rm_min (C : Cx p s m args meth c own cc nL ret D B ca st) (hl : Cond.methodLink own idx yJ9_min_7cf53 ∈ wsA) (hls : ls.size = nL) (hroom : 1 ≤ R.frames ∧ (rest.map fun v => v.category).sum + 13 ≤ R.locals) (hcs : cells ≤ R.cells ∧ slots ≤ R.slots) {x y : Int32} (hd : decode cc pc = .ok (.invokestatic idx, 3))
    (kk : W p l e R s m args below meth c H locs cells slots Q (F0 m (pc + 3) ls (.int (f_J9_min_7cf53 x y) :: rest))) : W p l e R s m args below meth c H locs cells slots Q (F0 m pc ls (.int y :: .int x :: rest)) :=
  va_mmin C.1 C.2.1 (C.2.2.1.trans hls.symm) C.2.2.2.1 (C.2.2.2.2.1 _ hl) (C.2.2.2.2.1 _ cs_J9_min_7cf53) (C.2.2.2.2.1 _ lk131) (C.2.2.2.2.1 _ rm_min_code) hroom.1 hroom.2 hcs.1 hcs.2 hd kk
theorem rm_abs_code : Cond.code Lib.Math.abs.name Lib.Math.abs.code 1 (some .int) ∈ wsA := in_A 607 (by decide +kernel) rfl
theorem rm_abs (C : Cx p s m args meth c own cc nL ret D B ca st) (hl : Cond.methodLink own idx yJ9_abs_0f7a4 ∈ wsA) (hls : ls.size = nL) (hroom : 1 ≤ R.frames ∧ (rest.map fun v => v.category).sum + 13 ≤ R.locals) (hcs : cells ≤ R.cells ∧ slots ≤ R.slots) {x : Int32} (hd : decode cc pc = .ok (.invokestatic idx, 3))
    (kk : W p l e R s m args below meth c H locs cells slots Q (F0 m (pc + 3) ls (.int (f_J9_abs_0f7a4 x) :: rest))) : W p l e R s m args below meth c H locs cells slots Q (F0 m pc ls (.int x :: rest)) :=
  va_mabs C.1 C.2.1 (C.2.2.1.trans hls.symm) C.2.2.2.1 (C.2.2.2.2.1 _ hl) (C.2.2.2.2.1 _ cs_J9_abs_0f7a4) (C.2.2.2.2.1 _ lk131) (C.2.2.2.2.1 _ rm_abs_code) hroom.1 hroom.2 hcs.1 hcs.2 hd kk
end RMath
