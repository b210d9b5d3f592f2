theorem lk137 : Cond.code yX7_init cX7_init 2 none ∈ wsA := in_A 137 (by decide +kernel) rfl
theorem lk138 : Cond.methodLink RX7 1 Lib.objectInit ∈ wsA := in_A 138 (by decide +kernel) rfl
theorem lk139 : Cond.instanceMethod Lib.objectInit ∈ wsA := in_A 139 (by decide +kernel) rfl
theorem lk140 : Cond.code Lib.objectInit ⟨#[0xb1]⟩ 1 none ∈ wsA := in_A 140 (by decide +kernel) rfl
theorem lk141 : Cond.classLink RX7 9 RX4 ∈ wsA := in_A 141 (by decide +kernel) rfl
theorem lk143 : Cond.classLink RX7 15 RX5 ∈ wsA := in_A 143 (by decide +kernel) rfl
theorem lk145 : Cond.classLink RX7 21 RX2 ∈ wsA := in_A 145 (by decide +kernel) rfl
theorem lk146 : Cond.instantiable RX2 10 ∈ wsA := in_A 146 (by decide +kernel) rfl
theorem lk147 : Cond.methodLinkNest RX7 23 yX2_init RX7 ∈ nwA := in_N 147 (by decide +kernel) rfl
theorem lk148 : Cond.instanceMethod yX2_init ∈ wsA := in_A 148 (by decide +kernel) rfl
theorem lk149 : Cond.code yX2_init cX2_init 1 none ∈ wsA := in_A 149 (by decide +kernel) rfl
theorem lk150 : Cond.methodLink RX2 3 Lib.objectInit ∈ wsA := in_A 150 (by decide +kernel) rfl
theorem lk195 : Cond.arrayClass (newarray.typeOf .int) ∈ wsA := in_A 195 (by decide +kernel) rfl
theorem lk196 : Cond.classLink RX7 31 RX6 ∈ wsA := in_A 196 (by decide +kernel) rfl
theorem lk197 : Cond.instantiable RX6 4 ∈ wsA := in_A 197 (by decide +kernel) rfl
theorem lk198 : Cond.methodLinkNest RX7 33 yX6_init RX7 ∈ nwA := in_N 198 (by decide +kernel) rfl
theorem lk199 : Cond.instanceMethod yX6_init ∈ wsA := in_A 199 (by decide +kernel) rfl
theorem lk200 : Cond.code yX6_init cX6_init 1 none ∈ wsA := in_A 200 (by decide +kernel) rfl
theorem lk201 : Cond.methodLink RX6 3 Lib.objectInit ∈ wsA := in_A 201 (by decide +kernel) rfl
theorem lk224 : Cond.classLink RX7 41 RX0 ∈ wsA := in_A 224 (by decide +kernel) rfl
theorem lk225 : Cond.instantiable RX0 2 ∈ wsA := in_A 225 (by decide +kernel) rfl
theorem lk226 : Cond.methodLinkNest RX7 43 yX0_init RX7 ∈ nwA := in_N 226 (by decide +kernel) rfl
theorem lk227 : Cond.instanceMethod yX0_init ∈ wsA := in_A 227 (by decide +kernel) rfl
theorem lk228 : Cond.code yX0_init cX0_init 1 none ∈ wsA := in_A 228 (by decide +kernel) rfl
theorem lk229 : Cond.methodLink RX0 3 Lib.objectInit ∈ wsA := in_A 229 (by decide +kernel) rfl
theorem lk240 : Cond.classLink RX7 52 RX1 ∈ wsA := in_A 240 (by decide +kernel) rfl
theorem lk241 : Cond.instantiable RX1 7 ∈ wsA := in_A 241 (by decide +kernel) rfl
theorem lk242 : Cond.methodLinkNest RX7 54 yX1_init RX7 ∈ nwA := in_N 242 (by decide +kernel) rfl
theorem lk243 : Cond.instanceMethod yX1_init ∈ wsA := in_A 243 (by decide +kernel) rfl
theorem lk244 : Cond.code yX1_init cX1_init 1 none ∈ wsA := in_A 244 (by decide +kernel) rfl
theorem lk245 : Cond.methodLink RX1 3 Lib.objectInit ∈ wsA := in_A 245 (by decide +kernel) rfl
theorem lk269 : Cond.classLink RX7 59 RX3 ∈ wsA := in_A 269 (by decide +kernel) rfl
theorem lk270 : Cond.instantiable RX3 6 ∈ wsA := in_A 270 (by decide +kernel) rfl
theorem lk271 : Cond.methodLinkNest RX7 61 yX3_init RX7 ∈ nwA := in_N 271 (by decide +kernel) rfl
theorem lk272 : Cond.instanceMethod yX3_init ∈ wsA := in_A 272 (by decide +kernel) rfl
theorem lk273 : Cond.code yX3_init cX3_init 1 none ∈ wsA := in_A 273 (by decide +kernel) rfl
theorem lk274 : Cond.methodLink RX3 3 Lib.objectInit ∈ wsA := in_A 274 (by decide +kernel) rfl
theorem lk296 : Cond.instantiable RX4 2 ∈ wsA := in_A 296 (by decide +kernel) rfl
theorem lk297 : Cond.methodLinkNest RX7 84 yX4_init RX7 ∈ nwA := in_N 297 (by decide +kernel) rfl
theorem lk298 : Cond.instanceMethod yX4_init ∈ wsA := in_A 298 (by decide +kernel) rfl
theorem lk299 : Cond.code yX4_init cX4_init 1 none ∈ wsA := in_A 299 (by decide +kernel) rfl
theorem lk300 : Cond.methodLink RX4 3 Lib.objectInit ∈ wsA := in_A 300 (by decide +kernel) rfl
theorem lk310 : Cond.instantiable RX5 2 ∈ wsA := in_A 310 (by decide +kernel) rfl
theorem lk311 : Cond.methodLinkNest RX7 85 yX5_init RX7 ∈ nwA := in_N 311 (by decide +kernel) rfl
theorem lk312 : Cond.instanceMethod yX5_init ∈ wsA := in_A 312 (by decide +kernel) rfl
theorem lk313 : Cond.code yX5_init cX5_init 1 none ∈ wsA := in_A 313 (by decide +kernel) rfl
theorem lk314 : Cond.methodLink RX5 3 Lib.objectInit ∈ wsA := in_A 314 (by decide +kernel) rfl
theorem lk324 : Cond.arrayClass (newarray.typeOf .byte) ∈ wsA := in_A 324 (by decide +kernel) rfl
theorem lk946 : Cond.code yX8_init cX8_init 2 none ∈ wsA := in_A 946 (by decide +kernel) rfl
theorem lk947 : Cond.methodLink RX8 1 Lib.objectInit ∈ wsA := in_A 947 (by decide +kernel) rfl
set_option maxRecDepth 10000 in
theorem dv0 : ∀ k, k < 2 → ((fty 0)[k]?).map dV = some (defaultValue (tyX0 k)) := by decide +kernel
set_option maxRecDepth 10000 in
theorem dv1 : ∀ k, k < 7 → ((fty 1)[k]?).map dV = some (defaultValue (tyX1 k)) := by decide +kernel
set_option maxRecDepth 10000 in
theorem dv2 : ∀ k, k < 10 → ((fty 2)[k]?).map dV = some (defaultValue (tyX2 k)) := by decide +kernel
set_option maxRecDepth 10000 in
theorem dv3 : ∀ k, k < 6 → ((fty 3)[k]?).map dV = some (defaultValue (tyX3 k)) := by decide +kernel
set_option maxRecDepth 10000 in
theorem dv4 : ∀ k, k < 2 → ((fty 4)[k]?).map dV = some (defaultValue (tyX4 k)) := by decide +kernel
set_option maxRecDepth 10000 in
theorem dv5 : ∀ k, k < 2 → ((fty 5)[k]?).map dV = some (defaultValue (tyX5 k)) := by decide +kernel
set_option maxRecDepth 10000 in
theorem dv6 : ∀ k, k < 4 → ((fty 6)[k]?).map dV = some (defaultValue (tyX6 k)) := by decide +kernel
set_option maxRecDepth 10000 in
theorem dv7 : ∀ k, k < 15 → ((fty 7)[k]?).map dV = some (defaultValue (tyX7 k)) := by decide +kernel
set_option maxRecDepth 10000 in
theorem dv8 : ∀ k, k < 34 → ((fty 8)[k]?).map dV = some (defaultValue (tyX8 k)) := by decide +kernel
section FRowsC
variable {p : Program} {l : Launch} {e : Env} {R : Room} {s : State} {m : MethodId} {args : Array Value} {below : List Frame} {meth : Method} {c : Code} {H : Heap} {locs : List Loc} {cells slots : Nat} {Q : State → Prop}
variable {cc : ByteArray} {nL : Nat} {ret : Option FieldType} {D : va_G} {B : Nat} {ca : Nat → ClassId} {st : Nat → Nat} {M M' : Mem} {pc x : Nat} {ls : Array Slot} {rest : List Value}
theorem pf159 (C : Cx p s m args meth c RX2 cc nL ret D B ca st) (hin : meth.name = "<init>") (hR : RH D B ca M H) (hS : va_S (AA B) s.heap H locs) {v : Nat} (hv : pN M 12 x 2 v = some M') (hd : decode cc pc = .ok (.putfield 18, 3)) (kk : ∀ (H : Heap) (locs : List Loc), RH D B ca M' H → va_S (AA B) s.heap H locs → W p l e R s m args below meth c H locs cells slots Q (F0 m (pc + 3) ls (rest))) : W p l e R s m args below meth c H locs cells slots Q (F0 m pc ls (.ref (B + v) :: .ref (B + x) :: rest)) := by
  obtain ⟨h0, hv⟩ := pN_spec hv
  exact rp_R C hR hS (j := 2) (ci := 2) (N := 10) (T := TX2) rfl inA2 tyX2 tyX2_ok nmX2 (by decide) (Or.inl lk159) (Or.inr ⟨rfl, hin, rfl, lk159⟩) (rO_ne h0) ⟨rfl, rfl⟩ rfl hv hd kk
theorem pf161 (C : Cx p s m args meth c RX2 cc nL ret D B ca st) (hin : meth.name = "<init>") (hR : RH D B ca M H) (hS : va_S (AA B) s.heap H locs) {v : Nat} (hv : pN M 12 x 3 v = some M') (hd : decode cc pc = .ok (.putfield 22, 3)) (kk : ∀ (H : Heap) (locs : List Loc), RH D B ca M' H → va_S (AA B) s.heap H locs → W p l e R s m args below meth c H locs cells slots Q (F0 m (pc + 3) ls (rest))) : W p l e R s m args below meth c H locs cells slots Q (F0 m pc ls (.ref (B + v) :: .ref (B + x) :: rest)) := by
  obtain ⟨h0, hv⟩ := pN_spec hv
  exact rp_R C hR hS (j := 3) (ci := 2) (N := 10) (T := TX2) rfl inA2 tyX2 tyX2_ok nmX2 (by decide) (Or.inl lk161) (Or.inr ⟨rfl, hin, rfl, lk161⟩) (rO_ne h0) ⟨rfl, rfl⟩ rfl hv hd kk
theorem pf163 (C : Cx p s m args meth c RX2 cc nL ret D B ca st) (hin : meth.name = "<init>") (hR : RH D B ca M H) (hS : va_S (AA B) s.heap H locs) {v : Nat} (hv : pN M 12 x 4 v = some M') (hd : decode cc pc = .ok (.putfield 25, 3)) (kk : ∀ (H : Heap) (locs : List Loc), RH D B ca M' H → va_S (AA B) s.heap H locs → W p l e R s m args below meth c H locs cells slots Q (F0 m (pc + 3) ls (rest))) : W p l e R s m args below meth c H locs cells slots Q (F0 m pc ls (.ref (B + v) :: .ref (B + x) :: rest)) := by
  obtain ⟨h0, hv⟩ := pN_spec hv
  exact rp_R C hR hS (j := 4) (ci := 2) (N := 10) (T := TX2) rfl inA2 tyX2 tyX2_ok nmX2 (by decide) (Or.inl lk163) (Or.inr ⟨rfl, hin, rfl, lk163⟩) (rO_ne h0) ⟨rfl, rfl⟩ rfl hv hd kk
theorem pf165 (C : Cx p s m args meth c RX2 cc nL ret D B ca st) (hin : meth.name = "<init>") (hR : RH D B ca M H) (hS : va_S (AA B) s.heap H locs) {v : Nat} (hv : pN M 12 x 5 v = some M') (hd : decode cc pc = .ok (.putfield 28, 3)) (kk : ∀ (H : Heap) (locs : List Loc), RH D B ca M' H → va_S (AA B) s.heap H locs → W p l e R s m args below meth c H locs cells slots Q (F0 m (pc + 3) ls (rest))) : W p l e R s m args below meth c H locs cells slots Q (F0 m pc ls (.ref (B + v) :: .ref (B + x) :: rest)) := by
  obtain ⟨h0, hv⟩ := pN_spec hv
  exact rp_R C hR hS (j := 5) (ci := 2) (N := 10) (T := TX2) rfl inA2 tyX2 tyX2_ok nmX2 (by decide) (Or.inl lk165) (Or.inr ⟨rfl, hin, rfl, lk165⟩) (rO_ne h0) ⟨rfl, rfl⟩ rfl hv hd kk
theorem pf168 (C : Cx p s m args meth c RX2 cc nL ret D B ca st) (hin : meth.name = "<init>") (hR : RH D B ca M H) (hS : va_S (AA B) s.heap H locs) {v : Nat} (hv : pN M 12 x 6 v = some M') (hd : decode cc pc = .ok (.putfield 31, 3)) (kk : ∀ (H : Heap) (locs : List Loc), RH D B ca M' H → va_S (AA B) s.heap H locs → W p l e R s m args below meth c H locs cells slots Q (F0 m (pc + 3) ls (rest))) : W p l e R s m args below meth c H locs cells slots Q (F0 m pc ls (.ref (B + v) :: .ref (B + x) :: rest)) := by
  obtain ⟨h0, hv⟩ := pN_spec hv
  exact rp_R C hR hS (j := 6) (ci := 2) (N := 10) (T := TX2) rfl inA2 tyX2 tyX2_ok nmX2 (by decide) (Or.inl lk168) (Or.inr ⟨rfl, hin, rfl, lk168⟩) (rO_ne h0) ⟨rfl, rfl⟩ rfl hv hd kk
theorem pf170 (C : Cx p s m args meth c RX2 cc nL ret D B ca st) (hin : meth.name = "<init>") (hR : RH D B ca M H) (hS : va_S (AA B) s.heap H locs) {v : Nat} (hv : pN M 12 x 7 v = some M') (hd : decode cc pc = .ok (.putfield 34, 3)) (kk : ∀ (H : Heap) (locs : List Loc), RH D B ca M' H → va_S (AA B) s.heap H locs → W p l e R s m args below meth c H locs cells slots Q (F0 m (pc + 3) ls (rest))) : W p l e R s m args below meth c H locs cells slots Q (F0 m pc ls (.ref (B + v) :: .ref (B + x) :: rest)) := by
  obtain ⟨h0, hv⟩ := pN_spec hv
  exact rp_R C hR hS (j := 7) (ci := 2) (N := 10) (T := TX2) rfl inA2 tyX2 tyX2_ok nmX2 (by decide) (Or.inl lk170) (Or.inr ⟨rfl, hin, rfl, lk170⟩) (rO_ne h0) ⟨rfl, rfl⟩ rfl hv hd kk
theorem pf172 (C : Cx p s m args meth c RX2 cc nL ret D B ca st) (hin : meth.name = "<init>") (hR : RH D B ca M H) (hS : va_S (AA B) s.heap H locs) {v : Nat} (hv : pN M 12 x 8 v = some M') (hd : decode cc pc = .ok (.putfield 37, 3)) (kk : ∀ (H : Heap) (locs : List Loc), RH D B ca M' H → va_S (AA B) s.heap H locs → W p l e R s m args below meth c H locs cells slots Q (F0 m (pc + 3) ls (rest))) : W p l e R s m args below meth c H locs cells slots Q (F0 m pc ls (.ref (B + v) :: .ref (B + x) :: rest)) := by
  obtain ⟨h0, hv⟩ := pN_spec hv
  exact rp_R C hR hS (j := 8) (ci := 2) (N := 10) (T := TX2) rfl inA2 tyX2 tyX2_ok nmX2 (by decide) (Or.inl lk172) (Or.inr ⟨rfl, hin, rfl, lk172⟩) (rO_ne h0) ⟨rfl, rfl⟩ rfl hv hd kk
theorem pf173 (C : Cx p s m args meth c RX2 cc nL ret D B ca st) (hin : meth.name = "<init>") (hR : RH D B ca M H) (hS : va_S (AA B) s.heap H locs) {v : Nat} (hv : pN M 12 x 9 v = some M') (hd : decode cc pc = .ok (.putfield 40, 3)) (kk : ∀ (H : Heap) (locs : List Loc), RH D B ca M' H → va_S (AA B) s.heap H locs → W p l e R s m args below meth c H locs cells slots Q (F0 m (pc + 3) ls (rest))) : W p l e R s m args below meth c H locs cells slots Q (F0 m pc ls (.ref (B + v) :: .ref (B + x) :: rest)) := by
  obtain ⟨h0, hv⟩ := pN_spec hv
  exact rp_R C hR hS (j := 9) (ci := 2) (N := 10) (T := TX2) rfl inA2 tyX2 tyX2_ok nmX2 (by decide) (Or.inl lk173) (Or.inr ⟨rfl, hin, rfl, lk173⟩) (rO_ne h0) ⟨rfl, rfl⟩ rfl hv hd kk
theorem pf202 (C : Cx p s m args meth c RX6 cc nL ret D B ca st) (hin : meth.name = "<init>") (hR : RH D B ca M H) (hS : va_S (AA B) s.heap H locs) {v : Nat} (hv : pN M 16 x 0 v = some M') (hd : decode cc pc = .ok (.putfield 9, 3)) (kk : ∀ (H : Heap) (locs : List Loc), RH D B ca M' H → va_S (AA B) s.heap H locs → W p l e R s m args below meth c H locs cells slots Q (F0 m (pc + 3) ls (rest))) : W p l e R s m args below meth c H locs cells slots Q (F0 m pc ls (.ref (B + v) :: .ref (B + x) :: rest)) := by
  obtain ⟨h0, hv⟩ := pN_spec hv
  exact rp_R C hR hS (j := 0) (ci := 6) (N := 4) (T := TX6) rfl inA6 tyX6 tyX6_ok nmX6 (by decide) (Or.inl lk202) (Or.inr ⟨rfl, hin, rfl, lk202⟩) (rO_ne h0) ⟨rfl, rfl⟩ rfl hv hd kk
theorem pf206 (C : Cx p s m args meth c RX6 cc nL ret D B ca st) (hin : meth.name = "<init>") (hR : RH D B ca M H) (hS : va_S (AA B) s.heap H locs) {v : Nat} (hv : pN M 16 x 1 v = some M') (hd : decode cc pc = .ok (.putfield 15, 3)) (kk : ∀ (H : Heap) (locs : List Loc), RH D B ca M' H → va_S (AA B) s.heap H locs → W p l e R s m args below meth c H locs cells slots Q (F0 m (pc + 3) ls (rest))) : W p l e R s m args below meth c H locs cells slots Q (F0 m pc ls (.ref (B + v) :: .ref (B + x) :: rest)) := by
  obtain ⟨h0, hv⟩ := pN_spec hv
  exact rp_R C hR hS (j := 1) (ci := 6) (N := 4) (T := TX6) rfl inA6 tyX6 tyX6_ok nmX6 (by decide) (Or.inl lk206) (Or.inr ⟨rfl, hin, rfl, lk206⟩) (rO_ne h0) ⟨rfl, rfl⟩ rfl hv hd kk
theorem pf230 (C : Cx p s m args meth c RX0 cc nL ret D B ca st) (hin : meth.name = "<init>") (hR : RH D B ca M H) (hS : va_S (AA B) s.heap H locs) {v : Nat} (hv : pN M 10 x 0 v = some M') (hd : decode cc pc = .ok (.putfield 9, 3)) (kk : ∀ (H : Heap) (locs : List Loc), RH D B ca M' H → va_S (AA B) s.heap H locs → W p l e R s m args below meth c H locs cells slots Q (F0 m (pc + 3) ls (rest))) : W p l e R s m args below meth c H locs cells slots Q (F0 m pc ls (.ref (B + v) :: .ref (B + x) :: rest)) := by
  obtain ⟨h0, hv⟩ := pN_spec hv
  exact rp_R C hR hS (j := 0) (ci := 0) (N := 2) (T := TX0) rfl inA0 tyX0 tyX0_ok nmX0 (by decide) (Or.inl lk230) (Or.inr ⟨rfl, hin, rfl, lk230⟩) (rO_ne h0) ⟨rfl, rfl⟩ rfl hv hd kk
theorem pf246 (C : Cx p s m args meth c RX1 cc nL ret D B ca st) (hin : meth.name = "<init>") (hR : RH D B ca M H) (hS : va_S (AA B) s.heap H locs) {v : Nat} (hv : pN M 11 x 0 v = some M') (hd : decode cc pc = .ok (.putfield 9, 3)) (kk : ∀ (H : Heap) (locs : List Loc), RH D B ca M' H → va_S (AA B) s.heap H locs → W p l e R s m args below meth c H locs cells slots Q (F0 m (pc + 3) ls (rest))) : W p l e R s m args below meth c H locs cells slots Q (F0 m pc ls (.ref (B + v) :: .ref (B + x) :: rest)) := by
  obtain ⟨h0, hv⟩ := pN_spec hv
  exact rp_R C hR hS (j := 0) (ci := 1) (N := 7) (T := TX1) rfl inA1 tyX1 tyX1_ok nmX1 (by decide) (Or.inl lk246) (Or.inr ⟨rfl, hin, rfl, lk246⟩) (rO_ne h0) ⟨rfl, rfl⟩ rfl hv hd kk
theorem pf248 (C : Cx p s m args meth c RX1 cc nL ret D B ca st) (hin : meth.name = "<init>") (hR : RH D B ca M H) (hS : va_S (AA B) s.heap H locs) {v : Nat} (hv : pN M 11 x 1 v = some M') (hd : decode cc pc = .ok (.putfield 15, 3)) (kk : ∀ (H : Heap) (locs : List Loc), RH D B ca M' H → va_S (AA B) s.heap H locs → W p l e R s m args below meth c H locs cells slots Q (F0 m (pc + 3) ls (rest))) : W p l e R s m args below meth c H locs cells slots Q (F0 m pc ls (.ref (B + v) :: .ref (B + x) :: rest)) := by
  obtain ⟨h0, hv⟩ := pN_spec hv
  exact rp_R C hR hS (j := 1) (ci := 1) (N := 7) (T := TX1) rfl inA1 tyX1 tyX1_ok nmX1 (by decide) (Or.inl lk248) (Or.inr ⟨rfl, hin, rfl, lk248⟩) (rO_ne h0) ⟨rfl, rfl⟩ rfl hv hd kk
theorem pf249 (C : Cx p s m args meth c RX1 cc nL ret D B ca st) (hin : meth.name = "<init>") (hR : RH D B ca M H) (hS : va_S (AA B) s.heap H locs) {v : Nat} (hv : pN M 11 x 2 v = some M') (hd : decode cc pc = .ok (.putfield 18, 3)) (kk : ∀ (H : Heap) (locs : List Loc), RH D B ca M' H → va_S (AA B) s.heap H locs → W p l e R s m args below meth c H locs cells slots Q (F0 m (pc + 3) ls (rest))) : W p l e R s m args below meth c H locs cells slots Q (F0 m pc ls (.ref (B + v) :: .ref (B + x) :: rest)) := by
  obtain ⟨h0, hv⟩ := pN_spec hv
  exact rp_R C hR hS (j := 2) (ci := 1) (N := 7) (T := TX1) rfl inA1 tyX1 tyX1_ok nmX1 (by decide) (Or.inl lk249) (Or.inr ⟨rfl, hin, rfl, lk249⟩) (rO_ne h0) ⟨rfl, rfl⟩ rfl hv hd kk
theorem pf0_250 (C : Cx p s m args meth c RX1 cc nL ret D B ca st) (hR : RH D B ca M H) (hS : va_S (AA B) s.heap H locs) (hv : pR M 11 x 3 0 = some M') (hd : decode cc pc = .ok (.putfield 21, 3)) (kk : ∀ (H : Heap) (locs : List Loc), RH D B ca M' H → va_S (AA B) s.heap H locs → W p l e R s m args below meth c H locs cells slots Q (F0 m (pc + 3) ls (rest))) : W p l e R s m args below meth c H locs cells slots Q (F0 m pc ls (.null :: .ref (B + x) :: rest)) :=
  rp_R C hR hS (j := 3) (ci := 1) (N := 7) (T := TX1) rfl inA1 tyX1 tyX1_ok nmX1 (by decide) (Or.inl lk250) (Or.inl rfl) (rO_0 B) ⟨rfl, rfl⟩ rfl hv hd kk
theorem pf275 (C : Cx p s m args meth c RX3 cc nL ret D B ca st) (hin : meth.name = "<init>") (hR : RH D B ca M H) (hS : va_S (AA B) s.heap H locs) {v : Nat} (hv : pN M 13 x 0 v = some M') (hd : decode cc pc = .ok (.putfield 9, 3)) (kk : ∀ (H : Heap) (locs : List Loc), RH D B ca M' H → va_S (AA B) s.heap H locs → W p l e R s m args below meth c H locs cells slots Q (F0 m (pc + 3) ls (rest))) : W p l e R s m args below meth c H locs cells slots Q (F0 m pc ls (.ref (B + v) :: .ref (B + x) :: rest)) := by
  obtain ⟨h0, hv⟩ := pN_spec hv
  exact rp_R C hR hS (j := 0) (ci := 3) (N := 6) (T := TX3) rfl inA3 tyX3 tyX3_ok nmX3 (by decide) (Or.inl lk275) (Or.inr ⟨rfl, hin, rfl, lk275⟩) (rO_ne h0) ⟨rfl, rfl⟩ rfl hv hd kk
theorem pf276 (C : Cx p s m args meth c RX3 cc nL ret D B ca st) (hin : meth.name = "<init>") (hR : RH D B ca M H) (hS : va_S (AA B) s.heap H locs) {v : Nat} (hv : pN M 13 x 1 v = some M') (hd : decode cc pc = .ok (.putfield 15, 3)) (kk : ∀ (H : Heap) (locs : List Loc), RH D B ca M' H → va_S (AA B) s.heap H locs → W p l e R s m args below meth c H locs cells slots Q (F0 m (pc + 3) ls (rest))) : W p l e R s m args below meth c H locs cells slots Q (F0 m pc ls (.ref (B + v) :: .ref (B + x) :: rest)) := by
  obtain ⟨h0, hv⟩ := pN_spec hv
  exact rp_R C hR hS (j := 1) (ci := 3) (N := 6) (T := TX3) rfl inA3 tyX3 tyX3_ok nmX3 (by decide) (Or.inl lk276) (Or.inr ⟨rfl, hin, rfl, lk276⟩) (rO_ne h0) ⟨rfl, rfl⟩ rfl hv hd kk
theorem pf0_281 (C : Cx p s m args meth c RX3 cc nL ret D B ca st) (hR : RH D B ca M H) (hS : va_S (AA B) s.heap H locs) (hv : pR M 13 x 4 0 = some M') (hd : decode cc pc = .ok (.putfield 25, 3)) (kk : ∀ (H : Heap) (locs : List Loc), RH D B ca M' H → va_S (AA B) s.heap H locs → W p l e R s m args below meth c H locs cells slots Q (F0 m (pc + 3) ls (rest))) : W p l e R s m args below meth c H locs cells slots Q (F0 m pc ls (.null :: .ref (B + x) :: rest)) :=
  rp_R C hR hS (j := 4) (ci := 3) (N := 6) (T := TX3) rfl inA3 tyX3 tyX3_ok nmX3 (by decide) (Or.inl lk281) (Or.inl rfl) (rO_0 B) ⟨rfl, rfl⟩ rfl hv hd kk
theorem pf301 (C : Cx p s m args meth c RX4 cc nL ret D B ca st) (hin : meth.name = "<init>") (hR : RH D B ca M H) (hS : va_S (AA B) s.heap H locs) {v : Nat} (hv : pN M 14 x 0 v = some M') (hd : decode cc pc = .ok (.putfield 9, 3)) (kk : ∀ (H : Heap) (locs : List Loc), RH D B ca M' H → va_S (AA B) s.heap H locs → W p l e R s m args below meth c H locs cells slots Q (F0 m (pc + 3) ls (rest))) : W p l e R s m args below meth c H locs cells slots Q (F0 m pc ls (.ref (B + v) :: .ref (B + x) :: rest)) := by
  obtain ⟨h0, hv⟩ := pN_spec hv
  exact rp_R C hR hS (j := 0) (ci := 4) (N := 2) (T := TX4) rfl inA4 tyX4 tyX4_ok nmX4 (by decide) (Or.inl lk301) (Or.inr ⟨rfl, hin, rfl, lk301⟩) (rO_ne h0) ⟨rfl, rfl⟩ rfl hv hd kk
theorem pf315 (C : Cx p s m args meth c RX5 cc nL ret D B ca st) (hin : meth.name = "<init>") (hR : RH D B ca M H) (hS : va_S (AA B) s.heap H locs) {v : Nat} (hv : pN M 15 x 0 v = some M') (hd : decode cc pc = .ok (.putfield 9, 3)) (kk : ∀ (H : Heap) (locs : List Loc), RH D B ca M' H → va_S (AA B) s.heap H locs → W p l e R s m args below meth c H locs cells slots Q (F0 m (pc + 3) ls (rest))) : W p l e R s m args below meth c H locs cells slots Q (F0 m pc ls (.ref (B + v) :: .ref (B + x) :: rest)) := by
  obtain ⟨h0, hv⟩ := pN_spec hv
  exact rp_R C hR hS (j := 0) (ci := 5) (N := 2) (T := TX5) rfl inA5 tyX5 tyX5_ok nmX5 (by decide) (Or.inl lk315) (Or.inr ⟨rfl, hin, rfl, lk315⟩) (rO_ne h0) ⟨rfl, rfl⟩ rfl hv hd kk
theorem pf325 (C : Cx p s m args meth c RX7 cc nL ret D B ca st) (hin : meth.name = "<init>") (hR : RH D B ca M H) (hS : va_S (AA B) s.heap H locs) {v : Nat} (hv : pN M 17 x 0 v = some M') (hd : decode cc pc = .ok (.putfield 11, 3)) (kk : ∀ (H : Heap) (locs : List Loc), RH D B ca M' H → va_S (AA B) s.heap H locs → W p l e R s m args below meth c H locs cells slots Q (F0 m (pc + 3) ls (rest))) : W p l e R s m args below meth c H locs cells slots Q (F0 m pc ls (.ref (B + v) :: .ref (B + x) :: rest)) := by
  obtain ⟨h0, hv⟩ := pN_spec hv
  exact rp_R C hR hS (j := 0) (ci := 7) (N := 15) (T := TX7) rfl inA7 tyX7 tyX7_ok nmX7 (by decide) (Or.inl lk325) (Or.inr ⟨rfl, hin, rfl, lk325⟩) (rO_ne h0) ⟨rfl, rfl⟩ rfl hv hd kk
theorem pf326 (C : Cx p s m args meth c RX7 cc nL ret D B ca st) (hin : meth.name = "<init>") (hR : RH D B ca M H) (hS : va_S (AA B) s.heap H locs) {v : Nat} (hv : pN M 17 x 1 v = some M') (hd : decode cc pc = .ok (.putfield 17, 3)) (kk : ∀ (H : Heap) (locs : List Loc), RH D B ca M' H → va_S (AA B) s.heap H locs → W p l e R s m args below meth c H locs cells slots Q (F0 m (pc + 3) ls (rest))) : W p l e R s m args below meth c H locs cells slots Q (F0 m pc ls (.ref (B + v) :: .ref (B + x) :: rest)) := by
  obtain ⟨h0, hv⟩ := pN_spec hv
  exact rp_R C hR hS (j := 1) (ci := 7) (N := 15) (T := TX7) rfl inA7 tyX7 tyX7_ok nmX7 (by decide) (Or.inl lk326) (Or.inr ⟨rfl, hin, rfl, lk326⟩) (rO_ne h0) ⟨rfl, rfl⟩ rfl hv hd kk
theorem pf329 (C : Cx p s m args meth c RX7 cc nL ret D B ca st) (hin : meth.name = "<init>") (hR : RH D B ca M H) (hS : va_S (AA B) s.heap H locs) {v : Nat} (hv : pN M 17 x 4 v = some M') (hd : decode cc pc = .ok (.putfield 34, 3)) (kk : ∀ (H : Heap) (locs : List Loc), RH D B ca M' H → va_S (AA B) s.heap H locs → W p l e R s m args below meth c H locs cells slots Q (F0 m (pc + 3) ls (rest))) : W p l e R s m args below meth c H locs cells slots Q (F0 m pc ls (.ref (B + v) :: .ref (B + x) :: rest)) := by
  obtain ⟨h0, hv⟩ := pN_spec hv
  exact rp_R C hR hS (j := 4) (ci := 7) (N := 15) (T := TX7) rfl inA7 tyX7 tyX7_ok nmX7 (by decide) (Or.inl lk329) (Or.inr ⟨rfl, hin, rfl, lk329⟩) (rO_ne h0) ⟨rfl, rfl⟩ rfl hv hd kk
theorem pf330 (C : Cx p s m args meth c RX7 cc nL ret D B ca st) (hin : meth.name = "<init>") (hR : RH D B ca M H) (hS : va_S (AA B) s.heap H locs) {v : Nat} (hv : pN M 17 x 5 v = some M') (hd : decode cc pc = .ok (.putfield 38, 3)) (kk : ∀ (H : Heap) (locs : List Loc), RH D B ca M' H → va_S (AA B) s.heap H locs → W p l e R s m args below meth c H locs cells slots Q (F0 m (pc + 3) ls (rest))) : W p l e R s m args below meth c H locs cells slots Q (F0 m pc ls (.ref (B + v) :: .ref (B + x) :: rest)) := by
  obtain ⟨h0, hv⟩ := pN_spec hv
  exact rp_R C hR hS (j := 5) (ci := 7) (N := 15) (T := TX7) rfl inA7 tyX7 tyX7_ok nmX7 (by decide) (Or.inl lk330) (Or.inr ⟨rfl, hin, rfl, lk330⟩) (rO_ne h0) ⟨rfl, rfl⟩ rfl hv hd kk
theorem pf331 (C : Cx p s m args meth c RX7 cc nL ret D B ca st) (hin : meth.name = "<init>") (hR : RH D B ca M H) (hS : va_S (AA B) s.heap H locs) {v : Nat} (hv : pN M 17 x 6 v = some M') (hd : decode cc pc = .ok (.putfield 44, 3)) (kk : ∀ (H : Heap) (locs : List Loc), RH D B ca M' H → va_S (AA B) s.heap H locs → W p l e R s m args below meth c H locs cells slots Q (F0 m (pc + 3) ls (rest))) : W p l e R s m args below meth c H locs cells slots Q (F0 m pc ls (.ref (B + v) :: .ref (B + x) :: rest)) := by
  obtain ⟨h0, hv⟩ := pN_spec hv
  exact rp_R C hR hS (j := 6) (ci := 7) (N := 15) (T := TX7) rfl inA7 tyX7 tyX7_ok nmX7 (by decide) (Or.inl lk331) (Or.inr ⟨rfl, hin, rfl, lk331⟩) (rO_ne h0) ⟨rfl, rfl⟩ rfl hv hd kk
theorem pf332 (C : Cx p s m args meth c RX7 cc nL ret D B ca st) (hin : meth.name = "<init>") (hR : RH D B ca M H) (hS : va_S (AA B) s.heap H locs) {v : Nat} (hv : pN M 17 x 7 v = some M') (hd : decode cc pc = .ok (.putfield 48, 3)) (kk : ∀ (H : Heap) (locs : List Loc), RH D B ca M' H → va_S (AA B) s.heap H locs → W p l e R s m args below meth c H locs cells slots Q (F0 m (pc + 3) ls (rest))) : W p l e R s m args below meth c H locs cells slots Q (F0 m pc ls (.ref (B + v) :: .ref (B + x) :: rest)) := by
  obtain ⟨h0, hv⟩ := pN_spec hv
  exact rp_R C hR hS (j := 7) (ci := 7) (N := 15) (T := TX7) rfl inA7 tyX7 tyX7_ok nmX7 (by decide) (Or.inl lk332) (Or.inr ⟨rfl, hin, rfl, lk332⟩) (rO_ne h0) ⟨rfl, rfl⟩ rfl hv hd kk
theorem pf333 (C : Cx p s m args meth c RX7 cc nL ret D B ca st) (hin : meth.name = "<init>") (hR : RH D B ca M H) (hS : va_S (AA B) s.heap H locs) {v : Nat} (hv : pN M 17 x 8 v = some M') (hd : decode cc pc = .ok (.putfield 55, 3)) (kk : ∀ (H : Heap) (locs : List Loc), RH D B ca M' H → va_S (AA B) s.heap H locs → W p l e R s m args below meth c H locs cells slots Q (F0 m (pc + 3) ls (rest))) : W p l e R s m args below meth c H locs cells slots Q (F0 m pc ls (.ref (B + v) :: .ref (B + x) :: rest)) := by
  obtain ⟨h0, hv⟩ := pN_spec hv
  exact rp_R C hR hS (j := 8) (ci := 7) (N := 15) (T := TX7) rfl inA7 tyX7 tyX7_ok nmX7 (by decide) (Or.inl lk333) (Or.inr ⟨rfl, hin, rfl, lk333⟩) (rO_ne h0) ⟨rfl, rfl⟩ rfl hv hd kk
theorem pf334 (C : Cx p s m args meth c RX7 cc nL ret D B ca st) (hin : meth.name = "<init>") (hR : RH D B ca M H) (hS : va_S (AA B) s.heap H locs) {v : Nat} (hv : pN M 17 x 9 v = some M') (hd : decode cc pc = .ok (.putfield 62, 3)) (kk : ∀ (H : Heap) (locs : List Loc), RH D B ca M' H → va_S (AA B) s.heap H locs → W p l e R s m args below meth c H locs cells slots Q (F0 m (pc + 3) ls (rest))) : W p l e R s m args below meth c H locs cells slots Q (F0 m pc ls (.ref (B + v) :: .ref (B + x) :: rest)) := by
  obtain ⟨h0, hv⟩ := pN_spec hv
  exact rp_R C hR hS (j := 9) (ci := 7) (N := 15) (T := TX7) rfl inA7 tyX7 tyX7_ok nmX7 (by decide) (Or.inl lk334) (Or.inr ⟨rfl, hin, rfl, lk334⟩) (rO_ne h0) ⟨rfl, rfl⟩ rfl hv hd kk
theorem pf339 (C : Cx p s m args meth c RX7 cc nL ret D B ca st) (hin : meth.name = "<init>") (hR : RH D B ca M H) (hS : va_S (AA B) s.heap H locs) {v : Nat} (hv : pN M 17 x 14 v = some M') (hd : decode cc pc = .ok (.putfield 80, 3)) (kk : ∀ (H : Heap) (locs : List Loc), RH D B ca M' H → va_S (AA B) s.heap H locs → W p l e R s m args below meth c H locs cells slots Q (F0 m (pc + 3) ls (rest))) : W p l e R s m args below meth c H locs cells slots Q (F0 m pc ls (.ref (B + v) :: .ref (B + x) :: rest)) := by
  obtain ⟨h0, hv⟩ := pN_spec hv
  exact rp_R C hR hS (j := 14) (ci := 7) (N := 15) (T := TX7) rfl inA7 tyX7 tyX7_ok nmX7 (by decide) (Or.inl lk339) (Or.inr ⟨rfl, hin, rfl, lk339⟩) (rO_ne h0) ⟨rfl, rfl⟩ rfl hv hd kk
theorem pf948 (C : Cx p s m args meth c RX8 cc nL ret D B ca st) (hin : meth.name = "<init>") (hR : RH D B ca M H) (hS : va_S (AA B) s.heap H locs) {v : Nat} (hv : pN M 18 x 0 v = some M') (hd : decode cc pc = .ok (.putfield 7, 3)) (kk : ∀ (H : Heap) (locs : List Loc), RH D B ca M' H → va_S (AA B) s.heap H locs → W p l e R s m args below meth c H locs cells slots Q (F0 m (pc + 3) ls (rest))) : W p l e R s m args below meth c H locs cells slots Q (F0 m pc ls (.ref (B + v) :: .ref (B + x) :: rest)) := by
  obtain ⟨h0, hv⟩ := pN_spec hv
  exact rp_R C hR hS (j := 0) (ci := 8) (N := 34) (T := TX8) rfl inA8 tyX8 tyX8_ok nmX8 (by decide) (Or.inl lk948) (Or.inr ⟨rfl, hin, rfl, lk948⟩) (rO_ne h0) ⟨rfl, rfl⟩ rfl hv hd kk
theorem pf950 (C : Cx p s m args meth c RX8 cc nL ret D B ca st) (hin : meth.name = "<init>") (hR : RH D B ca M H) (hS : va_S (AA B) s.heap H locs) {v : Nat} (hv : pN M 18 x 2 v = some M') (hd : decode cc pc = .ok (.putfield 13, 3)) (kk : ∀ (H : Heap) (locs : List Loc), RH D B ca M' H → va_S (AA B) s.heap H locs → W p l e R s m args below meth c H locs cells slots Q (F0 m (pc + 3) ls (rest))) : W p l e R s m args below meth c H locs cells slots Q (F0 m pc ls (.ref (B + v) :: .ref (B + x) :: rest)) := by
  obtain ⟨h0, hv⟩ := pN_spec hv
  exact rp_R C hR hS (j := 2) (ci := 8) (N := 34) (T := TX8) rfl inA8 tyX8 tyX8_ok nmX8 (by decide) (Or.inl lk950) (Or.inr ⟨rfl, hin, rfl, lk950⟩) (rO_ne h0) ⟨rfl, rfl⟩ rfl hv hd kk
theorem pf951 (C : Cx p s m args meth c RX8 cc nL ret D B ca st) (hin : meth.name = "<init>") (hR : RH D B ca M H) (hS : va_S (AA B) s.heap H locs) {v : Nat} (hv : pN M 18 x 3 v = some M') (hd : decode cc pc = .ok (.putfield 16, 3)) (kk : ∀ (H : Heap) (locs : List Loc), RH D B ca M' H → va_S (AA B) s.heap H locs → W p l e R s m args below meth c H locs cells slots Q (F0 m (pc + 3) ls (rest))) : W p l e R s m args below meth c H locs cells slots Q (F0 m pc ls (.ref (B + v) :: .ref (B + x) :: rest)) := by
  obtain ⟨h0, hv⟩ := pN_spec hv
  exact rp_R C hR hS (j := 3) (ci := 8) (N := 34) (T := TX8) rfl inA8 tyX8 tyX8_ok nmX8 (by decide) (Or.inl lk951) (Or.inr ⟨rfl, hin, rfl, lk951⟩) (rO_ne h0) ⟨rfl, rfl⟩ rfl hv hd kk
theorem pf953 (C : Cx p s m args meth c RX8 cc nL ret D B ca st) (hin : meth.name = "<init>") (hR : RH D B ca M H) (hS : va_S (AA B) s.heap H locs) {v : Nat} (hv : pN M 18 x 5 v = some M') (hd : decode cc pc = .ok (.putfield 19, 3)) (kk : ∀ (H : Heap) (locs : List Loc), RH D B ca M' H → va_S (AA B) s.heap H locs → W p l e R s m args below meth c H locs cells slots Q (F0 m (pc + 3) ls (rest))) : W p l e R s m args below meth c H locs cells slots Q (F0 m pc ls (.ref (B + v) :: .ref (B + x) :: rest)) := by
  obtain ⟨h0, hv⟩ := pN_spec hv
  exact rp_R C hR hS (j := 5) (ci := 8) (N := 34) (T := TX8) rfl inA8 tyX8 tyX8_ok nmX8 (by decide) (Or.inl lk953) (Or.inr ⟨rfl, hin, rfl, lk953⟩) (rO_ne h0) ⟨rfl, rfl⟩ rfl hv hd kk
theorem pf954 (C : Cx p s m args meth c RX8 cc nL ret D B ca st) (hin : meth.name = "<init>") (hR : RH D B ca M H) (hS : va_S (AA B) s.heap H locs) {v : Nat} (hv : pN M 18 x 6 v = some M') (hd : decode cc pc = .ok (.putfield 22, 3)) (kk : ∀ (H : Heap) (locs : List Loc), RH D B ca M' H → va_S (AA B) s.heap H locs → W p l e R s m args below meth c H locs cells slots Q (F0 m (pc + 3) ls (rest))) : W p l e R s m args below meth c H locs cells slots Q (F0 m pc ls (.ref (B + v) :: .ref (B + x) :: rest)) := by
  obtain ⟨h0, hv⟩ := pN_spec hv
  exact rp_R C hR hS (j := 6) (ci := 8) (N := 34) (T := TX8) rfl inA8 tyX8 tyX8_ok nmX8 (by decide) (Or.inl lk954) (Or.inr ⟨rfl, hin, rfl, lk954⟩) (rO_ne h0) ⟨rfl, rfl⟩ rfl hv hd kk
theorem pf955 (C : Cx p s m args meth c RX8 cc nL ret D B ca st) (hin : meth.name = "<init>") (hR : RH D B ca M H) (hS : va_S (AA B) s.heap H locs) {v : Nat} (hv : pN M 18 x 7 v = some M') (hd : decode cc pc = .ok (.putfield 25, 3)) (kk : ∀ (H : Heap) (locs : List Loc), RH D B ca M' H → va_S (AA B) s.heap H locs → W p l e R s m args below meth c H locs cells slots Q (F0 m (pc + 3) ls (rest))) : W p l e R s m args below meth c H locs cells slots Q (F0 m pc ls (.ref (B + v) :: .ref (B + x) :: rest)) := by
  obtain ⟨h0, hv⟩ := pN_spec hv
  exact rp_R C hR hS (j := 7) (ci := 8) (N := 34) (T := TX8) rfl inA8 tyX8 tyX8_ok nmX8 (by decide) (Or.inl lk955) (Or.inr ⟨rfl, hin, rfl, lk955⟩) (rO_ne h0) ⟨rfl, rfl⟩ rfl hv hd kk
theorem pf956 (C : Cx p s m args meth c RX8 cc nL ret D B ca st) (hin : meth.name = "<init>") (hR : RH D B ca M H) (hS : va_S (AA B) s.heap H locs) {v : Nat} (hv : pN M 18 x 8 v = some M') (hd : decode cc pc = .ok (.putfield 28, 3)) (kk : ∀ (H : Heap) (locs : List Loc), RH D B ca M' H → va_S (AA B) s.heap H locs → W p l e R s m args below meth c H locs cells slots Q (F0 m (pc + 3) ls (rest))) : W p l e R s m args below meth c H locs cells slots Q (F0 m pc ls (.ref (B + v) :: .ref (B + x) :: rest)) := by
  obtain ⟨h0, hv⟩ := pN_spec hv
  exact rp_R C hR hS (j := 8) (ci := 8) (N := 34) (T := TX8) rfl inA8 tyX8 tyX8_ok nmX8 (by decide) (Or.inl lk956) (Or.inr ⟨rfl, hin, rfl, lk956⟩) (rO_ne h0) ⟨rfl, rfl⟩ rfl hv hd kk
theorem pf957 (C : Cx p s m args meth c RX8 cc nL ret D B ca st) (hin : meth.name = "<init>") (hR : RH D B ca M H) (hS : va_S (AA B) s.heap H locs) {v : Nat} (hv : pN M 18 x 9 v = some M') (hd : decode cc pc = .ok (.putfield 31, 3)) (kk : ∀ (H : Heap) (locs : List Loc), RH D B ca M' H → va_S (AA B) s.heap H locs → W p l e R s m args below meth c H locs cells slots Q (F0 m (pc + 3) ls (rest))) : W p l e R s m args below meth c H locs cells slots Q (F0 m pc ls (.ref (B + v) :: .ref (B + x) :: rest)) := by
  obtain ⟨h0, hv⟩ := pN_spec hv
  exact rp_R C hR hS (j := 9) (ci := 8) (N := 34) (T := TX8) rfl inA8 tyX8 tyX8_ok nmX8 (by decide) (Or.inl lk957) (Or.inr ⟨rfl, hin, rfl, lk957⟩) (rO_ne h0) ⟨rfl, rfl⟩ rfl hv hd kk
theorem pf958 (C : Cx p s m args meth c RX8 cc nL ret D B ca st) (hin : meth.name = "<init>") (hR : RH D B ca M H) (hS : va_S (AA B) s.heap H locs) {v : Nat} (hv : pN M 18 x 10 v = some M') (hd : decode cc pc = .ok (.putfield 34, 3)) (kk : ∀ (H : Heap) (locs : List Loc), RH D B ca M' H → va_S (AA B) s.heap H locs → W p l e R s m args below meth c H locs cells slots Q (F0 m (pc + 3) ls (rest))) : W p l e R s m args below meth c H locs cells slots Q (F0 m pc ls (.ref (B + v) :: .ref (B + x) :: rest)) := by
  obtain ⟨h0, hv⟩ := pN_spec hv
  exact rp_R C hR hS (j := 10) (ci := 8) (N := 34) (T := TX8) rfl inA8 tyX8 tyX8_ok nmX8 (by decide) (Or.inl lk958) (Or.inr ⟨rfl, hin, rfl, lk958⟩) (rO_ne h0) ⟨rfl, rfl⟩ rfl hv hd kk
theorem pf959 (C : Cx p s m args meth c RX8 cc nL ret D B ca st) (hin : meth.name = "<init>") (hR : RH D B ca M H) (hS : va_S (AA B) s.heap H locs) {v : Nat} (hv : pN M 18 x 11 v = some M') (hd : decode cc pc = .ok (.putfield 37, 3)) (kk : ∀ (H : Heap) (locs : List Loc), RH D B ca M' H → va_S (AA B) s.heap H locs → W p l e R s m args below meth c H locs cells slots Q (F0 m (pc + 3) ls (rest))) : W p l e R s m args below meth c H locs cells slots Q (F0 m pc ls (.ref (B + v) :: .ref (B + x) :: rest)) := by
  obtain ⟨h0, hv⟩ := pN_spec hv
  exact rp_R C hR hS (j := 11) (ci := 8) (N := 34) (T := TX8) rfl inA8 tyX8 tyX8_ok nmX8 (by decide) (Or.inl lk959) (Or.inr ⟨rfl, hin, rfl, lk959⟩) (rO_ne h0) ⟨rfl, rfl⟩ rfl hv hd kk
theorem pf964 (C : Cx p s m args meth c RX8 cc nL ret D B ca st) (hin : meth.name = "<init>") (hR : RH D B ca M H) (hS : va_S (AA B) s.heap H locs) {v : Nat} (hv : pN M 18 x 16 v = some M') (hd : decode cc pc = .ok (.putfield 44, 3)) (kk : ∀ (H : Heap) (locs : List Loc), RH D B ca M' H → va_S (AA B) s.heap H locs → W p l e R s m args below meth c H locs cells slots Q (F0 m (pc + 3) ls (rest))) : W p l e R s m args below meth c H locs cells slots Q (F0 m pc ls (.ref (B + v) :: .ref (B + x) :: rest)) := by
  obtain ⟨h0, hv⟩ := pN_spec hv
  exact rp_R C hR hS (j := 16) (ci := 8) (N := 34) (T := TX8) rfl inA8 tyX8 tyX8_ok nmX8 (by decide) (Or.inl lk964) (Or.inr ⟨rfl, hin, rfl, lk964⟩) (rO_ne h0) ⟨rfl, rfl⟩ rfl hv hd kk
theorem pf968 (C : Cx p s m args meth c RX8 cc nL ret D B ca st) (hin : meth.name = "<init>") (hR : RH D B ca M H) (hS : va_S (AA B) s.heap H locs) {v : Nat} (hv : pN M 18 x 20 v = some M') (hd : decode cc pc = .ok (.putfield 47, 3)) (kk : ∀ (H : Heap) (locs : List Loc), RH D B ca M' H → va_S (AA B) s.heap H locs → W p l e R s m args below meth c H locs cells slots Q (F0 m (pc + 3) ls (rest))) : W p l e R s m args below meth c H locs cells slots Q (F0 m pc ls (.ref (B + v) :: .ref (B + x) :: rest)) := by
  obtain ⟨h0, hv⟩ := pN_spec hv
  exact rp_R C hR hS (j := 20) (ci := 8) (N := 34) (T := TX8) rfl inA8 tyX8 tyX8_ok nmX8 (by decide) (Or.inl lk968) (Or.inr ⟨rfl, hin, rfl, lk968⟩) (rO_ne h0) ⟨rfl, rfl⟩ rfl hv hd kk
theorem pf970 (C : Cx p s m args meth c RX8 cc nL ret D B ca st) (hin : meth.name = "<init>") (hR : RH D B ca M H) (hS : va_S (AA B) s.heap H locs) {v : Nat} (hv : pN M 18 x 22 v = some M') (hd : decode cc pc = .ok (.putfield 50, 3)) (kk : ∀ (H : Heap) (locs : List Loc), RH D B ca M' H → va_S (AA B) s.heap H locs → W p l e R s m args below meth c H locs cells slots Q (F0 m (pc + 3) ls (rest))) : W p l e R s m args below meth c H locs cells slots Q (F0 m pc ls (.ref (B + v) :: .ref (B + x) :: rest)) := by
  obtain ⟨h0, hv⟩ := pN_spec hv
  exact rp_R C hR hS (j := 22) (ci := 8) (N := 34) (T := TX8) rfl inA8 tyX8 tyX8_ok nmX8 (by decide) (Or.inl lk970) (Or.inr ⟨rfl, hin, rfl, lk970⟩) (rO_ne h0) ⟨rfl, rfl⟩ rfl hv hd kk
theorem pf972 (C : Cx p s m args meth c RX8 cc nL ret D B ca st) (hin : meth.name = "<init>") (hR : RH D B ca M H) (hS : va_S (AA B) s.heap H locs) {v : Nat} (hv : pN M 18 x 24 v = some M') (hd : decode cc pc = .ok (.putfield 53, 3)) (kk : ∀ (H : Heap) (locs : List Loc), RH D B ca M' H → va_S (AA B) s.heap H locs → W p l e R s m args below meth c H locs cells slots Q (F0 m (pc + 3) ls (rest))) : W p l e R s m args below meth c H locs cells slots Q (F0 m pc ls (.ref (B + v) :: .ref (B + x) :: rest)) := by
  obtain ⟨h0, hv⟩ := pN_spec hv
  exact rp_R C hR hS (j := 24) (ci := 8) (N := 34) (T := TX8) rfl inA8 tyX8 tyX8_ok nmX8 (by decide) (Or.inl lk972) (Or.inr ⟨rfl, hin, rfl, lk972⟩) (rO_ne h0) ⟨rfl, rfl⟩ rfl hv hd kk
theorem pf973 (C : Cx p s m args meth c RX8 cc nL ret D B ca st) (hin : meth.name = "<init>") (hR : RH D B ca M H) (hS : va_S (AA B) s.heap H locs) {v : Nat} (hv : pN M 18 x 25 v = some M') (hd : decode cc pc = .ok (.putfield 56, 3)) (kk : ∀ (H : Heap) (locs : List Loc), RH D B ca M' H → va_S (AA B) s.heap H locs → W p l e R s m args below meth c H locs cells slots Q (F0 m (pc + 3) ls (rest))) : W p l e R s m args below meth c H locs cells slots Q (F0 m pc ls (.ref (B + v) :: .ref (B + x) :: rest)) := by
  obtain ⟨h0, hv⟩ := pN_spec hv
  exact rp_R C hR hS (j := 25) (ci := 8) (N := 34) (T := TX8) rfl inA8 tyX8 tyX8_ok nmX8 (by decide) (Or.inl lk973) (Or.inr ⟨rfl, hin, rfl, lk973⟩) (rO_ne h0) ⟨rfl, rfl⟩ rfl hv hd kk
theorem pf976 (C : Cx p s m args meth c RX8 cc nL ret D B ca st) (hin : meth.name = "<init>") (hR : RH D B ca M H) (hS : va_S (AA B) s.heap H locs) {v : Nat} (hv : pN M 18 x 28 v = some M') (hd : decode cc pc = .ok (.putfield 59, 3)) (kk : ∀ (H : Heap) (locs : List Loc), RH D B ca M' H → va_S (AA B) s.heap H locs → W p l e R s m args below meth c H locs cells slots Q (F0 m (pc + 3) ls (rest))) : W p l e R s m args below meth c H locs cells slots Q (F0 m pc ls (.ref (B + v) :: .ref (B + x) :: rest)) := by
  obtain ⟨h0, hv⟩ := pN_spec hv
  exact rp_R C hR hS (j := 28) (ci := 8) (N := 34) (T := TX8) rfl inA8 tyX8 tyX8_ok nmX8 (by decide) (Or.inl lk976) (Or.inr ⟨rfl, hin, rfl, lk976⟩) (rO_ne h0) ⟨rfl, rfl⟩ rfl hv hd kk
theorem pf977 (C : Cx p s m args meth c RX8 cc nL ret D B ca st) (hin : meth.name = "<init>") (hR : RH D B ca M H) (hS : va_S (AA B) s.heap H locs) {v : Nat} (hv : pN M 18 x 29 v = some M') (hd : decode cc pc = .ok (.putfield 62, 3)) (kk : ∀ (H : Heap) (locs : List Loc), RH D B ca M' H → va_S (AA B) s.heap H locs → W p l e R s m args below meth c H locs cells slots Q (F0 m (pc + 3) ls (rest))) : W p l e R s m args below meth c H locs cells slots Q (F0 m pc ls (.ref (B + v) :: .ref (B + x) :: rest)) := by
  obtain ⟨h0, hv⟩ := pN_spec hv
  exact rp_R C hR hS (j := 29) (ci := 8) (N := 34) (T := TX8) rfl inA8 tyX8 tyX8_ok nmX8 (by decide) (Or.inl lk977) (Or.inr ⟨rfl, hin, rfl, lk977⟩) (rO_ne h0) ⟨rfl, rfl⟩ rfl hv hd kk
theorem pf978 (C : Cx p s m args meth c RX8 cc nL ret D B ca st) (hin : meth.name = "<init>") (hR : RH D B ca M H) (hS : va_S (AA B) s.heap H locs) {v : Nat} (hv : pN M 18 x 30 v = some M') (hd : decode cc pc = .ok (.putfield 65, 3)) (kk : ∀ (H : Heap) (locs : List Loc), RH D B ca M' H → va_S (AA B) s.heap H locs → W p l e R s m args below meth c H locs cells slots Q (F0 m (pc + 3) ls (rest))) : W p l e R s m args below meth c H locs cells slots Q (F0 m pc ls (.ref (B + v) :: .ref (B + x) :: rest)) := by
  obtain ⟨h0, hv⟩ := pN_spec hv
  exact rp_R C hR hS (j := 30) (ci := 8) (N := 34) (T := TX8) rfl inA8 tyX8 tyX8_ok nmX8 (by decide) (Or.inl lk978) (Or.inr ⟨rfl, hin, rfl, lk978⟩) (rO_ne h0) ⟨rfl, rfl⟩ rfl hv hd kk
theorem pf979 (C : Cx p s m args meth c RX8 cc nL ret D B ca st) (hin : meth.name = "<init>") (hR : RH D B ca M H) (hS : va_S (AA B) s.heap H locs) {v : Nat} (hv : pN M 18 x 31 v = some M') (hd : decode cc pc = .ok (.putfield 68, 3)) (kk : ∀ (H : Heap) (locs : List Loc), RH D B ca M' H → va_S (AA B) s.heap H locs → W p l e R s m args below meth c H locs cells slots Q (F0 m (pc + 3) ls (rest))) : W p l e R s m args below meth c H locs cells slots Q (F0 m pc ls (.ref (B + v) :: .ref (B + x) :: rest)) := by
  obtain ⟨h0, hv⟩ := pN_spec hv
  exact rp_R C hR hS (j := 31) (ci := 8) (N := 34) (T := TX8) rfl inA8 tyX8 tyX8_ok nmX8 (by decide) (Or.inl lk979) (Or.inr ⟨rfl, hin, rfl, lk979⟩) (rO_ne h0) ⟨rfl, rfl⟩ rfl hv hd kk
theorem pf980 (C : Cx p s m args meth c RX8 cc nL ret D B ca st) (hin : meth.name = "<init>") (hR : RH D B ca M H) (hS : va_S (AA B) s.heap H locs) {v : Nat} (hv : pN M 18 x 32 v = some M') (hd : decode cc pc = .ok (.putfield 71, 3)) (kk : ∀ (H : Heap) (locs : List Loc), RH D B ca M' H → va_S (AA B) s.heap H locs → W p l e R s m args below meth c H locs cells slots Q (F0 m (pc + 3) ls (rest))) : W p l e R s m args below meth c H locs cells slots Q (F0 m pc ls (.ref (B + v) :: .ref (B + x) :: rest)) := by
  obtain ⟨h0, hv⟩ := pN_spec hv
  exact rp_R C hR hS (j := 32) (ci := 8) (N := 34) (T := TX8) rfl inA8 tyX8 tyX8_ok nmX8 (by decide) (Or.inl lk980) (Or.inr ⟨rfl, hin, rfl, lk980⟩) (rO_ne h0) ⟨rfl, rfl⟩ rfl hv hd kk
theorem pf981 (C : Cx p s m args meth c RX8 cc nL ret D B ca st) (hin : meth.name = "<init>") (hR : RH D B ca M H) (hS : va_S (AA B) s.heap H locs) {v : Nat} (hv : pN M 18 x 33 v = some M') (hd : decode cc pc = .ok (.putfield 74, 3)) (kk : ∀ (H : Heap) (locs : List Loc), RH D B ca M' H → va_S (AA B) s.heap H locs → W p l e R s m args below meth c H locs cells slots Q (F0 m (pc + 3) ls (rest))) : W p l e R s m args below meth c H locs cells slots Q (F0 m pc ls (.ref (B + v) :: .ref (B + x) :: rest)) := by
  obtain ⟨h0, hv⟩ := pN_spec hv
  exact rp_R C hR hS (j := 33) (ci := 8) (N := 34) (T := TX8) rfl inA8 tyX8 tyX8_ok nmX8 (by decide) (Or.inl lk981) (Or.inr ⟨rfl, hin, rfl, lk981⟩) (rO_ne h0) ⟨rfl, rfl⟩ rfl hv hd kk
end FRowsC
theorem cf_X0_init : CF yX0_init cX0_init 1 none 0 := ⟨lk228, lk123, ⟨by decide +kernel, by decide +kernel⟩, by decide +kernel⟩
theorem cf_X1_init : CF yX1_init cX1_init 1 none 0 := ⟨lk244, lk124, ⟨by decide +kernel, by decide +kernel⟩, by decide +kernel⟩
theorem cf_X2_init : CF yX2_init cX2_init 1 none 0 := ⟨lk149, lk121, ⟨by decide +kernel, by decide +kernel⟩, by decide +kernel⟩
theorem cf_X3_init : CF yX3_init cX3_init 1 none 0 := ⟨lk273, lk125, ⟨by decide +kernel, by decide +kernel⟩, by decide +kernel⟩
theorem cf_X4_init : CF yX4_init cX4_init 1 none 0 := ⟨lk299, lk126, ⟨by decide +kernel, by decide +kernel⟩, by decide +kernel⟩
theorem cf_X5_init : CF yX5_init cX5_init 1 none 0 := ⟨lk313, lk127, ⟨by decide +kernel, by decide +kernel⟩, by decide +kernel⟩
theorem cf_X6_init : CF yX6_init cX6_init 1 none 0 := ⟨lk200, lk122, ⟨by decide +kernel, by decide +kernel⟩, by decide +kernel⟩
theorem cf_X7_init : CF yX7_init cX7_init 2 none 0 := ⟨lk137, lk120, ⟨by decide +kernel, by decide +kernel⟩, by decide +kernel⟩
theorem cf_X8_init : CF yX8_init cX8_init 2 none 0 := ⟨lk946, lk128, ⟨by decide +kernel, by decide +kernel⟩, by decide +kernel⟩
def f_X0_init  (x0 : Nat) (M : Mem) : Option Mem :=
  if kd M x0 = 10 then (
  (nA M 1 40).bind fun qv1 =>
  (pN qv1.2 10 x0 0 qv1.1).bind fun M3 =>
  (pI M3 10 x0 1 0).bind fun M5 =>
  some M5) else none
def f_X1_init  (x0 : Nat) (M : Mem) : Option Mem :=
  if kd M x0 = 11 then (
  (nA M 1 6).bind fun qv1 =>
  (pN qv1.2 11 x0 0 qv1.1).bind fun M3 =>
  (nA M3 1 5).bind fun qv5 =>
  (pN qv5.2 11 x0 1 qv5.1).bind fun M7 =>
  (nA M7 1 7).bind fun qv9 =>
  (pN qv9.2 11 x0 2 qv9.1).bind fun M11 =>
  (pR M11 11 x0 3 0).bind fun M13 =>
  (pI M13 11 x0 4 0).bind fun M15 =>
  (bz 0).bind fun zqb21 =>
  (pI M15 11 x0 5 0).bind fun M17 =>
  (pI M17 11 x0 6 0).bind fun M19 =>
  some M19) else none
def f_X2_init  (x0 : Nat) (M : Mem) : Option Mem :=
  if kd M x0 = 12 then (
  (pI M 12 x0 0 0).bind fun M1 =>
  (pI M1 12 x0 1 0).bind fun M3 =>
  (nA M3 1 5).bind fun qv5 =>
  (pN qv5.2 12 x0 2 qv5.1).bind fun M7 =>
  (nA M7 1 5).bind fun qv9 =>
  (pN qv9.2 12 x0 3 qv9.1).bind fun M11 =>
  (nA M11 1 5).bind fun qv13 =>
  (pN qv13.2 12 x0 4 qv13.1).bind fun M15 =>
  (nA M15 1 6).bind fun qv17 =>
  (pN qv17.2 12 x0 5 qv17.1).bind fun M19 =>
  (nA M19 1 6).bind fun qv21 =>
  (pN qv21.2 12 x0 6 qv21.1).bind fun M23 =>
  (nA M23 1 6).bind fun qv25 =>
  (pN qv25.2 12 x0 7 qv25.1).bind fun M27 =>
  (nA M27 1 30).bind fun qv29 =>
  (pN qv29.2 12 x0 8 qv29.1).bind fun M31 =>
  (nA M31 1 30).bind fun qv33 =>
  (pN qv33.2 12 x0 9 qv33.1).bind fun M35 =>
  some M35) else none
def f_X3_init  (x0 : Nat) (M : Mem) : Option Mem :=
  if kd M x0 = 13 then (
  (nA M 1 6).bind fun qv1 =>
  (pN qv1.2 13 x0 0 qv1.1).bind fun M3 =>
  (nA M3 1 6).bind fun qv5 =>
  (pN qv5.2 13 x0 1 qv5.1).bind fun M7 =>
  (pI M7 13 x0 2 0).bind fun M9 =>
  (pI M9 13 x0 3 0).bind fun M11 =>
  (pR M11 13 x0 4 0).bind fun M13 =>
  (pI M13 13 x0 5 0).bind fun M15 =>
  some M15) else none
def f_X4_init  (x0 : Nat) (M : Mem) : Option Mem :=
  if kd M x0 = 14 then (
  (nA M 1 40).bind fun qv1 =>
  (pN qv1.2 14 x0 0 qv1.1).bind fun M3 =>
  (pI M3 14 x0 1 (-1)).bind fun M5 =>
  some M5) else none
def f_X5_init  (x0 : Nat) (M : Mem) : Option Mem :=
  if kd M x0 = 15 then (
  (nA M 2 60).bind fun qv1 =>
  (pN qv1.2 15 x0 0 qv1.1).bind fun M3 =>
  (pI M3 15 x0 1 (-1)).bind fun M5 =>
  some M5) else none
def f_X6_init  (x0 : Nat) (M : Mem) : Option Mem :=
  if kd M x0 = 16 then (
  (nA M 1 5).bind fun qv1 =>
  (pN qv1.2 16 x0 0 qv1.1).bind fun M3 =>
  (nA M3 1 5).bind fun qv5 =>
  (pN qv5.2 16 x0 1 qv5.1).bind fun M7 =>
  (pI M7 16 x0 2 0).bind fun M9 =>
  (pI M9 16 x0 3 0).bind fun M11 =>
  some M11) else none
def f_X7_init_196   : Nat → Nat → Int32 → Mem → Option Mem
  | 0, _, _, _ => none
  | n + 1, x0, x1, M =>
    (gR M 17 x0 7).bind fun v91 =>
    (aN M 3 v91).bind fun v93 =>
    if v93 ≤ x1 then (
    some M) else
    (gR M 17 x0 7).bind fun v95 =>
    (nO M 10 2).bind fun qv97 =>
    (f_X0_init qv97.1 qv97.2).bind fun M99 =>
    (eR M99 3 10 v95 x1 qv97.1).bind fun M101 =>
    (gR M101 17 x0 7).bind fun v103 =>
    (aR M101 3 v103 x1).bind fun v105 =>
    (pI M101 10 v105 1 (-1)).bind fun M107 =>
    f_X7_init_196 n x0 (x1 + 1) M107
def f_X7_init_166   : Nat → Nat → Int32 → Mem → Option Mem
  | 0, _, _, _ => none
  | n + 1, x0, x1, M =>
    (gR M 17 x0 1).bind fun v79 =>
    (aN M 5 v79).bind fun v81 =>
    if v81 ≤ x1 then (
    f_X7_init_196 FU x0 0 M) else
    (gR M 17 x0 1).bind fun v83 =>
    (nO M 15 2).bind fun qv85 =>
    (f_X5_init qv85.1 qv85.2).bind fun M87 =>
    (eR M87 5 15 v83 x1 qv85.1).bind fun M89 =>
    f_X7_init_166 n x0 (x1 + 1) M89
def f_X7_init_136   : Nat → Nat → Int32 → Mem → Option Mem
  | 0, _, _, _ => none
  | n + 1, x0, x1, M =>
    (gR M 17 x0 0).bind fun v67 =>
    (aN M 4 v67).bind fun v69 =>
    if v69 ≤ x1 then (
    f_X7_init_166 FU x0 0 M) else
    (gR M 17 x0 0).bind fun v71 =>
    (nO M 14 2).bind fun qv73 =>
    (f_X4_init qv73.1 qv73.2).bind fun M75 =>
    (eR M75 4 14 v71 x1 qv73.1).bind fun M77 =>
    f_X7_init_136 n x0 (x1 + 1) M77
def f_X7_init  (x0 : Nat) (M : Mem) : Option Mem :=
  if kd M x0 = 17 then (
  (nA M 4 6).bind fun qv1 =>
  (pN qv1.2 17 x0 0 qv1.1).bind fun M3 =>
  (nA M3 5 4).bind fun qv5 =>
  (pN qv5.2 17 x0 1 qv5.1).bind fun M7 =>
  (nO M7 12 10).bind fun qv9 =>
  (f_X2_init qv9.1 qv9.2).bind fun M11 =>
  (pN M11 17 x0 2 qv9.1).bind fun M13 =>
  (nO M13 12 10).bind fun qv15 =>
  (f_X2_init qv15.1 qv15.2).bind fun M17 =>
  (pN M17 17 x0 3 qv15.1).bind fun M19 =>
  (nO M19 16 4).bind fun qv21 =>
  (f_X6_init qv21.1 qv21.2).bind fun M23 =>
  (pN M23 17 x0 4 qv21.1).bind fun M25 =>
  (nO M25 16 4).bind fun qv27 =>
  (f_X6_init qv27.1 qv27.2).bind fun M29 =>
  (pN M29 17 x0 5 qv27.1).bind fun M31 =>
  (nO M31 10 2).bind fun qv33 =>
  (f_X0_init qv33.1 qv33.2).bind fun M35 =>
  (pN M35 17 x0 6 qv33.1).bind fun M37 =>
  (nA M37 3 3).bind fun qv39 =>
  (pN qv39.2 17 x0 7 qv39.1).bind fun M41 =>
  (nO M41 11 7).bind fun qv43 =>
  (f_X1_init qv43.1 qv43.2).bind fun M45 =>
  (pN M45 17 x0 8 qv43.1).bind fun M47 =>
  (nO M47 13 6).bind fun qv49 =>
  (f_X3_init qv49.1 qv49.2).bind fun M51 =>
  (pN M51 17 x0 9 qv49.1).bind fun M53 =>
  (pI M53 17 x0 10 0).bind fun M55 =>
  (pL M55 17 x0 11 0).bind fun M57 =>
  (pL M57 17 x0 12 1).bind fun M59 =>
  (pI M59 17 x0 13 0).bind fun M61 =>
  (nA M61 1 6).bind fun qv63 =>
  (pN qv63.2 17 x0 14 qv63.1).bind fun M65 =>
  f_X7_init_136 FU x0 0 M65) else none
def f_X8_init_219   : Nat → Nat → Int32 → Mem → Option Mem
  | 0, _, _, _ => none
  | n + 1, x0, x1, M =>
    if 4 ≤ x1 then (
    some M) else
    (gR M 18 x0 0).bind fun v107 =>
    (eI M v107 ((493 * x1) + 0) (-1)).bind fun M109 =>
    f_X8_init_219 n x0 (x1 + 1) M109
def f_X8_init  (x0 : Nat) (M : Mem) : Option Mem :=
  if kd M x0 = 18 then (
  (nA M 1 1998).bind fun qv1 =>
  (pN qv1.2 18 x0 0 qv1.1).bind fun M3 =>
  (nA M3 1 5).bind fun qv5 =>
  (pN qv5.2 18 x0 2 qv5.1).bind fun M7 =>
  (nA M7 1 5).bind fun qv9 =>
  (pN qv9.2 18 x0 3 qv9.1).bind fun M11 =>
  (nA M11 1 6).bind fun qv13 =>
  (pN qv13.2 18 x0 5 qv13.1).bind fun M15 =>
  (nA M15 1 6).bind fun qv17 =>
  (pN qv17.2 18 x0 6 qv17.1).bind fun M19 =>
  (nA M19 1 6).bind fun qv21 =>
  (pN qv21.2 18 x0 7 qv21.1).bind fun M23 =>
  (nA M23 1 6).bind fun qv25 =>
  (eI qv25.2 qv25.1 0 (-1)).bind fun M27 =>
  (eI M27 qv25.1 1 (-1)).bind fun M29 =>
  (eI M29 qv25.1 2 (-1)).bind fun M31 =>
  (eI M31 qv25.1 3 (-1)).bind fun M33 =>
  (eI M33 qv25.1 4 (-1)).bind fun M35 =>
  (eI M35 qv25.1 5 (-1)).bind fun M37 =>
  (pN M37 18 x0 8 qv25.1).bind fun M39 =>
  (nA M39 1 240).bind fun qv41 =>
  (pN qv41.2 18 x0 9 qv41.1).bind fun M43 =>
  (nA M43 1 4).bind fun qv45 =>
  (eI qv45.2 qv45.1 0 (-1)).bind fun M47 =>
  (eI M47 qv45.1 1 (-1)).bind fun M49 =>
  (eI M49 qv45.1 2 (-1)).bind fun M51 =>
  (eI M51 qv45.1 3 (-1)).bind fun M53 =>
  (pN M53 18 x0 10 qv45.1).bind fun M55 =>
  (nA M55 1 240).bind fun qv57 =>
  (pN qv57.2 18 x0 11 qv57.1).bind fun M59 =>
  (pL M59 18 x0 14 1).bind fun M61 =>
  (nA M61 1 6).bind fun qv63 =>
  (pN qv63.2 18 x0 16 qv63.1).bind fun M65 =>
  (nA M65 1 15).bind fun qv67 =>
  (pN qv67.2 18 x0 20 qv67.1).bind fun M69 =>
  (nA M69 1 18).bind fun qv71 =>
  (pN qv71.2 18 x0 22 qv71.1).bind fun M73 =>
  (nA M73 1 6).bind fun qv75 =>
  (pN qv75.2 18 x0 24 qv75.1).bind fun M77 =>
  (nA M77 1 6).bind fun qv79 =>
  (pN qv79.2 18 x0 25 qv79.1).bind fun M81 =>
  (nA M81 1 7).bind fun qv83 =>
  (pN qv83.2 18 x0 28 qv83.1).bind fun M85 =>
  (nA M85 1 7).bind fun qv87 =>
  (pN qv87.2 18 x0 29 qv87.1).bind fun M89 =>
  (nA M89 1 7).bind fun qv91 =>
  (pN qv91.2 18 x0 30 qv91.1).bind fun M93 =>
  (nA M93 1 7).bind fun qv95 =>
  (pN qv95.2 18 x0 31 qv95.1).bind fun M97 =>
  (nA M97 1 7).bind fun qv99 =>
  (pN qv99.2 18 x0 32 qv99.1).bind fun M101 =>
  (nA M101 1 7).bind fun qv103 =>
  (pN qv103.2 18 x0 33 qv103.1).bind fun M105 =>
  f_X8_init_219 FU x0 1 M105) else none
section WalkC
variable {p : Program} {l : Launch} {e : Env} {s : State} {m : MethodId} {args : Array Value} {below : List Frame} {meth : Method} {c : Code}
variable {D : va_G} {B : Nat} {ca : Nat → ClassId} {st : Nat → Nat}
theorem ck_X0_init {x0 : Nat} {M r : Mem} (h : f_X0_init x0 M = some r) : kd M x0 = 10 := by
  unfold f_X0_init at h
  exact ck h
set_option maxHeartbeats 4000000 in
set_option maxRecDepth 100000 in
theorem ok_X0_init {x0 : Nat} {M r : Mem} (h : f_X0_init x0 M = some r) : Oc l yX0_init cX0_init 1 1 1 40 [.ref (B + x0)] D B ca st M r := by
  have hk0 := ck_X0_init h
  have hk1 := kd_spec hk0 (by decide)
  unfold f_X0_init at h
  have h := ip hk0 h
  refine oc_of rfl rfl rfl (Nat.le_of_ble_eq_true rfl) ?_
  intro p e s m args below meth c ls C hin hao hs hl hR hS
  have hl : lv_has ls 1 [(0, .ref (B + x0))] := hl
  have hx := C.1
  have hb := C.2.1
  have hn1 : 1 ≤ mN M := Nat.le_trans hk1.1 hk1.2.1
  generalize hn0 : mN M = n0 at hs hn1
  clear hk1
  have hc : mN M = n0 + 0 := hn0
  refine lv_aload_n hx hb dX0_init_0 rfl (lv_at hl 0 rfl) ?_
  refine W.objInit hx hb C.2.2.2.1 (C.2.2.2.2.1 _ lk229) (C.2.2.2.2.1 _ lk139) (C.2.2.2.2.1 _ lk140) rfl (hl.1.trans C.2.2.1.symm) rfl dX0_init_1 (Nat.le_of_ble_eq_true rfl) (Nat.le_of_ble_eq_true rfl) ?_
  refine lv_aload_n hx hb dX0_init_4 rfl (lv_at hl 0 rfl) ?_
  refine lv_bipush (v := 40) hx hb dX0_init_5 (by decide) ?_
  obtain ⟨qv1, zqe2, h⟩ := ob h
  refine rn_A C hR hS hs hc (ge1 hn1 hc) (Or.inl ⟨rfl, rfl⟩) lk195 (N := 40) (by decide +kernel) (by decide) zqe2 ⟨Nat.le_of_ble_eq_true rfl, Nat.le_of_ble_eq_true rfl⟩ dX0_init_7 (fun H hR hS hc => ?_)
  have hc : mN qv1.2 = n0 + 1 := hc
  refine W.cs (cells' := 1) (slots' := 40) rfl rfl ?_
  obtain ⟨M3, zqe4, h⟩ := ob h
  refine pf230 C hin hR hS zqe4 dX0_init_9 (fun H locs hR hS => ?_)
  have hc := (pN_n zqe4).trans hc
  refine lv_aload_n hx hb dX0_init_12 rfl (lv_at hl 0 rfl) ?_
  refine lv_iconst (v := 0) hx hb dX0_init_13 (by decide) ?_
  obtain ⟨M5, zqe6, h⟩ := ob h
  refine pf232 C hR hS zqe6 dX0_init_14 (fun H locs hR hS => ?_)
  have hc := (pI_n zqe6).trans hc
  cases h
  exact w_size (fun hz0 => rk_V C hao hR hS (rn_sz hR hs hc (ge1 hn1 hc) hz0) dX0_init_17)
set_option maxHeartbeats 4000000 in
set_option maxRecDepth 100000 in
theorem nN_X0_init {x0 : Nat} {M r : Mem} (h : f_X0_init x0 M = some r) : mN r = mN M + 1 ∧ mN r ≤ 86 := by
  have hk0 := ck_X0_init h
  unfold f_X0_init at h
  have h := ip hk0 h
  obtain ⟨qv1, zqe2, h⟩ := ob h
  obtain ⟨M3, zqe4, h⟩ := ob h
  obtain ⟨M5, zqe6, h⟩ := ob h
  cases h
  have t0 := nA_n zqe2
  have u0 := sh_top (nA_spec zqe2).2.1 (by decide)
  have t1 := pN_n zqe4
  have t2 := pI_n zqe6
  refine ⟨?_, ?_⟩
  · rw [t2, t1, t0]
  · rw [t2, t1, t0]; exact u0
theorem ck_X1_init {x0 : Nat} {M r : Mem} (h : f_X1_init x0 M = some r) : kd M x0 = 11 := by
  unfold f_X1_init at h
  exact ck h
set_option maxHeartbeats 4000000 in
set_option maxRecDepth 100000 in
theorem ok_X1_init {x0 : Nat} {M r : Mem} (h : f_X1_init x0 M = some r) : Oc l yX1_init cX1_init 1 1 3 18 [.ref (B + x0)] D B ca st M r := by
  have hk0 := ck_X1_init h
  have hk1 := kd_spec hk0 (by decide)
  unfold f_X1_init at h
  have h := ip hk0 h
  refine oc_of rfl rfl rfl (Nat.le_of_ble_eq_true rfl) ?_
  intro p e s m args below meth c ls C hin hao hs hl hR hS
  have hl : lv_has ls 1 [(0, .ref (B + x0))] := hl
  have hx := C.1
  have hb := C.2.1
  have hn1 : 1 ≤ mN M := Nat.le_trans hk1.1 hk1.2.1
  generalize hn0 : mN M = n0 at hs hn1
  clear hk1
  have hc : mN M = n0 + 0 := hn0
  refine lv_aload_n hx hb dX1_init_0 rfl (lv_at hl 0 rfl) ?_
  refine W.objInit hx hb C.2.2.2.1 (C.2.2.2.2.1 _ lk245) (C.2.2.2.2.1 _ lk139) (C.2.2.2.2.1 _ lk140) rfl (hl.1.trans C.2.2.1.symm) rfl dX1_init_1 (Nat.le_of_ble_eq_true rfl) (Nat.le_of_ble_eq_true rfl) ?_
  refine lv_aload_n hx hb dX1_init_4 rfl (lv_at hl 0 rfl) ?_
  refine lv_bipush (v := 6) hx hb dX1_init_5 (by decide) ?_
  obtain ⟨qv1, zqe2, h⟩ := ob h
  refine rn_A C hR hS hs hc (ge1 hn1 hc) (Or.inl ⟨rfl, rfl⟩) lk195 (N := 6) (by decide +kernel) (by decide) zqe2 ⟨Nat.le_of_ble_eq_true rfl, Nat.le_of_ble_eq_true rfl⟩ dX1_init_7 (fun H hR hS hc => ?_)
  have hc : mN qv1.2 = n0 + 1 := hc
  refine W.cs (cells' := 1) (slots' := 6) rfl rfl ?_
  obtain ⟨M3, zqe4, h⟩ := ob h
  refine pf246 C hin hR hS zqe4 dX1_init_9 (fun H locs hR hS => ?_)
  have hc := (pN_n zqe4).trans hc
  refine lv_aload_n hx hb dX1_init_12 rfl (lv_at hl 0 rfl) ?_
  refine lv_iconst (v := 5) hx hb dX1_init_13 (by decide) ?_
  obtain ⟨qv5, zqe6, h⟩ := ob h
  refine rn_A C hR hS hs hc (ge1 hn1 hc) (Or.inl ⟨rfl, rfl⟩) lk195 (N := 5) (by decide +kernel) (by decide) zqe6 ⟨Nat.le_of_ble_eq_true rfl, Nat.le_of_ble_eq_true rfl⟩ dX1_init_14 (fun H hR hS hc => ?_)
  have hc : mN qv5.2 = n0 + 2 := hc
  refine W.cs (cells' := 2) (slots' := 11) rfl rfl ?_
  obtain ⟨M7, zqe8, h⟩ := ob h
  refine pf248 C hin hR hS zqe8 dX1_init_16 (fun H locs hR hS => ?_)
  have hc := (pN_n zqe8).trans hc
  refine lv_aload_n hx hb dX1_init_19 rfl (lv_at hl 0 rfl) ?_
  refine lv_bipush (v := 7) hx hb dX1_init_20 (by decide) ?_
  obtain ⟨qv9, zqe10, h⟩ := ob h
  refine rn_A C hR hS hs hc (ge1 hn1 hc) (Or.inl ⟨rfl, rfl⟩) lk195 (N := 7) (by decide +kernel) (by decide) zqe10 ⟨Nat.le_of_ble_eq_true rfl, Nat.le_of_ble_eq_true rfl⟩ dX1_init_22 (fun H hR hS hc => ?_)
  have hc : mN qv9.2 = n0 + 3 := hc
  refine W.cs (cells' := 3) (slots' := 18) rfl rfl ?_
  obtain ⟨M11, zqe12, h⟩ := ob h
  refine pf249 C hin hR hS zqe12 dX1_init_24 (fun H locs hR hS => ?_)
  have hc := (pN_n zqe12).trans hc
  refine lv_aload_n hx hb dX1_init_27 rfl (lv_at hl 0 rfl) ?_
  refine lv_null hx hb dX1_init_28 ?_
  obtain ⟨M13, zqe14, h⟩ := ob h
  refine pf0_250 C hR hS zqe14 dX1_init_29 (fun H locs hR hS => ?_)
  have hc := (pR_n zqe14).trans hc
  refine lv_aload_n hx hb dX1_init_32 rfl (lv_at hl 0 rfl) ?_
  refine lv_iconst (v := 0) hx hb dX1_init_33 (by decide) ?_
  obtain ⟨M15, zqe16, h⟩ := ob h
  refine pf251 C hR hS zqe16 dX1_init_34 (fun H locs hR hS => ?_)
  have hc := (pI_n zqe16).trans hc
  refine lv_aload_n hx hb dX1_init_37 rfl (lv_at hl 0 rfl) ?_
  refine lv_iconst (v := 0) hx hb dX1_init_38 (by decide) ?_
  obtain ⟨zqb21, zqe22, h⟩ := ob h
  obtain ⟨M17, zqe18, h⟩ := ob h
  refine pf252 C hR hS zqe22 zqe18 dX1_init_39 (fun H locs hR hS => ?_)
  have hc := (pI_n zqe18).trans hc
  refine lv_aload_n hx hb dX1_init_42 rfl (lv_at hl 0 rfl) ?_
  refine lv_iconst (v := 0) hx hb dX1_init_43 (by decide) ?_
  obtain ⟨M19, zqe20, h⟩ := ob h
  refine pf253 C hR hS zqe20 dX1_init_44 (fun H locs hR hS => ?_)
  have hc := (pI_n zqe20).trans hc
  cases h
  exact w_size (fun hz0 => rk_V C hao hR hS (rn_sz hR hs hc (ge1 hn1 hc) hz0) dX1_init_47)
set_option maxHeartbeats 4000000 in
set_option maxRecDepth 100000 in
theorem nN_X1_init {x0 : Nat} {M r : Mem} (h : f_X1_init x0 M = some r) : mN r = mN M + 3 ∧ mN r ≤ 86 := by
  have hk0 := ck_X1_init h
  unfold f_X1_init at h
  have h := ip hk0 h
  obtain ⟨qv1, zqe2, h⟩ := ob h
  obtain ⟨M3, zqe4, h⟩ := ob h
  obtain ⟨qv5, zqe6, h⟩ := ob h
  obtain ⟨M7, zqe8, h⟩ := ob h
  obtain ⟨qv9, zqe10, h⟩ := ob h
  obtain ⟨M11, zqe12, h⟩ := ob h
  obtain ⟨M13, zqe14, h⟩ := ob h
  obtain ⟨M15, zqe16, h⟩ := ob h
  obtain ⟨zqb21, zqe22, h⟩ := ob h
  obtain ⟨M17, zqe18, h⟩ := ob h
  obtain ⟨M19, zqe20, h⟩ := ob h
  cases h
  have t0 := nA_n zqe2
  have u0 := sh_top (nA_spec zqe2).2.1 (by decide)
  have t1 := pN_n zqe4
  have t2 := nA_n zqe6
  have u2 := sh_top (nA_spec zqe6).2.1 (by decide)
  have t3 := pN_n zqe8
  have t4 := nA_n zqe10
  have u4 := sh_top (nA_spec zqe10).2.1 (by decide)
  have t5 := pN_n zqe12
  have t6 := pR_n zqe14
  have t7 := pI_n zqe16
  have t9 := pI_n zqe18
  have t10 := pI_n zqe20
  refine ⟨?_, ?_⟩
  · rw [t10, t9, t7, t6, t5, t4, t3, t2, t1, t0]
  · rw [t10, t9, t7, t6, t5, t4]; exact u4
theorem ck_X2_init {x0 : Nat} {M r : Mem} (h : f_X2_init x0 M = some r) : kd M x0 = 12 := by
  unfold f_X2_init at h
  exact ck h
set_option maxHeartbeats 4000000 in
set_option maxRecDepth 100000 in
theorem ok_X2_init {x0 : Nat} {M r : Mem} (h : f_X2_init x0 M = some r) : Oc l yX2_init cX2_init 1 1 8 93 [.ref (B + x0)] D B ca st M r := by
  have hk0 := ck_X2_init h
  have hk1 := kd_spec hk0 (by decide)
  unfold f_X2_init at h
  have h := ip hk0 h
  refine oc_of rfl rfl rfl (Nat.le_of_ble_eq_true rfl) ?_
  intro p e s m args below meth c ls C hin hao hs hl hR hS
  have hl : lv_has ls 1 [(0, .ref (B + x0))] := hl
  have hx := C.1
  have hb := C.2.1
  have hn1 : 1 ≤ mN M := Nat.le_trans hk1.1 hk1.2.1
  generalize hn0 : mN M = n0 at hs hn1
  clear hk1
  have hc : mN M = n0 + 0 := hn0
  refine lv_aload_n hx hb dX2_init_0 rfl (lv_at hl 0 rfl) ?_
  refine W.objInit hx hb C.2.2.2.1 (C.2.2.2.2.1 _ lk150) (C.2.2.2.2.1 _ lk139) (C.2.2.2.2.1 _ lk140) rfl (hl.1.trans C.2.2.1.symm) rfl dX2_init_1 (Nat.le_of_ble_eq_true rfl) (Nat.le_of_ble_eq_true rfl) ?_
  refine lv_aload_n hx hb dX2_init_4 rfl (lv_at hl 0 rfl) ?_
  refine lv_iconst (v := 0) hx hb dX2_init_5 (by decide) ?_
  obtain ⟨M1, zqe2, h⟩ := ob h
  refine pf151 C hR hS zqe2 dX2_init_6 (fun H locs hR hS => ?_)
  have hc := (pI_n zqe2).trans hc
  refine lv_aload_n hx hb dX2_init_9 rfl (lv_at hl 0 rfl) ?_
  refine lv_iconst (v := 0) hx hb dX2_init_10 (by decide) ?_
  obtain ⟨M3, zqe4, h⟩ := ob h
  refine pf155 C hR hS zqe4 dX2_init_11 (fun H locs hR hS => ?_)
  have hc := (pI_n zqe4).trans hc
  refine lv_aload_n hx hb dX2_init_14 rfl (lv_at hl 0 rfl) ?_
  refine lv_iconst (v := 5) hx hb dX2_init_15 (by decide) ?_
  obtain ⟨qv5, zqe6, h⟩ := ob h
  refine rn_A C hR hS hs hc (ge1 hn1 hc) (Or.inl ⟨rfl, rfl⟩) lk195 (N := 5) (by decide +kernel) (by decide) zqe6 ⟨Nat.le_of_ble_eq_true rfl, Nat.le_of_ble_eq_true rfl⟩ dX2_init_16 (fun H hR hS hc => ?_)
  have hc : mN qv5.2 = n0 + 1 := hc
  refine W.cs (cells' := 1) (slots' := 5) rfl rfl ?_
  obtain ⟨M7, zqe8, h⟩ := ob h
  refine pf159 C hin hR hS zqe8 dX2_init_18 (fun H locs hR hS => ?_)
  have hc := (pN_n zqe8).trans hc
  refine lv_aload_n hx hb dX2_init_21 rfl (lv_at hl 0 rfl) ?_
  refine lv_iconst (v := 5) hx hb dX2_init_22 (by decide) ?_
  obtain ⟨qv9, zqe10, h⟩ := ob h
  refine rn_A C hR hS hs hc (ge1 hn1 hc) (Or.inl ⟨rfl, rfl⟩) lk195 (N := 5) (by decide +kernel) (by decide) zqe10 ⟨Nat.le_of_ble_eq_true rfl, Nat.le_of_ble_eq_true rfl⟩ dX2_init_23 (fun H hR hS hc => ?_)
  have hc : mN qv9.2 = n0 + 2 := hc
  refine W.cs (cells' := 2) (slots' := 10) rfl rfl ?_
  obtain ⟨M11, zqe12, h⟩ := ob h
  refine pf161 C hin hR hS zqe12 dX2_init_25 (fun H locs hR hS => ?_)
  have hc := (pN_n zqe12).trans hc
  refine lv_aload_n hx hb dX2_init_28 rfl (lv_at hl 0 rfl) ?_
  refine lv_iconst (v := 5) hx hb dX2_init_29 (by decide) ?_
  obtain ⟨qv13, zqe14, h⟩ := ob h
  refine rn_A C hR hS hs hc (ge1 hn1 hc) (Or.inl ⟨rfl, rfl⟩) lk195 (N := 5) (by decide +kernel) (by decide) zqe14 ⟨Nat.le_of_ble_eq_true rfl, Nat.le_of_ble_eq_true rfl⟩ dX2_init_30 (fun H hR hS hc => ?_)
  have hc : mN qv13.2 = n0 + 3 := hc
  refine W.cs (cells' := 3) (slots' := 15) rfl rfl ?_
  obtain ⟨M15, zqe16, h⟩ := ob h
  refine pf163 C hin hR hS zqe16 dX2_init_32 (fun H locs hR hS => ?_)
  have hc := (pN_n zqe16).trans hc
  refine lv_aload_n hx hb dX2_init_35 rfl (lv_at hl 0 rfl) ?_
  refine lv_bipush (v := 6) hx hb dX2_init_36 (by decide) ?_
  obtain ⟨qv17, zqe18, h⟩ := ob h
  refine rn_A C hR hS hs hc (ge1 hn1 hc) (Or.inl ⟨rfl, rfl⟩) lk195 (N := 6) (by decide +kernel) (by decide) zqe18 ⟨Nat.le_of_ble_eq_true rfl, Nat.le_of_ble_eq_true rfl⟩ dX2_init_38 (fun H hR hS hc => ?_)
  have hc : mN qv17.2 = n0 + 4 := hc
  refine W.cs (cells' := 4) (slots' := 21) rfl rfl ?_
  obtain ⟨M19, zqe20, h⟩ := ob h
  refine pf165 C hin hR hS zqe20 dX2_init_40 (fun H locs hR hS => ?_)
  have hc := (pN_n zqe20).trans hc
  refine lv_aload_n hx hb dX2_init_43 rfl (lv_at hl 0 rfl) ?_
  refine lv_bipush (v := 6) hx hb dX2_init_44 (by decide) ?_
  obtain ⟨qv21, zqe22, h⟩ := ob h
  refine rn_A C hR hS hs hc (ge1 hn1 hc) (Or.inl ⟨rfl, rfl⟩) lk195 (N := 6) (by decide +kernel) (by decide) zqe22 ⟨Nat.le_of_ble_eq_true rfl, Nat.le_of_ble_eq_true rfl⟩ dX2_init_46 (fun H hR hS hc => ?_)
  have hc : mN qv21.2 = n0 + 5 := hc
  refine W.cs (cells' := 5) (slots' := 27) rfl rfl ?_
  obtain ⟨M23, zqe24, h⟩ := ob h
  refine pf168 C hin hR hS zqe24 dX2_init_48 (fun H locs hR hS => ?_)
  have hc := (pN_n zqe24).trans hc
  refine lv_aload_n hx hb dX2_init_51 rfl (lv_at hl 0 rfl) ?_
  refine lv_bipush (v := 6) hx hb dX2_init_52 (by decide) ?_
  obtain ⟨qv25, zqe26, h⟩ := ob h
  refine rn_A C hR hS hs hc (ge1 hn1 hc) (Or.inl ⟨rfl, rfl⟩) lk195 (N := 6) (by decide +kernel) (by decide) zqe26 ⟨Nat.le_of_ble_eq_true rfl, Nat.le_of_ble_eq_true rfl⟩ dX2_init_54 (fun H hR hS hc => ?_)
  have hc : mN qv25.2 = n0 + 6 := hc
  refine W.cs (cells' := 6) (slots' := 33) rfl rfl ?_
  obtain ⟨M27, zqe28, h⟩ := ob h
  refine pf170 C hin hR hS zqe28 dX2_init_56 (fun H locs hR hS => ?_)
  have hc := (pN_n zqe28).trans hc
  refine lv_aload_n hx hb dX2_init_59 rfl (lv_at hl 0 rfl) ?_
  refine lv_bipush (v := 30) hx hb dX2_init_60 (by decide) ?_
  obtain ⟨qv29, zqe30, h⟩ := ob h
  refine rn_A C hR hS hs hc (ge1 hn1 hc) (Or.inl ⟨rfl, rfl⟩) lk195 (N := 30) (by decide +kernel) (by decide) zqe30 ⟨Nat.le_of_ble_eq_true rfl, Nat.le_of_ble_eq_true rfl⟩ dX2_init_62 (fun H hR hS hc => ?_)
  have hc : mN qv29.2 = n0 + 7 := hc
  refine W.cs (cells' := 7) (slots' := 63) rfl rfl ?_
  obtain ⟨M31, zqe32, h⟩ := ob h
  refine pf172 C hin hR hS zqe32 dX2_init_64 (fun H locs hR hS => ?_)
  have hc := (pN_n zqe32).trans hc
  refine lv_aload_n hx hb dX2_init_67 rfl (lv_at hl 0 rfl) ?_
  refine lv_bipush (v := 30) hx hb dX2_init_68 (by decide) ?_
  obtain ⟨qv33, zqe34, h⟩ := ob h
  refine rn_A C hR hS hs hc (ge1 hn1 hc) (Or.inl ⟨rfl, rfl⟩) lk195 (N := 30) (by decide +kernel) (by decide) zqe34 ⟨Nat.le_of_ble_eq_true rfl, Nat.le_of_ble_eq_true rfl⟩ dX2_init_70 (fun H hR hS hc => ?_)
  have hc : mN qv33.2 = n0 + 8 := hc
  refine W.cs (cells' := 8) (slots' := 93) rfl rfl ?_
  obtain ⟨M35, zqe36, h⟩ := ob h
  refine pf173 C hin hR hS zqe36 dX2_init_72 (fun H locs hR hS => ?_)
  have hc := (pN_n zqe36).trans hc
  cases h
  exact w_size (fun hz0 => rk_V C hao hR hS (rn_sz hR hs hc (ge1 hn1 hc) hz0) dX2_init_75)
set_option maxHeartbeats 4000000 in
set_option maxRecDepth 100000 in
theorem nN_X2_init {x0 : Nat} {M r : Mem} (h : f_X2_init x0 M = some r) : mN r = mN M + 8 ∧ mN r ≤ 86 := by
  have hk0 := ck_X2_init h
  unfold f_X2_init at h
  have h := ip hk0 h
  obtain ⟨M1, zqe2, h⟩ := ob h
  obtain ⟨M3, zqe4, h⟩ := ob h
  obtain ⟨qv5, zqe6, h⟩ := ob h
  obtain ⟨M7, zqe8, h⟩ := ob h
  obtain ⟨qv9, zqe10, h⟩ := ob h
  obtain ⟨M11, zqe12, h⟩ := ob h
  obtain ⟨qv13, zqe14, h⟩ := ob h
  obtain ⟨M15, zqe16, h⟩ := ob h
  obtain ⟨qv17, zqe18, h⟩ := ob h
  obtain ⟨M19, zqe20, h⟩ := ob h
  obtain ⟨qv21, zqe22, h⟩ := ob h
  obtain ⟨M23, zqe24, h⟩ := ob h
  obtain ⟨qv25, zqe26, h⟩ := ob h
  obtain ⟨M27, zqe28, h⟩ := ob h
  obtain ⟨qv29, zqe30, h⟩ := ob h
  obtain ⟨M31, zqe32, h⟩ := ob h
  obtain ⟨qv33, zqe34, h⟩ := ob h
  obtain ⟨M35, zqe36, h⟩ := ob h
  cases h
  have t0 := pI_n zqe2
  have t1 := pI_n zqe4
  have t2 := nA_n zqe6
  have u2 := sh_top (nA_spec zqe6).2.1 (by decide)
  have t3 := pN_n zqe8
  have t4 := nA_n zqe10
  have u4 := sh_top (nA_spec zqe10).2.1 (by decide)
  have t5 := pN_n zqe12
  have t6 := nA_n zqe14
  have u6 := sh_top (nA_spec zqe14).2.1 (by decide)
  have t7 := pN_n zqe16
  have t8 := nA_n zqe18
  have u8 := sh_top (nA_spec zqe18).2.1 (by decide)
  have t9 := pN_n zqe20
  have t10 := nA_n zqe22
  have u10 := sh_top (nA_spec zqe22).2.1 (by decide)
  have t11 := pN_n zqe24
  have t12 := nA_n zqe26
  have u12 := sh_top (nA_spec zqe26).2.1 (by decide)
  have t13 := pN_n zqe28
  have t14 := nA_n zqe30
  have u14 := sh_top (nA_spec zqe30).2.1 (by decide)
  have t15 := pN_n zqe32
  have t16 := nA_n zqe34
  have u16 := sh_top (nA_spec zqe34).2.1 (by decide)
  have t17 := pN_n zqe36
  refine ⟨?_, ?_⟩
  · rw [t17, t16, t15, t14, t13, t12, t11, t10, t9, t8, t7, t6, t5, t4, t3, t2, t1, t0]
  · rw [t17, t16]; exact u16
theorem ck_X3_init {x0 : Nat} {M r : Mem} (h : f_X3_init x0 M = some r) : kd M x0 = 13 := by
  unfold f_X3_init at h
  exact ck h
set_option maxHeartbeats 4000000 in
set_option maxRecDepth 100000 in
theorem ok_X3_init {x0 : Nat} {M r : Mem} (h : f_X3_init x0 M = some r) : Oc l yX3_init cX3_init 1 1 2 12 [.ref (B + x0)] D B ca st M r := by
  have hk0 := ck_X3_init h
  have hk1 := kd_spec hk0 (by decide)
  unfold f_X3_init at h
  have h := ip hk0 h
  refine oc_of rfl rfl rfl (Nat.le_of_ble_eq_true rfl) ?_
  intro p e s m args below meth c ls C hin hao hs hl hR hS
  have hl : lv_has ls 1 [(0, .ref (B + x0))] := hl
  have hx := C.1
  have hb := C.2.1
  have hn1 : 1 ≤ mN M := Nat.le_trans hk1.1 hk1.2.1
  generalize hn0 : mN M = n0 at hs hn1
  clear hk1
  have hc : mN M = n0 + 0 := hn0
  refine lv_aload_n hx hb dX3_init_0 rfl (lv_at hl 0 rfl) ?_
  refine W.objInit hx hb C.2.2.2.1 (C.2.2.2.2.1 _ lk274) (C.2.2.2.2.1 _ lk139) (C.2.2.2.2.1 _ lk140) rfl (hl.1.trans C.2.2.1.symm) rfl dX3_init_1 (Nat.le_of_ble_eq_true rfl) (Nat.le_of_ble_eq_true rfl) ?_
  refine lv_aload_n hx hb dX3_init_4 rfl (lv_at hl 0 rfl) ?_
  refine lv_bipush (v := 6) hx hb dX3_init_5 (by decide) ?_
  obtain ⟨qv1, zqe2, h⟩ := ob h
  refine rn_A C hR hS hs hc (ge1 hn1 hc) (Or.inl ⟨rfl, rfl⟩) lk195 (N := 6) (by decide +kernel) (by decide) zqe2 ⟨Nat.le_of_ble_eq_true rfl, Nat.le_of_ble_eq_true rfl⟩ dX3_init_7 (fun H hR hS hc => ?_)
  have hc : mN qv1.2 = n0 + 1 := hc
  refine W.cs (cells' := 1) (slots' := 6) rfl rfl ?_
  obtain ⟨M3, zqe4, h⟩ := ob h
  refine pf275 C hin hR hS zqe4 dX3_init_9 (fun H locs hR hS => ?_)
  have hc := (pN_n zqe4).trans hc
  refine lv_aload_n hx hb dX3_init_12 rfl (lv_at hl 0 rfl) ?_
  refine lv_bipush (v := 6) hx hb dX3_init_13 (by decide) ?_
  obtain ⟨qv5, zqe6, h⟩ := ob h
  refine rn_A C hR hS hs hc (ge1 hn1 hc) (Or.inl ⟨rfl, rfl⟩) lk195 (N := 6) (by decide +kernel) (by decide) zqe6 ⟨Nat.le_of_ble_eq_true rfl, Nat.le_of_ble_eq_true rfl⟩ dX3_init_15 (fun H hR hS hc => ?_)
  have hc : mN qv5.2 = n0 + 2 := hc
  refine W.cs (cells' := 2) (slots' := 12) rfl rfl ?_
  obtain ⟨M7, zqe8, h⟩ := ob h
  refine pf276 C hin hR hS zqe8 dX3_init_17 (fun H locs hR hS => ?_)
  have hc := (pN_n zqe8).trans hc
  refine lv_aload_n hx hb dX3_init_20 rfl (lv_at hl 0 rfl) ?_
  refine lv_iconst (v := 0) hx hb dX3_init_21 (by decide) ?_
  obtain ⟨M9, zqe10, h⟩ := ob h
  refine pf278 C hR hS zqe10 dX3_init_22 (fun H locs hR hS => ?_)
  have hc := (pI_n zqe10).trans hc
  refine lv_aload_n hx hb dX3_init_25 rfl (lv_at hl 0 rfl) ?_
  refine lv_iconst (v := 0) hx hb dX3_init_26 (by decide) ?_
  obtain ⟨M11, zqe12, h⟩ := ob h
  refine pf280 C hR hS zqe12 dX3_init_27 (fun H locs hR hS => ?_)
  have hc := (pI_n zqe12).trans hc
  refine lv_aload_n hx hb dX3_init_30 rfl (lv_at hl 0 rfl) ?_
  refine lv_null hx hb dX3_init_31 ?_
  obtain ⟨M13, zqe14, h⟩ := ob h
  refine pf0_281 C hR hS zqe14 dX3_init_32 (fun H locs hR hS => ?_)
  have hc := (pR_n zqe14).trans hc
  refine lv_aload_n hx hb dX3_init_35 rfl (lv_at hl 0 rfl) ?_
  refine lv_iconst (v := 0) hx hb dX3_init_36 (by decide) ?_
  obtain ⟨M15, zqe16, h⟩ := ob h
  refine pf282 C hR hS zqe16 dX3_init_37 (fun H locs hR hS => ?_)
  have hc := (pI_n zqe16).trans hc
  cases h
  exact w_size (fun hz0 => rk_V C hao hR hS (rn_sz hR hs hc (ge1 hn1 hc) hz0) dX3_init_40)
set_option maxHeartbeats 4000000 in
set_option maxRecDepth 100000 in
theorem nN_X3_init {x0 : Nat} {M r : Mem} (h : f_X3_init x0 M = some r) : mN r = mN M + 2 ∧ mN r ≤ 86 := by
  have hk0 := ck_X3_init h
  unfold f_X3_init at h
  have h := ip hk0 h
  obtain ⟨qv1, zqe2, h⟩ := ob h
  obtain ⟨M3, zqe4, h⟩ := ob h
  obtain ⟨qv5, zqe6, h⟩ := ob h
  obtain ⟨M7, zqe8, h⟩ := ob h
  obtain ⟨M9, zqe10, h⟩ := ob h
  obtain ⟨M11, zqe12, h⟩ := ob h
  obtain ⟨M13, zqe14, h⟩ := ob h
  obtain ⟨M15, zqe16, h⟩ := ob h
  cases h
  have t0 := nA_n zqe2
  have u0 := sh_top (nA_spec zqe2).2.1 (by decide)
  have t1 := pN_n zqe4
  have t2 := nA_n zqe6
  have u2 := sh_top (nA_spec zqe6).2.1 (by decide)
  have t3 := pN_n zqe8
  have t4 := pI_n zqe10
  have t5 := pI_n zqe12
  have t6 := pR_n zqe14
  have t7 := pI_n zqe16
  refine ⟨?_, ?_⟩
  · rw [t7, t6, t5, t4, t3, t2, t1, t0]
  · rw [t7, t6, t5, t4, t3, t2]; exact u2
theorem ck_X4_init {x0 : Nat} {M r : Mem} (h : f_X4_init x0 M = some r) : kd M x0 = 14 := by
  unfold f_X4_init at h
  exact ck h
set_option maxHeartbeats 4000000 in
set_option maxRecDepth 100000 in
theorem ok_X4_init {x0 : Nat} {M r : Mem} (h : f_X4_init x0 M = some r) : Oc l yX4_init cX4_init 1 1 1 40 [.ref (B + x0)] D B ca st M r := by
  have hk0 := ck_X4_init h
  have hk1 := kd_spec hk0 (by decide)
  unfold f_X4_init at h
  have h := ip hk0 h
  refine oc_of rfl rfl rfl (Nat.le_of_ble_eq_true rfl) ?_
  intro p e s m args below meth c ls C hin hao hs hl hR hS
  have hl : lv_has ls 1 [(0, .ref (B + x0))] := hl
  have hx := C.1
  have hb := C.2.1
  have hn1 : 1 ≤ mN M := Nat.le_trans hk1.1 hk1.2.1
  generalize hn0 : mN M = n0 at hs hn1
  clear hk1
  have hc : mN M = n0 + 0 := hn0
  refine lv_aload_n hx hb dX4_init_0 rfl (lv_at hl 0 rfl) ?_
  refine W.objInit hx hb C.2.2.2.1 (C.2.2.2.2.1 _ lk300) (C.2.2.2.2.1 _ lk139) (C.2.2.2.2.1 _ lk140) rfl (hl.1.trans C.2.2.1.symm) rfl dX4_init_1 (Nat.le_of_ble_eq_true rfl) (Nat.le_of_ble_eq_true rfl) ?_
  refine lv_aload_n hx hb dX4_init_4 rfl (lv_at hl 0 rfl) ?_
  refine lv_bipush (v := 40) hx hb dX4_init_5 (by decide) ?_
  obtain ⟨qv1, zqe2, h⟩ := ob h
  refine rn_A C hR hS hs hc (ge1 hn1 hc) (Or.inl ⟨rfl, rfl⟩) lk195 (N := 40) (by decide +kernel) (by decide) zqe2 ⟨Nat.le_of_ble_eq_true rfl, Nat.le_of_ble_eq_true rfl⟩ dX4_init_7 (fun H hR hS hc => ?_)
  have hc : mN qv1.2 = n0 + 1 := hc
  refine W.cs (cells' := 1) (slots' := 40) rfl rfl ?_
  obtain ⟨M3, zqe4, h⟩ := ob h
  refine pf301 C hin hR hS zqe4 dX4_init_9 (fun H locs hR hS => ?_)
  have hc := (pN_n zqe4).trans hc
  refine lv_aload_n hx hb dX4_init_12 rfl (lv_at hl 0 rfl) ?_
  refine lv_iconst (v := (-1)) hx hb dX4_init_13 (by decide) ?_
  obtain ⟨M5, zqe6, h⟩ := ob h
  refine pf303 C hR hS zqe6 dX4_init_14 (fun H locs hR hS => ?_)
  have hc := (pI_n zqe6).trans hc
  cases h
  exact w_size (fun hz0 => rk_V C hao hR hS (rn_sz hR hs hc (ge1 hn1 hc) hz0) dX4_init_17)
set_option maxHeartbeats 4000000 in
set_option maxRecDepth 100000 in
theorem nN_X4_init {x0 : Nat} {M r : Mem} (h : f_X4_init x0 M = some r) : mN r = mN M + 1 ∧ mN r ≤ 86 := by
  have hk0 := ck_X4_init h
  unfold f_X4_init at h
  have h := ip hk0 h
  obtain ⟨qv1, zqe2, h⟩ := ob h
  obtain ⟨M3, zqe4, h⟩ := ob h
  obtain ⟨M5, zqe6, h⟩ := ob h
  cases h
  have t0 := nA_n zqe2
  have u0 := sh_top (nA_spec zqe2).2.1 (by decide)
  have t1 := pN_n zqe4
  have t2 := pI_n zqe6
  refine ⟨?_, ?_⟩
  · rw [t2, t1, t0]
  · rw [t2, t1, t0]; exact u0
theorem ck_X5_init {x0 : Nat} {M r : Mem} (h : f_X5_init x0 M = some r) : kd M x0 = 15 := by
  unfold f_X5_init at h
  exact ck h
set_option maxHeartbeats 4000000 in
set_option maxRecDepth 100000 in
theorem ok_X5_init {x0 : Nat} {M r : Mem} (h : f_X5_init x0 M = some r) : Oc l yX5_init cX5_init 1 1 1 60 [.ref (B + x0)] D B ca st M r := by
  have hk0 := ck_X5_init h
  have hk1 := kd_spec hk0 (by decide)
  unfold f_X5_init at h
  have h := ip hk0 h
  refine oc_of rfl rfl rfl (Nat.le_of_ble_eq_true rfl) ?_
  intro p e s m args below meth c ls C hin hao hs hl hR hS
  have hl : lv_has ls 1 [(0, .ref (B + x0))] := hl
  have hx := C.1
  have hb := C.2.1
  have hn1 : 1 ≤ mN M := Nat.le_trans hk1.1 hk1.2.1
  generalize hn0 : mN M = n0 at hs hn1
  clear hk1
  have hc : mN M = n0 + 0 := hn0
  refine lv_aload_n hx hb dX5_init_0 rfl (lv_at hl 0 rfl) ?_
  refine W.objInit hx hb C.2.2.2.1 (C.2.2.2.2.1 _ lk314) (C.2.2.2.2.1 _ lk139) (C.2.2.2.2.1 _ lk140) rfl (hl.1.trans C.2.2.1.symm) rfl dX5_init_1 (Nat.le_of_ble_eq_true rfl) (Nat.le_of_ble_eq_true rfl) ?_
  refine lv_aload_n hx hb dX5_init_4 rfl (lv_at hl 0 rfl) ?_
  refine lv_bipush (v := 60) hx hb dX5_init_5 (by decide) ?_
  obtain ⟨qv1, zqe2, h⟩ := ob h
  refine rn_A C hR hS hs hc (ge1 hn1 hc) (Or.inr ⟨rfl, rfl⟩) lk324 (N := 60) (by decide +kernel) (by decide) zqe2 ⟨Nat.le_of_ble_eq_true rfl, Nat.le_of_ble_eq_true rfl⟩ dX5_init_7 (fun H hR hS hc => ?_)
  have hc : mN qv1.2 = n0 + 1 := hc
  refine W.cs (cells' := 1) (slots' := 60) rfl rfl ?_
  obtain ⟨M3, zqe4, h⟩ := ob h
  refine pf315 C hin hR hS zqe4 dX5_init_9 (fun H locs hR hS => ?_)
  have hc := (pN_n zqe4).trans hc
  refine lv_aload_n hx hb dX5_init_12 rfl (lv_at hl 0 rfl) ?_
  refine lv_iconst (v := (-1)) hx hb dX5_init_13 (by decide) ?_
  obtain ⟨M5, zqe6, h⟩ := ob h
  refine pf317 C hR hS zqe6 dX5_init_14 (fun H locs hR hS => ?_)
  have hc := (pI_n zqe6).trans hc
  cases h
  exact w_size (fun hz0 => rk_V C hao hR hS (rn_sz hR hs hc (ge1 hn1 hc) hz0) dX5_init_17)
set_option maxHeartbeats 4000000 in
set_option maxRecDepth 100000 in
theorem nN_X5_init {x0 : Nat} {M r : Mem} (h : f_X5_init x0 M = some r) : mN r = mN M + 1 ∧ mN r ≤ 86 := by
  have hk0 := ck_X5_init h
  unfold f_X5_init at h
  have h := ip hk0 h
  obtain ⟨qv1, zqe2, h⟩ := ob h
  obtain ⟨M3, zqe4, h⟩ := ob h
  obtain ⟨M5, zqe6, h⟩ := ob h
  cases h
  have t0 := nA_n zqe2
  have u0 := sh_top (nA_spec zqe2).2.1 (by decide)
  have t1 := pN_n zqe4
  have t2 := pI_n zqe6
  refine ⟨?_, ?_⟩
  · rw [t2, t1, t0]
  · rw [t2, t1, t0]; exact u0
theorem ck_X6_init {x0 : Nat} {M r : Mem} (h : f_X6_init x0 M = some r) : kd M x0 = 16 := by
  unfold f_X6_init at h
  exact ck h
set_option maxHeartbeats 4000000 in
set_option maxRecDepth 100000 in
theorem ok_X6_init {x0 : Nat} {M r : Mem} (h : f_X6_init x0 M = some r) : Oc l yX6_init cX6_init 1 1 2 10 [.ref (B + x0)] D B ca st M r := by
  have hk0 := ck_X6_init h
  have hk1 := kd_spec hk0 (by decide)
  unfold f_X6_init at h
  have h := ip hk0 h
  refine oc_of rfl rfl rfl (Nat.le_of_ble_eq_true rfl) ?_
  intro p e s m args below meth c ls C hin hao hs hl hR hS
  have hl : lv_has ls 1 [(0, .ref (B + x0))] := hl
  have hx := C.1
  have hb := C.2.1
  have hn1 : 1 ≤ mN M := Nat.le_trans hk1.1 hk1.2.1
  generalize hn0 : mN M = n0 at hs hn1
  clear hk1
  have hc : mN M = n0 + 0 := hn0
  refine lv_aload_n hx hb dX6_init_0 rfl (lv_at hl 0 rfl) ?_
  refine W.objInit hx hb C.2.2.2.1 (C.2.2.2.2.1 _ lk201) (C.2.2.2.2.1 _ lk139) (C.2.2.2.2.1 _ lk140) rfl (hl.1.trans C.2.2.1.symm) rfl dX6_init_1 (Nat.le_of_ble_eq_true rfl) (Nat.le_of_ble_eq_true rfl) ?_
  refine lv_aload_n hx hb dX6_init_4 rfl (lv_at hl 0 rfl) ?_
  refine lv_iconst (v := 5) hx hb dX6_init_5 (by decide) ?_
  obtain ⟨qv1, zqe2, h⟩ := ob h
  refine rn_A C hR hS hs hc (ge1 hn1 hc) (Or.inl ⟨rfl, rfl⟩) lk195 (N := 5) (by decide +kernel) (by decide) zqe2 ⟨Nat.le_of_ble_eq_true rfl, Nat.le_of_ble_eq_true rfl⟩ dX6_init_6 (fun H hR hS hc => ?_)
  have hc : mN qv1.2 = n0 + 1 := hc
  refine W.cs (cells' := 1) (slots' := 5) rfl rfl ?_
  obtain ⟨M3, zqe4, h⟩ := ob h
  refine pf202 C hin hR hS zqe4 dX6_init_8 (fun H locs hR hS => ?_)
  have hc := (pN_n zqe4).trans hc
  refine lv_aload_n hx hb dX6_init_11 rfl (lv_at hl 0 rfl) ?_
  refine lv_iconst (v := 5) hx hb dX6_init_12 (by decide) ?_
  obtain ⟨qv5, zqe6, h⟩ := ob h
  refine rn_A C hR hS hs hc (ge1 hn1 hc) (Or.inl ⟨rfl, rfl⟩) lk195 (N := 5) (by decide +kernel) (by decide) zqe6 ⟨Nat.le_of_ble_eq_true rfl, Nat.le_of_ble_eq_true rfl⟩ dX6_init_13 (fun H hR hS hc => ?_)
  have hc : mN qv5.2 = n0 + 2 := hc
  refine W.cs (cells' := 2) (slots' := 10) rfl rfl ?_
  obtain ⟨M7, zqe8, h⟩ := ob h
  refine pf206 C hin hR hS zqe8 dX6_init_15 (fun H locs hR hS => ?_)
  have hc := (pN_n zqe8).trans hc
  refine lv_aload_n hx hb dX6_init_18 rfl (lv_at hl 0 rfl) ?_
  refine lv_iconst (v := 0) hx hb dX6_init_19 (by decide) ?_
  obtain ⟨M9, zqe10, h⟩ := ob h
  refine pf209 C hR hS zqe10 dX6_init_20 (fun H locs hR hS => ?_)
  have hc := (pI_n zqe10).trans hc
  refine lv_aload_n hx hb dX6_init_23 rfl (lv_at hl 0 rfl) ?_
  refine lv_iconst (v := 0) hx hb dX6_init_24 (by decide) ?_
  obtain ⟨M11, zqe12, h⟩ := ob h
  refine pf213 C hR hS zqe12 dX6_init_25 (fun H locs hR hS => ?_)
  have hc := (pI_n zqe12).trans hc
  cases h
  exact w_size (fun hz0 => rk_V C hao hR hS (rn_sz hR hs hc (ge1 hn1 hc) hz0) dX6_init_28)
set_option maxHeartbeats 4000000 in
set_option maxRecDepth 100000 in
theorem nN_X6_init {x0 : Nat} {M r : Mem} (h : f_X6_init x0 M = some r) : mN r = mN M + 2 ∧ mN r ≤ 86 := by
  have hk0 := ck_X6_init h
  unfold f_X6_init at h
  have h := ip hk0 h
  obtain ⟨qv1, zqe2, h⟩ := ob h
  obtain ⟨M3, zqe4, h⟩ := ob h
  obtain ⟨qv5, zqe6, h⟩ := ob h
  obtain ⟨M7, zqe8, h⟩ := ob h
  obtain ⟨M9, zqe10, h⟩ := ob h
  obtain ⟨M11, zqe12, h⟩ := ob h
  cases h
  have t0 := nA_n zqe2
  have u0 := sh_top (nA_spec zqe2).2.1 (by decide)
  have t1 := pN_n zqe4
  have t2 := nA_n zqe6
  have u2 := sh_top (nA_spec zqe6).2.1 (by decide)
  have t3 := pN_n zqe8
  have t4 := pI_n zqe10
  have t5 := pI_n zqe12
  refine ⟨?_, ?_⟩
  · rw [t5, t4, t3, t2, t1, t0]
  · rw [t5, t4, t3, t2]; exact u2
set_option maxHeartbeats 4000000 in
set_option maxRecDepth 100000 in
theorem w_X7_init_196 {r : Mem} {n0 : Nat} (C : Cx p s m args meth c RX7 cX7_init 2 none D B ca st) (hin : meth.name = "<init>") (hao : AO s) (hs : s.heap.size = B + 1 + n0) : ∀ (n : Nat) {x0 : Nat} {x1 : Int32} {M : Mem}, f_X7_init_196 n x0 x1 M = some r → ∀ {cells slots : Nat} {H : Heap} {locs : List Loc} {ls : Array Slot}, Bk n0 cells slots M → RH D B ca M H → va_S (AA B) s.heap H locs → lv_has ls 2 [(0, .ref (B + x0)), (1, .int x1)] → W p l e (rmC 2 86 172000) s m args below meth c H locs cells slots (MQ below (Qk D B ca st r) args s 86 172000 (AA B)) (F0 m 196 ls []) := by
  have hx := C.1
  have hb := C.2.1
  intro n
  induction n with
  | zero => intro x0 x1 M h; simp [f_X7_init_196] at h
  | succ n ih =>
    intro x0 x1 M h cells slots H locs ls hB hR hS hl
    rw [f_X7_init_196] at h
    refine lv_iload_n hx hb dX7_init_196 rfl (lv_at hl 1 rfl) ?_
    refine lv_aload_n hx hb dX7_init_197 rfl (lv_at hl 0 rfl) ?_
    obtain ⟨v91, zqe92, h⟩ := ob h
    refine gf332 C hR zqe92 dX7_init_198 ?_
    obtain ⟨v93, zqe94, h⟩ := ob h
    refine ra_N C hR (k := 3) (by decide) (by decide) zqe94 dX7_init_201 ?_
    refine lv_icmp_ge (tgt := 234) hx hb dX7_init_202 (by decide) (fun c => ?_) (fun c => ?_)
    · have h := ip c h
      cases h
      exact bk_V C hao hR hS hs hB dX7_init_234
    · have h := iq c h
      refine lv_aload_n hx hb dX7_init_205 rfl (lv_at hl 0 rfl) ?_
      obtain ⟨v95, zqe96, h⟩ := ob h
      refine gf332 C hR zqe96 dX7_init_206 ?_
      refine lv_iload_n hx hb dX7_init_209 rfl (lv_at hl 1 rfl) ?_
      obtain ⟨qv97, zqe98, h⟩ := ob h
      refine bn_O C hR hS hs hB (ci := 0) rfl inA0 tyX0 tyX0_ok dv0 lk224 lk225 lk123 zqe98 (by decide) ⟨Nat.le_refl _, Nat.le_refl _⟩ dX7_init_210 (fun H hR hS hB => ?_)
      refine lv_dup hx hb dX7_init_213 rfl ?_
      obtain ⟨M99, zqe100, h⟩ := ob h
      refine bk_I C hao hR hS hs hB cf_X0_init rfl lk227 (Or.inr ⟨_, lk226⟩) (ok_X0_init zqe100) (nN_X0_init zqe100) (by decide) ⟨Nat.le_of_ble_eq_true rfl, Nat.le_of_ble_eq_true rfl⟩ ⟨Nat.le_refl _, Nat.le_refl _⟩ hl.1 (Nat.le_of_ble_eq_true rfl) dX7_init_214 (fun H locs hR hS hB => ?_)
      obtain ⟨M101, zqe102, h⟩ := ob h
      refine re_R C hR hS (k := 3) (ci := 0) (by decide) (by decide) rfl rfl zqe102 dX7_init_217 (fun H locs hR hS => ?_)
      have hB := Bk.st (eR_n zqe102) hB
      refine lv_aload_n hx hb dX7_init_218 rfl (lv_at hl 0 rfl) ?_
      obtain ⟨v103, zqe104, h⟩ := ob h
      refine gf332 C hR zqe104 dX7_init_219 ?_
      refine lv_iload_n hx hb dX7_init_222 rfl (lv_at hl 1 rfl) ?_
      obtain ⟨v105, zqe106, h⟩ := ob h
      refine ra_R C hR (k := 3) (by decide) (by decide) rfl zqe106 dX7_init_223 ?_
      refine lv_iconst (v := (-1)) hx hb dX7_init_224 (by decide) ?_
      obtain ⟨M107, zqe108, h⟩ := ob h
      refine pf233 C hR hS zqe108 dX7_init_225 (fun H locs hR hS => ?_)
      have hB := Bk.st (pI_n zqe108) hB
      refine lv_iinc (v := (x1 + 1)) (lv' := [(1, .int (x1 + 1)), (0, .ref (B + x0))]) hx hb dX7_init_228 hl (k := 1) rfl rfl (by decide) rfl (fun ls hl => ?_)
      refine lv_goto (tgt := 196) hx hb dX7_init_231 (by decide) ?_
      exact ih h hB hR hS (lv_sub hl [1, 0] rfl)
set_option maxHeartbeats 4000000 in
set_option maxRecDepth 100000 in
theorem w_X7_init_166 {r : Mem} {n0 : Nat} (C : Cx p s m args meth c RX7 cX7_init 2 none D B ca st) (hin : meth.name = "<init>") (hao : AO s) (hs : s.heap.size = B + 1 + n0) : ∀ (n : Nat) {x0 : Nat} {x1 : Int32} {M : Mem}, f_X7_init_166 n x0 x1 M = some r → ∀ {cells slots : Nat} {H : Heap} {locs : List Loc} {ls : Array Slot}, Bk n0 cells slots M → RH D B ca M H → va_S (AA B) s.heap H locs → lv_has ls 2 [(0, .ref (B + x0)), (1, .int x1)] → W p l e (rmC 2 86 172000) s m args below meth c H locs cells slots (MQ below (Qk D B ca st r) args s 86 172000 (AA B)) (F0 m 166 ls []) := by
  have hx := C.1
  have hb := C.2.1
  intro n
  induction n with
  | zero => intro x0 x1 M h; simp [f_X7_init_166] at h
  | succ n ih =>
    intro x0 x1 M h cells slots H locs ls hB hR hS hl
    rw [f_X7_init_166] at h
    refine lv_iload_n hx hb dX7_init_166 rfl (lv_at hl 1 rfl) ?_
    refine lv_aload_n hx hb dX7_init_167 rfl (lv_at hl 0 rfl) ?_
    obtain ⟨v79, zqe80, h⟩ := ob h
    refine gf326 C hR zqe80 dX7_init_168 ?_
    obtain ⟨v81, zqe82, h⟩ := ob h
    refine ra_N C hR (k := 5) (by decide) (by decide) zqe82 dX7_init_171 ?_
    refine lv_icmp_ge (tgt := 194) hx hb dX7_init_172 (by decide) (fun c => ?_) (fun c => ?_)
    · have h := ip c h
      refine lv_iconst (v := 0) hx hb dX7_init_194 (by decide) ?_
      refine lv_istore_n (lv' := [(1, .int 0), (0, .ref (B + x0))]) hx hb dX7_init_195 rfl hl (by decide) rfl (fun ls hl => ?_)
      exact w_X7_init_196 C hin hao hs FU h hB hR hS (lv_sub hl [1, 0] rfl)
    · have h := iq c h
      refine lv_aload_n hx hb dX7_init_175 rfl (lv_at hl 0 rfl) ?_
      obtain ⟨v83, zqe84, h⟩ := ob h
      refine gf326 C hR zqe84 dX7_init_176 ?_
      refine lv_iload_n hx hb dX7_init_179 rfl (lv_at hl 1 rfl) ?_
      obtain ⟨qv85, zqe86, h⟩ := ob h
      refine bn_O C hR hS hs hB (ci := 5) rfl inA5 tyX5 tyX5_ok dv5 lk143 lk310 lk127 zqe86 (by decide) ⟨Nat.le_refl _, Nat.le_refl _⟩ dX7_init_180 (fun H hR hS hB => ?_)
      refine lv_dup hx hb dX7_init_183 rfl ?_
      obtain ⟨M87, zqe88, h⟩ := ob h
      refine bk_I C hao hR hS hs hB cf_X5_init rfl lk312 (Or.inr ⟨_, lk311⟩) (ok_X5_init zqe88) (nN_X5_init zqe88) (by decide) ⟨Nat.le_of_ble_eq_true rfl, Nat.le_of_ble_eq_true rfl⟩ ⟨Nat.le_refl _, Nat.le_refl _⟩ hl.1 (Nat.le_of_ble_eq_true rfl) dX7_init_184 (fun H locs hR hS hB => ?_)
      obtain ⟨M89, zqe90, h⟩ := ob h
      refine re_R C hR hS (k := 5) (ci := 5) (by decide) (by decide) rfl rfl zqe90 dX7_init_187 (fun H locs hR hS => ?_)
      have hB := Bk.st (eR_n zqe90) hB
      refine lv_iinc (v := (x1 + 1)) (lv' := [(1, .int (x1 + 1)), (0, .ref (B + x0))]) hx hb dX7_init_188 hl (k := 1) rfl rfl (by decide) rfl (fun ls hl => ?_)
      refine lv_goto (tgt := 166) hx hb dX7_init_191 (by decide) ?_
      exact ih h hB hR hS (lv_sub hl [1, 0] rfl)
set_option maxHeartbeats 4000000 in
set_option maxRecDepth 100000 in
theorem w_X7_init_136 {r : Mem} {n0 : Nat} (C : Cx p s m args meth c RX7 cX7_init 2 none D B ca st) (hin : meth.name = "<init>") (hao : AO s) (hs : s.heap.size = B + 1 + n0) : ∀ (n : Nat) {x0 : Nat} {x1 : Int32} {M : Mem}, f_X7_init_136 n x0 x1 M = some r → ∀ {cells slots : Nat} {H : Heap} {locs : List Loc} {ls : Array Slot}, Bk n0 cells slots M → RH D B ca M H → va_S (AA B) s.heap H locs → lv_has ls 2 [(0, .ref (B + x0)), (1, .int x1)] → W p l e (rmC 2 86 172000) s m args below meth c H locs cells slots (MQ below (Qk D B ca st r) args s 86 172000 (AA B)) (F0 m 136 ls []) := by
  have hx := C.1
  have hb := C.2.1
  intro n
  induction n with
  | zero => intro x0 x1 M h; simp [f_X7_init_136] at h
  | succ n ih =>
    intro x0 x1 M h cells slots H locs ls hB hR hS hl
    rw [f_X7_init_136] at h
    refine lv_iload_n hx hb dX7_init_136 rfl (lv_at hl 1 rfl) ?_
    refine lv_aload_n hx hb dX7_init_137 rfl (lv_at hl 0 rfl) ?_
    obtain ⟨v67, zqe68, h⟩ := ob h
    refine gf325 C hR zqe68 dX7_init_138 ?_
    obtain ⟨v69, zqe70, h⟩ := ob h
    refine ra_N C hR (k := 4) (by decide) (by decide) zqe70 dX7_init_141 ?_
    refine lv_icmp_ge (tgt := 164) hx hb dX7_init_142 (by decide) (fun c => ?_) (fun c => ?_)
    · have h := ip c h
      refine lv_iconst (v := 0) hx hb dX7_init_164 (by decide) ?_
      refine lv_istore_n (lv' := [(1, .int 0), (0, .ref (B + x0))]) hx hb dX7_init_165 rfl hl (by decide) rfl (fun ls hl => ?_)
      exact w_X7_init_166 C hin hao hs FU h hB hR hS (lv_sub hl [1, 0] rfl)
    · have h := iq c h
      refine lv_aload_n hx hb dX7_init_145 rfl (lv_at hl 0 rfl) ?_
      obtain ⟨v71, zqe72, h⟩ := ob h
      refine gf325 C hR zqe72 dX7_init_146 ?_
      refine lv_iload_n hx hb dX7_init_149 rfl (lv_at hl 1 rfl) ?_
      obtain ⟨qv73, zqe74, h⟩ := ob h
      refine bn_O C hR hS hs hB (ci := 4) rfl inA4 tyX4 tyX4_ok dv4 lk141 lk296 lk126 zqe74 (by decide) ⟨Nat.le_refl _, Nat.le_refl _⟩ dX7_init_150 (fun H hR hS hB => ?_)
      refine lv_dup hx hb dX7_init_153 rfl ?_
      obtain ⟨M75, zqe76, h⟩ := ob h
      refine bk_I C hao hR hS hs hB cf_X4_init rfl lk298 (Or.inr ⟨_, lk297⟩) (ok_X4_init zqe76) (nN_X4_init zqe76) (by decide) ⟨Nat.le_of_ble_eq_true rfl, Nat.le_of_ble_eq_true rfl⟩ ⟨Nat.le_refl _, Nat.le_refl _⟩ hl.1 (Nat.le_of_ble_eq_true rfl) dX7_init_154 (fun H locs hR hS hB => ?_)
      obtain ⟨M77, zqe78, h⟩ := ob h
      refine re_R C hR hS (k := 4) (ci := 4) (by decide) (by decide) rfl rfl zqe78 dX7_init_157 (fun H locs hR hS => ?_)
      have hB := Bk.st (eR_n zqe78) hB
      refine lv_iinc (v := (x1 + 1)) (lv' := [(1, .int (x1 + 1)), (0, .ref (B + x0))]) hx hb dX7_init_158 hl (k := 1) rfl rfl (by decide) rfl (fun ls hl => ?_)
      refine lv_goto (tgt := 136) hx hb dX7_init_161 (by decide) ?_
      exact ih h hB hR hS (lv_sub hl [1, 0] rfl)
theorem ck_X7_init {x0 : Nat} {M r : Mem} (h : f_X7_init x0 M = some r) : kd M x0 = 17 := by
  unfold f_X7_init at h
  exact ck h
set_option maxHeartbeats 4000000 in
set_option maxRecDepth 100000 in
theorem ok_X7_init {x0 : Nat} {M r : Mem} (hm : mN M ≤ 86) (h : f_X7_init x0 M = some r) : Oc l yX7_init cX7_init 2 2 86 172000 [.ref (B + x0)] D B ca st M r := by
  have hk0 := ck_X7_init h
  have hk1 := kd_spec hk0 (by decide)
  unfold f_X7_init at h
  have h := ip hk0 h
  refine oc_of rfl rfl rfl (Nat.le_of_ble_eq_true rfl) ?_
  intro p e s m args below meth c ls C hin hao hs hl hR hS
  have hl : lv_has ls 2 [(0, .ref (B + x0))] := hl
  have hx := C.1
  have hb := C.2.1
  have hB : Bk (mN M) 0 0 M := ⟨by omega, rfl, Nat.le_refl _, hm⟩
  refine lv_aload_n hx hb dX7_init_0 rfl (lv_at hl 0 rfl) ?_
  refine W.objInit hx hb C.2.2.2.1 (C.2.2.2.2.1 _ lk138) (C.2.2.2.2.1 _ lk139) (C.2.2.2.2.1 _ lk140) rfl (hl.1.trans C.2.2.1.symm) rfl dX7_init_1 (Nat.le_of_ble_eq_true rfl) (Nat.le_of_ble_eq_true rfl) ?_
  refine lv_aload_n hx hb dX7_init_4 rfl (lv_at hl 0 rfl) ?_
  refine lv_bipush (v := 6) hx hb dX7_init_5 (by decide) ?_
  obtain ⟨qv1, zqe2, h⟩ := ob h
  refine bn_Q C hR hS hs hB (k := 4) (by decide) (by decide) rfl lk141 hao.1 (N := 6) (by decide +kernel) (by decide) zqe2 ⟨Nat.le_refl _, Nat.le_refl _⟩ dX7_init_7 (fun H hR hS hB => ?_)
  obtain ⟨M3, zqe4, h⟩ := ob h
  refine pf325 C hin hR hS zqe4 dX7_init_10 (fun H locs hR hS => ?_)
  have hB := Bk.st (pN_n zqe4) hB
  refine lv_aload_n hx hb dX7_init_13 rfl (lv_at hl 0 rfl) ?_
  refine lv_iconst (v := 4) hx hb dX7_init_14 (by decide) ?_
  obtain ⟨qv5, zqe6, h⟩ := ob h
  refine bn_Q C hR hS hs hB (k := 5) (by decide) (by decide) rfl lk143 hao.2.1 (N := 4) (by decide +kernel) (by decide) zqe6 ⟨Nat.le_refl _, Nat.le_refl _⟩ dX7_init_15 (fun H hR hS hB => ?_)
  obtain ⟨M7, zqe8, h⟩ := ob h
  refine pf326 C hin hR hS zqe8 dX7_init_18 (fun H locs hR hS => ?_)
  have hB := Bk.st (pN_n zqe8) hB
  refine lv_aload_n hx hb dX7_init_21 rfl (lv_at hl 0 rfl) ?_
  obtain ⟨qv9, zqe10, h⟩ := ob h
  refine bn_O C hR hS hs hB (ci := 2) rfl inA2 tyX2 tyX2_ok dv2 lk145 lk146 lk121 zqe10 (by decide) ⟨Nat.le_refl _, Nat.le_refl _⟩ dX7_init_22 (fun H hR hS hB => ?_)
  refine lv_dup hx hb dX7_init_25 rfl ?_
  obtain ⟨M11, zqe12, h⟩ := ob h
  refine bk_I C hao hR hS hs hB cf_X2_init rfl lk148 (Or.inr ⟨_, lk147⟩) (ok_X2_init zqe12) (nN_X2_init zqe12) (by decide) ⟨Nat.le_of_ble_eq_true rfl, Nat.le_of_ble_eq_true rfl⟩ ⟨Nat.le_refl _, Nat.le_refl _⟩ hl.1 (Nat.le_of_ble_eq_true rfl) dX7_init_26 (fun H locs hR hS hB => ?_)
  obtain ⟨M13, zqe14, h⟩ := ob h
  refine pf327 C hR hS zqe14 dX7_init_29 (fun H locs hR hS => ?_)
  have hB := Bk.st (pN_n zqe14) hB
  refine lv_aload_n hx hb dX7_init_32 rfl (lv_at hl 0 rfl) ?_
  obtain ⟨qv15, zqe16, h⟩ := ob h
  refine bn_O C hR hS hs hB (ci := 2) rfl inA2 tyX2 tyX2_ok dv2 lk145 lk146 lk121 zqe16 (by decide) ⟨Nat.le_refl _, Nat.le_refl _⟩ dX7_init_33 (fun H hR hS hB => ?_)
  refine lv_dup hx hb dX7_init_36 rfl ?_
  obtain ⟨M17, zqe18, h⟩ := ob h
  refine bk_I C hao hR hS hs hB cf_X2_init rfl lk148 (Or.inr ⟨_, lk147⟩) (ok_X2_init zqe18) (nN_X2_init zqe18) (by decide) ⟨Nat.le_of_ble_eq_true rfl, Nat.le_of_ble_eq_true rfl⟩ ⟨Nat.le_refl _, Nat.le_refl _⟩ hl.1 (Nat.le_of_ble_eq_true rfl) dX7_init_37 (fun H locs hR hS hB => ?_)
  obtain ⟨M19, zqe20, h⟩ := ob h
  refine pf328 C hR hS zqe20 dX7_init_40 (fun H locs hR hS => ?_)
  have hB := Bk.st (pN_n zqe20) hB
  refine lv_aload_n hx hb dX7_init_43 rfl (lv_at hl 0 rfl) ?_
  obtain ⟨qv21, zqe22, h⟩ := ob h
  refine bn_O C hR hS hs hB (ci := 6) rfl inA6 tyX6 tyX6_ok dv6 lk196 lk197 lk122 zqe22 (by decide) ⟨Nat.le_refl _, Nat.le_refl _⟩ dX7_init_44 (fun H hR hS hB => ?_)
  refine lv_dup hx hb dX7_init_47 rfl ?_
  obtain ⟨M23, zqe24, h⟩ := ob h
  refine bk_I C hao hR hS hs hB cf_X6_init rfl lk199 (Or.inr ⟨_, lk198⟩) (ok_X6_init zqe24) (nN_X6_init zqe24) (by decide) ⟨Nat.le_of_ble_eq_true rfl, Nat.le_of_ble_eq_true rfl⟩ ⟨Nat.le_refl _, Nat.le_refl _⟩ hl.1 (Nat.le_of_ble_eq_true rfl) dX7_init_48 (fun H locs hR hS hB => ?_)
  obtain ⟨M25, zqe26, h⟩ := ob h
  refine pf329 C hin hR hS zqe26 dX7_init_51 (fun H locs hR hS => ?_)
  have hB := Bk.st (pN_n zqe26) hB
  refine lv_aload_n hx hb dX7_init_54 rfl (lv_at hl 0 rfl) ?_
  obtain ⟨qv27, zqe28, h⟩ := ob h
  refine bn_O C hR hS hs hB (ci := 6) rfl inA6 tyX6 tyX6_ok dv6 lk196 lk197 lk122 zqe28 (by decide) ⟨Nat.le_refl _, Nat.le_refl _⟩ dX7_init_55 (fun H hR hS hB => ?_)
  refine lv_dup hx hb dX7_init_58 rfl ?_
  obtain ⟨M29, zqe30, h⟩ := ob h
  refine bk_I C hao hR hS hs hB cf_X6_init rfl lk199 (Or.inr ⟨_, lk198⟩) (ok_X6_init zqe30) (nN_X6_init zqe30) (by decide) ⟨Nat.le_of_ble_eq_true rfl, Nat.le_of_ble_eq_true rfl⟩ ⟨Nat.le_refl _, Nat.le_refl _⟩ hl.1 (Nat.le_of_ble_eq_true rfl) dX7_init_59 (fun H locs hR hS hB => ?_)
  obtain ⟨M31, zqe32, h⟩ := ob h
  refine pf330 C hin hR hS zqe32 dX7_init_62 (fun H locs hR hS => ?_)
  have hB := Bk.st (pN_n zqe32) hB
  refine lv_aload_n hx hb dX7_init_65 rfl (lv_at hl 0 rfl) ?_
  obtain ⟨qv33, zqe34, h⟩ := ob h
  refine bn_O C hR hS hs hB (ci := 0) rfl inA0 tyX0 tyX0_ok dv0 lk224 lk225 lk123 zqe34 (by decide) ⟨Nat.le_refl _, Nat.le_refl _⟩ dX7_init_66 (fun H hR hS hB => ?_)
  refine lv_dup hx hb dX7_init_69 rfl ?_
  obtain ⟨M35, zqe36, h⟩ := ob h
  refine bk_I C hao hR hS hs hB cf_X0_init rfl lk227 (Or.inr ⟨_, lk226⟩) (ok_X0_init zqe36) (nN_X0_init zqe36) (by decide) ⟨Nat.le_of_ble_eq_true rfl, Nat.le_of_ble_eq_true rfl⟩ ⟨Nat.le_refl _, Nat.le_refl _⟩ hl.1 (Nat.le_of_ble_eq_true rfl) dX7_init_70 (fun H locs hR hS hB => ?_)
  obtain ⟨M37, zqe38, h⟩ := ob h
  refine pf331 C hin hR hS zqe38 dX7_init_73 (fun H locs hR hS => ?_)
  have hB := Bk.st (pN_n zqe38) hB
  refine lv_aload_n hx hb dX7_init_76 rfl (lv_at hl 0 rfl) ?_
  refine lv_iconst (v := 3) hx hb dX7_init_77 (by decide) ?_
  obtain ⟨qv39, zqe40, h⟩ := ob h
  refine bn_Q C hR hS hs hB (k := 3) (by decide) (by decide) rfl lk224 hao.2.2 (N := 3) (by decide +kernel) (by decide) zqe40 ⟨Nat.le_refl _, Nat.le_refl _⟩ dX7_init_78 (fun H hR hS hB => ?_)
  obtain ⟨M41, zqe42, h⟩ := ob h
  refine pf332 C hin hR hS zqe42 dX7_init_81 (fun H locs hR hS => ?_)
  have hB := Bk.st (pN_n zqe42) hB
  refine lv_aload_n hx hb dX7_init_84 rfl (lv_at hl 0 rfl) ?_
  obtain ⟨qv43, zqe44, h⟩ := ob h
  refine bn_O C hR hS hs hB (ci := 1) rfl inA1 tyX1 tyX1_ok dv1 lk240 lk241 lk124 zqe44 (by decide) ⟨Nat.le_refl _, Nat.le_refl _⟩ dX7_init_85 (fun H hR hS hB => ?_)
  refine lv_dup hx hb dX7_init_88 rfl ?_
  obtain ⟨M45, zqe46, h⟩ := ob h
  refine bk_I C hao hR hS hs hB cf_X1_init rfl lk243 (Or.inr ⟨_, lk242⟩) (ok_X1_init zqe46) (nN_X1_init zqe46) (by decide) ⟨Nat.le_of_ble_eq_true rfl, Nat.le_of_ble_eq_true rfl⟩ ⟨Nat.le_refl _, Nat.le_refl _⟩ hl.1 (Nat.le_of_ble_eq_true rfl) dX7_init_89 (fun H locs hR hS hB => ?_)
  obtain ⟨M47, zqe48, h⟩ := ob h
  refine pf333 C hin hR hS zqe48 dX7_init_92 (fun H locs hR hS => ?_)
  have hB := Bk.st (pN_n zqe48) hB
  refine lv_aload_n hx hb dX7_init_95 rfl (lv_at hl 0 rfl) ?_
  obtain ⟨qv49, zqe50, h⟩ := ob h
  refine bn_O C hR hS hs hB (ci := 3) rfl inA3 tyX3 tyX3_ok dv3 lk269 lk270 lk125 zqe50 (by decide) ⟨Nat.le_refl _, Nat.le_refl _⟩ dX7_init_96 (fun H hR hS hB => ?_)
  refine lv_dup hx hb dX7_init_99 rfl ?_
  obtain ⟨M51, zqe52, h⟩ := ob h
  refine bk_I C hao hR hS hs hB cf_X3_init rfl lk272 (Or.inr ⟨_, lk271⟩) (ok_X3_init zqe52) (nN_X3_init zqe52) (by decide) ⟨Nat.le_of_ble_eq_true rfl, Nat.le_of_ble_eq_true rfl⟩ ⟨Nat.le_refl _, Nat.le_refl _⟩ hl.1 (Nat.le_of_ble_eq_true rfl) dX7_init_100 (fun H locs hR hS hB => ?_)
  obtain ⟨M53, zqe54, h⟩ := ob h
  refine pf334 C hin hR hS zqe54 dX7_init_103 (fun H locs hR hS => ?_)
  have hB := Bk.st (pN_n zqe54) hB
  refine lv_aload_n hx hb dX7_init_106 rfl (lv_at hl 0 rfl) ?_
  refine lv_iconst (v := 0) hx hb dX7_init_107 (by decide) ?_
  obtain ⟨M55, zqe56, h⟩ := ob h
  refine pf335 C hR hS zqe56 dX7_init_108 (fun H locs hR hS => ?_)
  have hB := Bk.st (pI_n zqe56) hB
  refine lv_aload_n hx hb dX7_init_111 rfl (lv_at hl 0 rfl) ?_
  refine lv_lconst (v := 0) hx hb dX7_init_112 (by decide) ?_
  obtain ⟨M57, zqe58, h⟩ := ob h
  refine pf336 C hR hS zqe58 dX7_init_113 (fun H locs hR hS => ?_)
  have hB := Bk.st (pL_n zqe58) hB
  refine lv_aload_n hx hb dX7_init_116 rfl (lv_at hl 0 rfl) ?_
  refine lv_lconst (v := 1) hx hb dX7_init_117 (by decide) ?_
  obtain ⟨M59, zqe60, h⟩ := ob h
  refine pf337 C hR hS zqe60 dX7_init_118 (fun H locs hR hS => ?_)
  have hB := Bk.st (pL_n zqe60) hB
  refine lv_aload_n hx hb dX7_init_121 rfl (lv_at hl 0 rfl) ?_
  refine lv_iconst (v := 0) hx hb dX7_init_122 (by decide) ?_
  obtain ⟨M61, zqe62, h⟩ := ob h
  refine pf338 C hR hS zqe62 dX7_init_123 (fun H locs hR hS => ?_)
  have hB := Bk.st (pI_n zqe62) hB
  refine lv_aload_n hx hb dX7_init_126 rfl (lv_at hl 0 rfl) ?_
  refine lv_bipush (v := 6) hx hb dX7_init_127 (by decide) ?_
  obtain ⟨qv63, zqe64, h⟩ := ob h
  refine bn_A C hR hS hs hB (Or.inl ⟨rfl, rfl⟩) lk195 (N := 6) (by decide +kernel) (by decide) zqe64 ⟨Nat.le_refl _, Nat.le_refl _⟩ dX7_init_129 (fun H hR hS hB => ?_)
  obtain ⟨M65, zqe66, h⟩ := ob h
  refine pf339 C hin hR hS zqe66 dX7_init_131 (fun H locs hR hS => ?_)
  have hB := Bk.st (pN_n zqe66) hB
  refine lv_iconst (v := 0) hx hb dX7_init_134 (by decide) ?_
  refine lv_istore_n (lv' := [(1, .int 0), (0, .ref (B + x0))]) hx hb dX7_init_135 rfl hl (by decide) rfl (fun ls hl => ?_)
  exact w_X7_init_136 C hin hao hs FU h hB hR hS (lv_sub hl [1, 0] rfl)
set_option maxHeartbeats 4000000 in
set_option maxRecDepth 100000 in
theorem w_X8_init_219 {r : Mem} {n0 : Nat} (C : Cx p s m args meth c RX8 cX8_init 2 none D B ca st) (hin : meth.name = "<init>") (hao : AO s) (hs : s.heap.size = B + 1 + n0) : ∀ (n : Nat) {x0 : Nat} {x1 : Int32} {M : Mem}, f_X8_init_219 n x0 x1 M = some r → ∀ {cells slots : Nat} {H : Heap} {locs : List Loc} {ls : Array Slot}, Bk n0 cells slots M → RH D B ca M H → va_S (AA B) s.heap H locs → lv_has ls 2 [(0, .ref (B + x0)), (1, .int x1)] → W p l e (rmC 1 86 172000) s m args below meth c H locs cells slots (MQ below (Qk D B ca st r) args s 86 172000 (AA B)) (F0 m 219 ls []) := by
  have hx := C.1
  have hb := C.2.1
  intro n
  induction n with
  | zero => intro x0 x1 M h; simp [f_X8_init_219] at h
  | succ n ih =>
    intro x0 x1 M h cells slots H locs ls hB hR hS hl
    rw [f_X8_init_219] at h
    refine lv_iload_n hx hb dX8_init_219 rfl (lv_at hl 1 rfl) ?_
    refine lv_iconst (v := 4) hx hb dX8_init_220 (by decide) ?_
    refine lv_icmp_ge (tgt := 243) hx hb dX8_init_221 (by decide) (fun c => ?_) (fun c => ?_)
    · have h := ip c h
      cases h
      exact bk_V C hao hR hS hs hB dX8_init_243
    · have h := iq c h
      refine lv_aload_n hx hb dX8_init_224 rfl (lv_at hl 0 rfl) ?_
      obtain ⟨v107, zqe108, h⟩ := ob h
      refine gf948 C hR zqe108 dX8_init_225 ?_
      refine lv_sipush (v := 493) hx hb dX8_init_228 (by decide) ?_
      refine lv_iload_n hx hb dX8_init_231 rfl (lv_at hl 1 rfl) ?_
      refine lv_imul hx hb dX8_init_232 ?_
      refine lv_iconst (v := 0) hx hb dX8_init_233 (by decide) ?_
      refine lv_iadd hx hb dX8_init_234 ?_
      refine lv_iconst (v := (-1)) hx hb dX8_init_235 (by decide) ?_
      obtain ⟨M109, zqe110, h⟩ := ob h
      refine re_I C hR hS zqe110 dX8_init_236 (fun H locs hR hS => ?_)
      have hB := Bk.st (eI_n zqe110) hB
      refine lv_iinc (v := (x1 + 1)) (lv' := [(1, .int (x1 + 1)), (0, .ref (B + x0))]) hx hb dX8_init_237 hl (k := 1) rfl rfl (by decide) rfl (fun ls hl => ?_)
      refine lv_goto (tgt := 219) hx hb dX8_init_240 (by decide) ?_
      exact ih h hB hR hS (lv_sub hl [1, 0] rfl)
theorem ck_X8_init {x0 : Nat} {M r : Mem} (h : f_X8_init x0 M = some r) : kd M x0 = 18 := by
  unfold f_X8_init at h
  exact ck h
set_option maxHeartbeats 4000000 in
set_option maxRecDepth 100000 in
theorem ok_X8_init {x0 : Nat} {M r : Mem} (hm : mN M ≤ 86) (h : f_X8_init x0 M = some r) : Oc l yX8_init cX8_init 2 1 86 172000 [.ref (B + x0)] D B ca st M r := by
  have hk0 := ck_X8_init h
  have hk1 := kd_spec hk0 (by decide)
  unfold f_X8_init at h
  have h := ip hk0 h
  refine oc_of rfl rfl rfl (Nat.le_of_ble_eq_true rfl) ?_
  intro p e s m args below meth c ls C hin hao hs hl hR hS
  have hl : lv_has ls 2 [(0, .ref (B + x0))] := hl
  have hx := C.1
  have hb := C.2.1
  have hB : Bk (mN M) 0 0 M := ⟨by omega, rfl, Nat.le_refl _, hm⟩
  refine lv_aload_n hx hb dX8_init_0 rfl (lv_at hl 0 rfl) ?_
  refine W.objInit hx hb C.2.2.2.1 (C.2.2.2.2.1 _ lk947) (C.2.2.2.2.1 _ lk139) (C.2.2.2.2.1 _ lk140) rfl (hl.1.trans C.2.2.1.symm) rfl dX8_init_1 (Nat.le_of_ble_eq_true rfl) (Nat.le_of_ble_eq_true rfl) ?_
  refine lv_aload_n hx hb dX8_init_4 rfl (lv_at hl 0 rfl) ?_
  refine lv_sipush (v := 1998) hx hb dX8_init_5 (by decide) ?_
  obtain ⟨qv1, zqe2, h⟩ := ob h
  refine bn_A C hR hS hs hB (Or.inl ⟨rfl, rfl⟩) lk195 (N := 1998) (by decide +kernel) (by decide) zqe2 ⟨Nat.le_refl _, Nat.le_refl _⟩ dX8_init_8 (fun H hR hS hB => ?_)
  obtain ⟨M3, zqe4, h⟩ := ob h
  refine pf948 C hin hR hS zqe4 dX8_init_10 (fun H locs hR hS => ?_)
  have hB := Bk.st (pN_n zqe4) hB
  refine lv_aload_n hx hb dX8_init_13 rfl (lv_at hl 0 rfl) ?_
  refine lv_iconst (v := 5) hx hb dX8_init_14 (by decide) ?_
  obtain ⟨qv5, zqe6, h⟩ := ob h
  refine bn_A C hR hS hs hB (Or.inl ⟨rfl, rfl⟩) lk195 (N := 5) (by decide +kernel) (by decide) zqe6 ⟨Nat.le_refl _, Nat.le_refl _⟩ dX8_init_15 (fun H hR hS hB => ?_)
  obtain ⟨M7, zqe8, h⟩ := ob h
  refine pf950 C hin hR hS zqe8 dX8_init_17 (fun H locs hR hS => ?_)
  have hB := Bk.st (pN_n zqe8) hB
  refine lv_aload_n hx hb dX8_init_20 rfl (lv_at hl 0 rfl) ?_
  refine lv_iconst (v := 5) hx hb dX8_init_21 (by decide) ?_
  obtain ⟨qv9, zqe10, h⟩ := ob h
  refine bn_A C hR hS hs hB (Or.inl ⟨rfl, rfl⟩) lk195 (N := 5) (by decide +kernel) (by decide) zqe10 ⟨Nat.le_refl _, Nat.le_refl _⟩ dX8_init_22 (fun H hR hS hB => ?_)
  obtain ⟨M11, zqe12, h⟩ := ob h
  refine pf951 C hin hR hS zqe12 dX8_init_24 (fun H locs hR hS => ?_)
  have hB := Bk.st (pN_n zqe12) hB
  refine lv_aload_n hx hb dX8_init_27 rfl (lv_at hl 0 rfl) ?_
  refine lv_bipush (v := 6) hx hb dX8_init_28 (by decide) ?_
  obtain ⟨qv13, zqe14, h⟩ := ob h
  refine bn_A C hR hS hs hB (Or.inl ⟨rfl, rfl⟩) lk195 (N := 6) (by decide +kernel) (by decide) zqe14 ⟨Nat.le_refl _, Nat.le_refl _⟩ dX8_init_30 (fun H hR hS hB => ?_)
  obtain ⟨M15, zqe16, h⟩ := ob h
  refine pf953 C hin hR hS zqe16 dX8_init_32 (fun H locs hR hS => ?_)
  have hB := Bk.st (pN_n zqe16) hB
  refine lv_aload_n hx hb dX8_init_35 rfl (lv_at hl 0 rfl) ?_
  refine lv_bipush (v := 6) hx hb dX8_init_36 (by decide) ?_
  obtain ⟨qv17, zqe18, h⟩ := ob h
  refine bn_A C hR hS hs hB (Or.inl ⟨rfl, rfl⟩) lk195 (N := 6) (by decide +kernel) (by decide) zqe18 ⟨Nat.le_refl _, Nat.le_refl _⟩ dX8_init_38 (fun H hR hS hB => ?_)
  obtain ⟨M19, zqe20, h⟩ := ob h
  refine pf954 C hin hR hS zqe20 dX8_init_40 (fun H locs hR hS => ?_)
  have hB := Bk.st (pN_n zqe20) hB
  refine lv_aload_n hx hb dX8_init_43 rfl (lv_at hl 0 rfl) ?_
  refine lv_bipush (v := 6) hx hb dX8_init_44 (by decide) ?_
  obtain ⟨qv21, zqe22, h⟩ := ob h
  refine bn_A C hR hS hs hB (Or.inl ⟨rfl, rfl⟩) lk195 (N := 6) (by decide +kernel) (by decide) zqe22 ⟨Nat.le_refl _, Nat.le_refl _⟩ dX8_init_46 (fun H hR hS hB => ?_)
  obtain ⟨M23, zqe24, h⟩ := ob h
  refine pf955 C hin hR hS zqe24 dX8_init_48 (fun H locs hR hS => ?_)
  have hB := Bk.st (pN_n zqe24) hB
  refine lv_aload_n hx hb dX8_init_51 rfl (lv_at hl 0 rfl) ?_
  refine lv_bipush (v := 6) hx hb dX8_init_52 (by decide) ?_
  obtain ⟨qv25, zqe26, h⟩ := ob h
  refine bn_A C hR hS hs hB (Or.inl ⟨rfl, rfl⟩) lk195 (N := 6) (by decide +kernel) (by decide) zqe26 ⟨Nat.le_refl _, Nat.le_refl _⟩ dX8_init_54 (fun H hR hS hB => ?_)
  refine lv_dup hx hb dX8_init_56 rfl ?_
  refine lv_iconst (v := 0) hx hb dX8_init_57 (by decide) ?_
  refine lv_iconst (v := (-1)) hx hb dX8_init_58 (by decide) ?_
  obtain ⟨M27, zqe28, h⟩ := ob h
  refine re_I C hR hS zqe28 dX8_init_59 (fun H locs hR hS => ?_)
  have hB := Bk.st (eI_n zqe28) hB
  refine lv_dup hx hb dX8_init_60 rfl ?_
  refine lv_iconst (v := 1) hx hb dX8_init_61 (by decide) ?_
  refine lv_iconst (v := (-1)) hx hb dX8_init_62 (by decide) ?_
  obtain ⟨M29, zqe30, h⟩ := ob h
  refine re_I C hR hS zqe30 dX8_init_63 (fun H locs hR hS => ?_)
  have hB := Bk.st (eI_n zqe30) hB
  refine lv_dup hx hb dX8_init_64 rfl ?_
  refine lv_iconst (v := 2) hx hb dX8_init_65 (by decide) ?_
  refine lv_iconst (v := (-1)) hx hb dX8_init_66 (by decide) ?_
  obtain ⟨M31, zqe32, h⟩ := ob h
  refine re_I C hR hS zqe32 dX8_init_67 (fun H locs hR hS => ?_)
  have hB := Bk.st (eI_n zqe32) hB
  refine lv_dup hx hb dX8_init_68 rfl ?_
  refine lv_iconst (v := 3) hx hb dX8_init_69 (by decide) ?_
  refine lv_iconst (v := (-1)) hx hb dX8_init_70 (by decide) ?_
  obtain ⟨M33, zqe34, h⟩ := ob h
  refine re_I C hR hS zqe34 dX8_init_71 (fun H locs hR hS => ?_)
  have hB := Bk.st (eI_n zqe34) hB
  refine lv_dup hx hb dX8_init_72 rfl ?_
  refine lv_iconst (v := 4) hx hb dX8_init_73 (by decide) ?_
  refine lv_iconst (v := (-1)) hx hb dX8_init_74 (by decide) ?_
  obtain ⟨M35, zqe36, h⟩ := ob h
  refine re_I C hR hS zqe36 dX8_init_75 (fun H locs hR hS => ?_)
  have hB := Bk.st (eI_n zqe36) hB
  refine lv_dup hx hb dX8_init_76 rfl ?_
  refine lv_iconst (v := 5) hx hb dX8_init_77 (by decide) ?_
  refine lv_iconst (v := (-1)) hx hb dX8_init_78 (by decide) ?_
  obtain ⟨M37, zqe38, h⟩ := ob h
  refine re_I C hR hS zqe38 dX8_init_79 (fun H locs hR hS => ?_)
  have hB := Bk.st (eI_n zqe38) hB
  obtain ⟨M39, zqe40, h⟩ := ob h
  refine pf956 C hin hR hS zqe40 dX8_init_80 (fun H locs hR hS => ?_)
  have hB := Bk.st (pN_n zqe40) hB
  refine lv_aload_n hx hb dX8_init_83 rfl (lv_at hl 0 rfl) ?_
  refine lv_sipush (v := 240) hx hb dX8_init_84 (by decide) ?_
  obtain ⟨qv41, zqe42, h⟩ := ob h
  refine bn_A C hR hS hs hB (Or.inl ⟨rfl, rfl⟩) lk195 (N := 240) (by decide +kernel) (by decide) zqe42 ⟨Nat.le_refl _, Nat.le_refl _⟩ dX8_init_87 (fun H hR hS hB => ?_)
  obtain ⟨M43, zqe44, h⟩ := ob h
  refine pf957 C hin hR hS zqe44 dX8_init_89 (fun H locs hR hS => ?_)
  have hB := Bk.st (pN_n zqe44) hB
  refine lv_aload_n hx hb dX8_init_92 rfl (lv_at hl 0 rfl) ?_
  refine lv_iconst (v := 4) hx hb dX8_init_93 (by decide) ?_
  obtain ⟨qv45, zqe46, h⟩ := ob h
  refine bn_A C hR hS hs hB (Or.inl ⟨rfl, rfl⟩) lk195 (N := 4) (by decide +kernel) (by decide) zqe46 ⟨Nat.le_refl _, Nat.le_refl _⟩ dX8_init_94 (fun H hR hS hB => ?_)
  refine lv_dup hx hb dX8_init_96 rfl ?_
  refine lv_iconst (v := 0) hx hb dX8_init_97 (by decide) ?_
  refine lv_iconst (v := (-1)) hx hb dX8_init_98 (by decide) ?_
  obtain ⟨M47, zqe48, h⟩ := ob h
  refine re_I C hR hS zqe48 dX8_init_99 (fun H locs hR hS => ?_)
  have hB := Bk.st (eI_n zqe48) hB
  refine lv_dup hx hb dX8_init_100 rfl ?_
  refine lv_iconst (v := 1) hx hb dX8_init_101 (by decide) ?_
  refine lv_iconst (v := (-1)) hx hb dX8_init_102 (by decide) ?_
  obtain ⟨M49, zqe50, h⟩ := ob h
  refine re_I C hR hS zqe50 dX8_init_103 (fun H locs hR hS => ?_)
  have hB := Bk.st (eI_n zqe50) hB
  refine lv_dup hx hb dX8_init_104 rfl ?_
  refine lv_iconst (v := 2) hx hb dX8_init_105 (by decide) ?_
  refine lv_iconst (v := (-1)) hx hb dX8_init_106 (by decide) ?_
  obtain ⟨M51, zqe52, h⟩ := ob h
  refine re_I C hR hS zqe52 dX8_init_107 (fun H locs hR hS => ?_)
  have hB := Bk.st (eI_n zqe52) hB
  refine lv_dup hx hb dX8_init_108 rfl ?_
  refine lv_iconst (v := 3) hx hb dX8_init_109 (by decide) ?_
  refine lv_iconst (v := (-1)) hx hb dX8_init_110 (by decide) ?_
  obtain ⟨M53, zqe54, h⟩ := ob h
  refine re_I C hR hS zqe54 dX8_init_111 (fun H locs hR hS => ?_)
  have hB := Bk.st (eI_n zqe54) hB
  obtain ⟨M55, zqe56, h⟩ := ob h
  refine pf958 C hin hR hS zqe56 dX8_init_112 (fun H locs hR hS => ?_)
  have hB := Bk.st (pN_n zqe56) hB
  refine lv_aload_n hx hb dX8_init_115 rfl (lv_at hl 0 rfl) ?_
  refine lv_sipush (v := 240) hx hb dX8_init_116 (by decide) ?_
  obtain ⟨qv57, zqe58, h⟩ := ob h
  refine bn_A C hR hS hs hB (Or.inl ⟨rfl, rfl⟩) lk195 (N := 240) (by decide +kernel) (by decide) zqe58 ⟨Nat.le_refl _, Nat.le_refl _⟩ dX8_init_119 (fun H hR hS hB => ?_)
  obtain ⟨M59, zqe60, h⟩ := ob h
  refine pf959 C hin hR hS zqe60 dX8_init_121 (fun H locs hR hS => ?_)
  have hB := Bk.st (pN_n zqe60) hB
  refine lv_aload_n hx hb dX8_init_124 rfl (lv_at hl 0 rfl) ?_
  refine lv_lconst (v := 1) hx hb dX8_init_125 (by decide) ?_
  obtain ⟨M61, zqe62, h⟩ := ob h
  refine pf962 C hR hS zqe62 dX8_init_126 (fun H locs hR hS => ?_)
  have hB := Bk.st (pL_n zqe62) hB
  refine lv_aload_n hx hb dX8_init_129 rfl (lv_at hl 0 rfl) ?_
  refine lv_bipush (v := 6) hx hb dX8_init_130 (by decide) ?_
  obtain ⟨qv63, zqe64, h⟩ := ob h
  refine bn_A C hR hS hs hB (Or.inl ⟨rfl, rfl⟩) lk195 (N := 6) (by decide +kernel) (by decide) zqe64 ⟨Nat.le_refl _, Nat.le_refl _⟩ dX8_init_132 (fun H hR hS hB => ?_)
  obtain ⟨M65, zqe66, h⟩ := ob h
  refine pf964 C hin hR hS zqe66 dX8_init_134 (fun H locs hR hS => ?_)
  have hB := Bk.st (pN_n zqe66) hB
  refine lv_aload_n hx hb dX8_init_137 rfl (lv_at hl 0 rfl) ?_
  refine lv_bipush (v := 15) hx hb dX8_init_138 (by decide) ?_
  obtain ⟨qv67, zqe68, h⟩ := ob h
  refine bn_A C hR hS hs hB (Or.inl ⟨rfl, rfl⟩) lk195 (N := 15) (by decide +kernel) (by decide) zqe68 ⟨Nat.le_refl _, Nat.le_refl _⟩ dX8_init_140 (fun H hR hS hB => ?_)
  obtain ⟨M69, zqe70, h⟩ := ob h
  refine pf968 C hin hR hS zqe70 dX8_init_142 (fun H locs hR hS => ?_)
  have hB := Bk.st (pN_n zqe70) hB
  refine lv_aload_n hx hb dX8_init_145 rfl (lv_at hl 0 rfl) ?_
  refine lv_bipush (v := 18) hx hb dX8_init_146 (by decide) ?_
  obtain ⟨qv71, zqe72, h⟩ := ob h
  refine bn_A C hR hS hs hB (Or.inl ⟨rfl, rfl⟩) lk195 (N := 18) (by decide +kernel) (by decide) zqe72 ⟨Nat.le_refl _, Nat.le_refl _⟩ dX8_init_148 (fun H hR hS hB => ?_)
  obtain ⟨M73, zqe74, h⟩ := ob h
  refine pf970 C hin hR hS zqe74 dX8_init_150 (fun H locs hR hS => ?_)
  have hB := Bk.st (pN_n zqe74) hB
  refine lv_aload_n hx hb dX8_init_153 rfl (lv_at hl 0 rfl) ?_
  refine lv_bipush (v := 6) hx hb dX8_init_154 (by decide) ?_
  obtain ⟨qv75, zqe76, h⟩ := ob h
  refine bn_A C hR hS hs hB (Or.inl ⟨rfl, rfl⟩) lk195 (N := 6) (by decide +kernel) (by decide) zqe76 ⟨Nat.le_refl _, Nat.le_refl _⟩ dX8_init_156 (fun H hR hS hB => ?_)
  obtain ⟨M77, zqe78, h⟩ := ob h
  refine pf972 C hin hR hS zqe78 dX8_init_158 (fun H locs hR hS => ?_)
  have hB := Bk.st (pN_n zqe78) hB
  refine lv_aload_n hx hb dX8_init_161 rfl (lv_at hl 0 rfl) ?_
  refine lv_bipush (v := 6) hx hb dX8_init_162 (by decide) ?_
  obtain ⟨qv79, zqe80, h⟩ := ob h
  refine bn_A C hR hS hs hB (Or.inl ⟨rfl, rfl⟩) lk195 (N := 6) (by decide +kernel) (by decide) zqe80 ⟨Nat.le_refl _, Nat.le_refl _⟩ dX8_init_164 (fun H hR hS hB => ?_)
  obtain ⟨M81, zqe82, h⟩ := ob h
  refine pf973 C hin hR hS zqe82 dX8_init_166 (fun H locs hR hS => ?_)
  have hB := Bk.st (pN_n zqe82) hB
  refine lv_aload_n hx hb dX8_init_169 rfl (lv_at hl 0 rfl) ?_
  refine lv_bipush (v := 7) hx hb dX8_init_170 (by decide) ?_
  obtain ⟨qv83, zqe84, h⟩ := ob h
  refine bn_A C hR hS hs hB (Or.inl ⟨rfl, rfl⟩) lk195 (N := 7) (by decide +kernel) (by decide) zqe84 ⟨Nat.le_refl _, Nat.le_refl _⟩ dX8_init_172 (fun H hR hS hB => ?_)
  obtain ⟨M85, zqe86, h⟩ := ob h
  refine pf976 C hin hR hS zqe86 dX8_init_174 (fun H locs hR hS => ?_)
  have hB := Bk.st (pN_n zqe86) hB
  refine lv_aload_n hx hb dX8_init_177 rfl (lv_at hl 0 rfl) ?_
  refine lv_bipush (v := 7) hx hb dX8_init_178 (by decide) ?_
  obtain ⟨qv87, zqe88, h⟩ := ob h
  refine bn_A C hR hS hs hB (Or.inl ⟨rfl, rfl⟩) lk195 (N := 7) (by decide +kernel) (by decide) zqe88 ⟨Nat.le_refl _, Nat.le_refl _⟩ dX8_init_180 (fun H hR hS hB => ?_)
  obtain ⟨M89, zqe90, h⟩ := ob h
  refine pf977 C hin hR hS zqe90 dX8_init_182 (fun H locs hR hS => ?_)
  have hB := Bk.st (pN_n zqe90) hB
  refine lv_aload_n hx hb dX8_init_185 rfl (lv_at hl 0 rfl) ?_
  refine lv_bipush (v := 7) hx hb dX8_init_186 (by decide) ?_
  obtain ⟨qv91, zqe92, h⟩ := ob h
  refine bn_A C hR hS hs hB (Or.inl ⟨rfl, rfl⟩) lk195 (N := 7) (by decide +kernel) (by decide) zqe92 ⟨Nat.le_refl _, Nat.le_refl _⟩ dX8_init_188 (fun H hR hS hB => ?_)
  obtain ⟨M93, zqe94, h⟩ := ob h
  refine pf978 C hin hR hS zqe94 dX8_init_190 (fun H locs hR hS => ?_)
  have hB := Bk.st (pN_n zqe94) hB
  refine lv_aload_n hx hb dX8_init_193 rfl (lv_at hl 0 rfl) ?_
  refine lv_bipush (v := 7) hx hb dX8_init_194 (by decide) ?_
  obtain ⟨qv95, zqe96, h⟩ := ob h
  refine bn_A C hR hS hs hB (Or.inl ⟨rfl, rfl⟩) lk195 (N := 7) (by decide +kernel) (by decide) zqe96 ⟨Nat.le_refl _, Nat.le_refl _⟩ dX8_init_196 (fun H hR hS hB => ?_)
  obtain ⟨M97, zqe98, h⟩ := ob h
  refine pf979 C hin hR hS zqe98 dX8_init_198 (fun H locs hR hS => ?_)
  have hB := Bk.st (pN_n zqe98) hB
  refine lv_aload_n hx hb dX8_init_201 rfl (lv_at hl 0 rfl) ?_
  refine lv_bipush (v := 7) hx hb dX8_init_202 (by decide) ?_
  obtain ⟨qv99, zqe100, h⟩ := ob h
  refine bn_A C hR hS hs hB (Or.inl ⟨rfl, rfl⟩) lk195 (N := 7) (by decide +kernel) (by decide) zqe100 ⟨Nat.le_refl _, Nat.le_refl _⟩ dX8_init_204 (fun H hR hS hB => ?_)
  obtain ⟨M101, zqe102, h⟩ := ob h
  refine pf980 C hin hR hS zqe102 dX8_init_206 (fun H locs hR hS => ?_)
  have hB := Bk.st (pN_n zqe102) hB
  refine lv_aload_n hx hb dX8_init_209 rfl (lv_at hl 0 rfl) ?_
  refine lv_bipush (v := 7) hx hb dX8_init_210 (by decide) ?_
  obtain ⟨qv103, zqe104, h⟩ := ob h
  refine bn_A C hR hS hs hB (Or.inl ⟨rfl, rfl⟩) lk195 (N := 7) (by decide +kernel) (by decide) zqe104 ⟨Nat.le_refl _, Nat.le_refl _⟩ dX8_init_212 (fun H hR hS hB => ?_)
  obtain ⟨M105, zqe106, h⟩ := ob h
  refine pf981 C hin hR hS zqe106 dX8_init_214 (fun H locs hR hS => ?_)
  have hB := Bk.st (pN_n zqe106) hB
  refine lv_iconst (v := 1) hx hb dX8_init_217 (by decide) ?_
  refine lv_istore_n (lv' := [(1, .int 1), (0, .ref (B + x0))]) hx hb dX8_init_218 rfl hl (by decide) rfl (fun ls hl => ?_)
  exact w_X8_init_219 C hin hao hs FU h hB hR hS (lv_sub hl [1, 0] rfl)
end WalkC
