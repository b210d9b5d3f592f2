theorem lk371 : Cond.methodLink RL 13 yX7_row ∈ wsA := in_A 371 (by decide +kernel) rfl
theorem lk390 : Cond.methodLink RL 18 yX7_lay ∈ wsA := in_A 390 (by decide +kernel) rfl
theorem lk402 : Cond.methodLink RL 23 yX7_at ∈ wsA := in_A 402 (by decide +kernel) rfl
theorem lk406 : Cond.methodLink RL 27 yX7_tear ∈ wsA := in_A 406 (by decide +kernel) rfl
theorem lk410 : Cond.methodLink RL 32 yX7_copy ∈ wsA := in_A 410 (by decide +kernel) rfl
theorem lk421 : Cond.methodLink RL 37 yX7_mean ∈ wsA := in_A 421 (by decide +kernel) rfl
theorem lk429 : Cond.methodLink RL 41 yX7_text ∈ wsA := in_A 429 (by decide +kernel) rfl
theorem lk444 : Cond.methodLink RL 45 yX7_put ∈ wsA := in_A 444 (by decide +kernel) rfl
theorem lk456 : Cond.methodLink RL 49 yX7_fault ∈ wsA := in_A 456 (by decide +kernel) rfl
theorem lk524 : Cond.methodLink RL 53 yX7_guild ∈ wsA := in_A 524 (by decide +kernel) rfl
theorem lk534 : Cond.methodLink RL 57 yX7_sigher ∈ wsA := in_A 534 (by decide +kernel) rfl
theorem lk571 : Cond.methodLink RL 61 yX7_order ∈ wsA := in_A 571 (by decide +kernel) rfl
theorem lk585 : Cond.methodLink RL 65 yX7_mark ∈ wsA := in_A 585 (by decide +kernel) rfl
theorem lk598 : Cond.methodLink RL 69 yX7_walk ∈ wsA := in_A 598 (by decide +kernel) rfl
theorem lk643 : Cond.methodLink RL 73 yX7_sigh ∈ wsA := in_A 643 (by decide +kernel) rfl
theorem lk647 : Cond.methodLink RL 77 yX7_rest ∈ wsA := in_A 647 (by decide +kernel) rfl
theorem lk651 : Cond.methodLink RL 81 yX7_undo ∈ wsA := in_A 651 (by decide +kernel) rfl
theorem lk659 : Cond.methodLink RL 85 yX7_keep ∈ wsA := in_A 659 (by decide +kernel) rfl
theorem lk672 : Cond.methodLink RL 89 yX7_on ∈ wsA := in_A 672 (by decide +kernel) rfl
theorem lk676 : Cond.methodLink RL 93 yX7_takes ∈ wsA := in_A 676 (by decide +kernel) rfl
theorem lk680 : Cond.methodLink RL 97 yX7_brings ∈ wsA := in_A 680 (by decide +kernel) rfl
theorem lk684 : Cond.methodLink RL 101 yX7_give ∈ wsA := in_A 684 (by decide +kernel) rfl
theorem lk723 : Cond.methodLink RL 105 yX7_most ∈ wsA := in_A 723 (by decide +kernel) rfl
theorem lk727 : Cond.methodLink RL 109 yX7_plain ∈ wsA := in_A 727 (by decide +kernel) rfl
theorem lk747 : Cond.methodLink RL 114 yX7_way ∈ wsA := in_A 747 (by decide +kernel) rfl
theorem lk760 : Cond.methodLink RL 118 yX7_dusk ∈ wsA := in_A 760 (by decide +kernel) rfl
theorem lk778 : Cond.methodLink RL 122 yX7_hours ∈ wsA := in_A 778 (by decide +kernel) rfl
theorem lk782 : Cond.methodLink RL 126 yX7_pairs ∈ wsA := in_A 782 (by decide +kernel) rfl
theorem lk791 : Cond.methodLink RL 130 yX7_choir ∈ wsA := in_A 791 (by decide +kernel) rfl
theorem lk801 : Cond.methodLink RL 134 yX7_loose ∈ wsA := in_A 801 (by decide +kernel) rfl
theorem lk809 : Cond.methodLink RL 138 yX7_who ∈ wsA := in_A 809 (by decide +kernel) rfl
theorem lk822 : Cond.methodLink RL 142 yX7_kinds ∈ wsA := in_A 822 (by decide +kernel) rfl
theorem lk826 : Cond.methodLink RL 146 yX7_breaths ∈ wsA := in_A 826 (by decide +kernel) rfl
theorem lk830 : Cond.methodLink RL 150 yX7_strike ∈ wsA := in_A 830 (by decide +kernel) rfl
theorem lk846 : Cond.methodLink RL 154 yX7_odds ∈ wsA := in_A 846 (by decide +kernel) rfl
theorem lk863 : Cond.methodLink RL 158 yX7_mid ∈ wsA := in_A 863 (by decide +kernel) rfl
theorem lk867 : Cond.methodLink RL 162 yX7_lots ∈ wsA := in_A 867 (by decide +kernel) rfl
theorem lk877 : Cond.methodLink RL 166 yX7_asked ∈ wsA := in_A 877 (by decide +kernel) rfl
theorem lk881 : Cond.methodLink RL 170 yX7_upper ∈ wsA := in_A 881 (by decide +kernel) rfl
theorem lk885 : Cond.methodLink RL 175 yX7_lower ∈ wsA := in_A 885 (by decide +kernel) rfl
theorem lk889 : Cond.methodLink RL 179 yX7_count ∈ wsA := in_A 889 (by decide +kernel) rfl
theorem lk918 : Cond.methodLink RL 183 yX7_finding ∈ wsA := in_A 918 (by decide +kernel) rfl
theorem lk922 : Cond.methodLink RL 187 yX7_findings ∈ wsA := in_A 922 (by decide +kernel) rfl
theorem lk926 : Cond.methodLink RL 191 yX7_digest ∈ wsA := in_A 926 (by decide +kernel) rfl
theorem lk1051 : Cond.methodLink RL 17 yX8_row ∈ wsA := in_A 1051 (by decide +kernel) rfl
theorem lk1070 : Cond.methodLink RL 22 yX8_lay ∈ wsA := in_A 1070 (by decide +kernel) rfl
theorem lk1082 : Cond.methodLink RL 26 yX8_at ∈ wsA := in_A 1082 (by decide +kernel) rfl
theorem lk1086 : Cond.methodLink RL 31 yX8_tear ∈ wsA := in_A 1086 (by decide +kernel) rfl
theorem lk1090 : Cond.methodLink RL 36 yX8_copy ∈ wsA := in_A 1090 (by decide +kernel) rfl
theorem lk1098 : Cond.methodLink RL 40 yX8_mean ∈ wsA := in_A 1098 (by decide +kernel) rfl
theorem lk1102 : Cond.methodLink RL 44 yX8_text ∈ wsA := in_A 1102 (by decide +kernel) rfl
theorem lk1110 : Cond.methodLink RL 48 yX8_put ∈ wsA := in_A 1110 (by decide +kernel) rfl
theorem lk1114 : Cond.methodLink RL 52 yX8_fault ∈ wsA := in_A 1114 (by decide +kernel) rfl
theorem lk1145 : Cond.methodLink RL 56 yX8_guild ∈ wsA := in_A 1145 (by decide +kernel) rfl
theorem lk1149 : Cond.methodLink RL 60 yX8_sigher ∈ wsA := in_A 1149 (by decide +kernel) rfl
theorem lk1182 : Cond.methodLink RL 64 yX8_order ∈ wsA := in_A 1182 (by decide +kernel) rfl
theorem lk1194 : Cond.methodLink RL 68 yX8_mark ∈ wsA := in_A 1194 (by decide +kernel) rfl
theorem lk1216 : Cond.methodLink RL 72 yX8_walk ∈ wsA := in_A 1216 (by decide +kernel) rfl
theorem lk1228 : Cond.methodLink RL 76 yX8_sigh ∈ wsA := in_A 1228 (by decide +kernel) rfl
theorem lk1236 : Cond.methodLink RL 80 yX8_rest ∈ wsA := in_A 1236 (by decide +kernel) rfl
theorem lk1244 : Cond.methodLink RL 84 yX8_undo ∈ wsA := in_A 1244 (by decide +kernel) rfl
theorem lk1248 : Cond.methodLink RL 88 yX8_keep ∈ wsA := in_A 1248 (by decide +kernel) rfl
theorem lk1257 : Cond.methodLink RL 92 yX8_on ∈ wsA := in_A 1257 (by decide +kernel) rfl
theorem lk1261 : Cond.methodLink RL 96 yX8_takes ∈ wsA := in_A 1261 (by decide +kernel) rfl
theorem lk1265 : Cond.methodLink RL 100 yX8_brings ∈ wsA := in_A 1265 (by decide +kernel) rfl
theorem lk1269 : Cond.methodLink RL 104 yX8_give ∈ wsA := in_A 1269 (by decide +kernel) rfl
theorem lk1292 : Cond.methodLink RL 108 yX8_most ∈ wsA := in_A 1292 (by decide +kernel) rfl
theorem lk1296 : Cond.methodLink RL 113 yX8_plain ∈ wsA := in_A 1296 (by decide +kernel) rfl
theorem lk1304 : Cond.methodLink RL 117 yX8_way ∈ wsA := in_A 1304 (by decide +kernel) rfl
theorem lk1316 : Cond.methodLink RL 121 yX8_dusk ∈ wsA := in_A 1316 (by decide +kernel) rfl
theorem lk1337 : Cond.methodLink RL 125 yX8_hours ∈ wsA := in_A 1337 (by decide +kernel) rfl
theorem lk1341 : Cond.methodLink RL 129 yX8_pairs ∈ wsA := in_A 1341 (by decide +kernel) rfl
theorem lk1349 : Cond.methodLink RL 133 yX8_choir ∈ wsA := in_A 1349 (by decide +kernel) rfl
theorem lk1357 : Cond.methodLink RL 137 yX8_loose ∈ wsA := in_A 1357 (by decide +kernel) rfl
theorem lk1362 : Cond.methodLink RL 141 yX8_who ∈ wsA := in_A 1362 (by decide +kernel) rfl
theorem lk1374 : Cond.methodLink RL 145 yX8_kinds ∈ wsA := in_A 1374 (by decide +kernel) rfl
theorem lk1378 : Cond.methodLink RL 149 yX8_breaths ∈ wsA := in_A 1378 (by decide +kernel) rfl
theorem lk1382 : Cond.methodLink RL 153 yX8_strike ∈ wsA := in_A 1382 (by decide +kernel) rfl
theorem lk1394 : Cond.methodLink RL 157 yX8_odds ∈ wsA := in_A 1394 (by decide +kernel) rfl
theorem lk1408 : Cond.methodLink RL 161 yX8_mid ∈ wsA := in_A 1408 (by decide +kernel) rfl
theorem lk1412 : Cond.methodLink RL 165 yX8_lots ∈ wsA := in_A 1412 (by decide +kernel) rfl
theorem lk1421 : Cond.methodLink RL 169 yX8_asked ∈ wsA := in_A 1421 (by decide +kernel) rfl
theorem lk1425 : Cond.methodLink RL 174 yX8_upper ∈ wsA := in_A 1425 (by decide +kernel) rfl
theorem lk1429 : Cond.methodLink RL 178 yX8_lower ∈ wsA := in_A 1429 (by decide +kernel) rfl
theorem lk1433 : Cond.methodLink RL 182 yX8_count ∈ wsA := in_A 1433 (by decide +kernel) rfl
theorem lk1454 : Cond.methodLink RL 186 yX8_finding ∈ wsA := in_A 1454 (by decide +kernel) rfl
theorem lk1458 : Cond.methodLink RL 190 yX8_findings ∈ wsA := in_A 1458 (by decide +kernel) rfl
theorem lk1462 : Cond.methodLink RL 194 yX8_digest ∈ wsA := in_A 1462 (by decide +kernel) rfl
section LawRow
variable {p : Program} {l : Launch} {e : Env} {R : Room} {s : State} {m : MethodId} {args : Array Value} {below : List Frame} {meth : Method} {c : Code} {H : Heap} {locs : List Loc} {cells slots : Nat} {Q : State → Prop}
variable {own : String} {cc : ByteArray} {nL : Nat} {ret : Option FieldType} {D : va_G} {B : Nat} {ca : Nat → ClassId} {st : Nat → Nat} {pc b L : Nat} {xs : Nat → Int32} {ls : Array Slot} {rest : List Value}
theorem rl_ld (C : Cx p s m args meth c own cc nL ret D B ca st) (hX : va_X b L xs s s.heap) (hbl : b < s.heap.size) (hbA : ¬ AA B b) (hS : va_S (AA B) s.heap H locs) {i a : Int32} (hin : vp_in i L) (ha : xs i.toNatClampNeg = a) (hd : decode cc pc = .ok (.iaload, 1))
    (kk : W p l e R s m args below meth c H locs cells slots Q (F0 m (pc + 1) ls (.int a :: rest))) : W p l e R s m args below meth c H locs cells slots Q (F0 m pc ls (.int i :: .ref b :: rest)) := by
  subst ha
  exact va_sld C.1 C.2.1 hX hbl hbA hS hin hd kk
end LawRow
section LawCases
variable {p : Program} {l : Launch} {e : Env} {s : State} {m : MethodId} {args : Array Value} {below : List Frame} {meth : Method} {c : Code} {cells slots : Nat} {Q : State → Prop}
variable {D : va_G} {B : Nat} {ca : Nat → ClassId} {st : Nat → Nat} {b L : Nat} {xs : Nat → Int32} {x3 : Int32}
set_option maxHeartbeats 4000000 in
set_option maxRecDepth 100000 in
theorem law_c0 (C : Cx p s m args meth c RL cL_law 4 (some .boolean) D B ca st) (hX : va_X b L xs s s.heap) (hbl : b < s.heap.size) (hbA : ¬ AA B b) (hcs : cells ≤ room_1.cells ∧ slots ≤ room_1.slots) {a1 : Int32} (hi1 : vp_in (x3 + 1) L) (ha1 : xs (x3 + 1).toNatClampNeg = a1) {a2 : Int32} (hi2 : vp_in (x3 + 2) L) (ha2 : xs (x3 + 2).toNatClampNeg = a2) {M M' : Mem} (h : lawOp_0 a1 a2 M = some M') (hk : ∀ (H : Heap) (locs : List Loc) (ls : Array Slot), RH D B ca M' H → va_S (AA B) s.heap H locs → lv_has ls 4 [(0, .ref b), (1, .ref (B + 1)), (2, .ref (B + 65)), (3, .int x3)] → W p l e room_1 s m args below meth c H locs cells slots Q (F0 m 1459 ls [])) : ∀ {H : Heap} {locs : List Loc} {ls : Array Slot}, RH D B ca M H → va_S (AA B) s.heap H locs → lv_has ls 4 [(0, .ref b), (1, .ref (B + 1)), (2, .ref (B + 65)), (3, .int x3)] → W p l e room_1 s m args below meth c H locs cells slots Q (F0 m 224 ls []) := by
  have hx := C.1
  have hb := C.2.1
  unfold lawOp_0 at h
  intro H locs ls hR hS hl
  refine lv_aload_n hx hb dL_law_224 rfl (lv_at hl 1 rfl) ?_
  refine lv_aload_n hx hb dL_law_225 rfl (lv_at hl 0 rfl) ?_
  refine lv_iload_n hx hb dL_law_226 rfl (lv_at hl 3 rfl) ?_
  refine lv_iconst (v := 1) hx hb dL_law_227 (by decide) ?_
  refine lv_iadd hx hb dL_law_228 ?_
  refine rl_ld C hX hbl hbA hS hi1 ha1 dL_law_229 ?_
  refine lv_aload_n hx hb dL_law_230 rfl (lv_at hl 0 rfl) ?_
  refine lv_iload_n hx hb dL_law_231 rfl (lv_at hl 3 rfl) ?_
  refine lv_iconst (v := 2) hx hb dL_law_232 (by decide) ?_
  refine lv_iadd hx hb dL_law_233 ?_
  refine rl_ld C hX hbl hbA hS hi2 ha2 dL_law_234 ?_
  obtain ⟨qv2, zqe1, h⟩ := ob h
  refine rc_V C hR hS cf_X7_row cv_X7_row lk371 (ok_X7_row zqe1) (ck_X7_row zqe1) ⟨Nat.le_of_ble_eq_true rfl, Nat.le_of_ble_eq_true rfl⟩ hcs rfl rfl hl.1 (Nat.le_of_ble_eq_true rfl) dL_law_235 (rc_k1 (fun H locs hR hS => ?_))
  refine lv_aload_n hx hb dL_law_238 rfl (lv_at hl 2 rfl) ?_
  refine lv_aload_n hx hb dL_law_239 rfl (lv_at hl 0 rfl) ?_
  refine lv_iload_n hx hb dL_law_240 rfl (lv_at hl 3 rfl) ?_
  refine lv_iconst (v := 1) hx hb dL_law_241 (by decide) ?_
  refine lv_iadd hx hb dL_law_242 ?_
  refine rl_ld C hX hbl hbA hS hi1 ha1 dL_law_243 ?_
  refine lv_aload_n hx hb dL_law_244 rfl (lv_at hl 0 rfl) ?_
  refine lv_iload_n hx hb dL_law_245 rfl (lv_at hl 3 rfl) ?_
  refine lv_iconst (v := 2) hx hb dL_law_246 (by decide) ?_
  refine lv_iadd hx hb dL_law_247 ?_
  refine rl_ld C hX hbl hbA hS hi2 ha2 dL_law_248 ?_
  obtain ⟨qv5, zqe4, h⟩ := ob h
  refine rc_V C hR hS cf_X8_row cv_X8_row lk1051 (ok_X8_row zqe4) (ck_X8_row zqe4) ⟨Nat.le_of_ble_eq_true rfl, Nat.le_of_ble_eq_true rfl⟩ hcs rfl rfl hl.1 (Nat.le_of_ble_eq_true rfl) dL_law_249 (rc_k1 (fun H locs hR hS => ?_))
  refine lv_icmp_eq (tgt := 1459) hx hb dL_law_252 (by decide) (fun c => ?_) (fun c => ?_)
  · have h := ip c h
    cases h
    exact hk _ _ _ hR hS hl
  · have h := iq c h
    refine lv_iconst (v := 0) hx hb dL_law_255 (by decide) ?_
    cases h
set_option maxHeartbeats 4000000 in
set_option maxRecDepth 100000 in
theorem law_c1 (C : Cx p s m args meth c RL cL_law 4 (some .boolean) D B ca st) (hX : va_X b L xs s s.heap) (hbl : b < s.heap.size) (hbA : ¬ AA B b) (hcs : cells ≤ room_1.cells ∧ slots ≤ room_1.slots) {a1 : Int32} (hi1 : vp_in (x3 + 1) L) (ha1 : xs (x3 + 1).toNatClampNeg = a1) {a2 : Int32} (hi2 : vp_in (x3 + 2) L) (ha2 : xs (x3 + 2).toNatClampNeg = a2) {a3 : Int32} (hi3 : vp_in (x3 + 3) L) (ha3 : xs (x3 + 3).toNatClampNeg = a3) {M M' : Mem} (h : lawOp_1 a1 a2 a3 M = some M') (hk : ∀ (H : Heap) (locs : List Loc) (ls : Array Slot), RH D B ca M' H → va_S (AA B) s.heap H locs → lv_has ls 4 [(0, .ref b), (1, .ref (B + 1)), (2, .ref (B + 65)), (3, .int x3)] → W p l e room_1 s m args below meth c H locs cells slots Q (F0 m 1459 ls [])) : ∀ {H : Heap} {locs : List Loc} {ls : Array Slot}, RH D B ca M H → va_S (AA B) s.heap H locs → lv_has ls 4 [(0, .ref b), (1, .ref (B + 1)), (2, .ref (B + 65)), (3, .int x3)] → W p l e room_1 s m args below meth c H locs cells slots Q (F0 m 257 ls []) := by
  have hx := C.1
  have hb := C.2.1
  unfold lawOp_1 at h
  intro H locs ls hR hS hl
  refine lv_aload_n hx hb dL_law_257 rfl (lv_at hl 1 rfl) ?_
  refine lv_aload_n hx hb dL_law_258 rfl (lv_at hl 0 rfl) ?_
  refine lv_iload_n hx hb dL_law_259 rfl (lv_at hl 3 rfl) ?_
  refine lv_iconst (v := 1) hx hb dL_law_260 (by decide) ?_
  refine lv_iadd hx hb dL_law_261 ?_
  refine rl_ld C hX hbl hbA hS hi1 ha1 dL_law_262 ?_
  refine lv_aload_n hx hb dL_law_263 rfl (lv_at hl 0 rfl) ?_
  refine lv_iload_n hx hb dL_law_264 rfl (lv_at hl 3 rfl) ?_
  refine lv_iconst (v := 2) hx hb dL_law_265 (by decide) ?_
  refine lv_iadd hx hb dL_law_266 ?_
  refine rl_ld C hX hbl hbA hS hi2 ha2 dL_law_267 ?_
  refine lv_aload_n hx hb dL_law_268 rfl (lv_at hl 0 rfl) ?_
  refine lv_iload_n hx hb dL_law_269 rfl (lv_at hl 3 rfl) ?_
  refine lv_iconst (v := 3) hx hb dL_law_270 (by decide) ?_
  refine lv_iadd hx hb dL_law_271 ?_
  refine rl_ld C hX hbl hbA hS hi3 ha3 dL_law_272 ?_
  obtain ⟨qv2, zqe1, h⟩ := ob h
  refine rc_V C hR hS cf_X7_lay cv_X7_lay lk390 (ok_X7_lay zqe1) (ck_X7_lay zqe1) ⟨Nat.le_of_ble_eq_true rfl, Nat.le_of_ble_eq_true rfl⟩ hcs rfl rfl hl.1 (Nat.le_of_ble_eq_true rfl) dL_law_273 (rc_k1 (fun H locs hR hS => ?_))
  refine lv_aload_n hx hb dL_law_276 rfl (lv_at hl 2 rfl) ?_
  refine lv_aload_n hx hb dL_law_277 rfl (lv_at hl 0 rfl) ?_
  refine lv_iload_n hx hb dL_law_278 rfl (lv_at hl 3 rfl) ?_
  refine lv_iconst (v := 1) hx hb dL_law_279 (by decide) ?_
  refine lv_iadd hx hb dL_law_280 ?_
  refine rl_ld C hX hbl hbA hS hi1 ha1 dL_law_281 ?_
  refine lv_aload_n hx hb dL_law_282 rfl (lv_at hl 0 rfl) ?_
  refine lv_iload_n hx hb dL_law_283 rfl (lv_at hl 3 rfl) ?_
  refine lv_iconst (v := 2) hx hb dL_law_284 (by decide) ?_
  refine lv_iadd hx hb dL_law_285 ?_
  refine rl_ld C hX hbl hbA hS hi2 ha2 dL_law_286 ?_
  refine lv_aload_n hx hb dL_law_287 rfl (lv_at hl 0 rfl) ?_
  refine lv_iload_n hx hb dL_law_288 rfl (lv_at hl 3 rfl) ?_
  refine lv_iconst (v := 3) hx hb dL_law_289 (by decide) ?_
  refine lv_iadd hx hb dL_law_290 ?_
  refine rl_ld C hX hbl hbA hS hi3 ha3 dL_law_291 ?_
  obtain ⟨qv5, zqe4, h⟩ := ob h
  refine rc_V C hR hS cf_X8_lay cv_X8_lay lk1070 (ok_X8_lay zqe4) (ck_X8_lay zqe4) ⟨Nat.le_of_ble_eq_true rfl, Nat.le_of_ble_eq_true rfl⟩ hcs rfl rfl hl.1 (Nat.le_of_ble_eq_true rfl) dL_law_292 (rc_k1 (fun H locs hR hS => ?_))
  refine lv_icmp_eq (tgt := 1459) hx hb dL_law_295 (by decide) (fun c => ?_) (fun c => ?_)
  · have h := ip c h
    cases h
    exact hk _ _ _ hR hS hl
  · have h := iq c h
    refine lv_iconst (v := 0) hx hb dL_law_298 (by decide) ?_
    cases h
set_option maxHeartbeats 4000000 in
set_option maxRecDepth 100000 in
theorem law_c2 (C : Cx p s m args meth c RL cL_law 4 (some .boolean) D B ca st) (hX : va_X b L xs s s.heap) (hbl : b < s.heap.size) (hbA : ¬ AA B b) (hcs : cells ≤ room_1.cells ∧ slots ≤ room_1.slots) {a1 : Int32} (hi1 : vp_in (x3 + 1) L) (ha1 : xs (x3 + 1).toNatClampNeg = a1) {a2 : Int32} (hi2 : vp_in (x3 + 2) L) (ha2 : xs (x3 + 2).toNatClampNeg = a2) {M M' : Mem} (h : lawOp_2 a1 a2 M = some M') (hk : ∀ (H : Heap) (locs : List Loc) (ls : Array Slot), RH D B ca M' H → va_S (AA B) s.heap H locs → lv_has ls 4 [(0, .ref b), (1, .ref (B + 1)), (2, .ref (B + 65)), (3, .int x3)] → W p l e room_1 s m args below meth c H locs cells slots Q (F0 m 1459 ls [])) : ∀ {H : Heap} {locs : List Loc} {ls : Array Slot}, RH D B ca M H → va_S (AA B) s.heap H locs → lv_has ls 4 [(0, .ref b), (1, .ref (B + 1)), (2, .ref (B + 65)), (3, .int x3)] → W p l e room_1 s m args below meth c H locs cells slots Q (F0 m 300 ls []) := by
  have hx := C.1
  have hb := C.2.1
  unfold lawOp_2 at h
  intro H locs ls hR hS hl
  refine lv_aload_n hx hb dL_law_300 rfl (lv_at hl 1 rfl) ?_
  refine lv_aload_n hx hb dL_law_301 rfl (lv_at hl 0 rfl) ?_
  refine lv_iload_n hx hb dL_law_302 rfl (lv_at hl 3 rfl) ?_
  refine lv_iconst (v := 1) hx hb dL_law_303 (by decide) ?_
  refine lv_iadd hx hb dL_law_304 ?_
  refine rl_ld C hX hbl hbA hS hi1 ha1 dL_law_305 ?_
  refine lv_aload_n hx hb dL_law_306 rfl (lv_at hl 0 rfl) ?_
  refine lv_iload_n hx hb dL_law_307 rfl (lv_at hl 3 rfl) ?_
  refine lv_iconst (v := 2) hx hb dL_law_308 (by decide) ?_
  refine lv_iadd hx hb dL_law_309 ?_
  refine rl_ld C hX hbl hbA hS hi2 ha2 dL_law_310 ?_
  obtain ⟨qv2, zqe1, h⟩ := ob h
  refine rc_V C hR hS cf_X7_at cv_X7_at lk402 (ok_X7_at zqe1) (ck_X7_at zqe1) ⟨Nat.le_of_ble_eq_true rfl, Nat.le_of_ble_eq_true rfl⟩ hcs rfl rfl hl.1 (Nat.le_of_ble_eq_true rfl) dL_law_311 (rc_k1 (fun H locs hR hS => ?_))
  refine lv_aload_n hx hb dL_law_314 rfl (lv_at hl 2 rfl) ?_
  refine lv_aload_n hx hb dL_law_315 rfl (lv_at hl 0 rfl) ?_
  refine lv_iload_n hx hb dL_law_316 rfl (lv_at hl 3 rfl) ?_
  refine lv_iconst (v := 1) hx hb dL_law_317 (by decide) ?_
  refine lv_iadd hx hb dL_law_318 ?_
  refine rl_ld C hX hbl hbA hS hi1 ha1 dL_law_319 ?_
  refine lv_aload_n hx hb dL_law_320 rfl (lv_at hl 0 rfl) ?_
  refine lv_iload_n hx hb dL_law_321 rfl (lv_at hl 3 rfl) ?_
  refine lv_iconst (v := 2) hx hb dL_law_322 (by decide) ?_
  refine lv_iadd hx hb dL_law_323 ?_
  refine rl_ld C hX hbl hbA hS hi2 ha2 dL_law_324 ?_
  obtain ⟨qv5, zqe4, h⟩ := ob h
  refine rc_V C hR hS cf_X8_at cv_X8_at lk1082 (ok_X8_at zqe4) (ck_X8_at zqe4) ⟨Nat.le_of_ble_eq_true rfl, Nat.le_of_ble_eq_true rfl⟩ hcs rfl rfl hl.1 (Nat.le_of_ble_eq_true rfl) dL_law_325 (rc_k1 (fun H locs hR hS => ?_))
  refine lv_icmp_eq (tgt := 1459) hx hb dL_law_328 (by decide) (fun c => ?_) (fun c => ?_)
  · have h := ip c h
    cases h
    exact hk _ _ _ hR hS hl
  · have h := iq c h
    refine lv_iconst (v := 0) hx hb dL_law_331 (by decide) ?_
    cases h
set_option maxHeartbeats 4000000 in
set_option maxRecDepth 100000 in
theorem law_c3 (C : Cx p s m args meth c RL cL_law 4 (some .boolean) D B ca st) (hX : va_X b L xs s s.heap) (hbl : b < s.heap.size) (hbA : ¬ AA B b) (hcs : cells ≤ room_1.cells ∧ slots ≤ room_1.slots) {a1 : Int32} (hi1 : vp_in (x3 + 1) L) (ha1 : xs (x3 + 1).toNatClampNeg = a1) {M M' : Mem} (h : lawOp_3 a1 M = some M') (hk : ∀ (H : Heap) (locs : List Loc) (ls : Array Slot), RH D B ca M' H → va_S (AA B) s.heap H locs → lv_has ls 4 [(0, .ref b), (1, .ref (B + 1)), (2, .ref (B + 65)), (3, .int x3)] → W p l e room_1 s m args below meth c H locs cells slots Q (F0 m 1459 ls [])) : ∀ {H : Heap} {locs : List Loc} {ls : Array Slot}, RH D B ca M H → va_S (AA B) s.heap H locs → lv_has ls 4 [(0, .ref b), (1, .ref (B + 1)), (2, .ref (B + 65)), (3, .int x3)] → W p l e room_1 s m args below meth c H locs cells slots Q (F0 m 333 ls []) := by
  have hx := C.1
  have hb := C.2.1
  unfold lawOp_3 at h
  intro H locs ls hR hS hl
  refine lv_aload_n hx hb dL_law_333 rfl (lv_at hl 1 rfl) ?_
  refine lv_aload_n hx hb dL_law_334 rfl (lv_at hl 0 rfl) ?_
  refine lv_iload_n hx hb dL_law_335 rfl (lv_at hl 3 rfl) ?_
  refine lv_iconst (v := 1) hx hb dL_law_336 (by decide) ?_
  refine lv_iadd hx hb dL_law_337 ?_
  refine rl_ld C hX hbl hbA hS hi1 ha1 dL_law_338 ?_
  obtain ⟨qv2, zqe1, h⟩ := ob h
  refine rc_V C hR hS cf_X7_tear cv_X7_tear lk406 (ok_X7_tear zqe1) (ck_X7_tear zqe1) ⟨Nat.le_of_ble_eq_true rfl, Nat.le_of_ble_eq_true rfl⟩ hcs rfl rfl hl.1 (Nat.le_of_ble_eq_true rfl) dL_law_339 (rc_k1 (fun H locs hR hS => ?_))
  refine lv_aload_n hx hb dL_law_342 rfl (lv_at hl 2 rfl) ?_
  refine lv_aload_n hx hb dL_law_343 rfl (lv_at hl 0 rfl) ?_
  refine lv_iload_n hx hb dL_law_344 rfl (lv_at hl 3 rfl) ?_
  refine lv_iconst (v := 1) hx hb dL_law_345 (by decide) ?_
  refine lv_iadd hx hb dL_law_346 ?_
  refine rl_ld C hX hbl hbA hS hi1 ha1 dL_law_347 ?_
  obtain ⟨qv5, zqe4, h⟩ := ob h
  refine rc_V C hR hS cf_X8_tear cv_X8_tear lk1086 (ok_X8_tear zqe4) (ck_X8_tear zqe4) ⟨Nat.le_of_ble_eq_true rfl, Nat.le_of_ble_eq_true rfl⟩ hcs rfl rfl hl.1 (Nat.le_of_ble_eq_true rfl) dL_law_348 (rc_k1 (fun H locs hR hS => ?_))
  refine lv_icmp_eq (tgt := 1459) hx hb dL_law_351 (by decide) (fun c => ?_) (fun c => ?_)
  · have h := ip c h
    cases h
    exact hk _ _ _ hR hS hl
  · have h := iq c h
    refine lv_iconst (v := 0) hx hb dL_law_354 (by decide) ?_
    cases h
set_option maxHeartbeats 4000000 in
set_option maxRecDepth 100000 in
theorem law_c4 (C : Cx p s m args meth c RL cL_law 4 (some .boolean) D B ca st) (hX : va_X b L xs s s.heap) (hbl : b < s.heap.size) (hbA : ¬ AA B b) (hcs : cells ≤ room_1.cells ∧ slots ≤ room_1.slots) {a1 : Int32} (hi1 : vp_in (x3 + 1) L) (ha1 : xs (x3 + 1).toNatClampNeg = a1) {a2 : Int32} (hi2 : vp_in (x3 + 2) L) (ha2 : xs (x3 + 2).toNatClampNeg = a2) {a3 : Int32} (hi3 : vp_in (x3 + 3) L) (ha3 : xs (x3 + 3).toNatClampNeg = a3) {a4 : Int32} (hi4 : vp_in (x3 + 4) L) (ha4 : xs (x3 + 4).toNatClampNeg = a4) {a5 : Int32} (hi5 : vp_in (x3 + 5) L) (ha5 : xs (x3 + 5).toNatClampNeg = a5) {M M' : Mem} (h : lawOp_4 a1 a2 a3 a4 a5 M = some M') (hk : ∀ (H : Heap) (locs : List Loc) (ls : Array Slot), RH D B ca M' H → va_S (AA B) s.heap H locs → lv_has ls 4 [(0, .ref b), (1, .ref (B + 1)), (2, .ref (B + 65)), (3, .int x3)] → W p l e room_1 s m args below meth c H locs cells slots Q (F0 m 1459 ls [])) : ∀ {H : Heap} {locs : List Loc} {ls : Array Slot}, RH D B ca M H → va_S (AA B) s.heap H locs → lv_has ls 4 [(0, .ref b), (1, .ref (B + 1)), (2, .ref (B + 65)), (3, .int x3)] → W p l e room_1 s m args below meth c H locs cells slots Q (F0 m 356 ls []) := by
  have hx := C.1
  have hb := C.2.1
  unfold lawOp_4 at h
  intro H locs ls hR hS hl
  refine lv_aload_n hx hb dL_law_356 rfl (lv_at hl 1 rfl) ?_
  refine lv_aload_n hx hb dL_law_357 rfl (lv_at hl 0 rfl) ?_
  refine lv_iload_n hx hb dL_law_358 rfl (lv_at hl 3 rfl) ?_
  refine lv_iconst (v := 1) hx hb dL_law_359 (by decide) ?_
  refine lv_iadd hx hb dL_law_360 ?_
  refine rl_ld C hX hbl hbA hS hi1 ha1 dL_law_361 ?_
  refine lv_aload_n hx hb dL_law_362 rfl (lv_at hl 0 rfl) ?_
  refine lv_iload_n hx hb dL_law_363 rfl (lv_at hl 3 rfl) ?_
  refine lv_iconst (v := 2) hx hb dL_law_364 (by decide) ?_
  refine lv_iadd hx hb dL_law_365 ?_
  refine rl_ld C hX hbl hbA hS hi2 ha2 dL_law_366 ?_
  refine lv_aload_n hx hb dL_law_367 rfl (lv_at hl 0 rfl) ?_
  refine lv_iload_n hx hb dL_law_368 rfl (lv_at hl 3 rfl) ?_
  refine lv_iconst (v := 3) hx hb dL_law_369 (by decide) ?_
  refine lv_iadd hx hb dL_law_370 ?_
  refine rl_ld C hX hbl hbA hS hi3 ha3 dL_law_371 ?_
  refine lv_aload_n hx hb dL_law_372 rfl (lv_at hl 0 rfl) ?_
  refine lv_iload_n hx hb dL_law_373 rfl (lv_at hl 3 rfl) ?_
  refine lv_iconst (v := 4) hx hb dL_law_374 (by decide) ?_
  refine lv_iadd hx hb dL_law_375 ?_
  refine rl_ld C hX hbl hbA hS hi4 ha4 dL_law_376 ?_
  refine lv_aload_n hx hb dL_law_377 rfl (lv_at hl 0 rfl) ?_
  refine lv_iload_n hx hb dL_law_378 rfl (lv_at hl 3 rfl) ?_
  refine lv_iconst (v := 5) hx hb dL_law_379 (by decide) ?_
  refine lv_iadd hx hb dL_law_380 ?_
  refine rl_ld C hX hbl hbA hS hi5 ha5 dL_law_381 ?_
  obtain ⟨qv2, zqe1, h⟩ := ob h
  refine rc_V C hR hS cf_X7_copy cv_X7_copy lk410 (ok_X7_copy zqe1) (ck_X7_copy zqe1) ⟨Nat.le_of_ble_eq_true rfl, Nat.le_of_ble_eq_true rfl⟩ hcs rfl rfl hl.1 (Nat.le_of_ble_eq_true rfl) dL_law_382 (rc_k1 (fun H locs hR hS => ?_))
  refine lv_aload_n hx hb dL_law_385 rfl (lv_at hl 2 rfl) ?_
  refine lv_aload_n hx hb dL_law_386 rfl (lv_at hl 0 rfl) ?_
  refine lv_iload_n hx hb dL_law_387 rfl (lv_at hl 3 rfl) ?_
  refine lv_iconst (v := 1) hx hb dL_law_388 (by decide) ?_
  refine lv_iadd hx hb dL_law_389 ?_
  refine rl_ld C hX hbl hbA hS hi1 ha1 dL_law_390 ?_
  refine lv_aload_n hx hb dL_law_391 rfl (lv_at hl 0 rfl) ?_
  refine lv_iload_n hx hb dL_law_392 rfl (lv_at hl 3 rfl) ?_
  refine lv_iconst (v := 2) hx hb dL_law_393 (by decide) ?_
  refine lv_iadd hx hb dL_law_394 ?_
  refine rl_ld C hX hbl hbA hS hi2 ha2 dL_law_395 ?_
  refine lv_aload_n hx hb dL_law_396 rfl (lv_at hl 0 rfl) ?_
  refine lv_iload_n hx hb dL_law_397 rfl (lv_at hl 3 rfl) ?_
  refine lv_iconst (v := 3) hx hb dL_law_398 (by decide) ?_
  refine lv_iadd hx hb dL_law_399 ?_
  refine rl_ld C hX hbl hbA hS hi3 ha3 dL_law_400 ?_
  refine lv_aload_n hx hb dL_law_401 rfl (lv_at hl 0 rfl) ?_
  refine lv_iload_n hx hb dL_law_402 rfl (lv_at hl 3 rfl) ?_
  refine lv_iconst (v := 4) hx hb dL_law_403 (by decide) ?_
  refine lv_iadd hx hb dL_law_404 ?_
  refine rl_ld C hX hbl hbA hS hi4 ha4 dL_law_405 ?_
  refine lv_aload_n hx hb dL_law_406 rfl (lv_at hl 0 rfl) ?_
  refine lv_iload_n hx hb dL_law_407 rfl (lv_at hl 3 rfl) ?_
  refine lv_iconst (v := 5) hx hb dL_law_408 (by decide) ?_
  refine lv_iadd hx hb dL_law_409 ?_
  refine rl_ld C hX hbl hbA hS hi5 ha5 dL_law_410 ?_
  obtain ⟨qv5, zqe4, h⟩ := ob h
  refine rc_V C hR hS cf_X8_copy cv_X8_copy lk1090 (ok_X8_copy zqe4) (ck_X8_copy zqe4) ⟨Nat.le_of_ble_eq_true rfl, Nat.le_of_ble_eq_true rfl⟩ hcs rfl rfl hl.1 (Nat.le_of_ble_eq_true rfl) dL_law_411 (rc_k1 (fun H locs hR hS => ?_))
  refine lv_icmp_eq (tgt := 1459) hx hb dL_law_414 (by decide) (fun c => ?_) (fun c => ?_)
  · have h := ip c h
    cases h
    exact hk _ _ _ hR hS hl
  · have h := iq c h
    refine lv_iconst (v := 0) hx hb dL_law_417 (by decide) ?_
    cases h
set_option maxHeartbeats 4000000 in
set_option maxRecDepth 100000 in
theorem law_c5 (C : Cx p s m args meth c RL cL_law 4 (some .boolean) D B ca st) (hX : va_X b L xs s s.heap) (hbl : b < s.heap.size) (hbA : ¬ AA B b) (hcs : cells ≤ room_1.cells ∧ slots ≤ room_1.slots) {a1 : Int32} (hi1 : vp_in (x3 + 1) L) (ha1 : xs (x3 + 1).toNatClampNeg = a1) {M M' : Mem} (h : lawOp_5 a1 M = some M') (hk : ∀ (H : Heap) (locs : List Loc) (ls : Array Slot), RH D B ca M' H → va_S (AA B) s.heap H locs → lv_has ls 4 [(0, .ref b), (1, .ref (B + 1)), (2, .ref (B + 65)), (3, .int x3)] → W p l e room_1 s m args below meth c H locs cells slots Q (F0 m 1459 ls [])) : ∀ {H : Heap} {locs : List Loc} {ls : Array Slot}, RH D B ca M H → va_S (AA B) s.heap H locs → lv_has ls 4 [(0, .ref b), (1, .ref (B + 1)), (2, .ref (B + 65)), (3, .int x3)] → W p l e room_1 s m args below meth c H locs cells slots Q (F0 m 419 ls []) := by
  have hx := C.1
  have hb := C.2.1
  unfold lawOp_5 at h
  intro H locs ls hR hS hl
  refine lv_aload_n hx hb dL_law_419 rfl (lv_at hl 1 rfl) ?_
  refine lv_aload_n hx hb dL_law_420 rfl (lv_at hl 0 rfl) ?_
  refine lv_iload_n hx hb dL_law_421 rfl (lv_at hl 3 rfl) ?_
  refine lv_iconst (v := 1) hx hb dL_law_422 (by decide) ?_
  refine lv_iadd hx hb dL_law_423 ?_
  refine rl_ld C hX hbl hbA hS hi1 ha1 dL_law_424 ?_
  obtain ⟨qv2, zqe1, h⟩ := ob h
  refine rc_V C hR hS cf_X7_mean cv_X7_mean lk421 (ok_X7_mean zqe1) (ck_X7_mean zqe1) ⟨Nat.le_of_ble_eq_true rfl, Nat.le_of_ble_eq_true rfl⟩ hcs rfl rfl hl.1 (Nat.le_of_ble_eq_true rfl) dL_law_425 (rc_k1 (fun H locs hR hS => ?_))
  refine lv_aload_n hx hb dL_law_428 rfl (lv_at hl 2 rfl) ?_
  refine lv_aload_n hx hb dL_law_429 rfl (lv_at hl 0 rfl) ?_
  refine lv_iload_n hx hb dL_law_430 rfl (lv_at hl 3 rfl) ?_
  refine lv_iconst (v := 1) hx hb dL_law_431 (by decide) ?_
  refine lv_iadd hx hb dL_law_432 ?_
  refine rl_ld C hX hbl hbA hS hi1 ha1 dL_law_433 ?_
  obtain ⟨qv5, zqe4, h⟩ := ob h
  refine rc_V C hR hS cf_X8_mean cv_X8_mean lk1098 (ok_X8_mean zqe4) (ck_X8_mean zqe4) ⟨Nat.le_of_ble_eq_true rfl, Nat.le_of_ble_eq_true rfl⟩ hcs rfl rfl hl.1 (Nat.le_of_ble_eq_true rfl) dL_law_434 (rc_k1 (fun H locs hR hS => ?_))
  refine lv_icmp_eq (tgt := 1459) hx hb dL_law_437 (by decide) (fun c => ?_) (fun c => ?_)
  · have h := ip c h
    cases h
    exact hk _ _ _ hR hS hl
  · have h := iq c h
    refine lv_iconst (v := 0) hx hb dL_law_440 (by decide) ?_
    cases h
set_option maxHeartbeats 4000000 in
set_option maxRecDepth 100000 in
theorem law_c6 (C : Cx p s m args meth c RL cL_law 4 (some .boolean) D B ca st) (hX : va_X b L xs s s.heap) (hbl : b < s.heap.size) (hbA : ¬ AA B b) (hcs : cells ≤ room_1.cells ∧ slots ≤ room_1.slots) {a1 : Int32} (hi1 : vp_in (x3 + 1) L) (ha1 : xs (x3 + 1).toNatClampNeg = a1) {a2 : Int32} (hi2 : vp_in (x3 + 2) L) (ha2 : xs (x3 + 2).toNatClampNeg = a2) {M M' : Mem} (h : lawOp_6 a1 a2 M = some M') (hk : ∀ (H : Heap) (locs : List Loc) (ls : Array Slot), RH D B ca M' H → va_S (AA B) s.heap H locs → lv_has ls 4 [(0, .ref b), (1, .ref (B + 1)), (2, .ref (B + 65)), (3, .int x3)] → W p l e room_1 s m args below meth c H locs cells slots Q (F0 m 1459 ls [])) : ∀ {H : Heap} {locs : List Loc} {ls : Array Slot}, RH D B ca M H → va_S (AA B) s.heap H locs → lv_has ls 4 [(0, .ref b), (1, .ref (B + 1)), (2, .ref (B + 65)), (3, .int x3)] → W p l e room_1 s m args below meth c H locs cells slots Q (F0 m 442 ls []) := by
  have hx := C.1
  have hb := C.2.1
  unfold lawOp_6 at h
  intro H locs ls hR hS hl
  refine lv_aload_n hx hb dL_law_442 rfl (lv_at hl 1 rfl) ?_
  refine lv_aload_n hx hb dL_law_443 rfl (lv_at hl 0 rfl) ?_
  refine lv_iload_n hx hb dL_law_444 rfl (lv_at hl 3 rfl) ?_
  refine lv_iconst (v := 1) hx hb dL_law_445 (by decide) ?_
  refine lv_iadd hx hb dL_law_446 ?_
  refine rl_ld C hX hbl hbA hS hi1 ha1 dL_law_447 ?_
  refine lv_aload_n hx hb dL_law_448 rfl (lv_at hl 0 rfl) ?_
  refine lv_iload_n hx hb dL_law_449 rfl (lv_at hl 3 rfl) ?_
  refine lv_iconst (v := 2) hx hb dL_law_450 (by decide) ?_
  refine lv_iadd hx hb dL_law_451 ?_
  refine rl_ld C hX hbl hbA hS hi2 ha2 dL_law_452 ?_
  obtain ⟨qv2, zqe1, h⟩ := ob h
  refine rc_V C hR hS cf_X7_text cv_X7_text lk429 (ok_X7_text zqe1) (ck_X7_text zqe1) ⟨Nat.le_of_ble_eq_true rfl, Nat.le_of_ble_eq_true rfl⟩ hcs rfl rfl hl.1 (Nat.le_of_ble_eq_true rfl) dL_law_453 (rc_k1 (fun H locs hR hS => ?_))
  refine lv_aload_n hx hb dL_law_456 rfl (lv_at hl 2 rfl) ?_
  refine lv_aload_n hx hb dL_law_457 rfl (lv_at hl 0 rfl) ?_
  refine lv_iload_n hx hb dL_law_458 rfl (lv_at hl 3 rfl) ?_
  refine lv_iconst (v := 1) hx hb dL_law_459 (by decide) ?_
  refine lv_iadd hx hb dL_law_460 ?_
  refine rl_ld C hX hbl hbA hS hi1 ha1 dL_law_461 ?_
  refine lv_aload_n hx hb dL_law_462 rfl (lv_at hl 0 rfl) ?_
  refine lv_iload_n hx hb dL_law_463 rfl (lv_at hl 3 rfl) ?_
  refine lv_iconst (v := 2) hx hb dL_law_464 (by decide) ?_
  refine lv_iadd hx hb dL_law_465 ?_
  refine rl_ld C hX hbl hbA hS hi2 ha2 dL_law_466 ?_
  obtain ⟨qv5, zqe4, h⟩ := ob h
  refine rc_V C hR hS cf_X8_text cv_X8_text lk1102 (ok_X8_text zqe4) (ck_X8_text zqe4) ⟨Nat.le_of_ble_eq_true rfl, Nat.le_of_ble_eq_true rfl⟩ hcs rfl rfl hl.1 (Nat.le_of_ble_eq_true rfl) dL_law_467 (rc_k1 (fun H locs hR hS => ?_))
  refine lv_icmp_eq (tgt := 1459) hx hb dL_law_470 (by decide) (fun c => ?_) (fun c => ?_)
  · have h := ip c h
    cases h
    exact hk _ _ _ hR hS hl
  · have h := iq c h
    refine lv_iconst (v := 0) hx hb dL_law_473 (by decide) ?_
    cases h
set_option maxHeartbeats 4000000 in
set_option maxRecDepth 100000 in
theorem law_c7 (C : Cx p s m args meth c RL cL_law 4 (some .boolean) D B ca st) (hX : va_X b L xs s s.heap) (hbl : b < s.heap.size) (hbA : ¬ AA B b) (hcs : cells ≤ room_1.cells ∧ slots ≤ room_1.slots) {a1 : Int32} (hi1 : vp_in (x3 + 1) L) (ha1 : xs (x3 + 1).toNatClampNeg = a1) {a2 : Int32} (hi2 : vp_in (x3 + 2) L) (ha2 : xs (x3 + 2).toNatClampNeg = a2) {a3 : Int32} (hi3 : vp_in (x3 + 3) L) (ha3 : xs (x3 + 3).toNatClampNeg = a3) {M M' : Mem} (h : lawOp_7 a1 a2 a3 M = some M') (hk : ∀ (H : Heap) (locs : List Loc) (ls : Array Slot), RH D B ca M' H → va_S (AA B) s.heap H locs → lv_has ls 4 [(0, .ref b), (1, .ref (B + 1)), (2, .ref (B + 65)), (3, .int x3)] → W p l e room_1 s m args below meth c H locs cells slots Q (F0 m 1459 ls [])) : ∀ {H : Heap} {locs : List Loc} {ls : Array Slot}, RH D B ca M H → va_S (AA B) s.heap H locs → lv_has ls 4 [(0, .ref b), (1, .ref (B + 1)), (2, .ref (B + 65)), (3, .int x3)] → W p l e room_1 s m args below meth c H locs cells slots Q (F0 m 475 ls []) := by
  have hx := C.1
  have hb := C.2.1
  unfold lawOp_7 at h
  intro H locs ls hR hS hl
  refine lv_aload_n hx hb dL_law_475 rfl (lv_at hl 1 rfl) ?_
  refine lv_aload_n hx hb dL_law_476 rfl (lv_at hl 0 rfl) ?_
  refine lv_iload_n hx hb dL_law_477 rfl (lv_at hl 3 rfl) ?_
  refine lv_iconst (v := 1) hx hb dL_law_478 (by decide) ?_
  refine lv_iadd hx hb dL_law_479 ?_
  refine rl_ld C hX hbl hbA hS hi1 ha1 dL_law_480 ?_
  refine lv_aload_n hx hb dL_law_481 rfl (lv_at hl 0 rfl) ?_
  refine lv_iload_n hx hb dL_law_482 rfl (lv_at hl 3 rfl) ?_
  refine lv_iconst (v := 2) hx hb dL_law_483 (by decide) ?_
  refine lv_iadd hx hb dL_law_484 ?_
  refine rl_ld C hX hbl hbA hS hi2 ha2 dL_law_485 ?_
  refine lv_aload_n hx hb dL_law_486 rfl (lv_at hl 0 rfl) ?_
  refine lv_iload_n hx hb dL_law_487 rfl (lv_at hl 3 rfl) ?_
  refine lv_iconst (v := 3) hx hb dL_law_488 (by decide) ?_
  refine lv_iadd hx hb dL_law_489 ?_
  refine rl_ld C hX hbl hbA hS hi3 ha3 dL_law_490 ?_
  obtain ⟨qv2, zqe1, h⟩ := ob h
  refine rc_V C hR hS cf_X7_put cv_X7_put lk444 (ok_X7_put zqe1) (ck_X7_put zqe1) ⟨Nat.le_of_ble_eq_true rfl, Nat.le_of_ble_eq_true rfl⟩ hcs rfl rfl hl.1 (Nat.le_of_ble_eq_true rfl) dL_law_491 (rc_k1 (fun H locs hR hS => ?_))
  refine lv_aload_n hx hb dL_law_494 rfl (lv_at hl 2 rfl) ?_
  refine lv_aload_n hx hb dL_law_495 rfl (lv_at hl 0 rfl) ?_
  refine lv_iload_n hx hb dL_law_496 rfl (lv_at hl 3 rfl) ?_
  refine lv_iconst (v := 1) hx hb dL_law_497 (by decide) ?_
  refine lv_iadd hx hb dL_law_498 ?_
  refine rl_ld C hX hbl hbA hS hi1 ha1 dL_law_499 ?_
  refine lv_aload_n hx hb dL_law_500 rfl (lv_at hl 0 rfl) ?_
  refine lv_iload_n hx hb dL_law_501 rfl (lv_at hl 3 rfl) ?_
  refine lv_iconst (v := 2) hx hb dL_law_502 (by decide) ?_
  refine lv_iadd hx hb dL_law_503 ?_
  refine rl_ld C hX hbl hbA hS hi2 ha2 dL_law_504 ?_
  refine lv_aload_n hx hb dL_law_505 rfl (lv_at hl 0 rfl) ?_
  refine lv_iload_n hx hb dL_law_506 rfl (lv_at hl 3 rfl) ?_
  refine lv_iconst (v := 3) hx hb dL_law_507 (by decide) ?_
  refine lv_iadd hx hb dL_law_508 ?_
  refine rl_ld C hX hbl hbA hS hi3 ha3 dL_law_509 ?_
  obtain ⟨qv5, zqe4, h⟩ := ob h
  refine rc_V C hR hS cf_X8_put cv_X8_put lk1110 (ok_X8_put zqe4) (ck_X8_put zqe4) ⟨Nat.le_of_ble_eq_true rfl, Nat.le_of_ble_eq_true rfl⟩ hcs rfl rfl hl.1 (Nat.le_of_ble_eq_true rfl) dL_law_510 (rc_k1 (fun H locs hR hS => ?_))
  refine lv_icmp_eq (tgt := 1459) hx hb dL_law_513 (by decide) (fun c => ?_) (fun c => ?_)
  · have h := ip c h
    cases h
    exact hk _ _ _ hR hS hl
  · have h := iq c h
    refine lv_iconst (v := 0) hx hb dL_law_516 (by decide) ?_
    cases h
set_option maxHeartbeats 4000000 in
set_option maxRecDepth 100000 in
theorem law_c8 (C : Cx p s m args meth c RL cL_law 4 (some .boolean) D B ca st) (hX : va_X b L xs s s.heap) (hbl : b < s.heap.size) (hbA : ¬ AA B b) (hcs : cells ≤ room_1.cells ∧ slots ≤ room_1.slots) {a1 : Int32} (hi1 : vp_in (x3 + 1) L) (ha1 : xs (x3 + 1).toNatClampNeg = a1) {M M' : Mem} (h : lawOp_8 a1 M = some M') (hk : ∀ (H : Heap) (locs : List Loc) (ls : Array Slot), RH D B ca M' H → va_S (AA B) s.heap H locs → lv_has ls 4 [(0, .ref b), (1, .ref (B + 1)), (2, .ref (B + 65)), (3, .int x3)] → W p l e room_1 s m args below meth c H locs cells slots Q (F0 m 1459 ls [])) : ∀ {H : Heap} {locs : List Loc} {ls : Array Slot}, RH D B ca M H → va_S (AA B) s.heap H locs → lv_has ls 4 [(0, .ref b), (1, .ref (B + 1)), (2, .ref (B + 65)), (3, .int x3)] → W p l e room_1 s m args below meth c H locs cells slots Q (F0 m 518 ls []) := by
  have hx := C.1
  have hb := C.2.1
  unfold lawOp_8 at h
  intro H locs ls hR hS hl
  refine lv_aload_n hx hb dL_law_518 rfl (lv_at hl 1 rfl) ?_
  refine lv_aload_n hx hb dL_law_519 rfl (lv_at hl 0 rfl) ?_
  refine lv_iload_n hx hb dL_law_520 rfl (lv_at hl 3 rfl) ?_
  refine lv_iconst (v := 1) hx hb dL_law_521 (by decide) ?_
  refine lv_iadd hx hb dL_law_522 ?_
  refine rl_ld C hX hbl hbA hS hi1 ha1 dL_law_523 ?_
  obtain ⟨qv2, zqe1, h⟩ := ob h
  refine rc_V C hR hS cf_X7_fault cv_X7_fault lk456 (ok_X7_fault zqe1) (ck_X7_fault zqe1) ⟨Nat.le_of_ble_eq_true rfl, Nat.le_of_ble_eq_true rfl⟩ hcs rfl rfl hl.1 (Nat.le_of_ble_eq_true rfl) dL_law_524 (rc_k1 (fun H locs hR hS => ?_))
  refine lv_aload_n hx hb dL_law_527 rfl (lv_at hl 2 rfl) ?_
  refine lv_aload_n hx hb dL_law_528 rfl (lv_at hl 0 rfl) ?_
  refine lv_iload_n hx hb dL_law_529 rfl (lv_at hl 3 rfl) ?_
  refine lv_iconst (v := 1) hx hb dL_law_530 (by decide) ?_
  refine lv_iadd hx hb dL_law_531 ?_
  refine rl_ld C hX hbl hbA hS hi1 ha1 dL_law_532 ?_
  obtain ⟨qv5, zqe4, h⟩ := ob h
  refine rc_V C hR hS cf_X8_fault cv_X8_fault lk1114 (ok_X8_fault zqe4) (ck_X8_fault zqe4) ⟨Nat.le_of_ble_eq_true rfl, Nat.le_of_ble_eq_true rfl⟩ hcs rfl rfl hl.1 (Nat.le_of_ble_eq_true rfl) dL_law_533 (rc_k1 (fun H locs hR hS => ?_))
  refine lv_icmp_eq (tgt := 1459) hx hb dL_law_536 (by decide) (fun c => ?_) (fun c => ?_)
  · have h := ip c h
    cases h
    exact hk _ _ _ hR hS hl
  · have h := iq c h
    refine lv_iconst (v := 0) hx hb dL_law_539 (by decide) ?_
    cases h
set_option maxHeartbeats 4000000 in
set_option maxRecDepth 100000 in
theorem law_c9 (C : Cx p s m args meth c RL cL_law 4 (some .boolean) D B ca st) (hX : va_X b L xs s s.heap) (hbl : b < s.heap.size) (hbA : ¬ AA B b) (hcs : cells ≤ room_1.cells ∧ slots ≤ room_1.slots) {a1 : Int32} (hi1 : vp_in (x3 + 1) L) (ha1 : xs (x3 + 1).toNatClampNeg = a1) {M M' : Mem} (h : lawOp_9 a1 M = some M') (hk : ∀ (H : Heap) (locs : List Loc) (ls : Array Slot), RH D B ca M' H → va_S (AA B) s.heap H locs → lv_has ls 4 [(0, .ref b), (1, .ref (B + 1)), (2, .ref (B + 65)), (3, .int x3)] → W p l e room_1 s m args below meth c H locs cells slots Q (F0 m 1459 ls [])) : ∀ {H : Heap} {locs : List Loc} {ls : Array Slot}, RH D B ca M H → va_S (AA B) s.heap H locs → lv_has ls 4 [(0, .ref b), (1, .ref (B + 1)), (2, .ref (B + 65)), (3, .int x3)] → W p l e room_1 s m args below meth c H locs cells slots Q (F0 m 541 ls []) := by
  have hx := C.1
  have hb := C.2.1
  unfold lawOp_9 at h
  intro H locs ls hR hS hl
  refine lv_aload_n hx hb dL_law_541 rfl (lv_at hl 1 rfl) ?_
  refine lv_aload_n hx hb dL_law_542 rfl (lv_at hl 0 rfl) ?_
  refine lv_iload_n hx hb dL_law_543 rfl (lv_at hl 3 rfl) ?_
  refine lv_iconst (v := 1) hx hb dL_law_544 (by decide) ?_
  refine lv_iadd hx hb dL_law_545 ?_
  refine rl_ld C hX hbl hbA hS hi1 ha1 dL_law_546 ?_
  obtain ⟨qv2, zqe1, h⟩ := ob h
  refine rc_V C hR hS cf_X7_guild cv_X7_guild lk524 (ok_X7_guild zqe1) (ck_X7_guild zqe1) ⟨Nat.le_of_ble_eq_true rfl, Nat.le_of_ble_eq_true rfl⟩ hcs rfl rfl hl.1 (Nat.le_of_ble_eq_true rfl) dL_law_547 (rc_k1 (fun H locs hR hS => ?_))
  refine lv_aload_n hx hb dL_law_550 rfl (lv_at hl 2 rfl) ?_
  refine lv_aload_n hx hb dL_law_551 rfl (lv_at hl 0 rfl) ?_
  refine lv_iload_n hx hb dL_law_552 rfl (lv_at hl 3 rfl) ?_
  refine lv_iconst (v := 1) hx hb dL_law_553 (by decide) ?_
  refine lv_iadd hx hb dL_law_554 ?_
  refine rl_ld C hX hbl hbA hS hi1 ha1 dL_law_555 ?_
  obtain ⟨qv5, zqe4, h⟩ := ob h
  refine rc_V C hR hS cf_X8_guild cv_X8_guild lk1145 (ok_X8_guild zqe4) (ck_X8_guild zqe4) ⟨Nat.le_of_ble_eq_true rfl, Nat.le_of_ble_eq_true rfl⟩ hcs rfl rfl hl.1 (Nat.le_of_ble_eq_true rfl) dL_law_556 (rc_k1 (fun H locs hR hS => ?_))
  refine lv_icmp_eq (tgt := 1459) hx hb dL_law_559 (by decide) (fun c => ?_) (fun c => ?_)
  · have h := ip c h
    cases h
    exact hk _ _ _ hR hS hl
  · have h := iq c h
    refine lv_iconst (v := 0) hx hb dL_law_562 (by decide) ?_
    cases h
set_option maxHeartbeats 4000000 in
set_option maxRecDepth 100000 in
theorem law_c10 (C : Cx p s m args meth c RL cL_law 4 (some .boolean) D B ca st) (hX : va_X b L xs s s.heap) (hbl : b < s.heap.size) (hbA : ¬ AA B b) (hcs : cells ≤ room_1.cells ∧ slots ≤ room_1.slots) {a1 : Int32} (hi1 : vp_in (x3 + 1) L) (ha1 : xs (x3 + 1).toNatClampNeg = a1) {a2 : Int32} (hi2 : vp_in (x3 + 2) L) (ha2 : xs (x3 + 2).toNatClampNeg = a2) {M M' : Mem} (h : lawOp_10 a1 a2 M = some M') (hk : ∀ (H : Heap) (locs : List Loc) (ls : Array Slot), RH D B ca M' H → va_S (AA B) s.heap H locs → lv_has ls 4 [(0, .ref b), (1, .ref (B + 1)), (2, .ref (B + 65)), (3, .int x3)] → W p l e room_1 s m args below meth c H locs cells slots Q (F0 m 1459 ls [])) : ∀ {H : Heap} {locs : List Loc} {ls : Array Slot}, RH D B ca M H → va_S (AA B) s.heap H locs → lv_has ls 4 [(0, .ref b), (1, .ref (B + 1)), (2, .ref (B + 65)), (3, .int x3)] → W p l e room_1 s m args below meth c H locs cells slots Q (F0 m 564 ls []) := by
  have hx := C.1
  have hb := C.2.1
  unfold lawOp_10 at h
  intro H locs ls hR hS hl
  refine lv_aload_n hx hb dL_law_564 rfl (lv_at hl 1 rfl) ?_
  refine lv_aload_n hx hb dL_law_565 rfl (lv_at hl 0 rfl) ?_
  refine lv_iload_n hx hb dL_law_566 rfl (lv_at hl 3 rfl) ?_
  refine lv_iconst (v := 1) hx hb dL_law_567 (by decide) ?_
  refine lv_iadd hx hb dL_law_568 ?_
  refine rl_ld C hX hbl hbA hS hi1 ha1 dL_law_569 ?_
  refine lv_aload_n hx hb dL_law_570 rfl (lv_at hl 0 rfl) ?_
  refine lv_iload_n hx hb dL_law_571 rfl (lv_at hl 3 rfl) ?_
  refine lv_iconst (v := 2) hx hb dL_law_572 (by decide) ?_
  refine lv_iadd hx hb dL_law_573 ?_
  refine rl_ld C hX hbl hbA hS hi2 ha2 dL_law_574 ?_
  obtain ⟨qv2, zqe1, h⟩ := ob h
  refine rc_V C hR hS cf_X7_sigher cv_X7_sigher lk534 (ok_X7_sigher zqe1) (ck_X7_sigher zqe1) ⟨Nat.le_of_ble_eq_true rfl, Nat.le_of_ble_eq_true rfl⟩ hcs rfl rfl hl.1 (Nat.le_of_ble_eq_true rfl) dL_law_575 (rc_k1 (fun H locs hR hS => ?_))
  refine lv_aload_n hx hb dL_law_578 rfl (lv_at hl 2 rfl) ?_
  refine lv_aload_n hx hb dL_law_579 rfl (lv_at hl 0 rfl) ?_
  refine lv_iload_n hx hb dL_law_580 rfl (lv_at hl 3 rfl) ?_
  refine lv_iconst (v := 1) hx hb dL_law_581 (by decide) ?_
  refine lv_iadd hx hb dL_law_582 ?_
  refine rl_ld C hX hbl hbA hS hi1 ha1 dL_law_583 ?_
  refine lv_aload_n hx hb dL_law_584 rfl (lv_at hl 0 rfl) ?_
  refine lv_iload_n hx hb dL_law_585 rfl (lv_at hl 3 rfl) ?_
  refine lv_iconst (v := 2) hx hb dL_law_586 (by decide) ?_
  refine lv_iadd hx hb dL_law_587 ?_
  refine rl_ld C hX hbl hbA hS hi2 ha2 dL_law_588 ?_
  obtain ⟨qv5, zqe4, h⟩ := ob h
  refine rc_V C hR hS cf_X8_sigher cv_X8_sigher lk1149 (ok_X8_sigher zqe4) (ck_X8_sigher zqe4) ⟨Nat.le_of_ble_eq_true rfl, Nat.le_of_ble_eq_true rfl⟩ hcs rfl rfl hl.1 (Nat.le_of_ble_eq_true rfl) dL_law_589 (rc_k1 (fun H locs hR hS => ?_))
  refine lv_icmp_eq (tgt := 1459) hx hb dL_law_592 (by decide) (fun c => ?_) (fun c => ?_)
  · have h := ip c h
    cases h
    exact hk _ _ _ hR hS hl
  · have h := iq c h
    refine lv_iconst (v := 0) hx hb dL_law_595 (by decide) ?_
    cases h
set_option maxHeartbeats 4000000 in
set_option maxRecDepth 100000 in
theorem law_c11 (C : Cx p s m args meth c RL cL_law 4 (some .boolean) D B ca st) (hX : va_X b L xs s s.heap) (hbl : b < s.heap.size) (hbA : ¬ AA B b) (hcs : cells ≤ room_1.cells ∧ slots ≤ room_1.slots) {a1 : Int32} (hi1 : vp_in (x3 + 1) L) (ha1 : xs (x3 + 1).toNatClampNeg = a1) {a2 : Int32} (hi2 : vp_in (x3 + 2) L) (ha2 : xs (x3 + 2).toNatClampNeg = a2) {M M' : Mem} (h : lawOp_11 a1 a2 M = some M') (hk : ∀ (H : Heap) (locs : List Loc) (ls : Array Slot), RH D B ca M' H → va_S (AA B) s.heap H locs → lv_has ls 4 [(0, .ref b), (1, .ref (B + 1)), (2, .ref (B + 65)), (3, .int x3)] → W p l e room_1 s m args below meth c H locs cells slots Q (F0 m 1459 ls [])) : ∀ {H : Heap} {locs : List Loc} {ls : Array Slot}, RH D B ca M H → va_S (AA B) s.heap H locs → lv_has ls 4 [(0, .ref b), (1, .ref (B + 1)), (2, .ref (B + 65)), (3, .int x3)] → W p l e room_1 s m args below meth c H locs cells slots Q (F0 m 597 ls []) := by
  have hx := C.1
  have hb := C.2.1
  unfold lawOp_11 at h
  intro H locs ls hR hS hl
  refine lv_aload_n hx hb dL_law_597 rfl (lv_at hl 1 rfl) ?_
  refine lv_aload_n hx hb dL_law_598 rfl (lv_at hl 0 rfl) ?_
  refine lv_iload_n hx hb dL_law_599 rfl (lv_at hl 3 rfl) ?_
  refine lv_iconst (v := 1) hx hb dL_law_600 (by decide) ?_
  refine lv_iadd hx hb dL_law_601 ?_
  refine rl_ld C hX hbl hbA hS hi1 ha1 dL_law_602 ?_
  refine lv_aload_n hx hb dL_law_603 rfl (lv_at hl 0 rfl) ?_
  refine lv_iload_n hx hb dL_law_604 rfl (lv_at hl 3 rfl) ?_
  refine lv_iconst (v := 2) hx hb dL_law_605 (by decide) ?_
  refine lv_iadd hx hb dL_law_606 ?_
  refine rl_ld C hX hbl hbA hS hi2 ha2 dL_law_607 ?_
  obtain ⟨qv2, zqe1, h⟩ := ob h
  refine rc_V C hR hS cf_X7_order cv_X7_order lk571 (ok_X7_order zqe1) (ck_X7_order zqe1) ⟨Nat.le_of_ble_eq_true rfl, Nat.le_of_ble_eq_true rfl⟩ hcs rfl rfl hl.1 (Nat.le_of_ble_eq_true rfl) dL_law_608 (rc_k1 (fun H locs hR hS => ?_))
  refine lv_aload_n hx hb dL_law_611 rfl (lv_at hl 2 rfl) ?_
  refine lv_aload_n hx hb dL_law_612 rfl (lv_at hl 0 rfl) ?_
  refine lv_iload_n hx hb dL_law_613 rfl (lv_at hl 3 rfl) ?_
  refine lv_iconst (v := 1) hx hb dL_law_614 (by decide) ?_
  refine lv_iadd hx hb dL_law_615 ?_
  refine rl_ld C hX hbl hbA hS hi1 ha1 dL_law_616 ?_
  refine lv_aload_n hx hb dL_law_617 rfl (lv_at hl 0 rfl) ?_
  refine lv_iload_n hx hb dL_law_618 rfl (lv_at hl 3 rfl) ?_
  refine lv_iconst (v := 2) hx hb dL_law_619 (by decide) ?_
  refine lv_iadd hx hb dL_law_620 ?_
  refine rl_ld C hX hbl hbA hS hi2 ha2 dL_law_621 ?_
  obtain ⟨qv5, zqe4, h⟩ := ob h
  refine rc_V C hR hS cf_X8_order cv_X8_order lk1182 (ok_X8_order zqe4) (ck_X8_order zqe4) ⟨Nat.le_of_ble_eq_true rfl, Nat.le_of_ble_eq_true rfl⟩ hcs rfl rfl hl.1 (Nat.le_of_ble_eq_true rfl) dL_law_622 (rc_k1 (fun H locs hR hS => ?_))
  refine lv_icmp_eq (tgt := 1459) hx hb dL_law_625 (by decide) (fun c => ?_) (fun c => ?_)
  · have h := ip c h
    cases h
    exact hk _ _ _ hR hS hl
  · have h := iq c h
    refine lv_iconst (v := 0) hx hb dL_law_628 (by decide) ?_
    cases h
set_option maxHeartbeats 4000000 in
set_option maxRecDepth 100000 in
theorem law_c12 (C : Cx p s m args meth c RL cL_law 4 (some .boolean) D B ca st) (hX : va_X b L xs s s.heap) (hbl : b < s.heap.size) (hbA : ¬ AA B b) (hcs : cells ≤ room_1.cells ∧ slots ≤ room_1.slots) {a1 : Int32} (hi1 : vp_in (x3 + 1) L) (ha1 : xs (x3 + 1).toNatClampNeg = a1) {a2 : Int32} (hi2 : vp_in (x3 + 2) L) (ha2 : xs (x3 + 2).toNatClampNeg = a2) {M M' : Mem} (h : lawOp_12 a1 a2 M = some M') (hk : ∀ (H : Heap) (locs : List Loc) (ls : Array Slot), RH D B ca M' H → va_S (AA B) s.heap H locs → lv_has ls 4 [(0, .ref b), (1, .ref (B + 1)), (2, .ref (B + 65)), (3, .int x3)] → W p l e room_1 s m args below meth c H locs cells slots Q (F0 m 1459 ls [])) : ∀ {H : Heap} {locs : List Loc} {ls : Array Slot}, RH D B ca M H → va_S (AA B) s.heap H locs → lv_has ls 4 [(0, .ref b), (1, .ref (B + 1)), (2, .ref (B + 65)), (3, .int x3)] → W p l e room_1 s m args below meth c H locs cells slots Q (F0 m 630 ls []) := by
  have hx := C.1
  have hb := C.2.1
  unfold lawOp_12 at h
  intro H locs ls hR hS hl
  refine lv_aload_n hx hb dL_law_630 rfl (lv_at hl 1 rfl) ?_
  refine lv_aload_n hx hb dL_law_631 rfl (lv_at hl 0 rfl) ?_
  refine lv_iload_n hx hb dL_law_632 rfl (lv_at hl 3 rfl) ?_
  refine lv_iconst (v := 1) hx hb dL_law_633 (by decide) ?_
  refine lv_iadd hx hb dL_law_634 ?_
  refine rl_ld C hX hbl hbA hS hi1 ha1 dL_law_635 ?_
  refine lv_aload_n hx hb dL_law_636 rfl (lv_at hl 0 rfl) ?_
  refine lv_iload_n hx hb dL_law_637 rfl (lv_at hl 3 rfl) ?_
  refine lv_iconst (v := 2) hx hb dL_law_638 (by decide) ?_
  refine lv_iadd hx hb dL_law_639 ?_
  refine rl_ld C hX hbl hbA hS hi2 ha2 dL_law_640 ?_
  obtain ⟨qv2, zqe1, h⟩ := ob h
  refine rc_V C hR hS cf_X7_mark cv_X7_mark lk585 (ok_X7_mark zqe1) (ck_X7_mark zqe1) ⟨Nat.le_of_ble_eq_true rfl, Nat.le_of_ble_eq_true rfl⟩ hcs rfl rfl hl.1 (Nat.le_of_ble_eq_true rfl) dL_law_641 (rc_k1 (fun H locs hR hS => ?_))
  refine lv_aload_n hx hb dL_law_644 rfl (lv_at hl 2 rfl) ?_
  refine lv_aload_n hx hb dL_law_645 rfl (lv_at hl 0 rfl) ?_
  refine lv_iload_n hx hb dL_law_646 rfl (lv_at hl 3 rfl) ?_
  refine lv_iconst (v := 1) hx hb dL_law_647 (by decide) ?_
  refine lv_iadd hx hb dL_law_648 ?_
  refine rl_ld C hX hbl hbA hS hi1 ha1 dL_law_649 ?_
  refine lv_aload_n hx hb dL_law_650 rfl (lv_at hl 0 rfl) ?_
  refine lv_iload_n hx hb dL_law_651 rfl (lv_at hl 3 rfl) ?_
  refine lv_iconst (v := 2) hx hb dL_law_652 (by decide) ?_
  refine lv_iadd hx hb dL_law_653 ?_
  refine rl_ld C hX hbl hbA hS hi2 ha2 dL_law_654 ?_
  obtain ⟨qv5, zqe4, h⟩ := ob h
  refine rc_V C hR hS cf_X8_mark cv_X8_mark lk1194 (ok_X8_mark zqe4) (ck_X8_mark zqe4) ⟨Nat.le_of_ble_eq_true rfl, Nat.le_of_ble_eq_true rfl⟩ hcs rfl rfl hl.1 (Nat.le_of_ble_eq_true rfl) dL_law_655 (rc_k1 (fun H locs hR hS => ?_))
  refine lv_icmp_eq (tgt := 1459) hx hb dL_law_658 (by decide) (fun c => ?_) (fun c => ?_)
  · have h := ip c h
    cases h
    exact hk _ _ _ hR hS hl
  · have h := iq c h
    refine lv_iconst (v := 0) hx hb dL_law_661 (by decide) ?_
    cases h
set_option maxHeartbeats 4000000 in
set_option maxRecDepth 100000 in
theorem law_c13 (C : Cx p s m args meth c RL cL_law 4 (some .boolean) D B ca st) (hX : va_X b L xs s s.heap) (hbl : b < s.heap.size) (hbA : ¬ AA B b) (hcs : cells ≤ room_1.cells ∧ slots ≤ room_1.slots) {a1 : Int32} (hi1 : vp_in (x3 + 1) L) (ha1 : xs (x3 + 1).toNatClampNeg = a1) {a2 : Int32} (hi2 : vp_in (x3 + 2) L) (ha2 : xs (x3 + 2).toNatClampNeg = a2) {M M' : Mem} (h : lawOp_13 a1 a2 M = some M') (hk : ∀ (H : Heap) (locs : List Loc) (ls : Array Slot), RH D B ca M' H → va_S (AA B) s.heap H locs → lv_has ls 4 [(0, .ref b), (1, .ref (B + 1)), (2, .ref (B + 65)), (3, .int x3)] → W p l e room_1 s m args below meth c H locs cells slots Q (F0 m 1459 ls [])) : ∀ {H : Heap} {locs : List Loc} {ls : Array Slot}, RH D B ca M H → va_S (AA B) s.heap H locs → lv_has ls 4 [(0, .ref b), (1, .ref (B + 1)), (2, .ref (B + 65)), (3, .int x3)] → W p l e room_1 s m args below meth c H locs cells slots Q (F0 m 663 ls []) := by
  have hx := C.1
  have hb := C.2.1
  unfold lawOp_13 at h
  intro H locs ls hR hS hl
  refine lv_aload_n hx hb dL_law_663 rfl (lv_at hl 1 rfl) ?_
  refine lv_aload_n hx hb dL_law_664 rfl (lv_at hl 0 rfl) ?_
  refine lv_iload_n hx hb dL_law_665 rfl (lv_at hl 3 rfl) ?_
  refine lv_iconst (v := 1) hx hb dL_law_666 (by decide) ?_
  refine lv_iadd hx hb dL_law_667 ?_
  refine rl_ld C hX hbl hbA hS hi1 ha1 dL_law_668 ?_
  refine lv_aload_n hx hb dL_law_669 rfl (lv_at hl 0 rfl) ?_
  refine lv_iload_n hx hb dL_law_670 rfl (lv_at hl 3 rfl) ?_
  refine lv_iconst (v := 2) hx hb dL_law_671 (by decide) ?_
  refine lv_iadd hx hb dL_law_672 ?_
  refine rl_ld C hX hbl hbA hS hi2 ha2 dL_law_673 ?_
  obtain ⟨qv2, zqe1, h⟩ := ob h
  refine rc_V C hR hS cf_X7_walk cv_X7_walk lk598 (ok_X7_walk zqe1) (ck_X7_walk zqe1) ⟨Nat.le_of_ble_eq_true rfl, Nat.le_of_ble_eq_true rfl⟩ hcs rfl rfl hl.1 (Nat.le_of_ble_eq_true rfl) dL_law_674 (rc_k1 (fun H locs hR hS => ?_))
  refine lv_aload_n hx hb dL_law_677 rfl (lv_at hl 2 rfl) ?_
  refine lv_aload_n hx hb dL_law_678 rfl (lv_at hl 0 rfl) ?_
  refine lv_iload_n hx hb dL_law_679 rfl (lv_at hl 3 rfl) ?_
  refine lv_iconst (v := 1) hx hb dL_law_680 (by decide) ?_
  refine lv_iadd hx hb dL_law_681 ?_
  refine rl_ld C hX hbl hbA hS hi1 ha1 dL_law_682 ?_
  refine lv_aload_n hx hb dL_law_683 rfl (lv_at hl 0 rfl) ?_
  refine lv_iload_n hx hb dL_law_684 rfl (lv_at hl 3 rfl) ?_
  refine lv_iconst (v := 2) hx hb dL_law_685 (by decide) ?_
  refine lv_iadd hx hb dL_law_686 ?_
  refine rl_ld C hX hbl hbA hS hi2 ha2 dL_law_687 ?_
  obtain ⟨qv5, zqe4, h⟩ := ob h
  refine rc_V C hR hS cf_X8_walk cv_X8_walk lk1216 (ok_X8_walk zqe4) (ck_X8_walk zqe4) ⟨Nat.le_of_ble_eq_true rfl, Nat.le_of_ble_eq_true rfl⟩ hcs rfl rfl hl.1 (Nat.le_of_ble_eq_true rfl) dL_law_688 (rc_k1 (fun H locs hR hS => ?_))
  refine lv_icmp_eq (tgt := 1459) hx hb dL_law_691 (by decide) (fun c => ?_) (fun c => ?_)
  · have h := ip c h
    cases h
    exact hk _ _ _ hR hS hl
  · have h := iq c h
    refine lv_iconst (v := 0) hx hb dL_law_694 (by decide) ?_
    cases h
set_option maxHeartbeats 4000000 in
set_option maxRecDepth 100000 in
theorem law_c14 (C : Cx p s m args meth c RL cL_law 4 (some .boolean) D B ca st) (hX : va_X b L xs s s.heap) (hbl : b < s.heap.size) (hbA : ¬ AA B b) (hcs : cells ≤ room_1.cells ∧ slots ≤ room_1.slots) {a1 : Int32} (hi1 : vp_in (x3 + 1) L) (ha1 : xs (x3 + 1).toNatClampNeg = a1) {a2 : Int32} (hi2 : vp_in (x3 + 2) L) (ha2 : xs (x3 + 2).toNatClampNeg = a2) {M M' : Mem} (h : lawOp_14 a1 a2 M = some M') (hk : ∀ (H : Heap) (locs : List Loc) (ls : Array Slot), RH D B ca M' H → va_S (AA B) s.heap H locs → lv_has ls 4 [(0, .ref b), (1, .ref (B + 1)), (2, .ref (B + 65)), (3, .int x3)] → W p l e room_1 s m args below meth c H locs cells slots Q (F0 m 1459 ls [])) : ∀ {H : Heap} {locs : List Loc} {ls : Array Slot}, RH D B ca M H → va_S (AA B) s.heap H locs → lv_has ls 4 [(0, .ref b), (1, .ref (B + 1)), (2, .ref (B + 65)), (3, .int x3)] → W p l e room_1 s m args below meth c H locs cells slots Q (F0 m 696 ls []) := by
  have hx := C.1
  have hb := C.2.1
  unfold lawOp_14 at h
  intro H locs ls hR hS hl
  refine lv_aload_n hx hb dL_law_696 rfl (lv_at hl 1 rfl) ?_
  refine lv_aload_n hx hb dL_law_697 rfl (lv_at hl 0 rfl) ?_
  refine lv_iload_n hx hb dL_law_698 rfl (lv_at hl 3 rfl) ?_
  refine lv_iconst (v := 1) hx hb dL_law_699 (by decide) ?_
  refine lv_iadd hx hb dL_law_700 ?_
  refine rl_ld C hX hbl hbA hS hi1 ha1 dL_law_701 ?_
  refine lv_aload_n hx hb dL_law_702 rfl (lv_at hl 0 rfl) ?_
  refine lv_iload_n hx hb dL_law_703 rfl (lv_at hl 3 rfl) ?_
  refine lv_iconst (v := 2) hx hb dL_law_704 (by decide) ?_
  refine lv_iadd hx hb dL_law_705 ?_
  refine rl_ld C hX hbl hbA hS hi2 ha2 dL_law_706 ?_
  obtain ⟨qv2, zqe1, h⟩ := ob h
  refine rc_V C hR hS cf_X7_sigh cv_X7_sigh lk643 (ok_X7_sigh zqe1) (ck_X7_sigh zqe1) ⟨Nat.le_of_ble_eq_true rfl, Nat.le_of_ble_eq_true rfl⟩ hcs rfl rfl hl.1 (Nat.le_of_ble_eq_true rfl) dL_law_707 (rc_k1 (fun H locs hR hS => ?_))
  refine lv_aload_n hx hb dL_law_710 rfl (lv_at hl 2 rfl) ?_
  refine lv_aload_n hx hb dL_law_711 rfl (lv_at hl 0 rfl) ?_
  refine lv_iload_n hx hb dL_law_712 rfl (lv_at hl 3 rfl) ?_
  refine lv_iconst (v := 1) hx hb dL_law_713 (by decide) ?_
  refine lv_iadd hx hb dL_law_714 ?_
  refine rl_ld C hX hbl hbA hS hi1 ha1 dL_law_715 ?_
  refine lv_aload_n hx hb dL_law_716 rfl (lv_at hl 0 rfl) ?_
  refine lv_iload_n hx hb dL_law_717 rfl (lv_at hl 3 rfl) ?_
  refine lv_iconst (v := 2) hx hb dL_law_718 (by decide) ?_
  refine lv_iadd hx hb dL_law_719 ?_
  refine rl_ld C hX hbl hbA hS hi2 ha2 dL_law_720 ?_
  obtain ⟨qv5, zqe4, h⟩ := ob h
  refine rc_V C hR hS cf_X8_sigh cv_X8_sigh lk1228 (ok_X8_sigh zqe4) (ck_X8_sigh zqe4) ⟨Nat.le_of_ble_eq_true rfl, Nat.le_of_ble_eq_true rfl⟩ hcs rfl rfl hl.1 (Nat.le_of_ble_eq_true rfl) dL_law_721 (rc_k1 (fun H locs hR hS => ?_))
  refine lv_icmp_eq (tgt := 1459) hx hb dL_law_724 (by decide) (fun c => ?_) (fun c => ?_)
  · have h := ip c h
    cases h
    exact hk _ _ _ hR hS hl
  · have h := iq c h
    refine lv_iconst (v := 0) hx hb dL_law_727 (by decide) ?_
    cases h
set_option maxHeartbeats 4000000 in
set_option maxRecDepth 100000 in
theorem law_c15 (C : Cx p s m args meth c RL cL_law 4 (some .boolean) D B ca st) (hX : va_X b L xs s s.heap) (hbl : b < s.heap.size) (hbA : ¬ AA B b) (hcs : cells ≤ room_1.cells ∧ slots ≤ room_1.slots) {a1 : Int32} (hi1 : vp_in (x3 + 1) L) (ha1 : xs (x3 + 1).toNatClampNeg = a1) {M M' : Mem} (h : lawOp_15 a1 M = some M') (hk : ∀ (H : Heap) (locs : List Loc) (ls : Array Slot), RH D B ca M' H → va_S (AA B) s.heap H locs → lv_has ls 4 [(0, .ref b), (1, .ref (B + 1)), (2, .ref (B + 65)), (3, .int x3)] → W p l e room_1 s m args below meth c H locs cells slots Q (F0 m 1459 ls [])) : ∀ {H : Heap} {locs : List Loc} {ls : Array Slot}, RH D B ca M H → va_S (AA B) s.heap H locs → lv_has ls 4 [(0, .ref b), (1, .ref (B + 1)), (2, .ref (B + 65)), (3, .int x3)] → W p l e room_1 s m args below meth c H locs cells slots Q (F0 m 729 ls []) := by
  have hx := C.1
  have hb := C.2.1
  unfold lawOp_15 at h
  intro H locs ls hR hS hl
  refine lv_aload_n hx hb dL_law_729 rfl (lv_at hl 1 rfl) ?_
  refine lv_aload_n hx hb dL_law_730 rfl (lv_at hl 0 rfl) ?_
  refine lv_iload_n hx hb dL_law_731 rfl (lv_at hl 3 rfl) ?_
  refine lv_iconst (v := 1) hx hb dL_law_732 (by decide) ?_
  refine lv_iadd hx hb dL_law_733 ?_
  refine rl_ld C hX hbl hbA hS hi1 ha1 dL_law_734 ?_
  obtain ⟨qv2, zqe1, h⟩ := ob h
  refine rc_V C hR hS cf_X7_rest cv_X7_rest lk647 (ok_X7_rest zqe1) (ck_X7_rest zqe1) ⟨Nat.le_of_ble_eq_true rfl, Nat.le_of_ble_eq_true rfl⟩ hcs rfl rfl hl.1 (Nat.le_of_ble_eq_true rfl) dL_law_735 (rc_k1 (fun H locs hR hS => ?_))
  refine lv_aload_n hx hb dL_law_738 rfl (lv_at hl 2 rfl) ?_
  refine lv_aload_n hx hb dL_law_739 rfl (lv_at hl 0 rfl) ?_
  refine lv_iload_n hx hb dL_law_740 rfl (lv_at hl 3 rfl) ?_
  refine lv_iconst (v := 1) hx hb dL_law_741 (by decide) ?_
  refine lv_iadd hx hb dL_law_742 ?_
  refine rl_ld C hX hbl hbA hS hi1 ha1 dL_law_743 ?_
  obtain ⟨qv5, zqe4, h⟩ := ob h
  refine rc_V C hR hS cf_X8_rest cv_X8_rest lk1236 (ok_X8_rest zqe4) (ck_X8_rest zqe4) ⟨Nat.le_of_ble_eq_true rfl, Nat.le_of_ble_eq_true rfl⟩ hcs rfl rfl hl.1 (Nat.le_of_ble_eq_true rfl) dL_law_744 (rc_k1 (fun H locs hR hS => ?_))
  refine lv_icmp_eq (tgt := 1459) hx hb dL_law_747 (by decide) (fun c => ?_) (fun c => ?_)
  · have h := ip c h
    cases h
    exact hk _ _ _ hR hS hl
  · have h := iq c h
    refine lv_iconst (v := 0) hx hb dL_law_750 (by decide) ?_
    cases h
set_option maxHeartbeats 4000000 in
set_option maxRecDepth 100000 in
theorem law_c16 (C : Cx p s m args meth c RL cL_law 4 (some .boolean) D B ca st) (hX : va_X b L xs s s.heap) (hbl : b < s.heap.size) (hbA : ¬ AA B b) (hcs : cells ≤ room_1.cells ∧ slots ≤ room_1.slots) {a1 : Int32} (hi1 : vp_in (x3 + 1) L) (ha1 : xs (x3 + 1).toNatClampNeg = a1) {M M' : Mem} (h : lawOp_16 a1 M = some M') (hk : ∀ (H : Heap) (locs : List Loc) (ls : Array Slot), RH D B ca M' H → va_S (AA B) s.heap H locs → lv_has ls 4 [(0, .ref b), (1, .ref (B + 1)), (2, .ref (B + 65)), (3, .int x3)] → W p l e room_1 s m args below meth c H locs cells slots Q (F0 m 1459 ls [])) : ∀ {H : Heap} {locs : List Loc} {ls : Array Slot}, RH D B ca M H → va_S (AA B) s.heap H locs → lv_has ls 4 [(0, .ref b), (1, .ref (B + 1)), (2, .ref (B + 65)), (3, .int x3)] → W p l e room_1 s m args below meth c H locs cells slots Q (F0 m 752 ls []) := by
  have hx := C.1
  have hb := C.2.1
  unfold lawOp_16 at h
  intro H locs ls hR hS hl
  refine lv_aload_n hx hb dL_law_752 rfl (lv_at hl 1 rfl) ?_
  refine lv_aload_n hx hb dL_law_753 rfl (lv_at hl 0 rfl) ?_
  refine lv_iload_n hx hb dL_law_754 rfl (lv_at hl 3 rfl) ?_
  refine lv_iconst (v := 1) hx hb dL_law_755 (by decide) ?_
  refine lv_iadd hx hb dL_law_756 ?_
  refine rl_ld C hX hbl hbA hS hi1 ha1 dL_law_757 ?_
  obtain ⟨qv2, zqe1, h⟩ := ob h
  refine rc_V C hR hS cf_X7_undo cv_X7_undo lk651 (ok_X7_undo zqe1) (ck_X7_undo zqe1) ⟨Nat.le_of_ble_eq_true rfl, Nat.le_of_ble_eq_true rfl⟩ hcs rfl rfl hl.1 (Nat.le_of_ble_eq_true rfl) dL_law_758 (rc_k1 (fun H locs hR hS => ?_))
  refine lv_aload_n hx hb dL_law_761 rfl (lv_at hl 2 rfl) ?_
  refine lv_aload_n hx hb dL_law_762 rfl (lv_at hl 0 rfl) ?_
  refine lv_iload_n hx hb dL_law_763 rfl (lv_at hl 3 rfl) ?_
  refine lv_iconst (v := 1) hx hb dL_law_764 (by decide) ?_
  refine lv_iadd hx hb dL_law_765 ?_
  refine rl_ld C hX hbl hbA hS hi1 ha1 dL_law_766 ?_
  obtain ⟨qv5, zqe4, h⟩ := ob h
  refine rc_V C hR hS cf_X8_undo cv_X8_undo lk1244 (ok_X8_undo zqe4) (ck_X8_undo zqe4) ⟨Nat.le_of_ble_eq_true rfl, Nat.le_of_ble_eq_true rfl⟩ hcs rfl rfl hl.1 (Nat.le_of_ble_eq_true rfl) dL_law_767 (rc_k1 (fun H locs hR hS => ?_))
  refine lv_icmp_eq (tgt := 1459) hx hb dL_law_770 (by decide) (fun c => ?_) (fun c => ?_)
  · have h := ip c h
    cases h
    exact hk _ _ _ hR hS hl
  · have h := iq c h
    refine lv_iconst (v := 0) hx hb dL_law_773 (by decide) ?_
    cases h
set_option maxHeartbeats 4000000 in
set_option maxRecDepth 100000 in
theorem law_c17 (C : Cx p s m args meth c RL cL_law 4 (some .boolean) D B ca st) (hX : va_X b L xs s s.heap) (hbl : b < s.heap.size) (hbA : ¬ AA B b) (hcs : cells ≤ room_1.cells ∧ slots ≤ room_1.slots) {a1 : Int32} (hi1 : vp_in (x3 + 1) L) (ha1 : xs (x3 + 1).toNatClampNeg = a1) {M M' : Mem} (h : lawOp_17 a1 M = some M') (hk : ∀ (H : Heap) (locs : List Loc) (ls : Array Slot), RH D B ca M' H → va_S (AA B) s.heap H locs → lv_has ls 4 [(0, .ref b), (1, .ref (B + 1)), (2, .ref (B + 65)), (3, .int x3)] → W p l e room_1 s m args below meth c H locs cells slots Q (F0 m 1459 ls [])) : ∀ {H : Heap} {locs : List Loc} {ls : Array Slot}, RH D B ca M H → va_S (AA B) s.heap H locs → lv_has ls 4 [(0, .ref b), (1, .ref (B + 1)), (2, .ref (B + 65)), (3, .int x3)] → W p l e room_1 s m args below meth c H locs cells slots Q (F0 m 775 ls []) := by
  have hx := C.1
  have hb := C.2.1
  unfold lawOp_17 at h
  intro H locs ls hR hS hl
  refine lv_aload_n hx hb dL_law_775 rfl (lv_at hl 1 rfl) ?_
  refine lv_aload_n hx hb dL_law_776 rfl (lv_at hl 0 rfl) ?_
  refine lv_iload_n hx hb dL_law_777 rfl (lv_at hl 3 rfl) ?_
  refine lv_iconst (v := 1) hx hb dL_law_778 (by decide) ?_
  refine lv_iadd hx hb dL_law_779 ?_
  refine rl_ld C hX hbl hbA hS hi1 ha1 dL_law_780 ?_
  obtain ⟨qv2, zqe1, h⟩ := ob h
  refine rc_V C hR hS cf_X7_keep cv_X7_keep lk659 (ok_X7_keep zqe1) (ck_X7_keep zqe1) ⟨Nat.le_of_ble_eq_true rfl, Nat.le_of_ble_eq_true rfl⟩ hcs rfl rfl hl.1 (Nat.le_of_ble_eq_true rfl) dL_law_781 (rc_k1 (fun H locs hR hS => ?_))
  refine lv_aload_n hx hb dL_law_784 rfl (lv_at hl 2 rfl) ?_
  refine lv_aload_n hx hb dL_law_785 rfl (lv_at hl 0 rfl) ?_
  refine lv_iload_n hx hb dL_law_786 rfl (lv_at hl 3 rfl) ?_
  refine lv_iconst (v := 1) hx hb dL_law_787 (by decide) ?_
  refine lv_iadd hx hb dL_law_788 ?_
  refine rl_ld C hX hbl hbA hS hi1 ha1 dL_law_789 ?_
  obtain ⟨qv5, zqe4, h⟩ := ob h
  refine rc_V C hR hS cf_X8_keep cv_X8_keep lk1248 (ok_X8_keep zqe4) (ck_X8_keep zqe4) ⟨Nat.le_of_ble_eq_true rfl, Nat.le_of_ble_eq_true rfl⟩ hcs rfl rfl hl.1 (Nat.le_of_ble_eq_true rfl) dL_law_790 (rc_k1 (fun H locs hR hS => ?_))
  refine lv_icmp_eq (tgt := 1459) hx hb dL_law_793 (by decide) (fun c => ?_) (fun c => ?_)
  · have h := ip c h
    cases h
    exact hk _ _ _ hR hS hl
  · have h := iq c h
    refine lv_iconst (v := 0) hx hb dL_law_796 (by decide) ?_
    cases h
set_option maxHeartbeats 4000000 in
set_option maxRecDepth 100000 in
theorem law_c18 (C : Cx p s m args meth c RL cL_law 4 (some .boolean) D B ca st) (hX : va_X b L xs s s.heap) (hbl : b < s.heap.size) (hbA : ¬ AA B b) (hcs : cells ≤ room_1.cells ∧ slots ≤ room_1.slots) {a1 : Int32} (hi1 : vp_in (x3 + 1) L) (ha1 : xs (x3 + 1).toNatClampNeg = a1) {M M' : Mem} (h : lawOp_18 a1 M = some M') (hk : ∀ (H : Heap) (locs : List Loc) (ls : Array Slot), RH D B ca M' H → va_S (AA B) s.heap H locs → lv_has ls 4 [(0, .ref b), (1, .ref (B + 1)), (2, .ref (B + 65)), (3, .int x3)] → W p l e room_1 s m args below meth c H locs cells slots Q (F0 m 1459 ls [])) : ∀ {H : Heap} {locs : List Loc} {ls : Array Slot}, RH D B ca M H → va_S (AA B) s.heap H locs → lv_has ls 4 [(0, .ref b), (1, .ref (B + 1)), (2, .ref (B + 65)), (3, .int x3)] → W p l e room_1 s m args below meth c H locs cells slots Q (F0 m 798 ls []) := by
  have hx := C.1
  have hb := C.2.1
  unfold lawOp_18 at h
  intro H locs ls hR hS hl
  refine lv_aload_n hx hb dL_law_798 rfl (lv_at hl 1 rfl) ?_
  refine lv_aload_n hx hb dL_law_799 rfl (lv_at hl 0 rfl) ?_
  refine lv_iload_n hx hb dL_law_800 rfl (lv_at hl 3 rfl) ?_
  refine lv_iconst (v := 1) hx hb dL_law_801 (by decide) ?_
  refine lv_iadd hx hb dL_law_802 ?_
  refine rl_ld C hX hbl hbA hS hi1 ha1 dL_law_803 ?_
  obtain ⟨qv2, zqe1, h⟩ := ob h
  refine rc_V C hR hS cf_X7_on cv_X7_on lk672 (ok_X7_on zqe1) (ck_X7_on zqe1) ⟨Nat.le_of_ble_eq_true rfl, Nat.le_of_ble_eq_true rfl⟩ hcs rfl rfl hl.1 (Nat.le_of_ble_eq_true rfl) dL_law_804 (rc_k1 (fun H locs hR hS => ?_))
  refine lv_aload_n hx hb dL_law_807 rfl (lv_at hl 2 rfl) ?_
  refine lv_aload_n hx hb dL_law_808 rfl (lv_at hl 0 rfl) ?_
  refine lv_iload_n hx hb dL_law_809 rfl (lv_at hl 3 rfl) ?_
  refine lv_iconst (v := 1) hx hb dL_law_810 (by decide) ?_
  refine lv_iadd hx hb dL_law_811 ?_
  refine rl_ld C hX hbl hbA hS hi1 ha1 dL_law_812 ?_
  obtain ⟨qv5, zqe4, h⟩ := ob h
  refine rc_V C hR hS cf_X8_on cv_X8_on lk1257 (ok_X8_on zqe4) (ck_X8_on zqe4) ⟨Nat.le_of_ble_eq_true rfl, Nat.le_of_ble_eq_true rfl⟩ hcs rfl rfl hl.1 (Nat.le_of_ble_eq_true rfl) dL_law_813 (rc_k1 (fun H locs hR hS => ?_))
  refine lv_icmp_eq (tgt := 1459) hx hb dL_law_816 (by decide) (fun c => ?_) (fun c => ?_)
  · have h := ip c h
    cases h
    exact hk _ _ _ hR hS hl
  · have h := iq c h
    refine lv_iconst (v := 0) hx hb dL_law_819 (by decide) ?_
    cases h
set_option maxHeartbeats 4000000 in
set_option maxRecDepth 100000 in
theorem law_c19 (C : Cx p s m args meth c RL cL_law 4 (some .boolean) D B ca st) (hX : va_X b L xs s s.heap) (hbl : b < s.heap.size) (hbA : ¬ AA B b) (hcs : cells ≤ room_1.cells ∧ slots ≤ room_1.slots) {a1 : Int32} (hi1 : vp_in (x3 + 1) L) (ha1 : xs (x3 + 1).toNatClampNeg = a1) {a2 : Int32} (hi2 : vp_in (x3 + 2) L) (ha2 : xs (x3 + 2).toNatClampNeg = a2) {M M' : Mem} (h : lawOp_19 a1 a2 M = some M') (hk : ∀ (H : Heap) (locs : List Loc) (ls : Array Slot), RH D B ca M' H → va_S (AA B) s.heap H locs → lv_has ls 4 [(0, .ref b), (1, .ref (B + 1)), (2, .ref (B + 65)), (3, .int x3)] → W p l e room_1 s m args below meth c H locs cells slots Q (F0 m 1459 ls [])) : ∀ {H : Heap} {locs : List Loc} {ls : Array Slot}, RH D B ca M H → va_S (AA B) s.heap H locs → lv_has ls 4 [(0, .ref b), (1, .ref (B + 1)), (2, .ref (B + 65)), (3, .int x3)] → W p l e room_1 s m args below meth c H locs cells slots Q (F0 m 821 ls []) := by
  have hx := C.1
  have hb := C.2.1
  unfold lawOp_19 at h
  intro H locs ls hR hS hl
  refine lv_aload_n hx hb dL_law_821 rfl (lv_at hl 1 rfl) ?_
  refine lv_aload_n hx hb dL_law_822 rfl (lv_at hl 0 rfl) ?_
  refine lv_iload_n hx hb dL_law_823 rfl (lv_at hl 3 rfl) ?_
  refine lv_iconst (v := 1) hx hb dL_law_824 (by decide) ?_
  refine lv_iadd hx hb dL_law_825 ?_
  refine rl_ld C hX hbl hbA hS hi1 ha1 dL_law_826 ?_
  refine lv_aload_n hx hb dL_law_827 rfl (lv_at hl 0 rfl) ?_
  refine lv_iload_n hx hb dL_law_828 rfl (lv_at hl 3 rfl) ?_
  refine lv_iconst (v := 2) hx hb dL_law_829 (by decide) ?_
  refine lv_iadd hx hb dL_law_830 ?_
  refine rl_ld C hX hbl hbA hS hi2 ha2 dL_law_831 ?_
  obtain ⟨v2, zqe1, h⟩ := ob h
  refine rc_V C hR hS cf_X7_takes cv_X7_takes lk676 (ok_X7_takes zqe1) (ck_X7_takes zqe1) ⟨Nat.le_of_ble_eq_true rfl, Nat.le_of_ble_eq_true rfl⟩ hcs rfl rfl hl.1 (Nat.le_of_ble_eq_true rfl) dL_law_832 (rc_k1 (fun H locs hR hS => ?_))
  refine lv_aload_n hx hb dL_law_835 rfl (lv_at hl 2 rfl) ?_
  refine lv_aload_n hx hb dL_law_836 rfl (lv_at hl 0 rfl) ?_
  refine lv_iload_n hx hb dL_law_837 rfl (lv_at hl 3 rfl) ?_
  refine lv_iconst (v := 1) hx hb dL_law_838 (by decide) ?_
  refine lv_iadd hx hb dL_law_839 ?_
  refine rl_ld C hX hbl hbA hS hi1 ha1 dL_law_840 ?_
  refine lv_aload_n hx hb dL_law_841 rfl (lv_at hl 0 rfl) ?_
  refine lv_iload_n hx hb dL_law_842 rfl (lv_at hl 3 rfl) ?_
  refine lv_iconst (v := 2) hx hb dL_law_843 (by decide) ?_
  refine lv_iadd hx hb dL_law_844 ?_
  refine rl_ld C hX hbl hbA hS hi2 ha2 dL_law_845 ?_
  obtain ⟨v4, zqe3, h⟩ := ob h
  refine rc_V C hR hS cf_X8_takes cv_X8_takes lk1261 (ok_X8_takes zqe3) (ck_X8_takes zqe3) ⟨Nat.le_of_ble_eq_true rfl, Nat.le_of_ble_eq_true rfl⟩ hcs rfl rfl hl.1 (Nat.le_of_ble_eq_true rfl) dL_law_846 (rc_k1 (fun H locs hR hS => ?_))
  refine lv_icmp_eq (tgt := 1459) hx hb dL_law_849 (by decide) (fun c => ?_) (fun c => ?_)
  · have h := ip c h
    cases h
    exact hk _ _ _ hR hS hl
  · have h := iq c h
    refine lv_iconst (v := 0) hx hb dL_law_852 (by decide) ?_
    cases h
set_option maxHeartbeats 4000000 in
set_option maxRecDepth 100000 in
theorem law_c20 (C : Cx p s m args meth c RL cL_law 4 (some .boolean) D B ca st) (hX : va_X b L xs s s.heap) (hbl : b < s.heap.size) (hbA : ¬ AA B b) (hcs : cells ≤ room_1.cells ∧ slots ≤ room_1.slots) {a1 : Int32} (hi1 : vp_in (x3 + 1) L) (ha1 : xs (x3 + 1).toNatClampNeg = a1) {a2 : Int32} (hi2 : vp_in (x3 + 2) L) (ha2 : xs (x3 + 2).toNatClampNeg = a2) {M M' : Mem} (h : lawOp_20 a1 a2 M = some M') (hk : ∀ (H : Heap) (locs : List Loc) (ls : Array Slot), RH D B ca M' H → va_S (AA B) s.heap H locs → lv_has ls 4 [(0, .ref b), (1, .ref (B + 1)), (2, .ref (B + 65)), (3, .int x3)] → W p l e room_1 s m args below meth c H locs cells slots Q (F0 m 1459 ls [])) : ∀ {H : Heap} {locs : List Loc} {ls : Array Slot}, RH D B ca M H → va_S (AA B) s.heap H locs → lv_has ls 4 [(0, .ref b), (1, .ref (B + 1)), (2, .ref (B + 65)), (3, .int x3)] → W p l e room_1 s m args below meth c H locs cells slots Q (F0 m 854 ls []) := by
  have hx := C.1
  have hb := C.2.1
  unfold lawOp_20 at h
  intro H locs ls hR hS hl
  refine lv_aload_n hx hb dL_law_854 rfl (lv_at hl 1 rfl) ?_
  refine lv_aload_n hx hb dL_law_855 rfl (lv_at hl 0 rfl) ?_
  refine lv_iload_n hx hb dL_law_856 rfl (lv_at hl 3 rfl) ?_
  refine lv_iconst (v := 1) hx hb dL_law_857 (by decide) ?_
  refine lv_iadd hx hb dL_law_858 ?_
  refine rl_ld C hX hbl hbA hS hi1 ha1 dL_law_859 ?_
  refine lv_aload_n hx hb dL_law_860 rfl (lv_at hl 0 rfl) ?_
  refine lv_iload_n hx hb dL_law_861 rfl (lv_at hl 3 rfl) ?_
  refine lv_iconst (v := 2) hx hb dL_law_862 (by decide) ?_
  refine lv_iadd hx hb dL_law_863 ?_
  refine rl_ld C hX hbl hbA hS hi2 ha2 dL_law_864 ?_
  obtain ⟨v2, zqe1, h⟩ := ob h
  refine rc_V C hR hS cf_X7_brings cv_X7_brings lk680 (ok_X7_brings zqe1) (ck_X7_brings zqe1) ⟨Nat.le_of_ble_eq_true rfl, Nat.le_of_ble_eq_true rfl⟩ hcs rfl rfl hl.1 (Nat.le_of_ble_eq_true rfl) dL_law_865 (rc_k1 (fun H locs hR hS => ?_))
  refine lv_aload_n hx hb dL_law_868 rfl (lv_at hl 2 rfl) ?_
  refine lv_aload_n hx hb dL_law_869 rfl (lv_at hl 0 rfl) ?_
  refine lv_iload_n hx hb dL_law_870 rfl (lv_at hl 3 rfl) ?_
  refine lv_iconst (v := 1) hx hb dL_law_871 (by decide) ?_
  refine lv_iadd hx hb dL_law_872 ?_
  refine rl_ld C hX hbl hbA hS hi1 ha1 dL_law_873 ?_
  refine lv_aload_n hx hb dL_law_874 rfl (lv_at hl 0 rfl) ?_
  refine lv_iload_n hx hb dL_law_875 rfl (lv_at hl 3 rfl) ?_
  refine lv_iconst (v := 2) hx hb dL_law_876 (by decide) ?_
  refine lv_iadd hx hb dL_law_877 ?_
  refine rl_ld C hX hbl hbA hS hi2 ha2 dL_law_878 ?_
  obtain ⟨v4, zqe3, h⟩ := ob h
  refine rc_V C hR hS cf_X8_brings cv_X8_brings lk1265 (ok_X8_brings zqe3) (ck_X8_brings zqe3) ⟨Nat.le_of_ble_eq_true rfl, Nat.le_of_ble_eq_true rfl⟩ hcs rfl rfl hl.1 (Nat.le_of_ble_eq_true rfl) dL_law_879 (rc_k1 (fun H locs hR hS => ?_))
  refine lv_icmp_eq (tgt := 1459) hx hb dL_law_882 (by decide) (fun c => ?_) (fun c => ?_)
  · have h := ip c h
    cases h
    exact hk _ _ _ hR hS hl
  · have h := iq c h
    refine lv_iconst (v := 0) hx hb dL_law_885 (by decide) ?_
    cases h
set_option maxHeartbeats 4000000 in
set_option maxRecDepth 100000 in
theorem law_c21 (C : Cx p s m args meth c RL cL_law 4 (some .boolean) D B ca st) (hX : va_X b L xs s s.heap) (hbl : b < s.heap.size) (hbA : ¬ AA B b) (hcs : cells ≤ room_1.cells ∧ slots ≤ room_1.slots) {a1 : Int32} (hi1 : vp_in (x3 + 1) L) (ha1 : xs (x3 + 1).toNatClampNeg = a1) {M M' : Mem} (h : lawOp_21 a1 M = some M') (hk : ∀ (H : Heap) (locs : List Loc) (ls : Array Slot), RH D B ca M' H → va_S (AA B) s.heap H locs → lv_has ls 4 [(0, .ref b), (1, .ref (B + 1)), (2, .ref (B + 65)), (3, .int x3)] → W p l e room_1 s m args below meth c H locs cells slots Q (F0 m 1459 ls [])) : ∀ {H : Heap} {locs : List Loc} {ls : Array Slot}, RH D B ca M H → va_S (AA B) s.heap H locs → lv_has ls 4 [(0, .ref b), (1, .ref (B + 1)), (2, .ref (B + 65)), (3, .int x3)] → W p l e room_1 s m args below meth c H locs cells slots Q (F0 m 887 ls []) := by
  have hx := C.1
  have hb := C.2.1
  unfold lawOp_21 at h
  intro H locs ls hR hS hl
  refine lv_aload_n hx hb dL_law_887 rfl (lv_at hl 1 rfl) ?_
  refine lv_aload_n hx hb dL_law_888 rfl (lv_at hl 0 rfl) ?_
  refine lv_iload_n hx hb dL_law_889 rfl (lv_at hl 3 rfl) ?_
  refine lv_iconst (v := 1) hx hb dL_law_890 (by decide) ?_
  refine lv_iadd hx hb dL_law_891 ?_
  refine rl_ld C hX hbl hbA hS hi1 ha1 dL_law_892 ?_
  obtain ⟨qv2, zqe1, h⟩ := ob h
  refine rc_V C hR hS cf_X7_give cv_X7_give lk684 (ok_X7_give zqe1) (ck_X7_give zqe1) ⟨Nat.le_of_ble_eq_true rfl, Nat.le_of_ble_eq_true rfl⟩ hcs rfl rfl hl.1 (Nat.le_of_ble_eq_true rfl) dL_law_893 (rc_k1 (fun H locs hR hS => ?_))
  refine lv_aload_n hx hb dL_law_896 rfl (lv_at hl 2 rfl) ?_
  refine lv_aload_n hx hb dL_law_897 rfl (lv_at hl 0 rfl) ?_
  refine lv_iload_n hx hb dL_law_898 rfl (lv_at hl 3 rfl) ?_
  refine lv_iconst (v := 1) hx hb dL_law_899 (by decide) ?_
  refine lv_iadd hx hb dL_law_900 ?_
  refine rl_ld C hX hbl hbA hS hi1 ha1 dL_law_901 ?_
  obtain ⟨qv5, zqe4, h⟩ := ob h
  refine rc_V C hR hS cf_X8_give cv_X8_give lk1269 (ok_X8_give zqe4) (ck_X8_give zqe4) ⟨Nat.le_of_ble_eq_true rfl, Nat.le_of_ble_eq_true rfl⟩ hcs rfl rfl hl.1 (Nat.le_of_ble_eq_true rfl) dL_law_902 (rc_k1 (fun H locs hR hS => ?_))
  refine lv_icmp_eq (tgt := 1459) hx hb dL_law_905 (by decide) (fun c => ?_) (fun c => ?_)
  · have h := ip c h
    cases h
    exact hk _ _ _ hR hS hl
  · have h := iq c h
    refine lv_iconst (v := 0) hx hb dL_law_908 (by decide) ?_
    cases h
set_option maxHeartbeats 4000000 in
set_option maxRecDepth 100000 in
theorem law_c22 (C : Cx p s m args meth c RL cL_law 4 (some .boolean) D B ca st) (hX : va_X b L xs s s.heap) (hbl : b < s.heap.size) (hbA : ¬ AA B b) (hcs : cells ≤ room_1.cells ∧ slots ≤ room_1.slots) {a1 : Int32} (hi1 : vp_in (x3 + 1) L) (ha1 : xs (x3 + 1).toNatClampNeg = a1) {M M' : Mem} (h : lawOp_22 a1 M = some M') (hk : ∀ (H : Heap) (locs : List Loc) (ls : Array Slot), RH D B ca M' H → va_S (AA B) s.heap H locs → lv_has ls 4 [(0, .ref b), (1, .ref (B + 1)), (2, .ref (B + 65)), (3, .int x3)] → W p l e room_1 s m args below meth c H locs cells slots Q (F0 m 1459 ls [])) : ∀ {H : Heap} {locs : List Loc} {ls : Array Slot}, RH D B ca M H → va_S (AA B) s.heap H locs → lv_has ls 4 [(0, .ref b), (1, .ref (B + 1)), (2, .ref (B + 65)), (3, .int x3)] → W p l e room_1 s m args below meth c H locs cells slots Q (F0 m 910 ls []) := by
  have hx := C.1
  have hb := C.2.1
  unfold lawOp_22 at h
  intro H locs ls hR hS hl
  refine lv_aload_n hx hb dL_law_910 rfl (lv_at hl 1 rfl) ?_
  refine lv_aload_n hx hb dL_law_911 rfl (lv_at hl 0 rfl) ?_
  refine lv_iload_n hx hb dL_law_912 rfl (lv_at hl 3 rfl) ?_
  refine lv_iconst (v := 1) hx hb dL_law_913 (by decide) ?_
  refine lv_iadd hx hb dL_law_914 ?_
  refine rl_ld C hX hbl hbA hS hi1 ha1 dL_law_915 ?_
  obtain ⟨qv2, zqe1, h⟩ := ob h
  refine rc_V C hR hS cf_X7_most cv_X7_most lk723 (ok_X7_most zqe1) (ck_X7_most zqe1) ⟨Nat.le_of_ble_eq_true rfl, Nat.le_of_ble_eq_true rfl⟩ hcs rfl rfl hl.1 (Nat.le_of_ble_eq_true rfl) dL_law_916 (rc_k1 (fun H locs hR hS => ?_))
  refine lv_aload_n hx hb dL_law_919 rfl (lv_at hl 2 rfl) ?_
  refine lv_aload_n hx hb dL_law_920 rfl (lv_at hl 0 rfl) ?_
  refine lv_iload_n hx hb dL_law_921 rfl (lv_at hl 3 rfl) ?_
  refine lv_iconst (v := 1) hx hb dL_law_922 (by decide) ?_
  refine lv_iadd hx hb dL_law_923 ?_
  refine rl_ld C hX hbl hbA hS hi1 ha1 dL_law_924 ?_
  obtain ⟨qv5, zqe4, h⟩ := ob h
  refine rc_V C hR hS cf_X8_most cv_X8_most lk1292 (ok_X8_most zqe4) (ck_X8_most zqe4) ⟨Nat.le_of_ble_eq_true rfl, Nat.le_of_ble_eq_true rfl⟩ hcs rfl rfl hl.1 (Nat.le_of_ble_eq_true rfl) dL_law_925 (rc_k1 (fun H locs hR hS => ?_))
  refine lv_icmp_eq (tgt := 1459) hx hb dL_law_928 (by decide) (fun c => ?_) (fun c => ?_)
  · have h := ip c h
    cases h
    exact hk _ _ _ hR hS hl
  · have h := iq c h
    refine lv_iconst (v := 0) hx hb dL_law_931 (by decide) ?_
    cases h
set_option maxHeartbeats 4000000 in
set_option maxRecDepth 100000 in
theorem law_c23 (C : Cx p s m args meth c RL cL_law 4 (some .boolean) D B ca st) (hX : va_X b L xs s s.heap) (hbl : b < s.heap.size) (hbA : ¬ AA B b) (hcs : cells ≤ room_1.cells ∧ slots ≤ room_1.slots)  {M M' : Mem} (h : lawOp_23  M = some M') (hk : ∀ (H : Heap) (locs : List Loc) (ls : Array Slot), RH D B ca M' H → va_S (AA B) s.heap H locs → lv_has ls 4 [(0, .ref b), (1, .ref (B + 1)), (2, .ref (B + 65)), (3, .int x3)] → W p l e room_1 s m args below meth c H locs cells slots Q (F0 m 1459 ls [])) : ∀ {H : Heap} {locs : List Loc} {ls : Array Slot}, RH D B ca M H → va_S (AA B) s.heap H locs → lv_has ls 4 [(0, .ref b), (1, .ref (B + 1)), (2, .ref (B + 65)), (3, .int x3)] → W p l e room_1 s m args below meth c H locs cells slots Q (F0 m 933 ls []) := by
  have hx := C.1
  have hb := C.2.1
  unfold lawOp_23 at h
  intro H locs ls hR hS hl
  refine lv_aload_n hx hb dL_law_933 rfl (lv_at hl 1 rfl) ?_
  obtain ⟨qv2, zqe1, h⟩ := ob h
  refine rc_V C hR hS cf_X7_plain cv_X7_plain lk727 (ok_X7_plain zqe1) (ck_X7_plain zqe1) ⟨Nat.le_of_ble_eq_true rfl, Nat.le_of_ble_eq_true rfl⟩ hcs rfl rfl hl.1 (Nat.le_of_ble_eq_true rfl) dL_law_934 (rc_k1 (fun H locs hR hS => ?_))
  refine lv_aload_n hx hb dL_law_937 rfl (lv_at hl 2 rfl) ?_
  obtain ⟨qv5, zqe4, h⟩ := ob h
  refine rc_V C hR hS cf_X8_plain cv_X8_plain lk1296 (ok_X8_plain zqe4) (ck_X8_plain zqe4) ⟨Nat.le_of_ble_eq_true rfl, Nat.le_of_ble_eq_true rfl⟩ hcs rfl rfl hl.1 (Nat.le_of_ble_eq_true rfl) dL_law_938 (rc_k1 (fun H locs hR hS => ?_))
  refine lv_icmp_eq (tgt := 1459) hx hb dL_law_941 (by decide) (fun c => ?_) (fun c => ?_)
  · have h := ip c h
    cases h
    exact hk _ _ _ hR hS hl
  · have h := iq c h
    refine lv_iconst (v := 0) hx hb dL_law_944 (by decide) ?_
    cases h
set_option maxHeartbeats 4000000 in
set_option maxRecDepth 100000 in
theorem law_c24 (C : Cx p s m args meth c RL cL_law 4 (some .boolean) D B ca st) (hX : va_X b L xs s s.heap) (hbl : b < s.heap.size) (hbA : ¬ AA B b) (hcs : cells ≤ room_1.cells ∧ slots ≤ room_1.slots) {a1 : Int32} (hi1 : vp_in (x3 + 1) L) (ha1 : xs (x3 + 1).toNatClampNeg = a1) {a2 : Int32} (hi2 : vp_in (x3 + 2) L) (ha2 : xs (x3 + 2).toNatClampNeg = a2) {M M' : Mem} (h : lawOp_24 a1 a2 M = some M') (hk : ∀ (H : Heap) (locs : List Loc) (ls : Array Slot), RH D B ca M' H → va_S (AA B) s.heap H locs → lv_has ls 4 [(0, .ref b), (1, .ref (B + 1)), (2, .ref (B + 65)), (3, .int x3)] → W p l e room_1 s m args below meth c H locs cells slots Q (F0 m 1459 ls [])) : ∀ {H : Heap} {locs : List Loc} {ls : Array Slot}, RH D B ca M H → va_S (AA B) s.heap H locs → lv_has ls 4 [(0, .ref b), (1, .ref (B + 1)), (2, .ref (B + 65)), (3, .int x3)] → W p l e room_1 s m args below meth c H locs cells slots Q (F0 m 946 ls []) := by
  have hx := C.1
  have hb := C.2.1
  unfold lawOp_24 at h
  intro H locs ls hR hS hl
  refine lv_aload_n hx hb dL_law_946 rfl (lv_at hl 1 rfl) ?_
  refine lv_aload_n hx hb dL_law_947 rfl (lv_at hl 0 rfl) ?_
  refine lv_iload_n hx hb dL_law_948 rfl (lv_at hl 3 rfl) ?_
  refine lv_iconst (v := 1) hx hb dL_law_949 (by decide) ?_
  refine lv_iadd hx hb dL_law_950 ?_
  refine rl_ld C hX hbl hbA hS hi1 ha1 dL_law_951 ?_
  refine lv_aload_n hx hb dL_law_952 rfl (lv_at hl 0 rfl) ?_
  refine lv_iload_n hx hb dL_law_953 rfl (lv_at hl 3 rfl) ?_
  refine lv_iconst (v := 2) hx hb dL_law_954 (by decide) ?_
  refine lv_iadd hx hb dL_law_955 ?_
  refine rl_ld C hX hbl hbA hS hi2 ha2 dL_law_956 ?_
  obtain ⟨v2, zqe1, h⟩ := ob h
  refine rc_V C hR hS cf_X7_way cv_X7_way lk747 (ok_X7_way zqe1) (ck_X7_way zqe1) ⟨Nat.le_of_ble_eq_true rfl, Nat.le_of_ble_eq_true rfl⟩ hcs rfl rfl hl.1 (Nat.le_of_ble_eq_true rfl) dL_law_957 (rc_k1 (fun H locs hR hS => ?_))
  refine lv_aload_n hx hb dL_law_960 rfl (lv_at hl 2 rfl) ?_
  refine lv_aload_n hx hb dL_law_961 rfl (lv_at hl 0 rfl) ?_
  refine lv_iload_n hx hb dL_law_962 rfl (lv_at hl 3 rfl) ?_
  refine lv_iconst (v := 1) hx hb dL_law_963 (by decide) ?_
  refine lv_iadd hx hb dL_law_964 ?_
  refine rl_ld C hX hbl hbA hS hi1 ha1 dL_law_965 ?_
  refine lv_aload_n hx hb dL_law_966 rfl (lv_at hl 0 rfl) ?_
  refine lv_iload_n hx hb dL_law_967 rfl (lv_at hl 3 rfl) ?_
  refine lv_iconst (v := 2) hx hb dL_law_968 (by decide) ?_
  refine lv_iadd hx hb dL_law_969 ?_
  refine rl_ld C hX hbl hbA hS hi2 ha2 dL_law_970 ?_
  obtain ⟨v4, zqe3, h⟩ := ob h
  refine rc_V C hR hS cf_X8_way cv_X8_way lk1304 (ok_X8_way zqe3) (ck_X8_way zqe3) ⟨Nat.le_of_ble_eq_true rfl, Nat.le_of_ble_eq_true rfl⟩ hcs rfl rfl hl.1 (Nat.le_of_ble_eq_true rfl) dL_law_971 (rc_k1 (fun H locs hR hS => ?_))
  refine lv_icmp_eq (tgt := 1459) hx hb dL_law_974 (by decide) (fun c => ?_) (fun c => ?_)
  · have h := ip c h
    cases h
    exact hk _ _ _ hR hS hl
  · have h := iq c h
    refine lv_iconst (v := 0) hx hb dL_law_977 (by decide) ?_
    cases h
set_option maxHeartbeats 4000000 in
set_option maxRecDepth 100000 in
theorem law_c25 (C : Cx p s m args meth c RL cL_law 4 (some .boolean) D B ca st) (hX : va_X b L xs s s.heap) (hbl : b < s.heap.size) (hbA : ¬ AA B b) (hcs : cells ≤ room_1.cells ∧ slots ≤ room_1.slots) {a1 : Int32} (hi1 : vp_in (x3 + 1) L) (ha1 : xs (x3 + 1).toNatClampNeg = a1) {a2 : Int32} (hi2 : vp_in (x3 + 2) L) (ha2 : xs (x3 + 2).toNatClampNeg = a2) {a3 : Int32} (hi3 : vp_in (x3 + 3) L) (ha3 : xs (x3 + 3).toNatClampNeg = a3) {M M' : Mem} (h : lawOp_25 a1 a2 a3 M = some M') (hk : ∀ (H : Heap) (locs : List Loc) (ls : Array Slot), RH D B ca M' H → va_S (AA B) s.heap H locs → lv_has ls 4 [(0, .ref b), (1, .ref (B + 1)), (2, .ref (B + 65)), (3, .int x3)] → W p l e room_1 s m args below meth c H locs cells slots Q (F0 m 1459 ls [])) : ∀ {H : Heap} {locs : List Loc} {ls : Array Slot}, RH D B ca M H → va_S (AA B) s.heap H locs → lv_has ls 4 [(0, .ref b), (1, .ref (B + 1)), (2, .ref (B + 65)), (3, .int x3)] → W p l e room_1 s m args below meth c H locs cells slots Q (F0 m 979 ls []) := by
  have hx := C.1
  have hb := C.2.1
  unfold lawOp_25 at h
  intro H locs ls hR hS hl
  refine lv_aload_n hx hb dL_law_979 rfl (lv_at hl 1 rfl) ?_
  refine lv_aload_n hx hb dL_law_980 rfl (lv_at hl 0 rfl) ?_
  refine lv_iload_n hx hb dL_law_981 rfl (lv_at hl 3 rfl) ?_
  refine lv_iconst (v := 1) hx hb dL_law_982 (by decide) ?_
  refine lv_iadd hx hb dL_law_983 ?_
  refine rl_ld C hX hbl hbA hS hi1 ha1 dL_law_984 ?_
  refine lv_aload_n hx hb dL_law_985 rfl (lv_at hl 0 rfl) ?_
  refine lv_iload_n hx hb dL_law_986 rfl (lv_at hl 3 rfl) ?_
  refine lv_iconst (v := 2) hx hb dL_law_987 (by decide) ?_
  refine lv_iadd hx hb dL_law_988 ?_
  refine rl_ld C hX hbl hbA hS hi2 ha2 dL_law_989 ?_
  refine lv_aload_n hx hb dL_law_990 rfl (lv_at hl 0 rfl) ?_
  refine lv_iload_n hx hb dL_law_991 rfl (lv_at hl 3 rfl) ?_
  refine lv_iconst (v := 3) hx hb dL_law_992 (by decide) ?_
  refine lv_iadd hx hb dL_law_993 ?_
  refine rl_ld C hX hbl hbA hS hi3 ha3 dL_law_994 ?_
  obtain ⟨qv2, zqe1, h⟩ := ob h
  refine rc_V C hR hS cf_X7_dusk cv_X7_dusk lk760 (ok_X7_dusk zqe1) (ck_X7_dusk zqe1) ⟨Nat.le_of_ble_eq_true rfl, Nat.le_of_ble_eq_true rfl⟩ hcs rfl rfl hl.1 (Nat.le_of_ble_eq_true rfl) dL_law_995 (rc_k1 (fun H locs hR hS => ?_))
  refine lv_aload_n hx hb dL_law_998 rfl (lv_at hl 2 rfl) ?_
  refine lv_aload_n hx hb dL_law_999 rfl (lv_at hl 0 rfl) ?_
  refine lv_iload_n hx hb dL_law_1000 rfl (lv_at hl 3 rfl) ?_
  refine lv_iconst (v := 1) hx hb dL_law_1001 (by decide) ?_
  refine lv_iadd hx hb dL_law_1002 ?_
  refine rl_ld C hX hbl hbA hS hi1 ha1 dL_law_1003 ?_
  refine lv_aload_n hx hb dL_law_1004 rfl (lv_at hl 0 rfl) ?_
  refine lv_iload_n hx hb dL_law_1005 rfl (lv_at hl 3 rfl) ?_
  refine lv_iconst (v := 2) hx hb dL_law_1006 (by decide) ?_
  refine lv_iadd hx hb dL_law_1007 ?_
  refine rl_ld C hX hbl hbA hS hi2 ha2 dL_law_1008 ?_
  refine lv_aload_n hx hb dL_law_1009 rfl (lv_at hl 0 rfl) ?_
  refine lv_iload_n hx hb dL_law_1010 rfl (lv_at hl 3 rfl) ?_
  refine lv_iconst (v := 3) hx hb dL_law_1011 (by decide) ?_
  refine lv_iadd hx hb dL_law_1012 ?_
  refine rl_ld C hX hbl hbA hS hi3 ha3 dL_law_1013 ?_
  obtain ⟨qv5, zqe4, h⟩ := ob h
  refine rc_V C hR hS cf_X8_dusk cv_X8_dusk lk1316 (ok_X8_dusk zqe4) (ck_X8_dusk zqe4) ⟨Nat.le_of_ble_eq_true rfl, Nat.le_of_ble_eq_true rfl⟩ hcs rfl rfl hl.1 (Nat.le_of_ble_eq_true rfl) dL_law_1014 (rc_k1 (fun H locs hR hS => ?_))
  refine lv_icmp_eq (tgt := 1459) hx hb dL_law_1017 (by decide) (fun c => ?_) (fun c => ?_)
  · have h := ip c h
    cases h
    exact hk _ _ _ hR hS hl
  · have h := iq c h
    refine lv_iconst (v := 0) hx hb dL_law_1020 (by decide) ?_
    cases h
set_option maxHeartbeats 4000000 in
set_option maxRecDepth 100000 in
theorem law_c26 (C : Cx p s m args meth c RL cL_law 4 (some .boolean) D B ca st) (hX : va_X b L xs s s.heap) (hbl : b < s.heap.size) (hbA : ¬ AA B b) (hcs : cells ≤ room_1.cells ∧ slots ≤ room_1.slots) {a1 : Int32} (hi1 : vp_in (x3 + 1) L) (ha1 : xs (x3 + 1).toNatClampNeg = a1) {a2 : Int32} (hi2 : vp_in (x3 + 2) L) (ha2 : xs (x3 + 2).toNatClampNeg = a2) {M M' : Mem} (h : lawOp_26 a1 a2 M = some M') (hk : ∀ (H : Heap) (locs : List Loc) (ls : Array Slot), RH D B ca M' H → va_S (AA B) s.heap H locs → lv_has ls 4 [(0, .ref b), (1, .ref (B + 1)), (2, .ref (B + 65)), (3, .int x3)] → W p l e room_1 s m args below meth c H locs cells slots Q (F0 m 1459 ls [])) : ∀ {H : Heap} {locs : List Loc} {ls : Array Slot}, RH D B ca M H → va_S (AA B) s.heap H locs → lv_has ls 4 [(0, .ref b), (1, .ref (B + 1)), (2, .ref (B + 65)), (3, .int x3)] → W p l e room_1 s m args below meth c H locs cells slots Q (F0 m 1022 ls []) := by
  have hx := C.1
  have hb := C.2.1
  unfold lawOp_26 at h
  intro H locs ls hR hS hl
  refine lv_aload_n hx hb dL_law_1022 rfl (lv_at hl 1 rfl) ?_
  refine lv_aload_n hx hb dL_law_1023 rfl (lv_at hl 0 rfl) ?_
  refine lv_iload_n hx hb dL_law_1024 rfl (lv_at hl 3 rfl) ?_
  refine lv_iconst (v := 1) hx hb dL_law_1025 (by decide) ?_
  refine lv_iadd hx hb dL_law_1026 ?_
  refine rl_ld C hX hbl hbA hS hi1 ha1 dL_law_1027 ?_
  refine lv_aload_n hx hb dL_law_1028 rfl (lv_at hl 0 rfl) ?_
  refine lv_iload_n hx hb dL_law_1029 rfl (lv_at hl 3 rfl) ?_
  refine lv_iconst (v := 2) hx hb dL_law_1030 (by decide) ?_
  refine lv_iadd hx hb dL_law_1031 ?_
  refine rl_ld C hX hbl hbA hS hi2 ha2 dL_law_1032 ?_
  obtain ⟨v2, zqe1, h⟩ := ob h
  refine rc_V C hR hS cf_X7_hours cv_X7_hours lk778 (ok_X7_hours zqe1) (ck_X7_hours zqe1) ⟨Nat.le_of_ble_eq_true rfl, Nat.le_of_ble_eq_true rfl⟩ hcs rfl rfl hl.1 (Nat.le_of_ble_eq_true rfl) dL_law_1033 (rc_k1 (fun H locs hR hS => ?_))
  refine lv_aload_n hx hb dL_law_1036 rfl (lv_at hl 2 rfl) ?_
  refine lv_aload_n hx hb dL_law_1037 rfl (lv_at hl 0 rfl) ?_
  refine lv_iload_n hx hb dL_law_1038 rfl (lv_at hl 3 rfl) ?_
  refine lv_iconst (v := 1) hx hb dL_law_1039 (by decide) ?_
  refine lv_iadd hx hb dL_law_1040 ?_
  refine rl_ld C hX hbl hbA hS hi1 ha1 dL_law_1041 ?_
  refine lv_aload_n hx hb dL_law_1042 rfl (lv_at hl 0 rfl) ?_
  refine lv_iload_n hx hb dL_law_1043 rfl (lv_at hl 3 rfl) ?_
  refine lv_iconst (v := 2) hx hb dL_law_1044 (by decide) ?_
  refine lv_iadd hx hb dL_law_1045 ?_
  refine rl_ld C hX hbl hbA hS hi2 ha2 dL_law_1046 ?_
  obtain ⟨v4, zqe3, h⟩ := ob h
  refine rc_V C hR hS cf_X8_hours cv_X8_hours lk1337 (ok_X8_hours zqe3) (ck_X8_hours zqe3) ⟨Nat.le_of_ble_eq_true rfl, Nat.le_of_ble_eq_true rfl⟩ hcs rfl rfl hl.1 (Nat.le_of_ble_eq_true rfl) dL_law_1047 (rc_k1 (fun H locs hR hS => ?_))
  refine lv_icmp_eq (tgt := 1459) hx hb dL_law_1050 (by decide) (fun c => ?_) (fun c => ?_)
  · have h := ip c h
    cases h
    exact hk _ _ _ hR hS hl
  · have h := iq c h
    refine lv_iconst (v := 0) hx hb dL_law_1053 (by decide) ?_
    cases h
set_option maxHeartbeats 4000000 in
set_option maxRecDepth 100000 in
theorem law_c27 (C : Cx p s m args meth c RL cL_law 4 (some .boolean) D B ca st) (hX : va_X b L xs s s.heap) (hbl : b < s.heap.size) (hbA : ¬ AA B b) (hcs : cells ≤ room_1.cells ∧ slots ≤ room_1.slots) {a1 : Int32} (hi1 : vp_in (x3 + 1) L) (ha1 : xs (x3 + 1).toNatClampNeg = a1) {M M' : Mem} (h : lawOp_27 a1 M = some M') (hk : ∀ (H : Heap) (locs : List Loc) (ls : Array Slot), RH D B ca M' H → va_S (AA B) s.heap H locs → lv_has ls 4 [(0, .ref b), (1, .ref (B + 1)), (2, .ref (B + 65)), (3, .int x3)] → W p l e room_1 s m args below meth c H locs cells slots Q (F0 m 1459 ls [])) : ∀ {H : Heap} {locs : List Loc} {ls : Array Slot}, RH D B ca M H → va_S (AA B) s.heap H locs → lv_has ls 4 [(0, .ref b), (1, .ref (B + 1)), (2, .ref (B + 65)), (3, .int x3)] → W p l e room_1 s m args below meth c H locs cells slots Q (F0 m 1055 ls []) := by
  have hx := C.1
  have hb := C.2.1
  unfold lawOp_27 at h
  intro H locs ls hR hS hl
  refine lv_aload_n hx hb dL_law_1055 rfl (lv_at hl 1 rfl) ?_
  refine lv_aload_n hx hb dL_law_1056 rfl (lv_at hl 0 rfl) ?_
  refine lv_iload_n hx hb dL_law_1057 rfl (lv_at hl 3 rfl) ?_
  refine lv_iconst (v := 1) hx hb dL_law_1058 (by decide) ?_
  refine lv_iadd hx hb dL_law_1059 ?_
  refine rl_ld C hX hbl hbA hS hi1 ha1 dL_law_1060 ?_
  obtain ⟨qv2, zqe1, h⟩ := ob h
  refine rc_V C hR hS cf_X7_pairs cv_X7_pairs lk782 (ok_X7_pairs zqe1) (ck_X7_pairs zqe1) ⟨Nat.le_of_ble_eq_true rfl, Nat.le_of_ble_eq_true rfl⟩ hcs rfl rfl hl.1 (Nat.le_of_ble_eq_true rfl) dL_law_1061 (rc_k1 (fun H locs hR hS => ?_))
  refine lv_aload_n hx hb dL_law_1064 rfl (lv_at hl 2 rfl) ?_
  refine lv_aload_n hx hb dL_law_1065 rfl (lv_at hl 0 rfl) ?_
  refine lv_iload_n hx hb dL_law_1066 rfl (lv_at hl 3 rfl) ?_
  refine lv_iconst (v := 1) hx hb dL_law_1067 (by decide) ?_
  refine lv_iadd hx hb dL_law_1068 ?_
  refine rl_ld C hX hbl hbA hS hi1 ha1 dL_law_1069 ?_
  obtain ⟨qv5, zqe4, h⟩ := ob h
  refine rc_V C hR hS cf_X8_pairs cv_X8_pairs lk1341 (ok_X8_pairs zqe4) (ck_X8_pairs zqe4) ⟨Nat.le_of_ble_eq_true rfl, Nat.le_of_ble_eq_true rfl⟩ hcs rfl rfl hl.1 (Nat.le_of_ble_eq_true rfl) dL_law_1070 (rc_k1 (fun H locs hR hS => ?_))
  refine lv_icmp_eq (tgt := 1459) hx hb dL_law_1073 (by decide) (fun c => ?_) (fun c => ?_)
  · have h := ip c h
    cases h
    exact hk _ _ _ hR hS hl
  · have h := iq c h
    refine lv_iconst (v := 0) hx hb dL_law_1076 (by decide) ?_
    cases h
set_option maxHeartbeats 4000000 in
set_option maxRecDepth 100000 in
theorem law_c28 (C : Cx p s m args meth c RL cL_law 4 (some .boolean) D B ca st) (hX : va_X b L xs s s.heap) (hbl : b < s.heap.size) (hbA : ¬ AA B b) (hcs : cells ≤ room_1.cells ∧ slots ≤ room_1.slots) {a1 : Int32} (hi1 : vp_in (x3 + 1) L) (ha1 : xs (x3 + 1).toNatClampNeg = a1) {M M' : Mem} (h : lawOp_28 a1 M = some M') (hk : ∀ (H : Heap) (locs : List Loc) (ls : Array Slot), RH D B ca M' H → va_S (AA B) s.heap H locs → lv_has ls 4 [(0, .ref b), (1, .ref (B + 1)), (2, .ref (B + 65)), (3, .int x3)] → W p l e room_1 s m args below meth c H locs cells slots Q (F0 m 1459 ls [])) : ∀ {H : Heap} {locs : List Loc} {ls : Array Slot}, RH D B ca M H → va_S (AA B) s.heap H locs → lv_has ls 4 [(0, .ref b), (1, .ref (B + 1)), (2, .ref (B + 65)), (3, .int x3)] → W p l e room_1 s m args below meth c H locs cells slots Q (F0 m 1078 ls []) := by
  have hx := C.1
  have hb := C.2.1
  unfold lawOp_28 at h
  intro H locs ls hR hS hl
  refine lv_aload_n hx hb dL_law_1078 rfl (lv_at hl 1 rfl) ?_
  refine lv_aload_n hx hb dL_law_1079 rfl (lv_at hl 0 rfl) ?_
  refine lv_iload_n hx hb dL_law_1080 rfl (lv_at hl 3 rfl) ?_
  refine lv_iconst (v := 1) hx hb dL_law_1081 (by decide) ?_
  refine lv_iadd hx hb dL_law_1082 ?_
  refine rl_ld C hX hbl hbA hS hi1 ha1 dL_law_1083 ?_
  obtain ⟨qv2, zqe1, h⟩ := ob h
  refine rc_V C hR hS cf_X7_choir cv_X7_choir lk791 (ok_X7_choir zqe1) (ck_X7_choir zqe1) ⟨Nat.le_of_ble_eq_true rfl, Nat.le_of_ble_eq_true rfl⟩ hcs rfl rfl hl.1 (Nat.le_of_ble_eq_true rfl) dL_law_1084 (rc_k1 (fun H locs hR hS => ?_))
  refine lv_aload_n hx hb dL_law_1087 rfl (lv_at hl 2 rfl) ?_
  refine lv_aload_n hx hb dL_law_1088 rfl (lv_at hl 0 rfl) ?_
  refine lv_iload_n hx hb dL_law_1089 rfl (lv_at hl 3 rfl) ?_
  refine lv_iconst (v := 1) hx hb dL_law_1090 (by decide) ?_
  refine lv_iadd hx hb dL_law_1091 ?_
  refine rl_ld C hX hbl hbA hS hi1 ha1 dL_law_1092 ?_
  obtain ⟨qv5, zqe4, h⟩ := ob h
  refine rc_V C hR hS cf_X8_choir cv_X8_choir lk1349 (ok_X8_choir zqe4) (ck_X8_choir zqe4) ⟨Nat.le_of_ble_eq_true rfl, Nat.le_of_ble_eq_true rfl⟩ hcs rfl rfl hl.1 (Nat.le_of_ble_eq_true rfl) dL_law_1093 (rc_k1 (fun H locs hR hS => ?_))
  refine lv_icmp_eq (tgt := 1459) hx hb dL_law_1096 (by decide) (fun c => ?_) (fun c => ?_)
  · have h := ip c h
    cases h
    exact hk _ _ _ hR hS hl
  · have h := iq c h
    refine lv_iconst (v := 0) hx hb dL_law_1099 (by decide) ?_
    cases h
set_option maxHeartbeats 4000000 in
set_option maxRecDepth 100000 in
theorem law_c29 (C : Cx p s m args meth c RL cL_law 4 (some .boolean) D B ca st) (hX : va_X b L xs s s.heap) (hbl : b < s.heap.size) (hbA : ¬ AA B b) (hcs : cells ≤ room_1.cells ∧ slots ≤ room_1.slots) {a1 : Int32} (hi1 : vp_in (x3 + 1) L) (ha1 : xs (x3 + 1).toNatClampNeg = a1) {a2 : Int32} (hi2 : vp_in (x3 + 2) L) (ha2 : xs (x3 + 2).toNatClampNeg = a2) {a3 : Int32} (hi3 : vp_in (x3 + 3) L) (ha3 : xs (x3 + 3).toNatClampNeg = a3) {M M' : Mem} (h : lawOp_29 a1 a2 a3 M = some M') (hk : ∀ (H : Heap) (locs : List Loc) (ls : Array Slot), RH D B ca M' H → va_S (AA B) s.heap H locs → lv_has ls 4 [(0, .ref b), (1, .ref (B + 1)), (2, .ref (B + 65)), (3, .int x3)] → W p l e room_1 s m args below meth c H locs cells slots Q (F0 m 1459 ls [])) : ∀ {H : Heap} {locs : List Loc} {ls : Array Slot}, RH D B ca M H → va_S (AA B) s.heap H locs → lv_has ls 4 [(0, .ref b), (1, .ref (B + 1)), (2, .ref (B + 65)), (3, .int x3)] → W p l e room_1 s m args below meth c H locs cells slots Q (F0 m 1101 ls []) := by
  have hx := C.1
  have hb := C.2.1
  unfold lawOp_29 at h
  intro H locs ls hR hS hl
  refine lv_aload_n hx hb dL_law_1101 rfl (lv_at hl 1 rfl) ?_
  refine lv_aload_n hx hb dL_law_1102 rfl (lv_at hl 0 rfl) ?_
  refine lv_iload_n hx hb dL_law_1103 rfl (lv_at hl 3 rfl) ?_
  refine lv_iconst (v := 1) hx hb dL_law_1104 (by decide) ?_
  refine lv_iadd hx hb dL_law_1105 ?_
  refine rl_ld C hX hbl hbA hS hi1 ha1 dL_law_1106 ?_
  refine lv_aload_n hx hb dL_law_1107 rfl (lv_at hl 0 rfl) ?_
  refine lv_iload_n hx hb dL_law_1108 rfl (lv_at hl 3 rfl) ?_
  refine lv_iconst (v := 2) hx hb dL_law_1109 (by decide) ?_
  refine lv_iadd hx hb dL_law_1110 ?_
  refine rl_ld C hX hbl hbA hS hi2 ha2 dL_law_1111 ?_
  refine lv_aload_n hx hb dL_law_1112 rfl (lv_at hl 0 rfl) ?_
  refine lv_iload_n hx hb dL_law_1113 rfl (lv_at hl 3 rfl) ?_
  refine lv_iconst (v := 3) hx hb dL_law_1114 (by decide) ?_
  refine lv_iadd hx hb dL_law_1115 ?_
  refine rl_ld C hX hbl hbA hS hi3 ha3 dL_law_1116 ?_
  obtain ⟨v2, zqe1, h⟩ := ob h
  refine rc_V C hR hS cf_X7_loose cv_X7_loose lk801 (ok_X7_loose zqe1) (ck_X7_loose zqe1) ⟨Nat.le_of_ble_eq_true rfl, Nat.le_of_ble_eq_true rfl⟩ hcs rfl rfl hl.1 (Nat.le_of_ble_eq_true rfl) dL_law_1117 (rc_k1 (fun H locs hR hS => ?_))
  refine lv_aload_n hx hb dL_law_1120 rfl (lv_at hl 2 rfl) ?_
  refine lv_aload_n hx hb dL_law_1121 rfl (lv_at hl 0 rfl) ?_
  refine lv_iload_n hx hb dL_law_1122 rfl (lv_at hl 3 rfl) ?_
  refine lv_iconst (v := 1) hx hb dL_law_1123 (by decide) ?_
  refine lv_iadd hx hb dL_law_1124 ?_
  refine rl_ld C hX hbl hbA hS hi1 ha1 dL_law_1125 ?_
  refine lv_aload_n hx hb dL_law_1126 rfl (lv_at hl 0 rfl) ?_
  refine lv_iload_n hx hb dL_law_1127 rfl (lv_at hl 3 rfl) ?_
  refine lv_iconst (v := 2) hx hb dL_law_1128 (by decide) ?_
  refine lv_iadd hx hb dL_law_1129 ?_
  refine rl_ld C hX hbl hbA hS hi2 ha2 dL_law_1130 ?_
  refine lv_aload_n hx hb dL_law_1131 rfl (lv_at hl 0 rfl) ?_
  refine lv_iload_n hx hb dL_law_1132 rfl (lv_at hl 3 rfl) ?_
  refine lv_iconst (v := 3) hx hb dL_law_1133 (by decide) ?_
  refine lv_iadd hx hb dL_law_1134 ?_
  refine rl_ld C hX hbl hbA hS hi3 ha3 dL_law_1135 ?_
  obtain ⟨v4, zqe3, h⟩ := ob h
  refine rc_V C hR hS cf_X8_loose cv_X8_loose lk1357 (ok_X8_loose zqe3) (ck_X8_loose zqe3) ⟨Nat.le_of_ble_eq_true rfl, Nat.le_of_ble_eq_true rfl⟩ hcs rfl rfl hl.1 (Nat.le_of_ble_eq_true rfl) dL_law_1136 (rc_k1 (fun H locs hR hS => ?_))
  refine lv_icmp_eq (tgt := 1459) hx hb dL_law_1139 (by decide) (fun c => ?_) (fun c => ?_)
  · have h := ip c h
    cases h
    exact hk _ _ _ hR hS hl
  · have h := iq c h
    refine lv_iconst (v := 0) hx hb dL_law_1142 (by decide) ?_
    cases h
set_option maxHeartbeats 4000000 in
set_option maxRecDepth 100000 in
theorem law_c30 (C : Cx p s m args meth c RL cL_law 4 (some .boolean) D B ca st) (hX : va_X b L xs s s.heap) (hbl : b < s.heap.size) (hbA : ¬ AA B b) (hcs : cells ≤ room_1.cells ∧ slots ≤ room_1.slots) {a1 : Int32} (hi1 : vp_in (x3 + 1) L) (ha1 : xs (x3 + 1).toNatClampNeg = a1) {M M' : Mem} (h : lawOp_30 a1 M = some M') (hk : ∀ (H : Heap) (locs : List Loc) (ls : Array Slot), RH D B ca M' H → va_S (AA B) s.heap H locs → lv_has ls 4 [(0, .ref b), (1, .ref (B + 1)), (2, .ref (B + 65)), (3, .int x3)] → W p l e room_1 s m args below meth c H locs cells slots Q (F0 m 1459 ls [])) : ∀ {H : Heap} {locs : List Loc} {ls : Array Slot}, RH D B ca M H → va_S (AA B) s.heap H locs → lv_has ls 4 [(0, .ref b), (1, .ref (B + 1)), (2, .ref (B + 65)), (3, .int x3)] → W p l e room_1 s m args below meth c H locs cells slots Q (F0 m 1144 ls []) := by
  have hx := C.1
  have hb := C.2.1
  unfold lawOp_30 at h
  intro H locs ls hR hS hl
  refine lv_aload_n hx hb dL_law_1144 rfl (lv_at hl 1 rfl) ?_
  refine lv_aload_n hx hb dL_law_1145 rfl (lv_at hl 0 rfl) ?_
  refine lv_iload_n hx hb dL_law_1146 rfl (lv_at hl 3 rfl) ?_
  refine lv_iconst (v := 1) hx hb dL_law_1147 (by decide) ?_
  refine lv_iadd hx hb dL_law_1148 ?_
  refine rl_ld C hX hbl hbA hS hi1 ha1 dL_law_1149 ?_
  obtain ⟨qv2, zqe1, h⟩ := ob h
  refine rc_V C hR hS cf_X7_who cv_X7_who lk809 (ok_X7_who zqe1) (ck_X7_who zqe1) ⟨Nat.le_of_ble_eq_true rfl, Nat.le_of_ble_eq_true rfl⟩ hcs rfl rfl hl.1 (Nat.le_of_ble_eq_true rfl) dL_law_1150 (rc_k1 (fun H locs hR hS => ?_))
  refine lv_aload_n hx hb dL_law_1153 rfl (lv_at hl 2 rfl) ?_
  refine lv_aload_n hx hb dL_law_1154 rfl (lv_at hl 0 rfl) ?_
  refine lv_iload_n hx hb dL_law_1155 rfl (lv_at hl 3 rfl) ?_
  refine lv_iconst (v := 1) hx hb dL_law_1156 (by decide) ?_
  refine lv_iadd hx hb dL_law_1157 ?_
  refine rl_ld C hX hbl hbA hS hi1 ha1 dL_law_1158 ?_
  obtain ⟨qv5, zqe4, h⟩ := ob h
  refine rc_V C hR hS cf_X8_who cv_X8_who lk1362 (ok_X8_who zqe4) (ck_X8_who zqe4) ⟨Nat.le_of_ble_eq_true rfl, Nat.le_of_ble_eq_true rfl⟩ hcs rfl rfl hl.1 (Nat.le_of_ble_eq_true rfl) dL_law_1159 (rc_k1 (fun H locs hR hS => ?_))
  refine lv_icmp_eq (tgt := 1459) hx hb dL_law_1162 (by decide) (fun c => ?_) (fun c => ?_)
  · have h := ip c h
    cases h
    exact hk _ _ _ hR hS hl
  · have h := iq c h
    refine lv_iconst (v := 0) hx hb dL_law_1165 (by decide) ?_
    cases h
set_option maxHeartbeats 4000000 in
set_option maxRecDepth 100000 in
theorem law_c31 (C : Cx p s m args meth c RL cL_law 4 (some .boolean) D B ca st) (hX : va_X b L xs s s.heap) (hbl : b < s.heap.size) (hbA : ¬ AA B b) (hcs : cells ≤ room_1.cells ∧ slots ≤ room_1.slots) {a1 : Int32} (hi1 : vp_in (x3 + 1) L) (ha1 : xs (x3 + 1).toNatClampNeg = a1) {a2 : Int32} (hi2 : vp_in (x3 + 2) L) (ha2 : xs (x3 + 2).toNatClampNeg = a2) {M M' : Mem} (h : lawOp_31 a1 a2 M = some M') (hk : ∀ (H : Heap) (locs : List Loc) (ls : Array Slot), RH D B ca M' H → va_S (AA B) s.heap H locs → lv_has ls 4 [(0, .ref b), (1, .ref (B + 1)), (2, .ref (B + 65)), (3, .int x3)] → W p l e room_1 s m args below meth c H locs cells slots Q (F0 m 1459 ls [])) : ∀ {H : Heap} {locs : List Loc} {ls : Array Slot}, RH D B ca M H → va_S (AA B) s.heap H locs → lv_has ls 4 [(0, .ref b), (1, .ref (B + 1)), (2, .ref (B + 65)), (3, .int x3)] → W p l e room_1 s m args below meth c H locs cells slots Q (F0 m 1167 ls []) := by
  have hx := C.1
  have hb := C.2.1
  unfold lawOp_31 at h
  intro H locs ls hR hS hl
  refine lv_aload_n hx hb dL_law_1167 rfl (lv_at hl 1 rfl) ?_
  refine lv_aload_n hx hb dL_law_1168 rfl (lv_at hl 0 rfl) ?_
  refine lv_iload_n hx hb dL_law_1169 rfl (lv_at hl 3 rfl) ?_
  refine lv_iconst (v := 1) hx hb dL_law_1170 (by decide) ?_
  refine lv_iadd hx hb dL_law_1171 ?_
  refine rl_ld C hX hbl hbA hS hi1 ha1 dL_law_1172 ?_
  refine lv_aload_n hx hb dL_law_1173 rfl (lv_at hl 0 rfl) ?_
  refine lv_iload_n hx hb dL_law_1174 rfl (lv_at hl 3 rfl) ?_
  refine lv_iconst (v := 2) hx hb dL_law_1175 (by decide) ?_
  refine lv_iadd hx hb dL_law_1176 ?_
  refine rl_ld C hX hbl hbA hS hi2 ha2 dL_law_1177 ?_
  obtain ⟨qv2, zqe1, h⟩ := ob h
  refine rc_V C hR hS cf_X7_kinds cv_X7_kinds lk822 (ok_X7_kinds zqe1) (ck_X7_kinds zqe1) ⟨Nat.le_of_ble_eq_true rfl, Nat.le_of_ble_eq_true rfl⟩ hcs rfl rfl hl.1 (Nat.le_of_ble_eq_true rfl) dL_law_1178 (rc_k1 (fun H locs hR hS => ?_))
  refine lv_aload_n hx hb dL_law_1181 rfl (lv_at hl 2 rfl) ?_
  refine lv_aload_n hx hb dL_law_1182 rfl (lv_at hl 0 rfl) ?_
  refine lv_iload_n hx hb dL_law_1183 rfl (lv_at hl 3 rfl) ?_
  refine lv_iconst (v := 1) hx hb dL_law_1184 (by decide) ?_
  refine lv_iadd hx hb dL_law_1185 ?_
  refine rl_ld C hX hbl hbA hS hi1 ha1 dL_law_1186 ?_
  refine lv_aload_n hx hb dL_law_1187 rfl (lv_at hl 0 rfl) ?_
  refine lv_iload_n hx hb dL_law_1188 rfl (lv_at hl 3 rfl) ?_
  refine lv_iconst (v := 2) hx hb dL_law_1189 (by decide) ?_
  refine lv_iadd hx hb dL_law_1190 ?_
  refine rl_ld C hX hbl hbA hS hi2 ha2 dL_law_1191 ?_
  obtain ⟨qv5, zqe4, h⟩ := ob h
  refine rc_V C hR hS cf_X8_kinds cv_X8_kinds lk1374 (ok_X8_kinds zqe4) (ck_X8_kinds zqe4) ⟨Nat.le_of_ble_eq_true rfl, Nat.le_of_ble_eq_true rfl⟩ hcs rfl rfl hl.1 (Nat.le_of_ble_eq_true rfl) dL_law_1192 (rc_k1 (fun H locs hR hS => ?_))
  refine lv_icmp_eq (tgt := 1459) hx hb dL_law_1195 (by decide) (fun c => ?_) (fun c => ?_)
  · have h := ip c h
    cases h
    exact hk _ _ _ hR hS hl
  · have h := iq c h
    refine lv_iconst (v := 0) hx hb dL_law_1198 (by decide) ?_
    cases h
set_option maxHeartbeats 4000000 in
set_option maxRecDepth 100000 in
theorem law_c32 (C : Cx p s m args meth c RL cL_law 4 (some .boolean) D B ca st) (hX : va_X b L xs s s.heap) (hbl : b < s.heap.size) (hbA : ¬ AA B b) (hcs : cells ≤ room_1.cells ∧ slots ≤ room_1.slots) {a1 : Int32} (hi1 : vp_in (x3 + 1) L) (ha1 : xs (x3 + 1).toNatClampNeg = a1) {a2 : Int32} (hi2 : vp_in (x3 + 2) L) (ha2 : xs (x3 + 2).toNatClampNeg = a2) {M M' : Mem} (h : lawOp_32 a1 a2 M = some M') (hk : ∀ (H : Heap) (locs : List Loc) (ls : Array Slot), RH D B ca M' H → va_S (AA B) s.heap H locs → lv_has ls 4 [(0, .ref b), (1, .ref (B + 1)), (2, .ref (B + 65)), (3, .int x3)] → W p l e room_1 s m args below meth c H locs cells slots Q (F0 m 1459 ls [])) : ∀ {H : Heap} {locs : List Loc} {ls : Array Slot}, RH D B ca M H → va_S (AA B) s.heap H locs → lv_has ls 4 [(0, .ref b), (1, .ref (B + 1)), (2, .ref (B + 65)), (3, .int x3)] → W p l e room_1 s m args below meth c H locs cells slots Q (F0 m 1200 ls []) := by
  have hx := C.1
  have hb := C.2.1
  unfold lawOp_32 at h
  intro H locs ls hR hS hl
  refine lv_aload_n hx hb dL_law_1200 rfl (lv_at hl 1 rfl) ?_
  refine lv_aload_n hx hb dL_law_1201 rfl (lv_at hl 0 rfl) ?_
  refine lv_iload_n hx hb dL_law_1202 rfl (lv_at hl 3 rfl) ?_
  refine lv_iconst (v := 1) hx hb dL_law_1203 (by decide) ?_
  refine lv_iadd hx hb dL_law_1204 ?_
  refine rl_ld C hX hbl hbA hS hi1 ha1 dL_law_1205 ?_
  refine lv_aload_n hx hb dL_law_1206 rfl (lv_at hl 0 rfl) ?_
  refine lv_iload_n hx hb dL_law_1207 rfl (lv_at hl 3 rfl) ?_
  refine lv_iconst (v := 2) hx hb dL_law_1208 (by decide) ?_
  refine lv_iadd hx hb dL_law_1209 ?_
  refine rl_ld C hX hbl hbA hS hi2 ha2 dL_law_1210 ?_
  obtain ⟨qv2, zqe1, h⟩ := ob h
  refine rc_V C hR hS cf_X7_breaths cv_X7_breaths lk826 (ok_X7_breaths zqe1) (ck_X7_breaths zqe1) ⟨Nat.le_of_ble_eq_true rfl, Nat.le_of_ble_eq_true rfl⟩ hcs rfl rfl hl.1 (Nat.le_of_ble_eq_true rfl) dL_law_1211 (rc_k1 (fun H locs hR hS => ?_))
  refine lv_aload_n hx hb dL_law_1214 rfl (lv_at hl 2 rfl) ?_
  refine lv_aload_n hx hb dL_law_1215 rfl (lv_at hl 0 rfl) ?_
  refine lv_iload_n hx hb dL_law_1216 rfl (lv_at hl 3 rfl) ?_
  refine lv_iconst (v := 1) hx hb dL_law_1217 (by decide) ?_
  refine lv_iadd hx hb dL_law_1218 ?_
  refine rl_ld C hX hbl hbA hS hi1 ha1 dL_law_1219 ?_
  refine lv_aload_n hx hb dL_law_1220 rfl (lv_at hl 0 rfl) ?_
  refine lv_iload_n hx hb dL_law_1221 rfl (lv_at hl 3 rfl) ?_
  refine lv_iconst (v := 2) hx hb dL_law_1222 (by decide) ?_
  refine lv_iadd hx hb dL_law_1223 ?_
  refine rl_ld C hX hbl hbA hS hi2 ha2 dL_law_1224 ?_
  obtain ⟨qv5, zqe4, h⟩ := ob h
  refine rc_V C hR hS cf_X8_breaths cv_X8_breaths lk1378 (ok_X8_breaths zqe4) (ck_X8_breaths zqe4) ⟨Nat.le_of_ble_eq_true rfl, Nat.le_of_ble_eq_true rfl⟩ hcs rfl rfl hl.1 (Nat.le_of_ble_eq_true rfl) dL_law_1225 (rc_k1 (fun H locs hR hS => ?_))
  refine lv_icmp_eq (tgt := 1459) hx hb dL_law_1228 (by decide) (fun c => ?_) (fun c => ?_)
  · have h := ip c h
    cases h
    exact hk _ _ _ hR hS hl
  · have h := iq c h
    refine lv_iconst (v := 0) hx hb dL_law_1231 (by decide) ?_
    cases h
set_option maxHeartbeats 4000000 in
set_option maxRecDepth 100000 in
theorem law_c33 (C : Cx p s m args meth c RL cL_law 4 (some .boolean) D B ca st) (hX : va_X b L xs s s.heap) (hbl : b < s.heap.size) (hbA : ¬ AA B b) (hcs : cells ≤ room_1.cells ∧ slots ≤ room_1.slots) {a1 : Int32} (hi1 : vp_in (x3 + 1) L) (ha1 : xs (x3 + 1).toNatClampNeg = a1) {M M' : Mem} (h : lawOp_33 a1 M = some M') (hk : ∀ (H : Heap) (locs : List Loc) (ls : Array Slot), RH D B ca M' H → va_S (AA B) s.heap H locs → lv_has ls 4 [(0, .ref b), (1, .ref (B + 1)), (2, .ref (B + 65)), (3, .int x3)] → W p l e room_1 s m args below meth c H locs cells slots Q (F0 m 1459 ls [])) : ∀ {H : Heap} {locs : List Loc} {ls : Array Slot}, RH D B ca M H → va_S (AA B) s.heap H locs → lv_has ls 4 [(0, .ref b), (1, .ref (B + 1)), (2, .ref (B + 65)), (3, .int x3)] → W p l e room_1 s m args below meth c H locs cells slots Q (F0 m 1233 ls []) := by
  have hx := C.1
  have hb := C.2.1
  unfold lawOp_33 at h
  intro H locs ls hR hS hl
  refine lv_aload_n hx hb dL_law_1233 rfl (lv_at hl 1 rfl) ?_
  refine lv_aload_n hx hb dL_law_1234 rfl (lv_at hl 0 rfl) ?_
  refine lv_iload_n hx hb dL_law_1235 rfl (lv_at hl 3 rfl) ?_
  refine lv_iconst (v := 1) hx hb dL_law_1236 (by decide) ?_
  refine lv_iadd hx hb dL_law_1237 ?_
  refine rl_ld C hX hbl hbA hS hi1 ha1 dL_law_1238 ?_
  obtain ⟨qv2, zqe1, h⟩ := ob h
  refine rc_V C hR hS cf_X7_strike cv_X7_strike lk830 (ok_X7_strike zqe1) (ck_X7_strike zqe1) ⟨Nat.le_of_ble_eq_true rfl, Nat.le_of_ble_eq_true rfl⟩ hcs rfl rfl hl.1 (Nat.le_of_ble_eq_true rfl) dL_law_1239 (rc_k1 (fun H locs hR hS => ?_))
  refine lv_aload_n hx hb dL_law_1242 rfl (lv_at hl 2 rfl) ?_
  refine lv_aload_n hx hb dL_law_1243 rfl (lv_at hl 0 rfl) ?_
  refine lv_iload_n hx hb dL_law_1244 rfl (lv_at hl 3 rfl) ?_
  refine lv_iconst (v := 1) hx hb dL_law_1245 (by decide) ?_
  refine lv_iadd hx hb dL_law_1246 ?_
  refine rl_ld C hX hbl hbA hS hi1 ha1 dL_law_1247 ?_
  obtain ⟨qv5, zqe4, h⟩ := ob h
  refine rc_V C hR hS cf_X8_strike cv_X8_strike lk1382 (ok_X8_strike zqe4) (ck_X8_strike zqe4) ⟨Nat.le_of_ble_eq_true rfl, Nat.le_of_ble_eq_true rfl⟩ hcs rfl rfl hl.1 (Nat.le_of_ble_eq_true rfl) dL_law_1248 (rc_k1 (fun H locs hR hS => ?_))
  refine lv_icmp_eq (tgt := 1459) hx hb dL_law_1251 (by decide) (fun c => ?_) (fun c => ?_)
  · have h := ip c h
    cases h
    exact hk _ _ _ hR hS hl
  · have h := iq c h
    refine lv_iconst (v := 0) hx hb dL_law_1254 (by decide) ?_
    cases h
set_option maxHeartbeats 4000000 in
set_option maxRecDepth 100000 in
theorem law_c34 (C : Cx p s m args meth c RL cL_law 4 (some .boolean) D B ca st) (hX : va_X b L xs s s.heap) (hbl : b < s.heap.size) (hbA : ¬ AA B b) (hcs : cells ≤ room_1.cells ∧ slots ≤ room_1.slots) {a1 : Int32} (hi1 : vp_in (x3 + 1) L) (ha1 : xs (x3 + 1).toNatClampNeg = a1) {a2 : Int32} (hi2 : vp_in (x3 + 2) L) (ha2 : xs (x3 + 2).toNatClampNeg = a2) {M M' : Mem} (h : lawOp_34 a1 a2 M = some M') (hk : ∀ (H : Heap) (locs : List Loc) (ls : Array Slot), RH D B ca M' H → va_S (AA B) s.heap H locs → lv_has ls 4 [(0, .ref b), (1, .ref (B + 1)), (2, .ref (B + 65)), (3, .int x3)] → W p l e room_1 s m args below meth c H locs cells slots Q (F0 m 1459 ls [])) : ∀ {H : Heap} {locs : List Loc} {ls : Array Slot}, RH D B ca M H → va_S (AA B) s.heap H locs → lv_has ls 4 [(0, .ref b), (1, .ref (B + 1)), (2, .ref (B + 65)), (3, .int x3)] → W p l e room_1 s m args below meth c H locs cells slots Q (F0 m 1256 ls []) := by
  have hx := C.1
  have hb := C.2.1
  unfold lawOp_34 at h
  intro H locs ls hR hS hl
  refine lv_aload_n hx hb dL_law_1256 rfl (lv_at hl 1 rfl) ?_
  refine lv_aload_n hx hb dL_law_1257 rfl (lv_at hl 0 rfl) ?_
  refine lv_iload_n hx hb dL_law_1258 rfl (lv_at hl 3 rfl) ?_
  refine lv_iconst (v := 1) hx hb dL_law_1259 (by decide) ?_
  refine lv_iadd hx hb dL_law_1260 ?_
  refine rl_ld C hX hbl hbA hS hi1 ha1 dL_law_1261 ?_
  refine lv_aload_n hx hb dL_law_1262 rfl (lv_at hl 0 rfl) ?_
  refine lv_iload_n hx hb dL_law_1263 rfl (lv_at hl 3 rfl) ?_
  refine lv_iconst (v := 2) hx hb dL_law_1264 (by decide) ?_
  refine lv_iadd hx hb dL_law_1265 ?_
  refine rl_ld C hX hbl hbA hS hi2 ha2 dL_law_1266 ?_
  obtain ⟨qv2, zqe1, h⟩ := ob h
  refine rc_V C hR hS cf_X7_odds cv_X7_odds lk846 (ok_X7_odds zqe1) (ck_X7_odds zqe1) ⟨Nat.le_of_ble_eq_true rfl, Nat.le_of_ble_eq_true rfl⟩ hcs rfl rfl hl.1 (Nat.le_of_ble_eq_true rfl) dL_law_1267 (rc_k1 (fun H locs hR hS => ?_))
  refine lv_aload_n hx hb dL_law_1270 rfl (lv_at hl 2 rfl) ?_
  refine lv_aload_n hx hb dL_law_1271 rfl (lv_at hl 0 rfl) ?_
  refine lv_iload_n hx hb dL_law_1272 rfl (lv_at hl 3 rfl) ?_
  refine lv_iconst (v := 1) hx hb dL_law_1273 (by decide) ?_
  refine lv_iadd hx hb dL_law_1274 ?_
  refine rl_ld C hX hbl hbA hS hi1 ha1 dL_law_1275 ?_
  refine lv_aload_n hx hb dL_law_1276 rfl (lv_at hl 0 rfl) ?_
  refine lv_iload_n hx hb dL_law_1277 rfl (lv_at hl 3 rfl) ?_
  refine lv_iconst (v := 2) hx hb dL_law_1278 (by decide) ?_
  refine lv_iadd hx hb dL_law_1279 ?_
  refine rl_ld C hX hbl hbA hS hi2 ha2 dL_law_1280 ?_
  obtain ⟨qv5, zqe4, h⟩ := ob h
  refine rc_V C hR hS cf_X8_odds cv_X8_odds lk1394 (ok_X8_odds zqe4) (ck_X8_odds zqe4) ⟨Nat.le_of_ble_eq_true rfl, Nat.le_of_ble_eq_true rfl⟩ hcs rfl rfl hl.1 (Nat.le_of_ble_eq_true rfl) dL_law_1281 (rc_k1 (fun H locs hR hS => ?_))
  refine lv_icmp_eq (tgt := 1459) hx hb dL_law_1284 (by decide) (fun c => ?_) (fun c => ?_)
  · have h := ip c h
    cases h
    exact hk _ _ _ hR hS hl
  · have h := iq c h
    refine lv_iconst (v := 0) hx hb dL_law_1287 (by decide) ?_
    cases h
set_option maxHeartbeats 4000000 in
set_option maxRecDepth 100000 in
theorem law_c35 (C : Cx p s m args meth c RL cL_law 4 (some .boolean) D B ca st) (hX : va_X b L xs s s.heap) (hbl : b < s.heap.size) (hbA : ¬ AA B b) (hcs : cells ≤ room_1.cells ∧ slots ≤ room_1.slots) {a1 : Int32} (hi1 : vp_in (x3 + 1) L) (ha1 : xs (x3 + 1).toNatClampNeg = a1) {M M' : Mem} (h : lawOp_35 a1 M = some M') (hk : ∀ (H : Heap) (locs : List Loc) (ls : Array Slot), RH D B ca M' H → va_S (AA B) s.heap H locs → lv_has ls 4 [(0, .ref b), (1, .ref (B + 1)), (2, .ref (B + 65)), (3, .int x3)] → W p l e room_1 s m args below meth c H locs cells slots Q (F0 m 1459 ls [])) : ∀ {H : Heap} {locs : List Loc} {ls : Array Slot}, RH D B ca M H → va_S (AA B) s.heap H locs → lv_has ls 4 [(0, .ref b), (1, .ref (B + 1)), (2, .ref (B + 65)), (3, .int x3)] → W p l e room_1 s m args below meth c H locs cells slots Q (F0 m 1289 ls []) := by
  have hx := C.1
  have hb := C.2.1
  unfold lawOp_35 at h
  intro H locs ls hR hS hl
  refine lv_aload_n hx hb dL_law_1289 rfl (lv_at hl 1 rfl) ?_
  refine lv_aload_n hx hb dL_law_1290 rfl (lv_at hl 0 rfl) ?_
  refine lv_iload_n hx hb dL_law_1291 rfl (lv_at hl 3 rfl) ?_
  refine lv_iconst (v := 1) hx hb dL_law_1292 (by decide) ?_
  refine lv_iadd hx hb dL_law_1293 ?_
  refine rl_ld C hX hbl hbA hS hi1 ha1 dL_law_1294 ?_
  obtain ⟨qv2, zqe1, h⟩ := ob h
  refine rc_V C hR hS cf_X7_mid cv_X7_mid lk863 (ok_X7_mid zqe1) (ck_X7_mid zqe1) ⟨Nat.le_of_ble_eq_true rfl, Nat.le_of_ble_eq_true rfl⟩ hcs rfl rfl hl.1 (Nat.le_of_ble_eq_true rfl) dL_law_1295 (rc_k1 (fun H locs hR hS => ?_))
  refine lv_aload_n hx hb dL_law_1298 rfl (lv_at hl 2 rfl) ?_
  refine lv_aload_n hx hb dL_law_1299 rfl (lv_at hl 0 rfl) ?_
  refine lv_iload_n hx hb dL_law_1300 rfl (lv_at hl 3 rfl) ?_
  refine lv_iconst (v := 1) hx hb dL_law_1301 (by decide) ?_
  refine lv_iadd hx hb dL_law_1302 ?_
  refine rl_ld C hX hbl hbA hS hi1 ha1 dL_law_1303 ?_
  obtain ⟨qv5, zqe4, h⟩ := ob h
  refine rc_V C hR hS cf_X8_mid cv_X8_mid lk1408 (ok_X8_mid zqe4) (ck_X8_mid zqe4) ⟨Nat.le_of_ble_eq_true rfl, Nat.le_of_ble_eq_true rfl⟩ hcs rfl rfl hl.1 (Nat.le_of_ble_eq_true rfl) dL_law_1304 (rc_k1 (fun H locs hR hS => ?_))
  refine lv_icmp_eq (tgt := 1459) hx hb dL_law_1307 (by decide) (fun c => ?_) (fun c => ?_)
  · have h := ip c h
    cases h
    exact hk _ _ _ hR hS hl
  · have h := iq c h
    refine lv_iconst (v := 0) hx hb dL_law_1310 (by decide) ?_
    cases h
set_option maxHeartbeats 4000000 in
set_option maxRecDepth 100000 in
theorem law_c36 (C : Cx p s m args meth c RL cL_law 4 (some .boolean) D B ca st) (hX : va_X b L xs s s.heap) (hbl : b < s.heap.size) (hbA : ¬ AA B b) (hcs : cells ≤ room_1.cells ∧ slots ≤ room_1.slots) {a1 : Int32} (hi1 : vp_in (x3 + 1) L) (ha1 : xs (x3 + 1).toNatClampNeg = a1) {a2 : Int32} (hi2 : vp_in (x3 + 2) L) (ha2 : xs (x3 + 2).toNatClampNeg = a2) {M M' : Mem} (h : lawOp_36 a1 a2 M = some M') (hk : ∀ (H : Heap) (locs : List Loc) (ls : Array Slot), RH D B ca M' H → va_S (AA B) s.heap H locs → lv_has ls 4 [(0, .ref b), (1, .ref (B + 1)), (2, .ref (B + 65)), (3, .int x3)] → W p l e room_1 s m args below meth c H locs cells slots Q (F0 m 1459 ls [])) : ∀ {H : Heap} {locs : List Loc} {ls : Array Slot}, RH D B ca M H → va_S (AA B) s.heap H locs → lv_has ls 4 [(0, .ref b), (1, .ref (B + 1)), (2, .ref (B + 65)), (3, .int x3)] → W p l e room_1 s m args below meth c H locs cells slots Q (F0 m 1312 ls []) := by
  have hx := C.1
  have hb := C.2.1
  unfold lawOp_36 at h
  intro H locs ls hR hS hl
  refine lv_aload_n hx hb dL_law_1312 rfl (lv_at hl 1 rfl) ?_
  refine lv_aload_n hx hb dL_law_1313 rfl (lv_at hl 0 rfl) ?_
  refine lv_iload_n hx hb dL_law_1314 rfl (lv_at hl 3 rfl) ?_
  refine lv_iconst (v := 1) hx hb dL_law_1315 (by decide) ?_
  refine lv_iadd hx hb dL_law_1316 ?_
  refine rl_ld C hX hbl hbA hS hi1 ha1 dL_law_1317 ?_
  refine lv_aload_n hx hb dL_law_1318 rfl (lv_at hl 0 rfl) ?_
  refine lv_iload_n hx hb dL_law_1319 rfl (lv_at hl 3 rfl) ?_
  refine lv_iconst (v := 2) hx hb dL_law_1320 (by decide) ?_
  refine lv_iadd hx hb dL_law_1321 ?_
  refine rl_ld C hX hbl hbA hS hi2 ha2 dL_law_1322 ?_
  obtain ⟨qv2, zqe1, h⟩ := ob h
  refine rc_V C hR hS cf_X7_lots cv_X7_lots lk867 (ok_X7_lots zqe1) (ck_X7_lots zqe1) ⟨Nat.le_of_ble_eq_true rfl, Nat.le_of_ble_eq_true rfl⟩ hcs rfl rfl hl.1 (Nat.le_of_ble_eq_true rfl) dL_law_1323 (rc_k1 (fun H locs hR hS => ?_))
  refine lv_aload_n hx hb dL_law_1326 rfl (lv_at hl 2 rfl) ?_
  refine lv_aload_n hx hb dL_law_1327 rfl (lv_at hl 0 rfl) ?_
  refine lv_iload_n hx hb dL_law_1328 rfl (lv_at hl 3 rfl) ?_
  refine lv_iconst (v := 1) hx hb dL_law_1329 (by decide) ?_
  refine lv_iadd hx hb dL_law_1330 ?_
  refine rl_ld C hX hbl hbA hS hi1 ha1 dL_law_1331 ?_
  refine lv_aload_n hx hb dL_law_1332 rfl (lv_at hl 0 rfl) ?_
  refine lv_iload_n hx hb dL_law_1333 rfl (lv_at hl 3 rfl) ?_
  refine lv_iconst (v := 2) hx hb dL_law_1334 (by decide) ?_
  refine lv_iadd hx hb dL_law_1335 ?_
  refine rl_ld C hX hbl hbA hS hi2 ha2 dL_law_1336 ?_
  obtain ⟨qv5, zqe4, h⟩ := ob h
  refine rc_V C hR hS cf_X8_lots cv_X8_lots lk1412 (ok_X8_lots zqe4) (ck_X8_lots zqe4) ⟨Nat.le_of_ble_eq_true rfl, Nat.le_of_ble_eq_true rfl⟩ hcs rfl rfl hl.1 (Nat.le_of_ble_eq_true rfl) dL_law_1337 (rc_k1 (fun H locs hR hS => ?_))
  refine lv_icmp_eq (tgt := 1459) hx hb dL_law_1340 (by decide) (fun c => ?_) (fun c => ?_)
  · have h := ip c h
    cases h
    exact hk _ _ _ hR hS hl
  · have h := iq c h
    refine lv_iconst (v := 0) hx hb dL_law_1343 (by decide) ?_
    cases h
set_option maxHeartbeats 4000000 in
set_option maxRecDepth 100000 in
theorem law_c37 (C : Cx p s m args meth c RL cL_law 4 (some .boolean) D B ca st) (hX : va_X b L xs s s.heap) (hbl : b < s.heap.size) (hbA : ¬ AA B b) (hcs : cells ≤ room_1.cells ∧ slots ≤ room_1.slots)  {M M' : Mem} (h : lawOp_37  M = some M') (hk : ∀ (H : Heap) (locs : List Loc) (ls : Array Slot), RH D B ca M' H → va_S (AA B) s.heap H locs → lv_has ls 4 [(0, .ref b), (1, .ref (B + 1)), (2, .ref (B + 65)), (3, .int x3)] → W p l e room_1 s m args below meth c H locs cells slots Q (F0 m 1459 ls [])) : ∀ {H : Heap} {locs : List Loc} {ls : Array Slot}, RH D B ca M H → va_S (AA B) s.heap H locs → lv_has ls 4 [(0, .ref b), (1, .ref (B + 1)), (2, .ref (B + 65)), (3, .int x3)] → W p l e room_1 s m args below meth c H locs cells slots Q (F0 m 1345 ls []) := by
  have hx := C.1
  have hb := C.2.1
  unfold lawOp_37 at h
  intro H locs ls hR hS hl
  refine lv_aload_n hx hb dL_law_1345 rfl (lv_at hl 1 rfl) ?_
  obtain ⟨v2, zqe1, h⟩ := ob h
  refine rc_V C hR hS cf_X7_asked cv_X7_asked lk877 (ok_X7_asked zqe1) (ck_X7_asked zqe1) ⟨Nat.le_of_ble_eq_true rfl, Nat.le_of_ble_eq_true rfl⟩ hcs rfl rfl hl.1 (Nat.le_of_ble_eq_true rfl) dL_law_1346 (rc_k1 (fun H locs hR hS => ?_))
  refine lv_aload_n hx hb dL_law_1349 rfl (lv_at hl 2 rfl) ?_
  obtain ⟨v4, zqe3, h⟩ := ob h
  refine rc_V C hR hS cf_X8_asked cv_X8_asked lk1421 (ok_X8_asked zqe3) (ck_X8_asked zqe3) ⟨Nat.le_of_ble_eq_true rfl, Nat.le_of_ble_eq_true rfl⟩ hcs rfl rfl hl.1 (Nat.le_of_ble_eq_true rfl) dL_law_1350 (rc_k1 (fun H locs hR hS => ?_))
  refine lv_icmp_eq (tgt := 1459) hx hb dL_law_1353 (by decide) (fun c => ?_) (fun c => ?_)
  · have h := ip c h
    cases h
    exact hk _ _ _ hR hS hl
  · have h := iq c h
    refine lv_iconst (v := 0) hx hb dL_law_1356 (by decide) ?_
    cases h
set_option maxHeartbeats 4000000 in
set_option maxRecDepth 100000 in
theorem law_c38 (C : Cx p s m args meth c RL cL_law 4 (some .boolean) D B ca st) (hX : va_X b L xs s s.heap) (hbl : b < s.heap.size) (hbA : ¬ AA B b) (hcs : cells ≤ room_1.cells ∧ slots ≤ room_1.slots)  {M M' : Mem} (h : lawOp_38  M = some M') (hk : ∀ (H : Heap) (locs : List Loc) (ls : Array Slot), RH D B ca M' H → va_S (AA B) s.heap H locs → lv_has ls 4 [(0, .ref b), (1, .ref (B + 1)), (2, .ref (B + 65)), (3, .int x3)] → W p l e room_1 s m args below meth c H locs cells slots Q (F0 m 1459 ls [])) : ∀ {H : Heap} {locs : List Loc} {ls : Array Slot}, RH D B ca M H → va_S (AA B) s.heap H locs → lv_has ls 4 [(0, .ref b), (1, .ref (B + 1)), (2, .ref (B + 65)), (3, .int x3)] → W p l e room_1 s m args below meth c H locs cells slots Q (F0 m 1358 ls []) := by
  have hx := C.1
  have hb := C.2.1
  unfold lawOp_38 at h
  intro H locs ls hR hS hl
  refine lv_aload_n hx hb dL_law_1358 rfl (lv_at hl 1 rfl) ?_
  obtain ⟨v2, zqe1, h⟩ := ob h
  refine rc_V C hR hS cf_X7_upper cv_X7_upper lk881 (ok_X7_upper zqe1) (ck_X7_upper zqe1) ⟨Nat.le_of_ble_eq_true rfl, Nat.le_of_ble_eq_true rfl⟩ hcs rfl rfl hl.1 (Nat.le_of_ble_eq_true rfl) dL_law_1359 (rc_k1 (fun H locs hR hS => ?_))
  refine lv_aload_n hx hb dL_law_1362 rfl (lv_at hl 2 rfl) ?_
  obtain ⟨v4, zqe3, h⟩ := ob h
  refine rc_V C hR hS cf_X8_upper cv_X8_upper lk1425 (ok_X8_upper zqe3) (ck_X8_upper zqe3) ⟨Nat.le_of_ble_eq_true rfl, Nat.le_of_ble_eq_true rfl⟩ hcs rfl rfl hl.1 (Nat.le_of_ble_eq_true rfl) dL_law_1363 (rc_k1 (fun H locs hR hS => ?_))
  refine W.lcmp hx hb dL_law_1366 ?_
  refine lv_if_eq (tgt := 1459) hx hb dL_law_1367 (by decide) (fun c => ?_) (fun c => ?_)
  · have h := ip c h
    cases h
    exact hk _ _ _ hR hS hl
  · have h := iq c h
    refine lv_iconst (v := 0) hx hb dL_law_1370 (by decide) ?_
    cases h
set_option maxHeartbeats 4000000 in
set_option maxRecDepth 100000 in
theorem law_c39 (C : Cx p s m args meth c RL cL_law 4 (some .boolean) D B ca st) (hX : va_X b L xs s s.heap) (hbl : b < s.heap.size) (hbA : ¬ AA B b) (hcs : cells ≤ room_1.cells ∧ slots ≤ room_1.slots)  {M M' : Mem} (h : lawOp_39  M = some M') (hk : ∀ (H : Heap) (locs : List Loc) (ls : Array Slot), RH D B ca M' H → va_S (AA B) s.heap H locs → lv_has ls 4 [(0, .ref b), (1, .ref (B + 1)), (2, .ref (B + 65)), (3, .int x3)] → W p l e room_1 s m args below meth c H locs cells slots Q (F0 m 1459 ls [])) : ∀ {H : Heap} {locs : List Loc} {ls : Array Slot}, RH D B ca M H → va_S (AA B) s.heap H locs → lv_has ls 4 [(0, .ref b), (1, .ref (B + 1)), (2, .ref (B + 65)), (3, .int x3)] → W p l e room_1 s m args below meth c H locs cells slots Q (F0 m 1372 ls []) := by
  have hx := C.1
  have hb := C.2.1
  unfold lawOp_39 at h
  intro H locs ls hR hS hl
  refine lv_aload_n hx hb dL_law_1372 rfl (lv_at hl 1 rfl) ?_
  obtain ⟨v2, zqe1, h⟩ := ob h
  refine rc_V C hR hS cf_X7_lower cv_X7_lower lk885 (ok_X7_lower zqe1) (ck_X7_lower zqe1) ⟨Nat.le_of_ble_eq_true rfl, Nat.le_of_ble_eq_true rfl⟩ hcs rfl rfl hl.1 (Nat.le_of_ble_eq_true rfl) dL_law_1373 (rc_k1 (fun H locs hR hS => ?_))
  refine lv_aload_n hx hb dL_law_1376 rfl (lv_at hl 2 rfl) ?_
  obtain ⟨v4, zqe3, h⟩ := ob h
  refine rc_V C hR hS cf_X8_lower cv_X8_lower lk1429 (ok_X8_lower zqe3) (ck_X8_lower zqe3) ⟨Nat.le_of_ble_eq_true rfl, Nat.le_of_ble_eq_true rfl⟩ hcs rfl rfl hl.1 (Nat.le_of_ble_eq_true rfl) dL_law_1377 (rc_k1 (fun H locs hR hS => ?_))
  refine W.lcmp hx hb dL_law_1380 ?_
  refine lv_if_eq (tgt := 1459) hx hb dL_law_1381 (by decide) (fun c => ?_) (fun c => ?_)
  · have h := ip c h
    cases h
    exact hk _ _ _ hR hS hl
  · have h := iq c h
    refine lv_iconst (v := 0) hx hb dL_law_1384 (by decide) ?_
    cases h
set_option maxHeartbeats 4000000 in
set_option maxRecDepth 100000 in
theorem law_c40 (C : Cx p s m args meth c RL cL_law 4 (some .boolean) D B ca st) (hX : va_X b L xs s s.heap) (hbl : b < s.heap.size) (hbA : ¬ AA B b) (hcs : cells ≤ room_1.cells ∧ slots ≤ room_1.slots) {a1 : Int32} (hi1 : vp_in (x3 + 1) L) (ha1 : xs (x3 + 1).toNatClampNeg = a1) {M M' : Mem} (h : lawOp_40 a1 M = some M') (hk : ∀ (H : Heap) (locs : List Loc) (ls : Array Slot), RH D B ca M' H → va_S (AA B) s.heap H locs → lv_has ls 4 [(0, .ref b), (1, .ref (B + 1)), (2, .ref (B + 65)), (3, .int x3)] → W p l e room_1 s m args below meth c H locs cells slots Q (F0 m 1459 ls [])) : ∀ {H : Heap} {locs : List Loc} {ls : Array Slot}, RH D B ca M H → va_S (AA B) s.heap H locs → lv_has ls 4 [(0, .ref b), (1, .ref (B + 1)), (2, .ref (B + 65)), (3, .int x3)] → W p l e room_1 s m args below meth c H locs cells slots Q (F0 m 1386 ls []) := by
  have hx := C.1
  have hb := C.2.1
  unfold lawOp_40 at h
  intro H locs ls hR hS hl
  refine lv_aload_n hx hb dL_law_1386 rfl (lv_at hl 1 rfl) ?_
  refine lv_aload_n hx hb dL_law_1387 rfl (lv_at hl 0 rfl) ?_
  refine lv_iload_n hx hb dL_law_1388 rfl (lv_at hl 3 rfl) ?_
  refine lv_iconst (v := 1) hx hb dL_law_1389 (by decide) ?_
  refine lv_iadd hx hb dL_law_1390 ?_
  refine rl_ld C hX hbl hbA hS hi1 ha1 dL_law_1391 ?_
  obtain ⟨v2, zqe1, h⟩ := ob h
  refine rc_V C hR hS cf_X7_count cv_X7_count lk889 (ok_X7_count zqe1) (ck_X7_count zqe1) ⟨Nat.le_of_ble_eq_true rfl, Nat.le_of_ble_eq_true rfl⟩ hcs rfl rfl hl.1 (Nat.le_of_ble_eq_true rfl) dL_law_1392 (rc_k1 (fun H locs hR hS => ?_))
  refine lv_aload_n hx hb dL_law_1395 rfl (lv_at hl 2 rfl) ?_
  refine lv_aload_n hx hb dL_law_1396 rfl (lv_at hl 0 rfl) ?_
  refine lv_iload_n hx hb dL_law_1397 rfl (lv_at hl 3 rfl) ?_
  refine lv_iconst (v := 1) hx hb dL_law_1398 (by decide) ?_
  refine lv_iadd hx hb dL_law_1399 ?_
  refine rl_ld C hX hbl hbA hS hi1 ha1 dL_law_1400 ?_
  obtain ⟨v4, zqe3, h⟩ := ob h
  refine rc_V C hR hS cf_X8_count cv_X8_count lk1433 (ok_X8_count zqe3) (ck_X8_count zqe3) ⟨Nat.le_of_ble_eq_true rfl, Nat.le_of_ble_eq_true rfl⟩ hcs rfl rfl hl.1 (Nat.le_of_ble_eq_true rfl) dL_law_1401 (rc_k1 (fun H locs hR hS => ?_))
  refine lv_icmp_eq (tgt := 1459) hx hb dL_law_1404 (by decide) (fun c => ?_) (fun c => ?_)
  · have h := ip c h
    cases h
    exact hk _ _ _ hR hS hl
  · have h := iq c h
    refine lv_iconst (v := 0) hx hb dL_law_1407 (by decide) ?_
    cases h
set_option maxHeartbeats 4000000 in
set_option maxRecDepth 100000 in
theorem law_c41 (C : Cx p s m args meth c RL cL_law 4 (some .boolean) D B ca st) (hX : va_X b L xs s s.heap) (hbl : b < s.heap.size) (hbA : ¬ AA B b) (hcs : cells ≤ room_1.cells ∧ slots ≤ room_1.slots)  {M M' : Mem} (h : lawOp_41  M = some M') (hk : ∀ (H : Heap) (locs : List Loc) (ls : Array Slot), RH D B ca M' H → va_S (AA B) s.heap H locs → lv_has ls 4 [(0, .ref b), (1, .ref (B + 1)), (2, .ref (B + 65)), (3, .int x3)] → W p l e room_1 s m args below meth c H locs cells slots Q (F0 m 1459 ls [])) : ∀ {H : Heap} {locs : List Loc} {ls : Array Slot}, RH D B ca M H → va_S (AA B) s.heap H locs → lv_has ls 4 [(0, .ref b), (1, .ref (B + 1)), (2, .ref (B + 65)), (3, .int x3)] → W p l e room_1 s m args below meth c H locs cells slots Q (F0 m 1409 ls []) := by
  have hx := C.1
  have hb := C.2.1
  unfold lawOp_41 at h
  intro H locs ls hR hS hl
  refine lv_aload_n hx hb dL_law_1409 rfl (lv_at hl 1 rfl) ?_
  obtain ⟨v2, zqe1, h⟩ := ob h
  refine rc_V C hR hS cf_X7_finding cv_X7_finding lk918 (ok_X7_finding zqe1) (ck_X7_finding zqe1) ⟨Nat.le_of_ble_eq_true rfl, Nat.le_of_ble_eq_true rfl⟩ hcs rfl rfl hl.1 (Nat.le_of_ble_eq_true rfl) dL_law_1410 (rc_k1 (fun H locs hR hS => ?_))
  refine lv_aload_n hx hb dL_law_1413 rfl (lv_at hl 2 rfl) ?_
  obtain ⟨v4, zqe3, h⟩ := ob h
  refine rc_V C hR hS cf_X8_finding cv_X8_finding lk1454 (ok_X8_finding zqe3) (ck_X8_finding zqe3) ⟨Nat.le_of_ble_eq_true rfl, Nat.le_of_ble_eq_true rfl⟩ hcs rfl rfl hl.1 (Nat.le_of_ble_eq_true rfl) dL_law_1414 (rc_k1 (fun H locs hR hS => ?_))
  refine lv_icmp_eq (tgt := 1459) hx hb dL_law_1417 (by decide) (fun c => ?_) (fun c => ?_)
  · have h := ip c h
    cases h
    exact hk _ _ _ hR hS hl
  · have h := iq c h
    refine lv_iconst (v := 0) hx hb dL_law_1420 (by decide) ?_
    cases h
set_option maxHeartbeats 4000000 in
set_option maxRecDepth 100000 in
theorem law_c42 (C : Cx p s m args meth c RL cL_law 4 (some .boolean) D B ca st) (hX : va_X b L xs s s.heap) (hbl : b < s.heap.size) (hbA : ¬ AA B b) (hcs : cells ≤ room_1.cells ∧ slots ≤ room_1.slots) {a1 : Int32} (hi1 : vp_in (x3 + 1) L) (ha1 : xs (x3 + 1).toNatClampNeg = a1) {M M' : Mem} (h : lawOp_42 a1 M = some M') (hk : ∀ (H : Heap) (locs : List Loc) (ls : Array Slot), RH D B ca M' H → va_S (AA B) s.heap H locs → lv_has ls 4 [(0, .ref b), (1, .ref (B + 1)), (2, .ref (B + 65)), (3, .int x3)] → W p l e room_1 s m args below meth c H locs cells slots Q (F0 m 1459 ls [])) : ∀ {H : Heap} {locs : List Loc} {ls : Array Slot}, RH D B ca M H → va_S (AA B) s.heap H locs → lv_has ls 4 [(0, .ref b), (1, .ref (B + 1)), (2, .ref (B + 65)), (3, .int x3)] → W p l e room_1 s m args below meth c H locs cells slots Q (F0 m 1422 ls []) := by
  have hx := C.1
  have hb := C.2.1
  unfold lawOp_42 at h
  intro H locs ls hR hS hl
  refine lv_aload_n hx hb dL_law_1422 rfl (lv_at hl 1 rfl) ?_
  refine lv_aload_n hx hb dL_law_1423 rfl (lv_at hl 0 rfl) ?_
  refine lv_iload_n hx hb dL_law_1424 rfl (lv_at hl 3 rfl) ?_
  refine lv_iconst (v := 1) hx hb dL_law_1425 (by decide) ?_
  refine lv_iadd hx hb dL_law_1426 ?_
  refine rl_ld C hX hbl hbA hS hi1 ha1 dL_law_1427 ?_
  obtain ⟨v2, zqe1, h⟩ := ob h
  refine rc_V C hR hS cf_X7_findings cv_X7_findings lk922 (ok_X7_findings zqe1) (ck_X7_findings zqe1) ⟨Nat.le_of_ble_eq_true rfl, Nat.le_of_ble_eq_true rfl⟩ hcs rfl rfl hl.1 (Nat.le_of_ble_eq_true rfl) dL_law_1428 (rc_k1 (fun H locs hR hS => ?_))
  refine lv_aload_n hx hb dL_law_1431 rfl (lv_at hl 2 rfl) ?_
  refine lv_aload_n hx hb dL_law_1432 rfl (lv_at hl 0 rfl) ?_
  refine lv_iload_n hx hb dL_law_1433 rfl (lv_at hl 3 rfl) ?_
  refine lv_iconst (v := 1) hx hb dL_law_1434 (by decide) ?_
  refine lv_iadd hx hb dL_law_1435 ?_
  refine rl_ld C hX hbl hbA hS hi1 ha1 dL_law_1436 ?_
  obtain ⟨v4, zqe3, h⟩ := ob h
  refine rc_V C hR hS cf_X8_findings cv_X8_findings lk1458 (ok_X8_findings zqe3) (ck_X8_findings zqe3) ⟨Nat.le_of_ble_eq_true rfl, Nat.le_of_ble_eq_true rfl⟩ hcs rfl rfl hl.1 (Nat.le_of_ble_eq_true rfl) dL_law_1437 (rc_k1 (fun H locs hR hS => ?_))
  refine lv_icmp_eq (tgt := 1459) hx hb dL_law_1440 (by decide) (fun c => ?_) (fun c => ?_)
  · have h := ip c h
    cases h
    exact hk _ _ _ hR hS hl
  · have h := iq c h
    refine lv_iconst (v := 0) hx hb dL_law_1443 (by decide) ?_
    cases h
set_option maxHeartbeats 4000000 in
set_option maxRecDepth 100000 in
theorem law_c43 (C : Cx p s m args meth c RL cL_law 4 (some .boolean) D B ca st) (hX : va_X b L xs s s.heap) (hbl : b < s.heap.size) (hbA : ¬ AA B b) (hcs : cells ≤ room_1.cells ∧ slots ≤ room_1.slots)  {M M' : Mem} (h : lawOp_43  M = some M') (hk : ∀ (H : Heap) (locs : List Loc) (ls : Array Slot), RH D B ca M' H → va_S (AA B) s.heap H locs → lv_has ls 4 [(0, .ref b), (1, .ref (B + 1)), (2, .ref (B + 65)), (3, .int x3)] → W p l e room_1 s m args below meth c H locs cells slots Q (F0 m 1459 ls [])) : ∀ {H : Heap} {locs : List Loc} {ls : Array Slot}, RH D B ca M H → va_S (AA B) s.heap H locs → lv_has ls 4 [(0, .ref b), (1, .ref (B + 1)), (2, .ref (B + 65)), (3, .int x3)] → W p l e room_1 s m args below meth c H locs cells slots Q (F0 m 1445 ls []) := by
  have hx := C.1
  have hb := C.2.1
  unfold lawOp_43 at h
  intro H locs ls hR hS hl
  refine lv_aload_n hx hb dL_law_1445 rfl (lv_at hl 1 rfl) ?_
  obtain ⟨v2, zqe1, h⟩ := ob h
  refine rc_V C hR hS cf_X7_digest cv_X7_digest lk926 (ok_X7_digest zqe1) (ck_X7_digest zqe1) ⟨Nat.le_of_ble_eq_true rfl, Nat.le_of_ble_eq_true rfl⟩ hcs rfl rfl hl.1 (Nat.le_of_ble_eq_true rfl) dL_law_1446 (rc_k1 (fun H locs hR hS => ?_))
  refine lv_aload_n hx hb dL_law_1449 rfl (lv_at hl 2 rfl) ?_
  obtain ⟨v4, zqe3, h⟩ := ob h
  refine rc_V C hR hS cf_X8_digest cv_X8_digest lk1462 (ok_X8_digest zqe3) (ck_X8_digest zqe3) ⟨Nat.le_of_ble_eq_true rfl, Nat.le_of_ble_eq_true rfl⟩ hcs rfl rfl hl.1 (Nat.le_of_ble_eq_true rfl) dL_law_1450 (rc_k1 (fun H locs hR hS => ?_))
  refine W.lcmp hx hb dL_law_1453 ?_
  refine lv_if_eq (tgt := 1459) hx hb dL_law_1454 (by decide) (fun c => ?_) (fun c => ?_)
  · have h := ip c h
    cases h
    exact hk _ _ _ hR hS hl
  · have h := iq c h
    refine lv_iconst (v := 0) hx hb dL_law_1457 (by decide) ?_
    cases h
set_option maxHeartbeats 4000000 in
set_option maxRecDepth 100000 in
theorem law_turn (C : Cx p s m args meth c RL cL_law 4 (some .boolean) D B ca st) (hX : va_X b L xs s s.heap) (hbl : b < s.heap.size) (hbA : ¬ AA B b) (hcs : cells ≤ room_1.cells ∧ slots ≤ room_1.slots) (hi0 : vp_in x3 L) (hi1 : vp_in (x3 + 1) L) (hi2 : vp_in (x3 + 2) L) (hi3 : vp_in (x3 + 3) L) (hi4 : vp_in (x3 + 4) L) (hi5 : vp_in (x3 + 5) L) {v a1 a2 a3 a4 a5 : Int32} (hv : xs x3.toNatClampNeg &&& 63 = v) (ha1 : xs (x3 + 1).toNatClampNeg = a1) (ha2 : xs (x3 + 2).toNatClampNeg = a2) (ha3 : xs (x3 + 3).toNatClampNeg = a3) (ha4 : xs (x3 + 4).toNatClampNeg = a4) (ha5 : xs (x3 + 5).toNatClampNeg = a5) {M M' : Mem} (h : lawOps v a1 a2 a3 a4 a5 M = some M') (hk : ∀ (H : Heap) (locs : List Loc) (ls : Array Slot), RH D B ca M' H → va_S (AA B) s.heap H locs → lv_has ls 4 [(0, .ref b), (1, .ref (B + 1)), (2, .ref (B + 65)), (3, .int x3)] → W p l e room_1 s m args below meth c H locs cells slots Q (F0 m 1459 ls [])) : ∀ {H : Heap} {locs : List Loc} {ls : Array Slot}, RH D B ca M H → va_S (AA B) s.heap H locs → lv_has ls 4 [(0, .ref b), (1, .ref (B + 1)), (2, .ref (B + 65)), (3, .int x3)] → W p l e room_1 s m args below meth c H locs cells slots Q (F0 m 27 ls []) := by
  have hx := C.1
  have hb := C.2.1
  unfold lawOps at h
  intro H locs ls hR hS hl
  refine lv_aload_n hx hb dL_law_27 rfl (lv_at hl 0 rfl) ?_
  refine lv_iload_n hx hb dL_law_28 rfl (lv_at hl 3 rfl) ?_
  refine va_sld hx hb hX hbl hbA hS hi0 dL_law_29 ?_
  refine lv_bipush (v := 63) hx hb dL_law_30 (by decide) ?_
  refine lv_iand hx hb dL_law_32 ?_
  rw [hv]
  by_cases zqc0 : v = 0
  · have h := ip zqc0 h
    refine lv_tableIn (off := 191) (tgt := 224) hx hb dL_law_33 (by rw [zqc0]; decide) (by rw [zqc0]; decide) (by rw [zqc0]; decide +kernel) (by decide) ?_
    exact law_c0 C hX hbl hbA hcs hi1 ha1 hi2 ha2 h hk hR hS hl
  have h := iq zqc0 h
  by_cases zqc1 : v = 1
  · have h := ip zqc1 h
    refine lv_tableIn (off := 224) (tgt := 257) hx hb dL_law_33 (by rw [zqc1]; decide) (by rw [zqc1]; decide) (by rw [zqc1]; decide +kernel) (by decide) ?_
    exact law_c1 C hX hbl hbA hcs hi1 ha1 hi2 ha2 hi3 ha3 h hk hR hS hl
  have h := iq zqc1 h
  by_cases zqc2 : v = 2
  · have h := ip zqc2 h
    refine lv_tableIn (off := 267) (tgt := 300) hx hb dL_law_33 (by rw [zqc2]; decide) (by rw [zqc2]; decide) (by rw [zqc2]; decide +kernel) (by decide) ?_
    exact law_c2 C hX hbl hbA hcs hi1 ha1 hi2 ha2 h hk hR hS hl
  have h := iq zqc2 h
  by_cases zqc3 : v = 3
  · have h := ip zqc3 h
    refine lv_tableIn (off := 300) (tgt := 333) hx hb dL_law_33 (by rw [zqc3]; decide) (by rw [zqc3]; decide) (by rw [zqc3]; decide +kernel) (by decide) ?_
    exact law_c3 C hX hbl hbA hcs hi1 ha1 h hk hR hS hl
  have h := iq zqc3 h
  by_cases zqc4 : v = 4
  · have h := ip zqc4 h
    refine lv_tableIn (off := 323) (tgt := 356) hx hb dL_law_33 (by rw [zqc4]; decide) (by rw [zqc4]; decide) (by rw [zqc4]; decide +kernel) (by decide) ?_
    exact law_c4 C hX hbl hbA hcs hi1 ha1 hi2 ha2 hi3 ha3 hi4 ha4 hi5 ha5 h hk hR hS hl
  have h := iq zqc4 h
  by_cases zqc5 : v = 5
  · have h := ip zqc5 h
    refine lv_tableIn (off := 386) (tgt := 419) hx hb dL_law_33 (by rw [zqc5]; decide) (by rw [zqc5]; decide) (by rw [zqc5]; decide +kernel) (by decide) ?_
    exact law_c5 C hX hbl hbA hcs hi1 ha1 h hk hR hS hl
  have h := iq zqc5 h
  by_cases zqc6 : v = 6
  · have h := ip zqc6 h
    refine lv_tableIn (off := 409) (tgt := 442) hx hb dL_law_33 (by rw [zqc6]; decide) (by rw [zqc6]; decide) (by rw [zqc6]; decide +kernel) (by decide) ?_
    exact law_c6 C hX hbl hbA hcs hi1 ha1 hi2 ha2 h hk hR hS hl
  have h := iq zqc6 h
  by_cases zqc7 : v = 7
  · have h := ip zqc7 h
    refine lv_tableIn (off := 442) (tgt := 475) hx hb dL_law_33 (by rw [zqc7]; decide) (by rw [zqc7]; decide) (by rw [zqc7]; decide +kernel) (by decide) ?_
    exact law_c7 C hX hbl hbA hcs hi1 ha1 hi2 ha2 hi3 ha3 h hk hR hS hl
  have h := iq zqc7 h
  by_cases zqc8 : v = 8
  · have h := ip zqc8 h
    refine lv_tableIn (off := 485) (tgt := 518) hx hb dL_law_33 (by rw [zqc8]; decide) (by rw [zqc8]; decide) (by rw [zqc8]; decide +kernel) (by decide) ?_
    exact law_c8 C hX hbl hbA hcs hi1 ha1 h hk hR hS hl
  have h := iq zqc8 h
  by_cases zqc9 : v = 9
  · have h := ip zqc9 h
    refine lv_tableIn (off := 508) (tgt := 541) hx hb dL_law_33 (by rw [zqc9]; decide) (by rw [zqc9]; decide) (by rw [zqc9]; decide +kernel) (by decide) ?_
    exact law_c9 C hX hbl hbA hcs hi1 ha1 h hk hR hS hl
  have h := iq zqc9 h
  by_cases zqc10 : v = 10
  · have h := ip zqc10 h
    refine lv_tableIn (off := 531) (tgt := 564) hx hb dL_law_33 (by rw [zqc10]; decide) (by rw [zqc10]; decide) (by rw [zqc10]; decide +kernel) (by decide) ?_
    exact law_c10 C hX hbl hbA hcs hi1 ha1 hi2 ha2 h hk hR hS hl
  have h := iq zqc10 h
  by_cases zqc11 : v = 11
  · have h := ip zqc11 h
    refine lv_tableIn (off := 564) (tgt := 597) hx hb dL_law_33 (by rw [zqc11]; decide) (by rw [zqc11]; decide) (by rw [zqc11]; decide +kernel) (by decide) ?_
    exact law_c11 C hX hbl hbA hcs hi1 ha1 hi2 ha2 h hk hR hS hl
  have h := iq zqc11 h
  by_cases zqc12 : v = 12
  · have h := ip zqc12 h
    refine lv_tableIn (off := 597) (tgt := 630) hx hb dL_law_33 (by rw [zqc12]; decide) (by rw [zqc12]; decide) (by rw [zqc12]; decide +kernel) (by decide) ?_
    exact law_c12 C hX hbl hbA hcs hi1 ha1 hi2 ha2 h hk hR hS hl
  have h := iq zqc12 h
  by_cases zqc13 : v = 13
  · have h := ip zqc13 h
    refine lv_tableIn (off := 630) (tgt := 663) hx hb dL_law_33 (by rw [zqc13]; decide) (by rw [zqc13]; decide) (by rw [zqc13]; decide +kernel) (by decide) ?_
    exact law_c13 C hX hbl hbA hcs hi1 ha1 hi2 ha2 h hk hR hS hl
  have h := iq zqc13 h
  by_cases zqc14 : v = 14
  · have h := ip zqc14 h
    refine lv_tableIn (off := 663) (tgt := 696) hx hb dL_law_33 (by rw [zqc14]; decide) (by rw [zqc14]; decide) (by rw [zqc14]; decide +kernel) (by decide) ?_
    exact law_c14 C hX hbl hbA hcs hi1 ha1 hi2 ha2 h hk hR hS hl
  have h := iq zqc14 h
  by_cases zqc15 : v = 15
  · have h := ip zqc15 h
    refine lv_tableIn (off := 696) (tgt := 729) hx hb dL_law_33 (by rw [zqc15]; decide) (by rw [zqc15]; decide) (by rw [zqc15]; decide +kernel) (by decide) ?_
    exact law_c15 C hX hbl hbA hcs hi1 ha1 h hk hR hS hl
  have h := iq zqc15 h
  by_cases zqc16 : v = 16
  · have h := ip zqc16 h
    refine lv_tableIn (off := 719) (tgt := 752) hx hb dL_law_33 (by rw [zqc16]; decide) (by rw [zqc16]; decide) (by rw [zqc16]; decide +kernel) (by decide) ?_
    exact law_c16 C hX hbl hbA hcs hi1 ha1 h hk hR hS hl
  have h := iq zqc16 h
  by_cases zqc17 : v = 17
  · have h := ip zqc17 h
    refine lv_tableIn (off := 742) (tgt := 775) hx hb dL_law_33 (by rw [zqc17]; decide) (by rw [zqc17]; decide) (by rw [zqc17]; decide +kernel) (by decide) ?_
    exact law_c17 C hX hbl hbA hcs hi1 ha1 h hk hR hS hl
  have h := iq zqc17 h
  by_cases zqc18 : v = 18
  · have h := ip zqc18 h
    refine lv_tableIn (off := 765) (tgt := 798) hx hb dL_law_33 (by rw [zqc18]; decide) (by rw [zqc18]; decide) (by rw [zqc18]; decide +kernel) (by decide) ?_
    exact law_c18 C hX hbl hbA hcs hi1 ha1 h hk hR hS hl
  have h := iq zqc18 h
  by_cases zqc19 : v = 19
  · have h := ip zqc19 h
    refine lv_tableIn (off := 788) (tgt := 821) hx hb dL_law_33 (by rw [zqc19]; decide) (by rw [zqc19]; decide) (by rw [zqc19]; decide +kernel) (by decide) ?_
    exact law_c19 C hX hbl hbA hcs hi1 ha1 hi2 ha2 h hk hR hS hl
  have h := iq zqc19 h
  by_cases zqc20 : v = 20
  · have h := ip zqc20 h
    refine lv_tableIn (off := 821) (tgt := 854) hx hb dL_law_33 (by rw [zqc20]; decide) (by rw [zqc20]; decide) (by rw [zqc20]; decide +kernel) (by decide) ?_
    exact law_c20 C hX hbl hbA hcs hi1 ha1 hi2 ha2 h hk hR hS hl
  have h := iq zqc20 h
  by_cases zqc21 : v = 21
  · have h := ip zqc21 h
    refine lv_tableIn (off := 854) (tgt := 887) hx hb dL_law_33 (by rw [zqc21]; decide) (by rw [zqc21]; decide) (by rw [zqc21]; decide +kernel) (by decide) ?_
    exact law_c21 C hX hbl hbA hcs hi1 ha1 h hk hR hS hl
  have h := iq zqc21 h
  by_cases zqc22 : v = 22
  · have h := ip zqc22 h
    refine lv_tableIn (off := 877) (tgt := 910) hx hb dL_law_33 (by rw [zqc22]; decide) (by rw [zqc22]; decide) (by rw [zqc22]; decide +kernel) (by decide) ?_
    exact law_c22 C hX hbl hbA hcs hi1 ha1 h hk hR hS hl
  have h := iq zqc22 h
  by_cases zqc23 : v = 23
  · have h := ip zqc23 h
    refine lv_tableIn (off := 900) (tgt := 933) hx hb dL_law_33 (by rw [zqc23]; decide) (by rw [zqc23]; decide) (by rw [zqc23]; decide +kernel) (by decide) ?_
    exact law_c23 C hX hbl hbA hcs  h hk hR hS hl
  have h := iq zqc23 h
  by_cases zqc24 : v = 24
  · have h := ip zqc24 h
    refine lv_tableIn (off := 913) (tgt := 946) hx hb dL_law_33 (by rw [zqc24]; decide) (by rw [zqc24]; decide) (by rw [zqc24]; decide +kernel) (by decide) ?_
    exact law_c24 C hX hbl hbA hcs hi1 ha1 hi2 ha2 h hk hR hS hl
  have h := iq zqc24 h
  by_cases zqc25 : v = 25
  · have h := ip zqc25 h
    refine lv_tableIn (off := 946) (tgt := 979) hx hb dL_law_33 (by rw [zqc25]; decide) (by rw [zqc25]; decide) (by rw [zqc25]; decide +kernel) (by decide) ?_
    exact law_c25 C hX hbl hbA hcs hi1 ha1 hi2 ha2 hi3 ha3 h hk hR hS hl
  have h := iq zqc25 h
  by_cases zqc26 : v = 26
  · have h := ip zqc26 h
    refine lv_tableIn (off := 989) (tgt := 1022) hx hb dL_law_33 (by rw [zqc26]; decide) (by rw [zqc26]; decide) (by rw [zqc26]; decide +kernel) (by decide) ?_
    exact law_c26 C hX hbl hbA hcs hi1 ha1 hi2 ha2 h hk hR hS hl
  have h := iq zqc26 h
  by_cases zqc27 : v = 27
  · have h := ip zqc27 h
    refine lv_tableIn (off := 1022) (tgt := 1055) hx hb dL_law_33 (by rw [zqc27]; decide) (by rw [zqc27]; decide) (by rw [zqc27]; decide +kernel) (by decide) ?_
    exact law_c27 C hX hbl hbA hcs hi1 ha1 h hk hR hS hl
  have h := iq zqc27 h
  by_cases zqc28 : v = 28
  · have h := ip zqc28 h
    refine lv_tableIn (off := 1045) (tgt := 1078) hx hb dL_law_33 (by rw [zqc28]; decide) (by rw [zqc28]; decide) (by rw [zqc28]; decide +kernel) (by decide) ?_
    exact law_c28 C hX hbl hbA hcs hi1 ha1 h hk hR hS hl
  have h := iq zqc28 h
  by_cases zqc29 : v = 29
  · have h := ip zqc29 h
    refine lv_tableIn (off := 1068) (tgt := 1101) hx hb dL_law_33 (by rw [zqc29]; decide) (by rw [zqc29]; decide) (by rw [zqc29]; decide +kernel) (by decide) ?_
    exact law_c29 C hX hbl hbA hcs hi1 ha1 hi2 ha2 hi3 ha3 h hk hR hS hl
  have h := iq zqc29 h
  by_cases zqc30 : v = 30
  · have h := ip zqc30 h
    refine lv_tableIn (off := 1111) (tgt := 1144) hx hb dL_law_33 (by rw [zqc30]; decide) (by rw [zqc30]; decide) (by rw [zqc30]; decide +kernel) (by decide) ?_
    exact law_c30 C hX hbl hbA hcs hi1 ha1 h hk hR hS hl
  have h := iq zqc30 h
  by_cases zqc31 : v = 31
  · have h := ip zqc31 h
    refine lv_tableIn (off := 1134) (tgt := 1167) hx hb dL_law_33 (by rw [zqc31]; decide) (by rw [zqc31]; decide) (by rw [zqc31]; decide +kernel) (by decide) ?_
    exact law_c31 C hX hbl hbA hcs hi1 ha1 hi2 ha2 h hk hR hS hl
  have h := iq zqc31 h
  by_cases zqc32 : v = 32
  · have h := ip zqc32 h
    refine lv_tableIn (off := 1167) (tgt := 1200) hx hb dL_law_33 (by rw [zqc32]; decide) (by rw [zqc32]; decide) (by rw [zqc32]; decide +kernel) (by decide) ?_
    exact law_c32 C hX hbl hbA hcs hi1 ha1 hi2 ha2 h hk hR hS hl
  have h := iq zqc32 h
  by_cases zqc33 : v = 33
  · have h := ip zqc33 h
    refine lv_tableIn (off := 1200) (tgt := 1233) hx hb dL_law_33 (by rw [zqc33]; decide) (by rw [zqc33]; decide) (by rw [zqc33]; decide +kernel) (by decide) ?_
    exact law_c33 C hX hbl hbA hcs hi1 ha1 h hk hR hS hl
  have h := iq zqc33 h
  by_cases zqc34 : v = 34
  · have h := ip zqc34 h
    refine lv_tableIn (off := 1223) (tgt := 1256) hx hb dL_law_33 (by rw [zqc34]; decide) (by rw [zqc34]; decide) (by rw [zqc34]; decide +kernel) (by decide) ?_
    exact law_c34 C hX hbl hbA hcs hi1 ha1 hi2 ha2 h hk hR hS hl
  have h := iq zqc34 h
  by_cases zqc35 : v = 35
  · have h := ip zqc35 h
    refine lv_tableIn (off := 1256) (tgt := 1289) hx hb dL_law_33 (by rw [zqc35]; decide) (by rw [zqc35]; decide) (by rw [zqc35]; decide +kernel) (by decide) ?_
    exact law_c35 C hX hbl hbA hcs hi1 ha1 h hk hR hS hl
  have h := iq zqc35 h
  by_cases zqc36 : v = 36
  · have h := ip zqc36 h
    refine lv_tableIn (off := 1279) (tgt := 1312) hx hb dL_law_33 (by rw [zqc36]; decide) (by rw [zqc36]; decide) (by rw [zqc36]; decide +kernel) (by decide) ?_
    exact law_c36 C hX hbl hbA hcs hi1 ha1 hi2 ha2 h hk hR hS hl
  have h := iq zqc36 h
  by_cases zqc37 : v = 37
  · have h := ip zqc37 h
    refine lv_tableIn (off := 1312) (tgt := 1345) hx hb dL_law_33 (by rw [zqc37]; decide) (by rw [zqc37]; decide) (by rw [zqc37]; decide +kernel) (by decide) ?_
    exact law_c37 C hX hbl hbA hcs  h hk hR hS hl
  have h := iq zqc37 h
  by_cases zqc38 : v = 38
  · have h := ip zqc38 h
    refine lv_tableIn (off := 1325) (tgt := 1358) hx hb dL_law_33 (by rw [zqc38]; decide) (by rw [zqc38]; decide) (by rw [zqc38]; decide +kernel) (by decide) ?_
    exact law_c38 C hX hbl hbA hcs  h hk hR hS hl
  have h := iq zqc38 h
  by_cases zqc39 : v = 39
  · have h := ip zqc39 h
    refine lv_tableIn (off := 1339) (tgt := 1372) hx hb dL_law_33 (by rw [zqc39]; decide) (by rw [zqc39]; decide) (by rw [zqc39]; decide +kernel) (by decide) ?_
    exact law_c39 C hX hbl hbA hcs  h hk hR hS hl
  have h := iq zqc39 h
  by_cases zqc40 : v = 40
  · have h := ip zqc40 h
    refine lv_tableIn (off := 1353) (tgt := 1386) hx hb dL_law_33 (by rw [zqc40]; decide) (by rw [zqc40]; decide) (by rw [zqc40]; decide +kernel) (by decide) ?_
    exact law_c40 C hX hbl hbA hcs hi1 ha1 h hk hR hS hl
  have h := iq zqc40 h
  by_cases zqc41 : v = 41
  · have h := ip zqc41 h
    refine lv_tableIn (off := 1376) (tgt := 1409) hx hb dL_law_33 (by rw [zqc41]; decide) (by rw [zqc41]; decide) (by rw [zqc41]; decide +kernel) (by decide) ?_
    exact law_c41 C hX hbl hbA hcs  h hk hR hS hl
  have h := iq zqc41 h
  by_cases zqc42 : v = 42
  · have h := ip zqc42 h
    refine lv_tableIn (off := 1389) (tgt := 1422) hx hb dL_law_33 (by rw [zqc42]; decide) (by rw [zqc42]; decide) (by rw [zqc42]; decide +kernel) (by decide) ?_
    exact law_c42 C hX hbl hbA hcs hi1 ha1 h hk hR hS hl
  have h := iq zqc42 h
  by_cases zqc43 : v = 43
  · have h := ip zqc43 h
    refine lv_tableIn (off := 1412) (tgt := 1445) hx hb dL_law_33 (by rw [zqc43]; decide) (by rw [zqc43]; decide) (by rw [zqc43]; decide +kernel) (by decide) ?_
    exact law_c43 C hX hbl hbA hcs  h hk hR hS hl
  have h := iq zqc43 h
  cases h
  refine lv_tableOut (tgt := 1459) hx hb dL_law_33 (by have q0 := lv_neT (a := 0) zqc0 (by decide); have q1 := lv_neT (a := 1) zqc1 (by decide); have q2 := lv_neT (a := 2) zqc2 (by decide); have q3 := lv_neT (a := 3) zqc3 (by decide); have q4 := lv_neT (a := 4) zqc4 (by decide); have q5 := lv_neT (a := 5) zqc5 (by decide); have q6 := lv_neT (a := 6) zqc6 (by decide); have q7 := lv_neT (a := 7) zqc7 (by decide); have q8 := lv_neT (a := 8) zqc8 (by decide); have q9 := lv_neT (a := 9) zqc9 (by decide); have q10 := lv_neT (a := 10) zqc10 (by decide); have q11 := lv_neT (a := 11) zqc11 (by decide); have q12 := lv_neT (a := 12) zqc12 (by decide); have q13 := lv_neT (a := 13) zqc13 (by decide); have q14 := lv_neT (a := 14) zqc14 (by decide); have q15 := lv_neT (a := 15) zqc15 (by decide); have q16 := lv_neT (a := 16) zqc16 (by decide); have q17 := lv_neT (a := 17) zqc17 (by decide); have q18 := lv_neT (a := 18) zqc18 (by decide); have q19 := lv_neT (a := 19) zqc19 (by decide); have q20 := lv_neT (a := 20) zqc20 (by decide); have q21 := lv_neT (a := 21) zqc21 (by decide); have q22 := lv_neT (a := 22) zqc22 (by decide); have q23 := lv_neT (a := 23) zqc23 (by decide); have q24 := lv_neT (a := 24) zqc24 (by decide); have q25 := lv_neT (a := 25) zqc25 (by decide); have q26 := lv_neT (a := 26) zqc26 (by decide); have q27 := lv_neT (a := 27) zqc27 (by decide); have q28 := lv_neT (a := 28) zqc28 (by decide); have q29 := lv_neT (a := 29) zqc29 (by decide); have q30 := lv_neT (a := 30) zqc30 (by decide); have q31 := lv_neT (a := 31) zqc31 (by decide); have q32 := lv_neT (a := 32) zqc32 (by decide); have q33 := lv_neT (a := 33) zqc33 (by decide); have q34 := lv_neT (a := 34) zqc34 (by decide); have q35 := lv_neT (a := 35) zqc35 (by decide); have q36 := lv_neT (a := 36) zqc36 (by decide); have q37 := lv_neT (a := 37) zqc37 (by decide); have q38 := lv_neT (a := 38) zqc38 (by decide); have q39 := lv_neT (a := 39) zqc39 (by decide); have q40 := lv_neT (a := 40) zqc40 (by decide); have q41 := lv_neT (a := 41) zqc41 (by decide); have q42 := lv_neT (a := 42) zqc42 (by decide); have q43 := lv_neT (a := 43) zqc43 (by decide); omega) (by decide) ?_
  exact hk _ _ _ hR hS hl
end LawCases
