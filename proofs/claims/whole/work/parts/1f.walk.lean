section Walk5
variable {p : Program} {l : Launch} {e : Env} {s : State} {m : MethodId} {args : Array Value} {below : List Frame} {meth : Method} {c : Code}
variable {D : va_G} {B : Nat} {ca : Nat → ClassId} {st : Nat → Nat}
theorem ck_X8_keep  {x0 : Nat} {x1 : Int32} {M : Mem} {r : Int32 × Mem} (h : f_X8_keep  x0 x1 M = some r) : kd M x0 = 18 := by
  unfold f_X8_keep at h
  exact ck h
set_option maxHeartbeats 4000000 in
set_option maxRecDepth 100000 in
theorem ok_X8_keep  {x0 : Nat} {x1 : Int32}  {M : Mem} {r : Int32 × Mem}  (h : f_X8_keep  x0 x1 M = some r) : Ok l yX8_keep cX8_keep 2 (some .int) 1 [.ref (B + x0), .int x1] D B ca st M (some (.int r.1)) r.2 := by
  have hk0 := ck_X8_keep h
  unfold f_X8_keep at h
  have h := ip hk0 h
  refine ok_of rfl rfl (Nat.le_of_ble_eq_true rfl) ?_
  intro p e s m args below meth c ls C hl hR hS
  have hl : lv_has ls 2 [(0, .ref (B + x0)), (1, .int x1)] := hl
  have hx := C.1
  have hb := C.2.1
  refine lv_iload_n hx hb dX8_keep_0 rfl (lv_at hl 1 rfl) ?_
  refine lv_i2l (v := (Int32.toInt64 x1)) hx hb dX8_keep_1 rfl ?_
  refine lv_lconst (v := 0) hx hb dX8_keep_2 (by decide) ?_
  refine lv_ldc2 hx hb C.2.2.2.1 (C.2.2.2.2.1 _ lk1252) dX8_keep_3 ?_
  refine rc_S C hR hS cf_X8_in cs_X8_in lk1059 (ok_X8_in (Int32.toInt64 x1) 0 2) ⟨Nat.le_of_ble_eq_true rfl, Nat.le_of_ble_eq_true rfl⟩ ⟨Nat.zero_le _, Nat.zero_le _⟩ rfl rfl hl.1 (Nat.le_of_ble_eq_true rfl) dX8_keep_6 (rc_k1 (fun H locs hR hS => ?_))
  refine lv_if_ne (tgt := 14) hx hb dX8_keep_9 (by decide) (fun c => ?_) (fun c => ?_)
  · have h := iq c h
    refine lv_aload_n hx hb dX8_keep_14 rfl (lv_at hl 0 rfl) ?_
    obtain ⟨v2, zqe3, h⟩ := ob h
    refine gf949 C hR zqe3 dX8_keep_15 ?_
    refine lv_if_ne (tgt := 24) hx hb dX8_keep_18 (by decide) (fun c => ?_) (fun c => ?_)
    · have h := iq c h
      refine lv_aload_n hx hb dX8_keep_24 rfl (lv_at hl 0 rfl) ?_
      refine lv_iconst (v := 0) hx hb dX8_keep_25 (by decide) ?_
      refine lv_sipush (v := 493) hx hb dX8_keep_26 (by decide) ?_
      refine lv_iconst (v := 1) hx hb dX8_keep_29 (by decide) ?_
      refine lv_iload_n hx hb dX8_keep_30 rfl (lv_at hl 1 rfl) ?_
      refine lv_iadd hx hb dX8_keep_31 ?_
      refine lv_imul hx hb dX8_keep_32 ?_
      obtain ⟨M5, zqe4, h⟩ := ob h
      refine rc_V C hR hS cf_X8_copyGuild cv_X8_copyGuild lk1253 (ok_X8_copyGuild zqe4) (ck_X8_copyGuild zqe4) ⟨Nat.le_of_ble_eq_true rfl, Nat.le_of_ble_eq_true rfl⟩ ⟨Nat.zero_le _, Nat.zero_le _⟩ rfl rfl hl.1 (Nat.le_of_ble_eq_true rfl) dX8_keep_33 (rc_k0 (fun H locs hR hS => ?_))
      refine lv_aload_n hx hb dX8_keep_36 rfl (lv_at hl 0 rfl) ?_
      obtain ⟨v6, zqe7, h⟩ := ob h
      refine gf948 C hR zqe7 dX8_keep_37 ?_
      refine lv_iconst (v := 0) hx hb dX8_keep_40 (by decide) ?_
      obtain ⟨v8, zqe9, h⟩ := ob h
      refine ra_I C hR zqe9 dX8_keep_41 ?_
      cases h
      exact rr_I C hR hS dX8_keep_42
    · have h := ip c h
      refine lv_bipush (v := (-4)) hx hb dX8_keep_21 (by decide) ?_
      cases h
      exact rr_I C hR hS dX8_keep_23
  · have h := ip c h
    refine lv_iconst (v := (-1)) hx hb dX8_keep_12 (by decide) ?_
    cases h
    exact rr_I C hR hS dX8_keep_13
set_option maxHeartbeats 4000000 in
set_option maxRecDepth 100000 in
theorem w_X8_kinds_35    {r : Int32 × Mem} (C : Cx p s m args meth c RX8 cX8_kinds 6 (some .int) D B ca st)   : ∀ (n : Nat) {x0 : Nat} {x1 : Int32} {x2 : Int32} {x4 : Int32} {x5 : Int32} {M : Mem}, f_X8_kinds_35  n x0 x1 x2 x4 x5 M = some r → ∀ {H : Heap} {locs : List Loc} {ls : Array Slot}, RH D B ca M H → va_S (AA B) s.heap H locs → lv_has ls 6 [(0, .ref (B + x0)), (1, .int x1), (2, .int x2), (4, .int x4), (5, .int x5)] → W p l e (rmD 3) s m args below meth c H locs 0 0 (MQ below (Qp D B ca st (some (.int r.1)) r.2) args s 0 0 (AA B)) (F0 m 35 ls []) := by
  have hx := C.1
  have hb := C.2.1
  intro n
  induction n with
  | zero => intro x0 x1 x2 x4 x5 M h; simp [f_X8_kinds_35] at h
  | succ n ih =>
    intro x0 x1 x2 x4 x5 M h H locs ls hR hS hl
    rw [f_X8_kinds_35] at h
    refine lv_iload hx hb dX8_kinds_35 (lv_at hl 4 rfl) ?_
    refine lv_bipush (v := 6) hx hb dX8_kinds_37 (by decide) ?_
    refine lv_icmp_ge (tgt := 79) hx hb dX8_kinds_39 (by decide) (fun c => ?_) (fun c => ?_)
    · have h := ip c h
      refine lv_iload hx hb dX8_kinds_79 (lv_at hl 3 rfl) ?_
      cases h
      exact rr_I C hR hS dX8_kinds_81
    · have h := iq c h
      refine lv_iload hx hb dX8_kinds_42 (lv_at hl 3 rfl) ?_
      refine lv_aload_n hx hb dX8_kinds_44 rfl (lv_at hl 0 rfl) ?_
      refine lv_iload_n hx hb dX8_kinds_45 rfl (lv_at hl 2 rfl) ?_
      refine lv_iload hx hb dX8_kinds_46 (lv_at hl 4 rfl) ?_
      refine lv_aload_n hx hb dX8_kinds_48 rfl (lv_at hl 0 rfl) ?_
      obtain ⟨v8, zqe9, h⟩ := ob h
      refine gf948 C hR zqe9 dX8_kinds_49 ?_
      refine lv_iconst (v := 3) hx hb dX8_kinds_52 (by decide) ?_
      refine lv_iload_n hx hb dX8_kinds_53 rfl (lv_at hl 1 rfl) ?_
      refine lv_iadd hx hb dX8_kinds_54 ?_
      obtain ⟨v10, zqe11, h⟩ := ob h
      refine ra_I C hR zqe11 dX8_kinds_55 ?_
      obtain ⟨v13, zqe12, h⟩ := ob h
      refine rc_V C hR hS cf_X8_isSo cv_X8_isSo lk1370 (ok_X8_isSo zqe12) (ck_X8_isSo zqe12) ⟨Nat.le_of_ble_eq_true rfl, Nat.le_of_ble_eq_true rfl⟩ ⟨Nat.zero_le _, Nat.zero_le _⟩ rfl rfl hl.1 (Nat.le_of_ble_eq_true rfl) dX8_kinds_56 (rc_k1 (fun H locs hR hS => ?_))
      refine lv_if_eq (tgt := 69) hx hb dX8_kinds_59 (by decide) (fun c => ?_) (fun c => ?_)
      · have h := ip c h
        refine lv_iconst (v := 0) hx hb dX8_kinds_69 (by decide) ?_
        refine lv_ior hx hb dX8_kinds_70 ?_
        refine lv_istore (lv' := [(4, .int (x4 ||| 0)), (0, .ref (B + x0)), (1, .int x1), (2, .int x2), (5, .int x5)]) hx hb dX8_kinds_71 hl (by decide) rfl (fun ls hl => ?_)
        refine lv_iinc (v := (x5 + 1)) (lv' := [(5, .int (x5 + 1)), (4, .int (x4 ||| 0)), (0, .ref (B + x0)), (1, .int x1), (2, .int x2)]) hx hb dX8_kinds_73 hl (k := 4) rfl rfl (by decide) rfl (fun ls hl => ?_)
        refine lv_goto (tgt := 35) hx hb dX8_kinds_76 (by decide) ?_
        exact ih h hR hS (lv_sub hl [2, 3, 4, 1, 0] rfl)
      · have h := iq c h
        refine lv_iconst (v := 1) hx hb dX8_kinds_62 (by decide) ?_
        refine lv_iload hx hb dX8_kinds_63 (lv_at hl 4 rfl) ?_
        refine lv_ishl hx hb dX8_kinds_65 ?_
        refine lv_goto (tgt := 70) hx hb dX8_kinds_66 (by decide) ?_
        refine lv_ior hx hb dX8_kinds_70 ?_
        refine lv_istore (lv' := [(4, .int (x4 ||| (1 <<< (x5 &&& 31)))), (0, .ref (B + x0)), (1, .int x1), (2, .int x2), (5, .int x5)]) hx hb dX8_kinds_71 hl (by decide) rfl (fun ls hl => ?_)
        refine lv_iinc (v := (x5 + 1)) (lv' := [(5, .int (x5 + 1)), (4, .int (x4 ||| (1 <<< (x5 &&& 31)))), (0, .ref (B + x0)), (1, .int x1), (2, .int x2)]) hx hb dX8_kinds_73 hl (k := 4) rfl rfl (by decide) rfl (fun ls hl => ?_)
        refine lv_goto (tgt := 35) hx hb dX8_kinds_76 (by decide) ?_
        exact ih h hR hS (lv_sub hl [2, 3, 4, 1, 0] rfl)
theorem ck_X8_kinds  {x0 : Nat} {x1 : Int32} {x2 : Int32} {M : Mem} {r : Int32 × Mem} (h : f_X8_kinds  x0 x1 x2 M = some r) : kd M x0 = 18 := by
  unfold f_X8_kinds at h
  exact ck h
set_option maxHeartbeats 4000000 in
set_option maxRecDepth 100000 in
theorem ok_X8_kinds  {x0 : Nat} {x1 : Int32} {x2 : Int32}  {M : Mem} {r : Int32 × Mem}  (h : f_X8_kinds  x0 x1 x2 M = some r) : Ok l yX8_kinds cX8_kinds 6 (some .int) 3 [.ref (B + x0), .int x1, .int x2] D B ca st M (some (.int r.1)) r.2 := by
  have hk0 := ck_X8_kinds h
  unfold f_X8_kinds at h
  have h := ip hk0 h
  refine ok_of rfl rfl (Nat.le_of_ble_eq_true rfl) ?_
  intro p e s m args below meth c ls C hl hR hS
  have hl : lv_has ls 6 [(0, .ref (B + x0)), (1, .int x1), (2, .int x2)] := hl
  have hx := C.1
  have hb := C.2.1
  refine lv_aload_n hx hb dX8_kinds_0 rfl (lv_at hl 0 rfl) ?_
  refine lv_iload_n hx hb dX8_kinds_1 rfl (lv_at hl 1 rfl) ?_
  obtain ⟨v2, zqe1, h⟩ := ob h
  refine rc_V C hR hS cf_X8_isSigher cv_X8_isSigher lk1153 (ok_X8_isSigher zqe1) (ck_X8_isSigher zqe1) ⟨Nat.le_of_ble_eq_true rfl, Nat.le_of_ble_eq_true rfl⟩ ⟨Nat.zero_le _, Nat.zero_le _⟩ rfl rfl hl.1 (Nat.le_of_ble_eq_true rfl) dX8_kinds_2 (rc_k1 (fun H locs hR hS => ?_))
  refine lv_if_eq (tgt := 15) hx hb dX8_kinds_5 (by decide) (fun c => ?_) (fun c => ?_)
  · have h := ip c h
    refine lv_iconst (v := (-1)) hx hb dX8_kinds_15 (by decide) ?_
    cases h
    exact rr_I C hR hS dX8_kinds_16
  · have h := iq c h
    refine lv_iload_n hx hb dX8_kinds_8 rfl (lv_at hl 2 rfl) ?_
    obtain ⟨v4, zqe3, h⟩ := ob h
    refine rc_S C hR hS cf_X8_isRow cs_X8_isRow lk1055 (ok_X8_isRow zqe3) ⟨Nat.le_of_ble_eq_true rfl, Nat.le_of_ble_eq_true rfl⟩ ⟨Nat.zero_le _, Nat.zero_le _⟩ rfl rfl hl.1 (Nat.le_of_ble_eq_true rfl) dX8_kinds_9 (rc_k1 (fun H locs hR hS => ?_))
    refine lv_if_ne (tgt := 17) hx hb dX8_kinds_12 (by decide) (fun c => ?_) (fun c => ?_)
    · have h := iq c h
      refine lv_aload_n hx hb dX8_kinds_17 rfl (lv_at hl 0 rfl) ?_
      refine lv_iload_n hx hb dX8_kinds_18 rfl (lv_at hl 2 rfl) ?_
      obtain ⟨qv6, zqe5, h⟩ := ob h
      refine rc_V C hR hS cf_X8_noPairs cv_X8_noPairs lk1366 (ok_X8_noPairs zqe5) (ck_X8_noPairs zqe5) ⟨Nat.le_of_ble_eq_true rfl, Nat.le_of_ble_eq_true rfl⟩ ⟨Nat.zero_le _, Nat.zero_le _⟩ rfl rfl hl.1 (Nat.le_of_ble_eq_true rfl) dX8_kinds_19 (rc_k1 (fun H locs hR hS => ?_))
      refine lv_istore_n (lv' := [(3, .int qv6.1), (0, .ref (B + x0)), (1, .int x1), (2, .int x2)]) hx hb dX8_kinds_22 rfl hl (by decide) rfl (fun ls hl => ?_)
      refine lv_iload_n hx hb dX8_kinds_23 rfl (lv_at hl 0 rfl) ?_
      refine lv_if_eq (tgt := 29) hx hb dX8_kinds_24 (by decide) (fun c => ?_) (fun c => ?_)
      · have h := ip c h
        refine lv_iconst (v := 0) hx hb dX8_kinds_29 (by decide) ?_
        refine lv_istore (lv' := [(4, .int 0), (3, .int qv6.1), (0, .ref (B + x0)), (1, .int x1), (2, .int x2)]) hx hb dX8_kinds_30 hl (by decide) rfl (fun ls hl => ?_)
        refine lv_iconst (v := 0) hx hb dX8_kinds_32 (by decide) ?_
        refine lv_istore (lv' := [(5, .int 0), (4, .int 0), (3, .int qv6.1), (0, .ref (B + x0)), (1, .int x1), (2, .int x2)]) hx hb dX8_kinds_33 hl (by decide) rfl (fun ls hl => ?_)
        exact w_X8_kinds_35 C  FU h hR hS (lv_sub hl [3, 4, 5, 1, 0] rfl)
      · have h := iq c h
        refine lv_iload_n hx hb dX8_kinds_27 rfl (lv_at hl 0 rfl) ?_
        cases h
        exact rr_I C hR hS dX8_kinds_28
    · have h := ip c h
      refine lv_iconst (v := (-1)) hx hb dX8_kinds_15 (by decide) ?_
      cases h
      exact rr_I C hR hS dX8_kinds_16
theorem ck_X8_lay  {x0 : Nat} {x1 : Int32} {x2 : Int32} {x3 : Int32} {M : Mem} {r : Int32 × Mem} (h : f_X8_lay  x0 x1 x2 x3 M = some r) : kd M x0 = 18 := by
  unfold f_X8_lay at h
  exact ck h
set_option maxHeartbeats 4000000 in
set_option maxRecDepth 100000 in
theorem ok_X8_lay  {x0 : Nat} {x1 : Int32} {x2 : Int32} {x3 : Int32}  {M : Mem} {r : Int32 × Mem}  (h : f_X8_lay  x0 x1 x2 x3 M = some r) : Ok l yX8_lay cX8_lay 6 (some .int) 3 [.ref (B + x0), .int x1, .int x2, .int x3] D B ca st M (some (.int r.1)) r.2 := by
  have hk0 := ck_X8_lay h
  unfold f_X8_lay at h
  have h := ip hk0 h
  refine ok_of rfl rfl (Nat.le_of_ble_eq_true rfl) ?_
  intro p e s m args below meth c ls C hl hR hS
  have hl : lv_has ls 6 [(0, .ref (B + x0)), (1, .int x1), (2, .int x2), (3, .int x3)] := hl
  have hx := C.1
  have hb := C.2.1
  refine lv_aload_n hx hb dX8_lay_0 rfl (lv_at hl 0 rfl) ?_
  refine lv_iload_n hx hb dX8_lay_1 rfl (lv_at hl 1 rfl) ?_
  refine lv_iload_n hx hb dX8_lay_2 rfl (lv_at hl 2 rfl) ?_
  obtain ⟨qv2, zqe1, h⟩ := ob h
  refine rc_V C hR hS cf_X8_refused cv_X8_refused lk1074 (ok_X8_refused zqe1) (ck_X8_refused zqe1) ⟨Nat.le_of_ble_eq_true rfl, Nat.le_of_ble_eq_true rfl⟩ ⟨Nat.zero_le _, Nat.zero_le _⟩ rfl rfl hl.1 (Nat.le_of_ble_eq_true rfl) dX8_lay_3 (rc_k1 (fun H locs hR hS => ?_))
  refine lv_istore (lv' := [(4, .int qv2.1), (0, .ref (B + x0)), (1, .int x1), (2, .int x2), (3, .int x3)]) hx hb dX8_lay_6 hl (by decide) rfl (fun ls hl => ?_)
  refine lv_iload hx hb dX8_lay_8 (lv_at hl 0 rfl) ?_
  refine lv_if_eq (tgt := 16) hx hb dX8_lay_10 (by decide) (fun c => ?_) (fun c => ?_)
  · have h := ip c h
    refine lv_aload_n hx hb dX8_lay_16 rfl (lv_at hl 1 rfl) ?_
    obtain ⟨v4, zqe5, h⟩ := ob h
    refine gf957 C hR zqe5 dX8_lay_17 ?_
    refine lv_bipush (v := 40) hx hb dX8_lay_20 (by decide) ?_
    refine lv_iload_n hx hb dX8_lay_22 rfl (lv_at hl 2 rfl) ?_
    refine lv_imul hx hb dX8_lay_23 ?_
    refine lv_iload_n hx hb dX8_lay_24 rfl (lv_at hl 3 rfl) ?_
    refine lv_iadd hx hb dX8_lay_25 ?_
    obtain ⟨v6, zqe7, h⟩ := ob h
    refine ra_I C hR zqe7 dX8_lay_26 ?_
    refine lv_istore (lv' := [(5, .int v6), (4, .int qv2.1), (0, .ref (B + x0)), (1, .int x1), (2, .int x2), (3, .int x3)]) hx hb dX8_lay_27 hl (by decide) rfl (fun ls hl => ?_)
    refine lv_aload_n hx hb dX8_lay_29 rfl (lv_at hl 2 rfl) ?_
    obtain ⟨v8, zqe9, h⟩ := ob h
    refine gf957 C hR zqe9 dX8_lay_30 ?_
    refine lv_bipush (v := 40) hx hb dX8_lay_33 (by decide) ?_
    refine lv_iload_n hx hb dX8_lay_35 rfl (lv_at hl 3 rfl) ?_
    refine lv_imul hx hb dX8_lay_36 ?_
    refine lv_iload_n hx hb dX8_lay_37 rfl (lv_at hl 4 rfl) ?_
    refine lv_iadd hx hb dX8_lay_38 ?_
    refine lv_iload_n hx hb dX8_lay_39 rfl (lv_at hl 5 rfl) ?_
    obtain ⟨M10, zqe11, h⟩ := ob h
    refine re_I C hR hS zqe11 dX8_lay_40 (fun H locs hR hS => ?_)
    refine lv_aload_n hx hb dX8_lay_41 rfl (lv_at hl 2 rfl) ?_
    refine lv_iload hx hb dX8_lay_42 (lv_at hl 0 rfl) ?_
    obtain ⟨qv13, zqe12, h⟩ := ob h
    refine rc_V C hR hS cf_X8_tell cv_X8_tell lk1078 (ok_X8_tell zqe12) (ck_X8_tell zqe12) ⟨Nat.le_of_ble_eq_true rfl, Nat.le_of_ble_eq_true rfl⟩ ⟨Nat.zero_le _, Nat.zero_le _⟩ rfl rfl hl.1 (Nat.le_of_ble_eq_true rfl) dX8_lay_44 (rc_k1 (fun H locs hR hS => ?_))
    cases h
    exact rr_I C hR hS dX8_lay_47
  · have h := iq c h
    refine lv_iload hx hb dX8_lay_13 (lv_at hl 0 rfl) ?_
    cases h
    exact rr_I C hR hS dX8_lay_15
set_option maxHeartbeats 4000000 in
set_option maxRecDepth 100000 in
theorem w_X8_loose_59  {k44 : Nat → Int32 → Int32 → Int32 → Int32 → Int32 → Mem → Option Int32}  {r : Int32} (C : Cx p s m args meth c RX8 cX8_loose 7 (some .int) D B ca st)  (hk44 : ∀ {x0 : Nat} {x1 : Int32} {x2 : Int32} {x3 : Int32} {x4 : Int32} {x5 : Int32} {M : Mem}, k44 x0 x1 x2 x3 x4 x5 M = some r → ∀ {H : Heap} {locs : List Loc} {ls : Array Slot}, RH D B ca M H → va_S (AA B) s.heap H locs → lv_has ls 7 [(0, .ref (B + x0)), (1, .int x1), (2, .int x2), (3, .int x3), (4, .int x4), (5, .int x5)] → W p l e (rmD 1) s m args below meth c H locs 0 0 (MQ below (Qp D B ca st (some (.int r)) M) args s 0 0 (AA B)) (F0 m 44 ls [])) : ∀ (n : Nat) {x0 : Nat} {x1 : Int32} {x2 : Int32} {x3 : Int32} {x4 : Int32} {x5 : Int32} {x6 : Int32} {M : Mem}, f_X8_loose_59 k44 n x0 x1 x2 x3 x4 x5 x6 M = some r → ∀ {H : Heap} {locs : List Loc} {ls : Array Slot}, RH D B ca M H → va_S (AA B) s.heap H locs → lv_has ls 7 [(0, .ref (B + x0)), (1, .int x1), (2, .int x2), (3, .int x3), (4, .int x4), (5, .int x5), (6, .int x6)] → W p l e (rmD 1) s m args below meth c H locs 0 0 (MQ below (Qp D B ca st (some (.int r)) M) args s 0 0 (AA B)) (F0 m 59 ls []) := by
  have hx := C.1
  have hb := C.2.1
  intro n
  induction n with
  | zero => intro x0 x1 x2 x3 x4 x5 x6 M h; simp [f_X8_loose_59] at h
  | succ n ih =>
    intro x0 x1 x2 x3 x4 x5 x6 M h H locs ls hR hS hl
    rw [f_X8_loose_59] at h
    refine lv_iload hx hb dX8_loose_59 (lv_at hl 6 rfl) ?_
    refine lv_aload_n hx hb dX8_loose_61 rfl (lv_at hl 0 rfl) ?_
    obtain ⟨v4, zqe5, h⟩ := ob h
    refine gf952 C hR zqe5 dX8_loose_62 ?_
    refine lv_icmp_ge (tgt := 104) hx hb dX8_loose_65 (by decide) (fun c => ?_) (fun c => ?_)
    · have h := ip c h
      refine lv_iinc (v := (x5 + 1)) (lv' := [(5, .int (x5 + 1)), (0, .ref (B + x0)), (1, .int x1), (2, .int x2), (3, .int x3), (4, .int x4), (6, .int x6)]) hx hb dX8_loose_104 hl (k := 5) rfl rfl (by decide) rfl (fun ls hl => ?_)
      refine lv_goto (tgt := 44) hx hb dX8_loose_107 (by decide) ?_
      exact hk44 h hR hS (lv_sub hl [1, 2, 3, 4, 5, 0] rfl)
    · have h := iq c h
      refine lv_iload hx hb dX8_loose_68 (lv_at hl 4 rfl) ?_
      refine lv_aload_n hx hb dX8_loose_70 rfl (lv_at hl 0 rfl) ?_
      obtain ⟨v6, zqe7, h⟩ := ob h
      refine gf953 C hR zqe7 dX8_loose_71 ?_
      refine lv_iload hx hb dX8_loose_74 (lv_at hl 6 rfl) ?_
      obtain ⟨v8, zqe9, h⟩ := ob h
      refine ra_I C hR zqe9 dX8_loose_76 ?_
      refine lv_iload_n hx hb dX8_loose_77 rfl (lv_at hl 1 rfl) ?_
      refine lv_iload hx hb dX8_loose_78 (lv_at hl 5 rfl) ?_
      refine lv_iadd hx hb dX8_loose_80 ?_
      refine lv_bipush (v := 10) hx hb dX8_loose_81 (by decide) ?_
      refine lv_irem hx hb dX8_loose_83 (by decide) ?_
      refine lv_icmp_ne (tgt := 94) hx hb dX8_loose_84 (by decide) (fun c => ?_) (fun c => ?_)
      · have h := iq c h
        refine lv_iconst (v := 0) hx hb dX8_loose_94 (by decide) ?_
        refine lv_ior hx hb dX8_loose_95 ?_
        refine lv_istore (lv' := [(4, .int (x4 ||| 0)), (0, .ref (B + x0)), (1, .int x1), (2, .int x2), (3, .int x3), (5, .int x5), (6, .int x6)]) hx hb dX8_loose_96 hl (by decide) rfl (fun ls hl => ?_)
        refine lv_iinc (v := (x6 + 1)) (lv' := [(6, .int (x6 + 1)), (4, .int (x4 ||| 0)), (0, .ref (B + x0)), (1, .int x1), (2, .int x2), (3, .int x3), (5, .int x5)]) hx hb dX8_loose_98 hl (k := 6) rfl rfl (by decide) rfl (fun ls hl => ?_)
        refine lv_goto (tgt := 59) hx hb dX8_loose_101 (by decide) ?_
        exact ih h hR hS (lv_sub hl [2, 3, 4, 5, 1, 6, 0] rfl)
      · have h := ip c h
        refine lv_iconst (v := 1) hx hb dX8_loose_87 (by decide) ?_
        refine lv_iload hx hb dX8_loose_88 (lv_at hl 6 rfl) ?_
        refine lv_ishl hx hb dX8_loose_90 ?_
        refine lv_goto (tgt := 95) hx hb dX8_loose_91 (by decide) ?_
        refine lv_ior hx hb dX8_loose_95 ?_
        refine lv_istore (lv' := [(4, .int (x4 ||| (1 <<< (x6 &&& 31)))), (0, .ref (B + x0)), (1, .int x1), (2, .int x2), (3, .int x3), (5, .int x5), (6, .int x6)]) hx hb dX8_loose_96 hl (by decide) rfl (fun ls hl => ?_)
        refine lv_iinc (v := (x6 + 1)) (lv' := [(6, .int (x6 + 1)), (4, .int (x4 ||| (1 <<< (x6 &&& 31)))), (0, .ref (B + x0)), (1, .int x1), (2, .int x2), (3, .int x3), (5, .int x5)]) hx hb dX8_loose_98 hl (k := 6) rfl rfl (by decide) rfl (fun ls hl => ?_)
        refine lv_goto (tgt := 59) hx hb dX8_loose_101 (by decide) ?_
        exact ih h hR hS (lv_sub hl [2, 3, 4, 5, 1, 6, 0] rfl)
set_option maxHeartbeats 4000000 in
set_option maxRecDepth 100000 in
theorem w_X8_loose_44    {r : Int32} (C : Cx p s m args meth c RX8 cX8_loose 7 (some .int) D B ca st)   : ∀ (n : Nat) {x0 : Nat} {x1 : Int32} {x2 : Int32} {x3 : Int32} {x4 : Int32} {x5 : Int32} {M : Mem}, f_X8_loose_44  n x0 x1 x2 x3 x4 x5 M = some r → ∀ {H : Heap} {locs : List Loc} {ls : Array Slot}, RH D B ca M H → va_S (AA B) s.heap H locs → lv_has ls 7 [(0, .ref (B + x0)), (1, .int x1), (2, .int x2), (3, .int x3), (4, .int x4), (5, .int x5)] → W p l e (rmD 1) s m args below meth c H locs 0 0 (MQ below (Qp D B ca st (some (.int r)) M) args s 0 0 (AA B)) (F0 m 44 ls []) := by
  have hx := C.1
  have hb := C.2.1
  intro n
  induction n with
  | zero => intro x0 x1 x2 x3 x4 x5 M h; simp [f_X8_loose_44] at h
  | succ n ih =>
    intro x0 x1 x2 x3 x4 x5 M h H locs ls hR hS hl
    rw [f_X8_loose_44] at h
    refine lv_iload hx hb dX8_loose_44 (lv_at hl 5 rfl) ?_
    refine lv_iload_n hx hb dX8_loose_46 rfl (lv_at hl 3 rfl) ?_
    refine lv_icmp_gt (tgt := 110) hx hb dX8_loose_47 (by decide) (fun c => ?_) (fun c => ?_)
    · have h := ip c h
      refine lv_iload hx hb dX8_loose_110 (lv_at hl 4 rfl) ?_
      cases h
      exact rr_I C hR hS dX8_loose_112
    · have h := iq c h
      refine lv_iload hx hb dX8_loose_50 (lv_at hl 5 rfl) ?_
      refine lv_iload_n hx hb dX8_loose_52 rfl (lv_at hl 2 rfl) ?_
      refine lv_icmp_ge (tgt := 110) hx hb dX8_loose_53 (by decide) (fun c => ?_) (fun c => ?_)
      · have h := ip c h
        refine lv_iload hx hb dX8_loose_110 (lv_at hl 4 rfl) ?_
        cases h
        exact rr_I C hR hS dX8_loose_112
      · have h := iq c h
        refine lv_iconst (v := 0) hx hb dX8_loose_56 (by decide) ?_
        refine lv_istore (lv' := [(6, .int 0), (0, .ref (B + x0)), (1, .int x1), (2, .int x2), (3, .int x3), (4, .int x4), (5, .int x5)]) hx hb dX8_loose_57 hl (by decide) rfl (fun ls hl => ?_)
        exact w_X8_loose_59 C (hk44 := @ih) FU h hR hS (lv_sub hl [1, 2, 3, 4, 5, 6, 0] rfl)
theorem ck_X8_loose  {x0 : Nat} {x1 : Int32} {x2 : Int32} {x3 : Int32} {M : Mem} {r : Int32} (h : f_X8_loose  x0 x1 x2 x3 M = some r) : kd M x0 = 18 := by
  unfold f_X8_loose at h
  exact ck h
set_option maxHeartbeats 4000000 in
set_option maxRecDepth 100000 in
theorem ok_X8_loose  {x0 : Nat} {x1 : Int32} {x2 : Int32} {x3 : Int32}  {M : Mem} {r : Int32}  (h : f_X8_loose  x0 x1 x2 x3 M = some r) : Ok l yX8_loose cX8_loose 7 (some .int) 1 [.ref (B + x0), .int x1, .int x2, .int x3] D B ca st M (some (.int r)) M := by
  have hk0 := ck_X8_loose h
  unfold f_X8_loose at h
  have h := ip hk0 h
  refine ok_of rfl rfl (Nat.le_of_ble_eq_true rfl) ?_
  intro p e s m args below meth c ls C hl hR hS
  have hl : lv_has ls 7 [(0, .ref (B + x0)), (1, .int x1), (2, .int x2), (3, .int x3)] := hl
  have hx := C.1
  have hb := C.2.1
  refine lv_iload_n hx hb dX8_loose_0 rfl (lv_at hl 1 rfl) ?_
  refine lv_i2l (v := (Int32.toInt64 x1)) hx hb dX8_loose_1 rfl ?_
  refine lv_lconst (v := 0) hx hb dX8_loose_2 (by decide) ?_
  refine lv_ldc2 hx hb C.2.2.2.1 (C.2.2.2.2.1 _ lk1220) dX8_loose_3 ?_
  refine rc_S C hR hS cf_X8_in cs_X8_in lk1059 (ok_X8_in (Int32.toInt64 x1) 0 9) ⟨Nat.le_of_ble_eq_true rfl, Nat.le_of_ble_eq_true rfl⟩ ⟨Nat.zero_le _, Nat.zero_le _⟩ rfl rfl hl.1 (Nat.le_of_ble_eq_true rfl) dX8_loose_6 (rc_k1 (fun H locs hR hS => ?_))
  refine lv_if_eq (tgt := 36) hx hb dX8_loose_9 (by decide) (fun c => ?_) (fun c => ?_)
  · have h := ip c h
    refine lv_iconst (v := (-1)) hx hb dX8_loose_36 (by decide) ?_
    cases h
    exact rr_I C hR hS dX8_loose_37
  · have h := iq c h
    refine lv_iload_n hx hb dX8_loose_12 rfl (lv_at hl 2 rfl) ?_
    refine lv_i2l (v := (Int32.toInt64 x2)) hx hb dX8_loose_13 rfl ?_
    refine lv_lconst (v := 1) hx hb dX8_loose_14 (by decide) ?_
    refine lv_ldc2 hx hb C.2.2.2.1 (C.2.2.2.2.1 _ lk1220) dX8_loose_15 ?_
    refine rc_S C hR hS cf_X8_in cs_X8_in lk1059 (ok_X8_in (Int32.toInt64 x2) 1 9) ⟨Nat.le_of_ble_eq_true rfl, Nat.le_of_ble_eq_true rfl⟩ ⟨Nat.zero_le _, Nat.zero_le _⟩ rfl rfl hl.1 (Nat.le_of_ble_eq_true rfl) dX8_loose_18 (rc_k1 (fun H locs hR hS => ?_))
    refine lv_if_eq (tgt := 36) hx hb dX8_loose_21 (by decide) (fun c => ?_) (fun c => ?_)
    · have h := ip c h
      refine lv_iconst (v := (-1)) hx hb dX8_loose_36 (by decide) ?_
      cases h
      exact rr_I C hR hS dX8_loose_37
    · have h := iq c h
      refine lv_iload_n hx hb dX8_loose_24 rfl (lv_at hl 3 rfl) ?_
      refine lv_i2l (v := (Int32.toInt64 x3)) hx hb dX8_loose_25 rfl ?_
      refine lv_lconst (v := 0) hx hb dX8_loose_26 (by decide) ?_
      refine lv_ldc2 hx hb C.2.2.2.1 (C.2.2.2.2.1 _ lk1361) dX8_loose_27 ?_
      refine rc_S C hR hS cf_X8_in cs_X8_in lk1059 (ok_X8_in (Int32.toInt64 x3) 0 20) ⟨Nat.le_of_ble_eq_true rfl, Nat.le_of_ble_eq_true rfl⟩ ⟨Nat.zero_le _, Nat.zero_le _⟩ rfl rfl hl.1 (Nat.le_of_ble_eq_true rfl) dX8_loose_30 (rc_k1 (fun H locs hR hS => ?_))
      refine lv_if_ne (tgt := 38) hx hb dX8_loose_33 (by decide) (fun c => ?_) (fun c => ?_)
      · have h := iq c h
        refine lv_iconst (v := 0) hx hb dX8_loose_38 (by decide) ?_
        refine lv_istore (lv' := [(4, .int 0), (0, .ref (B + x0)), (1, .int x1), (2, .int x2), (3, .int x3)]) hx hb dX8_loose_39 hl (by decide) rfl (fun ls hl => ?_)
        refine lv_iconst (v := 0) hx hb dX8_loose_41 (by decide) ?_
        refine lv_istore (lv' := [(5, .int 0), (4, .int 0), (0, .ref (B + x0)), (1, .int x1), (2, .int x2), (3, .int x3)]) hx hb dX8_loose_42 hl (by decide) rfl (fun ls hl => ?_)
        exact w_X8_loose_44 C  FU h hR hS (lv_sub hl [2, 3, 4, 5, 1, 0] rfl)
      · have h := ip c h
        refine lv_iconst (v := (-1)) hx hb dX8_loose_36 (by decide) ?_
        cases h
        exact rr_I C hR hS dX8_loose_37
set_option maxHeartbeats 4000000 in
set_option maxRecDepth 100000 in
theorem w_X8_keepPast_2    {r : Mem} (C : Cx p s m args meth c RX8 cX8_keepPast 2 none D B ca st)   : ∀ (n : Nat) {x0 : Nat} {x1 : Int32} {M : Mem}, f_X8_keepPast_2  n x0 x1 M = some r → ∀ {H : Heap} {locs : List Loc} {ls : Array Slot}, RH D B ca M H → va_S (AA B) s.heap H locs → lv_has ls 2 [(0, .ref (B + x0)), (1, .int x1)] → W p l e (rmD 0) s m args below meth c H locs 0 0 (MQ below (Qp D B ca st none r) args s 0 0 (AA B)) (F0 m 2 ls []) := by
  have hx := C.1
  have hb := C.2.1
  intro n
  induction n with
  | zero => intro x0 x1 M h; simp [f_X8_keepPast_2] at h
  | succ n ih =>
    intro x0 x1 M h H locs ls hR hS hl
    rw [f_X8_keepPast_2] at h
    refine lv_iload_n hx hb dX8_keepPast_2 rfl (lv_at hl 1 rfl) ?_
    refine lv_bipush (v := 12) hx hb dX8_keepPast_3 (by decide) ?_
    refine lv_icmp_ge (tgt := 41) hx hb dX8_keepPast_5 (by decide) (fun c => ?_) (fun c => ?_)
    · have h := ip c h
      refine lv_aload_n hx hb dX8_keepPast_41 rfl (lv_at hl 0 rfl) ?_
      obtain ⟨v1, zqe2, h⟩ := ob h
      refine gf948 C hR zqe2 dX8_keepPast_42 ?_
      refine lv_iconst (v := 0) hx hb dX8_keepPast_45 (by decide) ?_
      refine lv_dup2_11 hx hb dX8_keepPast_46 rfl rfl ?_
      obtain ⟨v3, zqe4, h⟩ := ob h
      refine ra_I C hR zqe4 dX8_keepPast_47 ?_
      refine lv_iconst (v := 1) hx hb dX8_keepPast_48 (by decide) ?_
      refine lv_iadd hx hb dX8_keepPast_49 ?_
      obtain ⟨M5, zqe6, h⟩ := ob h
      refine re_I C hR hS zqe6 dX8_keepPast_50 (fun H locs hR hS => ?_)
      cases h
      exact rr_V C hR hS dX8_keepPast_51
    · have h := iq c h
      refine lv_aload_n hx hb dX8_keepPast_8 rfl (lv_at hl 0 rfl) ?_
      obtain ⟨v7, zqe8, h⟩ := ob h
      refine gf948 C hR zqe8 dX8_keepPast_9 ?_
      refine lv_bipush (v := 13) hx hb dX8_keepPast_12 (by decide) ?_
      refine lv_bipush (v := 12) hx hb dX8_keepPast_14 (by decide) ?_
      refine lv_aload_n hx hb dX8_keepPast_16 rfl (lv_at hl 0 rfl) ?_
      obtain ⟨v9, zqe10, h⟩ := ob h
      refine gf948 C hR zqe10 dX8_keepPast_17 ?_
      refine lv_iconst (v := 0) hx hb dX8_keepPast_20 (by decide) ?_
      obtain ⟨v11, zqe12, h⟩ := ob h
      refine ra_I C hR zqe12 dX8_keepPast_21 ?_
      refine lv_imul hx hb dX8_keepPast_22 ?_
      refine lv_iadd hx hb dX8_keepPast_23 ?_
      refine lv_iload_n hx hb dX8_keepPast_24 rfl (lv_at hl 1 rfl) ?_
      refine lv_iadd hx hb dX8_keepPast_25 ?_
      refine lv_aload_n hx hb dX8_keepPast_26 rfl (lv_at hl 0 rfl) ?_
      obtain ⟨v13, zqe14, h⟩ := ob h
      refine gf948 C hR zqe14 dX8_keepPast_27 ?_
      refine lv_iconst (v := 1) hx hb dX8_keepPast_30 (by decide) ?_
      refine lv_iload_n hx hb dX8_keepPast_31 rfl (lv_at hl 1 rfl) ?_
      refine lv_iadd hx hb dX8_keepPast_32 ?_
      obtain ⟨v15, zqe16, h⟩ := ob h
      refine ra_I C hR zqe16 dX8_keepPast_33 ?_
      obtain ⟨M17, zqe18, h⟩ := ob h
      refine re_I C hR hS zqe18 dX8_keepPast_34 (fun H locs hR hS => ?_)
      refine lv_iinc (v := (x1 + 1)) (lv' := [(1, .int (x1 + 1)), (0, .ref (B + x0))]) hx hb dX8_keepPast_35 hl (k := 1) rfl rfl (by decide) rfl (fun ls hl => ?_)
      refine lv_goto (tgt := 2) hx hb dX8_keepPast_38 (by decide) ?_
      exact ih h hR hS (lv_sub hl [1, 0] rfl)
theorem ck_X8_keepPast  {x0 : Nat} {M : Mem} {r : Mem} (h : f_X8_keepPast  x0 M = some r) : kd M x0 = 18 := by
  unfold f_X8_keepPast at h
  exact ck h
set_option maxHeartbeats 4000000 in
set_option maxRecDepth 100000 in
theorem ok_X8_keepPast  {x0 : Nat}  {M : Mem} {r : Mem}  (h : f_X8_keepPast  x0 M = some r) : Ok l yX8_keepPast cX8_keepPast 2 none 0 [.ref (B + x0)] D B ca st M none r := by
  have hk0 := ck_X8_keepPast h
  unfold f_X8_keepPast at h
  have h := ip hk0 h
  refine ok_of rfl rfl (Nat.le_of_ble_eq_true rfl) ?_
  intro p e s m args below meth c ls C hl hR hS
  have hl : lv_has ls 2 [(0, .ref (B + x0))] := hl
  have hx := C.1
  have hb := C.2.1
  refine lv_iconst (v := 0) hx hb dX8_keepPast_0 (by decide) ?_
  refine lv_istore_n (lv' := [(1, .int 0), (0, .ref (B + x0))]) hx hb dX8_keepPast_1 rfl hl (by decide) rfl (fun ls hl => ?_)
  exact w_X8_keepPast_2 C  FU h hR hS (lv_sub hl [1, 0] rfl)
theorem ck_X8_rests  {x0 : Nat} {x1 : Int32} {M : Mem} {r : Mem} (h : f_X8_rests  x0 x1 M = some r) : kd M x0 = 18 := by
  unfold f_X8_rests at h
  exact ck h
set_option maxHeartbeats 4000000 in
set_option maxRecDepth 100000 in
theorem ok_X8_rests  {x0 : Nat} {x1 : Int32}  {M : Mem} {r : Mem}  (h : f_X8_rests  x0 x1 M = some r) : Ok l yX8_rests cX8_rests 2 none 0 [.ref (B + x0), .int x1] D B ca st M none r := by
  have hk0 := ck_X8_rests h
  unfold f_X8_rests at h
  have h := ip hk0 h
  refine ok_of rfl rfl (Nat.le_of_ble_eq_true rfl) ?_
  intro p e s m args below meth c ls C hl hR hS
  have hl : lv_has ls 2 [(0, .ref (B + x0)), (1, .int x1)] := hl
  have hx := C.1
  have hb := C.2.1
  refine lv_aload_n hx hb dX8_rests_0 rfl (lv_at hl 0 rfl) ?_
  obtain ⟨v1, zqe2, h⟩ := ob h
  refine gf948 C hR zqe2 dX8_rests_1 ?_
  refine lv_iconst (v := 3) hx hb dX8_rests_4 (by decide) ?_
  refine lv_iload_n hx hb dX8_rests_5 rfl (lv_at hl 1 rfl) ?_
  refine lv_iadd hx hb dX8_rests_6 ?_
  refine lv_aload_n hx hb dX8_rests_7 rfl (lv_at hl 0 rfl) ?_
  obtain ⟨v3, zqe4, h⟩ := ob h
  refine gf948 C hR zqe4 dX8_rests_8 ?_
  refine lv_iconst (v := 3) hx hb dX8_rests_11 (by decide) ?_
  refine lv_iload_n hx hb dX8_rests_12 rfl (lv_at hl 1 rfl) ?_
  refine lv_iadd hx hb dX8_rests_13 ?_
  obtain ⟨v5, zqe6, h⟩ := ob h
  refine ra_I C hR zqe6 dX8_rests_14 ?_
  refine lv_bipush (v := 7) hx hb dX8_rests_15 (by decide) ?_
  refine lv_icmp_le (tgt := 25) hx hb dX8_rests_17 (by decide) (fun c => ?_) (fun c => ?_)
  · have h := ip c h
    refine lv_aload_n hx hb dX8_rests_25 rfl (lv_at hl 0 rfl) ?_
    obtain ⟨v7, zqe8, h⟩ := ob h
    refine gf948 C hR zqe8 dX8_rests_26 ?_
    refine lv_iconst (v := 3) hx hb dX8_rests_29 (by decide) ?_
    refine lv_iload_n hx hb dX8_rests_30 rfl (lv_at hl 1 rfl) ?_
    refine lv_iadd hx hb dX8_rests_31 ?_
    obtain ⟨v9, zqe10, h⟩ := ob h
    refine ra_I C hR zqe10 dX8_rests_32 ?_
    refine lv_iconst (v := 2) hx hb dX8_rests_33 (by decide) ?_
    refine lv_iadd hx hb dX8_rests_34 ?_
    obtain ⟨M11, zqe12, h⟩ := ob h
    refine re_I C hR hS zqe12 dX8_rests_35 (fun H locs hR hS => ?_)
    cases h
    exact rr_V C hR hS dX8_rests_36
  · have h := iq c h
    refine lv_bipush (v := 9) hx hb dX8_rests_20 (by decide) ?_
    refine lv_goto (tgt := 35) hx hb dX8_rests_22 (by decide) ?_
    obtain ⟨M13, zqe14, h⟩ := ob h
    refine re_I C hR hS zqe14 dX8_rests_35 (fun H locs hR hS => ?_)
    cases h
    exact rr_V C hR hS dX8_rests_36
set_option maxHeartbeats 4000000 in
set_option maxRecDepth 100000 in
theorem w_X8_lots_169  {k58 : Nat → Int32 → Int64 → Int32 → Mem → Option (Int32 × Mem)}  {r : Int32 × Mem} {x0 : Nat} {x1 : Int32} {x3 : Int64} {x5 : Int32} {x6 : Int32} {x7 : Int32} {M : Mem} (C : Cx p s m args meth c RX8 cX8_lots 8 (some .int) D B ca st)  (hk58 : ∀ {x0 : Nat} {x1 : Int32} {x3 : Int64} {x5 : Int32} {M : Mem}, k58 x0 x1 x3 x5 M = some r → ∀ {H : Heap} {locs : List Loc} {ls : Array Slot}, RH D B ca M H → va_S (AA B) s.heap H locs → lv_has ls 8 [(0, .ref (B + x0)), (1, .int x1), (3, .long x3), (5, .int x5)] → W p l e (rmD 4) s m args below meth c H locs 0 0 (MQ below (Qp D B ca st (some (.int r.1)) r.2) args s 0 0 (AA B)) (F0 m 58 ls [])) (h : f_X8_lots_169 k58 x0 x1 x3 x5 x6 x7 M = some r) : ∀ {H : Heap} {locs : List Loc} {ls : Array Slot}, RH D B ca M H → va_S (AA B) s.heap H locs → lv_has ls 8 [(0, .ref (B + x0)), (1, .int x1), (3, .long x3), (5, .int x5), (6, .int x6), (7, .int x7)] → W p l e (rmD 4) s m args below meth c H locs 0 0 (MQ below (Qp D B ca st (some (.int r.1)) r.2) args s 0 0 (AA B)) (F0 m 169 ls []) := by
  have hx := C.1
  have hb := C.2.1
  unfold f_X8_lots_169 at h
  intro H locs ls hR hS hl
  refine lv_aload_n hx hb dX8_lots_169 rfl (lv_at hl 0 rfl) ?_
  obtain ⟨v35, zqe36, h⟩ := ob h
  refine gf948 C hR zqe36 dX8_lots_170 ?_
  refine lv_bipush (v := 8) hx hb dX8_lots_173 (by decide) ?_
  refine lv_iload hx hb dX8_lots_175 (lv_at hl 4 rfl) ?_
  refine lv_iadd hx hb dX8_lots_177 ?_
  refine lv_aload_n hx hb dX8_lots_178 rfl (lv_at hl 0 rfl) ?_
  obtain ⟨v37, zqe38, h⟩ := ob h
  refine gf953 C hR zqe38 dX8_lots_179 ?_
  refine lv_iload hx hb dX8_lots_182 (lv_at hl 5 rfl) ?_
  obtain ⟨v39, zqe40, h⟩ := ob h
  refine ra_I C hR zqe40 dX8_lots_184 ?_
  obtain ⟨M41, zqe42, h⟩ := ob h
  refine re_I C hR hS zqe42 dX8_lots_185 (fun H locs hR hS => ?_)
  refine lv_iinc (v := (x5 + 1)) (lv' := [(5, .int (x5 + 1)), (0, .ref (B + x0)), (1, .int x1), (3, .long x3), (6, .int x6), (7, .int x7)]) hx hb dX8_lots_186 hl (k := 3) rfl rfl (by decide) rfl (fun ls hl => ?_)
  refine lv_goto (tgt := 58) hx hb dX8_lots_189 (by decide) ?_
  exact hk58 h hR hS (lv_sub hl [1, 2, 3, 0] rfl)
set_option maxHeartbeats 4000000 in
set_option maxRecDepth 100000 in
theorem w_X8_lots_58    {r : Int32 × Mem} (C : Cx p s m args meth c RX8 cX8_lots 8 (some .int) D B ca st)   : ∀ (n : Nat) {x0 : Nat} {x1 : Int32} {x3 : Int64} {x5 : Int32} {M : Mem}, f_X8_lots_58  n x0 x1 x3 x5 M = some r → ∀ {H : Heap} {locs : List Loc} {ls : Array Slot}, RH D B ca M H → va_S (AA B) s.heap H locs → lv_has ls 8 [(0, .ref (B + x0)), (1, .int x1), (3, .long x3), (5, .int x5)] → W p l e (rmD 4) s m args below meth c H locs 0 0 (MQ below (Qp D B ca st (some (.int r.1)) r.2) args s 0 0 (AA B)) (F0 m 58 ls []) := by
  have hx := C.1
  have hb := C.2.1
  intro n
  induction n with
  | zero => intro x0 x1 x3 x5 M h; simp [f_X8_lots_58] at h
  | succ n ih =>
    intro x0 x1 x3 x5 M h H locs ls hR hS hl
    rw [f_X8_lots_58] at h
    refine lv_iload hx hb dX8_lots_58 (lv_at hl 3 rfl) ?_
    refine lv_iload_n hx hb dX8_lots_60 rfl (lv_at hl 1 rfl) ?_
    refine lv_icmp_ge (tgt := 192) hx hb dX8_lots_61 (by decide) (fun c => ?_) (fun c => ?_)
    · have h := ip c h
      refine lv_aload_n hx hb dX8_lots_192 rfl (lv_at hl 0 rfl) ?_
      obtain ⟨v9, zqe10, h⟩ := ob h
      refine gf948 C hR zqe10 dX8_lots_193 ?_
      refine lv_iconst (v := 1) hx hb dX8_lots_196 (by decide) ?_
      obtain ⟨v11, zqe12, h⟩ := ob h
      refine ra_I C hR zqe12 dX8_lots_197 ?_
      cases h
      exact rr_I C hR hS dX8_lots_198
    · have h := iq c h
      refine lv_lload_n hx hb dX8_lots_64 rfl (lv_at hl 2 rfl) ?_
      refine lv_ldc2 hx hb C.2.2.2.1 (C.2.2.2.2.1 _ lk1417) dX8_lots_65 ?_
      refine lv_lmul hx hb dX8_lots_68 ?_
      refine lv_ldc2 hx hb C.2.2.2.1 (C.2.2.2.2.1 _ lk1418) dX8_lots_69 ?_
      refine lv_lrem hx hb dX8_lots_72 (by decide) ?_
      refine lv_lstore_n (lv' := [(3, .long ((x3 * 48271) - (x3 * 48271) / 2147483647 * 2147483647)), (0, .ref (B + x0)), (1, .int x1), (5, .int x5)]) hx hb dX8_lots_73 rfl hl (by decide) rfl (fun ls hl => ?_)
      refine lv_lload_n hx hb dX8_lots_74 rfl (lv_at hl 0 rfl) ?_
      refine lv_aload_n hx hb dX8_lots_75 rfl (lv_at hl 1 rfl) ?_
      obtain ⟨v13, zqe14, h⟩ := ob h
      refine gf949 C hR zqe14 dX8_lots_76 ?_
      refine lv_i2l (v := (Int32.toInt64 v13)) hx hb dX8_lots_79 rfl ?_
      by_cases zqz34 : (Int32.toInt64 v13) = 0
      · exact absurd (ip zqz34 h) (fun q => by cases q)
      have h := iq zqz34 h
      refine lv_lrem hx hb dX8_lots_80 zqz34 ?_
      refine lv_l2i (v := (Int64.toInt32 (((x3 * 48271) - (x3 * 48271) / 2147483647 * 2147483647) - ((x3 * 48271) - (x3 * 48271) / 2147483647 * 2147483647) / (Int32.toInt64 v13) * (Int32.toInt64 v13)))) hx hb dX8_lots_81 rfl ?_
      refine lv_istore (lv' := [(6, .int (Int64.toInt32 (((x3 * 48271) - (x3 * 48271) / 2147483647 * 2147483647) - ((x3 * 48271) - (x3 * 48271) / 2147483647 * 2147483647) / (Int32.toInt64 v13) * (Int32.toInt64 v13)))), (3, .long ((x3 * 48271) - (x3 * 48271) / 2147483647 * 2147483647)), (0, .ref (B + x0)), (1, .int x1), (5, .int x5)]) hx hb dX8_lots_82 hl (by decide) rfl (fun ls hl => ?_)
      refine lv_lload_n hx hb dX8_lots_84 rfl (lv_at hl 1 rfl) ?_
      refine lv_ldc2 hx hb C.2.2.2.1 (C.2.2.2.2.1 _ lk1419) dX8_lots_85 ?_
      refine lv_ldiv hx hb dX8_lots_88 (by decide) ?_
      refine lv_aload_n hx hb dX8_lots_89 rfl (lv_at hl 2 rfl) ?_
      obtain ⟨v15, zqe16, h⟩ := ob h
      refine gf952 C hR zqe16 dX8_lots_90 ?_
      refine lv_i2l (v := (Int32.toInt64 v15)) hx hb dX8_lots_93 rfl ?_
      by_cases zqz33 : (Int32.toInt64 v15) = 0
      · exact absurd (ip zqz33 h) (fun q => by cases q)
      have h := iq zqz33 h
      refine lv_lrem hx hb dX8_lots_94 zqz33 ?_
      refine lv_l2i (v := (Int64.toInt32 ((((x3 * 48271) - (x3 * 48271) / 2147483647 * 2147483647) / 64) - (((x3 * 48271) - (x3 * 48271) / 2147483647 * 2147483647) / 64) / (Int32.toInt64 v15) * (Int32.toInt64 v15)))) hx hb dX8_lots_95 rfl ?_
      refine lv_istore (lv' := [(7, .int (Int64.toInt32 ((((x3 * 48271) - (x3 * 48271) / 2147483647 * 2147483647) / 64) - (((x3 * 48271) - (x3 * 48271) / 2147483647 * 2147483647) / 64) / (Int32.toInt64 v15) * (Int32.toInt64 v15)))), (6, .int (Int64.toInt32 (((x3 * 48271) - (x3 * 48271) / 2147483647 * 2147483647) - ((x3 * 48271) - (x3 * 48271) / 2147483647 * 2147483647) / (Int32.toInt64 v13) * (Int32.toInt64 v13)))), (3, .long ((x3 * 48271) - (x3 * 48271) / 2147483647 * 2147483647)), (0, .ref (B + x0)), (1, .int x1), (5, .int x5)]) hx hb dX8_lots_96 hl (by decide) rfl (fun ls hl => ?_)
      refine lv_aload_n hx hb dX8_lots_98 rfl (lv_at hl 3 rfl) ?_
      obtain ⟨M18, zqe17, h⟩ := ob h
      refine rc_V C hR hS cf_X8_keepPast cv_X8_keepPast lk1224 (ok_X8_keepPast zqe17) (ck_X8_keepPast zqe17) ⟨Nat.le_of_ble_eq_true rfl, Nat.le_of_ble_eq_true rfl⟩ ⟨Nat.zero_le _, Nat.zero_le _⟩ rfl rfl hl.1 (Nat.le_of_ble_eq_true rfl) dX8_lots_99 (rc_k0 (fun H locs hR hS => ?_))
      refine lv_lload_n hx hb dX8_lots_102 rfl (lv_at hl 2 rfl) ?_
      refine lv_ldc2 hx hb C.2.2.2.1 (C.2.2.2.2.1 _ lk1420) dX8_lots_103 ?_
      refine lv_ldiv hx hb dX8_lots_106 (by decide) ?_
      refine lv_ldc2 hx hb C.2.2.2.1 (C.2.2.2.2.1 _ lk1157) dX8_lots_107 ?_
      refine lv_lrem hx hb dX8_lots_110 (by decide) ?_
      refine lv_lconst (v := 0) hx hb dX8_lots_111 (by decide) ?_
      refine W.lcmp hx hb dX8_lots_112 ?_
      refine lv_if_ne (tgt := 125) hx hb dX8_lots_113 (by decide) (fun c => ?_) (fun c => ?_)
      · have h := iq c h
        refine lv_aload_n hx hb dX8_lots_125 rfl (lv_at hl 3 rfl) ?_
        refine lv_iconst (v := 0) hx hb dX8_lots_126 (by decide) ?_
        refine lv_iload hx hb dX8_lots_127 (lv_at hl 1 rfl) ?_
        refine lv_iload hx hb dX8_lots_129 (lv_at hl 0 rfl) ?_
        obtain ⟨v20, zqe19, h⟩ := ob h
        refine rc_V C hR hS cf_X8_can cv_X8_can lk1162 (ok_X8_can zqe19) (ck_X8_can zqe19) ⟨Nat.le_of_ble_eq_true rfl, Nat.le_of_ble_eq_true rfl⟩ ⟨Nat.zero_le _, Nat.zero_le _⟩ rfl rfl hl.1 (Nat.le_of_ble_eq_true rfl) dX8_lots_131 (rc_k1 (fun H locs hR hS => ?_))
        refine lv_if_eq (tgt := 169) hx hb dX8_lots_134 (by decide) (fun c => ?_) (fun c => ?_)
        · have h := ip c h
          exact w_X8_lots_169 C (hk58 := @ih) h hR hS (lv_sub hl [3, 4, 2, 5, 1, 0] rfl)
        · have h := iq c h
          refine lv_aload_n hx hb dX8_lots_137 rfl (lv_at hl 3 rfl) ?_
          obtain ⟨v21, zqe22, h⟩ := ob h
          refine gf948 C hR zqe22 dX8_lots_138 ?_
          refine lv_bipush (v := 8) hx hb dX8_lots_141 (by decide) ?_
          refine lv_iload hx hb dX8_lots_143 (lv_at hl 1 rfl) ?_
          refine lv_iadd hx hb dX8_lots_145 ?_
          obtain ⟨v23, zqe24, h⟩ := ob h
          refine ra_I C hR zqe24 dX8_lots_146 ?_
          refine lv_aload_n hx hb dX8_lots_147 rfl (lv_at hl 3 rfl) ?_
          obtain ⟨v25, zqe26, h⟩ := ob h
          refine gf953 C hR zqe26 dX8_lots_148 ?_
          refine lv_iload hx hb dX8_lots_151 (lv_at hl 0 rfl) ?_
          obtain ⟨v27, zqe28, h⟩ := ob h
          refine ra_I C hR zqe28 dX8_lots_153 ?_
          refine lv_icmp_ne (tgt := 169) hx hb dX8_lots_154 (by decide) (fun c => ?_) (fun c => ?_)
          · have h := iq c h
            exact w_X8_lots_169 C (hk58 := @ih) h hR hS (lv_sub hl [3, 4, 2, 5, 1, 0] rfl)
          · have h := ip c h
            refine lv_aload_n hx hb dX8_lots_157 rfl (lv_at hl 3 rfl) ?_
            refine lv_iconst (v := 0) hx hb dX8_lots_158 (by decide) ?_
            refine lv_iload hx hb dX8_lots_159 (lv_at hl 1 rfl) ?_
            refine lv_iload hx hb dX8_lots_161 (lv_at hl 0 rfl) ?_
            obtain ⟨M30, zqe29, h⟩ := ob h
            refine rc_V C hR hS cf_X8_sighsAt cv_X8_sighsAt lk1232 (ok_X8_sighsAt zqe29) (ck_X8_sighsAt zqe29) ⟨Nat.le_of_ble_eq_true rfl, Nat.le_of_ble_eq_true rfl⟩ ⟨Nat.zero_le _, Nat.zero_le _⟩ rfl rfl hl.1 (Nat.le_of_ble_eq_true rfl) dX8_lots_163 (rc_k0 (fun H locs hR hS => ?_))
            refine lv_goto (tgt := 186) hx hb dX8_lots_166 (by decide) ?_
            refine lv_iinc (v := (x5 + 1)) (lv' := [(5, .int (x5 + 1)), (7, .int (Int64.toInt32 ((((x3 * 48271) - (x3 * 48271) / 2147483647 * 2147483647) / 64) - (((x3 * 48271) - (x3 * 48271) / 2147483647 * 2147483647) / 64) / (Int32.toInt64 v15) * (Int32.toInt64 v15)))), (6, .int (Int64.toInt32 (((x3 * 48271) - (x3 * 48271) / 2147483647 * 2147483647) - ((x3 * 48271) - (x3 * 48271) / 2147483647 * 2147483647) / (Int32.toInt64 v13) * (Int32.toInt64 v13)))), (3, .long ((x3 * 48271) - (x3 * 48271) / 2147483647 * 2147483647)), (0, .ref (B + x0)), (1, .int x1)]) hx hb dX8_lots_186 hl (k := 5) rfl rfl (by decide) rfl (fun ls hl => ?_)
            refine lv_goto (tgt := 58) hx hb dX8_lots_189 (by decide) ?_
            exact ih h hR hS (lv_sub hl [4, 5, 3, 0] rfl)
      · have h := ip c h
        refine lv_aload_n hx hb dX8_lots_116 rfl (lv_at hl 3 rfl) ?_
        refine lv_iload hx hb dX8_lots_117 (lv_at hl 1 rfl) ?_
        obtain ⟨M32, zqe31, h⟩ := ob h
        refine rc_V C hR hS cf_X8_rests cv_X8_rests lk1240 (ok_X8_rests zqe31) (ck_X8_rests zqe31) ⟨Nat.le_of_ble_eq_true rfl, Nat.le_of_ble_eq_true rfl⟩ ⟨Nat.zero_le _, Nat.zero_le _⟩ rfl rfl hl.1 (Nat.le_of_ble_eq_true rfl) dX8_lots_119 (rc_k0 (fun H locs hR hS => ?_))
        refine lv_goto (tgt := 186) hx hb dX8_lots_122 (by decide) ?_
        refine lv_iinc (v := (x5 + 1)) (lv' := [(5, .int (x5 + 1)), (7, .int (Int64.toInt32 ((((x3 * 48271) - (x3 * 48271) / 2147483647 * 2147483647) / 64) - (((x3 * 48271) - (x3 * 48271) / 2147483647 * 2147483647) / 64) / (Int32.toInt64 v15) * (Int32.toInt64 v15)))), (6, .int (Int64.toInt32 (((x3 * 48271) - (x3 * 48271) / 2147483647 * 2147483647) - ((x3 * 48271) - (x3 * 48271) / 2147483647 * 2147483647) / (Int32.toInt64 v13) * (Int32.toInt64 v13)))), (3, .long ((x3 * 48271) - (x3 * 48271) / 2147483647 * 2147483647)), (0, .ref (B + x0)), (1, .int x1)]) hx hb dX8_lots_186 hl (k := 5) rfl rfl (by decide) rfl (fun ls hl => ?_)
        refine lv_goto (tgt := 58) hx hb dX8_lots_189 (by decide) ?_
        exact ih h hR hS (lv_sub hl [4, 5, 3, 0] rfl)
theorem ck_X8_lots  {x0 : Nat} {x1 : Int32} {x2 : Int32} {M : Mem} {r : Int32 × Mem} (h : f_X8_lots  x0 x1 x2 M = some r) : kd M x0 = 18 := by
  unfold f_X8_lots at h
  exact ck h
set_option maxHeartbeats 4000000 in
set_option maxRecDepth 100000 in
theorem ok_X8_lots  {x0 : Nat} {x1 : Int32} {x2 : Int32}  {M : Mem} {r : Int32 × Mem}  (h : f_X8_lots  x0 x1 x2 M = some r) : Ok l yX8_lots cX8_lots 8 (some .int) 4 [.ref (B + x0), .int x1, .int x2] D B ca st M (some (.int r.1)) r.2 := by
  have hk0 := ck_X8_lots h
  unfold f_X8_lots at h
  have h := ip hk0 h
  refine ok_of rfl rfl (Nat.le_of_ble_eq_true rfl) ?_
  intro p e s m args below meth c ls C hl hR hS
  have hl : lv_has ls 8 [(0, .ref (B + x0)), (1, .int x1), (2, .int x2)] := hl
  have hx := C.1
  have hb := C.2.1
  refine lv_iload_n hx hb dX8_lots_0 rfl (lv_at hl 1 rfl) ?_
  refine lv_i2l (v := (Int32.toInt64 x1)) hx hb dX8_lots_1 rfl ?_
  refine lv_lconst (v := 1) hx hb dX8_lots_2 (by decide) ?_
  refine lv_ldc2 hx hb C.2.2.2.1 (C.2.2.2.2.1 _ lk1361) dX8_lots_3 ?_
  refine rc_S C hR hS cf_X8_in cs_X8_in lk1059 (ok_X8_in (Int32.toInt64 x1) 1 20) ⟨Nat.le_of_ble_eq_true rfl, Nat.le_of_ble_eq_true rfl⟩ ⟨Nat.zero_le _, Nat.zero_le _⟩ rfl rfl hl.1 (Nat.le_of_ble_eq_true rfl) dX8_lots_6 (rc_k1 (fun H locs hR hS => ?_))
  refine lv_if_eq (tgt := 24) hx hb dX8_lots_9 (by decide) (fun c => ?_) (fun c => ?_)
  · have h := ip c h
    refine lv_iconst (v := (-1)) hx hb dX8_lots_24 (by decide) ?_
    cases h
    exact rr_I C hR hS dX8_lots_25
  · have h := iq c h
    refine lv_iload_n hx hb dX8_lots_12 rfl (lv_at hl 2 rfl) ?_
    refine lv_i2l (v := (Int32.toInt64 x2)) hx hb dX8_lots_13 rfl ?_
    refine lv_lconst (v := 1) hx hb dX8_lots_14 (by decide) ?_
    refine lv_ldc2 hx hb C.2.2.2.1 (C.2.2.2.2.1 _ lk1416) dX8_lots_15 ?_
    refine rc_S C hR hS cf_X8_in cs_X8_in lk1059 (ok_X8_in (Int32.toInt64 x2) 1 2147483646) ⟨Nat.le_of_ble_eq_true rfl, Nat.le_of_ble_eq_true rfl⟩ ⟨Nat.zero_le _, Nat.zero_le _⟩ rfl rfl hl.1 (Nat.le_of_ble_eq_true rfl) dX8_lots_18 (rc_k1 (fun H locs hR hS => ?_))
    refine lv_if_ne (tgt := 26) hx hb dX8_lots_21 (by decide) (fun c => ?_) (fun c => ?_)
    · have h := iq c h
      refine lv_aload_n hx hb dX8_lots_26 rfl (lv_at hl 0 rfl) ?_
      obtain ⟨v3, zqe4, h⟩ := ob h
      refine gf949 C hR zqe4 dX8_lots_27 ?_
      refine lv_if_ne (tgt := 36) hx hb dX8_lots_30 (by decide) (fun c => ?_) (fun c => ?_)
      · have h := iq c h
        refine lv_aload_n hx hb dX8_lots_36 rfl (lv_at hl 0 rfl) ?_
        obtain ⟨v5, zqe6, h⟩ := ob h
        refine gf948 C hR zqe6 dX8_lots_37 ?_
        refine lv_iconst (v := 0) hx hb dX8_lots_40 (by decide) ?_
        obtain ⟨v7, zqe8, h⟩ := ob h
        refine ra_I C hR zqe8 dX8_lots_41 ?_
        refine lv_iload_n hx hb dX8_lots_42 rfl (lv_at hl 1 rfl) ?_
        refine lv_iadd hx hb dX8_lots_43 ?_
        refine lv_bipush (v := 40) hx hb dX8_lots_44 (by decide) ?_
        refine lv_icmp_le (tgt := 52) hx hb dX8_lots_46 (by decide) (fun c => ?_) (fun c => ?_)
        · have h := ip c h
          refine lv_iload_n hx hb dX8_lots_52 rfl (lv_at hl 2 rfl) ?_
          refine lv_i2l (v := (Int32.toInt64 x2)) hx hb dX8_lots_53 rfl ?_
          refine lv_lstore_n (lv' := [(3, .long (Int32.toInt64 x2)), (0, .ref (B + x0)), (1, .int x1), (2, .int x2)]) hx hb dX8_lots_54 rfl hl (by decide) rfl (fun ls hl => ?_)
          refine lv_iconst (v := 0) hx hb dX8_lots_55 (by decide) ?_
          refine lv_istore (lv' := [(5, .int 0), (3, .long (Int32.toInt64 x2)), (0, .ref (B + x0)), (1, .int x1), (2, .int x2)]) hx hb dX8_lots_56 hl (by decide) rfl (fun ls hl => ?_)
          exact w_X8_lots_58 C  FU h hR hS (lv_sub hl [2, 3, 1, 0] rfl)
        · have h := iq c h
          refine lv_bipush (v := (-2)) hx hb dX8_lots_49 (by decide) ?_
          cases h
          exact rr_I C hR hS dX8_lots_51
      · have h := ip c h
        refine lv_bipush (v := (-4)) hx hb dX8_lots_33 (by decide) ?_
        cases h
        exact rr_I C hR hS dX8_lots_35
    · have h := ip c h
      refine lv_iconst (v := (-1)) hx hb dX8_lots_24 (by decide) ?_
      cases h
      exact rr_I C hR hS dX8_lots_25
theorem ck_X8_lower  {x0 : Nat} {M : Mem} {r : Int64} (h : f_X8_lower  x0 M = some r) : kd M x0 = 18 := by
  unfold f_X8_lower at h
  exact ck h
set_option maxHeartbeats 4000000 in
set_option maxRecDepth 100000 in
theorem ok_X8_lower  {x0 : Nat}  {M : Mem} {r : Int64}  (h : f_X8_lower  x0 M = some r) : Ok l yX8_lower cX8_lower 1 (some .long) 0 [.ref (B + x0)] D B ca st M (some (.long r)) M := by
  have hk0 := ck_X8_lower h
  unfold f_X8_lower at h
  have h := ip hk0 h
  refine ok_of rfl rfl (Nat.le_of_ble_eq_true rfl) ?_
  intro p e s m args below meth c ls C hl hR hS
  have hl : lv_has ls 1 [(0, .ref (B + x0))] := hl
  have hx := C.1
  have hb := C.2.1
  refine lv_aload_n hx hb dX8_lower_0 rfl (lv_at hl 0 rfl) ?_
  obtain ⟨v1, zqe2, h⟩ := ob h
  refine gf962 C hR zqe2 dX8_lower_1 ?_
  cases h
  exact rr_L C hR hS dX8_lower_4
theorem ck_X8_markOf  {x0 : Nat} {x1 : Int32} {x2 : Int32} {x3 : Int32} {M : Mem} {r : Int32} (h : f_X8_markOf  x0 x1 x2 x3 M = some r) : kd M x0 = 18 := by
  unfold f_X8_markOf at h
  exact ck h
set_option maxHeartbeats 4000000 in
set_option maxRecDepth 100000 in
theorem ok_X8_markOf  {x0 : Nat} {x1 : Int32} {x2 : Int32} {x3 : Int32}  {M : Mem} {r : Int32}  (h : f_X8_markOf  x0 x1 x2 x3 M = some r) : Ok l yX8_markOf cX8_markOf 4 (some .int) 3 [.ref (B + x0), .int x1, .int x2, .int x3] D B ca st M (some (.int r)) M := by
  have hk0 := ck_X8_markOf h
  unfold f_X8_markOf at h
  have h := ip hk0 h
  refine ok_of rfl rfl (Nat.le_of_ble_eq_true rfl) ?_
  intro p e s m args below meth c ls C hl hR hS
  have hl : lv_has ls 4 [(0, .ref (B + x0)), (1, .int x1), (2, .int x2), (3, .int x3)] := hl
  have hx := C.1
  have hb := C.2.1
  refine lv_iload_n hx hb dX8_markOf_0 rfl (lv_at hl 3 rfl) ?_
  by_cases zqc1 : x3 = 1
  · have h := ip zqc1 h
    refine lv_tableIn (off := 31) (tgt := 32) hx hb dX8_markOf_1 (by rw [zqc1]; decide) (by rw [zqc1]; decide) (by rw [zqc1]; decide +kernel) (by decide) ?_
    refine lv_aload_n hx hb dX8_markOf_32 rfl (lv_at hl 0 rfl) ?_
    obtain ⟨v2, zqe3, h⟩ := ob h
    refine gf954 C hR zqe3 dX8_markOf_33 ?_
    refine lv_iload_n hx hb dX8_markOf_36 rfl (lv_at hl 2 rfl) ?_
    obtain ⟨v4, zqe5, h⟩ := ob h
    refine ra_I C hR zqe5 dX8_markOf_37 ?_
    refine lv_aload_n hx hb dX8_markOf_38 rfl (lv_at hl 0 rfl) ?_
    refine lv_iload_n hx hb dX8_markOf_39 rfl (lv_at hl 1 rfl) ?_
    refine lv_iload_n hx hb dX8_markOf_40 rfl (lv_at hl 2 rfl) ?_
    obtain ⟨v7, zqe6, h⟩ := ob h
    refine rc_V C hR hS cf_X8_taken cv_X8_taken lk1172 (ok_X8_taken zqe6) (ck_X8_taken zqe6) ⟨Nat.le_of_ble_eq_true rfl, Nat.le_of_ble_eq_true rfl⟩ ⟨Nat.zero_le _, Nat.zero_le _⟩ rfl rfl hl.1 (Nat.le_of_ble_eq_true rfl) dX8_markOf_41 (rc_k1 (fun H locs hR hS => ?_))
    refine lv_isub hx hb dX8_markOf_44 ?_
    cases h
    exact rr_I C hR hS dX8_markOf_45
  have h := iq zqc1 h
  by_cases zqc8 : x3 = 2
  · have h := ip zqc8 h
    refine lv_tableIn (off := 45) (tgt := 46) hx hb dX8_markOf_1 (by rw [zqc8]; decide) (by rw [zqc8]; decide) (by rw [zqc8]; decide +kernel) (by decide) ?_
    refine lv_aload_n hx hb dX8_markOf_46 rfl (lv_at hl 0 rfl) ?_
    obtain ⟨v9, zqe10, h⟩ := ob h
    refine gf950 C hR zqe10 dX8_markOf_47 ?_
    refine lv_iload_n hx hb dX8_markOf_50 rfl (lv_at hl 1 rfl) ?_
    obtain ⟨v11, zqe12, h⟩ := ob h
    refine ra_I C hR zqe12 dX8_markOf_51 ?_
    refine lv_aload_n hx hb dX8_markOf_52 rfl (lv_at hl 0 rfl) ?_
    obtain ⟨v13, zqe14, h⟩ := ob h
    refine gf954 C hR zqe14 dX8_markOf_53 ?_
    refine lv_iload_n hx hb dX8_markOf_56 rfl (lv_at hl 2 rfl) ?_
    obtain ⟨v15, zqe16, h⟩ := ob h
    refine ra_I C hR zqe16 dX8_markOf_57 ?_
    refine rc_S C hR hS cf_X8_isTooDeep cs_X8_isTooDeep lk1169 (ok_X8_isTooDeep v11 v15) ⟨Nat.le_of_ble_eq_true rfl, Nat.le_of_ble_eq_true rfl⟩ ⟨Nat.zero_le _, Nat.zero_le _⟩ rfl rfl hl.1 (Nat.le_of_ble_eq_true rfl) dX8_markOf_58 (rc_k1 (fun H locs hR hS => ?_))
    refine lv_if_eq (tgt := 68) hx hb dX8_markOf_61 (by decide) (fun c => ?_) (fun c => ?_)
    · have h := ip c h
      refine lv_iconst (v := 0) hx hb dX8_markOf_68 (by decide) ?_
      cases h
      exact rr_I C hR hS dX8_markOf_69
    · have h := iq c h
      refine lv_iconst (v := 1) hx hb dX8_markOf_64 (by decide) ?_
      refine lv_goto (tgt := 69) hx hb dX8_markOf_65 (by decide) ?_
      cases h
      exact rr_I C hR hS dX8_markOf_69
  have h := iq zqc8 h
  by_cases zqc18 : x3 = 3
  · have h := ip zqc18 h
    refine lv_tableIn (off := 69) (tgt := 70) hx hb dX8_markOf_1 (by rw [zqc18]; decide) (by rw [zqc18]; decide) (by rw [zqc18]; decide +kernel) (by decide) ?_
    refine lv_aload_n hx hb dX8_markOf_70 rfl (lv_at hl 0 rfl) ?_
    obtain ⟨v19, zqe20, h⟩ := ob h
    refine gf955 C hR zqe20 dX8_markOf_71 ?_
    refine lv_iload_n hx hb dX8_markOf_74 rfl (lv_at hl 2 rfl) ?_
    obtain ⟨v21, zqe22, h⟩ := ob h
    refine ra_I C hR zqe22 dX8_markOf_75 ?_
    refine lv_aload_n hx hb dX8_markOf_76 rfl (lv_at hl 0 rfl) ?_
    refine lv_iload_n hx hb dX8_markOf_77 rfl (lv_at hl 1 rfl) ?_
    refine lv_iload_n hx hb dX8_markOf_78 rfl (lv_at hl 2 rfl) ?_
    obtain ⟨v24, zqe23, h⟩ := ob h
    refine rc_V C hR hS cf_X8_brought cv_X8_brought lk1206 (ok_X8_brought zqe23) (ck_X8_brought zqe23) ⟨Nat.le_of_ble_eq_true rfl, Nat.le_of_ble_eq_true rfl⟩ ⟨Nat.zero_le _, Nat.zero_le _⟩ rfl rfl hl.1 (Nat.le_of_ble_eq_true rfl) dX8_markOf_79 (rc_k1 (fun H locs hR hS => ?_))
    refine lv_isub hx hb dX8_markOf_82 ?_
    cases h
    exact rr_I C hR hS dX8_markOf_83
  have h := iq zqc18 h
  by_cases zqc25 : x3 = 4
  · have h := ip zqc25 h
    refine lv_tableIn (off := 83) (tgt := 84) hx hb dX8_markOf_1 (by rw [zqc25]; decide) (by rw [zqc25]; decide) (by rw [zqc25]; decide +kernel) (by decide) ?_
    refine lv_aload_n hx hb dX8_markOf_84 rfl (lv_at hl 0 rfl) ?_
    obtain ⟨v26, zqe27, h⟩ := ob h
    refine gf948 C hR zqe27 dX8_markOf_85 ?_
    refine lv_iconst (v := 2) hx hb dX8_markOf_88 (by decide) ?_
    obtain ⟨v28, zqe29, h⟩ := ob h
    refine ra_I C hR zqe29 dX8_markOf_89 ?_
    refine lv_iload_n hx hb dX8_markOf_90 rfl (lv_at hl 2 rfl) ?_
    refine rc_S C hR hS cf_X8_has cs_X8_has lk1166 (ok_X8_has v28 x2) ⟨Nat.le_of_ble_eq_true rfl, Nat.le_of_ble_eq_true rfl⟩ ⟨Nat.zero_le _, Nat.zero_le _⟩ rfl rfl hl.1 (Nat.le_of_ble_eq_true rfl) dX8_markOf_91 (rc_k1 (fun H locs hR hS => ?_))
    refine lv_if_eq (tgt := 101) hx hb dX8_markOf_94 (by decide) (fun c => ?_) (fun c => ?_)
    · have h := ip c h
      refine lv_iconst (v := 1) hx hb dX8_markOf_101 (by decide) ?_
      cases h
      exact rr_I C hR hS dX8_markOf_102
    · have h := iq c h
      refine lv_iconst (v := 0) hx hb dX8_markOf_97 (by decide) ?_
      refine lv_goto (tgt := 102) hx hb dX8_markOf_98 (by decide) ?_
      cases h
      exact rr_I C hR hS dX8_markOf_102
  have h := iq zqc25 h
  refine lv_tableOut (tgt := 103) hx hb dX8_markOf_1 (by have q0 := lv_neT (a := 1) zqc1 (by decide); have q1 := lv_neT (a := 2) zqc8 (by decide); have q2 := lv_neT (a := 3) zqc18 (by decide); have q3 := lv_neT (a := 4) zqc25 (by decide); omega) (by decide) ?_
  refine lv_iconst (v := 2) hx hb dX8_markOf_103 (by decide) ?_
  refine lv_aload_n hx hb dX8_markOf_104 rfl (lv_at hl 0 rfl) ?_
  obtain ⟨v31, zqe32, h⟩ := ob h
  refine gf954 C hR zqe32 dX8_markOf_105 ?_
  refine lv_iload_n hx hb dX8_markOf_108 rfl (lv_at hl 2 rfl) ?_
  obtain ⟨v33, zqe34, h⟩ := ob h
  refine ra_I C hR zqe34 dX8_markOf_109 ?_
  refine rc_S C hR hS cf_X8_isTooDeep cs_X8_isTooDeep lk1169 (ok_X8_isTooDeep 2 v33) ⟨Nat.le_of_ble_eq_true rfl, Nat.le_of_ble_eq_true rfl⟩ ⟨Nat.zero_le _, Nat.zero_le _⟩ rfl rfl hl.1 (Nat.le_of_ble_eq_true rfl) dX8_markOf_110 (rc_k1 (fun H locs hR hS => ?_))
  refine lv_if_eq (tgt := 133) hx hb dX8_markOf_113 (by decide) (fun c => ?_) (fun c => ?_)
  · have h := ip c h
    refine lv_iconst (v := 0) hx hb dX8_markOf_133 (by decide) ?_
    cases h
    exact rr_I C hR hS dX8_markOf_134
  · have h := iq c h
    refine lv_iconst (v := 5) hx hb dX8_markOf_116 (by decide) ?_
    refine lv_aload_n hx hb dX8_markOf_117 rfl (lv_at hl 0 rfl) ?_
    obtain ⟨v36, zqe37, h⟩ := ob h
    refine gf954 C hR zqe37 dX8_markOf_118 ?_
    refine lv_iload_n hx hb dX8_markOf_121 rfl (lv_at hl 2 rfl) ?_
    obtain ⟨v38, zqe39, h⟩ := ob h
    refine ra_I C hR zqe39 dX8_markOf_122 ?_
    refine rc_S C hR hS cf_X8_isTooDeep cs_X8_isTooDeep lk1169 (ok_X8_isTooDeep 5 v38) ⟨Nat.le_of_ble_eq_true rfl, Nat.le_of_ble_eq_true rfl⟩ ⟨Nat.zero_le _, Nat.zero_le _⟩ rfl rfl hl.1 (Nat.le_of_ble_eq_true rfl) dX8_markOf_123 (rc_k1 (fun H locs hR hS => ?_))
    refine lv_if_ne (tgt := 133) hx hb dX8_markOf_126 (by decide) (fun c => ?_) (fun c => ?_)
    · have h := iq c h
      refine lv_iconst (v := 0) hx hb dX8_markOf_133 (by decide) ?_
      cases h
      exact rr_I C hR hS dX8_markOf_134
    · have h := ip c h
      refine lv_iconst (v := 1) hx hb dX8_markOf_129 (by decide) ?_
      refine lv_goto (tgt := 134) hx hb dX8_markOf_130 (by decide) ?_
      cases h
      exact rr_I C hR hS dX8_markOf_134
set_option maxHeartbeats 4000000 in
set_option maxRecDepth 100000 in
theorem w_X8_mark_42    {r : Int32 × Mem} (C : Cx p s m args meth c RX8 cX8_mark 5 (some .int) D B ca st)   : ∀ (n : Nat) {x0 : Nat} {x1 : Int32} {x2 : Int32} {x3 : Int32} {x4 : Int32} {M : Mem}, f_X8_mark_42  n x0 x1 x2 x3 x4 M = some r → ∀ {H : Heap} {locs : List Loc} {ls : Array Slot}, RH D B ca M H → va_S (AA B) s.heap H locs → lv_has ls 5 [(0, .ref (B + x0)), (1, .int x1), (2, .int x2), (3, .int x3), (4, .int x4)] → W p l e (rmD 4) s m args below meth c H locs 0 0 (MQ below (Qp D B ca st (some (.int r.1)) r.2) args s 0 0 (AA B)) (F0 m 42 ls []) := by
  have hx := C.1
  have hb := C.2.1
  intro n
  induction n with
  | zero => intro x0 x1 x2 x3 x4 M h; simp [f_X8_mark_42] at h
  | succ n ih =>
    intro x0 x1 x2 x3 x4 M h H locs ls hR hS hl
    rw [f_X8_mark_42] at h
    refine lv_iload hx hb dX8_mark_42 (lv_at hl 4 rfl) ?_
    refine lv_aload_n hx hb dX8_mark_44 rfl (lv_at hl 0 rfl) ?_
    obtain ⟨v9, zqe10, h⟩ := ob h
    refine gf952 C hR zqe10 dX8_mark_45 ?_
    refine lv_icmp_ge (tgt := 68) hx hb dX8_mark_48 (by decide) (fun c => ?_) (fun c => ?_)
    · have h := ip c h
      refine lv_iload_n hx hb dX8_mark_68 rfl (lv_at hl 3 rfl) ?_
      cases h
      exact rr_I C hR hS dX8_mark_69
    · have h := iq c h
      refine lv_iload_n hx hb dX8_mark_51 rfl (lv_at hl 3 rfl) ?_
      refine lv_aload_n hx hb dX8_mark_52 rfl (lv_at hl 0 rfl) ?_
      refine lv_iload_n hx hb dX8_mark_53 rfl (lv_at hl 1 rfl) ?_
      refine lv_iload hx hb dX8_mark_54 (lv_at hl 4 rfl) ?_
      refine lv_iload_n hx hb dX8_mark_56 rfl (lv_at hl 2 rfl) ?_
      obtain ⟨v12, zqe11, h⟩ := ob h
      refine rc_V C hR hS cf_X8_markOf cv_X8_markOf lk1202 (ok_X8_markOf zqe11) (ck_X8_markOf zqe11) ⟨Nat.le_of_ble_eq_true rfl, Nat.le_of_ble_eq_true rfl⟩ ⟨Nat.zero_le _, Nat.zero_le _⟩ rfl rfl hl.1 (Nat.le_of_ble_eq_true rfl) dX8_mark_57 (rc_k1 (fun H locs hR hS => ?_))
      refine lv_iadd hx hb dX8_mark_60 ?_
      refine lv_istore_n (lv' := [(3, .int (x3 + v12)), (0, .ref (B + x0)), (1, .int x1), (2, .int x2), (4, .int x4)]) hx hb dX8_mark_61 rfl hl (by decide) rfl (fun ls hl => ?_)
      refine lv_iinc (v := (x4 + 1)) (lv' := [(4, .int (x4 + 1)), (3, .int (x3 + v12)), (0, .ref (B + x0)), (1, .int x1), (2, .int x2)]) hx hb dX8_mark_62 hl (k := 4) rfl rfl (by decide) rfl (fun ls hl => ?_)
      refine lv_goto (tgt := 42) hx hb dX8_mark_65 (by decide) ?_
      exact ih h hR hS (lv_sub hl [2, 3, 4, 1, 0] rfl)
theorem ck_X8_mark  {x0 : Nat} {x1 : Int32} {x2 : Int32} {M : Mem} {r : Int32 × Mem} (h : f_X8_mark  x0 x1 x2 M = some r) : kd M x0 = 18 := by
  unfold f_X8_mark at h
  exact ck h
set_option maxHeartbeats 4000000 in
set_option maxRecDepth 100000 in
theorem ok_X8_mark  {x0 : Nat} {x1 : Int32} {x2 : Int32}  {M : Mem} {r : Int32 × Mem}  (h : f_X8_mark  x0 x1 x2 M = some r) : Ok l yX8_mark cX8_mark 5 (some .int) 4 [.ref (B + x0), .int x1, .int x2] D B ca st M (some (.int r.1)) r.2 := by
  have hk0 := ck_X8_mark h
  unfold f_X8_mark at h
  have h := ip hk0 h
  refine ok_of rfl rfl (Nat.le_of_ble_eq_true rfl) ?_
  intro p e s m args below meth c ls C hl hR hS
  have hl : lv_has ls 5 [(0, .ref (B + x0)), (1, .int x1), (2, .int x2)] := hl
  have hx := C.1
  have hb := C.2.1
  refine lv_aload_n hx hb dX8_mark_0 rfl (lv_at hl 0 rfl) ?_
  refine lv_iload_n hx hb dX8_mark_1 rfl (lv_at hl 1 rfl) ?_
  obtain ⟨v2, zqe1, h⟩ := ob h
  refine rc_V C hR hS cf_X8_isSigher cv_X8_isSigher lk1153 (ok_X8_isSigher zqe1) (ck_X8_isSigher zqe1) ⟨Nat.le_of_ble_eq_true rfl, Nat.le_of_ble_eq_true rfl⟩ ⟨Nat.zero_le _, Nat.zero_le _⟩ rfl rfl hl.1 (Nat.le_of_ble_eq_true rfl) dX8_mark_2 (rc_k1 (fun H locs hR hS => ?_))
  refine lv_if_eq (tgt := 20) hx hb dX8_mark_5 (by decide) (fun c => ?_) (fun c => ?_)
  · have h := ip c h
    refine lv_iconst (v := (-1)) hx hb dX8_mark_20 (by decide) ?_
    cases h
    exact rr_I C hR hS dX8_mark_21
  · have h := iq c h
    refine lv_iload_n hx hb dX8_mark_8 rfl (lv_at hl 2 rfl) ?_
    refine lv_i2l (v := (Int32.toInt64 x2)) hx hb dX8_mark_9 rfl ?_
    refine lv_lconst (v := 1) hx hb dX8_mark_10 (by decide) ?_
    refine lv_ldc2 hx hb C.2.2.2.1 (C.2.2.2.2.1 _ lk1058) dX8_mark_11 ?_
    refine rc_S C hR hS cf_X8_in cs_X8_in lk1059 (ok_X8_in (Int32.toInt64 x2) 1 5) ⟨Nat.le_of_ble_eq_true rfl, Nat.le_of_ble_eq_true rfl⟩ ⟨Nat.zero_le _, Nat.zero_le _⟩ rfl rfl hl.1 (Nat.le_of_ble_eq_true rfl) dX8_mark_14 (rc_k1 (fun H locs hR hS => ?_))
    refine lv_if_ne (tgt := 22) hx hb dX8_mark_17 (by decide) (fun c => ?_) (fun c => ?_)
    · have h := iq c h
      refine lv_aload_n hx hb dX8_mark_22 rfl (lv_at hl 0 rfl) ?_
      refine lv_iload_n hx hb dX8_mark_23 rfl (lv_at hl 1 rfl) ?_
      refine lv_iload_n hx hb dX8_mark_24 rfl (lv_at hl 2 rfl) ?_
      obtain ⟨v5, zqe4, h⟩ := ob h
      refine rc_V C hR hS cf_X8_isOf cv_X8_isOf lk1198 (ok_X8_isOf zqe4) (ck_X8_isOf zqe4) ⟨Nat.le_of_ble_eq_true rfl, Nat.le_of_ble_eq_true rfl⟩ ⟨Nat.zero_le _, Nat.zero_le _⟩ rfl rfl hl.1 (Nat.le_of_ble_eq_true rfl) dX8_mark_25 (rc_k1 (fun H locs hR hS => ?_))
      refine lv_if_ne (tgt := 37) hx hb dX8_mark_28 (by decide) (fun c => ?_) (fun c => ?_)
      · have h := iq c h
        refine lv_iconst (v := 0) hx hb dX8_mark_37 (by decide) ?_
        refine lv_istore_n (lv' := [(3, .int 0), (0, .ref (B + x0)), (1, .int x1), (2, .int x2)]) hx hb dX8_mark_38 rfl hl (by decide) rfl (fun ls hl => ?_)
        refine lv_iconst (v := 0) hx hb dX8_mark_39 (by decide) ?_
        refine lv_istore (lv' := [(4, .int 0), (3, .int 0), (0, .ref (B + x0)), (1, .int x1), (2, .int x2)]) hx hb dX8_mark_40 hl (by decide) rfl (fun ls hl => ?_)
        exact w_X8_mark_42 C  FU h hR hS (lv_sub hl [2, 3, 4, 1, 0] rfl)
      · have h := ip c h
        refine lv_aload_n hx hb dX8_mark_31 rfl (lv_at hl 0 rfl) ?_
        refine lv_iconst (v := 3) hx hb dX8_mark_32 (by decide) ?_
        obtain ⟨qv7, zqe6, h⟩ := ob h
        refine rc_V C hR hS cf_X8_find cv_X8_find lk1062 (ok_X8_find zqe6) (ck_X8_find zqe6) ⟨Nat.le_of_ble_eq_true rfl, Nat.le_of_ble_eq_true rfl⟩ ⟨Nat.zero_le _, Nat.zero_le _⟩ rfl rfl hl.1 (Nat.le_of_ble_eq_true rfl) dX8_mark_33 (rc_k1 (fun H locs hR hS => ?_))
        cases h
        exact rr_I C hR hS dX8_mark_36
    · have h := ip c h
      refine lv_iconst (v := (-1)) hx hb dX8_mark_20 (by decide) ?_
      cases h
      exact rr_I C hR hS dX8_mark_21
set_option maxHeartbeats 4000000 in
set_option maxRecDepth 100000 in
theorem w_X8_mean_44    {r : Int32 × Mem} (C : Cx p s m args meth c RX8 cX8_mean 5 (some .int) D B ca st)   : ∀ (n : Nat) {x0 : Nat} {x1 : Int32} {x2 : Int64} {x4 : Int32} {M : Mem}, f_X8_mean_44  n x0 x1 x2 x4 M = some r → ∀ {H : Heap} {locs : List Loc} {ls : Array Slot}, RH D B ca M H → va_S (AA B) s.heap H locs → lv_has ls 5 [(0, .ref (B + x0)), (1, .int x1), (2, .long x2), (4, .int x4)] → W p l e (rmD 2) s m args below meth c H locs 0 0 (MQ below (Qp D B ca st (some (.int r.1)) r.2) args s 0 0 (AA B)) (F0 m 44 ls []) := by
  have hx := C.1
  have hb := C.2.1
  intro n
  induction n with
  | zero => intro x0 x1 x2 x4 M h; simp [f_X8_mean_44] at h
  | succ n ih =>
    intro x0 x1 x2 x4 M h H locs ls hR hS hl
    rw [f_X8_mean_44] at h
    refine lv_iload hx hb dX8_mean_44 (lv_at hl 3 rfl) ?_
    refine lv_aload_n hx hb dX8_mean_46 rfl (lv_at hl 0 rfl) ?_
    obtain ⟨v17, zqe18, h⟩ := ob h
    refine gf956 C hR zqe18 dX8_mean_47 ?_
    refine lv_iload_n hx hb dX8_mean_50 rfl (lv_at hl 1 rfl) ?_
    obtain ⟨v19, zqe20, h⟩ := ob h
    refine ra_I C hR zqe20 dX8_mean_51 ?_
    refine lv_icmp_ge (tgt := 77) hx hb dX8_mean_52 (by decide) (fun c => ?_) (fun c => ?_)
    · have h := ip c h
      refine lv_aload_n hx hb dX8_mean_77 rfl (lv_at hl 0 rfl) ?_
      refine lv_lload_n hx hb dX8_mean_78 rfl (lv_at hl 2 rfl) ?_
      refine lv_aload_n hx hb dX8_mean_79 rfl (lv_at hl 0 rfl) ?_
      obtain ⟨v21, zqe22, h⟩ := ob h
      refine gf956 C hR zqe22 dX8_mean_80 ?_
      refine lv_iload_n hx hb dX8_mean_83 rfl (lv_at hl 1 rfl) ?_
      obtain ⟨v23, zqe24, h⟩ := ob h
      refine ra_I C hR zqe24 dX8_mean_84 ?_
      refine lv_i2l (v := (Int32.toInt64 v23)) hx hb dX8_mean_85 rfl ?_
      by_cases zqz28 : (Int32.toInt64 v23) = 0
      · exact absurd (ip zqz28 h) (fun q => by cases q)
      have h := iq zqz28 h
      refine lv_ldiv hx hb dX8_mean_86 zqz28 ?_
      refine lv_l2i (v := (Int64.toInt32 (x2 / (Int32.toInt64 v23)))) hx hb dX8_mean_87 rfl ?_
      obtain ⟨qv26, zqe25, h⟩ := ob h
      refine rc_V C hR hS cf_X8_tell cv_X8_tell lk1078 (ok_X8_tell zqe25) (ck_X8_tell zqe25) ⟨Nat.le_of_ble_eq_true rfl, Nat.le_of_ble_eq_true rfl⟩ ⟨Nat.zero_le _, Nat.zero_le _⟩ rfl rfl hl.1 (Nat.le_of_ble_eq_true rfl) dX8_mean_88 (rc_k1 (fun H locs hR hS => ?_))
      cases h
      exact rr_I C hR hS dX8_mean_91
    · have h := iq c h
      refine lv_lload_n hx hb dX8_mean_55 rfl (lv_at hl 2 rfl) ?_
      refine lv_aload_n hx hb dX8_mean_56 rfl (lv_at hl 0 rfl) ?_
      obtain ⟨v29, zqe30, h⟩ := ob h
      refine gf957 C hR zqe30 dX8_mean_57 ?_
      refine lv_bipush (v := 40) hx hb dX8_mean_60 (by decide) ?_
      refine lv_iload_n hx hb dX8_mean_62 rfl (lv_at hl 1 rfl) ?_
      refine lv_imul hx hb dX8_mean_63 ?_
      refine lv_iload hx hb dX8_mean_64 (lv_at hl 3 rfl) ?_
      refine lv_iadd hx hb dX8_mean_66 ?_
      obtain ⟨v31, zqe32, h⟩ := ob h
      refine ra_I C hR zqe32 dX8_mean_67 ?_
      refine lv_i2l (v := (Int32.toInt64 v31)) hx hb dX8_mean_68 rfl ?_
      refine lv_ladd hx hb dX8_mean_69 ?_
      refine lv_lstore_n (lv' := [(2, .long (x2 + (Int32.toInt64 v31))), (0, .ref (B + x0)), (1, .int x1), (4, .int x4)]) hx hb dX8_mean_70 rfl hl (by decide) rfl (fun ls hl => ?_)
      refine lv_iinc (v := (x4 + 1)) (lv' := [(4, .int (x4 + 1)), (2, .long (x2 + (Int32.toInt64 v31))), (0, .ref (B + x0)), (1, .int x1)]) hx hb dX8_mean_71 hl (k := 3) rfl rfl (by decide) rfl (fun ls hl => ?_)
      refine lv_goto (tgt := 44) hx hb dX8_mean_74 (by decide) ?_
      exact ih h hR hS (lv_sub hl [2, 3, 1, 0] rfl)
theorem ck_X8_mean  {x0 : Nat} {x1 : Int32} {M : Mem} {r : Int32 × Mem} (h : f_X8_mean  x0 x1 M = some r) : kd M x0 = 18 := by
  unfold f_X8_mean at h
  exact ck h
set_option maxHeartbeats 4000000 in
set_option maxRecDepth 100000 in
theorem ok_X8_mean  {x0 : Nat} {x1 : Int32}  {M : Mem} {r : Int32 × Mem}  (h : f_X8_mean  x0 x1 M = some r) : Ok l yX8_mean cX8_mean 5 (some .int) 2 [.ref (B + x0), .int x1] D B ca st M (some (.int r.1)) r.2 := by
  have hk0 := ck_X8_mean h
  unfold f_X8_mean at h
  have h := ip hk0 h
  refine ok_of rfl rfl (Nat.le_of_ble_eq_true rfl) ?_
  intro p e s m args below meth c ls C hl hR hS
  have hl : lv_has ls 5 [(0, .ref (B + x0)), (1, .int x1)] := hl
  have hx := C.1
  have hb := C.2.1
  refine lv_iload_n hx hb dX8_mean_0 rfl (lv_at hl 1 rfl) ?_
  obtain ⟨v2, zqe1, h⟩ := ob h
  refine rc_S C hR hS cf_X8_isRow cs_X8_isRow lk1055 (ok_X8_isRow zqe1) ⟨Nat.le_of_ble_eq_true rfl, Nat.le_of_ble_eq_true rfl⟩ ⟨Nat.zero_le _, Nat.zero_le _⟩ rfl rfl hl.1 (Nat.le_of_ble_eq_true rfl) dX8_mean_1 (rc_k1 (fun H locs hR hS => ?_))
  refine lv_if_ne (tgt := 9) hx hb dX8_mean_4 (by decide) (fun c => ?_) (fun c => ?_)
  · have h := iq c h
    refine lv_aload_n hx hb dX8_mean_9 rfl (lv_at hl 0 rfl) ?_
    obtain ⟨v3, zqe4, h⟩ := ob h
    refine gf956 C hR zqe4 dX8_mean_10 ?_
    refine lv_iload_n hx hb dX8_mean_13 rfl (lv_at hl 1 rfl) ?_
    obtain ⟨v5, zqe6, h⟩ := ob h
    refine ra_I C hR zqe6 dX8_mean_14 ?_
    refine lv_if_ge (tgt := 24) hx hb dX8_mean_15 (by decide) (fun c => ?_) (fun c => ?_)
    · have h := ip c h
      refine lv_aload_n hx hb dX8_mean_24 rfl (lv_at hl 0 rfl) ?_
      obtain ⟨v7, zqe8, h⟩ := ob h
      refine gf956 C hR zqe8 dX8_mean_25 ?_
      refine lv_iload_n hx hb dX8_mean_28 rfl (lv_at hl 1 rfl) ?_
      obtain ⟨v9, zqe10, h⟩ := ob h
      refine ra_I C hR zqe10 dX8_mean_29 ?_
      refine lv_if_ne (tgt := 39) hx hb dX8_mean_30 (by decide) (fun c => ?_) (fun c => ?_)
      · have h := iq c h
        refine lv_lconst (v := 0) hx hb dX8_mean_39 (by decide) ?_
        refine lv_lstore_n (lv' := [(2, .long 0), (0, .ref (B + x0)), (1, .int x1)]) hx hb dX8_mean_40 rfl hl (by decide) rfl (fun ls hl => ?_)
        refine lv_iconst (v := 0) hx hb dX8_mean_41 (by decide) ?_
        refine lv_istore (lv' := [(4, .int 0), (2, .long 0), (0, .ref (B + x0)), (1, .int x1)]) hx hb dX8_mean_42 hl (by decide) rfl (fun ls hl => ?_)
        exact w_X8_mean_44 C  FU h hR hS (lv_sub hl [2, 3, 1, 0] rfl)
      · have h := ip c h
        refine lv_aload_n hx hb dX8_mean_33 rfl (lv_at hl 0 rfl) ?_
        refine lv_iconst (v := 4) hx hb dX8_mean_34 (by decide) ?_
        obtain ⟨qv12, zqe11, h⟩ := ob h
        refine rc_V C hR hS cf_X8_find cv_X8_find lk1062 (ok_X8_find zqe11) (ck_X8_find zqe11) ⟨Nat.le_of_ble_eq_true rfl, Nat.le_of_ble_eq_true rfl⟩ ⟨Nat.zero_le _, Nat.zero_le _⟩ rfl rfl hl.1 (Nat.le_of_ble_eq_true rfl) dX8_mean_35 (rc_k1 (fun H locs hR hS => ?_))
        cases h
        exact rr_I C hR hS dX8_mean_38
    · have h := iq c h
      refine lv_aload_n hx hb dX8_mean_18 rfl (lv_at hl 0 rfl) ?_
      refine lv_iconst (v := 1) hx hb dX8_mean_19 (by decide) ?_
      obtain ⟨qv15, zqe14, h⟩ := ob h
      refine rc_V C hR hS cf_X8_find cv_X8_find lk1062 (ok_X8_find zqe14) (ck_X8_find zqe14) ⟨Nat.le_of_ble_eq_true rfl, Nat.le_of_ble_eq_true rfl⟩ ⟨Nat.zero_le _, Nat.zero_le _⟩ rfl rfl hl.1 (Nat.le_of_ble_eq_true rfl) dX8_mean_20 (rc_k1 (fun H locs hR hS => ?_))
      cases h
      exact rr_I C hR hS dX8_mean_23
  · have h := ip c h
    refine lv_iconst (v := (-1)) hx hb dX8_mean_7 (by decide) ?_
    cases h
    exact rr_I C hR hS dX8_mean_8
set_option maxHeartbeats 4000000 in
set_option maxRecDepth 100000 in
theorem w_X8_doesPlain_20  {k10 : Nat → Int32 → Int32 → Mem → Option Mem}  {r : Mem} (C : Cx p s m args meth c RX8 cX8_doesPlain 4 none D B ca st)  (hk10 : ∀ {x0 : Nat} {x1 : Int32} {x2 : Int32} {M : Mem}, k10 x0 x1 x2 M = some r → ∀ {H : Heap} {locs : List Loc} {ls : Array Slot}, RH D B ca M H → va_S (AA B) s.heap H locs → lv_has ls 4 [(0, .ref (B + x0)), (1, .int x1), (2, .int x2)] → W p l e (rmD 4) s m args below meth c H locs 0 0 (MQ below (Qp D B ca st none r) args s 0 0 (AA B)) (F0 m 10 ls [])) : ∀ (n : Nat) {x0 : Nat} {x1 : Int32} {x2 : Int32} {x3 : Int32} {M : Mem}, f_X8_doesPlain_20 k10 n x0 x1 x2 x3 M = some r → ∀ {H : Heap} {locs : List Loc} {ls : Array Slot}, RH D B ca M H → va_S (AA B) s.heap H locs → lv_has ls 4 [(0, .ref (B + x0)), (1, .int x1), (2, .int x2), (3, .int x3)] → W p l e (rmD 4) s m args below meth c H locs 0 0 (MQ below (Qp D B ca st none r) args s 0 0 (AA B)) (F0 m 20 ls []) := by
  have hx := C.1
  have hb := C.2.1
  intro n
  induction n with
  | zero => intro x0 x1 x2 x3 M h; simp [f_X8_doesPlain_20] at h
  | succ n ih =>
    intro x0 x1 x2 x3 M h H locs ls hR hS hl
    rw [f_X8_doesPlain_20] at h
    refine lv_iload_n hx hb dX8_doesPlain_20 rfl (lv_at hl 3 rfl) ?_
    refine lv_aload_n hx hb dX8_doesPlain_21 rfl (lv_at hl 0 rfl) ?_
    obtain ⟨v5, zqe6, h⟩ := ob h
    refine gf949 C hR zqe6 dX8_doesPlain_22 ?_
    refine lv_icmp_ge (tgt := 63) hx hb dX8_doesPlain_25 (by decide) (fun c => ?_) (fun c => ?_)
    · have h := ip c h
      refine lv_iinc (v := (x2 + 1)) (lv' := [(2, .int (x2 + 1)), (0, .ref (B + x0)), (1, .int x1), (3, .int x3)]) hx hb dX8_doesPlain_63 hl (k := 2) rfl rfl (by decide) rfl (fun ls hl => ?_)
      refine lv_goto (tgt := 10) hx hb dX8_doesPlain_66 (by decide) ?_
      exact hk10 h hR hS (lv_sub hl [1, 2, 0] rfl)
    · have h := iq c h
      refine lv_iload_n hx hb dX8_doesPlain_28 rfl (lv_at hl 1 rfl) ?_
      refine lv_iload_n hx hb dX8_doesPlain_29 rfl (lv_at hl 2 rfl) ?_
      refine rc_S C hR hS cf_X8_has cs_X8_has lk1166 (ok_X8_has x1 x2) ⟨Nat.le_of_ble_eq_true rfl, Nat.le_of_ble_eq_true rfl⟩ ⟨Nat.zero_le _, Nat.zero_le _⟩ rfl rfl hl.1 (Nat.le_of_ble_eq_true rfl) dX8_doesPlain_30 (rc_k1 (fun H locs hR hS => ?_))
      refine lv_if_ne (tgt := 57) hx hb dX8_doesPlain_33 (by decide) (fun c => ?_) (fun c => ?_)
      · have h := iq c h
        refine lv_iinc (v := (x3 + 1)) (lv' := [(3, .int (x3 + 1)), (0, .ref (B + x0)), (1, .int x1), (2, .int x2)]) hx hb dX8_doesPlain_57 hl (k := 3) rfl rfl (by decide) rfl (fun ls hl => ?_)
        refine lv_goto (tgt := 20) hx hb dX8_doesPlain_60 (by decide) ?_
        exact ih h hR hS (lv_sub hl [1, 2, 3, 0] rfl)
      · have h := ip c h
        refine lv_aload_n hx hb dX8_doesPlain_36 rfl (lv_at hl 0 rfl) ?_
        refine lv_sipush (v := 1972) hx hb dX8_doesPlain_37 (by decide) ?_
        refine lv_iload_n hx hb dX8_doesPlain_40 rfl (lv_at hl 3 rfl) ?_
        refine lv_iload_n hx hb dX8_doesPlain_41 rfl (lv_at hl 2 rfl) ?_
        obtain ⟨v9, zqe8, h⟩ := ob h
        refine rc_V C hR hS cf_X8_can cv_X8_can lk1162 (ok_X8_can zqe8) (ck_X8_can zqe8) ⟨Nat.le_of_ble_eq_true rfl, Nat.le_of_ble_eq_true rfl⟩ ⟨Nat.zero_le _, Nat.zero_le _⟩ rfl rfl hl.1 (Nat.le_of_ble_eq_true rfl) dX8_doesPlain_42 (rc_k1 (fun H locs hR hS => ?_))
        refine lv_if_eq (tgt := 57) hx hb dX8_doesPlain_45 (by decide) (fun c => ?_) (fun c => ?_)
        · have h := ip c h
          refine lv_iinc (v := (x3 + 1)) (lv' := [(3, .int (x3 + 1)), (0, .ref (B + x0)), (1, .int x1), (2, .int x2)]) hx hb dX8_doesPlain_57 hl (k := 3) rfl rfl (by decide) rfl (fun ls hl => ?_)
          refine lv_goto (tgt := 20) hx hb dX8_doesPlain_60 (by decide) ?_
          exact ih h hR hS (lv_sub hl [1, 2, 3, 0] rfl)
        · have h := iq c h
          refine lv_aload_n hx hb dX8_doesPlain_48 rfl (lv_at hl 0 rfl) ?_
          refine lv_sipush (v := 1972) hx hb dX8_doesPlain_49 (by decide) ?_
          refine lv_iload_n hx hb dX8_doesPlain_52 rfl (lv_at hl 3 rfl) ?_
          refine lv_iload_n hx hb dX8_doesPlain_53 rfl (lv_at hl 2 rfl) ?_
          obtain ⟨M11, zqe10, h⟩ := ob h
          refine rc_V C hR hS cf_X8_sighsAt cv_X8_sighsAt lk1232 (ok_X8_sighsAt zqe10) (ck_X8_sighsAt zqe10) ⟨Nat.le_of_ble_eq_true rfl, Nat.le_of_ble_eq_true rfl⟩ ⟨Nat.zero_le _, Nat.zero_le _⟩ rfl rfl hl.1 (Nat.le_of_ble_eq_true rfl) dX8_doesPlain_54 (rc_k0 (fun H locs hR hS => ?_))
          refine lv_iinc (v := (x3 + 1)) (lv' := [(3, .int (x3 + 1)), (0, .ref (B + x0)), (1, .int x1), (2, .int x2)]) hx hb dX8_doesPlain_57 hl (k := 3) rfl rfl (by decide) rfl (fun ls hl => ?_)
          refine lv_goto (tgt := 20) hx hb dX8_doesPlain_60 (by decide) ?_
          exact ih h hR hS (lv_sub hl [1, 2, 3, 0] rfl)
set_option maxHeartbeats 4000000 in
set_option maxRecDepth 100000 in
theorem w_X8_doesPlain_10    {r : Mem} (C : Cx p s m args meth c RX8 cX8_doesPlain 4 none D B ca st)   : ∀ (n : Nat) {x0 : Nat} {x1 : Int32} {x2 : Int32} {M : Mem}, f_X8_doesPlain_10  n x0 x1 x2 M = some r → ∀ {H : Heap} {locs : List Loc} {ls : Array Slot}, RH D B ca M H → va_S (AA B) s.heap H locs → lv_has ls 4 [(0, .ref (B + x0)), (1, .int x1), (2, .int x2)] → W p l e (rmD 4) s m args below meth c H locs 0 0 (MQ below (Qp D B ca st none r) args s 0 0 (AA B)) (F0 m 10 ls []) := by
  have hx := C.1
  have hb := C.2.1
  intro n
  induction n with
  | zero => intro x0 x1 x2 M h; simp [f_X8_doesPlain_10] at h
  | succ n ih =>
    intro x0 x1 x2 M h H locs ls hR hS hl
    rw [f_X8_doesPlain_10] at h
    refine lv_iload_n hx hb dX8_doesPlain_10 rfl (lv_at hl 2 rfl) ?_
    refine lv_aload_n hx hb dX8_doesPlain_11 rfl (lv_at hl 0 rfl) ?_
    obtain ⟨v3, zqe4, h⟩ := ob h
    refine gf952 C hR zqe4 dX8_doesPlain_12 ?_
    refine lv_icmp_ge (tgt := 69) hx hb dX8_doesPlain_15 (by decide) (fun c => ?_) (fun c => ?_)
    · have h := ip c h
      cases h
      exact rr_V C hR hS dX8_doesPlain_69
    · have h := iq c h
      refine lv_iconst (v := 0) hx hb dX8_doesPlain_18 (by decide) ?_
      refine lv_istore_n (lv' := [(3, .int 0), (0, .ref (B + x0)), (1, .int x1), (2, .int x2)]) hx hb dX8_doesPlain_19 rfl hl (by decide) rfl (fun ls hl => ?_)
      exact w_X8_doesPlain_20 C (hk10 := @ih) FU h hR hS (lv_sub hl [1, 2, 3, 0] rfl)
theorem ck_X8_doesPlain  {x0 : Nat} {x1 : Int32} {M : Mem} {r : Mem} (h : f_X8_doesPlain  x0 x1 M = some r) : kd M x0 = 18 := by
  unfold f_X8_doesPlain at h
  exact ck h
set_option maxHeartbeats 4000000 in
set_option maxRecDepth 100000 in
theorem ok_X8_doesPlain  {x0 : Nat} {x1 : Int32}  {M : Mem} {r : Mem}  (h : f_X8_doesPlain  x0 x1 M = some r) : Ok l yX8_doesPlain cX8_doesPlain 4 none 4 [.ref (B + x0), .int x1] D B ca st M none r := by
  have hk0 := ck_X8_doesPlain h
  unfold f_X8_doesPlain at h
  have h := ip hk0 h
  refine ok_of rfl rfl (Nat.le_of_ble_eq_true rfl) ?_
  intro p e s m args below meth c ls C hl hR hS
  have hl : lv_has ls 4 [(0, .ref (B + x0)), (1, .int x1)] := hl
  have hx := C.1
  have hb := C.2.1
  refine lv_aload_n hx hb dX8_doesPlain_0 rfl (lv_at hl 0 rfl) ?_
  refine lv_iconst (v := 0) hx hb dX8_doesPlain_1 (by decide) ?_
  refine lv_sipush (v := 1972) hx hb dX8_doesPlain_2 (by decide) ?_
  obtain ⟨M2, zqe1, h⟩ := ob h
  refine rc_V C hR hS cf_X8_copyPart cv_X8_copyPart lk1281 (ok_X8_copyPart zqe1) (ck_X8_copyPart zqe1) ⟨Nat.le_of_ble_eq_true rfl, Nat.le_of_ble_eq_true rfl⟩ ⟨Nat.zero_le _, Nat.zero_le _⟩ rfl rfl hl.1 (Nat.le_of_ble_eq_true rfl) dX8_doesPlain_5 (rc_k0 (fun H locs hR hS => ?_))
  refine lv_iconst (v := 0) hx hb dX8_doesPlain_8 (by decide) ?_
  refine lv_istore_n (lv' := [(2, .int 0), (0, .ref (B + x0)), (1, .int x1)]) hx hb dX8_doesPlain_9 rfl hl (by decide) rfl (fun ls hl => ?_)
  exact w_X8_doesPlain_10 C  FU h hR hS (lv_sub hl [1, 2, 0] rfl)
set_option maxHeartbeats 4000000 in
set_option maxRecDepth 100000 in
theorem w_X8_tellParts_6    {r : Int32 × Mem} (C : Cx p s m args meth c RX8 cX8_tellParts 11 (some .int) D B ca st)   : ∀ (n : Nat) {x0 : Nat} {x1 : Int64} {x3 : Int64} {x5 : Int64} {x7 : Int64} {M : Mem}, f_X8_tellParts_6  n x0 x1 x3 x5 x7 M = some r → ∀ {H : Heap} {locs : List Loc} {ls : Array Slot}, RH D B ca M H → va_S (AA B) s.heap H locs → lv_has ls 11 [(0, .ref (B + x0)), (1, .long x1), (3, .long x3), (5, .long x5), (7, .long x7)] → W p l e (rmD 0) s m args below meth c H locs 0 0 (MQ below (Qp D B ca st (some (.int r.1)) r.2) args s 0 0 (AA B)) (F0 m 6 ls []) := by
  have hx := C.1
  have hb := C.2.1
  intro n
  induction n with
  | zero => intro x0 x1 x3 x5 x7 M h; simp [f_X8_tellParts_6] at h
  | succ n ih =>
    intro x0 x1 x3 x5 x7 M h H locs ls hR hS hl
    rw [f_X8_tellParts_6] at h
    refine lv_lload hx hb dX8_tellParts_6 (lv_at hl 4 rfl) ?_
    refine lv_lconst (v := 0) hx hb dX8_tellParts_8 (by decide) ?_
    refine W.lcmp hx hb dX8_tellParts_9 ?_
    refine lv_if_eq (tgt := 31) hx hb dX8_tellParts_10 (by decide) (fun c => ?_) (fun c => ?_)
    · have h := ip c h
      refine lv_aload_n hx hb dX8_tellParts_31 rfl (lv_at hl 0 rfl) ?_
      refine lv_lload_n hx hb dX8_tellParts_32 rfl (lv_at hl 1 rfl) ?_
      refine lv_lload hx hb dX8_tellParts_33 (lv_at hl 3 rfl) ?_
      by_cases zqz6 : x5 = 0
      · exact absurd (ip zqz6 h) (fun q => by cases q)
      have h := iq zqz6 h
      refine lv_ldiv hx hb dX8_tellParts_35 zqz6 ?_
      obtain ⟨M1, zqe2, h⟩ := ob h
      refine pf961 C hR hS zqe2 dX8_tellParts_36 (fun H locs hR hS => ?_)
      refine lv_aload_n hx hb dX8_tellParts_39 rfl (lv_at hl 0 rfl) ?_
      refine lv_lload_n hx hb dX8_tellParts_40 rfl (lv_at hl 2 rfl) ?_
      refine lv_lload hx hb dX8_tellParts_41 (lv_at hl 3 rfl) ?_
      by_cases zqz5 : x5 = 0
      · exact absurd (ip zqz5 h) (fun q => by cases q)
      have h := iq zqz5 h
      refine lv_ldiv hx hb dX8_tellParts_43 zqz5 ?_
      obtain ⟨M3, zqe4, h⟩ := ob h
      refine pf962 C hR hS zqe4 dX8_tellParts_44 (fun H locs hR hS => ?_)
      refine lv_iconst (v := 1) hx hb dX8_tellParts_47 (by decide) ?_
      cases h
      exact rr_I C hR hS dX8_tellParts_48
    · have h := iq c h
      refine lv_lload hx hb dX8_tellParts_13 (lv_at hl 3 rfl) ?_
      refine lv_lload hx hb dX8_tellParts_15 (lv_at hl 4 rfl) ?_
      by_cases zqz7 : x7 = 0
      · exact absurd (ip zqz7 h) (fun q => by cases q)
      have h := iq zqz7 h
      refine lv_lrem hx hb dX8_tellParts_17 zqz7 ?_
      refine lv_lstore (lv' := [(9, .long (x5 - x5 / x7 * x7)), (0, .ref (B + x0)), (1, .long x1), (3, .long x3), (5, .long x5), (7, .long x7)]) hx hb dX8_tellParts_18 hl (by decide) rfl (fun ls hl => ?_)
      refine lv_lload hx hb dX8_tellParts_20 (lv_at hl 5 rfl) ?_
      refine lv_lstore (lv' := [(5, .long x7), (9, .long (x5 - x5 / x7 * x7)), (0, .ref (B + x0)), (1, .long x1), (3, .long x3), (7, .long x7)]) hx hb dX8_tellParts_22 hl (by decide) rfl (fun ls hl => ?_)
      refine lv_lload hx hb dX8_tellParts_24 (lv_at hl 1 rfl) ?_
      refine lv_lstore (lv' := [(7, .long (x5 - x5 / x7 * x7)), (5, .long x7), (9, .long (x5 - x5 / x7 * x7)), (0, .ref (B + x0)), (1, .long x1), (3, .long x3)]) hx hb dX8_tellParts_26 hl (by decide) rfl (fun ls hl => ?_)
      refine lv_goto (tgt := 6) hx hb dX8_tellParts_28 (by decide) ?_
      exact ih h hR hS (lv_sub hl [3, 4, 5, 1, 0] rfl)
theorem ck_X8_tellParts  {x0 : Nat} {x1 : Int64} {x3 : Int64} {M : Mem} {r : Int32 × Mem} (h : f_X8_tellParts  x0 x1 x3 M = some r) : kd M x0 = 18 := by
  unfold f_X8_tellParts at h
  exact ck h
set_option maxHeartbeats 4000000 in
set_option maxRecDepth 100000 in
theorem ok_X8_tellParts  {x0 : Nat} {x1 : Int64} {x3 : Int64}  {M : Mem} {r : Int32 × Mem}  (h : f_X8_tellParts  x0 x1 x3 M = some r) : Ok l yX8_tellParts cX8_tellParts 11 (some .int) 0 [.ref (B + x0), .long x1, .long x3] D B ca st M (some (.int r.1)) r.2 := by
  have hk0 := ck_X8_tellParts h
  unfold f_X8_tellParts at h
  have h := ip hk0 h
  refine ok_of rfl rfl (Nat.le_of_ble_eq_true rfl) ?_
  intro p e s m args below meth c ls C hl hR hS
  have hl : lv_has ls 11 [(0, .ref (B + x0)), (1, .long x1), (3, .long x3)] := hl
  have hx := C.1
  have hb := C.2.1
  refine lv_lload_n hx hb dX8_tellParts_0 rfl (lv_at hl 1 rfl) ?_
  refine lv_lstore (lv' := [(5, .long x1), (0, .ref (B + x0)), (1, .long x1), (3, .long x3)]) hx hb dX8_tellParts_1 hl (by decide) rfl (fun ls hl => ?_)
  refine lv_lload_n hx hb dX8_tellParts_3 rfl (lv_at hl 3 rfl) ?_
  refine lv_lstore (lv' := [(7, .long x3), (5, .long x1), (0, .ref (B + x0)), (1, .long x1), (3, .long x3)]) hx hb dX8_tellParts_4 hl (by decide) rfl (fun ls hl => ?_)
  exact w_X8_tellParts_6 C  FU h hR hS (lv_sub hl [2, 3, 4, 1, 0] rfl)
set_option maxHeartbeats 4000000 in
set_option maxRecDepth 100000 in
theorem w_X8_tellPlain_26  {k9 : Nat → Int32 → Int32 → Int32 → Int64 → Int64 → Int32 → Mem → Option (Int32 × Mem)}  {r : Int32 × Mem} (C : Cx p s m args meth c RX8 cX8_tellPlain 12 (some .int) D B ca st)  (hk9 : ∀ {x0 : Nat} {x1 : Int32} {x2 : Int32} {x3 : Int32} {x4 : Int64} {x6 : Int64} {x8 : Int32} {M : Mem}, k9 x0 x1 x2 x3 x4 x6 x8 M = some r → ∀ {H : Heap} {locs : List Loc} {ls : Array Slot}, RH D B ca M H → va_S (AA B) s.heap H locs → lv_has ls 12 [(0, .ref (B + x0)), (1, .int x1), (2, .int x2), (3, .int x3), (4, .long x4), (6, .long x6), (8, .int x8)] → W p l e (rmD 5) s m args below meth c H locs 0 0 (MQ below (Qp D B ca st (some (.int r.1)) r.2) args s 0 0 (AA B)) (F0 m 9 ls [])) : ∀ (n : Nat) {x0 : Nat} {x1 : Int32} {x2 : Int32} {x3 : Int32} {x4 : Int64} {x6 : Int64} {x8 : Int32} {x9 : Int64} {x11 : Int32} {M : Mem}, f_X8_tellPlain_26 k9 n x0 x1 x2 x3 x4 x6 x8 x9 x11 M = some r → ∀ {H : Heap} {locs : List Loc} {ls : Array Slot}, RH D B ca M H → va_S (AA B) s.heap H locs → lv_has ls 12 [(0, .ref (B + x0)), (1, .int x1), (2, .int x2), (3, .int x3), (4, .long x4), (6, .long x6), (8, .int x8), (9, .long x9), (11, .int x11)] → W p l e (rmD 5) s m args below meth c H locs 0 0 (MQ below (Qp D B ca st (some (.int r.1)) r.2) args s 0 0 (AA B)) (F0 m 26 ls []) := by
  have hx := C.1
  have hb := C.2.1
  intro n
  induction n with
  | zero => intro x0 x1 x2 x3 x4 x6 x8 x9 x11 M h; simp [f_X8_tellPlain_26] at h
  | succ n ih =>
    intro x0 x1 x2 x3 x4 x6 x8 x9 x11 M h H locs ls hR hS hl
    rw [f_X8_tellPlain_26] at h
    refine lv_iload hx hb dX8_tellPlain_26 (lv_at hl 8 rfl) ?_
    refine lv_aload_n hx hb dX8_tellPlain_28 rfl (lv_at hl 0 rfl) ?_
    obtain ⟨v6, zqe7, h⟩ := ob h
    refine gf952 C hR zqe7 dX8_tellPlain_29 ?_
    refine lv_icmp_ge (tgt := 66) hx hb dX8_tellPlain_32 (by decide) (fun c => ?_) (fun c => ?_)
    · have h := ip c h
      refine lv_aload_n hx hb dX8_tellPlain_66 rfl (lv_at hl 0 rfl) ?_
      refine lv_iload hx hb dX8_tellPlain_67 (lv_at hl 6 rfl) ?_
      obtain ⟨M9, zqe8, h⟩ := ob h
      refine rc_V C hR hS cf_X8_doesPlain cv_X8_doesPlain lk1300 (ok_X8_doesPlain zqe8) (ck_X8_doesPlain zqe8) ⟨Nat.le_of_ble_eq_true rfl, Nat.le_of_ble_eq_true rfl⟩ ⟨Nat.zero_le _, Nat.zero_le _⟩ rfl rfl hl.1 (Nat.le_of_ble_eq_true rfl) dX8_tellPlain_69 (rc_k0 (fun H locs hR hS => ?_))
      refine lv_aload_n hx hb dX8_tellPlain_72 rfl (lv_at hl 0 rfl) ?_
      obtain ⟨v10, zqe11, h⟩ := ob h
      refine gf948 C hR zqe11 dX8_tellPlain_73 ?_
      refine lv_sipush (v := 1973) hx hb dX8_tellPlain_76 (by decide) ?_
      obtain ⟨v12, zqe13, h⟩ := ob h
      refine ra_I C hR zqe13 dX8_tellPlain_79 ?_
      refine lv_aload_n hx hb dX8_tellPlain_80 rfl (lv_at hl 0 rfl) ?_
      obtain ⟨v14, zqe15, h⟩ := ob h
      refine gf948 C hR zqe15 dX8_tellPlain_81 ?_
      refine lv_iconst (v := 1) hx hb dX8_tellPlain_84 (by decide) ?_
      obtain ⟨v16, zqe17, h⟩ := ob h
      refine ra_I C hR zqe17 dX8_tellPlain_85 ?_
      refine lv_isub hx hb dX8_tellPlain_86 ?_
      refine lv_istore (lv' := [(11, .int (v12 - v16)), (0, .ref (B + x0)), (1, .int x1), (2, .int x2), (3, .int x3), (4, .long x4), (6, .long x6), (8, .int x8), (9, .long x9)]) hx hb dX8_tellPlain_87 hl (by decide) rfl (fun ls hl => ?_)
      refine lv_lload hx hb dX8_tellPlain_89 (lv_at hl 5 rfl) ?_
      refine lv_iload_n hx hb dX8_tellPlain_91 rfl (lv_at hl 4 rfl) ?_
      refine lv_if_eq (tgt := 104) hx hb dX8_tellPlain_92 (by decide) (fun c => ?_) (fun c => ?_)
      · have h := ip c h
        refine lv_iload hx hb dX8_tellPlain_104 (lv_at hl 0 rfl) ?_
        refine lv_iload_n hx hb dX8_tellPlain_106 rfl (lv_at hl 2 rfl) ?_
        refine lv_icmp_lt (tgt := 115) hx hb dX8_tellPlain_107 (by decide) (fun c => ?_) (fun c => ?_)
        · have h := ip c h
          refine lv_lconst (v := 0) hx hb dX8_tellPlain_115 (by decide) ?_
          refine lv_ladd hx hb dX8_tellPlain_116 ?_
          refine lv_lstore (lv' := [(4, .long (x4 + 0)), (11, .int (v12 - v16)), (0, .ref (B + x0)), (1, .int x1), (2, .int x2), (3, .int x3), (6, .long x6), (8, .int x8), (9, .long x9)]) hx hb dX8_tellPlain_117 hl (by decide) rfl (fun ls hl => ?_)
          refine lv_lload hx hb dX8_tellPlain_119 (lv_at hl 6 rfl) ?_
          refine lv_lload hx hb dX8_tellPlain_121 (lv_at hl 8 rfl) ?_
          refine lv_ladd hx hb dX8_tellPlain_123 ?_
          refine lv_lstore (lv' := [(6, .long (x6 + x9)), (4, .long (x4 + 0)), (11, .int (v12 - v16)), (0, .ref (B + x0)), (1, .int x1), (2, .int x2), (3, .int x3), (8, .int x8), (9, .long x9)]) hx hb dX8_tellPlain_124 hl (by decide) rfl (fun ls hl => ?_)
          refine lv_iinc (v := (x8 + 1)) (lv' := [(8, .int (x8 + 1)), (6, .long (x6 + x9)), (4, .long (x4 + 0)), (11, .int (v12 - v16)), (0, .ref (B + x0)), (1, .int x1), (2, .int x2), (3, .int x3), (9, .long x9)]) hx hb dX8_tellPlain_126 hl (k := 7) rfl rfl (by decide) rfl (fun ls hl => ?_)
          refine lv_goto (tgt := 9) hx hb dX8_tellPlain_129 (by decide) ?_
          exact hk9 h hR hS (lv_sub hl [4, 5, 6, 7, 2, 1, 0] rfl)
        · have h := iq c h
          refine lv_lload hx hb dX8_tellPlain_110 (lv_at hl 8 rfl) ?_
          refine lv_goto (tgt := 116) hx hb dX8_tellPlain_112 (by decide) ?_
          refine lv_ladd hx hb dX8_tellPlain_116 ?_
          refine lv_lstore (lv' := [(4, .long (x4 + x9)), (11, .int (v12 - v16)), (0, .ref (B + x0)), (1, .int x1), (2, .int x2), (3, .int x3), (6, .long x6), (8, .int x8), (9, .long x9)]) hx hb dX8_tellPlain_117 hl (by decide) rfl (fun ls hl => ?_)
          refine lv_lload hx hb dX8_tellPlain_119 (lv_at hl 6 rfl) ?_
          refine lv_lload hx hb dX8_tellPlain_121 (lv_at hl 8 rfl) ?_
          refine lv_ladd hx hb dX8_tellPlain_123 ?_
          refine lv_lstore (lv' := [(6, .long (x6 + x9)), (4, .long (x4 + x9)), (11, .int (v12 - v16)), (0, .ref (B + x0)), (1, .int x1), (2, .int x2), (3, .int x3), (8, .int x8), (9, .long x9)]) hx hb dX8_tellPlain_124 hl (by decide) rfl (fun ls hl => ?_)
          refine lv_iinc (v := (x8 + 1)) (lv' := [(8, .int (x8 + 1)), (6, .long (x6 + x9)), (4, .long (x4 + x9)), (11, .int (v12 - v16)), (0, .ref (B + x0)), (1, .int x1), (2, .int x2), (3, .int x3), (9, .long x9)]) hx hb dX8_tellPlain_126 hl (k := 7) rfl rfl (by decide) rfl (fun ls hl => ?_)
          refine lv_goto (tgt := 9) hx hb dX8_tellPlain_129 (by decide) ?_
          exact hk9 h hR hS (lv_sub hl [4, 5, 6, 7, 2, 1, 0] rfl)
      · have h := iq c h
        refine lv_lload hx hb dX8_tellPlain_95 (lv_at hl 8 rfl) ?_
        refine lv_iload hx hb dX8_tellPlain_97 (lv_at hl 0 rfl) ?_
        refine lv_i2l (v := (Int32.toInt64 (v12 - v16))) hx hb dX8_tellPlain_99 rfl ?_
        refine lv_lmul hx hb dX8_tellPlain_100 ?_
        refine lv_goto (tgt := 116) hx hb dX8_tellPlain_101 (by decide) ?_
        refine lv_ladd hx hb dX8_tellPlain_116 ?_
        refine lv_lstore (lv' := [(4, .long (x4 + (x9 * (Int32.toInt64 (v12 - v16))))), (11, .int (v12 - v16)), (0, .ref (B + x0)), (1, .int x1), (2, .int x2), (3, .int x3), (6, .long x6), (8, .int x8), (9, .long x9)]) hx hb dX8_tellPlain_117 hl (by decide) rfl (fun ls hl => ?_)
        refine lv_lload hx hb dX8_tellPlain_119 (lv_at hl 6 rfl) ?_
        refine lv_lload hx hb dX8_tellPlain_121 (lv_at hl 8 rfl) ?_
        refine lv_ladd hx hb dX8_tellPlain_123 ?_
        refine lv_lstore (lv' := [(6, .long (x6 + x9)), (4, .long (x4 + (x9 * (Int32.toInt64 (v12 - v16))))), (11, .int (v12 - v16)), (0, .ref (B + x0)), (1, .int x1), (2, .int x2), (3, .int x3), (8, .int x8), (9, .long x9)]) hx hb dX8_tellPlain_124 hl (by decide) rfl (fun ls hl => ?_)
        refine lv_iinc (v := (x8 + 1)) (lv' := [(8, .int (x8 + 1)), (6, .long (x6 + x9)), (4, .long (x4 + (x9 * (Int32.toInt64 (v12 - v16))))), (11, .int (v12 - v16)), (0, .ref (B + x0)), (1, .int x1), (2, .int x2), (3, .int x3), (9, .long x9)]) hx hb dX8_tellPlain_126 hl (k := 7) rfl rfl (by decide) rfl (fun ls hl => ?_)
        refine lv_goto (tgt := 9) hx hb dX8_tellPlain_129 (by decide) ?_
        exact hk9 h hR hS (lv_sub hl [4, 5, 6, 7, 2, 1, 0] rfl)
    · have h := iq c h
      refine lv_lload hx hb dX8_tellPlain_35 (lv_at hl 7 rfl) ?_
      refine lv_iload hx hb dX8_tellPlain_37 (lv_at hl 6 rfl) ?_
      refine lv_iload hx hb dX8_tellPlain_39 (lv_at hl 8 rfl) ?_
      refine rc_S C hR hS cf_X8_has cs_X8_has lk1166 (ok_X8_has x8 x11) ⟨Nat.le_of_ble_eq_true rfl, Nat.le_of_ble_eq_true rfl⟩ ⟨Nat.zero_le _, Nat.zero_le _⟩ rfl rfl hl.1 (Nat.le_of_ble_eq_true rfl) dX8_tellPlain_41 (rc_k1 (fun H locs hR hS => ?_))
      refine lv_if_eq (tgt := 52) hx hb dX8_tellPlain_44 (by decide) (fun c => ?_) (fun c => ?_)
      · have h := ip c h
        refine lv_bipush (v := 12) hx hb dX8_tellPlain_52 (by decide) ?_
        refine lv_iload_n hx hb dX8_tellPlain_54 rfl (lv_at hl 2 rfl) ?_
        refine lv_isub hx hb dX8_tellPlain_55 ?_
        refine lv_i2l (v := (Int32.toInt64 (12 - x2))) hx hb dX8_tellPlain_56 rfl ?_
        refine lv_lmul hx hb dX8_tellPlain_57 ?_
        refine lv_lstore (lv' := [(9, .long (x9 * (Int32.toInt64 (12 - x2)))), (0, .ref (B + x0)), (1, .int x1), (2, .int x2), (3, .int x3), (4, .long x4), (6, .long x6), (8, .int x8), (11, .int x11)]) hx hb dX8_tellPlain_58 hl (by decide) rfl (fun ls hl => ?_)
        refine lv_iinc (v := (x11 + 1)) (lv' := [(11, .int (x11 + 1)), (9, .long (x9 * (Int32.toInt64 (12 - x2)))), (0, .ref (B + x0)), (1, .int x1), (2, .int x2), (3, .int x3), (4, .long x4), (6, .long x6), (8, .int x8)]) hx hb dX8_tellPlain_60 hl (k := 8) rfl rfl (by decide) rfl (fun ls hl => ?_)
        refine lv_goto (tgt := 26) hx hb dX8_tellPlain_63 (by decide) ?_
        exact ih h hR hS (lv_sub hl [2, 3, 4, 5, 6, 7, 8, 1, 0] rfl)
      · have h := iq c h
        refine lv_iload_n hx hb dX8_tellPlain_47 rfl (lv_at hl 2 rfl) ?_
        refine lv_i2l (v := (Int32.toInt64 x2)) hx hb dX8_tellPlain_48 rfl ?_
        refine lv_goto (tgt := 57) hx hb dX8_tellPlain_49 (by decide) ?_
        refine lv_lmul hx hb dX8_tellPlain_57 ?_
        refine lv_lstore (lv' := [(9, .long (x9 * (Int32.toInt64 x2))), (0, .ref (B + x0)), (1, .int x1), (2, .int x2), (3, .int x3), (4, .long x4), (6, .long x6), (8, .int x8), (11, .int x11)]) hx hb dX8_tellPlain_58 hl (by decide) rfl (fun ls hl => ?_)
        refine lv_iinc (v := (x11 + 1)) (lv' := [(11, .int (x11 + 1)), (9, .long (x9 * (Int32.toInt64 x2))), (0, .ref (B + x0)), (1, .int x1), (2, .int x2), (3, .int x3), (4, .long x4), (6, .long x6), (8, .int x8)]) hx hb dX8_tellPlain_60 hl (k := 8) rfl rfl (by decide) rfl (fun ls hl => ?_)
        refine lv_goto (tgt := 26) hx hb dX8_tellPlain_63 (by decide) ?_
        exact ih h hR hS (lv_sub hl [2, 3, 4, 5, 6, 7, 8, 1, 0] rfl)
set_option maxHeartbeats 4000000 in
set_option maxRecDepth 100000 in
theorem w_X8_tellPlain_9    {r : Int32 × Mem} (C : Cx p s m args meth c RX8 cX8_tellPlain 12 (some .int) D B ca st)   : ∀ (n : Nat) {x0 : Nat} {x1 : Int32} {x2 : Int32} {x3 : Int32} {x4 : Int64} {x6 : Int64} {x8 : Int32} {M : Mem}, f_X8_tellPlain_9  n x0 x1 x2 x3 x4 x6 x8 M = some r → ∀ {H : Heap} {locs : List Loc} {ls : Array Slot}, RH D B ca M H → va_S (AA B) s.heap H locs → lv_has ls 12 [(0, .ref (B + x0)), (1, .int x1), (2, .int x2), (3, .int x3), (4, .long x4), (6, .long x6), (8, .int x8)] → W p l e (rmD 5) s m args below meth c H locs 0 0 (MQ below (Qp D B ca st (some (.int r.1)) r.2) args s 0 0 (AA B)) (F0 m 9 ls []) := by
  have hx := C.1
  have hb := C.2.1
  intro n
  induction n with
  | zero => intro x0 x1 x2 x3 x4 x6 x8 M h; simp [f_X8_tellPlain_9] at h
  | succ n ih =>
    intro x0 x1 x2 x3 x4 x6 x8 M h H locs ls hR hS hl
    rw [f_X8_tellPlain_9] at h
    refine lv_iload hx hb dX8_tellPlain_9 (lv_at hl 6 rfl) ?_
    refine lv_iconst (v := 1) hx hb dX8_tellPlain_11 (by decide) ?_
    refine lv_aload_n hx hb dX8_tellPlain_12 rfl (lv_at hl 0 rfl) ?_
    obtain ⟨v1, zqe2, h⟩ := ob h
    refine gf952 C hR zqe2 dX8_tellPlain_13 ?_
    refine lv_ishl hx hb dX8_tellPlain_16 ?_
    refine lv_icmp_ge (tgt := 132) hx hb dX8_tellPlain_17 (by decide) (fun c => ?_) (fun c => ?_)
    · have h := ip c h
      refine lv_aload_n hx hb dX8_tellPlain_132 rfl (lv_at hl 0 rfl) ?_
      refine lv_lload hx hb dX8_tellPlain_133 (lv_at hl 4 rfl) ?_
      refine lv_lload hx hb dX8_tellPlain_135 (lv_at hl 5 rfl) ?_
      obtain ⟨qv4, zqe3, h⟩ := ob h
      refine rc_V C hR hS cf_X8_tellParts cv_X8_tellParts lk1404 (ok_X8_tellParts zqe3) (ck_X8_tellParts zqe3) ⟨Nat.le_of_ble_eq_true rfl, Nat.le_of_ble_eq_true rfl⟩ ⟨Nat.zero_le _, Nat.zero_le _⟩ rfl rfl hl.1 (Nat.le_of_ble_eq_true rfl) dX8_tellPlain_137 (rc_k1 (fun H locs hR hS => ?_))
      cases h
      exact rr_I C hR hS dX8_tellPlain_140
    · have h := iq c h
      refine lv_lconst (v := 1) hx hb dX8_tellPlain_20 (by decide) ?_
      refine lv_lstore (lv' := [(9, .long 1), (0, .ref (B + x0)), (1, .int x1), (2, .int x2), (3, .int x3), (4, .long x4), (6, .long x6), (8, .int x8)]) hx hb dX8_tellPlain_21 hl (by decide) rfl (fun ls hl => ?_)
      refine lv_iconst (v := 0) hx hb dX8_tellPlain_23 (by decide) ?_
      refine lv_istore (lv' := [(11, .int 0), (9, .long 1), (0, .ref (B + x0)), (1, .int x1), (2, .int x2), (3, .int x3), (4, .long x4), (6, .long x6), (8, .int x8)]) hx hb dX8_tellPlain_24 hl (by decide) rfl (fun ls hl => ?_)
      exact w_X8_tellPlain_26 C (hk9 := @ih) FU h hR hS (lv_sub hl [2, 3, 4, 5, 6, 7, 8, 1, 0] rfl)
theorem ck_X8_tellPlain  {x0 : Nat} {x1 : Int32} {x2 : Int32} {x3 : Int32} {M : Mem} {r : Int32 × Mem} (h : f_X8_tellPlain  x0 x1 x2 x3 M = some r) : kd M x0 = 18 := by
  unfold f_X8_tellPlain at h
  exact ck h
set_option maxHeartbeats 4000000 in
set_option maxRecDepth 100000 in
theorem ok_X8_tellPlain  {x0 : Nat} {x1 : Int32} {x2 : Int32} {x3 : Int32}  {M : Mem} {r : Int32 × Mem}  (h : f_X8_tellPlain  x0 x1 x2 x3 M = some r) : Ok l yX8_tellPlain cX8_tellPlain 12 (some .int) 5 [.ref (B + x0), .int x1, .int x2, .int x3] D B ca st M (some (.int r.1)) r.2 := by
  have hk0 := ck_X8_tellPlain h
  unfold f_X8_tellPlain at h
  have h := ip hk0 h
  refine ok_of rfl rfl (Nat.le_of_ble_eq_true rfl) ?_
  intro p e s m args below meth c ls C hl hR hS
  have hl : lv_has ls 12 [(0, .ref (B + x0)), (1, .int x1), (2, .int x2), (3, .int x3)] := hl
  have hx := C.1
  have hb := C.2.1
  refine lv_lconst (v := 0) hx hb dX8_tellPlain_0 (by decide) ?_
  refine lv_lstore (lv' := [(4, .long 0), (0, .ref (B + x0)), (1, .int x1), (2, .int x2), (3, .int x3)]) hx hb dX8_tellPlain_1 hl (by decide) rfl (fun ls hl => ?_)
  refine lv_lconst (v := 0) hx hb dX8_tellPlain_3 (by decide) ?_
  refine lv_lstore (lv' := [(6, .long 0), (4, .long 0), (0, .ref (B + x0)), (1, .int x1), (2, .int x2), (3, .int x3)]) hx hb dX8_tellPlain_4 hl (by decide) rfl (fun ls hl => ?_)
  refine lv_iconst (v := 0) hx hb dX8_tellPlain_6 (by decide) ?_
  refine lv_istore (lv' := [(8, .int 0), (6, .long 0), (4, .long 0), (0, .ref (B + x0)), (1, .int x1), (2, .int x2), (3, .int x3)]) hx hb dX8_tellPlain_7 hl (by decide) rfl (fun ls hl => ?_)
  exact w_X8_tellPlain_9 C  FU h hR hS (lv_sub hl [3, 4, 5, 6, 2, 1, 0] rfl)
theorem ck_X8_mid  {x0 : Nat} {x1 : Int32} {M : Mem} {r : Int32 × Mem} (h : f_X8_mid  x0 x1 M = some r) : kd M x0 = 18 := by
  unfold f_X8_mid at h
  exact ck h
set_option maxHeartbeats 4000000 in
set_option maxRecDepth 100000 in
theorem ok_X8_mid  {x0 : Nat} {x1 : Int32}  {M : Mem} {r : Int32 × Mem}  (h : f_X8_mid  x0 x1 M = some r) : Ok l yX8_mid cX8_mid 2 (some .int) 6 [.ref (B + x0), .int x1] D B ca st M (some (.int r.1)) r.2 := by
  have hk0 := ck_X8_mid h
  unfold f_X8_mid at h
  have h := ip hk0 h
  refine ok_of rfl rfl (Nat.le_of_ble_eq_true rfl) ?_
  intro p e s m args below meth c ls C hl hR hS
  have hl : lv_has ls 2 [(0, .ref (B + x0)), (1, .int x1)] := hl
  have hx := C.1
  have hb := C.2.1
  refine lv_iload_n hx hb dX8_mid_0 rfl (lv_at hl 1 rfl) ?_
  refine lv_i2l (v := (Int32.toInt64 x1)) hx hb dX8_mid_1 rfl ?_
  refine lv_lconst (v := 0) hx hb dX8_mid_2 (by decide) ?_
  refine lv_ldc2 hx hb C.2.2.2.1 (C.2.2.2.2.1 _ lk1399) dX8_mid_3 ?_
  refine rc_S C hR hS cf_X8_in cs_X8_in lk1059 (ok_X8_in (Int32.toInt64 x1) 0 12) ⟨Nat.le_of_ble_eq_true rfl, Nat.le_of_ble_eq_true rfl⟩ ⟨Nat.zero_le _, Nat.zero_le _⟩ rfl rfl hl.1 (Nat.le_of_ble_eq_true rfl) dX8_mid_6 (rc_k1 (fun H locs hR hS => ?_))
  refine lv_if_ne (tgt := 14) hx hb dX8_mid_9 (by decide) (fun c => ?_) (fun c => ?_)
  · have h := iq c h
    refine lv_aload_n hx hb dX8_mid_14 rfl (lv_at hl 0 rfl) ?_
    obtain ⟨v2, zqe3, h⟩ := ob h
    refine gf949 C hR zqe3 dX8_mid_15 ?_
    refine lv_if_ne (tgt := 26) hx hb dX8_mid_18 (by decide) (fun c => ?_) (fun c => ?_)
    · have h := iq c h
      refine lv_aload_n hx hb dX8_mid_26 rfl (lv_at hl 0 rfl) ?_
      refine lv_iconst (v := 0) hx hb dX8_mid_27 (by decide) ?_
      refine lv_iload_n hx hb dX8_mid_28 rfl (lv_at hl 1 rfl) ?_
      refine lv_iconst (v := 1) hx hb dX8_mid_29 (by decide) ?_
      obtain ⟨qv5, zqe4, h⟩ := ob h
      refine rc_V C hR hS cf_X8_tellPlain cv_X8_tellPlain lk1400 (ok_X8_tellPlain zqe4) (ck_X8_tellPlain zqe4) ⟨Nat.le_of_ble_eq_true rfl, Nat.le_of_ble_eq_true rfl⟩ ⟨Nat.zero_le _, Nat.zero_le _⟩ rfl rfl hl.1 (Nat.le_of_ble_eq_true rfl) dX8_mid_30 (rc_k1 (fun H locs hR hS => ?_))
      cases h
      exact rr_I C hR hS dX8_mid_33
    · have h := ip c h
      refine lv_bipush (v := (-4)) hx hb dX8_mid_21 (by decide) ?_
      refine lv_goto (tgt := 33) hx hb dX8_mid_23 (by decide) ?_
      cases h
      exact rr_I C hR hS dX8_mid_33
  · have h := ip c h
    refine lv_iconst (v := (-1)) hx hb dX8_mid_12 (by decide) ?_
    cases h
    exact rr_I C hR hS dX8_mid_13
theorem ck_X8_most  {x0 : Nat} {x1 : Int32} {M : Mem} {r : Int32 × Mem} (h : f_X8_most  x0 x1 M = some r) : kd M x0 = 18 := by
  unfold f_X8_most at h
  exact ck h
set_option maxHeartbeats 4000000 in
set_option maxRecDepth 100000 in
theorem ok_X8_most  {x0 : Nat} {x1 : Int32}  {M : Mem} {r : Int32 × Mem}  (h : f_X8_most  x0 x1 M = some r) : Ok l yX8_most cX8_most 2 (some .int) 6 [.ref (B + x0), .int x1] D B ca st M (some (.int r.1)) r.2 := by
  have hk0 := ck_X8_most h
  unfold f_X8_most at h
  have h := ip hk0 h
  refine ok_of rfl rfl (Nat.le_of_ble_eq_true rfl) ?_
  intro p e s m args below meth c ls C hl hR hS
  have hl : lv_has ls 2 [(0, .ref (B + x0)), (1, .int x1)] := hl
  have hx := C.1
  have hb := C.2.1
  refine lv_iload_n hx hb dX8_most_0 rfl (lv_at hl 1 rfl) ?_
  obtain ⟨v2, zqe1, h⟩ := ob h
  refine rc_S C hR hS cf_X8_isRow cs_X8_isRow lk1055 (ok_X8_isRow zqe1) ⟨Nat.le_of_ble_eq_true rfl, Nat.le_of_ble_eq_true rfl⟩ ⟨Nat.zero_le _, Nat.zero_le _⟩ rfl rfl hl.1 (Nat.le_of_ble_eq_true rfl) dX8_most_1 (rc_k1 (fun H locs hR hS => ?_))
  refine lv_if_ne (tgt := 9) hx hb dX8_most_4 (by decide) (fun c => ?_) (fun c => ?_)
  · have h := iq c h
    refine lv_aload_n hx hb dX8_most_9 rfl (lv_at hl 0 rfl) ?_
    obtain ⟨v3, zqe4, h⟩ := ob h
    refine gf949 C hR zqe4 dX8_most_10 ?_
    refine lv_if_ne (tgt := 21) hx hb dX8_most_13 (by decide) (fun c => ?_) (fun c => ?_)
    · have h := iq c h
      refine lv_aload_n hx hb dX8_most_21 rfl (lv_at hl 0 rfl) ?_
      refine lv_iload_n hx hb dX8_most_22 rfl (lv_at hl 1 rfl) ?_
      refine lv_iconst (v := 0) hx hb dX8_most_23 (by decide) ?_
      obtain ⟨qv6, zqe5, h⟩ := ob h
      refine rc_V C hR hS cf_X8_giveMost cv_X8_giveMost lk1273 (ok_X8_giveMost zqe5) (ck_X8_giveMost zqe5) ⟨Nat.le_of_ble_eq_true rfl, Nat.le_of_ble_eq_true rfl⟩ ⟨Nat.zero_le _, Nat.zero_le _⟩ rfl rfl hl.1 (Nat.le_of_ble_eq_true rfl) dX8_most_24 (rc_k1 (fun H locs hR hS => ?_))
      cases h
      exact rr_I C hR hS dX8_most_27
    · have h := ip c h
      refine lv_bipush (v := (-4)) hx hb dX8_most_16 (by decide) ?_
      refine lv_goto (tgt := 27) hx hb dX8_most_18 (by decide) ?_
      cases h
      exact rr_I C hR hS dX8_most_27
  · have h := ip c h
    refine lv_iconst (v := (-1)) hx hb dX8_most_7 (by decide) ?_
    cases h
    exact rr_I C hR hS dX8_most_8
theorem ck_X8_odds  {x0 : Nat} {x1 : Int32} {x2 : Int32} {M : Mem} {r : Int32 × Mem} (h : f_X8_odds  x0 x1 x2 M = some r) : kd M x0 = 18 := by
  unfold f_X8_odds at h
  exact ck h
set_option maxHeartbeats 4000000 in
set_option maxRecDepth 100000 in
theorem ok_X8_odds  {x0 : Nat} {x1 : Int32} {x2 : Int32}  {M : Mem} {r : Int32 × Mem}  (h : f_X8_odds  x0 x1 x2 M = some r) : Ok l yX8_odds cX8_odds 3 (some .int) 6 [.ref (B + x0), .int x1, .int x2] D B ca st M (some (.int r.1)) r.2 := by
  have hk0 := ck_X8_odds h
  unfold f_X8_odds at h
  have h := ip hk0 h
  refine ok_of rfl rfl (Nat.le_of_ble_eq_true rfl) ?_
  intro p e s m args below meth c ls C hl hR hS
  have hl : lv_has ls 3 [(0, .ref (B + x0)), (1, .int x1), (2, .int x2)] := hl
  have hx := C.1
  have hb := C.2.1
  refine lv_iload_n hx hb dX8_odds_0 rfl (lv_at hl 1 rfl) ?_
  refine lv_i2l (v := (Int32.toInt64 x1)) hx hb dX8_odds_1 rfl ?_
  refine lv_lconst (v := 0) hx hb dX8_odds_2 (by decide) ?_
  refine lv_ldc2 hx hb C.2.2.2.1 (C.2.2.2.2.1 _ lk1398) dX8_odds_3 ?_
  refine rc_S C hR hS cf_X8_in cs_X8_in lk1059 (ok_X8_in (Int32.toInt64 x1) 0 66) ⟨Nat.le_of_ble_eq_true rfl, Nat.le_of_ble_eq_true rfl⟩ ⟨Nat.zero_le _, Nat.zero_le _⟩ rfl rfl hl.1 (Nat.le_of_ble_eq_true rfl) dX8_odds_6 (rc_k1 (fun H locs hR hS => ?_))
  refine lv_if_eq (tgt := 24) hx hb dX8_odds_9 (by decide) (fun c => ?_) (fun c => ?_)
  · have h := ip c h
    refine lv_iconst (v := (-1)) hx hb dX8_odds_24 (by decide) ?_
    cases h
    exact rr_I C hR hS dX8_odds_25
  · have h := iq c h
    refine lv_iload_n hx hb dX8_odds_12 rfl (lv_at hl 2 rfl) ?_
    refine lv_i2l (v := (Int32.toInt64 x2)) hx hb dX8_odds_13 rfl ?_
    refine lv_lconst (v := 0) hx hb dX8_odds_14 (by decide) ?_
    refine lv_ldc2 hx hb C.2.2.2.1 (C.2.2.2.2.1 _ lk1399) dX8_odds_15 ?_
    refine rc_S C hR hS cf_X8_in cs_X8_in lk1059 (ok_X8_in (Int32.toInt64 x2) 0 12) ⟨Nat.le_of_ble_eq_true rfl, Nat.le_of_ble_eq_true rfl⟩ ⟨Nat.zero_le _, Nat.zero_le _⟩ rfl rfl hl.1 (Nat.le_of_ble_eq_true rfl) dX8_odds_18 (rc_k1 (fun H locs hR hS => ?_))
    refine lv_if_ne (tgt := 26) hx hb dX8_odds_21 (by decide) (fun c => ?_) (fun c => ?_)
    · have h := iq c h
      refine lv_aload_n hx hb dX8_odds_26 rfl (lv_at hl 0 rfl) ?_
      obtain ⟨v3, zqe4, h⟩ := ob h
      refine gf949 C hR zqe4 dX8_odds_27 ?_
      refine lv_if_ne (tgt := 38) hx hb dX8_odds_30 (by decide) (fun c => ?_) (fun c => ?_)
      · have h := iq c h
        refine lv_aload_n hx hb dX8_odds_38 rfl (lv_at hl 0 rfl) ?_
        refine lv_iload_n hx hb dX8_odds_39 rfl (lv_at hl 1 rfl) ?_
        refine lv_iload_n hx hb dX8_odds_40 rfl (lv_at hl 2 rfl) ?_
        refine lv_iconst (v := 0) hx hb dX8_odds_41 (by decide) ?_
        obtain ⟨qv6, zqe5, h⟩ := ob h
        refine rc_V C hR hS cf_X8_tellPlain cv_X8_tellPlain lk1400 (ok_X8_tellPlain zqe5) (ck_X8_tellPlain zqe5) ⟨Nat.le_of_ble_eq_true rfl, Nat.le_of_ble_eq_true rfl⟩ ⟨Nat.zero_le _, Nat.zero_le _⟩ rfl rfl hl.1 (Nat.le_of_ble_eq_true rfl) dX8_odds_42 (rc_k1 (fun H locs hR hS => ?_))
        cases h
        exact rr_I C hR hS dX8_odds_45
      · have h := ip c h
        refine lv_bipush (v := (-4)) hx hb dX8_odds_33 (by decide) ?_
        refine lv_goto (tgt := 45) hx hb dX8_odds_35 (by decide) ?_
        cases h
        exact rr_I C hR hS dX8_odds_45
    · have h := ip c h
      refine lv_iconst (v := (-1)) hx hb dX8_odds_24 (by decide) ?_
      cases h
      exact rr_I C hR hS dX8_odds_25
theorem ck_X8_on  {x0 : Nat} {x1 : Int32} {M : Mem} {r : Int32 × Mem} (h : f_X8_on  x0 x1 M = some r) : kd M x0 = 18 := by
  unfold f_X8_on at h
  exact ck h
set_option maxHeartbeats 4000000 in
set_option maxRecDepth 100000 in
theorem ok_X8_on  {x0 : Nat} {x1 : Int32}  {M : Mem} {r : Int32 × Mem}  (h : f_X8_on  x0 x1 M = some r) : Ok l yX8_on cX8_on 2 (some .int) 1 [.ref (B + x0), .int x1] D B ca st M (some (.int r.1)) r.2 := by
  have hk0 := ck_X8_on h
  unfold f_X8_on at h
  have h := ip hk0 h
  refine ok_of rfl rfl (Nat.le_of_ble_eq_true rfl) ?_
  intro p e s m args below meth c ls C hl hR hS
  have hl : lv_has ls 2 [(0, .ref (B + x0)), (1, .int x1)] := hl
  have hx := C.1
  have hb := C.2.1
  refine lv_iload_n hx hb dX8_on_0 rfl (lv_at hl 1 rfl) ?_
  refine lv_i2l (v := (Int32.toInt64 x1)) hx hb dX8_on_1 rfl ?_
  refine lv_lconst (v := 0) hx hb dX8_on_2 (by decide) ?_
  refine lv_ldc2 hx hb C.2.2.2.1 (C.2.2.2.2.1 _ lk1252) dX8_on_3 ?_
  refine rc_S C hR hS cf_X8_in cs_X8_in lk1059 (ok_X8_in (Int32.toInt64 x1) 0 2) ⟨Nat.le_of_ble_eq_true rfl, Nat.le_of_ble_eq_true rfl⟩ ⟨Nat.zero_le _, Nat.zero_le _⟩ rfl rfl hl.1 (Nat.le_of_ble_eq_true rfl) dX8_on_6 (rc_k1 (fun H locs hR hS => ?_))
  refine lv_if_ne (tgt := 14) hx hb dX8_on_9 (by decide) (fun c => ?_) (fun c => ?_)
  · have h := iq c h
    refine lv_aload_n hx hb dX8_on_14 rfl (lv_at hl 0 rfl) ?_
    obtain ⟨v2, zqe3, h⟩ := ob h
    refine gf948 C hR zqe3 dX8_on_15 ?_
    refine lv_sipush (v := 493) hx hb dX8_on_18 (by decide) ?_
    refine lv_iconst (v := 1) hx hb dX8_on_21 (by decide) ?_
    refine lv_iload_n hx hb dX8_on_22 rfl (lv_at hl 1 rfl) ?_
    refine lv_iadd hx hb dX8_on_23 ?_
    refine lv_imul hx hb dX8_on_24 ?_
    refine lv_iconst (v := 0) hx hb dX8_on_25 (by decide) ?_
    refine lv_iadd hx hb dX8_on_26 ?_
    obtain ⟨v4, zqe5, h⟩ := ob h
    refine ra_I C hR zqe5 dX8_on_27 ?_
    refine lv_if_ge (tgt := 37) hx hb dX8_on_28 (by decide) (fun c => ?_) (fun c => ?_)
    · have h := ip c h
      refine lv_aload_n hx hb dX8_on_37 rfl (lv_at hl 0 rfl) ?_
      refine lv_sipush (v := 493) hx hb dX8_on_38 (by decide) ?_
      refine lv_iconst (v := 1) hx hb dX8_on_41 (by decide) ?_
      refine lv_iload_n hx hb dX8_on_42 rfl (lv_at hl 1 rfl) ?_
      refine lv_iadd hx hb dX8_on_43 ?_
      refine lv_imul hx hb dX8_on_44 ?_
      refine lv_iconst (v := 0) hx hb dX8_on_45 (by decide) ?_
      obtain ⟨M7, zqe6, h⟩ := ob h
      refine rc_V C hR hS cf_X8_copyGuild cv_X8_copyGuild lk1253 (ok_X8_copyGuild zqe6) (ck_X8_copyGuild zqe6) ⟨Nat.le_of_ble_eq_true rfl, Nat.le_of_ble_eq_true rfl⟩ ⟨Nat.zero_le _, Nat.zero_le _⟩ rfl rfl hl.1 (Nat.le_of_ble_eq_true rfl) dX8_on_46 (rc_k0 (fun H locs hR hS => ?_))
      refine lv_aload_n hx hb dX8_on_49 rfl (lv_at hl 0 rfl) ?_
      obtain ⟨v8, zqe9, h⟩ := ob h
      refine gf948 C hR zqe9 dX8_on_50 ?_
      refine lv_iconst (v := 0) hx hb dX8_on_53 (by decide) ?_
      obtain ⟨v10, zqe11, h⟩ := ob h
      refine ra_I C hR zqe11 dX8_on_54 ?_
      cases h
      exact rr_I C hR hS dX8_on_55
    · have h := iq c h
      refine lv_aload_n hx hb dX8_on_31 rfl (lv_at hl 0 rfl) ?_
      refine lv_iconst (v := 1) hx hb dX8_on_32 (by decide) ?_
      obtain ⟨qv13, zqe12, h⟩ := ob h
      refine rc_V C hR hS cf_X8_find cv_X8_find lk1062 (ok_X8_find zqe12) (ck_X8_find zqe12) ⟨Nat.le_of_ble_eq_true rfl, Nat.le_of_ble_eq_true rfl⟩ ⟨Nat.zero_le _, Nat.zero_le _⟩ rfl rfl hl.1 (Nat.le_of_ble_eq_true rfl) dX8_on_33 (rc_k1 (fun H locs hR hS => ?_))
      cases h
      exact rr_I C hR hS dX8_on_36
  · have h := ip c h
    refine lv_iconst (v := (-1)) hx hb dX8_on_12 (by decide) ?_
    cases h
    exact rr_I C hR hS dX8_on_13
theorem ck_X8_order  {x0 : Nat} {x1 : Int32} {x2 : Int32} {M : Mem} {r : Int32 × Mem} (h : f_X8_order  x0 x1 x2 M = some r) : kd M x0 = 18 := by
  unfold f_X8_order at h
  exact ck h
set_option maxHeartbeats 4000000 in
set_option maxRecDepth 100000 in
theorem ok_X8_order  {x0 : Nat} {x1 : Int32} {x2 : Int32}  {M : Mem} {r : Int32 × Mem}  (h : f_X8_order  x0 x1 x2 M = some r) : Ok l yX8_order cX8_order 3 (some .int) 5 [.ref (B + x0), .int x1, .int x2] D B ca st M (some (.int r.1)) r.2 := by
  have hk0 := ck_X8_order h
  unfold f_X8_order at h
  have h := ip hk0 h
  refine ok_of rfl rfl (Nat.le_of_ble_eq_true rfl) ?_
  intro p e s m args below meth c ls C hl hR hS
  have hl : lv_has ls 3 [(0, .ref (B + x0)), (1, .int x1), (2, .int x2)] := hl
  have hx := C.1
  have hb := C.2.1
  refine lv_aload_n hx hb dX8_order_0 rfl (lv_at hl 0 rfl) ?_
  refine lv_iload_n hx hb dX8_order_1 rfl (lv_at hl 1 rfl) ?_
  obtain ⟨v2, zqe1, h⟩ := ob h
  refine rc_V C hR hS cf_X8_isOrder cv_X8_isOrder lk1186 (ok_X8_isOrder zqe1) (ck_X8_isOrder zqe1) ⟨Nat.le_of_ble_eq_true rfl, Nat.le_of_ble_eq_true rfl⟩ ⟨Nat.zero_le _, Nat.zero_le _⟩ rfl rfl hl.1 (Nat.le_of_ble_eq_true rfl) dX8_order_2 (rc_k1 (fun H locs hR hS => ?_))
  refine lv_if_eq (tgt := 33) hx hb dX8_order_5 (by decide) (fun c => ?_) (fun c => ?_)
  · have h := ip c h
    refine lv_iconst (v := (-1)) hx hb dX8_order_33 (by decide) ?_
    cases h
    exact rr_I C hR hS dX8_order_34
  · have h := iq c h
    refine lv_iload_n hx hb dX8_order_8 rfl (lv_at hl 2 rfl) ?_
    refine lv_i2l (v := (Int32.toInt64 x2)) hx hb dX8_order_9 rfl ?_
    refine lv_lconst (v := 0) hx hb dX8_order_10 (by decide) ?_
    refine lv_ldc2 hx hb C.2.2.2.1 (C.2.2.2.2.1 _ lk1157) dX8_order_11 ?_
    refine rc_S C hR hS cf_X8_in cs_X8_in lk1059 (ok_X8_in (Int32.toInt64 x2) 0 4) ⟨Nat.le_of_ble_eq_true rfl, Nat.le_of_ble_eq_true rfl⟩ ⟨Nat.zero_le _, Nat.zero_le _⟩ rfl rfl hl.1 (Nat.le_of_ble_eq_true rfl) dX8_order_14 (rc_k1 (fun H locs hR hS => ?_))
    refine lv_if_eq (tgt := 33) hx hb dX8_order_17 (by decide) (fun c => ?_) (fun c => ?_)
    · have h := ip c h
      refine lv_iconst (v := (-1)) hx hb dX8_order_33 (by decide) ?_
      cases h
      exact rr_I C hR hS dX8_order_34
    · have h := iq c h
      refine lv_aload_n hx hb dX8_order_20 rfl (lv_at hl 0 rfl) ?_
      refine lv_aload_n hx hb dX8_order_21 rfl (lv_at hl 0 rfl) ?_
      refine lv_iload_n hx hb dX8_order_22 rfl (lv_at hl 1 rfl) ?_
      refine lv_iload_n hx hb dX8_order_23 rfl (lv_at hl 2 rfl) ?_
      obtain ⟨v5, zqe4, h⟩ := ob h
      refine rc_V C hR hS cf_X8_orderTold cv_X8_orderTold lk1190 (ok_X8_orderTold zqe4) (ck_X8_orderTold zqe4) ⟨Nat.le_of_ble_eq_true rfl, Nat.le_of_ble_eq_true rfl⟩ ⟨Nat.zero_le _, Nat.zero_le _⟩ rfl rfl hl.1 (Nat.le_of_ble_eq_true rfl) dX8_order_24 (rc_k1 (fun H locs hR hS => ?_))
      obtain ⟨qv7, zqe6, h⟩ := ob h
      refine rc_V C hR hS cf_X8_tell cv_X8_tell lk1078 (ok_X8_tell zqe6) (ck_X8_tell zqe6) ⟨Nat.le_of_ble_eq_true rfl, Nat.le_of_ble_eq_true rfl⟩ ⟨Nat.zero_le _, Nat.zero_le _⟩ rfl rfl hl.1 (Nat.le_of_ble_eq_true rfl) dX8_order_27 (rc_k1 (fun H locs hR hS => ?_))
      refine lv_goto (tgt := 34) hx hb dX8_order_30 (by decide) ?_
      cases h
      exact rr_I C hR hS dX8_order_34
set_option maxHeartbeats 4000000 in
set_option maxRecDepth 100000 in
theorem w_X8_pairs_75  {k24 : Nat → Int32 → Int32 → Int32 → Mem → Option (Int32 × Mem)} {k37 : Nat → Int32 → Int32 → Int32 → Int32 → Mem → Option (Int32 × Mem)}  {r : Int32 × Mem} {x0 : Nat} {x1 : Int32} {x2 : Int32} {x3 : Int32} {x4 : Int32} {s0 : Int32} {s1 : Nat} {M : Mem} (C : Cx p s m args meth c RX8 cX8_pairs 5 (some .int) D B ca st)  (hk24 : ∀ {x0 : Nat} {x1 : Int32} {x2 : Int32} {x3 : Int32} {M : Mem}, k24 x0 x1 x2 x3 M = some r → ∀ {H : Heap} {locs : List Loc} {ls : Array Slot}, RH D B ca M H → va_S (AA B) s.heap H locs → lv_has ls 5 [(0, .ref (B + x0)), (1, .int x1), (2, .int x2), (3, .int x3)] → W p l e (rmD 2) s m args below meth c H locs 0 0 (MQ below (Qp D B ca st (some (.int r.1)) r.2) args s 0 0 (AA B)) (F0 m 24 ls [])) (hk37 : ∀ {x0 : Nat} {x1 : Int32} {x2 : Int32} {x3 : Int32} {x4 : Int32} {M : Mem}, k37 x0 x1 x2 x3 x4 M = some r → ∀ {H : Heap} {locs : List Loc} {ls : Array Slot}, RH D B ca M H → va_S (AA B) s.heap H locs → lv_has ls 5 [(0, .ref (B + x0)), (1, .int x1), (2, .int x2), (3, .int x3), (4, .int x4)] → W p l e (rmD 2) s m args below meth c H locs 0 0 (MQ below (Qp D B ca st (some (.int r.1)) r.2) args s 0 0 (AA B)) (F0 m 37 ls [])) (h : f_X8_pairs_75 k24 k37 x0 x1 x2 x3 x4 s0 s1 M = some r) : ∀ {H : Heap} {locs : List Loc} {ls : Array Slot}, RH D B ca M H → va_S (AA B) s.heap H locs → lv_has ls 5 [(0, .ref (B + x0)), (1, .int x1), (2, .int x2), (3, .int x3), (4, .int x4)] → W p l e (rmD 2) s m args below meth c H locs 0 0 (MQ below (Qp D B ca st (some (.int r.1)) r.2) args s 0 0 (AA B)) (F0 m 75 ls [.int s0, .ref (B + s1)]) := by
  have hx := C.1
  have hb := C.2.1
  unfold f_X8_pairs_75 at h
  intro H locs ls hR hS hl
  obtain ⟨M12, zqe13, h⟩ := ob h
  refine pf960 C hR hS zqe13 dX8_pairs_75 (fun H locs hR hS => ?_)
  refine lv_iload_n hx hb dX8_pairs_78 rfl (lv_at hl 2 rfl) ?_
  refine lv_aload_n hx hb dX8_pairs_79 rfl (lv_at hl 0 rfl) ?_
  refine lv_iload_n hx hb dX8_pairs_80 rfl (lv_at hl 3 rfl) ?_
  refine lv_iload hx hb dX8_pairs_81 (lv_at hl 4 rfl) ?_
  refine lv_iload_n hx hb dX8_pairs_83 rfl (lv_at hl 1 rfl) ?_
  obtain ⟨v15, zqe14, h⟩ := ob h
  refine rc_V C hR hS cf_X8_areInTune cv_X8_areInTune lk1345 (ok_X8_areInTune zqe14) (ck_X8_areInTune zqe14) ⟨Nat.le_of_ble_eq_true rfl, Nat.le_of_ble_eq_true rfl⟩ ⟨Nat.zero_le _, Nat.zero_le _⟩ rfl rfl hl.1 (Nat.le_of_ble_eq_true rfl) dX8_pairs_84 (rc_k1 (fun H locs hR hS => ?_))
  refine lv_if_eq (tgt := 94) hx hb dX8_pairs_87 (by decide) (fun c => ?_) (fun c => ?_)
  · have h := ip c h
    refine lv_iconst (v := 0) hx hb dX8_pairs_94 (by decide) ?_
    refine lv_iadd hx hb dX8_pairs_95 ?_
    refine lv_istore_n (lv' := [(2, .int (x2 + 0)), (0, .ref (B + x0)), (1, .int x1), (3, .int x3), (4, .int x4)]) hx hb dX8_pairs_96 rfl hl (by decide) rfl (fun ls hl => ?_)
    refine lv_iinc (v := (x4 + 1)) (lv' := [(4, .int (x4 + 1)), (2, .int (x2 + 0)), (0, .ref (B + x0)), (1, .int x1), (3, .int x3)]) hx hb dX8_pairs_97 hl (k := 4) rfl rfl (by decide) rfl (fun ls hl => ?_)
    refine lv_goto (tgt := 37) hx hb dX8_pairs_100 (by decide) ?_
    exact hk37 h hR hS (lv_sub hl [2, 3, 1, 4, 0] rfl)
  · have h := iq c h
    refine lv_iconst (v := 1) hx hb dX8_pairs_90 (by decide) ?_
    refine lv_goto (tgt := 95) hx hb dX8_pairs_91 (by decide) ?_
    refine lv_iadd hx hb dX8_pairs_95 ?_
    refine lv_istore_n (lv' := [(2, .int (x2 + 1)), (0, .ref (B + x0)), (1, .int x1), (3, .int x3), (4, .int x4)]) hx hb dX8_pairs_96 rfl hl (by decide) rfl (fun ls hl => ?_)
    refine lv_iinc (v := (x4 + 1)) (lv' := [(4, .int (x4 + 1)), (2, .int (x2 + 1)), (0, .ref (B + x0)), (1, .int x1), (3, .int x3)]) hx hb dX8_pairs_97 hl (k := 4) rfl rfl (by decide) rfl (fun ls hl => ?_)
    refine lv_goto (tgt := 37) hx hb dX8_pairs_100 (by decide) ?_
    exact hk37 h hR hS (lv_sub hl [2, 3, 1, 4, 0] rfl)
set_option maxHeartbeats 4000000 in
set_option maxRecDepth 100000 in
theorem w_X8_pairs_71  {k24 : Nat → Int32 → Int32 → Int32 → Mem → Option (Int32 × Mem)} {k37 : Nat → Int32 → Int32 → Int32 → Int32 → Mem → Option (Int32 × Mem)}  {r : Int32 × Mem} {x0 : Nat} {x1 : Int32} {x2 : Int32} {x3 : Int32} {x4 : Int32} {s0 : Nat} {M : Mem} (C : Cx p s m args meth c RX8 cX8_pairs 5 (some .int) D B ca st)  (hk24 : ∀ {x0 : Nat} {x1 : Int32} {x2 : Int32} {x3 : Int32} {M : Mem}, k24 x0 x1 x2 x3 M = some r → ∀ {H : Heap} {locs : List Loc} {ls : Array Slot}, RH D B ca M H → va_S (AA B) s.heap H locs → lv_has ls 5 [(0, .ref (B + x0)), (1, .int x1), (2, .int x2), (3, .int x3)] → W p l e (rmD 2) s m args below meth c H locs 0 0 (MQ below (Qp D B ca st (some (.int r.1)) r.2) args s 0 0 (AA B)) (F0 m 24 ls [])) (hk37 : ∀ {x0 : Nat} {x1 : Int32} {x2 : Int32} {x3 : Int32} {x4 : Int32} {M : Mem}, k37 x0 x1 x2 x3 x4 M = some r → ∀ {H : Heap} {locs : List Loc} {ls : Array Slot}, RH D B ca M H → va_S (AA B) s.heap H locs → lv_has ls 5 [(0, .ref (B + x0)), (1, .int x1), (2, .int x2), (3, .int x3), (4, .int x4)] → W p l e (rmD 2) s m args below meth c H locs 0 0 (MQ below (Qp D B ca st (some (.int r.1)) r.2) args s 0 0 (AA B)) (F0 m 37 ls [])) (h : f_X8_pairs_71 k24 k37 x0 x1 x2 x3 x4 s0 M = some r) : ∀ {H : Heap} {locs : List Loc} {ls : Array Slot}, RH D B ca M H → va_S (AA B) s.heap H locs → lv_has ls 5 [(0, .ref (B + x0)), (1, .int x1), (2, .int x2), (3, .int x3), (4, .int x4)] → W p l e (rmD 2) s m args below meth c H locs 0 0 (MQ below (Qp D B ca st (some (.int r.1)) r.2) args s 0 0 (AA B)) (F0 m 71 ls [.ref (B + s0)]) := by
  have hx := C.1
  have hb := C.2.1
  unfold f_X8_pairs_71 at h
  intro H locs ls hR hS hl
  refine lv_aload_n hx hb dX8_pairs_71 rfl (lv_at hl 0 rfl) ?_
  obtain ⟨v10, zqe11, h⟩ := ob h
  refine gf960 C hR zqe11 dX8_pairs_72 ?_
  exact w_X8_pairs_75 C (hk24 := @hk24) (hk37 := @hk37) h hR hS (lv_sub hl [0, 1, 2, 3, 4] rfl)
set_option maxHeartbeats 4000000 in
set_option maxRecDepth 100000 in
theorem w_X8_pairs_37  {k24 : Nat → Int32 → Int32 → Int32 → Mem → Option (Int32 × Mem)}  {r : Int32 × Mem} (C : Cx p s m args meth c RX8 cX8_pairs 5 (some .int) D B ca st)  (hk24 : ∀ {x0 : Nat} {x1 : Int32} {x2 : Int32} {x3 : Int32} {M : Mem}, k24 x0 x1 x2 x3 M = some r → ∀ {H : Heap} {locs : List Loc} {ls : Array Slot}, RH D B ca M H → va_S (AA B) s.heap H locs → lv_has ls 5 [(0, .ref (B + x0)), (1, .int x1), (2, .int x2), (3, .int x3)] → W p l e (rmD 2) s m args below meth c H locs 0 0 (MQ below (Qp D B ca st (some (.int r.1)) r.2) args s 0 0 (AA B)) (F0 m 24 ls [])) : ∀ (n : Nat) {x0 : Nat} {x1 : Int32} {x2 : Int32} {x3 : Int32} {x4 : Int32} {M : Mem}, f_X8_pairs_37 k24 n x0 x1 x2 x3 x4 M = some r → ∀ {H : Heap} {locs : List Loc} {ls : Array Slot}, RH D B ca M H → va_S (AA B) s.heap H locs → lv_has ls 5 [(0, .ref (B + x0)), (1, .int x1), (2, .int x2), (3, .int x3), (4, .int x4)] → W p l e (rmD 2) s m args below meth c H locs 0 0 (MQ below (Qp D B ca st (some (.int r.1)) r.2) args s 0 0 (AA B)) (F0 m 37 ls []) := by
  have hx := C.1
  have hb := C.2.1
  intro n
  induction n with
  | zero => intro x0 x1 x2 x3 x4 M h; simp [f_X8_pairs_37] at h
  | succ n ih =>
    intro x0 x1 x2 x3 x4 M h H locs ls hR hS hl
    rw [f_X8_pairs_37] at h
    refine lv_iload hx hb dX8_pairs_37 (lv_at hl 4 rfl) ?_
    refine lv_aload_n hx hb dX8_pairs_39 rfl (lv_at hl 0 rfl) ?_
    obtain ⟨v6, zqe7, h⟩ := ob h
    refine gf949 C hR zqe7 dX8_pairs_40 ?_
    refine lv_icmp_ge (tgt := 103) hx hb dX8_pairs_43 (by decide) (fun c => ?_) (fun c => ?_)
    · have h := ip c h
      refine lv_iinc (v := (x3 + 1)) (lv' := [(3, .int (x3 + 1)), (0, .ref (B + x0)), (1, .int x1), (2, .int x2), (4, .int x4)]) hx hb dX8_pairs_103 hl (k := 3) rfl rfl (by decide) rfl (fun ls hl => ?_)
      refine lv_goto (tgt := 24) hx hb dX8_pairs_106 (by decide) ?_
      exact hk24 h hR hS (lv_sub hl [1, 2, 3, 0] rfl)
    · have h := iq c h
      refine lv_aload_n hx hb dX8_pairs_46 rfl (lv_at hl 0 rfl) ?_
      refine lv_aload_n hx hb dX8_pairs_47 rfl (lv_at hl 0 rfl) ?_
      refine lv_iload_n hx hb dX8_pairs_48 rfl (lv_at hl 3 rfl) ?_
      refine lv_iload hx hb dX8_pairs_49 (lv_at hl 4 rfl) ?_
      refine lv_iload_n hx hb dX8_pairs_51 rfl (lv_at hl 1 rfl) ?_
      obtain ⟨v9, zqe8, h⟩ := ob h
      refine rc_V C hR hS cf_X8_areInTune cv_X8_areInTune lk1345 (ok_X8_areInTune zqe8) (ck_X8_areInTune zqe8) ⟨Nat.le_of_ble_eq_true rfl, Nat.le_of_ble_eq_true rfl⟩ ⟨Nat.zero_le _, Nat.zero_le _⟩ rfl rfl hl.1 (Nat.le_of_ble_eq_true rfl) dX8_pairs_52 (rc_k1 (fun H locs hR hS => ?_))
      refine lv_if_eq (tgt := 71) hx hb dX8_pairs_55 (by decide) (fun c => ?_) (fun c => ?_)
      · have h := ip c h
        exact w_X8_pairs_71 C (hk24 := @hk24) (hk37 := @ih) h hR hS (lv_sub hl [0, 1, 2, 3, 4] rfl)
      · have h := iq c h
        refine lv_iload_n hx hb dX8_pairs_58 rfl (lv_at hl 2 rfl) ?_
        refine lv_if_ne (tgt := 71) hx hb dX8_pairs_59 (by decide) (fun c => ?_) (fun c => ?_)
        · have h := iq c h
          exact w_X8_pairs_71 C (hk24 := @hk24) (hk37 := @ih) h hR hS (lv_sub hl [0, 1, 2, 3, 4] rfl)
        · have h := ip c h
          refine lv_iconst (v := 5) hx hb dX8_pairs_62 (by decide) ?_
          refine lv_iload_n hx hb dX8_pairs_63 rfl (lv_at hl 3 rfl) ?_
          refine lv_imul hx hb dX8_pairs_64 ?_
          refine lv_iload hx hb dX8_pairs_65 (lv_at hl 4 rfl) ?_
          refine lv_iadd hx hb dX8_pairs_67 ?_
          refine lv_goto (tgt := 75) hx hb dX8_pairs_68 (by decide) ?_
          exact w_X8_pairs_75 C (hk24 := @hk24) (hk37 := @ih) h hR hS (lv_sub hl [0, 1, 2, 3, 4] rfl)
set_option maxHeartbeats 4000000 in
set_option maxRecDepth 100000 in
theorem w_X8_pairs_24    {r : Int32 × Mem} (C : Cx p s m args meth c RX8 cX8_pairs 5 (some .int) D B ca st)   : ∀ (n : Nat) {x0 : Nat} {x1 : Int32} {x2 : Int32} {x3 : Int32} {M : Mem}, f_X8_pairs_24  n x0 x1 x2 x3 M = some r → ∀ {H : Heap} {locs : List Loc} {ls : Array Slot}, RH D B ca M H → va_S (AA B) s.heap H locs → lv_has ls 5 [(0, .ref (B + x0)), (1, .int x1), (2, .int x2), (3, .int x3)] → W p l e (rmD 2) s m args below meth c H locs 0 0 (MQ below (Qp D B ca st (some (.int r.1)) r.2) args s 0 0 (AA B)) (F0 m 24 ls []) := by
  have hx := C.1
  have hb := C.2.1
  intro n
  induction n with
  | zero => intro x0 x1 x2 x3 M h; simp [f_X8_pairs_24] at h
  | succ n ih =>
    intro x0 x1 x2 x3 M h H locs ls hR hS hl
    rw [f_X8_pairs_24] at h
    refine lv_iload_n hx hb dX8_pairs_24 rfl (lv_at hl 3 rfl) ?_
    refine lv_aload_n hx hb dX8_pairs_25 rfl (lv_at hl 0 rfl) ?_
    obtain ⟨v4, zqe5, h⟩ := ob h
    refine gf949 C hR zqe5 dX8_pairs_26 ?_
    refine lv_icmp_ge (tgt := 109) hx hb dX8_pairs_29 (by decide) (fun c => ?_) (fun c => ?_)
    · have h := ip c h
      refine lv_iload_n hx hb dX8_pairs_109 rfl (lv_at hl 2 rfl) ?_
      cases h
      exact rr_I C hR hS dX8_pairs_110
    · have h := iq c h
      refine lv_iload_n hx hb dX8_pairs_32 rfl (lv_at hl 3 rfl) ?_
      refine lv_iconst (v := 1) hx hb dX8_pairs_33 (by decide) ?_
      refine lv_iadd hx hb dX8_pairs_34 ?_
      refine lv_istore (lv' := [(4, .int (x3 + 1)), (0, .ref (B + x0)), (1, .int x1), (2, .int x2), (3, .int x3)]) hx hb dX8_pairs_35 hl (by decide) rfl (fun ls hl => ?_)
      exact w_X8_pairs_37 C (hk24 := @ih) FU h hR hS (lv_sub hl [1, 2, 3, 4, 0] rfl)
theorem ck_X8_pairs  {x0 : Nat} {x1 : Int32} {M : Mem} {r : Int32 × Mem} (h : f_X8_pairs  x0 x1 M = some r) : kd M x0 = 18 := by
  unfold f_X8_pairs at h
  exact ck h
set_option maxHeartbeats 4000000 in
set_option maxRecDepth 100000 in
theorem ok_X8_pairs  {x0 : Nat} {x1 : Int32}  {M : Mem} {r : Int32 × Mem}  (h : f_X8_pairs  x0 x1 M = some r) : Ok l yX8_pairs cX8_pairs 5 (some .int) 2 [.ref (B + x0), .int x1] D B ca st M (some (.int r.1)) r.2 := by
  have hk0 := ck_X8_pairs h
  unfold f_X8_pairs at h
  have h := ip hk0 h
  refine ok_of rfl rfl (Nat.le_of_ble_eq_true rfl) ?_
  intro p e s m args below meth c ls C hl hR hS
  have hl : lv_has ls 5 [(0, .ref (B + x0)), (1, .int x1)] := hl
  have hx := C.1
  have hb := C.2.1
  refine lv_iload_n hx hb dX8_pairs_0 rfl (lv_at hl 1 rfl) ?_
  refine lv_i2l (v := (Int32.toInt64 x1)) hx hb dX8_pairs_1 rfl ?_
  refine lv_lconst (v := 0) hx hb dX8_pairs_2 (by decide) ?_
  refine lv_ldc2 hx hb C.2.2.2.1 (C.2.2.2.2.1 _ lk1220) dX8_pairs_3 ?_
  refine rc_S C hR hS cf_X8_in cs_X8_in lk1059 (ok_X8_in (Int32.toInt64 x1) 0 9) ⟨Nat.le_of_ble_eq_true rfl, Nat.le_of_ble_eq_true rfl⟩ ⟨Nat.zero_le _, Nat.zero_le _⟩ rfl rfl hl.1 (Nat.le_of_ble_eq_true rfl) dX8_pairs_6 (rc_k1 (fun H locs hR hS => ?_))
  refine lv_if_ne (tgt := 14) hx hb dX8_pairs_9 (by decide) (fun c => ?_) (fun c => ?_)
  · have h := iq c h
    refine lv_iconst (v := 0) hx hb dX8_pairs_14 (by decide) ?_
    refine lv_istore_n (lv' := [(2, .int 0), (0, .ref (B + x0)), (1, .int x1)]) hx hb dX8_pairs_15 rfl hl (by decide) rfl (fun ls hl => ?_)
    refine lv_aload_n hx hb dX8_pairs_16 rfl (lv_at hl 1 rfl) ?_
    refine lv_bipush (v := (-9)) hx hb dX8_pairs_17 (by decide) ?_
    obtain ⟨M2, zqe3, h⟩ := ob h
    refine pf960 C hR hS zqe3 dX8_pairs_19 (fun H locs hR hS => ?_)
    refine lv_iconst (v := 0) hx hb dX8_pairs_22 (by decide) ?_
    refine lv_istore_n (lv' := [(3, .int 0), (2, .int 0), (0, .ref (B + x0)), (1, .int x1)]) hx hb dX8_pairs_23 rfl hl (by decide) rfl (fun ls hl => ?_)
    exact w_X8_pairs_24 C  FU h hR hS (lv_sub hl [2, 3, 1, 0] rfl)
  · have h := ip c h
    refine lv_iconst (v := (-1)) hx hb dX8_pairs_12 (by decide) ?_
    cases h
    exact rr_I C hR hS dX8_pairs_13
theorem ck_X8_plain  {x0 : Nat} {M : Mem} {r : Int32 × Mem} (h : f_X8_plain  x0 M = some r) : kd M x0 = 18 := by
  unfold f_X8_plain at h
  exact ck h
set_option maxHeartbeats 4000000 in
set_option maxRecDepth 100000 in
theorem ok_X8_plain  {x0 : Nat}  {M : Mem} {r : Int32 × Mem}  (h : f_X8_plain  x0 M = some r) : Ok l yX8_plain cX8_plain 1 (some .int) 5 [.ref (B + x0)] D B ca st M (some (.int r.1)) r.2 := by
  have hk0 := ck_X8_plain h
  unfold f_X8_plain at h
  have h := ip hk0 h
  refine ok_of rfl rfl (Nat.le_of_ble_eq_true rfl) ?_
  intro p e s m args below meth c ls C hl hR hS
  have hl : lv_has ls 1 [(0, .ref (B + x0))] := hl
  have hx := C.1
  have hb := C.2.1
  refine lv_aload_n hx hb dX8_plain_0 rfl (lv_at hl 0 rfl) ?_
  obtain ⟨v1, zqe2, h⟩ := ob h
  refine gf949 C hR zqe2 dX8_plain_1 ?_
  refine lv_if_ne (tgt := 10) hx hb dX8_plain_4 (by decide) (fun c => ?_) (fun c => ?_)
  · have h := iq c h
    refine lv_aload_n hx hb dX8_plain_10 rfl (lv_at hl 0 rfl) ?_
    refine lv_iconst (v := 0) hx hb dX8_plain_11 (by decide) ?_
    obtain ⟨M4, zqe3, h⟩ := ob h
    refine rc_V C hR hS cf_X8_doesPlain cv_X8_doesPlain lk1300 (ok_X8_doesPlain zqe3) (ck_X8_doesPlain zqe3) ⟨Nat.le_of_ble_eq_true rfl, Nat.le_of_ble_eq_true rfl⟩ ⟨Nat.zero_le _, Nat.zero_le _⟩ rfl rfl hl.1 (Nat.le_of_ble_eq_true rfl) dX8_plain_12 (rc_k0 (fun H locs hR hS => ?_))
    refine lv_aload_n hx hb dX8_plain_15 rfl (lv_at hl 0 rfl) ?_
    refine lv_aload_n hx hb dX8_plain_16 rfl (lv_at hl 0 rfl) ?_
    obtain ⟨v5, zqe6, h⟩ := ob h
    refine gf948 C hR zqe6 dX8_plain_17 ?_
    refine lv_sipush (v := 1973) hx hb dX8_plain_20 (by decide) ?_
    obtain ⟨v7, zqe8, h⟩ := ob h
    refine ra_I C hR zqe8 dX8_plain_23 ?_
    refine lv_aload_n hx hb dX8_plain_24 rfl (lv_at hl 0 rfl) ?_
    obtain ⟨v9, zqe10, h⟩ := ob h
    refine gf948 C hR zqe10 dX8_plain_25 ?_
    refine lv_iconst (v := 1) hx hb dX8_plain_28 (by decide) ?_
    obtain ⟨v11, zqe12, h⟩ := ob h
    refine ra_I C hR zqe12 dX8_plain_29 ?_
    refine lv_isub hx hb dX8_plain_30 ?_
    obtain ⟨M13, zqe14, h⟩ := ob h
    refine pf960 C hR hS zqe14 dX8_plain_31 (fun H locs hR hS => ?_)
    refine lv_aload_n hx hb dX8_plain_34 rfl (lv_at hl 0 rfl) ?_
    obtain ⟨v15, zqe16, h⟩ := ob h
    refine gf948 C hR zqe16 dX8_plain_35 ?_
    refine lv_sipush (v := 1974) hx hb dX8_plain_38 (by decide) ?_
    obtain ⟨v17, zqe18, h⟩ := ob h
    refine ra_I C hR zqe18 dX8_plain_41 ?_
    obtain ⟨v20, zqe19, h⟩ := ob h
    refine rc_S C hR hS cf_X8_bits cs_X8_bits lk1285 (ok_X8_bits zqe19) ⟨Nat.le_of_ble_eq_true rfl, Nat.le_of_ble_eq_true rfl⟩ ⟨Nat.zero_le _, Nat.zero_le _⟩ rfl rfl hl.1 (Nat.le_of_ble_eq_true rfl) dX8_plain_42 (rc_k1 (fun H locs hR hS => ?_))
    refine lv_aload_n hx hb dX8_plain_45 rfl (lv_at hl 0 rfl) ?_
    obtain ⟨v21, zqe22, h⟩ := ob h
    refine gf948 C hR zqe22 dX8_plain_46 ?_
    refine lv_iconst (v := 2) hx hb dX8_plain_49 (by decide) ?_
    obtain ⟨v23, zqe24, h⟩ := ob h
    refine ra_I C hR zqe24 dX8_plain_50 ?_
    obtain ⟨v26, zqe25, h⟩ := ob h
    refine rc_S C hR hS cf_X8_bits cs_X8_bits lk1285 (ok_X8_bits zqe25) ⟨Nat.le_of_ble_eq_true rfl, Nat.le_of_ble_eq_true rfl⟩ ⟨Nat.zero_le _, Nat.zero_le _⟩ rfl rfl hl.1 (Nat.le_of_ble_eq_true rfl) dX8_plain_51 (rc_k1 (fun H locs hR hS => ?_))
    refine lv_isub hx hb dX8_plain_54 ?_
    cases h
    exact rr_I C hR hS dX8_plain_55
  · have h := ip c h
    refine lv_bipush (v := (-4)) hx hb dX8_plain_7 (by decide) ?_
    cases h
    exact rr_I C hR hS dX8_plain_9
theorem ck_X8_put  {x0 : Nat} {x1 : Int32} {x2 : Int32} {x3 : Int32} {M : Mem} {r : Int32 × Mem} (h : f_X8_put  x0 x1 x2 x3 M = some r) : kd M x0 = 18 := by
  unfold f_X8_put at h
  exact ck h
set_option maxHeartbeats 4000000 in
set_option maxRecDepth 100000 in
theorem ok_X8_put  {x0 : Nat} {x1 : Int32} {x2 : Int32} {x3 : Int32}  {M : Mem} {r : Int32 × Mem}  (h : f_X8_put  x0 x1 x2 x3 M = some r) : Ok l yX8_put cX8_put 5 (some .int) 2 [.ref (B + x0), .int x1, .int x2, .int x3] D B ca st M (some (.int r.1)) r.2 := by
  have hk0 := ck_X8_put h
  unfold f_X8_put at h
  have h := ip hk0 h
  refine ok_of rfl rfl (Nat.le_of_ble_eq_true rfl) ?_
  intro p e s m args below meth c ls C hl hR hS
  have hl : lv_has ls 5 [(0, .ref (B + x0)), (1, .int x1), (2, .int x2), (3, .int x3)] := hl
  have hx := C.1
  have hb := C.2.1
  refine lv_iload_n hx hb dX8_put_0 rfl (lv_at hl 1 rfl) ?_
  obtain ⟨v2, zqe1, h⟩ := ob h
  refine rc_S C hR hS cf_X8_isText cs_X8_isText lk1106 (ok_X8_isText zqe1) ⟨Nat.le_of_ble_eq_true rfl, Nat.le_of_ble_eq_true rfl⟩ ⟨Nat.zero_le _, Nat.zero_le _⟩ rfl rfl hl.1 (Nat.le_of_ble_eq_true rfl) dX8_put_1 (rc_k1 (fun H locs hR hS => ?_))
  refine lv_if_ne (tgt := 9) hx hb dX8_put_4 (by decide) (fun c => ?_) (fun c => ?_)
  · have h := iq c h
    refine lv_aload_n hx hb dX8_put_9 rfl (lv_at hl 0 rfl) ?_
    obtain ⟨v3, zqe4, h⟩ := ob h
    refine gf958 C hR zqe4 dX8_put_10 ?_
    refine lv_iload_n hx hb dX8_put_13 rfl (lv_at hl 1 rfl) ?_
    obtain ⟨v5, zqe6, h⟩ := ob h
    refine ra_I C hR zqe6 dX8_put_14 ?_
    refine lv_if_ge (tgt := 24) hx hb dX8_put_15 (by decide) (fun c => ?_) (fun c => ?_)
    · have h := ip c h
      refine lv_iload_n hx hb dX8_put_24 rfl (lv_at hl 2 rfl) ?_
      refine lv_i2l (v := (Int32.toInt64 x2)) hx hb dX8_put_25 rfl ?_
      refine lv_lconst (v := 0) hx hb dX8_put_26 (by decide) ?_
      refine lv_aload_n hx hb dX8_put_27 rfl (lv_at hl 0 rfl) ?_
      obtain ⟨v7, zqe8, h⟩ := ob h
      refine gf958 C hR zqe8 dX8_put_28 ?_
      refine lv_iload_n hx hb dX8_put_31 rfl (lv_at hl 1 rfl) ?_
      obtain ⟨v9, zqe10, h⟩ := ob h
      refine ra_I C hR zqe10 dX8_put_32 ?_
      refine lv_iconst (v := 1) hx hb dX8_put_33 (by decide) ?_
      refine lv_isub hx hb dX8_put_34 ?_
      refine lv_i2l (v := (Int32.toInt64 (v9 - 1))) hx hb dX8_put_35 rfl ?_
      refine rc_S C hR hS cf_X8_in cs_X8_in lk1059 (ok_X8_in (Int32.toInt64 x2) 0 (Int32.toInt64 (v9 - 1))) ⟨Nat.le_of_ble_eq_true rfl, Nat.le_of_ble_eq_true rfl⟩ ⟨Nat.zero_le _, Nat.zero_le _⟩ rfl rfl hl.1 (Nat.le_of_ble_eq_true rfl) dX8_put_36 (rc_k1 (fun H locs hR hS => ?_))
      refine lv_if_ne (tgt := 48) hx hb dX8_put_39 (by decide) (fun c => ?_) (fun c => ?_)
      · have h := iq c h
        refine lv_aload_n hx hb dX8_put_48 rfl (lv_at hl 0 rfl) ?_
        obtain ⟨v12, zqe13, h⟩ := ob h
        refine gf959 C hR zqe13 dX8_put_49 ?_
        refine lv_bipush (v := 60) hx hb dX8_put_52 (by decide) ?_
        refine lv_iload_n hx hb dX8_put_54 rfl (lv_at hl 1 rfl) ?_
        refine lv_imul hx hb dX8_put_55 ?_
        refine lv_iload_n hx hb dX8_put_56 rfl (lv_at hl 2 rfl) ?_
        refine lv_iadd hx hb dX8_put_57 ?_
        obtain ⟨v14, zqe15, h⟩ := ob h
        refine ra_I C hR zqe15 dX8_put_58 ?_
        refine lv_istore (lv' := [(4, .int v14), (0, .ref (B + x0)), (1, .int x1), (2, .int x2), (3, .int x3)]) hx hb dX8_put_59 hl (by decide) rfl (fun ls hl => ?_)
        refine lv_aload_n hx hb dX8_put_61 rfl (lv_at hl 1 rfl) ?_
        obtain ⟨v16, zqe17, h⟩ := ob h
        refine gf959 C hR zqe17 dX8_put_62 ?_
        refine lv_bipush (v := 60) hx hb dX8_put_65 (by decide) ?_
        refine lv_iload_n hx hb dX8_put_67 rfl (lv_at hl 2 rfl) ?_
        refine lv_imul hx hb dX8_put_68 ?_
        refine lv_iload_n hx hb dX8_put_69 rfl (lv_at hl 3 rfl) ?_
        refine lv_iadd hx hb dX8_put_70 ?_
        refine lv_iload_n hx hb dX8_put_71 rfl (lv_at hl 4 rfl) ?_
        refine lv_i2b (v := (Int8.toInt32 (Int32.toInt8 x3))) hx hb dX8_put_72 rfl ?_
        obtain ⟨M18, zqe19, h⟩ := ob h
        refine re_I C hR hS zqe19 dX8_put_73 (fun H locs hR hS => ?_)
        refine lv_iload hx hb dX8_put_74 (lv_at hl 0 rfl) ?_
        refine lv_sipush (v := 1000) hx hb dX8_put_76 (by decide) ?_
        refine lv_iadd hx hb dX8_put_79 ?_
        cases h
        exact rr_I C hR hS dX8_put_80
      · have h := ip c h
        refine lv_aload_n hx hb dX8_put_42 rfl (lv_at hl 0 rfl) ?_
        refine lv_iconst (v := 2) hx hb dX8_put_43 (by decide) ?_
        obtain ⟨qv21, zqe20, h⟩ := ob h
        refine rc_V C hR hS cf_X8_find cv_X8_find lk1062 (ok_X8_find zqe20) (ck_X8_find zqe20) ⟨Nat.le_of_ble_eq_true rfl, Nat.le_of_ble_eq_true rfl⟩ ⟨Nat.zero_le _, Nat.zero_le _⟩ rfl rfl hl.1 (Nat.le_of_ble_eq_true rfl) dX8_put_44 (rc_k1 (fun H locs hR hS => ?_))
        cases h
        exact rr_I C hR hS dX8_put_47
    · have h := iq c h
      refine lv_aload_n hx hb dX8_put_18 rfl (lv_at hl 0 rfl) ?_
      refine lv_iconst (v := 1) hx hb dX8_put_19 (by decide) ?_
      obtain ⟨qv24, zqe23, h⟩ := ob h
      refine rc_V C hR hS cf_X8_find cv_X8_find lk1062 (ok_X8_find zqe23) (ck_X8_find zqe23) ⟨Nat.le_of_ble_eq_true rfl, Nat.le_of_ble_eq_true rfl⟩ ⟨Nat.zero_le _, Nat.zero_le _⟩ rfl rfl hl.1 (Nat.le_of_ble_eq_true rfl) dX8_put_20 (rc_k1 (fun H locs hR hS => ?_))
      cases h
      exact rr_I C hR hS dX8_put_23
  · have h := ip c h
    refine lv_iconst (v := (-1)) hx hb dX8_put_7 (by decide) ?_
    cases h
    exact rr_I C hR hS dX8_put_8
theorem ck_X8_rest  {x0 : Nat} {x1 : Int32} {M : Mem} {r : Int32 × Mem} (h : f_X8_rest  x0 x1 M = some r) : kd M x0 = 18 := by
  unfold f_X8_rest at h
  exact ck h
set_option maxHeartbeats 4000000 in
set_option maxRecDepth 100000 in
theorem ok_X8_rest  {x0 : Nat} {x1 : Int32}  {M : Mem} {r : Int32 × Mem}  (h : f_X8_rest  x0 x1 M = some r) : Ok l yX8_rest cX8_rest 2 (some .int) 2 [.ref (B + x0), .int x1] D B ca st M (some (.int r.1)) r.2 := by
  have hk0 := ck_X8_rest h
  unfold f_X8_rest at h
  have h := ip hk0 h
  refine ok_of rfl rfl (Nat.le_of_ble_eq_true rfl) ?_
  intro p e s m args below meth c ls C hl hR hS
  have hl : lv_has ls 2 [(0, .ref (B + x0)), (1, .int x1)] := hl
  have hx := C.1
  have hb := C.2.1
  refine lv_aload_n hx hb dX8_rest_0 rfl (lv_at hl 0 rfl) ?_
  refine lv_iload_n hx hb dX8_rest_1 rfl (lv_at hl 1 rfl) ?_
  obtain ⟨v2, zqe1, h⟩ := ob h
  refine rc_V C hR hS cf_X8_isSigher cv_X8_isSigher lk1153 (ok_X8_isSigher zqe1) (ck_X8_isSigher zqe1) ⟨Nat.le_of_ble_eq_true rfl, Nat.le_of_ble_eq_true rfl⟩ ⟨Nat.zero_le _, Nat.zero_le _⟩ rfl rfl hl.1 (Nat.le_of_ble_eq_true rfl) dX8_rest_2 (rc_k1 (fun H locs hR hS => ?_))
  refine lv_if_ne (tgt := 10) hx hb dX8_rest_5 (by decide) (fun c => ?_) (fun c => ?_)
  · have h := iq c h
    refine lv_aload_n hx hb dX8_rest_10 rfl (lv_at hl 0 rfl) ?_
    obtain ⟨v3, zqe4, h⟩ := ob h
    refine gf948 C hR zqe4 dX8_rest_11 ?_
    refine lv_iconst (v := 3) hx hb dX8_rest_14 (by decide) ?_
    refine lv_iload_n hx hb dX8_rest_15 rfl (lv_at hl 1 rfl) ?_
    refine lv_iadd hx hb dX8_rest_16 ?_
    obtain ⟨v5, zqe6, h⟩ := ob h
    refine ra_I C hR zqe6 dX8_rest_17 ?_
    refine lv_bipush (v := 9) hx hb dX8_rest_18 (by decide) ?_
    refine lv_icmp_ne (tgt := 26) hx hb dX8_rest_20 (by decide) (fun c => ?_) (fun c => ?_)
    · have h := iq c h
      refine lv_aload_n hx hb dX8_rest_26 rfl (lv_at hl 0 rfl) ?_
      obtain ⟨v7, zqe8, h⟩ := ob h
      refine gf948 C hR zqe8 dX8_rest_27 ?_
      refine lv_iconst (v := 0) hx hb dX8_rest_30 (by decide) ?_
      obtain ⟨v9, zqe10, h⟩ := ob h
      refine ra_I C hR zqe10 dX8_rest_31 ?_
      refine lv_bipush (v := 40) hx hb dX8_rest_32 (by decide) ?_
      refine lv_icmp_ne (tgt := 40) hx hb dX8_rest_34 (by decide) (fun c => ?_) (fun c => ?_)
      · have h := iq c h
        refine lv_aload_n hx hb dX8_rest_40 rfl (lv_at hl 0 rfl) ?_
        obtain ⟨M12, zqe11, h⟩ := ob h
        refine rc_V C hR hS cf_X8_keepPast cv_X8_keepPast lk1224 (ok_X8_keepPast zqe11) (ck_X8_keepPast zqe11) ⟨Nat.le_of_ble_eq_true rfl, Nat.le_of_ble_eq_true rfl⟩ ⟨Nat.zero_le _, Nat.zero_le _⟩ rfl rfl hl.1 (Nat.le_of_ble_eq_true rfl) dX8_rest_41 (rc_k0 (fun H locs hR hS => ?_))
        refine lv_aload_n hx hb dX8_rest_44 rfl (lv_at hl 0 rfl) ?_
        refine lv_iload_n hx hb dX8_rest_45 rfl (lv_at hl 1 rfl) ?_
        obtain ⟨M14, zqe13, h⟩ := ob h
        refine rc_V C hR hS cf_X8_rests cv_X8_rests lk1240 (ok_X8_rests zqe13) (ck_X8_rests zqe13) ⟨Nat.le_of_ble_eq_true rfl, Nat.le_of_ble_eq_true rfl⟩ ⟨Nat.zero_le _, Nat.zero_le _⟩ rfl rfl hl.1 (Nat.le_of_ble_eq_true rfl) dX8_rest_46 (rc_k0 (fun H locs hR hS => ?_))
        refine lv_aload_n hx hb dX8_rest_49 rfl (lv_at hl 0 rfl) ?_
        obtain ⟨v15, zqe16, h⟩ := ob h
        refine gf948 C hR zqe16 dX8_rest_50 ?_
        refine lv_iconst (v := 3) hx hb dX8_rest_53 (by decide) ?_
        refine lv_iload_n hx hb dX8_rest_54 rfl (lv_at hl 1 rfl) ?_
        refine lv_iadd hx hb dX8_rest_55 ?_
        obtain ⟨v17, zqe18, h⟩ := ob h
        refine ra_I C hR zqe18 dX8_rest_56 ?_
        cases h
        exact rr_I C hR hS dX8_rest_57
      · have h := ip c h
        refine lv_bipush (v := (-2)) hx hb dX8_rest_37 (by decide) ?_
        cases h
        exact rr_I C hR hS dX8_rest_39
    · have h := ip c h
      refine lv_bipush (v := (-4)) hx hb dX8_rest_23 (by decide) ?_
      cases h
      exact rr_I C hR hS dX8_rest_25
  · have h := ip c h
    refine lv_iconst (v := (-1)) hx hb dX8_rest_8 (by decide) ?_
    cases h
    exact rr_I C hR hS dX8_rest_9
theorem ck_X8_row  {x0 : Nat} {x1 : Int32} {x2 : Int32} {M : Mem} {r : Int32 × Mem} (h : f_X8_row  x0 x1 x2 M = some r) : kd M x0 = 18 := by
  unfold f_X8_row at h
  exact ck h
set_option maxHeartbeats 4000000 in
set_option maxRecDepth 100000 in
theorem ok_X8_row  {x0 : Nat} {x1 : Int32} {x2 : Int32}  {M : Mem} {r : Int32 × Mem}  (h : f_X8_row  x0 x1 x2 M = some r) : Ok l yX8_row cX8_row 3 (some .int) 2 [.ref (B + x0), .int x1, .int x2] D B ca st M (some (.int r.1)) r.2 := by
  have hk0 := ck_X8_row h
  unfold f_X8_row at h
  have h := ip hk0 h
  refine ok_of rfl rfl (Nat.le_of_ble_eq_true rfl) ?_
  intro p e s m args below meth c ls C hl hR hS
  have hl : lv_has ls 3 [(0, .ref (B + x0)), (1, .int x1), (2, .int x2)] := hl
  have hx := C.1
  have hb := C.2.1
  refine lv_iload_n hx hb dX8_row_0 rfl (lv_at hl 1 rfl) ?_
  obtain ⟨v2, zqe1, h⟩ := ob h
  refine rc_S C hR hS cf_X8_isRow cs_X8_isRow lk1055 (ok_X8_isRow zqe1) ⟨Nat.le_of_ble_eq_true rfl, Nat.le_of_ble_eq_true rfl⟩ ⟨Nat.zero_le _, Nat.zero_le _⟩ rfl rfl hl.1 (Nat.le_of_ble_eq_true rfl) dX8_row_1 (rc_k1 (fun H locs hR hS => ?_))
  refine lv_if_eq (tgt := 13) hx hb dX8_row_4 (by decide) (fun c => ?_) (fun c => ?_)
  · have h := ip c h
    refine lv_iconst (v := (-1)) hx hb dX8_row_13 (by decide) ?_
    cases h
    exact rr_I C hR hS dX8_row_14
  · have h := iq c h
    refine lv_iload_n hx hb dX8_row_7 rfl (lv_at hl 2 rfl) ?_
    refine lv_bipush (v := 40) hx hb dX8_row_8 (by decide) ?_
    refine lv_icmp_le (tgt := 15) hx hb dX8_row_10 (by decide) (fun c => ?_) (fun c => ?_)
    · have h := ip c h
      refine lv_iload_n hx hb dX8_row_15 rfl (lv_at hl 2 rfl) ?_
      refine lv_if_ge (tgt := 25) hx hb dX8_row_16 (by decide) (fun c => ?_) (fun c => ?_)
      · have h := ip c h
        refine lv_aload_n hx hb dX8_row_25 rfl (lv_at hl 0 rfl) ?_
        refine lv_iload_n hx hb dX8_row_26 rfl (lv_at hl 1 rfl) ?_
        refine lv_iload_n hx hb dX8_row_27 rfl (lv_at hl 2 rfl) ?_
        obtain ⟨M4, zqe3, h⟩ := ob h
        refine rc_V C hR hS cf_X8_makeRow cv_X8_makeRow lk1066 (ok_X8_makeRow zqe3) (ck_X8_makeRow zqe3) ⟨Nat.le_of_ble_eq_true rfl, Nat.le_of_ble_eq_true rfl⟩ ⟨Nat.zero_le _, Nat.zero_le _⟩ rfl rfl hl.1 (Nat.le_of_ble_eq_true rfl) dX8_row_28 (rc_k0 (fun H locs hR hS => ?_))
        refine lv_iload_n hx hb dX8_row_31 rfl (lv_at hl 2 rfl) ?_
        cases h
        exact rr_I C hR hS dX8_row_32
      · have h := iq c h
        refine lv_aload_n hx hb dX8_row_19 rfl (lv_at hl 0 rfl) ?_
        refine lv_iconst (v := 5) hx hb dX8_row_20 (by decide) ?_
        obtain ⟨qv6, zqe5, h⟩ := ob h
        refine rc_V C hR hS cf_X8_find cv_X8_find lk1062 (ok_X8_find zqe5) (ck_X8_find zqe5) ⟨Nat.le_of_ble_eq_true rfl, Nat.le_of_ble_eq_true rfl⟩ ⟨Nat.zero_le _, Nat.zero_le _⟩ rfl rfl hl.1 (Nat.le_of_ble_eq_true rfl) dX8_row_21 (rc_k1 (fun H locs hR hS => ?_))
        cases h
        exact rr_I C hR hS dX8_row_24
    · have h := iq c h
      refine lv_iconst (v := (-1)) hx hb dX8_row_13 (by decide) ?_
      cases h
      exact rr_I C hR hS dX8_row_14
theorem ck_X8_sigh  {x0 : Nat} {x1 : Int32} {x2 : Int32} {M : Mem} {r : Int32 × Mem} (h : f_X8_sigh  x0 x1 x2 M = some r) : kd M x0 = 18 := by
  unfold f_X8_sigh at h
  exact ck h
set_option maxHeartbeats 4000000 in
set_option maxRecDepth 100000 in
theorem ok_X8_sigh  {x0 : Nat} {x1 : Int32} {x2 : Int32}  {M : Mem} {r : Int32 × Mem}  (h : f_X8_sigh  x0 x1 x2 M = some r) : Ok l yX8_sigh cX8_sigh 3 (some .int) 4 [.ref (B + x0), .int x1, .int x2] D B ca st M (some (.int r.1)) r.2 := by
  have hk0 := ck_X8_sigh h
  unfold f_X8_sigh at h
  have h := ip hk0 h
  refine ok_of rfl rfl (Nat.le_of_ble_eq_true rfl) ?_
  intro p e s m args below meth c ls C hl hR hS
  have hl : lv_has ls 3 [(0, .ref (B + x0)), (1, .int x1), (2, .int x2)] := hl
  have hx := C.1
  have hb := C.2.1
  refine lv_aload_n hx hb dX8_sigh_0 rfl (lv_at hl 0 rfl) ?_
  refine lv_iload_n hx hb dX8_sigh_1 rfl (lv_at hl 1 rfl) ?_
  obtain ⟨v2, zqe1, h⟩ := ob h
  refine rc_V C hR hS cf_X8_isSigher cv_X8_isSigher lk1153 (ok_X8_isSigher zqe1) (ck_X8_isSigher zqe1) ⟨Nat.le_of_ble_eq_true rfl, Nat.le_of_ble_eq_true rfl⟩ ⟨Nat.zero_le _, Nat.zero_le _⟩ rfl rfl hl.1 (Nat.le_of_ble_eq_true rfl) dX8_sigh_2 (rc_k1 (fun H locs hR hS => ?_))
  refine lv_if_eq (tgt := 16) hx hb dX8_sigh_5 (by decide) (fun c => ?_) (fun c => ?_)
  · have h := ip c h
    refine lv_iconst (v := (-1)) hx hb dX8_sigh_16 (by decide) ?_
    cases h
    exact rr_I C hR hS dX8_sigh_17
  · have h := iq c h
    refine lv_aload_n hx hb dX8_sigh_8 rfl (lv_at hl 0 rfl) ?_
    refine lv_iload_n hx hb dX8_sigh_9 rfl (lv_at hl 2 rfl) ?_
    obtain ⟨v4, zqe3, h⟩ := ob h
    refine rc_V C hR hS cf_X8_isOrder cv_X8_isOrder lk1186 (ok_X8_isOrder zqe3) (ck_X8_isOrder zqe3) ⟨Nat.le_of_ble_eq_true rfl, Nat.le_of_ble_eq_true rfl⟩ ⟨Nat.zero_le _, Nat.zero_le _⟩ rfl rfl hl.1 (Nat.le_of_ble_eq_true rfl) dX8_sigh_10 (rc_k1 (fun H locs hR hS => ?_))
    refine lv_if_ne (tgt := 18) hx hb dX8_sigh_13 (by decide) (fun c => ?_) (fun c => ?_)
    · have h := iq c h
      refine lv_aload_n hx hb dX8_sigh_18 rfl (lv_at hl 0 rfl) ?_
      obtain ⟨v5, zqe6, h⟩ := ob h
      refine gf948 C hR zqe6 dX8_sigh_19 ?_
      refine lv_iconst (v := 2) hx hb dX8_sigh_22 (by decide) ?_
      obtain ⟨v7, zqe8, h⟩ := ob h
      refine ra_I C hR zqe8 dX8_sigh_23 ?_
      refine lv_iload_n hx hb dX8_sigh_24 rfl (lv_at hl 2 rfl) ?_
      refine rc_S C hR hS cf_X8_has cs_X8_has lk1166 (ok_X8_has v7 x2) ⟨Nat.le_of_ble_eq_true rfl, Nat.le_of_ble_eq_true rfl⟩ ⟨Nat.zero_le _, Nat.zero_le _⟩ rfl rfl hl.1 (Nat.le_of_ble_eq_true rfl) dX8_sigh_25 (rc_k1 (fun H locs hR hS => ?_))
      refine lv_if_ne (tgt := 67) hx hb dX8_sigh_28 (by decide) (fun c => ?_) (fun c => ?_)
      · have h := iq c h
        refine lv_bipush (v := (-4)) hx hb dX8_sigh_67 (by decide) ?_
        cases h
        exact rr_I C hR hS dX8_sigh_69
      · have h := ip c h
        refine lv_aload_n hx hb dX8_sigh_31 rfl (lv_at hl 0 rfl) ?_
        obtain ⟨v10, zqe11, h⟩ := ob h
        refine gf948 C hR zqe11 dX8_sigh_32 ?_
        refine lv_bipush (v := 8) hx hb dX8_sigh_35 (by decide) ?_
        refine lv_iload_n hx hb dX8_sigh_37 rfl (lv_at hl 1 rfl) ?_
        refine lv_iadd hx hb dX8_sigh_38 ?_
        obtain ⟨v12, zqe13, h⟩ := ob h
        refine ra_I C hR zqe13 dX8_sigh_39 ?_
        refine lv_aload_n hx hb dX8_sigh_40 rfl (lv_at hl 0 rfl) ?_
        obtain ⟨v14, zqe15, h⟩ := ob h
        refine gf953 C hR zqe15 dX8_sigh_41 ?_
        refine lv_iload_n hx hb dX8_sigh_44 rfl (lv_at hl 2 rfl) ?_
        obtain ⟨v16, zqe17, h⟩ := ob h
        refine ra_I C hR zqe17 dX8_sigh_45 ?_
        refine lv_icmp_ne (tgt := 67) hx hb dX8_sigh_46 (by decide) (fun c => ?_) (fun c => ?_)
        · have h := iq c h
          refine lv_bipush (v := (-4)) hx hb dX8_sigh_67 (by decide) ?_
          cases h
          exact rr_I C hR hS dX8_sigh_69
        · have h := ip c h
          refine lv_aload_n hx hb dX8_sigh_49 rfl (lv_at hl 0 rfl) ?_
          obtain ⟨v18, zqe19, h⟩ := ob h
          refine gf950 C hR zqe19 dX8_sigh_50 ?_
          refine lv_iload_n hx hb dX8_sigh_53 rfl (lv_at hl 1 rfl) ?_
          obtain ⟨v20, zqe21, h⟩ := ob h
          refine ra_I C hR zqe21 dX8_sigh_54 ?_
          refine lv_aload_n hx hb dX8_sigh_55 rfl (lv_at hl 0 rfl) ?_
          obtain ⟨v22, zqe23, h⟩ := ob h
          refine gf954 C hR zqe23 dX8_sigh_56 ?_
          refine lv_iload_n hx hb dX8_sigh_59 rfl (lv_at hl 2 rfl) ?_
          obtain ⟨v24, zqe25, h⟩ := ob h
          refine ra_I C hR zqe25 dX8_sigh_60 ?_
          refine rc_S C hR hS cf_X8_isTooDeep cs_X8_isTooDeep lk1169 (ok_X8_isTooDeep v20 v24) ⟨Nat.le_of_ble_eq_true rfl, Nat.le_of_ble_eq_true rfl⟩ ⟨Nat.zero_le _, Nat.zero_le _⟩ rfl rfl hl.1 (Nat.le_of_ble_eq_true rfl) dX8_sigh_61 (rc_k1 (fun H locs hR hS => ?_))
          refine lv_if_eq (tgt := 70) hx hb dX8_sigh_64 (by decide) (fun c => ?_) (fun c => ?_)
          · have h := ip c h
            refine lv_aload_n hx hb dX8_sigh_70 rfl (lv_at hl 0 rfl) ?_
            obtain ⟨v27, zqe28, h⟩ := ob h
            refine gf948 C hR zqe28 dX8_sigh_71 ?_
            refine lv_iconst (v := 3) hx hb dX8_sigh_74 (by decide) ?_
            refine lv_iload_n hx hb dX8_sigh_75 rfl (lv_at hl 1 rfl) ?_
            refine lv_iadd hx hb dX8_sigh_76 ?_
            obtain ⟨v29, zqe30, h⟩ := ob h
            refine ra_I C hR zqe30 dX8_sigh_77 ?_
            refine lv_aload_n hx hb dX8_sigh_78 rfl (lv_at hl 0 rfl) ?_
            refine lv_iload_n hx hb dX8_sigh_79 rfl (lv_at hl 1 rfl) ?_
            refine lv_iload_n hx hb dX8_sigh_80 rfl (lv_at hl 2 rfl) ?_
            obtain ⟨v32, zqe31, h⟩ := ob h
            refine rc_V C hR hS cf_X8_taken cv_X8_taken lk1172 (ok_X8_taken zqe31) (ck_X8_taken zqe31) ⟨Nat.le_of_ble_eq_true rfl, Nat.le_of_ble_eq_true rfl⟩ ⟨Nat.zero_le _, Nat.zero_le _⟩ rfl rfl hl.1 (Nat.le_of_ble_eq_true rfl) dX8_sigh_81 (rc_k1 (fun H locs hR hS => ?_))
            refine lv_icmp_ge (tgt := 90) hx hb dX8_sigh_84 (by decide) (fun c => ?_) (fun c => ?_)
            · have h := ip c h
              refine lv_aload_n hx hb dX8_sigh_90 rfl (lv_at hl 0 rfl) ?_
              obtain ⟨v33, zqe34, h⟩ := ob h
              refine gf948 C hR zqe34 dX8_sigh_91 ?_
              refine lv_iconst (v := 0) hx hb dX8_sigh_94 (by decide) ?_
              obtain ⟨v35, zqe36, h⟩ := ob h
              refine ra_I C hR zqe36 dX8_sigh_95 ?_
              refine lv_bipush (v := 40) hx hb dX8_sigh_96 (by decide) ?_
              refine lv_icmp_ne (tgt := 104) hx hb dX8_sigh_98 (by decide) (fun c => ?_) (fun c => ?_)
              · have h := iq c h
                refine lv_aload_n hx hb dX8_sigh_104 rfl (lv_at hl 0 rfl) ?_
                obtain ⟨M38, zqe37, h⟩ := ob h
                refine rc_V C hR hS cf_X8_keepPast cv_X8_keepPast lk1224 (ok_X8_keepPast zqe37) (ck_X8_keepPast zqe37) ⟨Nat.le_of_ble_eq_true rfl, Nat.le_of_ble_eq_true rfl⟩ ⟨Nat.zero_le _, Nat.zero_le _⟩ rfl rfl hl.1 (Nat.le_of_ble_eq_true rfl) dX8_sigh_105 (rc_k0 (fun H locs hR hS => ?_))
                refine lv_aload_n hx hb dX8_sigh_108 rfl (lv_at hl 0 rfl) ?_
                refine lv_iconst (v := 0) hx hb dX8_sigh_109 (by decide) ?_
                refine lv_iload_n hx hb dX8_sigh_110 rfl (lv_at hl 1 rfl) ?_
                refine lv_iload_n hx hb dX8_sigh_111 rfl (lv_at hl 2 rfl) ?_
                obtain ⟨M40, zqe39, h⟩ := ob h
                refine rc_V C hR hS cf_X8_sighsAt cv_X8_sighsAt lk1232 (ok_X8_sighsAt zqe39) (ck_X8_sighsAt zqe39) ⟨Nat.le_of_ble_eq_true rfl, Nat.le_of_ble_eq_true rfl⟩ ⟨Nat.zero_le _, Nat.zero_le _⟩ rfl rfl hl.1 (Nat.le_of_ble_eq_true rfl) dX8_sigh_112 (rc_k0 (fun H locs hR hS => ?_))
                refine lv_aload_n hx hb dX8_sigh_115 rfl (lv_at hl 0 rfl) ?_
                obtain ⟨v41, zqe42, h⟩ := ob h
                refine gf948 C hR zqe42 dX8_sigh_116 ?_
                refine lv_iconst (v := 1) hx hb dX8_sigh_119 (by decide) ?_
                obtain ⟨v43, zqe44, h⟩ := ob h
                refine ra_I C hR zqe44 dX8_sigh_120 ?_
                cases h
                exact rr_I C hR hS dX8_sigh_121
              · have h := ip c h
                refine lv_bipush (v := (-2)) hx hb dX8_sigh_101 (by decide) ?_
                cases h
                exact rr_I C hR hS dX8_sigh_103
            · have h := iq c h
              refine lv_bipush (v := (-6)) hx hb dX8_sigh_87 (by decide) ?_
              cases h
              exact rr_I C hR hS dX8_sigh_89
          · have h := iq c h
            refine lv_bipush (v := (-4)) hx hb dX8_sigh_67 (by decide) ?_
            cases h
            exact rr_I C hR hS dX8_sigh_69
    · have h := ip c h
      refine lv_iconst (v := (-1)) hx hb dX8_sigh_16 (by decide) ?_
      cases h
      exact rr_I C hR hS dX8_sigh_17
theorem ck_X8_sigher  {x0 : Nat} {x1 : Int32} {x2 : Int32} {M : Mem} {r : Int32 × Mem} (h : f_X8_sigher  x0 x1 x2 M = some r) : kd M x0 = 18 := by
  unfold f_X8_sigher at h
  exact ck h
set_option maxHeartbeats 4000000 in
set_option maxRecDepth 100000 in
theorem ok_X8_sigher  {x0 : Nat} {x1 : Int32} {x2 : Int32}  {M : Mem} {r : Int32 × Mem}  (h : f_X8_sigher  x0 x1 x2 M = some r) : Ok l yX8_sigher cX8_sigher 3 (some .int) 5 [.ref (B + x0), .int x1, .int x2] D B ca st M (some (.int r.1)) r.2 := by
  have hk0 := ck_X8_sigher h
  unfold f_X8_sigher at h
  have h := ip hk0 h
  refine ok_of rfl rfl (Nat.le_of_ble_eq_true rfl) ?_
  intro p e s m args below meth c ls C hl hR hS
  have hl : lv_has ls 3 [(0, .ref (B + x0)), (1, .int x1), (2, .int x2)] := hl
  have hx := C.1
  have hb := C.2.1
  refine lv_aload_n hx hb dX8_sigher_0 rfl (lv_at hl 0 rfl) ?_
  refine lv_iload_n hx hb dX8_sigher_1 rfl (lv_at hl 1 rfl) ?_
  obtain ⟨v2, zqe1, h⟩ := ob h
  refine rc_V C hR hS cf_X8_isSigher cv_X8_isSigher lk1153 (ok_X8_isSigher zqe1) (ck_X8_isSigher zqe1) ⟨Nat.le_of_ble_eq_true rfl, Nat.le_of_ble_eq_true rfl⟩ ⟨Nat.zero_le _, Nat.zero_le _⟩ rfl rfl hl.1 (Nat.le_of_ble_eq_true rfl) dX8_sigher_2 (rc_k1 (fun H locs hR hS => ?_))
  refine lv_if_eq (tgt := 33) hx hb dX8_sigher_5 (by decide) (fun c => ?_) (fun c => ?_)
  · have h := ip c h
    refine lv_iconst (v := (-1)) hx hb dX8_sigher_33 (by decide) ?_
    cases h
    exact rr_I C hR hS dX8_sigher_34
  · have h := iq c h
    refine lv_iload_n hx hb dX8_sigher_8 rfl (lv_at hl 2 rfl) ?_
    refine lv_i2l (v := (Int32.toInt64 x2)) hx hb dX8_sigher_9 rfl ?_
    refine lv_lconst (v := 0) hx hb dX8_sigher_10 (by decide) ?_
    refine lv_ldc2 hx hb C.2.2.2.1 (C.2.2.2.2.1 _ lk1157) dX8_sigher_11 ?_
    refine rc_S C hR hS cf_X8_in cs_X8_in lk1059 (ok_X8_in (Int32.toInt64 x2) 0 4) ⟨Nat.le_of_ble_eq_true rfl, Nat.le_of_ble_eq_true rfl⟩ ⟨Nat.zero_le _, Nat.zero_le _⟩ rfl rfl hl.1 (Nat.le_of_ble_eq_true rfl) dX8_sigher_14 (rc_k1 (fun H locs hR hS => ?_))
    refine lv_if_eq (tgt := 33) hx hb dX8_sigher_17 (by decide) (fun c => ?_) (fun c => ?_)
    · have h := ip c h
      refine lv_iconst (v := (-1)) hx hb dX8_sigher_33 (by decide) ?_
      cases h
      exact rr_I C hR hS dX8_sigher_34
    · have h := iq c h
      refine lv_aload_n hx hb dX8_sigher_20 rfl (lv_at hl 0 rfl) ?_
      refine lv_aload_n hx hb dX8_sigher_21 rfl (lv_at hl 0 rfl) ?_
      refine lv_iload_n hx hb dX8_sigher_22 rfl (lv_at hl 1 rfl) ?_
      refine lv_iload_n hx hb dX8_sigher_23 rfl (lv_at hl 2 rfl) ?_
      obtain ⟨v5, zqe4, h⟩ := ob h
      refine rc_V C hR hS cf_X8_sigherTold cv_X8_sigherTold lk1158 (ok_X8_sigherTold zqe4) (ck_X8_sigherTold zqe4) ⟨Nat.le_of_ble_eq_true rfl, Nat.le_of_ble_eq_true rfl⟩ ⟨Nat.zero_le _, Nat.zero_le _⟩ rfl rfl hl.1 (Nat.le_of_ble_eq_true rfl) dX8_sigher_24 (rc_k1 (fun H locs hR hS => ?_))
      obtain ⟨qv7, zqe6, h⟩ := ob h
      refine rc_V C hR hS cf_X8_tell cv_X8_tell lk1078 (ok_X8_tell zqe6) (ck_X8_tell zqe6) ⟨Nat.le_of_ble_eq_true rfl, Nat.le_of_ble_eq_true rfl⟩ ⟨Nat.zero_le _, Nat.zero_le _⟩ rfl rfl hl.1 (Nat.le_of_ble_eq_true rfl) dX8_sigher_27 (rc_k1 (fun H locs hR hS => ?_))
      refine lv_goto (tgt := 34) hx hb dX8_sigher_30 (by decide) ?_
      cases h
      exact rr_I C hR hS dX8_sigher_34
set_option maxHeartbeats 4000000 in
set_option maxRecDepth 100000 in
theorem w_X8_mostNow_15  {k4 : Nat → Int32 → Int32 → Int32 → Mem → Option Int32}  {r : Int32} (C : Cx p s m args meth c RX8 cX8_mostNow 5 (some .int) D B ca st)  (hk4 : ∀ {x0 : Nat} {x1 : Int32} {x2 : Int32} {x3 : Int32} {M : Mem}, k4 x0 x1 x2 x3 M = some r → ∀ {H : Heap} {locs : List Loc} {ls : Array Slot}, RH D B ca M H → va_S (AA B) s.heap H locs → lv_has ls 5 [(0, .ref (B + x0)), (1, .int x1), (2, .int x2), (3, .int x3)] → W p l e (rmD 4) s m args below meth c H locs 0 0 (MQ below (Qp D B ca st (some (.int r)) M) args s 0 0 (AA B)) (F0 m 4 ls [])) : ∀ (n : Nat) {x0 : Nat} {x1 : Int32} {x2 : Int32} {x3 : Int32} {x4 : Int32} {M : Mem}, f_X8_mostNow_15 k4 n x0 x1 x2 x3 x4 M = some r → ∀ {H : Heap} {locs : List Loc} {ls : Array Slot}, RH D B ca M H → va_S (AA B) s.heap H locs → lv_has ls 5 [(0, .ref (B + x0)), (1, .int x1), (2, .int x2), (3, .int x3), (4, .int x4)] → W p l e (rmD 4) s m args below meth c H locs 0 0 (MQ below (Qp D B ca st (some (.int r)) M) args s 0 0 (AA B)) (F0 m 15 ls []) := by
  have hx := C.1
  have hb := C.2.1
  intro n
  induction n with
  | zero => intro x0 x1 x2 x3 x4 M h; simp [f_X8_mostNow_15] at h
  | succ n ih =>
    intro x0 x1 x2 x3 x4 M h H locs ls hR hS hl
    rw [f_X8_mostNow_15] at h
    refine lv_iload hx hb dX8_mostNow_15 (lv_at hl 4 rfl) ?_
    refine lv_aload_n hx hb dX8_mostNow_17 rfl (lv_at hl 0 rfl) ?_
    obtain ⟨v3, zqe4, h⟩ := ob h
    refine gf952 C hR zqe4 dX8_mostNow_18 ?_
    refine lv_icmp_ge (tgt := 64) hx hb dX8_mostNow_21 (by decide) (fun c => ?_) (fun c => ?_)
    · have h := ip c h
      refine lv_iinc (v := (x3 + 1)) (lv' := [(3, .int (x3 + 1)), (0, .ref (B + x0)), (1, .int x1), (2, .int x2), (4, .int x4)]) hx hb dX8_mostNow_64 hl (k := 3) rfl rfl (by decide) rfl (fun ls hl => ?_)
      refine lv_goto (tgt := 4) hx hb dX8_mostNow_67 (by decide) ?_
      exact hk4 h hR hS (lv_sub hl [1, 2, 3, 0] rfl)
    · have h := iq c h
      refine lv_aload_n hx hb dX8_mostNow_24 rfl (lv_at hl 0 rfl) ?_
      refine lv_iload_n hx hb dX8_mostNow_25 rfl (lv_at hl 1 rfl) ?_
      refine lv_iload_n hx hb dX8_mostNow_26 rfl (lv_at hl 3 rfl) ?_
      refine lv_iload hx hb dX8_mostNow_27 (lv_at hl 4 rfl) ?_
      obtain ⟨v6, zqe5, h⟩ := ob h
      refine rc_V C hR hS cf_X8_can cv_X8_can lk1162 (ok_X8_can zqe5) (ck_X8_can zqe5) ⟨Nat.le_of_ble_eq_true rfl, Nat.le_of_ble_eq_true rfl⟩ ⟨Nat.zero_le _, Nat.zero_le _⟩ rfl rfl hl.1 (Nat.le_of_ble_eq_true rfl) dX8_mostNow_29 (rc_k1 (fun H locs hR hS => ?_))
      refine lv_if_eq (tgt := 56) hx hb dX8_mostNow_32 (by decide) (fun c => ?_) (fun c => ?_)
      · have h := ip c h
        refine lv_iload_n hx hb dX8_mostNow_56 rfl (lv_at hl 2 rfl) ?_
        refine lv_istore_n (lv' := [(2, .int x2), (0, .ref (B + x0)), (1, .int x1), (3, .int x3), (4, .int x4)]) hx hb dX8_mostNow_57 rfl hl (by decide) rfl (fun ls hl => ?_)
        refine lv_iinc (v := (x4 + 1)) (lv' := [(4, .int (x4 + 1)), (2, .int x2), (0, .ref (B + x0)), (1, .int x1), (3, .int x3)]) hx hb dX8_mostNow_58 hl (k := 4) rfl rfl (by decide) rfl (fun ls hl => ?_)
        refine lv_goto (tgt := 15) hx hb dX8_mostNow_61 (by decide) ?_
        exact ih h hR hS (lv_sub hl [2, 3, 1, 4, 0] rfl)
      · have h := iq c h
        refine lv_aload_n hx hb dX8_mostNow_35 rfl (lv_at hl 0 rfl) ?_
        refine lv_iload_n hx hb dX8_mostNow_36 rfl (lv_at hl 3 rfl) ?_
        refine lv_iload hx hb dX8_mostNow_37 (lv_at hl 4 rfl) ?_
        obtain ⟨v8, zqe7, h⟩ := ob h
        refine rc_V C hR hS cf_X8_brought cv_X8_brought lk1206 (ok_X8_brought zqe7) (ck_X8_brought zqe7) ⟨Nat.le_of_ble_eq_true rfl, Nat.le_of_ble_eq_true rfl⟩ ⟨Nat.zero_le _, Nat.zero_le _⟩ rfl rfl hl.1 (Nat.le_of_ble_eq_true rfl) dX8_mostNow_39 (rc_k1 (fun H locs hR hS => ?_))
        refine lv_iload_n hx hb dX8_mostNow_42 rfl (lv_at hl 2 rfl) ?_
        refine lv_icmp_le (tgt := 56) hx hb dX8_mostNow_43 (by decide) (fun c => ?_) (fun c => ?_)
        · have h := ip c h
          refine lv_iload_n hx hb dX8_mostNow_56 rfl (lv_at hl 2 rfl) ?_
          refine lv_istore_n (lv' := [(2, .int x2), (0, .ref (B + x0)), (1, .int x1), (3, .int x3), (4, .int x4)]) hx hb dX8_mostNow_57 rfl hl (by decide) rfl (fun ls hl => ?_)
          refine lv_iinc (v := (x4 + 1)) (lv' := [(4, .int (x4 + 1)), (2, .int x2), (0, .ref (B + x0)), (1, .int x1), (3, .int x3)]) hx hb dX8_mostNow_58 hl (k := 4) rfl rfl (by decide) rfl (fun ls hl => ?_)
          refine lv_goto (tgt := 15) hx hb dX8_mostNow_61 (by decide) ?_
          exact ih h hR hS (lv_sub hl [2, 3, 1, 4, 0] rfl)
        · have h := iq c h
          refine lv_aload_n hx hb dX8_mostNow_46 rfl (lv_at hl 0 rfl) ?_
          refine lv_iload_n hx hb dX8_mostNow_47 rfl (lv_at hl 3 rfl) ?_
          refine lv_iload hx hb dX8_mostNow_48 (lv_at hl 4 rfl) ?_
          obtain ⟨v10, zqe9, h⟩ := ob h
          refine rc_V C hR hS cf_X8_brought cv_X8_brought lk1206 (ok_X8_brought zqe9) (ck_X8_brought zqe9) ⟨Nat.le_of_ble_eq_true rfl, Nat.le_of_ble_eq_true rfl⟩ ⟨Nat.zero_le _, Nat.zero_le _⟩ rfl rfl hl.1 (Nat.le_of_ble_eq_true rfl) dX8_mostNow_50 (rc_k1 (fun H locs hR hS => ?_))
          refine lv_goto (tgt := 57) hx hb dX8_mostNow_53 (by decide) ?_
          refine lv_istore_n (lv' := [(2, .int v10), (0, .ref (B + x0)), (1, .int x1), (3, .int x3), (4, .int x4)]) hx hb dX8_mostNow_57 rfl hl (by decide) rfl (fun ls hl => ?_)
          refine lv_iinc (v := (x4 + 1)) (lv' := [(4, .int (x4 + 1)), (2, .int v10), (0, .ref (B + x0)), (1, .int x1), (3, .int x3)]) hx hb dX8_mostNow_58 hl (k := 4) rfl rfl (by decide) rfl (fun ls hl => ?_)
          refine lv_goto (tgt := 15) hx hb dX8_mostNow_61 (by decide) ?_
          exact ih h hR hS (lv_sub hl [2, 3, 1, 4, 0] rfl)
set_option maxHeartbeats 4000000 in
set_option maxRecDepth 100000 in
theorem w_X8_mostNow_4    {r : Int32} (C : Cx p s m args meth c RX8 cX8_mostNow 5 (some .int) D B ca st)   : ∀ (n : Nat) {x0 : Nat} {x1 : Int32} {x2 : Int32} {x3 : Int32} {M : Mem}, f_X8_mostNow_4  n x0 x1 x2 x3 M = some r → ∀ {H : Heap} {locs : List Loc} {ls : Array Slot}, RH D B ca M H → va_S (AA B) s.heap H locs → lv_has ls 5 [(0, .ref (B + x0)), (1, .int x1), (2, .int x2), (3, .int x3)] → W p l e (rmD 4) s m args below meth c H locs 0 0 (MQ below (Qp D B ca st (some (.int r)) M) args s 0 0 (AA B)) (F0 m 4 ls []) := by
  have hx := C.1
  have hb := C.2.1
  intro n
  induction n with
  | zero => intro x0 x1 x2 x3 M h; simp [f_X8_mostNow_4] at h
  | succ n ih =>
    intro x0 x1 x2 x3 M h H locs ls hR hS hl
    rw [f_X8_mostNow_4] at h
    refine lv_iload_n hx hb dX8_mostNow_4 rfl (lv_at hl 3 rfl) ?_
    refine lv_aload_n hx hb dX8_mostNow_5 rfl (lv_at hl 0 rfl) ?_
    obtain ⟨v1, zqe2, h⟩ := ob h
    refine gf949 C hR zqe2 dX8_mostNow_6 ?_
    refine lv_icmp_ge (tgt := 70) hx hb dX8_mostNow_9 (by decide) (fun c => ?_) (fun c => ?_)
    · have h := ip c h
      refine lv_iload_n hx hb dX8_mostNow_70 rfl (lv_at hl 2 rfl) ?_
      cases h
      exact rr_I C hR hS dX8_mostNow_71
    · have h := iq c h
      refine lv_iconst (v := 0) hx hb dX8_mostNow_12 (by decide) ?_
      refine lv_istore (lv' := [(4, .int 0), (0, .ref (B + x0)), (1, .int x1), (2, .int x2), (3, .int x3)]) hx hb dX8_mostNow_13 hl (by decide) rfl (fun ls hl => ?_)
      exact w_X8_mostNow_15 C (hk4 := @ih) FU h hR hS (lv_sub hl [1, 2, 3, 4, 0] rfl)
theorem ck_X8_mostNow  {x0 : Nat} {x1 : Int32} {M : Mem} {r : Int32} (h : f_X8_mostNow  x0 x1 M = some r) : kd M x0 = 18 := by
  unfold f_X8_mostNow at h
  exact ck h
set_option maxHeartbeats 4000000 in
set_option maxRecDepth 100000 in
theorem ok_X8_mostNow  {x0 : Nat} {x1 : Int32}  {M : Mem} {r : Int32}  (h : f_X8_mostNow  x0 x1 M = some r) : Ok l yX8_mostNow cX8_mostNow 5 (some .int) 4 [.ref (B + x0), .int x1] D B ca st M (some (.int r)) M := by
  have hk0 := ck_X8_mostNow h
  unfold f_X8_mostNow at h
  have h := ip hk0 h
  refine ok_of rfl rfl (Nat.le_of_ble_eq_true rfl) ?_
  intro p e s m args below meth c ls C hl hR hS
  have hl : lv_has ls 5 [(0, .ref (B + x0)), (1, .int x1)] := hl
  have hx := C.1
  have hb := C.2.1
  refine lv_iconst (v := 0) hx hb dX8_mostNow_0 (by decide) ?_
  refine lv_istore_n (lv' := [(2, .int 0), (0, .ref (B + x0)), (1, .int x1)]) hx hb dX8_mostNow_1 rfl hl (by decide) rfl (fun ls hl => ?_)
  refine lv_iconst (v := 0) hx hb dX8_mostNow_2 (by decide) ?_
  refine lv_istore_n (lv' := [(3, .int 0), (2, .int 0), (0, .ref (B + x0)), (1, .int x1)]) hx hb dX8_mostNow_3 rfl hl (by decide) rfl (fun ls hl => ?_)
  exact w_X8_mostNow_4 C  FU h hR hS (lv_sub hl [2, 3, 1, 0] rfl)
set_option maxHeartbeats 4000000 in
set_option maxRecDepth 100000 in
theorem w_X8_leastBehind_41  {k6 : Nat → Int32 → Int32 → Int32 → Mem → Option (Int32 × Mem)}  {r : Int32 × Mem} {x0 : Nat} {x1 : Int32} {x2 : Int32} {x3 : Int32} {M : Mem} (C : Cx p s m args meth c RX8 cX8_leastBehind 5 (some .int) D B ca st)  (hk6 : ∀ {x0 : Nat} {x1 : Int32} {x2 : Int32} {x3 : Int32} {M : Mem}, k6 x0 x1 x2 x3 M = some r → ∀ {H : Heap} {locs : List Loc} {ls : Array Slot}, RH D B ca M H → va_S (AA B) s.heap H locs → lv_has ls 5 [(0, .ref (B + x0)), (1, .int x1), (2, .int x2), (3, .int x3)] → W p l e (rmD 5) s m args below meth c H locs 0 0 (MQ below (Qp D B ca st (some (.int r.1)) r.2) args s 0 0 (AA B)) (F0 m 6 ls [])) (h : f_X8_leastBehind_41 k6 x0 x1 x2 x3 M = some r) : ∀ {H : Heap} {locs : List Loc} {ls : Array Slot}, RH D B ca M H → va_S (AA B) s.heap H locs → lv_has ls 5 [(0, .ref (B + x0)), (1, .int x1), (2, .int x2), (3, .int x3)] → W p l e (rmD 5) s m args below meth c H locs 0 0 (MQ below (Qp D B ca st (some (.int r.1)) r.2) args s 0 0 (AA B)) (F0 m 41 ls []) := by
  have hx := C.1
  have hb := C.2.1
  unfold f_X8_leastBehind_41 at h
  intro H locs ls hR hS hl
  refine lv_aload_n hx hb dX8_leastBehind_41 rfl (lv_at hl 0 rfl) ?_
  refine lv_sipush (v := 1985) hx hb dX8_leastBehind_42 (by decide) ?_
  obtain ⟨v12, zqe11, h⟩ := ob h
  refine rc_V C hR hS cf_X8_mostNow cv_X8_mostNow lk1386 (ok_X8_mostNow zqe11) (ck_X8_mostNow zqe11) ⟨Nat.le_of_ble_eq_true rfl, Nat.le_of_ble_eq_true rfl⟩ ⟨Nat.zero_le _, Nat.zero_le _⟩ rfl rfl hl.1 (Nat.le_of_ble_eq_true rfl) dX8_leastBehind_45 (rc_k1 (fun H locs hR hS => ?_))
  refine lv_istore (lv' := [(4, .int v12), (0, .ref (B + x0)), (1, .int x1), (2, .int x2), (3, .int x3)]) hx hb dX8_leastBehind_48 hl (by decide) rfl (fun ls hl => ?_)
  refine lv_iload hx hb dX8_leastBehind_50 (lv_at hl 0 rfl) ?_
  refine lv_iload_n hx hb dX8_leastBehind_52 rfl (lv_at hl 3 rfl) ?_
  refine lv_icmp_ge (tgt := 61) hx hb dX8_leastBehind_53 (by decide) (fun c => ?_) (fun c => ?_)
  · have h := ip c h
    refine lv_iload_n hx hb dX8_leastBehind_61 rfl (lv_at hl 3 rfl) ?_
    refine lv_istore_n (lv' := [(2, .int x2), (4, .int v12), (0, .ref (B + x0)), (1, .int x1), (3, .int x3)]) hx hb dX8_leastBehind_62 rfl hl (by decide) rfl (fun ls hl => ?_)
    refine lv_iinc (v := (x3 + 1)) (lv' := [(3, .int (x3 + 1)), (2, .int x2), (4, .int v12), (0, .ref (B + x0)), (1, .int x1)]) hx hb dX8_leastBehind_63 hl (k := 4) rfl rfl (by decide) rfl (fun ls hl => ?_)
    refine lv_goto (tgt := 6) hx hb dX8_leastBehind_66 (by decide) ?_
    exact hk6 h hR hS (lv_sub hl [3, 4, 1, 0] rfl)
  · have h := iq c h
    refine lv_iload hx hb dX8_leastBehind_56 (lv_at hl 0 rfl) ?_
    refine lv_goto (tgt := 62) hx hb dX8_leastBehind_58 (by decide) ?_
    refine lv_istore_n (lv' := [(2, .int v12), (4, .int v12), (0, .ref (B + x0)), (1, .int x1), (3, .int x3)]) hx hb dX8_leastBehind_62 rfl hl (by decide) rfl (fun ls hl => ?_)
    refine lv_iinc (v := (x3 + 1)) (lv' := [(3, .int (x3 + 1)), (2, .int v12), (4, .int v12), (0, .ref (B + x0)), (1, .int x1)]) hx hb dX8_leastBehind_63 hl (k := 4) rfl rfl (by decide) rfl (fun ls hl => ?_)
    refine lv_goto (tgt := 6) hx hb dX8_leastBehind_66 (by decide) ?_
    exact hk6 h hR hS (lv_sub hl [3, 4, 1, 0] rfl)
set_option maxHeartbeats 4000000 in
set_option maxRecDepth 100000 in
theorem w_X8_leastBehind_6    {r : Int32 × Mem} (C : Cx p s m args meth c RX8 cX8_leastBehind 5 (some .int) D B ca st)   : ∀ (n : Nat) {x0 : Nat} {x1 : Int32} {x2 : Int32} {x3 : Int32} {M : Mem}, f_X8_leastBehind_6  n x0 x1 x2 x3 M = some r → ∀ {H : Heap} {locs : List Loc} {ls : Array Slot}, RH D B ca M H → va_S (AA B) s.heap H locs → lv_has ls 5 [(0, .ref (B + x0)), (1, .int x1), (2, .int x2), (3, .int x3)] → W p l e (rmD 5) s m args below meth c H locs 0 0 (MQ below (Qp D B ca st (some (.int r.1)) r.2) args s 0 0 (AA B)) (F0 m 6 ls []) := by
  have hx := C.1
  have hb := C.2.1
  intro n
  induction n with
  | zero => intro x0 x1 x2 x3 M h; simp [f_X8_leastBehind_6] at h
  | succ n ih =>
    intro x0 x1 x2 x3 M h H locs ls hR hS hl
    rw [f_X8_leastBehind_6] at h
    refine lv_iload_n hx hb dX8_leastBehind_6 rfl (lv_at hl 3 rfl) ?_
    refine lv_aload_n hx hb dX8_leastBehind_7 rfl (lv_at hl 0 rfl) ?_
    obtain ⟨v1, zqe2, h⟩ := ob h
    refine gf949 C hR zqe2 dX8_leastBehind_8 ?_
    refine lv_icmp_gt (tgt := 69) hx hb dX8_leastBehind_11 (by decide) (fun c => ?_) (fun c => ?_)
    · have h := ip c h
      refine lv_iload_n hx hb dX8_leastBehind_69 rfl (lv_at hl 2 rfl) ?_
      cases h
      exact rr_I C hR hS dX8_leastBehind_70
    · have h := iq c h
      refine lv_aload_n hx hb dX8_leastBehind_14 rfl (lv_at hl 0 rfl) ?_
      refine lv_iload_n hx hb dX8_leastBehind_15 rfl (lv_at hl 1 rfl) ?_
      refine lv_sipush (v := 1985) hx hb dX8_leastBehind_16 (by decide) ?_
      obtain ⟨M4, zqe3, h⟩ := ob h
      refine rc_V C hR hS cf_X8_copyPart cv_X8_copyPart lk1281 (ok_X8_copyPart zqe3) (ck_X8_copyPart zqe3) ⟨Nat.le_of_ble_eq_true rfl, Nat.le_of_ble_eq_true rfl⟩ ⟨Nat.zero_le _, Nat.zero_le _⟩ rfl rfl hl.1 (Nat.le_of_ble_eq_true rfl) dX8_leastBehind_19 (rc_k0 (fun H locs hR hS => ?_))
      refine lv_iload_n hx hb dX8_leastBehind_22 rfl (lv_at hl 3 rfl) ?_
      refine lv_aload_n hx hb dX8_leastBehind_23 rfl (lv_at hl 0 rfl) ?_
      obtain ⟨v5, zqe6, h⟩ := ob h
      refine gf949 C hR zqe6 dX8_leastBehind_24 ?_
      refine lv_icmp_ge (tgt := 41) hx hb dX8_leastBehind_27 (by decide) (fun c => ?_) (fun c => ?_)
      · have h := ip c h
        exact w_X8_leastBehind_41 C (hk6 := @ih) h hR hS (lv_sub hl [0, 1, 2, 3] rfl)
      · have h := iq c h
        refine lv_aload_n hx hb dX8_leastBehind_30 rfl (lv_at hl 0 rfl) ?_
        obtain ⟨v7, zqe8, h⟩ := ob h
        refine gf948 C hR zqe8 dX8_leastBehind_31 ?_
        refine lv_sipush (v := 1988) hx hb dX8_leastBehind_34 (by decide) ?_
        refine lv_iload_n hx hb dX8_leastBehind_37 rfl (lv_at hl 3 rfl) ?_
        refine lv_iadd hx hb dX8_leastBehind_38 ?_
        refine lv_iconst (v := 0) hx hb dX8_leastBehind_39 (by decide) ?_
        obtain ⟨M9, zqe10, h⟩ := ob h
        refine re_I C hR hS zqe10 dX8_leastBehind_40 (fun H locs hR hS => ?_)
        exact w_X8_leastBehind_41 C (hk6 := @ih) h hR hS (lv_sub hl [0, 1, 2, 3] rfl)
theorem ck_X8_leastBehind  {x0 : Nat} {x1 : Int32} {M : Mem} {r : Int32 × Mem} (h : f_X8_leastBehind  x0 x1 M = some r) : kd M x0 = 18 := by
  unfold f_X8_leastBehind at h
  exact ck h
set_option maxHeartbeats 4000000 in
set_option maxRecDepth 100000 in
theorem ok_X8_leastBehind  {x0 : Nat} {x1 : Int32}  {M : Mem} {r : Int32 × Mem}  (h : f_X8_leastBehind  x0 x1 M = some r) : Ok l yX8_leastBehind cX8_leastBehind 5 (some .int) 5 [.ref (B + x0), .int x1] D B ca st M (some (.int r.1)) r.2 := by
  have hk0 := ck_X8_leastBehind h
  unfold f_X8_leastBehind at h
  have h := ip hk0 h
  refine ok_of rfl rfl (Nat.le_of_ble_eq_true rfl) ?_
  intro p e s m args below meth c ls C hl hR hS
  have hl : lv_has ls 5 [(0, .ref (B + x0)), (1, .int x1)] := hl
  have hx := C.1
  have hb := C.2.1
  refine lv_sipush (v := 999) hx hb dX8_leastBehind_0 (by decide) ?_
  refine lv_istore_n (lv' := [(2, .int 999), (0, .ref (B + x0)), (1, .int x1)]) hx hb dX8_leastBehind_3 rfl hl (by decide) rfl (fun ls hl => ?_)
  refine lv_iconst (v := 0) hx hb dX8_leastBehind_4 (by decide) ?_
  refine lv_istore_n (lv' := [(3, .int 0), (2, .int 999), (0, .ref (B + x0)), (1, .int x1)]) hx hb dX8_leastBehind_5 rfl hl (by decide) rfl (fun ls hl => ?_)
  exact w_X8_leastBehind_6 C  FU h hR hS (lv_sub hl [2, 3, 1, 0] rfl)
set_option maxHeartbeats 4000000 in
set_option maxRecDepth 100000 in
theorem w_X8_strike_51    {r : Int32 × Mem} (C : Cx p s m args meth c RX8 cX8_strike 7 (some .int) D B ca st)   : ∀ (n : Nat) {x0 : Nat} {x2 : Int32} {x3 : Int32} {M : Mem}, f_X8_strike_51  n x0 x2 x3 M = some r → ∀ {H : Heap} {locs : List Loc} {ls : Array Slot}, RH D B ca M H → va_S (AA B) s.heap H locs → lv_has ls 7 [(0, .ref (B + x0)), (2, .int x2), (3, .int x3)] → W p l e (rmD 6) s m args below meth c H locs 0 0 (MQ below (Qp D B ca st (some (.int r.1)) r.2) args s 0 0 (AA B)) (F0 m 51 ls []) := by
  have hx := C.1
  have hb := C.2.1
  intro n
  induction n with
  | zero => intro x0 x2 x3 M h; simp [f_X8_strike_51] at h
  | succ n ih =>
    intro x0 x2 x3 M h H locs ls hR hS hl
    rw [f_X8_strike_51] at h
    refine lv_iload_n hx hb dX8_strike_51 rfl (lv_at hl 2 rfl) ?_
    refine lv_aload_n hx hb dX8_strike_52 rfl (lv_at hl 0 rfl) ?_
    obtain ⟨v9, zqe10, h⟩ := ob h
    refine gf949 C hR zqe10 dX8_strike_53 ?_
    refine lv_aload_n hx hb dX8_strike_56 rfl (lv_at hl 0 rfl) ?_
    obtain ⟨v11, zqe12, h⟩ := ob h
    refine gf952 C hR zqe12 dX8_strike_57 ?_
    refine lv_imul hx hb dX8_strike_60 ?_
    refine lv_icmp_ge (tgt := 148) hx hb dX8_strike_61 (by decide) (fun c => ?_) (fun c => ?_)
    · have h := ip c h
      refine lv_iload_n hx hb dX8_strike_148 rfl (lv_at hl 1 rfl) ?_
      cases h
      exact rr_I C hR hS dX8_strike_149
    · have h := iq c h
      refine lv_iload_n hx hb dX8_strike_64 rfl (lv_at hl 2 rfl) ?_
      refine lv_aload_n hx hb dX8_strike_65 rfl (lv_at hl 0 rfl) ?_
      obtain ⟨v13, zqe14, h⟩ := ob h
      refine gf952 C hR zqe14 dX8_strike_66 ?_
      by_cases zqz29 : v13 = 0
      · exact absurd (ip zqz29 h) (fun q => by cases q)
      have h := iq zqz29 h
      refine lv_idiv hx hb dX8_strike_69 zqz29 ?_
      refine lv_istore (lv' := [(4, .int (x3 / v13)), (0, .ref (B + x0)), (2, .int x2), (3, .int x3)]) hx hb dX8_strike_70 hl (by decide) rfl (fun ls hl => ?_)
      refine lv_iload_n hx hb dX8_strike_72 rfl (lv_at hl 3 rfl) ?_
      refine lv_aload_n hx hb dX8_strike_73 rfl (lv_at hl 1 rfl) ?_
      obtain ⟨v15, zqe16, h⟩ := ob h
      refine gf952 C hR zqe16 dX8_strike_74 ?_
      by_cases zqz28 : v15 = 0
      · exact absurd (ip zqz28 h) (fun q => by cases q)
      have h := iq zqz28 h
      refine lv_irem hx hb dX8_strike_77 zqz28 ?_
      refine lv_istore (lv' := [(5, .int (x3 - x3 / v15 * v15)), (4, .int (x3 / v13)), (0, .ref (B + x0)), (2, .int x2), (3, .int x3)]) hx hb dX8_strike_78 hl (by decide) rfl (fun ls hl => ?_)
      refine lv_aload_n hx hb dX8_strike_80 rfl (lv_at hl 2 rfl) ?_
      refine lv_iconst (v := 0) hx hb dX8_strike_81 (by decide) ?_
      refine lv_iload hx hb dX8_strike_82 (lv_at hl 1 rfl) ?_
      refine lv_iload hx hb dX8_strike_84 (lv_at hl 0 rfl) ?_
      obtain ⟨v18, zqe17, h⟩ := ob h
      refine rc_V C hR hS cf_X8_can cv_X8_can lk1162 (ok_X8_can zqe17) (ck_X8_can zqe17) ⟨Nat.le_of_ble_eq_true rfl, Nat.le_of_ble_eq_true rfl⟩ ⟨Nat.zero_le _, Nat.zero_le _⟩ rfl rfl hl.1 (Nat.le_of_ble_eq_true rfl) dX8_strike_86 (rc_k1 (fun H locs hR hS => ?_))
      refine lv_if_eq (tgt := 142) hx hb dX8_strike_89 (by decide) (fun c => ?_) (fun c => ?_)
      · have h := ip c h
        refine lv_iinc (v := (x3 + 1)) (lv' := [(3, .int (x3 + 1)), (5, .int (x3 - x3 / v15 * v15)), (4, .int (x3 / v13)), (0, .ref (B + x0)), (2, .int x2)]) hx hb dX8_strike_142 hl (k := 4) rfl rfl (by decide) rfl (fun ls hl => ?_)
        refine lv_goto (tgt := 51) hx hb dX8_strike_145 (by decide) ?_
        exact ih h hR hS (lv_sub hl [3, 4, 0] rfl)
      · have h := iq c h
        refine lv_aload_n hx hb dX8_strike_92 rfl (lv_at hl 2 rfl) ?_
        refine lv_iconst (v := 0) hx hb dX8_strike_93 (by decide) ?_
        refine lv_sipush (v := 1972) hx hb dX8_strike_94 (by decide) ?_
        obtain ⟨M20, zqe19, h⟩ := ob h
        refine rc_V C hR hS cf_X8_copyPart cv_X8_copyPart lk1281 (ok_X8_copyPart zqe19) (ck_X8_copyPart zqe19) ⟨Nat.le_of_ble_eq_true rfl, Nat.le_of_ble_eq_true rfl⟩ ⟨Nat.zero_le _, Nat.zero_le _⟩ rfl rfl hl.1 (Nat.le_of_ble_eq_true rfl) dX8_strike_97 (rc_k0 (fun H locs hR hS => ?_))
        refine lv_aload_n hx hb dX8_strike_100 rfl (lv_at hl 2 rfl) ?_
        refine lv_sipush (v := 1972) hx hb dX8_strike_101 (by decide) ?_
        refine lv_iload hx hb dX8_strike_104 (lv_at hl 1 rfl) ?_
        refine lv_iload hx hb dX8_strike_106 (lv_at hl 0 rfl) ?_
        obtain ⟨M22, zqe21, h⟩ := ob h
        refine rc_V C hR hS cf_X8_sighsAt cv_X8_sighsAt lk1232 (ok_X8_sighsAt zqe21) (ck_X8_sighsAt zqe21) ⟨Nat.le_of_ble_eq_true rfl, Nat.le_of_ble_eq_true rfl⟩ ⟨Nat.zero_le _, Nat.zero_le _⟩ rfl rfl hl.1 (Nat.le_of_ble_eq_true rfl) dX8_strike_108 (rc_k0 (fun H locs hR hS => ?_))
        refine lv_aload_n hx hb dX8_strike_111 rfl (lv_at hl 2 rfl) ?_
        refine lv_iload hx hb dX8_strike_112 (lv_at hl 1 rfl) ?_
        refine lv_iload hx hb dX8_strike_114 (lv_at hl 0 rfl) ?_
        obtain ⟨v24, zqe23, h⟩ := ob h
        refine rc_V C hR hS cf_X8_brought cv_X8_brought lk1206 (ok_X8_brought zqe23) (ck_X8_brought zqe23) ⟨Nat.le_of_ble_eq_true rfl, Nat.le_of_ble_eq_true rfl⟩ ⟨Nat.zero_le _, Nat.zero_le _⟩ rfl rfl hl.1 (Nat.le_of_ble_eq_true rfl) dX8_strike_116 (rc_k1 (fun H locs hR hS => ?_))
        refine lv_aload_n hx hb dX8_strike_119 rfl (lv_at hl 2 rfl) ?_
        refine lv_sipush (v := 1972) hx hb dX8_strike_120 (by decide) ?_
        obtain ⟨qv26, zqe25, h⟩ := ob h
        refine rc_V C hR hS cf_X8_leastBehind cv_X8_leastBehind lk1390 (ok_X8_leastBehind zqe25) (ck_X8_leastBehind zqe25) ⟨Nat.le_of_ble_eq_true rfl, Nat.le_of_ble_eq_true rfl⟩ ⟨Nat.zero_le _, Nat.zero_le _⟩ rfl rfl hl.1 (Nat.le_of_ble_eq_true rfl) dX8_strike_123 (rc_k1 (fun H locs hR hS => ?_))
        refine lv_iadd hx hb dX8_strike_126 ?_
        refine lv_istore (lv' := [(6, .int (v24 + qv26.1)), (5, .int (x3 - x3 / v15 * v15)), (4, .int (x3 / v13)), (0, .ref (B + x0)), (2, .int x2), (3, .int x3)]) hx hb dX8_strike_127 hl (by decide) rfl (fun ls hl => ?_)
        refine lv_iload hx hb dX8_strike_129 (lv_at hl 0 rfl) ?_
        refine lv_iload_n hx hb dX8_strike_131 rfl (lv_at hl 4 rfl) ?_
        refine lv_icmp_le (tgt := 140) hx hb dX8_strike_132 (by decide) (fun c => ?_) (fun c => ?_)
        · have h := ip c h
          refine lv_iload_n hx hb dX8_strike_140 rfl (lv_at hl 4 rfl) ?_
          refine lv_istore_n (lv' := [(2, .int x2), (6, .int (v24 + qv26.1)), (5, .int (x3 - x3 / v15 * v15)), (4, .int (x3 / v13)), (0, .ref (B + x0)), (3, .int x3)]) hx hb dX8_strike_141 rfl hl (by decide) rfl (fun ls hl => ?_)
          refine lv_iinc (v := (x3 + 1)) (lv' := [(3, .int (x3 + 1)), (2, .int x2), (6, .int (v24 + qv26.1)), (5, .int (x3 - x3 / v15 * v15)), (4, .int (x3 / v13)), (0, .ref (B + x0))]) hx hb dX8_strike_142 hl (k := 5) rfl rfl (by decide) rfl (fun ls hl => ?_)
          refine lv_goto (tgt := 51) hx hb dX8_strike_145 (by decide) ?_
          exact ih h hR hS (lv_sub hl [5, 1, 0] rfl)
        · have h := iq c h
          refine lv_iload hx hb dX8_strike_135 (lv_at hl 0 rfl) ?_
          refine lv_goto (tgt := 141) hx hb dX8_strike_137 (by decide) ?_
          refine lv_istore_n (lv' := [(2, .int (v24 + qv26.1)), (6, .int (v24 + qv26.1)), (5, .int (x3 - x3 / v15 * v15)), (4, .int (x3 / v13)), (0, .ref (B + x0)), (3, .int x3)]) hx hb dX8_strike_141 rfl hl (by decide) rfl (fun ls hl => ?_)
          refine lv_iinc (v := (x3 + 1)) (lv' := [(3, .int (x3 + 1)), (2, .int (v24 + qv26.1)), (6, .int (v24 + qv26.1)), (5, .int (x3 - x3 / v15 * v15)), (4, .int (x3 / v13)), (0, .ref (B + x0))]) hx hb dX8_strike_142 hl (k := 5) rfl rfl (by decide) rfl (fun ls hl => ?_)
          refine lv_goto (tgt := 51) hx hb dX8_strike_145 (by decide) ?_
          exact ih h hR hS (lv_sub hl [5, 1, 0] rfl)
theorem ck_X8_strike  {x0 : Nat} {x1 : Int32} {M : Mem} {r : Int32 × Mem} (h : f_X8_strike  x0 x1 M = some r) : kd M x0 = 18 := by
  unfold f_X8_strike at h
  exact ck h
set_option maxHeartbeats 4000000 in
set_option maxRecDepth 100000 in
theorem ok_X8_strike  {x0 : Nat} {x1 : Int32}  {M : Mem} {r : Int32 × Mem}  (h : f_X8_strike  x0 x1 M = some r) : Ok l yX8_strike cX8_strike 7 (some .int) 6 [.ref (B + x0), .int x1] D B ca st M (some (.int r.1)) r.2 := by
  have hk0 := ck_X8_strike h
  unfold f_X8_strike at h
  have h := ip hk0 h
  refine ok_of rfl rfl (Nat.le_of_ble_eq_true rfl) ?_
  intro p e s m args below meth c ls C hl hR hS
  have hl : lv_has ls 7 [(0, .ref (B + x0)), (1, .int x1)] := hl
  have hx := C.1
  have hb := C.2.1
  refine lv_iload_n hx hb dX8_strike_0 rfl (lv_at hl 1 rfl) ?_
  refine lv_i2l (v := (Int32.toInt64 x1)) hx hb dX8_strike_1 rfl ?_
  refine lv_lconst (v := 0) hx hb dX8_strike_2 (by decide) ?_
  refine lv_ldc2 hx hb C.2.2.2.1 (C.2.2.2.2.1 _ lk1252) dX8_strike_3 ?_
  refine rc_S C hR hS cf_X8_in cs_X8_in lk1059 (ok_X8_in (Int32.toInt64 x1) 0 2) ⟨Nat.le_of_ble_eq_true rfl, Nat.le_of_ble_eq_true rfl⟩ ⟨Nat.zero_le _, Nat.zero_le _⟩ rfl rfl hl.1 (Nat.le_of_ble_eq_true rfl) dX8_strike_6 (rc_k1 (fun H locs hR hS => ?_))
  refine lv_if_ne (tgt := 14) hx hb dX8_strike_9 (by decide) (fun c => ?_) (fun c => ?_)
  · have h := iq c h
    refine lv_aload_n hx hb dX8_strike_14 rfl (lv_at hl 0 rfl) ?_
    obtain ⟨v2, zqe3, h⟩ := ob h
    refine gf949 C hR zqe3 dX8_strike_15 ?_
    refine lv_if_ne (tgt := 24) hx hb dX8_strike_18 (by decide) (fun c => ?_) (fun c => ?_)
    · have h := iq c h
      refine lv_iload_n hx hb dX8_strike_24 rfl (lv_at hl 1 rfl) ?_
      refine lv_iconst (v := 2) hx hb dX8_strike_25 (by decide) ?_
      refine lv_icmp_ge (tgt := 43) hx hb dX8_strike_26 (by decide) (fun c => ?_) (fun c => ?_)
      · have h := ip c h
        refine lv_aload_n hx hb dX8_strike_43 rfl (lv_at hl 0 rfl) ?_
        refine lv_iconst (v := 0) hx hb dX8_strike_44 (by decide) ?_
        obtain ⟨qv5, zqe4, h⟩ := ob h
        refine rc_V C hR hS cf_X8_leastBehind cv_X8_leastBehind lk1390 (ok_X8_leastBehind zqe4) (ck_X8_leastBehind zqe4) ⟨Nat.le_of_ble_eq_true rfl, Nat.le_of_ble_eq_true rfl⟩ ⟨Nat.zero_le _, Nat.zero_le _⟩ rfl rfl hl.1 (Nat.le_of_ble_eq_true rfl) dX8_strike_45 (rc_k1 (fun H locs hR hS => ?_))
        refine lv_istore_n (lv' := [(2, .int qv5.1), (0, .ref (B + x0)), (1, .int x1)]) hx hb dX8_strike_48 rfl hl (by decide) rfl (fun ls hl => ?_)
        refine lv_iconst (v := 0) hx hb dX8_strike_49 (by decide) ?_
        refine lv_istore_n (lv' := [(3, .int 0), (2, .int qv5.1), (0, .ref (B + x0)), (1, .int x1)]) hx hb dX8_strike_50 rfl hl (by decide) rfl (fun ls hl => ?_)
        exact w_X8_strike_51 C  FU h hR hS (lv_sub hl [2, 1, 0] rfl)
      · have h := iq c h
        refine lv_iload_n hx hb dX8_strike_29 rfl (lv_at hl 1 rfl) ?_
        refine lv_if_ne (tgt := 37) hx hb dX8_strike_30 (by decide) (fun c => ?_) (fun c => ?_)
        · have h := iq c h
          refine lv_aload_n hx hb dX8_strike_37 rfl (lv_at hl 0 rfl) ?_
          refine lv_iconst (v := 0) hx hb dX8_strike_38 (by decide) ?_
          obtain ⟨v8, zqe7, h⟩ := ob h
          refine rc_V C hR hS cf_X8_mostNow cv_X8_mostNow lk1386 (ok_X8_mostNow zqe7) (ck_X8_mostNow zqe7) ⟨Nat.le_of_ble_eq_true rfl, Nat.le_of_ble_eq_true rfl⟩ ⟨Nat.zero_le _, Nat.zero_le _⟩ rfl rfl hl.1 (Nat.le_of_ble_eq_true rfl) dX8_strike_39 (rc_k1 (fun H locs hR hS => ?_))
          cases h
          exact rr_I C hR hS dX8_strike_42
        · have h := ip c h
          refine lv_iconst (v := 0) hx hb dX8_strike_33 (by decide) ?_
          refine lv_goto (tgt := 42) hx hb dX8_strike_34 (by decide) ?_
          cases h
          exact rr_I C hR hS dX8_strike_42
    · have h := ip c h
      refine lv_bipush (v := (-4)) hx hb dX8_strike_21 (by decide) ?_
      cases h
      exact rr_I C hR hS dX8_strike_23
  · have h := ip c h
    refine lv_iconst (v := (-1)) hx hb dX8_strike_12 (by decide) ?_
    cases h
    exact rr_I C hR hS dX8_strike_13
theorem ck_X8_takes  {x0 : Nat} {x1 : Int32} {x2 : Int32} {M : Mem} {r : Int32} (h : f_X8_takes  x0 x1 x2 M = some r) : kd M x0 = 18 := by
  unfold f_X8_takes at h
  exact ck h
set_option maxHeartbeats 4000000 in
set_option maxRecDepth 100000 in
theorem ok_X8_takes  {x0 : Nat} {x1 : Int32} {x2 : Int32}  {M : Mem} {r : Int32}  (h : f_X8_takes  x0 x1 x2 M = some r) : Ok l yX8_takes cX8_takes 3 (some .int) 3 [.ref (B + x0), .int x1, .int x2] D B ca st M (some (.int r)) M := by
  have hk0 := ck_X8_takes h
  unfold f_X8_takes at h
  have h := ip hk0 h
  refine ok_of rfl rfl (Nat.le_of_ble_eq_true rfl) ?_
  intro p e s m args below meth c ls C hl hR hS
  have hl : lv_has ls 3 [(0, .ref (B + x0)), (1, .int x1), (2, .int x2)] := hl
  have hx := C.1
  have hb := C.2.1
  refine lv_aload_n hx hb dX8_takes_0 rfl (lv_at hl 0 rfl) ?_
  refine lv_iload_n hx hb dX8_takes_1 rfl (lv_at hl 1 rfl) ?_
  obtain ⟨v2, zqe1, h⟩ := ob h
  refine rc_V C hR hS cf_X8_isSigher cv_X8_isSigher lk1153 (ok_X8_isSigher zqe1) (ck_X8_isSigher zqe1) ⟨Nat.le_of_ble_eq_true rfl, Nat.le_of_ble_eq_true rfl⟩ ⟨Nat.zero_le _, Nat.zero_le _⟩ rfl rfl hl.1 (Nat.le_of_ble_eq_true rfl) dX8_takes_2 (rc_k1 (fun H locs hR hS => ?_))
  refine lv_if_eq (tgt := 16) hx hb dX8_takes_5 (by decide) (fun c => ?_) (fun c => ?_)
  · have h := ip c h
    refine lv_iconst (v := (-1)) hx hb dX8_takes_16 (by decide) ?_
    cases h
    exact rr_I C hR hS dX8_takes_17
  · have h := iq c h
    refine lv_aload_n hx hb dX8_takes_8 rfl (lv_at hl 0 rfl) ?_
    refine lv_iload_n hx hb dX8_takes_9 rfl (lv_at hl 2 rfl) ?_
    obtain ⟨v4, zqe3, h⟩ := ob h
    refine rc_V C hR hS cf_X8_isOrder cv_X8_isOrder lk1186 (ok_X8_isOrder zqe3) (ck_X8_isOrder zqe3) ⟨Nat.le_of_ble_eq_true rfl, Nat.le_of_ble_eq_true rfl⟩ ⟨Nat.zero_le _, Nat.zero_le _⟩ rfl rfl hl.1 (Nat.le_of_ble_eq_true rfl) dX8_takes_10 (rc_k1 (fun H locs hR hS => ?_))
    refine lv_if_ne (tgt := 18) hx hb dX8_takes_13 (by decide) (fun c => ?_) (fun c => ?_)
    · have h := iq c h
      refine lv_aload_n hx hb dX8_takes_18 rfl (lv_at hl 0 rfl) ?_
      obtain ⟨v5, zqe6, h⟩ := ob h
      refine gf950 C hR zqe6 dX8_takes_19 ?_
      refine lv_iload_n hx hb dX8_takes_22 rfl (lv_at hl 1 rfl) ?_
      obtain ⟨v7, zqe8, h⟩ := ob h
      refine ra_I C hR zqe8 dX8_takes_23 ?_
      refine lv_aload_n hx hb dX8_takes_24 rfl (lv_at hl 0 rfl) ?_
      obtain ⟨v9, zqe10, h⟩ := ob h
      refine gf954 C hR zqe10 dX8_takes_25 ?_
      refine lv_iload_n hx hb dX8_takes_28 rfl (lv_at hl 2 rfl) ?_
      obtain ⟨v11, zqe12, h⟩ := ob h
      refine ra_I C hR zqe12 dX8_takes_29 ?_
      refine rc_S C hR hS cf_X8_isTooDeep cs_X8_isTooDeep lk1169 (ok_X8_isTooDeep v7 v11) ⟨Nat.le_of_ble_eq_true rfl, Nat.le_of_ble_eq_true rfl⟩ ⟨Nat.zero_le _, Nat.zero_le _⟩ rfl rfl hl.1 (Nat.le_of_ble_eq_true rfl) dX8_takes_30 (rc_k1 (fun H locs hR hS => ?_))
      refine lv_if_eq (tgt := 41) hx hb dX8_takes_33 (by decide) (fun c => ?_) (fun c => ?_)
      · have h := ip c h
        refine lv_aload_n hx hb dX8_takes_41 rfl (lv_at hl 0 rfl) ?_
        refine lv_iload_n hx hb dX8_takes_42 rfl (lv_at hl 1 rfl) ?_
        refine lv_iload_n hx hb dX8_takes_43 rfl (lv_at hl 2 rfl) ?_
        obtain ⟨v15, zqe14, h⟩ := ob h
        refine rc_V C hR hS cf_X8_taken cv_X8_taken lk1172 (ok_X8_taken zqe14) (ck_X8_taken zqe14) ⟨Nat.le_of_ble_eq_true rfl, Nat.le_of_ble_eq_true rfl⟩ ⟨Nat.zero_le _, Nat.zero_le _⟩ rfl rfl hl.1 (Nat.le_of_ble_eq_true rfl) dX8_takes_44 (rc_k1 (fun H locs hR hS => ?_))
        cases h
        exact rr_I C hR hS dX8_takes_47
      · have h := iq c h
        refine lv_bipush (v := (-9)) hx hb dX8_takes_36 (by decide) ?_
        refine lv_goto (tgt := 47) hx hb dX8_takes_38 (by decide) ?_
        cases h
        exact rr_I C hR hS dX8_takes_47
    · have h := ip c h
      refine lv_iconst (v := (-1)) hx hb dX8_takes_16 (by decide) ?_
      cases h
      exact rr_I C hR hS dX8_takes_17
theorem ck_X8_tear  {x0 : Nat} {x1 : Int32} {M : Mem} {r : Int32 × Mem} (h : f_X8_tear  x0 x1 M = some r) : kd M x0 = 18 := by
  unfold f_X8_tear at h
  exact ck h
set_option maxHeartbeats 4000000 in
set_option maxRecDepth 100000 in
theorem ok_X8_tear  {x0 : Nat} {x1 : Int32}  {M : Mem} {r : Int32 × Mem}  (h : f_X8_tear  x0 x1 M = some r) : Ok l yX8_tear cX8_tear 2 (some .int) 2 [.ref (B + x0), .int x1] D B ca st M (some (.int r.1)) r.2 := by
  have hk0 := ck_X8_tear h
  unfold f_X8_tear at h
  have h := ip hk0 h
  refine ok_of rfl rfl (Nat.le_of_ble_eq_true rfl) ?_
  intro p e s m args below meth c ls C hl hR hS
  have hl : lv_has ls 2 [(0, .ref (B + x0)), (1, .int x1)] := hl
  have hx := C.1
  have hb := C.2.1
  refine lv_iload_n hx hb dX8_tear_0 rfl (lv_at hl 1 rfl) ?_
  obtain ⟨v2, zqe1, h⟩ := ob h
  refine rc_S C hR hS cf_X8_isRow cs_X8_isRow lk1055 (ok_X8_isRow zqe1) ⟨Nat.le_of_ble_eq_true rfl, Nat.le_of_ble_eq_true rfl⟩ ⟨Nat.zero_le _, Nat.zero_le _⟩ rfl rfl hl.1 (Nat.le_of_ble_eq_true rfl) dX8_tear_1 (rc_k1 (fun H locs hR hS => ?_))
  refine lv_if_ne (tgt := 9) hx hb dX8_tear_4 (by decide) (fun c => ?_) (fun c => ?_)
  · have h := iq c h
    refine lv_aload_n hx hb dX8_tear_9 rfl (lv_at hl 0 rfl) ?_
    obtain ⟨v3, zqe4, h⟩ := ob h
    refine gf956 C hR zqe4 dX8_tear_10 ?_
    refine lv_iload_n hx hb dX8_tear_13 rfl (lv_at hl 1 rfl) ?_
    obtain ⟨v5, zqe6, h⟩ := ob h
    refine ra_I C hR zqe6 dX8_tear_14 ?_
    refine lv_if_ge (tgt := 24) hx hb dX8_tear_15 (by decide) (fun c => ?_) (fun c => ?_)
    · have h := ip c h
      refine lv_aload_n hx hb dX8_tear_24 rfl (lv_at hl 0 rfl) ?_
      obtain ⟨v7, zqe8, h⟩ := ob h
      refine gf956 C hR zqe8 dX8_tear_25 ?_
      refine lv_iload_n hx hb dX8_tear_28 rfl (lv_at hl 1 rfl) ?_
      refine lv_iconst (v := (-1)) hx hb dX8_tear_29 (by decide) ?_
      obtain ⟨M9, zqe10, h⟩ := ob h
      refine re_I C hR hS zqe10 dX8_tear_30 (fun H locs hR hS => ?_)
      refine lv_iconst (v := 1) hx hb dX8_tear_31 (by decide) ?_
      cases h
      exact rr_I C hR hS dX8_tear_32
    · have h := iq c h
      refine lv_aload_n hx hb dX8_tear_18 rfl (lv_at hl 0 rfl) ?_
      refine lv_iconst (v := 1) hx hb dX8_tear_19 (by decide) ?_
      obtain ⟨qv12, zqe11, h⟩ := ob h
      refine rc_V C hR hS cf_X8_find cv_X8_find lk1062 (ok_X8_find zqe11) (ck_X8_find zqe11) ⟨Nat.le_of_ble_eq_true rfl, Nat.le_of_ble_eq_true rfl⟩ ⟨Nat.zero_le _, Nat.zero_le _⟩ rfl rfl hl.1 (Nat.le_of_ble_eq_true rfl) dX8_tear_20 (rc_k1 (fun H locs hR hS => ?_))
      cases h
      exact rr_I C hR hS dX8_tear_23
  · have h := ip c h
    refine lv_iconst (v := (-1)) hx hb dX8_tear_7 (by decide) ?_
    cases h
    exact rr_I C hR hS dX8_tear_8
set_option maxHeartbeats 4000000 in
set_option maxRecDepth 100000 in
theorem w_X8_text_34    {r : Int32 × Mem} (C : Cx p s m args meth c RX8 cX8_text 4 (some .int) D B ca st)   : ∀ (n : Nat) {x0 : Nat} {x1 : Int32} {x2 : Int32} {x3 : Int32} {M : Mem}, f_X8_text_34  n x0 x1 x2 x3 M = some r → ∀ {H : Heap} {locs : List Loc} {ls : Array Slot}, RH D B ca M H → va_S (AA B) s.heap H locs → lv_has ls 4 [(0, .ref (B + x0)), (1, .int x1), (2, .int x2), (3, .int x3)] → W p l e (rmD 2) s m args below meth c H locs 0 0 (MQ below (Qp D B ca st (some (.int r.1)) r.2) args s 0 0 (AA B)) (F0 m 34 ls []) := by
  have hx := C.1
  have hb := C.2.1
  intro n
  induction n with
  | zero => intro x0 x1 x2 x3 M h; simp [f_X8_text_34] at h
  | succ n ih =>
    intro x0 x1 x2 x3 M h H locs ls hR hS hl
    rw [f_X8_text_34] at h
    refine lv_iload_n hx hb dX8_text_34 rfl (lv_at hl 3 rfl) ?_
    refine lv_bipush (v := 60) hx hb dX8_text_35 (by decide) ?_
    refine lv_icmp_ge (tgt := 59) hx hb dX8_text_37 (by decide) (fun c => ?_) (fun c => ?_)
    · have h := ip c h
      refine lv_iload_n hx hb dX8_text_59 rfl (lv_at hl 2 rfl) ?_
      cases h
      exact rr_I C hR hS dX8_text_60
    · have h := iq c h
      refine lv_aload_n hx hb dX8_text_40 rfl (lv_at hl 0 rfl) ?_
      obtain ⟨v10, zqe11, h⟩ := ob h
      refine gf959 C hR zqe11 dX8_text_41 ?_
      refine lv_bipush (v := 60) hx hb dX8_text_44 (by decide) ?_
      refine lv_iload_n hx hb dX8_text_46 rfl (lv_at hl 1 rfl) ?_
      refine lv_imul hx hb dX8_text_47 ?_
      refine lv_iload_n hx hb dX8_text_48 rfl (lv_at hl 3 rfl) ?_
      refine lv_iadd hx hb dX8_text_49 ?_
      refine lv_bipush (v := 32) hx hb dX8_text_50 (by decide) ?_
      obtain ⟨M12, zqe13, h⟩ := ob h
      refine re_I C hR hS zqe13 dX8_text_52 (fun H locs hR hS => ?_)
      refine lv_iinc (v := (x3 + 1)) (lv' := [(3, .int (x3 + 1)), (0, .ref (B + x0)), (1, .int x1), (2, .int x2)]) hx hb dX8_text_53 hl (k := 3) rfl rfl (by decide) rfl (fun ls hl => ?_)
      refine lv_goto (tgt := 34) hx hb dX8_text_56 (by decide) ?_
      exact ih h hR hS (lv_sub hl [1, 2, 3, 0] rfl)
theorem ck_X8_text  {x0 : Nat} {x1 : Int32} {x2 : Int32} {M : Mem} {r : Int32 × Mem} (h : f_X8_text  x0 x1 x2 M = some r) : kd M x0 = 18 := by
  unfold f_X8_text at h
  exact ck h
set_option maxHeartbeats 4000000 in
set_option maxRecDepth 100000 in
theorem ok_X8_text  {x0 : Nat} {x1 : Int32} {x2 : Int32}  {M : Mem} {r : Int32 × Mem}  (h : f_X8_text  x0 x1 x2 M = some r) : Ok l yX8_text cX8_text 4 (some .int) 2 [.ref (B + x0), .int x1, .int x2] D B ca st M (some (.int r.1)) r.2 := by
  have hk0 := ck_X8_text h
  unfold f_X8_text at h
  have h := ip hk0 h
  refine ok_of rfl rfl (Nat.le_of_ble_eq_true rfl) ?_
  intro p e s m args below meth c ls C hl hR hS
  have hl : lv_has ls 4 [(0, .ref (B + x0)), (1, .int x1), (2, .int x2)] := hl
  have hx := C.1
  have hb := C.2.1
  refine lv_iload_n hx hb dX8_text_0 rfl (lv_at hl 1 rfl) ?_
  obtain ⟨v2, zqe1, h⟩ := ob h
  refine rc_S C hR hS cf_X8_isText cs_X8_isText lk1106 (ok_X8_isText zqe1) ⟨Nat.le_of_ble_eq_true rfl, Nat.le_of_ble_eq_true rfl⟩ ⟨Nat.zero_le _, Nat.zero_le _⟩ rfl rfl hl.1 (Nat.le_of_ble_eq_true rfl) dX8_text_1 (rc_k1 (fun H locs hR hS => ?_))
  refine lv_if_eq (tgt := 13) hx hb dX8_text_4 (by decide) (fun c => ?_) (fun c => ?_)
  · have h := ip c h
    refine lv_iconst (v := (-1)) hx hb dX8_text_13 (by decide) ?_
    cases h
    exact rr_I C hR hS dX8_text_14
  · have h := iq c h
    refine lv_iload_n hx hb dX8_text_7 rfl (lv_at hl 2 rfl) ?_
    refine lv_bipush (v := 60) hx hb dX8_text_8 (by decide) ?_
    refine lv_icmp_le (tgt := 15) hx hb dX8_text_10 (by decide) (fun c => ?_) (fun c => ?_)
    · have h := ip c h
      refine lv_iload_n hx hb dX8_text_15 rfl (lv_at hl 2 rfl) ?_
      refine lv_if_ge (tgt := 25) hx hb dX8_text_16 (by decide) (fun c => ?_) (fun c => ?_)
      · have h := ip c h
        refine lv_aload_n hx hb dX8_text_25 rfl (lv_at hl 0 rfl) ?_
        obtain ⟨v3, zqe4, h⟩ := ob h
        refine gf958 C hR zqe4 dX8_text_26 ?_
        refine lv_iload_n hx hb dX8_text_29 rfl (lv_at hl 1 rfl) ?_
        refine lv_iload_n hx hb dX8_text_30 rfl (lv_at hl 2 rfl) ?_
        obtain ⟨M5, zqe6, h⟩ := ob h
        refine re_I C hR hS zqe6 dX8_text_31 (fun H locs hR hS => ?_)
        refine lv_iconst (v := 0) hx hb dX8_text_32 (by decide) ?_
        refine lv_istore_n (lv' := [(3, .int 0), (0, .ref (B + x0)), (1, .int x1), (2, .int x2)]) hx hb dX8_text_33 rfl hl (by decide) rfl (fun ls hl => ?_)
        exact w_X8_text_34 C  FU h hR hS (lv_sub hl [1, 2, 3, 0] rfl)
      · have h := iq c h
        refine lv_aload_n hx hb dX8_text_19 rfl (lv_at hl 0 rfl) ?_
        refine lv_iconst (v := 5) hx hb dX8_text_20 (by decide) ?_
        obtain ⟨qv8, zqe7, h⟩ := ob h
        refine rc_V C hR hS cf_X8_find cv_X8_find lk1062 (ok_X8_find zqe7) (ck_X8_find zqe7) ⟨Nat.le_of_ble_eq_true rfl, Nat.le_of_ble_eq_true rfl⟩ ⟨Nat.zero_le _, Nat.zero_le _⟩ rfl rfl hl.1 (Nat.le_of_ble_eq_true rfl) dX8_text_21 (rc_k1 (fun H locs hR hS => ?_))
        cases h
        exact rr_I C hR hS dX8_text_24
    · have h := iq c h
      refine lv_iconst (v := (-1)) hx hb dX8_text_13 (by decide) ?_
      cases h
      exact rr_I C hR hS dX8_text_14
set_option maxHeartbeats 4000000 in
set_option maxRecDepth 100000 in
theorem w_X8_undo_29    {r : Int32 × Mem} (C : Cx p s m args meth c RX8 cX8_undo 4 (some .int) D B ca st)   : ∀ (n : Nat) {x0 : Nat} {x1 : Int32} {x2 : Int32} {x3 : Int32} {M : Mem}, f_X8_undo_29  n x0 x1 x2 x3 M = some r → ∀ {H : Heap} {locs : List Loc} {ls : Array Slot}, RH D B ca M H → va_S (AA B) s.heap H locs → lv_has ls 4 [(0, .ref (B + x0)), (1, .int x1), (2, .int x2), (3, .int x3)] → W p l e (rmD 1) s m args below meth c H locs 0 0 (MQ below (Qp D B ca st (some (.int r.1)) r.2) args s 0 0 (AA B)) (F0 m 29 ls []) := by
  have hx := C.1
  have hb := C.2.1
  intro n
  induction n with
  | zero => intro x0 x1 x2 x3 M h; simp [f_X8_undo_29] at h
  | succ n ih =>
    intro x0 x1 x2 x3 M h H locs ls hR hS hl
    rw [f_X8_undo_29] at h
    refine lv_iload_n hx hb dX8_undo_29 rfl (lv_at hl 3 rfl) ?_
    refine lv_bipush (v := 12) hx hb dX8_undo_30 (by decide) ?_
    refine lv_icmp_ge (tgt := 67) hx hb dX8_undo_32 (by decide) (fun c => ?_) (fun c => ?_)
    · have h := ip c h
      refine lv_aload_n hx hb dX8_undo_67 rfl (lv_at hl 0 rfl) ?_
      obtain ⟨v10, zqe11, h⟩ := ob h
      refine gf948 C hR zqe11 dX8_undo_68 ?_
      refine lv_iconst (v := 0) hx hb dX8_undo_71 (by decide) ?_
      refine lv_iload_n hx hb dX8_undo_72 rfl (lv_at hl 1 rfl) ?_
      obtain ⟨M12, zqe13, h⟩ := ob h
      refine re_I C hR hS zqe13 dX8_undo_73 (fun H locs hR hS => ?_)
      refine lv_iload_n hx hb dX8_undo_74 rfl (lv_at hl 2 rfl) ?_
      cases h
      exact rr_I C hR hS dX8_undo_75
    · have h := iq c h
      refine lv_iload_n hx hb dX8_undo_35 rfl (lv_at hl 2 rfl) ?_
      refine lv_if_le (tgt := 67) hx hb dX8_undo_36 (by decide) (fun c => ?_) (fun c => ?_)
      · have h := ip c h
        refine lv_aload_n hx hb dX8_undo_67 rfl (lv_at hl 0 rfl) ?_
        obtain ⟨v14, zqe15, h⟩ := ob h
        refine gf948 C hR zqe15 dX8_undo_68 ?_
        refine lv_iconst (v := 0) hx hb dX8_undo_71 (by decide) ?_
        refine lv_iload_n hx hb dX8_undo_72 rfl (lv_at hl 1 rfl) ?_
        obtain ⟨M16, zqe17, h⟩ := ob h
        refine re_I C hR hS zqe17 dX8_undo_73 (fun H locs hR hS => ?_)
        refine lv_iload_n hx hb dX8_undo_74 rfl (lv_at hl 2 rfl) ?_
        cases h
        exact rr_I C hR hS dX8_undo_75
      · have h := iq c h
        refine lv_aload_n hx hb dX8_undo_39 rfl (lv_at hl 0 rfl) ?_
        obtain ⟨v18, zqe19, h⟩ := ob h
        refine gf948 C hR zqe19 dX8_undo_40 ?_
        refine lv_iconst (v := 1) hx hb dX8_undo_43 (by decide) ?_
        refine lv_iload_n hx hb dX8_undo_44 rfl (lv_at hl 3 rfl) ?_
        refine lv_iadd hx hb dX8_undo_45 ?_
        refine lv_aload_n hx hb dX8_undo_46 rfl (lv_at hl 0 rfl) ?_
        obtain ⟨v20, zqe21, h⟩ := ob h
        refine gf948 C hR zqe21 dX8_undo_47 ?_
        refine lv_bipush (v := 13) hx hb dX8_undo_50 (by decide) ?_
        refine lv_bipush (v := 12) hx hb dX8_undo_52 (by decide) ?_
        refine lv_iload_n hx hb dX8_undo_54 rfl (lv_at hl 1 rfl) ?_
        refine lv_imul hx hb dX8_undo_55 ?_
        refine lv_iadd hx hb dX8_undo_56 ?_
        refine lv_iload_n hx hb dX8_undo_57 rfl (lv_at hl 3 rfl) ?_
        refine lv_iadd hx hb dX8_undo_58 ?_
        obtain ⟨v22, zqe23, h⟩ := ob h
        refine ra_I C hR zqe23 dX8_undo_59 ?_
        obtain ⟨M24, zqe25, h⟩ := ob h
        refine re_I C hR hS zqe25 dX8_undo_60 (fun H locs hR hS => ?_)
        refine lv_iinc (v := (x3 + 1)) (lv' := [(3, .int (x3 + 1)), (0, .ref (B + x0)), (1, .int x1), (2, .int x2)]) hx hb dX8_undo_61 hl (k := 3) rfl rfl (by decide) rfl (fun ls hl => ?_)
        refine lv_goto (tgt := 29) hx hb dX8_undo_64 (by decide) ?_
        exact ih h hR hS (lv_sub hl [1, 2, 3, 0] rfl)
theorem ck_X8_undo  {x0 : Nat} {x1 : Int32} {M : Mem} {r : Int32 × Mem} (h : f_X8_undo  x0 x1 M = some r) : kd M x0 = 18 := by
  unfold f_X8_undo at h
  exact ck h
set_option maxHeartbeats 4000000 in
set_option maxRecDepth 100000 in
theorem ok_X8_undo  {x0 : Nat} {x1 : Int32}  {M : Mem} {r : Int32 × Mem}  (h : f_X8_undo  x0 x1 M = some r) : Ok l yX8_undo cX8_undo 4 (some .int) 1 [.ref (B + x0), .int x1] D B ca st M (some (.int r.1)) r.2 := by
  have hk0 := ck_X8_undo h
  unfold f_X8_undo at h
  have h := ip hk0 h
  refine ok_of rfl rfl (Nat.le_of_ble_eq_true rfl) ?_
  intro p e s m args below meth c ls C hl hR hS
  have hl : lv_has ls 4 [(0, .ref (B + x0)), (1, .int x1)] := hl
  have hx := C.1
  have hb := C.2.1
  refine lv_iload_n hx hb dX8_undo_0 rfl (lv_at hl 1 rfl) ?_
  refine lv_i2l (v := (Int32.toInt64 x1)) hx hb dX8_undo_1 rfl ?_
  refine lv_lconst (v := 0) hx hb dX8_undo_2 (by decide) ?_
  refine lv_aload_n hx hb dX8_undo_3 rfl (lv_at hl 0 rfl) ?_
  obtain ⟨v1, zqe2, h⟩ := ob h
  refine gf948 C hR zqe2 dX8_undo_4 ?_
  refine lv_iconst (v := 0) hx hb dX8_undo_7 (by decide) ?_
  obtain ⟨v3, zqe4, h⟩ := ob h
  refine ra_I C hR zqe4 dX8_undo_8 ?_
  refine lv_i2l (v := (Int32.toInt64 v3)) hx hb dX8_undo_9 rfl ?_
  refine rc_S C hR hS cf_X8_in cs_X8_in lk1059 (ok_X8_in (Int32.toInt64 x1) 0 (Int32.toInt64 v3)) ⟨Nat.le_of_ble_eq_true rfl, Nat.le_of_ble_eq_true rfl⟩ ⟨Nat.zero_le _, Nat.zero_le _⟩ rfl rfl hl.1 (Nat.le_of_ble_eq_true rfl) dX8_undo_10 (rc_k1 (fun H locs hR hS => ?_))
  refine lv_if_ne (tgt := 18) hx hb dX8_undo_13 (by decide) (fun c => ?_) (fun c => ?_)
  · have h := iq c h
    refine lv_aload_n hx hb dX8_undo_18 rfl (lv_at hl 0 rfl) ?_
    obtain ⟨v6, zqe7, h⟩ := ob h
    refine gf948 C hR zqe7 dX8_undo_19 ?_
    refine lv_iconst (v := 0) hx hb dX8_undo_22 (by decide) ?_
    obtain ⟨v8, zqe9, h⟩ := ob h
    refine ra_I C hR zqe9 dX8_undo_23 ?_
    refine lv_iload_n hx hb dX8_undo_24 rfl (lv_at hl 1 rfl) ?_
    refine lv_isub hx hb dX8_undo_25 ?_
    refine lv_istore_n (lv' := [(2, .int (v8 - x1)), (0, .ref (B + x0)), (1, .int x1)]) hx hb dX8_undo_26 rfl hl (by decide) rfl (fun ls hl => ?_)
    refine lv_iconst (v := 0) hx hb dX8_undo_27 (by decide) ?_
    refine lv_istore_n (lv' := [(3, .int 0), (2, .int (v8 - x1)), (0, .ref (B + x0)), (1, .int x1)]) hx hb dX8_undo_28 rfl hl (by decide) rfl (fun ls hl => ?_)
    exact w_X8_undo_29 C  FU h hR hS (lv_sub hl [2, 3, 1, 0] rfl)
  · have h := ip c h
    refine lv_iconst (v := (-1)) hx hb dX8_undo_16 (by decide) ?_
    cases h
    exact rr_I C hR hS dX8_undo_17
theorem ck_X8_upper  {x0 : Nat} {M : Mem} {r : Int64} (h : f_X8_upper  x0 M = some r) : kd M x0 = 18 := by
  unfold f_X8_upper at h
  exact ck h
set_option maxHeartbeats 4000000 in
set_option maxRecDepth 100000 in
theorem ok_X8_upper  {x0 : Nat}  {M : Mem} {r : Int64}  (h : f_X8_upper  x0 M = some r) : Ok l yX8_upper cX8_upper 1 (some .long) 0 [.ref (B + x0)] D B ca st M (some (.long r)) M := by
  have hk0 := ck_X8_upper h
  unfold f_X8_upper at h
  have h := ip hk0 h
  refine ok_of rfl rfl (Nat.le_of_ble_eq_true rfl) ?_
  intro p e s m args below meth c ls C hl hR hS
  have hl : lv_has ls 1 [(0, .ref (B + x0))] := hl
  have hx := C.1
  have hb := C.2.1
  refine lv_aload_n hx hb dX8_upper_0 rfl (lv_at hl 0 rfl) ?_
  obtain ⟨v1, zqe2, h⟩ := ob h
  refine gf961 C hR zqe2 dX8_upper_1 ?_
  cases h
  exact rr_L C hR hS dX8_upper_4
theorem ck_X8_walk  {x0 : Nat} {x1 : Int32} {x2 : Int32} {M : Mem} {r : Int32 × Mem} (h : f_X8_walk  x0 x1 x2 M = some r) : kd M x0 = 18 := by
  unfold f_X8_walk at h
  exact ck h
set_option maxHeartbeats 4000000 in
set_option maxRecDepth 100000 in
theorem ok_X8_walk  {x0 : Nat} {x1 : Int32} {x2 : Int32}  {M : Mem} {r : Int32 × Mem}  (h : f_X8_walk  x0 x1 x2 M = some r) : Ok l yX8_walk cX8_walk 4 (some .int) 2 [.ref (B + x0), .int x1, .int x2] D B ca st M (some (.int r.1)) r.2 := by
  have hk0 := ck_X8_walk h
  unfold f_X8_walk at h
  have h := ip hk0 h
  refine ok_of rfl rfl (Nat.le_of_ble_eq_true rfl) ?_
  intro p e s m args below meth c ls C hl hR hS
  have hl : lv_has ls 4 [(0, .ref (B + x0)), (1, .int x1), (2, .int x2)] := hl
  have hx := C.1
  have hb := C.2.1
  refine lv_aload_n hx hb dX8_walk_0 rfl (lv_at hl 0 rfl) ?_
  refine lv_iload_n hx hb dX8_walk_1 rfl (lv_at hl 1 rfl) ?_
  obtain ⟨v2, zqe1, h⟩ := ob h
  refine rc_V C hR hS cf_X8_isSigher cv_X8_isSigher lk1153 (ok_X8_isSigher zqe1) (ck_X8_isSigher zqe1) ⟨Nat.le_of_ble_eq_true rfl, Nat.le_of_ble_eq_true rfl⟩ ⟨Nat.zero_le _, Nat.zero_le _⟩ rfl rfl hl.1 (Nat.le_of_ble_eq_true rfl) dX8_walk_2 (rc_k1 (fun H locs hR hS => ?_))
  refine lv_if_eq (tgt := 20) hx hb dX8_walk_5 (by decide) (fun c => ?_) (fun c => ?_)
  · have h := ip c h
    refine lv_iconst (v := (-1)) hx hb dX8_walk_20 (by decide) ?_
    cases h
    exact rr_I C hR hS dX8_walk_21
  · have h := iq c h
    refine lv_iload_n hx hb dX8_walk_8 rfl (lv_at hl 2 rfl) ?_
    refine lv_i2l (v := (Int32.toInt64 x2)) hx hb dX8_walk_9 rfl ?_
    refine lv_lconst (v := 0) hx hb dX8_walk_10 (by decide) ?_
    refine lv_ldc2 hx hb C.2.2.2.1 (C.2.2.2.2.1 _ lk1220) dX8_walk_11 ?_
    refine rc_S C hR hS cf_X8_in cs_X8_in lk1059 (ok_X8_in (Int32.toInt64 x2) 0 9) ⟨Nat.le_of_ble_eq_true rfl, Nat.le_of_ble_eq_true rfl⟩ ⟨Nat.zero_le _, Nat.zero_le _⟩ rfl rfl hl.1 (Nat.le_of_ble_eq_true rfl) dX8_walk_14 (rc_k1 (fun H locs hR hS => ?_))
    refine lv_if_ne (tgt := 22) hx hb dX8_walk_17 (by decide) (fun c => ?_) (fun c => ?_)
    · have h := iq c h
      refine lv_aload_n hx hb dX8_walk_22 rfl (lv_at hl 0 rfl) ?_
      obtain ⟨v4, zqe5, h⟩ := ob h
      refine gf948 C hR zqe5 dX8_walk_23 ?_
      refine lv_bipush (v := 8) hx hb dX8_walk_26 (by decide) ?_
      refine lv_iload_n hx hb dX8_walk_28 rfl (lv_at hl 1 rfl) ?_
      refine lv_iadd hx hb dX8_walk_29 ?_
      obtain ⟨v6, zqe7, h⟩ := ob h
      refine ra_I C hR zqe7 dX8_walk_30 ?_
      refine lv_iload_n hx hb dX8_walk_31 rfl (lv_at hl 2 rfl) ?_
      refine rc_S C hR hS cf_X8_apart cs_X8_apart lk1221 (ok_X8_apart v6 x2) ⟨Nat.le_of_ble_eq_true rfl, Nat.le_of_ble_eq_true rfl⟩ ⟨Nat.zero_le _, Nat.zero_le _⟩ rfl rfl hl.1 (Nat.le_of_ble_eq_true rfl) dX8_walk_32 (rc_k1 (fun H locs hR hS => ?_))
      refine lv_istore_n (lv' := [(3, .int (f_X8_apart v6 x2)), (0, .ref (B + x0)), (1, .int x1), (2, .int x2)]) hx hb dX8_walk_35 rfl hl (by decide) rfl (fun ls hl => ?_)
      refine lv_iload_n hx hb dX8_walk_36 rfl (lv_at hl 0 rfl) ?_
      refine lv_if_ne (tgt := 43) hx hb dX8_walk_37 (by decide) (fun c => ?_) (fun c => ?_)
      · have h := iq c h
        refine lv_aload_n hx hb dX8_walk_43 rfl (lv_at hl 1 rfl) ?_
        obtain ⟨v9, zqe10, h⟩ := ob h
        refine gf948 C hR zqe10 dX8_walk_44 ?_
        refine lv_iconst (v := 0) hx hb dX8_walk_47 (by decide) ?_
        obtain ⟨v11, zqe12, h⟩ := ob h
        refine ra_I C hR zqe12 dX8_walk_48 ?_
        refine lv_bipush (v := 40) hx hb dX8_walk_49 (by decide) ?_
        refine lv_icmp_ne (tgt := 57) hx hb dX8_walk_51 (by decide) (fun c => ?_) (fun c => ?_)
        · have h := iq c h
          refine lv_aload_n hx hb dX8_walk_57 rfl (lv_at hl 1 rfl) ?_
          obtain ⟨M14, zqe13, h⟩ := ob h
          refine rc_V C hR hS cf_X8_keepPast cv_X8_keepPast lk1224 (ok_X8_keepPast zqe13) (ck_X8_keepPast zqe13) ⟨Nat.le_of_ble_eq_true rfl, Nat.le_of_ble_eq_true rfl⟩ ⟨Nat.zero_le _, Nat.zero_le _⟩ rfl rfl hl.1 (Nat.le_of_ble_eq_true rfl) dX8_walk_58 (rc_k0 (fun H locs hR hS => ?_))
          refine lv_aload_n hx hb dX8_walk_61 rfl (lv_at hl 1 rfl) ?_
          obtain ⟨v15, zqe16, h⟩ := ob h
          refine gf948 C hR zqe16 dX8_walk_62 ?_
          refine lv_bipush (v := 8) hx hb dX8_walk_65 (by decide) ?_
          refine lv_iload_n hx hb dX8_walk_67 rfl (lv_at hl 2 rfl) ?_
          refine lv_iadd hx hb dX8_walk_68 ?_
          refine lv_iload_n hx hb dX8_walk_69 rfl (lv_at hl 3 rfl) ?_
          obtain ⟨M17, zqe18, h⟩ := ob h
          refine re_I C hR hS zqe18 dX8_walk_70 (fun H locs hR hS => ?_)
          refine lv_iload_n hx hb dX8_walk_71 rfl (lv_at hl 0 rfl) ?_
          cases h
          exact rr_I C hR hS dX8_walk_72
        · have h := ip c h
          refine lv_bipush (v := (-2)) hx hb dX8_walk_54 (by decide) ?_
          cases h
          exact rr_I C hR hS dX8_walk_56
      · have h := ip c h
        refine lv_bipush (v := (-4)) hx hb dX8_walk_40 (by decide) ?_
        cases h
        exact rr_I C hR hS dX8_walk_42
    · have h := ip c h
      refine lv_iconst (v := (-1)) hx hb dX8_walk_20 (by decide) ?_
      cases h
      exact rr_I C hR hS dX8_walk_21
theorem ck_X8_way  {x0 : Nat} {x1 : Int32} {x2 : Int32} {M : Mem} {r : Int32} (h : f_X8_way  x0 x1 x2 M = some r) : kd M x0 = 18 := by
  unfold f_X8_way at h
  exact ck h
set_option maxHeartbeats 4000000 in
set_option maxRecDepth 100000 in
theorem ok_X8_way  {x0 : Nat} {x1 : Int32} {x2 : Int32}  {M : Mem} {r : Int32}  (h : f_X8_way  x0 x1 x2 M = some r) : Ok l yX8_way cX8_way 3 (some .int) 2 [.ref (B + x0), .int x1, .int x2] D B ca st M (some (.int r)) M := by
  have hk0 := ck_X8_way h
  unfold f_X8_way at h
  have h := ip hk0 h
  refine ok_of rfl rfl (Nat.le_of_ble_eq_true rfl) ?_
  intro p e s m args below meth c ls C hl hR hS
  have hl : lv_has ls 3 [(0, .ref (B + x0)), (1, .int x1), (2, .int x2)] := hl
  have hx := C.1
  have hb := C.2.1
  refine lv_aload_n hx hb dX8_way_0 rfl (lv_at hl 0 rfl) ?_
  refine lv_iload_n hx hb dX8_way_1 rfl (lv_at hl 1 rfl) ?_
  obtain ⟨v2, zqe1, h⟩ := ob h
  refine rc_V C hR hS cf_X8_isSigher cv_X8_isSigher lk1153 (ok_X8_isSigher zqe1) (ck_X8_isSigher zqe1) ⟨Nat.le_of_ble_eq_true rfl, Nat.le_of_ble_eq_true rfl⟩ ⟨Nat.zero_le _, Nat.zero_le _⟩ rfl rfl hl.1 (Nat.le_of_ble_eq_true rfl) dX8_way_2 (rc_k1 (fun H locs hR hS => ?_))
  refine lv_if_eq (tgt := 25) hx hb dX8_way_5 (by decide) (fun c => ?_) (fun c => ?_)
  · have h := ip c h
    refine lv_iconst (v := (-1)) hx hb dX8_way_25 (by decide) ?_
    cases h
    exact rr_I C hR hS dX8_way_26
  · have h := iq c h
    refine lv_aload_n hx hb dX8_way_8 rfl (lv_at hl 0 rfl) ?_
    refine lv_iload_n hx hb dX8_way_9 rfl (lv_at hl 2 rfl) ?_
    obtain ⟨v4, zqe3, h⟩ := ob h
    refine rc_V C hR hS cf_X8_areOrders cv_X8_areOrders lk1308 (ok_X8_areOrders zqe3) (ck_X8_areOrders zqe3) ⟨Nat.le_of_ble_eq_true rfl, Nat.le_of_ble_eq_true rfl⟩ ⟨Nat.zero_le _, Nat.zero_le _⟩ rfl rfl hl.1 (Nat.le_of_ble_eq_true rfl) dX8_way_10 (rc_k1 (fun H locs hR hS => ?_))
    refine lv_if_eq (tgt := 25) hx hb dX8_way_13 (by decide) (fun c => ?_) (fun c => ?_)
    · have h := ip c h
      refine lv_iconst (v := (-1)) hx hb dX8_way_25 (by decide) ?_
      cases h
      exact rr_I C hR hS dX8_way_26
    · have h := iq c h
      refine lv_aload_n hx hb dX8_way_16 rfl (lv_at hl 0 rfl) ?_
      refine lv_iload_n hx hb dX8_way_17 rfl (lv_at hl 1 rfl) ?_
      refine lv_iload_n hx hb dX8_way_18 rfl (lv_at hl 2 rfl) ?_
      obtain ⟨v6, zqe5, h⟩ := ob h
      refine rc_V C hR hS cf_X8_wayOf cv_X8_wayOf lk1312 (ok_X8_wayOf zqe5) (ck_X8_wayOf zqe5) ⟨Nat.le_of_ble_eq_true rfl, Nat.le_of_ble_eq_true rfl⟩ ⟨Nat.zero_le _, Nat.zero_le _⟩ rfl rfl hl.1 (Nat.le_of_ble_eq_true rfl) dX8_way_19 (rc_k1 (fun H locs hR hS => ?_))
      refine lv_goto (tgt := 26) hx hb dX8_way_22 (by decide) ?_
      cases h
      exact rr_I C hR hS dX8_way_26
set_option maxHeartbeats 4000000 in
set_option maxRecDepth 100000 in
theorem w_X8_who_26    {r : Int32 × Mem} (C : Cx p s m args meth c RX8 cX8_who 5 (some .int) D B ca st)   : ∀ (n : Nat) {x0 : Nat} {x1 : Int32} {x3 : Int32} {x4 : Int32} {M : Mem}, f_X8_who_26  n x0 x1 x3 x4 M = some r → ∀ {H : Heap} {locs : List Loc} {ls : Array Slot}, RH D B ca M H → va_S (AA B) s.heap H locs → lv_has ls 5 [(0, .ref (B + x0)), (1, .int x1), (3, .int x3), (4, .int x4)] → W p l e (rmD 3) s m args below meth c H locs 0 0 (MQ below (Qp D B ca st (some (.int r.1)) r.2) args s 0 0 (AA B)) (F0 m 26 ls []) := by
  have hx := C.1
  have hb := C.2.1
  intro n
  induction n with
  | zero => intro x0 x1 x3 x4 M h; simp [f_X8_who_26] at h
  | succ n ih =>
    intro x0 x1 x3 x4 M h H locs ls hR hS hl
    rw [f_X8_who_26] at h
    refine lv_iload hx hb dX8_who_26 (lv_at hl 3 rfl) ?_
    refine lv_aload_n hx hb dX8_who_28 rfl (lv_at hl 0 rfl) ?_
    obtain ⟨v6, zqe7, h⟩ := ob h
    refine gf949 C hR zqe7 dX8_who_29 ?_
    refine lv_icmp_ge (tgt := 76) hx hb dX8_who_32 (by decide) (fun c => ?_) (fun c => ?_)
    · have h := ip c h
      refine lv_iload_n hx hb dX8_who_76 rfl (lv_at hl 2 rfl) ?_
      cases h
      exact rr_I C hR hS dX8_who_77
    · have h := iq c h
      refine lv_iload_n hx hb dX8_who_35 rfl (lv_at hl 2 rfl) ?_
      refine lv_aload_n hx hb dX8_who_36 rfl (lv_at hl 0 rfl) ?_
      refine lv_iload_n hx hb dX8_who_37 rfl (lv_at hl 1 rfl) ?_
      refine lv_aload_n hx hb dX8_who_38 rfl (lv_at hl 0 rfl) ?_
      obtain ⟨v8, zqe9, h⟩ := ob h
      refine gf950 C hR zqe9 dX8_who_39 ?_
      refine lv_iload hx hb dX8_who_42 (lv_at hl 3 rfl) ?_
      obtain ⟨v10, zqe11, h⟩ := ob h
      refine ra_I C hR zqe11 dX8_who_44 ?_
      refine lv_aload_n hx hb dX8_who_45 rfl (lv_at hl 0 rfl) ?_
      obtain ⟨v12, zqe13, h⟩ := ob h
      refine gf948 C hR zqe13 dX8_who_46 ?_
      refine lv_iconst (v := 3) hx hb dX8_who_49 (by decide) ?_
      refine lv_iload hx hb dX8_who_50 (lv_at hl 3 rfl) ?_
      refine lv_iadd hx hb dX8_who_52 ?_
      obtain ⟨v14, zqe15, h⟩ := ob h
      refine ra_I C hR zqe15 dX8_who_53 ?_
      obtain ⟨v17, zqe16, h⟩ := ob h
      refine rc_V C hR hS cf_X8_isSo cv_X8_isSo lk1370 (ok_X8_isSo zqe16) (ck_X8_isSo zqe16) ⟨Nat.le_of_ble_eq_true rfl, Nat.le_of_ble_eq_true rfl⟩ ⟨Nat.zero_le _, Nat.zero_le _⟩ rfl rfl hl.1 (Nat.le_of_ble_eq_true rfl) dX8_who_54 (rc_k1 (fun H locs hR hS => ?_))
      refine lv_if_eq (tgt := 67) hx hb dX8_who_57 (by decide) (fun c => ?_) (fun c => ?_)
      · have h := ip c h
        refine lv_iconst (v := 0) hx hb dX8_who_67 (by decide) ?_
        refine lv_ior hx hb dX8_who_68 ?_
        refine lv_istore_n (lv' := [(3, .int (x3 ||| 0)), (0, .ref (B + x0)), (1, .int x1), (4, .int x4)]) hx hb dX8_who_69 rfl hl (by decide) rfl (fun ls hl => ?_)
        refine lv_iinc (v := (x4 + 1)) (lv' := [(4, .int (x4 + 1)), (3, .int (x3 ||| 0)), (0, .ref (B + x0)), (1, .int x1)]) hx hb dX8_who_70 hl (k := 3) rfl rfl (by decide) rfl (fun ls hl => ?_)
        refine lv_goto (tgt := 26) hx hb dX8_who_73 (by decide) ?_
        exact ih h hR hS (lv_sub hl [2, 3, 1, 0] rfl)
      · have h := iq c h
        refine lv_iconst (v := 1) hx hb dX8_who_60 (by decide) ?_
        refine lv_iload hx hb dX8_who_61 (lv_at hl 3 rfl) ?_
        refine lv_ishl hx hb dX8_who_63 ?_
        refine lv_goto (tgt := 68) hx hb dX8_who_64 (by decide) ?_
        refine lv_ior hx hb dX8_who_68 ?_
        refine lv_istore_n (lv' := [(3, .int (x3 ||| (1 <<< (x4 &&& 31)))), (0, .ref (B + x0)), (1, .int x1), (4, .int x4)]) hx hb dX8_who_69 rfl hl (by decide) rfl (fun ls hl => ?_)
        refine lv_iinc (v := (x4 + 1)) (lv' := [(4, .int (x4 + 1)), (3, .int (x3 ||| (1 <<< (x4 &&& 31)))), (0, .ref (B + x0)), (1, .int x1)]) hx hb dX8_who_70 hl (k := 3) rfl rfl (by decide) rfl (fun ls hl => ?_)
        refine lv_goto (tgt := 26) hx hb dX8_who_73 (by decide) ?_
        exact ih h hR hS (lv_sub hl [2, 3, 1, 0] rfl)
theorem ck_X8_who  {x0 : Nat} {x1 : Int32} {M : Mem} {r : Int32 × Mem} (h : f_X8_who  x0 x1 M = some r) : kd M x0 = 18 := by
  unfold f_X8_who at h
  exact ck h
set_option maxHeartbeats 4000000 in
set_option maxRecDepth 100000 in
theorem ok_X8_who  {x0 : Nat} {x1 : Int32}  {M : Mem} {r : Int32 × Mem}  (h : f_X8_who  x0 x1 M = some r) : Ok l yX8_who cX8_who 5 (some .int) 3 [.ref (B + x0), .int x1] D B ca st M (some (.int r.1)) r.2 := by
  have hk0 := ck_X8_who h
  unfold f_X8_who at h
  have h := ip hk0 h
  refine ok_of rfl rfl (Nat.le_of_ble_eq_true rfl) ?_
  intro p e s m args below meth c ls C hl hR hS
  have hl : lv_has ls 5 [(0, .ref (B + x0)), (1, .int x1)] := hl
  have hx := C.1
  have hb := C.2.1
  refine lv_iload_n hx hb dX8_who_0 rfl (lv_at hl 1 rfl) ?_
  obtain ⟨v2, zqe1, h⟩ := ob h
  refine rc_S C hR hS cf_X8_isRow cs_X8_isRow lk1055 (ok_X8_isRow zqe1) ⟨Nat.le_of_ble_eq_true rfl, Nat.le_of_ble_eq_true rfl⟩ ⟨Nat.zero_le _, Nat.zero_le _⟩ rfl rfl hl.1 (Nat.le_of_ble_eq_true rfl) dX8_who_1 (rc_k1 (fun H locs hR hS => ?_))
  refine lv_if_ne (tgt := 9) hx hb dX8_who_4 (by decide) (fun c => ?_) (fun c => ?_)
  · have h := iq c h
    refine lv_aload_n hx hb dX8_who_9 rfl (lv_at hl 0 rfl) ?_
    refine lv_iload_n hx hb dX8_who_10 rfl (lv_at hl 1 rfl) ?_
    obtain ⟨qv4, zqe3, h⟩ := ob h
    refine rc_V C hR hS cf_X8_noPairs cv_X8_noPairs lk1366 (ok_X8_noPairs zqe3) (ck_X8_noPairs zqe3) ⟨Nat.le_of_ble_eq_true rfl, Nat.le_of_ble_eq_true rfl⟩ ⟨Nat.zero_le _, Nat.zero_le _⟩ rfl rfl hl.1 (Nat.le_of_ble_eq_true rfl) dX8_who_11 (rc_k1 (fun H locs hR hS => ?_))
    refine lv_istore_n (lv' := [(2, .int qv4.1), (0, .ref (B + x0)), (1, .int x1)]) hx hb dX8_who_14 rfl hl (by decide) rfl (fun ls hl => ?_)
    refine lv_iload_n hx hb dX8_who_15 rfl (lv_at hl 0 rfl) ?_
    refine lv_if_eq (tgt := 21) hx hb dX8_who_16 (by decide) (fun c => ?_) (fun c => ?_)
    · have h := ip c h
      refine lv_iconst (v := 0) hx hb dX8_who_21 (by decide) ?_
      refine lv_istore_n (lv' := [(3, .int 0), (2, .int qv4.1), (0, .ref (B + x0)), (1, .int x1)]) hx hb dX8_who_22 rfl hl (by decide) rfl (fun ls hl => ?_)
      refine lv_iconst (v := 0) hx hb dX8_who_23 (by decide) ?_
      refine lv_istore (lv' := [(4, .int 0), (3, .int 0), (2, .int qv4.1), (0, .ref (B + x0)), (1, .int x1)]) hx hb dX8_who_24 hl (by decide) rfl (fun ls hl => ?_)
      exact w_X8_who_26 C  FU h hR hS (lv_sub hl [3, 4, 1, 0] rfl)
    · have h := iq c h
      refine lv_iload_n hx hb dX8_who_19 rfl (lv_at hl 0 rfl) ?_
      cases h
      exact rr_I C hR hS dX8_who_20
  · have h := ip c h
    refine lv_iconst (v := (-1)) hx hb dX8_who_7 (by decide) ?_
    cases h
    exact rr_I C hR hS dX8_who_8
end Walk5
