section Walk2
variable {p : Program} {l : Launch} {e : Env} {s : State} {m : MethodId} {args : Array Value} {below : List Frame} {meth : Method} {c : Code}
variable {D : va_G} {B : Nat} {ca : Nat → ClassId} {st : Nat → Nat}
theorem ck_X7_keptOf  {x0 : Nat} {x1 : Int32} {M : Mem} {r : Nat} (h : f_X7_keptOf  x0 x1 M = some r) : kd M x0 = 17 := by
  unfold f_X7_keptOf at h
  exact ck h
set_option maxHeartbeats 4000000 in
set_option maxRecDepth 100000 in
theorem ok_X7_keptOf  {x0 : Nat} {x1 : Int32}  {M : Mem} {r : Nat}  (h : f_X7_keptOf  x0 x1 M = some r) : Ok l yX7_keptOf cX7_keptOf 2 (some (.object "SighGuild$Deeds")) 0 [.ref (B + x0), .int x1] D B ca st M (some (va_rf (rO B r))) M := by
  have hk0 := ck_X7_keptOf h
  unfold f_X7_keptOf at h
  have h := ip hk0 h
  refine ok_of rfl rfl (Nat.le_of_ble_eq_true rfl) ?_
  intro p e s m args below meth c ls C hl hR hS
  have hl : lv_has ls 2 [(0, .ref (B + x0)), (1, .int x1)] := hl
  have hx := C.1
  have hb := C.2.1
  refine lv_iload_n hx hb dX7_keptOf_0 rfl (lv_at hl 1 rfl) ?_
  refine lv_if_lt (tgt := 22) hx hb dX7_keptOf_1 (by decide) (fun c => ?_) (fun c => ?_)
  · have h := ip c h
    refine lv_null hx hb dX7_keptOf_22 ?_
    cases h
    exact rr_R C hR hS (rO_0 _) dX7_keptOf_23
  · have h := iq c h
    refine lv_iload_n hx hb dX7_keptOf_4 rfl (lv_at hl 1 rfl) ?_
    refine lv_aload_n hx hb dX7_keptOf_5 rfl (lv_at hl 0 rfl) ?_
    obtain ⟨v1, zqe2, h⟩ := ob h
    refine gf332 C hR zqe2 dX7_keptOf_6 ?_
    obtain ⟨v3, zqe4, h⟩ := ob h
    refine ra_N C hR (k := 3) (by decide) (by decide) zqe4 dX7_keptOf_9 ?_
    refine lv_icmp_ge (tgt := 22) hx hb dX7_keptOf_10 (by decide) (fun c => ?_) (fun c => ?_)
    · have h := ip c h
      refine lv_null hx hb dX7_keptOf_22 ?_
      cases h
      exact rr_R C hR hS (rO_0 _) dX7_keptOf_23
    · have h := iq c h
      refine lv_aload_n hx hb dX7_keptOf_13 rfl (lv_at hl 0 rfl) ?_
      obtain ⟨v5, zqe6, h⟩ := ob h
      refine gf332 C hR zqe6 dX7_keptOf_14 ?_
      refine lv_iload_n hx hb dX7_keptOf_17 rfl (lv_at hl 1 rfl) ?_
      obtain ⟨v7, zqe8, h⟩ := ob h
      refine ra_R C hR (k := 3) (by decide) (by decide) rfl zqe8 dX7_keptOf_18 ?_
      refine lv_goto (tgt := 23) hx hb dX7_keptOf_19 (by decide) ?_
      cases h
      exact rr_R C hR hS (rO_ne (aR_nz zqe8)) dX7_keptOf_23
theorem ck_X7_keep  {x0 : Nat} {x1 : Int32} {M : Mem} {r : Int32 × Mem} (h : f_X7_keep  x0 x1 M = some r) : kd M x0 = 17 := by
  unfold f_X7_keep at h
  exact ck h
set_option maxHeartbeats 4000000 in
set_option maxRecDepth 100000 in
theorem ok_X7_keep  {x0 : Nat} {x1 : Int32}  {M : Mem} {r : Int32 × Mem}  (h : f_X7_keep  x0 x1 M = some r) : Ok l yX7_keep cX7_keep 3 (some .int) 2 [.ref (B + x0), .int x1] D B ca st M (some (.int r.1)) r.2 := by
  have hk0 := ck_X7_keep h
  unfold f_X7_keep at h
  have h := ip hk0 h
  refine ok_of rfl rfl (Nat.le_of_ble_eq_true rfl) ?_
  intro p e s m args below meth c ls C hl hR hS
  have hl : lv_has ls 3 [(0, .ref (B + x0)), (1, .int x1)] := hl
  have hx := C.1
  have hb := C.2.1
  refine lv_aload_n hx hb dX7_keep_0 rfl (lv_at hl 0 rfl) ?_
  refine lv_iload_n hx hb dX7_keep_1 rfl (lv_at hl 1 rfl) ?_
  obtain ⟨v2, zqe1, h⟩ := ob h
  refine rc_V C hR hS cf_X7_keptOf cv_X7_keptOf lk663 (ok_X7_keptOf zqe1) (ck_X7_keptOf zqe1) ⟨Nat.le_of_ble_eq_true rfl, Nat.le_of_ble_eq_true rfl⟩ ⟨Nat.zero_le _, Nat.zero_le _⟩ rfl rfl hl.1 (Nat.le_of_ble_eq_true rfl) dX7_keep_2 (rc_k1 (fun H locs hR hS => ?_))
  refine rc_nul (fun zqz3 => ?_) (fun zqz3 => ?_)
  · have h := ip zqz3 h
    refine lv_astore_nN (lv' := [(2, .null), (0, .ref (B + x0)), (1, .int x1)]) hx hb dX7_keep_5 rfl hl (by decide) rfl (fun ls hl => ?_)
    refine lv_aload_nN hx hb dX7_keep_6 rfl (lv_at hl 0 rfl) ?_
    refine lv_ifnonnullN hx hb dX7_keep_7 ?_
    refine lv_iconst (v := (-1)) hx hb dX7_keep_10 (by decide) ?_
    cases h
    exact rr_I C hR hS dX7_keep_11
  · have h := iq zqz3 h
    refine lv_astore_n (lv' := [(2, .ref (B + v2)), (0, .ref (B + x0)), (1, .int x1)]) hx hb dX7_keep_5 rfl hl (by decide) rfl (fun ls hl => ?_)
    refine lv_aload_n hx hb dX7_keep_6 rfl (lv_at hl 0 rfl) ?_
    refine lv_ifnonnull (tgt := 12) hx hb dX7_keep_7 (by decide) ?_
    refine lv_aload_n hx hb dX7_keep_12 rfl (lv_at hl 1 rfl) ?_
    obtain ⟨v4, zqe5, h⟩ := ob h
    refine gf327 C hR zqe5 dX7_keep_13 ?_
    obtain ⟨v6, zqe7, h⟩ := ob h
    refine gf154 C hR zqe7 dX7_keep_16 ?_
    refine lv_if_ne (tgt := 25) hx hb dX7_keep_19 (by decide) (fun c => ?_) (fun c => ?_)
    · have h := iq c h
      refine lv_aload_n hx hb dX7_keep_25 rfl (lv_at hl 0 rfl) ?_
      refine lv_aload_n hx hb dX7_keep_26 rfl (lv_at hl 1 rfl) ?_
      obtain ⟨v8, zqe9, h⟩ := ob h
      refine gf331 C hR zqe9 dX7_keep_27 ?_
      obtain ⟨M11, zqe10, h⟩ := ob h
      refine rc_VN C hR hS cf_X0_takeOver cv_X0_takeOver lk667 (ok_X0_takeOver zqe10) (ck_X0_takeOver zqe10) ⟨Nat.le_of_ble_eq_true rfl, Nat.le_of_ble_eq_true rfl⟩ ⟨Nat.zero_le _, Nat.zero_le _⟩ rfl rfl hl.1 (Nat.le_of_ble_eq_true rfl) dX7_keep_30 (rc_k0 (fun H locs hR hS => ?_))
      refine lv_aload_n hx hb dX7_keep_33 rfl (lv_at hl 0 rfl) ?_
      obtain ⟨v12, zqe13, h⟩ := ob h
      refine gf233 C hR zqe13 dX7_keep_34 ?_
      cases h
      exact rr_I C hR hS dX7_keep_37
    · have h := ip c h
      refine lv_bipush (v := (-4)) hx hb dX7_keep_22 (by decide) ?_
      cases h
      exact rr_I C hR hS dX7_keep_24
set_option maxHeartbeats 4000000 in
set_option maxRecDepth 100000 in
theorem w_X7_kinds_48    {r : Int32 × Mem} (C : Cx p s m args meth c RX7 cX7_kinds 8 (some .int) D B ca st)   : ∀ (n : Nat) {x0 : Nat} {x1 : Int32} {x3 : Nat} {x5 : Int32} {x6 : Int32} {M : Mem}, f_X7_kinds_48  n x0 x1 x3 x5 x6 M = some r → ∀ {H : Heap} {locs : List Loc} {ls : Array Slot}, RH D B ca M H → va_S (AA B) s.heap H locs → lv_has ls 8 [(0, .ref (B + x0)), (1, .int x1), (3, .ref (B + x3)), (5, .int x5), (6, .int x6)] → W p l e (rmD 4) s m args below meth c H locs 0 0 (MQ below (Qp D B ca st (some (.int r.1)) r.2) args s 0 0 (AA B)) (F0 m 48 ls []) := by
  have hx := C.1
  have hb := C.2.1
  intro n
  induction n with
  | zero => intro x0 x1 x3 x5 x6 M h; simp [f_X7_kinds_48] at h
  | succ n ih =>
    intro x0 x1 x3 x5 x6 M h H locs ls hR hS hl
    rw [f_X7_kinds_48] at h
    refine lv_iload hx hb dX7_kinds_48 (lv_at hl 4 rfl) ?_
    refine lv_iconst (v := 5) hx hb dX7_kinds_50 (by decide) ?_
    refine lv_icmp_gt (tgt := 99) hx hb dX7_kinds_51 (by decide) (fun c => ?_) (fun c => ?_)
    · have h := ip c h
      refine lv_iload hx hb dX7_kinds_99 (lv_at hl 3 rfl) ?_
      cases h
      exact rr_I C hR hS dX7_kinds_101
    · have h := iq c h
      refine lv_aload_n hx hb dX7_kinds_54 rfl (lv_at hl 0 rfl) ?_
      refine lv_aload_n hx hb dX7_kinds_55 rfl (lv_at hl 2 rfl) ?_
      refine lv_iload hx hb dX7_kinds_56 (lv_at hl 4 rfl) ?_
      obtain ⟨v18, zqe17, h⟩ := ob h
      refine rc_V C hR hS cf_X7_breathOfPairs cv_X7_breathOfPairs lk817 (ok_X7_breathOfPairs zqe17) (ck_X7_breathOfPairs zqe17) ⟨Nat.le_of_ble_eq_true rfl, Nat.le_of_ble_eq_true rfl⟩ ⟨Nat.zero_le _, Nat.zero_le _⟩ rfl rfl hl.1 (Nat.le_of_ble_eq_true rfl) dX7_kinds_58 (rc_k1 (fun H locs hR hS => ?_))
      refine lv_istore (lv' := [(7, .int v18), (0, .ref (B + x0)), (1, .int x1), (3, .ref (B + x3)), (5, .int x5), (6, .int x6)]) hx hb dX7_kinds_61 hl (by decide) rfl (fun ls hl => ?_)
      refine lv_iload hx hb dX7_kinds_63 (lv_at hl 0 rfl) ?_
      refine lv_bipush (v := (-9)) hx hb dX7_kinds_65 (by decide) ?_
      refine lv_icmp_eq (tgt := 93) hx hb dX7_kinds_67 (by decide) (fun c => ?_) (fun c => ?_)
      · have h := ip c h
        refine lv_iinc (v := (x6 + 1)) (lv' := [(6, .int (x6 + 1)), (7, .int v18), (0, .ref (B + x0)), (1, .int x1), (3, .ref (B + x3)), (5, .int x5)]) hx hb dX7_kinds_93 hl (k := 5) rfl rfl (by decide) rfl (fun ls hl => ?_)
        refine lv_goto (tgt := 48) hx hb dX7_kinds_96 (by decide) ?_
        exact ih h hR hS (lv_sub hl [2, 3, 4, 5, 0] rfl)
      · have h := iq c h
        refine lv_iload hx hb dX7_kinds_70 (lv_at hl 0 rfl) ?_
        refine lv_aload_n hx hb dX7_kinds_72 rfl (lv_at hl 1 rfl) ?_
        obtain ⟨v19, zqe20, h⟩ := ob h
        refine gf329 C hR zqe20 dX7_kinds_73 ?_
        obtain ⟨v21, zqe22, h⟩ := ob h
        refine gf205 C hR zqe22 dX7_kinds_76 ?_
        refine lv_iload_n hx hb dX7_kinds_79 rfl (lv_at hl 2 rfl) ?_
        obtain ⟨v23, zqe24, h⟩ := ob h
        refine ra_I C hR zqe24 dX7_kinds_80 ?_
        refine lv_icmp_gt (tgt := 93) hx hb dX7_kinds_81 (by decide) (fun c => ?_) (fun c => ?_)
        · have h := ip c h
          refine lv_iinc (v := (x6 + 1)) (lv' := [(6, .int (x6 + 1)), (7, .int v18), (0, .ref (B + x0)), (1, .int x1), (3, .ref (B + x3)), (5, .int x5)]) hx hb dX7_kinds_93 hl (k := 5) rfl rfl (by decide) rfl (fun ls hl => ?_)
          refine lv_goto (tgt := 48) hx hb dX7_kinds_96 (by decide) ?_
          exact ih h hR hS (lv_sub hl [2, 3, 4, 5, 0] rfl)
        · have h := iq c h
          refine lv_iload hx hb dX7_kinds_84 (lv_at hl 4 rfl) ?_
          refine lv_iconst (v := 1) hx hb dX7_kinds_86 (by decide) ?_
          refine lv_iload hx hb dX7_kinds_87 (lv_at hl 5 rfl) ?_
          refine lv_ishl hx hb dX7_kinds_89 ?_
          refine lv_ior hx hb dX7_kinds_90 ?_
          refine lv_istore (lv' := [(5, .int (x5 ||| (1 <<< (x6 &&& 31)))), (7, .int v18), (0, .ref (B + x0)), (1, .int x1), (3, .ref (B + x3)), (6, .int x6)]) hx hb dX7_kinds_91 hl (by decide) rfl (fun ls hl => ?_)
          refine lv_iinc (v := (x6 + 1)) (lv' := [(6, .int (x6 + 1)), (5, .int (x5 ||| (1 <<< (x6 &&& 31)))), (7, .int v18), (0, .ref (B + x0)), (1, .int x1), (3, .ref (B + x3))]) hx hb dX7_kinds_93 hl (k := 5) rfl rfl (by decide) rfl (fun ls hl => ?_)
          refine lv_goto (tgt := 48) hx hb dX7_kinds_96 (by decide) ?_
          exact ih h hR hS (lv_sub hl [3, 4, 5, 1, 0] rfl)
theorem ck_X7_kinds  {x0 : Nat} {x1 : Int32} {x2 : Int32} {M : Mem} {r : Int32 × Mem} (h : f_X7_kinds  x0 x1 x2 M = some r) : kd M x0 = 17 := by
  unfold f_X7_kinds at h
  exact ck h
set_option maxHeartbeats 4000000 in
set_option maxRecDepth 100000 in
theorem ok_X7_kinds  {x0 : Nat} {x1 : Int32} {x2 : Int32}  {M : Mem} {r : Int32 × Mem}  (h : f_X7_kinds  x0 x1 x2 M = some r) : Ok l yX7_kinds cX7_kinds 8 (some .int) 4 [.ref (B + x0), .int x1, .int x2] D B ca st M (some (.int r.1)) r.2 := by
  have hk0 := ck_X7_kinds h
  unfold f_X7_kinds at h
  have h := ip hk0 h
  refine ok_of rfl rfl (Nat.le_of_ble_eq_true rfl) ?_
  intro p e s m args below meth c ls C hl hR hS
  have hl : lv_has ls 8 [(0, .ref (B + x0)), (1, .int x1), (2, .int x2)] := hl
  have hx := C.1
  have hb := C.2.1
  refine lv_aload_n hx hb dX7_kinds_0 rfl (lv_at hl 0 rfl) ?_
  refine lv_iload_n hx hb dX7_kinds_1 rfl (lv_at hl 2 rfl) ?_
  obtain ⟨v2, zqe1, h⟩ := ob h
  refine rc_V C hR hS cf_X7_rowOf cv_X7_rowOf lk375 (ok_X7_rowOf zqe1) (ck_X7_rowOf zqe1) ⟨Nat.le_of_ble_eq_true rfl, Nat.le_of_ble_eq_true rfl⟩ ⟨Nat.zero_le _, Nat.zero_le _⟩ rfl rfl hl.1 (Nat.le_of_ble_eq_true rfl) dX7_kinds_2 (rc_k1 (fun H locs hR hS => ?_))
  refine rc_nul (fun zqz3 => ?_) (fun zqz3 => ?_)
  · have h := ip zqz3 h
    refine lv_astore_nN (lv' := [(3, .null), (0, .ref (B + x0)), (1, .int x1), (2, .int x2)]) hx hb dX7_kinds_5 rfl hl (by decide) rfl (fun ls hl => ?_)
    refine lv_aload_n hx hb dX7_kinds_6 rfl (lv_at hl 1 rfl) ?_
    obtain ⟨v4, zqe5, h⟩ := ob h
    refine gf327 C hR zqe5 dX7_kinds_7 ?_
    refine lv_iload_n hx hb dX7_kinds_10 rfl (lv_at hl 2 rfl) ?_
    obtain ⟨v7, zqe6, h⟩ := ob h
    refine rc_VN C hR hS cf_X2_hasSigher cv_X2_hasSigher lk538 (ok_X2_hasSigher zqe6) (ck_X2_hasSigher zqe6) ⟨Nat.le_of_ble_eq_true rfl, Nat.le_of_ble_eq_true rfl⟩ ⟨Nat.zero_le _, Nat.zero_le _⟩ rfl rfl hl.1 (Nat.le_of_ble_eq_true rfl) dX7_kinds_11 (rc_k1 (fun H locs hR hS => ?_))
    refine lv_if_eq (tgt := 21) hx hb dX7_kinds_14 (by decide) (fun c => ?_) (fun c => ?_)
    · have h := ip c h
      refine lv_iconst (v := (-1)) hx hb dX7_kinds_21 (by decide) ?_
      cases h
      exact rr_I C hR hS dX7_kinds_22
    · have h := iq c h
      refine lv_aload_nN hx hb dX7_kinds_17 rfl (lv_at hl 0 rfl) ?_
      refine lv_ifnonnullN hx hb dX7_kinds_18 ?_
      refine lv_iconst (v := (-1)) hx hb dX7_kinds_21 (by decide) ?_
      cases h
      exact rr_I C hR hS dX7_kinds_22
  · have h := iq zqz3 h
    refine lv_astore_n (lv' := [(3, .ref (B + v2)), (0, .ref (B + x0)), (1, .int x1), (2, .int x2)]) hx hb dX7_kinds_5 rfl hl (by decide) rfl (fun ls hl => ?_)
    refine lv_aload_n hx hb dX7_kinds_6 rfl (lv_at hl 1 rfl) ?_
    obtain ⟨v8, zqe9, h⟩ := ob h
    refine gf327 C hR zqe9 dX7_kinds_7 ?_
    refine lv_iload_n hx hb dX7_kinds_10 rfl (lv_at hl 2 rfl) ?_
    obtain ⟨v11, zqe10, h⟩ := ob h
    refine rc_VN C hR hS cf_X2_hasSigher cv_X2_hasSigher lk538 (ok_X2_hasSigher zqe10) (ck_X2_hasSigher zqe10) ⟨Nat.le_of_ble_eq_true rfl, Nat.le_of_ble_eq_true rfl⟩ ⟨Nat.zero_le _, Nat.zero_le _⟩ rfl rfl hl.1 (Nat.le_of_ble_eq_true rfl) dX7_kinds_11 (rc_k1 (fun H locs hR hS => ?_))
    refine lv_if_eq (tgt := 21) hx hb dX7_kinds_14 (by decide) (fun c => ?_) (fun c => ?_)
    · have h := ip c h
      refine lv_iconst (v := (-1)) hx hb dX7_kinds_21 (by decide) ?_
      cases h
      exact rr_I C hR hS dX7_kinds_22
    · have h := iq c h
      refine lv_aload_n hx hb dX7_kinds_17 rfl (lv_at hl 0 rfl) ?_
      refine lv_ifnonnull (tgt := 23) hx hb dX7_kinds_18 (by decide) ?_
      refine lv_aload_n hx hb dX7_kinds_23 rfl (lv_at hl 1 rfl) ?_
      refine lv_aload_n hx hb dX7_kinds_24 rfl (lv_at hl 0 rfl) ?_
      obtain ⟨v13, zqe12, h⟩ := ob h
      refine rc_V C hR hS cf_X7_findingOfPairs cv_X7_findingOfPairs lk813 (ok_X7_findingOfPairs zqe12) (ck_X7_findingOfPairs zqe12) ⟨Nat.le_of_ble_eq_true rfl, Nat.le_of_ble_eq_true rfl⟩ ⟨Nat.zero_le _, Nat.zero_le _⟩ rfl rfl hl.1 (Nat.le_of_ble_eq_true rfl) dX7_kinds_25 (rc_k1 (fun H locs hR hS => ?_))
      refine lv_istore (lv' := [(4, .int v13), (3, .ref (B + v2)), (0, .ref (B + x0)), (1, .int x1), (2, .int x2)]) hx hb dX7_kinds_28 hl (by decide) rfl (fun ls hl => ?_)
      refine lv_iload hx hb dX7_kinds_30 (lv_at hl 0 rfl) ?_
      refine lv_if_eq (tgt := 42) hx hb dX7_kinds_32 (by decide) (fun c => ?_) (fun c => ?_)
      · have h := ip c h
        refine lv_iconst (v := 0) hx hb dX7_kinds_42 (by decide) ?_
        refine lv_istore (lv' := [(5, .int 0), (4, .int v13), (3, .ref (B + v2)), (0, .ref (B + x0)), (1, .int x1), (2, .int x2)]) hx hb dX7_kinds_43 hl (by decide) rfl (fun ls hl => ?_)
        refine lv_iconst (v := 0) hx hb dX7_kinds_45 (by decide) ?_
        refine lv_istore (lv' := [(6, .int 0), (5, .int 0), (4, .int v13), (3, .ref (B + v2)), (0, .ref (B + x0)), (1, .int x1), (2, .int x2)]) hx hb dX7_kinds_46 hl (by decide) rfl (fun ls hl => ?_)
        exact w_X7_kinds_48 C  FU h hR hS (lv_sub hl [4, 5, 3, 1, 0] rfl)
      · have h := iq c h
        refine lv_aload_n hx hb dX7_kinds_35 rfl (lv_at hl 2 rfl) ?_
        refine lv_iload hx hb dX7_kinds_36 (lv_at hl 0 rfl) ?_
        obtain ⟨qv15, zqe14, h⟩ := ob h
        refine rc_V C hR hS cf_X7_refuse cv_X7_refuse lk379 (ok_X7_refuse zqe14) (ck_X7_refuse zqe14) ⟨Nat.le_of_ble_eq_true rfl, Nat.le_of_ble_eq_true rfl⟩ ⟨Nat.zero_le _, Nat.zero_le _⟩ rfl rfl hl.1 (Nat.le_of_ble_eq_true rfl) dX7_kinds_38 (rc_k1 (fun H locs hR hS => ?_))
        cases h
        exact rr_I C hR hS dX7_kinds_41
theorem ck_X7_lay  {x0 : Nat} {x1 : Int32} {x2 : Int32} {x3 : Int32} {M : Mem} {r : Int32 × Mem} (h : f_X7_lay  x0 x1 x2 x3 M = some r) : kd M x0 = 17 := by
  unfold f_X7_lay at h
  exact ck h
set_option maxHeartbeats 4000000 in
set_option maxRecDepth 100000 in
theorem ok_X7_lay  {x0 : Nat} {x1 : Int32} {x2 : Int32} {x3 : Int32}  {M : Mem} {r : Int32 × Mem}  (h : f_X7_lay  x0 x1 x2 x3 M = some r) : Ok l yX7_lay cX7_lay 5 (some .int) 1 [.ref (B + x0), .int x1, .int x2, .int x3] D B ca st M (some (.int r.1)) r.2 := by
  have hk0 := ck_X7_lay h
  unfold f_X7_lay at h
  have h := ip hk0 h
  refine ok_of rfl rfl (Nat.le_of_ble_eq_true rfl) ?_
  intro p e s m args below meth c ls C hl hR hS
  have hl : lv_has ls 5 [(0, .ref (B + x0)), (1, .int x1), (2, .int x2), (3, .int x3)] := hl
  have hx := C.1
  have hb := C.2.1
  refine lv_aload_n hx hb dX7_lay_0 rfl (lv_at hl 0 rfl) ?_
  refine lv_iload_n hx hb dX7_lay_1 rfl (lv_at hl 1 rfl) ?_
  obtain ⟨v2, zqe1, h⟩ := ob h
  refine rc_V C hR hS cf_X7_rowOf cv_X7_rowOf lk375 (ok_X7_rowOf zqe1) (ck_X7_rowOf zqe1) ⟨Nat.le_of_ble_eq_true rfl, Nat.le_of_ble_eq_true rfl⟩ ⟨Nat.zero_le _, Nat.zero_le _⟩ rfl rfl hl.1 (Nat.le_of_ble_eq_true rfl) dX7_lay_2 (rc_k1 (fun H locs hR hS => ?_))
  refine rc_nul (fun zqz3 => ?_) (fun zqz3 => ?_)
  · have h := ip zqz3 h
    refine lv_astoreN (lv' := [(4, .null), (0, .ref (B + x0)), (1, .int x1), (2, .int x2), (3, .int x3)]) hx hb dX7_lay_5 hl (by decide) rfl (fun ls hl => ?_)
    refine lv_aloadN hx hb dX7_lay_7 (lv_at hl 0 rfl) ?_
    refine lv_ifnonnullN hx hb dX7_lay_9 ?_
    refine lv_iconst (v := (-1)) hx hb dX7_lay_12 (by decide) ?_
    cases h
    exact rr_I C hR hS dX7_lay_13
  · have h := iq zqz3 h
    refine lv_astore (lv' := [(4, .ref (B + v2)), (0, .ref (B + x0)), (1, .int x1), (2, .int x2), (3, .int x3)]) hx hb dX7_lay_5 hl (by decide) rfl (fun ls hl => ?_)
    refine lv_aload hx hb dX7_lay_7 (lv_at hl 0 rfl) ?_
    refine lv_ifnonnull (tgt := 14) hx hb dX7_lay_9 (by decide) ?_
    refine lv_aload hx hb dX7_lay_14 (lv_at hl 0 rfl) ?_
    obtain ⟨v5, zqe4, h⟩ := ob h
    refine rc_VN C hR hS cf_X4_isMissing cv_X4_isMissing lk394 (ok_X4_isMissing zqe4) (ck_X4_isMissing zqe4) ⟨Nat.le_of_ble_eq_true rfl, Nat.le_of_ble_eq_true rfl⟩ ⟨Nat.zero_le _, Nat.zero_le _⟩ rfl rfl hl.1 (Nat.le_of_ble_eq_true rfl) dX7_lay_16 (rc_k1 (fun H locs hR hS => ?_))
    refine lv_if_eq (tgt := 28) hx hb dX7_lay_19 (by decide) (fun c => ?_) (fun c => ?_)
    · have h := ip c h
      refine lv_aload hx hb dX7_lay_28 (lv_at hl 0 rfl) ?_
      refine lv_iload_n hx hb dX7_lay_30 rfl (lv_at hl 3 rfl) ?_
      obtain ⟨v7, zqe6, h⟩ := ob h
      refine rc_VN C hR hS cf_X4_has cv_X4_has lk398 (ok_X4_has zqe6) (ck_X4_has zqe6) ⟨Nat.le_of_ble_eq_true rfl, Nat.le_of_ble_eq_true rfl⟩ ⟨Nat.zero_le _, Nat.zero_le _⟩ rfl rfl hl.1 (Nat.le_of_ble_eq_true rfl) dX7_lay_31 (rc_k1 (fun H locs hR hS => ?_))
      refine lv_if_ne (tgt := 43) hx hb dX7_lay_34 (by decide) (fun c => ?_) (fun c => ?_)
      · have h := iq c h
        refine lv_aload_n hx hb dX7_lay_43 rfl (lv_at hl 1 rfl) ?_
        refine lv_aload hx hb dX7_lay_44 (lv_at hl 0 rfl) ?_
        obtain ⟨v8, zqe9, h⟩ := ob h
        refine gf302 C hR zqe9 dX7_lay_46 ?_
        refine lv_iload_n hx hb dX7_lay_49 rfl (lv_at hl 3 rfl) ?_
        obtain ⟨v10, zqe11, h⟩ := ob h
        refine ra_I C hR zqe11 dX7_lay_50 ?_
        obtain ⟨M12, zqe13, h⟩ := ob h
        refine pf335 C hR hS zqe13 dX7_lay_51 (fun H locs hR hS => ?_)
        refine lv_aload hx hb dX7_lay_54 (lv_at hl 0 rfl) ?_
        obtain ⟨v14, zqe15, h⟩ := ob h
        refine gf302 C hR zqe15 dX7_lay_56 ?_
        refine lv_iload_n hx hb dX7_lay_59 rfl (lv_at hl 3 rfl) ?_
        refine lv_iload_n hx hb dX7_lay_60 rfl (lv_at hl 4 rfl) ?_
        obtain ⟨M16, zqe17, h⟩ := ob h
        refine re_I C hR hS zqe17 dX7_lay_61 (fun H locs hR hS => ?_)
        refine lv_iconst (v := 1) hx hb dX7_lay_62 (by decide) ?_
        cases h
        exact rr_I C hR hS dX7_lay_63
      · have h := ip c h
        refine lv_aload_n hx hb dX7_lay_37 rfl (lv_at hl 1 rfl) ?_
        refine lv_iconst (v := 2) hx hb dX7_lay_38 (by decide) ?_
        obtain ⟨qv19, zqe18, h⟩ := ob h
        refine rc_V C hR hS cf_X7_refuse cv_X7_refuse lk379 (ok_X7_refuse zqe18) (ck_X7_refuse zqe18) ⟨Nat.le_of_ble_eq_true rfl, Nat.le_of_ble_eq_true rfl⟩ ⟨Nat.zero_le _, Nat.zero_le _⟩ rfl rfl hl.1 (Nat.le_of_ble_eq_true rfl) dX7_lay_39 (rc_k1 (fun H locs hR hS => ?_))
        cases h
        exact rr_I C hR hS dX7_lay_42
    · have h := iq c h
      refine lv_aload_n hx hb dX7_lay_22 rfl (lv_at hl 1 rfl) ?_
      refine lv_iconst (v := 1) hx hb dX7_lay_23 (by decide) ?_
      obtain ⟨qv22, zqe21, h⟩ := ob h
      refine rc_V C hR hS cf_X7_refuse cv_X7_refuse lk379 (ok_X7_refuse zqe21) (ck_X7_refuse zqe21) ⟨Nat.le_of_ble_eq_true rfl, Nat.le_of_ble_eq_true rfl⟩ ⟨Nat.zero_le _, Nat.zero_le _⟩ rfl rfl hl.1 (Nat.le_of_ble_eq_true rfl) dX7_lay_24 (rc_k1 (fun H locs hR hS => ?_))
      cases h
      exact rr_I C hR hS dX7_lay_27
set_option maxHeartbeats 4000000 in
set_option maxRecDepth 100000 in
theorem w_X2_ordersAt_4    {r : Int32} (C : Cx p s m args meth c RX2 cX2_ordersAt 4 (some .int) D B ca st)   : ∀ (n : Nat) {x0 : Nat} {x1 : Int32} {x2 : Int32} {x3 : Int32} {M : Mem}, f_X2_ordersAt_4  n x0 x1 x2 x3 M = some r → ∀ {H : Heap} {locs : List Loc} {ls : Array Slot}, RH D B ca M H → va_S (AA B) s.heap H locs → lv_has ls 4 [(0, .ref (B + x0)), (1, .int x1), (2, .int x2), (3, .int x3)] → W p l e (rmD 0) s m args below meth c H locs 0 0 (MQ below (Qp D B ca st (some (.int r)) M) args s 0 0 (AA B)) (F0 m 4 ls []) := by
  have hx := C.1
  have hb := C.2.1
  intro n
  induction n with
  | zero => intro x0 x1 x2 x3 M h; simp [f_X2_ordersAt_4] at h
  | succ n ih =>
    intro x0 x1 x2 x3 M h H locs ls hR hS hl
    rw [f_X2_ordersAt_4] at h
    refine lv_iload_n hx hb dX2_ordersAt_4 rfl (lv_at hl 3 rfl) ?_
    refine lv_aload_n hx hb dX2_ordersAt_5 rfl (lv_at hl 0 rfl) ?_
    obtain ⟨v1, zqe2, h⟩ := ob h
    refine gf155 C hR zqe2 dX2_ordersAt_6 ?_
    refine lv_icmp_ge (tgt := 34) hx hb dX2_ordersAt_9 (by decide) (fun c => ?_) (fun c => ?_)
    · have h := ip c h
      refine lv_iload_n hx hb dX2_ordersAt_34 rfl (lv_at hl 2 rfl) ?_
      cases h
      exact rr_I C hR hS dX2_ordersAt_35
    · have h := iq c h
      refine lv_aload_n hx hb dX2_ordersAt_12 rfl (lv_at hl 0 rfl) ?_
      obtain ⟨v3, zqe4, h⟩ := ob h
      refine gf165 C hR zqe4 dX2_ordersAt_13 ?_
      refine lv_iload_n hx hb dX2_ordersAt_16 rfl (lv_at hl 3 rfl) ?_
      obtain ⟨v5, zqe6, h⟩ := ob h
      refine ra_I C hR zqe6 dX2_ordersAt_17 ?_
      refine lv_iload_n hx hb dX2_ordersAt_18 rfl (lv_at hl 1 rfl) ?_
      refine lv_icmp_ne (tgt := 28) hx hb dX2_ordersAt_19 (by decide) (fun c => ?_) (fun c => ?_)
      · have h := iq c h
        refine lv_iinc (v := (x3 + 1)) (lv' := [(3, .int (x3 + 1)), (0, .ref (B + x0)), (1, .int x1), (2, .int x2)]) hx hb dX2_ordersAt_28 hl (k := 3) rfl rfl (by decide) rfl (fun ls hl => ?_)
        refine lv_goto (tgt := 4) hx hb dX2_ordersAt_31 (by decide) ?_
        exact ih h hR hS (lv_sub hl [1, 2, 3, 0] rfl)
      · have h := ip c h
        refine lv_iload_n hx hb dX2_ordersAt_22 rfl (lv_at hl 2 rfl) ?_
        refine lv_iconst (v := 1) hx hb dX2_ordersAt_23 (by decide) ?_
        refine lv_iload_n hx hb dX2_ordersAt_24 rfl (lv_at hl 3 rfl) ?_
        refine lv_ishl hx hb dX2_ordersAt_25 ?_
        refine lv_ior hx hb dX2_ordersAt_26 ?_
        refine lv_istore_n (lv' := [(2, .int (x2 ||| (1 <<< (x3 &&& 31)))), (0, .ref (B + x0)), (1, .int x1), (3, .int x3)]) hx hb dX2_ordersAt_27 rfl hl (by decide) rfl (fun ls hl => ?_)
        refine lv_iinc (v := (x3 + 1)) (lv' := [(3, .int (x3 + 1)), (2, .int (x2 ||| (1 <<< (x3 &&& 31)))), (0, .ref (B + x0)), (1, .int x1)]) hx hb dX2_ordersAt_28 hl (k := 3) rfl rfl (by decide) rfl (fun ls hl => ?_)
        refine lv_goto (tgt := 4) hx hb dX2_ordersAt_31 (by decide) ?_
        exact ih h hR hS (lv_sub hl [2, 3, 1, 0] rfl)
theorem ck_X2_ordersAt  {x0 : Nat} {x1 : Int32} {M : Mem} {r : Int32} (h : f_X2_ordersAt  x0 x1 M = some r) : kd M x0 = 12 := by
  unfold f_X2_ordersAt at h
  exact ck h
set_option maxHeartbeats 4000000 in
set_option maxRecDepth 100000 in
theorem ok_X2_ordersAt  {x0 : Nat} {x1 : Int32}  {M : Mem} {r : Int32}  (h : f_X2_ordersAt  x0 x1 M = some r) : Ok l yX2_ordersAt cX2_ordersAt 4 (some .int) 0 [.ref (B + x0), .int x1] D B ca st M (some (.int r)) M := by
  have hk0 := ck_X2_ordersAt h
  unfold f_X2_ordersAt at h
  have h := ip hk0 h
  refine ok_of rfl rfl (Nat.le_of_ble_eq_true rfl) ?_
  intro p e s m args below meth c ls C hl hR hS
  have hl : lv_has ls 4 [(0, .ref (B + x0)), (1, .int x1)] := hl
  have hx := C.1
  have hb := C.2.1
  refine lv_iconst (v := 0) hx hb dX2_ordersAt_0 (by decide) ?_
  refine lv_istore_n (lv' := [(2, .int 0), (0, .ref (B + x0)), (1, .int x1)]) hx hb dX2_ordersAt_1 rfl hl (by decide) rfl (fun ls hl => ?_)
  refine lv_iconst (v := 0) hx hb dX2_ordersAt_2 (by decide) ?_
  refine lv_istore_n (lv' := [(3, .int 0), (2, .int 0), (0, .ref (B + x0)), (1, .int x1)]) hx hb dX2_ordersAt_3 rfl hl (by decide) rfl (fun ls hl => ?_)
  exact w_X2_ordersAt_4 C  FU h hR hS (lv_sub hl [2, 3, 1, 0] rfl)
set_option maxHeartbeats 4000000 in
set_option maxRecDepth 100000 in
theorem ok_X7_isPlace (x0 : Int32) {M : Mem} : Ok l yX7_isPlace cX7_isPlace 1 (some .boolean) 0 [.int x0] D B ca st M (some (.int (f_X7_isPlace  x0))) M := by
  obtain ⟨r, h⟩ : ∃ r, f_X7_isPlace  x0 = r := ⟨_, rfl⟩
  rw [h]
  unfold f_X7_isPlace at h
  refine ok_of rfl rfl (Nat.le_of_ble_eq_true rfl) ?_
  intro p e s m args below meth c ls C hl hR hS
  have hl : lv_has ls 1 [(0, .int x0)] := hl
  have hx := C.1
  have hb := C.2.1
  refine lv_iload_n hx hb dX7_isPlace_0 rfl (lv_at hl 0 rfl) ?_
  refine lv_if_lt (tgt := 14) hx hb dX7_isPlace_1 (by decide) (fun c => ?_) (fun c => ?_)
  · have h := ip c h
    refine lv_iconst (v := 0) hx hb dX7_isPlace_14 (by decide) ?_
    subst h
    exact rr_Z (v := 0) C hR hS (by decide) dX7_isPlace_15
  · have h := iq c h
    refine lv_iload_n hx hb dX7_isPlace_4 rfl (lv_at hl 0 rfl) ?_
    refine lv_bipush (v := 10) hx hb dX7_isPlace_5 (by decide) ?_
    refine lv_icmp_ge (tgt := 14) hx hb dX7_isPlace_7 (by decide) (fun c => ?_) (fun c => ?_)
    · have h := ip c h
      refine lv_iconst (v := 0) hx hb dX7_isPlace_14 (by decide) ?_
      subst h
      exact rr_Z (v := 0) C hR hS (by decide) dX7_isPlace_15
    · have h := iq c h
      refine lv_iconst (v := 1) hx hb dX7_isPlace_10 (by decide) ?_
      refine lv_goto (tgt := 15) hx hb dX7_isPlace_11 (by decide) ?_
      subst h
      exact rr_Z (v := 1) C hR hS (by decide) dX7_isPlace_15
set_option maxHeartbeats 4000000 in
set_option maxRecDepth 100000 in
theorem w_X7_loose_36    {r : Int32} (C : Cx p s m args meth c RX7 cX7_loose 6 (some .int) D B ca st)   : ∀ (n : Nat) {x0 : Nat} {x1 : Int32} {x2 : Int32} {x3 : Int32} {x4 : Int32} {x5 : Int32} {M : Mem}, f_X7_loose_36  n x0 x1 x2 x3 x4 x5 M = some r → ∀ {H : Heap} {locs : List Loc} {ls : Array Slot}, RH D B ca M H → va_S (AA B) s.heap H locs → lv_has ls 6 [(0, .ref (B + x0)), (1, .int x1), (2, .int x2), (3, .int x3), (4, .int x4), (5, .int x5)] → W p l e (rmD 1) s m args below meth c H locs 0 0 (MQ below (Qp D B ca st (some (.int r)) M) args s 0 0 (AA B)) (F0 m 36 ls []) := by
  have hx := C.1
  have hb := C.2.1
  intro n
  induction n with
  | zero => intro x0 x1 x2 x3 x4 x5 M h; simp [f_X7_loose_36] at h
  | succ n ih =>
    intro x0 x1 x2 x3 x4 x5 M h H locs ls hR hS hl
    rw [f_X7_loose_36] at h
    refine lv_iload hx hb dX7_loose_36 (lv_at hl 5 rfl) ?_
    refine lv_iload_n hx hb dX7_loose_38 rfl (lv_at hl 3 rfl) ?_
    refine lv_icmp_gt (tgt := 73) hx hb dX7_loose_39 (by decide) (fun c => ?_) (fun c => ?_)
    · have h := ip c h
      refine lv_iload hx hb dX7_loose_73 (lv_at hl 4 rfl) ?_
      cases h
      exact rr_I C hR hS dX7_loose_75
    · have h := iq c h
      refine lv_iload hx hb dX7_loose_42 (lv_at hl 5 rfl) ?_
      refine lv_iload_n hx hb dX7_loose_44 rfl (lv_at hl 2 rfl) ?_
      refine lv_icmp_ge (tgt := 73) hx hb dX7_loose_45 (by decide) (fun c => ?_) (fun c => ?_)
      · have h := ip c h
        refine lv_iload hx hb dX7_loose_73 (lv_at hl 4 rfl) ?_
        cases h
        exact rr_I C hR hS dX7_loose_75
      · have h := iq c h
        refine lv_iload hx hb dX7_loose_48 (lv_at hl 4 rfl) ?_
        refine lv_aload_n hx hb dX7_loose_50 rfl (lv_at hl 0 rfl) ?_
        obtain ⟨v2, zqe3, h⟩ := ob h
        refine gf327 C hR zqe3 dX7_loose_51 ?_
        refine lv_iload_n hx hb dX7_loose_54 rfl (lv_at hl 1 rfl) ?_
        refine lv_iload hx hb dX7_loose_55 (lv_at hl 5 rfl) ?_
        refine lv_iadd hx hb dX7_loose_57 ?_
        refine lv_bipush (v := 10) hx hb dX7_loose_58 (by decide) ?_
        refine lv_irem hx hb dX7_loose_60 (by decide) ?_
        obtain ⟨v5, zqe4, h⟩ := ob h
        refine rc_VN C hR hS cf_X2_ordersAt cv_X2_ordersAt lk805 (ok_X2_ordersAt zqe4) (ck_X2_ordersAt zqe4) ⟨Nat.le_of_ble_eq_true rfl, Nat.le_of_ble_eq_true rfl⟩ ⟨Nat.zero_le _, Nat.zero_le _⟩ rfl rfl hl.1 (Nat.le_of_ble_eq_true rfl) dX7_loose_61 (rc_k1 (fun H locs hR hS => ?_))
        refine lv_ior hx hb dX7_loose_64 ?_
        refine lv_istore (lv' := [(4, .int (x4 ||| v5)), (0, .ref (B + x0)), (1, .int x1), (2, .int x2), (3, .int x3), (5, .int x5)]) hx hb dX7_loose_65 hl (by decide) rfl (fun ls hl => ?_)
        refine lv_iinc (v := (x5 + 1)) (lv' := [(5, .int (x5 + 1)), (4, .int (x4 ||| v5)), (0, .ref (B + x0)), (1, .int x1), (2, .int x2), (3, .int x3)]) hx hb dX7_loose_67 hl (k := 5) rfl rfl (by decide) rfl (fun ls hl => ?_)
        refine lv_goto (tgt := 36) hx hb dX7_loose_70 (by decide) ?_
        exact ih h hR hS (lv_sub hl [2, 3, 4, 5, 1, 0] rfl)
theorem ck_X7_loose  {x0 : Nat} {x1 : Int32} {x2 : Int32} {x3 : Int32} {M : Mem} {r : Int32} (h : f_X7_loose  x0 x1 x2 x3 M = some r) : kd M x0 = 17 := by
  unfold f_X7_loose at h
  exact ck h
set_option maxHeartbeats 4000000 in
set_option maxRecDepth 100000 in
theorem ok_X7_loose  {x0 : Nat} {x1 : Int32} {x2 : Int32} {x3 : Int32}  {M : Mem} {r : Int32}  (h : f_X7_loose  x0 x1 x2 x3 M = some r) : Ok l yX7_loose cX7_loose 6 (some .int) 1 [.ref (B + x0), .int x1, .int x2, .int x3] D B ca st M (some (.int r)) M := by
  have hk0 := ck_X7_loose h
  unfold f_X7_loose at h
  have h := ip hk0 h
  refine ok_of rfl rfl (Nat.le_of_ble_eq_true rfl) ?_
  intro p e s m args below meth c ls C hl hR hS
  have hl : lv_has ls 6 [(0, .ref (B + x0)), (1, .int x1), (2, .int x2), (3, .int x3)] := hl
  have hx := C.1
  have hb := C.2.1
  refine lv_iload_n hx hb dX7_loose_0 rfl (lv_at hl 1 rfl) ?_
  refine rc_S C hR hS cf_X7_isPlace cs_X7_isPlace lk602 (ok_X7_isPlace x1) ⟨Nat.le_of_ble_eq_true rfl, Nat.le_of_ble_eq_true rfl⟩ ⟨Nat.zero_le _, Nat.zero_le _⟩ rfl rfl hl.1 (Nat.le_of_ble_eq_true rfl) dX7_loose_1 (rc_k1 (fun H locs hR hS => ?_))
  refine lv_if_eq (tgt := 28) hx hb dX7_loose_4 (by decide) (fun c => ?_) (fun c => ?_)
  · have h := ip c h
    refine lv_iconst (v := (-1)) hx hb dX7_loose_28 (by decide) ?_
    cases h
    exact rr_I C hR hS dX7_loose_29
  · have h := iq c h
    refine lv_iload_n hx hb dX7_loose_7 rfl (lv_at hl 2 rfl) ?_
    refine lv_iconst (v := 1) hx hb dX7_loose_8 (by decide) ?_
    refine lv_icmp_lt (tgt := 28) hx hb dX7_loose_9 (by decide) (fun c => ?_) (fun c => ?_)
    · have h := ip c h
      refine lv_iconst (v := (-1)) hx hb dX7_loose_28 (by decide) ?_
      cases h
      exact rr_I C hR hS dX7_loose_29
    · have h := iq c h
      refine lv_iload_n hx hb dX7_loose_12 rfl (lv_at hl 2 rfl) ?_
      refine lv_bipush (v := 9) hx hb dX7_loose_13 (by decide) ?_
      refine lv_icmp_gt (tgt := 28) hx hb dX7_loose_15 (by decide) (fun c => ?_) (fun c => ?_)
      · have h := ip c h
        refine lv_iconst (v := (-1)) hx hb dX7_loose_28 (by decide) ?_
        cases h
        exact rr_I C hR hS dX7_loose_29
      · have h := iq c h
        refine lv_iload_n hx hb dX7_loose_18 rfl (lv_at hl 3 rfl) ?_
        refine lv_if_lt (tgt := 28) hx hb dX7_loose_19 (by decide) (fun c => ?_) (fun c => ?_)
        · have h := ip c h
          refine lv_iconst (v := (-1)) hx hb dX7_loose_28 (by decide) ?_
          cases h
          exact rr_I C hR hS dX7_loose_29
        · have h := iq c h
          refine lv_iload_n hx hb dX7_loose_22 rfl (lv_at hl 3 rfl) ?_
          refine lv_bipush (v := 20) hx hb dX7_loose_23 (by decide) ?_
          refine lv_icmp_le (tgt := 30) hx hb dX7_loose_25 (by decide) (fun c => ?_) (fun c => ?_)
          · have h := ip c h
            refine lv_iconst (v := 0) hx hb dX7_loose_30 (by decide) ?_
            refine lv_istore (lv' := [(4, .int 0), (0, .ref (B + x0)), (1, .int x1), (2, .int x2), (3, .int x3)]) hx hb dX7_loose_31 hl (by decide) rfl (fun ls hl => ?_)
            refine lv_iconst (v := 0) hx hb dX7_loose_33 (by decide) ?_
            refine lv_istore (lv' := [(5, .int 0), (4, .int 0), (0, .ref (B + x0)), (1, .int x1), (2, .int x2), (3, .int x3)]) hx hb dX7_loose_34 hl (by decide) rfl (fun ls hl => ?_)
            exact w_X7_loose_36 C  FU h hR hS (lv_sub hl [2, 3, 4, 5, 1, 0] rfl)
          · have h := iq c h
            refine lv_iconst (v := (-1)) hx hb dX7_loose_28 (by decide) ?_
            cases h
            exact rr_I C hR hS dX7_loose_29
theorem ck_X0_lackRoomFor  {x0 : Nat} {x1 : Int32} {M : Mem} {r : Int32} (h : f_X0_lackRoomFor  x0 x1 M = some r) : kd M x0 = 10 := by
  unfold f_X0_lackRoomFor at h
  exact ck h
set_option maxHeartbeats 4000000 in
set_option maxRecDepth 100000 in
theorem ok_X0_lackRoomFor  {x0 : Nat} {x1 : Int32}  {M : Mem} {r : Int32}  (h : f_X0_lackRoomFor  x0 x1 M = some r) : Ok l yX0_lackRoomFor cX0_lackRoomFor 2 (some .boolean) 0 [.ref (B + x0), .int x1] D B ca st M (some (.int r)) M := by
  have hk0 := ck_X0_lackRoomFor h
  unfold f_X0_lackRoomFor at h
  have h := ip hk0 h
  refine ok_of rfl rfl (Nat.le_of_ble_eq_true rfl) ?_
  intro p e s m args below meth c ls C hl hR hS
  have hl : lv_has ls 2 [(0, .ref (B + x0)), (1, .int x1)] := hl
  have hx := C.1
  have hb := C.2.1
  refine lv_aload_n hx hb dX0_lackRoomFor_0 rfl (lv_at hl 0 rfl) ?_
  obtain ⟨v1, zqe2, h⟩ := ob h
  refine gf232 C hR zqe2 dX0_lackRoomFor_1 ?_
  refine lv_iload_n hx hb dX0_lackRoomFor_4 rfl (lv_at hl 1 rfl) ?_
  refine lv_iadd hx hb dX0_lackRoomFor_5 ?_
  refine lv_bipush (v := 40) hx hb dX0_lackRoomFor_6 (by decide) ?_
  refine lv_icmp_le (tgt := 15) hx hb dX0_lackRoomFor_8 (by decide) (fun c => ?_) (fun c => ?_)
  · have h := ip c h
    refine lv_iconst (v := 0) hx hb dX0_lackRoomFor_15 (by decide) ?_
    cases h
    exact rr_Z (v := 0) C hR hS (by decide) dX0_lackRoomFor_16
  · have h := iq c h
    refine lv_iconst (v := 1) hx hb dX0_lackRoomFor_11 (by decide) ?_
    refine lv_goto (tgt := 16) hx hb dX0_lackRoomFor_12 (by decide) ?_
    cases h
    exact rr_Z (v := 1) C hR hS (by decide) dX0_lackRoomFor_16
set_option maxHeartbeats 4000000 in
set_option maxRecDepth 100000 in
theorem ok_X0_codeOf (x0 : Int32) (x1 : Int32) (x2 : Int32) {M : Mem} : Ok l yX0_codeOf cX0_codeOf 3 (some .int) 0 [.int x0, .int x1, .int x2] D B ca st M (some (.int (f_X0_codeOf  x0 x1 x2))) M := by
  obtain ⟨r, h⟩ : ∃ r, f_X0_codeOf  x0 x1 x2 = r := ⟨_, rfl⟩
  rw [h]
  unfold f_X0_codeOf at h
  refine ok_of rfl rfl (Nat.le_of_ble_eq_true rfl) ?_
  intro p e s m args below meth c ls C hl hR hS
  have hl : lv_has ls 3 [(0, .int x0), (1, .int x1), (2, .int x2)] := hl
  have hx := C.1
  have hb := C.2.1
  refine lv_iload_n hx hb dX0_codeOf_0 rfl (lv_at hl 0 rfl) ?_
  refine lv_bipush (v := 100) hx hb dX0_codeOf_1 (by decide) ?_
  refine lv_imul hx hb dX0_codeOf_3 ?_
  refine lv_iload_n hx hb dX0_codeOf_4 rfl (lv_at hl 1 rfl) ?_
  refine lv_bipush (v := 10) hx hb dX0_codeOf_5 (by decide) ?_
  refine lv_imul hx hb dX0_codeOf_7 ?_
  refine lv_iadd hx hb dX0_codeOf_8 ?_
  refine lv_iload_n hx hb dX0_codeOf_9 rfl (lv_at hl 2 rfl) ?_
  refine lv_iadd hx hb dX0_codeOf_10 ?_
  subst h
  exact rr_I C hR hS dX0_codeOf_11
theorem ck_X0_write  {x0 : Nat} {x1 : Int32} {M : Mem} {r : Mem} (h : f_X0_write  x0 x1 M = some r) : kd M x0 = 10 := by
  unfold f_X0_write at h
  exact ck h
set_option maxHeartbeats 4000000 in
set_option maxRecDepth 100000 in
theorem ok_X0_write  {x0 : Nat} {x1 : Int32}  {M : Mem} {r : Mem}  (h : f_X0_write  x0 x1 M = some r) : Ok l yX0_write cX0_write 2 none 0 [.ref (B + x0), .int x1] D B ca st M none r := by
  have hk0 := ck_X0_write h
  unfold f_X0_write at h
  have h := ip hk0 h
  refine ok_of rfl rfl (Nat.le_of_ble_eq_true rfl) ?_
  intro p e s m args below meth c ls C hl hR hS
  have hl : lv_has ls 2 [(0, .ref (B + x0)), (1, .int x1)] := hl
  have hx := C.1
  have hb := C.2.1
  refine lv_aload_n hx hb dX0_write_0 rfl (lv_at hl 0 rfl) ?_
  obtain ⟨v1, zqe2, h⟩ := ob h
  refine gf232 C hR zqe2 dX0_write_1 ?_
  refine lv_if_lt (tgt := 36) hx hb dX0_write_4 (by decide) (fun c => ?_) (fun c => ?_)
  · have h := ip c h
    cases h
    exact rr_V C hR hS dX0_write_36
  · have h := iq c h
    refine lv_aload_n hx hb dX0_write_7 rfl (lv_at hl 0 rfl) ?_
    obtain ⟨v3, zqe4, h⟩ := ob h
    refine gf232 C hR zqe4 dX0_write_8 ?_
    refine lv_bipush (v := 40) hx hb dX0_write_11 (by decide) ?_
    refine lv_icmp_ge (tgt := 36) hx hb dX0_write_13 (by decide) (fun c => ?_) (fun c => ?_)
    · have h := ip c h
      cases h
      exact rr_V C hR hS dX0_write_36
    · have h := iq c h
      refine lv_aload_n hx hb dX0_write_16 rfl (lv_at hl 0 rfl) ?_
      obtain ⟨v5, zqe6, h⟩ := ob h
      refine gf230 C hR zqe6 dX0_write_17 ?_
      refine lv_aload_n hx hb dX0_write_20 rfl (lv_at hl 0 rfl) ?_
      obtain ⟨v7, zqe8, h⟩ := ob h
      refine gf232 C hR zqe8 dX0_write_21 ?_
      refine lv_iload_n hx hb dX0_write_24 rfl (lv_at hl 1 rfl) ?_
      obtain ⟨M9, zqe10, h⟩ := ob h
      refine re_I C hR hS zqe10 dX0_write_25 (fun H locs hR hS => ?_)
      refine lv_aload_n hx hb dX0_write_26 rfl (lv_at hl 0 rfl) ?_
      refine lv_dup hx hb dX0_write_27 rfl ?_
      obtain ⟨v11, zqe12, h⟩ := ob h
      refine gf232 C hR zqe12 dX0_write_28 ?_
      refine lv_iconst (v := 1) hx hb dX0_write_31 (by decide) ?_
      refine lv_iadd hx hb dX0_write_32 ?_
      obtain ⟨M13, zqe14, h⟩ := ob h
      refine pf232 C hR hS zqe14 dX0_write_33 (fun H locs hR hS => ?_)
      cases h
      exact rr_V C hR hS dX0_write_36
set_option maxHeartbeats 4000000 in
set_option maxRecDepth 100000 in
theorem ok_X0_sigherOf (x0 : Int32) {M : Mem} : Ok l yX0_sigherOf cX0_sigherOf 1 (some .int) 0 [.int x0] D B ca st M (some (.int (f_X0_sigherOf  x0))) M := by
  obtain ⟨r, h⟩ : ∃ r, f_X0_sigherOf  x0 = r := ⟨_, rfl⟩
  rw [h]
  unfold f_X0_sigherOf at h
  refine ok_of rfl rfl (Nat.le_of_ble_eq_true rfl) ?_
  intro p e s m args below meth c ls C hl hR hS
  have hl : lv_has ls 1 [(0, .int x0)] := hl
  have hx := C.1
  have hb := C.2.1
  refine lv_iload_n hx hb dX0_sigherOf_0 rfl (lv_at hl 0 rfl) ?_
  refine lv_bipush (v := 10) hx hb dX0_sigherOf_1 (by decide) ?_
  refine lv_idiv hx hb dX0_sigherOf_3 (by decide) ?_
  refine lv_bipush (v := 10) hx hb dX0_sigherOf_4 (by decide) ?_
  refine lv_irem hx hb dX0_sigherOf_6 (by decide) ?_
  subst h
  exact rr_I C hR hS dX0_sigherOf_7
set_option maxHeartbeats 4000000 in
set_option maxRecDepth 100000 in
theorem ok_X0_targetOf (x0 : Int32) {M : Mem} : Ok l yX0_targetOf cX0_targetOf 1 (some .int) 0 [.int x0] D B ca st M (some (.int (f_X0_targetOf  x0))) M := by
  obtain ⟨r, h⟩ : ∃ r, f_X0_targetOf  x0 = r := ⟨_, rfl⟩
  rw [h]
  unfold f_X0_targetOf at h
  refine ok_of rfl rfl (Nat.le_of_ble_eq_true rfl) ?_
  intro p e s m args below meth c ls C hl hR hS
  have hl : lv_has ls 1 [(0, .int x0)] := hl
  have hx := C.1
  have hb := C.2.1
  refine lv_iload_n hx hb dX0_targetOf_0 rfl (lv_at hl 0 rfl) ?_
  refine lv_bipush (v := 10) hx hb dX0_targetOf_1 (by decide) ?_
  refine lv_irem hx hb dX0_targetOf_3 (by decide) ?_
  subst h
  exact rr_I C hR hS dX0_targetOf_4
set_option maxHeartbeats 4000000 in
set_option maxRecDepth 100000 in
theorem ok_X0_whatOf (x0 : Int32) {M : Mem} : Ok l yX0_whatOf cX0_whatOf 1 (some .int) 0 [.int x0] D B ca st M (some (.int (f_X0_whatOf  x0))) M := by
  obtain ⟨r, h⟩ : ∃ r, f_X0_whatOf  x0 = r := ⟨_, rfl⟩
  rw [h]
  unfold f_X0_whatOf at h
  refine ok_of rfl rfl (Nat.le_of_ble_eq_true rfl) ?_
  intro p e s m args below meth c ls C hl hR hS
  have hl : lv_has ls 1 [(0, .int x0)] := hl
  have hx := C.1
  have hb := C.2.1
  refine lv_iload_n hx hb dX0_whatOf_0 rfl (lv_at hl 0 rfl) ?_
  refine lv_bipush (v := 100) hx hb dX0_whatOf_1 (by decide) ?_
  refine lv_idiv hx hb dX0_whatOf_3 (by decide) ?_
  subst h
  exact rr_I C hR hS dX0_whatOf_4
theorem ck_X6_sighOrder  {x0 : Nat} {x1 : Nat} {x2 : Int32} {x3 : Int32} {M : Mem} {r : Mem} (h : f_X6_sighOrder  x0 x1 x2 x3 M = some r) : kd M x0 = 16 := by
  unfold f_X6_sighOrder at h
  exact ck h
set_option maxHeartbeats 4000000 in
set_option maxRecDepth 100000 in
theorem ok_X6_sighOrder  {x0 : Nat} {x1 : Nat} {x2 : Int32} {x3 : Int32}  {M : Mem} {r : Mem}  (h : f_X6_sighOrder  x0 x1 x2 x3 M = some r) : Ok l yX6_sighOrder cX6_sighOrder 4 none 3 [.ref (B + x0), .ref (B + x1), .int x2, .int x3] D B ca st M none r := by
  have hk0 := ck_X6_sighOrder h
  unfold f_X6_sighOrder at h
  have h := ip hk0 h
  refine ok_of rfl rfl (Nat.le_of_ble_eq_true rfl) ?_
  intro p e s m args below meth c ls C hl hR hS
  have hl : lv_has ls 4 [(0, .ref (B + x0)), (1, .ref (B + x1)), (2, .int x2), (3, .int x3)] := hl
  have hx := C.1
  have hb := C.2.1
  refine lv_aload_n hx hb dX6_sighOrder_0 rfl (lv_at hl 0 rfl) ?_
  refine lv_aload_n hx hb dX6_sighOrder_1 rfl (lv_at hl 1 rfl) ?_
  refine lv_iload_n hx hb dX6_sighOrder_2 rfl (lv_at hl 2 rfl) ?_
  refine lv_iload_n hx hb dX6_sighOrder_3 rfl (lv_at hl 3 rfl) ?_
  obtain ⟨v2, zqe1, h⟩ := ob h
  refine rc_V C hR hS cf_X6_isAble cv_X6_isAble lk640 (ok_X6_isAble zqe1) (ck_X6_isAble zqe1) ⟨Nat.le_of_ble_eq_true rfl, Nat.le_of_ble_eq_true rfl⟩ ⟨Nat.zero_le _, Nat.zero_le _⟩ rfl rfl hl.1 (Nat.le_of_ble_eq_true rfl) dX6_sighOrder_4 (rc_k1 (fun H locs hR hS => ?_))
  refine lv_if_eq (tgt := 52) hx hb dX6_sighOrder_7 (by decide) (fun c => ?_) (fun c => ?_)
  · have h := ip c h
    cases h
    exact rr_V C hR hS dX6_sighOrder_52
  · have h := iq c h
    refine lv_aload_n hx hb dX6_sighOrder_10 rfl (lv_at hl 0 rfl) ?_
    obtain ⟨v3, zqe4, h⟩ := ob h
    refine gf202 C hR zqe4 dX6_sighOrder_11 ?_
    refine lv_iload_n hx hb dX6_sighOrder_14 rfl (lv_at hl 2 rfl) ?_
    refine lv_dup2_11 hx hb dX6_sighOrder_15 rfl rfl ?_
    obtain ⟨v5, zqe6, h⟩ := ob h
    refine ra_I C hR zqe6 dX6_sighOrder_16 ?_
    refine lv_aload_n hx hb dX6_sighOrder_17 rfl (lv_at hl 1 rfl) ?_
    refine lv_iload_n hx hb dX6_sighOrder_18 rfl (lv_at hl 2 rfl) ?_
    refine lv_iload_n hx hb dX6_sighOrder_19 rfl (lv_at hl 3 rfl) ?_
    obtain ⟨v8, zqe7, h⟩ := ob h
    refine rc_VN C hR hS cf_X2_breathFor cv_X2_breathFor lk562 (ok_X2_breathFor zqe7) (ck_X2_breathFor zqe7) ⟨Nat.le_of_ble_eq_true rfl, Nat.le_of_ble_eq_true rfl⟩ ⟨Nat.zero_le _, Nat.zero_le _⟩ rfl rfl hl.1 (Nat.le_of_ble_eq_true rfl) dX6_sighOrder_20 (rc_k1 (fun H locs hR hS => ?_))
    refine lv_isub hx hb dX6_sighOrder_23 ?_
    obtain ⟨M9, zqe10, h⟩ := ob h
    refine re_I C hR hS zqe10 dX6_sighOrder_24 (fun H locs hR hS => ?_)
    refine lv_aload_n hx hb dX6_sighOrder_25 rfl (lv_at hl 0 rfl) ?_
    refine lv_dup hx hb dX6_sighOrder_26 rfl ?_
    obtain ⟨v11, zqe12, h⟩ := ob h
    refine gf213 C hR zqe12 dX6_sighOrder_27 ?_
    refine lv_aload_n hx hb dX6_sighOrder_30 rfl (lv_at hl 1 rfl) ?_
    refine lv_iload_n hx hb dX6_sighOrder_31 rfl (lv_at hl 2 rfl) ?_
    refine lv_iload_n hx hb dX6_sighOrder_32 rfl (lv_at hl 3 rfl) ?_
    obtain ⟨v14, zqe13, h⟩ := ob h
    refine rc_VN C hR hS cf_X2_goldFor cv_X2_goldFor lk641 (ok_X2_goldFor zqe13) (ck_X2_goldFor zqe13) ⟨Nat.le_of_ble_eq_true rfl, Nat.le_of_ble_eq_true rfl⟩ ⟨Nat.zero_le _, Nat.zero_le _⟩ rfl rfl hl.1 (Nat.le_of_ble_eq_true rfl) dX6_sighOrder_33 (rc_k1 (fun H locs hR hS => ?_))
    refine lv_iadd hx hb dX6_sighOrder_36 ?_
    obtain ⟨M15, zqe16, h⟩ := ob h
    refine pf213 C hR hS zqe16 dX6_sighOrder_37 (fun H locs hR hS => ?_)
    refine lv_aload_n hx hb dX6_sighOrder_40 rfl (lv_at hl 0 rfl) ?_
    refine lv_dup hx hb dX6_sighOrder_41 rfl ?_
    obtain ⟨v17, zqe18, h⟩ := ob h
    refine gf209 C hR zqe18 dX6_sighOrder_42 ?_
    refine lv_iconst (v := 1) hx hb dX6_sighOrder_45 (by decide) ?_
    refine lv_iload_n hx hb dX6_sighOrder_46 rfl (lv_at hl 3 rfl) ?_
    refine lv_ishl hx hb dX6_sighOrder_47 ?_
    refine lv_ior hx hb dX6_sighOrder_48 ?_
    obtain ⟨M19, zqe20, h⟩ := ob h
    refine pf209 C hR hS zqe20 dX6_sighOrder_49 (fun H locs hR hS => ?_)
    cases h
    exact rr_V C hR hS dX6_sighOrder_52
theorem ck_X6_perform  {x0 : Nat} {x1 : Nat} {x2 : Int32} {M : Mem} {r : Mem} (h : f_X6_perform  x0 x1 x2 M = some r) : kd M x0 = 16 := by
  unfold f_X6_perform at h
  exact ck h
set_option maxHeartbeats 4000000 in
set_option maxRecDepth 100000 in
theorem ok_X6_perform  {x0 : Nat} {x1 : Nat} {x2 : Int32}  {M : Mem} {r : Mem}  (h : f_X6_perform  x0 x1 x2 M = some r) : Ok l yX6_perform cX6_perform 4 none 4 [.ref (B + x0), .ref (B + x1), .int x2] D B ca st M none r := by
  have hk0 := ck_X6_perform h
  unfold f_X6_perform at h
  have h := ip hk0 h
  refine ok_of rfl rfl (Nat.le_of_ble_eq_true rfl) ?_
  intro p e s m args below meth c ls C hl hR hS
  have hl : lv_has ls 4 [(0, .ref (B + x0)), (1, .ref (B + x1)), (2, .int x2)] := hl
  have hx := C.1
  have hb := C.2.1
  refine lv_iload_n hx hb dX6_perform_0 rfl (lv_at hl 2 rfl) ?_
  refine rc_SN C hR hS cf_X0_sigherOf cs_X0_sigherOf lk627 (ok_X0_sigherOf x2) ⟨Nat.le_of_ble_eq_true rfl, Nat.le_of_ble_eq_true rfl⟩ ⟨Nat.zero_le _, Nat.zero_le _⟩ rfl rfl hl.1 (Nat.le_of_ble_eq_true rfl) dX6_perform_1 (rc_k1 (fun H locs hR hS => ?_))
  refine lv_istore_n (lv' := [(3, .int (f_X0_sigherOf x2)), (0, .ref (B + x0)), (1, .ref (B + x1)), (2, .int x2)]) hx hb dX6_perform_4 rfl hl (by decide) rfl (fun ls hl => ?_)
  refine lv_aload_n hx hb dX6_perform_5 rfl (lv_at hl 2 rfl) ?_
  refine lv_iload_n hx hb dX6_perform_6 rfl (lv_at hl 0 rfl) ?_
  obtain ⟨v3, zqe2, h⟩ := ob h
  refine rc_VN C hR hS cf_X2_hasSigher cv_X2_hasSigher lk554 (ok_X2_hasSigher zqe2) (ck_X2_hasSigher zqe2) ⟨Nat.le_of_ble_eq_true rfl, Nat.le_of_ble_eq_true rfl⟩ ⟨Nat.zero_le _, Nat.zero_le _⟩ rfl rfl hl.1 (Nat.le_of_ble_eq_true rfl) dX6_perform_7 (rc_k1 (fun H locs hR hS => ?_))
  refine lv_if_ne (tgt := 14) hx hb dX6_perform_10 (by decide) (fun c => ?_) (fun c => ?_)
  · have h := iq c h
    refine lv_iload_n hx hb dX6_perform_14 rfl (lv_at hl 3 rfl) ?_
    refine rc_SN C hR hS cf_X0_whatOf cs_X0_whatOf lk630 (ok_X0_whatOf x2) ⟨Nat.le_of_ble_eq_true rfl, Nat.le_of_ble_eq_true rfl⟩ ⟨Nat.zero_le _, Nat.zero_le _⟩ rfl rfl hl.1 (Nat.le_of_ble_eq_true rfl) dX6_perform_15 (rc_k1 (fun H locs hR hS => ?_))
    by_cases zqc5 : (f_X0_whatOf x2) = 0
    · have h := ip zqc5 h
      refine lv_lookup (off := 26) (tgt := 44) hx hb dX6_perform_18 (by decide +kernel) (by rw [zqc5]; decide +kernel) (by decide) ?_
      refine lv_aload_n hx hb dX6_perform_44 rfl (lv_at hl 1 rfl) ?_
      obtain ⟨v6, zqe7, h⟩ := ob h
      refine gf206 C hR zqe7 dX6_perform_45 ?_
      refine lv_iload_n hx hb dX6_perform_48 rfl (lv_at hl 0 rfl) ?_
      refine lv_iload_n hx hb dX6_perform_49 rfl (lv_at hl 3 rfl) ?_
      refine rc_SN C hR hS cf_X0_targetOf cs_X0_targetOf lk633 (ok_X0_targetOf x2) ⟨Nat.le_of_ble_eq_true rfl, Nat.le_of_ble_eq_true rfl⟩ ⟨Nat.zero_le _, Nat.zero_le _⟩ rfl rfl hl.1 (Nat.le_of_ble_eq_true rfl) dX6_perform_50 (rc_k1 (fun H locs hR hS => ?_))
      obtain ⟨M9, zqe10, h⟩ := ob h
      refine re_I C hR hS zqe10 dX6_perform_53 (fun H locs hR hS => ?_)
      refine lv_goto (tgt := 89) hx hb dX6_perform_54 (by decide) ?_
      cases h
      exact rr_V C hR hS dX6_perform_89
    have h := iq zqc5 h
    by_cases zqc11 : (f_X0_whatOf x2) = 1
    · have h := ip zqc11 h
      refine lv_lookup (off := 39) (tgt := 57) hx hb dX6_perform_18 (by decide +kernel) (by rw [zqc11]; decide +kernel) (by decide) ?_
      refine lv_aload_n hx hb dX6_perform_57 rfl (lv_at hl 1 rfl) ?_
      refine lv_aload_n hx hb dX6_perform_58 rfl (lv_at hl 2 rfl) ?_
      refine lv_iload_n hx hb dX6_perform_59 rfl (lv_at hl 0 rfl) ?_
      refine lv_iload_n hx hb dX6_perform_60 rfl (lv_at hl 3 rfl) ?_
      refine rc_SN C hR hS cf_X0_targetOf cs_X0_targetOf lk633 (ok_X0_targetOf x2) ⟨Nat.le_of_ble_eq_true rfl, Nat.le_of_ble_eq_true rfl⟩ ⟨Nat.zero_le _, Nat.zero_le _⟩ rfl rfl hl.1 (Nat.le_of_ble_eq_true rfl) dX6_perform_61 (rc_k1 (fun H locs hR hS => ?_))
      obtain ⟨M14, zqe13, h⟩ := ob h
      refine rc_V C hR hS cf_X6_sighOrder cv_X6_sighOrder lk636 (ok_X6_sighOrder zqe13) (ck_X6_sighOrder zqe13) ⟨Nat.le_of_ble_eq_true rfl, Nat.le_of_ble_eq_true rfl⟩ ⟨Nat.zero_le _, Nat.zero_le _⟩ rfl rfl hl.1 (Nat.le_of_ble_eq_true rfl) dX6_perform_64 (rc_k0 (fun H locs hR hS => ?_))
      refine lv_goto (tgt := 89) hx hb dX6_perform_67 (by decide) ?_
      cases h
      exact rr_V C hR hS dX6_perform_89
    have h := iq zqc11 h
    refine lv_lookup (off := 52) (tgt := 70) hx hb dX6_perform_18 (by decide +kernel) (by show Op.lookupswitch.offset [(0, 26), (1, 39)] 52 _ = _; rw [lv_osw zqc5 (by decide), lv_osw zqc11 (by decide)]; rfl) (by decide) ?_
    refine lv_aload_n hx hb dX6_perform_70 rfl (lv_at hl 1 rfl) ?_
    obtain ⟨v15, zqe16, h⟩ := ob h
    refine gf202 C hR zqe16 dX6_perform_71 ?_
    refine lv_iload_n hx hb dX6_perform_74 rfl (lv_at hl 0 rfl) ?_
    refine lv_bipush (v := 9) hx hb dX6_perform_75 (by decide) ?_
    refine lv_aload_n hx hb dX6_perform_77 rfl (lv_at hl 1 rfl) ?_
    obtain ⟨v17, zqe18, h⟩ := ob h
    refine gf202 C hR zqe18 dX6_perform_78 ?_
    refine lv_iload_n hx hb dX6_perform_81 rfl (lv_at hl 0 rfl) ?_
    obtain ⟨v19, zqe20, h⟩ := ob h
    refine ra_I C hR zqe20 dX6_perform_82 ?_
    refine lv_iconst (v := 2) hx hb dX6_perform_83 (by decide) ?_
    refine lv_iadd hx hb dX6_perform_84 ?_
    refine rm_min C lk642 hl.1 ⟨Nat.le_of_ble_eq_true rfl, Nat.le_of_ble_eq_true rfl⟩ ⟨Nat.zero_le _, Nat.zero_le _⟩ dX6_perform_85 ?_
    obtain ⟨M21, zqe22, h⟩ := ob h
    refine re_I C hR hS zqe22 dX6_perform_88 (fun H locs hR hS => ?_)
    cases h
    exact rr_V C hR hS dX6_perform_89
  · have h := ip c h
    cases h
    exact rr_V C hR hS dX6_perform_13
theorem ck_X7_enact  {x0 : Nat} {x1 : Int32} {x2 : Int32} {x3 : Int32} {M : Mem} {r : Mem} (h : f_X7_enact  x0 x1 x2 x3 M = some r) : kd M x0 = 17 := by
  unfold f_X7_enact at h
  exact ck h
set_option maxHeartbeats 4000000 in
set_option maxRecDepth 100000 in
theorem ok_X7_enact  {x0 : Nat} {x1 : Int32} {x2 : Int32} {x3 : Int32}  {M : Mem} {r : Mem}  (h : f_X7_enact  x0 x1 x2 x3 M = some r) : Ok l yX7_enact cX7_enact 5 none 5 [.ref (B + x0), .int x1, .int x2, .int x3] D B ca st M none r := by
  have hk0 := ck_X7_enact h
  unfold f_X7_enact at h
  have h := ip hk0 h
  refine ok_of rfl rfl (Nat.le_of_ble_eq_true rfl) ?_
  intro p e s m args below meth c ls C hl hR hS
  have hl : lv_has ls 5 [(0, .ref (B + x0)), (1, .int x1), (2, .int x2), (3, .int x3)] := hl
  have hx := C.1
  have hb := C.2.1
  refine lv_iload_n hx hb dX7_enact_0 rfl (lv_at hl 1 rfl) ?_
  refine lv_iload_n hx hb dX7_enact_1 rfl (lv_at hl 2 rfl) ?_
  refine lv_iload_n hx hb dX7_enact_2 rfl (lv_at hl 3 rfl) ?_
  refine rc_SN C hR hS cf_X0_codeOf cs_X0_codeOf lk616 (ok_X0_codeOf x1 x2 x3) ⟨Nat.le_of_ble_eq_true rfl, Nat.le_of_ble_eq_true rfl⟩ ⟨Nat.zero_le _, Nat.zero_le _⟩ rfl rfl hl.1 (Nat.le_of_ble_eq_true rfl) dX7_enact_3 (rc_k1 (fun H locs hR hS => ?_))
  refine lv_istore (lv' := [(4, .int (f_X0_codeOf x1 x2 x3)), (0, .ref (B + x0)), (1, .int x1), (2, .int x2), (3, .int x3)]) hx hb dX7_enact_6 hl (by decide) rfl (fun ls hl => ?_)
  refine lv_aload_n hx hb dX7_enact_8 rfl (lv_at hl 1 rfl) ?_
  obtain ⟨v2, zqe3, h⟩ := ob h
  refine gf331 C hR zqe3 dX7_enact_9 ?_
  refine lv_iload hx hb dX7_enact_12 (lv_at hl 0 rfl) ?_
  obtain ⟨M5, zqe4, h⟩ := ob h
  refine rc_VN C hR hS cf_X0_write cv_X0_write lk619 (ok_X0_write zqe4) (ck_X0_write zqe4) ⟨Nat.le_of_ble_eq_true rfl, Nat.le_of_ble_eq_true rfl⟩ ⟨Nat.zero_le _, Nat.zero_le _⟩ rfl rfl hl.1 (Nat.le_of_ble_eq_true rfl) dX7_enact_14 (rc_k0 (fun H locs hR hS => ?_))
  refine lv_aload_n hx hb dX7_enact_17 rfl (lv_at hl 1 rfl) ?_
  obtain ⟨v6, zqe7, h⟩ := ob h
  refine gf329 C hR zqe7 dX7_enact_18 ?_
  refine lv_aload_n hx hb dX7_enact_21 rfl (lv_at hl 1 rfl) ?_
  obtain ⟨v8, zqe9, h⟩ := ob h
  refine gf327 C hR zqe9 dX7_enact_22 ?_
  refine lv_iload hx hb dX7_enact_25 (lv_at hl 0 rfl) ?_
  obtain ⟨M11, zqe10, h⟩ := ob h
  refine rc_VN C hR hS cf_X6_perform cv_X6_perform lk623 (ok_X6_perform zqe10) (ck_X6_perform zqe10) ⟨Nat.le_of_ble_eq_true rfl, Nat.le_of_ble_eq_true rfl⟩ ⟨Nat.zero_le _, Nat.zero_le _⟩ rfl rfl hl.1 (Nat.le_of_ble_eq_true rfl) dX7_enact_27 (rc_k0 (fun H locs hR hS => ?_))
  cases h
  exact rr_V C hR hS dX7_enact_30
set_option maxHeartbeats 4000000 in
set_option maxRecDepth 100000 in
theorem w_X7_enactLot_116    {r : Mem} {x0 : Nat} {x2 : Int32} {x3 : Int32} {M : Mem} (C : Cx p s m args meth c RX7 cX7_enactLot 4 none D B ca st)   (h : f_X7_enactLot_116  x0 x2 x3 M = some r) : ∀ {H : Heap} {locs : List Loc} {ls : Array Slot}, RH D B ca M H → va_S (AA B) s.heap H locs → lv_has ls 4 [(0, .ref (B + x0)), (2, .int x2), (3, .int x3)] → W p l e (rmD 6) s m args below meth c H locs 0 0 (MQ below (Qp D B ca st none r) args s 0 0 (AA B)) (F0 m 116 ls []) := by
  have hx := C.1
  have hb := C.2.1
  unfold f_X7_enactLot_116 at h
  intro H locs ls hR hS hl
  refine lv_aload_n hx hb dX7_enactLot_116 rfl (lv_at hl 0 rfl) ?_
  refine lv_iconst (v := 0) hx hb dX7_enactLot_117 (by decide) ?_
  refine lv_iload_n hx hb dX7_enactLot_118 rfl (lv_at hl 1 rfl) ?_
  refine lv_aload_n hx hb dX7_enactLot_119 rfl (lv_at hl 0 rfl) ?_
  obtain ⟨v41, zqe42, h⟩ := ob h
  refine gf327 C hR zqe42 dX7_enactLot_120 ?_
  obtain ⟨v43, zqe44, h⟩ := ob h
  refine gf167 C hR zqe44 dX7_enactLot_123 ?_
  refine lv_iload_n hx hb dX7_enactLot_126 rfl (lv_at hl 2 rfl) ?_
  obtain ⟨v45, zqe46, h⟩ := ob h
  refine ra_I C hR zqe46 dX7_enactLot_127 ?_
  obtain ⟨M48, zqe47, h⟩ := ob h
  refine rc_V C hR hS cf_X7_enact cv_X7_enact lk612 (ok_X7_enact zqe47) (ck_X7_enact zqe47) ⟨Nat.le_of_ble_eq_true rfl, Nat.le_of_ble_eq_true rfl⟩ ⟨Nat.zero_le _, Nat.zero_le _⟩ rfl rfl hl.1 (Nat.le_of_ble_eq_true rfl) dX7_enactLot_128 (rc_k0 (fun H locs hR hS => ?_))
  cases h
  exact rr_V C hR hS dX7_enactLot_131
theorem ck_X7_enactLot  {x0 : Nat} {x1 : Int32} {M : Mem} {r : Mem} (h : f_X7_enactLot  x0 x1 M = some r) : kd M x0 = 17 := by
  unfold f_X7_enactLot at h
  exact ck h
set_option maxHeartbeats 4000000 in
set_option maxRecDepth 100000 in
theorem ok_X7_enactLot  {x0 : Nat} {x1 : Int32}  {M : Mem} {r : Mem}  (h : f_X7_enactLot  x0 x1 M = some r) : Ok l yX7_enactLot cX7_enactLot 4 none 6 [.ref (B + x0), .int x1] D B ca st M none r := by
  have hk0 := ck_X7_enactLot h
  unfold f_X7_enactLot at h
  have h := ip hk0 h
  refine ok_of rfl rfl (Nat.le_of_ble_eq_true rfl) ?_
  intro p e s m args below meth c ls C hl hR hS
  have hl : lv_has ls 4 [(0, .ref (B + x0)), (1, .int x1)] := hl
  have hx := C.1
  have hb := C.2.1
  refine lv_iload_n hx hb dX7_enactLot_0 rfl (lv_at hl 1 rfl) ?_
  refine lv_if_lt (tgt := 26) hx hb dX7_enactLot_1 (by decide) (fun c => ?_) (fun c => ?_)
  · have h := ip c h
    cases h
    exact rr_V C hR hS dX7_enactLot_26
  · have h := iq c h
    refine lv_aload_n hx hb dX7_enactLot_4 rfl (lv_at hl 0 rfl) ?_
    obtain ⟨v1, zqe2, h⟩ := ob h
    refine gf327 C hR zqe2 dX7_enactLot_5 ?_
    obtain ⟨v3, zqe4, h⟩ := ob h
    refine gf154 C hR zqe4 dX7_enactLot_8 ?_
    refine lv_iconst (v := 1) hx hb dX7_enactLot_11 (by decide) ?_
    refine lv_icmp_lt (tgt := 26) hx hb dX7_enactLot_12 (by decide) (fun c => ?_) (fun c => ?_)
    · have h := ip c h
      cases h
      exact rr_V C hR hS dX7_enactLot_26
    · have h := iq c h
      refine lv_aload_n hx hb dX7_enactLot_15 rfl (lv_at hl 0 rfl) ?_
      obtain ⟨v5, zqe6, h⟩ := ob h
      refine gf327 C hR zqe6 dX7_enactLot_16 ?_
      obtain ⟨v7, zqe8, h⟩ := ob h
      refine gf158 C hR zqe8 dX7_enactLot_19 ?_
      refine lv_iconst (v := 1) hx hb dX7_enactLot_22 (by decide) ?_
      refine lv_icmp_ge (tgt := 27) hx hb dX7_enactLot_23 (by decide) (fun c => ?_) (fun c => ?_)
      · have h := ip c h
        refine lv_iload_n hx hb dX7_enactLot_27 rfl (lv_at hl 1 rfl) ?_
        refine lv_aload_n hx hb dX7_enactLot_28 rfl (lv_at hl 0 rfl) ?_
        obtain ⟨v9, zqe10, h⟩ := ob h
        refine gf327 C hR zqe10 dX7_enactLot_29 ?_
        obtain ⟨v11, zqe12, h⟩ := ob h
        refine gf154 C hR zqe12 dX7_enactLot_32 ?_
        by_cases zqz40 : v11 = 0
        · exact absurd (ip zqz40 h) (fun q => by cases q)
        have h := iq zqz40 h
        refine lv_irem hx hb dX7_enactLot_35 zqz40 ?_
        refine lv_istore_n (lv' := [(2, .int (x1 - x1 / v11 * v11)), (0, .ref (B + x0)), (1, .int x1)]) hx hb dX7_enactLot_36 rfl hl (by decide) rfl (fun ls hl => ?_)
        refine lv_iload_n hx hb dX7_enactLot_37 rfl (lv_at hl 2 rfl) ?_
        refine lv_bipush (v := 64) hx hb dX7_enactLot_38 (by decide) ?_
        refine lv_idiv hx hb dX7_enactLot_40 (by decide) ?_
        refine lv_aload_n hx hb dX7_enactLot_41 rfl (lv_at hl 1 rfl) ?_
        obtain ⟨v13, zqe14, h⟩ := ob h
        refine gf327 C hR zqe14 dX7_enactLot_42 ?_
        obtain ⟨v15, zqe16, h⟩ := ob h
        refine gf158 C hR zqe16 dX7_enactLot_45 ?_
        by_cases zqz39 : v15 = 0
        · exact absurd (ip zqz39 h) (fun q => by cases q)
        have h := iq zqz39 h
        refine lv_irem hx hb dX7_enactLot_48 zqz39 ?_
        refine lv_istore_n (lv' := [(3, .int ((x1 / 64) - (x1 / 64) / v15 * v15)), (2, .int (x1 - x1 / v11 * v11)), (0, .ref (B + x0)), (1, .int x1)]) hx hb dX7_enactLot_49 rfl hl (by decide) rfl (fun ls hl => ?_)
        refine lv_iload_n hx hb dX7_enactLot_50 rfl (lv_at hl 3 rfl) ?_
        refine lv_bipush (v := 8) hx hb dX7_enactLot_51 (by decide) ?_
        refine lv_idiv hx hb dX7_enactLot_53 (by decide) ?_
        refine lv_iconst (v := 4) hx hb dX7_enactLot_54 (by decide) ?_
        refine lv_irem hx hb dX7_enactLot_55 (by decide) ?_
        refine lv_if_ne (tgt := 69) hx hb dX7_enactLot_56 (by decide) (fun c => ?_) (fun c => ?_)
        · have h := iq c h
          refine lv_aload_n hx hb dX7_enactLot_69 rfl (lv_at hl 2 rfl) ?_
          obtain ⟨v17, zqe18, h⟩ := ob h
          refine gf329 C hR zqe18 dX7_enactLot_70 ?_
          refine lv_aload_n hx hb dX7_enactLot_73 rfl (lv_at hl 2 rfl) ?_
          obtain ⟨v19, zqe20, h⟩ := ob h
          refine gf327 C hR zqe20 dX7_enactLot_74 ?_
          refine lv_iload_n hx hb dX7_enactLot_77 rfl (lv_at hl 1 rfl) ?_
          refine lv_iload_n hx hb dX7_enactLot_78 rfl (lv_at hl 0 rfl) ?_
          obtain ⟨v22, zqe21, h⟩ := ob h
          refine rc_VN C hR hS cf_X6_isAble cv_X6_isAble lk550 (ok_X6_isAble zqe21) (ck_X6_isAble zqe21) ⟨Nat.le_of_ble_eq_true rfl, Nat.le_of_ble_eq_true rfl⟩ ⟨Nat.zero_le _, Nat.zero_le _⟩ rfl rfl hl.1 (Nat.le_of_ble_eq_true rfl) dX7_enactLot_79 (rc_k1 (fun H locs hR hS => ?_))
          refine lv_if_eq (tgt := 116) hx hb dX7_enactLot_82 (by decide) (fun c => ?_) (fun c => ?_)
          · have h := ip c h
            exact w_X7_enactLot_116 C  h hR hS (lv_sub hl [2, 1, 0] rfl)
          · have h := iq c h
            refine lv_aload_n hx hb dX7_enactLot_85 rfl (lv_at hl 2 rfl) ?_
            obtain ⟨v23, zqe24, h⟩ := ob h
            refine gf329 C hR zqe24 dX7_enactLot_86 ?_
            obtain ⟨v25, zqe26, h⟩ := ob h
            refine gf208 C hR zqe26 dX7_enactLot_89 ?_
            refine lv_iload_n hx hb dX7_enactLot_92 rfl (lv_at hl 1 rfl) ?_
            obtain ⟨v27, zqe28, h⟩ := ob h
            refine ra_I C hR zqe28 dX7_enactLot_93 ?_
            refine lv_aload_n hx hb dX7_enactLot_94 rfl (lv_at hl 2 rfl) ?_
            obtain ⟨v29, zqe30, h⟩ := ob h
            refine gf327 C hR zqe30 dX7_enactLot_95 ?_
            obtain ⟨v31, zqe32, h⟩ := ob h
            refine gf167 C hR zqe32 dX7_enactLot_98 ?_
            refine lv_iload_n hx hb dX7_enactLot_101 rfl (lv_at hl 0 rfl) ?_
            obtain ⟨v33, zqe34, h⟩ := ob h
            refine ra_I C hR zqe34 dX7_enactLot_102 ?_
            refine lv_icmp_ne (tgt := 116) hx hb dX7_enactLot_103 (by decide) (fun c => ?_) (fun c => ?_)
            · have h := iq c h
              exact w_X7_enactLot_116 C  h hR hS (lv_sub hl [2, 1, 0] rfl)
            · have h := ip c h
              refine lv_aload_n hx hb dX7_enactLot_106 rfl (lv_at hl 2 rfl) ?_
              refine lv_iconst (v := 1) hx hb dX7_enactLot_107 (by decide) ?_
              refine lv_iload_n hx hb dX7_enactLot_108 rfl (lv_at hl 1 rfl) ?_
              refine lv_iload_n hx hb dX7_enactLot_109 rfl (lv_at hl 0 rfl) ?_
              obtain ⟨M36, zqe35, h⟩ := ob h
              refine rc_V C hR hS cf_X7_enact cv_X7_enact lk612 (ok_X7_enact zqe35) (ck_X7_enact zqe35) ⟨Nat.le_of_ble_eq_true rfl, Nat.le_of_ble_eq_true rfl⟩ ⟨Nat.zero_le _, Nat.zero_le _⟩ rfl rfl hl.1 (Nat.le_of_ble_eq_true rfl) dX7_enactLot_110 (rc_k0 (fun H locs hR hS => ?_))
              refine lv_goto (tgt := 131) hx hb dX7_enactLot_113 (by decide) ?_
              cases h
              exact rr_V C hR hS dX7_enactLot_131
        · have h := ip c h
          refine lv_aload_n hx hb dX7_enactLot_59 rfl (lv_at hl 2 rfl) ?_
          refine lv_iconst (v := 2) hx hb dX7_enactLot_60 (by decide) ?_
          refine lv_iload_n hx hb dX7_enactLot_61 rfl (lv_at hl 1 rfl) ?_
          refine lv_iconst (v := 0) hx hb dX7_enactLot_62 (by decide) ?_
          obtain ⟨M38, zqe37, h⟩ := ob h
          refine rc_V C hR hS cf_X7_enact cv_X7_enact lk612 (ok_X7_enact zqe37) (ck_X7_enact zqe37) ⟨Nat.le_of_ble_eq_true rfl, Nat.le_of_ble_eq_true rfl⟩ ⟨Nat.zero_le _, Nat.zero_le _⟩ rfl rfl hl.1 (Nat.le_of_ble_eq_true rfl) dX7_enactLot_63 (rc_k0 (fun H locs hR hS => ?_))
          refine lv_goto (tgt := 131) hx hb dX7_enactLot_66 (by decide) ?_
          cases h
          exact rr_V C hR hS dX7_enactLot_131
      · have h := iq c h
        cases h
        exact rr_V C hR hS dX7_enactLot_26
set_option maxHeartbeats 4000000 in
set_option maxRecDepth 100000 in
theorem w_X7_lots_60    {r : Int32 × Mem} (C : Cx p s m args meth c RX7 cX7_lots 6 (some .int) D B ca st)   : ∀ (n : Nat) {x0 : Nat} {x1 : Int32} {x3 : Int64} {x5 : Int32} {M : Mem}, f_X7_lots_60  n x0 x1 x3 x5 M = some r → ∀ {H : Heap} {locs : List Loc} {ls : Array Slot}, RH D B ca M H → va_S (AA B) s.heap H locs → lv_has ls 6 [(0, .ref (B + x0)), (1, .int x1), (3, .long x3), (5, .int x5)] → W p l e (rmD 7) s m args below meth c H locs 0 0 (MQ below (Qp D B ca st (some (.int r.1)) r.2) args s 0 0 (AA B)) (F0 m 60 ls []) := by
  have hx := C.1
  have hb := C.2.1
  intro n
  induction n with
  | zero => intro x0 x1 x3 x5 M h; simp [f_X7_lots_60] at h
  | succ n ih =>
    intro x0 x1 x3 x5 M h H locs ls hR hS hl
    rw [f_X7_lots_60] at h
    refine lv_iload hx hb dX7_lots_60 (lv_at hl 3 rfl) ?_
    refine lv_iload_n hx hb dX7_lots_62 rfl (lv_at hl 1 rfl) ?_
    refine lv_icmp_ge (tgt := 88) hx hb dX7_lots_63 (by decide) (fun c => ?_) (fun c => ?_)
    · have h := ip c h
      refine lv_aload_n hx hb dX7_lots_88 rfl (lv_at hl 0 rfl) ?_
      obtain ⟨v9, zqe10, h⟩ := ob h
      refine gf329 C hR zqe10 dX7_lots_89 ?_
      obtain ⟨v11, zqe12, h⟩ := ob h
      refine gf214 C hR zqe12 dX7_lots_92 ?_
      cases h
      exact rr_I C hR hS dX7_lots_95
    · have h := iq c h
      refine lv_lload_n hx hb dX7_lots_66 rfl (lv_at hl 2 rfl) ?_
      refine lv_ldc2 hx hb C.2.2.2.1 (C.2.2.2.2.1 _ lk872) dX7_lots_67 ?_
      refine lv_lmul hx hb dX7_lots_70 ?_
      refine lv_ldc2 hx hb C.2.2.2.1 (C.2.2.2.2.1 _ lk871) dX7_lots_71 ?_
      refine lv_lrem hx hb dX7_lots_74 (by decide) ?_
      refine lv_lstore_n (lv' := [(3, .long ((x3 * 48271) - (x3 * 48271) / 2147483647 * 2147483647)), (0, .ref (B + x0)), (1, .int x1), (5, .int x5)]) hx hb dX7_lots_75 rfl hl (by decide) rfl (fun ls hl => ?_)
      refine lv_aload_n hx hb dX7_lots_76 rfl (lv_at hl 1 rfl) ?_
      refine lv_lload_n hx hb dX7_lots_77 rfl (lv_at hl 0 rfl) ?_
      refine lv_l2i (v := (Int64.toInt32 ((x3 * 48271) - (x3 * 48271) / 2147483647 * 2147483647))) hx hb dX7_lots_78 rfl ?_
      obtain ⟨M14, zqe13, h⟩ := ob h
      refine rc_V C hR hS cf_X7_enactLot cv_X7_enactLot lk873 (ok_X7_enactLot zqe13) (ck_X7_enactLot zqe13) ⟨Nat.le_of_ble_eq_true rfl, Nat.le_of_ble_eq_true rfl⟩ ⟨Nat.zero_le _, Nat.zero_le _⟩ rfl rfl hl.1 (Nat.le_of_ble_eq_true rfl) dX7_lots_79 (rc_k0 (fun H locs hR hS => ?_))
      refine lv_iinc (v := (x5 + 1)) (lv' := [(5, .int (x5 + 1)), (3, .long ((x3 * 48271) - (x3 * 48271) / 2147483647 * 2147483647)), (0, .ref (B + x0)), (1, .int x1)]) hx hb dX7_lots_82 hl (k := 3) rfl rfl (by decide) rfl (fun ls hl => ?_)
      refine lv_goto (tgt := 60) hx hb dX7_lots_85 (by decide) ?_
      exact ih h hR hS (lv_sub hl [2, 3, 1, 0] rfl)
theorem ck_X7_lots  {x0 : Nat} {x1 : Int32} {x2 : Int32} {M : Mem} {r : Int32 × Mem} (h : f_X7_lots  x0 x1 x2 M = some r) : kd M x0 = 17 := by
  unfold f_X7_lots at h
  exact ck h
set_option maxHeartbeats 4000000 in
set_option maxRecDepth 100000 in
theorem ok_X7_lots  {x0 : Nat} {x1 : Int32} {x2 : Int32}  {M : Mem} {r : Int32 × Mem}  (h : f_X7_lots  x0 x1 x2 M = some r) : Ok l yX7_lots cX7_lots 6 (some .int) 7 [.ref (B + x0), .int x1, .int x2] D B ca st M (some (.int r.1)) r.2 := by
  have hk0 := ck_X7_lots h
  unfold f_X7_lots at h
  have h := ip hk0 h
  refine ok_of rfl rfl (Nat.le_of_ble_eq_true rfl) ?_
  intro p e s m args below meth c ls C hl hR hS
  have hl : lv_has ls 6 [(0, .ref (B + x0)), (1, .int x1), (2, .int x2)] := hl
  have hx := C.1
  have hb := C.2.1
  refine lv_iload_n hx hb dX7_lots_0 rfl (lv_at hl 1 rfl) ?_
  refine lv_iconst (v := 1) hx hb dX7_lots_1 (by decide) ?_
  refine lv_icmp_lt (tgt := 25) hx hb dX7_lots_2 (by decide) (fun c => ?_) (fun c => ?_)
  · have h := ip c h
    refine lv_iconst (v := (-1)) hx hb dX7_lots_25 (by decide) ?_
    cases h
    exact rr_I C hR hS dX7_lots_26
  · have h := iq c h
    refine lv_iload_n hx hb dX7_lots_5 rfl (lv_at hl 1 rfl) ?_
    refine lv_bipush (v := 20) hx hb dX7_lots_6 (by decide) ?_
    refine lv_icmp_gt (tgt := 25) hx hb dX7_lots_8 (by decide) (fun c => ?_) (fun c => ?_)
    · have h := ip c h
      refine lv_iconst (v := (-1)) hx hb dX7_lots_25 (by decide) ?_
      cases h
      exact rr_I C hR hS dX7_lots_26
    · have h := iq c h
      refine lv_iload_n hx hb dX7_lots_11 rfl (lv_at hl 2 rfl) ?_
      refine lv_iconst (v := 1) hx hb dX7_lots_12 (by decide) ?_
      refine lv_icmp_lt (tgt := 25) hx hb dX7_lots_13 (by decide) (fun c => ?_) (fun c => ?_)
      · have h := ip c h
        refine lv_iconst (v := (-1)) hx hb dX7_lots_25 (by decide) ?_
        cases h
        exact rr_I C hR hS dX7_lots_26
      · have h := iq c h
        refine lv_iload_n hx hb dX7_lots_16 rfl (lv_at hl 2 rfl) ?_
        refine lv_i2l (v := (Int32.toInt64 x2)) hx hb dX7_lots_17 rfl ?_
        refine lv_ldc2 hx hb C.2.2.2.1 (C.2.2.2.2.1 _ lk871) dX7_lots_18 ?_
        refine W.lcmp hx hb dX7_lots_21 ?_
        refine lv_if_lt (tgt := 27) hx hb dX7_lots_22 (by decide) (fun c => ?_) (fun c => ?_)
        · have h := ip c h
          refine lv_aload_n hx hb dX7_lots_27 rfl (lv_at hl 0 rfl) ?_
          obtain ⟨v1, zqe2, h⟩ := ob h
          refine gf327 C hR zqe2 dX7_lots_28 ?_
          obtain ⟨v3, zqe4, h⟩ := ob h
          refine gf154 C hR zqe4 dX7_lots_31 ?_
          refine lv_if_ne (tgt := 40) hx hb dX7_lots_34 (by decide) (fun c => ?_) (fun c => ?_)
          · have h := iq c h
            refine lv_aload_n hx hb dX7_lots_40 rfl (lv_at hl 0 rfl) ?_
            obtain ⟨v5, zqe6, h⟩ := ob h
            refine gf331 C hR zqe6 dX7_lots_41 ?_
            refine lv_iload_n hx hb dX7_lots_44 rfl (lv_at hl 1 rfl) ?_
            obtain ⟨v8, zqe7, h⟩ := ob h
            refine rc_VN C hR hS cf_X0_lackRoomFor cv_X0_lackRoomFor lk608 (ok_X0_lackRoomFor zqe7) (ck_X0_lackRoomFor zqe7) ⟨Nat.le_of_ble_eq_true rfl, Nat.le_of_ble_eq_true rfl⟩ ⟨Nat.zero_le _, Nat.zero_le _⟩ rfl rfl hl.1 (Nat.le_of_ble_eq_true rfl) dX7_lots_45 (rc_k1 (fun H locs hR hS => ?_))
            refine lv_if_eq (tgt := 54) hx hb dX7_lots_48 (by decide) (fun c => ?_) (fun c => ?_)
            · have h := ip c h
              refine lv_iload_n hx hb dX7_lots_54 rfl (lv_at hl 2 rfl) ?_
              refine lv_i2l (v := (Int32.toInt64 x2)) hx hb dX7_lots_55 rfl ?_
              refine lv_lstore_n (lv' := [(3, .long (Int32.toInt64 x2)), (0, .ref (B + x0)), (1, .int x1), (2, .int x2)]) hx hb dX7_lots_56 rfl hl (by decide) rfl (fun ls hl => ?_)
              refine lv_iconst (v := 0) hx hb dX7_lots_57 (by decide) ?_
              refine lv_istore (lv' := [(5, .int 0), (3, .long (Int32.toInt64 x2)), (0, .ref (B + x0)), (1, .int x1), (2, .int x2)]) hx hb dX7_lots_58 hl (by decide) rfl (fun ls hl => ?_)
              exact w_X7_lots_60 C  FU h hR hS (lv_sub hl [2, 3, 1, 0] rfl)
            · have h := iq c h
              refine lv_bipush (v := (-2)) hx hb dX7_lots_51 (by decide) ?_
              cases h
              exact rr_I C hR hS dX7_lots_53
          · have h := ip c h
            refine lv_bipush (v := (-4)) hx hb dX7_lots_37 (by decide) ?_
            cases h
            exact rr_I C hR hS dX7_lots_39
        · have h := iq c h
          refine lv_iconst (v := (-1)) hx hb dX7_lots_25 (by decide) ?_
          cases h
          exact rr_I C hR hS dX7_lots_26
theorem ck_X7_lower  {x0 : Nat} {M : Mem} {r : Int64} (h : f_X7_lower  x0 M = some r) : kd M x0 = 17 := by
  unfold f_X7_lower at h
  exact ck h
set_option maxHeartbeats 4000000 in
set_option maxRecDepth 100000 in
theorem ok_X7_lower  {x0 : Nat}  {M : Mem} {r : Int64}  (h : f_X7_lower  x0 M = some r) : Ok l yX7_lower cX7_lower 1 (some .long) 0 [.ref (B + x0)] D B ca st M (some (.long r)) M := by
  have hk0 := ck_X7_lower h
  unfold f_X7_lower at h
  have h := ip hk0 h
  refine ok_of rfl rfl (Nat.le_of_ble_eq_true rfl) ?_
  intro p e s m args below meth c ls C hl hR hS
  have hl : lv_has ls 1 [(0, .ref (B + x0))] := hl
  have hx := C.1
  have hb := C.2.1
  refine lv_aload_n hx hb dX7_lower_0 rfl (lv_at hl 0 rfl) ?_
  obtain ⟨v1, zqe2, h⟩ := ob h
  refine gf337 C hR zqe2 dX7_lower_1 ?_
  cases h
  exact rr_L C hR hS dX7_lower_4
theorem ck_X7_markOfOrder  {x0 : Nat} {x1 : Int32} {x2 : Int32} {x3 : Int32} {M : Mem} {r : Int32} (h : f_X7_markOfOrder  x0 x1 x2 x3 M = some r) : kd M x0 = 17 := by
  unfold f_X7_markOfOrder at h
  exact ck h
set_option maxHeartbeats 4000000 in
set_option maxRecDepth 100000 in
theorem ok_X7_markOfOrder  {x0 : Nat} {x1 : Int32} {x2 : Int32} {x3 : Int32}  {M : Mem} {r : Int32}  (h : f_X7_markOfOrder  x0 x1 x2 x3 M = some r) : Ok l yX7_markOfOrder cX7_markOfOrder 6 (some .int) 2 [.ref (B + x0), .int x1, .int x2, .int x3] D B ca st M (some (.int r)) M := by
  have hk0 := ck_X7_markOfOrder h
  unfold f_X7_markOfOrder at h
  have h := ip hk0 h
  refine ok_of rfl rfl (Nat.le_of_ble_eq_true rfl) ?_
  intro p e s m args below meth c ls C hl hR hS
  have hl : lv_has ls 6 [(0, .ref (B + x0)), (1, .int x1), (2, .int x2), (3, .int x3)] := hl
  have hx := C.1
  have hb := C.2.1
  refine lv_aload_n hx hb dX7_markOfOrder_0 rfl (lv_at hl 0 rfl) ?_
  obtain ⟨v1, zqe2, h⟩ := ob h
  refine gf327 C hR zqe2 dX7_markOfOrder_1 ?_
  obtain ⟨v3, zqe4, h⟩ := ob h
  refine gf169 C hR zqe4 dX7_markOfOrder_4 ?_
  refine lv_iload_n hx hb dX7_markOfOrder_7 rfl (lv_at hl 3 rfl) ?_
  obtain ⟨v5, zqe6, h⟩ := ob h
  refine ra_I C hR zqe6 dX7_markOfOrder_8 ?_
  refine lv_istore (lv' := [(4, .int v5), (0, .ref (B + x0)), (1, .int x1), (2, .int x2), (3, .int x3)]) hx hb dX7_markOfOrder_9 hl (by decide) rfl (fun ls hl => ?_)
  refine lv_aload_n hx hb dX7_markOfOrder_11 rfl (lv_at hl 1 rfl) ?_
  obtain ⟨v7, zqe8, h⟩ := ob h
  refine gf327 C hR zqe8 dX7_markOfOrder_12 ?_
  obtain ⟨v9, zqe10, h⟩ := ob h
  refine gf160 C hR zqe10 dX7_markOfOrder_15 ?_
  refine lv_iload_n hx hb dX7_markOfOrder_18 rfl (lv_at hl 2 rfl) ?_
  obtain ⟨v11, zqe12, h⟩ := ob h
  refine ra_I C hR zqe12 dX7_markOfOrder_19 ?_
  refine lv_iload hx hb dX7_markOfOrder_20 (lv_at hl 0 rfl) ?_
  obtain ⟨v14, zqe13, h⟩ := ob h
  refine rc_S C hR hS cf_X7_isTooDeep cs_X7_isTooDeep lk501 (ok_X7_isTooDeep zqe13) ⟨Nat.le_of_ble_eq_true rfl, Nat.le_of_ble_eq_true rfl⟩ ⟨Nat.zero_le _, Nat.zero_le _⟩ rfl rfl hl.1 (Nat.le_of_ble_eq_true rfl) dX7_markOfOrder_22 (rc_k1 (fun H locs hR hS => ?_))
  refine lv_istore (lv' := [(5, .int v14), (4, .int v5), (0, .ref (B + x0)), (1, .int x1), (2, .int x2), (3, .int x3)]) hx hb dX7_markOfOrder_25 hl (by decide) rfl (fun ls hl => ?_)
  refine lv_iload_n hx hb dX7_markOfOrder_27 rfl (lv_at hl 4 rfl) ?_
  by_cases zqc15 : x2 = 1
  · have h := ip zqc15 h
    refine lv_tableIn (off := 32) (tgt := 60) hx hb dX7_markOfOrder_28 (by rw [zqc15]; decide) (by rw [zqc15]; decide) (by rw [zqc15]; decide +kernel) (by decide) ?_
    refine lv_iload hx hb dX7_markOfOrder_60 (lv_at hl 1 rfl) ?_
    refine lv_aload_n hx hb dX7_markOfOrder_62 rfl (lv_at hl 2 rfl) ?_
    obtain ⟨v16, zqe17, h⟩ := ob h
    refine gf327 C hR zqe17 dX7_markOfOrder_63 ?_
    refine lv_iload_n hx hb dX7_markOfOrder_66 rfl (lv_at hl 3 rfl) ?_
    refine lv_iload_n hx hb dX7_markOfOrder_67 rfl (lv_at hl 5 rfl) ?_
    obtain ⟨v19, zqe18, h⟩ := ob h
    refine rc_VN C hR hS cf_X2_breathFor cv_X2_breathFor lk593 (ok_X2_breathFor zqe18) (ck_X2_breathFor zqe18) ⟨Nat.le_of_ble_eq_true rfl, Nat.le_of_ble_eq_true rfl⟩ ⟨Nat.zero_le _, Nat.zero_le _⟩ rfl rfl hl.1 (Nat.le_of_ble_eq_true rfl) dX7_markOfOrder_68 (rc_k1 (fun H locs hR hS => ?_))
    refine lv_isub hx hb dX7_markOfOrder_71 ?_
    cases h
    exact rr_I C hR hS dX7_markOfOrder_72
  have h := iq zqc15 h
  by_cases zqc20 : x2 = 2
  · have h := ip zqc20 h
    refine lv_tableIn (off := 45) (tgt := 73) hx hb dX7_markOfOrder_28 (by rw [zqc20]; decide) (by rw [zqc20]; decide) (by rw [zqc20]; decide +kernel) (by decide) ?_
    refine lv_iload hx hb dX7_markOfOrder_73 (lv_at hl 0 rfl) ?_
    refine lv_if_eq (tgt := 82) hx hb dX7_markOfOrder_75 (by decide) (fun c => ?_) (fun c => ?_)
    · have h := ip c h
      refine lv_iconst (v := 0) hx hb dX7_markOfOrder_82 (by decide) ?_
      cases h
      exact rr_I C hR hS dX7_markOfOrder_83
    · have h := iq c h
      refine lv_iconst (v := 1) hx hb dX7_markOfOrder_78 (by decide) ?_
      refine lv_goto (tgt := 83) hx hb dX7_markOfOrder_79 (by decide) ?_
      cases h
      exact rr_I C hR hS dX7_markOfOrder_83
  have h := iq zqc20 h
  by_cases zqc21 : x2 = 3
  · have h := ip zqc21 h
    refine lv_tableIn (off := 56) (tgt := 84) hx hb dX7_markOfOrder_28 (by rw [zqc21]; decide) (by rw [zqc21]; decide) (by rw [zqc21]; decide +kernel) (by decide) ?_
    refine lv_aload_n hx hb dX7_markOfOrder_84 rfl (lv_at hl 2 rfl) ?_
    obtain ⟨v22, zqe23, h⟩ := ob h
    refine gf327 C hR zqe23 dX7_markOfOrder_85 ?_
    obtain ⟨v24, zqe25, h⟩ := ob h
    refine gf171 C hR zqe25 dX7_markOfOrder_88 ?_
    refine lv_iload_n hx hb dX7_markOfOrder_91 rfl (lv_at hl 5 rfl) ?_
    obtain ⟨v26, zqe27, h⟩ := ob h
    refine ra_I C hR zqe27 dX7_markOfOrder_92 ?_
    refine lv_aload_n hx hb dX7_markOfOrder_93 rfl (lv_at hl 2 rfl) ?_
    obtain ⟨v28, zqe29, h⟩ := ob h
    refine gf327 C hR zqe29 dX7_markOfOrder_94 ?_
    refine lv_iload_n hx hb dX7_markOfOrder_97 rfl (lv_at hl 3 rfl) ?_
    refine lv_iload_n hx hb dX7_markOfOrder_98 rfl (lv_at hl 5 rfl) ?_
    obtain ⟨v31, zqe30, h⟩ := ob h
    refine rc_VN C hR hS cf_X2_goldFor cv_X2_goldFor lk594 (ok_X2_goldFor zqe30) (ck_X2_goldFor zqe30) ⟨Nat.le_of_ble_eq_true rfl, Nat.le_of_ble_eq_true rfl⟩ ⟨Nat.zero_le _, Nat.zero_le _⟩ rfl rfl hl.1 (Nat.le_of_ble_eq_true rfl) dX7_markOfOrder_99 (rc_k1 (fun H locs hR hS => ?_))
    refine lv_isub hx hb dX7_markOfOrder_102 ?_
    cases h
    exact rr_I C hR hS dX7_markOfOrder_103
  have h := iq zqc21 h
  by_cases zqc32 : x2 = 4
  · have h := ip zqc32 h
    refine lv_tableIn (off := 76) (tgt := 104) hx hb dX7_markOfOrder_28 (by rw [zqc32]; decide) (by rw [zqc32]; decide) (by rw [zqc32]; decide +kernel) (by decide) ?_
    refine lv_aload_n hx hb dX7_markOfOrder_104 rfl (lv_at hl 2 rfl) ?_
    obtain ⟨v33, zqe34, h⟩ := ob h
    refine gf329 C hR zqe34 dX7_markOfOrder_105 ?_
    refine lv_iload_n hx hb dX7_markOfOrder_108 rfl (lv_at hl 5 rfl) ?_
    obtain ⟨v36, zqe35, h⟩ := ob h
    refine rc_VN C hR hS cf_X6_isDone cv_X6_isDone lk580 (ok_X6_isDone zqe35) (ck_X6_isDone zqe35) ⟨Nat.le_of_ble_eq_true rfl, Nat.le_of_ble_eq_true rfl⟩ ⟨Nat.zero_le _, Nat.zero_le _⟩ rfl rfl hl.1 (Nat.le_of_ble_eq_true rfl) dX7_markOfOrder_109 (rc_k1 (fun H locs hR hS => ?_))
    refine lv_if_eq (tgt := 119) hx hb dX7_markOfOrder_112 (by decide) (fun c => ?_) (fun c => ?_)
    · have h := ip c h
      refine lv_iconst (v := 1) hx hb dX7_markOfOrder_119 (by decide) ?_
      cases h
      exact rr_I C hR hS dX7_markOfOrder_120
    · have h := iq c h
      refine lv_iconst (v := 0) hx hb dX7_markOfOrder_115 (by decide) ?_
      refine lv_goto (tgt := 120) hx hb dX7_markOfOrder_116 (by decide) ?_
      cases h
      exact rr_I C hR hS dX7_markOfOrder_120
  have h := iq zqc32 h
  refine lv_tableOut (tgt := 121) hx hb dX7_markOfOrder_28 (by have q0 := lv_neT (a := 1) zqc15 (by decide); have q1 := lv_neT (a := 2) zqc20 (by decide); have q2 := lv_neT (a := 3) zqc21 (by decide); have q3 := lv_neT (a := 4) zqc32 (by decide); omega) (by decide) ?_
  refine lv_iload hx hb dX7_markOfOrder_121 (lv_at hl 0 rfl) ?_
  refine lv_if_ne (tgt := 139) hx hb dX7_markOfOrder_123 (by decide) (fun c => ?_) (fun c => ?_)
  · have h := iq c h
    refine lv_iconst (v := 0) hx hb dX7_markOfOrder_139 (by decide) ?_
    cases h
    exact rr_I C hR hS dX7_markOfOrder_140
  · have h := ip c h
    refine lv_iconst (v := 2) hx hb dX7_markOfOrder_126 (by decide) ?_
    refine lv_iload hx hb dX7_markOfOrder_127 (lv_at hl 1 rfl) ?_
    obtain ⟨v38, zqe37, h⟩ := ob h
    refine rc_S C hR hS cf_X7_isTooDeep cs_X7_isTooDeep lk501 (ok_X7_isTooDeep zqe37) ⟨Nat.le_of_ble_eq_true rfl, Nat.le_of_ble_eq_true rfl⟩ ⟨Nat.zero_le _, Nat.zero_le _⟩ rfl rfl hl.1 (Nat.le_of_ble_eq_true rfl) dX7_markOfOrder_129 (rc_k1 (fun H locs hR hS => ?_))
    refine lv_if_eq (tgt := 139) hx hb dX7_markOfOrder_132 (by decide) (fun c => ?_) (fun c => ?_)
    · have h := ip c h
      refine lv_iconst (v := 0) hx hb dX7_markOfOrder_139 (by decide) ?_
      cases h
      exact rr_I C hR hS dX7_markOfOrder_140
    · have h := iq c h
      refine lv_iconst (v := 1) hx hb dX7_markOfOrder_135 (by decide) ?_
      refine lv_goto (tgt := 140) hx hb dX7_markOfOrder_136 (by decide) ?_
      cases h
      exact rr_I C hR hS dX7_markOfOrder_140
set_option maxHeartbeats 4000000 in
set_option maxRecDepth 100000 in
theorem w_X7_mark_50    {r : Int32 × Mem} (C : Cx p s m args meth c RX7 cX7_mark 5 (some .int) D B ca st)   : ∀ (n : Nat) {x0 : Nat} {x1 : Int32} {x2 : Int32} {x3 : Int32} {x4 : Int32} {M : Mem}, f_X7_mark_50  n x0 x1 x2 x3 x4 M = some r → ∀ {H : Heap} {locs : List Loc} {ls : Array Slot}, RH D B ca M H → va_S (AA B) s.heap H locs → lv_has ls 5 [(0, .ref (B + x0)), (1, .int x1), (2, .int x2), (3, .int x3), (4, .int x4)] → W p l e (rmD 3) s m args below meth c H locs 0 0 (MQ below (Qp D B ca st (some (.int r.1)) r.2) args s 0 0 (AA B)) (F0 m 50 ls []) := by
  have hx := C.1
  have hb := C.2.1
  intro n
  induction n with
  | zero => intro x0 x1 x2 x3 x4 M h; simp [f_X7_mark_50] at h
  | succ n ih =>
    intro x0 x1 x2 x3 x4 M h H locs ls hR hS hl
    rw [f_X7_mark_50] at h
    refine lv_iload hx hb dX7_mark_50 (lv_at hl 4 rfl) ?_
    refine lv_aload_n hx hb dX7_mark_52 rfl (lv_at hl 0 rfl) ?_
    obtain ⟨v16, zqe17, h⟩ := ob h
    refine gf327 C hR zqe17 dX7_mark_53 ?_
    obtain ⟨v18, zqe19, h⟩ := ob h
    refine gf158 C hR zqe19 dX7_mark_56 ?_
    refine lv_icmp_ge (tgt := 79) hx hb dX7_mark_59 (by decide) (fun c => ?_) (fun c => ?_)
    · have h := ip c h
      refine lv_iload_n hx hb dX7_mark_79 rfl (lv_at hl 3 rfl) ?_
      cases h
      exact rr_I C hR hS dX7_mark_80
    · have h := iq c h
      refine lv_iload_n hx hb dX7_mark_62 rfl (lv_at hl 3 rfl) ?_
      refine lv_aload_n hx hb dX7_mark_63 rfl (lv_at hl 0 rfl) ?_
      refine lv_iload_n hx hb dX7_mark_64 rfl (lv_at hl 1 rfl) ?_
      refine lv_iload_n hx hb dX7_mark_65 rfl (lv_at hl 2 rfl) ?_
      refine lv_iload hx hb dX7_mark_66 (lv_at hl 4 rfl) ?_
      obtain ⟨v21, zqe20, h⟩ := ob h
      refine rc_V C hR hS cf_X7_markOfOrder cv_X7_markOfOrder lk589 (ok_X7_markOfOrder zqe20) (ck_X7_markOfOrder zqe20) ⟨Nat.le_of_ble_eq_true rfl, Nat.le_of_ble_eq_true rfl⟩ ⟨Nat.zero_le _, Nat.zero_le _⟩ rfl rfl hl.1 (Nat.le_of_ble_eq_true rfl) dX7_mark_68 (rc_k1 (fun H locs hR hS => ?_))
      refine lv_iadd hx hb dX7_mark_71 ?_
      refine lv_istore_n (lv' := [(3, .int (x3 + v21)), (0, .ref (B + x0)), (1, .int x1), (2, .int x2), (4, .int x4)]) hx hb dX7_mark_72 rfl hl (by decide) rfl (fun ls hl => ?_)
      refine lv_iinc (v := (x4 + 1)) (lv' := [(4, .int (x4 + 1)), (3, .int (x3 + v21)), (0, .ref (B + x0)), (1, .int x1), (2, .int x2)]) hx hb dX7_mark_73 hl (k := 4) rfl rfl (by decide) rfl (fun ls hl => ?_)
      refine lv_goto (tgt := 50) hx hb dX7_mark_76 (by decide) ?_
      exact ih h hR hS (lv_sub hl [2, 3, 4, 1, 0] rfl)
theorem ck_X7_mark  {x0 : Nat} {x1 : Int32} {x2 : Int32} {M : Mem} {r : Int32 × Mem} (h : f_X7_mark  x0 x1 x2 M = some r) : kd M x0 = 17 := by
  unfold f_X7_mark at h
  exact ck h
set_option maxHeartbeats 4000000 in
set_option maxRecDepth 100000 in
theorem ok_X7_mark  {x0 : Nat} {x1 : Int32} {x2 : Int32}  {M : Mem} {r : Int32 × Mem}  (h : f_X7_mark  x0 x1 x2 M = some r) : Ok l yX7_mark cX7_mark 5 (some .int) 3 [.ref (B + x0), .int x1, .int x2] D B ca st M (some (.int r.1)) r.2 := by
  have hk0 := ck_X7_mark h
  unfold f_X7_mark at h
  have h := ip hk0 h
  refine ok_of rfl rfl (Nat.le_of_ble_eq_true rfl) ?_
  intro p e s m args below meth c ls C hl hR hS
  have hl : lv_has ls 5 [(0, .ref (B + x0)), (1, .int x1), (2, .int x2)] := hl
  have hx := C.1
  have hb := C.2.1
  refine lv_aload_n hx hb dX7_mark_0 rfl (lv_at hl 0 rfl) ?_
  obtain ⟨v1, zqe2, h⟩ := ob h
  refine gf327 C hR zqe2 dX7_mark_1 ?_
  refine lv_iload_n hx hb dX7_mark_4 rfl (lv_at hl 1 rfl) ?_
  obtain ⟨v4, zqe3, h⟩ := ob h
  refine rc_VN C hR hS cf_X2_hasSigher cv_X2_hasSigher lk538 (ok_X2_hasSigher zqe3) (ck_X2_hasSigher zqe3) ⟨Nat.le_of_ble_eq_true rfl, Nat.le_of_ble_eq_true rfl⟩ ⟨Nat.zero_le _, Nat.zero_le _⟩ rfl rfl hl.1 (Nat.le_of_ble_eq_true rfl) dX7_mark_5 (rc_k1 (fun H locs hR hS => ?_))
  refine lv_if_eq (tgt := 21) hx hb dX7_mark_8 (by decide) (fun c => ?_) (fun c => ?_)
  · have h := ip c h
    refine lv_iconst (v := (-1)) hx hb dX7_mark_21 (by decide) ?_
    cases h
    exact rr_I C hR hS dX7_mark_22
  · have h := iq c h
    refine lv_iload_n hx hb dX7_mark_11 rfl (lv_at hl 2 rfl) ?_
    refine lv_iconst (v := 1) hx hb dX7_mark_12 (by decide) ?_
    refine lv_icmp_lt (tgt := 21) hx hb dX7_mark_13 (by decide) (fun c => ?_) (fun c => ?_)
    · have h := ip c h
      refine lv_iconst (v := (-1)) hx hb dX7_mark_21 (by decide) ?_
      cases h
      exact rr_I C hR hS dX7_mark_22
    · have h := iq c h
      refine lv_iload_n hx hb dX7_mark_16 rfl (lv_at hl 2 rfl) ?_
      refine lv_iconst (v := 5) hx hb dX7_mark_17 (by decide) ?_
      refine lv_icmp_le (tgt := 23) hx hb dX7_mark_18 (by decide) (fun c => ?_) (fun c => ?_)
      · have h := ip c h
        refine lv_aload_n hx hb dX7_mark_23 rfl (lv_at hl 0 rfl) ?_
        obtain ⟨v5, zqe6, h⟩ := ob h
        refine gf327 C hR zqe6 dX7_mark_24 ?_
        obtain ⟨v7, zqe8, h⟩ := ob h
        refine gf160 C hR zqe8 dX7_mark_27 ?_
        refine lv_iload_n hx hb dX7_mark_30 rfl (lv_at hl 1 rfl) ?_
        obtain ⟨v9, zqe10, h⟩ := ob h
        refine ra_I C hR zqe10 dX7_mark_31 ?_
        refine lv_iload_n hx hb dX7_mark_32 rfl (lv_at hl 2 rfl) ?_
        obtain ⟨v12, zqe11, h⟩ := ob h
        refine rc_S C hR hS cf_X7_isOf cs_X7_isOf lk509 (ok_X7_isOf zqe11) ⟨Nat.le_of_ble_eq_true rfl, Nat.le_of_ble_eq_true rfl⟩ ⟨Nat.zero_le _, Nat.zero_le _⟩ rfl rfl hl.1 (Nat.le_of_ble_eq_true rfl) dX7_mark_33 (rc_k1 (fun H locs hR hS => ?_))
        refine lv_if_ne (tgt := 45) hx hb dX7_mark_36 (by decide) (fun c => ?_) (fun c => ?_)
        · have h := iq c h
          refine lv_iconst (v := 0) hx hb dX7_mark_45 (by decide) ?_
          refine lv_istore_n (lv' := [(3, .int 0), (0, .ref (B + x0)), (1, .int x1), (2, .int x2)]) hx hb dX7_mark_46 rfl hl (by decide) rfl (fun ls hl => ?_)
          refine lv_iconst (v := 0) hx hb dX7_mark_47 (by decide) ?_
          refine lv_istore (lv' := [(4, .int 0), (3, .int 0), (0, .ref (B + x0)), (1, .int x1), (2, .int x2)]) hx hb dX7_mark_48 hl (by decide) rfl (fun ls hl => ?_)
          exact w_X7_mark_50 C  FU h hR hS (lv_sub hl [2, 3, 4, 1, 0] rfl)
        · have h := ip c h
          refine lv_aload_n hx hb dX7_mark_39 rfl (lv_at hl 0 rfl) ?_
          refine lv_iconst (v := 3) hx hb dX7_mark_40 (by decide) ?_
          obtain ⟨qv14, zqe13, h⟩ := ob h
          refine rc_V C hR hS cf_X7_refuse cv_X7_refuse lk379 (ok_X7_refuse zqe13) (ck_X7_refuse zqe13) ⟨Nat.le_of_ble_eq_true rfl, Nat.le_of_ble_eq_true rfl⟩ ⟨Nat.zero_le _, Nat.zero_le _⟩ rfl rfl hl.1 (Nat.le_of_ble_eq_true rfl) dX7_mark_41 (rc_k1 (fun H locs hR hS => ?_))
          cases h
          exact rr_I C hR hS dX7_mark_44
      · have h := iq c h
        refine lv_iconst (v := (-1)) hx hb dX7_mark_21 (by decide) ?_
        cases h
        exact rr_I C hR hS dX7_mark_22
set_option maxHeartbeats 4000000 in
set_option maxRecDepth 100000 in
theorem w_X4_total_4    {r : Int64} (C : Cx p s m args meth c RX4 cX4_total 4 (some .long) D B ca st)   : ∀ (n : Nat) {x0 : Nat} {x1 : Int64} {x3 : Int32} {M : Mem}, f_X4_total_4  n x0 x1 x3 M = some r → ∀ {H : Heap} {locs : List Loc} {ls : Array Slot}, RH D B ca M H → va_S (AA B) s.heap H locs → lv_has ls 4 [(0, .ref (B + x0)), (1, .long x1), (3, .int x3)] → W p l e (rmD 0) s m args below meth c H locs 0 0 (MQ below (Qp D B ca st (some (.long r)) M) args s 0 0 (AA B)) (F0 m 4 ls []) := by
  have hx := C.1
  have hb := C.2.1
  intro n
  induction n with
  | zero => intro x0 x1 x3 M h; simp [f_X4_total_4] at h
  | succ n ih =>
    intro x0 x1 x3 M h H locs ls hR hS hl
    rw [f_X4_total_4] at h
    refine lv_iload_n hx hb dX4_total_4 rfl (lv_at hl 2 rfl) ?_
    refine lv_aload_n hx hb dX4_total_5 rfl (lv_at hl 0 rfl) ?_
    obtain ⟨v1, zqe2, h⟩ := ob h
    refine gf303 C hR zqe2 dX4_total_6 ?_
    refine lv_icmp_ge (tgt := 28) hx hb dX4_total_9 (by decide) (fun c => ?_) (fun c => ?_)
    · have h := ip c h
      refine lv_lload_n hx hb dX4_total_28 rfl (lv_at hl 1 rfl) ?_
      cases h
      exact rr_L C hR hS dX4_total_29
    · have h := iq c h
      refine lv_lload_n hx hb dX4_total_12 rfl (lv_at hl 1 rfl) ?_
      refine lv_aload_n hx hb dX4_total_13 rfl (lv_at hl 0 rfl) ?_
      obtain ⟨v3, zqe4, h⟩ := ob h
      refine gf301 C hR zqe4 dX4_total_14 ?_
      refine lv_iload_n hx hb dX4_total_17 rfl (lv_at hl 2 rfl) ?_
      obtain ⟨v5, zqe6, h⟩ := ob h
      refine ra_I C hR zqe6 dX4_total_18 ?_
      refine lv_i2l (v := (Int32.toInt64 v5)) hx hb dX4_total_19 rfl ?_
      refine lv_ladd hx hb dX4_total_20 ?_
      refine lv_lstore_n (lv' := [(1, .long (x1 + (Int32.toInt64 v5))), (0, .ref (B + x0)), (3, .int x3)]) hx hb dX4_total_21 rfl hl (by decide) rfl (fun ls hl => ?_)
      refine lv_iinc (v := (x3 + 1)) (lv' := [(3, .int (x3 + 1)), (1, .long (x1 + (Int32.toInt64 v5))), (0, .ref (B + x0))]) hx hb dX4_total_22 hl (k := 2) rfl rfl (by decide) rfl (fun ls hl => ?_)
      refine lv_goto (tgt := 4) hx hb dX4_total_25 (by decide) ?_
      exact ih h hR hS (lv_sub hl [2, 1, 0] rfl)
theorem ck_X4_total  {x0 : Nat} {M : Mem} {r : Int64} (h : f_X4_total  x0 M = some r) : kd M x0 = 14 := by
  unfold f_X4_total at h
  exact ck h
set_option maxHeartbeats 4000000 in
set_option maxRecDepth 100000 in
theorem ok_X4_total  {x0 : Nat}  {M : Mem} {r : Int64}  (h : f_X4_total  x0 M = some r) : Ok l yX4_total cX4_total 4 (some .long) 0 [.ref (B + x0)] D B ca st M (some (.long r)) M := by
  have hk0 := ck_X4_total h
  unfold f_X4_total at h
  have h := ip hk0 h
  refine ok_of rfl rfl (Nat.le_of_ble_eq_true rfl) ?_
  intro p e s m args below meth c ls C hl hR hS
  have hl : lv_has ls 4 [(0, .ref (B + x0))] := hl
  have hx := C.1
  have hb := C.2.1
  refine lv_lconst (v := 0) hx hb dX4_total_0 (by decide) ?_
  refine lv_lstore_n (lv' := [(1, .long 0), (0, .ref (B + x0))]) hx hb dX4_total_1 rfl hl (by decide) rfl (fun ls hl => ?_)
  refine lv_iconst (v := 0) hx hb dX4_total_2 (by decide) ?_
  refine lv_istore_n (lv' := [(3, .int 0), (1, .long 0), (0, .ref (B + x0))]) hx hb dX4_total_3 rfl hl (by decide) rfl (fun ls hl => ?_)
  exact w_X4_total_4 C  FU h hR hS (lv_sub hl [2, 1, 0] rfl)
theorem ck_X7_mean  {x0 : Nat} {x1 : Int32} {M : Mem} {r : Int32 × Mem} (h : f_X7_mean  x0 x1 M = some r) : kd M x0 = 17 := by
  unfold f_X7_mean at h
  exact ck h
set_option maxHeartbeats 4000000 in
set_option maxRecDepth 100000 in
theorem ok_X7_mean  {x0 : Nat} {x1 : Int32}  {M : Mem} {r : Int32 × Mem}  (h : f_X7_mean  x0 x1 M = some r) : Ok l yX7_mean cX7_mean 3 (some .int) 1 [.ref (B + x0), .int x1] D B ca st M (some (.int r.1)) r.2 := by
  have hk0 := ck_X7_mean h
  unfold f_X7_mean at h
  have h := ip hk0 h
  refine ok_of rfl rfl (Nat.le_of_ble_eq_true rfl) ?_
  intro p e s m args below meth c ls C hl hR hS
  have hl : lv_has ls 3 [(0, .ref (B + x0)), (1, .int x1)] := hl
  have hx := C.1
  have hb := C.2.1
  refine lv_aload_n hx hb dX7_mean_0 rfl (lv_at hl 0 rfl) ?_
  refine lv_iload_n hx hb dX7_mean_1 rfl (lv_at hl 1 rfl) ?_
  obtain ⟨v2, zqe1, h⟩ := ob h
  refine rc_V C hR hS cf_X7_rowOf cv_X7_rowOf lk375 (ok_X7_rowOf zqe1) (ck_X7_rowOf zqe1) ⟨Nat.le_of_ble_eq_true rfl, Nat.le_of_ble_eq_true rfl⟩ ⟨Nat.zero_le _, Nat.zero_le _⟩ rfl rfl hl.1 (Nat.le_of_ble_eq_true rfl) dX7_mean_2 (rc_k1 (fun H locs hR hS => ?_))
  refine rc_nul (fun zqz3 => ?_) (fun zqz3 => ?_)
  · have h := ip zqz3 h
    refine lv_astore_nN (lv' := [(2, .null), (0, .ref (B + x0)), (1, .int x1)]) hx hb dX7_mean_5 rfl hl (by decide) rfl (fun ls hl => ?_)
    refine lv_aload_nN hx hb dX7_mean_6 rfl (lv_at hl 0 rfl) ?_
    refine lv_ifnonnullN hx hb dX7_mean_7 ?_
    refine lv_iconst (v := (-1)) hx hb dX7_mean_10 (by decide) ?_
    cases h
    exact rr_I C hR hS dX7_mean_11
  · have h := iq zqz3 h
    refine lv_astore_n (lv' := [(2, .ref (B + v2)), (0, .ref (B + x0)), (1, .int x1)]) hx hb dX7_mean_5 rfl hl (by decide) rfl (fun ls hl => ?_)
    refine lv_aload_n hx hb dX7_mean_6 rfl (lv_at hl 0 rfl) ?_
    refine lv_ifnonnull (tgt := 12) hx hb dX7_mean_7 (by decide) ?_
    refine lv_aload_n hx hb dX7_mean_12 rfl (lv_at hl 0 rfl) ?_
    obtain ⟨v5, zqe4, h⟩ := ob h
    refine rc_VN C hR hS cf_X4_isMissing cv_X4_isMissing lk394 (ok_X4_isMissing zqe4) (ck_X4_isMissing zqe4) ⟨Nat.le_of_ble_eq_true rfl, Nat.le_of_ble_eq_true rfl⟩ ⟨Nat.zero_le _, Nat.zero_le _⟩ rfl rfl hl.1 (Nat.le_of_ble_eq_true rfl) dX7_mean_13 (rc_k1 (fun H locs hR hS => ?_))
    refine lv_if_eq (tgt := 25) hx hb dX7_mean_16 (by decide) (fun c => ?_) (fun c => ?_)
    · have h := ip c h
      refine lv_aload_n hx hb dX7_mean_25 rfl (lv_at hl 0 rfl) ?_
      obtain ⟨v6, zqe7, h⟩ := ob h
      refine gf304 C hR zqe7 dX7_mean_26 ?_
      refine lv_if_ne (tgt := 38) hx hb dX7_mean_29 (by decide) (fun c => ?_) (fun c => ?_)
      · have h := iq c h
        refine lv_aload_n hx hb dX7_mean_38 rfl (lv_at hl 1 rfl) ?_
        refine lv_aload_n hx hb dX7_mean_39 rfl (lv_at hl 0 rfl) ?_
        obtain ⟨v9, zqe8, h⟩ := ob h
        refine rc_VN C hR hS cf_X4_total cv_X4_total lk425 (ok_X4_total zqe8) (ck_X4_total zqe8) ⟨Nat.le_of_ble_eq_true rfl, Nat.le_of_ble_eq_true rfl⟩ ⟨Nat.zero_le _, Nat.zero_le _⟩ rfl rfl hl.1 (Nat.le_of_ble_eq_true rfl) dX7_mean_40 (rc_k1 (fun H locs hR hS => ?_))
        refine lv_aload_n hx hb dX7_mean_43 rfl (lv_at hl 0 rfl) ?_
        obtain ⟨v10, zqe11, h⟩ := ob h
        refine gf304 C hR zqe11 dX7_mean_44 ?_
        refine lv_i2l (v := (Int32.toInt64 v10)) hx hb dX7_mean_47 rfl ?_
        by_cases zqz14 : (Int32.toInt64 v10) = 0
        · exact absurd (ip zqz14 h) (fun q => by cases q)
        have h := iq zqz14 h
        refine lv_ldiv hx hb dX7_mean_48 zqz14 ?_
        refine lv_l2i (v := (Int64.toInt32 (v9 / (Int32.toInt64 v10)))) hx hb dX7_mean_49 rfl ?_
        obtain ⟨M12, zqe13, h⟩ := ob h
        refine pf335 C hR hS zqe13 dX7_mean_50 (fun H locs hR hS => ?_)
        refine lv_iconst (v := 1) hx hb dX7_mean_53 (by decide) ?_
        cases h
        exact rr_I C hR hS dX7_mean_54
      · have h := ip c h
        refine lv_aload_n hx hb dX7_mean_32 rfl (lv_at hl 1 rfl) ?_
        refine lv_iconst (v := 4) hx hb dX7_mean_33 (by decide) ?_
        obtain ⟨qv16, zqe15, h⟩ := ob h
        refine rc_V C hR hS cf_X7_refuse cv_X7_refuse lk379 (ok_X7_refuse zqe15) (ck_X7_refuse zqe15) ⟨Nat.le_of_ble_eq_true rfl, Nat.le_of_ble_eq_true rfl⟩ ⟨Nat.zero_le _, Nat.zero_le _⟩ rfl rfl hl.1 (Nat.le_of_ble_eq_true rfl) dX7_mean_34 (rc_k1 (fun H locs hR hS => ?_))
        cases h
        exact rr_I C hR hS dX7_mean_37
    · have h := iq c h
      refine lv_aload_n hx hb dX7_mean_19 rfl (lv_at hl 1 rfl) ?_
      refine lv_iconst (v := 1) hx hb dX7_mean_20 (by decide) ?_
      obtain ⟨qv19, zqe18, h⟩ := ob h
      refine rc_V C hR hS cf_X7_refuse cv_X7_refuse lk379 (ok_X7_refuse zqe18) (ck_X7_refuse zqe18) ⟨Nat.le_of_ble_eq_true rfl, Nat.le_of_ble_eq_true rfl⟩ ⟨Nat.zero_le _, Nat.zero_le _⟩ rfl rfl hl.1 (Nat.le_of_ble_eq_true rfl) dX7_mean_21 (rc_k1 (fun H locs hR hS => ?_))
      cases h
      exact rr_I C hR hS dX7_mean_24
theorem ck_X6_takeOver  {x0 : Nat} {x1 : Nat} {M : Mem} {r : Mem} (h : f_X6_takeOver  x0 x1 M = some r) : kd M x0 = 16 := by
  unfold f_X6_takeOver at h
  exact ck h
set_option maxHeartbeats 4000000 in
set_option maxRecDepth 100000 in
theorem ok_X6_takeOver  {x0 : Nat} {x1 : Nat}  {M : Mem} {r : Mem}  (h : f_X6_takeOver  x0 x1 M = some r) : Ok l yX6_takeOver cX6_takeOver 2 none 1 [.ref (B + x0), .ref (B + x1)] D B ca st M none r := by
  have hk0 := ck_X6_takeOver h
  unfold f_X6_takeOver at h
  have h := ip hk0 h
  refine ok_of rfl rfl (Nat.le_of_ble_eq_true rfl) ?_
  intro p e s m args below meth c ls C hl hR hS
  have hl : lv_has ls 2 [(0, .ref (B + x0)), (1, .ref (B + x1))] := hl
  have hx := C.1
  have hb := C.2.1
  refine lv_aload_n hx hb dX6_takeOver_0 rfl (lv_at hl 1 rfl) ?_
  obtain ⟨v1, zqe2, h⟩ := ob h
  refine gf202 C hR zqe2 dX6_takeOver_1 ?_
  refine lv_iconst (v := 0) hx hb dX6_takeOver_4 (by decide) ?_
  refine lv_aload_n hx hb dX6_takeOver_5 rfl (lv_at hl 0 rfl) ?_
  obtain ⟨v3, zqe4, h⟩ := ob h
  refine gf202 C hR zqe4 dX6_takeOver_6 ?_
  refine lv_iconst (v := 0) hx hb dX6_takeOver_9 (by decide) ?_
  refine lv_iconst (v := 5) hx hb dX6_takeOver_10 (by decide) ?_
  obtain ⟨M5, zqe6, h⟩ := ob h
  refine rcp C hR hS hl.1 lk532 lk420 lk419 lk130 zqe6 ⟨Nat.le_of_ble_eq_true rfl, Nat.le_of_ble_eq_true rfl⟩ dX6_takeOver_11 (fun H locs hR hS => ?_)
  refine lv_aload_n hx hb dX6_takeOver_14 rfl (lv_at hl 1 rfl) ?_
  obtain ⟨v7, zqe8, h⟩ := ob h
  refine gf206 C hR zqe8 dX6_takeOver_15 ?_
  refine lv_iconst (v := 0) hx hb dX6_takeOver_18 (by decide) ?_
  refine lv_aload_n hx hb dX6_takeOver_19 rfl (lv_at hl 0 rfl) ?_
  obtain ⟨v9, zqe10, h⟩ := ob h
  refine gf206 C hR zqe10 dX6_takeOver_20 ?_
  refine lv_iconst (v := 0) hx hb dX6_takeOver_23 (by decide) ?_
  refine lv_iconst (v := 5) hx hb dX6_takeOver_24 (by decide) ?_
  obtain ⟨M11, zqe12, h⟩ := ob h
  refine rcp C hR hS hl.1 lk532 lk420 lk419 lk130 zqe12 ⟨Nat.le_of_ble_eq_true rfl, Nat.le_of_ble_eq_true rfl⟩ dX6_takeOver_25 (fun H locs hR hS => ?_)
  refine lv_aload_n hx hb dX6_takeOver_28 rfl (lv_at hl 0 rfl) ?_
  refine lv_aload_n hx hb dX6_takeOver_29 rfl (lv_at hl 1 rfl) ?_
  obtain ⟨v13, zqe14, h⟩ := ob h
  refine gf209 C hR zqe14 dX6_takeOver_30 ?_
  obtain ⟨M15, zqe16, h⟩ := ob h
  refine pf209 C hR hS zqe16 dX6_takeOver_33 (fun H locs hR hS => ?_)
  refine lv_aload_n hx hb dX6_takeOver_36 rfl (lv_at hl 0 rfl) ?_
  refine lv_aload_n hx hb dX6_takeOver_37 rfl (lv_at hl 1 rfl) ?_
  obtain ⟨v17, zqe18, h⟩ := ob h
  refine gf213 C hR zqe18 dX6_takeOver_38 ?_
  obtain ⟨M19, zqe20, h⟩ := ob h
  refine pf213 C hR hS zqe20 dX6_takeOver_41 (fun H locs hR hS => ?_)
  cases h
  exact rr_V C hR hS dX6_takeOver_44
set_option maxHeartbeats 4000000 in
set_option maxRecDepth 100000 in
theorem w_X7_plainGold_34  {k21 : Nat → Int32 → Int32 → Mem → Option (Int32 × Mem)}  {r : Int32 × Mem} (C : Cx p s m args meth c RX7 cX7_plainGold 4 (some .int) D B ca st)  (hk21 : ∀ {x0 : Nat} {x1 : Int32} {x2 : Int32} {M : Mem}, k21 x0 x1 x2 M = some r → ∀ {H : Heap} {locs : List Loc} {ls : Array Slot}, RH D B ca M H → va_S (AA B) s.heap H locs → lv_has ls 4 [(0, .ref (B + x0)), (1, .int x1), (2, .int x2)] → W p l e (rmD 4) s m args below meth c H locs 0 0 (MQ below (Qp D B ca st (some (.int r.1)) r.2) args s 0 0 (AA B)) (F0 m 21 ls [])) : ∀ (n : Nat) {x0 : Nat} {x1 : Int32} {x2 : Int32} {x3 : Int32} {M : Mem}, f_X7_plainGold_34 k21 n x0 x1 x2 x3 M = some r → ∀ {H : Heap} {locs : List Loc} {ls : Array Slot}, RH D B ca M H → va_S (AA B) s.heap H locs → lv_has ls 4 [(0, .ref (B + x0)), (1, .int x1), (2, .int x2), (3, .int x3)] → W p l e (rmD 4) s m args below meth c H locs 0 0 (MQ below (Qp D B ca st (some (.int r.1)) r.2) args s 0 0 (AA B)) (F0 m 34 ls []) := by
  have hx := C.1
  have hb := C.2.1
  intro n
  induction n with
  | zero => intro x0 x1 x2 x3 M h; simp [f_X7_plainGold_34] at h
  | succ n ih =>
    intro x0 x1 x2 x3 M h H locs ls hR hS hl
    rw [f_X7_plainGold_34] at h
    refine lv_iload_n hx hb dX7_plainGold_34 rfl (lv_at hl 3 rfl) ?_
    refine lv_aload_n hx hb dX7_plainGold_35 rfl (lv_at hl 0 rfl) ?_
    obtain ⟨v19, zqe20, h⟩ := ob h
    refine gf327 C hR zqe20 dX7_plainGold_36 ?_
    obtain ⟨v21, zqe22, h⟩ := ob h
    refine gf154 C hR zqe22 dX7_plainGold_39 ?_
    refine lv_icmp_ge (tgt := 88) hx hb dX7_plainGold_42 (by decide) (fun c => ?_) (fun c => ?_)
    · have h := ip c h
      refine lv_iinc (v := (x2 + 1)) (lv' := [(2, .int (x2 + 1)), (0, .ref (B + x0)), (1, .int x1), (3, .int x3)]) hx hb dX7_plainGold_88 hl (k := 2) rfl rfl (by decide) rfl (fun ls hl => ?_)
      refine lv_goto (tgt := 21) hx hb dX7_plainGold_91 (by decide) ?_
      exact hk21 h hR hS (lv_sub hl [1, 2, 0] rfl)
    · have h := iq c h
      refine lv_iload_n hx hb dX7_plainGold_45 rfl (lv_at hl 1 rfl) ?_
      refine lv_iload_n hx hb dX7_plainGold_46 rfl (lv_at hl 2 rfl) ?_
      refine rc_S C hR hS cf_X7_holds cs_X7_holds lk745 (ok_X7_holds x1 x2) ⟨Nat.le_of_ble_eq_true rfl, Nat.le_of_ble_eq_true rfl⟩ ⟨Nat.zero_le _, Nat.zero_le _⟩ rfl rfl hl.1 (Nat.le_of_ble_eq_true rfl) dX7_plainGold_47 (rc_k1 (fun H locs hR hS => ?_))
      refine lv_if_ne (tgt := 88) hx hb dX7_plainGold_50 (by decide) (fun c => ?_) (fun c => ?_)
      · have h := iq c h
        refine lv_iinc (v := (x2 + 1)) (lv' := [(2, .int (x2 + 1)), (0, .ref (B + x0)), (1, .int x1), (3, .int x3)]) hx hb dX7_plainGold_88 hl (k := 2) rfl rfl (by decide) rfl (fun ls hl => ?_)
        refine lv_goto (tgt := 21) hx hb dX7_plainGold_91 (by decide) ?_
        exact hk21 h hR hS (lv_sub hl [1, 2, 0] rfl)
      · have h := ip c h
        refine lv_aload_n hx hb dX7_plainGold_53 rfl (lv_at hl 0 rfl) ?_
        obtain ⟨v24, zqe25, h⟩ := ob h
        refine gf330 C hR zqe25 dX7_plainGold_54 ?_
        refine lv_aload_n hx hb dX7_plainGold_57 rfl (lv_at hl 0 rfl) ?_
        obtain ⟨v26, zqe27, h⟩ := ob h
        refine gf327 C hR zqe27 dX7_plainGold_58 ?_
        refine lv_iload_n hx hb dX7_plainGold_61 rfl (lv_at hl 3 rfl) ?_
        refine lv_iload_n hx hb dX7_plainGold_62 rfl (lv_at hl 2 rfl) ?_
        obtain ⟨v29, zqe28, h⟩ := ob h
        refine rc_VN C hR hS cf_X6_isAble cv_X6_isAble lk550 (ok_X6_isAble zqe28) (ck_X6_isAble zqe28) ⟨Nat.le_of_ble_eq_true rfl, Nat.le_of_ble_eq_true rfl⟩ ⟨Nat.zero_le _, Nat.zero_le _⟩ rfl rfl hl.1 (Nat.le_of_ble_eq_true rfl) dX7_plainGold_63 (rc_k1 (fun H locs hR hS => ?_))
        refine lv_if_eq (tgt := 82) hx hb dX7_plainGold_66 (by decide) (fun c => ?_) (fun c => ?_)
        · have h := ip c h
          refine lv_iinc (v := (x3 + 1)) (lv' := [(3, .int (x3 + 1)), (0, .ref (B + x0)), (1, .int x1), (2, .int x2)]) hx hb dX7_plainGold_82 hl (k := 3) rfl rfl (by decide) rfl (fun ls hl => ?_)
          refine lv_goto (tgt := 34) hx hb dX7_plainGold_85 (by decide) ?_
          exact ih h hR hS (lv_sub hl [1, 2, 3, 0] rfl)
        · have h := iq c h
          refine lv_aload_n hx hb dX7_plainGold_69 rfl (lv_at hl 0 rfl) ?_
          obtain ⟨v30, zqe31, h⟩ := ob h
          refine gf330 C hR zqe31 dX7_plainGold_70 ?_
          refine lv_aload_n hx hb dX7_plainGold_73 rfl (lv_at hl 0 rfl) ?_
          obtain ⟨v32, zqe33, h⟩ := ob h
          refine gf327 C hR zqe33 dX7_plainGold_74 ?_
          refine lv_iload_n hx hb dX7_plainGold_77 rfl (lv_at hl 3 rfl) ?_
          refine lv_iload_n hx hb dX7_plainGold_78 rfl (lv_at hl 2 rfl) ?_
          obtain ⟨M35, zqe34, h⟩ := ob h
          refine rc_VN C hR hS cf_X6_sighOrder cv_X6_sighOrder lk746 (ok_X6_sighOrder zqe34) (ck_X6_sighOrder zqe34) ⟨Nat.le_of_ble_eq_true rfl, Nat.le_of_ble_eq_true rfl⟩ ⟨Nat.zero_le _, Nat.zero_le _⟩ rfl rfl hl.1 (Nat.le_of_ble_eq_true rfl) dX7_plainGold_79 (rc_k0 (fun H locs hR hS => ?_))
          refine lv_iinc (v := (x3 + 1)) (lv' := [(3, .int (x3 + 1)), (0, .ref (B + x0)), (1, .int x1), (2, .int x2)]) hx hb dX7_plainGold_82 hl (k := 3) rfl rfl (by decide) rfl (fun ls hl => ?_)
          refine lv_goto (tgt := 34) hx hb dX7_plainGold_85 (by decide) ?_
          exact ih h hR hS (lv_sub hl [1, 2, 3, 0] rfl)
set_option maxHeartbeats 4000000 in
set_option maxRecDepth 100000 in
theorem w_X7_plainGold_21    {r : Int32 × Mem} (C : Cx p s m args meth c RX7 cX7_plainGold 4 (some .int) D B ca st)   : ∀ (n : Nat) {x0 : Nat} {x1 : Int32} {x2 : Int32} {M : Mem}, f_X7_plainGold_21  n x0 x1 x2 M = some r → ∀ {H : Heap} {locs : List Loc} {ls : Array Slot}, RH D B ca M H → va_S (AA B) s.heap H locs → lv_has ls 4 [(0, .ref (B + x0)), (1, .int x1), (2, .int x2)] → W p l e (rmD 4) s m args below meth c H locs 0 0 (MQ below (Qp D B ca st (some (.int r.1)) r.2) args s 0 0 (AA B)) (F0 m 21 ls []) := by
  have hx := C.1
  have hb := C.2.1
  intro n
  induction n with
  | zero => intro x0 x1 x2 M h; simp [f_X7_plainGold_21] at h
  | succ n ih =>
    intro x0 x1 x2 M h H locs ls hR hS hl
    rw [f_X7_plainGold_21] at h
    refine lv_iload_n hx hb dX7_plainGold_21 rfl (lv_at hl 2 rfl) ?_
    refine lv_aload_n hx hb dX7_plainGold_22 rfl (lv_at hl 0 rfl) ?_
    obtain ⟨v11, zqe12, h⟩ := ob h
    refine gf327 C hR zqe12 dX7_plainGold_23 ?_
    obtain ⟨v13, zqe14, h⟩ := ob h
    refine gf158 C hR zqe14 dX7_plainGold_26 ?_
    refine lv_icmp_ge (tgt := 94) hx hb dX7_plainGold_29 (by decide) (fun c => ?_) (fun c => ?_)
    · have h := ip c h
      refine lv_aload_n hx hb dX7_plainGold_94 rfl (lv_at hl 0 rfl) ?_
      obtain ⟨v15, zqe16, h⟩ := ob h
      refine gf330 C hR zqe16 dX7_plainGold_95 ?_
      obtain ⟨v17, zqe18, h⟩ := ob h
      refine gf214 C hR zqe18 dX7_plainGold_98 ?_
      cases h
      exact rr_I C hR hS dX7_plainGold_101
    · have h := iq c h
      refine lv_iconst (v := 0) hx hb dX7_plainGold_32 (by decide) ?_
      refine lv_istore_n (lv' := [(3, .int 0), (0, .ref (B + x0)), (1, .int x1), (2, .int x2)]) hx hb dX7_plainGold_33 rfl hl (by decide) rfl (fun ls hl => ?_)
      exact w_X7_plainGold_34 C (hk21 := @ih) FU h hR hS (lv_sub hl [1, 2, 3, 0] rfl)
theorem ck_X7_plainGold  {x0 : Nat} {x1 : Int32} {M : Mem} {r : Int32 × Mem} (h : f_X7_plainGold  x0 x1 M = some r) : kd M x0 = 17 := by
  unfold f_X7_plainGold at h
  exact ck h
set_option maxHeartbeats 4000000 in
set_option maxRecDepth 100000 in
theorem ok_X7_plainGold  {x0 : Nat} {x1 : Int32}  {M : Mem} {r : Int32 × Mem}  (h : f_X7_plainGold  x0 x1 M = some r) : Ok l yX7_plainGold cX7_plainGold 4 (some .int) 4 [.ref (B + x0), .int x1] D B ca st M (some (.int r.1)) r.2 := by
  have hk0 := ck_X7_plainGold h
  unfold f_X7_plainGold at h
  have h := ip hk0 h
  refine ok_of rfl rfl (Nat.le_of_ble_eq_true rfl) ?_
  intro p e s m args below meth c ls C hl hR hS
  have hl : lv_has ls 4 [(0, .ref (B + x0)), (1, .int x1)] := hl
  have hx := C.1
  have hb := C.2.1
  refine lv_aload_n hx hb dX7_plainGold_0 rfl (lv_at hl 0 rfl) ?_
  obtain ⟨v1, zqe2, h⟩ := ob h
  refine gf330 C hR zqe2 dX7_plainGold_1 ?_
  refine lv_aload_n hx hb dX7_plainGold_4 rfl (lv_at hl 0 rfl) ?_
  obtain ⟨v3, zqe4, h⟩ := ob h
  refine gf329 C hR zqe4 dX7_plainGold_5 ?_
  obtain ⟨M6, zqe5, h⟩ := ob h
  refine rc_VN C hR hS cf_X6_takeOver cv_X6_takeOver lk741 (ok_X6_takeOver zqe5) (ck_X6_takeOver zqe5) ⟨Nat.le_of_ble_eq_true rfl, Nat.le_of_ble_eq_true rfl⟩ ⟨Nat.zero_le _, Nat.zero_le _⟩ rfl rfl hl.1 (Nat.le_of_ble_eq_true rfl) dX7_plainGold_8 (rc_k0 (fun H locs hR hS => ?_))
  refine lv_aload_n hx hb dX7_plainGold_11 rfl (lv_at hl 0 rfl) ?_
  obtain ⟨v7, zqe8, h⟩ := ob h
  refine gf330 C hR zqe8 dX7_plainGold_12 ?_
  refine lv_iconst (v := 0) hx hb dX7_plainGold_15 (by decide) ?_
  obtain ⟨M9, zqe10, h⟩ := ob h
  refine pf214 C hR hS zqe10 dX7_plainGold_16 (fun H locs hR hS => ?_)
  refine lv_iconst (v := 0) hx hb dX7_plainGold_19 (by decide) ?_
  refine lv_istore_n (lv' := [(2, .int 0), (0, .ref (B + x0)), (1, .int x1)]) hx hb dX7_plainGold_20 rfl hl (by decide) rfl (fun ls hl => ?_)
  exact w_X7_plainGold_21 C  FU h hR hS (lv_sub hl [1, 2, 0] rfl)
set_option maxHeartbeats 4000000 in
set_option maxRecDepth 100000 in
theorem w_X7_tellChance_45    {r : Mem} {x0 : Nat} {x1 : Int64} {x3 : Int64} {x5 : Int64} {M : Mem} (C : Cx p s m args meth c RX7 cX7_tellChance 12 none D B ca st)   (h : f_X7_tellChance_45  x0 x1 x3 x5 M = some r) : ∀ {H : Heap} {locs : List Loc} {ls : Array Slot}, RH D B ca M H → va_S (AA B) s.heap H locs → lv_has ls 12 [(0, .ref (B + x0)), (1, .long x1), (3, .long x3), (5, .long x5)] → W p l e (rmD 0) s m args below meth c H locs 0 0 (MQ below (Qp D B ca st none r) args s 0 0 (AA B)) (F0 m 45 ls []) := by
  have hx := C.1
  have hb := C.2.1
  unfold f_X7_tellChance_45 at h
  intro H locs ls hR hS hl
  refine lv_lload hx hb dX7_tellChance_45 (lv_at hl 3 rfl) ?_
  refine lv_lconst (v := 0) hx hb dX7_tellChance_47 (by decide) ?_
  refine W.lcmp hx hb dX7_tellChance_48 ?_
  refine lv_if_le (tgt := 68) hx hb dX7_tellChance_49 (by decide) (fun c => ?_) (fun c => ?_)
  · have h := ip c h
    cases h
    exact rr_V C hR hS dX7_tellChance_68
  · have h := iq c h
    refine lv_aload_n hx hb dX7_tellChance_52 rfl (lv_at hl 0 rfl) ?_
    refine lv_lload_n hx hb dX7_tellChance_53 rfl (lv_at hl 1 rfl) ?_
    refine lv_lload hx hb dX7_tellChance_54 (lv_at hl 3 rfl) ?_
    by_cases zqz7 : x5 = 0
    · exact absurd (ip zqz7 h) (fun q => by cases q)
    have h := iq zqz7 h
    refine lv_ldiv hx hb dX7_tellChance_56 zqz7 ?_
    obtain ⟨M2, zqe3, h⟩ := ob h
    refine pf336 C hR hS zqe3 dX7_tellChance_57 (fun H locs hR hS => ?_)
    refine lv_aload_n hx hb dX7_tellChance_60 rfl (lv_at hl 0 rfl) ?_
    refine lv_lload_n hx hb dX7_tellChance_61 rfl (lv_at hl 2 rfl) ?_
    refine lv_lload hx hb dX7_tellChance_62 (lv_at hl 3 rfl) ?_
    by_cases zqz6 : x5 = 0
    · exact absurd (ip zqz6 h) (fun q => by cases q)
    have h := iq zqz6 h
    refine lv_ldiv hx hb dX7_tellChance_64 zqz6 ?_
    obtain ⟨M4, zqe5, h⟩ := ob h
    refine pf337 C hR hS zqe5 dX7_tellChance_65 (fun H locs hR hS => ?_)
    cases h
    exact rr_V C hR hS dX7_tellChance_68
set_option maxHeartbeats 4000000 in
set_option maxRecDepth 100000 in
theorem w_X7_tellChance_9    {r : Mem} (C : Cx p s m args meth c RX7 cX7_tellChance 12 none D B ca st)   : ∀ (n : Nat) {x0 : Nat} {x1 : Int64} {x3 : Int64} {x5 : Int64} {x7 : Int64} {x9 : Int32} {M : Mem}, f_X7_tellChance_9  n x0 x1 x3 x5 x7 x9 M = some r → ∀ {H : Heap} {locs : List Loc} {ls : Array Slot}, RH D B ca M H → va_S (AA B) s.heap H locs → lv_has ls 12 [(0, .ref (B + x0)), (1, .long x1), (3, .long x3), (5, .long x5), (7, .long x7), (9, .int x9)] → W p l e (rmD 0) s m args below meth c H locs 0 0 (MQ below (Qp D B ca st none r) args s 0 0 (AA B)) (F0 m 9 ls []) := by
  have hx := C.1
  have hb := C.2.1
  intro n
  induction n with
  | zero => intro x0 x1 x3 x5 x7 x9 M h; simp [f_X7_tellChance_9] at h
  | succ n ih =>
    intro x0 x1 x3 x5 x7 x9 M h H locs ls hR hS hl
    rw [f_X7_tellChance_9] at h
    refine lv_iload hx hb dX7_tellChance_9 (lv_at hl 5 rfl) ?_
    refine lv_sipush (v := 128) hx hb dX7_tellChance_11 (by decide) ?_
    refine lv_icmp_ge (tgt := 45) hx hb dX7_tellChance_14 (by decide) (fun c => ?_) (fun c => ?_)
    · have h := ip c h
      exact w_X7_tellChance_45 C  h hR hS (lv_sub hl [0, 1, 2, 3] rfl)
    · have h := iq c h
      refine lv_lload hx hb dX7_tellChance_17 (lv_at hl 4 rfl) ?_
      refine lv_lconst (v := 0) hx hb dX7_tellChance_19 (by decide) ?_
      refine W.lcmp hx hb dX7_tellChance_20 ?_
      refine lv_if_eq (tgt := 45) hx hb dX7_tellChance_21 (by decide) (fun c => ?_) (fun c => ?_)
      · have h := ip c h
        exact w_X7_tellChance_45 C  h hR hS (lv_sub hl [0, 1, 2, 3] rfl)
      · have h := iq c h
        refine lv_lload hx hb dX7_tellChance_24 (lv_at hl 3 rfl) ?_
        refine lv_lload hx hb dX7_tellChance_26 (lv_at hl 4 rfl) ?_
        by_cases zqz1 : x7 = 0
        · exact absurd (ip zqz1 h) (fun q => by cases q)
        have h := iq zqz1 h
        refine lv_lrem hx hb dX7_tellChance_28 zqz1 ?_
        refine lv_lstore (lv' := [(10, .long (x5 - x5 / x7 * x7)), (0, .ref (B + x0)), (1, .long x1), (3, .long x3), (5, .long x5), (7, .long x7), (9, .int x9)]) hx hb dX7_tellChance_29 hl (by decide) rfl (fun ls hl => ?_)
        refine lv_lload hx hb dX7_tellChance_31 (lv_at hl 5 rfl) ?_
        refine lv_lstore (lv' := [(5, .long x7), (10, .long (x5 - x5 / x7 * x7)), (0, .ref (B + x0)), (1, .long x1), (3, .long x3), (7, .long x7), (9, .int x9)]) hx hb dX7_tellChance_33 hl (by decide) rfl (fun ls hl => ?_)
        refine lv_lload hx hb dX7_tellChance_35 (lv_at hl 1 rfl) ?_
        refine lv_lstore (lv' := [(7, .long (x5 - x5 / x7 * x7)), (5, .long x7), (10, .long (x5 - x5 / x7 * x7)), (0, .ref (B + x0)), (1, .long x1), (3, .long x3), (9, .int x9)]) hx hb dX7_tellChance_37 hl (by decide) rfl (fun ls hl => ?_)
        refine lv_iinc (v := (x9 + 1)) (lv' := [(9, .int (x9 + 1)), (7, .long (x5 - x5 / x7 * x7)), (5, .long x7), (10, .long (x5 - x5 / x7 * x7)), (0, .ref (B + x0)), (1, .long x1), (3, .long x3)]) hx hb dX7_tellChance_39 hl (k := 6) rfl rfl (by decide) rfl (fun ls hl => ?_)
        refine lv_goto (tgt := 9) hx hb dX7_tellChance_42 (by decide) ?_
        exact ih h hR hS (lv_sub hl [4, 5, 6, 2, 1, 0] rfl)
theorem ck_X7_tellChance  {x0 : Nat} {x1 : Int64} {x3 : Int64} {M : Mem} {r : Mem} (h : f_X7_tellChance  x0 x1 x3 M = some r) : kd M x0 = 17 := by
  unfold f_X7_tellChance at h
  exact ck h
set_option maxHeartbeats 4000000 in
set_option maxRecDepth 100000 in
theorem ok_X7_tellChance  {x0 : Nat} {x1 : Int64} {x3 : Int64}  {M : Mem} {r : Mem}  (h : f_X7_tellChance  x0 x1 x3 M = some r) : Ok l yX7_tellChance cX7_tellChance 12 none 0 [.ref (B + x0), .long x1, .long x3] D B ca st M none r := by
  have hk0 := ck_X7_tellChance h
  unfold f_X7_tellChance at h
  have h := ip hk0 h
  refine ok_of rfl rfl (Nat.le_of_ble_eq_true rfl) ?_
  intro p e s m args below meth c ls C hl hR hS
  have hl : lv_has ls 12 [(0, .ref (B + x0)), (1, .long x1), (3, .long x3)] := hl
  have hx := C.1
  have hb := C.2.1
  refine lv_lload_n hx hb dX7_tellChance_0 rfl (lv_at hl 2 rfl) ?_
  refine lv_lstore (lv' := [(5, .long x3), (0, .ref (B + x0)), (1, .long x1), (3, .long x3)]) hx hb dX7_tellChance_1 hl (by decide) rfl (fun ls hl => ?_)
  refine lv_lload_n hx hb dX7_tellChance_3 rfl (lv_at hl 2 rfl) ?_
  refine lv_lstore (lv' := [(7, .long x1), (5, .long x3), (0, .ref (B + x0)), (1, .long x1), (3, .long x3)]) hx hb dX7_tellChance_4 hl (by decide) rfl (fun ls hl => ?_)
  refine lv_iconst (v := 0) hx hb dX7_tellChance_6 (by decide) ?_
  refine lv_istore (lv' := [(9, .int 0), (7, .long x1), (5, .long x3), (0, .ref (B + x0)), (1, .long x1), (3, .long x3)]) hx hb dX7_tellChance_7 hl (by decide) rfl (fun ls hl => ?_)
  exact w_X7_tellChance_9 C  FU h hR hS (lv_sub hl [3, 4, 5, 2, 1, 0] rfl)
set_option maxHeartbeats 4000000 in
set_option maxRecDepth 100000 in
theorem w_X7_weightOf_5    {r : Int64} (C : Cx p s m args meth c RX7 cX7_weightOf 6 (some .long) D B ca st)   : ∀ (n : Nat) {x0 : Nat} {x1 : Int32} {x2 : Int32} {x3 : Int64} {x5 : Int32} {M : Mem}, f_X7_weightOf_5  n x0 x1 x2 x3 x5 M = some r → ∀ {H : Heap} {locs : List Loc} {ls : Array Slot}, RH D B ca M H → va_S (AA B) s.heap H locs → lv_has ls 6 [(0, .ref (B + x0)), (1, .int x1), (2, .int x2), (3, .long x3), (5, .int x5)] → W p l e (rmD 2) s m args below meth c H locs 0 0 (MQ below (Qp D B ca st (some (.long r)) M) args s 0 0 (AA B)) (F0 m 5 ls []) := by
  have hx := C.1
  have hb := C.2.1
  intro n
  induction n with
  | zero => intro x0 x1 x2 x3 x5 M h; simp [f_X7_weightOf_5] at h
  | succ n ih =>
    intro x0 x1 x2 x3 x5 M h H locs ls hR hS hl
    rw [f_X7_weightOf_5] at h
    refine lv_iload hx hb dX7_weightOf_5 (lv_at hl 4 rfl) ?_
    refine lv_aload_n hx hb dX7_weightOf_7 rfl (lv_at hl 0 rfl) ?_
    obtain ⟨v1, zqe2, h⟩ := ob h
    refine gf327 C hR zqe2 dX7_weightOf_8 ?_
    obtain ⟨v3, zqe4, h⟩ := ob h
    refine gf158 C hR zqe4 dX7_weightOf_11 ?_
    refine lv_icmp_ge (tgt := 57) hx hb dX7_weightOf_14 (by decide) (fun c => ?_) (fun c => ?_)
    · have h := ip c h
      refine lv_lload_n hx hb dX7_weightOf_57 rfl (lv_at hl 3 rfl) ?_
      cases h
      exact rr_L C hR hS dX7_weightOf_58
    · have h := iq c h
      refine lv_aload_n hx hb dX7_weightOf_17 rfl (lv_at hl 0 rfl) ?_
      obtain ⟨v5, zqe6, h⟩ := ob h
      refine gf329 C hR zqe6 dX7_weightOf_18 ?_
      refine lv_iload hx hb dX7_weightOf_21 (lv_at hl 4 rfl) ?_
      obtain ⟨v8, zqe7, h⟩ := ob h
      refine rc_VN C hR hS cf_X6_isDone cv_X6_isDone lk580 (ok_X6_isDone zqe7) (ck_X6_isDone zqe7) ⟨Nat.le_of_ble_eq_true rfl, Nat.le_of_ble_eq_true rfl⟩ ⟨Nat.zero_le _, Nat.zero_le _⟩ rfl rfl hl.1 (Nat.le_of_ble_eq_true rfl) dX7_weightOf_23 (rc_k1 (fun H locs hR hS => ?_))
      refine lv_if_ne (tgt := 51) hx hb dX7_weightOf_26 (by decide) (fun c => ?_) (fun c => ?_)
      · have h := iq c h
        refine lv_iinc (v := (x5 + 1)) (lv' := [(5, .int (x5 + 1)), (0, .ref (B + x0)), (1, .int x1), (2, .int x2), (3, .long x3)]) hx hb dX7_weightOf_51 hl (k := 4) rfl rfl (by decide) rfl (fun ls hl => ?_)
        refine lv_goto (tgt := 5) hx hb dX7_weightOf_54 (by decide) ?_
        exact ih h hR hS (lv_sub hl [1, 2, 3, 4, 0] rfl)
      · have h := ip c h
        refine lv_lload_n hx hb dX7_weightOf_29 rfl (lv_at hl 3 rfl) ?_
        refine lv_iload_n hx hb dX7_weightOf_30 rfl (lv_at hl 1 rfl) ?_
        refine lv_iload hx hb dX7_weightOf_31 (lv_at hl 4 rfl) ?_
        refine rc_S C hR hS cf_X7_holds cs_X7_holds lk745 (ok_X7_holds x1 x5) ⟨Nat.le_of_ble_eq_true rfl, Nat.le_of_ble_eq_true rfl⟩ ⟨Nat.zero_le _, Nat.zero_le _⟩ rfl rfl hl.1 (Nat.le_of_ble_eq_true rfl) dX7_weightOf_33 (rc_k1 (fun H locs hR hS => ?_))
        refine lv_if_eq (tgt := 44) hx hb dX7_weightOf_36 (by decide) (fun c => ?_) (fun c => ?_)
        · have h := ip c h
          refine lv_bipush (v := 12) hx hb dX7_weightOf_44 (by decide) ?_
          refine lv_iload_n hx hb dX7_weightOf_46 rfl (lv_at hl 2 rfl) ?_
          refine lv_isub hx hb dX7_weightOf_47 ?_
          refine lv_i2l (v := (Int32.toInt64 (12 - x2))) hx hb dX7_weightOf_48 rfl ?_
          refine lv_lmul hx hb dX7_weightOf_49 ?_
          refine lv_lstore_n (lv' := [(3, .long (x3 * (Int32.toInt64 (12 - x2)))), (0, .ref (B + x0)), (1, .int x1), (2, .int x2), (5, .int x5)]) hx hb dX7_weightOf_50 rfl hl (by decide) rfl (fun ls hl => ?_)
          refine lv_iinc (v := (x5 + 1)) (lv' := [(5, .int (x5 + 1)), (3, .long (x3 * (Int32.toInt64 (12 - x2)))), (0, .ref (B + x0)), (1, .int x1), (2, .int x2)]) hx hb dX7_weightOf_51 hl (k := 4) rfl rfl (by decide) rfl (fun ls hl => ?_)
          refine lv_goto (tgt := 5) hx hb dX7_weightOf_54 (by decide) ?_
          exact ih h hR hS (lv_sub hl [2, 3, 4, 1, 0] rfl)
        · have h := iq c h
          refine lv_iload_n hx hb dX7_weightOf_39 rfl (lv_at hl 2 rfl) ?_
          refine lv_i2l (v := (Int32.toInt64 x2)) hx hb dX7_weightOf_40 rfl ?_
          refine lv_goto (tgt := 49) hx hb dX7_weightOf_41 (by decide) ?_
          refine lv_lmul hx hb dX7_weightOf_49 ?_
          refine lv_lstore_n (lv' := [(3, .long (x3 * (Int32.toInt64 x2))), (0, .ref (B + x0)), (1, .int x1), (2, .int x2), (5, .int x5)]) hx hb dX7_weightOf_50 rfl hl (by decide) rfl (fun ls hl => ?_)
          refine lv_iinc (v := (x5 + 1)) (lv' := [(5, .int (x5 + 1)), (3, .long (x3 * (Int32.toInt64 x2))), (0, .ref (B + x0)), (1, .int x1), (2, .int x2)]) hx hb dX7_weightOf_51 hl (k := 4) rfl rfl (by decide) rfl (fun ls hl => ?_)
          refine lv_goto (tgt := 5) hx hb dX7_weightOf_54 (by decide) ?_
          exact ih h hR hS (lv_sub hl [2, 3, 4, 1, 0] rfl)
theorem ck_X7_weightOf  {x0 : Nat} {x1 : Int32} {x2 : Int32} {M : Mem} {r : Int64} (h : f_X7_weightOf  x0 x1 x2 M = some r) : kd M x0 = 17 := by
  unfold f_X7_weightOf at h
  exact ck h
set_option maxHeartbeats 4000000 in
set_option maxRecDepth 100000 in
theorem ok_X7_weightOf  {x0 : Nat} {x1 : Int32} {x2 : Int32}  {M : Mem} {r : Int64}  (h : f_X7_weightOf  x0 x1 x2 M = some r) : Ok l yX7_weightOf cX7_weightOf 6 (some .long) 2 [.ref (B + x0), .int x1, .int x2] D B ca st M (some (.long r)) M := by
  have hk0 := ck_X7_weightOf h
  unfold f_X7_weightOf at h
  have h := ip hk0 h
  refine ok_of rfl rfl (Nat.le_of_ble_eq_true rfl) ?_
  intro p e s m args below meth c ls C hl hR hS
  have hl : lv_has ls 6 [(0, .ref (B + x0)), (1, .int x1), (2, .int x2)] := hl
  have hx := C.1
  have hb := C.2.1
  refine lv_lconst (v := 1) hx hb dX7_weightOf_0 (by decide) ?_
  refine lv_lstore_n (lv' := [(3, .long 1), (0, .ref (B + x0)), (1, .int x1), (2, .int x2)]) hx hb dX7_weightOf_1 rfl hl (by decide) rfl (fun ls hl => ?_)
  refine lv_iconst (v := 0) hx hb dX7_weightOf_2 (by decide) ?_
  refine lv_istore (lv' := [(5, .int 0), (3, .long 1), (0, .ref (B + x0)), (1, .int x1), (2, .int x2)]) hx hb dX7_weightOf_3 hl (by decide) rfl (fun ls hl => ?_)
  exact w_X7_weightOf_5 C  FU h hR hS (lv_sub hl [2, 3, 4, 1, 0] rfl)
set_option maxHeartbeats 4000000 in
set_option maxRecDepth 100000 in
theorem w_X7_weightOfAll_4    {r : Int64} (C : Cx p s m args meth c RX7 cX7_weightOfAll 4 (some .long) D B ca st)   : ∀ (n : Nat) {x0 : Nat} {x1 : Int64} {x3 : Int32} {M : Mem}, f_X7_weightOfAll_4  n x0 x1 x3 M = some r → ∀ {H : Heap} {locs : List Loc} {ls : Array Slot}, RH D B ca M H → va_S (AA B) s.heap H locs → lv_has ls 4 [(0, .ref (B + x0)), (1, .long x1), (3, .int x3)] → W p l e (rmD 2) s m args below meth c H locs 0 0 (MQ below (Qp D B ca st (some (.long r)) M) args s 0 0 (AA B)) (F0 m 4 ls []) := by
  have hx := C.1
  have hb := C.2.1
  intro n
  induction n with
  | zero => intro x0 x1 x3 M h; simp [f_X7_weightOfAll_4] at h
  | succ n ih =>
    intro x0 x1 x3 M h H locs ls hR hS hl
    rw [f_X7_weightOfAll_4] at h
    refine lv_iload_n hx hb dX7_weightOfAll_4 rfl (lv_at hl 2 rfl) ?_
    refine lv_aload_n hx hb dX7_weightOfAll_5 rfl (lv_at hl 0 rfl) ?_
    obtain ⟨v1, zqe2, h⟩ := ob h
    refine gf327 C hR zqe2 dX7_weightOfAll_6 ?_
    obtain ⟨v3, zqe4, h⟩ := ob h
    refine gf158 C hR zqe4 dX7_weightOfAll_9 ?_
    refine lv_icmp_ge (tgt := 38) hx hb dX7_weightOfAll_12 (by decide) (fun c => ?_) (fun c => ?_)
    · have h := ip c h
      refine lv_lload_n hx hb dX7_weightOfAll_38 rfl (lv_at hl 1 rfl) ?_
      cases h
      exact rr_L C hR hS dX7_weightOfAll_39
    · have h := iq c h
      refine lv_aload_n hx hb dX7_weightOfAll_15 rfl (lv_at hl 0 rfl) ?_
      obtain ⟨v5, zqe6, h⟩ := ob h
      refine gf329 C hR zqe6 dX7_weightOfAll_16 ?_
      refine lv_iload_n hx hb dX7_weightOfAll_19 rfl (lv_at hl 2 rfl) ?_
      obtain ⟨v8, zqe7, h⟩ := ob h
      refine rc_VN C hR hS cf_X6_isDone cv_X6_isDone lk580 (ok_X6_isDone zqe7) (ck_X6_isDone zqe7) ⟨Nat.le_of_ble_eq_true rfl, Nat.le_of_ble_eq_true rfl⟩ ⟨Nat.zero_le _, Nat.zero_le _⟩ rfl rfl hl.1 (Nat.le_of_ble_eq_true rfl) dX7_weightOfAll_20 (rc_k1 (fun H locs hR hS => ?_))
      refine lv_if_ne (tgt := 32) hx hb dX7_weightOfAll_23 (by decide) (fun c => ?_) (fun c => ?_)
      · have h := iq c h
        refine lv_iinc (v := (x3 + 1)) (lv' := [(3, .int (x3 + 1)), (0, .ref (B + x0)), (1, .long x1)]) hx hb dX7_weightOfAll_32 hl (k := 2) rfl rfl (by decide) rfl (fun ls hl => ?_)
        refine lv_goto (tgt := 4) hx hb dX7_weightOfAll_35 (by decide) ?_
        exact ih h hR hS (lv_sub hl [1, 2, 0] rfl)
      · have h := ip c h
        refine lv_lload_n hx hb dX7_weightOfAll_26 rfl (lv_at hl 1 rfl) ?_
        refine lv_ldc2 hx hb C.2.2.2.1 (C.2.2.2.2.1 _ lk858) dX7_weightOfAll_27 ?_
        refine lv_lmul hx hb dX7_weightOfAll_30 ?_
        refine lv_lstore_n (lv' := [(1, .long (x1 * 12)), (0, .ref (B + x0)), (3, .int x3)]) hx hb dX7_weightOfAll_31 rfl hl (by decide) rfl (fun ls hl => ?_)
        refine lv_iinc (v := (x3 + 1)) (lv' := [(3, .int (x3 + 1)), (1, .long (x1 * 12)), (0, .ref (B + x0))]) hx hb dX7_weightOfAll_32 hl (k := 2) rfl rfl (by decide) rfl (fun ls hl => ?_)
        refine lv_goto (tgt := 4) hx hb dX7_weightOfAll_35 (by decide) ?_
        exact ih h hR hS (lv_sub hl [2, 1, 0] rfl)
theorem ck_X7_weightOfAll  {x0 : Nat} {M : Mem} {r : Int64} (h : f_X7_weightOfAll  x0 M = some r) : kd M x0 = 17 := by
  unfold f_X7_weightOfAll at h
  exact ck h
set_option maxHeartbeats 4000000 in
set_option maxRecDepth 100000 in
theorem ok_X7_weightOfAll  {x0 : Nat}  {M : Mem} {r : Int64}  (h : f_X7_weightOfAll  x0 M = some r) : Ok l yX7_weightOfAll cX7_weightOfAll 4 (some .long) 2 [.ref (B + x0)] D B ca st M (some (.long r)) M := by
  have hk0 := ck_X7_weightOfAll h
  unfold f_X7_weightOfAll at h
  have h := ip hk0 h
  refine ok_of rfl rfl (Nat.le_of_ble_eq_true rfl) ?_
  intro p e s m args below meth c ls C hl hR hS
  have hl : lv_has ls 4 [(0, .ref (B + x0))] := hl
  have hx := C.1
  have hb := C.2.1
  refine lv_lconst (v := 1) hx hb dX7_weightOfAll_0 (by decide) ?_
  refine lv_lstore_n (lv' := [(1, .long 1), (0, .ref (B + x0))]) hx hb dX7_weightOfAll_1 rfl hl (by decide) rfl (fun ls hl => ?_)
  refine lv_iconst (v := 0) hx hb dX7_weightOfAll_2 (by decide) ?_
  refine lv_istore_n (lv' := [(3, .int 0), (1, .long 1), (0, .ref (B + x0))]) hx hb dX7_weightOfAll_3 rfl hl (by decide) rfl (fun ls hl => ?_)
  exact w_X7_weightOfAll_4 C  FU h hR hS (lv_sub hl [2, 1, 0] rfl)
set_option maxHeartbeats 4000000 in
set_option maxRecDepth 100000 in
theorem w_X7_mid_30    {r : Int32 × Mem} (C : Cx p s m args meth c RX7 cX7_mid 5 (some .int) D B ca st)   : ∀ (n : Nat) {x0 : Nat} {x1 : Int32} {x2 : Int64} {x4 : Int32} {M : Mem}, f_X7_mid_30  n x0 x1 x2 x4 M = some r → ∀ {H : Heap} {locs : List Loc} {ls : Array Slot}, RH D B ca M H → va_S (AA B) s.heap H locs → lv_has ls 5 [(0, .ref (B + x0)), (1, .int x1), (2, .long x2), (4, .int x4)] → W p l e (rmD 5) s m args below meth c H locs 0 0 (MQ below (Qp D B ca st (some (.int r.1)) r.2) args s 0 0 (AA B)) (F0 m 30 ls []) := by
  have hx := C.1
  have hb := C.2.1
  intro n
  induction n with
  | zero => intro x0 x1 x2 x4 M h; simp [f_X7_mid_30] at h
  | succ n ih =>
    intro x0 x1 x2 x4 M h H locs ls hR hS hl
    rw [f_X7_mid_30] at h
    refine lv_iload hx hb dX7_mid_30 (lv_at hl 3 rfl) ?_
    refine lv_iconst (v := 1) hx hb dX7_mid_32 (by decide) ?_
    refine lv_aload_n hx hb dX7_mid_33 rfl (lv_at hl 0 rfl) ?_
    obtain ⟨v5, zqe6, h⟩ := ob h
    refine gf327 C hR zqe6 dX7_mid_34 ?_
    obtain ⟨v7, zqe8, h⟩ := ob h
    refine gf158 C hR zqe8 dX7_mid_37 ?_
    refine lv_ishl hx hb dX7_mid_40 ?_
    refine lv_icmp_ge (tgt := 81) hx hb dX7_mid_41 (by decide) (fun c => ?_) (fun c => ?_)
    · have h := ip c h
      refine lv_aload_n hx hb dX7_mid_81 rfl (lv_at hl 0 rfl) ?_
      refine lv_lload_n hx hb dX7_mid_82 rfl (lv_at hl 2 rfl) ?_
      refine lv_aload_n hx hb dX7_mid_83 rfl (lv_at hl 0 rfl) ?_
      obtain ⟨v10, zqe9, h⟩ := ob h
      refine rc_V C hR hS cf_X7_weightOfAll cv_X7_weightOfAll lk854 (ok_X7_weightOfAll zqe9) (ck_X7_weightOfAll zqe9) ⟨Nat.le_of_ble_eq_true rfl, Nat.le_of_ble_eq_true rfl⟩ ⟨Nat.zero_le _, Nat.zero_le _⟩ rfl rfl hl.1 (Nat.le_of_ble_eq_true rfl) dX7_mid_84 (rc_k1 (fun H locs hR hS => ?_))
      obtain ⟨M12, zqe11, h⟩ := ob h
      refine rc_V C hR hS cf_X7_tellChance cv_X7_tellChance lk859 (ok_X7_tellChance zqe11) (ck_X7_tellChance zqe11) ⟨Nat.le_of_ble_eq_true rfl, Nat.le_of_ble_eq_true rfl⟩ ⟨Nat.zero_le _, Nat.zero_le _⟩ rfl rfl hl.1 (Nat.le_of_ble_eq_true rfl) dX7_mid_87 (rc_k0 (fun H locs hR hS => ?_))
      refine lv_iconst (v := 1) hx hb dX7_mid_90 (by decide) ?_
      cases h
      exact rr_I C hR hS dX7_mid_91
    · have h := iq c h
      refine lv_iload hx hb dX7_mid_44 (lv_at hl 3 rfl) ?_
      refine lv_aload_n hx hb dX7_mid_46 rfl (lv_at hl 0 rfl) ?_
      obtain ⟨v13, zqe14, h⟩ := ob h
      refine gf329 C hR zqe14 dX7_mid_47 ?_
      obtain ⟨v15, zqe16, h⟩ := ob h
      refine gf212 C hR zqe16 dX7_mid_50 ?_
      refine lv_iand hx hb dX7_mid_53 ?_
      refine lv_if_ne (tgt := 75) hx hb dX7_mid_54 (by decide) (fun c => ?_) (fun c => ?_)
      · have h := iq c h
        refine lv_iinc (v := (x4 + 1)) (lv' := [(4, .int (x4 + 1)), (0, .ref (B + x0)), (1, .int x1), (2, .long x2)]) hx hb dX7_mid_75 hl (k := 3) rfl rfl (by decide) rfl (fun ls hl => ?_)
        refine lv_goto (tgt := 30) hx hb dX7_mid_78 (by decide) ?_
        exact ih h hR hS (lv_sub hl [1, 2, 3, 0] rfl)
      · have h := ip c h
        refine lv_lload_n hx hb dX7_mid_57 rfl (lv_at hl 2 rfl) ?_
        refine lv_aload_n hx hb dX7_mid_58 rfl (lv_at hl 0 rfl) ?_
        refine lv_iload hx hb dX7_mid_59 (lv_at hl 3 rfl) ?_
        refine lv_iload_n hx hb dX7_mid_61 rfl (lv_at hl 1 rfl) ?_
        obtain ⟨v18, zqe17, h⟩ := ob h
        refine rc_V C hR hS cf_X7_weightOf cv_X7_weightOf lk850 (ok_X7_weightOf zqe17) (ck_X7_weightOf zqe17) ⟨Nat.le_of_ble_eq_true rfl, Nat.le_of_ble_eq_true rfl⟩ ⟨Nat.zero_le _, Nat.zero_le _⟩ rfl rfl hl.1 (Nat.le_of_ble_eq_true rfl) dX7_mid_62 (rc_k1 (fun H locs hR hS => ?_))
        refine lv_aload_n hx hb dX7_mid_65 rfl (lv_at hl 0 rfl) ?_
        refine lv_iload hx hb dX7_mid_66 (lv_at hl 3 rfl) ?_
        obtain ⟨qv20, zqe19, h⟩ := ob h
        refine rc_V C hR hS cf_X7_plainGold cv_X7_plainGold lk737 (ok_X7_plainGold zqe19) (ck_X7_plainGold zqe19) ⟨Nat.le_of_ble_eq_true rfl, Nat.le_of_ble_eq_true rfl⟩ ⟨Nat.zero_le _, Nat.zero_le _⟩ rfl rfl hl.1 (Nat.le_of_ble_eq_true rfl) dX7_mid_68 (rc_k1 (fun H locs hR hS => ?_))
        refine lv_i2l (v := (Int32.toInt64 qv20.1)) hx hb dX7_mid_71 rfl ?_
        refine lv_lmul hx hb dX7_mid_72 ?_
        refine lv_ladd hx hb dX7_mid_73 ?_
        refine lv_lstore_n (lv' := [(2, .long (x2 + (v18 * (Int32.toInt64 qv20.1)))), (0, .ref (B + x0)), (1, .int x1), (4, .int x4)]) hx hb dX7_mid_74 rfl hl (by decide) rfl (fun ls hl => ?_)
        refine lv_iinc (v := (x4 + 1)) (lv' := [(4, .int (x4 + 1)), (2, .long (x2 + (v18 * (Int32.toInt64 qv20.1)))), (0, .ref (B + x0)), (1, .int x1)]) hx hb dX7_mid_75 hl (k := 3) rfl rfl (by decide) rfl (fun ls hl => ?_)
        refine lv_goto (tgt := 30) hx hb dX7_mid_78 (by decide) ?_
        exact ih h hR hS (lv_sub hl [2, 3, 1, 0] rfl)
theorem ck_X7_mid  {x0 : Nat} {x1 : Int32} {M : Mem} {r : Int32 × Mem} (h : f_X7_mid  x0 x1 M = some r) : kd M x0 = 17 := by
  unfold f_X7_mid at h
  exact ck h
set_option maxHeartbeats 4000000 in
set_option maxRecDepth 100000 in
theorem ok_X7_mid  {x0 : Nat} {x1 : Int32}  {M : Mem} {r : Int32 × Mem}  (h : f_X7_mid  x0 x1 M = some r) : Ok l yX7_mid cX7_mid 5 (some .int) 5 [.ref (B + x0), .int x1] D B ca st M (some (.int r.1)) r.2 := by
  have hk0 := ck_X7_mid h
  unfold f_X7_mid at h
  have h := ip hk0 h
  refine ok_of rfl rfl (Nat.le_of_ble_eq_true rfl) ?_
  intro p e s m args below meth c ls C hl hR hS
  have hl : lv_has ls 5 [(0, .ref (B + x0)), (1, .int x1)] := hl
  have hx := C.1
  have hb := C.2.1
  refine lv_iload_n hx hb dX7_mid_0 rfl (lv_at hl 1 rfl) ?_
  refine lv_if_lt (tgt := 10) hx hb dX7_mid_1 (by decide) (fun c => ?_) (fun c => ?_)
  · have h := ip c h
    refine lv_iconst (v := (-1)) hx hb dX7_mid_10 (by decide) ?_
    cases h
    exact rr_I C hR hS dX7_mid_11
  · have h := iq c h
    refine lv_iload_n hx hb dX7_mid_4 rfl (lv_at hl 1 rfl) ?_
    refine lv_bipush (v := 12) hx hb dX7_mid_5 (by decide) ?_
    refine lv_icmp_le (tgt := 12) hx hb dX7_mid_7 (by decide) (fun c => ?_) (fun c => ?_)
    · have h := ip c h
      refine lv_aload_n hx hb dX7_mid_12 rfl (lv_at hl 0 rfl) ?_
      obtain ⟨v1, zqe2, h⟩ := ob h
      refine gf327 C hR zqe2 dX7_mid_13 ?_
      obtain ⟨v3, zqe4, h⟩ := ob h
      refine gf154 C hR zqe4 dX7_mid_16 ?_
      refine lv_if_ne (tgt := 25) hx hb dX7_mid_19 (by decide) (fun c => ?_) (fun c => ?_)
      · have h := iq c h
        refine lv_lconst (v := 0) hx hb dX7_mid_25 (by decide) ?_
        refine lv_lstore_n (lv' := [(2, .long 0), (0, .ref (B + x0)), (1, .int x1)]) hx hb dX7_mid_26 rfl hl (by decide) rfl (fun ls hl => ?_)
        refine lv_iconst (v := 0) hx hb dX7_mid_27 (by decide) ?_
        refine lv_istore (lv' := [(4, .int 0), (2, .long 0), (0, .ref (B + x0)), (1, .int x1)]) hx hb dX7_mid_28 hl (by decide) rfl (fun ls hl => ?_)
        exact w_X7_mid_30 C  FU h hR hS (lv_sub hl [2, 3, 1, 0] rfl)
      · have h := ip c h
        refine lv_bipush (v := (-4)) hx hb dX7_mid_22 (by decide) ?_
        cases h
        exact rr_I C hR hS dX7_mid_24
    · have h := iq c h
      refine lv_iconst (v := (-1)) hx hb dX7_mid_10 (by decide) ?_
      cases h
      exact rr_I C hR hS dX7_mid_11
theorem ck_X7_most  {x0 : Nat} {x1 : Int32} {M : Mem} {r : Int32 × Mem} (h : f_X7_most  x0 x1 M = some r) : kd M x0 = 17 := by
  unfold f_X7_most at h
  exact ck h
set_option maxHeartbeats 4000000 in
set_option maxRecDepth 100000 in
theorem ok_X7_most  {x0 : Nat} {x1 : Int32}  {M : Mem} {r : Int32 × Mem}  (h : f_X7_most  x0 x1 M = some r) : Ok l yX7_most cX7_most 2 (some .int) 15 [.ref (B + x0), .int x1] D B ca st M (some (.int r.1)) r.2 := by
  have hk0 := ck_X7_most h
  unfold f_X7_most at h
  have h := ip hk0 h
  refine ok_of rfl rfl (Nat.le_of_ble_eq_true rfl) ?_
  intro p e s m args below meth c ls C hl hR hS
  have hl : lv_has ls 2 [(0, .ref (B + x0)), (1, .int x1)] := hl
  have hx := C.1
  have hb := C.2.1
  refine lv_aload_n hx hb dX7_most_0 rfl (lv_at hl 0 rfl) ?_
  refine lv_iload_n hx hb dX7_most_1 rfl (lv_at hl 1 rfl) ?_
  refine lv_iconst (v := 0) hx hb dX7_most_2 (by decide) ?_
  obtain ⟨qv2, zqe1, h⟩ := ob h
  refine rc_V C hR hS cf_X7_giveOut cv_X7_giveOut lk688 (ok_X7_giveOut zqe1) (ck_X7_giveOut zqe1) ⟨Nat.le_of_ble_eq_true rfl, Nat.le_of_ble_eq_true rfl⟩ ⟨Nat.zero_le _, Nat.zero_le _⟩ rfl rfl hl.1 (Nat.le_of_ble_eq_true rfl) dX7_most_3 (rc_k1 (fun H locs hR hS => ?_))
  cases h
  exact rr_I C hR hS dX7_most_6
set_option maxHeartbeats 4000000 in
set_option maxRecDepth 100000 in
theorem w_X7_odds_40    {r : Int32 × Mem} (C : Cx p s m args meth c RX7 cX7_odds 6 (some .int) D B ca st)   : ∀ (n : Nat) {x0 : Nat} {x1 : Int32} {x2 : Int32} {x3 : Int64} {x5 : Int32} {M : Mem}, f_X7_odds_40  n x0 x1 x2 x3 x5 M = some r → ∀ {H : Heap} {locs : List Loc} {ls : Array Slot}, RH D B ca M H → va_S (AA B) s.heap H locs → lv_has ls 6 [(0, .ref (B + x0)), (1, .int x1), (2, .int x2), (3, .long x3), (5, .int x5)] → W p l e (rmD 5) s m args below meth c H locs 0 0 (MQ below (Qp D B ca st (some (.int r.1)) r.2) args s 0 0 (AA B)) (F0 m 40 ls []) := by
  have hx := C.1
  have hb := C.2.1
  intro n
  induction n with
  | zero => intro x0 x1 x2 x3 x5 M h; simp [f_X7_odds_40] at h
  | succ n ih =>
    intro x0 x1 x2 x3 x5 M h H locs ls hR hS hl
    rw [f_X7_odds_40] at h
    refine lv_iload hx hb dX7_odds_40 (lv_at hl 4 rfl) ?_
    refine lv_iconst (v := 1) hx hb dX7_odds_42 (by decide) ?_
    refine lv_aload_n hx hb dX7_odds_43 rfl (lv_at hl 0 rfl) ?_
    obtain ⟨v5, zqe6, h⟩ := ob h
    refine gf327 C hR zqe6 dX7_odds_44 ?_
    obtain ⟨v7, zqe8, h⟩ := ob h
    refine gf158 C hR zqe8 dX7_odds_47 ?_
    refine lv_ishl hx hb dX7_odds_50 ?_
    refine lv_icmp_ge (tgt := 93) hx hb dX7_odds_51 (by decide) (fun c => ?_) (fun c => ?_)
    · have h := ip c h
      refine lv_aload_n hx hb dX7_odds_93 rfl (lv_at hl 0 rfl) ?_
      refine lv_lload_n hx hb dX7_odds_94 rfl (lv_at hl 3 rfl) ?_
      refine lv_aload_n hx hb dX7_odds_95 rfl (lv_at hl 0 rfl) ?_
      obtain ⟨v10, zqe9, h⟩ := ob h
      refine rc_V C hR hS cf_X7_weightOfAll cv_X7_weightOfAll lk854 (ok_X7_weightOfAll zqe9) (ck_X7_weightOfAll zqe9) ⟨Nat.le_of_ble_eq_true rfl, Nat.le_of_ble_eq_true rfl⟩ ⟨Nat.zero_le _, Nat.zero_le _⟩ rfl rfl hl.1 (Nat.le_of_ble_eq_true rfl) dX7_odds_96 (rc_k1 (fun H locs hR hS => ?_))
      obtain ⟨M12, zqe11, h⟩ := ob h
      refine rc_V C hR hS cf_X7_tellChance cv_X7_tellChance lk859 (ok_X7_tellChance zqe11) (ck_X7_tellChance zqe11) ⟨Nat.le_of_ble_eq_true rfl, Nat.le_of_ble_eq_true rfl⟩ ⟨Nat.zero_le _, Nat.zero_le _⟩ rfl rfl hl.1 (Nat.le_of_ble_eq_true rfl) dX7_odds_99 (rc_k0 (fun H locs hR hS => ?_))
      refine lv_iconst (v := 1) hx hb dX7_odds_102 (by decide) ?_
      cases h
      exact rr_I C hR hS dX7_odds_103
    · have h := iq c h
      refine lv_iload hx hb dX7_odds_54 (lv_at hl 4 rfl) ?_
      refine lv_aload_n hx hb dX7_odds_56 rfl (lv_at hl 0 rfl) ?_
      obtain ⟨v13, zqe14, h⟩ := ob h
      refine gf329 C hR zqe14 dX7_odds_57 ?_
      obtain ⟨v15, zqe16, h⟩ := ob h
      refine gf212 C hR zqe16 dX7_odds_60 ?_
      refine lv_iand hx hb dX7_odds_63 ?_
      refine lv_if_ne (tgt := 87) hx hb dX7_odds_64 (by decide) (fun c => ?_) (fun c => ?_)
      · have h := iq c h
        refine lv_iinc (v := (x5 + 1)) (lv' := [(5, .int (x5 + 1)), (0, .ref (B + x0)), (1, .int x1), (2, .int x2), (3, .long x3)]) hx hb dX7_odds_87 hl (k := 4) rfl rfl (by decide) rfl (fun ls hl => ?_)
        refine lv_goto (tgt := 40) hx hb dX7_odds_90 (by decide) ?_
        exact ih h hR hS (lv_sub hl [1, 2, 3, 4, 0] rfl)
      · have h := ip c h
        refine lv_aload_n hx hb dX7_odds_67 rfl (lv_at hl 0 rfl) ?_
        refine lv_iload hx hb dX7_odds_68 (lv_at hl 4 rfl) ?_
        obtain ⟨qv18, zqe17, h⟩ := ob h
        refine rc_V C hR hS cf_X7_plainGold cv_X7_plainGold lk737 (ok_X7_plainGold zqe17) (ck_X7_plainGold zqe17) ⟨Nat.le_of_ble_eq_true rfl, Nat.le_of_ble_eq_true rfl⟩ ⟨Nat.zero_le _, Nat.zero_le _⟩ rfl rfl hl.1 (Nat.le_of_ble_eq_true rfl) dX7_odds_70 (rc_k1 (fun H locs hR hS => ?_))
        refine lv_iload_n hx hb dX7_odds_73 rfl (lv_at hl 1 rfl) ?_
        refine lv_icmp_lt (tgt := 87) hx hb dX7_odds_74 (by decide) (fun c => ?_) (fun c => ?_)
        · have h := ip c h
          refine lv_iinc (v := (x5 + 1)) (lv' := [(5, .int (x5 + 1)), (0, .ref (B + x0)), (1, .int x1), (2, .int x2), (3, .long x3)]) hx hb dX7_odds_87 hl (k := 4) rfl rfl (by decide) rfl (fun ls hl => ?_)
          refine lv_goto (tgt := 40) hx hb dX7_odds_90 (by decide) ?_
          exact ih h hR hS (lv_sub hl [1, 2, 3, 4, 0] rfl)
        · have h := iq c h
          refine lv_lload_n hx hb dX7_odds_77 rfl (lv_at hl 3 rfl) ?_
          refine lv_aload_n hx hb dX7_odds_78 rfl (lv_at hl 0 rfl) ?_
          refine lv_iload hx hb dX7_odds_79 (lv_at hl 4 rfl) ?_
          refine lv_iload_n hx hb dX7_odds_81 rfl (lv_at hl 2 rfl) ?_
          obtain ⟨v21, zqe20, h⟩ := ob h
          refine rc_V C hR hS cf_X7_weightOf cv_X7_weightOf lk850 (ok_X7_weightOf zqe20) (ck_X7_weightOf zqe20) ⟨Nat.le_of_ble_eq_true rfl, Nat.le_of_ble_eq_true rfl⟩ ⟨Nat.zero_le _, Nat.zero_le _⟩ rfl rfl hl.1 (Nat.le_of_ble_eq_true rfl) dX7_odds_82 (rc_k1 (fun H locs hR hS => ?_))
          refine lv_ladd hx hb dX7_odds_85 ?_
          refine lv_lstore_n (lv' := [(3, .long (x3 + v21)), (0, .ref (B + x0)), (1, .int x1), (2, .int x2), (5, .int x5)]) hx hb dX7_odds_86 rfl hl (by decide) rfl (fun ls hl => ?_)
          refine lv_iinc (v := (x5 + 1)) (lv' := [(5, .int (x5 + 1)), (3, .long (x3 + v21)), (0, .ref (B + x0)), (1, .int x1), (2, .int x2)]) hx hb dX7_odds_87 hl (k := 4) rfl rfl (by decide) rfl (fun ls hl => ?_)
          refine lv_goto (tgt := 40) hx hb dX7_odds_90 (by decide) ?_
          exact ih h hR hS (lv_sub hl [2, 3, 4, 1, 0] rfl)
theorem ck_X7_odds  {x0 : Nat} {x1 : Int32} {x2 : Int32} {M : Mem} {r : Int32 × Mem} (h : f_X7_odds  x0 x1 x2 M = some r) : kd M x0 = 17 := by
  unfold f_X7_odds at h
  exact ck h
set_option maxHeartbeats 4000000 in
set_option maxRecDepth 100000 in
theorem ok_X7_odds  {x0 : Nat} {x1 : Int32} {x2 : Int32}  {M : Mem} {r : Int32 × Mem}  (h : f_X7_odds  x0 x1 x2 M = some r) : Ok l yX7_odds cX7_odds 6 (some .int) 5 [.ref (B + x0), .int x1, .int x2] D B ca st M (some (.int r.1)) r.2 := by
  have hk0 := ck_X7_odds h
  unfold f_X7_odds at h
  have h := ip hk0 h
  refine ok_of rfl rfl (Nat.le_of_ble_eq_true rfl) ?_
  intro p e s m args below meth c ls C hl hR hS
  have hl : lv_has ls 6 [(0, .ref (B + x0)), (1, .int x1), (2, .int x2)] := hl
  have hx := C.1
  have hb := C.2.1
  refine lv_iload_n hx hb dX7_odds_0 rfl (lv_at hl 1 rfl) ?_
  refine lv_if_lt (tgt := 20) hx hb dX7_odds_1 (by decide) (fun c => ?_) (fun c => ?_)
  · have h := ip c h
    refine lv_iconst (v := (-1)) hx hb dX7_odds_20 (by decide) ?_
    cases h
    exact rr_I C hR hS dX7_odds_21
  · have h := iq c h
    refine lv_iload_n hx hb dX7_odds_4 rfl (lv_at hl 1 rfl) ?_
    refine lv_bipush (v := 66) hx hb dX7_odds_5 (by decide) ?_
    refine lv_icmp_gt (tgt := 20) hx hb dX7_odds_7 (by decide) (fun c => ?_) (fun c => ?_)
    · have h := ip c h
      refine lv_iconst (v := (-1)) hx hb dX7_odds_20 (by decide) ?_
      cases h
      exact rr_I C hR hS dX7_odds_21
    · have h := iq c h
      refine lv_iload_n hx hb dX7_odds_10 rfl (lv_at hl 2 rfl) ?_
      refine lv_if_lt (tgt := 20) hx hb dX7_odds_11 (by decide) (fun c => ?_) (fun c => ?_)
      · have h := ip c h
        refine lv_iconst (v := (-1)) hx hb dX7_odds_20 (by decide) ?_
        cases h
        exact rr_I C hR hS dX7_odds_21
      · have h := iq c h
        refine lv_iload_n hx hb dX7_odds_14 rfl (lv_at hl 2 rfl) ?_
        refine lv_bipush (v := 12) hx hb dX7_odds_15 (by decide) ?_
        refine lv_icmp_le (tgt := 22) hx hb dX7_odds_17 (by decide) (fun c => ?_) (fun c => ?_)
        · have h := ip c h
          refine lv_aload_n hx hb dX7_odds_22 rfl (lv_at hl 0 rfl) ?_
          obtain ⟨v1, zqe2, h⟩ := ob h
          refine gf327 C hR zqe2 dX7_odds_23 ?_
          obtain ⟨v3, zqe4, h⟩ := ob h
          refine gf154 C hR zqe4 dX7_odds_26 ?_
          refine lv_if_ne (tgt := 35) hx hb dX7_odds_29 (by decide) (fun c => ?_) (fun c => ?_)
          · have h := iq c h
            refine lv_lconst (v := 0) hx hb dX7_odds_35 (by decide) ?_
            refine lv_lstore_n (lv' := [(3, .long 0), (0, .ref (B + x0)), (1, .int x1), (2, .int x2)]) hx hb dX7_odds_36 rfl hl (by decide) rfl (fun ls hl => ?_)
            refine lv_iconst (v := 0) hx hb dX7_odds_37 (by decide) ?_
            refine lv_istore (lv' := [(5, .int 0), (3, .long 0), (0, .ref (B + x0)), (1, .int x1), (2, .int x2)]) hx hb dX7_odds_38 hl (by decide) rfl (fun ls hl => ?_)
            exact w_X7_odds_40 C  FU h hR hS (lv_sub hl [2, 3, 4, 1, 0] rfl)
          · have h := ip c h
            refine lv_bipush (v := (-4)) hx hb dX7_odds_32 (by decide) ?_
            cases h
            exact rr_I C hR hS dX7_odds_34
        · have h := iq c h
          refine lv_iconst (v := (-1)) hx hb dX7_odds_20 (by decide) ?_
          cases h
          exact rr_I C hR hS dX7_odds_21
set_option maxHeartbeats 4000000 in
set_option maxRecDepth 100000 in
theorem w_X7_doAgain_13    {r : Mem} (C : Cx p s m args meth c RX7 cX7_doAgain 2 none D B ca st)   : ∀ (n : Nat) {x0 : Nat} {x1 : Int32} {M : Mem}, f_X7_doAgain_13  n x0 x1 M = some r → ∀ {H : Heap} {locs : List Loc} {ls : Array Slot}, RH D B ca M H → va_S (AA B) s.heap H locs → lv_has ls 2 [(0, .ref (B + x0)), (1, .int x1)] → W p l e (rmD 5) s m args below meth c H locs 0 0 (MQ below (Qp D B ca st none r) args s 0 0 (AA B)) (F0 m 13 ls []) := by
  have hx := C.1
  have hb := C.2.1
  intro n
  induction n with
  | zero => intro x0 x1 M h; simp [f_X7_doAgain_13] at h
  | succ n ih =>
    intro x0 x1 M h H locs ls hR hS hl
    rw [f_X7_doAgain_13] at h
    refine lv_iload_n hx hb dX7_doAgain_13 rfl (lv_at hl 1 rfl) ?_
    refine lv_aload_n hx hb dX7_doAgain_14 rfl (lv_at hl 0 rfl) ?_
    obtain ⟨v7, zqe8, h⟩ := ob h
    refine gf331 C hR zqe8 dX7_doAgain_15 ?_
    obtain ⟨v9, zqe10, h⟩ := ob h
    refine gf233 C hR zqe10 dX7_doAgain_18 ?_
    refine lv_icmp_ge (tgt := 56) hx hb dX7_doAgain_21 (by decide) (fun c => ?_) (fun c => ?_)
    · have h := ip c h
      cases h
      exact rr_V C hR hS dX7_doAgain_56
    · have h := iq c h
      refine lv_iload_n hx hb dX7_doAgain_24 rfl (lv_at hl 1 rfl) ?_
      refine lv_bipush (v := 40) hx hb dX7_doAgain_25 (by decide) ?_
      refine lv_icmp_ge (tgt := 56) hx hb dX7_doAgain_27 (by decide) (fun c => ?_) (fun c => ?_)
      · have h := ip c h
        cases h
        exact rr_V C hR hS dX7_doAgain_56
      · have h := iq c h
        refine lv_aload_n hx hb dX7_doAgain_30 rfl (lv_at hl 0 rfl) ?_
        obtain ⟨v11, zqe12, h⟩ := ob h
        refine gf329 C hR zqe12 dX7_doAgain_31 ?_
        refine lv_aload_n hx hb dX7_doAgain_34 rfl (lv_at hl 0 rfl) ?_
        obtain ⟨v13, zqe14, h⟩ := ob h
        refine gf327 C hR zqe14 dX7_doAgain_35 ?_
        refine lv_aload_n hx hb dX7_doAgain_38 rfl (lv_at hl 0 rfl) ?_
        obtain ⟨v15, zqe16, h⟩ := ob h
        refine gf331 C hR zqe16 dX7_doAgain_39 ?_
        obtain ⟨v17, zqe18, h⟩ := ob h
        refine gf231 C hR zqe18 dX7_doAgain_42 ?_
        refine lv_iload_n hx hb dX7_doAgain_45 rfl (lv_at hl 1 rfl) ?_
        obtain ⟨v19, zqe20, h⟩ := ob h
        refine ra_I C hR zqe20 dX7_doAgain_46 ?_
        obtain ⟨M22, zqe21, h⟩ := ob h
        refine rc_VN C hR hS cf_X6_perform cv_X6_perform lk623 (ok_X6_perform zqe21) (ck_X6_perform zqe21) ⟨Nat.le_of_ble_eq_true rfl, Nat.le_of_ble_eq_true rfl⟩ ⟨Nat.zero_le _, Nat.zero_le _⟩ rfl rfl hl.1 (Nat.le_of_ble_eq_true rfl) dX7_doAgain_47 (rc_k0 (fun H locs hR hS => ?_))
        refine lv_iinc (v := (x1 + 1)) (lv' := [(1, .int (x1 + 1)), (0, .ref (B + x0))]) hx hb dX7_doAgain_50 hl (k := 1) rfl rfl (by decide) rfl (fun ls hl => ?_)
        refine lv_goto (tgt := 13) hx hb dX7_doAgain_53 (by decide) ?_
        exact ih h hR hS (lv_sub hl [1, 0] rfl)
theorem ck_X7_doAgain  {x0 : Nat} {M : Mem} {r : Mem} (h : f_X7_doAgain  x0 M = some r) : kd M x0 = 17 := by
  unfold f_X7_doAgain at h
  exact ck h
set_option maxHeartbeats 4000000 in
set_option maxRecDepth 100000 in
theorem ok_X7_doAgain  {x0 : Nat}  {M : Mem} {r : Mem}  (h : f_X7_doAgain  x0 M = some r) : Ok l yX7_doAgain cX7_doAgain 2 none 5 [.ref (B + x0)] D B ca st M none r := by
  have hk0 := ck_X7_doAgain h
  unfold f_X7_doAgain at h
  have h := ip hk0 h
  refine ok_of rfl rfl (Nat.le_of_ble_eq_true rfl) ?_
  intro p e s m args below meth c ls C hl hR hS
  have hl : lv_has ls 2 [(0, .ref (B + x0))] := hl
  have hx := C.1
  have hb := C.2.1
  refine lv_aload_n hx hb dX7_doAgain_0 rfl (lv_at hl 0 rfl) ?_
  obtain ⟨v1, zqe2, h⟩ := ob h
  refine gf329 C hR zqe2 dX7_doAgain_1 ?_
  refine lv_aload_n hx hb dX7_doAgain_4 rfl (lv_at hl 0 rfl) ?_
  obtain ⟨v3, zqe4, h⟩ := ob h
  refine gf327 C hR zqe4 dX7_doAgain_5 ?_
  obtain ⟨M6, zqe5, h⟩ := ob h
  refine rc_VN C hR hS cf_X6_begin cv_X6_begin lk528 (ok_X6_begin zqe5) (ck_X6_begin zqe5) ⟨Nat.le_of_ble_eq_true rfl, Nat.le_of_ble_eq_true rfl⟩ ⟨Nat.zero_le _, Nat.zero_le _⟩ rfl rfl hl.1 (Nat.le_of_ble_eq_true rfl) dX7_doAgain_8 (rc_k0 (fun H locs hR hS => ?_))
  refine lv_iconst (v := 0) hx hb dX7_doAgain_11 (by decide) ?_
  refine lv_istore_n (lv' := [(1, .int 0), (0, .ref (B + x0))]) hx hb dX7_doAgain_12 rfl hl (by decide) rfl (fun ls hl => ?_)
  exact w_X7_doAgain_13 C  FU h hR hS (lv_sub hl [1, 0] rfl)
theorem ck_X7_on  {x0 : Nat} {x1 : Int32} {M : Mem} {r : Int32 × Mem} (h : f_X7_on  x0 x1 M = some r) : kd M x0 = 17 := by
  unfold f_X7_on at h
  exact ck h
set_option maxHeartbeats 4000000 in
set_option maxRecDepth 100000 in
theorem ok_X7_on  {x0 : Nat} {x1 : Int32}  {M : Mem} {r : Int32 × Mem}  (h : f_X7_on  x0 x1 M = some r) : Ok l yX7_on cX7_on 3 (some .int) 6 [.ref (B + x0), .int x1] D B ca st M (some (.int r.1)) r.2 := by
  have hk0 := ck_X7_on h
  unfold f_X7_on at h
  have h := ip hk0 h
  refine ok_of rfl rfl (Nat.le_of_ble_eq_true rfl) ?_
  intro p e s m args below meth c ls C hl hR hS
  have hl : lv_has ls 3 [(0, .ref (B + x0)), (1, .int x1)] := hl
  have hx := C.1
  have hb := C.2.1
  refine lv_aload_n hx hb dX7_on_0 rfl (lv_at hl 0 rfl) ?_
  refine lv_iload_n hx hb dX7_on_1 rfl (lv_at hl 1 rfl) ?_
  obtain ⟨v2, zqe1, h⟩ := ob h
  refine rc_V C hR hS cf_X7_keptOf cv_X7_keptOf lk663 (ok_X7_keptOf zqe1) (ck_X7_keptOf zqe1) ⟨Nat.le_of_ble_eq_true rfl, Nat.le_of_ble_eq_true rfl⟩ ⟨Nat.zero_le _, Nat.zero_le _⟩ rfl rfl hl.1 (Nat.le_of_ble_eq_true rfl) dX7_on_2 (rc_k1 (fun H locs hR hS => ?_))
  refine rc_nul (fun zqz3 => ?_) (fun zqz3 => ?_)
  · have h := ip zqz3 h
    refine lv_astore_nN (lv' := [(2, .null), (0, .ref (B + x0)), (1, .int x1)]) hx hb dX7_on_5 rfl hl (by decide) rfl (fun ls hl => ?_)
    refine lv_aload_nN hx hb dX7_on_6 rfl (lv_at hl 0 rfl) ?_
    refine lv_ifnonnullN hx hb dX7_on_7 ?_
    refine lv_iconst (v := (-1)) hx hb dX7_on_10 (by decide) ?_
    cases h
    exact rr_I C hR hS dX7_on_11
  · have h := iq zqz3 h
    refine lv_astore_n (lv' := [(2, .ref (B + v2)), (0, .ref (B + x0)), (1, .int x1)]) hx hb dX7_on_5 rfl hl (by decide) rfl (fun ls hl => ?_)
    refine lv_aload_n hx hb dX7_on_6 rfl (lv_at hl 0 rfl) ?_
    refine lv_ifnonnull (tgt := 12) hx hb dX7_on_7 (by decide) ?_
    refine lv_aload_n hx hb dX7_on_12 rfl (lv_at hl 0 rfl) ?_
    obtain ⟨v4, zqe5, h⟩ := ob h
    refine gf233 C hR zqe5 dX7_on_13 ?_
    refine lv_iconst (v := (-1)) hx hb dX7_on_16 (by decide) ?_
    refine lv_icmp_ne (tgt := 26) hx hb dX7_on_17 (by decide) (fun c => ?_) (fun c => ?_)
    · have h := iq c h
      refine lv_aload_n hx hb dX7_on_26 rfl (lv_at hl 1 rfl) ?_
      obtain ⟨v6, zqe7, h⟩ := ob h
      refine gf331 C hR zqe7 dX7_on_27 ?_
      refine lv_aload_n hx hb dX7_on_30 rfl (lv_at hl 0 rfl) ?_
      obtain ⟨M9, zqe8, h⟩ := ob h
      refine rc_VN C hR hS cf_X0_takeOver cv_X0_takeOver lk667 (ok_X0_takeOver zqe8) (ck_X0_takeOver zqe8) ⟨Nat.le_of_ble_eq_true rfl, Nat.le_of_ble_eq_true rfl⟩ ⟨Nat.zero_le _, Nat.zero_le _⟩ rfl rfl hl.1 (Nat.le_of_ble_eq_true rfl) dX7_on_31 (rc_k0 (fun H locs hR hS => ?_))
      refine lv_aload_n hx hb dX7_on_34 rfl (lv_at hl 1 rfl) ?_
      obtain ⟨M11, zqe10, h⟩ := ob h
      refine rc_V C hR hS cf_X7_doAgain cv_X7_doAgain lk655 (ok_X7_doAgain zqe10) (ck_X7_doAgain zqe10) ⟨Nat.le_of_ble_eq_true rfl, Nat.le_of_ble_eq_true rfl⟩ ⟨Nat.zero_le _, Nat.zero_le _⟩ rfl rfl hl.1 (Nat.le_of_ble_eq_true rfl) dX7_on_35 (rc_k0 (fun H locs hR hS => ?_))
      refine lv_aload_n hx hb dX7_on_38 rfl (lv_at hl 1 rfl) ?_
      obtain ⟨v12, zqe13, h⟩ := ob h
      refine gf331 C hR zqe13 dX7_on_39 ?_
      obtain ⟨v14, zqe15, h⟩ := ob h
      refine gf233 C hR zqe15 dX7_on_42 ?_
      cases h
      exact rr_I C hR hS dX7_on_45
    · have h := ip c h
      refine lv_aload_n hx hb dX7_on_20 rfl (lv_at hl 1 rfl) ?_
      refine lv_iconst (v := 1) hx hb dX7_on_21 (by decide) ?_
      obtain ⟨qv17, zqe16, h⟩ := ob h
      refine rc_V C hR hS cf_X7_refuse cv_X7_refuse lk379 (ok_X7_refuse zqe16) (ck_X7_refuse zqe16) ⟨Nat.le_of_ble_eq_true rfl, Nat.le_of_ble_eq_true rfl⟩ ⟨Nat.zero_le _, Nat.zero_le _⟩ rfl rfl hl.1 (Nat.le_of_ble_eq_true rfl) dX7_on_22 (rc_k1 (fun H locs hR hS => ?_))
      cases h
      exact rr_I C hR hS dX7_on_25
theorem ck_X7_order  {x0 : Nat} {x1 : Int32} {x2 : Int32} {M : Mem} {r : Int32 × Mem} (h : f_X7_order  x0 x1 x2 M = some r) : kd M x0 = 17 := by
  unfold f_X7_order at h
  exact ck h
set_option maxHeartbeats 4000000 in
set_option maxRecDepth 100000 in
theorem ok_X7_order  {x0 : Nat} {x1 : Int32} {x2 : Int32}  {M : Mem} {r : Int32 × Mem}  (h : f_X7_order  x0 x1 x2 M = some r) : Ok l yX7_order cX7_order 3 (some .int) 5 [.ref (B + x0), .int x1, .int x2] D B ca st M (some (.int r.1)) r.2 := by
  have hk0 := ck_X7_order h
  unfold f_X7_order at h
  have h := ip hk0 h
  refine ok_of rfl rfl (Nat.le_of_ble_eq_true rfl) ?_
  intro p e s m args below meth c ls C hl hR hS
  have hl : lv_has ls 3 [(0, .ref (B + x0)), (1, .int x1), (2, .int x2)] := hl
  have hx := C.1
  have hb := C.2.1
  refine lv_aload_n hx hb dX7_order_0 rfl (lv_at hl 0 rfl) ?_
  obtain ⟨v1, zqe2, h⟩ := ob h
  refine gf327 C hR zqe2 dX7_order_1 ?_
  refine lv_iload_n hx hb dX7_order_4 rfl (lv_at hl 1 rfl) ?_
  obtain ⟨v4, zqe3, h⟩ := ob h
  refine rc_VN C hR hS cf_X2_hasOrder cv_X2_hasOrder lk575 (ok_X2_hasOrder zqe3) (ck_X2_hasOrder zqe3) ⟨Nat.le_of_ble_eq_true rfl, Nat.le_of_ble_eq_true rfl⟩ ⟨Nat.zero_le _, Nat.zero_le _⟩ rfl rfl hl.1 (Nat.le_of_ble_eq_true rfl) dX7_order_5 (rc_k1 (fun H locs hR hS => ?_))
  refine lv_if_eq (tgt := 20) hx hb dX7_order_8 (by decide) (fun c => ?_) (fun c => ?_)
  · have h := ip c h
    refine lv_iconst (v := (-1)) hx hb dX7_order_20 (by decide) ?_
    cases h
    exact rr_I C hR hS dX7_order_21
  · have h := iq c h
    refine lv_iload_n hx hb dX7_order_11 rfl (lv_at hl 2 rfl) ?_
    refine lv_if_lt (tgt := 20) hx hb dX7_order_12 (by decide) (fun c => ?_) (fun c => ?_)
    · have h := ip c h
      refine lv_iconst (v := (-1)) hx hb dX7_order_20 (by decide) ?_
      cases h
      exact rr_I C hR hS dX7_order_21
    · have h := iq c h
      refine lv_iload_n hx hb dX7_order_15 rfl (lv_at hl 2 rfl) ?_
      refine lv_iconst (v := 5) hx hb dX7_order_16 (by decide) ?_
      refine lv_icmp_lt (tgt := 22) hx hb dX7_order_17 (by decide) (fun c => ?_) (fun c => ?_)
      · have h := ip c h
        refine lv_aload_n hx hb dX7_order_22 rfl (lv_at hl 0 rfl) ?_
        refine lv_aload_n hx hb dX7_order_23 rfl (lv_at hl 0 rfl) ?_
        refine lv_iload_n hx hb dX7_order_24 rfl (lv_at hl 1 rfl) ?_
        refine lv_iload_n hx hb dX7_order_25 rfl (lv_at hl 2 rfl) ?_
        obtain ⟨v6, zqe5, h⟩ := ob h
        refine rc_V C hR hS cf_X7_orderTells cv_X7_orderTells lk576 (ok_X7_orderTells zqe5) (ck_X7_orderTells zqe5) ⟨Nat.le_of_ble_eq_true rfl, Nat.le_of_ble_eq_true rfl⟩ ⟨Nat.zero_le _, Nat.zero_le _⟩ rfl rfl hl.1 (Nat.le_of_ble_eq_true rfl) dX7_order_26 (rc_k1 (fun H locs hR hS => ?_))
        obtain ⟨M7, zqe8, h⟩ := ob h
        refine pf335 C hR hS zqe8 dX7_order_29 (fun H locs hR hS => ?_)
        refine lv_iconst (v := 1) hx hb dX7_order_32 (by decide) ?_
        cases h
        exact rr_I C hR hS dX7_order_33
      · have h := iq c h
        refine lv_iconst (v := (-1)) hx hb dX7_order_20 (by decide) ?_
        cases h
        exact rr_I C hR hS dX7_order_21
set_option maxHeartbeats 4000000 in
set_option maxRecDepth 100000 in
theorem w_X7_pairs_38  {k20 : Nat → Int32 → Int32 → Int32 → Int32 → Mem → Option (Int32 × Mem)}  {r : Int32 × Mem} (C : Cx p s m args meth c RX7 cX7_pairs 6 (some .int) D B ca st)  (hk20 : ∀ {x0 : Nat} {x1 : Int32} {x2 : Int32} {x3 : Int32} {x4 : Int32} {M : Mem}, k20 x0 x1 x2 x3 x4 M = some r → ∀ {H : Heap} {locs : List Loc} {ls : Array Slot}, RH D B ca M H → va_S (AA B) s.heap H locs → lv_has ls 6 [(0, .ref (B + x0)), (1, .int x1), (2, .int x2), (3, .int x3), (4, .int x4)] → W p l e (rmD 2) s m args below meth c H locs 0 0 (MQ below (Qp D B ca st (some (.int r.1)) r.2) args s 0 0 (AA B)) (F0 m 20 ls [])) : ∀ (n : Nat) {x0 : Nat} {x1 : Int32} {x2 : Int32} {x3 : Int32} {x4 : Int32} {x5 : Int32} {M : Mem}, f_X7_pairs_38 k20 n x0 x1 x2 x3 x4 x5 M = some r → ∀ {H : Heap} {locs : List Loc} {ls : Array Slot}, RH D B ca M H → va_S (AA B) s.heap H locs → lv_has ls 6 [(0, .ref (B + x0)), (1, .int x1), (2, .int x2), (3, .int x3), (4, .int x4), (5, .int x5)] → W p l e (rmD 2) s m args below meth c H locs 0 0 (MQ below (Qp D B ca st (some (.int r.1)) r.2) args s 0 0 (AA B)) (F0 m 38 ls []) := by
  have hx := C.1
  have hb := C.2.1
  intro n
  induction n with
  | zero => intro x0 x1 x2 x3 x4 x5 M h; simp [f_X7_pairs_38] at h
  | succ n ih =>
    intro x0 x1 x2 x3 x4 x5 M h H locs ls hR hS hl
    rw [f_X7_pairs_38] at h
    refine lv_iload hx hb dX7_pairs_38 (lv_at hl 5 rfl) ?_
    refine lv_aload_n hx hb dX7_pairs_40 rfl (lv_at hl 0 rfl) ?_
    obtain ⟨v7, zqe8, h⟩ := ob h
    refine gf327 C hR zqe8 dX7_pairs_41 ?_
    obtain ⟨v9, zqe10, h⟩ := ob h
    refine gf154 C hR zqe10 dX7_pairs_44 ?_
    refine lv_icmp_ge (tgt := 90) hx hb dX7_pairs_47 (by decide) (fun c => ?_) (fun c => ?_)
    · have h := ip c h
      refine lv_iinc (v := (x4 + 1)) (lv' := [(4, .int (x4 + 1)), (0, .ref (B + x0)), (1, .int x1), (2, .int x2), (3, .int x3), (5, .int x5)]) hx hb dX7_pairs_90 hl (k := 4) rfl rfl (by decide) rfl (fun ls hl => ?_)
      refine lv_goto (tgt := 20) hx hb dX7_pairs_93 (by decide) ?_
      exact hk20 h hR hS (lv_sub hl [1, 2, 3, 4, 0] rfl)
    · have h := iq c h
      refine lv_aload_n hx hb dX7_pairs_50 rfl (lv_at hl 0 rfl) ?_
      obtain ⟨v11, zqe12, h⟩ := ob h
      refine gf327 C hR zqe12 dX7_pairs_51 ?_
      refine lv_iload hx hb dX7_pairs_54 (lv_at hl 4 rfl) ?_
      refine lv_iload hx hb dX7_pairs_56 (lv_at hl 5 rfl) ?_
      refine lv_iload_n hx hb dX7_pairs_58 rfl (lv_at hl 1 rfl) ?_
      obtain ⟨v14, zqe13, h⟩ := ob h
      refine rc_VN C hR hS cf_X2_areInTune cv_X2_areInTune lk786 (ok_X2_areInTune zqe13) (ck_X2_areInTune zqe13) ⟨Nat.le_of_ble_eq_true rfl, Nat.le_of_ble_eq_true rfl⟩ ⟨Nat.zero_le _, Nat.zero_le _⟩ rfl rfl hl.1 (Nat.le_of_ble_eq_true rfl) dX7_pairs_59 (rc_k1 (fun H locs hR hS => ?_))
      refine lv_if_eq (tgt := 84) hx hb dX7_pairs_62 (by decide) (fun c => ?_) (fun c => ?_)
      · have h := ip c h
        refine lv_iinc (v := (x5 + 1)) (lv' := [(5, .int (x5 + 1)), (0, .ref (B + x0)), (1, .int x1), (2, .int x2), (3, .int x3), (4, .int x4)]) hx hb dX7_pairs_84 hl (k := 5) rfl rfl (by decide) rfl (fun ls hl => ?_)
        refine lv_goto (tgt := 38) hx hb dX7_pairs_87 (by decide) ?_
        exact ih h hR hS (lv_sub hl [1, 2, 3, 4, 5, 0] rfl)
      · have h := iq c h
        refine lv_iload_n hx hb dX7_pairs_65 rfl (lv_at hl 2 rfl) ?_
        refine lv_if_ne (tgt := 79) hx hb dX7_pairs_66 (by decide) (fun c => ?_) (fun c => ?_)
        · have h := iq c h
          refine lv_iload_n hx hb dX7_pairs_79 rfl (lv_at hl 3 rfl) ?_
          refine lv_istore_n (lv' := [(3, .int x3), (0, .ref (B + x0)), (1, .int x1), (2, .int x2), (4, .int x4), (5, .int x5)]) hx hb dX7_pairs_80 rfl hl (by decide) rfl (fun ls hl => ?_)
          refine lv_iinc (v := (x2 + 1)) (lv' := [(2, .int (x2 + 1)), (3, .int x3), (0, .ref (B + x0)), (1, .int x1), (4, .int x4), (5, .int x5)]) hx hb dX7_pairs_81 hl (k := 3) rfl rfl (by decide) rfl (fun ls hl => ?_)
          refine lv_iinc (v := (x5 + 1)) (lv' := [(5, .int (x5 + 1)), (2, .int (x2 + 1)), (3, .int x3), (0, .ref (B + x0)), (1, .int x1), (4, .int x4)]) hx hb dX7_pairs_84 hl (k := 5) rfl rfl (by decide) rfl (fun ls hl => ?_)
          refine lv_goto (tgt := 38) hx hb dX7_pairs_87 (by decide) ?_
          exact ih h hR hS (lv_sub hl [3, 4, 1, 2, 5, 0] rfl)
        · have h := ip c h
          refine lv_iconst (v := 5) hx hb dX7_pairs_69 (by decide) ?_
          refine lv_iload hx hb dX7_pairs_70 (lv_at hl 4 rfl) ?_
          refine lv_imul hx hb dX7_pairs_72 ?_
          refine lv_iload hx hb dX7_pairs_73 (lv_at hl 5 rfl) ?_
          refine lv_iadd hx hb dX7_pairs_75 ?_
          refine lv_goto (tgt := 80) hx hb dX7_pairs_76 (by decide) ?_
          refine lv_istore_n (lv' := [(3, .int ((5 * x4) + x5)), (0, .ref (B + x0)), (1, .int x1), (2, .int x2), (4, .int x4), (5, .int x5)]) hx hb dX7_pairs_80 rfl hl (by decide) rfl (fun ls hl => ?_)
          refine lv_iinc (v := (x2 + 1)) (lv' := [(2, .int (x2 + 1)), (3, .int ((5 * x4) + x5)), (0, .ref (B + x0)), (1, .int x1), (4, .int x4), (5, .int x5)]) hx hb dX7_pairs_81 hl (k := 3) rfl rfl (by decide) rfl (fun ls hl => ?_)
          refine lv_iinc (v := (x5 + 1)) (lv' := [(5, .int (x5 + 1)), (2, .int (x2 + 1)), (3, .int ((5 * x4) + x5)), (0, .ref (B + x0)), (1, .int x1), (4, .int x4)]) hx hb dX7_pairs_84 hl (k := 5) rfl rfl (by decide) rfl (fun ls hl => ?_)
          refine lv_goto (tgt := 38) hx hb dX7_pairs_87 (by decide) ?_
          exact ih h hR hS (lv_sub hl [3, 4, 1, 2, 5, 0] rfl)
set_option maxHeartbeats 4000000 in
set_option maxRecDepth 100000 in
theorem w_X7_pairs_20    {r : Int32 × Mem} (C : Cx p s m args meth c RX7 cX7_pairs 6 (some .int) D B ca st)   : ∀ (n : Nat) {x0 : Nat} {x1 : Int32} {x2 : Int32} {x3 : Int32} {x4 : Int32} {M : Mem}, f_X7_pairs_20  n x0 x1 x2 x3 x4 M = some r → ∀ {H : Heap} {locs : List Loc} {ls : Array Slot}, RH D B ca M H → va_S (AA B) s.heap H locs → lv_has ls 6 [(0, .ref (B + x0)), (1, .int x1), (2, .int x2), (3, .int x3), (4, .int x4)] → W p l e (rmD 2) s m args below meth c H locs 0 0 (MQ below (Qp D B ca st (some (.int r.1)) r.2) args s 0 0 (AA B)) (F0 m 20 ls []) := by
  have hx := C.1
  have hb := C.2.1
  intro n
  induction n with
  | zero => intro x0 x1 x2 x3 x4 M h; simp [f_X7_pairs_20] at h
  | succ n ih =>
    intro x0 x1 x2 x3 x4 M h H locs ls hR hS hl
    rw [f_X7_pairs_20] at h
    refine lv_iload hx hb dX7_pairs_20 (lv_at hl 4 rfl) ?_
    refine lv_aload_n hx hb dX7_pairs_22 rfl (lv_at hl 0 rfl) ?_
    obtain ⟨v1, zqe2, h⟩ := ob h
    refine gf327 C hR zqe2 dX7_pairs_23 ?_
    obtain ⟨v3, zqe4, h⟩ := ob h
    refine gf154 C hR zqe4 dX7_pairs_26 ?_
    refine lv_icmp_ge (tgt := 96) hx hb dX7_pairs_29 (by decide) (fun c => ?_) (fun c => ?_)
    · have h := ip c h
      refine lv_aload_n hx hb dX7_pairs_96 rfl (lv_at hl 0 rfl) ?_
      refine lv_iload_n hx hb dX7_pairs_97 rfl (lv_at hl 3 rfl) ?_
      obtain ⟨M5, zqe6, h⟩ := ob h
      refine pf335 C hR hS zqe6 dX7_pairs_98 (fun H locs hR hS => ?_)
      refine lv_iload_n hx hb dX7_pairs_101 rfl (lv_at hl 2 rfl) ?_
      cases h
      exact rr_I C hR hS dX7_pairs_102
    · have h := iq c h
      refine lv_iload hx hb dX7_pairs_32 (lv_at hl 4 rfl) ?_
      refine lv_iconst (v := 1) hx hb dX7_pairs_34 (by decide) ?_
      refine lv_iadd hx hb dX7_pairs_35 ?_
      refine lv_istore (lv' := [(5, .int (x4 + 1)), (0, .ref (B + x0)), (1, .int x1), (2, .int x2), (3, .int x3), (4, .int x4)]) hx hb dX7_pairs_36 hl (by decide) rfl (fun ls hl => ?_)
      exact w_X7_pairs_38 C (hk20 := @ih) FU h hR hS (lv_sub hl [1, 2, 3, 4, 5, 0] rfl)
theorem ck_X7_pairs  {x0 : Nat} {x1 : Int32} {M : Mem} {r : Int32 × Mem} (h : f_X7_pairs  x0 x1 M = some r) : kd M x0 = 17 := by
  unfold f_X7_pairs at h
  exact ck h
set_option maxHeartbeats 4000000 in
set_option maxRecDepth 100000 in
theorem ok_X7_pairs  {x0 : Nat} {x1 : Int32}  {M : Mem} {r : Int32 × Mem}  (h : f_X7_pairs  x0 x1 M = some r) : Ok l yX7_pairs cX7_pairs 6 (some .int) 2 [.ref (B + x0), .int x1] D B ca st M (some (.int r.1)) r.2 := by
  have hk0 := ck_X7_pairs h
  unfold f_X7_pairs at h
  have h := ip hk0 h
  refine ok_of rfl rfl (Nat.le_of_ble_eq_true rfl) ?_
  intro p e s m args below meth c ls C hl hR hS
  have hl : lv_has ls 6 [(0, .ref (B + x0)), (1, .int x1)] := hl
  have hx := C.1
  have hb := C.2.1
  refine lv_iload_n hx hb dX7_pairs_0 rfl (lv_at hl 1 rfl) ?_
  refine lv_if_lt (tgt := 10) hx hb dX7_pairs_1 (by decide) (fun c => ?_) (fun c => ?_)
  · have h := ip c h
    refine lv_iconst (v := (-1)) hx hb dX7_pairs_10 (by decide) ?_
    cases h
    exact rr_I C hR hS dX7_pairs_11
  · have h := iq c h
    refine lv_iload_n hx hb dX7_pairs_4 rfl (lv_at hl 1 rfl) ?_
    refine lv_bipush (v := 9) hx hb dX7_pairs_5 (by decide) ?_
    refine lv_icmp_le (tgt := 12) hx hb dX7_pairs_7 (by decide) (fun c => ?_) (fun c => ?_)
    · have h := ip c h
      refine lv_iconst (v := 0) hx hb dX7_pairs_12 (by decide) ?_
      refine lv_istore_n (lv' := [(2, .int 0), (0, .ref (B + x0)), (1, .int x1)]) hx hb dX7_pairs_13 rfl hl (by decide) rfl (fun ls hl => ?_)
      refine lv_bipush (v := (-9)) hx hb dX7_pairs_14 (by decide) ?_
      refine lv_istore_n (lv' := [(3, .int (-9)), (2, .int 0), (0, .ref (B + x0)), (1, .int x1)]) hx hb dX7_pairs_16 rfl hl (by decide) rfl (fun ls hl => ?_)
      refine lv_iconst (v := 0) hx hb dX7_pairs_17 (by decide) ?_
      refine lv_istore (lv' := [(4, .int 0), (3, .int (-9)), (2, .int 0), (0, .ref (B + x0)), (1, .int x1)]) hx hb dX7_pairs_18 hl (by decide) rfl (fun ls hl => ?_)
      exact w_X7_pairs_20 C  FU h hR hS (lv_sub hl [3, 4, 2, 1, 0] rfl)
    · have h := iq c h
      refine lv_iconst (v := (-1)) hx hb dX7_pairs_10 (by decide) ?_
      cases h
      exact rr_I C hR hS dX7_pairs_11
theorem ck_X7_plain  {x0 : Nat} {M : Mem} {r : Int32 × Mem} (h : f_X7_plain  x0 M = some r) : kd M x0 = 17 := by
  unfold f_X7_plain at h
  exact ck h
set_option maxHeartbeats 4000000 in
set_option maxRecDepth 100000 in
theorem ok_X7_plain  {x0 : Nat}  {M : Mem} {r : Int32 × Mem}  (h : f_X7_plain  x0 M = some r) : Ok l yX7_plain cX7_plain 2 (some .int) 5 [.ref (B + x0)] D B ca st M (some (.int r.1)) r.2 := by
  have hk0 := ck_X7_plain h
  unfold f_X7_plain at h
  have h := ip hk0 h
  refine ok_of rfl rfl (Nat.le_of_ble_eq_true rfl) ?_
  intro p e s m args below meth c ls C hl hR hS
  have hl : lv_has ls 2 [(0, .ref (B + x0))] := hl
  have hx := C.1
  have hb := C.2.1
  refine lv_aload_n hx hb dX7_plain_0 rfl (lv_at hl 0 rfl) ?_
  obtain ⟨v1, zqe2, h⟩ := ob h
  refine gf327 C hR zqe2 dX7_plain_1 ?_
  obtain ⟨v3, zqe4, h⟩ := ob h
  refine gf154 C hR zqe4 dX7_plain_4 ?_
  refine lv_if_ne (tgt := 13) hx hb dX7_plain_7 (by decide) (fun c => ?_) (fun c => ?_)
  · have h := iq c h
    refine lv_aload_n hx hb dX7_plain_13 rfl (lv_at hl 0 rfl) ?_
    obtain ⟨v5, zqe6, h⟩ := ob h
    refine gf329 C hR zqe6 dX7_plain_14 ?_
    obtain ⟨v7, zqe8, h⟩ := ob h
    refine gf212 C hR zqe8 dX7_plain_17 ?_
    refine rc_S C hR hS cf_J6_bitCount_0f7a4 cs_J6_bitCount_0f7a4 lk731 (ok_J6_bitCount_0f7a4 v7) ⟨Nat.le_of_ble_eq_true rfl, Nat.le_of_ble_eq_true rfl⟩ ⟨Nat.zero_le _, Nat.zero_le _⟩ rfl rfl hl.1 (Nat.le_of_ble_eq_true rfl) dX7_plain_20 (rc_k1 (fun H locs hR hS => ?_))
    refine lv_istore_n (lv' := [(1, .int (f_J6_bitCount_0f7a4 v7)), (0, .ref (B + x0))]) hx hb dX7_plain_23 rfl hl (by decide) rfl (fun ls hl => ?_)
    refine lv_aload_n hx hb dX7_plain_24 rfl (lv_at hl 1 rfl) ?_
    refine lv_aload_n hx hb dX7_plain_25 rfl (lv_at hl 1 rfl) ?_
    refine lv_iconst (v := 0) hx hb dX7_plain_26 (by decide) ?_
    obtain ⟨qv11, zqe10, h⟩ := ob h
    refine rc_V C hR hS cf_X7_plainGold cv_X7_plainGold lk737 (ok_X7_plainGold zqe10) (ck_X7_plainGold zqe10) ⟨Nat.le_of_ble_eq_true rfl, Nat.le_of_ble_eq_true rfl⟩ ⟨Nat.zero_le _, Nat.zero_le _⟩ rfl rfl hl.1 (Nat.le_of_ble_eq_true rfl) dX7_plain_27 (rc_k1 (fun H locs hR hS => ?_))
    obtain ⟨M13, zqe14, h⟩ := ob h
    refine pf335 C hR hS zqe14 dX7_plain_30 (fun H locs hR hS => ?_)
    refine lv_aload_n hx hb dX7_plain_33 rfl (lv_at hl 1 rfl) ?_
    obtain ⟨v15, zqe16, h⟩ := ob h
    refine gf330 C hR zqe16 dX7_plain_34 ?_
    obtain ⟨v17, zqe18, h⟩ := ob h
    refine gf212 C hR zqe18 dX7_plain_37 ?_
    refine rc_S C hR hS cf_J6_bitCount_0f7a4 cs_J6_bitCount_0f7a4 lk731 (ok_J6_bitCount_0f7a4 v17) ⟨Nat.le_of_ble_eq_true rfl, Nat.le_of_ble_eq_true rfl⟩ ⟨Nat.zero_le _, Nat.zero_le _⟩ rfl rfl hl.1 (Nat.le_of_ble_eq_true rfl) dX7_plain_40 (rc_k1 (fun H locs hR hS => ?_))
    refine lv_iload_n hx hb dX7_plain_43 rfl (lv_at hl 0 rfl) ?_
    refine lv_isub hx hb dX7_plain_44 ?_
    cases h
    exact rr_I C hR hS dX7_plain_45
  · have h := ip c h
    refine lv_bipush (v := (-4)) hx hb dX7_plain_10 (by decide) ?_
    cases h
    exact rr_I C hR hS dX7_plain_12
theorem ck_X7_put  {x0 : Nat} {x1 : Int32} {x2 : Int32} {x3 : Int32} {M : Mem} {r : Int32 × Mem} (h : f_X7_put  x0 x1 x2 x3 M = some r) : kd M x0 = 17 := by
  unfold f_X7_put at h
  exact ck h
set_option maxHeartbeats 4000000 in
set_option maxRecDepth 100000 in
theorem ok_X7_put  {x0 : Nat} {x1 : Int32} {x2 : Int32} {x3 : Int32}  {M : Mem} {r : Int32 × Mem}  (h : f_X7_put  x0 x1 x2 x3 M = some r) : Ok l yX7_put cX7_put 6 (some .int) 1 [.ref (B + x0), .int x1, .int x2, .int x3] D B ca st M (some (.int r.1)) r.2 := by
  have hk0 := ck_X7_put h
  unfold f_X7_put at h
  have h := ip hk0 h
  refine ok_of rfl rfl (Nat.le_of_ble_eq_true rfl) ?_
  intro p e s m args below meth c ls C hl hR hS
  have hl : lv_has ls 6 [(0, .ref (B + x0)), (1, .int x1), (2, .int x2), (3, .int x3)] := hl
  have hx := C.1
  have hb := C.2.1
  refine lv_aload_n hx hb dX7_put_0 rfl (lv_at hl 0 rfl) ?_
  refine lv_iload_n hx hb dX7_put_1 rfl (lv_at hl 1 rfl) ?_
  obtain ⟨v2, zqe1, h⟩ := ob h
  refine rc_V C hR hS cf_X7_textOf cv_X7_textOf lk433 (ok_X7_textOf zqe1) (ck_X7_textOf zqe1) ⟨Nat.le_of_ble_eq_true rfl, Nat.le_of_ble_eq_true rfl⟩ ⟨Nat.zero_le _, Nat.zero_le _⟩ rfl rfl hl.1 (Nat.le_of_ble_eq_true rfl) dX7_put_2 (rc_k1 (fun H locs hR hS => ?_))
  refine rc_nul (fun zqz3 => ?_) (fun zqz3 => ?_)
  · have h := ip zqz3 h
    refine lv_astoreN (lv' := [(4, .null), (0, .ref (B + x0)), (1, .int x1), (2, .int x2), (3, .int x3)]) hx hb dX7_put_5 hl (by decide) rfl (fun ls hl => ?_)
    refine lv_aloadN hx hb dX7_put_7 (lv_at hl 0 rfl) ?_
    refine lv_ifnonnullN hx hb dX7_put_9 ?_
    refine lv_iconst (v := (-1)) hx hb dX7_put_12 (by decide) ?_
    cases h
    exact rr_I C hR hS dX7_put_13
  · have h := iq zqz3 h
    refine lv_astore (lv' := [(4, .ref (B + v2)), (0, .ref (B + x0)), (1, .int x1), (2, .int x2), (3, .int x3)]) hx hb dX7_put_5 hl (by decide) rfl (fun ls hl => ?_)
    refine lv_aload hx hb dX7_put_7 (lv_at hl 0 rfl) ?_
    refine lv_ifnonnull (tgt := 14) hx hb dX7_put_9 (by decide) ?_
    refine lv_aload hx hb dX7_put_14 (lv_at hl 0 rfl) ?_
    obtain ⟨v5, zqe4, h⟩ := ob h
    refine rc_VN C hR hS cf_X5_isMissing cv_X5_isMissing lk448 (ok_X5_isMissing zqe4) (ck_X5_isMissing zqe4) ⟨Nat.le_of_ble_eq_true rfl, Nat.le_of_ble_eq_true rfl⟩ ⟨Nat.zero_le _, Nat.zero_le _⟩ rfl rfl hl.1 (Nat.le_of_ble_eq_true rfl) dX7_put_16 (rc_k1 (fun H locs hR hS => ?_))
    refine lv_if_eq (tgt := 28) hx hb dX7_put_19 (by decide) (fun c => ?_) (fun c => ?_)
    · have h := ip c h
      refine lv_aload hx hb dX7_put_28 (lv_at hl 0 rfl) ?_
      refine lv_iload_n hx hb dX7_put_30 rfl (lv_at hl 3 rfl) ?_
      obtain ⟨v7, zqe6, h⟩ := ob h
      refine rc_VN C hR hS cf_X5_has cv_X5_has lk452 (ok_X5_has zqe6) (ck_X5_has zqe6) ⟨Nat.le_of_ble_eq_true rfl, Nat.le_of_ble_eq_true rfl⟩ ⟨Nat.zero_le _, Nat.zero_le _⟩ rfl rfl hl.1 (Nat.le_of_ble_eq_true rfl) dX7_put_31 (rc_k1 (fun H locs hR hS => ?_))
      refine lv_if_ne (tgt := 43) hx hb dX7_put_34 (by decide) (fun c => ?_) (fun c => ?_)
      · have h := iq c h
        refine lv_aload hx hb dX7_put_43 (lv_at hl 0 rfl) ?_
        obtain ⟨v8, zqe9, h⟩ := ob h
        refine gf316 C hR zqe9 dX7_put_45 ?_
        refine lv_iload_n hx hb dX7_put_48 rfl (lv_at hl 3 rfl) ?_
        obtain ⟨v10, zqe11, h⟩ := ob h
        refine ra_B C hR zqe11 dX7_put_49 ?_
        refine lv_istore (lv' := [(5, .int v10), (4, .ref (B + v2)), (0, .ref (B + x0)), (1, .int x1), (2, .int x2), (3, .int x3)]) hx hb dX7_put_50 hl (by decide) rfl (fun ls hl => ?_)
        refine lv_aload hx hb dX7_put_52 (lv_at hl 1 rfl) ?_
        obtain ⟨v12, zqe13, h⟩ := ob h
        refine gf316 C hR zqe13 dX7_put_54 ?_
        refine lv_iload_n hx hb dX7_put_57 rfl (lv_at hl 4 rfl) ?_
        refine lv_iload_n hx hb dX7_put_58 rfl (lv_at hl 5 rfl) ?_
        refine lv_i2b (v := (Int8.toInt32 (Int32.toInt8 x3))) hx hb dX7_put_59 rfl ?_
        obtain ⟨M14, zqe15, h⟩ := ob h
        refine re_B C hR hS zqe15 dX7_put_60 (fun H locs hR hS => ?_)
        refine lv_iload hx hb dX7_put_61 (lv_at hl 0 rfl) ?_
        refine lv_sipush (v := 1000) hx hb dX7_put_63 (by decide) ?_
        refine lv_iadd hx hb dX7_put_66 ?_
        cases h
        exact rr_I C hR hS dX7_put_67
      · have h := ip c h
        refine lv_aload_n hx hb dX7_put_37 rfl (lv_at hl 1 rfl) ?_
        refine lv_iconst (v := 2) hx hb dX7_put_38 (by decide) ?_
        obtain ⟨qv17, zqe16, h⟩ := ob h
        refine rc_V C hR hS cf_X7_refuse cv_X7_refuse lk379 (ok_X7_refuse zqe16) (ck_X7_refuse zqe16) ⟨Nat.le_of_ble_eq_true rfl, Nat.le_of_ble_eq_true rfl⟩ ⟨Nat.zero_le _, Nat.zero_le _⟩ rfl rfl hl.1 (Nat.le_of_ble_eq_true rfl) dX7_put_39 (rc_k1 (fun H locs hR hS => ?_))
        cases h
        exact rr_I C hR hS dX7_put_42
    · have h := iq c h
      refine lv_aload_n hx hb dX7_put_22 rfl (lv_at hl 1 rfl) ?_
      refine lv_iconst (v := 1) hx hb dX7_put_23 (by decide) ?_
      obtain ⟨qv20, zqe19, h⟩ := ob h
      refine rc_V C hR hS cf_X7_refuse cv_X7_refuse lk379 (ok_X7_refuse zqe19) (ck_X7_refuse zqe19) ⟨Nat.le_of_ble_eq_true rfl, Nat.le_of_ble_eq_true rfl⟩ ⟨Nat.zero_le _, Nat.zero_le _⟩ rfl rfl hl.1 (Nat.le_of_ble_eq_true rfl) dX7_put_24 (rc_k1 (fun H locs hR hS => ?_))
      cases h
      exact rr_I C hR hS dX7_put_27
theorem ck_X7_rest  {x0 : Nat} {x1 : Int32} {M : Mem} {r : Int32 × Mem} (h : f_X7_rest  x0 x1 M = some r) : kd M x0 = 17 := by
  unfold f_X7_rest at h
  exact ck h
set_option maxHeartbeats 4000000 in
set_option maxRecDepth 100000 in
theorem ok_X7_rest  {x0 : Nat} {x1 : Int32}  {M : Mem} {r : Int32 × Mem}  (h : f_X7_rest  x0 x1 M = some r) : Ok l yX7_rest cX7_rest 2 (some .int) 6 [.ref (B + x0), .int x1] D B ca st M (some (.int r.1)) r.2 := by
  have hk0 := ck_X7_rest h
  unfold f_X7_rest at h
  have h := ip hk0 h
  refine ok_of rfl rfl (Nat.le_of_ble_eq_true rfl) ?_
  intro p e s m args below meth c ls C hl hR hS
  have hl : lv_has ls 2 [(0, .ref (B + x0)), (1, .int x1)] := hl
  have hx := C.1
  have hb := C.2.1
  refine lv_aload_n hx hb dX7_rest_0 rfl (lv_at hl 0 rfl) ?_
  obtain ⟨v1, zqe2, h⟩ := ob h
  refine gf327 C hR zqe2 dX7_rest_1 ?_
  refine lv_iload_n hx hb dX7_rest_4 rfl (lv_at hl 1 rfl) ?_
  obtain ⟨v4, zqe3, h⟩ := ob h
  refine rc_VN C hR hS cf_X2_hasSigher cv_X2_hasSigher lk538 (ok_X2_hasSigher zqe3) (ck_X2_hasSigher zqe3) ⟨Nat.le_of_ble_eq_true rfl, Nat.le_of_ble_eq_true rfl⟩ ⟨Nat.zero_le _, Nat.zero_le _⟩ rfl rfl hl.1 (Nat.le_of_ble_eq_true rfl) dX7_rest_5 (rc_k1 (fun H locs hR hS => ?_))
  refine lv_if_ne (tgt := 13) hx hb dX7_rest_8 (by decide) (fun c => ?_) (fun c => ?_)
  · have h := iq c h
    refine lv_aload_n hx hb dX7_rest_13 rfl (lv_at hl 0 rfl) ?_
    obtain ⟨v5, zqe6, h⟩ := ob h
    refine gf329 C hR zqe6 dX7_rest_14 ?_
    obtain ⟨v7, zqe8, h⟩ := ob h
    refine gf205 C hR zqe8 dX7_rest_17 ?_
    refine lv_iload_n hx hb dX7_rest_20 rfl (lv_at hl 1 rfl) ?_
    obtain ⟨v9, zqe10, h⟩ := ob h
    refine ra_I C hR zqe10 dX7_rest_21 ?_
    refine lv_bipush (v := 9) hx hb dX7_rest_22 (by decide) ?_
    refine lv_icmp_lt (tgt := 30) hx hb dX7_rest_24 (by decide) (fun c => ?_) (fun c => ?_)
    · have h := ip c h
      refine lv_aload_n hx hb dX7_rest_30 rfl (lv_at hl 0 rfl) ?_
      obtain ⟨v11, zqe12, h⟩ := ob h
      refine gf331 C hR zqe12 dX7_rest_31 ?_
      refine lv_iconst (v := 1) hx hb dX7_rest_34 (by decide) ?_
      obtain ⟨v14, zqe13, h⟩ := ob h
      refine rc_VN C hR hS cf_X0_lackRoomFor cv_X0_lackRoomFor lk608 (ok_X0_lackRoomFor zqe13) (ck_X0_lackRoomFor zqe13) ⟨Nat.le_of_ble_eq_true rfl, Nat.le_of_ble_eq_true rfl⟩ ⟨Nat.zero_le _, Nat.zero_le _⟩ rfl rfl hl.1 (Nat.le_of_ble_eq_true rfl) dX7_rest_35 (rc_k1 (fun H locs hR hS => ?_))
      refine lv_if_eq (tgt := 44) hx hb dX7_rest_38 (by decide) (fun c => ?_) (fun c => ?_)
      · have h := ip c h
        refine lv_aload_n hx hb dX7_rest_44 rfl (lv_at hl 0 rfl) ?_
        refine lv_iconst (v := 2) hx hb dX7_rest_45 (by decide) ?_
        refine lv_iload_n hx hb dX7_rest_46 rfl (lv_at hl 1 rfl) ?_
        refine lv_iconst (v := 0) hx hb dX7_rest_47 (by decide) ?_
        obtain ⟨M16, zqe15, h⟩ := ob h
        refine rc_V C hR hS cf_X7_enact cv_X7_enact lk612 (ok_X7_enact zqe15) (ck_X7_enact zqe15) ⟨Nat.le_of_ble_eq_true rfl, Nat.le_of_ble_eq_true rfl⟩ ⟨Nat.zero_le _, Nat.zero_le _⟩ rfl rfl hl.1 (Nat.le_of_ble_eq_true rfl) dX7_rest_48 (rc_k0 (fun H locs hR hS => ?_))
        refine lv_aload_n hx hb dX7_rest_51 rfl (lv_at hl 0 rfl) ?_
        obtain ⟨v17, zqe18, h⟩ := ob h
        refine gf329 C hR zqe18 dX7_rest_52 ?_
        obtain ⟨v19, zqe20, h⟩ := ob h
        refine gf205 C hR zqe20 dX7_rest_55 ?_
        refine lv_iload_n hx hb dX7_rest_58 rfl (lv_at hl 1 rfl) ?_
        obtain ⟨v21, zqe22, h⟩ := ob h
        refine ra_I C hR zqe22 dX7_rest_59 ?_
        cases h
        exact rr_I C hR hS dX7_rest_60
      · have h := iq c h
        refine lv_bipush (v := (-2)) hx hb dX7_rest_41 (by decide) ?_
        cases h
        exact rr_I C hR hS dX7_rest_43
    · have h := iq c h
      refine lv_bipush (v := (-4)) hx hb dX7_rest_27 (by decide) ?_
      cases h
      exact rr_I C hR hS dX7_rest_29
  · have h := ip c h
    refine lv_iconst (v := (-1)) hx hb dX7_rest_11 (by decide) ?_
    cases h
    exact rr_I C hR hS dX7_rest_12
theorem ck_X7_row  {x0 : Nat} {x1 : Int32} {x2 : Int32} {M : Mem} {r : Int32 × Mem} (h : f_X7_row  x0 x1 x2 M = some r) : kd M x0 = 17 := by
  unfold f_X7_row at h
  exact ck h
set_option maxHeartbeats 4000000 in
set_option maxRecDepth 100000 in
theorem ok_X7_row  {x0 : Nat} {x1 : Int32} {x2 : Int32}  {M : Mem} {r : Int32 × Mem}  (h : f_X7_row  x0 x1 x2 M = some r) : Ok l yX7_row cX7_row 4 (some .int) 2 [.ref (B + x0), .int x1, .int x2] D B ca st M (some (.int r.1)) r.2 := by
  have hk0 := ck_X7_row h
  unfold f_X7_row at h
  have h := ip hk0 h
  refine ok_of rfl rfl (Nat.le_of_ble_eq_true rfl) ?_
  intro p e s m args below meth c ls C hl hR hS
  have hl : lv_has ls 4 [(0, .ref (B + x0)), (1, .int x1), (2, .int x2)] := hl
  have hx := C.1
  have hb := C.2.1
  refine lv_aload_n hx hb dX7_row_0 rfl (lv_at hl 0 rfl) ?_
  refine lv_iload_n hx hb dX7_row_1 rfl (lv_at hl 1 rfl) ?_
  obtain ⟨v2, zqe1, h⟩ := ob h
  refine rc_V C hR hS cf_X7_rowOf cv_X7_rowOf lk375 (ok_X7_rowOf zqe1) (ck_X7_rowOf zqe1) ⟨Nat.le_of_ble_eq_true rfl, Nat.le_of_ble_eq_true rfl⟩ ⟨Nat.zero_le _, Nat.zero_le _⟩ rfl rfl hl.1 (Nat.le_of_ble_eq_true rfl) dX7_row_2 (rc_k1 (fun H locs hR hS => ?_))
  refine rc_nul (fun zqz3 => ?_) (fun zqz3 => ?_)
  · have h := ip zqz3 h
    refine lv_astore_nN (lv' := [(3, .null), (0, .ref (B + x0)), (1, .int x1), (2, .int x2)]) hx hb dX7_row_5 rfl hl (by decide) rfl (fun ls hl => ?_)
    refine lv_aload_nN hx hb dX7_row_6 rfl (lv_at hl 0 rfl) ?_
    refine lv_ifnullN (tgt := 16) hx hb dX7_row_7 (by decide) ?_
    refine lv_iconst (v := (-1)) hx hb dX7_row_16 (by decide) ?_
    cases h
    exact rr_I C hR hS dX7_row_17
  · have h := iq zqz3 h
    refine lv_astore_n (lv' := [(3, .ref (B + v2)), (0, .ref (B + x0)), (1, .int x1), (2, .int x2)]) hx hb dX7_row_5 rfl hl (by decide) rfl (fun ls hl => ?_)
    refine lv_aload_n hx hb dX7_row_6 rfl (lv_at hl 0 rfl) ?_
    refine lv_ifnull hx hb dX7_row_7 ?_
    refine lv_iload_n hx hb dX7_row_10 rfl (lv_at hl 3 rfl) ?_
    refine lv_bipush (v := 40) hx hb dX7_row_11 (by decide) ?_
    refine lv_icmp_le (tgt := 18) hx hb dX7_row_13 (by decide) (fun c => ?_) (fun c => ?_)
    · have h := ip c h
      refine lv_iload_n hx hb dX7_row_18 rfl (lv_at hl 3 rfl) ?_
      refine lv_if_ge (tgt := 28) hx hb dX7_row_19 (by decide) (fun c => ?_) (fun c => ?_)
      · have h := ip c h
        refine lv_aload_n hx hb dX7_row_28 rfl (lv_at hl 0 rfl) ?_
        refine lv_iload_n hx hb dX7_row_29 rfl (lv_at hl 3 rfl) ?_
        obtain ⟨M5, zqe4, h⟩ := ob h
        refine rc_VN C hR hS cf_X4_renew cv_X4_renew lk383 (ok_X4_renew zqe4) (ck_X4_renew zqe4) ⟨Nat.le_of_ble_eq_true rfl, Nat.le_of_ble_eq_true rfl⟩ ⟨Nat.zero_le _, Nat.zero_le _⟩ rfl rfl hl.1 (Nat.le_of_ble_eq_true rfl) dX7_row_30 (rc_k0 (fun H locs hR hS => ?_))
        refine lv_iload_n hx hb dX7_row_33 rfl (lv_at hl 3 rfl) ?_
        cases h
        exact rr_I C hR hS dX7_row_34
      · have h := iq c h
        refine lv_aload_n hx hb dX7_row_22 rfl (lv_at hl 1 rfl) ?_
        refine lv_iconst (v := 5) hx hb dX7_row_23 (by decide) ?_
        obtain ⟨qv7, zqe6, h⟩ := ob h
        refine rc_V C hR hS cf_X7_refuse cv_X7_refuse lk379 (ok_X7_refuse zqe6) (ck_X7_refuse zqe6) ⟨Nat.le_of_ble_eq_true rfl, Nat.le_of_ble_eq_true rfl⟩ ⟨Nat.zero_le _, Nat.zero_le _⟩ rfl rfl hl.1 (Nat.le_of_ble_eq_true rfl) dX7_row_24 (rc_k1 (fun H locs hR hS => ?_))
        cases h
        exact rr_I C hR hS dX7_row_27
    · have h := iq c h
      refine lv_iconst (v := (-1)) hx hb dX7_row_16 (by decide) ?_
      cases h
      exact rr_I C hR hS dX7_row_17
theorem ck_X7_sigh  {x0 : Nat} {x1 : Int32} {x2 : Int32} {M : Mem} {r : Int32 × Mem} (h : f_X7_sigh  x0 x1 x2 M = some r) : kd M x0 = 17 := by
  unfold f_X7_sigh at h
  exact ck h
set_option maxHeartbeats 4000000 in
set_option maxRecDepth 100000 in
theorem ok_X7_sigh  {x0 : Nat} {x1 : Int32} {x2 : Int32}  {M : Mem} {r : Int32 × Mem}  (h : f_X7_sigh  x0 x1 x2 M = some r) : Ok l yX7_sigh cX7_sigh 4 (some .int) 6 [.ref (B + x0), .int x1, .int x2] D B ca st M (some (.int r.1)) r.2 := by
  have hk0 := ck_X7_sigh h
  unfold f_X7_sigh at h
  have h := ip hk0 h
  refine ok_of rfl rfl (Nat.le_of_ble_eq_true rfl) ?_
  intro p e s m args below meth c ls C hl hR hS
  have hl : lv_has ls 4 [(0, .ref (B + x0)), (1, .int x1), (2, .int x2)] := hl
  have hx := C.1
  have hb := C.2.1
  refine lv_aload_n hx hb dX7_sigh_0 rfl (lv_at hl 0 rfl) ?_
  obtain ⟨v1, zqe2, h⟩ := ob h
  refine gf327 C hR zqe2 dX7_sigh_1 ?_
  refine lv_iload_n hx hb dX7_sigh_4 rfl (lv_at hl 1 rfl) ?_
  obtain ⟨v4, zqe3, h⟩ := ob h
  refine rc_VN C hR hS cf_X2_hasSigher cv_X2_hasSigher lk538 (ok_X2_hasSigher zqe3) (ck_X2_hasSigher zqe3) ⟨Nat.le_of_ble_eq_true rfl, Nat.le_of_ble_eq_true rfl⟩ ⟨Nat.zero_le _, Nat.zero_le _⟩ rfl rfl hl.1 (Nat.le_of_ble_eq_true rfl) dX7_sigh_5 (rc_k1 (fun H locs hR hS => ?_))
  refine lv_if_eq (tgt := 22) hx hb dX7_sigh_8 (by decide) (fun c => ?_) (fun c => ?_)
  · have h := ip c h
    refine lv_iconst (v := (-1)) hx hb dX7_sigh_22 (by decide) ?_
    cases h
    exact rr_I C hR hS dX7_sigh_23
  · have h := iq c h
    refine lv_aload_n hx hb dX7_sigh_11 rfl (lv_at hl 0 rfl) ?_
    obtain ⟨v5, zqe6, h⟩ := ob h
    refine gf327 C hR zqe6 dX7_sigh_12 ?_
    refine lv_iload_n hx hb dX7_sigh_15 rfl (lv_at hl 2 rfl) ?_
    obtain ⟨v8, zqe7, h⟩ := ob h
    refine rc_VN C hR hS cf_X2_hasOrder cv_X2_hasOrder lk575 (ok_X2_hasOrder zqe7) (ck_X2_hasOrder zqe7) ⟨Nat.le_of_ble_eq_true rfl, Nat.le_of_ble_eq_true rfl⟩ ⟨Nat.zero_le _, Nat.zero_le _⟩ rfl rfl hl.1 (Nat.le_of_ble_eq_true rfl) dX7_sigh_16 (rc_k1 (fun H locs hR hS => ?_))
    refine lv_if_ne (tgt := 24) hx hb dX7_sigh_19 (by decide) (fun c => ?_) (fun c => ?_)
    · have h := iq c h
      refine lv_aload_n hx hb dX7_sigh_24 rfl (lv_at hl 0 rfl) ?_
      obtain ⟨v9, zqe10, h⟩ := ob h
      refine gf327 C hR zqe10 dX7_sigh_25 ?_
      refine lv_iload_n hx hb dX7_sigh_28 rfl (lv_at hl 1 rfl) ?_
      refine lv_iload_n hx hb dX7_sigh_29 rfl (lv_at hl 2 rfl) ?_
      obtain ⟨v12, zqe11, h⟩ := ob h
      refine rc_VN C hR hS cf_X2_breathFor cv_X2_breathFor lk593 (ok_X2_breathFor zqe11) (ck_X2_breathFor zqe11) ⟨Nat.le_of_ble_eq_true rfl, Nat.le_of_ble_eq_true rfl⟩ ⟨Nat.zero_le _, Nat.zero_le _⟩ rfl rfl hl.1 (Nat.le_of_ble_eq_true rfl) dX7_sigh_30 (rc_k1 (fun H locs hR hS => ?_))
      refine lv_istore_n (lv' := [(3, .int v12), (0, .ref (B + x0)), (1, .int x1), (2, .int x2)]) hx hb dX7_sigh_33 rfl hl (by decide) rfl (fun ls hl => ?_)
      refine lv_aload_n hx hb dX7_sigh_34 rfl (lv_at hl 1 rfl) ?_
      obtain ⟨v13, zqe14, h⟩ := ob h
      refine gf329 C hR zqe14 dX7_sigh_35 ?_
      refine lv_iload_n hx hb dX7_sigh_38 rfl (lv_at hl 3 rfl) ?_
      obtain ⟨v16, zqe15, h⟩ := ob h
      refine rc_VN C hR hS cf_X6_isDone cv_X6_isDone lk580 (ok_X6_isDone zqe15) (ck_X6_isDone zqe15) ⟨Nat.le_of_ble_eq_true rfl, Nat.le_of_ble_eq_true rfl⟩ ⟨Nat.zero_le _, Nat.zero_le _⟩ rfl rfl hl.1 (Nat.le_of_ble_eq_true rfl) dX7_sigh_39 (rc_k1 (fun H locs hR hS => ?_))
      refine lv_if_ne (tgt := 72) hx hb dX7_sigh_42 (by decide) (fun c => ?_) (fun c => ?_)
      · have h := iq c h
        refine lv_bipush (v := (-4)) hx hb dX7_sigh_72 (by decide) ?_
        cases h
        exact rr_I C hR hS dX7_sigh_74
      · have h := ip c h
        refine lv_aload_n hx hb dX7_sigh_45 rfl (lv_at hl 1 rfl) ?_
        obtain ⟨v17, zqe18, h⟩ := ob h
        refine gf329 C hR zqe18 dX7_sigh_46 ?_
        obtain ⟨v19, zqe20, h⟩ := ob h
        refine gf208 C hR zqe20 dX7_sigh_49 ?_
        refine lv_iload_n hx hb dX7_sigh_52 rfl (lv_at hl 2 rfl) ?_
        obtain ⟨v21, zqe22, h⟩ := ob h
        refine ra_I C hR zqe22 dX7_sigh_53 ?_
        refine lv_aload_n hx hb dX7_sigh_54 rfl (lv_at hl 1 rfl) ?_
        obtain ⟨v23, zqe24, h⟩ := ob h
        refine gf327 C hR zqe24 dX7_sigh_55 ?_
        obtain ⟨v25, zqe26, h⟩ := ob h
        refine gf167 C hR zqe26 dX7_sigh_58 ?_
        refine lv_iload_n hx hb dX7_sigh_61 rfl (lv_at hl 3 rfl) ?_
        obtain ⟨v27, zqe28, h⟩ := ob h
        refine ra_I C hR zqe28 dX7_sigh_62 ?_
        refine lv_icmp_ne (tgt := 72) hx hb dX7_sigh_63 (by decide) (fun c => ?_) (fun c => ?_)
        · have h := iq c h
          refine lv_bipush (v := (-4)) hx hb dX7_sigh_72 (by decide) ?_
          cases h
          exact rr_I C hR hS dX7_sigh_74
        · have h := ip c h
          refine lv_iload_n hx hb dX7_sigh_66 rfl (lv_at hl 0 rfl) ?_
          refine lv_bipush (v := (-9)) hx hb dX7_sigh_67 (by decide) ?_
          refine lv_icmp_ne (tgt := 75) hx hb dX7_sigh_69 (by decide) (fun c => ?_) (fun c => ?_)
          · have h := iq c h
            refine lv_iload_n hx hb dX7_sigh_75 rfl (lv_at hl 0 rfl) ?_
            refine lv_aload_n hx hb dX7_sigh_76 rfl (lv_at hl 1 rfl) ?_
            obtain ⟨v29, zqe30, h⟩ := ob h
            refine gf329 C hR zqe30 dX7_sigh_77 ?_
            obtain ⟨v31, zqe32, h⟩ := ob h
            refine gf205 C hR zqe32 dX7_sigh_80 ?_
            refine lv_iload_n hx hb dX7_sigh_83 rfl (lv_at hl 2 rfl) ?_
            obtain ⟨v33, zqe34, h⟩ := ob h
            refine ra_I C hR zqe34 dX7_sigh_84 ?_
            refine lv_icmp_le (tgt := 91) hx hb dX7_sigh_85 (by decide) (fun c => ?_) (fun c => ?_)
            · have h := ip c h
              refine lv_aload_n hx hb dX7_sigh_91 rfl (lv_at hl 1 rfl) ?_
              obtain ⟨v35, zqe36, h⟩ := ob h
              refine gf331 C hR zqe36 dX7_sigh_92 ?_
              refine lv_iconst (v := 1) hx hb dX7_sigh_95 (by decide) ?_
              obtain ⟨v38, zqe37, h⟩ := ob h
              refine rc_VN C hR hS cf_X0_lackRoomFor cv_X0_lackRoomFor lk608 (ok_X0_lackRoomFor zqe37) (ck_X0_lackRoomFor zqe37) ⟨Nat.le_of_ble_eq_true rfl, Nat.le_of_ble_eq_true rfl⟩ ⟨Nat.zero_le _, Nat.zero_le _⟩ rfl rfl hl.1 (Nat.le_of_ble_eq_true rfl) dX7_sigh_96 (rc_k1 (fun H locs hR hS => ?_))
              refine lv_if_eq (tgt := 105) hx hb dX7_sigh_99 (by decide) (fun c => ?_) (fun c => ?_)
              · have h := ip c h
                refine lv_aload_n hx hb dX7_sigh_105 rfl (lv_at hl 1 rfl) ?_
                refine lv_iconst (v := 1) hx hb dX7_sigh_106 (by decide) ?_
                refine lv_iload_n hx hb dX7_sigh_107 rfl (lv_at hl 2 rfl) ?_
                refine lv_iload_n hx hb dX7_sigh_108 rfl (lv_at hl 3 rfl) ?_
                obtain ⟨M40, zqe39, h⟩ := ob h
                refine rc_V C hR hS cf_X7_enact cv_X7_enact lk612 (ok_X7_enact zqe39) (ck_X7_enact zqe39) ⟨Nat.le_of_ble_eq_true rfl, Nat.le_of_ble_eq_true rfl⟩ ⟨Nat.zero_le _, Nat.zero_le _⟩ rfl rfl hl.1 (Nat.le_of_ble_eq_true rfl) dX7_sigh_109 (rc_k0 (fun H locs hR hS => ?_))
                refine lv_aload_n hx hb dX7_sigh_112 rfl (lv_at hl 1 rfl) ?_
                obtain ⟨v41, zqe42, h⟩ := ob h
                refine gf329 C hR zqe42 dX7_sigh_113 ?_
                obtain ⟨v43, zqe44, h⟩ := ob h
                refine gf214 C hR zqe44 dX7_sigh_116 ?_
                cases h
                exact rr_I C hR hS dX7_sigh_119
              · have h := iq c h
                refine lv_bipush (v := (-2)) hx hb dX7_sigh_102 (by decide) ?_
                cases h
                exact rr_I C hR hS dX7_sigh_104
            · have h := iq c h
              refine lv_bipush (v := (-6)) hx hb dX7_sigh_88 (by decide) ?_
              cases h
              exact rr_I C hR hS dX7_sigh_90
          · have h := ip c h
            refine lv_bipush (v := (-4)) hx hb dX7_sigh_72 (by decide) ?_
            cases h
            exact rr_I C hR hS dX7_sigh_74
    · have h := ip c h
      refine lv_iconst (v := (-1)) hx hb dX7_sigh_22 (by decide) ?_
      cases h
      exact rr_I C hR hS dX7_sigh_23
end Walk2
