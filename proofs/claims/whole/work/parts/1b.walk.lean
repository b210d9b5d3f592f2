section Walk1
variable {p : Program} {l : Launch} {e : Env} {s : State} {m : MethodId} {args : Array Value} {below : List Frame} {meth : Method} {c : Code}
variable {D : va_G} {B : Nat} {ca : Nat → ClassId} {st : Nat → Nat}
theorem ck_X2_breathFor  {x0 : Nat} {x1 : Int32} {x2 : Int32} {M : Mem} {r : Int32} (h : f_X2_breathFor  x0 x1 x2 M = some r) : kd M x0 = 12 := by
  unfold f_X2_breathFor at h
  exact ck h
set_option maxHeartbeats 4000000 in
set_option maxRecDepth 100000 in
theorem ok_X2_breathFor  {x0 : Nat} {x1 : Int32} {x2 : Int32}  {M : Mem} {r : Int32}  (h : f_X2_breathFor  x0 x1 x2 M = some r) : Ok l yX2_breathFor cX2_breathFor 3 (some .int) 1 [.ref (B + x0), .int x1, .int x2] D B ca st M (some (.int r)) M := by
  have hk0 := ck_X2_breathFor h
  unfold f_X2_breathFor at h
  have h := ip hk0 h
  refine ok_of rfl rfl (Nat.le_of_ble_eq_true rfl) ?_
  intro p e s m args below meth c ls C hl hR hS
  have hl : lv_has ls 3 [(0, .ref (B + x0)), (1, .int x1), (2, .int x2)] := hl
  have hx := C.1
  have hb := C.2.1
  refine lv_aload_n hx hb dX2_breathFor_0 rfl (lv_at hl 0 rfl) ?_
  refine lv_iload_n hx hb dX2_breathFor_1 rfl (lv_at hl 1 rfl) ?_
  obtain ⟨v2, zqe1, h⟩ := ob h
  refine rc_V C hR hS cf_X2_hasSigher cv_X2_hasSigher lk566 (ok_X2_hasSigher zqe1) (ck_X2_hasSigher zqe1) ⟨Nat.le_of_ble_eq_true rfl, Nat.le_of_ble_eq_true rfl⟩ ⟨Nat.zero_le _, Nat.zero_le _⟩ rfl rfl hl.1 (Nat.le_of_ble_eq_true rfl) dX2_breathFor_2 (rc_k1 (fun H locs hR hS => ?_))
  refine lv_if_eq (tgt := 30) hx hb dX2_breathFor_5 (by decide) (fun c => ?_) (fun c => ?_)
  · have h := ip c h
    refine lv_bipush (v := (-9)) hx hb dX2_breathFor_30 (by decide) ?_
    cases h
    exact rr_I C hR hS dX2_breathFor_32
  · have h := iq c h
    refine lv_aload_n hx hb dX2_breathFor_8 rfl (lv_at hl 0 rfl) ?_
    refine lv_iload_n hx hb dX2_breathFor_9 rfl (lv_at hl 2 rfl) ?_
    obtain ⟨v4, zqe3, h⟩ := ob h
    refine rc_V C hR hS cf_X2_hasOrder cv_X2_hasOrder lk567 (ok_X2_hasOrder zqe3) (ck_X2_hasOrder zqe3) ⟨Nat.le_of_ble_eq_true rfl, Nat.le_of_ble_eq_true rfl⟩ ⟨Nat.zero_le _, Nat.zero_le _⟩ rfl rfl hl.1 (Nat.le_of_ble_eq_true rfl) dX2_breathFor_10 (rc_k1 (fun H locs hR hS => ?_))
    refine lv_if_eq (tgt := 30) hx hb dX2_breathFor_13 (by decide) (fun c => ?_) (fun c => ?_)
    · have h := ip c h
      refine lv_bipush (v := (-9)) hx hb dX2_breathFor_30 (by decide) ?_
      cases h
      exact rr_I C hR hS dX2_breathFor_32
    · have h := iq c h
      refine lv_aload_n hx hb dX2_breathFor_16 rfl (lv_at hl 0 rfl) ?_
      obtain ⟨v5, zqe6, h⟩ := ob h
      refine gf172 C hR zqe6 dX2_breathFor_17 ?_
      refine lv_iload_n hx hb dX2_breathFor_20 rfl (lv_at hl 1 rfl) ?_
      refine lv_bipush (v := 6) hx hb dX2_breathFor_21 (by decide) ?_
      refine lv_imul hx hb dX2_breathFor_23 ?_
      refine lv_iload_n hx hb dX2_breathFor_24 rfl (lv_at hl 2 rfl) ?_
      refine lv_iadd hx hb dX2_breathFor_25 ?_
      obtain ⟨v7, zqe8, h⟩ := ob h
      refine ra_I C hR zqe8 dX2_breathFor_26 ?_
      refine lv_goto (tgt := 32) hx hb dX2_breathFor_27 (by decide) ?_
      cases h
      exact rr_I C hR hS dX2_breathFor_32
theorem ck_X6_isAble  {x0 : Nat} {x1 : Nat} {x2 : Int32} {x3 : Int32} {M : Mem} {r : Int32} (h : f_X6_isAble  x0 x1 x2 x3 M = some r) : kd M x0 = 16 := by
  unfold f_X6_isAble at h
  exact ck h
set_option maxHeartbeats 4000000 in
set_option maxRecDepth 100000 in
theorem ok_X6_isAble  {x0 : Nat} {x1 : Nat} {x2 : Int32} {x3 : Int32}  {M : Mem} {r : Int32}  (h : f_X6_isAble  x0 x1 x2 x3 M = some r) : Ok l yX6_isAble cX6_isAble 5 (some .boolean) 2 [.ref (B + x0), .ref (B + x1), .int x2, .int x3] D B ca st M (some (.int r)) M := by
  have hk0 := ck_X6_isAble h
  unfold f_X6_isAble at h
  have h := ip hk0 h
  refine ok_of rfl rfl (Nat.le_of_ble_eq_true rfl) ?_
  intro p e s m args below meth c ls C hl hR hS
  have hl : lv_has ls 5 [(0, .ref (B + x0)), (1, .ref (B + x1)), (2, .int x2), (3, .int x3)] := hl
  have hx := C.1
  have hb := C.2.1
  refine lv_aload_n hx hb dX6_isAble_0 rfl (lv_at hl 1 rfl) ?_
  refine lv_iload_n hx hb dX6_isAble_1 rfl (lv_at hl 2 rfl) ?_
  obtain ⟨v2, zqe1, h⟩ := ob h
  refine rc_VN C hR hS cf_X2_hasSigher cv_X2_hasSigher lk554 (ok_X2_hasSigher zqe1) (ck_X2_hasSigher zqe1) ⟨Nat.le_of_ble_eq_true rfl, Nat.le_of_ble_eq_true rfl⟩ ⟨Nat.zero_le _, Nat.zero_le _⟩ rfl rfl hl.1 (Nat.le_of_ble_eq_true rfl) dX6_isAble_2 (rc_k1 (fun H locs hR hS => ?_))
  refine lv_if_eq (tgt := 16) hx hb dX6_isAble_5 (by decide) (fun c => ?_) (fun c => ?_)
  · have h := ip c h
    refine lv_iconst (v := 0) hx hb dX6_isAble_16 (by decide) ?_
    cases h
    exact rr_Z (v := 0) C hR hS (by decide) dX6_isAble_17
  · have h := iq c h
    refine lv_aload_n hx hb dX6_isAble_8 rfl (lv_at hl 0 rfl) ?_
    refine lv_iload_n hx hb dX6_isAble_9 rfl (lv_at hl 3 rfl) ?_
    obtain ⟨v4, zqe3, h⟩ := ob h
    refine rc_V C hR hS cf_X6_isDone cv_X6_isDone lk555 (ok_X6_isDone zqe3) (ck_X6_isDone zqe3) ⟨Nat.le_of_ble_eq_true rfl, Nat.le_of_ble_eq_true rfl⟩ ⟨Nat.zero_le _, Nat.zero_le _⟩ rfl rfl hl.1 (Nat.le_of_ble_eq_true rfl) dX6_isAble_10 (rc_k1 (fun H locs hR hS => ?_))
    refine lv_if_eq (tgt := 18) hx hb dX6_isAble_13 (by decide) (fun c => ?_) (fun c => ?_)
    · have h := ip c h
      refine lv_aload_n hx hb dX6_isAble_18 rfl (lv_at hl 1 rfl) ?_
      refine lv_iload_n hx hb dX6_isAble_19 rfl (lv_at hl 2 rfl) ?_
      refine lv_iload_n hx hb dX6_isAble_20 rfl (lv_at hl 3 rfl) ?_
      obtain ⟨v6, zqe5, h⟩ := ob h
      refine rc_VN C hR hS cf_X2_breathFor cv_X2_breathFor lk562 (ok_X2_breathFor zqe5) (ck_X2_breathFor zqe5) ⟨Nat.le_of_ble_eq_true rfl, Nat.le_of_ble_eq_true rfl⟩ ⟨Nat.zero_le _, Nat.zero_le _⟩ rfl rfl hl.1 (Nat.le_of_ble_eq_true rfl) dX6_isAble_21 (rc_k1 (fun H locs hR hS => ?_))
      refine lv_istore (lv' := [(4, .int v6), (0, .ref (B + x0)), (1, .ref (B + x1)), (2, .int x2), (3, .int x3)]) hx hb dX6_isAble_24 hl (by decide) rfl (fun ls hl => ?_)
      refine lv_iload hx hb dX6_isAble_26 (lv_at hl 0 rfl) ?_
      refine lv_bipush (v := (-9)) hx hb dX6_isAble_28 (by decide) ?_
      refine lv_icmp_eq (tgt := 48) hx hb dX6_isAble_30 (by decide) (fun c => ?_) (fun c => ?_)
      · have h := ip c h
        refine lv_iconst (v := 0) hx hb dX6_isAble_48 (by decide) ?_
        cases h
        exact rr_Z (v := 0) C hR hS (by decide) dX6_isAble_49
      · have h := iq c h
        refine lv_iload hx hb dX6_isAble_33 (lv_at hl 0 rfl) ?_
        refine lv_aload_n hx hb dX6_isAble_35 rfl (lv_at hl 1 rfl) ?_
        obtain ⟨v7, zqe8, h⟩ := ob h
        refine gf202 C hR zqe8 dX6_isAble_36 ?_
        refine lv_iload_n hx hb dX6_isAble_39 rfl (lv_at hl 3 rfl) ?_
        obtain ⟨v9, zqe10, h⟩ := ob h
        refine ra_I C hR zqe10 dX6_isAble_40 ?_
        refine lv_icmp_gt (tgt := 48) hx hb dX6_isAble_41 (by decide) (fun c => ?_) (fun c => ?_)
        · have h := ip c h
          refine lv_iconst (v := 0) hx hb dX6_isAble_48 (by decide) ?_
          cases h
          exact rr_Z (v := 0) C hR hS (by decide) dX6_isAble_49
        · have h := iq c h
          refine lv_iconst (v := 1) hx hb dX6_isAble_44 (by decide) ?_
          refine lv_goto (tgt := 49) hx hb dX6_isAble_45 (by decide) ?_
          cases h
          exact rr_Z (v := 1) C hR hS (by decide) dX6_isAble_49
    · have h := iq c h
      refine lv_iconst (v := 0) hx hb dX6_isAble_16 (by decide) ?_
      cases h
      exact rr_Z (v := 0) C hR hS (by decide) dX6_isAble_17
set_option maxHeartbeats 4000000 in
set_option maxRecDepth 100000 in
theorem w_X7_sighersFor_4    {r : Int32} (C : Cx p s m args meth c RX7 cX7_sighersFor 4 (some .int) D B ca st)   : ∀ (n : Nat) {x0 : Nat} {x1 : Int32} {x2 : Int32} {x3 : Int32} {M : Mem}, f_X7_sighersFor_4  n x0 x1 x2 x3 M = some r → ∀ {H : Heap} {locs : List Loc} {ls : Array Slot}, RH D B ca M H → va_S (AA B) s.heap H locs → lv_has ls 4 [(0, .ref (B + x0)), (1, .int x1), (2, .int x2), (3, .int x3)] → W p l e (rmD 3) s m args below meth c H locs 0 0 (MQ below (Qp D B ca st (some (.int r)) M) args s 0 0 (AA B)) (F0 m 4 ls []) := by
  have hx := C.1
  have hb := C.2.1
  intro n
  induction n with
  | zero => intro x0 x1 x2 x3 M h; simp [f_X7_sighersFor_4] at h
  | succ n ih =>
    intro x0 x1 x2 x3 M h H locs ls hR hS hl
    rw [f_X7_sighersFor_4] at h
    refine lv_iload_n hx hb dX7_sighersFor_4 rfl (lv_at hl 3 rfl) ?_
    refine lv_aload_n hx hb dX7_sighersFor_5 rfl (lv_at hl 0 rfl) ?_
    obtain ⟨v1, zqe2, h⟩ := ob h
    refine gf327 C hR zqe2 dX7_sighersFor_6 ?_
    obtain ⟨v3, zqe4, h⟩ := ob h
    refine gf154 C hR zqe4 dX7_sighersFor_9 ?_
    refine lv_icmp_ge (tgt := 43) hx hb dX7_sighersFor_12 (by decide) (fun c => ?_) (fun c => ?_)
    · have h := ip c h
      refine lv_iload_n hx hb dX7_sighersFor_43 rfl (lv_at hl 2 rfl) ?_
      cases h
      exact rr_I C hR hS dX7_sighersFor_44
    · have h := iq c h
      refine lv_aload_n hx hb dX7_sighersFor_15 rfl (lv_at hl 0 rfl) ?_
      obtain ⟨v5, zqe6, h⟩ := ob h
      refine gf329 C hR zqe6 dX7_sighersFor_16 ?_
      refine lv_aload_n hx hb dX7_sighersFor_19 rfl (lv_at hl 0 rfl) ?_
      obtain ⟨v7, zqe8, h⟩ := ob h
      refine gf327 C hR zqe8 dX7_sighersFor_20 ?_
      refine lv_iload_n hx hb dX7_sighersFor_23 rfl (lv_at hl 3 rfl) ?_
      refine lv_iload_n hx hb dX7_sighersFor_24 rfl (lv_at hl 1 rfl) ?_
      obtain ⟨v10, zqe9, h⟩ := ob h
      refine rc_VN C hR hS cf_X6_isAble cv_X6_isAble lk550 (ok_X6_isAble zqe9) (ck_X6_isAble zqe9) ⟨Nat.le_of_ble_eq_true rfl, Nat.le_of_ble_eq_true rfl⟩ ⟨Nat.zero_le _, Nat.zero_le _⟩ rfl rfl hl.1 (Nat.le_of_ble_eq_true rfl) dX7_sighersFor_25 (rc_k1 (fun H locs hR hS => ?_))
      refine lv_if_eq (tgt := 37) hx hb dX7_sighersFor_28 (by decide) (fun c => ?_) (fun c => ?_)
      · have h := ip c h
        refine lv_iinc (v := (x3 + 1)) (lv' := [(3, .int (x3 + 1)), (0, .ref (B + x0)), (1, .int x1), (2, .int x2)]) hx hb dX7_sighersFor_37 hl (k := 3) rfl rfl (by decide) rfl (fun ls hl => ?_)
        refine lv_goto (tgt := 4) hx hb dX7_sighersFor_40 (by decide) ?_
        exact ih h hR hS (lv_sub hl [1, 2, 3, 0] rfl)
      · have h := iq c h
        refine lv_iload_n hx hb dX7_sighersFor_31 rfl (lv_at hl 2 rfl) ?_
        refine lv_iconst (v := 1) hx hb dX7_sighersFor_32 (by decide) ?_
        refine lv_iload_n hx hb dX7_sighersFor_33 rfl (lv_at hl 3 rfl) ?_
        refine lv_ishl hx hb dX7_sighersFor_34 ?_
        refine lv_ior hx hb dX7_sighersFor_35 ?_
        refine lv_istore_n (lv' := [(2, .int (x2 ||| (1 <<< (x3 &&& 31)))), (0, .ref (B + x0)), (1, .int x1), (3, .int x3)]) hx hb dX7_sighersFor_36 rfl hl (by decide) rfl (fun ls hl => ?_)
        refine lv_iinc (v := (x3 + 1)) (lv' := [(3, .int (x3 + 1)), (2, .int (x2 ||| (1 <<< (x3 &&& 31)))), (0, .ref (B + x0)), (1, .int x1)]) hx hb dX7_sighersFor_37 hl (k := 3) rfl rfl (by decide) rfl (fun ls hl => ?_)
        refine lv_goto (tgt := 4) hx hb dX7_sighersFor_40 (by decide) ?_
        exact ih h hR hS (lv_sub hl [2, 3, 1, 0] rfl)
theorem ck_X7_sighersFor  {x0 : Nat} {x1 : Int32} {M : Mem} {r : Int32} (h : f_X7_sighersFor  x0 x1 M = some r) : kd M x0 = 17 := by
  unfold f_X7_sighersFor at h
  exact ck h
set_option maxHeartbeats 4000000 in
set_option maxRecDepth 100000 in
theorem ok_X7_sighersFor  {x0 : Nat} {x1 : Int32}  {M : Mem} {r : Int32}  (h : f_X7_sighersFor  x0 x1 M = some r) : Ok l yX7_sighersFor cX7_sighersFor 4 (some .int) 3 [.ref (B + x0), .int x1] D B ca st M (some (.int r)) M := by
  have hk0 := ck_X7_sighersFor h
  unfold f_X7_sighersFor at h
  have h := ip hk0 h
  refine ok_of rfl rfl (Nat.le_of_ble_eq_true rfl) ?_
  intro p e s m args below meth c ls C hl hR hS
  have hl : lv_has ls 4 [(0, .ref (B + x0)), (1, .int x1)] := hl
  have hx := C.1
  have hb := C.2.1
  refine lv_iconst (v := 0) hx hb dX7_sighersFor_0 (by decide) ?_
  refine lv_istore_n (lv' := [(2, .int 0), (0, .ref (B + x0)), (1, .int x1)]) hx hb dX7_sighersFor_1 rfl hl (by decide) rfl (fun ls hl => ?_)
  refine lv_iconst (v := 0) hx hb dX7_sighersFor_2 (by decide) ?_
  refine lv_istore_n (lv' := [(3, .int 0), (2, .int 0), (0, .ref (B + x0)), (1, .int x1)]) hx hb dX7_sighersFor_3 rfl hl (by decide) rfl (fun ls hl => ?_)
  exact w_X7_sighersFor_4 C  FU h hR hS (lv_sub hl [2, 3, 1, 0] rfl)
theorem ck_X7_orderTells  {x0 : Nat} {x1 : Int32} {x2 : Int32} {M : Mem} {r : Int32} (h : f_X7_orderTells  x0 x1 x2 M = some r) : kd M x0 = 17 := by
  unfold f_X7_orderTells at h
  exact ck h
set_option maxHeartbeats 4000000 in
set_option maxRecDepth 100000 in
theorem ok_X7_orderTells  {x0 : Nat} {x1 : Int32} {x2 : Int32}  {M : Mem} {r : Int32}  (h : f_X7_orderTells  x0 x1 x2 M = some r) : Ok l yX7_orderTells cX7_orderTells 3 (some .int) 4 [.ref (B + x0), .int x1, .int x2] D B ca st M (some (.int r)) M := by
  have hk0 := ck_X7_orderTells h
  unfold f_X7_orderTells at h
  have h := ip hk0 h
  refine ok_of rfl rfl (Nat.le_of_ble_eq_true rfl) ?_
  intro p e s m args below meth c ls C hl hR hS
  have hl : lv_has ls 3 [(0, .ref (B + x0)), (1, .int x1), (2, .int x2)] := hl
  have hx := C.1
  have hb := C.2.1
  refine lv_aload_n hx hb dX7_orderTells_0 rfl (lv_at hl 0 rfl) ?_
  obtain ⟨v1, zqe2, h⟩ := ob h
  refine gf327 C hR zqe2 dX7_orderTells_1 ?_
  refine lv_iload_n hx hb dX7_orderTells_4 rfl (lv_at hl 1 rfl) ?_
  obtain ⟨v4, zqe3, h⟩ := ob h
  refine rc_VN C hR hS cf_X2_hasOrder cv_X2_hasOrder lk575 (ok_X2_hasOrder zqe3) (ck_X2_hasOrder zqe3) ⟨Nat.le_of_ble_eq_true rfl, Nat.le_of_ble_eq_true rfl⟩ ⟨Nat.zero_le _, Nat.zero_le _⟩ rfl rfl hl.1 (Nat.le_of_ble_eq_true rfl) dX7_orderTells_5 (rc_k1 (fun H locs hR hS => ?_))
  refine lv_if_ne (tgt := 13) hx hb dX7_orderTells_8 (by decide) (fun c => ?_) (fun c => ?_)
  · have h := iq c h
    refine lv_iload_n hx hb dX7_orderTells_13 rfl (lv_at hl 2 rfl) ?_
    by_cases zqc5 : x2 = 0
    · have h := ip zqc5 h
      refine lv_tableIn (off := 30) (tgt := 44) hx hb dX7_orderTells_14 (by rw [zqc5]; decide) (by rw [zqc5]; decide) (by rw [zqc5]; decide +kernel) (by decide) ?_
      refine lv_aload_n hx hb dX7_orderTells_44 rfl (lv_at hl 0 rfl) ?_
      obtain ⟨v6, zqe7, h⟩ := ob h
      refine gf327 C hR zqe7 dX7_orderTells_45 ?_
      obtain ⟨v8, zqe9, h⟩ := ob h
      refine gf167 C hR zqe9 dX7_orderTells_48 ?_
      refine lv_iload_n hx hb dX7_orderTells_51 rfl (lv_at hl 1 rfl) ?_
      obtain ⟨v10, zqe11, h⟩ := ob h
      refine ra_I C hR zqe11 dX7_orderTells_52 ?_
      cases h
      exact rr_I C hR hS dX7_orderTells_53
    have h := iq zqc5 h
    by_cases zqc12 : x2 = 1
    · have h := ip zqc12 h
      refine lv_tableIn (off := 40) (tgt := 54) hx hb dX7_orderTells_14 (by rw [zqc12]; decide) (by rw [zqc12]; decide) (by rw [zqc12]; decide +kernel) (by decide) ?_
      refine lv_aload_n hx hb dX7_orderTells_54 rfl (lv_at hl 0 rfl) ?_
      obtain ⟨v13, zqe14, h⟩ := ob h
      refine gf327 C hR zqe14 dX7_orderTells_55 ?_
      obtain ⟨v15, zqe16, h⟩ := ob h
      refine gf169 C hR zqe16 dX7_orderTells_58 ?_
      refine lv_iload_n hx hb dX7_orderTells_61 rfl (lv_at hl 1 rfl) ?_
      obtain ⟨v17, zqe18, h⟩ := ob h
      refine ra_I C hR zqe18 dX7_orderTells_62 ?_
      cases h
      exact rr_I C hR hS dX7_orderTells_63
    have h := iq zqc12 h
    by_cases zqc19 : x2 = 2
    · have h := ip zqc19 h
      refine lv_tableIn (off := 50) (tgt := 64) hx hb dX7_orderTells_14 (by rw [zqc19]; decide) (by rw [zqc19]; decide) (by rw [zqc19]; decide +kernel) (by decide) ?_
      refine lv_aload_n hx hb dX7_orderTells_64 rfl (lv_at hl 0 rfl) ?_
      obtain ⟨v20, zqe21, h⟩ := ob h
      refine gf327 C hR zqe21 dX7_orderTells_65 ?_
      obtain ⟨v22, zqe23, h⟩ := ob h
      refine gf171 C hR zqe23 dX7_orderTells_68 ?_
      refine lv_iload_n hx hb dX7_orderTells_71 rfl (lv_at hl 1 rfl) ?_
      obtain ⟨v24, zqe25, h⟩ := ob h
      refine ra_I C hR zqe25 dX7_orderTells_72 ?_
      cases h
      exact rr_I C hR hS dX7_orderTells_73
    have h := iq zqc19 h
    by_cases zqc26 : x2 = 3
    · have h := ip zqc26 h
      refine lv_tableIn (off := 60) (tgt := 74) hx hb dX7_orderTells_14 (by rw [zqc26]; decide) (by rw [zqc26]; decide) (by rw [zqc26]; decide +kernel) (by decide) ?_
      refine lv_aload_n hx hb dX7_orderTells_74 rfl (lv_at hl 0 rfl) ?_
      obtain ⟨v27, zqe28, h⟩ := ob h
      refine gf329 C hR zqe28 dX7_orderTells_75 ?_
      refine lv_iload_n hx hb dX7_orderTells_78 rfl (lv_at hl 1 rfl) ?_
      obtain ⟨v30, zqe29, h⟩ := ob h
      refine rc_VN C hR hS cf_X6_isDone cv_X6_isDone lk580 (ok_X6_isDone zqe29) (ck_X6_isDone zqe29) ⟨Nat.le_of_ble_eq_true rfl, Nat.le_of_ble_eq_true rfl⟩ ⟨Nat.zero_le _, Nat.zero_le _⟩ rfl rfl hl.1 (Nat.le_of_ble_eq_true rfl) dX7_orderTells_79 (rc_k1 (fun H locs hR hS => ?_))
      refine lv_if_eq (tgt := 89) hx hb dX7_orderTells_82 (by decide) (fun c => ?_) (fun c => ?_)
      · have h := ip c h
        refine lv_iconst (v := 0) hx hb dX7_orderTells_89 (by decide) ?_
        cases h
        exact rr_I C hR hS dX7_orderTells_90
      · have h := iq c h
        refine lv_iconst (v := 1) hx hb dX7_orderTells_85 (by decide) ?_
        refine lv_goto (tgt := 90) hx hb dX7_orderTells_86 (by decide) ?_
        cases h
        exact rr_I C hR hS dX7_orderTells_90
    have h := iq zqc26 h
    refine lv_tableOut (tgt := 91) hx hb dX7_orderTells_14 (by have q0 := lv_neT (a := 0) zqc5 (by decide); have q1 := lv_neT (a := 1) zqc12 (by decide); have q2 := lv_neT (a := 2) zqc19 (by decide); have q3 := lv_neT (a := 3) zqc26 (by decide); omega) (by decide) ?_
    refine lv_aload_n hx hb dX7_orderTells_91 rfl (lv_at hl 0 rfl) ?_
    refine lv_iload_n hx hb dX7_orderTells_92 rfl (lv_at hl 1 rfl) ?_
    obtain ⟨v32, zqe31, h⟩ := ob h
    refine rc_V C hR hS cf_X7_sighersFor cv_X7_sighersFor lk581 (ok_X7_sighersFor zqe31) (ck_X7_sighersFor zqe31) ⟨Nat.le_of_ble_eq_true rfl, Nat.le_of_ble_eq_true rfl⟩ ⟨Nat.zero_le _, Nat.zero_le _⟩ rfl rfl hl.1 (Nat.le_of_ble_eq_true rfl) dX7_orderTells_93 (rc_k1 (fun H locs hR hS => ?_))
    cases h
    exact rr_I C hR hS dX7_orderTells_96
  · have h := ip c h
    refine lv_iconst (v := 0) hx hb dX7_orderTells_11 (by decide) ?_
    cases h
    exact rr_I C hR hS dX7_orderTells_12
set_option maxHeartbeats 4000000 in
set_option maxRecDepth 100000 in
theorem w_X7_ordersFor_4    {r : Int32} (C : Cx p s m args meth c RX7 cX7_ordersFor 4 (some .int) D B ca st)   : ∀ (n : Nat) {x0 : Nat} {x1 : Int32} {x2 : Int32} {x3 : Int32} {M : Mem}, f_X7_ordersFor_4  n x0 x1 x2 x3 M = some r → ∀ {H : Heap} {locs : List Loc} {ls : Array Slot}, RH D B ca M H → va_S (AA B) s.heap H locs → lv_has ls 4 [(0, .ref (B + x0)), (1, .int x1), (2, .int x2), (3, .int x3)] → W p l e (rmD 3) s m args below meth c H locs 0 0 (MQ below (Qp D B ca st (some (.int r)) M) args s 0 0 (AA B)) (F0 m 4 ls []) := by
  have hx := C.1
  have hb := C.2.1
  intro n
  induction n with
  | zero => intro x0 x1 x2 x3 M h; simp [f_X7_ordersFor_4] at h
  | succ n ih =>
    intro x0 x1 x2 x3 M h H locs ls hR hS hl
    rw [f_X7_ordersFor_4] at h
    refine lv_iload_n hx hb dX7_ordersFor_4 rfl (lv_at hl 3 rfl) ?_
    refine lv_aload_n hx hb dX7_ordersFor_5 rfl (lv_at hl 0 rfl) ?_
    obtain ⟨v1, zqe2, h⟩ := ob h
    refine gf327 C hR zqe2 dX7_ordersFor_6 ?_
    obtain ⟨v3, zqe4, h⟩ := ob h
    refine gf158 C hR zqe4 dX7_ordersFor_9 ?_
    refine lv_icmp_ge (tgt := 43) hx hb dX7_ordersFor_12 (by decide) (fun c => ?_) (fun c => ?_)
    · have h := ip c h
      refine lv_iload_n hx hb dX7_ordersFor_43 rfl (lv_at hl 2 rfl) ?_
      cases h
      exact rr_I C hR hS dX7_ordersFor_44
    · have h := iq c h
      refine lv_aload_n hx hb dX7_ordersFor_15 rfl (lv_at hl 0 rfl) ?_
      obtain ⟨v5, zqe6, h⟩ := ob h
      refine gf329 C hR zqe6 dX7_ordersFor_16 ?_
      refine lv_aload_n hx hb dX7_ordersFor_19 rfl (lv_at hl 0 rfl) ?_
      obtain ⟨v7, zqe8, h⟩ := ob h
      refine gf327 C hR zqe8 dX7_ordersFor_20 ?_
      refine lv_iload_n hx hb dX7_ordersFor_23 rfl (lv_at hl 1 rfl) ?_
      refine lv_iload_n hx hb dX7_ordersFor_24 rfl (lv_at hl 3 rfl) ?_
      obtain ⟨v10, zqe9, h⟩ := ob h
      refine rc_VN C hR hS cf_X6_isAble cv_X6_isAble lk550 (ok_X6_isAble zqe9) (ck_X6_isAble zqe9) ⟨Nat.le_of_ble_eq_true rfl, Nat.le_of_ble_eq_true rfl⟩ ⟨Nat.zero_le _, Nat.zero_le _⟩ rfl rfl hl.1 (Nat.le_of_ble_eq_true rfl) dX7_ordersFor_25 (rc_k1 (fun H locs hR hS => ?_))
      refine lv_if_eq (tgt := 37) hx hb dX7_ordersFor_28 (by decide) (fun c => ?_) (fun c => ?_)
      · have h := ip c h
        refine lv_iinc (v := (x3 + 1)) (lv' := [(3, .int (x3 + 1)), (0, .ref (B + x0)), (1, .int x1), (2, .int x2)]) hx hb dX7_ordersFor_37 hl (k := 3) rfl rfl (by decide) rfl (fun ls hl => ?_)
        refine lv_goto (tgt := 4) hx hb dX7_ordersFor_40 (by decide) ?_
        exact ih h hR hS (lv_sub hl [1, 2, 3, 0] rfl)
      · have h := iq c h
        refine lv_iload_n hx hb dX7_ordersFor_31 rfl (lv_at hl 2 rfl) ?_
        refine lv_iconst (v := 1) hx hb dX7_ordersFor_32 (by decide) ?_
        refine lv_iload_n hx hb dX7_ordersFor_33 rfl (lv_at hl 3 rfl) ?_
        refine lv_ishl hx hb dX7_ordersFor_34 ?_
        refine lv_ior hx hb dX7_ordersFor_35 ?_
        refine lv_istore_n (lv' := [(2, .int (x2 ||| (1 <<< (x3 &&& 31)))), (0, .ref (B + x0)), (1, .int x1), (3, .int x3)]) hx hb dX7_ordersFor_36 rfl hl (by decide) rfl (fun ls hl => ?_)
        refine lv_iinc (v := (x3 + 1)) (lv' := [(3, .int (x3 + 1)), (2, .int (x2 ||| (1 <<< (x3 &&& 31)))), (0, .ref (B + x0)), (1, .int x1)]) hx hb dX7_ordersFor_37 hl (k := 3) rfl rfl (by decide) rfl (fun ls hl => ?_)
        refine lv_goto (tgt := 4) hx hb dX7_ordersFor_40 (by decide) ?_
        exact ih h hR hS (lv_sub hl [2, 3, 1, 0] rfl)
theorem ck_X7_ordersFor  {x0 : Nat} {x1 : Int32} {M : Mem} {r : Int32} (h : f_X7_ordersFor  x0 x1 M = some r) : kd M x0 = 17 := by
  unfold f_X7_ordersFor at h
  exact ck h
set_option maxHeartbeats 4000000 in
set_option maxRecDepth 100000 in
theorem ok_X7_ordersFor  {x0 : Nat} {x1 : Int32}  {M : Mem} {r : Int32}  (h : f_X7_ordersFor  x0 x1 M = some r) : Ok l yX7_ordersFor cX7_ordersFor 4 (some .int) 3 [.ref (B + x0), .int x1] D B ca st M (some (.int r)) M := by
  have hk0 := ck_X7_ordersFor h
  unfold f_X7_ordersFor at h
  have h := ip hk0 h
  refine ok_of rfl rfl (Nat.le_of_ble_eq_true rfl) ?_
  intro p e s m args below meth c ls C hl hR hS
  have hl : lv_has ls 4 [(0, .ref (B + x0)), (1, .int x1)] := hl
  have hx := C.1
  have hb := C.2.1
  refine lv_iconst (v := 0) hx hb dX7_ordersFor_0 (by decide) ?_
  refine lv_istore_n (lv' := [(2, .int 0), (0, .ref (B + x0)), (1, .int x1)]) hx hb dX7_ordersFor_1 rfl hl (by decide) rfl (fun ls hl => ?_)
  refine lv_iconst (v := 0) hx hb dX7_ordersFor_2 (by decide) ?_
  refine lv_istore_n (lv' := [(3, .int 0), (2, .int 0), (0, .ref (B + x0)), (1, .int x1)]) hx hb dX7_ordersFor_3 rfl hl (by decide) rfl (fun ls hl => ?_)
  exact w_X7_ordersFor_4 C  FU h hR hS (lv_sub hl [2, 3, 1, 0] rfl)
theorem ck_X7_sigherTells  {x0 : Nat} {x1 : Int32} {x2 : Int32} {M : Mem} {r : Int32} (h : f_X7_sigherTells  x0 x1 x2 M = some r) : kd M x0 = 17 := by
  unfold f_X7_sigherTells at h
  exact ck h
set_option maxHeartbeats 4000000 in
set_option maxRecDepth 100000 in
theorem ok_X7_sigherTells  {x0 : Nat} {x1 : Int32} {x2 : Int32}  {M : Mem} {r : Int32}  (h : f_X7_sigherTells  x0 x1 x2 M = some r) : Ok l yX7_sigherTells cX7_sigherTells 3 (some .int) 4 [.ref (B + x0), .int x1, .int x2] D B ca st M (some (.int r)) M := by
  have hk0 := ck_X7_sigherTells h
  unfold f_X7_sigherTells at h
  have h := ip hk0 h
  refine ok_of rfl rfl (Nat.le_of_ble_eq_true rfl) ?_
  intro p e s m args below meth c ls C hl hR hS
  have hl : lv_has ls 3 [(0, .ref (B + x0)), (1, .int x1), (2, .int x2)] := hl
  have hx := C.1
  have hb := C.2.1
  refine lv_aload_n hx hb dX7_sigherTells_0 rfl (lv_at hl 0 rfl) ?_
  obtain ⟨v1, zqe2, h⟩ := ob h
  refine gf327 C hR zqe2 dX7_sigherTells_1 ?_
  refine lv_iload_n hx hb dX7_sigherTells_4 rfl (lv_at hl 1 rfl) ?_
  obtain ⟨v4, zqe3, h⟩ := ob h
  refine rc_VN C hR hS cf_X2_hasSigher cv_X2_hasSigher lk538 (ok_X2_hasSigher zqe3) (ck_X2_hasSigher zqe3) ⟨Nat.le_of_ble_eq_true rfl, Nat.le_of_ble_eq_true rfl⟩ ⟨Nat.zero_le _, Nat.zero_le _⟩ rfl rfl hl.1 (Nat.le_of_ble_eq_true rfl) dX7_sigherTells_5 (rc_k1 (fun H locs hR hS => ?_))
  refine lv_if_ne (tgt := 13) hx hb dX7_sigherTells_8 (by decide) (fun c => ?_) (fun c => ?_)
  · have h := iq c h
    refine lv_iload_n hx hb dX7_sigherTells_13 rfl (lv_at hl 2 rfl) ?_
    by_cases zqc5 : x2 = 0
    · have h := ip zqc5 h
      refine lv_tableIn (off := 30) (tgt := 44) hx hb dX7_sigherTells_14 (by rw [zqc5]; decide) (by rw [zqc5]; decide) (by rw [zqc5]; decide +kernel) (by decide) ?_
      refine lv_aload_n hx hb dX7_sigherTells_44 rfl (lv_at hl 0 rfl) ?_
      obtain ⟨v6, zqe7, h⟩ := ob h
      refine gf327 C hR zqe7 dX7_sigherTells_45 ?_
      obtain ⟨v8, zqe9, h⟩ := ob h
      refine gf160 C hR zqe9 dX7_sigherTells_48 ?_
      refine lv_iload_n hx hb dX7_sigherTells_51 rfl (lv_at hl 1 rfl) ?_
      obtain ⟨v10, zqe11, h⟩ := ob h
      refine ra_I C hR zqe11 dX7_sigherTells_52 ?_
      cases h
      exact rr_I C hR hS dX7_sigherTells_53
    have h := iq zqc5 h
    by_cases zqc12 : x2 = 1
    · have h := ip zqc12 h
      refine lv_tableIn (off := 40) (tgt := 54) hx hb dX7_sigherTells_14 (by rw [zqc12]; decide) (by rw [zqc12]; decide) (by rw [zqc12]; decide +kernel) (by decide) ?_
      refine lv_aload_n hx hb dX7_sigherTells_54 rfl (lv_at hl 0 rfl) ?_
      obtain ⟨v13, zqe14, h⟩ := ob h
      refine gf329 C hR zqe14 dX7_sigherTells_55 ?_
      obtain ⟨v15, zqe16, h⟩ := ob h
      refine gf205 C hR zqe16 dX7_sigherTells_58 ?_
      refine lv_iload_n hx hb dX7_sigherTells_61 rfl (lv_at hl 1 rfl) ?_
      obtain ⟨v17, zqe18, h⟩ := ob h
      refine ra_I C hR zqe18 dX7_sigherTells_62 ?_
      cases h
      exact rr_I C hR hS dX7_sigherTells_63
    have h := iq zqc12 h
    by_cases zqc19 : x2 = 2
    · have h := ip zqc19 h
      refine lv_tableIn (off := 50) (tgt := 64) hx hb dX7_sigherTells_14 (by rw [zqc19]; decide) (by rw [zqc19]; decide) (by rw [zqc19]; decide +kernel) (by decide) ?_
      refine lv_aload_n hx hb dX7_sigherTells_64 rfl (lv_at hl 0 rfl) ?_
      obtain ⟨v20, zqe21, h⟩ := ob h
      refine gf327 C hR zqe21 dX7_sigherTells_65 ?_
      obtain ⟨v22, zqe23, h⟩ := ob h
      refine gf164 C hR zqe23 dX7_sigherTells_68 ?_
      refine lv_iload_n hx hb dX7_sigherTells_71 rfl (lv_at hl 1 rfl) ?_
      obtain ⟨v24, zqe25, h⟩ := ob h
      refine ra_I C hR zqe25 dX7_sigherTells_72 ?_
      cases h
      exact rr_I C hR hS dX7_sigherTells_73
    have h := iq zqc19 h
    by_cases zqc26 : x2 = 3
    · have h := ip zqc26 h
      refine lv_tableIn (off := 60) (tgt := 74) hx hb dX7_sigherTells_14 (by rw [zqc26]; decide) (by rw [zqc26]; decide) (by rw [zqc26]; decide +kernel) (by decide) ?_
      refine lv_aload_n hx hb dX7_sigherTells_74 rfl (lv_at hl 0 rfl) ?_
      obtain ⟨v27, zqe28, h⟩ := ob h
      refine gf329 C hR zqe28 dX7_sigherTells_75 ?_
      obtain ⟨v29, zqe30, h⟩ := ob h
      refine gf208 C hR zqe30 dX7_sigherTells_78 ?_
      refine lv_iload_n hx hb dX7_sigherTells_81 rfl (lv_at hl 1 rfl) ?_
      obtain ⟨v31, zqe32, h⟩ := ob h
      refine ra_I C hR zqe32 dX7_sigherTells_82 ?_
      cases h
      exact rr_I C hR hS dX7_sigherTells_83
    have h := iq zqc26 h
    refine lv_tableOut (tgt := 84) hx hb dX7_sigherTells_14 (by have q0 := lv_neT (a := 0) zqc5 (by decide); have q1 := lv_neT (a := 1) zqc12 (by decide); have q2 := lv_neT (a := 2) zqc19 (by decide); have q3 := lv_neT (a := 3) zqc26 (by decide); omega) (by decide) ?_
    refine lv_aload_n hx hb dX7_sigherTells_84 rfl (lv_at hl 0 rfl) ?_
    refine lv_iload_n hx hb dX7_sigherTells_85 rfl (lv_at hl 1 rfl) ?_
    obtain ⟨v34, zqe33, h⟩ := ob h
    refine rc_V C hR hS cf_X7_ordersFor cv_X7_ordersFor lk546 (ok_X7_ordersFor zqe33) (ck_X7_ordersFor zqe33) ⟨Nat.le_of_ble_eq_true rfl, Nat.le_of_ble_eq_true rfl⟩ ⟨Nat.zero_le _, Nat.zero_le _⟩ rfl rfl hl.1 (Nat.le_of_ble_eq_true rfl) dX7_sigherTells_86 (rc_k1 (fun H locs hR hS => ?_))
    cases h
    exact rr_I C hR hS dX7_sigherTells_89
  · have h := ip c h
    refine lv_iconst (v := 0) hx hb dX7_sigherTells_11 (by decide) ?_
    cases h
    exact rr_I C hR hS dX7_sigherTells_12
set_option maxHeartbeats 4000000 in
set_option maxRecDepth 100000 in
theorem w_X7_digest_193    {r : Int64} (C : Cx p s m args meth c RX7 cX7_digest 5 (some .long) D B ca st)   : ∀ (n : Nat) {x0 : Nat} {x1 : Int64} {x3 : Int32} {M : Mem}, f_X7_digest_193  n x0 x1 x3 M = some r → ∀ {H : Heap} {locs : List Loc} {ls : Array Slot}, RH D B ca M H → va_S (AA B) s.heap H locs → lv_has ls 5 [(0, .ref (B + x0)), (1, .long x1), (3, .int x3)] → W p l e (rmD 5) s m args below meth c H locs 0 0 (MQ below (Qp D B ca st (some (.long r)) M) args s 0 0 (AA B)) (F0 m 193 ls []) := by
  have hx := C.1
  have hb := C.2.1
  intro n
  induction n with
  | zero => intro x0 x1 x3 M h; simp [f_X7_digest_193] at h
  | succ n ih =>
    intro x0 x1 x3 M h H locs ls hR hS hl
    rw [f_X7_digest_193] at h
    refine lv_iload_n hx hb dX7_digest_193 rfl (lv_at hl 2 rfl) ?_
    refine lv_aload_n hx hb dX7_digest_194 rfl (lv_at hl 0 rfl) ?_
    obtain ⟨v35, zqe36, h⟩ := ob h
    refine gf326 C hR zqe36 dX7_digest_195 ?_
    obtain ⟨v37, zqe38, h⟩ := ob h
    refine ra_N C hR (k := 5) (by decide) (by decide) zqe38 dX7_digest_198 ?_
    refine lv_icmp_ge (tgt := 219) hx hb dX7_digest_199 (by decide) (fun c => ?_) (fun c => ?_)
    · have h := ip c h
      refine lv_lload_n hx hb dX7_digest_219 rfl (lv_at hl 1 rfl) ?_
      cases h
      exact rr_L C hR hS dX7_digest_220
    · have h := iq c h
      refine lv_aload_n hx hb dX7_digest_202 rfl (lv_at hl 0 rfl) ?_
      obtain ⟨v39, zqe40, h⟩ := ob h
      refine gf326 C hR zqe40 dX7_digest_203 ?_
      refine lv_iload_n hx hb dX7_digest_206 rfl (lv_at hl 2 rfl) ?_
      obtain ⟨v41, zqe42, h⟩ := ob h
      refine ra_R C hR (k := 5) (by decide) (by decide) rfl zqe42 dX7_digest_207 ?_
      refine lv_lload_n hx hb dX7_digest_208 rfl (lv_at hl 1 rfl) ?_
      obtain ⟨v44, zqe43, h⟩ := ob h
      refine rc_VN C hR hS cf_X5_digestFrom cv_X5_digestFrom lk937 (ok_X5_digestFrom zqe43) (ck_X5_digestFrom zqe43) ⟨Nat.le_of_ble_eq_true rfl, Nat.le_of_ble_eq_true rfl⟩ ⟨Nat.zero_le _, Nat.zero_le _⟩ rfl rfl hl.1 (Nat.le_of_ble_eq_true rfl) dX7_digest_209 (rc_k1 (fun H locs hR hS => ?_))
      refine lv_lstore_n (lv' := [(1, .long v44), (0, .ref (B + x0)), (3, .int x3)]) hx hb dX7_digest_212 rfl hl (by decide) rfl (fun ls hl => ?_)
      refine lv_iinc (v := (x3 + 1)) (lv' := [(3, .int (x3 + 1)), (1, .long v44), (0, .ref (B + x0))]) hx hb dX7_digest_213 hl (k := 2) rfl rfl (by decide) rfl (fun ls hl => ?_)
      refine lv_goto (tgt := 193) hx hb dX7_digest_216 (by decide) ?_
      exact ih h hR hS (lv_sub hl [2, 1, 0] rfl)
set_option maxHeartbeats 4000000 in
set_option maxRecDepth 100000 in
theorem w_X7_digest_165    {r : Int64} (C : Cx p s m args meth c RX7 cX7_digest 5 (some .long) D B ca st)   : ∀ (n : Nat) {x0 : Nat} {x1 : Int64} {x3 : Int32} {M : Mem}, f_X7_digest_165  n x0 x1 x3 M = some r → ∀ {H : Heap} {locs : List Loc} {ls : Array Slot}, RH D B ca M H → va_S (AA B) s.heap H locs → lv_has ls 5 [(0, .ref (B + x0)), (1, .long x1), (3, .int x3)] → W p l e (rmD 5) s m args below meth c H locs 0 0 (MQ below (Qp D B ca st (some (.long r)) M) args s 0 0 (AA B)) (F0 m 165 ls []) := by
  have hx := C.1
  have hb := C.2.1
  intro n
  induction n with
  | zero => intro x0 x1 x3 M h; simp [f_X7_digest_165] at h
  | succ n ih =>
    intro x0 x1 x3 M h H locs ls hR hS hl
    rw [f_X7_digest_165] at h
    refine lv_iload_n hx hb dX7_digest_165 rfl (lv_at hl 2 rfl) ?_
    refine lv_aload_n hx hb dX7_digest_166 rfl (lv_at hl 0 rfl) ?_
    obtain ⟨v25, zqe26, h⟩ := ob h
    refine gf325 C hR zqe26 dX7_digest_167 ?_
    obtain ⟨v27, zqe28, h⟩ := ob h
    refine ra_N C hR (k := 4) (by decide) (by decide) zqe28 dX7_digest_170 ?_
    refine lv_icmp_ge (tgt := 191) hx hb dX7_digest_171 (by decide) (fun c => ?_) (fun c => ?_)
    · have h := ip c h
      refine lv_iconst (v := 0) hx hb dX7_digest_191 (by decide) ?_
      refine lv_istore_n (lv' := [(3, .int 0), (0, .ref (B + x0)), (1, .long x1)]) hx hb dX7_digest_192 rfl hl (by decide) rfl (fun ls hl => ?_)
      exact w_X7_digest_193 C  FU h hR hS (lv_sub hl [1, 2, 0] rfl)
    · have h := iq c h
      refine lv_aload_n hx hb dX7_digest_174 rfl (lv_at hl 0 rfl) ?_
      obtain ⟨v29, zqe30, h⟩ := ob h
      refine gf325 C hR zqe30 dX7_digest_175 ?_
      refine lv_iload_n hx hb dX7_digest_178 rfl (lv_at hl 2 rfl) ?_
      obtain ⟨v31, zqe32, h⟩ := ob h
      refine ra_R C hR (k := 4) (by decide) (by decide) rfl zqe32 dX7_digest_179 ?_
      refine lv_lload_n hx hb dX7_digest_180 rfl (lv_at hl 1 rfl) ?_
      obtain ⟨v34, zqe33, h⟩ := ob h
      refine rc_VN C hR hS cf_X4_digestFrom cv_X4_digestFrom lk932 (ok_X4_digestFrom zqe33) (ck_X4_digestFrom zqe33) ⟨Nat.le_of_ble_eq_true rfl, Nat.le_of_ble_eq_true rfl⟩ ⟨Nat.zero_le _, Nat.zero_le _⟩ rfl rfl hl.1 (Nat.le_of_ble_eq_true rfl) dX7_digest_181 (rc_k1 (fun H locs hR hS => ?_))
      refine lv_lstore_n (lv' := [(1, .long v34), (0, .ref (B + x0)), (3, .int x3)]) hx hb dX7_digest_184 rfl hl (by decide) rfl (fun ls hl => ?_)
      refine lv_iinc (v := (x3 + 1)) (lv' := [(3, .int (x3 + 1)), (1, .long v34), (0, .ref (B + x0))]) hx hb dX7_digest_185 hl (k := 2) rfl rfl (by decide) rfl (fun ls hl => ?_)
      refine lv_goto (tgt := 165) hx hb dX7_digest_188 (by decide) ?_
      exact ih h hR hS (lv_sub hl [2, 1, 0] rfl)
set_option maxHeartbeats 4000000 in
set_option maxRecDepth 100000 in
theorem w_X7_digest_131    {r : Int64} (C : Cx p s m args meth c RX7 cX7_digest 5 (some .long) D B ca st)   : ∀ (n : Nat) {x0 : Nat} {x1 : Int64} {x3 : Int32} {M : Mem}, f_X7_digest_131  n x0 x1 x3 M = some r → ∀ {H : Heap} {locs : List Loc} {ls : Array Slot}, RH D B ca M H → va_S (AA B) s.heap H locs → lv_has ls 5 [(0, .ref (B + x0)), (1, .long x1), (3, .int x3)] → W p l e (rmD 5) s m args below meth c H locs 0 0 (MQ below (Qp D B ca st (some (.long r)) M) args s 0 0 (AA B)) (F0 m 131 ls []) := by
  have hx := C.1
  have hb := C.2.1
  intro n
  induction n with
  | zero => intro x0 x1 x3 M h; simp [f_X7_digest_131] at h
  | succ n ih =>
    intro x0 x1 x3 M h H locs ls hR hS hl
    rw [f_X7_digest_131] at h
    refine lv_iload_n hx hb dX7_digest_131 rfl (lv_at hl 2 rfl) ?_
    refine lv_aload_n hx hb dX7_digest_132 rfl (lv_at hl 0 rfl) ?_
    obtain ⟨v13, zqe14, h⟩ := ob h
    refine gf332 C hR zqe14 dX7_digest_133 ?_
    obtain ⟨v15, zqe16, h⟩ := ob h
    refine ra_N C hR (k := 3) (by decide) (by decide) zqe16 dX7_digest_136 ?_
    refine lv_icmp_ge (tgt := 163) hx hb dX7_digest_137 (by decide) (fun c => ?_) (fun c => ?_)
    · have h := ip c h
      refine lv_iconst (v := 0) hx hb dX7_digest_163 (by decide) ?_
      refine lv_istore_n (lv' := [(3, .int 0), (0, .ref (B + x0)), (1, .long x1)]) hx hb dX7_digest_164 rfl hl (by decide) rfl (fun ls hl => ?_)
      exact w_X7_digest_165 C  FU h hR hS (lv_sub hl [1, 2, 0] rfl)
    · have h := iq c h
      refine lv_ldc2 hx hb C.2.2.2.1 (C.2.2.2.2.1 _ lk931) dX7_digest_140 ?_
      refine lv_lload_n hx hb dX7_digest_143 rfl (lv_at hl 1 rfl) ?_
      refine lv_lmul hx hb dX7_digest_144 ?_
      refine lv_aload_n hx hb dX7_digest_145 rfl (lv_at hl 0 rfl) ?_
      obtain ⟨v17, zqe18, h⟩ := ob h
      refine gf332 C hR zqe18 dX7_digest_146 ?_
      refine lv_iload_n hx hb dX7_digest_149 rfl (lv_at hl 2 rfl) ?_
      obtain ⟨v19, zqe20, h⟩ := ob h
      refine ra_R C hR (k := 3) (by decide) (by decide) rfl zqe20 dX7_digest_150 ?_
      obtain ⟨v21, zqe22, h⟩ := ob h
      refine gf233 C hR zqe22 dX7_digest_151 ?_
      refine lv_i2l (v := (Int32.toInt64 v21)) hx hb dX7_digest_154 rfl ?_
      refine lv_ladd hx hb dX7_digest_155 ?_
      refine lv_lstore_n (lv' := [(1, .long ((31 * x1) + (Int32.toInt64 v21))), (0, .ref (B + x0)), (3, .int x3)]) hx hb dX7_digest_156 rfl hl (by decide) rfl (fun ls hl => ?_)
      refine lv_iinc (v := (x3 + 1)) (lv' := [(3, .int (x3 + 1)), (1, .long ((31 * x1) + (Int32.toInt64 v21))), (0, .ref (B + x0))]) hx hb dX7_digest_157 hl (k := 2) rfl rfl (by decide) rfl (fun ls hl => ?_)
      refine lv_goto (tgt := 131) hx hb dX7_digest_160 (by decide) ?_
      exact ih h hR hS (lv_sub hl [2, 1, 0] rfl)
set_option maxHeartbeats 4000000 in
set_option maxRecDepth 100000 in
theorem w_X7_digest_96  {k82 : Nat → Int64 → Int32 → Mem → Option Int64}  {r : Int64} (C : Cx p s m args meth c RX7 cX7_digest 5 (some .long) D B ca st)  (hk82 : ∀ {x0 : Nat} {x1 : Int64} {x3 : Int32} {M : Mem}, k82 x0 x1 x3 M = some r → ∀ {H : Heap} {locs : List Loc} {ls : Array Slot}, RH D B ca M H → va_S (AA B) s.heap H locs → lv_has ls 5 [(0, .ref (B + x0)), (1, .long x1), (3, .int x3)] → W p l e (rmD 5) s m args below meth c H locs 0 0 (MQ below (Qp D B ca st (some (.long r)) M) args s 0 0 (AA B)) (F0 m 82 ls [])) : ∀ (n : Nat) {x0 : Nat} {x1 : Int64} {x3 : Int32} {x4 : Int32} {M : Mem}, f_X7_digest_96 k82 n x0 x1 x3 x4 M = some r → ∀ {H : Heap} {locs : List Loc} {ls : Array Slot}, RH D B ca M H → va_S (AA B) s.heap H locs → lv_has ls 5 [(0, .ref (B + x0)), (1, .long x1), (3, .int x3), (4, .int x4)] → W p l e (rmD 5) s m args below meth c H locs 0 0 (MQ below (Qp D B ca st (some (.long r)) M) args s 0 0 (AA B)) (F0 m 96 ls []) := by
  have hx := C.1
  have hb := C.2.1
  intro n
  induction n with
  | zero => intro x0 x1 x3 x4 M h; simp [f_X7_digest_96] at h
  | succ n ih =>
    intro x0 x1 x3 x4 M h H locs ls hR hS hl
    rw [f_X7_digest_96] at h
    refine lv_iload hx hb dX7_digest_96 (lv_at hl 3 rfl) ?_
    refine lv_iconst (v := 5) hx hb dX7_digest_98 (by decide) ?_
    refine lv_icmp_ge (tgt := 123) hx hb dX7_digest_99 (by decide) (fun c => ?_) (fun c => ?_)
    · have h := ip c h
      refine lv_iinc (v := (x3 + 1)) (lv' := [(3, .int (x3 + 1)), (0, .ref (B + x0)), (1, .long x1), (4, .int x4)]) hx hb dX7_digest_123 hl (k := 2) rfl rfl (by decide) rfl (fun ls hl => ?_)
      refine lv_goto (tgt := 82) hx hb dX7_digest_126 (by decide) ?_
      exact hk82 h hR hS (lv_sub hl [1, 2, 0] rfl)
    · have h := iq c h
      refine lv_ldc2 hx hb C.2.2.2.1 (C.2.2.2.2.1 _ lk931) dX7_digest_102 ?_
      refine lv_lload_n hx hb dX7_digest_105 rfl (lv_at hl 1 rfl) ?_
      refine lv_lmul hx hb dX7_digest_106 ?_
      refine lv_aload_n hx hb dX7_digest_107 rfl (lv_at hl 0 rfl) ?_
      refine lv_iload_n hx hb dX7_digest_108 rfl (lv_at hl 2 rfl) ?_
      refine lv_iload hx hb dX7_digest_109 (lv_at hl 3 rfl) ?_
      obtain ⟨v24, zqe23, h⟩ := ob h
      refine rc_V C hR hS cf_X7_orderTells cv_X7_orderTells lk576 (ok_X7_orderTells zqe23) (ck_X7_orderTells zqe23) ⟨Nat.le_of_ble_eq_true rfl, Nat.le_of_ble_eq_true rfl⟩ ⟨Nat.zero_le _, Nat.zero_le _⟩ rfl rfl hl.1 (Nat.le_of_ble_eq_true rfl) dX7_digest_111 (rc_k1 (fun H locs hR hS => ?_))
      refine lv_i2l (v := (Int32.toInt64 v24)) hx hb dX7_digest_114 rfl ?_
      refine lv_ladd hx hb dX7_digest_115 ?_
      refine lv_lstore_n (lv' := [(1, .long ((31 * x1) + (Int32.toInt64 v24))), (0, .ref (B + x0)), (3, .int x3), (4, .int x4)]) hx hb dX7_digest_116 rfl hl (by decide) rfl (fun ls hl => ?_)
      refine lv_iinc (v := (x4 + 1)) (lv' := [(4, .int (x4 + 1)), (1, .long ((31 * x1) + (Int32.toInt64 v24))), (0, .ref (B + x0)), (3, .int x3)]) hx hb dX7_digest_117 hl (k := 3) rfl rfl (by decide) rfl (fun ls hl => ?_)
      refine lv_goto (tgt := 96) hx hb dX7_digest_120 (by decide) ?_
      exact ih h hR hS (lv_sub hl [2, 1, 3, 0] rfl)
set_option maxHeartbeats 4000000 in
set_option maxRecDepth 100000 in
theorem w_X7_digest_82    {r : Int64} (C : Cx p s m args meth c RX7 cX7_digest 5 (some .long) D B ca st)   : ∀ (n : Nat) {x0 : Nat} {x1 : Int64} {x3 : Int32} {M : Mem}, f_X7_digest_82  n x0 x1 x3 M = some r → ∀ {H : Heap} {locs : List Loc} {ls : Array Slot}, RH D B ca M H → va_S (AA B) s.heap H locs → lv_has ls 5 [(0, .ref (B + x0)), (1, .long x1), (3, .int x3)] → W p l e (rmD 5) s m args below meth c H locs 0 0 (MQ below (Qp D B ca st (some (.long r)) M) args s 0 0 (AA B)) (F0 m 82 ls []) := by
  have hx := C.1
  have hb := C.2.1
  intro n
  induction n with
  | zero => intro x0 x1 x3 M h; simp [f_X7_digest_82] at h
  | succ n ih =>
    intro x0 x1 x3 M h H locs ls hR hS hl
    rw [f_X7_digest_82] at h
    refine lv_iload_n hx hb dX7_digest_82 rfl (lv_at hl 2 rfl) ?_
    refine lv_aload_n hx hb dX7_digest_83 rfl (lv_at hl 0 rfl) ?_
    obtain ⟨v7, zqe8, h⟩ := ob h
    refine gf327 C hR zqe8 dX7_digest_84 ?_
    obtain ⟨v9, zqe10, h⟩ := ob h
    refine gf158 C hR zqe10 dX7_digest_87 ?_
    refine lv_icmp_ge (tgt := 129) hx hb dX7_digest_90 (by decide) (fun c => ?_) (fun c => ?_)
    · have h := ip c h
      refine lv_iconst (v := 0) hx hb dX7_digest_129 (by decide) ?_
      refine lv_istore_n (lv' := [(3, .int 0), (0, .ref (B + x0)), (1, .long x1)]) hx hb dX7_digest_130 rfl hl (by decide) rfl (fun ls hl => ?_)
      exact w_X7_digest_131 C  FU h hR hS (lv_sub hl [1, 2, 0] rfl)
    · have h := iq c h
      refine lv_iconst (v := 0) hx hb dX7_digest_93 (by decide) ?_
      refine lv_istore (lv' := [(4, .int 0), (0, .ref (B + x0)), (1, .long x1), (3, .int x3)]) hx hb dX7_digest_94 hl (by decide) rfl (fun ls hl => ?_)
      exact w_X7_digest_96 C (hk82 := @ih) FU h hR hS (lv_sub hl [1, 2, 3, 0] rfl)
set_option maxHeartbeats 4000000 in
set_option maxRecDepth 100000 in
theorem w_X7_digest_47  {k33 : Nat → Int64 → Int32 → Mem → Option Int64}  {r : Int64} (C : Cx p s m args meth c RX7 cX7_digest 5 (some .long) D B ca st)  (hk33 : ∀ {x0 : Nat} {x1 : Int64} {x3 : Int32} {M : Mem}, k33 x0 x1 x3 M = some r → ∀ {H : Heap} {locs : List Loc} {ls : Array Slot}, RH D B ca M H → va_S (AA B) s.heap H locs → lv_has ls 5 [(0, .ref (B + x0)), (1, .long x1), (3, .int x3)] → W p l e (rmD 5) s m args below meth c H locs 0 0 (MQ below (Qp D B ca st (some (.long r)) M) args s 0 0 (AA B)) (F0 m 33 ls [])) : ∀ (n : Nat) {x0 : Nat} {x1 : Int64} {x3 : Int32} {x4 : Int32} {M : Mem}, f_X7_digest_47 k33 n x0 x1 x3 x4 M = some r → ∀ {H : Heap} {locs : List Loc} {ls : Array Slot}, RH D B ca M H → va_S (AA B) s.heap H locs → lv_has ls 5 [(0, .ref (B + x0)), (1, .long x1), (3, .int x3), (4, .int x4)] → W p l e (rmD 5) s m args below meth c H locs 0 0 (MQ below (Qp D B ca st (some (.long r)) M) args s 0 0 (AA B)) (F0 m 47 ls []) := by
  have hx := C.1
  have hb := C.2.1
  intro n
  induction n with
  | zero => intro x0 x1 x3 x4 M h; simp [f_X7_digest_47] at h
  | succ n ih =>
    intro x0 x1 x3 x4 M h H locs ls hR hS hl
    rw [f_X7_digest_47] at h
    refine lv_iload hx hb dX7_digest_47 (lv_at hl 3 rfl) ?_
    refine lv_iconst (v := 5) hx hb dX7_digest_49 (by decide) ?_
    refine lv_icmp_ge (tgt := 74) hx hb dX7_digest_50 (by decide) (fun c => ?_) (fun c => ?_)
    · have h := ip c h
      refine lv_iinc (v := (x3 + 1)) (lv' := [(3, .int (x3 + 1)), (0, .ref (B + x0)), (1, .long x1), (4, .int x4)]) hx hb dX7_digest_74 hl (k := 2) rfl rfl (by decide) rfl (fun ls hl => ?_)
      refine lv_goto (tgt := 33) hx hb dX7_digest_77 (by decide) ?_
      exact hk33 h hR hS (lv_sub hl [1, 2, 0] rfl)
    · have h := iq c h
      refine lv_ldc2 hx hb C.2.2.2.1 (C.2.2.2.2.1 _ lk931) dX7_digest_53 ?_
      refine lv_lload_n hx hb dX7_digest_56 rfl (lv_at hl 1 rfl) ?_
      refine lv_lmul hx hb dX7_digest_57 ?_
      refine lv_aload_n hx hb dX7_digest_58 rfl (lv_at hl 0 rfl) ?_
      refine lv_iload_n hx hb dX7_digest_59 rfl (lv_at hl 2 rfl) ?_
      refine lv_iload hx hb dX7_digest_60 (lv_at hl 3 rfl) ?_
      obtain ⟨v12, zqe11, h⟩ := ob h
      refine rc_V C hR hS cf_X7_sigherTells cv_X7_sigherTells lk542 (ok_X7_sigherTells zqe11) (ck_X7_sigherTells zqe11) ⟨Nat.le_of_ble_eq_true rfl, Nat.le_of_ble_eq_true rfl⟩ ⟨Nat.zero_le _, Nat.zero_le _⟩ rfl rfl hl.1 (Nat.le_of_ble_eq_true rfl) dX7_digest_62 (rc_k1 (fun H locs hR hS => ?_))
      refine lv_i2l (v := (Int32.toInt64 v12)) hx hb dX7_digest_65 rfl ?_
      refine lv_ladd hx hb dX7_digest_66 ?_
      refine lv_lstore_n (lv' := [(1, .long ((31 * x1) + (Int32.toInt64 v12))), (0, .ref (B + x0)), (3, .int x3), (4, .int x4)]) hx hb dX7_digest_67 rfl hl (by decide) rfl (fun ls hl => ?_)
      refine lv_iinc (v := (x4 + 1)) (lv' := [(4, .int (x4 + 1)), (1, .long ((31 * x1) + (Int32.toInt64 v12))), (0, .ref (B + x0)), (3, .int x3)]) hx hb dX7_digest_68 hl (k := 3) rfl rfl (by decide) rfl (fun ls hl => ?_)
      refine lv_goto (tgt := 47) hx hb dX7_digest_71 (by decide) ?_
      exact ih h hR hS (lv_sub hl [2, 1, 3, 0] rfl)
set_option maxHeartbeats 4000000 in
set_option maxRecDepth 100000 in
theorem w_X7_digest_33    {r : Int64} (C : Cx p s m args meth c RX7 cX7_digest 5 (some .long) D B ca st)   : ∀ (n : Nat) {x0 : Nat} {x1 : Int64} {x3 : Int32} {M : Mem}, f_X7_digest_33  n x0 x1 x3 M = some r → ∀ {H : Heap} {locs : List Loc} {ls : Array Slot}, RH D B ca M H → va_S (AA B) s.heap H locs → lv_has ls 5 [(0, .ref (B + x0)), (1, .long x1), (3, .int x3)] → W p l e (rmD 5) s m args below meth c H locs 0 0 (MQ below (Qp D B ca st (some (.long r)) M) args s 0 0 (AA B)) (F0 m 33 ls []) := by
  have hx := C.1
  have hb := C.2.1
  intro n
  induction n with
  | zero => intro x0 x1 x3 M h; simp [f_X7_digest_33] at h
  | succ n ih =>
    intro x0 x1 x3 M h H locs ls hR hS hl
    rw [f_X7_digest_33] at h
    refine lv_iload_n hx hb dX7_digest_33 rfl (lv_at hl 2 rfl) ?_
    refine lv_aload_n hx hb dX7_digest_34 rfl (lv_at hl 0 rfl) ?_
    obtain ⟨v3, zqe4, h⟩ := ob h
    refine gf327 C hR zqe4 dX7_digest_35 ?_
    obtain ⟨v5, zqe6, h⟩ := ob h
    refine gf154 C hR zqe6 dX7_digest_38 ?_
    refine lv_icmp_ge (tgt := 80) hx hb dX7_digest_41 (by decide) (fun c => ?_) (fun c => ?_)
    · have h := ip c h
      refine lv_iconst (v := 0) hx hb dX7_digest_80 (by decide) ?_
      refine lv_istore_n (lv' := [(3, .int 0), (0, .ref (B + x0)), (1, .long x1)]) hx hb dX7_digest_81 rfl hl (by decide) rfl (fun ls hl => ?_)
      exact w_X7_digest_82 C  FU h hR hS (lv_sub hl [1, 2, 0] rfl)
    · have h := iq c h
      refine lv_iconst (v := 0) hx hb dX7_digest_44 (by decide) ?_
      refine lv_istore (lv' := [(4, .int 0), (0, .ref (B + x0)), (1, .long x1), (3, .int x3)]) hx hb dX7_digest_45 hl (by decide) rfl (fun ls hl => ?_)
      exact w_X7_digest_47 C (hk33 := @ih) FU h hR hS (lv_sub hl [1, 2, 3, 0] rfl)
set_option maxHeartbeats 4000000 in
set_option maxRecDepth 100000 in
theorem w_X7_digest_6    {r : Int64} (C : Cx p s m args meth c RX7 cX7_digest 5 (some .long) D B ca st)   : ∀ (n : Nat) {x0 : Nat} {x1 : Int64} {x3 : Int32} {M : Mem}, f_X7_digest_6  n x0 x1 x3 M = some r → ∀ {H : Heap} {locs : List Loc} {ls : Array Slot}, RH D B ca M H → va_S (AA B) s.heap H locs → lv_has ls 5 [(0, .ref (B + x0)), (1, .long x1), (3, .int x3)] → W p l e (rmD 5) s m args below meth c H locs 0 0 (MQ below (Qp D B ca st (some (.long r)) M) args s 0 0 (AA B)) (F0 m 6 ls []) := by
  have hx := C.1
  have hb := C.2.1
  intro n
  induction n with
  | zero => intro x0 x1 x3 M h; simp [f_X7_digest_6] at h
  | succ n ih =>
    intro x0 x1 x3 M h H locs ls hR hS hl
    rw [f_X7_digest_6] at h
    refine lv_iload_n hx hb dX7_digest_6 rfl (lv_at hl 2 rfl) ?_
    refine lv_bipush (v := 11) hx hb dX7_digest_7 (by decide) ?_
    refine lv_icmp_ge (tgt := 31) hx hb dX7_digest_9 (by decide) (fun c => ?_) (fun c => ?_)
    · have h := ip c h
      refine lv_iconst (v := 0) hx hb dX7_digest_31 (by decide) ?_
      refine lv_istore_n (lv' := [(3, .int 0), (0, .ref (B + x0)), (1, .long x1)]) hx hb dX7_digest_32 rfl hl (by decide) rfl (fun ls hl => ?_)
      exact w_X7_digest_33 C  FU h hR hS (lv_sub hl [1, 2, 0] rfl)
    · have h := iq c h
      refine lv_ldc2 hx hb C.2.2.2.1 (C.2.2.2.2.1 _ lk931) dX7_digest_12 ?_
      refine lv_lload_n hx hb dX7_digest_15 rfl (lv_at hl 1 rfl) ?_
      refine lv_lmul hx hb dX7_digest_16 ?_
      refine lv_aload_n hx hb dX7_digest_17 rfl (lv_at hl 0 rfl) ?_
      refine lv_iload_n hx hb dX7_digest_18 rfl (lv_at hl 2 rfl) ?_
      obtain ⟨v2, zqe1, h⟩ := ob h
      refine rc_V C hR hS cf_X7_countOf cv_X7_countOf lk893 (ok_X7_countOf zqe1) (ck_X7_countOf zqe1) ⟨Nat.le_of_ble_eq_true rfl, Nat.le_of_ble_eq_true rfl⟩ ⟨Nat.zero_le _, Nat.zero_le _⟩ rfl rfl hl.1 (Nat.le_of_ble_eq_true rfl) dX7_digest_19 (rc_k1 (fun H locs hR hS => ?_))
      refine lv_i2l (v := (Int32.toInt64 v2)) hx hb dX7_digest_22 rfl ?_
      refine lv_ladd hx hb dX7_digest_23 ?_
      refine lv_lstore_n (lv' := [(1, .long ((31 * x1) + (Int32.toInt64 v2))), (0, .ref (B + x0)), (3, .int x3)]) hx hb dX7_digest_24 rfl hl (by decide) rfl (fun ls hl => ?_)
      refine lv_iinc (v := (x3 + 1)) (lv' := [(3, .int (x3 + 1)), (1, .long ((31 * x1) + (Int32.toInt64 v2))), (0, .ref (B + x0))]) hx hb dX7_digest_25 hl (k := 2) rfl rfl (by decide) rfl (fun ls hl => ?_)
      refine lv_goto (tgt := 6) hx hb dX7_digest_28 (by decide) ?_
      exact ih h hR hS (lv_sub hl [2, 1, 0] rfl)
theorem ck_X7_digest  {x0 : Nat} {M : Mem} {r : Int64} (h : f_X7_digest  x0 M = some r) : kd M x0 = 17 := by
  unfold f_X7_digest at h
  exact ck h
set_option maxHeartbeats 4000000 in
set_option maxRecDepth 100000 in
theorem ok_X7_digest  {x0 : Nat}  {M : Mem} {r : Int64}  (h : f_X7_digest  x0 M = some r) : Ok l yX7_digest cX7_digest 5 (some .long) 5 [.ref (B + x0)] D B ca st M (some (.long r)) M := by
  have hk0 := ck_X7_digest h
  unfold f_X7_digest at h
  have h := ip hk0 h
  refine ok_of rfl rfl (Nat.le_of_ble_eq_true rfl) ?_
  intro p e s m args below meth c ls C hl hR hS
  have hl : lv_has ls 5 [(0, .ref (B + x0))] := hl
  have hx := C.1
  have hb := C.2.1
  refine lv_ldc2 hx hb C.2.2.2.1 (C.2.2.2.2.1 _ lk930) dX7_digest_0 ?_
  refine lv_lstore_n (lv' := [(1, .long 17), (0, .ref (B + x0))]) hx hb dX7_digest_3 rfl hl (by decide) rfl (fun ls hl => ?_)
  refine lv_iconst (v := 0) hx hb dX7_digest_4 (by decide) ?_
  refine lv_istore_n (lv' := [(3, .int 0), (1, .long 17), (0, .ref (B + x0))]) hx hb dX7_digest_5 rfl hl (by decide) rfl (fun ls hl => ?_)
  exact w_X7_digest_6 C  FU h hR hS (lv_sub hl [2, 1, 0] rfl)
set_option maxHeartbeats 4000000 in
set_option maxRecDepth 100000 in
theorem w_X3_goOn_56 {dp : Nat} {rc : Nat → Int32 → Int32 → Int32 → Int32 → Int32 → Int32 → Mem → Option Mem}   {r : Mem} (C : Cx p s m args meth c RX3 cX3_goOn 10 none D B ca st) (hrc : ∀ {y0 : Nat} {y1 : Int32} {y2 : Int32} {y3 : Int32} {y4 : Int32} {y5 : Int32} {y6 : Int32} {N : Mem} {q : Mem}, rc y0 y1 y2 y3 y4 y5 y6 N = some q → Ok l yX3_goOn cX3_goOn 10 none (3 + dp) [.ref (B + y0), .int y1, .int y2, .int y3, .int y4, .int y5, .int y6] D B ca st N none q) (hck : ∀ {y0 : Nat} {y1 : Int32} {y2 : Int32} {y3 : Int32} {y4 : Int32} {y5 : Int32} {y6 : Int32} {N : Mem} {q : Mem}, rc y0 y1 y2 y3 y4 y5 y6 N = some q → kd N y0 = 13)  : ∀ (n : Nat) {x0 : Nat} {x1 : Int32} {x2 : Int32} {x3 : Int32} {x4 : Int32} {x5 : Int32} {x6 : Int32} {x7 : Int32} {M : Mem}, f_X3_goOn_56 rc n x0 x1 x2 x3 x4 x5 x6 x7 M = some r → ∀ {H : Heap} {locs : List Loc} {ls : Array Slot}, RH D B ca M H → va_S (AA B) s.heap H locs → lv_has ls 10 [(0, .ref (B + x0)), (1, .int x1), (2, .int x2), (3, .int x3), (4, .int x4), (5, .int x5), (6, .int x6), (7, .int x7)] → W p l e (rmD (3 + (dp + 1))) s m args below meth c H locs 0 0 (MQ below (Qp D B ca st none r) args s 0 0 (AA B)) (F0 m 56 ls []) := by
  have hx := C.1
  have hb := C.2.1
  intro n
  induction n with
  | zero => intro x0 x1 x2 x3 x4 x5 x6 x7 M h; simp [f_X3_goOn_56] at h
  | succ n ih =>
    intro x0 x1 x2 x3 x4 x5 x6 x7 M h H locs ls hR hS hl
    rw [f_X3_goOn_56] at h
    refine lv_iload hx hb dX3_goOn_56 (lv_at hl 7 rfl) ?_
    refine lv_aload_n hx hb dX3_goOn_58 rfl (lv_at hl 0 rfl) ?_
    obtain ⟨v15, zqe16, h⟩ := ob h
    refine gf281 C hR zqe16 dX3_goOn_59 ?_
    obtain ⟨v17, zqe18, h⟩ := ob h
    refine gf156 C hR zqe18 dX3_goOn_62 ?_
    refine lv_icmp_ge (tgt := 195) hx hb dX3_goOn_65 (by decide) (fun c => ?_) (fun c => ?_)
    · have h := ip c h
      cases h
      exact rr_V C hR hS dX3_goOn_195
    · have h := iq c h
      refine lv_aload_n hx hb dX3_goOn_68 rfl (lv_at hl 0 rfl) ?_
      obtain ⟨v19, zqe20, h⟩ := ob h
      refine gf281 C hR zqe20 dX3_goOn_69 ?_
      refine lv_aload_n hx hb dX3_goOn_72 rfl (lv_at hl 0 rfl) ?_
      obtain ⟨v21, zqe22, h⟩ := ob h
      refine gf282 C hR zqe22 dX3_goOn_73 ?_
      refine lv_iload hx hb dX3_goOn_76 (lv_at hl 7 rfl) ?_
      obtain ⟨v24, zqe23, h⟩ := ob h
      refine rc_VN C hR hS cf_X2_breathFor cv_X2_breathFor lk774 (ok_X2_breathFor zqe23) (ck_X2_breathFor zqe23) ⟨by simp only [rmD]; omega, by simp only [rmD]; omega⟩ ⟨Nat.zero_le _, Nat.zero_le _⟩ rfl rfl hl.1 (Nat.le_of_ble_eq_true rfl) dX3_goOn_78 (rc_k1 (fun H locs hR hS => ?_))
      refine lv_istore (lv' := [(8, .int v24), (0, .ref (B + x0)), (1, .int x1), (2, .int x2), (3, .int x3), (4, .int x4), (5, .int x5), (6, .int x6), (7, .int x7)]) hx hb dX3_goOn_81 hl (by decide) rfl (fun ls hl => ?_)
      refine lv_aload_n hx hb dX3_goOn_83 rfl (lv_at hl 1 rfl) ?_
      obtain ⟨v25, zqe26, h⟩ := ob h
      refine gf281 C hR zqe26 dX3_goOn_84 ?_
      obtain ⟨v27, zqe28, h⟩ := ob h
      refine gf166 C hR zqe28 dX3_goOn_87 ?_
      refine lv_iload hx hb dX3_goOn_90 (lv_at hl 8 rfl) ?_
      obtain ⟨v29, zqe30, h⟩ := ob h
      refine ra_I C hR zqe30 dX3_goOn_92 ?_
      refine lv_iload_n hx hb dX3_goOn_93 rfl (lv_at hl 3 rfl) ?_
      refine lv_isub hx hb dX3_goOn_94 ?_
      refine rm_abs C lk775 hl.1 ⟨by simp only [rmD]; omega, Nat.le_trans (m := 40) (Nat.le_of_ble_eq_true rfl) (by simp only [rmD]; omega)⟩ ⟨Nat.zero_le _, Nat.zero_le _⟩ dX3_goOn_95 ?_
      refine lv_iconst (v := 1) hx hb dX3_goOn_98 (by decide) ?_
      refine lv_iadd hx hb dX3_goOn_99 ?_
      refine lv_istore (lv' := [(9, .int ((f_J9_abs_0f7a4 (v29 - x2)) + 1)), (8, .int v24), (0, .ref (B + x0)), (1, .int x1), (2, .int x2), (3, .int x3), (4, .int x4), (5, .int x5), (6, .int x6), (7, .int x7)]) hx hb dX3_goOn_100 hl (by decide) rfl (fun ls hl => ?_)
      refine lv_iload hx hb dX3_goOn_102 (lv_at hl 8 rfl) ?_
      refine lv_iload hx hb dX3_goOn_104 (lv_at hl 9 rfl) ?_
      refine rc_SN C hR hS cf_X7_holds cs_X7_holds lk776 (ok_X7_holds x6 x7) ⟨by simp only [rmD]; omega, by simp only [rmD]; omega⟩ ⟨Nat.zero_le _, Nat.zero_le _⟩ rfl rfl hl.1 (Nat.le_of_ble_eq_true rfl) dX3_goOn_106 (rc_k1 (fun H locs hR hS => ?_))
      refine lv_if_ne (tgt := 189) hx hb dX3_goOn_109 (by decide) (fun c => ?_) (fun c => ?_)
      · have h := iq c h
        refine lv_iinc (v := (x7 + 1)) (lv' := [(7, .int (x7 + 1)), (9, .int ((f_J9_abs_0f7a4 (v29 - x2)) + 1)), (8, .int v24), (0, .ref (B + x0)), (1, .int x1), (2, .int x2), (3, .int x3), (4, .int x4), (5, .int x5), (6, .int x6)]) hx hb dX3_goOn_189 hl (k := 9) rfl rfl (by decide) rfl (fun ls hl => ?_)
        refine lv_goto (tgt := 56) hx hb dX3_goOn_192 (by decide) ?_
        exact ih h hR hS (lv_sub hl [3, 4, 5, 6, 7, 8, 9, 0] rfl)
      · have h := ip c h
        refine lv_iload hx hb dX3_goOn_112 (lv_at hl 1 rfl) ?_
        refine lv_bipush (v := (-9)) hx hb dX3_goOn_114 (by decide) ?_
        refine lv_icmp_eq (tgt := 189) hx hb dX3_goOn_116 (by decide) (fun c => ?_) (fun c => ?_)
        · have h := ip c h
          refine lv_iinc (v := (x7 + 1)) (lv' := [(7, .int (x7 + 1)), (9, .int ((f_J9_abs_0f7a4 (v29 - x2)) + 1)), (8, .int v24), (0, .ref (B + x0)), (1, .int x1), (2, .int x2), (3, .int x3), (4, .int x4), (5, .int x5), (6, .int x6)]) hx hb dX3_goOn_189 hl (k := 9) rfl rfl (by decide) rfl (fun ls hl => ?_)
          refine lv_goto (tgt := 56) hx hb dX3_goOn_192 (by decide) ?_
          exact ih h hR hS (lv_sub hl [3, 4, 5, 6, 7, 8, 9, 0] rfl)
        · have h := iq c h
          refine lv_iload hx hb dX3_goOn_119 (lv_at hl 1 rfl) ?_
          refine lv_iload hx hb dX3_goOn_121 (lv_at hl 6 rfl) ?_
          refine lv_icmp_gt (tgt := 189) hx hb dX3_goOn_123 (by decide) (fun c => ?_) (fun c => ?_)
          · have h := ip c h
            refine lv_iinc (v := (x7 + 1)) (lv' := [(7, .int (x7 + 1)), (9, .int ((f_J9_abs_0f7a4 (v29 - x2)) + 1)), (8, .int v24), (0, .ref (B + x0)), (1, .int x1), (2, .int x2), (3, .int x3), (4, .int x4), (5, .int x5), (6, .int x6)]) hx hb dX3_goOn_189 hl (k := 9) rfl rfl (by decide) rfl (fun ls hl => ?_)
            refine lv_goto (tgt := 56) hx hb dX3_goOn_192 (by decide) ?_
            exact ih h hR hS (lv_sub hl [3, 4, 5, 6, 7, 8, 9, 0] rfl)
          · have h := iq c h
            refine lv_iload hx hb dX3_goOn_126 (lv_at hl 0 rfl) ?_
            refine lv_iload_n hx hb dX3_goOn_128 rfl (lv_at hl 5 rfl) ?_
            refine lv_icmp_gt (tgt := 189) hx hb dX3_goOn_129 (by decide) (fun c => ?_) (fun c => ?_)
            · have h := ip c h
              refine lv_iinc (v := (x7 + 1)) (lv' := [(7, .int (x7 + 1)), (9, .int ((f_J9_abs_0f7a4 (v29 - x2)) + 1)), (8, .int v24), (0, .ref (B + x0)), (1, .int x1), (2, .int x2), (3, .int x3), (4, .int x4), (5, .int x5), (6, .int x6)]) hx hb dX3_goOn_189 hl (k := 9) rfl rfl (by decide) rfl (fun ls hl => ?_)
              refine lv_goto (tgt := 56) hx hb dX3_goOn_192 (by decide) ?_
              exact ih h hR hS (lv_sub hl [3, 4, 5, 6, 7, 8, 9, 0] rfl)
            · have h := iq c h
              refine lv_aload_n hx hb dX3_goOn_132 rfl (lv_at hl 2 rfl) ?_
              obtain ⟨v32, zqe33, h⟩ := ob h
              refine gf275 C hR zqe33 dX3_goOn_133 ?_
              refine lv_iload_n hx hb dX3_goOn_136 rfl (lv_at hl 3 rfl) ?_
              refine lv_iload hx hb dX3_goOn_137 (lv_at hl 9 rfl) ?_
              obtain ⟨M34, zqe35, h⟩ := ob h
              refine re_I C hR hS zqe35 dX3_goOn_139 (fun H locs hR hS => ?_)
              refine lv_aload_n hx hb dX3_goOn_140 rfl (lv_at hl 2 rfl) ?_
              refine lv_iload_n hx hb dX3_goOn_141 rfl (lv_at hl 3 rfl) ?_
              refine lv_iconst (v := 1) hx hb dX3_goOn_142 (by decide) ?_
              refine lv_iadd hx hb dX3_goOn_143 ?_
              refine lv_aload_n hx hb dX3_goOn_144 rfl (lv_at hl 2 rfl) ?_
              obtain ⟨v36, zqe37, h⟩ := ob h
              refine gf281 C hR zqe37 dX3_goOn_145 ?_
              obtain ⟨v38, zqe39, h⟩ := ob h
              refine gf166 C hR zqe39 dX3_goOn_148 ?_
              refine lv_iload hx hb dX3_goOn_151 (lv_at hl 9 rfl) ?_
              obtain ⟨v40, zqe41, h⟩ := ob h
              refine ra_I C hR zqe41 dX3_goOn_153 ?_
              refine lv_iload_n hx hb dX3_goOn_154 rfl (lv_at hl 5 rfl) ?_
              refine lv_iload hx hb dX3_goOn_155 (lv_at hl 0 rfl) ?_
              refine lv_isub hx hb dX3_goOn_157 ?_
              refine lv_iload hx hb dX3_goOn_158 (lv_at hl 6 rfl) ?_
              refine lv_iload hx hb dX3_goOn_160 (lv_at hl 1 rfl) ?_
              refine lv_isub hx hb dX3_goOn_162 ?_
              refine lv_iload hx hb dX3_goOn_163 (lv_at hl 7 rfl) ?_
              refine lv_aload_n hx hb dX3_goOn_165 rfl (lv_at hl 2 rfl) ?_
              obtain ⟨v42, zqe43, h⟩ := ob h
              refine gf281 C hR zqe43 dX3_goOn_166 ?_
              refine lv_aload_n hx hb dX3_goOn_169 rfl (lv_at hl 2 rfl) ?_
              obtain ⟨v44, zqe45, h⟩ := ob h
              refine gf282 C hR zqe45 dX3_goOn_170 ?_
              refine lv_iload hx hb dX3_goOn_173 (lv_at hl 9 rfl) ?_
              obtain ⟨v47, zqe46, h⟩ := ob h
              refine rc_VN C hR hS cf_X2_goldFor cv_X2_goldFor lk777 (ok_X2_goldFor zqe46) (ck_X2_goldFor zqe46) ⟨by simp only [rmD]; omega, by simp only [rmD]; omega⟩ ⟨Nat.zero_le _, Nat.zero_le _⟩ rfl rfl hl.1 (Nat.le_of_ble_eq_true rfl) dX3_goOn_175 (rc_k1 (fun H locs hR hS => ?_))
              refine lv_iadd hx hb dX3_goOn_178 ?_
              refine lv_iload hx hb dX3_goOn_179 (lv_at hl 8 rfl) ?_
              refine lv_iconst (v := 1) hx hb dX3_goOn_181 (by decide) ?_
              refine lv_iload hx hb dX3_goOn_182 (lv_at hl 9 rfl) ?_
              refine lv_ishl hx hb dX3_goOn_184 ?_
              refine lv_ior hx hb dX3_goOn_185 ?_
              obtain ⟨M49, zqe48, h⟩ := ob h
              refine rc_V C hR hS cf_X3_goOn cv_X3_goOn lk769 (hrc zqe48) (hck zqe48) ⟨by simp only [rmD]; omega, by simp only [rmD]; omega⟩ ⟨Nat.zero_le _, Nat.zero_le _⟩ rfl rfl hl.1 (Nat.le_of_ble_eq_true rfl) dX3_goOn_186 (rc_k0 (fun H locs hR hS => ?_))
              refine lv_iinc (v := (x7 + 1)) (lv' := [(7, .int (x7 + 1)), (9, .int ((f_J9_abs_0f7a4 (v29 - x2)) + 1)), (8, .int v24), (0, .ref (B + x0)), (1, .int x1), (2, .int x2), (3, .int x3), (4, .int x4), (5, .int x5), (6, .int x6)]) hx hb dX3_goOn_189 hl (k := 9) rfl rfl (by decide) rfl (fun ls hl => ?_)
              refine lv_goto (tgt := 56) hx hb dX3_goOn_192 (by decide) ?_
              exact ih h hR hS (lv_sub hl [3, 4, 5, 6, 7, 8, 9, 0] rfl)
set_option maxHeartbeats 4000000 in
set_option maxRecDepth 100000 in
theorem w_X3_goOn_35 {dp : Nat} {rc : Nat → Int32 → Int32 → Int32 → Int32 → Int32 → Int32 → Mem → Option Mem}   {r : Mem} {x0 : Nat} {x1 : Int32} {x2 : Int32} {x3 : Int32} {x4 : Int32} {x5 : Int32} {x6 : Int32} {M : Mem} (C : Cx p s m args meth c RX3 cX3_goOn 10 none D B ca st) (hrc : ∀ {y0 : Nat} {y1 : Int32} {y2 : Int32} {y3 : Int32} {y4 : Int32} {y5 : Int32} {y6 : Int32} {N : Mem} {q : Mem}, rc y0 y1 y2 y3 y4 y5 y6 N = some q → Ok l yX3_goOn cX3_goOn 10 none (3 + dp) [.ref (B + y0), .int y1, .int y2, .int y3, .int y4, .int y5, .int y6] D B ca st N none q) (hck : ∀ {y0 : Nat} {y1 : Int32} {y2 : Int32} {y3 : Int32} {y4 : Int32} {y5 : Int32} {y6 : Int32} {N : Mem} {q : Mem}, rc y0 y1 y2 y3 y4 y5 y6 N = some q → kd N y0 = 13)  (h : f_X3_goOn_35 rc x0 x1 x2 x3 x4 x5 x6 M = some r) : ∀ {H : Heap} {locs : List Loc} {ls : Array Slot}, RH D B ca M H → va_S (AA B) s.heap H locs → lv_has ls 10 [(0, .ref (B + x0)), (1, .int x1), (2, .int x2), (3, .int x3), (4, .int x4), (5, .int x5), (6, .int x6)] → W p l e (rmD (3 + (dp + 1))) s m args below meth c H locs 0 0 (MQ below (Qp D B ca st none r) args s 0 0 (AA B)) (F0 m 35 ls []) := by
  have hx := C.1
  have hb := C.2.1
  unfold f_X3_goOn_35 at h
  intro H locs ls hR hS hl
  refine lv_aload_n hx hb dX3_goOn_35 rfl (lv_at hl 0 rfl) ?_
  obtain ⟨v13, zqe14, h⟩ := ob h
  refine gf281 C hR zqe14 dX3_goOn_36 ?_
  refine lv_ifnull hx hb dX3_goOn_39 ?_
  refine lv_iload_n hx hb dX3_goOn_42 rfl (lv_at hl 1 rfl) ?_
  refine lv_if_lt (tgt := 52) hx hb dX3_goOn_43 (by decide) (fun c => ?_) (fun c => ?_)
  · have h := ip c h
    cases h
    exact rr_V C hR hS dX3_goOn_52
  · have h := iq c h
    refine lv_iload_n hx hb dX3_goOn_46 rfl (lv_at hl 1 rfl) ?_
    refine lv_bipush (v := 6) hx hb dX3_goOn_47 (by decide) ?_
    refine lv_icmp_lt (tgt := 53) hx hb dX3_goOn_49 (by decide) (fun c => ?_) (fun c => ?_)
    · have h := ip c h
      refine lv_iconst (v := 0) hx hb dX3_goOn_53 (by decide) ?_
      refine lv_istore (lv' := [(7, .int 0), (0, .ref (B + x0)), (1, .int x1), (2, .int x2), (3, .int x3), (4, .int x4), (5, .int x5), (6, .int x6)]) hx hb dX3_goOn_54 hl (by decide) rfl (fun ls hl => ?_)
      exact w_X3_goOn_56 C (hrc := @hrc) (hck := @hck)  FU h hR hS (lv_sub hl [1, 2, 3, 4, 5, 6, 7, 0] rfl)
    · have h := iq c h
      cases h
      exact rr_V C hR hS dX3_goOn_52
theorem ck_X3_goOn_b {rc : Nat → Int32 → Int32 → Int32 → Int32 → Int32 → Int32 → Mem → Option Mem} {x0 : Nat} {x1 : Int32} {x2 : Int32} {x3 : Int32} {x4 : Int32} {x5 : Int32} {x6 : Int32} {M : Mem} {r : Mem} (h : f_X3_goOn_b rc x0 x1 x2 x3 x4 x5 x6 M = some r) : kd M x0 = 13 := by
  unfold f_X3_goOn_b at h
  exact ck h
set_option maxHeartbeats 4000000 in
set_option maxRecDepth 100000 in
theorem ok_X3_goOn_b {dp : Nat} {rc : Nat → Int32 → Int32 → Int32 → Int32 → Int32 → Int32 → Mem → Option Mem} {x0 : Nat} {x1 : Int32} {x2 : Int32} {x3 : Int32} {x4 : Int32} {x5 : Int32} {x6 : Int32}  {M : Mem} {r : Mem} (hrc : ∀ {y0 : Nat} {y1 : Int32} {y2 : Int32} {y3 : Int32} {y4 : Int32} {y5 : Int32} {y6 : Int32} {N : Mem} {q : Mem}, rc y0 y1 y2 y3 y4 y5 y6 N = some q → Ok l yX3_goOn cX3_goOn 10 none (3 + dp) [.ref (B + y0), .int y1, .int y2, .int y3, .int y4, .int y5, .int y6] D B ca st N none q) (hck : ∀ {y0 : Nat} {y1 : Int32} {y2 : Int32} {y3 : Int32} {y4 : Int32} {y5 : Int32} {y6 : Int32} {N : Mem} {q : Mem}, rc y0 y1 y2 y3 y4 y5 y6 N = some q → kd N y0 = 13) (h : f_X3_goOn_b rc x0 x1 x2 x3 x4 x5 x6 M = some r) : Ok l yX3_goOn cX3_goOn 10 none (3 + (dp + 1)) [.ref (B + x0), .int x1, .int x2, .int x3, .int x4, .int x5, .int x6] D B ca st M none r := by
  have hk0 := ck_X3_goOn_b h
  unfold f_X3_goOn_b at h
  have h := ip hk0 h
  refine ok_of rfl rfl (Nat.le_of_ble_eq_true rfl) ?_
  intro p e s m args below meth c ls C hl hR hS
  have hl : lv_has ls 10 [(0, .ref (B + x0)), (1, .int x1), (2, .int x2), (3, .int x3), (4, .int x4), (5, .int x5), (6, .int x6)] := hl
  have hx := C.1
  have hb := C.2.1
  refine lv_iload hx hb dX3_goOn_0 (lv_at hl 5 rfl) ?_
  refine lv_aload_n hx hb dX3_goOn_2 rfl (lv_at hl 0 rfl) ?_
  obtain ⟨v1, zqe2, h⟩ := ob h
  refine gf280 C hR zqe2 dX3_goOn_3 ?_
  refine lv_icmp_le (tgt := 35) hx hb dX3_goOn_6 (by decide) (fun c => ?_) (fun c => ?_)
  · have h := ip c h
    exact w_X3_goOn_35 C (hrc := @hrc) (hck := @hck)  h hR hS (lv_sub hl [0, 1, 2, 3, 4, 5, 6] rfl)
  · have h := iq c h
    refine lv_aload_n hx hb dX3_goOn_9 rfl (lv_at hl 0 rfl) ?_
    refine lv_iload hx hb dX3_goOn_10 (lv_at hl 5 rfl) ?_
    obtain ⟨M3, zqe4, h⟩ := ob h
    refine pf280 C hR hS zqe4 dX3_goOn_12 (fun H locs hR hS => ?_)
    refine lv_aload_n hx hb dX3_goOn_15 rfl (lv_at hl 0 rfl) ?_
    refine lv_iload_n hx hb dX3_goOn_16 rfl (lv_at hl 1 rfl) ?_
    obtain ⟨M5, zqe6, h⟩ := ob h
    refine pf278 C hR hS zqe6 dX3_goOn_17 (fun H locs hR hS => ?_)
    refine lv_aload_n hx hb dX3_goOn_20 rfl (lv_at hl 0 rfl) ?_
    obtain ⟨v7, zqe8, h⟩ := ob h
    refine gf275 C hR zqe8 dX3_goOn_21 ?_
    refine lv_iconst (v := 0) hx hb dX3_goOn_24 (by decide) ?_
    refine lv_aload_n hx hb dX3_goOn_25 rfl (lv_at hl 0 rfl) ?_
    obtain ⟨v9, zqe10, h⟩ := ob h
    refine gf276 C hR zqe10 dX3_goOn_26 ?_
    refine lv_iconst (v := 0) hx hb dX3_goOn_29 (by decide) ?_
    refine lv_bipush (v := 6) hx hb dX3_goOn_30 (by decide) ?_
    obtain ⟨M11, zqe12, h⟩ := ob h
    refine rcp C hR hS hl.1 lk773 lk420 lk419 lk130 zqe12 ⟨by simp only [rmD]; omega, Nat.le_trans (m := 40) (Nat.le_of_ble_eq_true rfl) (by simp only [rmD]; omega)⟩ dX3_goOn_32 (fun H locs hR hS => ?_)
    exact w_X3_goOn_35 C (hrc := @hrc) (hck := @hck)  h hR hS (lv_sub hl [0, 1, 2, 3, 4, 5, 6] rfl)
theorem ck_X3_goOn {dp : Nat} {x0 : Nat} {x1 : Int32} {x2 : Int32} {x3 : Int32} {x4 : Int32} {x5 : Int32} {x6 : Int32} {M : Mem} {r : Mem} (h : f_X3_goOn dp x0 x1 x2 x3 x4 x5 x6 M = some r) : kd M x0 = 13 := by
  cases dp with
  | zero => simp [f_X3_goOn] at h
  | succ dp => rw [f_X3_goOn] at h; exact ck_X3_goOn_b h
theorem ok_X3_goOn : ∀ {dp : Nat} {x0 : Nat} {x1 : Int32} {x2 : Int32} {x3 : Int32} {x4 : Int32} {x5 : Int32} {x6 : Int32} {M : Mem} {r : Mem}, f_X3_goOn dp x0 x1 x2 x3 x4 x5 x6 M = some r → Ok l yX3_goOn cX3_goOn 10 none (3 + dp) [.ref (B + x0), .int x1, .int x2, .int x3, .int x4, .int x5, .int x6] D B ca st M none r := by
  intro dp
  induction dp with
  | zero => intro x0 x1 x2 x3 x4 x5 x6 M r h; simp [f_X3_goOn] at h
  | succ dp ih => intro x0 x1 x2 x3 x4 x5 x6 M r h; rw [f_X3_goOn] at h; exact ok_X3_goOn_b (dp := dp) @ih (fun h => ck_X3_goOn h) h
theorem ck_X3_search  {x0 : Nat} {x1 : Nat} {x2 : Nat} {x3 : Int32} {x4 : Int32} {M : Mem} {r : Int32 × Mem} (h : f_X3_search  x0 x1 x2 x3 x4 M = some r) : kd M x0 = 13 := by
  unfold f_X3_search at h
  exact ck h
set_option maxHeartbeats 4000000 in
set_option maxRecDepth 100000 in
theorem ok_X3_search  {x0 : Nat} {x1 : Nat} {x2 : Nat} {x3 : Int32} {x4 : Int32}  {M : Mem} {r : Int32 × Mem}  (h : f_X3_search  x0 x1 x2 x3 x4 M = some r) : Ok l yX3_search cX3_search 5 (some .int) 12 [.ref (B + x0), .ref (B + x1), .ref (B + x2), .int x3, .int x4] D B ca st M (some (.int r.1)) r.2 := by
  have hk0 := ck_X3_search h
  unfold f_X3_search at h
  have h := ip hk0 h
  refine ok_of rfl rfl (Nat.le_of_ble_eq_true rfl) ?_
  intro p e s m args below meth c ls C hl hR hS
  have hl : lv_has ls 5 [(0, .ref (B + x0)), (1, .ref (B + x1)), (2, .ref (B + x2)), (3, .int x3), (4, .int x4)] := hl
  have hx := C.1
  have hb := C.2.1
  refine lv_aload_n hx hb dX3_search_0 rfl (lv_at hl 0 rfl) ?_
  refine lv_iconst (v := 0) hx hb dX3_search_1 (by decide) ?_
  obtain ⟨M1, zqe2, h⟩ := ob h
  refine pf278 C hR hS zqe2 dX3_search_2 (fun H locs hR hS => ?_)
  refine lv_aload_n hx hb dX3_search_5 rfl (lv_at hl 0 rfl) ?_
  refine lv_iconst (v := 0) hx hb dX3_search_6 (by decide) ?_
  obtain ⟨M3, zqe4, h⟩ := ob h
  refine pf280 C hR hS zqe4 dX3_search_7 (fun H locs hR hS => ?_)
  refine lv_aload_n hx hb dX3_search_10 rfl (lv_at hl 0 rfl) ?_
  refine lv_aload_n hx hb dX3_search_11 rfl (lv_at hl 1 rfl) ?_
  obtain ⟨M5, zqe6, h⟩ := ob h
  refine pf281 C hR hS zqe6 dX3_search_12 (fun H locs hR hS => ?_)
  refine lv_aload_n hx hb dX3_search_15 rfl (lv_at hl 0 rfl) ?_
  refine lv_iload_n hx hb dX3_search_16 rfl (lv_at hl 3 rfl) ?_
  obtain ⟨M7, zqe8, h⟩ := ob h
  refine pf282 C hR hS zqe8 dX3_search_17 (fun H locs hR hS => ?_)
  refine lv_aload_n hx hb dX3_search_20 rfl (lv_at hl 1 rfl) ?_
  refine lv_iload_n hx hb dX3_search_21 rfl (lv_at hl 3 rfl) ?_
  obtain ⟨v10, zqe9, h⟩ := ob h
  refine rc_VN C hR hS cf_X2_hasSigher cv_X2_hasSigher lk768 (ok_X2_hasSigher zqe9) (ck_X2_hasSigher zqe9) ⟨Nat.le_of_ble_eq_true rfl, Nat.le_of_ble_eq_true rfl⟩ ⟨Nat.zero_le _, Nat.zero_le _⟩ rfl rfl hl.1 (Nat.le_of_ble_eq_true rfl) dX3_search_22 (rc_k1 (fun H locs hR hS => ?_))
  refine lv_if_eq (tgt := 52) hx hb dX3_search_25 (by decide) (fun c => ?_) (fun c => ?_)
  · have h := ip c h
    refine lv_aload_n hx hb dX3_search_52 rfl (lv_at hl 0 rfl) ?_
    obtain ⟨v11, zqe12, h⟩ := ob h
    refine gf280 C hR zqe12 dX3_search_53 ?_
    cases h
    exact rr_I C hR hS dX3_search_56
  · have h := iq c h
    refine lv_aload_n hx hb dX3_search_28 rfl (lv_at hl 0 rfl) ?_
    refine lv_iconst (v := 0) hx hb dX3_search_29 (by decide) ?_
    refine lv_aload_n hx hb dX3_search_30 rfl (lv_at hl 2 rfl) ?_
    obtain ⟨v13, zqe14, h⟩ := ob h
    refine gf207 C hR zqe14 dX3_search_31 ?_
    refine lv_iload_n hx hb dX3_search_34 rfl (lv_at hl 3 rfl) ?_
    obtain ⟨v15, zqe16, h⟩ := ob h
    refine ra_I C hR zqe16 dX3_search_35 ?_
    refine lv_iload hx hb dX3_search_36 (lv_at hl 4 rfl) ?_
    refine lv_aload_n hx hb dX3_search_38 rfl (lv_at hl 2 rfl) ?_
    obtain ⟨v17, zqe18, h⟩ := ob h
    refine gf204 C hR zqe18 dX3_search_39 ?_
    refine lv_iload_n hx hb dX3_search_42 rfl (lv_at hl 3 rfl) ?_
    obtain ⟨v19, zqe20, h⟩ := ob h
    refine ra_I C hR zqe20 dX3_search_43 ?_
    refine lv_iconst (v := 0) hx hb dX3_search_44 (by decide) ?_
    refine lv_aload_n hx hb dX3_search_45 rfl (lv_at hl 2 rfl) ?_
    obtain ⟨v21, zqe22, h⟩ := ob h
    refine gf211 C hR zqe22 dX3_search_46 ?_
    obtain ⟨M24, zqe23, h⟩ := ob h
    refine rc_V C hR hS cf_X3_goOn cv_X3_goOn lk769 (ok_X3_goOn zqe23) (ck_X3_goOn zqe23) ⟨Nat.le_of_ble_eq_true rfl, Nat.le_of_ble_eq_true rfl⟩ ⟨Nat.zero_le _, Nat.zero_le _⟩ rfl rfl hl.1 (Nat.le_of_ble_eq_true rfl) dX3_search_49 (rc_k0 (fun H locs hR hS => ?_))
    refine lv_aload_n hx hb dX3_search_52 rfl (lv_at hl 0 rfl) ?_
    obtain ⟨v25, zqe26, h⟩ := ob h
    refine gf280 C hR zqe26 dX3_search_53 ?_
    cases h
    exact rr_I C hR hS dX3_search_56
theorem ck_X4_renew  {x0 : Nat} {x1 : Int32} {M : Mem} {r : Mem} (h : f_X4_renew  x0 x1 M = some r) : kd M x0 = 14 := by
  unfold f_X4_renew at h
  exact ck h
set_option maxHeartbeats 4000000 in
set_option maxRecDepth 100000 in
theorem ok_X4_renew  {x0 : Nat} {x1 : Int32}  {M : Mem} {r : Mem}  (h : f_X4_renew  x0 x1 M = some r) : Ok l yX4_renew cX4_renew 2 none 1 [.ref (B + x0), .int x1] D B ca st M none r := by
  have hk0 := ck_X4_renew h
  unfold f_X4_renew at h
  have h := ip hk0 h
  refine ok_of rfl rfl (Nat.le_of_ble_eq_true rfl) ?_
  intro p e s m args below meth c ls C hl hR hS
  have hl : lv_has ls 2 [(0, .ref (B + x0)), (1, .int x1)] := hl
  have hx := C.1
  have hb := C.2.1
  refine lv_aload_n hx hb dX4_renew_0 rfl (lv_at hl 0 rfl) ?_
  obtain ⟨v1, zqe2, h⟩ := ob h
  refine gf301 C hR zqe2 dX4_renew_1 ?_
  refine lv_iconst (v := 0) hx hb dX4_renew_4 (by decide) ?_
  obtain ⟨M4, zqe3, h⟩ := ob h
  refine rc_S C hR hS cf_J7_fill_53178 cs_J7_fill_53178 lk387 (ok_J7_fill_53178 zqe3) ⟨Nat.le_of_ble_eq_true rfl, Nat.le_of_ble_eq_true rfl⟩ ⟨Nat.zero_le _, Nat.zero_le _⟩ rfl rfl hl.1 (Nat.le_of_ble_eq_true rfl) dX4_renew_5 (rc_k0 (fun H locs hR hS => ?_))
  refine lv_aload_n hx hb dX4_renew_8 rfl (lv_at hl 0 rfl) ?_
  refine lv_iload_n hx hb dX4_renew_9 rfl (lv_at hl 1 rfl) ?_
  obtain ⟨M5, zqe6, h⟩ := ob h
  refine pf303 C hR hS zqe6 dX4_renew_10 (fun H locs hR hS => ?_)
  cases h
  exact rr_V C hR hS dX4_renew_13
theorem ck_X7_dusk  {x0 : Nat} {x1 : Int32} {x2 : Int32} {x3 : Int32} {M : Mem} {r : Int32 × Mem} (h : f_X7_dusk  x0 x1 x2 x3 M = some r) : kd M x0 = 17 := by
  unfold f_X7_dusk at h
  exact ck h
set_option maxHeartbeats 4000000 in
set_option maxRecDepth 100000 in
theorem ok_X7_dusk  {x0 : Nat} {x1 : Int32} {x2 : Int32} {x3 : Int32}  {M : Mem} {r : Int32 × Mem}  (h : f_X7_dusk  x0 x1 x2 x3 M = some r) : Ok l yX7_dusk cX7_dusk 6 (some .int) 13 [.ref (B + x0), .int x1, .int x2, .int x3] D B ca st M (some (.int r.1)) r.2 := by
  have hk0 := ck_X7_dusk h
  unfold f_X7_dusk at h
  have h := ip hk0 h
  refine ok_of rfl rfl (Nat.le_of_ble_eq_true rfl) ?_
  intro p e s m args below meth c ls C hl hR hS
  have hl : lv_has ls 6 [(0, .ref (B + x0)), (1, .int x1), (2, .int x2), (3, .int x3)] := hl
  have hx := C.1
  have hb := C.2.1
  refine lv_aload_n hx hb dX7_dusk_0 rfl (lv_at hl 0 rfl) ?_
  refine lv_iload_n hx hb dX7_dusk_1 rfl (lv_at hl 3 rfl) ?_
  obtain ⟨v2, zqe1, h⟩ := ob h
  refine rc_V C hR hS cf_X7_rowOf cv_X7_rowOf lk375 (ok_X7_rowOf zqe1) (ck_X7_rowOf zqe1) ⟨Nat.le_of_ble_eq_true rfl, Nat.le_of_ble_eq_true rfl⟩ ⟨Nat.zero_le _, Nat.zero_le _⟩ rfl rfl hl.1 (Nat.le_of_ble_eq_true rfl) dX7_dusk_2 (rc_k1 (fun H locs hR hS => ?_))
  refine rc_nul (fun zqz3 => ?_) (fun zqz3 => ?_)
  · have h := ip zqz3 h
    refine lv_astoreN (lv' := [(4, .null), (0, .ref (B + x0)), (1, .int x1), (2, .int x2), (3, .int x3)]) hx hb dX7_dusk_5 hl (by decide) rfl (fun ls hl => ?_)
    refine lv_aload_n hx hb dX7_dusk_7 rfl (lv_at hl 1 rfl) ?_
    obtain ⟨v4, zqe5, h⟩ := ob h
    refine gf327 C hR zqe5 dX7_dusk_8 ?_
    refine lv_iload_n hx hb dX7_dusk_11 rfl (lv_at hl 2 rfl) ?_
    obtain ⟨v7, zqe6, h⟩ := ob h
    refine rc_VN C hR hS cf_X2_hasSigher cv_X2_hasSigher lk538 (ok_X2_hasSigher zqe6) (ck_X2_hasSigher zqe6) ⟨Nat.le_of_ble_eq_true rfl, Nat.le_of_ble_eq_true rfl⟩ ⟨Nat.zero_le _, Nat.zero_le _⟩ rfl rfl hl.1 (Nat.le_of_ble_eq_true rfl) dX7_dusk_12 (rc_k1 (fun H locs hR hS => ?_))
    refine lv_if_eq (tgt := 33) hx hb dX7_dusk_15 (by decide) (fun c => ?_) (fun c => ?_)
    · have h := ip c h
      refine lv_iconst (v := (-1)) hx hb dX7_dusk_33 (by decide) ?_
      cases h
      exact rr_I C hR hS dX7_dusk_34
    · have h := iq c h
      refine lv_iload_n hx hb dX7_dusk_18 rfl (lv_at hl 3 rfl) ?_
      refine lv_if_lt (tgt := 33) hx hb dX7_dusk_19 (by decide) (fun c => ?_) (fun c => ?_)
      · have h := ip c h
        refine lv_iconst (v := (-1)) hx hb dX7_dusk_33 (by decide) ?_
        cases h
        exact rr_I C hR hS dX7_dusk_34
      · have h := iq c h
        refine lv_iload_n hx hb dX7_dusk_22 rfl (lv_at hl 3 rfl) ?_
        refine lv_bipush (v := 30) hx hb dX7_dusk_23 (by decide) ?_
        refine lv_icmp_gt (tgt := 33) hx hb dX7_dusk_25 (by decide) (fun c => ?_) (fun c => ?_)
        · have h := ip c h
          refine lv_iconst (v := (-1)) hx hb dX7_dusk_33 (by decide) ?_
          cases h
          exact rr_I C hR hS dX7_dusk_34
        · have h := iq c h
          refine lv_aloadN hx hb dX7_dusk_28 (lv_at hl 0 rfl) ?_
          refine lv_ifnonnullN hx hb dX7_dusk_30 ?_
          refine lv_iconst (v := (-1)) hx hb dX7_dusk_33 (by decide) ?_
          cases h
          exact rr_I C hR hS dX7_dusk_34
  · have h := iq zqz3 h
    refine lv_astore (lv' := [(4, .ref (B + v2)), (0, .ref (B + x0)), (1, .int x1), (2, .int x2), (3, .int x3)]) hx hb dX7_dusk_5 hl (by decide) rfl (fun ls hl => ?_)
    refine lv_aload_n hx hb dX7_dusk_7 rfl (lv_at hl 1 rfl) ?_
    obtain ⟨v8, zqe9, h⟩ := ob h
    refine gf327 C hR zqe9 dX7_dusk_8 ?_
    refine lv_iload_n hx hb dX7_dusk_11 rfl (lv_at hl 2 rfl) ?_
    obtain ⟨v11, zqe10, h⟩ := ob h
    refine rc_VN C hR hS cf_X2_hasSigher cv_X2_hasSigher lk538 (ok_X2_hasSigher zqe10) (ck_X2_hasSigher zqe10) ⟨Nat.le_of_ble_eq_true rfl, Nat.le_of_ble_eq_true rfl⟩ ⟨Nat.zero_le _, Nat.zero_le _⟩ rfl rfl hl.1 (Nat.le_of_ble_eq_true rfl) dX7_dusk_12 (rc_k1 (fun H locs hR hS => ?_))
    refine lv_if_eq (tgt := 33) hx hb dX7_dusk_15 (by decide) (fun c => ?_) (fun c => ?_)
    · have h := ip c h
      refine lv_iconst (v := (-1)) hx hb dX7_dusk_33 (by decide) ?_
      cases h
      exact rr_I C hR hS dX7_dusk_34
    · have h := iq c h
      refine lv_iload_n hx hb dX7_dusk_18 rfl (lv_at hl 3 rfl) ?_
      refine lv_if_lt (tgt := 33) hx hb dX7_dusk_19 (by decide) (fun c => ?_) (fun c => ?_)
      · have h := ip c h
        refine lv_iconst (v := (-1)) hx hb dX7_dusk_33 (by decide) ?_
        cases h
        exact rr_I C hR hS dX7_dusk_34
      · have h := iq c h
        refine lv_iload_n hx hb dX7_dusk_22 rfl (lv_at hl 3 rfl) ?_
        refine lv_bipush (v := 30) hx hb dX7_dusk_23 (by decide) ?_
        refine lv_icmp_gt (tgt := 33) hx hb dX7_dusk_25 (by decide) (fun c => ?_) (fun c => ?_)
        · have h := ip c h
          refine lv_iconst (v := (-1)) hx hb dX7_dusk_33 (by decide) ?_
          cases h
          exact rr_I C hR hS dX7_dusk_34
        · have h := iq c h
          refine lv_aload hx hb dX7_dusk_28 (lv_at hl 0 rfl) ?_
          refine lv_ifnonnull (tgt := 35) hx hb dX7_dusk_30 (by decide) ?_
          refine lv_aload_n hx hb dX7_dusk_35 rfl (lv_at hl 1 rfl) ?_
          obtain ⟨v12, zqe13, h⟩ := ob h
          refine gf334 C hR zqe13 dX7_dusk_36 ?_
          refine lv_aload_n hx hb dX7_dusk_39 rfl (lv_at hl 1 rfl) ?_
          obtain ⟨v14, zqe15, h⟩ := ob h
          refine gf327 C hR zqe15 dX7_dusk_40 ?_
          refine lv_aload_n hx hb dX7_dusk_43 rfl (lv_at hl 1 rfl) ?_
          obtain ⟨v16, zqe17, h⟩ := ob h
          refine gf329 C hR zqe17 dX7_dusk_44 ?_
          refine lv_iload_n hx hb dX7_dusk_47 rfl (lv_at hl 2 rfl) ?_
          refine lv_iload_n hx hb dX7_dusk_48 rfl (lv_at hl 3 rfl) ?_
          obtain ⟨qv19, zqe18, h⟩ := ob h
          refine rc_VN C hR hS cf_X3_search cv_X3_search lk764 (ok_X3_search zqe18) (ck_X3_search zqe18) ⟨Nat.le_of_ble_eq_true rfl, Nat.le_of_ble_eq_true rfl⟩ ⟨Nat.zero_le _, Nat.zero_le _⟩ rfl rfl hl.1 (Nat.le_of_ble_eq_true rfl) dX7_dusk_49 (rc_k1 (fun H locs hR hS => ?_))
          refine lv_istore (lv' := [(5, .int qv19.1), (4, .ref (B + v2)), (0, .ref (B + x0)), (1, .int x1), (2, .int x2), (3, .int x3)]) hx hb dX7_dusk_52 hl (by decide) rfl (fun ls hl => ?_)
          refine lv_aload hx hb dX7_dusk_54 (lv_at hl 1 rfl) ?_
          refine lv_aload_n hx hb dX7_dusk_56 rfl (lv_at hl 2 rfl) ?_
          obtain ⟨v21, zqe22, h⟩ := ob h
          refine gf334 C hR zqe22 dX7_dusk_57 ?_
          obtain ⟨v23, zqe24, h⟩ := ob h
          refine gf279 C hR zqe24 dX7_dusk_60 ?_
          obtain ⟨M26, zqe25, h⟩ := ob h
          refine rc_VN C hR hS cf_X4_renew cv_X4_renew lk383 (ok_X4_renew zqe25) (ck_X4_renew zqe25) ⟨Nat.le_of_ble_eq_true rfl, Nat.le_of_ble_eq_true rfl⟩ ⟨Nat.zero_le _, Nat.zero_le _⟩ rfl rfl hl.1 (Nat.le_of_ble_eq_true rfl) dX7_dusk_63 (rc_k0 (fun H locs hR hS => ?_))
          refine lv_aload_n hx hb dX7_dusk_66 rfl (lv_at hl 2 rfl) ?_
          obtain ⟨v27, zqe28, h⟩ := ob h
          refine gf334 C hR zqe28 dX7_dusk_67 ?_
          obtain ⟨v29, zqe30, h⟩ := ob h
          refine gf277 C hR zqe30 dX7_dusk_70 ?_
          refine lv_iconst (v := 0) hx hb dX7_dusk_73 (by decide) ?_
          refine lv_aload hx hb dX7_dusk_74 (lv_at hl 1 rfl) ?_
          obtain ⟨v31, zqe32, h⟩ := ob h
          refine gf302 C hR zqe32 dX7_dusk_76 ?_
          refine lv_iconst (v := 0) hx hb dX7_dusk_79 (by decide) ?_
          refine lv_aload_n hx hb dX7_dusk_80 rfl (lv_at hl 2 rfl) ?_
          obtain ⟨v33, zqe34, h⟩ := ob h
          refine gf334 C hR zqe34 dX7_dusk_81 ?_
          obtain ⟨v35, zqe36, h⟩ := ob h
          refine gf279 C hR zqe36 dX7_dusk_84 ?_
          obtain ⟨M37, zqe38, h⟩ := ob h
          refine rcp C hR hS hl.1 lk418 lk420 lk419 lk130 zqe38 ⟨Nat.le_of_ble_eq_true rfl, Nat.le_of_ble_eq_true rfl⟩ dX7_dusk_87 (fun H locs hR hS => ?_)
          refine lv_iload hx hb dX7_dusk_90 (lv_at hl 0 rfl) ?_
          cases h
          exact rr_I C hR hS dX7_dusk_92
set_option maxHeartbeats 4000000 in
set_option maxRecDepth 100000 in
theorem w_X2_kindOf_2    {M : Mem} {r : Int32} (C : Cx p s m args meth c RX2 cX2_kindOf 2 (some .int) D B ca st)   : ∀ (n : Nat) {x0 : Int32} {x1 : Int32}, f_X2_kindOf_2  n x0 x1 = some r → ∀ {H : Heap} {locs : List Loc} {ls : Array Slot}, RH D B ca M H → va_S (AA B) s.heap H locs → lv_has ls 2 [(0, .int x0), (1, .int x1)] → W p l e (rmD 0) s m args below meth c H locs 0 0 (MQ below (Qp D B ca st (some (.int r)) M) args s 0 0 (AA B)) (F0 m 2 ls []) := by
  have hx := C.1
  have hb := C.2.1
  intro n
  induction n with
  | zero => intro x0 x1 h; simp [f_X2_kindOf_2] at h
  | succ n ih =>
    intro x0 x1 h H locs ls hR hS hl
    rw [f_X2_kindOf_2] at h
    refine lv_iload_n hx hb dX2_kindOf_2 rfl (lv_at hl 1 rfl) ?_
    refine rs_T C hS (t := 0) (by decide) (Or.inr ⟨_, lk480⟩) dX2_kindOf_3 ?_
    refine rs_N C hS (t := 0) (by decide) dX2_kindOf_6 ?_
    refine lv_icmp_ge (tgt := 27) hx hb dX2_kindOf_7 (by decide) (fun c => ?_) (fun c => ?_)
    · have h := ip c h
      refine lv_bipush (v := (-9)) hx hb dX2_kindOf_27 (by decide) ?_
      cases h
      exact rr_I C hR hS dX2_kindOf_29
    · have h := iq c h
      refine rs_T C hS (t := 0) (by decide) (Or.inr ⟨_, lk480⟩) dX2_kindOf_10 ?_
      refine lv_iload_n hx hb dX2_kindOf_13 rfl (lv_at hl 1 rfl) ?_
      obtain ⟨v1, zqe2, h⟩ := ob h
      refine rs_A C hS (t := 0) (by decide) zqe2 dX2_kindOf_14 ?_
      refine lv_iload_n hx hb dX2_kindOf_15 rfl (lv_at hl 0 rfl) ?_
      refine lv_icmp_ne (tgt := 21) hx hb dX2_kindOf_16 (by decide) (fun c => ?_) (fun c => ?_)
      · have h := iq c h
        refine lv_iinc (v := (x1 + 1)) (lv' := [(1, .int (x1 + 1)), (0, .int x0)]) hx hb dX2_kindOf_21 hl (k := 1) rfl rfl (by decide) rfl (fun ls hl => ?_)
        refine lv_goto (tgt := 2) hx hb dX2_kindOf_24 (by decide) ?_
        exact ih h hR hS (lv_sub hl [1, 0] rfl)
      · have h := ip c h
        refine lv_iload_n hx hb dX2_kindOf_19 rfl (lv_at hl 1 rfl) ?_
        cases h
        exact rr_I C hR hS dX2_kindOf_20
set_option maxHeartbeats 4000000 in
set_option maxRecDepth 100000 in
theorem ok_X2_kindOf  {x0 : Int32}  {M : Mem} {r : Int32}  (h : f_X2_kindOf  x0 = some r) : Ok l yX2_kindOf cX2_kindOf 2 (some .int) 0 [.int x0] D B ca st M (some (.int r)) M := by
  unfold f_X2_kindOf at h
  refine ok_of rfl rfl (Nat.le_of_ble_eq_true rfl) ?_
  intro p e s m args below meth c ls C hl hR hS
  have hl : lv_has ls 2 [(0, .int x0)] := hl
  have hx := C.1
  have hb := C.2.1
  refine lv_iconst (v := 0) hx hb dX2_kindOf_0 (by decide) ?_
  refine lv_istore_n (lv' := [(1, .int 0), (0, .int x0)]) hx hb dX2_kindOf_1 rfl hl (by decide) rfl (fun ls hl => ?_)
  exact w_X2_kindOf_2 C  FU h hR hS (lv_sub hl [1, 0] rfl)
theorem ck_X2_mayCome  {x0 : Nat} {x1 : Int32} {M : Mem} {r : Int32} (h : f_X2_mayCome  x0 x1 M = some r) : kd M x0 = 12 := by
  unfold f_X2_mayCome at h
  exact ck h
set_option maxHeartbeats 4000000 in
set_option maxRecDepth 100000 in
theorem ok_X2_mayCome  {x0 : Nat} {x1 : Int32}  {M : Mem} {r : Int32}  (h : f_X2_mayCome  x0 x1 M = some r) : Ok l yX2_mayCome cX2_mayCome 2 (some .boolean) 1 [.ref (B + x0), .int x1] D B ca st M (some (.int r)) M := by
  have hk0 := ck_X2_mayCome h
  unfold f_X2_mayCome at h
  have h := ip hk0 h
  refine ok_of rfl rfl (Nat.le_of_ble_eq_true rfl) ?_
  intro p e s m args below meth c ls C hl hR hS
  have hl : lv_has ls 2 [(0, .ref (B + x0)), (1, .int x1)] := hl
  have hx := C.1
  have hb := C.2.1
  refine lv_iload_n hx hb dX2_mayCome_0 rfl (lv_at hl 1 rfl) ?_
  refine lv_bipush (v := 111) hx hb dX2_mayCome_1 (by decide) ?_
  refine lv_icmp_ne (tgt := 28) hx hb dX2_mayCome_3 (by decide) (fun c => ?_) (fun c => ?_)
  · have h := iq c h
    refine lv_iload_n hx hb dX2_mayCome_28 rfl (lv_at hl 1 rfl) ?_
    obtain ⟨v2, zqe1, h⟩ := ob h
    refine rc_S C hR hS cf_X2_kindOf cs_X2_kindOf lk477 (ok_X2_kindOf zqe1) ⟨Nat.le_of_ble_eq_true rfl, Nat.le_of_ble_eq_true rfl⟩ ⟨Nat.zero_le _, Nat.zero_le _⟩ rfl rfl hl.1 (Nat.le_of_ble_eq_true rfl) dX2_mayCome_29 (rc_k1 (fun H locs hR hS => ?_))
    refine lv_bipush (v := (-9)) hx hb dX2_mayCome_32 (by decide) ?_
    refine lv_icmp_eq (tgt := 56) hx hb dX2_mayCome_34 (by decide) (fun c => ?_) (fun c => ?_)
    · have h := ip c h
      refine lv_iconst (v := 0) hx hb dX2_mayCome_56 (by decide) ?_
      cases h
      exact rr_Z (v := 0) C hR hS (by decide) dX2_mayCome_57
    · have h := iq c h
      refine lv_aload_n hx hb dX2_mayCome_37 rfl (lv_at hl 0 rfl) ?_
      obtain ⟨v3, zqe4, h⟩ := ob h
      refine gf155 C hR zqe4 dX2_mayCome_38 ?_
      refine lv_if_ne (tgt := 56) hx hb dX2_mayCome_41 (by decide) (fun c => ?_) (fun c => ?_)
      · have h := iq c h
        refine lv_iconst (v := 0) hx hb dX2_mayCome_56 (by decide) ?_
        cases h
        exact rr_Z (v := 0) C hR hS (by decide) dX2_mayCome_57
      · have h := ip c h
        refine lv_aload_n hx hb dX2_mayCome_44 rfl (lv_at hl 0 rfl) ?_
        obtain ⟨v5, zqe6, h⟩ := ob h
        refine gf151 C hR zqe6 dX2_mayCome_45 ?_
        refine lv_iconst (v := 5) hx hb dX2_mayCome_48 (by decide) ?_
        refine lv_icmp_ge (tgt := 56) hx hb dX2_mayCome_49 (by decide) (fun c => ?_) (fun c => ?_)
        · have h := ip c h
          refine lv_iconst (v := 0) hx hb dX2_mayCome_56 (by decide) ?_
          cases h
          exact rr_Z (v := 0) C hR hS (by decide) dX2_mayCome_57
        · have h := iq c h
          refine lv_iconst (v := 1) hx hb dX2_mayCome_52 (by decide) ?_
          refine lv_goto (tgt := 57) hx hb dX2_mayCome_53 (by decide) ?_
          cases h
          exact rr_Z (v := 1) C hR hS (by decide) dX2_mayCome_57
  · have h := ip c h
    refine lv_aload_n hx hb dX2_mayCome_6 rfl (lv_at hl 0 rfl) ?_
    obtain ⟨v7, zqe8, h⟩ := ob h
    refine gf151 C hR zqe8 dX2_mayCome_7 ?_
    refine lv_if_le (tgt := 26) hx hb dX2_mayCome_10 (by decide) (fun c => ?_) (fun c => ?_)
    · have h := ip c h
      refine lv_iconst (v := 0) hx hb dX2_mayCome_26 (by decide) ?_
      cases h
      exact rr_Z (v := 0) C hR hS (by decide) dX2_mayCome_27
    · have h := iq c h
      refine lv_aload_n hx hb dX2_mayCome_13 rfl (lv_at hl 0 rfl) ?_
      obtain ⟨v9, zqe10, h⟩ := ob h
      refine gf155 C hR zqe10 dX2_mayCome_14 ?_
      refine lv_bipush (v := 6) hx hb dX2_mayCome_17 (by decide) ?_
      refine lv_icmp_ge (tgt := 26) hx hb dX2_mayCome_19 (by decide) (fun c => ?_) (fun c => ?_)
      · have h := ip c h
        refine lv_iconst (v := 0) hx hb dX2_mayCome_26 (by decide) ?_
        cases h
        exact rr_Z (v := 0) C hR hS (by decide) dX2_mayCome_27
      · have h := iq c h
        refine lv_iconst (v := 1) hx hb dX2_mayCome_22 (by decide) ?_
        refine lv_goto (tgt := 27) hx hb dX2_mayCome_23 (by decide) ?_
        cases h
        exact rr_Z (v := 1) C hR hS (by decide) dX2_mayCome_27
theorem ck_X5_has  {x0 : Nat} {x1 : Int32} {M : Mem} {r : Int32} (h : f_X5_has  x0 x1 M = some r) : kd M x0 = 15 := by
  unfold f_X5_has at h
  exact ck h
set_option maxHeartbeats 4000000 in
set_option maxRecDepth 100000 in
theorem ok_X5_has  {x0 : Nat} {x1 : Int32}  {M : Mem} {r : Int32}  (h : f_X5_has  x0 x1 M = some r) : Ok l yX5_has cX5_has 2 (some .boolean) 0 [.ref (B + x0), .int x1] D B ca st M (some (.int r)) M := by
  have hk0 := ck_X5_has h
  unfold f_X5_has at h
  have h := ip hk0 h
  refine ok_of rfl rfl (Nat.le_of_ble_eq_true rfl) ?_
  intro p e s m args below meth c ls C hl hR hS
  have hl : lv_has ls 2 [(0, .ref (B + x0)), (1, .int x1)] := hl
  have hx := C.1
  have hb := C.2.1
  refine lv_iload_n hx hb dX5_has_0 rfl (lv_at hl 1 rfl) ?_
  refine lv_if_lt (tgt := 16) hx hb dX5_has_1 (by decide) (fun c => ?_) (fun c => ?_)
  · have h := ip c h
    refine lv_iconst (v := 0) hx hb dX5_has_16 (by decide) ?_
    cases h
    exact rr_Z (v := 0) C hR hS (by decide) dX5_has_17
  · have h := iq c h
    refine lv_iload_n hx hb dX5_has_4 rfl (lv_at hl 1 rfl) ?_
    refine lv_aload_n hx hb dX5_has_5 rfl (lv_at hl 0 rfl) ?_
    obtain ⟨v1, zqe2, h⟩ := ob h
    refine gf317 C hR zqe2 dX5_has_6 ?_
    refine lv_icmp_ge (tgt := 16) hx hb dX5_has_9 (by decide) (fun c => ?_) (fun c => ?_)
    · have h := ip c h
      refine lv_iconst (v := 0) hx hb dX5_has_16 (by decide) ?_
      cases h
      exact rr_Z (v := 0) C hR hS (by decide) dX5_has_17
    · have h := iq c h
      refine lv_iconst (v := 1) hx hb dX5_has_12 (by decide) ?_
      refine lv_goto (tgt := 17) hx hb dX5_has_13 (by decide) ?_
      cases h
      exact rr_Z (v := 1) C hR hS (by decide) dX5_has_17
theorem ck_X5_signAt  {x0 : Nat} {x1 : Int32} {M : Mem} {r : Int32} (h : f_X5_signAt  x0 x1 M = some r) : kd M x0 = 15 := by
  unfold f_X5_signAt at h
  exact ck h
set_option maxHeartbeats 4000000 in
set_option maxRecDepth 100000 in
theorem ok_X5_signAt  {x0 : Nat} {x1 : Int32}  {M : Mem} {r : Int32}  (h : f_X5_signAt  x0 x1 M = some r) : Ok l yX5_signAt cX5_signAt 2 (some .int) 1 [.ref (B + x0), .int x1] D B ca st M (some (.int r)) M := by
  have hk0 := ck_X5_signAt h
  unfold f_X5_signAt at h
  have h := ip hk0 h
  refine ok_of rfl rfl (Nat.le_of_ble_eq_true rfl) ?_
  intro p e s m args below meth c ls C hl hR hS
  have hl : lv_has ls 2 [(0, .ref (B + x0)), (1, .int x1)] := hl
  have hx := C.1
  have hb := C.2.1
  refine lv_aload_n hx hb dX5_signAt_0 rfl (lv_at hl 0 rfl) ?_
  refine lv_iload_n hx hb dX5_signAt_1 rfl (lv_at hl 1 rfl) ?_
  obtain ⟨v2, zqe1, h⟩ := ob h
  refine rc_V C hR hS cf_X5_has cv_X5_has lk468 (ok_X5_has zqe1) (ck_X5_has zqe1) ⟨Nat.le_of_ble_eq_true rfl, Nat.le_of_ble_eq_true rfl⟩ ⟨Nat.zero_le _, Nat.zero_le _⟩ rfl rfl hl.1 (Nat.le_of_ble_eq_true rfl) dX5_signAt_2 (rc_k1 (fun H locs hR hS => ?_))
  refine lv_if_eq (tgt := 17) hx hb dX5_signAt_5 (by decide) (fun c => ?_) (fun c => ?_)
  · have h := ip c h
    refine lv_bipush (v := (-9)) hx hb dX5_signAt_17 (by decide) ?_
    cases h
    exact rr_I C hR hS dX5_signAt_19
  · have h := iq c h
    refine lv_aload_n hx hb dX5_signAt_8 rfl (lv_at hl 0 rfl) ?_
    obtain ⟨v3, zqe4, h⟩ := ob h
    refine gf315 C hR zqe4 dX5_signAt_9 ?_
    refine lv_iload_n hx hb dX5_signAt_12 rfl (lv_at hl 1 rfl) ?_
    obtain ⟨v5, zqe6, h⟩ := ob h
    refine ra_B C hR zqe6 dX5_signAt_13 ?_
    refine lv_goto (tgt := 19) hx hb dX5_signAt_14 (by decide) ?_
    cases h
    exact rr_I C hR hS dX5_signAt_19
theorem ck_X5_figureAt  {x0 : Nat} {x1 : Int32} {M : Mem} {r : Int32} (h : f_X5_figureAt  x0 x1 M = some r) : kd M x0 = 15 := by
  unfold f_X5_figureAt at h
  exact ck h
set_option maxHeartbeats 4000000 in
set_option maxRecDepth 100000 in
theorem ok_X5_figureAt  {x0 : Nat} {x1 : Int32}  {M : Mem} {r : Int32}  (h : f_X5_figureAt  x0 x1 M = some r) : Ok l yX5_figureAt cX5_figureAt 3 (some .int) 2 [.ref (B + x0), .int x1] D B ca st M (some (.int r)) M := by
  have hk0 := ck_X5_figureAt h
  unfold f_X5_figureAt at h
  have h := ip hk0 h
  refine ok_of rfl rfl (Nat.le_of_ble_eq_true rfl) ?_
  intro p e s m args below meth c ls C hl hR hS
  have hl : lv_has ls 3 [(0, .ref (B + x0)), (1, .int x1)] := hl
  have hx := C.1
  have hb := C.2.1
  refine lv_aload_n hx hb dX5_figureAt_0 rfl (lv_at hl 0 rfl) ?_
  refine lv_iload_n hx hb dX5_figureAt_1 rfl (lv_at hl 1 rfl) ?_
  obtain ⟨v2, zqe1, h⟩ := ob h
  refine rc_V C hR hS cf_X5_signAt cv_X5_signAt lk486 (ok_X5_signAt zqe1) (ck_X5_signAt zqe1) ⟨Nat.le_of_ble_eq_true rfl, Nat.le_of_ble_eq_true rfl⟩ ⟨Nat.zero_le _, Nat.zero_le _⟩ rfl rfl hl.1 (Nat.le_of_ble_eq_true rfl) dX5_figureAt_2 (rc_k1 (fun H locs hR hS => ?_))
  refine lv_bipush (v := 48) hx hb dX5_figureAt_5 (by decide) ?_
  refine lv_isub hx hb dX5_figureAt_7 ?_
  refine lv_istore_n (lv' := [(2, .int (v2 - 48)), (0, .ref (B + x0)), (1, .int x1)]) hx hb dX5_figureAt_8 rfl hl (by decide) rfl (fun ls hl => ?_)
  refine lv_iload_n hx hb dX5_figureAt_9 rfl (lv_at hl 0 rfl) ?_
  refine lv_if_lt (tgt := 23) hx hb dX5_figureAt_10 (by decide) (fun c => ?_) (fun c => ?_)
  · have h := ip c h
    refine lv_bipush (v := (-9)) hx hb dX5_figureAt_23 (by decide) ?_
    cases h
    exact rr_I C hR hS dX5_figureAt_25
  · have h := iq c h
    refine lv_iload_n hx hb dX5_figureAt_13 rfl (lv_at hl 0 rfl) ?_
    refine lv_bipush (v := 9) hx hb dX5_figureAt_14 (by decide) ?_
    refine lv_icmp_gt (tgt := 23) hx hb dX5_figureAt_16 (by decide) (fun c => ?_) (fun c => ?_)
    · have h := ip c h
      refine lv_bipush (v := (-9)) hx hb dX5_figureAt_23 (by decide) ?_
      cases h
      exact rr_I C hR hS dX5_figureAt_25
    · have h := iq c h
      refine lv_iload_n hx hb dX5_figureAt_19 rfl (lv_at hl 0 rfl) ?_
      refine lv_goto (tgt := 25) hx hb dX5_figureAt_20 (by decide) ?_
      cases h
      exact rr_I C hR hS dX5_figureAt_25
set_option maxHeartbeats 4000000 in
set_option maxRecDepth 100000 in
theorem w_X2_faultOfItem_66  {k44 : Nat → Int32 → Int32 → Int32 → Int32 → Mem → Option Int32}  {r : Int32} {x1 : Nat} {x2 : Int32} {x3 : Int32} {x4 : Int32} {x5 : Int32} {s0 : Int32} {M : Mem} (C : Cx p s m args meth c RX2 cX2_faultOfItem 7 (some .int) D B ca st)  (hk44 : ∀ {x1 : Nat} {x2 : Int32} {x3 : Int32} {x4 : Int32} {x5 : Int32} {M : Mem}, k44 x1 x2 x3 x4 x5 M = some r → ∀ {H : Heap} {locs : List Loc} {ls : Array Slot}, RH D B ca M H → va_S (AA B) s.heap H locs → lv_has ls 7 [(1, .ref (B + x1)), (2, .int x2), (3, .int x3), (4, .int x4), (5, .int x5)] → W p l e (rmD 3) s m args below meth c H locs 0 0 (MQ below (Qp D B ca st (some (.int r)) M) args s 0 0 (AA B)) (F0 m 44 ls [])) (h : f_X2_faultOfItem_66 k44 x1 x2 x3 x4 x5 s0 M = some r) : ∀ {H : Heap} {locs : List Loc} {ls : Array Slot}, RH D B ca M H → va_S (AA B) s.heap H locs → lv_has ls 7 [(1, .ref (B + x1)), (2, .int x2), (3, .int x3), (4, .int x4), (5, .int x5)] → W p l e (rmD 3) s m args below meth c H locs 0 0 (MQ below (Qp D B ca st (some (.int r)) M) args s 0 0 (AA B)) (F0 m 66 ls [.int s0]) := by
  have hx := C.1
  have hb := C.2.1
  unfold f_X2_faultOfItem_66 at h
  intro H locs ls hR hS hl
  refine lv_istore (lv' := [(6, .int s0), (1, .ref (B + x1)), (2, .int x2), (3, .int x3), (4, .int x4), (5, .int x5)]) hx hb dX2_faultOfItem_66 hl (by decide) rfl (fun ls hl => ?_)
  refine lv_aload_n hx hb dX2_faultOfItem_68 rfl (lv_at hl 1 rfl) ?_
  refine lv_iload_n hx hb dX2_faultOfItem_69 rfl (lv_at hl 2 rfl) ?_
  refine lv_iload hx hb dX2_faultOfItem_70 (lv_at hl 5 rfl) ?_
  refine lv_iadd hx hb dX2_faultOfItem_72 ?_
  obtain ⟨v8, zqe7, h⟩ := ob h
  refine rc_VN C hR hS cf_X5_figureAt cv_X5_figureAt lk482 (ok_X5_figureAt zqe7) (ck_X5_figureAt zqe7) ⟨Nat.le_of_ble_eq_true rfl, Nat.le_of_ble_eq_true rfl⟩ ⟨Nat.zero_le _, Nat.zero_le _⟩ rfl rfl hl.1 (Nat.le_of_ble_eq_true rfl) dX2_faultOfItem_73 (rc_k1 (fun H locs hR hS => ?_))
  refine lv_iload hx hb dX2_faultOfItem_76 (lv_at hl 0 rfl) ?_
  refine lv_icmp_ge (tgt := 93) hx hb dX2_faultOfItem_78 (by decide) (fun c => ?_) (fun c => ?_)
  · have h := ip c h
    refine lv_iinc (v := (x5 + 1)) (lv' := [(5, .int (x5 + 1)), (6, .int s0), (1, .ref (B + x1)), (2, .int x2), (3, .int x3), (4, .int x4)]) hx hb dX2_faultOfItem_93 hl (k := 5) rfl rfl (by decide) rfl (fun ls hl => ?_)
    refine lv_goto (tgt := 44) hx hb dX2_faultOfItem_96 (by decide) ?_
    exact hk44 h hR hS (lv_sub hl [2, 3, 4, 5, 0] rfl)
  · have h := iq c h
    refine lv_iload_n hx hb dX2_faultOfItem_81 rfl (lv_at hl 2 rfl) ?_
    refine lv_iload hx hb dX2_faultOfItem_82 (lv_at hl 5 rfl) ?_
    refine lv_iadd hx hb dX2_faultOfItem_84 ?_
    refine lv_aload_n hx hb dX2_faultOfItem_85 rfl (lv_at hl 1 rfl) ?_
    obtain ⟨v9, zqe10, h⟩ := ob h
    refine gf318 C hR zqe10 dX2_faultOfItem_86 ?_
    refine rm_min C lk487 hl.1 ⟨Nat.le_of_ble_eq_true rfl, Nat.le_of_ble_eq_true rfl⟩ ⟨Nat.zero_le _, Nat.zero_le _⟩ dX2_faultOfItem_89 ?_
    cases h
    exact rr_I C hR hS dX2_faultOfItem_92
set_option maxHeartbeats 4000000 in
set_option maxRecDepth 100000 in
theorem w_X2_faultOfItem_65  {k44 : Nat → Int32 → Int32 → Int32 → Int32 → Mem → Option Int32}  {r : Int32} {x1 : Nat} {x2 : Int32} {x3 : Int32} {x4 : Int32} {x5 : Int32} {M : Mem} (C : Cx p s m args meth c RX2 cX2_faultOfItem 7 (some .int) D B ca st)  (hk44 : ∀ {x1 : Nat} {x2 : Int32} {x3 : Int32} {x4 : Int32} {x5 : Int32} {M : Mem}, k44 x1 x2 x3 x4 x5 M = some r → ∀ {H : Heap} {locs : List Loc} {ls : Array Slot}, RH D B ca M H → va_S (AA B) s.heap H locs → lv_has ls 7 [(1, .ref (B + x1)), (2, .int x2), (3, .int x3), (4, .int x4), (5, .int x5)] → W p l e (rmD 3) s m args below meth c H locs 0 0 (MQ below (Qp D B ca st (some (.int r)) M) args s 0 0 (AA B)) (F0 m 44 ls [])) (h : f_X2_faultOfItem_65 k44 x1 x2 x3 x4 x5 M = some r) : ∀ {H : Heap} {locs : List Loc} {ls : Array Slot}, RH D B ca M H → va_S (AA B) s.heap H locs → lv_has ls 7 [(1, .ref (B + x1)), (2, .int x2), (3, .int x3), (4, .int x4), (5, .int x5)] → W p l e (rmD 3) s m args below meth c H locs 0 0 (MQ below (Qp D B ca st (some (.int r)) M) args s 0 0 (AA B)) (F0 m 65 ls []) := by
  have hx := C.1
  have hb := C.2.1
  unfold f_X2_faultOfItem_65 at h
  intro H locs ls hR hS hl
  refine lv_iconst (v := 0) hx hb dX2_faultOfItem_65 (by decide) ?_
  exact w_X2_faultOfItem_66 C (hk44 := @hk44) h hR hS (lv_sub hl [0, 1, 2, 3, 4] rfl)
set_option maxHeartbeats 4000000 in
set_option maxRecDepth 100000 in
theorem w_X2_faultOfItem_44    {r : Int32} (C : Cx p s m args meth c RX2 cX2_faultOfItem 7 (some .int) D B ca st)   : ∀ (n : Nat) {x1 : Nat} {x2 : Int32} {x3 : Int32} {x4 : Int32} {x5 : Int32} {M : Mem}, f_X2_faultOfItem_44  n x1 x2 x3 x4 x5 M = some r → ∀ {H : Heap} {locs : List Loc} {ls : Array Slot}, RH D B ca M H → va_S (AA B) s.heap H locs → lv_has ls 7 [(1, .ref (B + x1)), (2, .int x2), (3, .int x3), (4, .int x4), (5, .int x5)] → W p l e (rmD 3) s m args below meth c H locs 0 0 (MQ below (Qp D B ca st (some (.int r)) M) args s 0 0 (AA B)) (F0 m 44 ls []) := by
  have hx := C.1
  have hb := C.2.1
  intro n
  induction n with
  | zero => intro x1 x2 x3 x4 x5 M h; simp [f_X2_faultOfItem_44] at h
  | succ n ih =>
    intro x1 x2 x3 x4 x5 M h H locs ls hR hS hl
    rw [f_X2_faultOfItem_44] at h
    refine lv_iload hx hb dX2_faultOfItem_44 (lv_at hl 4 rfl) ?_
    refine lv_iload hx hb dX2_faultOfItem_46 (lv_at hl 3 rfl) ?_
    refine lv_icmp_gt (tgt := 99) hx hb dX2_faultOfItem_48 (by decide) (fun c => ?_) (fun c => ?_)
    · have h := ip c h
      refine lv_bipush (v := (-9)) hx hb dX2_faultOfItem_99 (by decide) ?_
      cases h
      exact rr_I C hR hS dX2_faultOfItem_101
    · have h := iq c h
      refine lv_iload_n hx hb dX2_faultOfItem_51 rfl (lv_at hl 2 rfl) ?_
      refine lv_if_eq (tgt := 65) hx hb dX2_faultOfItem_52 (by decide) (fun c => ?_) (fun c => ?_)
      · have h := ip c h
        exact w_X2_faultOfItem_65 C (hk44 := @ih) h hR hS (lv_sub hl [0, 1, 2, 3, 4] rfl)
      · have h := iq c h
        refine lv_iload hx hb dX2_faultOfItem_55 (lv_at hl 4 rfl) ?_
        refine lv_iconst (v := 2) hx hb dX2_faultOfItem_57 (by decide) ?_
        refine lv_icmp_ne (tgt := 65) hx hb dX2_faultOfItem_58 (by decide) (fun c => ?_) (fun c => ?_)
        · have h := iq c h
          exact w_X2_faultOfItem_65 C (hk44 := @ih) h hR hS (lv_sub hl [0, 1, 2, 3, 4] rfl)
        · have h := ip c h
          refine lv_iconst (v := 1) hx hb dX2_faultOfItem_61 (by decide) ?_
          refine lv_goto (tgt := 66) hx hb dX2_faultOfItem_62 (by decide) ?_
          exact w_X2_faultOfItem_66 C (hk44 := @ih) h hR hS (lv_sub hl [0, 1, 2, 3, 4] rfl)
set_option maxHeartbeats 4000000 in
set_option maxRecDepth 100000 in
theorem w_X2_faultOfItem_29    {r : Int32} {x1 : Nat} {x2 : Int32} {s0 : Int32} {M : Mem} (C : Cx p s m args meth c RX2 cX2_faultOfItem 7 (some .int) D B ca st)   (h : f_X2_faultOfItem_29  x1 x2 s0 M = some r) : ∀ {H : Heap} {locs : List Loc} {ls : Array Slot}, RH D B ca M H → va_S (AA B) s.heap H locs → lv_has ls 7 [(1, .ref (B + x1)), (2, .int x2)] → W p l e (rmD 3) s m args below meth c H locs 0 0 (MQ below (Qp D B ca st (some (.int r)) M) args s 0 0 (AA B)) (F0 m 29 ls [.int s0]) := by
  have hx := C.1
  have hb := C.2.1
  unfold f_X2_faultOfItem_29 at h
  intro H locs ls hR hS hl
  refine lv_istore_n (lv' := [(3, .int s0), (1, .ref (B + x1)), (2, .int x2)]) hx hb dX2_faultOfItem_29 rfl hl (by decide) rfl (fun ls hl => ?_)
  refine lv_iload_n hx hb dX2_faultOfItem_30 rfl (lv_at hl 0 rfl) ?_
  refine lv_if_eq (tgt := 38) hx hb dX2_faultOfItem_31 (by decide) (fun c => ?_) (fun c => ?_)
  · have h := ip c h
    refine lv_iconst (v := 2) hx hb dX2_faultOfItem_38 (by decide) ?_
    refine lv_istore (lv' := [(4, .int 2), (3, .int s0), (1, .ref (B + x1)), (2, .int x2)]) hx hb dX2_faultOfItem_39 hl (by decide) rfl (fun ls hl => ?_)
    refine lv_iconst (v := 1) hx hb dX2_faultOfItem_41 (by decide) ?_
    refine lv_istore (lv' := [(5, .int 1), (4, .int 2), (3, .int s0), (1, .ref (B + x1)), (2, .int x2)]) hx hb dX2_faultOfItem_42 hl (by decide) rfl (fun ls hl => ?_)
    exact w_X2_faultOfItem_44 C  FU h hR hS (lv_sub hl [3, 4, 2, 1, 0] rfl)
  · have h := iq c h
    refine lv_iconst (v := 3) hx hb dX2_faultOfItem_34 (by decide) ?_
    refine lv_goto (tgt := 39) hx hb dX2_faultOfItem_35 (by decide) ?_
    refine lv_istore (lv' := [(4, .int 3), (3, .int s0), (1, .ref (B + x1)), (2, .int x2)]) hx hb dX2_faultOfItem_39 hl (by decide) rfl (fun ls hl => ?_)
    refine lv_iconst (v := 1) hx hb dX2_faultOfItem_41 (by decide) ?_
    refine lv_istore (lv' := [(5, .int 1), (4, .int 3), (3, .int s0), (1, .ref (B + x1)), (2, .int x2)]) hx hb dX2_faultOfItem_42 hl (by decide) rfl (fun ls hl => ?_)
    exact w_X2_faultOfItem_44 C  FU h hR hS (lv_sub hl [3, 4, 2, 1, 0] rfl)
theorem ck_X2_faultOfItem  {x0 : Nat} {x1 : Nat} {x2 : Int32} {M : Mem} {r : Int32} (h : f_X2_faultOfItem  x0 x1 x2 M = some r) : kd M x0 = 12 := by
  unfold f_X2_faultOfItem at h
  exact ck h
set_option maxHeartbeats 4000000 in
set_option maxRecDepth 100000 in
theorem ok_X2_faultOfItem  {x0 : Nat} {x1 : Nat} {x2 : Int32}  {M : Mem} {r : Int32}  (h : f_X2_faultOfItem  x0 x1 x2 M = some r) : Ok l yX2_faultOfItem cX2_faultOfItem 7 (some .int) 3 [.ref (B + x0), .ref (B + x1), .int x2] D B ca st M (some (.int r)) M := by
  have hk0 := ck_X2_faultOfItem h
  unfold f_X2_faultOfItem at h
  have h := ip hk0 h
  refine ok_of rfl rfl (Nat.le_of_ble_eq_true rfl) ?_
  intro p e s m args below meth c ls C hl hR hS
  have hl : lv_has ls 7 [(0, .ref (B + x0)), (1, .ref (B + x1)), (2, .int x2)] := hl
  have hx := C.1
  have hb := C.2.1
  refine lv_aload_n hx hb dX2_faultOfItem_0 rfl (lv_at hl 0 rfl) ?_
  refine lv_aload_n hx hb dX2_faultOfItem_1 rfl (lv_at hl 1 rfl) ?_
  refine lv_iload_n hx hb dX2_faultOfItem_2 rfl (lv_at hl 2 rfl) ?_
  obtain ⟨v2, zqe1, h⟩ := ob h
  refine rc_VN C hR hS cf_X5_signAt cv_X5_signAt lk464 (ok_X5_signAt zqe1) (ck_X5_signAt zqe1) ⟨Nat.le_of_ble_eq_true rfl, Nat.le_of_ble_eq_true rfl⟩ ⟨Nat.zero_le _, Nat.zero_le _⟩ rfl rfl hl.1 (Nat.le_of_ble_eq_true rfl) dX2_faultOfItem_3 (rc_k1 (fun H locs hR hS => ?_))
  obtain ⟨v4, zqe3, h⟩ := ob h
  refine rc_V C hR hS cf_X2_mayCome cv_X2_mayCome lk473 (ok_X2_mayCome zqe3) (ck_X2_mayCome zqe3) ⟨Nat.le_of_ble_eq_true rfl, Nat.le_of_ble_eq_true rfl⟩ ⟨Nat.zero_le _, Nat.zero_le _⟩ rfl rfl hl.1 (Nat.le_of_ble_eq_true rfl) dX2_faultOfItem_6 (rc_k1 (fun H locs hR hS => ?_))
  refine lv_if_ne (tgt := 14) hx hb dX2_faultOfItem_9 (by decide) (fun c => ?_) (fun c => ?_)
  · have h := iq c h
    refine lv_aload_n hx hb dX2_faultOfItem_14 rfl (lv_at hl 1 rfl) ?_
    refine lv_iload_n hx hb dX2_faultOfItem_15 rfl (lv_at hl 2 rfl) ?_
    obtain ⟨v6, zqe5, h⟩ := ob h
    refine rc_VN C hR hS cf_X5_signAt cv_X5_signAt lk464 (ok_X5_signAt zqe5) (ck_X5_signAt zqe5) ⟨Nat.le_of_ble_eq_true rfl, Nat.le_of_ble_eq_true rfl⟩ ⟨Nat.zero_le _, Nat.zero_le _⟩ rfl rfl hl.1 (Nat.le_of_ble_eq_true rfl) dX2_faultOfItem_16 (rc_k1 (fun H locs hR hS => ?_))
    refine lv_bipush (v := 111) hx hb dX2_faultOfItem_19 (by decide) ?_
    refine lv_icmp_ne (tgt := 28) hx hb dX2_faultOfItem_21 (by decide) (fun c => ?_) (fun c => ?_)
    · have h := iq c h
      refine lv_iconst (v := 0) hx hb dX2_faultOfItem_28 (by decide) ?_
      exact w_X2_faultOfItem_29 C  h hR hS (lv_sub hl [1, 2] rfl)
    · have h := ip c h
      refine lv_iconst (v := 1) hx hb dX2_faultOfItem_24 (by decide) ?_
      refine lv_goto (tgt := 29) hx hb dX2_faultOfItem_25 (by decide) ?_
      exact w_X2_faultOfItem_29 C  h hR hS (lv_sub hl [1, 2] rfl)
  · have h := ip c h
    refine lv_iload_n hx hb dX2_faultOfItem_12 rfl (lv_at hl 2 rfl) ?_
    cases h
    exact rr_I C hR hS dX2_faultOfItem_13
set_option maxHeartbeats 4000000 in
set_option maxRecDepth 100000 in
theorem ok_X7_goldByKind (x0 : Int32) (x1 : Int32) {M : Mem} : Ok l yX7_goldByKind cX7_goldByKind 2 (some .int) 1 [.int x0, .int x1] D B ca st M (some (.int (f_X7_goldByKind  x0 x1))) M := by
  obtain ⟨r, h⟩ : ∃ r, f_X7_goldByKind  x0 x1 = r := ⟨_, rfl⟩
  rw [h]
  unfold f_X7_goldByKind at h
  refine ok_of rfl rfl (Nat.le_of_ble_eq_true rfl) ?_
  intro p e s m args below meth c ls C hl hR hS
  have hl : lv_has ls 2 [(0, .int x0), (1, .int x1)] := hl
  have hx := C.1
  have hb := C.2.1
  refine lv_iload_n hx hb dX7_goldByKind_0 rfl (lv_at hl 0 rfl) ?_
  by_cases zqc1 : x0 = 3
  · have h := ip zqc1 h
    refine lv_tableIn (off := 27) (tgt := 28) hx hb dX7_goldByKind_1 (by rw [zqc1]; decide) (by rw [zqc1]; decide) (by rw [zqc1]; decide +kernel) (by decide) ?_
    refine lv_iload_n hx hb dX7_goldByKind_28 rfl (lv_at hl 1 rfl) ?_
    refine lv_iconst (v := 2) hx hb dX7_goldByKind_29 (by decide) ?_
    refine lv_idiv hx hb dX7_goldByKind_30 (by decide) ?_
    subst h
    exact rr_I C hR hS dX7_goldByKind_31
  have h := iq zqc1 h
  by_cases zqc2 : x0 = 4
  · have h := ip zqc2 h
    refine lv_tableIn (off := 31) (tgt := 32) hx hb dX7_goldByKind_1 (by rw [zqc2]; decide) (by rw [zqc2]; decide) (by rw [zqc2]; decide +kernel) (by decide) ?_
    refine lv_iload_n hx hb dX7_goldByKind_32 rfl (lv_at hl 1 rfl) ?_
    refine lv_iconst (v := 2) hx hb dX7_goldByKind_33 (by decide) ?_
    refine lv_iadd hx hb dX7_goldByKind_34 ?_
    subst h
    exact rr_I C hR hS dX7_goldByKind_35
  have h := iq zqc2 h
  by_cases zqc3 : x0 = 5
  · have h := ip zqc3 h
    refine lv_tableIn (off := 35) (tgt := 36) hx hb dX7_goldByKind_1 (by rw [zqc3]; decide) (by rw [zqc3]; decide) (by rw [zqc3]; decide +kernel) (by decide) ?_
    refine lv_iconst (v := 0) hx hb dX7_goldByKind_36 (by decide) ?_
    refine lv_iload_n hx hb dX7_goldByKind_37 rfl (lv_at hl 1 rfl) ?_
    refine lv_iconst (v := 1) hx hb dX7_goldByKind_38 (by decide) ?_
    refine lv_isub hx hb dX7_goldByKind_39 ?_
    refine rm_max C lk514 hl.1 ⟨Nat.le_of_ble_eq_true rfl, Nat.le_of_ble_eq_true rfl⟩ ⟨Nat.zero_le _, Nat.zero_le _⟩ dX7_goldByKind_40 ?_
    subst h
    exact rr_I C hR hS dX7_goldByKind_43
  have h := iq zqc3 h
  refine lv_tableOut (tgt := 44) hx hb dX7_goldByKind_1 (by have q0 := lv_neT (a := 3) zqc1 (by decide); have q1 := lv_neT (a := 4) zqc2 (by decide); have q2 := lv_neT (a := 5) zqc3 (by decide); omega) (by decide) ?_
  refine lv_iload_n hx hb dX7_goldByKind_44 rfl (lv_at hl 1 rfl) ?_
  subst h
  exact rr_I C hR hS dX7_goldByKind_45
set_option maxHeartbeats 4000000 in
set_option maxRecDepth 100000 in
theorem w_X2_takeOrder_59    {r : Mem} (C : Cx p s m args meth c RX2 cX2_takeOrder 4 none D B ca st)   : ∀ (n : Nat) {x0 : Nat} {x3 : Int32} {M : Mem}, f_X2_takeOrder_59  n x0 x3 M = some r → ∀ {H : Heap} {locs : List Loc} {ls : Array Slot}, RH D B ca M H → va_S (AA B) s.heap H locs → lv_has ls 4 [(0, .ref (B + x0)), (3, .int x3)] → W p l e (rmD 3) s m args below meth c H locs 0 0 (MQ below (Qp D B ca st none r) args s 0 0 (AA B)) (F0 m 59 ls []) := by
  have hx := C.1
  have hb := C.2.1
  intro n
  induction n with
  | zero => intro x0 x3 M h; simp [f_X2_takeOrder_59] at h
  | succ n ih =>
    intro x0 x3 M h H locs ls hR hS hl
    rw [f_X2_takeOrder_59] at h
    refine lv_iload_n hx hb dX2_takeOrder_59 rfl (lv_at hl 1 rfl) ?_
    refine lv_aload_n hx hb dX2_takeOrder_60 rfl (lv_at hl 0 rfl) ?_
    obtain ⟨v27, zqe28, h⟩ := ob h
    refine gf151 C hR zqe28 dX2_takeOrder_61 ?_
    refine lv_icmp_ge (tgt := 137) hx hb dX2_takeOrder_64 (by decide) (fun c => ?_) (fun c => ?_)
    · have h := ip c h
      refine lv_aload_n hx hb dX2_takeOrder_137 rfl (lv_at hl 0 rfl) ?_
      refine lv_dup hx hb dX2_takeOrder_138 rfl ?_
      obtain ⟨v29, zqe30, h⟩ := ob h
      refine gf155 C hR zqe30 dX2_takeOrder_139 ?_
      refine lv_iconst (v := 1) hx hb dX2_takeOrder_142 (by decide) ?_
      refine lv_iadd hx hb dX2_takeOrder_143 ?_
      obtain ⟨M31, zqe32, h⟩ := ob h
      refine pf155 C hR hS zqe32 dX2_takeOrder_144 (fun H locs hR hS => ?_)
      cases h
      exact rr_V C hR hS dX2_takeOrder_147
    · have h := iq c h
      refine lv_aload_n hx hb dX2_takeOrder_67 rfl (lv_at hl 0 rfl) ?_
      obtain ⟨v33, zqe34, h⟩ := ob h
      refine gf172 C hR zqe34 dX2_takeOrder_68 ?_
      refine lv_iload_n hx hb dX2_takeOrder_71 rfl (lv_at hl 1 rfl) ?_
      refine lv_bipush (v := 6) hx hb dX2_takeOrder_72 (by decide) ?_
      refine lv_imul hx hb dX2_takeOrder_74 ?_
      refine lv_aload_n hx hb dX2_takeOrder_75 rfl (lv_at hl 0 rfl) ?_
      obtain ⟨v35, zqe36, h⟩ := ob h
      refine gf155 C hR zqe36 dX2_takeOrder_76 ?_
      refine lv_iadd hx hb dX2_takeOrder_79 ?_
      refine lv_aload_n hx hb dX2_takeOrder_80 rfl (lv_at hl 0 rfl) ?_
      obtain ⟨v37, zqe38, h⟩ := ob h
      refine gf159 C hR zqe38 dX2_takeOrder_81 ?_
      refine lv_iload_n hx hb dX2_takeOrder_84 rfl (lv_at hl 1 rfl) ?_
      obtain ⟨v39, zqe40, h⟩ := ob h
      refine ra_I C hR zqe40 dX2_takeOrder_85 ?_
      refine lv_aload_n hx hb dX2_takeOrder_86 rfl (lv_at hl 0 rfl) ?_
      obtain ⟨v41, zqe42, h⟩ := ob h
      refine gf168 C hR zqe42 dX2_takeOrder_87 ?_
      refine lv_aload_n hx hb dX2_takeOrder_90 rfl (lv_at hl 0 rfl) ?_
      obtain ⟨v43, zqe44, h⟩ := ob h
      refine gf155 C hR zqe44 dX2_takeOrder_91 ?_
      obtain ⟨v45, zqe46, h⟩ := ob h
      refine ra_I C hR zqe46 dX2_takeOrder_94 ?_
      obtain ⟨v48, zqe47, h⟩ := ob h
      refine rc_SN C hR hS cf_X7_breathByKind cs_X7_breathByKind lk498 (ok_X7_breathByKind zqe47) ⟨Nat.le_of_ble_eq_true rfl, Nat.le_of_ble_eq_true rfl⟩ ⟨Nat.zero_le _, Nat.zero_le _⟩ rfl rfl hl.1 (Nat.le_of_ble_eq_true rfl) dX2_takeOrder_95 (rc_k1 (fun H locs hR hS => ?_))
      obtain ⟨M49, zqe50, h⟩ := ob h
      refine re_I C hR hS zqe50 dX2_takeOrder_98 (fun H locs hR hS => ?_)
      refine lv_aload_n hx hb dX2_takeOrder_99 rfl (lv_at hl 0 rfl) ?_
      obtain ⟨v51, zqe52, h⟩ := ob h
      refine gf173 C hR zqe52 dX2_takeOrder_100 ?_
      refine lv_iload_n hx hb dX2_takeOrder_103 rfl (lv_at hl 1 rfl) ?_
      refine lv_bipush (v := 6) hx hb dX2_takeOrder_104 (by decide) ?_
      refine lv_imul hx hb dX2_takeOrder_106 ?_
      refine lv_aload_n hx hb dX2_takeOrder_107 rfl (lv_at hl 0 rfl) ?_
      obtain ⟨v53, zqe54, h⟩ := ob h
      refine gf155 C hR zqe54 dX2_takeOrder_108 ?_
      refine lv_iadd hx hb dX2_takeOrder_111 ?_
      refine lv_aload_n hx hb dX2_takeOrder_112 rfl (lv_at hl 0 rfl) ?_
      obtain ⟨v55, zqe56, h⟩ := ob h
      refine gf159 C hR zqe56 dX2_takeOrder_113 ?_
      refine lv_iload_n hx hb dX2_takeOrder_116 rfl (lv_at hl 1 rfl) ?_
      obtain ⟨v57, zqe58, h⟩ := ob h
      refine ra_I C hR zqe58 dX2_takeOrder_117 ?_
      refine lv_aload_n hx hb dX2_takeOrder_118 rfl (lv_at hl 0 rfl) ?_
      obtain ⟨v59, zqe60, h⟩ := ob h
      refine gf170 C hR zqe60 dX2_takeOrder_119 ?_
      refine lv_aload_n hx hb dX2_takeOrder_122 rfl (lv_at hl 0 rfl) ?_
      obtain ⟨v61, zqe62, h⟩ := ob h
      refine gf155 C hR zqe62 dX2_takeOrder_123 ?_
      obtain ⟨v63, zqe64, h⟩ := ob h
      refine ra_I C hR zqe64 dX2_takeOrder_126 ?_
      refine rc_SN C hR hS cf_X7_goldByKind cs_X7_goldByKind lk517 (ok_X7_goldByKind v57 v63) ⟨Nat.le_of_ble_eq_true rfl, Nat.le_of_ble_eq_true rfl⟩ ⟨Nat.zero_le _, Nat.zero_le _⟩ rfl rfl hl.1 (Nat.le_of_ble_eq_true rfl) dX2_takeOrder_127 (rc_k1 (fun H locs hR hS => ?_))
      obtain ⟨M66, zqe67, h⟩ := ob h
      refine re_I C hR hS zqe67 dX2_takeOrder_130 (fun H locs hR hS => ?_)
      refine lv_iinc (v := (x3 + 1)) (lv' := [(3, .int (x3 + 1)), (0, .ref (B + x0))]) hx hb dX2_takeOrder_131 hl (k := 1) rfl rfl (by decide) rfl (fun ls hl => ?_)
      refine lv_goto (tgt := 59) hx hb dX2_takeOrder_134 (by decide) ?_
      exact ih h hR hS (lv_sub hl [1, 0] rfl)
theorem ck_X2_takeOrder  {x0 : Nat} {x1 : Nat} {x2 : Int32} {M : Mem} {r : Mem} (h : f_X2_takeOrder  x0 x1 x2 M = some r) : kd M x0 = 12 := by
  unfold f_X2_takeOrder at h
  exact ck h
set_option maxHeartbeats 4000000 in
set_option maxRecDepth 100000 in
theorem ok_X2_takeOrder  {x0 : Nat} {x1 : Nat} {x2 : Int32}  {M : Mem} {r : Mem}  (h : f_X2_takeOrder  x0 x1 x2 M = some r) : Ok l yX2_takeOrder cX2_takeOrder 4 none 3 [.ref (B + x0), .ref (B + x1), .int x2] D B ca st M none r := by
  have hk0 := ck_X2_takeOrder h
  unfold f_X2_takeOrder at h
  have h := ip hk0 h
  refine ok_of rfl rfl (Nat.le_of_ble_eq_true rfl) ?_
  intro p e s m args below meth c ls C hl hR hS
  have hl : lv_has ls 4 [(0, .ref (B + x0)), (1, .ref (B + x1)), (2, .int x2)] := hl
  have hx := C.1
  have hb := C.2.1
  refine lv_aload_n hx hb dX2_takeOrder_0 rfl (lv_at hl 0 rfl) ?_
  obtain ⟨v1, zqe2, h⟩ := ob h
  refine gf155 C hR zqe2 dX2_takeOrder_1 ?_
  refine lv_bipush (v := 6) hx hb dX2_takeOrder_4 (by decide) ?_
  refine lv_icmp_ge (tgt := 147) hx hb dX2_takeOrder_6 (by decide) (fun c => ?_) (fun c => ?_)
  · have h := ip c h
    cases h
    exact rr_V C hR hS dX2_takeOrder_147
  · have h := iq c h
    refine lv_aload_n hx hb dX2_takeOrder_9 rfl (lv_at hl 0 rfl) ?_
    obtain ⟨v3, zqe4, h⟩ := ob h
    refine gf165 C hR zqe4 dX2_takeOrder_10 ?_
    refine lv_aload_n hx hb dX2_takeOrder_13 rfl (lv_at hl 0 rfl) ?_
    obtain ⟨v5, zqe6, h⟩ := ob h
    refine gf155 C hR zqe6 dX2_takeOrder_14 ?_
    refine lv_aload_n hx hb dX2_takeOrder_17 rfl (lv_at hl 1 rfl) ?_
    refine lv_iload_n hx hb dX2_takeOrder_18 rfl (lv_at hl 2 rfl) ?_
    refine lv_iconst (v := 1) hx hb dX2_takeOrder_19 (by decide) ?_
    refine lv_iadd hx hb dX2_takeOrder_20 ?_
    obtain ⟨v8, zqe7, h⟩ := ob h
    refine rc_VN C hR hS cf_X5_figureAt cv_X5_figureAt lk482 (ok_X5_figureAt zqe7) (ck_X5_figureAt zqe7) ⟨Nat.le_of_ble_eq_true rfl, Nat.le_of_ble_eq_true rfl⟩ ⟨Nat.zero_le _, Nat.zero_le _⟩ rfl rfl hl.1 (Nat.le_of_ble_eq_true rfl) dX2_takeOrder_21 (rc_k1 (fun H locs hR hS => ?_))
    obtain ⟨M9, zqe10, h⟩ := ob h
    refine re_I C hR hS zqe10 dX2_takeOrder_24 (fun H locs hR hS => ?_)
    refine lv_aload_n hx hb dX2_takeOrder_25 rfl (lv_at hl 0 rfl) ?_
    obtain ⟨v11, zqe12, h⟩ := ob h
    refine gf168 C hR zqe12 dX2_takeOrder_26 ?_
    refine lv_aload_n hx hb dX2_takeOrder_29 rfl (lv_at hl 0 rfl) ?_
    obtain ⟨v13, zqe14, h⟩ := ob h
    refine gf155 C hR zqe14 dX2_takeOrder_30 ?_
    refine lv_aload_n hx hb dX2_takeOrder_33 rfl (lv_at hl 1 rfl) ?_
    refine lv_iload_n hx hb dX2_takeOrder_34 rfl (lv_at hl 2 rfl) ?_
    refine lv_iconst (v := 2) hx hb dX2_takeOrder_35 (by decide) ?_
    refine lv_iadd hx hb dX2_takeOrder_36 ?_
    obtain ⟨v16, zqe15, h⟩ := ob h
    refine rc_VN C hR hS cf_X5_figureAt cv_X5_figureAt lk482 (ok_X5_figureAt zqe15) (ck_X5_figureAt zqe15) ⟨Nat.le_of_ble_eq_true rfl, Nat.le_of_ble_eq_true rfl⟩ ⟨Nat.zero_le _, Nat.zero_le _⟩ rfl rfl hl.1 (Nat.le_of_ble_eq_true rfl) dX2_takeOrder_37 (rc_k1 (fun H locs hR hS => ?_))
    obtain ⟨M17, zqe18, h⟩ := ob h
    refine re_I C hR hS zqe18 dX2_takeOrder_40 (fun H locs hR hS => ?_)
    refine lv_aload_n hx hb dX2_takeOrder_41 rfl (lv_at hl 0 rfl) ?_
    obtain ⟨v19, zqe20, h⟩ := ob h
    refine gf170 C hR zqe20 dX2_takeOrder_42 ?_
    refine lv_aload_n hx hb dX2_takeOrder_45 rfl (lv_at hl 0 rfl) ?_
    obtain ⟨v21, zqe22, h⟩ := ob h
    refine gf155 C hR zqe22 dX2_takeOrder_46 ?_
    refine lv_aload_n hx hb dX2_takeOrder_49 rfl (lv_at hl 1 rfl) ?_
    refine lv_iload_n hx hb dX2_takeOrder_50 rfl (lv_at hl 2 rfl) ?_
    refine lv_iconst (v := 3) hx hb dX2_takeOrder_51 (by decide) ?_
    refine lv_iadd hx hb dX2_takeOrder_52 ?_
    obtain ⟨v24, zqe23, h⟩ := ob h
    refine rc_VN C hR hS cf_X5_figureAt cv_X5_figureAt lk482 (ok_X5_figureAt zqe23) (ck_X5_figureAt zqe23) ⟨Nat.le_of_ble_eq_true rfl, Nat.le_of_ble_eq_true rfl⟩ ⟨Nat.zero_le _, Nat.zero_le _⟩ rfl rfl hl.1 (Nat.le_of_ble_eq_true rfl) dX2_takeOrder_53 (rc_k1 (fun H locs hR hS => ?_))
    obtain ⟨M25, zqe26, h⟩ := ob h
    refine re_I C hR hS zqe26 dX2_takeOrder_56 (fun H locs hR hS => ?_)
    refine lv_iconst (v := 0) hx hb dX2_takeOrder_57 (by decide) ?_
    refine lv_istore_n (lv' := [(3, .int 0), (0, .ref (B + x0)), (1, .ref (B + x1)), (2, .int x2)]) hx hb dX2_takeOrder_58 rfl hl (by decide) rfl (fun ls hl => ?_)
    exact w_X2_takeOrder_59 C  FU h hR hS (lv_sub hl [1, 0] rfl)
theorem ck_X2_takeSigher  {x0 : Nat} {x1 : Nat} {x2 : Int32} {M : Mem} {r : Mem} (h : f_X2_takeSigher  x0 x1 x2 M = some r) : kd M x0 = 12 := by
  unfold f_X2_takeSigher at h
  exact ck h
set_option maxHeartbeats 4000000 in
set_option maxRecDepth 100000 in
theorem ok_X2_takeSigher  {x0 : Nat} {x1 : Nat} {x2 : Int32}  {M : Mem} {r : Mem}  (h : f_X2_takeSigher  x0 x1 x2 M = some r) : Ok l yX2_takeSigher cX2_takeSigher 3 none 3 [.ref (B + x0), .ref (B + x1), .int x2] D B ca st M none r := by
  have hk0 := ck_X2_takeSigher h
  unfold f_X2_takeSigher at h
  have h := ip hk0 h
  refine ok_of rfl rfl (Nat.le_of_ble_eq_true rfl) ?_
  intro p e s m args below meth c ls C hl hR hS
  have hl : lv_has ls 3 [(0, .ref (B + x0)), (1, .ref (B + x1)), (2, .int x2)] := hl
  have hx := C.1
  have hb := C.2.1
  refine lv_aload_n hx hb dX2_takeSigher_0 rfl (lv_at hl 0 rfl) ?_
  obtain ⟨v1, zqe2, h⟩ := ob h
  refine gf151 C hR zqe2 dX2_takeSigher_1 ?_
  refine lv_iconst (v := 5) hx hb dX2_takeSigher_4 (by decide) ?_
  refine lv_icmp_ge (tgt := 67) hx hb dX2_takeSigher_5 (by decide) (fun c => ?_) (fun c => ?_)
  · have h := ip c h
    cases h
    exact rr_V C hR hS dX2_takeSigher_67
  · have h := iq c h
    refine lv_aload_n hx hb dX2_takeSigher_8 rfl (lv_at hl 0 rfl) ?_
    obtain ⟨v3, zqe4, h⟩ := ob h
    refine gf159 C hR zqe4 dX2_takeSigher_9 ?_
    refine lv_aload_n hx hb dX2_takeSigher_12 rfl (lv_at hl 0 rfl) ?_
    obtain ⟨v5, zqe6, h⟩ := ob h
    refine gf151 C hR zqe6 dX2_takeSigher_13 ?_
    refine lv_aload_n hx hb dX2_takeSigher_16 rfl (lv_at hl 1 rfl) ?_
    refine lv_iload_n hx hb dX2_takeSigher_17 rfl (lv_at hl 2 rfl) ?_
    obtain ⟨v8, zqe7, h⟩ := ob h
    refine rc_VN C hR hS cf_X5_signAt cv_X5_signAt lk464 (ok_X5_signAt zqe7) (ck_X5_signAt zqe7) ⟨Nat.le_of_ble_eq_true rfl, Nat.le_of_ble_eq_true rfl⟩ ⟨Nat.zero_le _, Nat.zero_le _⟩ rfl rfl hl.1 (Nat.le_of_ble_eq_true rfl) dX2_takeSigher_18 (rc_k1 (fun H locs hR hS => ?_))
    obtain ⟨v10, zqe9, h⟩ := ob h
    refine rc_S C hR hS cf_X2_kindOf cs_X2_kindOf lk477 (ok_X2_kindOf zqe9) ⟨Nat.le_of_ble_eq_true rfl, Nat.le_of_ble_eq_true rfl⟩ ⟨Nat.zero_le _, Nat.zero_le _⟩ rfl rfl hl.1 (Nat.le_of_ble_eq_true rfl) dX2_takeSigher_21 (rc_k1 (fun H locs hR hS => ?_))
    obtain ⟨M11, zqe12, h⟩ := ob h
    refine re_I C hR hS zqe12 dX2_takeSigher_24 (fun H locs hR hS => ?_)
    refine lv_aload_n hx hb dX2_takeSigher_25 rfl (lv_at hl 0 rfl) ?_
    obtain ⟨v13, zqe14, h⟩ := ob h
    refine gf161 C hR zqe14 dX2_takeSigher_26 ?_
    refine lv_aload_n hx hb dX2_takeSigher_29 rfl (lv_at hl 0 rfl) ?_
    obtain ⟨v15, zqe16, h⟩ := ob h
    refine gf151 C hR zqe16 dX2_takeSigher_30 ?_
    refine lv_aload_n hx hb dX2_takeSigher_33 rfl (lv_at hl 1 rfl) ?_
    refine lv_iload_n hx hb dX2_takeSigher_34 rfl (lv_at hl 2 rfl) ?_
    refine lv_iconst (v := 1) hx hb dX2_takeSigher_35 (by decide) ?_
    refine lv_iadd hx hb dX2_takeSigher_36 ?_
    obtain ⟨v18, zqe17, h⟩ := ob h
    refine rc_VN C hR hS cf_X5_figureAt cv_X5_figureAt lk482 (ok_X5_figureAt zqe17) (ck_X5_figureAt zqe17) ⟨Nat.le_of_ble_eq_true rfl, Nat.le_of_ble_eq_true rfl⟩ ⟨Nat.zero_le _, Nat.zero_le _⟩ rfl rfl hl.1 (Nat.le_of_ble_eq_true rfl) dX2_takeSigher_37 (rc_k1 (fun H locs hR hS => ?_))
    obtain ⟨M19, zqe20, h⟩ := ob h
    refine re_I C hR hS zqe20 dX2_takeSigher_40 (fun H locs hR hS => ?_)
    refine lv_aload_n hx hb dX2_takeSigher_41 rfl (lv_at hl 0 rfl) ?_
    obtain ⟨v21, zqe22, h⟩ := ob h
    refine gf163 C hR zqe22 dX2_takeSigher_42 ?_
    refine lv_aload_n hx hb dX2_takeSigher_45 rfl (lv_at hl 0 rfl) ?_
    obtain ⟨v23, zqe24, h⟩ := ob h
    refine gf151 C hR zqe24 dX2_takeSigher_46 ?_
    refine lv_aload_n hx hb dX2_takeSigher_49 rfl (lv_at hl 1 rfl) ?_
    refine lv_iload_n hx hb dX2_takeSigher_50 rfl (lv_at hl 2 rfl) ?_
    refine lv_iconst (v := 2) hx hb dX2_takeSigher_51 (by decide) ?_
    refine lv_iadd hx hb dX2_takeSigher_52 ?_
    obtain ⟨v26, zqe25, h⟩ := ob h
    refine rc_VN C hR hS cf_X5_figureAt cv_X5_figureAt lk482 (ok_X5_figureAt zqe25) (ck_X5_figureAt zqe25) ⟨Nat.le_of_ble_eq_true rfl, Nat.le_of_ble_eq_true rfl⟩ ⟨Nat.zero_le _, Nat.zero_le _⟩ rfl rfl hl.1 (Nat.le_of_ble_eq_true rfl) dX2_takeSigher_53 (rc_k1 (fun H locs hR hS => ?_))
    obtain ⟨M27, zqe28, h⟩ := ob h
    refine re_I C hR hS zqe28 dX2_takeSigher_56 (fun H locs hR hS => ?_)
    refine lv_aload_n hx hb dX2_takeSigher_57 rfl (lv_at hl 0 rfl) ?_
    refine lv_dup hx hb dX2_takeSigher_58 rfl ?_
    obtain ⟨v29, zqe30, h⟩ := ob h
    refine gf151 C hR zqe30 dX2_takeSigher_59 ?_
    refine lv_iconst (v := 1) hx hb dX2_takeSigher_62 (by decide) ?_
    refine lv_iadd hx hb dX2_takeSigher_63 ?_
    obtain ⟨M31, zqe32, h⟩ := ob h
    refine pf151 C hR hS zqe32 dX2_takeSigher_64 (fun H locs hR hS => ?_)
    cases h
    exact rr_V C hR hS dX2_takeSigher_67
theorem ck_X2_takeItem  {x0 : Nat} {x1 : Nat} {x2 : Int32} {M : Mem} {r : Int32 × Mem} (h : f_X2_takeItem  x0 x1 x2 M = some r) : kd M x0 = 12 := by
  unfold f_X2_takeItem at h
  exact ck h
set_option maxHeartbeats 4000000 in
set_option maxRecDepth 100000 in
theorem ok_X2_takeItem  {x0 : Nat} {x1 : Nat} {x2 : Int32}  {M : Mem} {r : Int32 × Mem}  (h : f_X2_takeItem  x0 x1 x2 M = some r) : Ok l yX2_takeItem cX2_takeItem 3 (some .int) 4 [.ref (B + x0), .ref (B + x1), .int x2] D B ca st M (some (.int r.1)) r.2 := by
  have hk0 := ck_X2_takeItem h
  unfold f_X2_takeItem at h
  have h := ip hk0 h
  refine ok_of rfl rfl (Nat.le_of_ble_eq_true rfl) ?_
  intro p e s m args below meth c ls C hl hR hS
  have hl : lv_has ls 3 [(0, .ref (B + x0)), (1, .ref (B + x1)), (2, .int x2)] := hl
  have hx := C.1
  have hb := C.2.1
  refine lv_aload_n hx hb dX2_takeItem_0 rfl (lv_at hl 1 rfl) ?_
  refine lv_iload_n hx hb dX2_takeItem_1 rfl (lv_at hl 2 rfl) ?_
  obtain ⟨v2, zqe1, h⟩ := ob h
  refine rc_VN C hR hS cf_X5_signAt cv_X5_signAt lk464 (ok_X5_signAt zqe1) (ck_X5_signAt zqe1) ⟨Nat.le_of_ble_eq_true rfl, Nat.le_of_ble_eq_true rfl⟩ ⟨Nat.zero_le _, Nat.zero_le _⟩ rfl rfl hl.1 (Nat.le_of_ble_eq_true rfl) dX2_takeItem_2 (rc_k1 (fun H locs hR hS => ?_))
  refine lv_bipush (v := 111) hx hb dX2_takeItem_5 (by decide) ?_
  refine lv_icmp_ne (tgt := 18) hx hb dX2_takeItem_7 (by decide) (fun c => ?_) (fun c => ?_)
  · have h := iq c h
    refine lv_aload_n hx hb dX2_takeItem_18 rfl (lv_at hl 0 rfl) ?_
    refine lv_aload_n hx hb dX2_takeItem_19 rfl (lv_at hl 1 rfl) ?_
    refine lv_iload_n hx hb dX2_takeItem_20 rfl (lv_at hl 2 rfl) ?_
    obtain ⟨M4, zqe3, h⟩ := ob h
    refine rc_V C hR hS cf_X2_takeSigher cv_X2_takeSigher lk520 (ok_X2_takeSigher zqe3) (ck_X2_takeSigher zqe3) ⟨Nat.le_of_ble_eq_true rfl, Nat.le_of_ble_eq_true rfl⟩ ⟨Nat.zero_le _, Nat.zero_le _⟩ rfl rfl hl.1 (Nat.le_of_ble_eq_true rfl) dX2_takeItem_21 (rc_k0 (fun H locs hR hS => ?_))
    refine lv_iconst (v := 3) hx hb dX2_takeItem_24 (by decide) ?_
    cases h
    exact rr_I C hR hS dX2_takeItem_25
  · have h := ip c h
    refine lv_aload_n hx hb dX2_takeItem_10 rfl (lv_at hl 0 rfl) ?_
    refine lv_aload_n hx hb dX2_takeItem_11 rfl (lv_at hl 1 rfl) ?_
    refine lv_iload_n hx hb dX2_takeItem_12 rfl (lv_at hl 2 rfl) ?_
    obtain ⟨M6, zqe5, h⟩ := ob h
    refine rc_V C hR hS cf_X2_takeOrder cv_X2_takeOrder lk494 (ok_X2_takeOrder zqe5) (ck_X2_takeOrder zqe5) ⟨Nat.le_of_ble_eq_true rfl, Nat.le_of_ble_eq_true rfl⟩ ⟨Nat.zero_le _, Nat.zero_le _⟩ rfl rfl hl.1 (Nat.le_of_ble_eq_true rfl) dX2_takeItem_13 (rc_k0 (fun H locs hR hS => ?_))
    refine lv_iconst (v := 4) hx hb dX2_takeItem_16 (by decide) ?_
    cases h
    exact rr_I C hR hS dX2_takeItem_17
set_option maxHeartbeats 4000000 in
set_option maxRecDepth 100000 in
theorem w_X2_readFrom_77    {r : Int32 × Mem} {x0 : Nat} {x1 : Nat} {M : Mem} (C : Cx p s m args meth c RX2 cX2_readFrom 5 (some .int) D B ca st)   (h : f_X2_readFrom_77  x0 x1 M = some r) : ∀ {H : Heap} {locs : List Loc} {ls : Array Slot}, RH D B ca M H → va_S (AA B) s.heap H locs → lv_has ls 5 [(0, .ref (B + x0)), (1, .ref (B + x1))] → W p l e (rmD 5) s m args below meth c H locs 0 0 (MQ below (Qp D B ca st (some (.int r.1)) r.2) args s 0 0 (AA B)) (F0 m 77 ls []) := by
  have hx := C.1
  have hb := C.2.1
  unfold f_X2_readFrom_77 at h
  intro H locs ls hR hS hl
  refine lv_aload_n hx hb dX2_readFrom_77 rfl (lv_at hl 0 rfl) ?_
  obtain ⟨v14, zqe15, h⟩ := ob h
  refine gf155 C hR zqe15 dX2_readFrom_78 ?_
  refine lv_if_le (tgt := 89) hx hb dX2_readFrom_81 (by decide) (fun c => ?_) (fun c => ?_)
  · have h := ip c h
    refine lv_aload_n hx hb dX2_readFrom_89 rfl (lv_at hl 1 rfl) ?_
    obtain ⟨v16, zqe17, h⟩ := ob h
    refine gf318 C hR zqe17 dX2_readFrom_90 ?_
    cases h
    exact rr_I C hR hS dX2_readFrom_93
  · have h := iq c h
    refine lv_bipush (v := (-9)) hx hb dX2_readFrom_84 (by decide) ?_
    refine lv_goto (tgt := 93) hx hb dX2_readFrom_86 (by decide) ?_
    cases h
    exact rr_I C hR hS dX2_readFrom_93
set_option maxHeartbeats 4000000 in
set_option maxRecDepth 100000 in
theorem w_X2_readFrom_14    {r : Int32 × Mem} (C : Cx p s m args meth c RX2 cX2_readFrom 5 (some .int) D B ca st)   : ∀ (n : Nat) {x0 : Nat} {x1 : Nat} {x2 : Int32} {x3 : Int32} {M : Mem}, f_X2_readFrom_14  n x0 x1 x2 x3 M = some r → ∀ {H : Heap} {locs : List Loc} {ls : Array Slot}, RH D B ca M H → va_S (AA B) s.heap H locs → lv_has ls 5 [(0, .ref (B + x0)), (1, .ref (B + x1)), (2, .int x2), (3, .int x3)] → W p l e (rmD 5) s m args below meth c H locs 0 0 (MQ below (Qp D B ca st (some (.int r.1)) r.2) args s 0 0 (AA B)) (F0 m 14 ls []) := by
  have hx := C.1
  have hb := C.2.1
  intro n
  induction n with
  | zero => intro x0 x1 x2 x3 M h; simp [f_X2_readFrom_14] at h
  | succ n ih =>
    intro x0 x1 x2 x3 M h H locs ls hR hS hl
    rw [f_X2_readFrom_14] at h
    refine lv_iload_n hx hb dX2_readFrom_14 rfl (lv_at hl 3 rfl) ?_
    refine lv_bipush (v := 60) hx hb dX2_readFrom_15 (by decide) ?_
    refine lv_icmp_ge (tgt := 77) hx hb dX2_readFrom_17 (by decide) (fun c => ?_) (fun c => ?_)
    · have h := ip c h
      exact w_X2_readFrom_77 C  h hR hS (lv_sub hl [0, 1] rfl)
    · have h := iq c h
      refine lv_iload_n hx hb dX2_readFrom_20 rfl (lv_at hl 2 rfl) ?_
      refine lv_aload_n hx hb dX2_readFrom_21 rfl (lv_at hl 1 rfl) ?_
      obtain ⟨v5, zqe6, h⟩ := ob h
      refine gf318 C hR zqe6 dX2_readFrom_22 ?_
      refine lv_icmp_ge (tgt := 77) hx hb dX2_readFrom_25 (by decide) (fun c => ?_) (fun c => ?_)
      · have h := ip c h
        exact w_X2_readFrom_77 C  h hR hS (lv_sub hl [0, 1] rfl)
      · have h := iq c h
        refine lv_aload_n hx hb dX2_readFrom_28 rfl (lv_at hl 1 rfl) ?_
        refine lv_iload_n hx hb dX2_readFrom_29 rfl (lv_at hl 2 rfl) ?_
        obtain ⟨v8, zqe7, h⟩ := ob h
        refine rc_VN C hR hS cf_X5_signAt cv_X5_signAt lk464 (ok_X5_signAt zqe7) (ck_X5_signAt zqe7) ⟨Nat.le_of_ble_eq_true rfl, Nat.le_of_ble_eq_true rfl⟩ ⟨Nat.zero_le _, Nat.zero_le _⟩ rfl rfl hl.1 (Nat.le_of_ble_eq_true rfl) dX2_readFrom_30 (rc_k1 (fun H locs hR hS => ?_))
        refine lv_bipush (v := 32) hx hb dX2_readFrom_33 (by decide) ?_
        refine lv_icmp_ne (tgt := 44) hx hb dX2_readFrom_35 (by decide) (fun c => ?_) (fun c => ?_)
        · have h := iq c h
          refine lv_aload_n hx hb dX2_readFrom_44 rfl (lv_at hl 0 rfl) ?_
          refine lv_aload_n hx hb dX2_readFrom_45 rfl (lv_at hl 1 rfl) ?_
          refine lv_iload_n hx hb dX2_readFrom_46 rfl (lv_at hl 2 rfl) ?_
          obtain ⟨v10, zqe9, h⟩ := ob h
          refine rc_V C hR hS cf_X2_faultOfItem cv_X2_faultOfItem lk469 (ok_X2_faultOfItem zqe9) (ck_X2_faultOfItem zqe9) ⟨Nat.le_of_ble_eq_true rfl, Nat.le_of_ble_eq_true rfl⟩ ⟨Nat.zero_le _, Nat.zero_le _⟩ rfl rfl hl.1 (Nat.le_of_ble_eq_true rfl) dX2_readFrom_47 (rc_k1 (fun H locs hR hS => ?_))
          refine lv_istore (lv' := [(4, .int v10), (0, .ref (B + x0)), (1, .ref (B + x1)), (2, .int x2), (3, .int x3)]) hx hb dX2_readFrom_50 hl (by decide) rfl (fun ls hl => ?_)
          refine lv_iload hx hb dX2_readFrom_52 (lv_at hl 0 rfl) ?_
          refine lv_bipush (v := (-9)) hx hb dX2_readFrom_54 (by decide) ?_
          refine lv_icmp_eq (tgt := 62) hx hb dX2_readFrom_56 (by decide) (fun c => ?_) (fun c => ?_)
          · have h := ip c h
            refine lv_iload_n hx hb dX2_readFrom_62 rfl (lv_at hl 3 rfl) ?_
            refine lv_aload_n hx hb dX2_readFrom_63 rfl (lv_at hl 1 rfl) ?_
            refine lv_aload_n hx hb dX2_readFrom_64 rfl (lv_at hl 2 rfl) ?_
            refine lv_iload_n hx hb dX2_readFrom_65 rfl (lv_at hl 3 rfl) ?_
            obtain ⟨qv12, zqe11, h⟩ := ob h
            refine rc_V C hR hS cf_X2_takeItem cv_X2_takeItem lk490 (ok_X2_takeItem zqe11) (ck_X2_takeItem zqe11) ⟨Nat.le_of_ble_eq_true rfl, Nat.le_of_ble_eq_true rfl⟩ ⟨Nat.zero_le _, Nat.zero_le _⟩ rfl rfl hl.1 (Nat.le_of_ble_eq_true rfl) dX2_readFrom_66 (rc_k1 (fun H locs hR hS => ?_))
            refine lv_iadd hx hb dX2_readFrom_69 ?_
            refine lv_istore_n (lv' := [(2, .int (x2 + qv12.1)), (4, .int v10), (0, .ref (B + x0)), (1, .ref (B + x1)), (3, .int x3)]) hx hb dX2_readFrom_70 rfl hl (by decide) rfl (fun ls hl => ?_)
            refine lv_iinc (v := (x3 + 1)) (lv' := [(3, .int (x3 + 1)), (2, .int (x2 + qv12.1)), (4, .int v10), (0, .ref (B + x0)), (1, .ref (B + x1))]) hx hb dX2_readFrom_71 hl (k := 4) rfl rfl (by decide) rfl (fun ls hl => ?_)
            refine lv_goto (tgt := 14) hx hb dX2_readFrom_74 (by decide) ?_
            exact ih h hR hS (lv_sub hl [3, 4, 1, 0] rfl)
          · have h := iq c h
            refine lv_iload hx hb dX2_readFrom_59 (lv_at hl 0 rfl) ?_
            cases h
            exact rr_I C hR hS dX2_readFrom_61
        · have h := ip c h
          refine lv_iinc (v := (x2 + 1)) (lv' := [(2, .int (x2 + 1)), (0, .ref (B + x0)), (1, .ref (B + x1)), (3, .int x3)]) hx hb dX2_readFrom_38 hl (k := 2) rfl rfl (by decide) rfl (fun ls hl => ?_)
          refine lv_goto (tgt := 71) hx hb dX2_readFrom_41 (by decide) ?_
          refine lv_iinc (v := (x3 + 1)) (lv' := [(3, .int (x3 + 1)), (2, .int (x2 + 1)), (0, .ref (B + x0)), (1, .ref (B + x1))]) hx hb dX2_readFrom_71 hl (k := 3) rfl rfl (by decide) rfl (fun ls hl => ?_)
          refine lv_goto (tgt := 14) hx hb dX2_readFrom_74 (by decide) ?_
          exact ih h hR hS (lv_sub hl [2, 3, 1, 0] rfl)
theorem ck_X2_readFrom  {x0 : Nat} {x1 : Nat} {M : Mem} {r : Int32 × Mem} (h : f_X2_readFrom  x0 x1 M = some r) : kd M x0 = 12 := by
  unfold f_X2_readFrom at h
  exact ck h
set_option maxHeartbeats 4000000 in
set_option maxRecDepth 100000 in
theorem ok_X2_readFrom  {x0 : Nat} {x1 : Nat}  {M : Mem} {r : Int32 × Mem}  (h : f_X2_readFrom  x0 x1 M = some r) : Ok l yX2_readFrom cX2_readFrom 5 (some .int) 5 [.ref (B + x0), .ref (B + x1)] D B ca st M (some (.int r.1)) r.2 := by
  have hk0 := ck_X2_readFrom h
  unfold f_X2_readFrom at h
  have h := ip hk0 h
  refine ok_of rfl rfl (Nat.le_of_ble_eq_true rfl) ?_
  intro p e s m args below meth c ls C hl hR hS
  have hl : lv_has ls 5 [(0, .ref (B + x0)), (1, .ref (B + x1))] := hl
  have hx := C.1
  have hb := C.2.1
  refine lv_aload_n hx hb dX2_readFrom_0 rfl (lv_at hl 0 rfl) ?_
  refine lv_iconst (v := 0) hx hb dX2_readFrom_1 (by decide) ?_
  obtain ⟨M1, zqe2, h⟩ := ob h
  refine pf151 C hR hS zqe2 dX2_readFrom_2 (fun H locs hR hS => ?_)
  refine lv_aload_n hx hb dX2_readFrom_5 rfl (lv_at hl 0 rfl) ?_
  refine lv_iconst (v := 0) hx hb dX2_readFrom_6 (by decide) ?_
  obtain ⟨M3, zqe4, h⟩ := ob h
  refine pf155 C hR hS zqe4 dX2_readFrom_7 (fun H locs hR hS => ?_)
  refine lv_iconst (v := 0) hx hb dX2_readFrom_10 (by decide) ?_
  refine lv_istore_n (lv' := [(2, .int 0), (0, .ref (B + x0)), (1, .ref (B + x1))]) hx hb dX2_readFrom_11 rfl hl (by decide) rfl (fun ls hl => ?_)
  refine lv_iconst (v := 0) hx hb dX2_readFrom_12 (by decide) ?_
  refine lv_istore_n (lv' := [(3, .int 0), (2, .int 0), (0, .ref (B + x0)), (1, .ref (B + x1))]) hx hb dX2_readFrom_13 rfl hl (by decide) rfl (fun ls hl => ?_)
  exact w_X2_readFrom_14 C  FU h hR hS (lv_sub hl [2, 3, 1, 0] rfl)
theorem ck_X7_textOf  {x0 : Nat} {x1 : Int32} {M : Mem} {r : Nat} (h : f_X7_textOf  x0 x1 M = some r) : kd M x0 = 17 := by
  unfold f_X7_textOf at h
  exact ck h
set_option maxHeartbeats 4000000 in
set_option maxRecDepth 100000 in
theorem ok_X7_textOf  {x0 : Nat} {x1 : Int32}  {M : Mem} {r : Nat}  (h : f_X7_textOf  x0 x1 M = some r) : Ok l yX7_textOf cX7_textOf 2 (some (.object "SighGuild$Script")) 0 [.ref (B + x0), .int x1] D B ca st M (some (va_rf (rO B r))) M := by
  have hk0 := ck_X7_textOf h
  unfold f_X7_textOf at h
  have h := ip hk0 h
  refine ok_of rfl rfl (Nat.le_of_ble_eq_true rfl) ?_
  intro p e s m args below meth c ls C hl hR hS
  have hl : lv_has ls 2 [(0, .ref (B + x0)), (1, .int x1)] := hl
  have hx := C.1
  have hb := C.2.1
  refine lv_iload_n hx hb dX7_textOf_0 rfl (lv_at hl 1 rfl) ?_
  refine lv_if_lt (tgt := 22) hx hb dX7_textOf_1 (by decide) (fun c => ?_) (fun c => ?_)
  · have h := ip c h
    refine lv_null hx hb dX7_textOf_22 ?_
    cases h
    exact rr_R C hR hS (rO_0 _) dX7_textOf_23
  · have h := iq c h
    refine lv_iload_n hx hb dX7_textOf_4 rfl (lv_at hl 1 rfl) ?_
    refine lv_aload_n hx hb dX7_textOf_5 rfl (lv_at hl 0 rfl) ?_
    obtain ⟨v1, zqe2, h⟩ := ob h
    refine gf326 C hR zqe2 dX7_textOf_6 ?_
    obtain ⟨v3, zqe4, h⟩ := ob h
    refine ra_N C hR (k := 5) (by decide) (by decide) zqe4 dX7_textOf_9 ?_
    refine lv_icmp_ge (tgt := 22) hx hb dX7_textOf_10 (by decide) (fun c => ?_) (fun c => ?_)
    · have h := ip c h
      refine lv_null hx hb dX7_textOf_22 ?_
      cases h
      exact rr_R C hR hS (rO_0 _) dX7_textOf_23
    · have h := iq c h
      refine lv_aload_n hx hb dX7_textOf_13 rfl (lv_at hl 0 rfl) ?_
      obtain ⟨v5, zqe6, h⟩ := ob h
      refine gf326 C hR zqe6 dX7_textOf_14 ?_
      refine lv_iload_n hx hb dX7_textOf_17 rfl (lv_at hl 1 rfl) ?_
      obtain ⟨v7, zqe8, h⟩ := ob h
      refine ra_R C hR (k := 5) (by decide) (by decide) rfl zqe8 dX7_textOf_18 ?_
      refine lv_goto (tgt := 23) hx hb dX7_textOf_19 (by decide) ?_
      cases h
      exact rr_R C hR hS (rO_ne (aR_nz zqe8)) dX7_textOf_23
theorem ck_X7_fault  {x0 : Nat} {x1 : Int32} {M : Mem} {r : Int32 × Mem} (h : f_X7_fault  x0 x1 M = some r) : kd M x0 = 17 := by
  unfold f_X7_fault at h
  exact ck h
set_option maxHeartbeats 4000000 in
set_option maxRecDepth 100000 in
theorem ok_X7_fault  {x0 : Nat} {x1 : Int32}  {M : Mem} {r : Int32 × Mem}  (h : f_X7_fault  x0 x1 M = some r) : Ok l yX7_fault cX7_fault 3 (some .int) 6 [.ref (B + x0), .int x1] D B ca st M (some (.int r.1)) r.2 := by
  have hk0 := ck_X7_fault h
  unfold f_X7_fault at h
  have h := ip hk0 h
  refine ok_of rfl rfl (Nat.le_of_ble_eq_true rfl) ?_
  intro p e s m args below meth c ls C hl hR hS
  have hl : lv_has ls 3 [(0, .ref (B + x0)), (1, .int x1)] := hl
  have hx := C.1
  have hb := C.2.1
  refine lv_aload_n hx hb dX7_fault_0 rfl (lv_at hl 0 rfl) ?_
  refine lv_iload_n hx hb dX7_fault_1 rfl (lv_at hl 1 rfl) ?_
  obtain ⟨v2, zqe1, h⟩ := ob h
  refine rc_V C hR hS cf_X7_textOf cv_X7_textOf lk433 (ok_X7_textOf zqe1) (ck_X7_textOf zqe1) ⟨Nat.le_of_ble_eq_true rfl, Nat.le_of_ble_eq_true rfl⟩ ⟨Nat.zero_le _, Nat.zero_le _⟩ rfl rfl hl.1 (Nat.le_of_ble_eq_true rfl) dX7_fault_2 (rc_k1 (fun H locs hR hS => ?_))
  refine rc_nul (fun zqz3 => ?_) (fun zqz3 => ?_)
  · have h := ip zqz3 h
    refine lv_astore_nN (lv' := [(2, .null), (0, .ref (B + x0)), (1, .int x1)]) hx hb dX7_fault_5 rfl hl (by decide) rfl (fun ls hl => ?_)
    refine lv_aload_nN hx hb dX7_fault_6 rfl (lv_at hl 0 rfl) ?_
    refine lv_ifnonnullN hx hb dX7_fault_7 ?_
    refine lv_iconst (v := (-1)) hx hb dX7_fault_10 (by decide) ?_
    cases h
    exact rr_I C hR hS dX7_fault_11
  · have h := iq zqz3 h
    refine lv_astore_n (lv' := [(2, .ref (B + v2)), (0, .ref (B + x0)), (1, .int x1)]) hx hb dX7_fault_5 rfl hl (by decide) rfl (fun ls hl => ?_)
    refine lv_aload_n hx hb dX7_fault_6 rfl (lv_at hl 0 rfl) ?_
    refine lv_ifnonnull (tgt := 12) hx hb dX7_fault_7 (by decide) ?_
    refine lv_aload_n hx hb dX7_fault_12 rfl (lv_at hl 0 rfl) ?_
    obtain ⟨v5, zqe4, h⟩ := ob h
    refine rc_VN C hR hS cf_X5_isMissing cv_X5_isMissing lk448 (ok_X5_isMissing zqe4) (ck_X5_isMissing zqe4) ⟨Nat.le_of_ble_eq_true rfl, Nat.le_of_ble_eq_true rfl⟩ ⟨Nat.zero_le _, Nat.zero_le _⟩ rfl rfl hl.1 (Nat.le_of_ble_eq_true rfl) dX7_fault_13 (rc_k1 (fun H locs hR hS => ?_))
    refine lv_if_eq (tgt := 25) hx hb dX7_fault_16 (by decide) (fun c => ?_) (fun c => ?_)
    · have h := ip c h
      refine lv_aload_n hx hb dX7_fault_25 rfl (lv_at hl 1 rfl) ?_
      obtain ⟨v6, zqe7, h⟩ := ob h
      refine gf328 C hR zqe7 dX7_fault_26 ?_
      refine lv_aload_n hx hb dX7_fault_29 rfl (lv_at hl 0 rfl) ?_
      obtain ⟨qv9, zqe8, h⟩ := ob h
      refine rc_VN C hR hS cf_X2_readFrom cv_X2_readFrom lk460 (ok_X2_readFrom zqe8) (ck_X2_readFrom zqe8) ⟨Nat.le_of_ble_eq_true rfl, Nat.le_of_ble_eq_true rfl⟩ ⟨Nat.zero_le _, Nat.zero_le _⟩ rfl rfl hl.1 (Nat.le_of_ble_eq_true rfl) dX7_fault_30 (rc_k1 (fun H locs hR hS => ?_))
      cases h
      exact rr_I C hR hS dX7_fault_33
    · have h := iq c h
      refine lv_aload_n hx hb dX7_fault_19 rfl (lv_at hl 1 rfl) ?_
      refine lv_iconst (v := 1) hx hb dX7_fault_20 (by decide) ?_
      obtain ⟨qv12, zqe11, h⟩ := ob h
      refine rc_V C hR hS cf_X7_refuse cv_X7_refuse lk379 (ok_X7_refuse zqe11) (ck_X7_refuse zqe11) ⟨Nat.le_of_ble_eq_true rfl, Nat.le_of_ble_eq_true rfl⟩ ⟨Nat.zero_le _, Nat.zero_le _⟩ rfl rfl hl.1 (Nat.le_of_ble_eq_true rfl) dX7_fault_21 (rc_k1 (fun H locs hR hS => ?_))
      cases h
      exact rr_I C hR hS dX7_fault_24
theorem ck_X7_finding  {x0 : Nat} {M : Mem} {r : Int32} (h : f_X7_finding  x0 M = some r) : kd M x0 = 17 := by
  unfold f_X7_finding at h
  exact ck h
set_option maxHeartbeats 4000000 in
set_option maxRecDepth 100000 in
theorem ok_X7_finding  {x0 : Nat}  {M : Mem} {r : Int32}  (h : f_X7_finding  x0 M = some r) : Ok l yX7_finding cX7_finding 1 (some .int) 0 [.ref (B + x0)] D B ca st M (some (.int r)) M := by
  have hk0 := ck_X7_finding h
  unfold f_X7_finding at h
  have h := ip hk0 h
  refine ok_of rfl rfl (Nat.le_of_ble_eq_true rfl) ?_
  intro p e s m args below meth c ls C hl hR hS
  have hl : lv_has ls 1 [(0, .ref (B + x0))] := hl
  have hx := C.1
  have hb := C.2.1
  refine lv_aload_n hx hb dX7_finding_0 rfl (lv_at hl 0 rfl) ?_
  obtain ⟨v1, zqe2, h⟩ := ob h
  refine gf338 C hR zqe2 dX7_finding_1 ?_
  cases h
  exact rr_I C hR hS dX7_finding_4
theorem ck_X7_findings  {x0 : Nat} {x1 : Int32} {M : Mem} {r : Int32} (h : f_X7_findings  x0 x1 M = some r) : kd M x0 = 17 := by
  unfold f_X7_findings at h
  exact ck h
set_option maxHeartbeats 4000000 in
set_option maxRecDepth 100000 in
theorem ok_X7_findings  {x0 : Nat} {x1 : Int32}  {M : Mem} {r : Int32}  (h : f_X7_findings  x0 x1 M = some r) : Ok l yX7_findings cX7_findings 2 (some .int) 0 [.ref (B + x0), .int x1] D B ca st M (some (.int r)) M := by
  have hk0 := ck_X7_findings h
  unfold f_X7_findings at h
  have h := ip hk0 h
  refine ok_of rfl rfl (Nat.le_of_ble_eq_true rfl) ?_
  intro p e s m args below meth c ls C hl hR hS
  have hl : lv_has ls 2 [(0, .ref (B + x0)), (1, .int x1)] := hl
  have hx := C.1
  have hb := C.2.1
  refine lv_iload_n hx hb dX7_findings_0 rfl (lv_at hl 1 rfl) ?_
  refine lv_iconst (v := 1) hx hb dX7_findings_1 (by decide) ?_
  refine lv_icmp_lt (tgt := 10) hx hb dX7_findings_2 (by decide) (fun c => ?_) (fun c => ?_)
  · have h := ip c h
    refine lv_iconst (v := (-1)) hx hb dX7_findings_10 (by decide) ?_
    cases h
    exact rr_I C hR hS dX7_findings_11
  · have h := iq c h
    refine lv_iload_n hx hb dX7_findings_5 rfl (lv_at hl 1 rfl) ?_
    refine lv_iconst (v := 5) hx hb dX7_findings_6 (by decide) ?_
    refine lv_icmp_le (tgt := 12) hx hb dX7_findings_7 (by decide) (fun c => ?_) (fun c => ?_)
    · have h := ip c h
      refine lv_aload_n hx hb dX7_findings_12 rfl (lv_at hl 0 rfl) ?_
      obtain ⟨v1, zqe2, h⟩ := ob h
      refine gf339 C hR zqe2 dX7_findings_13 ?_
      refine lv_iload_n hx hb dX7_findings_16 rfl (lv_at hl 1 rfl) ?_
      obtain ⟨v3, zqe4, h⟩ := ob h
      refine ra_I C hR zqe4 dX7_findings_17 ?_
      cases h
      exact rr_I C hR hS dX7_findings_18
    · have h := iq c h
      refine lv_iconst (v := (-1)) hx hb dX7_findings_10 (by decide) ?_
      cases h
      exact rr_I C hR hS dX7_findings_11
theorem ck_X1_fits  {x0 : Nat} {x1 : Int32} {x2 : Int32} {M : Mem} {r : Int32} (h : f_X1_fits  x0 x1 x2 M = some r) : kd M x0 = 11 := by
  unfold f_X1_fits at h
  exact ck h
set_option maxHeartbeats 4000000 in
set_option maxRecDepth 100000 in
theorem ok_X1_fits  {x0 : Nat} {x1 : Int32} {x2 : Int32}  {M : Mem} {r : Int32}  (h : f_X1_fits  x0 x1 x2 M = some r) : Ok l yX1_fits cX1_fits 4 (some .boolean) 2 [.ref (B + x0), .int x1, .int x2] D B ca st M (some (.int r)) M := by
  have hk0 := ck_X1_fits h
  unfold f_X1_fits at h
  have h := ip hk0 h
  refine ok_of rfl rfl (Nat.le_of_ble_eq_true rfl) ?_
  intro p e s m args below meth c ls C hl hR hS
  have hl : lv_has ls 4 [(0, .ref (B + x0)), (1, .int x1), (2, .int x2)] := hl
  have hx := C.1
  have hb := C.2.1
  refine lv_aload_n hx hb dX1_fits_0 rfl (lv_at hl 0 rfl) ?_
  obtain ⟨v1, zqe2, h⟩ := ob h
  refine gf250 C hR zqe2 dX1_fits_1 ?_
  refine lv_ifnull hx hb dX1_fits_4 ?_
  refine lv_aload_n hx hb dX1_fits_7 rfl (lv_at hl 0 rfl) ?_
  obtain ⟨v3, zqe4, h⟩ := ob h
  refine gf250 C hR zqe4 dX1_fits_8 ?_
  refine lv_iload_n hx hb dX1_fits_11 rfl (lv_at hl 1 rfl) ?_
  obtain ⟨v6, zqe5, h⟩ := ob h
  refine rc_VN C hR hS cf_X2_hasSigher cv_X2_hasSigher lk706 (ok_X2_hasSigher zqe5) (ck_X2_hasSigher zqe5) ⟨Nat.le_of_ble_eq_true rfl, Nat.le_of_ble_eq_true rfl⟩ ⟨Nat.zero_le _, Nat.zero_le _⟩ rfl rfl hl.1 (Nat.le_of_ble_eq_true rfl) dX1_fits_12 (rc_k1 (fun H locs hR hS => ?_))
  refine lv_if_eq (tgt := 29) hx hb dX1_fits_15 (by decide) (fun c => ?_) (fun c => ?_)
  · have h := ip c h
    refine lv_iconst (v := 0) hx hb dX1_fits_29 (by decide) ?_
    cases h
    exact rr_Z (v := 0) C hR hS (by decide) dX1_fits_30
  · have h := iq c h
    refine lv_aload_n hx hb dX1_fits_18 rfl (lv_at hl 0 rfl) ?_
    obtain ⟨v7, zqe8, h⟩ := ob h
    refine gf251 C hR zqe8 dX1_fits_19 ?_
    refine lv_iload_n hx hb dX1_fits_22 rfl (lv_at hl 2 rfl) ?_
    refine rc_SN C hR hS cf_X7_holds cs_X7_holds lk707 (ok_X7_holds v7 x2) ⟨Nat.le_of_ble_eq_true rfl, Nat.le_of_ble_eq_true rfl⟩ ⟨Nat.zero_le _, Nat.zero_le _⟩ rfl rfl hl.1 (Nat.le_of_ble_eq_true rfl) dX1_fits_23 (rc_k1 (fun H locs hR hS => ?_))
    refine lv_if_eq (tgt := 31) hx hb dX1_fits_26 (by decide) (fun c => ?_) (fun c => ?_)
    · have h := ip c h
      refine lv_aload_n hx hb dX1_fits_31 rfl (lv_at hl 0 rfl) ?_
      obtain ⟨v10, zqe11, h⟩ := ob h
      refine gf250 C hR zqe11 dX1_fits_32 ?_
      refine lv_iload_n hx hb dX1_fits_35 rfl (lv_at hl 1 rfl) ?_
      refine lv_iload_n hx hb dX1_fits_36 rfl (lv_at hl 2 rfl) ?_
      obtain ⟨v13, zqe12, h⟩ := ob h
      refine rc_VN C hR hS cf_X2_breathFor cv_X2_breathFor lk708 (ok_X2_breathFor zqe12) (ck_X2_breathFor zqe12) ⟨Nat.le_of_ble_eq_true rfl, Nat.le_of_ble_eq_true rfl⟩ ⟨Nat.zero_le _, Nat.zero_le _⟩ rfl rfl hl.1 (Nat.le_of_ble_eq_true rfl) dX1_fits_37 (rc_k1 (fun H locs hR hS => ?_))
      refine lv_istore_n (lv' := [(3, .int v13), (0, .ref (B + x0)), (1, .int x1), (2, .int x2)]) hx hb dX1_fits_40 rfl hl (by decide) rfl (fun ls hl => ?_)
      refine lv_iload_n hx hb dX1_fits_41 rfl (lv_at hl 0 rfl) ?_
      refine lv_bipush (v := (-9)) hx hb dX1_fits_42 (by decide) ?_
      refine lv_icmp_eq (tgt := 61) hx hb dX1_fits_44 (by decide) (fun c => ?_) (fun c => ?_)
      · have h := ip c h
        refine lv_iconst (v := 0) hx hb dX1_fits_61 (by decide) ?_
        cases h
        exact rr_Z (v := 0) C hR hS (by decide) dX1_fits_62
      · have h := iq c h
        refine lv_iload_n hx hb dX1_fits_47 rfl (lv_at hl 0 rfl) ?_
        refine lv_aload_n hx hb dX1_fits_48 rfl (lv_at hl 1 rfl) ?_
        obtain ⟨v14, zqe15, h⟩ := ob h
        refine gf248 C hR zqe15 dX1_fits_49 ?_
        refine lv_iload_n hx hb dX1_fits_52 rfl (lv_at hl 2 rfl) ?_
        obtain ⟨v16, zqe17, h⟩ := ob h
        refine ra_I C hR zqe17 dX1_fits_53 ?_
        refine lv_icmp_gt (tgt := 61) hx hb dX1_fits_54 (by decide) (fun c => ?_) (fun c => ?_)
        · have h := ip c h
          refine lv_iconst (v := 0) hx hb dX1_fits_61 (by decide) ?_
          cases h
          exact rr_Z (v := 0) C hR hS (by decide) dX1_fits_62
        · have h := iq c h
          refine lv_iconst (v := 1) hx hb dX1_fits_57 (by decide) ?_
          refine lv_goto (tgt := 62) hx hb dX1_fits_58 (by decide) ?_
          cases h
          exact rr_Z (v := 1) C hR hS (by decide) dX1_fits_62
    · have h := iq c h
      refine lv_iconst (v := 0) hx hb dX1_fits_29 (by decide) ?_
      cases h
      exact rr_Z (v := 0) C hR hS (by decide) dX1_fits_30
theorem ck_X1_worth  {x0 : Nat} {x1 : Int32} {x2 : Int32} {M : Mem} {r : Int32} (h : f_X1_worth  x0 x1 x2 M = some r) : kd M x0 = 11 := by
  unfold f_X1_worth at h
  exact ck h
set_option maxHeartbeats 4000000 in
set_option maxRecDepth 100000 in
theorem ok_X1_worth  {x0 : Nat} {x1 : Int32} {x2 : Int32}  {M : Mem} {r : Int32}  (h : f_X1_worth  x0 x1 x2 M = some r) : Ok l yX1_worth cX1_worth 3 (some .int) 2 [.ref (B + x0), .int x1, .int x2] D B ca st M (some (.int r)) M := by
  have hk0 := ck_X1_worth h
  unfold f_X1_worth at h
  have h := ip hk0 h
  refine ok_of rfl rfl (Nat.le_of_ble_eq_true rfl) ?_
  intro p e s m args below meth c ls C hl hR hS
  have hl : lv_has ls 3 [(0, .ref (B + x0)), (1, .int x1), (2, .int x2)] := hl
  have hx := C.1
  have hb := C.2.1
  refine lv_aload_n hx hb dX1_worth_0 rfl (lv_at hl 0 rfl) ?_
  obtain ⟨v1, zqe2, h⟩ := ob h
  refine gf252 C hR zqe2 dX1_worth_1 ?_
  refine lv_if_eq (tgt := 26) hx hb dX1_worth_4 (by decide) (fun c => ?_) (fun c => ?_)
  · have h := ip c h
    refine lv_iconst (v := 1) hx hb dX1_worth_26 (by decide) ?_
    cases h
    exact rr_I C hR hS dX1_worth_27
  · have h := iq c h
    refine lv_aload_n hx hb dX1_worth_7 rfl (lv_at hl 0 rfl) ?_
    obtain ⟨v3, zqe4, h⟩ := ob h
    refine gf250 C hR zqe4 dX1_worth_8 ?_
    refine lv_ifnull hx hb dX1_worth_11 ?_
    refine lv_aload_n hx hb dX1_worth_14 rfl (lv_at hl 0 rfl) ?_
    obtain ⟨v5, zqe6, h⟩ := ob h
    refine gf250 C hR zqe6 dX1_worth_15 ?_
    refine lv_iload_n hx hb dX1_worth_18 rfl (lv_at hl 1 rfl) ?_
    refine lv_iload_n hx hb dX1_worth_19 rfl (lv_at hl 2 rfl) ?_
    obtain ⟨v8, zqe7, h⟩ := ob h
    refine rc_VN C hR hS cf_X2_goldFor cv_X2_goldFor lk713 (ok_X2_goldFor zqe7) (ck_X2_goldFor zqe7) ⟨Nat.le_of_ble_eq_true rfl, Nat.le_of_ble_eq_true rfl⟩ ⟨Nat.zero_le _, Nat.zero_le _⟩ rfl rfl hl.1 (Nat.le_of_ble_eq_true rfl) dX1_worth_20 (rc_k1 (fun H locs hR hS => ?_))
    refine lv_goto (tgt := 27) hx hb dX1_worth_23 (by decide) ?_
    cases h
    exact rr_I C hR hS dX1_worth_27
set_option maxHeartbeats 4000000 in
set_option maxRecDepth 100000 in
theorem w_X1_climb_22 {dp : Nat} {rc : Nat → Int32 → Int32 → Mem → Option Mem}   {r : Mem} {x0 : Nat} {x2 : Int32} {M : Mem} (C : Cx p s m args meth c RX1 cX1_climb 5 none D B ca st) (hrc : ∀ {y0 : Nat} {y1 : Int32} {y2 : Int32} {N : Mem} {q : Mem}, rc y0 y1 y2 N = some q → Ok l yX1_climb cX1_climb 5 none (4 + dp) [.ref (B + y0), .int y1, .int y2] D B ca st N none q) (hck : ∀ {y0 : Nat} {y1 : Int32} {y2 : Int32} {N : Mem} {q : Mem}, rc y0 y1 y2 N = some q → kd N y0 = 11)  (h : f_X1_climb_22 rc x0 x2 M = some r) : ∀ {H : Heap} {locs : List Loc} {ls : Array Slot}, RH D B ca M H → va_S (AA B) s.heap H locs → lv_has ls 5 [(0, .ref (B + x0)), (2, .int x2)] → W p l e (rmD (4 + (dp + 1))) s m args below meth c H locs 0 0 (MQ below (Qp D B ca st none r) args s 0 0 (AA B)) (F0 m 22 ls []) := by
  have hx := C.1
  have hb := C.2.1
  unfold f_X1_climb_22 at h
  intro H locs ls hR hS hl
  refine lv_aload_n hx hb dX1_climb_22 rfl (lv_at hl 0 rfl) ?_
  refine lv_aload_n hx hb dX1_climb_23 rfl (lv_at hl 0 rfl) ?_
  obtain ⟨v13, zqe14, h⟩ := ob h
  refine gf253 C hR zqe14 dX1_climb_24 ?_
  refine lv_iload_n hx hb dX1_climb_27 rfl (lv_at hl 1 rfl) ?_
  refine rm_max C lk714 hl.1 ⟨by simp only [rmD]; omega, Nat.le_trans (m := 40) (Nat.le_of_ble_eq_true rfl) (by simp only [rmD]; omega)⟩ ⟨Nat.zero_le _, Nat.zero_le _⟩ dX1_climb_28 ?_
  obtain ⟨M15, zqe16, h⟩ := ob h
  refine pf253 C hR hS zqe16 dX1_climb_31 (fun H locs hR hS => ?_)
  cases h
  exact rr_V C hR hS dX1_climb_34
set_option maxHeartbeats 4000000 in
set_option maxRecDepth 100000 in
theorem w_X1_climb_53 {dp : Nat} {rc : Nat → Int32 → Int32 → Mem → Option Mem}   {r : Mem} (C : Cx p s m args meth c RX1 cX1_climb 5 none D B ca st) (hrc : ∀ {y0 : Nat} {y1 : Int32} {y2 : Int32} {N : Mem} {q : Mem}, rc y0 y1 y2 N = some q → Ok l yX1_climb cX1_climb 5 none (4 + dp) [.ref (B + y0), .int y1, .int y2] D B ca st N none q) (hck : ∀ {y0 : Nat} {y1 : Int32} {y2 : Int32} {N : Mem} {q : Mem}, rc y0 y1 y2 N = some q → kd N y0 = 11)  : ∀ (n : Nat) {x0 : Nat} {x1 : Int32} {x2 : Int32} {x3 : Int32} {M : Mem}, f_X1_climb_53 rc n x0 x1 x2 x3 M = some r → ∀ {H : Heap} {locs : List Loc} {ls : Array Slot}, RH D B ca M H → va_S (AA B) s.heap H locs → lv_has ls 5 [(0, .ref (B + x0)), (1, .int x1), (2, .int x2), (3, .int x3)] → W p l e (rmD (4 + (dp + 1))) s m args below meth c H locs 0 0 (MQ below (Qp D B ca st none r) args s 0 0 (AA B)) (F0 m 53 ls []) := by
  have hx := C.1
  have hb := C.2.1
  intro n
  induction n with
  | zero => intro x0 x1 x2 x3 M h; simp [f_X1_climb_53] at h
  | succ n ih =>
    intro x0 x1 x2 x3 M h H locs ls hR hS hl
    rw [f_X1_climb_53] at h
    refine lv_iload_n hx hb dX1_climb_53 rfl (lv_at hl 3 rfl) ?_
    refine lv_aload_n hx hb dX1_climb_54 rfl (lv_at hl 0 rfl) ?_
    obtain ⟨v17, zqe18, h⟩ := ob h
    refine gf250 C hR zqe18 dX1_climb_55 ?_
    obtain ⟨v19, zqe20, h⟩ := ob h
    refine gf153 C hR zqe20 dX1_climb_58 ?_
    refine lv_icmp_ge (tgt := 127) hx hb dX1_climb_61 (by decide) (fun c => ?_) (fun c => ?_)
    · have h := ip c h
      refine lv_aload_n hx hb dX1_climb_127 rfl (lv_at hl 0 rfl) ?_
      refine lv_iload_n hx hb dX1_climb_128 rfl (lv_at hl 1 rfl) ?_
      refine lv_iconst (v := 1) hx hb dX1_climb_129 (by decide) ?_
      refine lv_iadd hx hb dX1_climb_130 ?_
      refine lv_iload_n hx hb dX1_climb_131 rfl (lv_at hl 2 rfl) ?_
      obtain ⟨M22, zqe21, h⟩ := ob h
      refine rc_V C hR hS cf_X1_climb cv_X1_climb lk715 (hrc zqe21) (hck zqe21) ⟨by simp only [rmD]; omega, by simp only [rmD]; omega⟩ ⟨Nat.zero_le _, Nat.zero_le _⟩ rfl rfl hl.1 (Nat.le_of_ble_eq_true rfl) dX1_climb_132 (rc_k0 (fun H locs hR hS => ?_))
      cases h
      exact rr_V C hR hS dX1_climb_135
    · have h := iq c h
      refine lv_aload_n hx hb dX1_climb_64 rfl (lv_at hl 0 rfl) ?_
      refine lv_iload_n hx hb dX1_climb_65 rfl (lv_at hl 3 rfl) ?_
      refine lv_iload_n hx hb dX1_climb_66 rfl (lv_at hl 1 rfl) ?_
      obtain ⟨v24, zqe23, h⟩ := ob h
      refine rc_V C hR hS cf_X1_fits cv_X1_fits lk702 (ok_X1_fits zqe23) (ck_X1_fits zqe23) ⟨by simp only [rmD]; omega, by simp only [rmD]; omega⟩ ⟨Nat.zero_le _, Nat.zero_le _⟩ rfl rfl hl.1 (Nat.le_of_ble_eq_true rfl) dX1_climb_67 (rc_k1 (fun H locs hR hS => ?_))
      refine lv_if_eq (tgt := 121) hx hb dX1_climb_70 (by decide) (fun c => ?_) (fun c => ?_)
      · have h := ip c h
        refine lv_iinc (v := (x3 + 1)) (lv' := [(3, .int (x3 + 1)), (0, .ref (B + x0)), (1, .int x1), (2, .int x2)]) hx hb dX1_climb_121 hl (k := 3) rfl rfl (by decide) rfl (fun ls hl => ?_)
        refine lv_goto (tgt := 53) hx hb dX1_climb_124 (by decide) ?_
        exact ih h hR hS (lv_sub hl [1, 2, 3, 0] rfl)
      · have h := iq c h
        refine lv_aload_n hx hb dX1_climb_73 rfl (lv_at hl 0 rfl) ?_
        obtain ⟨v25, zqe26, h⟩ := ob h
        refine gf250 C hR zqe26 dX1_climb_74 ?_
        refine lv_iload_n hx hb dX1_climb_77 rfl (lv_at hl 3 rfl) ?_
        refine lv_iload_n hx hb dX1_climb_78 rfl (lv_at hl 1 rfl) ?_
        obtain ⟨v28, zqe27, h⟩ := ob h
        refine rc_VN C hR hS cf_X2_breathFor cv_X2_breathFor lk708 (ok_X2_breathFor zqe27) (ck_X2_breathFor zqe27) ⟨by simp only [rmD]; omega, by simp only [rmD]; omega⟩ ⟨Nat.zero_le _, Nat.zero_le _⟩ rfl rfl hl.1 (Nat.le_of_ble_eq_true rfl) dX1_climb_79 (rc_k1 (fun H locs hR hS => ?_))
        refine lv_istore (lv' := [(4, .int v28), (0, .ref (B + x0)), (1, .int x1), (2, .int x2), (3, .int x3)]) hx hb dX1_climb_82 hl (by decide) rfl (fun ls hl => ?_)
        refine lv_aload_n hx hb dX1_climb_84 rfl (lv_at hl 1 rfl) ?_
        obtain ⟨v29, zqe30, h⟩ := ob h
        refine gf248 C hR zqe30 dX1_climb_85 ?_
        refine lv_iload_n hx hb dX1_climb_88 rfl (lv_at hl 4 rfl) ?_
        refine lv_dup2_11 hx hb dX1_climb_89 rfl rfl ?_
        obtain ⟨v31, zqe32, h⟩ := ob h
        refine ra_I C hR zqe32 dX1_climb_90 ?_
        refine lv_iload hx hb dX1_climb_91 (lv_at hl 0 rfl) ?_
        refine lv_isub hx hb dX1_climb_93 ?_
        obtain ⟨M33, zqe34, h⟩ := ob h
        refine re_I C hR hS zqe34 dX1_climb_94 (fun H locs hR hS => ?_)
        refine lv_aload_n hx hb dX1_climb_95 rfl (lv_at hl 1 rfl) ?_
        refine lv_iload_n hx hb dX1_climb_96 rfl (lv_at hl 2 rfl) ?_
        refine lv_iconst (v := 1) hx hb dX1_climb_97 (by decide) ?_
        refine lv_iadd hx hb dX1_climb_98 ?_
        refine lv_iload_n hx hb dX1_climb_99 rfl (lv_at hl 3 rfl) ?_
        refine lv_aload_n hx hb dX1_climb_100 rfl (lv_at hl 1 rfl) ?_
        refine lv_iload_n hx hb dX1_climb_101 rfl (lv_at hl 4 rfl) ?_
        refine lv_iload_n hx hb dX1_climb_102 rfl (lv_at hl 2 rfl) ?_
        obtain ⟨v36, zqe35, h⟩ := ob h
        refine rc_V C hR hS cf_X1_worth cv_X1_worth lk709 (ok_X1_worth zqe35) (ck_X1_worth zqe35) ⟨by simp only [rmD]; omega, by simp only [rmD]; omega⟩ ⟨Nat.zero_le _, Nat.zero_le _⟩ rfl rfl hl.1 (Nat.le_of_ble_eq_true rfl) dX1_climb_103 (rc_k1 (fun H locs hR hS => ?_))
        refine lv_iadd hx hb dX1_climb_106 ?_
        obtain ⟨M38, zqe37, h⟩ := ob h
        refine rc_V C hR hS cf_X1_climb cv_X1_climb lk715 (hrc zqe37) (hck zqe37) ⟨by simp only [rmD]; omega, by simp only [rmD]; omega⟩ ⟨Nat.zero_le _, Nat.zero_le _⟩ rfl rfl hl.1 (Nat.le_of_ble_eq_true rfl) dX1_climb_107 (rc_k0 (fun H locs hR hS => ?_))
        refine lv_aload_n hx hb dX1_climb_110 rfl (lv_at hl 1 rfl) ?_
        obtain ⟨v39, zqe40, h⟩ := ob h
        refine gf248 C hR zqe40 dX1_climb_111 ?_
        refine lv_iload_n hx hb dX1_climb_114 rfl (lv_at hl 4 rfl) ?_
        refine lv_dup2_11 hx hb dX1_climb_115 rfl rfl ?_
        obtain ⟨v41, zqe42, h⟩ := ob h
        refine ra_I C hR zqe42 dX1_climb_116 ?_
        refine lv_iload hx hb dX1_climb_117 (lv_at hl 0 rfl) ?_
        refine lv_iadd hx hb dX1_climb_119 ?_
        obtain ⟨M43, zqe44, h⟩ := ob h
        refine re_I C hR hS zqe44 dX1_climb_120 (fun H locs hR hS => ?_)
        refine lv_iinc (v := (x3 + 1)) (lv' := [(3, .int (x3 + 1)), (4, .int v28), (0, .ref (B + x0)), (1, .int x1), (2, .int x2)]) hx hb dX1_climb_121 hl (k := 4) rfl rfl (by decide) rfl (fun ls hl => ?_)
        refine lv_goto (tgt := 53) hx hb dX1_climb_124 (by decide) ?_
        exact ih h hR hS (lv_sub hl [2, 3, 4, 0] rfl)
theorem ck_X1_climb_b {rc : Nat → Int32 → Int32 → Mem → Option Mem} {x0 : Nat} {x1 : Int32} {x2 : Int32} {M : Mem} {r : Mem} (h : f_X1_climb_b rc x0 x1 x2 M = some r) : kd M x0 = 11 := by
  unfold f_X1_climb_b at h
  exact ck h
set_option maxHeartbeats 4000000 in
set_option maxRecDepth 100000 in
theorem ok_X1_climb_b {dp : Nat} {rc : Nat → Int32 → Int32 → Mem → Option Mem} {x0 : Nat} {x1 : Int32} {x2 : Int32}  {M : Mem} {r : Mem} (hrc : ∀ {y0 : Nat} {y1 : Int32} {y2 : Int32} {N : Mem} {q : Mem}, rc y0 y1 y2 N = some q → Ok l yX1_climb cX1_climb 5 none (4 + dp) [.ref (B + y0), .int y1, .int y2] D B ca st N none q) (hck : ∀ {y0 : Nat} {y1 : Int32} {y2 : Int32} {N : Mem} {q : Mem}, rc y0 y1 y2 N = some q → kd N y0 = 11) (h : f_X1_climb_b rc x0 x1 x2 M = some r) : Ok l yX1_climb cX1_climb 5 none (4 + (dp + 1)) [.ref (B + x0), .int x1, .int x2] D B ca st M none r := by
  have hk0 := ck_X1_climb_b h
  unfold f_X1_climb_b at h
  have h := ip hk0 h
  refine ok_of rfl rfl (Nat.le_of_ble_eq_true rfl) ?_
  intro p e s m args below meth c ls C hl hR hS
  have hl : lv_has ls 5 [(0, .ref (B + x0)), (1, .int x1), (2, .int x2)] := hl
  have hx := C.1
  have hb := C.2.1
  refine lv_aload_n hx hb dX1_climb_0 rfl (lv_at hl 0 rfl) ?_
  obtain ⟨v1, zqe2, h⟩ := ob h
  refine gf250 C hR zqe2 dX1_climb_1 ?_
  refine lv_ifnull hx hb dX1_climb_4 ?_
  refine lv_iload_n hx hb dX1_climb_7 rfl (lv_at hl 1 rfl) ?_
  refine lv_if_lt (tgt := 22) hx hb dX1_climb_8 (by decide) (fun c => ?_) (fun c => ?_)
  · have h := ip c h
    exact w_X1_climb_22 C (hrc := @hrc) (hck := @hck)  h hR hS (lv_sub hl [0, 2] rfl)
  · have h := iq c h
    refine lv_iload_n hx hb dX1_climb_11 rfl (lv_at hl 1 rfl) ?_
    refine lv_aload_n hx hb dX1_climb_12 rfl (lv_at hl 0 rfl) ?_
    obtain ⟨v3, zqe4, h⟩ := ob h
    refine gf250 C hR zqe4 dX1_climb_13 ?_
    obtain ⟨v5, zqe6, h⟩ := ob h
    refine gf157 C hR zqe6 dX1_climb_16 ?_
    refine lv_icmp_lt (tgt := 35) hx hb dX1_climb_19 (by decide) (fun c => ?_) (fun c => ?_)
    · have h := ip c h
      refine lv_iload_n hx hb dX1_climb_35 rfl (lv_at hl 2 rfl) ?_
      refine lv_aload_n hx hb dX1_climb_36 rfl (lv_at hl 0 rfl) ?_
      obtain ⟨v7, zqe8, h⟩ := ob h
      refine gf249 C hR zqe8 dX1_climb_37 ?_
      refine lv_iload_n hx hb dX1_climb_40 rfl (lv_at hl 1 rfl) ?_
      obtain ⟨v9, zqe10, h⟩ := ob h
      refine ra_I C hR zqe10 dX1_climb_41 ?_
      refine lv_iadd hx hb dX1_climb_42 ?_
      refine lv_aload_n hx hb dX1_climb_43 rfl (lv_at hl 0 rfl) ?_
      obtain ⟨v11, zqe12, h⟩ := ob h
      refine gf253 C hR zqe12 dX1_climb_44 ?_
      refine lv_icmp_gt (tgt := 51) hx hb dX1_climb_47 (by decide) (fun c => ?_) (fun c => ?_)
      · have h := ip c h
        refine lv_iconst (v := 0) hx hb dX1_climb_51 (by decide) ?_
        refine lv_istore_n (lv' := [(3, .int 0), (0, .ref (B + x0)), (1, .int x1), (2, .int x2)]) hx hb dX1_climb_52 rfl hl (by decide) rfl (fun ls hl => ?_)
        exact w_X1_climb_53 C (hrc := @hrc) (hck := @hck)  FU h hR hS (lv_sub hl [1, 2, 3, 0] rfl)
      · have h := iq c h
        cases h
        exact rr_V C hR hS dX1_climb_50
    · have h := iq c h
      exact w_X1_climb_22 C (hrc := @hrc) (hck := @hck)  h hR hS (lv_sub hl [0, 2] rfl)
theorem ck_X1_climb {dp : Nat} {x0 : Nat} {x1 : Int32} {x2 : Int32} {M : Mem} {r : Mem} (h : f_X1_climb dp x0 x1 x2 M = some r) : kd M x0 = 11 := by
  cases dp with
  | zero => simp [f_X1_climb] at h
  | succ dp => rw [f_X1_climb] at h; exact ck_X1_climb_b h
theorem ok_X1_climb : ∀ {dp : Nat} {x0 : Nat} {x1 : Int32} {x2 : Int32} {M : Mem} {r : Mem}, f_X1_climb dp x0 x1 x2 M = some r → Ok l yX1_climb cX1_climb 5 none (4 + dp) [.ref (B + x0), .int x1, .int x2] D B ca st M none r := by
  intro dp
  induction dp with
  | zero => intro x0 x1 x2 M r h; simp [f_X1_climb] at h
  | succ dp ih => intro x0 x1 x2 M r h; rw [f_X1_climb] at h; exact ok_X1_climb_b (dp := dp) @ih (fun h => ck_X1_climb h) h
set_option maxHeartbeats 4000000 in
set_option maxRecDepth 100000 in
theorem w_X1_setBounds_18  {k10 : Nat → Int32 → Mem → Option Mem}  {r : Mem} (C : Cx p s m args meth c RX1 cX1_setBounds 4 none D B ca st)  (hk10 : ∀ {x0 : Nat} {x1 : Int32} {M : Mem}, k10 x0 x1 M = some r → ∀ {H : Heap} {locs : List Loc} {ls : Array Slot}, RH D B ca M H → va_S (AA B) s.heap H locs → lv_has ls 4 [(0, .ref (B + x0)), (1, .int x1)] → W p l e (rmD 3) s m args below meth c H locs 0 0 (MQ below (Qp D B ca st none r) args s 0 0 (AA B)) (F0 m 10 ls [])) : ∀ (n : Nat) {x0 : Nat} {x1 : Int32} {x2 : Int32} {x3 : Int32} {M : Mem}, f_X1_setBounds_18 k10 n x0 x1 x2 x3 M = some r → ∀ {H : Heap} {locs : List Loc} {ls : Array Slot}, RH D B ca M H → va_S (AA B) s.heap H locs → lv_has ls 4 [(0, .ref (B + x0)), (1, .int x1), (2, .int x2), (3, .int x3)] → W p l e (rmD 3) s m args below meth c H locs 0 0 (MQ below (Qp D B ca st none r) args s 0 0 (AA B)) (F0 m 18 ls []) := by
  have hx := C.1
  have hb := C.2.1
  intro n
  induction n with
  | zero => intro x0 x1 x2 x3 M h; simp [f_X1_setBounds_18] at h
  | succ n ih =>
    intro x0 x1 x2 x3 M h H locs ls hR hS hl
    rw [f_X1_setBounds_18] at h
    refine lv_iload_n hx hb dX1_setBounds_18 rfl (lv_at hl 3 rfl) ?_
    refine lv_iconst (v := 5) hx hb dX1_setBounds_19 (by decide) ?_
    refine lv_icmp_ge (tgt := 53) hx hb dX1_setBounds_20 (by decide) (fun c => ?_) (fun c => ?_)
    · have h := ip c h
      refine lv_aload_n hx hb dX1_setBounds_53 rfl (lv_at hl 0 rfl) ?_
      obtain ⟨v5, zqe6, h⟩ := ob h
      refine gf249 C hR zqe6 dX1_setBounds_54 ?_
      refine lv_iload_n hx hb dX1_setBounds_57 rfl (lv_at hl 1 rfl) ?_
      refine lv_aload_n hx hb dX1_setBounds_58 rfl (lv_at hl 0 rfl) ?_
      obtain ⟨v7, zqe8, h⟩ := ob h
      refine gf249 C hR zqe8 dX1_setBounds_59 ?_
      refine lv_iload_n hx hb dX1_setBounds_62 rfl (lv_at hl 1 rfl) ?_
      refine lv_iconst (v := 1) hx hb dX1_setBounds_63 (by decide) ?_
      refine lv_iadd hx hb dX1_setBounds_64 ?_
      obtain ⟨v9, zqe10, h⟩ := ob h
      refine ra_I C hR zqe10 dX1_setBounds_65 ?_
      refine lv_iload_n hx hb dX1_setBounds_66 rfl (lv_at hl 2 rfl) ?_
      refine lv_iadd hx hb dX1_setBounds_67 ?_
      obtain ⟨M11, zqe12, h⟩ := ob h
      refine re_I C hR hS zqe12 dX1_setBounds_68 (fun H locs hR hS => ?_)
      refine lv_iinc (v := (x1 + (-1))) (lv' := [(1, .int (x1 + (-1))), (0, .ref (B + x0)), (2, .int x2), (3, .int x3)]) hx hb dX1_setBounds_69 hl (k := 1) rfl rfl (by decide) rfl (fun ls hl => ?_)
      refine lv_goto (tgt := 10) hx hb dX1_setBounds_72 (by decide) ?_
      exact hk10 h hR hS (lv_sub hl [1, 0] rfl)
    · have h := iq c h
      refine lv_aload_n hx hb dX1_setBounds_23 rfl (lv_at hl 0 rfl) ?_
      refine lv_iload_n hx hb dX1_setBounds_24 rfl (lv_at hl 3 rfl) ?_
      refine lv_iload_n hx hb dX1_setBounds_25 rfl (lv_at hl 1 rfl) ?_
      obtain ⟨v14, zqe13, h⟩ := ob h
      refine rc_V C hR hS cf_X1_fits cv_X1_fits lk702 (ok_X1_fits zqe13) (ck_X1_fits zqe13) ⟨Nat.le_of_ble_eq_true rfl, Nat.le_of_ble_eq_true rfl⟩ ⟨Nat.zero_le _, Nat.zero_le _⟩ rfl rfl hl.1 (Nat.le_of_ble_eq_true rfl) dX1_setBounds_26 (rc_k1 (fun H locs hR hS => ?_))
      refine lv_if_eq (tgt := 45) hx hb dX1_setBounds_29 (by decide) (fun c => ?_) (fun c => ?_)
      · have h := ip c h
        refine lv_iload_n hx hb dX1_setBounds_45 rfl (lv_at hl 2 rfl) ?_
        refine lv_istore_n (lv' := [(2, .int x2), (0, .ref (B + x0)), (1, .int x1), (3, .int x3)]) hx hb dX1_setBounds_46 rfl hl (by decide) rfl (fun ls hl => ?_)
        refine lv_iinc (v := (x3 + 1)) (lv' := [(3, .int (x3 + 1)), (2, .int x2), (0, .ref (B + x0)), (1, .int x1)]) hx hb dX1_setBounds_47 hl (k := 3) rfl rfl (by decide) rfl (fun ls hl => ?_)
        refine lv_goto (tgt := 18) hx hb dX1_setBounds_50 (by decide) ?_
        exact ih h hR hS (lv_sub hl [2, 3, 1, 0] rfl)
      · have h := iq c h
        refine lv_iload_n hx hb dX1_setBounds_32 rfl (lv_at hl 2 rfl) ?_
        refine lv_aload_n hx hb dX1_setBounds_33 rfl (lv_at hl 0 rfl) ?_
        refine lv_iload_n hx hb dX1_setBounds_34 rfl (lv_at hl 3 rfl) ?_
        refine lv_iload_n hx hb dX1_setBounds_35 rfl (lv_at hl 1 rfl) ?_
        obtain ⟨v16, zqe15, h⟩ := ob h
        refine rc_V C hR hS cf_X1_worth cv_X1_worth lk709 (ok_X1_worth zqe15) (ck_X1_worth zqe15) ⟨Nat.le_of_ble_eq_true rfl, Nat.le_of_ble_eq_true rfl⟩ ⟨Nat.zero_le _, Nat.zero_le _⟩ rfl rfl hl.1 (Nat.le_of_ble_eq_true rfl) dX1_setBounds_36 (rc_k1 (fun H locs hR hS => ?_))
        refine rm_max C lk714 hl.1 ⟨Nat.le_of_ble_eq_true rfl, Nat.le_of_ble_eq_true rfl⟩ ⟨Nat.zero_le _, Nat.zero_le _⟩ dX1_setBounds_39 ?_
        refine lv_goto (tgt := 46) hx hb dX1_setBounds_42 (by decide) ?_
        refine lv_istore_n (lv' := [(2, .int (f_J9_max_7cf53 x2 v16)), (0, .ref (B + x0)), (1, .int x1), (3, .int x3)]) hx hb dX1_setBounds_46 rfl hl (by decide) rfl (fun ls hl => ?_)
        refine lv_iinc (v := (x3 + 1)) (lv' := [(3, .int (x3 + 1)), (2, .int (f_J9_max_7cf53 x2 v16)), (0, .ref (B + x0)), (1, .int x1)]) hx hb dX1_setBounds_47 hl (k := 3) rfl rfl (by decide) rfl (fun ls hl => ?_)
        refine lv_goto (tgt := 18) hx hb dX1_setBounds_50 (by decide) ?_
        exact ih h hR hS (lv_sub hl [2, 3, 1, 0] rfl)
set_option maxHeartbeats 4000000 in
set_option maxRecDepth 100000 in
theorem w_X1_setBounds_10    {r : Mem} (C : Cx p s m args meth c RX1 cX1_setBounds 4 none D B ca st)   : ∀ (n : Nat) {x0 : Nat} {x1 : Int32} {M : Mem}, f_X1_setBounds_10  n x0 x1 M = some r → ∀ {H : Heap} {locs : List Loc} {ls : Array Slot}, RH D B ca M H → va_S (AA B) s.heap H locs → lv_has ls 4 [(0, .ref (B + x0)), (1, .int x1)] → W p l e (rmD 3) s m args below meth c H locs 0 0 (MQ below (Qp D B ca st none r) args s 0 0 (AA B)) (F0 m 10 ls []) := by
  have hx := C.1
  have hb := C.2.1
  intro n
  induction n with
  | zero => intro x0 x1 M h; simp [f_X1_setBounds_10] at h
  | succ n ih =>
    intro x0 x1 M h H locs ls hR hS hl
    rw [f_X1_setBounds_10] at h
    refine lv_iload_n hx hb dX1_setBounds_10 rfl (lv_at hl 1 rfl) ?_
    refine lv_if_lt (tgt := 75) hx hb dX1_setBounds_11 (by decide) (fun c => ?_) (fun c => ?_)
    · have h := ip c h
      cases h
      exact rr_V C hR hS dX1_setBounds_75
    · have h := iq c h
      refine lv_iconst (v := 0) hx hb dX1_setBounds_14 (by decide) ?_
      refine lv_istore_n (lv' := [(2, .int 0), (0, .ref (B + x0)), (1, .int x1)]) hx hb dX1_setBounds_15 rfl hl (by decide) rfl (fun ls hl => ?_)
      refine lv_iconst (v := 0) hx hb dX1_setBounds_16 (by decide) ?_
      refine lv_istore_n (lv' := [(3, .int 0), (2, .int 0), (0, .ref (B + x0)), (1, .int x1)]) hx hb dX1_setBounds_17 rfl hl (by decide) rfl (fun ls hl => ?_)
      exact w_X1_setBounds_18 C (hk10 := @ih) FU h hR hS (lv_sub hl [2, 3, 1, 0] rfl)
theorem ck_X1_setBounds  {x0 : Nat} {M : Mem} {r : Mem} (h : f_X1_setBounds  x0 M = some r) : kd M x0 = 11 := by
  unfold f_X1_setBounds at h
  exact ck h
set_option maxHeartbeats 4000000 in
set_option maxRecDepth 100000 in
theorem ok_X1_setBounds  {x0 : Nat}  {M : Mem} {r : Mem}  (h : f_X1_setBounds  x0 M = some r) : Ok l yX1_setBounds cX1_setBounds 4 none 3 [.ref (B + x0)] D B ca st M none r := by
  have hk0 := ck_X1_setBounds h
  unfold f_X1_setBounds at h
  have h := ip hk0 h
  refine ok_of rfl rfl (Nat.le_of_ble_eq_true rfl) ?_
  intro p e s m args below meth c ls C hl hR hS
  have hl : lv_has ls 4 [(0, .ref (B + x0))] := hl
  have hx := C.1
  have hb := C.2.1
  refine lv_aload_n hx hb dX1_setBounds_0 rfl (lv_at hl 0 rfl) ?_
  obtain ⟨v1, zqe2, h⟩ := ob h
  refine gf249 C hR zqe2 dX1_setBounds_1 ?_
  refine lv_iconst (v := 0) hx hb dX1_setBounds_4 (by decide) ?_
  obtain ⟨M4, zqe3, h⟩ := ob h
  refine rc_S C hR hS cf_J7_fill_53178 cs_J7_fill_53178 lk697 (ok_J7_fill_53178 zqe3) ⟨Nat.le_of_ble_eq_true rfl, Nat.le_of_ble_eq_true rfl⟩ ⟨Nat.zero_le _, Nat.zero_le _⟩ rfl rfl hl.1 (Nat.le_of_ble_eq_true rfl) dX1_setBounds_5 (rc_k0 (fun H locs hR hS => ?_))
  refine lv_iconst (v := 5) hx hb dX1_setBounds_8 (by decide) ?_
  refine lv_istore_n (lv' := [(1, .int 5), (0, .ref (B + x0))]) hx hb dX1_setBounds_9 rfl hl (by decide) rfl (fun ls hl => ?_)
  exact w_X1_setBounds_10 C  FU h hR hS (lv_sub hl [1, 0] rfl)
set_option maxHeartbeats 4000000 in
set_option maxRecDepth 100000 in
theorem w_X1_settle_22 {dp : Nat} {rc : Nat → Int32 → Int32 → Mem → Option (Int32 × Mem)}   {r : Int32 × Mem} {x0 : Nat} {x2 : Int32} {M : Mem} (C : Cx p s m args meth c RX1 cX1_settle 6 (some .boolean) D B ca st) (hrc : ∀ {y0 : Nat} {y1 : Int32} {y2 : Int32} {N : Mem} {q : Int32 × Mem}, rc y0 y1 y2 N = some q → Ok l yX1_settle cX1_settle 6 (some .boolean) (4 + dp) [.ref (B + y0), .int y1, .int y2] D B ca st N (some (.int q.1)) q.2) (hck : ∀ {y0 : Nat} {y1 : Int32} {y2 : Int32} {N : Mem} {q : Int32 × Mem}, rc y0 y1 y2 N = some q → kd N y0 = 11)  (h : f_X1_settle_22 rc x0 x2 M = some r) : ∀ {H : Heap} {locs : List Loc} {ls : Array Slot}, RH D B ca M H → va_S (AA B) s.heap H locs → lv_has ls 6 [(0, .ref (B + x0)), (2, .int x2)] → W p l e (rmD (4 + (dp + 1))) s m args below meth c H locs 0 0 (MQ below (Qp D B ca st (some (.int r.1)) r.2) args s 0 0 (AA B)) (F0 m 22 ls []) := by
  have hx := C.1
  have hb := C.2.1
  unfold f_X1_settle_22 at h
  intro H locs ls hR hS hl
  refine lv_iload_n hx hb dX1_settle_22 rfl (lv_at hl 1 rfl) ?_
  refine lv_aload_n hx hb dX1_settle_23 rfl (lv_at hl 0 rfl) ?_
  obtain ⟨v20, zqe21, h⟩ := ob h
  refine gf253 C hR zqe21 dX1_settle_24 ?_
  refine lv_icmp_lt (tgt := 34) hx hb dX1_settle_27 (by decide) (fun c => ?_) (fun c => ?_)
  · have h := ip c h
    refine lv_iconst (v := 0) hx hb dX1_settle_34 (by decide) ?_
    cases h
    exact rr_Z (v := 0) C hR hS (by decide) dX1_settle_35
  · have h := iq c h
    refine lv_iconst (v := 1) hx hb dX1_settle_30 (by decide) ?_
    refine lv_goto (tgt := 35) hx hb dX1_settle_31 (by decide) ?_
    cases h
    exact rr_Z (v := 1) C hR hS (by decide) dX1_settle_35
set_option maxHeartbeats 4000000 in
set_option maxRecDepth 100000 in
theorem w_X1_settle_73 {dp : Nat} {rc : Nat → Int32 → Int32 → Mem → Option (Int32 × Mem)}   {r : Int32 × Mem} (C : Cx p s m args meth c RX1 cX1_settle 6 (some .boolean) D B ca st) (hrc : ∀ {y0 : Nat} {y1 : Int32} {y2 : Int32} {N : Mem} {q : Int32 × Mem}, rc y0 y1 y2 N = some q → Ok l yX1_settle cX1_settle 6 (some .boolean) (4 + dp) [.ref (B + y0), .int y1, .int y2] D B ca st N (some (.int q.1)) q.2) (hck : ∀ {y0 : Nat} {y1 : Int32} {y2 : Int32} {N : Mem} {q : Int32 × Mem}, rc y0 y1 y2 N = some q → kd N y0 = 11)  : ∀ (n : Nat) {x0 : Nat} {x1 : Int32} {x2 : Int32} {x3 : Int32} {x4 : Int32} {M : Mem}, f_X1_settle_73 rc n x0 x1 x2 x3 x4 M = some r → ∀ {H : Heap} {locs : List Loc} {ls : Array Slot}, RH D B ca M H → va_S (AA B) s.heap H locs → lv_has ls 6 [(0, .ref (B + x0)), (1, .int x1), (2, .int x2), (3, .int x3), (4, .int x4)] → W p l e (rmD (4 + (dp + 1))) s m args below meth c H locs 0 0 (MQ below (Qp D B ca st (some (.int r.1)) r.2) args s 0 0 (AA B)) (F0 m 73 ls []) := by
  have hx := C.1
  have hb := C.2.1
  intro n
  induction n with
  | zero => intro x0 x1 x2 x3 x4 M h; simp [f_X1_settle_73] at h
  | succ n ih =>
    intro x0 x1 x2 x3 x4 M h H locs ls hR hS hl
    rw [f_X1_settle_73] at h
    refine lv_iload hx hb dX1_settle_73 (lv_at hl 4 rfl) ?_
    refine lv_aload_n hx hb dX1_settle_75 rfl (lv_at hl 0 rfl) ?_
    obtain ⟨v22, zqe23, h⟩ := ob h
    refine gf250 C hR zqe23 dX1_settle_76 ?_
    obtain ⟨v24, zqe25, h⟩ := ob h
    refine gf153 C hR zqe25 dX1_settle_79 ?_
    refine lv_icmp_ge (tgt := 166) hx hb dX1_settle_82 (by decide) (fun c => ?_) (fun c => ?_)
    · have h := ip c h
      refine lv_iload_n hx hb dX1_settle_166 rfl (lv_at hl 3 rfl) ?_
      obtain ⟨zqb26, zqe27, h⟩ := ob h
      cases h
      exact rr_Z C hR hS (bz_self zqe27) dX1_settle_167
    · have h := iq c h
      refine lv_iload_n hx hb dX1_settle_85 rfl (lv_at hl 3 rfl) ?_
      refine lv_if_ne (tgt := 166) hx hb dX1_settle_86 (by decide) (fun c => ?_) (fun c => ?_)
      · have h := iq c h
        refine lv_iload_n hx hb dX1_settle_166 rfl (lv_at hl 3 rfl) ?_
        obtain ⟨zqb28, zqe29, h⟩ := ob h
        cases h
        exact rr_Z C hR hS (bz_self zqe29) dX1_settle_167
      · have h := ip c h
        refine lv_aload_n hx hb dX1_settle_89 rfl (lv_at hl 0 rfl) ?_
        refine lv_iload hx hb dX1_settle_90 (lv_at hl 4 rfl) ?_
        refine lv_iload_n hx hb dX1_settle_92 rfl (lv_at hl 1 rfl) ?_
        obtain ⟨v31, zqe30, h⟩ := ob h
        refine rc_V C hR hS cf_X1_fits cv_X1_fits lk702 (ok_X1_fits zqe30) (ck_X1_fits zqe30) ⟨by simp only [rmD]; omega, by simp only [rmD]; omega⟩ ⟨Nat.zero_le _, Nat.zero_le _⟩ rfl rfl hl.1 (Nat.le_of_ble_eq_true rfl) dX1_settle_93 (rc_k1 (fun H locs hR hS => ?_))
        refine lv_if_eq (tgt := 160) hx hb dX1_settle_96 (by decide) (fun c => ?_) (fun c => ?_)
        · have h := ip c h
          refine lv_iinc (v := (x4 + 1)) (lv' := [(4, .int (x4 + 1)), (0, .ref (B + x0)), (1, .int x1), (2, .int x2), (3, .int x3)]) hx hb dX1_settle_160 hl (k := 4) rfl rfl (by decide) rfl (fun ls hl => ?_)
          refine lv_goto (tgt := 73) hx hb dX1_settle_163 (by decide) ?_
          exact ih h hR hS (lv_sub hl [1, 2, 3, 4, 0] rfl)
        · have h := iq c h
          refine lv_aload_n hx hb dX1_settle_99 rfl (lv_at hl 0 rfl) ?_
          obtain ⟨v32, zqe33, h⟩ := ob h
          refine gf250 C hR zqe33 dX1_settle_100 ?_
          refine lv_iload hx hb dX1_settle_103 (lv_at hl 4 rfl) ?_
          refine lv_iload_n hx hb dX1_settle_105 rfl (lv_at hl 1 rfl) ?_
          obtain ⟨v35, zqe34, h⟩ := ob h
          refine rc_VN C hR hS cf_X2_breathFor cv_X2_breathFor lk708 (ok_X2_breathFor zqe34) (ck_X2_breathFor zqe34) ⟨by simp only [rmD]; omega, by simp only [rmD]; omega⟩ ⟨Nat.zero_le _, Nat.zero_le _⟩ rfl rfl hl.1 (Nat.le_of_ble_eq_true rfl) dX1_settle_106 (rc_k1 (fun H locs hR hS => ?_))
          refine lv_istore (lv' := [(5, .int v35), (0, .ref (B + x0)), (1, .int x1), (2, .int x2), (3, .int x3), (4, .int x4)]) hx hb dX1_settle_109 hl (by decide) rfl (fun ls hl => ?_)
          refine lv_aload_n hx hb dX1_settle_111 rfl (lv_at hl 1 rfl) ?_
          obtain ⟨v36, zqe37, h⟩ := ob h
          refine gf246 C hR zqe37 dX1_settle_112 ?_
          refine lv_iload_n hx hb dX1_settle_115 rfl (lv_at hl 2 rfl) ?_
          refine lv_iload hx hb dX1_settle_116 (lv_at hl 5 rfl) ?_
          obtain ⟨M38, zqe39, h⟩ := ob h
          refine re_I C hR hS zqe39 dX1_settle_118 (fun H locs hR hS => ?_)
          refine lv_aload_n hx hb dX1_settle_119 rfl (lv_at hl 1 rfl) ?_
          obtain ⟨v40, zqe41, h⟩ := ob h
          refine gf248 C hR zqe41 dX1_settle_120 ?_
          refine lv_iload hx hb dX1_settle_123 (lv_at hl 5 rfl) ?_
          refine lv_dup2_11 hx hb dX1_settle_125 rfl rfl ?_
          obtain ⟨v42, zqe43, h⟩ := ob h
          refine ra_I C hR zqe43 dX1_settle_126 ?_
          refine lv_iload hx hb dX1_settle_127 (lv_at hl 0 rfl) ?_
          refine lv_isub hx hb dX1_settle_129 ?_
          obtain ⟨M44, zqe45, h⟩ := ob h
          refine re_I C hR hS zqe45 dX1_settle_130 (fun H locs hR hS => ?_)
          refine lv_aload_n hx hb dX1_settle_131 rfl (lv_at hl 1 rfl) ?_
          refine lv_iload_n hx hb dX1_settle_132 rfl (lv_at hl 2 rfl) ?_
          refine lv_iconst (v := 1) hx hb dX1_settle_133 (by decide) ?_
          refine lv_iadd hx hb dX1_settle_134 ?_
          refine lv_iload_n hx hb dX1_settle_135 rfl (lv_at hl 3 rfl) ?_
          refine lv_aload_n hx hb dX1_settle_136 rfl (lv_at hl 1 rfl) ?_
          refine lv_iload hx hb dX1_settle_137 (lv_at hl 5 rfl) ?_
          refine lv_iload_n hx hb dX1_settle_139 rfl (lv_at hl 2 rfl) ?_
          obtain ⟨v47, zqe46, h⟩ := ob h
          refine rc_V C hR hS cf_X1_worth cv_X1_worth lk709 (ok_X1_worth zqe46) (ck_X1_worth zqe46) ⟨by simp only [rmD]; omega, by simp only [rmD]; omega⟩ ⟨Nat.zero_le _, Nat.zero_le _⟩ rfl rfl hl.1 (Nat.le_of_ble_eq_true rfl) dX1_settle_140 (rc_k1 (fun H locs hR hS => ?_))
          refine lv_iadd hx hb dX1_settle_143 ?_
          obtain ⟨qv49, zqe48, h⟩ := ob h
          refine rc_V C hR hS cf_X1_settle cv_X1_settle lk719 (hrc zqe48) (hck zqe48) ⟨by simp only [rmD]; omega, by simp only [rmD]; omega⟩ ⟨Nat.zero_le _, Nat.zero_le _⟩ rfl rfl hl.1 (Nat.le_of_ble_eq_true rfl) dX1_settle_144 (rc_k1 (fun H locs hR hS => ?_))
          refine lv_istore_n (lv' := [(3, .int qv49.1), (5, .int v35), (0, .ref (B + x0)), (1, .int x1), (2, .int x2), (4, .int x4)]) hx hb dX1_settle_147 rfl hl (by decide) rfl (fun ls hl => ?_)
          refine lv_aload_n hx hb dX1_settle_148 rfl (lv_at hl 2 rfl) ?_
          obtain ⟨v51, zqe52, h⟩ := ob h
          refine gf248 C hR zqe52 dX1_settle_149 ?_
          refine lv_iload hx hb dX1_settle_152 (lv_at hl 5 rfl) ?_
          refine lv_dup2_11 hx hb dX1_settle_154 rfl rfl ?_
          obtain ⟨v53, zqe54, h⟩ := ob h
          refine ra_I C hR zqe54 dX1_settle_155 ?_
          refine lv_iload hx hb dX1_settle_156 (lv_at hl 1 rfl) ?_
          refine lv_iadd hx hb dX1_settle_158 ?_
          obtain ⟨M55, zqe56, h⟩ := ob h
          refine re_I C hR hS zqe56 dX1_settle_159 (fun H locs hR hS => ?_)
          refine lv_iinc (v := (x4 + 1)) (lv' := [(4, .int (x4 + 1)), (3, .int qv49.1), (5, .int v35), (0, .ref (B + x0)), (1, .int x1), (2, .int x2)]) hx hb dX1_settle_160 hl (k := 5) rfl rfl (by decide) rfl (fun ls hl => ?_)
          refine lv_goto (tgt := 73) hx hb dX1_settle_163 (by decide) ?_
          exact ih h hR hS (lv_sub hl [3, 4, 5, 1, 0] rfl)
theorem ck_X1_settle_b {rc : Nat → Int32 → Int32 → Mem → Option (Int32 × Mem)} {x0 : Nat} {x1 : Int32} {x2 : Int32} {M : Mem} {r : Int32 × Mem} (h : f_X1_settle_b rc x0 x1 x2 M = some r) : kd M x0 = 11 := by
  unfold f_X1_settle_b at h
  exact ck h
set_option maxHeartbeats 4000000 in
set_option maxRecDepth 100000 in
theorem ok_X1_settle_b {dp : Nat} {rc : Nat → Int32 → Int32 → Mem → Option (Int32 × Mem)} {x0 : Nat} {x1 : Int32} {x2 : Int32}  {M : Mem} {r : Int32 × Mem} (hrc : ∀ {y0 : Nat} {y1 : Int32} {y2 : Int32} {N : Mem} {q : Int32 × Mem}, rc y0 y1 y2 N = some q → Ok l yX1_settle cX1_settle 6 (some .boolean) (4 + dp) [.ref (B + y0), .int y1, .int y2] D B ca st N (some (.int q.1)) q.2) (hck : ∀ {y0 : Nat} {y1 : Int32} {y2 : Int32} {N : Mem} {q : Int32 × Mem}, rc y0 y1 y2 N = some q → kd N y0 = 11) (h : f_X1_settle_b rc x0 x1 x2 M = some r) : Ok l yX1_settle cX1_settle 6 (some .boolean) (4 + (dp + 1)) [.ref (B + x0), .int x1, .int x2] D B ca st M (some (.int r.1)) r.2 := by
  have hk0 := ck_X1_settle_b h
  unfold f_X1_settle_b at h
  have h := ip hk0 h
  refine ok_of rfl rfl (Nat.le_of_ble_eq_true rfl) ?_
  intro p e s m args below meth c ls C hl hR hS
  have hl : lv_has ls 6 [(0, .ref (B + x0)), (1, .int x1), (2, .int x2)] := hl
  have hx := C.1
  have hb := C.2.1
  refine lv_aload_n hx hb dX1_settle_0 rfl (lv_at hl 0 rfl) ?_
  obtain ⟨v1, zqe2, h⟩ := ob h
  refine gf250 C hR zqe2 dX1_settle_1 ?_
  refine lv_ifnull hx hb dX1_settle_4 ?_
  refine lv_iload_n hx hb dX1_settle_7 rfl (lv_at hl 1 rfl) ?_
  refine lv_if_lt (tgt := 22) hx hb dX1_settle_8 (by decide) (fun c => ?_) (fun c => ?_)
  · have h := ip c h
    exact w_X1_settle_22 C (hrc := @hrc) (hck := @hck)  h hR hS (lv_sub hl [0, 2] rfl)
  · have h := iq c h
    refine lv_iload_n hx hb dX1_settle_11 rfl (lv_at hl 1 rfl) ?_
    refine lv_aload_n hx hb dX1_settle_12 rfl (lv_at hl 0 rfl) ?_
    obtain ⟨v3, zqe4, h⟩ := ob h
    refine gf250 C hR zqe4 dX1_settle_13 ?_
    obtain ⟨v5, zqe6, h⟩ := ob h
    refine gf157 C hR zqe6 dX1_settle_16 ?_
    refine lv_icmp_lt (tgt := 36) hx hb dX1_settle_19 (by decide) (fun c => ?_) (fun c => ?_)
    · have h := ip c h
      refine lv_iload_n hx hb dX1_settle_36 rfl (lv_at hl 2 rfl) ?_
      refine lv_aload_n hx hb dX1_settle_37 rfl (lv_at hl 0 rfl) ?_
      obtain ⟨v7, zqe8, h⟩ := ob h
      refine gf249 C hR zqe8 dX1_settle_38 ?_
      refine lv_iload_n hx hb dX1_settle_41 rfl (lv_at hl 1 rfl) ?_
      obtain ⟨v9, zqe10, h⟩ := ob h
      refine ra_I C hR zqe10 dX1_settle_42 ?_
      refine lv_iadd hx hb dX1_settle_43 ?_
      refine lv_aload_n hx hb dX1_settle_44 rfl (lv_at hl 0 rfl) ?_
      obtain ⟨v11, zqe12, h⟩ := ob h
      refine gf253 C hR zqe12 dX1_settle_45 ?_
      refine lv_icmp_ge (tgt := 53) hx hb dX1_settle_48 (by decide) (fun c => ?_) (fun c => ?_)
      · have h := ip c h
        refine lv_aload_n hx hb dX1_settle_53 rfl (lv_at hl 0 rfl) ?_
        obtain ⟨v13, zqe14, h⟩ := ob h
        refine gf246 C hR zqe14 dX1_settle_54 ?_
        refine lv_iload_n hx hb dX1_settle_57 rfl (lv_at hl 1 rfl) ?_
        refine lv_bipush (v := (-9)) hx hb dX1_settle_58 (by decide) ?_
        obtain ⟨M15, zqe16, h⟩ := ob h
        refine re_I C hR hS zqe16 dX1_settle_60 (fun H locs hR hS => ?_)
        refine lv_aload_n hx hb dX1_settle_61 rfl (lv_at hl 0 rfl) ?_
        refine lv_iload_n hx hb dX1_settle_62 rfl (lv_at hl 1 rfl) ?_
        refine lv_iconst (v := 1) hx hb dX1_settle_63 (by decide) ?_
        refine lv_iadd hx hb dX1_settle_64 ?_
        refine lv_iload_n hx hb dX1_settle_65 rfl (lv_at hl 2 rfl) ?_
        obtain ⟨qv18, zqe17, h⟩ := ob h
        refine rc_V C hR hS cf_X1_settle cv_X1_settle lk719 (hrc zqe17) (hck zqe17) ⟨by simp only [rmD]; omega, by simp only [rmD]; omega⟩ ⟨Nat.zero_le _, Nat.zero_le _⟩ rfl rfl hl.1 (Nat.le_of_ble_eq_true rfl) dX1_settle_66 (rc_k1 (fun H locs hR hS => ?_))
        refine lv_istore_n (lv' := [(3, .int qv18.1), (0, .ref (B + x0)), (1, .int x1), (2, .int x2)]) hx hb dX1_settle_69 rfl hl (by decide) rfl (fun ls hl => ?_)
        refine lv_iconst (v := 0) hx hb dX1_settle_70 (by decide) ?_
        refine lv_istore (lv' := [(4, .int 0), (3, .int qv18.1), (0, .ref (B + x0)), (1, .int x1), (2, .int x2)]) hx hb dX1_settle_71 hl (by decide) rfl (fun ls hl => ?_)
        exact w_X1_settle_73 C (hrc := @hrc) (hck := @hck)  FU h hR hS (lv_sub hl [2, 3, 4, 1, 0] rfl)
      · have h := iq c h
        refine lv_iconst (v := 0) hx hb dX1_settle_51 (by decide) ?_
        cases h
        exact rr_Z (v := 0) C hR hS (by decide) dX1_settle_52
    · have h := iq c h
      exact w_X1_settle_22 C (hrc := @hrc) (hck := @hck)  h hR hS (lv_sub hl [0, 2] rfl)
theorem ck_X1_settle {dp : Nat} {x0 : Nat} {x1 : Int32} {x2 : Int32} {M : Mem} {r : Int32 × Mem} (h : f_X1_settle dp x0 x1 x2 M = some r) : kd M x0 = 11 := by
  cases dp with
  | zero => simp [f_X1_settle] at h
  | succ dp => rw [f_X1_settle] at h; exact ck_X1_settle_b h
theorem ok_X1_settle : ∀ {dp : Nat} {x0 : Nat} {x1 : Int32} {x2 : Int32} {M : Mem} {r : Int32 × Mem}, f_X1_settle dp x0 x1 x2 M = some r → Ok l yX1_settle cX1_settle 6 (some .boolean) (4 + dp) [.ref (B + x0), .int x1, .int x2] D B ca st M (some (.int r.1)) r.2 := by
  intro dp
  induction dp with
  | zero => intro x0 x1 x2 M r h; simp [f_X1_settle] at h
  | succ dp ih => intro x0 x1 x2 M r h; rw [f_X1_settle] at h; exact ok_X1_settle_b (dp := dp) @ih (fun h => ck_X1_settle h) h
theorem ck_X1_search  {x0 : Nat} {x1 : Nat} {x2 : Nat} {x3 : Int32} {M : Mem} {r : Int32 × Mem} (h : f_X1_search  x0 x1 x2 x3 M = some r) : kd M x0 = 11 := by
  unfold f_X1_search at h
  exact ck h
set_option maxHeartbeats 4000000 in
set_option maxRecDepth 100000 in
theorem ok_X1_search  {x0 : Nat} {x1 : Nat} {x2 : Nat} {x3 : Int32}  {M : Mem} {r : Int32 × Mem}  (h : f_X1_search  x0 x1 x2 x3 M = some r) : Ok l yX1_search cX1_search 4 (some .int) 13 [.ref (B + x0), .ref (B + x1), .ref (B + x2), .int x3] D B ca st M (some (.int r.1)) r.2 := by
  have hk0 := ck_X1_search h
  unfold f_X1_search at h
  have h := ip hk0 h
  refine ok_of rfl rfl (Nat.le_of_ble_eq_true rfl) ?_
  intro p e s m args below meth c ls C hl hR hS
  have hl : lv_has ls 4 [(0, .ref (B + x0)), (1, .ref (B + x1)), (2, .ref (B + x2)), (3, .int x3)] := hl
  have hx := C.1
  have hb := C.2.1
  refine lv_aload_n hx hb dX1_search_0 rfl (lv_at hl 0 rfl) ?_
  refine lv_aload_n hx hb dX1_search_1 rfl (lv_at hl 1 rfl) ?_
  obtain ⟨M1, zqe2, h⟩ := ob h
  refine pf250 C hR hS zqe2 dX1_search_2 (fun H locs hR hS => ?_)
  refine lv_aload_n hx hb dX1_search_5 rfl (lv_at hl 0 rfl) ?_
  refine lv_aload_n hx hb dX1_search_6 rfl (lv_at hl 2 rfl) ?_
  obtain ⟨v3, zqe4, h⟩ := ob h
  refine gf210 C hR zqe4 dX1_search_7 ?_
  obtain ⟨M5, zqe6, h⟩ := ob h
  refine pf251 C hR hS zqe6 dX1_search_10 (fun H locs hR hS => ?_)
  refine lv_aload_n hx hb dX1_search_13 rfl (lv_at hl 0 rfl) ?_
  refine lv_iload_n hx hb dX1_search_14 rfl (lv_at hl 3 rfl) ?_
  obtain ⟨zqb30, zqe31, h⟩ := ob h
  obtain ⟨M7, zqe8, h⟩ := ob h
  refine pf252 C hR hS zqe31 zqe8 dX1_search_15 (fun H locs hR hS => ?_)
  refine lv_aload_n hx hb dX1_search_18 rfl (lv_at hl 0 rfl) ?_
  refine lv_iconst (v := (-1)) hx hb dX1_search_19 (by decide) ?_
  obtain ⟨M9, zqe10, h⟩ := ob h
  refine pf253 C hR hS zqe10 dX1_search_20 (fun H locs hR hS => ?_)
  refine lv_aload_n hx hb dX1_search_23 rfl (lv_at hl 2 rfl) ?_
  obtain ⟨v11, zqe12, h⟩ := ob h
  refine gf203 C hR zqe12 dX1_search_24 ?_
  refine lv_iconst (v := 0) hx hb dX1_search_27 (by decide) ?_
  refine lv_aload_n hx hb dX1_search_28 rfl (lv_at hl 0 rfl) ?_
  obtain ⟨v13, zqe14, h⟩ := ob h
  refine gf248 C hR zqe14 dX1_search_29 ?_
  refine lv_iconst (v := 0) hx hb dX1_search_32 (by decide) ?_
  refine lv_iconst (v := 5) hx hb dX1_search_33 (by decide) ?_
  obtain ⟨M15, zqe16, h⟩ := ob h
  refine rcp C hR hS hl.1 lk696 lk420 lk419 lk130 zqe16 ⟨Nat.le_of_ble_eq_true rfl, Nat.le_of_ble_eq_true rfl⟩ dX1_search_34 (fun H locs hR hS => ?_)
  refine lv_aload_n hx hb dX1_search_37 rfl (lv_at hl 0 rfl) ?_
  obtain ⟨v17, zqe18, h⟩ := ob h
  refine gf246 C hR zqe18 dX1_search_38 ?_
  refine lv_bipush (v := (-9)) hx hb dX1_search_41 (by decide) ?_
  obtain ⟨M20, zqe19, h⟩ := ob h
  refine rc_S C hR hS cf_J7_fill_53178 cs_J7_fill_53178 lk697 (ok_J7_fill_53178 zqe19) ⟨Nat.le_of_ble_eq_true rfl, Nat.le_of_ble_eq_true rfl⟩ ⟨Nat.zero_le _, Nat.zero_le _⟩ rfl rfl hl.1 (Nat.le_of_ble_eq_true rfl) dX1_search_43 (rc_k0 (fun H locs hR hS => ?_))
  refine lv_aload_n hx hb dX1_search_46 rfl (lv_at hl 0 rfl) ?_
  obtain ⟨M22, zqe21, h⟩ := ob h
  refine rc_V C hR hS cf_X1_setBounds cv_X1_setBounds lk698 (ok_X1_setBounds zqe21) (ck_X1_setBounds zqe21) ⟨Nat.le_of_ble_eq_true rfl, Nat.le_of_ble_eq_true rfl⟩ ⟨Nat.zero_le _, Nat.zero_le _⟩ rfl rfl hl.1 (Nat.le_of_ble_eq_true rfl) dX1_search_47 (rc_k0 (fun H locs hR hS => ?_))
  refine lv_aload_n hx hb dX1_search_50 rfl (lv_at hl 0 rfl) ?_
  refine lv_iconst (v := 0) hx hb dX1_search_51 (by decide) ?_
  refine lv_iconst (v := 0) hx hb dX1_search_52 (by decide) ?_
  obtain ⟨M24, zqe23, h⟩ := ob h
  refine rc_V C hR hS cf_X1_climb cv_X1_climb lk715 (ok_X1_climb zqe23) (ck_X1_climb zqe23) ⟨Nat.le_of_ble_eq_true rfl, Nat.le_of_ble_eq_true rfl⟩ ⟨Nat.zero_le _, Nat.zero_le _⟩ rfl rfl hl.1 (Nat.le_of_ble_eq_true rfl) dX1_search_53 (rc_k0 (fun H locs hR hS => ?_))
  refine lv_aload_n hx hb dX1_search_56 rfl (lv_at hl 0 rfl) ?_
  refine lv_iconst (v := 0) hx hb dX1_search_57 (by decide) ?_
  refine lv_iconst (v := 0) hx hb dX1_search_58 (by decide) ?_
  obtain ⟨qv26, zqe25, h⟩ := ob h
  refine rc_V C hR hS cf_X1_settle cv_X1_settle lk719 (ok_X1_settle zqe25) (ck_X1_settle zqe25) ⟨Nat.le_of_ble_eq_true rfl, Nat.le_of_ble_eq_true rfl⟩ ⟨Nat.zero_le _, Nat.zero_le _⟩ rfl rfl hl.1 (Nat.le_of_ble_eq_true rfl) dX1_search_59 (rc_k1 (fun H locs hR hS => ?_))
  refine lv_pop hx hb dX1_search_62 rfl ?_
  refine lv_aload_n hx hb dX1_search_63 rfl (lv_at hl 0 rfl) ?_
  obtain ⟨v28, zqe29, h⟩ := ob h
  refine gf253 C hR zqe29 dX1_search_64 ?_
  cases h
  exact rr_I C hR hS dX1_search_67
theorem ck_X7_giveOut  {x0 : Nat} {x1 : Int32} {x2 : Int32} {M : Mem} {r : Int32 × Mem} (h : f_X7_giveOut  x0 x1 x2 M = some r) : kd M x0 = 17 := by
  unfold f_X7_giveOut at h
  exact ck h
set_option maxHeartbeats 4000000 in
set_option maxRecDepth 100000 in
theorem ok_X7_giveOut  {x0 : Nat} {x1 : Int32} {x2 : Int32}  {M : Mem} {r : Int32 × Mem}  (h : f_X7_giveOut  x0 x1 x2 M = some r) : Ok l yX7_giveOut cX7_giveOut 5 (some .int) 14 [.ref (B + x0), .int x1, .int x2] D B ca st M (some (.int r.1)) r.2 := by
  have hk0 := ck_X7_giveOut h
  unfold f_X7_giveOut at h
  have h := ip hk0 h
  refine ok_of rfl rfl (Nat.le_of_ble_eq_true rfl) ?_
  intro p e s m args below meth c ls C hl hR hS
  have hl : lv_has ls 5 [(0, .ref (B + x0)), (1, .int x1), (2, .int x2)] := hl
  have hx := C.1
  have hb := C.2.1
  refine lv_aload_n hx hb dX7_giveOut_0 rfl (lv_at hl 0 rfl) ?_
  refine lv_iload_n hx hb dX7_giveOut_1 rfl (lv_at hl 1 rfl) ?_
  obtain ⟨v2, zqe1, h⟩ := ob h
  refine rc_V C hR hS cf_X7_rowOf cv_X7_rowOf lk375 (ok_X7_rowOf zqe1) (ck_X7_rowOf zqe1) ⟨Nat.le_of_ble_eq_true rfl, Nat.le_of_ble_eq_true rfl⟩ ⟨Nat.zero_le _, Nat.zero_le _⟩ rfl rfl hl.1 (Nat.le_of_ble_eq_true rfl) dX7_giveOut_2 (rc_k1 (fun H locs hR hS => ?_))
  refine rc_nul (fun zqz3 => ?_) (fun zqz3 => ?_)
  · have h := ip zqz3 h
    refine lv_astore_nN (lv' := [(3, .null), (0, .ref (B + x0)), (1, .int x1), (2, .int x2)]) hx hb dX7_giveOut_5 rfl hl (by decide) rfl (fun ls hl => ?_)
    refine lv_aload_nN hx hb dX7_giveOut_6 rfl (lv_at hl 0 rfl) ?_
    refine lv_ifnonnullN hx hb dX7_giveOut_7 ?_
    refine lv_iconst (v := (-1)) hx hb dX7_giveOut_10 (by decide) ?_
    cases h
    exact rr_I C hR hS dX7_giveOut_11
  · have h := iq zqz3 h
    refine lv_astore_n (lv' := [(3, .ref (B + v2)), (0, .ref (B + x0)), (1, .int x1), (2, .int x2)]) hx hb dX7_giveOut_5 rfl hl (by decide) rfl (fun ls hl => ?_)
    refine lv_aload_n hx hb dX7_giveOut_6 rfl (lv_at hl 0 rfl) ?_
    refine lv_ifnonnull (tgt := 12) hx hb dX7_giveOut_7 (by decide) ?_
    refine lv_aload_n hx hb dX7_giveOut_12 rfl (lv_at hl 1 rfl) ?_
    obtain ⟨v4, zqe5, h⟩ := ob h
    refine gf327 C hR zqe5 dX7_giveOut_13 ?_
    obtain ⟨v6, zqe7, h⟩ := ob h
    refine gf154 C hR zqe7 dX7_giveOut_16 ?_
    refine lv_if_ne (tgt := 25) hx hb dX7_giveOut_19 (by decide) (fun c => ?_) (fun c => ?_)
    · have h := iq c h
      refine lv_aload_n hx hb dX7_giveOut_25 rfl (lv_at hl 1 rfl) ?_
      obtain ⟨v8, zqe9, h⟩ := ob h
      refine gf333 C hR zqe9 dX7_giveOut_26 ?_
      refine lv_aload_n hx hb dX7_giveOut_29 rfl (lv_at hl 1 rfl) ?_
      obtain ⟨v10, zqe11, h⟩ := ob h
      refine gf327 C hR zqe11 dX7_giveOut_30 ?_
      refine lv_aload_n hx hb dX7_giveOut_33 rfl (lv_at hl 1 rfl) ?_
      obtain ⟨v12, zqe13, h⟩ := ob h
      refine gf329 C hR zqe13 dX7_giveOut_34 ?_
      refine lv_iload_n hx hb dX7_giveOut_37 rfl (lv_at hl 3 rfl) ?_
      obtain ⟨qv15, zqe14, h⟩ := ob h
      refine rc_VN C hR hS cf_X1_search cv_X1_search lk692 (ok_X1_search zqe14) (ck_X1_search zqe14) ⟨Nat.le_of_ble_eq_true rfl, Nat.le_of_ble_eq_true rfl⟩ ⟨Nat.zero_le _, Nat.zero_le _⟩ rfl rfl hl.1 (Nat.le_of_ble_eq_true rfl) dX7_giveOut_38 (rc_k1 (fun H locs hR hS => ?_))
      refine lv_istore (lv' := [(4, .int qv15.1), (3, .ref (B + v2)), (0, .ref (B + x0)), (1, .int x1), (2, .int x2)]) hx hb dX7_giveOut_41 hl (by decide) rfl (fun ls hl => ?_)
      refine lv_aload_n hx hb dX7_giveOut_43 rfl (lv_at hl 1 rfl) ?_
      refine lv_aload_n hx hb dX7_giveOut_44 rfl (lv_at hl 2 rfl) ?_
      obtain ⟨v17, zqe18, h⟩ := ob h
      refine gf327 C hR zqe18 dX7_giveOut_45 ?_
      obtain ⟨v19, zqe20, h⟩ := ob h
      refine gf158 C hR zqe20 dX7_giveOut_48 ?_
      obtain ⟨M22, zqe21, h⟩ := ob h
      refine rc_VN C hR hS cf_X4_renew cv_X4_renew lk383 (ok_X4_renew zqe21) (ck_X4_renew zqe21) ⟨Nat.le_of_ble_eq_true rfl, Nat.le_of_ble_eq_true rfl⟩ ⟨Nat.zero_le _, Nat.zero_le _⟩ rfl rfl hl.1 (Nat.le_of_ble_eq_true rfl) dX7_giveOut_51 (rc_k0 (fun H locs hR hS => ?_))
      refine lv_aload_n hx hb dX7_giveOut_54 rfl (lv_at hl 2 rfl) ?_
      obtain ⟨v23, zqe24, h⟩ := ob h
      refine gf333 C hR zqe24 dX7_giveOut_55 ?_
      obtain ⟨v25, zqe26, h⟩ := ob h
      refine gf247 C hR zqe26 dX7_giveOut_58 ?_
      refine lv_iconst (v := 0) hx hb dX7_giveOut_61 (by decide) ?_
      refine lv_aload_n hx hb dX7_giveOut_62 rfl (lv_at hl 1 rfl) ?_
      obtain ⟨v27, zqe28, h⟩ := ob h
      refine gf302 C hR zqe28 dX7_giveOut_63 ?_
      refine lv_iconst (v := 0) hx hb dX7_giveOut_66 (by decide) ?_
      refine lv_aload_n hx hb dX7_giveOut_67 rfl (lv_at hl 2 rfl) ?_
      obtain ⟨v29, zqe30, h⟩ := ob h
      refine gf327 C hR zqe30 dX7_giveOut_68 ?_
      obtain ⟨v31, zqe32, h⟩ := ob h
      refine gf158 C hR zqe32 dX7_giveOut_71 ?_
      obtain ⟨M33, zqe34, h⟩ := ob h
      refine rcp C hR hS hl.1 lk418 lk420 lk419 lk130 zqe34 ⟨Nat.le_of_ble_eq_true rfl, Nat.le_of_ble_eq_true rfl⟩ dX7_giveOut_74 (fun H locs hR hS => ?_)
      refine lv_iload hx hb dX7_giveOut_77 (lv_at hl 0 rfl) ?_
      cases h
      exact rr_I C hR hS dX7_giveOut_79
    · have h := ip c h
      refine lv_bipush (v := (-4)) hx hb dX7_giveOut_22 (by decide) ?_
      cases h
      exact rr_I C hR hS dX7_giveOut_24
theorem ck_X7_give  {x0 : Nat} {x1 : Int32} {M : Mem} {r : Int32 × Mem} (h : f_X7_give  x0 x1 M = some r) : kd M x0 = 17 := by
  unfold f_X7_give at h
  exact ck h
set_option maxHeartbeats 4000000 in
set_option maxRecDepth 100000 in
theorem ok_X7_give  {x0 : Nat} {x1 : Int32}  {M : Mem} {r : Int32 × Mem}  (h : f_X7_give  x0 x1 M = some r) : Ok l yX7_give cX7_give 2 (some .int) 15 [.ref (B + x0), .int x1] D B ca st M (some (.int r.1)) r.2 := by
  have hk0 := ck_X7_give h
  unfold f_X7_give at h
  have h := ip hk0 h
  refine ok_of rfl rfl (Nat.le_of_ble_eq_true rfl) ?_
  intro p e s m args below meth c ls C hl hR hS
  have hl : lv_has ls 2 [(0, .ref (B + x0)), (1, .int x1)] := hl
  have hx := C.1
  have hb := C.2.1
  refine lv_aload_n hx hb dX7_give_0 rfl (lv_at hl 0 rfl) ?_
  refine lv_iload_n hx hb dX7_give_1 rfl (lv_at hl 1 rfl) ?_
  refine lv_iconst (v := 1) hx hb dX7_give_2 (by decide) ?_
  obtain ⟨qv2, zqe1, h⟩ := ob h
  refine rc_V C hR hS cf_X7_giveOut cv_X7_giveOut lk688 (ok_X7_giveOut zqe1) (ck_X7_giveOut zqe1) ⟨Nat.le_of_ble_eq_true rfl, Nat.le_of_ble_eq_true rfl⟩ ⟨Nat.zero_le _, Nat.zero_le _⟩ rfl rfl hl.1 (Nat.le_of_ble_eq_true rfl) dX7_give_3 (rc_k1 (fun H locs hR hS => ?_))
  cases h
  exact rr_I C hR hS dX7_give_6
theorem ck_X6_begin  {x0 : Nat} {x1 : Nat} {M : Mem} {r : Mem} (h : f_X6_begin  x0 x1 M = some r) : kd M x0 = 16 := by
  unfold f_X6_begin at h
  exact ck h
set_option maxHeartbeats 4000000 in
set_option maxRecDepth 100000 in
theorem ok_X6_begin  {x0 : Nat} {x1 : Nat}  {M : Mem} {r : Mem}  (h : f_X6_begin  x0 x1 M = some r) : Ok l yX6_begin cX6_begin 2 none 1 [.ref (B + x0), .ref (B + x1)] D B ca st M none r := by
  have hk0 := ck_X6_begin h
  unfold f_X6_begin at h
  have h := ip hk0 h
  refine ok_of rfl rfl (Nat.le_of_ble_eq_true rfl) ?_
  intro p e s m args below meth c ls C hl hR hS
  have hl : lv_has ls 2 [(0, .ref (B + x0)), (1, .ref (B + x1))] := hl
  have hx := C.1
  have hb := C.2.1
  refine lv_aload_n hx hb dX6_begin_0 rfl (lv_at hl 1 rfl) ?_
  obtain ⟨v1, zqe2, h⟩ := ob h
  refine gf162 C hR zqe2 dX6_begin_1 ?_
  refine lv_iconst (v := 0) hx hb dX6_begin_4 (by decide) ?_
  refine lv_aload_n hx hb dX6_begin_5 rfl (lv_at hl 0 rfl) ?_
  obtain ⟨v3, zqe4, h⟩ := ob h
  refine gf202 C hR zqe4 dX6_begin_6 ?_
  refine lv_iconst (v := 0) hx hb dX6_begin_9 (by decide) ?_
  refine lv_iconst (v := 5) hx hb dX6_begin_10 (by decide) ?_
  obtain ⟨M5, zqe6, h⟩ := ob h
  refine rcp C hR hS hl.1 lk532 lk420 lk419 lk130 zqe6 ⟨Nat.le_of_ble_eq_true rfl, Nat.le_of_ble_eq_true rfl⟩ dX6_begin_11 (fun H locs hR hS => ?_)
  refine lv_aload_n hx hb dX6_begin_14 rfl (lv_at hl 0 rfl) ?_
  obtain ⟨v7, zqe8, h⟩ := ob h
  refine gf206 C hR zqe8 dX6_begin_15 ?_
  refine lv_iconst (v := 0) hx hb dX6_begin_18 (by decide) ?_
  obtain ⟨M10, zqe9, h⟩ := ob h
  refine rc_S C hR hS cf_J7_fill_53178 cs_J7_fill_53178 lk533 (ok_J7_fill_53178 zqe9) ⟨Nat.le_of_ble_eq_true rfl, Nat.le_of_ble_eq_true rfl⟩ ⟨Nat.zero_le _, Nat.zero_le _⟩ rfl rfl hl.1 (Nat.le_of_ble_eq_true rfl) dX6_begin_19 (rc_k0 (fun H locs hR hS => ?_))
  refine lv_aload_n hx hb dX6_begin_22 rfl (lv_at hl 0 rfl) ?_
  refine lv_iconst (v := 0) hx hb dX6_begin_23 (by decide) ?_
  obtain ⟨M11, zqe12, h⟩ := ob h
  refine pf209 C hR hS zqe12 dX6_begin_24 (fun H locs hR hS => ?_)
  refine lv_aload_n hx hb dX6_begin_27 rfl (lv_at hl 0 rfl) ?_
  refine lv_iconst (v := 0) hx hb dX6_begin_28 (by decide) ?_
  obtain ⟨M13, zqe14, h⟩ := ob h
  refine pf213 C hR hS zqe14 dX6_begin_29 (fun H locs hR hS => ?_)
  cases h
  exact rr_V C hR hS dX6_begin_32
set_option maxHeartbeats 4000000 in
set_option maxRecDepth 100000 in
theorem w_X7_guild_81    {r : Int32 × Mem} (C : Cx p s m args meth c RX7 cX7_guild 5 (some .int) D B ca st)   : ∀ (n : Nat) {x0 : Nat} {x4 : Int32} {M : Mem}, f_X7_guild_81  n x0 x4 M = some r → ∀ {H : Heap} {locs : List Loc} {ls : Array Slot}, RH D B ca M H → va_S (AA B) s.heap H locs → lv_has ls 5 [(0, .ref (B + x0)), (4, .int x4)] → W p l e (rmD 6) s m args below meth c H locs 0 0 (MQ below (Qp D B ca st (some (.int r.1)) r.2) args s 0 0 (AA B)) (F0 m 81 ls []) := by
  have hx := C.1
  have hb := C.2.1
  intro n
  induction n with
  | zero => intro x0 x4 M h; simp [f_X7_guild_81] at h
  | succ n ih =>
    intro x0 x4 M h H locs ls hR hS hl
    rw [f_X7_guild_81] at h
    refine lv_iload hx hb dX7_guild_81 (lv_at hl 1 rfl) ?_
    refine lv_aload_n hx hb dX7_guild_83 rfl (lv_at hl 0 rfl) ?_
    obtain ⟨v32, zqe33, h⟩ := ob h
    refine gf332 C hR zqe33 dX7_guild_84 ?_
    obtain ⟨v34, zqe35, h⟩ := ob h
    refine ra_N C hR (k := 3) (by decide) (by decide) zqe35 dX7_guild_87 ?_
    refine lv_icmp_ge (tgt := 108) hx hb dX7_guild_88 (by decide) (fun c => ?_) (fun c => ?_)
    · have h := ip c h
      refine lv_aload_n hx hb dX7_guild_108 rfl (lv_at hl 0 rfl) ?_
      obtain ⟨v36, zqe37, h⟩ := ob h
      refine gf327 C hR zqe37 dX7_guild_109 ?_
      obtain ⟨v38, zqe39, h⟩ := ob h
      refine gf158 C hR zqe39 dX7_guild_112 ?_
      cases h
      exact rr_I C hR hS dX7_guild_115
    · have h := iq c h
      refine lv_aload_n hx hb dX7_guild_91 rfl (lv_at hl 0 rfl) ?_
      obtain ⟨v40, zqe41, h⟩ := ob h
      refine gf332 C hR zqe41 dX7_guild_92 ?_
      refine lv_iload hx hb dX7_guild_95 (lv_at hl 1 rfl) ?_
      obtain ⟨v42, zqe43, h⟩ := ob h
      refine ra_R C hR (k := 3) (by decide) (by decide) rfl zqe43 dX7_guild_97 ?_
      refine lv_iconst (v := (-1)) hx hb dX7_guild_98 (by decide) ?_
      obtain ⟨M44, zqe45, h⟩ := ob h
      refine pf233 C hR hS zqe45 dX7_guild_99 (fun H locs hR hS => ?_)
      refine lv_iinc (v := (x4 + 1)) (lv' := [(4, .int (x4 + 1)), (0, .ref (B + x0))]) hx hb dX7_guild_102 hl (k := 1) rfl rfl (by decide) rfl (fun ls hl => ?_)
      refine lv_goto (tgt := 81) hx hb dX7_guild_105 (by decide) ?_
      exact ih h hR hS (lv_sub hl [1, 0] rfl)
theorem ck_X7_guild  {x0 : Nat} {x1 : Int32} {M : Mem} {r : Int32 × Mem} (h : f_X7_guild  x0 x1 M = some r) : kd M x0 = 17 := by
  unfold f_X7_guild at h
  exact ck h
set_option maxHeartbeats 4000000 in
set_option maxRecDepth 100000 in
theorem ok_X7_guild  {x0 : Nat} {x1 : Int32}  {M : Mem} {r : Int32 × Mem}  (h : f_X7_guild  x0 x1 M = some r) : Ok l yX7_guild cX7_guild 5 (some .int) 6 [.ref (B + x0), .int x1] D B ca st M (some (.int r.1)) r.2 := by
  have hk0 := ck_X7_guild h
  unfold f_X7_guild at h
  have h := ip hk0 h
  refine ok_of rfl rfl (Nat.le_of_ble_eq_true rfl) ?_
  intro p e s m args below meth c ls C hl hR hS
  have hl : lv_has ls 5 [(0, .ref (B + x0)), (1, .int x1)] := hl
  have hx := C.1
  have hb := C.2.1
  refine lv_aload_n hx hb dX7_guild_0 rfl (lv_at hl 0 rfl) ?_
  refine lv_iload_n hx hb dX7_guild_1 rfl (lv_at hl 1 rfl) ?_
  obtain ⟨v2, zqe1, h⟩ := ob h
  refine rc_V C hR hS cf_X7_textOf cv_X7_textOf lk433 (ok_X7_textOf zqe1) (ck_X7_textOf zqe1) ⟨Nat.le_of_ble_eq_true rfl, Nat.le_of_ble_eq_true rfl⟩ ⟨Nat.zero_le _, Nat.zero_le _⟩ rfl rfl hl.1 (Nat.le_of_ble_eq_true rfl) dX7_guild_2 (rc_k1 (fun H locs hR hS => ?_))
  refine rc_nul (fun zqz3 => ?_) (fun zqz3 => ?_)
  · have h := ip zqz3 h
    refine lv_astore_nN (lv' := [(2, .null), (0, .ref (B + x0)), (1, .int x1)]) hx hb dX7_guild_5 rfl hl (by decide) rfl (fun ls hl => ?_)
    refine lv_aload_nN hx hb dX7_guild_6 rfl (lv_at hl 0 rfl) ?_
    refine lv_ifnonnullN hx hb dX7_guild_7 ?_
    refine lv_iconst (v := (-1)) hx hb dX7_guild_10 (by decide) ?_
    cases h
    exact rr_I C hR hS dX7_guild_11
  · have h := iq zqz3 h
    refine lv_astore_n (lv' := [(2, .ref (B + v2)), (0, .ref (B + x0)), (1, .int x1)]) hx hb dX7_guild_5 rfl hl (by decide) rfl (fun ls hl => ?_)
    refine lv_aload_n hx hb dX7_guild_6 rfl (lv_at hl 0 rfl) ?_
    refine lv_ifnonnull (tgt := 12) hx hb dX7_guild_7 (by decide) ?_
    refine lv_aload_n hx hb dX7_guild_12 rfl (lv_at hl 0 rfl) ?_
    obtain ⟨v5, zqe4, h⟩ := ob h
    refine rc_VN C hR hS cf_X5_isMissing cv_X5_isMissing lk448 (ok_X5_isMissing zqe4) (ck_X5_isMissing zqe4) ⟨Nat.le_of_ble_eq_true rfl, Nat.le_of_ble_eq_true rfl⟩ ⟨Nat.zero_le _, Nat.zero_le _⟩ rfl rfl hl.1 (Nat.le_of_ble_eq_true rfl) dX7_guild_13 (rc_k1 (fun H locs hR hS => ?_))
    refine lv_if_eq (tgt := 25) hx hb dX7_guild_16 (by decide) (fun c => ?_) (fun c => ?_)
    · have h := ip c h
      refine lv_aload_n hx hb dX7_guild_25 rfl (lv_at hl 1 rfl) ?_
      obtain ⟨v6, zqe7, h⟩ := ob h
      refine gf328 C hR zqe7 dX7_guild_26 ?_
      refine lv_aload_n hx hb dX7_guild_29 rfl (lv_at hl 0 rfl) ?_
      obtain ⟨qv9, zqe8, h⟩ := ob h
      refine rc_VN C hR hS cf_X2_readFrom cv_X2_readFrom lk460 (ok_X2_readFrom zqe8) (ck_X2_readFrom zqe8) ⟨Nat.le_of_ble_eq_true rfl, Nat.le_of_ble_eq_true rfl⟩ ⟨Nat.zero_le _, Nat.zero_le _⟩ rfl rfl hl.1 (Nat.le_of_ble_eq_true rfl) dX7_guild_30 (rc_k1 (fun H locs hR hS => ?_))
      refine lv_bipush (v := (-9)) hx hb dX7_guild_33 (by decide) ?_
      refine lv_icmp_eq (tgt := 41) hx hb dX7_guild_35 (by decide) (fun c => ?_) (fun c => ?_)
      · have h := ip c h
        refine lv_aload_n hx hb dX7_guild_41 rfl (lv_at hl 1 rfl) ?_
        obtain ⟨v11, zqe12, h⟩ := ob h
        refine gf327 C hR zqe12 dX7_guild_42 ?_
        refine lv_astore_n (lv' := [(3, .ref (B + v11)), (2, .ref (B + v2)), (0, .ref (B + x0)), (1, .int x1)]) hx hb dX7_guild_45 rfl hl (by decide) rfl (fun ls hl => ?_)
        refine lv_aload_n hx hb dX7_guild_46 rfl (lv_at hl 2 rfl) ?_
        refine lv_aload_n hx hb dX7_guild_47 rfl (lv_at hl 2 rfl) ?_
        obtain ⟨v13, zqe14, h⟩ := ob h
        refine gf328 C hR zqe14 dX7_guild_48 ?_
        obtain ⟨M15, zqe16, h⟩ := ob h
        refine pf327 C hR hS zqe16 dX7_guild_51 (fun H locs hR hS => ?_)
        refine lv_aload_n hx hb dX7_guild_54 rfl (lv_at hl 2 rfl) ?_
        refine lv_aload_n hx hb dX7_guild_55 rfl (lv_at hl 0 rfl) ?_
        obtain ⟨M17, zqe18, h⟩ := ob h
        refine pf328 C hR hS zqe18 dX7_guild_56 (fun H locs hR hS => ?_)
        refine lv_aload_n hx hb dX7_guild_59 rfl (lv_at hl 2 rfl) ?_
        obtain ⟨v19, zqe20, h⟩ := ob h
        refine gf329 C hR zqe20 dX7_guild_60 ?_
        refine lv_aload_n hx hb dX7_guild_63 rfl (lv_at hl 2 rfl) ?_
        obtain ⟨v21, zqe22, h⟩ := ob h
        refine gf327 C hR zqe22 dX7_guild_64 ?_
        obtain ⟨M24, zqe23, h⟩ := ob h
        refine rc_VN C hR hS cf_X6_begin cv_X6_begin lk528 (ok_X6_begin zqe23) (ck_X6_begin zqe23) ⟨Nat.le_of_ble_eq_true rfl, Nat.le_of_ble_eq_true rfl⟩ ⟨Nat.zero_le _, Nat.zero_le _⟩ rfl rfl hl.1 (Nat.le_of_ble_eq_true rfl) dX7_guild_67 (rc_k0 (fun H locs hR hS => ?_))
        refine lv_aload_n hx hb dX7_guild_70 rfl (lv_at hl 2 rfl) ?_
        obtain ⟨v25, zqe26, h⟩ := ob h
        refine gf331 C hR zqe26 dX7_guild_71 ?_
        refine lv_iconst (v := 0) hx hb dX7_guild_74 (by decide) ?_
        obtain ⟨M27, zqe28, h⟩ := ob h
        refine pf233 C hR hS zqe28 dX7_guild_75 (fun H locs hR hS => ?_)
        refine lv_iconst (v := 0) hx hb dX7_guild_78 (by decide) ?_
        refine lv_istore (lv' := [(4, .int 0), (3, .ref (B + v11)), (2, .ref (B + v2)), (0, .ref (B + x0)), (1, .int x1)]) hx hb dX7_guild_79 hl (by decide) rfl (fun ls hl => ?_)
        exact w_X7_guild_81 C  FU h hR hS (lv_sub hl [3, 0] rfl)
      · have h := iq c h
        refine lv_bipush (v := (-4)) hx hb dX7_guild_38 (by decide) ?_
        cases h
        exact rr_I C hR hS dX7_guild_40
    · have h := iq c h
      refine lv_aload_n hx hb dX7_guild_19 rfl (lv_at hl 1 rfl) ?_
      refine lv_iconst (v := 1) hx hb dX7_guild_20 (by decide) ?_
      obtain ⟨qv30, zqe29, h⟩ := ob h
      refine rc_V C hR hS cf_X7_refuse cv_X7_refuse lk379 (ok_X7_refuse zqe29) (ck_X7_refuse zqe29) ⟨Nat.le_of_ble_eq_true rfl, Nat.le_of_ble_eq_true rfl⟩ ⟨Nat.zero_le _, Nat.zero_le _⟩ rfl rfl hl.1 (Nat.le_of_ble_eq_true rfl) dX7_guild_21 (rc_k1 (fun H locs hR hS => ?_))
      cases h
      exact rr_I C hR hS dX7_guild_24
theorem ck_X2_isSetOfOrders  {x0 : Nat} {x1 : Int32} {M : Mem} {r : Int32} (h : f_X2_isSetOfOrders  x0 x1 M = some r) : kd M x0 = 12 := by
  unfold f_X2_isSetOfOrders at h
  exact ck h
set_option maxHeartbeats 4000000 in
set_option maxRecDepth 100000 in
theorem ok_X2_isSetOfOrders  {x0 : Nat} {x1 : Int32}  {M : Mem} {r : Int32}  (h : f_X2_isSetOfOrders  x0 x1 M = some r) : Ok l yX2_isSetOfOrders cX2_isSetOfOrders 2 (some .boolean) 0 [.ref (B + x0), .int x1] D B ca st M (some (.int r)) M := by
  have hk0 := ck_X2_isSetOfOrders h
  unfold f_X2_isSetOfOrders at h
  have h := ip hk0 h
  refine ok_of rfl rfl (Nat.le_of_ble_eq_true rfl) ?_
  intro p e s m args below meth c ls C hl hR hS
  have hl : lv_has ls 2 [(0, .ref (B + x0)), (1, .int x1)] := hl
  have hx := C.1
  have hb := C.2.1
  refine lv_iload_n hx hb dX2_isSetOfOrders_0 rfl (lv_at hl 1 rfl) ?_
  refine lv_if_lt (tgt := 18) hx hb dX2_isSetOfOrders_1 (by decide) (fun c => ?_) (fun c => ?_)
  · have h := ip c h
    refine lv_iconst (v := 0) hx hb dX2_isSetOfOrders_18 (by decide) ?_
    cases h
    exact rr_Z (v := 0) C hR hS (by decide) dX2_isSetOfOrders_19
  · have h := iq c h
    refine lv_iload_n hx hb dX2_isSetOfOrders_4 rfl (lv_at hl 1 rfl) ?_
    refine lv_iconst (v := 1) hx hb dX2_isSetOfOrders_5 (by decide) ?_
    refine lv_aload_n hx hb dX2_isSetOfOrders_6 rfl (lv_at hl 0 rfl) ?_
    obtain ⟨v1, zqe2, h⟩ := ob h
    refine gf155 C hR zqe2 dX2_isSetOfOrders_7 ?_
    refine lv_ishl hx hb dX2_isSetOfOrders_10 ?_
    refine lv_icmp_ge (tgt := 18) hx hb dX2_isSetOfOrders_11 (by decide) (fun c => ?_) (fun c => ?_)
    · have h := ip c h
      refine lv_iconst (v := 0) hx hb dX2_isSetOfOrders_18 (by decide) ?_
      cases h
      exact rr_Z (v := 0) C hR hS (by decide) dX2_isSetOfOrders_19
    · have h := iq c h
      refine lv_iconst (v := 1) hx hb dX2_isSetOfOrders_14 (by decide) ?_
      refine lv_goto (tgt := 19) hx hb dX2_isSetOfOrders_15 (by decide) ?_
      cases h
      exact rr_Z (v := 1) C hR hS (by decide) dX2_isSetOfOrders_19
set_option maxHeartbeats 4000000 in
set_option maxRecDepth 100000 in
theorem w_X7_stepsThrough_8    {r : Int32} (C : Cx p s m args meth c RX7 cX7_stepsThrough 6 (some .int) D B ca st)   : ∀ (n : Nat) {x0 : Nat} {x1 : Int32} {x2 : Int32} {x3 : Int32} {x4 : Int32} {x5 : Int32} {M : Mem}, f_X7_stepsThrough_8  n x0 x1 x2 x3 x4 x5 M = some r → ∀ {H : Heap} {locs : List Loc} {ls : Array Slot}, RH D B ca M H → va_S (AA B) s.heap H locs → lv_has ls 6 [(0, .ref (B + x0)), (1, .int x1), (2, .int x2), (3, .int x3), (4, .int x4), (5, .int x5)] → W p l e (rmD 1) s m args below meth c H locs 0 0 (MQ below (Qp D B ca st (some (.int r)) M) args s 0 0 (AA B)) (F0 m 8 ls []) := by
  have hx := C.1
  have hb := C.2.1
  intro n
  induction n with
  | zero => intro x0 x1 x2 x3 x4 x5 M h; simp [f_X7_stepsThrough_8] at h
  | succ n ih =>
    intro x0 x1 x2 x3 x4 x5 M h H locs ls hR hS hl
    rw [f_X7_stepsThrough_8] at h
    refine lv_iload hx hb dX7_stepsThrough_8 (lv_at hl 5 rfl) ?_
    refine lv_aload_n hx hb dX7_stepsThrough_10 rfl (lv_at hl 0 rfl) ?_
    obtain ⟨v1, zqe2, h⟩ := ob h
    refine gf327 C hR zqe2 dX7_stepsThrough_11 ?_
    obtain ⟨v3, zqe4, h⟩ := ob h
    refine gf158 C hR zqe4 dX7_stepsThrough_14 ?_
    refine lv_icmp_ge (tgt := 67) hx hb dX7_stepsThrough_17 (by decide) (fun c => ?_) (fun c => ?_)
    · have h := ip c h
      refine lv_iload hx hb dX7_stepsThrough_67 (lv_at hl 4 rfl) ?_
      refine lv_iload_n hx hb dX7_stepsThrough_69 rfl (lv_at hl 3 rfl) ?_
      refine lv_isub hx hb dX7_stepsThrough_70 ?_
      refine lv_iload hx hb dX7_stepsThrough_71 (lv_at hl 4 rfl) ?_
      refine lv_iload_n hx hb dX7_stepsThrough_73 rfl (lv_at hl 1 rfl) ?_
      refine lv_isub hx hb dX7_stepsThrough_74 ?_
      refine lv_iload_n hx hb dX7_stepsThrough_75 rfl (lv_at hl 1 rfl) ?_
      refine lv_iload_n hx hb dX7_stepsThrough_76 rfl (lv_at hl 3 rfl) ?_
      refine lv_isub hx hb dX7_stepsThrough_77 ?_
      refine rm_min C lk759 hl.1 ⟨Nat.le_of_ble_eq_true rfl, Nat.le_of_ble_eq_true rfl⟩ ⟨Nat.zero_le _, Nat.zero_le _⟩ dX7_stepsThrough_78 ?_
      refine lv_iadd hx hb dX7_stepsThrough_81 ?_
      cases h
      exact rr_I C hR hS dX7_stepsThrough_82
    · have h := iq c h
      refine lv_iload_n hx hb dX7_stepsThrough_20 rfl (lv_at hl 2 rfl) ?_
      refine lv_iload hx hb dX7_stepsThrough_21 (lv_at hl 5 rfl) ?_
      refine rc_S C hR hS cf_X7_holds cs_X7_holds lk745 (ok_X7_holds x2 x5) ⟨Nat.le_of_ble_eq_true rfl, Nat.le_of_ble_eq_true rfl⟩ ⟨Nat.zero_le _, Nat.zero_le _⟩ rfl rfl hl.1 (Nat.le_of_ble_eq_true rfl) dX7_stepsThrough_23 (rc_k1 (fun H locs hR hS => ?_))
      refine lv_if_eq (tgt := 61) hx hb dX7_stepsThrough_26 (by decide) (fun c => ?_) (fun c => ?_)
      · have h := ip c h
        refine lv_iinc (v := (x5 + 1)) (lv' := [(5, .int (x5 + 1)), (0, .ref (B + x0)), (1, .int x1), (2, .int x2), (3, .int x3), (4, .int x4)]) hx hb dX7_stepsThrough_61 hl (k := 5) rfl rfl (by decide) rfl (fun ls hl => ?_)
        refine lv_goto (tgt := 8) hx hb dX7_stepsThrough_64 (by decide) ?_
        exact ih h hR hS (lv_sub hl [1, 2, 3, 4, 5, 0] rfl)
      · have h := iq c h
        refine lv_iload_n hx hb dX7_stepsThrough_29 rfl (lv_at hl 3 rfl) ?_
        refine lv_aload_n hx hb dX7_stepsThrough_30 rfl (lv_at hl 0 rfl) ?_
        obtain ⟨v6, zqe7, h⟩ := ob h
        refine gf327 C hR zqe7 dX7_stepsThrough_31 ?_
        obtain ⟨v8, zqe9, h⟩ := ob h
        refine gf167 C hR zqe9 dX7_stepsThrough_34 ?_
        refine lv_iload hx hb dX7_stepsThrough_37 (lv_at hl 5 rfl) ?_
        obtain ⟨v10, zqe11, h⟩ := ob h
        refine ra_I C hR zqe11 dX7_stepsThrough_39 ?_
        refine rm_min C lk759 hl.1 ⟨Nat.le_of_ble_eq_true rfl, Nat.le_of_ble_eq_true rfl⟩ ⟨Nat.zero_le _, Nat.zero_le _⟩ dX7_stepsThrough_40 ?_
        refine lv_istore_n (lv' := [(3, .int (f_J9_min_7cf53 x3 v10)), (0, .ref (B + x0)), (1, .int x1), (2, .int x2), (4, .int x4), (5, .int x5)]) hx hb dX7_stepsThrough_43 rfl hl (by decide) rfl (fun ls hl => ?_)
        refine lv_iload hx hb dX7_stepsThrough_44 (lv_at hl 4 rfl) ?_
        refine lv_aload_n hx hb dX7_stepsThrough_46 rfl (lv_at hl 1 rfl) ?_
        obtain ⟨v12, zqe13, h⟩ := ob h
        refine gf327 C hR zqe13 dX7_stepsThrough_47 ?_
        obtain ⟨v14, zqe15, h⟩ := ob h
        refine gf167 C hR zqe15 dX7_stepsThrough_50 ?_
        refine lv_iload hx hb dX7_stepsThrough_53 (lv_at hl 5 rfl) ?_
        obtain ⟨v16, zqe17, h⟩ := ob h
        refine ra_I C hR zqe17 dX7_stepsThrough_55 ?_
        refine rm_max C lk514 hl.1 ⟨Nat.le_of_ble_eq_true rfl, Nat.le_of_ble_eq_true rfl⟩ ⟨Nat.zero_le _, Nat.zero_le _⟩ dX7_stepsThrough_56 ?_
        refine lv_istore (lv' := [(4, .int (f_J9_max_7cf53 x4 v16)), (3, .int (f_J9_min_7cf53 x3 v10)), (0, .ref (B + x0)), (1, .int x1), (2, .int x2), (5, .int x5)]) hx hb dX7_stepsThrough_59 hl (by decide) rfl (fun ls hl => ?_)
        refine lv_iinc (v := (x5 + 1)) (lv' := [(5, .int (x5 + 1)), (4, .int (f_J9_max_7cf53 x4 v16)), (3, .int (f_J9_min_7cf53 x3 v10)), (0, .ref (B + x0)), (1, .int x1), (2, .int x2)]) hx hb dX7_stepsThrough_61 hl (k := 5) rfl rfl (by decide) rfl (fun ls hl => ?_)
        refine lv_goto (tgt := 8) hx hb dX7_stepsThrough_64 (by decide) ?_
        exact ih h hR hS (lv_sub hl [3, 4, 5, 2, 1, 0] rfl)
theorem ck_X7_stepsThrough  {x0 : Nat} {x1 : Int32} {x2 : Int32} {M : Mem} {r : Int32} (h : f_X7_stepsThrough  x0 x1 x2 M = some r) : kd M x0 = 17 := by
  unfold f_X7_stepsThrough at h
  exact ck h
set_option maxHeartbeats 4000000 in
set_option maxRecDepth 100000 in
theorem ok_X7_stepsThrough  {x0 : Nat} {x1 : Int32} {x2 : Int32}  {M : Mem} {r : Int32}  (h : f_X7_stepsThrough  x0 x1 x2 M = some r) : Ok l yX7_stepsThrough cX7_stepsThrough 6 (some .int) 1 [.ref (B + x0), .int x1, .int x2] D B ca st M (some (.int r)) M := by
  have hk0 := ck_X7_stepsThrough h
  unfold f_X7_stepsThrough at h
  have h := ip hk0 h
  refine ok_of rfl rfl (Nat.le_of_ble_eq_true rfl) ?_
  intro p e s m args below meth c ls C hl hR hS
  have hl : lv_has ls 6 [(0, .ref (B + x0)), (1, .int x1), (2, .int x2)] := hl
  have hx := C.1
  have hb := C.2.1
  refine lv_iload_n hx hb dX7_stepsThrough_0 rfl (lv_at hl 1 rfl) ?_
  refine lv_istore_n (lv' := [(3, .int x1), (0, .ref (B + x0)), (1, .int x1), (2, .int x2)]) hx hb dX7_stepsThrough_1 rfl hl (by decide) rfl (fun ls hl => ?_)
  refine lv_iload_n hx hb dX7_stepsThrough_2 rfl (lv_at hl 2 rfl) ?_
  refine lv_istore (lv' := [(4, .int x1), (3, .int x1), (0, .ref (B + x0)), (1, .int x1), (2, .int x2)]) hx hb dX7_stepsThrough_3 hl (by decide) rfl (fun ls hl => ?_)
  refine lv_iconst (v := 0) hx hb dX7_stepsThrough_5 (by decide) ?_
  refine lv_istore (lv' := [(5, .int 0), (4, .int x1), (3, .int x1), (0, .ref (B + x0)), (1, .int x1), (2, .int x2)]) hx hb dX7_stepsThrough_6 hl (by decide) rfl (fun ls hl => ?_)
  exact w_X7_stepsThrough_8 C  FU h hR hS (lv_sub hl [3, 4, 5, 2, 1, 0] rfl)
set_option maxHeartbeats 4000000 in
set_option maxRecDepth 100000 in
theorem w_X7_hours_42    {r : Int32} (C : Cx p s m args meth c RX7 cX7_hours 7 (some .int) D B ca st)   : ∀ (n : Nat) {x0 : Nat} {x1 : Int32} {x3 : Int32} {x4 : Int32} {x5 : Int32} {M : Mem}, f_X7_hours_42  n x0 x1 x3 x4 x5 M = some r → ∀ {H : Heap} {locs : List Loc} {ls : Array Slot}, RH D B ca M H → va_S (AA B) s.heap H locs → lv_has ls 7 [(0, .ref (B + x0)), (1, .int x1), (3, .int x3), (4, .int x4), (5, .int x5)] → W p l e (rmD 2) s m args below meth c H locs 0 0 (MQ below (Qp D B ca st (some (.int r)) M) args s 0 0 (AA B)) (F0 m 42 ls []) := by
  have hx := C.1
  have hb := C.2.1
  intro n
  induction n with
  | zero => intro x0 x1 x3 x4 x5 M h; simp [f_X7_hours_42] at h
  | succ n ih =>
    intro x0 x1 x3 x4 x5 M h H locs ls hR hS hl
    rw [f_X7_hours_42] at h
    refine lv_iload hx hb dX7_hours_42 (lv_at hl 4 rfl) ?_
    refine lv_aload_n hx hb dX7_hours_44 rfl (lv_at hl 0 rfl) ?_
    obtain ⟨v13, zqe14, h⟩ := ob h
    refine gf327 C hR zqe14 dX7_hours_45 ?_
    obtain ⟨v15, zqe16, h⟩ := ob h
    refine gf158 C hR zqe16 dX7_hours_48 ?_
    refine lv_icmp_ge (tgt := 98) hx hb dX7_hours_51 (by decide) (fun c => ?_) (fun c => ?_)
    · have h := ip c h
      refine lv_iload hx hb dX7_hours_98 (lv_at hl 3 rfl) ?_
      refine lv_aload_n hx hb dX7_hours_100 rfl (lv_at hl 0 rfl) ?_
      obtain ⟨v17, zqe18, h⟩ := ob h
      refine gf329 C hR zqe18 dX7_hours_101 ?_
      obtain ⟨v19, zqe20, h⟩ := ob h
      refine gf205 C hR zqe20 dX7_hours_104 ?_
      refine lv_iload_n hx hb dX7_hours_107 rfl (lv_at hl 1 rfl) ?_
      obtain ⟨v21, zqe22, h⟩ := ob h
      refine ra_I C hR zqe22 dX7_hours_108 ?_
      refine lv_icmp_le (tgt := 115) hx hb dX7_hours_109 (by decide) (fun c => ?_) (fun c => ?_)
      · have h := ip c h
        refine lv_aload_n hx hb dX7_hours_115 rfl (lv_at hl 0 rfl) ?_
        refine lv_aload_n hx hb dX7_hours_116 rfl (lv_at hl 0 rfl) ?_
        obtain ⟨v23, zqe24, h⟩ := ob h
        refine gf329 C hR zqe24 dX7_hours_117 ?_
        obtain ⟨v25, zqe26, h⟩ := ob h
        refine gf208 C hR zqe26 dX7_hours_120 ?_
        refine lv_iload_n hx hb dX7_hours_123 rfl (lv_at hl 1 rfl) ?_
        obtain ⟨v27, zqe28, h⟩ := ob h
        refine ra_I C hR zqe28 dX7_hours_124 ?_
        refine lv_iload_n hx hb dX7_hours_125 rfl (lv_at hl 2 rfl) ?_
        obtain ⟨v30, zqe29, h⟩ := ob h
        refine rc_V C hR hS cf_X7_stepsThrough cv_X7_stepsThrough lk755 (ok_X7_stepsThrough zqe29) (ck_X7_stepsThrough zqe29) ⟨Nat.le_of_ble_eq_true rfl, Nat.le_of_ble_eq_true rfl⟩ ⟨Nat.zero_le _, Nat.zero_le _⟩ rfl rfl hl.1 (Nat.le_of_ble_eq_true rfl) dX7_hours_126 (rc_k1 (fun H locs hR hS => ?_))
        refine lv_iload_n hx hb dX7_hours_129 rfl (lv_at hl 2 rfl) ?_
        refine rc_S C hR hS cf_J6_bitCount_0f7a4 cs_J6_bitCount_0f7a4 lk731 (ok_J6_bitCount_0f7a4 x3) ⟨Nat.le_of_ble_eq_true rfl, Nat.le_of_ble_eq_true rfl⟩ ⟨Nat.zero_le _, Nat.zero_le _⟩ rfl rfl hl.1 (Nat.le_of_ble_eq_true rfl) dX7_hours_130 (rc_k1 (fun H locs hR hS => ?_))
        refine lv_iadd hx hb dX7_hours_133 ?_
        cases h
        exact rr_I C hR hS dX7_hours_134
      · have h := iq c h
        refine lv_bipush (v := (-9)) hx hb dX7_hours_112 (by decide) ?_
        cases h
        exact rr_I C hR hS dX7_hours_114
    · have h := iq c h
      refine lv_iload_n hx hb dX7_hours_54 rfl (lv_at hl 2 rfl) ?_
      refine lv_iload hx hb dX7_hours_55 (lv_at hl 4 rfl) ?_
      refine rc_S C hR hS cf_X7_holds cs_X7_holds lk745 (ok_X7_holds x3 x5) ⟨Nat.le_of_ble_eq_true rfl, Nat.le_of_ble_eq_true rfl⟩ ⟨Nat.zero_le _, Nat.zero_le _⟩ rfl rfl hl.1 (Nat.le_of_ble_eq_true rfl) dX7_hours_57 (rc_k1 (fun H locs hR hS => ?_))
      refine lv_if_eq (tgt := 92) hx hb dX7_hours_60 (by decide) (fun c => ?_) (fun c => ?_)
      · have h := ip c h
        refine lv_iinc (v := (x5 + 1)) (lv' := [(5, .int (x5 + 1)), (0, .ref (B + x0)), (1, .int x1), (3, .int x3), (4, .int x4)]) hx hb dX7_hours_92 hl (k := 4) rfl rfl (by decide) rfl (fun ls hl => ?_)
        refine lv_goto (tgt := 42) hx hb dX7_hours_95 (by decide) ?_
        exact ih h hR hS (lv_sub hl [1, 2, 3, 4, 0] rfl)
      · have h := iq c h
        refine lv_aload_n hx hb dX7_hours_63 rfl (lv_at hl 0 rfl) ?_
        obtain ⟨v33, zqe34, h⟩ := ob h
        refine gf327 C hR zqe34 dX7_hours_64 ?_
        refine lv_iload_n hx hb dX7_hours_67 rfl (lv_at hl 1 rfl) ?_
        refine lv_iload hx hb dX7_hours_68 (lv_at hl 4 rfl) ?_
        obtain ⟨v36, zqe35, h⟩ := ob h
        refine rc_VN C hR hS cf_X2_breathFor cv_X2_breathFor lk593 (ok_X2_breathFor zqe35) (ck_X2_breathFor zqe35) ⟨Nat.le_of_ble_eq_true rfl, Nat.le_of_ble_eq_true rfl⟩ ⟨Nat.zero_le _, Nat.zero_le _⟩ rfl rfl hl.1 (Nat.le_of_ble_eq_true rfl) dX7_hours_70 (rc_k1 (fun H locs hR hS => ?_))
        refine lv_istore (lv' := [(6, .int v36), (0, .ref (B + x0)), (1, .int x1), (3, .int x3), (4, .int x4), (5, .int x5)]) hx hb dX7_hours_73 hl (by decide) rfl (fun ls hl => ?_)
        refine lv_iload hx hb dX7_hours_75 (lv_at hl 0 rfl) ?_
        refine lv_bipush (v := (-9)) hx hb dX7_hours_77 (by decide) ?_
        refine lv_icmp_ne (tgt := 85) hx hb dX7_hours_79 (by decide) (fun c => ?_) (fun c => ?_)
        · have h := iq c h
          refine lv_iload hx hb dX7_hours_85 (lv_at hl 4 rfl) ?_
          refine lv_iload hx hb dX7_hours_87 (lv_at hl 0 rfl) ?_
          refine lv_iadd hx hb dX7_hours_89 ?_
          refine lv_istore (lv' := [(4, .int (x4 + v36)), (6, .int v36), (0, .ref (B + x0)), (1, .int x1), (3, .int x3), (5, .int x5)]) hx hb dX7_hours_90 hl (by decide) rfl (fun ls hl => ?_)
          refine lv_iinc (v := (x5 + 1)) (lv' := [(5, .int (x5 + 1)), (4, .int (x4 + v36)), (6, .int v36), (0, .ref (B + x0)), (1, .int x1), (3, .int x3)]) hx hb dX7_hours_92 hl (k := 5) rfl rfl (by decide) rfl (fun ls hl => ?_)
          refine lv_goto (tgt := 42) hx hb dX7_hours_95 (by decide) ?_
          exact ih h hR hS (lv_sub hl [3, 4, 5, 1, 0] rfl)
        · have h := ip c h
          refine lv_bipush (v := (-9)) hx hb dX7_hours_82 (by decide) ?_
          cases h
          exact rr_I C hR hS dX7_hours_84
theorem ck_X7_hours  {x0 : Nat} {x1 : Int32} {x2 : Int32} {M : Mem} {r : Int32} (h : f_X7_hours  x0 x1 x2 M = some r) : kd M x0 = 17 := by
  unfold f_X7_hours at h
  exact ck h
set_option maxHeartbeats 4000000 in
set_option maxRecDepth 100000 in
theorem ok_X7_hours  {x0 : Nat} {x1 : Int32} {x2 : Int32}  {M : Mem} {r : Int32}  (h : f_X7_hours  x0 x1 x2 M = some r) : Ok l yX7_hours cX7_hours 7 (some .int) 2 [.ref (B + x0), .int x1, .int x2] D B ca st M (some (.int r)) M := by
  have hk0 := ck_X7_hours h
  unfold f_X7_hours at h
  have h := ip hk0 h
  refine ok_of rfl rfl (Nat.le_of_ble_eq_true rfl) ?_
  intro p e s m args below meth c ls C hl hR hS
  have hl : lv_has ls 7 [(0, .ref (B + x0)), (1, .int x1), (2, .int x2)] := hl
  have hx := C.1
  have hb := C.2.1
  refine lv_aload_n hx hb dX7_hours_0 rfl (lv_at hl 0 rfl) ?_
  obtain ⟨v1, zqe2, h⟩ := ob h
  refine gf327 C hR zqe2 dX7_hours_1 ?_
  refine lv_iload_n hx hb dX7_hours_4 rfl (lv_at hl 1 rfl) ?_
  obtain ⟨v4, zqe3, h⟩ := ob h
  refine rc_VN C hR hS cf_X2_hasSigher cv_X2_hasSigher lk538 (ok_X2_hasSigher zqe3) (ck_X2_hasSigher zqe3) ⟨Nat.le_of_ble_eq_true rfl, Nat.le_of_ble_eq_true rfl⟩ ⟨Nat.zero_le _, Nat.zero_le _⟩ rfl rfl hl.1 (Nat.le_of_ble_eq_true rfl) dX7_hours_5 (rc_k1 (fun H locs hR hS => ?_))
  refine lv_if_eq (tgt := 22) hx hb dX7_hours_8 (by decide) (fun c => ?_) (fun c => ?_)
  · have h := ip c h
    refine lv_iconst (v := (-1)) hx hb dX7_hours_22 (by decide) ?_
    cases h
    exact rr_I C hR hS dX7_hours_23
  · have h := iq c h
    refine lv_aload_n hx hb dX7_hours_11 rfl (lv_at hl 0 rfl) ?_
    obtain ⟨v5, zqe6, h⟩ := ob h
    refine gf327 C hR zqe6 dX7_hours_12 ?_
    refine lv_iload_n hx hb dX7_hours_15 rfl (lv_at hl 2 rfl) ?_
    obtain ⟨v8, zqe7, h⟩ := ob h
    refine rc_VN C hR hS cf_X2_isSetOfOrders cv_X2_isSetOfOrders lk751 (ok_X2_isSetOfOrders zqe7) (ck_X2_isSetOfOrders zqe7) ⟨Nat.le_of_ble_eq_true rfl, Nat.le_of_ble_eq_true rfl⟩ ⟨Nat.zero_le _, Nat.zero_le _⟩ rfl rfl hl.1 (Nat.le_of_ble_eq_true rfl) dX7_hours_16 (rc_k1 (fun H locs hR hS => ?_))
    refine lv_if_ne (tgt := 24) hx hb dX7_hours_19 (by decide) (fun c => ?_) (fun c => ?_)
    · have h := iq c h
      refine lv_iload_n hx hb dX7_hours_24 rfl (lv_at hl 2 rfl) ?_
      refine lv_aload_n hx hb dX7_hours_25 rfl (lv_at hl 0 rfl) ?_
      obtain ⟨v9, zqe10, h⟩ := ob h
      refine gf329 C hR zqe10 dX7_hours_26 ?_
      obtain ⟨v11, zqe12, h⟩ := ob h
      refine gf212 C hR zqe12 dX7_hours_29 ?_
      refine lv_iconst (v := (-1)) hx hb dX7_hours_32 (by decide) ?_
      refine lv_ixor hx hb dX7_hours_33 ?_
      refine lv_iand hx hb dX7_hours_34 ?_
      refine lv_istore_n (lv' := [(3, .int (x2 &&& (v11 ^^^ (-1)))), (0, .ref (B + x0)), (1, .int x1), (2, .int x2)]) hx hb dX7_hours_35 rfl hl (by decide) rfl (fun ls hl => ?_)
      refine lv_iconst (v := 0) hx hb dX7_hours_36 (by decide) ?_
      refine lv_istore (lv' := [(4, .int 0), (3, .int (x2 &&& (v11 ^^^ (-1)))), (0, .ref (B + x0)), (1, .int x1), (2, .int x2)]) hx hb dX7_hours_37 hl (by decide) rfl (fun ls hl => ?_)
      refine lv_iconst (v := 0) hx hb dX7_hours_39 (by decide) ?_
      refine lv_istore (lv' := [(5, .int 0), (4, .int 0), (3, .int (x2 &&& (v11 ^^^ (-1)))), (0, .ref (B + x0)), (1, .int x1), (2, .int x2)]) hx hb dX7_hours_40 hl (by decide) rfl (fun ls hl => ?_)
      exact w_X7_hours_42 C  FU h hR hS (lv_sub hl [3, 4, 2, 1, 0] rfl)
    · have h := ip c h
      refine lv_iconst (v := (-1)) hx hb dX7_hours_22 (by decide) ?_
      cases h
      exact rr_I C hR hS dX7_hours_23
theorem ck_X0_takeOver  {x0 : Nat} {x1 : Nat} {M : Mem} {r : Mem} (h : f_X0_takeOver  x0 x1 M = some r) : kd M x0 = 10 := by
  unfold f_X0_takeOver at h
  exact ck h
set_option maxHeartbeats 4000000 in
set_option maxRecDepth 100000 in
theorem ok_X0_takeOver  {x0 : Nat} {x1 : Nat}  {M : Mem} {r : Mem}  (h : f_X0_takeOver  x0 x1 M = some r) : Ok l yX0_takeOver cX0_takeOver 2 none 1 [.ref (B + x0), .ref (B + x1)] D B ca st M none r := by
  have hk0 := ck_X0_takeOver h
  unfold f_X0_takeOver at h
  have h := ip hk0 h
  refine ok_of rfl rfl (Nat.le_of_ble_eq_true rfl) ?_
  intro p e s m args below meth c ls C hl hR hS
  have hl : lv_has ls 2 [(0, .ref (B + x0)), (1, .ref (B + x1))] := hl
  have hx := C.1
  have hb := C.2.1
  refine lv_aload_n hx hb dX0_takeOver_0 rfl (lv_at hl 1 rfl) ?_
  obtain ⟨v1, zqe2, h⟩ := ob h
  refine gf230 C hR zqe2 dX0_takeOver_1 ?_
  refine lv_iconst (v := 0) hx hb dX0_takeOver_4 (by decide) ?_
  refine lv_aload_n hx hb dX0_takeOver_5 rfl (lv_at hl 0 rfl) ?_
  obtain ⟨v3, zqe4, h⟩ := ob h
  refine gf230 C hR zqe4 dX0_takeOver_6 ?_
  refine lv_iconst (v := 0) hx hb dX0_takeOver_9 (by decide) ?_
  refine lv_bipush (v := 40) hx hb dX0_takeOver_10 (by decide) ?_
  obtain ⟨M5, zqe6, h⟩ := ob h
  refine rcp C hR hS hl.1 lk671 lk420 lk419 lk130 zqe6 ⟨Nat.le_of_ble_eq_true rfl, Nat.le_of_ble_eq_true rfl⟩ dX0_takeOver_12 (fun H locs hR hS => ?_)
  refine lv_aload_n hx hb dX0_takeOver_15 rfl (lv_at hl 0 rfl) ?_
  refine lv_aload_n hx hb dX0_takeOver_16 rfl (lv_at hl 1 rfl) ?_
  obtain ⟨v7, zqe8, h⟩ := ob h
  refine gf232 C hR zqe8 dX0_takeOver_17 ?_
  obtain ⟨M9, zqe10, h⟩ := ob h
  refine pf232 C hR hS zqe10 dX0_takeOver_20 (fun H locs hR hS => ?_)
  cases h
  exact rr_V C hR hS dX0_takeOver_23
end Walk1
