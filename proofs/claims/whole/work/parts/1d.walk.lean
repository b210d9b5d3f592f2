section Walk3
variable {p : Program} {l : Launch} {e : Env} {s : State} {m : MethodId} {args : Array Value} {below : List Frame} {meth : Method} {c : Code}
variable {D : va_G} {B : Nat} {ca : Nat → ClassId} {st : Nat → Nat}
theorem ck_X7_sigher  {x0 : Nat} {x1 : Int32} {x2 : Int32} {M : Mem} {r : Int32 × Mem} (h : f_X7_sigher  x0 x1 x2 M = some r) : kd M x0 = 17 := by
  unfold f_X7_sigher at h
  exact ck h
set_option maxHeartbeats 4000000 in
set_option maxRecDepth 100000 in
theorem ok_X7_sigher  {x0 : Nat} {x1 : Int32} {x2 : Int32}  {M : Mem} {r : Int32 × Mem}  (h : f_X7_sigher  x0 x1 x2 M = some r) : Ok l yX7_sigher cX7_sigher 3 (some .int) 5 [.ref (B + x0), .int x1, .int x2] D B ca st M (some (.int r.1)) r.2 := by
  have hk0 := ck_X7_sigher h
  unfold f_X7_sigher at h
  have h := ip hk0 h
  refine ok_of rfl rfl (Nat.le_of_ble_eq_true rfl) ?_
  intro p e s m args below meth c ls C hl hR hS
  have hl : lv_has ls 3 [(0, .ref (B + x0)), (1, .int x1), (2, .int x2)] := hl
  have hx := C.1
  have hb := C.2.1
  refine lv_aload_n hx hb dX7_sigher_0 rfl (lv_at hl 0 rfl) ?_
  obtain ⟨v1, zqe2, h⟩ := ob h
  refine gf327 C hR zqe2 dX7_sigher_1 ?_
  refine lv_iload_n hx hb dX7_sigher_4 rfl (lv_at hl 1 rfl) ?_
  obtain ⟨v4, zqe3, h⟩ := ob h
  refine rc_VN C hR hS cf_X2_hasSigher cv_X2_hasSigher lk538 (ok_X2_hasSigher zqe3) (ck_X2_hasSigher zqe3) ⟨Nat.le_of_ble_eq_true rfl, Nat.le_of_ble_eq_true rfl⟩ ⟨Nat.zero_le _, Nat.zero_le _⟩ rfl rfl hl.1 (Nat.le_of_ble_eq_true rfl) dX7_sigher_5 (rc_k1 (fun H locs hR hS => ?_))
  refine lv_if_eq (tgt := 20) hx hb dX7_sigher_8 (by decide) (fun c => ?_) (fun c => ?_)
  · have h := ip c h
    refine lv_iconst (v := (-1)) hx hb dX7_sigher_20 (by decide) ?_
    cases h
    exact rr_I C hR hS dX7_sigher_21
  · have h := iq c h
    refine lv_iload_n hx hb dX7_sigher_11 rfl (lv_at hl 2 rfl) ?_
    refine lv_if_lt (tgt := 20) hx hb dX7_sigher_12 (by decide) (fun c => ?_) (fun c => ?_)
    · have h := ip c h
      refine lv_iconst (v := (-1)) hx hb dX7_sigher_20 (by decide) ?_
      cases h
      exact rr_I C hR hS dX7_sigher_21
    · have h := iq c h
      refine lv_iload_n hx hb dX7_sigher_15 rfl (lv_at hl 2 rfl) ?_
      refine lv_iconst (v := 5) hx hb dX7_sigher_16 (by decide) ?_
      refine lv_icmp_lt (tgt := 22) hx hb dX7_sigher_17 (by decide) (fun c => ?_) (fun c => ?_)
      · have h := ip c h
        refine lv_aload_n hx hb dX7_sigher_22 rfl (lv_at hl 0 rfl) ?_
        refine lv_aload_n hx hb dX7_sigher_23 rfl (lv_at hl 0 rfl) ?_
        refine lv_iload_n hx hb dX7_sigher_24 rfl (lv_at hl 1 rfl) ?_
        refine lv_iload_n hx hb dX7_sigher_25 rfl (lv_at hl 2 rfl) ?_
        obtain ⟨v6, zqe5, h⟩ := ob h
        refine rc_V C hR hS cf_X7_sigherTells cv_X7_sigherTells lk542 (ok_X7_sigherTells zqe5) (ck_X7_sigherTells zqe5) ⟨Nat.le_of_ble_eq_true rfl, Nat.le_of_ble_eq_true rfl⟩ ⟨Nat.zero_le _, Nat.zero_le _⟩ rfl rfl hl.1 (Nat.le_of_ble_eq_true rfl) dX7_sigher_26 (rc_k1 (fun H locs hR hS => ?_))
        obtain ⟨M7, zqe8, h⟩ := ob h
        refine pf335 C hR hS zqe8 dX7_sigher_29 (fun H locs hR hS => ?_)
        refine lv_iconst (v := 1) hx hb dX7_sigher_32 (by decide) ?_
        cases h
        exact rr_I C hR hS dX7_sigher_33
      · have h := iq c h
        refine lv_iconst (v := (-1)) hx hb dX7_sigher_20 (by decide) ?_
        cases h
        exact rr_I C hR hS dX7_sigher_21
set_option maxHeartbeats 4000000 in
set_option maxRecDepth 100000 in
theorem w_X7_strikeTurn_18 {dp : Nat} {rc : Nat → Int32 → Mem → Option (Int32 × Mem)}   {r : Int32 × Mem} (C : Cx p s m args meth c RX7 cX7_strikeTurn 6 (some .int) D B ca st) (hrc : ∀ {y0 : Nat} {y1 : Int32} {N : Mem} {q : Int32 × Mem}, rc y0 y1 N = some q → Ok l yX7_guildTurn cX7_guildTurn 5 (some .int) (5 + 3 * dp) [.ref (B + y0), .int y1] D B ca st N (some (.int q.1)) q.2) (hck : ∀ {y0 : Nat} {y1 : Int32} {N : Mem} {q : Int32 × Mem}, rc y0 y1 N = some q → kd N y0 = 17)  : ∀ (n : Nat) {x0 : Nat} {x1 : Int32} {x2 : Int32} {x3 : Int32} {x4 : Int32} {M : Mem}, f_X7_strikeTurn_18 rc n x0 x1 x2 x3 x4 M = some r → ∀ {H : Heap} {locs : List Loc} {ls : Array Slot}, RH D B ca M H → va_S (AA B) s.heap H locs → lv_has ls 6 [(0, .ref (B + x0)), (1, .int x1), (2, .int x2), (3, .int x3), (4, .int x4)] → W p l e (rmD (5 + 3 * dp + 1)) s m args below meth c H locs 0 0 (MQ below (Qp D B ca st (some (.int r.1)) r.2) args s 0 0 (AA B)) (F0 m 18 ls []) := by
  have hx := C.1
  have hb := C.2.1
  intro n
  induction n with
  | zero => intro x0 x1 x2 x3 x4 M h; simp [f_X7_strikeTurn_18] at h
  | succ n ih =>
    intro x0 x1 x2 x3 x4 M h H locs ls hR hS hl
    rw [f_X7_strikeTurn_18] at h
    refine lv_iload hx hb dX7_strikeTurn_18 (lv_at hl 4 rfl) ?_
    refine lv_aload_n hx hb dX7_strikeTurn_20 rfl (lv_at hl 0 rfl) ?_
    obtain ⟨v4, zqe5, h⟩ := ob h
    refine gf327 C hR zqe5 dX7_strikeTurn_21 ?_
    obtain ⟨v6, zqe7, h⟩ := ob h
    refine gf154 C hR zqe7 dX7_strikeTurn_24 ?_
    refine lv_icmp_ge (tgt := 88) hx hb dX7_strikeTurn_27 (by decide) (fun c => ?_) (fun c => ?_)
    · have h := ip c h
      refine lv_iload_n hx hb dX7_strikeTurn_88 rfl (lv_at hl 3 rfl) ?_
      cases h
      exact rr_I C hR hS dX7_strikeTurn_89
    · have h := iq c h
      refine lv_iload_n hx hb dX7_strikeTurn_30 rfl (lv_at hl 3 rfl) ?_
      refine lv_iload_n hx hb dX7_strikeTurn_31 rfl (lv_at hl 2 rfl) ?_
      refine lv_icmp_le (tgt := 88) hx hb dX7_strikeTurn_32 (by decide) (fun c => ?_) (fun c => ?_)
      · have h := ip c h
        refine lv_iload_n hx hb dX7_strikeTurn_88 rfl (lv_at hl 3 rfl) ?_
        cases h
        exact rr_I C hR hS dX7_strikeTurn_89
      · have h := iq c h
        refine lv_aload_n hx hb dX7_strikeTurn_35 rfl (lv_at hl 0 rfl) ?_
        obtain ⟨v8, zqe9, h⟩ := ob h
        refine gf330 C hR zqe9 dX7_strikeTurn_36 ?_
        obtain ⟨v10, zqe11, h⟩ := ob h
        refine gf205 C hR zqe11 dX7_strikeTurn_39 ?_
        refine lv_iload hx hb dX7_strikeTurn_42 (lv_at hl 4 rfl) ?_
        obtain ⟨v12, zqe13, h⟩ := ob h
        refine ra_I C hR zqe13 dX7_strikeTurn_44 ?_
        refine lv_istore (lv' := [(5, .int v12), (0, .ref (B + x0)), (1, .int x1), (2, .int x2), (3, .int x3), (4, .int x4)]) hx hb dX7_strikeTurn_45 hl (by decide) rfl (fun ls hl => ?_)
        refine lv_aload_n hx hb dX7_strikeTurn_47 rfl (lv_at hl 1 rfl) ?_
        obtain ⟨v14, zqe15, h⟩ := ob h
        refine gf330 C hR zqe15 dX7_strikeTurn_48 ?_
        obtain ⟨v16, zqe17, h⟩ := ob h
        refine gf205 C hR zqe17 dX7_strikeTurn_51 ?_
        refine lv_iload hx hb dX7_strikeTurn_54 (lv_at hl 5 rfl) ?_
        refine lv_iconst (v := 0) hx hb dX7_strikeTurn_56 (by decide) ?_
        obtain ⟨M18, zqe19, h⟩ := ob h
        refine re_I C hR hS zqe19 dX7_strikeTurn_57 (fun H locs hR hS => ?_)
        refine lv_iload_n hx hb dX7_strikeTurn_58 rfl (lv_at hl 4 rfl) ?_
        refine lv_aload_n hx hb dX7_strikeTurn_59 rfl (lv_at hl 1 rfl) ?_
        refine lv_iload_n hx hb dX7_strikeTurn_60 rfl (lv_at hl 2 rfl) ?_
        refine lv_iconst (v := 1) hx hb dX7_strikeTurn_61 (by decide) ?_
        refine lv_isub hx hb dX7_strikeTurn_62 ?_
        obtain ⟨qv21, zqe20, h⟩ := ob h
        refine rc_V C hR hS cf_X7_guildTurn cv_X7_guildTurn lk834 (hrc zqe20) (hck zqe20) ⟨by simp only [rmD]; omega, by simp only [rmD]; omega⟩ ⟨Nat.zero_le _, Nat.zero_le _⟩ rfl rfl hl.1 (Nat.le_of_ble_eq_true rfl) dX7_strikeTurn_63 (rc_k1 (fun H locs hR hS => ?_))
        refine rm_min C lk759 hl.1 ⟨by simp only [rmD]; omega, Nat.le_trans (m := 40) (Nat.le_of_ble_eq_true rfl) (by simp only [rmD]; omega)⟩ ⟨Nat.zero_le _, Nat.zero_le _⟩ dX7_strikeTurn_66 ?_
        refine lv_istore_n (lv' := [(3, .int (f_J9_min_7cf53 x3 qv21.1)), (5, .int v12), (0, .ref (B + x0)), (1, .int x1), (2, .int x2), (4, .int x4)]) hx hb dX7_strikeTurn_69 rfl hl (by decide) rfl (fun ls hl => ?_)
        refine lv_aload_n hx hb dX7_strikeTurn_70 rfl (lv_at hl 2 rfl) ?_
        obtain ⟨v23, zqe24, h⟩ := ob h
        refine gf330 C hR zqe24 dX7_strikeTurn_71 ?_
        obtain ⟨v25, zqe26, h⟩ := ob h
        refine gf205 C hR zqe26 dX7_strikeTurn_74 ?_
        refine lv_iload hx hb dX7_strikeTurn_77 (lv_at hl 5 rfl) ?_
        refine lv_iload hx hb dX7_strikeTurn_79 (lv_at hl 1 rfl) ?_
        obtain ⟨M27, zqe28, h⟩ := ob h
        refine re_I C hR hS zqe28 dX7_strikeTurn_81 (fun H locs hR hS => ?_)
        refine lv_iinc (v := (x4 + 1)) (lv' := [(4, .int (x4 + 1)), (3, .int (f_J9_min_7cf53 x3 qv21.1)), (5, .int v12), (0, .ref (B + x0)), (1, .int x1), (2, .int x2)]) hx hb dX7_strikeTurn_82 hl (k := 5) rfl rfl (by decide) rfl (fun ls hl => ?_)
        refine lv_goto (tgt := 18) hx hb dX7_strikeTurn_85 (by decide) ?_
        exact ih h hR hS (lv_sub hl [3, 4, 5, 1, 0] rfl)
theorem ck_X7_strikeTurn {rc : Nat → Int32 → Mem → Option (Int32 × Mem)} {x0 : Nat} {x1 : Int32} {x2 : Int32} {M : Mem} {r : Int32 × Mem} (h : f_X7_strikeTurn rc x0 x1 x2 M = some r) : kd M x0 = 17 := by
  unfold f_X7_strikeTurn at h
  exact ck h
set_option maxHeartbeats 4000000 in
set_option maxRecDepth 100000 in
theorem ok_X7_strikeTurn {dp : Nat} {rc : Nat → Int32 → Mem → Option (Int32 × Mem)} {x0 : Nat} {x1 : Int32} {x2 : Int32}  {M : Mem} {r : Int32 × Mem} (hrc : ∀ {y0 : Nat} {y1 : Int32} {N : Mem} {q : Int32 × Mem}, rc y0 y1 N = some q → Ok l yX7_guildTurn cX7_guildTurn 5 (some .int) (5 + 3 * dp) [.ref (B + y0), .int y1] D B ca st N (some (.int q.1)) q.2) (hck : ∀ {y0 : Nat} {y1 : Int32} {N : Mem} {q : Int32 × Mem}, rc y0 y1 N = some q → kd N y0 = 17) (h : f_X7_strikeTurn rc x0 x1 x2 M = some r) : Ok l yX7_strikeTurn cX7_strikeTurn 6 (some .int) (5 + 3 * dp + 1) [.ref (B + x0), .int x1, .int x2] D B ca st M (some (.int r.1)) r.2 := by
  have hk0 := ck_X7_strikeTurn h
  unfold f_X7_strikeTurn at h
  have h := ip hk0 h
  refine ok_of rfl rfl (Nat.le_of_ble_eq_true rfl) ?_
  intro p e s m args below meth c ls C hl hR hS
  have hl : lv_has ls 6 [(0, .ref (B + x0)), (1, .int x1), (2, .int x2)] := hl
  have hx := C.1
  have hb := C.2.1
  refine lv_iload_n hx hb dX7_strikeTurn_0 rfl (lv_at hl 1 rfl) ?_
  refine lv_iconst (v := 1) hx hb dX7_strikeTurn_1 (by decide) ?_
  refine lv_icmp_gt (tgt := 7) hx hb dX7_strikeTurn_2 (by decide) (fun c => ?_) (fun c => ?_)
  · have h := ip c h
    refine lv_aload_n hx hb dX7_strikeTurn_7 rfl (lv_at hl 0 rfl) ?_
    refine lv_iload_n hx hb dX7_strikeTurn_8 rfl (lv_at hl 1 rfl) ?_
    refine lv_iconst (v := 1) hx hb dX7_strikeTurn_9 (by decide) ?_
    refine lv_isub hx hb dX7_strikeTurn_10 ?_
    obtain ⟨qv2, zqe1, h⟩ := ob h
    refine rc_V C hR hS cf_X7_guildTurn cv_X7_guildTurn lk834 (hrc zqe1) (hck zqe1) ⟨by simp only [rmD]; omega, by simp only [rmD]; omega⟩ ⟨Nat.zero_le _, Nat.zero_le _⟩ rfl rfl hl.1 (Nat.le_of_ble_eq_true rfl) dX7_strikeTurn_11 (rc_k1 (fun H locs hR hS => ?_))
    refine lv_istore_n (lv' := [(3, .int qv2.1), (0, .ref (B + x0)), (1, .int x1), (2, .int x2)]) hx hb dX7_strikeTurn_14 rfl hl (by decide) rfl (fun ls hl => ?_)
    refine lv_iconst (v := 0) hx hb dX7_strikeTurn_15 (by decide) ?_
    refine lv_istore (lv' := [(4, .int 0), (3, .int qv2.1), (0, .ref (B + x0)), (1, .int x1), (2, .int x2)]) hx hb dX7_strikeTurn_16 hl (by decide) rfl (fun ls hl => ?_)
    exact w_X7_strikeTurn_18 C (hrc := @hrc) (hck := @hck)  FU h hR hS (lv_sub hl [2, 3, 4, 1, 0] rfl)
  · have h := iq c h
    refine lv_iconst (v := 0) hx hb dX7_strikeTurn_5 (by decide) ?_
    cases h
    exact rr_I C hR hS dX7_strikeTurn_6
theorem ck_X7_goldOfTurn {rc : Nat → Int32 → Mem → Option (Int32 × Mem)} {x0 : Nat} {x1 : Int32} {x2 : Int32} {x3 : Int32} {x4 : Int32} {M : Mem} {r : Int32 × Mem} (h : f_X7_goldOfTurn rc x0 x1 x2 x3 x4 M = some r) : kd M x0 = 17 := by
  unfold f_X7_goldOfTurn at h
  exact ck h
set_option maxHeartbeats 4000000 in
set_option maxRecDepth 100000 in
theorem ok_X7_goldOfTurn {dp : Nat} {rc : Nat → Int32 → Mem → Option (Int32 × Mem)} {x0 : Nat} {x1 : Int32} {x2 : Int32} {x3 : Int32} {x4 : Int32}  {M : Mem} {r : Int32 × Mem} (hrc : ∀ {y0 : Nat} {y1 : Int32} {N : Mem} {q : Int32 × Mem}, rc y0 y1 N = some q → Ok l yX7_guildTurn cX7_guildTurn 5 (some .int) (5 + 3 * dp) [.ref (B + y0), .int y1] D B ca st N (some (.int q.1)) q.2) (hck : ∀ {y0 : Nat} {y1 : Int32} {N : Mem} {q : Int32 × Mem}, rc y0 y1 N = some q → kd N y0 = 17) (h : f_X7_goldOfTurn rc x0 x1 x2 x3 x4 M = some r) : Ok l yX7_goldOfTurn cX7_goldOfTurn 8 (some .int) (5 + 3 * dp + 2) [.ref (B + x0), .int x1, .int x2, .int x3, .int x4] D B ca st M (some (.int r.1)) r.2 := by
  have hk0 := ck_X7_goldOfTurn h
  unfold f_X7_goldOfTurn at h
  have h := ip hk0 h
  refine ok_of rfl rfl (Nat.le_of_ble_eq_true rfl) ?_
  intro p e s m args below meth c ls C hl hR hS
  have hl : lv_has ls 8 [(0, .ref (B + x0)), (1, .int x1), (2, .int x2), (3, .int x3), (4, .int x4)] := hl
  have hx := C.1
  have hb := C.2.1
  refine lv_aload_n hx hb dX7_goldOfTurn_0 rfl (lv_at hl 0 rfl) ?_
  obtain ⟨v1, zqe2, h⟩ := ob h
  refine gf327 C hR zqe2 dX7_goldOfTurn_1 ?_
  refine lv_iload_n hx hb dX7_goldOfTurn_4 rfl (lv_at hl 1 rfl) ?_
  refine lv_iload_n hx hb dX7_goldOfTurn_5 rfl (lv_at hl 2 rfl) ?_
  obtain ⟨v4, zqe3, h⟩ := ob h
  refine rc_VN C hR hS cf_X2_goldFor cv_X2_goldFor lk594 (ok_X2_goldFor zqe3) (ck_X2_goldFor zqe3) ⟨by simp only [rmD]; omega, by simp only [rmD]; omega⟩ ⟨Nat.zero_le _, Nat.zero_le _⟩ rfl rfl hl.1 (Nat.le_of_ble_eq_true rfl) dX7_goldOfTurn_6 (rc_k1 (fun H locs hR hS => ?_))
  refine lv_istore (lv' := [(5, .int v4), (0, .ref (B + x0)), (1, .int x1), (2, .int x2), (3, .int x3), (4, .int x4)]) hx hb dX7_goldOfTurn_9 hl (by decide) rfl (fun ls hl => ?_)
  refine lv_iload_n hx hb dX7_goldOfTurn_11 rfl (lv_at hl 4 rfl) ?_
  refine lv_iconst (v := 1) hx hb dX7_goldOfTurn_12 (by decide) ?_
  refine lv_icmp_gt (tgt := 19) hx hb dX7_goldOfTurn_13 (by decide) (fun c => ?_) (fun c => ?_)
  · have h := ip c h
    refine lv_aload_n hx hb dX7_goldOfTurn_19 rfl (lv_at hl 1 rfl) ?_
    obtain ⟨v5, zqe6, h⟩ := ob h
    refine gf330 C hR zqe6 dX7_goldOfTurn_20 ?_
    obtain ⟨v7, zqe8, h⟩ := ob h
    refine gf205 C hR zqe8 dX7_goldOfTurn_23 ?_
    refine lv_iload_n hx hb dX7_goldOfTurn_26 rfl (lv_at hl 2 rfl) ?_
    obtain ⟨v9, zqe10, h⟩ := ob h
    refine ra_I C hR zqe10 dX7_goldOfTurn_27 ?_
    refine lv_istore (lv' := [(6, .int v9), (5, .int v4), (0, .ref (B + x0)), (1, .int x1), (2, .int x2), (3, .int x3), (4, .int x4)]) hx hb dX7_goldOfTurn_28 hl (by decide) rfl (fun ls hl => ?_)
    refine lv_aload_n hx hb dX7_goldOfTurn_30 rfl (lv_at hl 2 rfl) ?_
    obtain ⟨v11, zqe12, h⟩ := ob h
    refine gf330 C hR zqe12 dX7_goldOfTurn_31 ?_
    obtain ⟨v13, zqe14, h⟩ := ob h
    refine gf212 C hR zqe14 dX7_goldOfTurn_34 ?_
    refine lv_istore (lv' := [(7, .int v13), (6, .int v9), (5, .int v4), (0, .ref (B + x0)), (1, .int x1), (2, .int x2), (3, .int x3), (4, .int x4)]) hx hb dX7_goldOfTurn_37 hl (by decide) rfl (fun ls hl => ?_)
    refine lv_aload_n hx hb dX7_goldOfTurn_39 rfl (lv_at hl 3 rfl) ?_
    obtain ⟨v15, zqe16, h⟩ := ob h
    refine gf330 C hR zqe16 dX7_goldOfTurn_40 ?_
    refine lv_aload_n hx hb dX7_goldOfTurn_43 rfl (lv_at hl 3 rfl) ?_
    obtain ⟨v17, zqe18, h⟩ := ob h
    refine gf327 C hR zqe18 dX7_goldOfTurn_44 ?_
    refine lv_iload_n hx hb dX7_goldOfTurn_47 rfl (lv_at hl 4 rfl) ?_
    refine lv_iload_n hx hb dX7_goldOfTurn_48 rfl (lv_at hl 5 rfl) ?_
    obtain ⟨M20, zqe19, h⟩ := ob h
    refine rc_VN C hR hS cf_X6_sighOrder cv_X6_sighOrder lk746 (ok_X6_sighOrder zqe19) (ck_X6_sighOrder zqe19) ⟨by simp only [rmD]; omega, by simp only [rmD]; omega⟩ ⟨Nat.zero_le _, Nat.zero_le _⟩ rfl rfl hl.1 (Nat.le_of_ble_eq_true rfl) dX7_goldOfTurn_49 (rc_k0 (fun H locs hR hS => ?_))
    refine lv_iload hx hb dX7_goldOfTurn_52 (lv_at hl 2 rfl) ?_
    refine lv_aload_n hx hb dX7_goldOfTurn_54 rfl (lv_at hl 3 rfl) ?_
    refine lv_iload_n hx hb dX7_goldOfTurn_55 rfl (lv_at hl 6 rfl) ?_
    refine lv_iload hx hb dX7_goldOfTurn_56 (lv_at hl 7 rfl) ?_
    refine lv_iload hx hb dX7_goldOfTurn_58 (lv_at hl 2 rfl) ?_
    refine lv_isub hx hb dX7_goldOfTurn_60 ?_
    obtain ⟨qv22, zqe21, h⟩ := ob h
    refine rc_V C hR hS cf_X7_strikeTurn cv_X7_strikeTurn lk838 (ok_X7_strikeTurn @hrc @hck zqe21) (ck_X7_strikeTurn zqe21) ⟨by simp only [rmD]; omega, by simp only [rmD]; omega⟩ ⟨Nat.zero_le _, Nat.zero_le _⟩ rfl rfl hl.1 (Nat.le_of_ble_eq_true rfl) dX7_goldOfTurn_61 (rc_k1 (fun H locs hR hS => ?_))
    refine lv_iadd hx hb dX7_goldOfTurn_64 ?_
    refine lv_istore (lv' := [(5, .int (v4 + qv22.1)), (7, .int v13), (6, .int v9), (0, .ref (B + x0)), (1, .int x1), (2, .int x2), (3, .int x3), (4, .int x4)]) hx hb dX7_goldOfTurn_65 hl (by decide) rfl (fun ls hl => ?_)
    refine lv_aload_n hx hb dX7_goldOfTurn_67 rfl (lv_at hl 3 rfl) ?_
    obtain ⟨v24, zqe25, h⟩ := ob h
    refine gf330 C hR zqe25 dX7_goldOfTurn_68 ?_
    obtain ⟨v26, zqe27, h⟩ := ob h
    refine gf205 C hR zqe27 dX7_goldOfTurn_71 ?_
    refine lv_iload_n hx hb dX7_goldOfTurn_74 rfl (lv_at hl 4 rfl) ?_
    refine lv_iload hx hb dX7_goldOfTurn_75 (lv_at hl 2 rfl) ?_
    obtain ⟨M28, zqe29, h⟩ := ob h
    refine re_I C hR hS zqe29 dX7_goldOfTurn_77 (fun H locs hR hS => ?_)
    refine lv_aload_n hx hb dX7_goldOfTurn_78 rfl (lv_at hl 3 rfl) ?_
    obtain ⟨v30, zqe31, h⟩ := ob h
    refine gf330 C hR zqe31 dX7_goldOfTurn_79 ?_
    refine lv_iload hx hb dX7_goldOfTurn_82 (lv_at hl 1 rfl) ?_
    obtain ⟨M32, zqe33, h⟩ := ob h
    refine pf212 C hR hS zqe33 dX7_goldOfTurn_84 (fun H locs hR hS => ?_)
    refine lv_iload hx hb dX7_goldOfTurn_87 (lv_at hl 0 rfl) ?_
    cases h
    exact rr_I C hR hS dX7_goldOfTurn_89
  · have h := iq c h
    refine lv_iload hx hb dX7_goldOfTurn_16 (lv_at hl 0 rfl) ?_
    cases h
    exact rr_I C hR hS dX7_goldOfTurn_18
set_option maxHeartbeats 4000000 in
set_option maxRecDepth 100000 in
theorem w_X7_guildTurn_34 {dp : Nat} {rc : Nat → Int32 → Mem → Option (Int32 × Mem)} {k20 : Nat → Int32 → Int32 → Int32 → Mem → Option (Int32 × Mem)}  {r : Int32 × Mem} (C : Cx p s m args meth c RX7 cX7_guildTurn 5 (some .int) D B ca st) (hrc : ∀ {y0 : Nat} {y1 : Int32} {N : Mem} {q : Int32 × Mem}, rc y0 y1 N = some q → Ok l yX7_guildTurn cX7_guildTurn 5 (some .int) (5 + 3 * dp) [.ref (B + y0), .int y1] D B ca st N (some (.int q.1)) q.2) (hck : ∀ {y0 : Nat} {y1 : Int32} {N : Mem} {q : Int32 × Mem}, rc y0 y1 N = some q → kd N y0 = 17) (hk20 : ∀ {x0 : Nat} {x1 : Int32} {x2 : Int32} {x3 : Int32} {M : Mem}, k20 x0 x1 x2 x3 M = some r → ∀ {H : Heap} {locs : List Loc} {ls : Array Slot}, RH D B ca M H → va_S (AA B) s.heap H locs → lv_has ls 5 [(0, .ref (B + x0)), (1, .int x1), (2, .int x2), (3, .int x3)] → W p l e (rmD (5 + 3 * (dp + 1))) s m args below meth c H locs 0 0 (MQ below (Qp D B ca st (some (.int r.1)) r.2) args s 0 0 (AA B)) (F0 m 20 ls [])) : ∀ (n : Nat) {x0 : Nat} {x1 : Int32} {x2 : Int32} {x3 : Int32} {x4 : Int32} {M : Mem}, f_X7_guildTurn_34 rc k20 n x0 x1 x2 x3 x4 M = some r → ∀ {H : Heap} {locs : List Loc} {ls : Array Slot}, RH D B ca M H → va_S (AA B) s.heap H locs → lv_has ls 5 [(0, .ref (B + x0)), (1, .int x1), (2, .int x2), (3, .int x3), (4, .int x4)] → W p l e (rmD (5 + 3 * (dp + 1))) s m args below meth c H locs 0 0 (MQ below (Qp D B ca st (some (.int r.1)) r.2) args s 0 0 (AA B)) (F0 m 34 ls []) := by
  have hx := C.1
  have hb := C.2.1
  intro n
  induction n with
  | zero => intro x0 x1 x2 x3 x4 M h; simp [f_X7_guildTurn_34] at h
  | succ n ih =>
    intro x0 x1 x2 x3 x4 M h H locs ls hR hS hl
    rw [f_X7_guildTurn_34] at h
    refine lv_iload hx hb dX7_guildTurn_34 (lv_at hl 4 rfl) ?_
    refine lv_aload_n hx hb dX7_guildTurn_36 rfl (lv_at hl 0 rfl) ?_
    obtain ⟨v8, zqe9, h⟩ := ob h
    refine gf327 C hR zqe9 dX7_guildTurn_37 ?_
    obtain ⟨v10, zqe11, h⟩ := ob h
    refine gf158 C hR zqe11 dX7_guildTurn_40 ?_
    refine lv_icmp_ge (tgt := 83) hx hb dX7_guildTurn_43 (by decide) (fun c => ?_) (fun c => ?_)
    · have h := ip c h
      refine lv_iinc (v := (x3 + 1)) (lv' := [(3, .int (x3 + 1)), (0, .ref (B + x0)), (1, .int x1), (2, .int x2), (4, .int x4)]) hx hb dX7_guildTurn_83 hl (k := 3) rfl rfl (by decide) rfl (fun ls hl => ?_)
      refine lv_goto (tgt := 20) hx hb dX7_guildTurn_86 (by decide) ?_
      exact hk20 h hR hS (lv_sub hl [1, 2, 3, 0] rfl)
    · have h := iq c h
      refine lv_aload_n hx hb dX7_guildTurn_46 rfl (lv_at hl 0 rfl) ?_
      obtain ⟨v12, zqe13, h⟩ := ob h
      refine gf330 C hR zqe13 dX7_guildTurn_47 ?_
      refine lv_aload_n hx hb dX7_guildTurn_50 rfl (lv_at hl 0 rfl) ?_
      obtain ⟨v14, zqe15, h⟩ := ob h
      refine gf327 C hR zqe15 dX7_guildTurn_51 ?_
      refine lv_iload_n hx hb dX7_guildTurn_54 rfl (lv_at hl 3 rfl) ?_
      refine lv_iload hx hb dX7_guildTurn_55 (lv_at hl 4 rfl) ?_
      obtain ⟨v17, zqe16, h⟩ := ob h
      refine rc_VN C hR hS cf_X6_isAble cv_X6_isAble lk550 (ok_X6_isAble zqe16) (ck_X6_isAble zqe16) ⟨by simp only [rmD]; omega, by simp only [rmD]; omega⟩ ⟨Nat.zero_le _, Nat.zero_le _⟩ rfl rfl hl.1 (Nat.le_of_ble_eq_true rfl) dX7_guildTurn_57 (rc_k1 (fun H locs hR hS => ?_))
      refine lv_if_eq (tgt := 77) hx hb dX7_guildTurn_60 (by decide) (fun c => ?_) (fun c => ?_)
      · have h := ip c h
        refine lv_iinc (v := (x4 + 1)) (lv' := [(4, .int (x4 + 1)), (0, .ref (B + x0)), (1, .int x1), (2, .int x2), (3, .int x3)]) hx hb dX7_guildTurn_77 hl (k := 4) rfl rfl (by decide) rfl (fun ls hl => ?_)
        refine lv_goto (tgt := 34) hx hb dX7_guildTurn_80 (by decide) ?_
        exact ih h hR hS (lv_sub hl [1, 2, 3, 4, 0] rfl)
      · have h := iq c h
        refine lv_iload_n hx hb dX7_guildTurn_63 rfl (lv_at hl 2 rfl) ?_
        refine lv_aload_n hx hb dX7_guildTurn_64 rfl (lv_at hl 0 rfl) ?_
        refine lv_iload_n hx hb dX7_guildTurn_65 rfl (lv_at hl 3 rfl) ?_
        refine lv_iload hx hb dX7_guildTurn_66 (lv_at hl 4 rfl) ?_
        refine lv_iload_n hx hb dX7_guildTurn_68 rfl (lv_at hl 1 rfl) ?_
        refine lv_iload_n hx hb dX7_guildTurn_69 rfl (lv_at hl 2 rfl) ?_
        obtain ⟨qv19, zqe18, h⟩ := ob h
        refine rc_V C hR hS cf_X7_goldOfTurn cv_X7_goldOfTurn lk842 (ok_X7_goldOfTurn @hrc @hck zqe18) (ck_X7_goldOfTurn zqe18) ⟨by simp only [rmD]; omega, by simp only [rmD]; omega⟩ ⟨Nat.zero_le _, Nat.zero_le _⟩ rfl rfl hl.1 (Nat.le_of_ble_eq_true rfl) dX7_guildTurn_70 (rc_k1 (fun H locs hR hS => ?_))
        refine rm_max C lk514 hl.1 ⟨by simp only [rmD]; omega, Nat.le_trans (m := 40) (Nat.le_of_ble_eq_true rfl) (by simp only [rmD]; omega)⟩ ⟨Nat.zero_le _, Nat.zero_le _⟩ dX7_guildTurn_73 ?_
        refine lv_istore_n (lv' := [(2, .int (f_J9_max_7cf53 x2 qv19.1)), (0, .ref (B + x0)), (1, .int x1), (3, .int x3), (4, .int x4)]) hx hb dX7_guildTurn_76 rfl hl (by decide) rfl (fun ls hl => ?_)
        refine lv_iinc (v := (x4 + 1)) (lv' := [(4, .int (x4 + 1)), (2, .int (f_J9_max_7cf53 x2 qv19.1)), (0, .ref (B + x0)), (1, .int x1), (3, .int x3)]) hx hb dX7_guildTurn_77 hl (k := 4) rfl rfl (by decide) rfl (fun ls hl => ?_)
        refine lv_goto (tgt := 34) hx hb dX7_guildTurn_80 (by decide) ?_
        exact ih h hR hS (lv_sub hl [2, 3, 1, 4, 0] rfl)
set_option maxHeartbeats 4000000 in
set_option maxRecDepth 100000 in
theorem w_X7_guildTurn_20 {dp : Nat} {rc : Nat → Int32 → Mem → Option (Int32 × Mem)}   {r : Int32 × Mem} (C : Cx p s m args meth c RX7 cX7_guildTurn 5 (some .int) D B ca st) (hrc : ∀ {y0 : Nat} {y1 : Int32} {N : Mem} {q : Int32 × Mem}, rc y0 y1 N = some q → Ok l yX7_guildTurn cX7_guildTurn 5 (some .int) (5 + 3 * dp) [.ref (B + y0), .int y1] D B ca st N (some (.int q.1)) q.2) (hck : ∀ {y0 : Nat} {y1 : Int32} {N : Mem} {q : Int32 × Mem}, rc y0 y1 N = some q → kd N y0 = 17)  : ∀ (n : Nat) {x0 : Nat} {x1 : Int32} {x2 : Int32} {x3 : Int32} {M : Mem}, f_X7_guildTurn_20 rc n x0 x1 x2 x3 M = some r → ∀ {H : Heap} {locs : List Loc} {ls : Array Slot}, RH D B ca M H → va_S (AA B) s.heap H locs → lv_has ls 5 [(0, .ref (B + x0)), (1, .int x1), (2, .int x2), (3, .int x3)] → W p l e (rmD (5 + 3 * (dp + 1))) s m args below meth c H locs 0 0 (MQ below (Qp D B ca st (some (.int r.1)) r.2) args s 0 0 (AA B)) (F0 m 20 ls []) := by
  have hx := C.1
  have hb := C.2.1
  intro n
  induction n with
  | zero => intro x0 x1 x2 x3 M h; simp [f_X7_guildTurn_20] at h
  | succ n ih =>
    intro x0 x1 x2 x3 M h H locs ls hR hS hl
    rw [f_X7_guildTurn_20] at h
    refine lv_iload_n hx hb dX7_guildTurn_20 rfl (lv_at hl 3 rfl) ?_
    refine lv_aload_n hx hb dX7_guildTurn_21 rfl (lv_at hl 0 rfl) ?_
    obtain ⟨v4, zqe5, h⟩ := ob h
    refine gf327 C hR zqe5 dX7_guildTurn_22 ?_
    obtain ⟨v6, zqe7, h⟩ := ob h
    refine gf154 C hR zqe7 dX7_guildTurn_25 ?_
    refine lv_icmp_ge (tgt := 89) hx hb dX7_guildTurn_28 (by decide) (fun c => ?_) (fun c => ?_)
    · have h := ip c h
      refine lv_iload_n hx hb dX7_guildTurn_89 rfl (lv_at hl 2 rfl) ?_
      cases h
      exact rr_I C hR hS dX7_guildTurn_90
    · have h := iq c h
      refine lv_iconst (v := 0) hx hb dX7_guildTurn_31 (by decide) ?_
      refine lv_istore (lv' := [(4, .int 0), (0, .ref (B + x0)), (1, .int x1), (2, .int x2), (3, .int x3)]) hx hb dX7_guildTurn_32 hl (by decide) rfl (fun ls hl => ?_)
      exact w_X7_guildTurn_34 C (hrc := @hrc) (hck := @hck) (hk20 := @ih) FU h hR hS (lv_sub hl [1, 2, 3, 4, 0] rfl)
theorem ck_X7_guildTurn_b {rc : Nat → Int32 → Mem → Option (Int32 × Mem)} {x0 : Nat} {x1 : Int32} {M : Mem} {r : Int32 × Mem} (h : f_X7_guildTurn_b rc x0 x1 M = some r) : kd M x0 = 17 := by
  unfold f_X7_guildTurn_b at h
  exact ck h
set_option maxHeartbeats 4000000 in
set_option maxRecDepth 100000 in
theorem ok_X7_guildTurn_b {dp : Nat} {rc : Nat → Int32 → Mem → Option (Int32 × Mem)} {x0 : Nat} {x1 : Int32}  {M : Mem} {r : Int32 × Mem} (hrc : ∀ {y0 : Nat} {y1 : Int32} {N : Mem} {q : Int32 × Mem}, rc y0 y1 N = some q → Ok l yX7_guildTurn cX7_guildTurn 5 (some .int) (5 + 3 * dp) [.ref (B + y0), .int y1] D B ca st N (some (.int q.1)) q.2) (hck : ∀ {y0 : Nat} {y1 : Int32} {N : Mem} {q : Int32 × Mem}, rc y0 y1 N = some q → kd N y0 = 17) (h : f_X7_guildTurn_b rc x0 x1 M = some r) : Ok l yX7_guildTurn cX7_guildTurn 5 (some .int) (5 + 3 * (dp + 1)) [.ref (B + x0), .int x1] D B ca st M (some (.int r.1)) r.2 := by
  have hk0 := ck_X7_guildTurn_b h
  unfold f_X7_guildTurn_b at h
  have h := ip hk0 h
  refine ok_of rfl rfl (Nat.le_of_ble_eq_true rfl) ?_
  intro p e s m args below meth c ls C hl hR hS
  have hl : lv_has ls 5 [(0, .ref (B + x0)), (1, .int x1)] := hl
  have hx := C.1
  have hb := C.2.1
  refine lv_iload_n hx hb dX7_guildTurn_0 rfl (lv_at hl 1 rfl) ?_
  refine lv_if_le (tgt := 9) hx hb dX7_guildTurn_1 (by decide) (fun c => ?_) (fun c => ?_)
  · have h := ip c h
    refine lv_iconst (v := 0) hx hb dX7_guildTurn_9 (by decide) ?_
    cases h
    exact rr_I C hR hS dX7_guildTurn_10
  · have h := iq c h
    refine lv_iload_n hx hb dX7_guildTurn_4 rfl (lv_at hl 1 rfl) ?_
    refine lv_iconst (v := 2) hx hb dX7_guildTurn_5 (by decide) ?_
    refine lv_icmp_le (tgt := 11) hx hb dX7_guildTurn_6 (by decide) (fun c => ?_) (fun c => ?_)
    · have h := ip c h
      refine lv_aload_n hx hb dX7_guildTurn_11 rfl (lv_at hl 0 rfl) ?_
      refine lv_iload_n hx hb dX7_guildTurn_12 rfl (lv_at hl 1 rfl) ?_
      refine lv_iconst (v := 0) hx hb dX7_guildTurn_13 (by decide) ?_
      obtain ⟨qv2, zqe1, h⟩ := ob h
      refine rc_V C hR hS cf_X7_strikeTurn cv_X7_strikeTurn lk838 (ok_X7_strikeTurn @hrc @hck zqe1) (ck_X7_strikeTurn zqe1) ⟨by simp only [rmD]; omega, by simp only [rmD]; omega⟩ ⟨Nat.zero_le _, Nat.zero_le _⟩ rfl rfl hl.1 (Nat.le_of_ble_eq_true rfl) dX7_guildTurn_14 (rc_k1 (fun H locs hR hS => ?_))
      refine lv_istore_n (lv' := [(2, .int qv2.1), (0, .ref (B + x0)), (1, .int x1)]) hx hb dX7_guildTurn_17 rfl hl (by decide) rfl (fun ls hl => ?_)
      refine lv_iconst (v := 0) hx hb dX7_guildTurn_18 (by decide) ?_
      refine lv_istore_n (lv' := [(3, .int 0), (2, .int qv2.1), (0, .ref (B + x0)), (1, .int x1)]) hx hb dX7_guildTurn_19 rfl hl (by decide) rfl (fun ls hl => ?_)
      exact w_X7_guildTurn_20 C (hrc := @hrc) (hck := @hck)  FU h hR hS (lv_sub hl [2, 3, 1, 0] rfl)
    · have h := iq c h
      refine lv_iconst (v := 0) hx hb dX7_guildTurn_9 (by decide) ?_
      cases h
      exact rr_I C hR hS dX7_guildTurn_10
theorem ck_X7_guildTurn {dp : Nat} {x0 : Nat} {x1 : Int32} {M : Mem} {r : Int32 × Mem} (h : f_X7_guildTurn dp x0 x1 M = some r) : kd M x0 = 17 := by
  cases dp with
  | zero => simp [f_X7_guildTurn] at h
  | succ dp => rw [f_X7_guildTurn] at h; exact ck_X7_guildTurn_b h
theorem ok_X7_guildTurn : ∀ {dp : Nat} {x0 : Nat} {x1 : Int32} {M : Mem} {r : Int32 × Mem}, f_X7_guildTurn dp x0 x1 M = some r → Ok l yX7_guildTurn cX7_guildTurn 5 (some .int) (5 + 3 * dp) [.ref (B + x0), .int x1] D B ca st M (some (.int r.1)) r.2 := by
  intro dp
  induction dp with
  | zero => intro x0 x1 M r h; simp [f_X7_guildTurn] at h
  | succ dp ih => intro x0 x1 M r h; rw [f_X7_guildTurn] at h; exact ok_X7_guildTurn_b (dp := dp) @ih (fun h => ck_X7_guildTurn h) h
theorem ck_X7_strike  {x0 : Nat} {x1 : Int32} {M : Mem} {r : Int32 × Mem} (h : f_X7_strike  x0 x1 M = some r) : kd M x0 = 17 := by
  unfold f_X7_strike at h
  exact ck h
set_option maxHeartbeats 4000000 in
set_option maxRecDepth 100000 in
theorem ok_X7_strike  {x0 : Nat} {x1 : Int32}  {M : Mem} {r : Int32 × Mem}  (h : f_X7_strike  x0 x1 M = some r) : Ok l yX7_strike cX7_strike 2 (some .int) 18 [.ref (B + x0), .int x1] D B ca st M (some (.int r.1)) r.2 := by
  have hk0 := ck_X7_strike h
  unfold f_X7_strike at h
  have h := ip hk0 h
  refine ok_of rfl rfl (Nat.le_of_ble_eq_true rfl) ?_
  intro p e s m args below meth c ls C hl hR hS
  have hl : lv_has ls 2 [(0, .ref (B + x0)), (1, .int x1)] := hl
  have hx := C.1
  have hb := C.2.1
  refine lv_iload_n hx hb dX7_strike_0 rfl (lv_at hl 1 rfl) ?_
  refine lv_if_lt (tgt := 9) hx hb dX7_strike_1 (by decide) (fun c => ?_) (fun c => ?_)
  · have h := ip c h
    refine lv_iconst (v := (-1)) hx hb dX7_strike_9 (by decide) ?_
    cases h
    exact rr_I C hR hS dX7_strike_10
  · have h := iq c h
    refine lv_iload_n hx hb dX7_strike_4 rfl (lv_at hl 1 rfl) ?_
    refine lv_iconst (v := 2) hx hb dX7_strike_5 (by decide) ?_
    refine lv_icmp_le (tgt := 11) hx hb dX7_strike_6 (by decide) (fun c => ?_) (fun c => ?_)
    · have h := ip c h
      refine lv_aload_n hx hb dX7_strike_11 rfl (lv_at hl 0 rfl) ?_
      obtain ⟨v1, zqe2, h⟩ := ob h
      refine gf327 C hR zqe2 dX7_strike_12 ?_
      obtain ⟨v3, zqe4, h⟩ := ob h
      refine gf154 C hR zqe4 dX7_strike_15 ?_
      refine lv_if_ne (tgt := 24) hx hb dX7_strike_18 (by decide) (fun c => ?_) (fun c => ?_)
      · have h := iq c h
        refine lv_aload_n hx hb dX7_strike_24 rfl (lv_at hl 0 rfl) ?_
        obtain ⟨v5, zqe6, h⟩ := ob h
        refine gf330 C hR zqe6 dX7_strike_25 ?_
        refine lv_aload_n hx hb dX7_strike_28 rfl (lv_at hl 0 rfl) ?_
        obtain ⟨v7, zqe8, h⟩ := ob h
        refine gf329 C hR zqe8 dX7_strike_29 ?_
        obtain ⟨M10, zqe9, h⟩ := ob h
        refine rc_VN C hR hS cf_X6_takeOver cv_X6_takeOver lk741 (ok_X6_takeOver zqe9) (ck_X6_takeOver zqe9) ⟨Nat.le_of_ble_eq_true rfl, Nat.le_of_ble_eq_true rfl⟩ ⟨Nat.zero_le _, Nat.zero_le _⟩ rfl rfl hl.1 (Nat.le_of_ble_eq_true rfl) dX7_strike_32 (rc_k0 (fun H locs hR hS => ?_))
        refine lv_aload_n hx hb dX7_strike_35 rfl (lv_at hl 0 rfl) ?_
        refine lv_iload_n hx hb dX7_strike_36 rfl (lv_at hl 1 rfl) ?_
        obtain ⟨qv12, zqe11, h⟩ := ob h
        refine rc_V C hR hS cf_X7_guildTurn cv_X7_guildTurn lk834 (ok_X7_guildTurn zqe11) (ck_X7_guildTurn zqe11) ⟨Nat.le_of_ble_eq_true rfl, Nat.le_of_ble_eq_true rfl⟩ ⟨Nat.zero_le _, Nat.zero_le _⟩ rfl rfl hl.1 (Nat.le_of_ble_eq_true rfl) dX7_strike_37 (rc_k1 (fun H locs hR hS => ?_))
        cases h
        exact rr_I C hR hS dX7_strike_40
      · have h := ip c h
        refine lv_bipush (v := (-4)) hx hb dX7_strike_21 (by decide) ?_
        cases h
        exact rr_I C hR hS dX7_strike_23
    · have h := iq c h
      refine lv_iconst (v := (-1)) hx hb dX7_strike_9 (by decide) ?_
      cases h
      exact rr_I C hR hS dX7_strike_10
theorem ck_X7_takes  {x0 : Nat} {x1 : Int32} {x2 : Int32} {M : Mem} {r : Int32} (h : f_X7_takes  x0 x1 x2 M = some r) : kd M x0 = 17 := by
  unfold f_X7_takes at h
  exact ck h
set_option maxHeartbeats 4000000 in
set_option maxRecDepth 100000 in
theorem ok_X7_takes  {x0 : Nat} {x1 : Int32} {x2 : Int32}  {M : Mem} {r : Int32}  (h : f_X7_takes  x0 x1 x2 M = some r) : Ok l yX7_takes cX7_takes 3 (some .int) 2 [.ref (B + x0), .int x1, .int x2] D B ca st M (some (.int r)) M := by
  have hk0 := ck_X7_takes h
  unfold f_X7_takes at h
  have h := ip hk0 h
  refine ok_of rfl rfl (Nat.le_of_ble_eq_true rfl) ?_
  intro p e s m args below meth c ls C hl hR hS
  have hl : lv_has ls 3 [(0, .ref (B + x0)), (1, .int x1), (2, .int x2)] := hl
  have hx := C.1
  have hb := C.2.1
  refine lv_aload_n hx hb dX7_takes_0 rfl (lv_at hl 0 rfl) ?_
  obtain ⟨v1, zqe2, h⟩ := ob h
  refine gf327 C hR zqe2 dX7_takes_1 ?_
  refine lv_iload_n hx hb dX7_takes_4 rfl (lv_at hl 1 rfl) ?_
  obtain ⟨v4, zqe3, h⟩ := ob h
  refine rc_VN C hR hS cf_X2_hasSigher cv_X2_hasSigher lk538 (ok_X2_hasSigher zqe3) (ck_X2_hasSigher zqe3) ⟨Nat.le_of_ble_eq_true rfl, Nat.le_of_ble_eq_true rfl⟩ ⟨Nat.zero_le _, Nat.zero_le _⟩ rfl rfl hl.1 (Nat.le_of_ble_eq_true rfl) dX7_takes_5 (rc_k1 (fun H locs hR hS => ?_))
  refine lv_if_eq (tgt := 22) hx hb dX7_takes_8 (by decide) (fun c => ?_) (fun c => ?_)
  · have h := ip c h
    refine lv_iconst (v := (-1)) hx hb dX7_takes_22 (by decide) ?_
    cases h
    exact rr_I C hR hS dX7_takes_23
  · have h := iq c h
    refine lv_aload_n hx hb dX7_takes_11 rfl (lv_at hl 0 rfl) ?_
    obtain ⟨v5, zqe6, h⟩ := ob h
    refine gf327 C hR zqe6 dX7_takes_12 ?_
    refine lv_iload_n hx hb dX7_takes_15 rfl (lv_at hl 2 rfl) ?_
    obtain ⟨v8, zqe7, h⟩ := ob h
    refine rc_VN C hR hS cf_X2_hasOrder cv_X2_hasOrder lk575 (ok_X2_hasOrder zqe7) (ck_X2_hasOrder zqe7) ⟨Nat.le_of_ble_eq_true rfl, Nat.le_of_ble_eq_true rfl⟩ ⟨Nat.zero_le _, Nat.zero_le _⟩ rfl rfl hl.1 (Nat.le_of_ble_eq_true rfl) dX7_takes_16 (rc_k1 (fun H locs hR hS => ?_))
    refine lv_if_ne (tgt := 24) hx hb dX7_takes_19 (by decide) (fun c => ?_) (fun c => ?_)
    · have h := iq c h
      refine lv_aload_n hx hb dX7_takes_24 rfl (lv_at hl 0 rfl) ?_
      obtain ⟨v9, zqe10, h⟩ := ob h
      refine gf327 C hR zqe10 dX7_takes_25 ?_
      refine lv_iload_n hx hb dX7_takes_28 rfl (lv_at hl 1 rfl) ?_
      refine lv_iload_n hx hb dX7_takes_29 rfl (lv_at hl 2 rfl) ?_
      obtain ⟨v12, zqe11, h⟩ := ob h
      refine rc_VN C hR hS cf_X2_breathFor cv_X2_breathFor lk593 (ok_X2_breathFor zqe11) (ck_X2_breathFor zqe11) ⟨Nat.le_of_ble_eq_true rfl, Nat.le_of_ble_eq_true rfl⟩ ⟨Nat.zero_le _, Nat.zero_le _⟩ rfl rfl hl.1 (Nat.le_of_ble_eq_true rfl) dX7_takes_30 (rc_k1 (fun H locs hR hS => ?_))
      cases h
      exact rr_I C hR hS dX7_takes_33
    · have h := ip c h
      refine lv_iconst (v := (-1)) hx hb dX7_takes_22 (by decide) ?_
      cases h
      exact rr_I C hR hS dX7_takes_23
theorem ck_X7_tear  {x0 : Nat} {x1 : Int32} {M : Mem} {r : Int32 × Mem} (h : f_X7_tear  x0 x1 M = some r) : kd M x0 = 17 := by
  unfold f_X7_tear at h
  exact ck h
set_option maxHeartbeats 4000000 in
set_option maxRecDepth 100000 in
theorem ok_X7_tear  {x0 : Nat} {x1 : Int32}  {M : Mem} {r : Int32 × Mem}  (h : f_X7_tear  x0 x1 M = some r) : Ok l yX7_tear cX7_tear 3 (some .int) 1 [.ref (B + x0), .int x1] D B ca st M (some (.int r.1)) r.2 := by
  have hk0 := ck_X7_tear h
  unfold f_X7_tear at h
  have h := ip hk0 h
  refine ok_of rfl rfl (Nat.le_of_ble_eq_true rfl) ?_
  intro p e s m args below meth c ls C hl hR hS
  have hl : lv_has ls 3 [(0, .ref (B + x0)), (1, .int x1)] := hl
  have hx := C.1
  have hb := C.2.1
  refine lv_aload_n hx hb dX7_tear_0 rfl (lv_at hl 0 rfl) ?_
  refine lv_iload_n hx hb dX7_tear_1 rfl (lv_at hl 1 rfl) ?_
  obtain ⟨v2, zqe1, h⟩ := ob h
  refine rc_V C hR hS cf_X7_rowOf cv_X7_rowOf lk375 (ok_X7_rowOf zqe1) (ck_X7_rowOf zqe1) ⟨Nat.le_of_ble_eq_true rfl, Nat.le_of_ble_eq_true rfl⟩ ⟨Nat.zero_le _, Nat.zero_le _⟩ rfl rfl hl.1 (Nat.le_of_ble_eq_true rfl) dX7_tear_2 (rc_k1 (fun H locs hR hS => ?_))
  refine rc_nul (fun zqz3 => ?_) (fun zqz3 => ?_)
  · have h := ip zqz3 h
    refine lv_astore_nN (lv' := [(2, .null), (0, .ref (B + x0)), (1, .int x1)]) hx hb dX7_tear_5 rfl hl (by decide) rfl (fun ls hl => ?_)
    refine lv_aload_nN hx hb dX7_tear_6 rfl (lv_at hl 0 rfl) ?_
    refine lv_ifnonnullN hx hb dX7_tear_7 ?_
    refine lv_iconst (v := (-1)) hx hb dX7_tear_10 (by decide) ?_
    cases h
    exact rr_I C hR hS dX7_tear_11
  · have h := iq zqz3 h
    refine lv_astore_n (lv' := [(2, .ref (B + v2)), (0, .ref (B + x0)), (1, .int x1)]) hx hb dX7_tear_5 rfl hl (by decide) rfl (fun ls hl => ?_)
    refine lv_aload_n hx hb dX7_tear_6 rfl (lv_at hl 0 rfl) ?_
    refine lv_ifnonnull (tgt := 12) hx hb dX7_tear_7 (by decide) ?_
    refine lv_aload_n hx hb dX7_tear_12 rfl (lv_at hl 0 rfl) ?_
    obtain ⟨v5, zqe4, h⟩ := ob h
    refine rc_VN C hR hS cf_X4_isMissing cv_X4_isMissing lk394 (ok_X4_isMissing zqe4) (ck_X4_isMissing zqe4) ⟨Nat.le_of_ble_eq_true rfl, Nat.le_of_ble_eq_true rfl⟩ ⟨Nat.zero_le _, Nat.zero_le _⟩ rfl rfl hl.1 (Nat.le_of_ble_eq_true rfl) dX7_tear_13 (rc_k1 (fun H locs hR hS => ?_))
    refine lv_if_eq (tgt := 25) hx hb dX7_tear_16 (by decide) (fun c => ?_) (fun c => ?_)
    · have h := ip c h
      refine lv_aload_n hx hb dX7_tear_25 rfl (lv_at hl 0 rfl) ?_
      refine lv_iconst (v := (-1)) hx hb dX7_tear_26 (by decide) ?_
      obtain ⟨M6, zqe7, h⟩ := ob h
      refine pf304 C hR hS zqe7 dX7_tear_27 (fun H locs hR hS => ?_)
      refine lv_iconst (v := 1) hx hb dX7_tear_30 (by decide) ?_
      cases h
      exact rr_I C hR hS dX7_tear_31
    · have h := iq c h
      refine lv_aload_n hx hb dX7_tear_19 rfl (lv_at hl 1 rfl) ?_
      refine lv_iconst (v := 1) hx hb dX7_tear_20 (by decide) ?_
      obtain ⟨qv9, zqe8, h⟩ := ob h
      refine rc_V C hR hS cf_X7_refuse cv_X7_refuse lk379 (ok_X7_refuse zqe8) (ck_X7_refuse zqe8) ⟨Nat.le_of_ble_eq_true rfl, Nat.le_of_ble_eq_true rfl⟩ ⟨Nat.zero_le _, Nat.zero_le _⟩ rfl rfl hl.1 (Nat.le_of_ble_eq_true rfl) dX7_tear_21 (rc_k1 (fun H locs hR hS => ?_))
      cases h
      exact rr_I C hR hS dX7_tear_24
theorem ck_X5_renew  {x0 : Nat} {x1 : Int32} {M : Mem} {r : Mem} (h : f_X5_renew  x0 x1 M = some r) : kd M x0 = 15 := by
  unfold f_X5_renew at h
  exact ck h
set_option maxHeartbeats 4000000 in
set_option maxRecDepth 100000 in
theorem ok_X5_renew  {x0 : Nat} {x1 : Int32}  {M : Mem} {r : Mem}  (h : f_X5_renew  x0 x1 M = some r) : Ok l yX5_renew cX5_renew 2 none 1 [.ref (B + x0), .int x1] D B ca st M none r := by
  have hk0 := ck_X5_renew h
  unfold f_X5_renew at h
  have h := ip hk0 h
  refine ok_of rfl rfl (Nat.le_of_ble_eq_true rfl) ?_
  intro p e s m args below meth c ls C hl hR hS
  have hl : lv_has ls 2 [(0, .ref (B + x0)), (1, .int x1)] := hl
  have hx := C.1
  have hb := C.2.1
  refine lv_aload_n hx hb dX5_renew_0 rfl (lv_at hl 0 rfl) ?_
  obtain ⟨v1, zqe2, h⟩ := ob h
  refine gf315 C hR zqe2 dX5_renew_1 ?_
  refine lv_bipush (v := 32) hx hb dX5_renew_4 (by decide) ?_
  obtain ⟨M4, zqe3, h⟩ := ob h
  refine rc_S C hR hS cf_J7_fill_031fb cs_J7_fill_031fb lk441 (ok_J7_fill_031fb zqe3) ⟨Nat.le_of_ble_eq_true rfl, Nat.le_of_ble_eq_true rfl⟩ ⟨Nat.zero_le _, Nat.zero_le _⟩ rfl rfl hl.1 (Nat.le_of_ble_eq_true rfl) dX5_renew_6 (rc_k0 (fun H locs hR hS => ?_))
  refine lv_aload_n hx hb dX5_renew_9 rfl (lv_at hl 0 rfl) ?_
  refine lv_iload_n hx hb dX5_renew_10 rfl (lv_at hl 1 rfl) ?_
  obtain ⟨M5, zqe6, h⟩ := ob h
  refine pf317 C hR hS zqe6 dX5_renew_11 (fun H locs hR hS => ?_)
  cases h
  exact rr_V C hR hS dX5_renew_14
theorem ck_X7_text  {x0 : Nat} {x1 : Int32} {x2 : Int32} {M : Mem} {r : Int32 × Mem} (h : f_X7_text  x0 x1 x2 M = some r) : kd M x0 = 17 := by
  unfold f_X7_text at h
  exact ck h
set_option maxHeartbeats 4000000 in
set_option maxRecDepth 100000 in
theorem ok_X7_text  {x0 : Nat} {x1 : Int32} {x2 : Int32}  {M : Mem} {r : Int32 × Mem}  (h : f_X7_text  x0 x1 x2 M = some r) : Ok l yX7_text cX7_text 4 (some .int) 2 [.ref (B + x0), .int x1, .int x2] D B ca st M (some (.int r.1)) r.2 := by
  have hk0 := ck_X7_text h
  unfold f_X7_text at h
  have h := ip hk0 h
  refine ok_of rfl rfl (Nat.le_of_ble_eq_true rfl) ?_
  intro p e s m args below meth c ls C hl hR hS
  have hl : lv_has ls 4 [(0, .ref (B + x0)), (1, .int x1), (2, .int x2)] := hl
  have hx := C.1
  have hb := C.2.1
  refine lv_aload_n hx hb dX7_text_0 rfl (lv_at hl 0 rfl) ?_
  refine lv_iload_n hx hb dX7_text_1 rfl (lv_at hl 1 rfl) ?_
  obtain ⟨v2, zqe1, h⟩ := ob h
  refine rc_V C hR hS cf_X7_textOf cv_X7_textOf lk433 (ok_X7_textOf zqe1) (ck_X7_textOf zqe1) ⟨Nat.le_of_ble_eq_true rfl, Nat.le_of_ble_eq_true rfl⟩ ⟨Nat.zero_le _, Nat.zero_le _⟩ rfl rfl hl.1 (Nat.le_of_ble_eq_true rfl) dX7_text_2 (rc_k1 (fun H locs hR hS => ?_))
  refine rc_nul (fun zqz3 => ?_) (fun zqz3 => ?_)
  · have h := ip zqz3 h
    refine lv_astore_nN (lv' := [(3, .null), (0, .ref (B + x0)), (1, .int x1), (2, .int x2)]) hx hb dX7_text_5 rfl hl (by decide) rfl (fun ls hl => ?_)
    refine lv_aload_nN hx hb dX7_text_6 rfl (lv_at hl 0 rfl) ?_
    refine lv_ifnullN (tgt := 16) hx hb dX7_text_7 (by decide) ?_
    refine lv_iconst (v := (-1)) hx hb dX7_text_16 (by decide) ?_
    cases h
    exact rr_I C hR hS dX7_text_17
  · have h := iq zqz3 h
    refine lv_astore_n (lv' := [(3, .ref (B + v2)), (0, .ref (B + x0)), (1, .int x1), (2, .int x2)]) hx hb dX7_text_5 rfl hl (by decide) rfl (fun ls hl => ?_)
    refine lv_aload_n hx hb dX7_text_6 rfl (lv_at hl 0 rfl) ?_
    refine lv_ifnull hx hb dX7_text_7 ?_
    refine lv_iload_n hx hb dX7_text_10 rfl (lv_at hl 3 rfl) ?_
    refine lv_bipush (v := 60) hx hb dX7_text_11 (by decide) ?_
    refine lv_icmp_le (tgt := 18) hx hb dX7_text_13 (by decide) (fun c => ?_) (fun c => ?_)
    · have h := ip c h
      refine lv_iload_n hx hb dX7_text_18 rfl (lv_at hl 3 rfl) ?_
      refine lv_if_ge (tgt := 28) hx hb dX7_text_19 (by decide) (fun c => ?_) (fun c => ?_)
      · have h := ip c h
        refine lv_aload_n hx hb dX7_text_28 rfl (lv_at hl 0 rfl) ?_
        refine lv_iload_n hx hb dX7_text_29 rfl (lv_at hl 3 rfl) ?_
        obtain ⟨M5, zqe4, h⟩ := ob h
        refine rc_VN C hR hS cf_X5_renew cv_X5_renew lk437 (ok_X5_renew zqe4) (ck_X5_renew zqe4) ⟨Nat.le_of_ble_eq_true rfl, Nat.le_of_ble_eq_true rfl⟩ ⟨Nat.zero_le _, Nat.zero_le _⟩ rfl rfl hl.1 (Nat.le_of_ble_eq_true rfl) dX7_text_30 (rc_k0 (fun H locs hR hS => ?_))
        refine lv_iload_n hx hb dX7_text_33 rfl (lv_at hl 3 rfl) ?_
        cases h
        exact rr_I C hR hS dX7_text_34
      · have h := iq c h
        refine lv_aload_n hx hb dX7_text_22 rfl (lv_at hl 1 rfl) ?_
        refine lv_iconst (v := 5) hx hb dX7_text_23 (by decide) ?_
        obtain ⟨qv7, zqe6, h⟩ := ob h
        refine rc_V C hR hS cf_X7_refuse cv_X7_refuse lk379 (ok_X7_refuse zqe6) (ck_X7_refuse zqe6) ⟨Nat.le_of_ble_eq_true rfl, Nat.le_of_ble_eq_true rfl⟩ ⟨Nat.zero_le _, Nat.zero_le _⟩ rfl rfl hl.1 (Nat.le_of_ble_eq_true rfl) dX7_text_24 (rc_k1 (fun H locs hR hS => ?_))
        cases h
        exact rr_I C hR hS dX7_text_27
    · have h := iq c h
      refine lv_iconst (v := (-1)) hx hb dX7_text_16 (by decide) ?_
      cases h
      exact rr_I C hR hS dX7_text_17
theorem ck_X7_undo  {x0 : Nat} {x1 : Int32} {M : Mem} {r : Int32 × Mem} (h : f_X7_undo  x0 x1 M = some r) : kd M x0 = 17 := by
  unfold f_X7_undo at h
  exact ck h
set_option maxHeartbeats 4000000 in
set_option maxRecDepth 100000 in
theorem ok_X7_undo  {x0 : Nat} {x1 : Int32}  {M : Mem} {r : Int32 × Mem}  (h : f_X7_undo  x0 x1 M = some r) : Ok l yX7_undo cX7_undo 3 (some .int) 6 [.ref (B + x0), .int x1] D B ca st M (some (.int r.1)) r.2 := by
  have hk0 := ck_X7_undo h
  unfold f_X7_undo at h
  have h := ip hk0 h
  refine ok_of rfl rfl (Nat.le_of_ble_eq_true rfl) ?_
  intro p e s m args below meth c ls C hl hR hS
  have hl : lv_has ls 3 [(0, .ref (B + x0)), (1, .int x1)] := hl
  have hx := C.1
  have hb := C.2.1
  refine lv_iload_n hx hb dX7_undo_0 rfl (lv_at hl 1 rfl) ?_
  refine lv_if_lt (tgt := 15) hx hb dX7_undo_1 (by decide) (fun c => ?_) (fun c => ?_)
  · have h := ip c h
    refine lv_iconst (v := (-1)) hx hb dX7_undo_15 (by decide) ?_
    cases h
    exact rr_I C hR hS dX7_undo_16
  · have h := iq c h
    refine lv_iload_n hx hb dX7_undo_4 rfl (lv_at hl 1 rfl) ?_
    refine lv_aload_n hx hb dX7_undo_5 rfl (lv_at hl 0 rfl) ?_
    obtain ⟨v1, zqe2, h⟩ := ob h
    refine gf331 C hR zqe2 dX7_undo_6 ?_
    obtain ⟨v3, zqe4, h⟩ := ob h
    refine gf233 C hR zqe4 dX7_undo_9 ?_
    refine lv_icmp_le (tgt := 17) hx hb dX7_undo_12 (by decide) (fun c => ?_) (fun c => ?_)
    · have h := ip c h
      refine lv_aload_n hx hb dX7_undo_17 rfl (lv_at hl 0 rfl) ?_
      obtain ⟨v5, zqe6, h⟩ := ob h
      refine gf331 C hR zqe6 dX7_undo_18 ?_
      obtain ⟨v7, zqe8, h⟩ := ob h
      refine gf233 C hR zqe8 dX7_undo_21 ?_
      refine lv_iload_n hx hb dX7_undo_24 rfl (lv_at hl 1 rfl) ?_
      refine lv_isub hx hb dX7_undo_25 ?_
      refine lv_istore_n (lv' := [(2, .int (v7 - x1)), (0, .ref (B + x0)), (1, .int x1)]) hx hb dX7_undo_26 rfl hl (by decide) rfl (fun ls hl => ?_)
      refine lv_iload_n hx hb dX7_undo_27 rfl (lv_at hl 0 rfl) ?_
      refine lv_if_le (tgt := 43) hx hb dX7_undo_28 (by decide) (fun c => ?_) (fun c => ?_)
      · have h := ip c h
        refine lv_iload_n hx hb dX7_undo_43 rfl (lv_at hl 0 rfl) ?_
        cases h
        exact rr_I C hR hS dX7_undo_44
      · have h := iq c h
        refine lv_aload_n hx hb dX7_undo_31 rfl (lv_at hl 1 rfl) ?_
        obtain ⟨v9, zqe10, h⟩ := ob h
        refine gf331 C hR zqe10 dX7_undo_32 ?_
        refine lv_iload_n hx hb dX7_undo_35 rfl (lv_at hl 2 rfl) ?_
        obtain ⟨M11, zqe12, h⟩ := ob h
        refine pf233 C hR hS zqe12 dX7_undo_36 (fun H locs hR hS => ?_)
        refine lv_aload_n hx hb dX7_undo_39 rfl (lv_at hl 1 rfl) ?_
        obtain ⟨M14, zqe13, h⟩ := ob h
        refine rc_V C hR hS cf_X7_doAgain cv_X7_doAgain lk655 (ok_X7_doAgain zqe13) (ck_X7_doAgain zqe13) ⟨Nat.le_of_ble_eq_true rfl, Nat.le_of_ble_eq_true rfl⟩ ⟨Nat.zero_le _, Nat.zero_le _⟩ rfl rfl hl.1 (Nat.le_of_ble_eq_true rfl) dX7_undo_40 (rc_k0 (fun H locs hR hS => ?_))
        refine lv_iload_n hx hb dX7_undo_43 rfl (lv_at hl 0 rfl) ?_
        cases h
        exact rr_I C hR hS dX7_undo_44
    · have h := iq c h
      refine lv_iconst (v := (-1)) hx hb dX7_undo_15 (by decide) ?_
      cases h
      exact rr_I C hR hS dX7_undo_16
theorem ck_X7_upper  {x0 : Nat} {M : Mem} {r : Int64} (h : f_X7_upper  x0 M = some r) : kd M x0 = 17 := by
  unfold f_X7_upper at h
  exact ck h
set_option maxHeartbeats 4000000 in
set_option maxRecDepth 100000 in
theorem ok_X7_upper  {x0 : Nat}  {M : Mem} {r : Int64}  (h : f_X7_upper  x0 M = some r) : Ok l yX7_upper cX7_upper 1 (some .long) 0 [.ref (B + x0)] D B ca st M (some (.long r)) M := by
  have hk0 := ck_X7_upper h
  unfold f_X7_upper at h
  have h := ip hk0 h
  refine ok_of rfl rfl (Nat.le_of_ble_eq_true rfl) ?_
  intro p e s m args below meth c ls C hl hR hS
  have hl : lv_has ls 1 [(0, .ref (B + x0))] := hl
  have hx := C.1
  have hb := C.2.1
  refine lv_aload_n hx hb dX7_upper_0 rfl (lv_at hl 0 rfl) ?_
  obtain ⟨v1, zqe2, h⟩ := ob h
  refine gf336 C hR zqe2 dX7_upper_1 ?_
  cases h
  exact rr_L C hR hS dX7_upper_4
theorem ck_X7_walk  {x0 : Nat} {x1 : Int32} {x2 : Int32} {M : Mem} {r : Int32 × Mem} (h : f_X7_walk  x0 x1 x2 M = some r) : kd M x0 = 17 := by
  unfold f_X7_walk at h
  exact ck h
set_option maxHeartbeats 4000000 in
set_option maxRecDepth 100000 in
theorem ok_X7_walk  {x0 : Nat} {x1 : Int32} {x2 : Int32}  {M : Mem} {r : Int32 × Mem}  (h : f_X7_walk  x0 x1 x2 M = some r) : Ok l yX7_walk cX7_walk 4 (some .int) 6 [.ref (B + x0), .int x1, .int x2] D B ca st M (some (.int r.1)) r.2 := by
  have hk0 := ck_X7_walk h
  unfold f_X7_walk at h
  have h := ip hk0 h
  refine ok_of rfl rfl (Nat.le_of_ble_eq_true rfl) ?_
  intro p e s m args below meth c ls C hl hR hS
  have hl : lv_has ls 4 [(0, .ref (B + x0)), (1, .int x1), (2, .int x2)] := hl
  have hx := C.1
  have hb := C.2.1
  refine lv_aload_n hx hb dX7_walk_0 rfl (lv_at hl 0 rfl) ?_
  obtain ⟨v1, zqe2, h⟩ := ob h
  refine gf327 C hR zqe2 dX7_walk_1 ?_
  refine lv_iload_n hx hb dX7_walk_4 rfl (lv_at hl 1 rfl) ?_
  obtain ⟨v4, zqe3, h⟩ := ob h
  refine rc_VN C hR hS cf_X2_hasSigher cv_X2_hasSigher lk538 (ok_X2_hasSigher zqe3) (ck_X2_hasSigher zqe3) ⟨Nat.le_of_ble_eq_true rfl, Nat.le_of_ble_eq_true rfl⟩ ⟨Nat.zero_le _, Nat.zero_le _⟩ rfl rfl hl.1 (Nat.le_of_ble_eq_true rfl) dX7_walk_5 (rc_k1 (fun H locs hR hS => ?_))
  refine lv_if_eq (tgt := 18) hx hb dX7_walk_8 (by decide) (fun c => ?_) (fun c => ?_)
  · have h := ip c h
    refine lv_iconst (v := (-1)) hx hb dX7_walk_18 (by decide) ?_
    cases h
    exact rr_I C hR hS dX7_walk_19
  · have h := iq c h
    refine lv_iload_n hx hb dX7_walk_11 rfl (lv_at hl 2 rfl) ?_
    refine rc_S C hR hS cf_X7_isPlace cs_X7_isPlace lk602 (ok_X7_isPlace x2) ⟨Nat.le_of_ble_eq_true rfl, Nat.le_of_ble_eq_true rfl⟩ ⟨Nat.zero_le _, Nat.zero_le _⟩ rfl rfl hl.1 (Nat.le_of_ble_eq_true rfl) dX7_walk_12 (rc_k1 (fun H locs hR hS => ?_))
    refine lv_if_ne (tgt := 20) hx hb dX7_walk_15 (by decide) (fun c => ?_) (fun c => ?_)
    · have h := iq c h
      refine lv_aload_n hx hb dX7_walk_20 rfl (lv_at hl 0 rfl) ?_
      obtain ⟨v6, zqe7, h⟩ := ob h
      refine gf329 C hR zqe7 dX7_walk_21 ?_
      obtain ⟨v8, zqe9, h⟩ := ob h
      refine gf208 C hR zqe9 dX7_walk_24 ?_
      refine lv_iload_n hx hb dX7_walk_27 rfl (lv_at hl 1 rfl) ?_
      obtain ⟨v10, zqe11, h⟩ := ob h
      refine ra_I C hR zqe11 dX7_walk_28 ?_
      refine lv_iload_n hx hb dX7_walk_29 rfl (lv_at hl 2 rfl) ?_
      refine lv_isub hx hb dX7_walk_30 ?_
      refine rm_abs C lk605 hl.1 ⟨Nat.le_of_ble_eq_true rfl, Nat.le_of_ble_eq_true rfl⟩ ⟨Nat.zero_le _, Nat.zero_le _⟩ dX7_walk_31 ?_
      refine lv_istore_n (lv' := [(3, .int (f_J9_abs_0f7a4 (v10 - x2))), (0, .ref (B + x0)), (1, .int x1), (2, .int x2)]) hx hb dX7_walk_34 rfl hl (by decide) rfl (fun ls hl => ?_)
      refine lv_iload_n hx hb dX7_walk_35 rfl (lv_at hl 0 rfl) ?_
      refine lv_if_ne (tgt := 42) hx hb dX7_walk_36 (by decide) (fun c => ?_) (fun c => ?_)
      · have h := iq c h
        refine lv_aload_n hx hb dX7_walk_42 rfl (lv_at hl 1 rfl) ?_
        obtain ⟨v12, zqe13, h⟩ := ob h
        refine gf331 C hR zqe13 dX7_walk_43 ?_
        refine lv_iconst (v := 1) hx hb dX7_walk_46 (by decide) ?_
        obtain ⟨v15, zqe14, h⟩ := ob h
        refine rc_VN C hR hS cf_X0_lackRoomFor cv_X0_lackRoomFor lk608 (ok_X0_lackRoomFor zqe14) (ck_X0_lackRoomFor zqe14) ⟨Nat.le_of_ble_eq_true rfl, Nat.le_of_ble_eq_true rfl⟩ ⟨Nat.zero_le _, Nat.zero_le _⟩ rfl rfl hl.1 (Nat.le_of_ble_eq_true rfl) dX7_walk_47 (rc_k1 (fun H locs hR hS => ?_))
        refine lv_if_eq (tgt := 56) hx hb dX7_walk_50 (by decide) (fun c => ?_) (fun c => ?_)
        · have h := ip c h
          refine lv_aload_n hx hb dX7_walk_56 rfl (lv_at hl 1 rfl) ?_
          refine lv_iconst (v := 0) hx hb dX7_walk_57 (by decide) ?_
          refine lv_iload_n hx hb dX7_walk_58 rfl (lv_at hl 2 rfl) ?_
          refine lv_iload_n hx hb dX7_walk_59 rfl (lv_at hl 3 rfl) ?_
          obtain ⟨M17, zqe16, h⟩ := ob h
          refine rc_V C hR hS cf_X7_enact cv_X7_enact lk612 (ok_X7_enact zqe16) (ck_X7_enact zqe16) ⟨Nat.le_of_ble_eq_true rfl, Nat.le_of_ble_eq_true rfl⟩ ⟨Nat.zero_le _, Nat.zero_le _⟩ rfl rfl hl.1 (Nat.le_of_ble_eq_true rfl) dX7_walk_60 (rc_k0 (fun H locs hR hS => ?_))
          refine lv_iload_n hx hb dX7_walk_63 rfl (lv_at hl 0 rfl) ?_
          cases h
          exact rr_I C hR hS dX7_walk_64
        · have h := iq c h
          refine lv_bipush (v := (-2)) hx hb dX7_walk_53 (by decide) ?_
          cases h
          exact rr_I C hR hS dX7_walk_55
      · have h := ip c h
        refine lv_bipush (v := (-4)) hx hb dX7_walk_39 (by decide) ?_
        cases h
        exact rr_I C hR hS dX7_walk_41
    · have h := ip c h
      refine lv_iconst (v := (-1)) hx hb dX7_walk_18 (by decide) ?_
      cases h
      exact rr_I C hR hS dX7_walk_19
theorem ck_X7_way  {x0 : Nat} {x1 : Int32} {x2 : Int32} {M : Mem} {r : Int32} (h : f_X7_way  x0 x1 x2 M = some r) : kd M x0 = 17 := by
  unfold f_X7_way at h
  exact ck h
set_option maxHeartbeats 4000000 in
set_option maxRecDepth 100000 in
theorem ok_X7_way  {x0 : Nat} {x1 : Int32} {x2 : Int32}  {M : Mem} {r : Int32}  (h : f_X7_way  x0 x1 x2 M = some r) : Ok l yX7_way cX7_way 3 (some .int) 2 [.ref (B + x0), .int x1, .int x2] D B ca st M (some (.int r)) M := by
  have hk0 := ck_X7_way h
  unfold f_X7_way at h
  have h := ip hk0 h
  refine ok_of rfl rfl (Nat.le_of_ble_eq_true rfl) ?_
  intro p e s m args below meth c ls C hl hR hS
  have hl : lv_has ls 3 [(0, .ref (B + x0)), (1, .int x1), (2, .int x2)] := hl
  have hx := C.1
  have hb := C.2.1
  refine lv_aload_n hx hb dX7_way_0 rfl (lv_at hl 0 rfl) ?_
  obtain ⟨v1, zqe2, h⟩ := ob h
  refine gf327 C hR zqe2 dX7_way_1 ?_
  refine lv_iload_n hx hb dX7_way_4 rfl (lv_at hl 1 rfl) ?_
  obtain ⟨v4, zqe3, h⟩ := ob h
  refine rc_VN C hR hS cf_X2_hasSigher cv_X2_hasSigher lk538 (ok_X2_hasSigher zqe3) (ck_X2_hasSigher zqe3) ⟨Nat.le_of_ble_eq_true rfl, Nat.le_of_ble_eq_true rfl⟩ ⟨Nat.zero_le _, Nat.zero_le _⟩ rfl rfl hl.1 (Nat.le_of_ble_eq_true rfl) dX7_way_5 (rc_k1 (fun H locs hR hS => ?_))
  refine lv_if_eq (tgt := 22) hx hb dX7_way_8 (by decide) (fun c => ?_) (fun c => ?_)
  · have h := ip c h
    refine lv_iconst (v := (-1)) hx hb dX7_way_22 (by decide) ?_
    cases h
    exact rr_I C hR hS dX7_way_23
  · have h := iq c h
    refine lv_aload_n hx hb dX7_way_11 rfl (lv_at hl 0 rfl) ?_
    obtain ⟨v5, zqe6, h⟩ := ob h
    refine gf327 C hR zqe6 dX7_way_12 ?_
    refine lv_iload_n hx hb dX7_way_15 rfl (lv_at hl 2 rfl) ?_
    obtain ⟨v8, zqe7, h⟩ := ob h
    refine rc_VN C hR hS cf_X2_isSetOfOrders cv_X2_isSetOfOrders lk751 (ok_X2_isSetOfOrders zqe7) (ck_X2_isSetOfOrders zqe7) ⟨Nat.le_of_ble_eq_true rfl, Nat.le_of_ble_eq_true rfl⟩ ⟨Nat.zero_le _, Nat.zero_le _⟩ rfl rfl hl.1 (Nat.le_of_ble_eq_true rfl) dX7_way_16 (rc_k1 (fun H locs hR hS => ?_))
    refine lv_if_ne (tgt := 24) hx hb dX7_way_19 (by decide) (fun c => ?_) (fun c => ?_)
    · have h := iq c h
      refine lv_aload_n hx hb dX7_way_24 rfl (lv_at hl 0 rfl) ?_
      refine lv_aload_n hx hb dX7_way_25 rfl (lv_at hl 0 rfl) ?_
      obtain ⟨v9, zqe10, h⟩ := ob h
      refine gf329 C hR zqe10 dX7_way_26 ?_
      obtain ⟨v11, zqe12, h⟩ := ob h
      refine gf208 C hR zqe12 dX7_way_29 ?_
      refine lv_iload_n hx hb dX7_way_32 rfl (lv_at hl 1 rfl) ?_
      obtain ⟨v13, zqe14, h⟩ := ob h
      refine ra_I C hR zqe14 dX7_way_33 ?_
      refine lv_iload_n hx hb dX7_way_34 rfl (lv_at hl 2 rfl) ?_
      obtain ⟨v16, zqe15, h⟩ := ob h
      refine rc_V C hR hS cf_X7_stepsThrough cv_X7_stepsThrough lk755 (ok_X7_stepsThrough zqe15) (ck_X7_stepsThrough zqe15) ⟨Nat.le_of_ble_eq_true rfl, Nat.le_of_ble_eq_true rfl⟩ ⟨Nat.zero_le _, Nat.zero_le _⟩ rfl rfl hl.1 (Nat.le_of_ble_eq_true rfl) dX7_way_35 (rc_k1 (fun H locs hR hS => ?_))
      cases h
      exact rr_I C hR hS dX7_way_38
    · have h := ip c h
      refine lv_iconst (v := (-1)) hx hb dX7_way_22 (by decide) ?_
      cases h
      exact rr_I C hR hS dX7_way_23
set_option maxHeartbeats 4000000 in
set_option maxRecDepth 100000 in
theorem w_X7_who_34    {r : Int32 × Mem} (C : Cx p s m args meth c RX7 cX7_who 7 (some .int) D B ca st)   : ∀ (n : Nat) {x0 : Nat} {x2 : Nat} {x4 : Int32} {x5 : Int32} {M : Mem}, f_X7_who_34  n x0 x2 x4 x5 M = some r → ∀ {H : Heap} {locs : List Loc} {ls : Array Slot}, RH D B ca M H → va_S (AA B) s.heap H locs → lv_has ls 7 [(0, .ref (B + x0)), (2, .ref (B + x2)), (4, .int x4), (5, .int x5)] → W p l e (rmD 4) s m args below meth c H locs 0 0 (MQ below (Qp D B ca st (some (.int r.1)) r.2) args s 0 0 (AA B)) (F0 m 34 ls []) := by
  have hx := C.1
  have hb := C.2.1
  intro n
  induction n with
  | zero => intro x0 x2 x4 x5 M h; simp [f_X7_who_34] at h
  | succ n ih =>
    intro x0 x2 x4 x5 M h H locs ls hR hS hl
    rw [f_X7_who_34] at h
    refine lv_iload hx hb dX7_who_34 (lv_at hl 3 rfl) ?_
    refine lv_aload_n hx hb dX7_who_36 rfl (lv_at hl 0 rfl) ?_
    obtain ⟨v9, zqe10, h⟩ := ob h
    refine gf327 C hR zqe10 dX7_who_37 ?_
    obtain ⟨v11, zqe12, h⟩ := ob h
    refine gf154 C hR zqe12 dX7_who_40 ?_
    refine lv_icmp_ge (tgt := 100) hx hb dX7_who_43 (by decide) (fun c => ?_) (fun c => ?_)
    · have h := ip c h
      refine lv_iload hx hb dX7_who_100 (lv_at hl 2 rfl) ?_
      cases h
      exact rr_I C hR hS dX7_who_102
    · have h := iq c h
      refine lv_aload_n hx hb dX7_who_46 rfl (lv_at hl 0 rfl) ?_
      refine lv_aload_n hx hb dX7_who_47 rfl (lv_at hl 1 rfl) ?_
      refine lv_aload_n hx hb dX7_who_48 rfl (lv_at hl 0 rfl) ?_
      obtain ⟨v13, zqe14, h⟩ := ob h
      refine gf327 C hR zqe14 dX7_who_49 ?_
      obtain ⟨v15, zqe16, h⟩ := ob h
      refine gf160 C hR zqe16 dX7_who_52 ?_
      refine lv_iload hx hb dX7_who_55 (lv_at hl 3 rfl) ?_
      obtain ⟨v17, zqe18, h⟩ := ob h
      refine ra_I C hR zqe18 dX7_who_57 ?_
      obtain ⟨v20, zqe19, h⟩ := ob h
      refine rc_V C hR hS cf_X7_breathOfPairs cv_X7_breathOfPairs lk817 (ok_X7_breathOfPairs zqe19) (ck_X7_breathOfPairs zqe19) ⟨Nat.le_of_ble_eq_true rfl, Nat.le_of_ble_eq_true rfl⟩ ⟨Nat.zero_le _, Nat.zero_le _⟩ rfl rfl hl.1 (Nat.le_of_ble_eq_true rfl) dX7_who_58 (rc_k1 (fun H locs hR hS => ?_))
      refine lv_istore (lv' := [(6, .int v20), (0, .ref (B + x0)), (2, .ref (B + x2)), (4, .int x4), (5, .int x5)]) hx hb dX7_who_61 hl (by decide) rfl (fun ls hl => ?_)
      refine lv_iload hx hb dX7_who_63 (lv_at hl 0 rfl) ?_
      refine lv_bipush (v := (-9)) hx hb dX7_who_65 (by decide) ?_
      refine lv_icmp_eq (tgt := 94) hx hb dX7_who_67 (by decide) (fun c => ?_) (fun c => ?_)
      · have h := ip c h
        refine lv_iinc (v := (x5 + 1)) (lv' := [(5, .int (x5 + 1)), (6, .int v20), (0, .ref (B + x0)), (2, .ref (B + x2)), (4, .int x4)]) hx hb dX7_who_94 hl (k := 4) rfl rfl (by decide) rfl (fun ls hl => ?_)
        refine lv_goto (tgt := 34) hx hb dX7_who_97 (by decide) ?_
        exact ih h hR hS (lv_sub hl [2, 3, 4, 0] rfl)
      · have h := iq c h
        refine lv_iload hx hb dX7_who_70 (lv_at hl 0 rfl) ?_
        refine lv_aload_n hx hb dX7_who_72 rfl (lv_at hl 1 rfl) ?_
        obtain ⟨v21, zqe22, h⟩ := ob h
        refine gf329 C hR zqe22 dX7_who_73 ?_
        obtain ⟨v23, zqe24, h⟩ := ob h
        refine gf205 C hR zqe24 dX7_who_76 ?_
        refine lv_iload hx hb dX7_who_79 (lv_at hl 4 rfl) ?_
        obtain ⟨v25, zqe26, h⟩ := ob h
        refine ra_I C hR zqe26 dX7_who_81 ?_
        refine lv_icmp_gt (tgt := 94) hx hb dX7_who_82 (by decide) (fun c => ?_) (fun c => ?_)
        · have h := ip c h
          refine lv_iinc (v := (x5 + 1)) (lv' := [(5, .int (x5 + 1)), (6, .int v20), (0, .ref (B + x0)), (2, .ref (B + x2)), (4, .int x4)]) hx hb dX7_who_94 hl (k := 4) rfl rfl (by decide) rfl (fun ls hl => ?_)
          refine lv_goto (tgt := 34) hx hb dX7_who_97 (by decide) ?_
          exact ih h hR hS (lv_sub hl [2, 3, 4, 0] rfl)
        · have h := iq c h
          refine lv_iload hx hb dX7_who_85 (lv_at hl 3 rfl) ?_
          refine lv_iconst (v := 1) hx hb dX7_who_87 (by decide) ?_
          refine lv_iload hx hb dX7_who_88 (lv_at hl 4 rfl) ?_
          refine lv_ishl hx hb dX7_who_90 ?_
          refine lv_ior hx hb dX7_who_91 ?_
          refine lv_istore (lv' := [(4, .int (x4 ||| (1 <<< (x5 &&& 31)))), (6, .int v20), (0, .ref (B + x0)), (2, .ref (B + x2)), (5, .int x5)]) hx hb dX7_who_92 hl (by decide) rfl (fun ls hl => ?_)
          refine lv_iinc (v := (x5 + 1)) (lv' := [(5, .int (x5 + 1)), (4, .int (x4 ||| (1 <<< (x5 &&& 31)))), (6, .int v20), (0, .ref (B + x0)), (2, .ref (B + x2))]) hx hb dX7_who_94 hl (k := 4) rfl rfl (by decide) rfl (fun ls hl => ?_)
          refine lv_goto (tgt := 34) hx hb dX7_who_97 (by decide) ?_
          exact ih h hR hS (lv_sub hl [3, 4, 1, 0] rfl)
theorem ck_X7_who  {x0 : Nat} {x1 : Int32} {M : Mem} {r : Int32 × Mem} (h : f_X7_who  x0 x1 M = some r) : kd M x0 = 17 := by
  unfold f_X7_who at h
  exact ck h
set_option maxHeartbeats 4000000 in
set_option maxRecDepth 100000 in
theorem ok_X7_who  {x0 : Nat} {x1 : Int32}  {M : Mem} {r : Int32 × Mem}  (h : f_X7_who  x0 x1 M = some r) : Ok l yX7_who cX7_who 7 (some .int) 4 [.ref (B + x0), .int x1] D B ca st M (some (.int r.1)) r.2 := by
  have hk0 := ck_X7_who h
  unfold f_X7_who at h
  have h := ip hk0 h
  refine ok_of rfl rfl (Nat.le_of_ble_eq_true rfl) ?_
  intro p e s m args below meth c ls C hl hR hS
  have hl : lv_has ls 7 [(0, .ref (B + x0)), (1, .int x1)] := hl
  have hx := C.1
  have hb := C.2.1
  refine lv_aload_n hx hb dX7_who_0 rfl (lv_at hl 0 rfl) ?_
  refine lv_iload_n hx hb dX7_who_1 rfl (lv_at hl 1 rfl) ?_
  obtain ⟨v2, zqe1, h⟩ := ob h
  refine rc_V C hR hS cf_X7_rowOf cv_X7_rowOf lk375 (ok_X7_rowOf zqe1) (ck_X7_rowOf zqe1) ⟨Nat.le_of_ble_eq_true rfl, Nat.le_of_ble_eq_true rfl⟩ ⟨Nat.zero_le _, Nat.zero_le _⟩ rfl rfl hl.1 (Nat.le_of_ble_eq_true rfl) dX7_who_2 (rc_k1 (fun H locs hR hS => ?_))
  refine rc_nul (fun zqz3 => ?_) (fun zqz3 => ?_)
  · have h := ip zqz3 h
    refine lv_astore_nN (lv' := [(2, .null), (0, .ref (B + x0)), (1, .int x1)]) hx hb dX7_who_5 rfl hl (by decide) rfl (fun ls hl => ?_)
    refine lv_aload_nN hx hb dX7_who_6 rfl (lv_at hl 0 rfl) ?_
    refine lv_ifnonnullN hx hb dX7_who_7 ?_
    refine lv_iconst (v := (-1)) hx hb dX7_who_10 (by decide) ?_
    cases h
    exact rr_I C hR hS dX7_who_11
  · have h := iq zqz3 h
    refine lv_astore_n (lv' := [(2, .ref (B + v2)), (0, .ref (B + x0)), (1, .int x1)]) hx hb dX7_who_5 rfl hl (by decide) rfl (fun ls hl => ?_)
    refine lv_aload_n hx hb dX7_who_6 rfl (lv_at hl 0 rfl) ?_
    refine lv_ifnonnull (tgt := 12) hx hb dX7_who_7 (by decide) ?_
    refine lv_aload_n hx hb dX7_who_12 rfl (lv_at hl 1 rfl) ?_
    refine lv_aload_n hx hb dX7_who_13 rfl (lv_at hl 0 rfl) ?_
    obtain ⟨v5, zqe4, h⟩ := ob h
    refine rc_V C hR hS cf_X7_findingOfPairs cv_X7_findingOfPairs lk813 (ok_X7_findingOfPairs zqe4) (ck_X7_findingOfPairs zqe4) ⟨Nat.le_of_ble_eq_true rfl, Nat.le_of_ble_eq_true rfl⟩ ⟨Nat.zero_le _, Nat.zero_le _⟩ rfl rfl hl.1 (Nat.le_of_ble_eq_true rfl) dX7_who_14 (rc_k1 (fun H locs hR hS => ?_))
    refine lv_istore_n (lv' := [(3, .int v5), (2, .ref (B + v2)), (0, .ref (B + x0)), (1, .int x1)]) hx hb dX7_who_17 rfl hl (by decide) rfl (fun ls hl => ?_)
    refine lv_iload_n hx hb dX7_who_18 rfl (lv_at hl 0 rfl) ?_
    refine lv_if_eq (tgt := 28) hx hb dX7_who_19 (by decide) (fun c => ?_) (fun c => ?_)
    · have h := ip c h
      refine lv_iconst (v := 0) hx hb dX7_who_28 (by decide) ?_
      refine lv_istore (lv' := [(4, .int 0), (3, .int v5), (2, .ref (B + v2)), (0, .ref (B + x0)), (1, .int x1)]) hx hb dX7_who_29 hl (by decide) rfl (fun ls hl => ?_)
      refine lv_iconst (v := 0) hx hb dX7_who_31 (by decide) ?_
      refine lv_istore (lv' := [(5, .int 0), (4, .int 0), (3, .int v5), (2, .ref (B + v2)), (0, .ref (B + x0)), (1, .int x1)]) hx hb dX7_who_32 hl (by decide) rfl (fun ls hl => ?_)
      exact w_X7_who_34 C  FU h hR hS (lv_sub hl [4, 3, 1, 0] rfl)
    · have h := iq c h
      refine lv_aload_n hx hb dX7_who_22 rfl (lv_at hl 2 rfl) ?_
      refine lv_iload_n hx hb dX7_who_23 rfl (lv_at hl 0 rfl) ?_
      obtain ⟨qv7, zqe6, h⟩ := ob h
      refine rc_V C hR hS cf_X7_refuse cv_X7_refuse lk379 (ok_X7_refuse zqe6) (ck_X7_refuse zqe6) ⟨Nat.le_of_ble_eq_true rfl, Nat.le_of_ble_eq_true rfl⟩ ⟨Nat.zero_le _, Nat.zero_le _⟩ rfl rfl hl.1 (Nat.le_of_ble_eq_true rfl) dX7_who_24 (rc_k1 (fun H locs hR hS => ?_))
      cases h
      exact rr_I C hR hS dX7_who_27
theorem ck_X8_asked  {x0 : Nat} {M : Mem} {r : Int32} (h : f_X8_asked  x0 M = some r) : kd M x0 = 18 := by
  unfold f_X8_asked at h
  exact ck h
set_option maxHeartbeats 4000000 in
set_option maxRecDepth 100000 in
theorem ok_X8_asked  {x0 : Nat}  {M : Mem} {r : Int32}  (h : f_X8_asked  x0 M = some r) : Ok l yX8_asked cX8_asked 1 (some .int) 0 [.ref (B + x0)] D B ca st M (some (.int r)) M := by
  have hk0 := ck_X8_asked h
  unfold f_X8_asked at h
  have h := ip hk0 h
  refine ok_of rfl rfl (Nat.le_of_ble_eq_true rfl) ?_
  intro p e s m args below meth c ls C hl hR hS
  have hl : lv_has ls 1 [(0, .ref (B + x0))] := hl
  have hx := C.1
  have hb := C.2.1
  refine lv_aload_n hx hb dX8_asked_0 rfl (lv_at hl 0 rfl) ?_
  obtain ⟨v1, zqe2, h⟩ := ob h
  refine gf960 C hR zqe2 dX8_asked_1 ?_
  cases h
  exact rr_I C hR hS dX8_asked_4
theorem ck_X8_find  {x0 : Nat} {x1 : Int32} {M : Mem} {r : Int32 × Mem} (h : f_X8_find  x0 x1 M = some r) : kd M x0 = 18 := by
  unfold f_X8_find at h
  exact ck h
set_option maxHeartbeats 4000000 in
set_option maxRecDepth 100000 in
theorem ok_X8_find  {x0 : Nat} {x1 : Int32}  {M : Mem} {r : Int32 × Mem}  (h : f_X8_find  x0 x1 M = some r) : Ok l yX8_find cX8_find 2 (some .int) 0 [.ref (B + x0), .int x1] D B ca st M (some (.int r.1)) r.2 := by
  have hk0 := ck_X8_find h
  unfold f_X8_find at h
  have h := ip hk0 h
  refine ok_of rfl rfl (Nat.le_of_ble_eq_true rfl) ?_
  intro p e s m args below meth c ls C hl hR hS
  have hl : lv_has ls 2 [(0, .ref (B + x0)), (1, .int x1)] := hl
  have hx := C.1
  have hb := C.2.1
  refine lv_aload_n hx hb dX8_find_0 rfl (lv_at hl 0 rfl) ?_
  refine lv_iload_n hx hb dX8_find_1 rfl (lv_at hl 1 rfl) ?_
  obtain ⟨M1, zqe2, h⟩ := ob h
  refine pf963 C hR hS zqe2 dX8_find_2 (fun H locs hR hS => ?_)
  refine lv_aload_n hx hb dX8_find_5 rfl (lv_at hl 0 rfl) ?_
  obtain ⟨v3, zqe4, h⟩ := ob h
  refine gf964 C hR zqe4 dX8_find_6 ?_
  refine lv_iload_n hx hb dX8_find_9 rfl (lv_at hl 1 rfl) ?_
  refine lv_dup2_11 hx hb dX8_find_10 rfl rfl ?_
  obtain ⟨v5, zqe6, h⟩ := ob h
  refine ra_I C hR zqe6 dX8_find_11 ?_
  refine lv_iconst (v := 1) hx hb dX8_find_12 (by decide) ?_
  refine lv_iadd hx hb dX8_find_13 ?_
  obtain ⟨M7, zqe8, h⟩ := ob h
  refine re_I C hR hS zqe8 dX8_find_14 (fun H locs hR hS => ?_)
  refine lv_bipush (v := (-3)) hx hb dX8_find_15 (by decide) ?_
  cases h
  exact rr_I C hR hS dX8_find_17
set_option maxHeartbeats 4000000 in
set_option maxRecDepth 100000 in
theorem ok_X8_in (x0 : Int64) (x2 : Int64) (x4 : Int64) {M : Mem} : Ok l yX8_in cX8_in 6 (some .boolean) 0 [.long x0, .long x2, .long x4] D B ca st M (some (.int (f_X8_in  x0 x2 x4))) M := by
  obtain ⟨r, h⟩ : ∃ r, f_X8_in  x0 x2 x4 = r := ⟨_, rfl⟩
  rw [h]
  unfold f_X8_in at h
  refine ok_of rfl rfl (Nat.le_of_ble_eq_true rfl) ?_
  intro p e s m args below meth c ls C hl hR hS
  have hl : lv_has ls 6 [(0, .long x0), (2, .long x2), (4, .long x4)] := hl
  have hx := C.1
  have hb := C.2.1
  refine lv_lload_n hx hb dX8_in_0 rfl (lv_at hl 0 rfl) ?_
  refine lv_lload_n hx hb dX8_in_1 rfl (lv_at hl 1 rfl) ?_
  refine W.lcmp hx hb dX8_in_2 ?_
  refine lv_if_lt (tgt := 17) hx hb dX8_in_3 (by decide) (fun c => ?_) (fun c => ?_)
  · have h := ip c h
    refine lv_iconst (v := 0) hx hb dX8_in_17 (by decide) ?_
    subst h
    exact rr_Z (v := 0) C hR hS (by decide) dX8_in_18
  · have h := iq c h
    refine lv_lload_n hx hb dX8_in_6 rfl (lv_at hl 0 rfl) ?_
    refine lv_lload hx hb dX8_in_7 (lv_at hl 2 rfl) ?_
    refine W.lcmp hx hb dX8_in_9 ?_
    refine lv_if_gt (tgt := 17) hx hb dX8_in_10 (by decide) (fun c => ?_) (fun c => ?_)
    · have h := ip c h
      refine lv_iconst (v := 0) hx hb dX8_in_17 (by decide) ?_
      subst h
      exact rr_Z (v := 0) C hR hS (by decide) dX8_in_18
    · have h := iq c h
      refine lv_iconst (v := 1) hx hb dX8_in_13 (by decide) ?_
      refine lv_goto (tgt := 18) hx hb dX8_in_14 (by decide) ?_
      subst h
      exact rr_Z (v := 1) C hR hS (by decide) dX8_in_18
set_option maxHeartbeats 4000000 in
set_option maxRecDepth 100000 in
theorem ok_X8_isRow  {x0 : Int32}  {M : Mem} {r : Int32}  (h : f_X8_isRow  x0 = some r) : Ok l yX8_isRow cX8_isRow 1 (some .boolean) 1 [.int x0] D B ca st M (some (.int r)) M := by
  unfold f_X8_isRow at h
  refine ok_of rfl rfl (Nat.le_of_ble_eq_true rfl) ?_
  intro p e s m args below meth c ls C hl hR hS
  have hl : lv_has ls 1 [(0, .int x0)] := hl
  have hx := C.1
  have hb := C.2.1
  refine lv_iload_n hx hb dX8_isRow_0 rfl (lv_at hl 0 rfl) ?_
  refine lv_i2l (v := (Int32.toInt64 x0)) hx hb dX8_isRow_1 rfl ?_
  refine lv_lconst (v := 0) hx hb dX8_isRow_2 (by decide) ?_
  refine lv_ldc2 hx hb C.2.2.2.1 (C.2.2.2.2.1 _ lk1058) dX8_isRow_3 ?_
  refine rc_S C hR hS cf_X8_in cs_X8_in lk1059 (ok_X8_in (Int32.toInt64 x0) 0 5) ⟨Nat.le_of_ble_eq_true rfl, Nat.le_of_ble_eq_true rfl⟩ ⟨Nat.zero_le _, Nat.zero_le _⟩ rfl rfl hl.1 (Nat.le_of_ble_eq_true rfl) dX8_isRow_6 (rc_k1 (fun H locs hR hS => ?_))
  obtain ⟨zqb2, zqe3, h⟩ := ob h
  cases h
  exact rr_Z C hR hS (bz_self zqe3) dX8_isRow_9
theorem ck_X8_refused  {x0 : Nat} {x1 : Int32} {x2 : Int32} {M : Mem} {r : Int32 × Mem} (h : f_X8_refused  x0 x1 x2 M = some r) : kd M x0 = 18 := by
  unfold f_X8_refused at h
  exact ck h
set_option maxHeartbeats 4000000 in
set_option maxRecDepth 100000 in
theorem ok_X8_refused  {x0 : Nat} {x1 : Int32} {x2 : Int32}  {M : Mem} {r : Int32 × Mem}  (h : f_X8_refused  x0 x1 x2 M = some r) : Ok l yX8_refused cX8_refused 3 (some .int) 2 [.ref (B + x0), .int x1, .int x2] D B ca st M (some (.int r.1)) r.2 := by
  have hk0 := ck_X8_refused h
  unfold f_X8_refused at h
  have h := ip hk0 h
  refine ok_of rfl rfl (Nat.le_of_ble_eq_true rfl) ?_
  intro p e s m args below meth c ls C hl hR hS
  have hl : lv_has ls 3 [(0, .ref (B + x0)), (1, .int x1), (2, .int x2)] := hl
  have hx := C.1
  have hb := C.2.1
  refine lv_iload_n hx hb dX8_refused_0 rfl (lv_at hl 1 rfl) ?_
  obtain ⟨v2, zqe1, h⟩ := ob h
  refine rc_S C hR hS cf_X8_isRow cs_X8_isRow lk1055 (ok_X8_isRow zqe1) ⟨Nat.le_of_ble_eq_true rfl, Nat.le_of_ble_eq_true rfl⟩ ⟨Nat.zero_le _, Nat.zero_le _⟩ rfl rfl hl.1 (Nat.le_of_ble_eq_true rfl) dX8_refused_1 (rc_k1 (fun H locs hR hS => ?_))
  refine lv_if_ne (tgt := 11) hx hb dX8_refused_4 (by decide) (fun c => ?_) (fun c => ?_)
  · have h := iq c h
    refine lv_aload_n hx hb dX8_refused_11 rfl (lv_at hl 0 rfl) ?_
    obtain ⟨v3, zqe4, h⟩ := ob h
    refine gf956 C hR zqe4 dX8_refused_12 ?_
    refine lv_iload_n hx hb dX8_refused_15 rfl (lv_at hl 1 rfl) ?_
    obtain ⟨v5, zqe6, h⟩ := ob h
    refine ra_I C hR zqe6 dX8_refused_16 ?_
    refine lv_if_ge (tgt := 28) hx hb dX8_refused_17 (by decide) (fun c => ?_) (fun c => ?_)
    · have h := ip c h
      refine lv_iload_n hx hb dX8_refused_28 rfl (lv_at hl 2 rfl) ?_
      refine lv_i2l (v := (Int32.toInt64 x2)) hx hb dX8_refused_29 rfl ?_
      refine lv_lconst (v := 0) hx hb dX8_refused_30 (by decide) ?_
      refine lv_aload_n hx hb dX8_refused_31 rfl (lv_at hl 0 rfl) ?_
      obtain ⟨v7, zqe8, h⟩ := ob h
      refine gf956 C hR zqe8 dX8_refused_32 ?_
      refine lv_iload_n hx hb dX8_refused_35 rfl (lv_at hl 1 rfl) ?_
      obtain ⟨v9, zqe10, h⟩ := ob h
      refine ra_I C hR zqe10 dX8_refused_36 ?_
      refine lv_iconst (v := 1) hx hb dX8_refused_37 (by decide) ?_
      refine lv_isub hx hb dX8_refused_38 ?_
      refine lv_i2l (v := (Int32.toInt64 (v9 - 1))) hx hb dX8_refused_39 rfl ?_
      refine rc_S C hR hS cf_X8_in cs_X8_in lk1059 (ok_X8_in (Int32.toInt64 x2) 0 (Int32.toInt64 (v9 - 1))) ⟨Nat.le_of_ble_eq_true rfl, Nat.le_of_ble_eq_true rfl⟩ ⟨Nat.zero_le _, Nat.zero_le _⟩ rfl rfl hl.1 (Nat.le_of_ble_eq_true rfl) dX8_refused_40 (rc_k1 (fun H locs hR hS => ?_))
      refine lv_if_eq (tgt := 50) hx hb dX8_refused_43 (by decide) (fun c => ?_) (fun c => ?_)
      · have h := ip c h
        refine lv_aload_n hx hb dX8_refused_50 rfl (lv_at hl 0 rfl) ?_
        refine lv_iconst (v := 2) hx hb dX8_refused_51 (by decide) ?_
        obtain ⟨qv13, zqe12, h⟩ := ob h
        refine rc_V C hR hS cf_X8_find cv_X8_find lk1062 (ok_X8_find zqe12) (ck_X8_find zqe12) ⟨Nat.le_of_ble_eq_true rfl, Nat.le_of_ble_eq_true rfl⟩ ⟨Nat.zero_le _, Nat.zero_le _⟩ rfl rfl hl.1 (Nat.le_of_ble_eq_true rfl) dX8_refused_52 (rc_k1 (fun H locs hR hS => ?_))
        cases h
        exact rr_I C hR hS dX8_refused_55
      · have h := iq c h
        refine lv_iconst (v := 0) hx hb dX8_refused_46 (by decide) ?_
        refine lv_goto (tgt := 55) hx hb dX8_refused_47 (by decide) ?_
        cases h
        exact rr_I C hR hS dX8_refused_55
    · have h := iq c h
      refine lv_aload_n hx hb dX8_refused_20 rfl (lv_at hl 0 rfl) ?_
      refine lv_iconst (v := 1) hx hb dX8_refused_21 (by decide) ?_
      obtain ⟨qv16, zqe15, h⟩ := ob h
      refine rc_V C hR hS cf_X8_find cv_X8_find lk1062 (ok_X8_find zqe15) (ck_X8_find zqe15) ⟨Nat.le_of_ble_eq_true rfl, Nat.le_of_ble_eq_true rfl⟩ ⟨Nat.zero_le _, Nat.zero_le _⟩ rfl rfl hl.1 (Nat.le_of_ble_eq_true rfl) dX8_refused_22 (rc_k1 (fun H locs hR hS => ?_))
      refine lv_goto (tgt := 55) hx hb dX8_refused_25 (by decide) ?_
      cases h
      exact rr_I C hR hS dX8_refused_55
  · have h := ip c h
    refine lv_iconst (v := (-1)) hx hb dX8_refused_7 (by decide) ?_
    refine lv_goto (tgt := 55) hx hb dX8_refused_8 (by decide) ?_
    cases h
    exact rr_I C hR hS dX8_refused_55
theorem ck_X8_tell  {x0 : Nat} {x1 : Int32} {M : Mem} {r : Int32 × Mem} (h : f_X8_tell  x0 x1 M = some r) : kd M x0 = 18 := by
  unfold f_X8_tell at h
  exact ck h
set_option maxHeartbeats 4000000 in
set_option maxRecDepth 100000 in
theorem ok_X8_tell  {x0 : Nat} {x1 : Int32}  {M : Mem} {r : Int32 × Mem}  (h : f_X8_tell  x0 x1 M = some r) : Ok l yX8_tell cX8_tell 2 (some .int) 0 [.ref (B + x0), .int x1] D B ca st M (some (.int r.1)) r.2 := by
  have hk0 := ck_X8_tell h
  unfold f_X8_tell at h
  have h := ip hk0 h
  refine ok_of rfl rfl (Nat.le_of_ble_eq_true rfl) ?_
  intro p e s m args below meth c ls C hl hR hS
  have hl : lv_has ls 2 [(0, .ref (B + x0)), (1, .int x1)] := hl
  have hx := C.1
  have hb := C.2.1
  refine lv_aload_n hx hb dX8_tell_0 rfl (lv_at hl 0 rfl) ?_
  refine lv_iload_n hx hb dX8_tell_1 rfl (lv_at hl 1 rfl) ?_
  obtain ⟨M1, zqe2, h⟩ := ob h
  refine pf960 C hR hS zqe2 dX8_tell_2 (fun H locs hR hS => ?_)
  refine lv_iconst (v := 1) hx hb dX8_tell_5 (by decide) ?_
  cases h
  exact rr_I C hR hS dX8_tell_6
theorem ck_X8_at  {x0 : Nat} {x1 : Int32} {x2 : Int32} {M : Mem} {r : Int32 × Mem} (h : f_X8_at  x0 x1 x2 M = some r) : kd M x0 = 18 := by
  unfold f_X8_at at h
  exact ck h
set_option maxHeartbeats 4000000 in
set_option maxRecDepth 100000 in
theorem ok_X8_at  {x0 : Nat} {x1 : Int32} {x2 : Int32}  {M : Mem} {r : Int32 × Mem}  (h : f_X8_at  x0 x1 x2 M = some r) : Ok l yX8_at cX8_at 4 (some .int) 3 [.ref (B + x0), .int x1, .int x2] D B ca st M (some (.int r.1)) r.2 := by
  have hk0 := ck_X8_at h
  unfold f_X8_at at h
  have h := ip hk0 h
  refine ok_of rfl rfl (Nat.le_of_ble_eq_true rfl) ?_
  intro p e s m args below meth c ls C hl hR hS
  have hl : lv_has ls 4 [(0, .ref (B + x0)), (1, .int x1), (2, .int x2)] := hl
  have hx := C.1
  have hb := C.2.1
  refine lv_aload_n hx hb dX8_at_0 rfl (lv_at hl 0 rfl) ?_
  refine lv_iload_n hx hb dX8_at_1 rfl (lv_at hl 1 rfl) ?_
  refine lv_iload_n hx hb dX8_at_2 rfl (lv_at hl 2 rfl) ?_
  obtain ⟨qv2, zqe1, h⟩ := ob h
  refine rc_V C hR hS cf_X8_refused cv_X8_refused lk1074 (ok_X8_refused zqe1) (ck_X8_refused zqe1) ⟨Nat.le_of_ble_eq_true rfl, Nat.le_of_ble_eq_true rfl⟩ ⟨Nat.zero_le _, Nat.zero_le _⟩ rfl rfl hl.1 (Nat.le_of_ble_eq_true rfl) dX8_at_3 (rc_k1 (fun H locs hR hS => ?_))
  refine lv_istore_n (lv' := [(3, .int qv2.1), (0, .ref (B + x0)), (1, .int x1), (2, .int x2)]) hx hb dX8_at_6 rfl hl (by decide) rfl (fun ls hl => ?_)
  refine lv_iload_n hx hb dX8_at_7 rfl (lv_at hl 0 rfl) ?_
  refine lv_if_eq (tgt := 15) hx hb dX8_at_8 (by decide) (fun c => ?_) (fun c => ?_)
  · have h := ip c h
    refine lv_aload_n hx hb dX8_at_15 rfl (lv_at hl 1 rfl) ?_
    refine lv_aload_n hx hb dX8_at_16 rfl (lv_at hl 1 rfl) ?_
    obtain ⟨v4, zqe5, h⟩ := ob h
    refine gf957 C hR zqe5 dX8_at_17 ?_
    refine lv_bipush (v := 40) hx hb dX8_at_20 (by decide) ?_
    refine lv_iload_n hx hb dX8_at_22 rfl (lv_at hl 2 rfl) ?_
    refine lv_imul hx hb dX8_at_23 ?_
    refine lv_iload_n hx hb dX8_at_24 rfl (lv_at hl 3 rfl) ?_
    refine lv_iadd hx hb dX8_at_25 ?_
    obtain ⟨v6, zqe7, h⟩ := ob h
    refine ra_I C hR zqe7 dX8_at_26 ?_
    obtain ⟨qv9, zqe8, h⟩ := ob h
    refine rc_V C hR hS cf_X8_tell cv_X8_tell lk1078 (ok_X8_tell zqe8) (ck_X8_tell zqe8) ⟨Nat.le_of_ble_eq_true rfl, Nat.le_of_ble_eq_true rfl⟩ ⟨Nat.zero_le _, Nat.zero_le _⟩ rfl rfl hl.1 (Nat.le_of_ble_eq_true rfl) dX8_at_27 (rc_k1 (fun H locs hR hS => ?_))
    cases h
    exact rr_I C hR hS dX8_at_30
  · have h := iq c h
    refine lv_iload_n hx hb dX8_at_11 rfl (lv_at hl 0 rfl) ?_
    refine lv_goto (tgt := 30) hx hb dX8_at_12 (by decide) ?_
    cases h
    exact rr_I C hR hS dX8_at_30
theorem ck_X8_isSigher  {x0 : Nat} {x1 : Int32} {M : Mem} {r : Int32} (h : f_X8_isSigher  x0 x1 M = some r) : kd M x0 = 18 := by
  unfold f_X8_isSigher at h
  exact ck h
set_option maxHeartbeats 4000000 in
set_option maxRecDepth 100000 in
theorem ok_X8_isSigher  {x0 : Nat} {x1 : Int32}  {M : Mem} {r : Int32}  (h : f_X8_isSigher  x0 x1 M = some r) : Ok l yX8_isSigher cX8_isSigher 2 (some .boolean) 1 [.ref (B + x0), .int x1] D B ca st M (some (.int r)) M := by
  have hk0 := ck_X8_isSigher h
  unfold f_X8_isSigher at h
  have h := ip hk0 h
  refine ok_of rfl rfl (Nat.le_of_ble_eq_true rfl) ?_
  intro p e s m args below meth c ls C hl hR hS
  have hl : lv_has ls 2 [(0, .ref (B + x0)), (1, .int x1)] := hl
  have hx := C.1
  have hb := C.2.1
  refine lv_iload_n hx hb dX8_isSigher_0 rfl (lv_at hl 1 rfl) ?_
  refine lv_i2l (v := (Int32.toInt64 x1)) hx hb dX8_isSigher_1 rfl ?_
  refine lv_lconst (v := 0) hx hb dX8_isSigher_2 (by decide) ?_
  refine lv_aload_n hx hb dX8_isSigher_3 rfl (lv_at hl 0 rfl) ?_
  obtain ⟨v1, zqe2, h⟩ := ob h
  refine gf949 C hR zqe2 dX8_isSigher_4 ?_
  refine lv_iconst (v := 1) hx hb dX8_isSigher_7 (by decide) ?_
  refine lv_isub hx hb dX8_isSigher_8 ?_
  refine lv_i2l (v := (Int32.toInt64 (v1 - 1))) hx hb dX8_isSigher_9 rfl ?_
  refine rc_S C hR hS cf_X8_in cs_X8_in lk1059 (ok_X8_in (Int32.toInt64 x1) 0 (Int32.toInt64 (v1 - 1))) ⟨Nat.le_of_ble_eq_true rfl, Nat.le_of_ble_eq_true rfl⟩ ⟨Nat.zero_le _, Nat.zero_le _⟩ rfl rfl hl.1 (Nat.le_of_ble_eq_true rfl) dX8_isSigher_10 (rc_k1 (fun H locs hR hS => ?_))
  obtain ⟨zqb4, zqe5, h⟩ := ob h
  cases h
  exact rr_Z C hR hS (bz_self zqe5) dX8_isSigher_13
set_option maxHeartbeats 4000000 in
set_option maxRecDepth 100000 in
theorem w_X8_isTooDeep_10    {M : Mem} {r : Int32} {x0 : Int32} {x1 : Int32} (C : Cx p s m args meth c RX8 cX8_isTooDeep 2 (some .boolean) D B ca st)   (h : f_X8_isTooDeep_10  x0 x1 = r) : ∀ {H : Heap} {locs : List Loc} {ls : Array Slot}, RH D B ca M H → va_S (AA B) s.heap H locs → lv_has ls 2 [(0, .int x0), (1, .int x1)] → W p l e (rmD 0) s m args below meth c H locs 0 0 (MQ below (Qp D B ca st (some (.int r)) M) args s 0 0 (AA B)) (F0 m 10 ls []) := by
  have hx := C.1
  have hb := C.2.1
  unfold f_X8_isTooDeep_10 at h
  intro H locs ls hR hS hl
  refine lv_iload_n hx hb dX8_isTooDeep_10 rfl (lv_at hl 0 rfl) ?_
  refine lv_iconst (v := 5) hx hb dX8_isTooDeep_11 (by decide) ?_
  refine lv_icmp_ne (tgt := 25) hx hb dX8_isTooDeep_12 (by decide) (fun c => ?_) (fun c => ?_)
  · have h := iq c h
    refine lv_iconst (v := 0) hx hb dX8_isTooDeep_25 (by decide) ?_
    subst h
    exact rr_Z (v := 0) C hR hS (by decide) dX8_isTooDeep_26
  · have h := ip c h
    refine lv_iload_n hx hb dX8_isTooDeep_15 rfl (lv_at hl 1 rfl) ?_
    refine lv_bipush (v := 6) hx hb dX8_isTooDeep_16 (by decide) ?_
    refine lv_icmp_le (tgt := 25) hx hb dX8_isTooDeep_18 (by decide) (fun c => ?_) (fun c => ?_)
    · have h := ip c h
      refine lv_iconst (v := 0) hx hb dX8_isTooDeep_25 (by decide) ?_
      subst h
      exact rr_Z (v := 0) C hR hS (by decide) dX8_isTooDeep_26
    · have h := iq c h
      refine lv_iconst (v := 1) hx hb dX8_isTooDeep_21 (by decide) ?_
      refine lv_goto (tgt := 26) hx hb dX8_isTooDeep_22 (by decide) ?_
      subst h
      exact rr_Z (v := 1) C hR hS (by decide) dX8_isTooDeep_26
set_option maxHeartbeats 4000000 in
set_option maxRecDepth 100000 in
theorem ok_X8_isTooDeep (x0 : Int32) (x1 : Int32) {M : Mem} : Ok l yX8_isTooDeep cX8_isTooDeep 2 (some .boolean) 0 [.int x0, .int x1] D B ca st M (some (.int (f_X8_isTooDeep  x0 x1))) M := by
  obtain ⟨r, h⟩ : ∃ r, f_X8_isTooDeep  x0 x1 = r := ⟨_, rfl⟩
  rw [h]
  unfold f_X8_isTooDeep at h
  refine ok_of rfl rfl (Nat.le_of_ble_eq_true rfl) ?_
  intro p e s m args below meth c ls C hl hR hS
  have hl : lv_has ls 2 [(0, .int x0), (1, .int x1)] := hl
  have hx := C.1
  have hb := C.2.1
  refine lv_iload_n hx hb dX8_isTooDeep_0 rfl (lv_at hl 0 rfl) ?_
  refine lv_iconst (v := 2) hx hb dX8_isTooDeep_1 (by decide) ?_
  refine lv_icmp_ne (tgt := 10) hx hb dX8_isTooDeep_2 (by decide) (fun c => ?_) (fun c => ?_)
  · have h := iq c h
    exact w_X8_isTooDeep_10 C  h hR hS (lv_sub hl [0, 1] rfl)
  · have h := ip c h
    refine lv_iload_n hx hb dX8_isTooDeep_5 rfl (lv_at hl 1 rfl) ?_
    refine lv_iconst (v := 3) hx hb dX8_isTooDeep_6 (by decide) ?_
    refine lv_icmp_gt (tgt := 21) hx hb dX8_isTooDeep_7 (by decide) (fun c => ?_) (fun c => ?_)
    · have h := ip c h
      refine lv_iconst (v := 1) hx hb dX8_isTooDeep_21 (by decide) ?_
      refine lv_goto (tgt := 26) hx hb dX8_isTooDeep_22 (by decide) ?_
      subst h
      exact rr_Z (v := 1) C hR hS (by decide) dX8_isTooDeep_26
    · have h := iq c h
      exact w_X8_isTooDeep_10 C  h hR hS (lv_sub hl [0, 1] rfl)
set_option maxHeartbeats 4000000 in
set_option maxRecDepth 100000 in
theorem ok_X8_isDeep (x0 : Int32) {M : Mem} : Ok l yX8_isDeep cX8_isDeep 1 (some .boolean) 0 [.int x0] D B ca st M (some (.int (f_X8_isDeep  x0))) M := by
  obtain ⟨r, h⟩ : ∃ r, f_X8_isDeep  x0 = r := ⟨_, rfl⟩
  rw [h]
  unfold f_X8_isDeep at h
  refine ok_of rfl rfl (Nat.le_of_ble_eq_true rfl) ?_
  intro p e s m args below meth c ls C hl hR hS
  have hl : lv_has ls 1 [(0, .int x0)] := hl
  have hx := C.1
  have hb := C.2.1
  refine lv_iload_n hx hb dX8_isDeep_0 rfl (lv_at hl 0 rfl) ?_
  refine lv_iconst (v := 1) hx hb dX8_isDeep_1 (by decide) ?_
  refine lv_icmp_eq (tgt := 10) hx hb dX8_isDeep_2 (by decide) (fun c => ?_) (fun c => ?_)
  · have h := ip c h
    refine lv_iconst (v := 1) hx hb dX8_isDeep_10 (by decide) ?_
    refine lv_goto (tgt := 15) hx hb dX8_isDeep_11 (by decide) ?_
    subst h
    exact rr_Z (v := 1) C hR hS (by decide) dX8_isDeep_15
  · have h := iq c h
    refine lv_iload_n hx hb dX8_isDeep_5 rfl (lv_at hl 0 rfl) ?_
    refine lv_iconst (v := 4) hx hb dX8_isDeep_6 (by decide) ?_
    refine lv_icmp_ne (tgt := 14) hx hb dX8_isDeep_7 (by decide) (fun c => ?_) (fun c => ?_)
    · have h := iq c h
      refine lv_iconst (v := 0) hx hb dX8_isDeep_14 (by decide) ?_
      subst h
      exact rr_Z (v := 0) C hR hS (by decide) dX8_isDeep_15
    · have h := ip c h
      refine lv_iconst (v := 1) hx hb dX8_isDeep_10 (by decide) ?_
      refine lv_goto (tgt := 15) hx hb dX8_isDeep_11 (by decide) ?_
      subst h
      exact rr_Z (v := 1) C hR hS (by decide) dX8_isDeep_15
set_option maxHeartbeats 4000000 in
set_option maxRecDepth 100000 in
theorem w_X8_takesOf_12    {M : Mem} {r : Int32} {x0 : Int32} {x1 : Int32} {s0 : Int32} (C : Cx p s m args meth c RX8 cX8_takesOf 3 (some .int) D B ca st)   (h : f_X8_takesOf_12  x0 x1 s0 = r) : ∀ {H : Heap} {locs : List Loc} {ls : Array Slot}, RH D B ca M H → va_S (AA B) s.heap H locs → lv_has ls 3 [(0, .int x0), (1, .int x1)] → W p l e (rmD 1) s m args below meth c H locs 0 0 (MQ below (Qp D B ca st (some (.int r)) M) args s 0 0 (AA B)) (F0 m 12 ls [.int s0]) := by
  have hx := C.1
  have hb := C.2.1
  unfold f_X8_takesOf_12 at h
  intro H locs ls hR hS hl
  refine lv_istore_n (lv' := [(2, .int s0), (0, .int x0), (1, .int x1)]) hx hb dX8_takesOf_12 rfl hl (by decide) rfl (fun ls hl => ?_)
  refine lv_iload_n hx hb dX8_takesOf_13 rfl (lv_at hl 1 rfl) ?_
  refine rc_S C hR hS cf_X8_isDeep cs_X8_isDeep lk1179 (ok_X8_isDeep x0) ⟨Nat.le_of_ble_eq_true rfl, Nat.le_of_ble_eq_true rfl⟩ ⟨Nat.zero_le _, Nat.zero_le _⟩ rfl rfl hl.1 (Nat.le_of_ble_eq_true rfl) dX8_takesOf_14 (rc_k1 (fun H locs hR hS => ?_))
  refine lv_if_eq (tgt := 24) hx hb dX8_takesOf_17 (by decide) (fun c => ?_) (fun c => ?_)
  · have h := ip c h
    refine lv_iload_n hx hb dX8_takesOf_24 rfl (lv_at hl 1 rfl) ?_
    refine lv_iconst (v := 3) hx hb dX8_takesOf_25 (by decide) ?_
    refine lv_icmp_ne (tgt := 33) hx hb dX8_takesOf_26 (by decide) (fun c => ?_) (fun c => ?_)
    · have h := iq c h
      refine lv_iload_n hx hb dX8_takesOf_33 rfl (lv_at hl 2 rfl) ?_
      subst h
      exact rr_I C hR hS dX8_takesOf_34
    · have h := ip c h
      refine lv_iconst (v := 0) hx hb dX8_takesOf_29 (by decide) ?_
      refine lv_goto (tgt := 34) hx hb dX8_takesOf_30 (by decide) ?_
      subst h
      exact rr_I C hR hS dX8_takesOf_34
  · have h := iq c h
    refine lv_iload_n hx hb dX8_takesOf_20 rfl (lv_at hl 0 rfl) ?_
    refine lv_goto (tgt := 34) hx hb dX8_takesOf_21 (by decide) ?_
    subst h
    exact rr_I C hR hS dX8_takesOf_34
set_option maxHeartbeats 4000000 in
set_option maxRecDepth 100000 in
theorem ok_X8_takesOf (x0 : Int32) (x1 : Int32) {M : Mem} : Ok l yX8_takesOf cX8_takesOf 3 (some .int) 1 [.int x0, .int x1] D B ca st M (some (.int (f_X8_takesOf  x0 x1))) M := by
  obtain ⟨r, h⟩ : ∃ r, f_X8_takesOf  x0 x1 = r := ⟨_, rfl⟩
  rw [h]
  unfold f_X8_takesOf at h
  refine ok_of rfl rfl (Nat.le_of_ble_eq_true rfl) ?_
  intro p e s m args below meth c ls C hl hR hS
  have hl : lv_has ls 3 [(0, .int x0), (1, .int x1)] := hl
  have hx := C.1
  have hb := C.2.1
  refine lv_iload_n hx hb dX8_takesOf_0 rfl (lv_at hl 1 rfl) ?_
  refine lv_iconst (v := 2) hx hb dX8_takesOf_1 (by decide) ?_
  refine lv_icmp_ge (tgt := 9) hx hb dX8_takesOf_2 (by decide) (fun c => ?_) (fun c => ?_)
  · have h := ip c h
    refine lv_iload_n hx hb dX8_takesOf_9 rfl (lv_at hl 1 rfl) ?_
    refine lv_iconst (v := 2) hx hb dX8_takesOf_10 (by decide) ?_
    refine lv_idiv hx hb dX8_takesOf_11 (by decide) ?_
    exact w_X8_takesOf_12 C  h hR hS (lv_sub hl [0, 1] rfl)
  · have h := iq c h
    refine lv_iconst (v := 1) hx hb dX8_takesOf_5 (by decide) ?_
    refine lv_goto (tgt := 12) hx hb dX8_takesOf_6 (by decide) ?_
    exact w_X8_takesOf_12 C  h hR hS (lv_sub hl [0, 1] rfl)
set_option maxHeartbeats 4000000 in
set_option maxRecDepth 100000 in
theorem w_X8_isSo_12    {r : Int32} (C : Cx p s m args meth c RX8 cX8_isSo 8 (some .boolean) D B ca st)   : ∀ (n : Nat) {x0 : Nat} {x1 : Int32} {x2 : Int32} {x4 : Int32} {x5 : Int32} {x6 : Int32} {M : Mem}, f_X8_isSo_12  n x0 x1 x2 x4 x5 x6 M = some r → ∀ {H : Heap} {locs : List Loc} {ls : Array Slot}, RH D B ca M H → va_S (AA B) s.heap H locs → lv_has ls 8 [(0, .ref (B + x0)), (1, .int x1), (2, .int x2), (4, .int x4), (5, .int x5), (6, .int x6)] → W p l e (rmD 2) s m args below meth c H locs 0 0 (MQ below (Qp D B ca st (some (.int r)) M) args s 0 0 (AA B)) (F0 m 12 ls []) := by
  have hx := C.1
  have hb := C.2.1
  intro n
  induction n with
  | zero => intro x0 x1 x2 x4 x5 x6 M h; simp [f_X8_isSo_12] at h
  | succ n ih =>
    intro x0 x1 x2 x4 x5 x6 M h H locs ls hR hS hl
    rw [f_X8_isSo_12] at h
    refine lv_iload hx hb dX8_isSo_12 (lv_at hl 5 rfl) ?_
    refine lv_bipush (v := 40) hx hb dX8_isSo_14 (by decide) ?_
    refine lv_iload_n hx hb dX8_isSo_16 rfl (lv_at hl 1 rfl) ?_
    refine lv_imul hx hb dX8_isSo_17 ?_
    refine lv_aload_n hx hb dX8_isSo_18 rfl (lv_at hl 0 rfl) ?_
    obtain ⟨v1, zqe2, h⟩ := ob h
    refine gf956 C hR zqe2 dX8_isSo_19 ?_
    refine lv_iload_n hx hb dX8_isSo_22 rfl (lv_at hl 1 rfl) ?_
    obtain ⟨v3, zqe4, h⟩ := ob h
    refine ra_I C hR zqe4 dX8_isSo_23 ?_
    refine lv_iadd hx hb dX8_isSo_24 ?_
    refine lv_icmp_ge (tgt := 98) hx hb dX8_isSo_25 (by decide) (fun c => ?_) (fun c => ?_)
    · have h := ip c h
      refine lv_iload hx hb dX8_isSo_98 (lv_at hl 4 rfl) ?_
      refine lv_if_eq (tgt := 112) hx hb dX8_isSo_100 (by decide) (fun c => ?_) (fun c => ?_)
      · have h := ip c h
        refine lv_iconst (v := 0) hx hb dX8_isSo_112 (by decide) ?_
        cases h
        exact rr_Z (v := 0) C hR hS (by decide) dX8_isSo_113
      · have h := iq c h
        refine lv_iload hx hb dX8_isSo_103 (lv_at hl 3 rfl) ?_
        refine lv_if_lt (tgt := 112) hx hb dX8_isSo_105 (by decide) (fun c => ?_) (fun c => ?_)
        · have h := ip c h
          refine lv_iconst (v := 0) hx hb dX8_isSo_112 (by decide) ?_
          cases h
          exact rr_Z (v := 0) C hR hS (by decide) dX8_isSo_113
        · have h := iq c h
          refine lv_iconst (v := 1) hx hb dX8_isSo_108 (by decide) ?_
          refine lv_goto (tgt := 113) hx hb dX8_isSo_109 (by decide) ?_
          cases h
          exact rr_Z (v := 1) C hR hS (by decide) dX8_isSo_113
    · have h := iq c h
      refine lv_aload_n hx hb dX8_isSo_28 rfl (lv_at hl 0 rfl) ?_
      obtain ⟨v5, zqe6, h⟩ := ob h
      refine gf954 C hR zqe6 dX8_isSo_29 ?_
      refine lv_aload_n hx hb dX8_isSo_32 rfl (lv_at hl 0 rfl) ?_
      obtain ⟨v7, zqe8, h⟩ := ob h
      refine gf957 C hR zqe8 dX8_isSo_33 ?_
      refine lv_iload hx hb dX8_isSo_36 (lv_at hl 5 rfl) ?_
      obtain ⟨v9, zqe10, h⟩ := ob h
      refine ra_I C hR zqe10 dX8_isSo_38 ?_
      obtain ⟨v11, zqe12, h⟩ := ob h
      refine ra_I C hR zqe12 dX8_isSo_39 ?_
      refine lv_istore (lv' := [(7, .int v11), (0, .ref (B + x0)), (1, .int x1), (2, .int x2), (4, .int x4), (5, .int x5), (6, .int x6)]) hx hb dX8_isSo_40 hl (by decide) rfl (fun ls hl => ?_)
      refine lv_iload hx hb dX8_isSo_42 (lv_at hl 4 rfl) ?_
      refine lv_iload_n hx hb dX8_isSo_44 rfl (lv_at hl 3 rfl) ?_
      refine lv_iload hx hb dX8_isSo_45 (lv_at hl 0 rfl) ?_
      refine rc_S C hR hS cf_X8_takesOf cs_X8_takesOf lk1176 (ok_X8_takesOf x2 v11) ⟨Nat.le_of_ble_eq_true rfl, Nat.le_of_ble_eq_true rfl⟩ ⟨Nat.zero_le _, Nat.zero_le _⟩ rfl rfl hl.1 (Nat.le_of_ble_eq_true rfl) dX8_isSo_47 (rc_k1 (fun H locs hR hS => ?_))
      refine lv_isub hx hb dX8_isSo_50 ?_
      refine lv_istore (lv' := [(4, .int (x4 - (f_X8_takesOf x2 v11))), (7, .int v11), (0, .ref (B + x0)), (1, .int x1), (2, .int x2), (5, .int x5), (6, .int x6)]) hx hb dX8_isSo_51 hl (by decide) rfl (fun ls hl => ?_)
      refine lv_iload hx hb dX8_isSo_53 (lv_at hl 5 rfl) ?_
      refine lv_if_eq (tgt := 89) hx hb dX8_isSo_55 (by decide) (fun c => ?_) (fun c => ?_)
      · have h := ip c h
        refine lv_iconst (v := 0) hx hb dX8_isSo_89 (by decide) ?_
        refine lv_istore (lv' := [(5, .int 0), (4, .int (x4 - (f_X8_takesOf x2 v11))), (7, .int v11), (0, .ref (B + x0)), (1, .int x1), (2, .int x2), (6, .int x6)]) hx hb dX8_isSo_90 hl (by decide) rfl (fun ls hl => ?_)
        refine lv_iinc (v := (x6 + 2)) (lv' := [(6, .int (x6 + 2)), (5, .int 0), (4, .int (x4 - (f_X8_takesOf x2 v11))), (7, .int v11), (0, .ref (B + x0)), (1, .int x1), (2, .int x2)]) hx hb dX8_isSo_92 hl (k := 6) rfl rfl (by decide) rfl (fun ls hl => ?_)
        refine lv_goto (tgt := 12) hx hb dX8_isSo_95 (by decide) ?_
        exact ih h hR hS (lv_sub hl [4, 5, 6, 2, 1, 0] rfl)
      · have h := iq c h
        refine lv_iload_n hx hb dX8_isSo_58 rfl (lv_at hl 4 rfl) ?_
        refine lv_iload hx hb dX8_isSo_59 (lv_at hl 1 rfl) ?_
        refine rc_S C hR hS cf_X8_isTooDeep cs_X8_isTooDeep lk1169 (ok_X8_isTooDeep x2 v11) ⟨Nat.le_of_ble_eq_true rfl, Nat.le_of_ble_eq_true rfl⟩ ⟨Nat.zero_le _, Nat.zero_le _⟩ rfl rfl hl.1 (Nat.le_of_ble_eq_true rfl) dX8_isSo_61 (rc_k1 (fun H locs hR hS => ?_))
        refine lv_if_ne (tgt := 89) hx hb dX8_isSo_64 (by decide) (fun c => ?_) (fun c => ?_)
        · have h := iq c h
          refine lv_iconst (v := 0) hx hb dX8_isSo_89 (by decide) ?_
          refine lv_istore (lv' := [(5, .int 0), (4, .int (x4 - (f_X8_takesOf x2 v11))), (7, .int v11), (0, .ref (B + x0)), (1, .int x1), (2, .int x2), (6, .int x6)]) hx hb dX8_isSo_90 hl (by decide) rfl (fun ls hl => ?_)
          refine lv_iinc (v := (x6 + 2)) (lv' := [(6, .int (x6 + 2)), (5, .int 0), (4, .int (x4 - (f_X8_takesOf x2 v11))), (7, .int v11), (0, .ref (B + x0)), (1, .int x1), (2, .int x2)]) hx hb dX8_isSo_92 hl (k := 6) rfl rfl (by decide) rfl (fun ls hl => ?_)
          refine lv_goto (tgt := 12) hx hb dX8_isSo_95 (by decide) ?_
          exact ih h hR hS (lv_sub hl [4, 5, 6, 2, 1, 0] rfl)
        · have h := ip c h
          refine lv_iload_n hx hb dX8_isSo_67 rfl (lv_at hl 4 rfl) ?_
          refine lv_iload hx hb dX8_isSo_68 (lv_at hl 1 rfl) ?_
          refine rc_S C hR hS cf_X8_takesOf cs_X8_takesOf lk1176 (ok_X8_takesOf x2 v11) ⟨Nat.le_of_ble_eq_true rfl, Nat.le_of_ble_eq_true rfl⟩ ⟨Nat.zero_le _, Nat.zero_le _⟩ rfl rfl hl.1 (Nat.le_of_ble_eq_true rfl) dX8_isSo_70 (rc_k1 (fun H locs hR hS => ?_))
          refine lv_aload_n hx hb dX8_isSo_73 rfl (lv_at hl 2 rfl) ?_
          obtain ⟨v16, zqe17, h⟩ := ob h
          refine gf957 C hR zqe17 dX8_isSo_74 ?_
          refine lv_iload hx hb dX8_isSo_77 (lv_at hl 6 rfl) ?_
          refine lv_iconst (v := 1) hx hb dX8_isSo_79 (by decide) ?_
          refine lv_iadd hx hb dX8_isSo_80 ?_
          obtain ⟨v18, zqe19, h⟩ := ob h
          refine ra_I C hR zqe19 dX8_isSo_81 ?_
          refine lv_icmp_ne (tgt := 89) hx hb dX8_isSo_82 (by decide) (fun c => ?_) (fun c => ?_)
          · have h := iq c h
            refine lv_iconst (v := 0) hx hb dX8_isSo_89 (by decide) ?_
            refine lv_istore (lv' := [(5, .int 0), (4, .int (x4 - (f_X8_takesOf x2 v11))), (7, .int v11), (0, .ref (B + x0)), (1, .int x1), (2, .int x2), (6, .int x6)]) hx hb dX8_isSo_90 hl (by decide) rfl (fun ls hl => ?_)
            refine lv_iinc (v := (x6 + 2)) (lv' := [(6, .int (x6 + 2)), (5, .int 0), (4, .int (x4 - (f_X8_takesOf x2 v11))), (7, .int v11), (0, .ref (B + x0)), (1, .int x1), (2, .int x2)]) hx hb dX8_isSo_92 hl (k := 6) rfl rfl (by decide) rfl (fun ls hl => ?_)
            refine lv_goto (tgt := 12) hx hb dX8_isSo_95 (by decide) ?_
            exact ih h hR hS (lv_sub hl [4, 5, 6, 2, 1, 0] rfl)
          · have h := ip c h
            refine lv_iconst (v := 1) hx hb dX8_isSo_85 (by decide) ?_
            refine lv_goto (tgt := 90) hx hb dX8_isSo_86 (by decide) ?_
            refine lv_istore (lv' := [(5, .int 1), (4, .int (x4 - (f_X8_takesOf x2 v11))), (7, .int v11), (0, .ref (B + x0)), (1, .int x1), (2, .int x2), (6, .int x6)]) hx hb dX8_isSo_90 hl (by decide) rfl (fun ls hl => ?_)
            refine lv_iinc (v := (x6 + 2)) (lv' := [(6, .int (x6 + 2)), (5, .int 1), (4, .int (x4 - (f_X8_takesOf x2 v11))), (7, .int v11), (0, .ref (B + x0)), (1, .int x1), (2, .int x2)]) hx hb dX8_isSo_92 hl (k := 6) rfl rfl (by decide) rfl (fun ls hl => ?_)
            refine lv_goto (tgt := 12) hx hb dX8_isSo_95 (by decide) ?_
            exact ih h hR hS (lv_sub hl [4, 5, 6, 2, 1, 0] rfl)
theorem ck_X8_isSo  {x0 : Nat} {x1 : Int32} {x2 : Int32} {x3 : Int32} {M : Mem} {r : Int32} (h : f_X8_isSo  x0 x1 x2 x3 M = some r) : kd M x0 = 18 := by
  unfold f_X8_isSo at h
  exact ck h
set_option maxHeartbeats 4000000 in
set_option maxRecDepth 100000 in
theorem ok_X8_isSo  {x0 : Nat} {x1 : Int32} {x2 : Int32} {x3 : Int32}  {M : Mem} {r : Int32}  (h : f_X8_isSo  x0 x1 x2 x3 M = some r) : Ok l yX8_isSo cX8_isSo 8 (some .boolean) 2 [.ref (B + x0), .int x1, .int x2, .int x3] D B ca st M (some (.int r)) M := by
  have hk0 := ck_X8_isSo h
  unfold f_X8_isSo at h
  have h := ip hk0 h
  refine ok_of rfl rfl (Nat.le_of_ble_eq_true rfl) ?_
  intro p e s m args below meth c ls C hl hR hS
  have hl : lv_has ls 8 [(0, .ref (B + x0)), (1, .int x1), (2, .int x2), (3, .int x3)] := hl
  have hx := C.1
  have hb := C.2.1
  refine lv_iload_n hx hb dX8_isSo_0 rfl (lv_at hl 3 rfl) ?_
  refine lv_istore (lv' := [(4, .int x3), (0, .ref (B + x0)), (1, .int x1), (2, .int x2), (3, .int x3)]) hx hb dX8_isSo_1 hl (by decide) rfl (fun ls hl => ?_)
  refine lv_iconst (v := 1) hx hb dX8_isSo_3 (by decide) ?_
  refine lv_istore (lv' := [(5, .int 1), (4, .int x3), (0, .ref (B + x0)), (1, .int x1), (2, .int x2), (3, .int x3)]) hx hb dX8_isSo_4 hl (by decide) rfl (fun ls hl => ?_)
  refine lv_bipush (v := 40) hx hb dX8_isSo_6 (by decide) ?_
  refine lv_iload_n hx hb dX8_isSo_8 rfl (lv_at hl 3 rfl) ?_
  refine lv_imul hx hb dX8_isSo_9 ?_
  refine lv_istore (lv' := [(6, .int (40 * x1)), (5, .int 1), (4, .int x3), (0, .ref (B + x0)), (1, .int x1), (2, .int x2), (3, .int x3)]) hx hb dX8_isSo_10 hl (by decide) rfl (fun ls hl => ?_)
  exact w_X8_isSo_12 C  FU h hR hS (lv_sub hl [3, 4, 5, 2, 1, 0] rfl)
theorem ck_X8_isOrder  {x0 : Nat} {x1 : Int32} {M : Mem} {r : Int32} (h : f_X8_isOrder  x0 x1 M = some r) : kd M x0 = 18 := by
  unfold f_X8_isOrder at h
  exact ck h
set_option maxHeartbeats 4000000 in
set_option maxRecDepth 100000 in
theorem ok_X8_isOrder  {x0 : Nat} {x1 : Int32}  {M : Mem} {r : Int32}  (h : f_X8_isOrder  x0 x1 M = some r) : Ok l yX8_isOrder cX8_isOrder 2 (some .boolean) 1 [.ref (B + x0), .int x1] D B ca st M (some (.int r)) M := by
  have hk0 := ck_X8_isOrder h
  unfold f_X8_isOrder at h
  have h := ip hk0 h
  refine ok_of rfl rfl (Nat.le_of_ble_eq_true rfl) ?_
  intro p e s m args below meth c ls C hl hR hS
  have hl : lv_has ls 2 [(0, .ref (B + x0)), (1, .int x1)] := hl
  have hx := C.1
  have hb := C.2.1
  refine lv_iload_n hx hb dX8_isOrder_0 rfl (lv_at hl 1 rfl) ?_
  refine lv_i2l (v := (Int32.toInt64 x1)) hx hb dX8_isOrder_1 rfl ?_
  refine lv_lconst (v := 0) hx hb dX8_isOrder_2 (by decide) ?_
  refine lv_aload_n hx hb dX8_isOrder_3 rfl (lv_at hl 0 rfl) ?_
  obtain ⟨v1, zqe2, h⟩ := ob h
  refine gf952 C hR zqe2 dX8_isOrder_4 ?_
  refine lv_iconst (v := 1) hx hb dX8_isOrder_7 (by decide) ?_
  refine lv_isub hx hb dX8_isOrder_8 ?_
  refine lv_i2l (v := (Int32.toInt64 (v1 - 1))) hx hb dX8_isOrder_9 rfl ?_
  refine rc_S C hR hS cf_X8_in cs_X8_in lk1059 (ok_X8_in (Int32.toInt64 x1) 0 (Int32.toInt64 (v1 - 1))) ⟨Nat.le_of_ble_eq_true rfl, Nat.le_of_ble_eq_true rfl⟩ ⟨Nat.zero_le _, Nat.zero_le _⟩ rfl rfl hl.1 (Nat.le_of_ble_eq_true rfl) dX8_isOrder_10 (rc_k1 (fun H locs hR hS => ?_))
  obtain ⟨zqb4, zqe5, h⟩ := ob h
  cases h
  exact rr_Z C hR hS (bz_self zqe5) dX8_isOrder_13
set_option maxHeartbeats 4000000 in
set_option maxRecDepth 100000 in
theorem w_X8_noPairs_37    {r : Int32 × Mem} {x0 : Nat} {M : Mem} (C : Cx p s m args meth c RX8 cX8_noPairs 4 (some .int) D B ca st)   (h : f_X8_noPairs_37  x0 M = some r) : ∀ {H : Heap} {locs : List Loc} {ls : Array Slot}, RH D B ca M H → va_S (AA B) s.heap H locs → lv_has ls 4 [(0, .ref (B + x0))] → W p l e (rmD 2) s m args below meth c H locs 0 0 (MQ below (Qp D B ca st (some (.int r.1)) r.2) args s 0 0 (AA B)) (F0 m 37 ls []) := by
  have hx := C.1
  have hb := C.2.1
  unfold f_X8_noPairs_37 at h
  intro H locs ls hR hS hl
  refine lv_aload_n hx hb dX8_noPairs_37 rfl (lv_at hl 0 rfl) ?_
  refine lv_iconst (v := 5) hx hb dX8_noPairs_38 (by decide) ?_
  obtain ⟨qv17, zqe16, h⟩ := ob h
  refine rc_V C hR hS cf_X8_find cv_X8_find lk1062 (ok_X8_find zqe16) (ck_X8_find zqe16) ⟨Nat.le_of_ble_eq_true rfl, Nat.le_of_ble_eq_true rfl⟩ ⟨Nat.zero_le _, Nat.zero_le _⟩ rfl rfl hl.1 (Nat.le_of_ble_eq_true rfl) dX8_noPairs_39 (rc_k1 (fun H locs hR hS => ?_))
  cases h
  exact rr_I C hR hS dX8_noPairs_42
set_option maxHeartbeats 4000000 in
set_option maxRecDepth 100000 in
theorem w_X8_noPairs_50    {r : Int32 × Mem} (C : Cx p s m args meth c RX8 cX8_noPairs 4 (some .int) D B ca st)   : ∀ (n : Nat) {x0 : Nat} {x1 : Int32} {x2 : Int32} {x3 : Int32} {M : Mem}, f_X8_noPairs_50  n x0 x1 x2 x3 M = some r → ∀ {H : Heap} {locs : List Loc} {ls : Array Slot}, RH D B ca M H → va_S (AA B) s.heap H locs → lv_has ls 4 [(0, .ref (B + x0)), (1, .int x1), (2, .int x2), (3, .int x3)] → W p l e (rmD 2) s m args below meth c H locs 0 0 (MQ below (Qp D B ca st (some (.int r.1)) r.2) args s 0 0 (AA B)) (F0 m 50 ls []) := by
  have hx := C.1
  have hb := C.2.1
  intro n
  induction n with
  | zero => intro x0 x1 x2 x3 M h; simp [f_X8_noPairs_50] at h
  | succ n ih =>
    intro x0 x1 x2 x3 M h H locs ls hR hS hl
    rw [f_X8_noPairs_50] at h
    refine lv_iload_n hx hb dX8_noPairs_50 rfl (lv_at hl 3 rfl) ?_
    refine lv_bipush (v := 40) hx hb dX8_noPairs_51 (by decide) ?_
    refine lv_iload_n hx hb dX8_noPairs_53 rfl (lv_at hl 1 rfl) ?_
    refine lv_imul hx hb dX8_noPairs_54 ?_
    refine lv_aload_n hx hb dX8_noPairs_55 rfl (lv_at hl 0 rfl) ?_
    obtain ⟨v19, zqe20, h⟩ := ob h
    refine gf956 C hR zqe20 dX8_noPairs_56 ?_
    refine lv_iload_n hx hb dX8_noPairs_59 rfl (lv_at hl 1 rfl) ?_
    obtain ⟨v21, zqe22, h⟩ := ob h
    refine ra_I C hR zqe22 dX8_noPairs_60 ?_
    refine lv_iadd hx hb dX8_noPairs_61 ?_
    refine lv_icmp_ge (tgt := 113) hx hb dX8_noPairs_62 (by decide) (fun c => ?_) (fun c => ?_)
    · have h := ip c h
      refine lv_iload_n hx hb dX8_noPairs_113 rfl (lv_at hl 2 rfl) ?_
      refine lv_if_eq (tgt := 121) hx hb dX8_noPairs_114 (by decide) (fun c => ?_) (fun c => ?_)
      · have h := ip c h
        refine lv_aload_n hx hb dX8_noPairs_121 rfl (lv_at hl 0 rfl) ?_
        refine lv_iconst (v := 3) hx hb dX8_noPairs_122 (by decide) ?_
        obtain ⟨qv24, zqe23, h⟩ := ob h
        refine rc_V C hR hS cf_X8_find cv_X8_find lk1062 (ok_X8_find zqe23) (ck_X8_find zqe23) ⟨Nat.le_of_ble_eq_true rfl, Nat.le_of_ble_eq_true rfl⟩ ⟨Nat.zero_le _, Nat.zero_le _⟩ rfl rfl hl.1 (Nat.le_of_ble_eq_true rfl) dX8_noPairs_123 (rc_k1 (fun H locs hR hS => ?_))
        cases h
        exact rr_I C hR hS dX8_noPairs_126
      · have h := iq c h
        refine lv_iconst (v := 0) hx hb dX8_noPairs_117 (by decide) ?_
        refine lv_goto (tgt := 126) hx hb dX8_noPairs_118 (by decide) ?_
        cases h
        exact rr_I C hR hS dX8_noPairs_126
    · have h := iq c h
      refine lv_iload_n hx hb dX8_noPairs_65 rfl (lv_at hl 2 rfl) ?_
      refine lv_if_eq (tgt := 105) hx hb dX8_noPairs_66 (by decide) (fun c => ?_) (fun c => ?_)
      · have h := ip c h
        refine lv_iconst (v := 0) hx hb dX8_noPairs_105 (by decide) ?_
        refine lv_istore_n (lv' := [(2, .int 0), (0, .ref (B + x0)), (1, .int x1), (3, .int x3)]) hx hb dX8_noPairs_106 rfl hl (by decide) rfl (fun ls hl => ?_)
        refine lv_iinc (v := (x3 + 2)) (lv' := [(3, .int (x3 + 2)), (2, .int 0), (0, .ref (B + x0)), (1, .int x1)]) hx hb dX8_noPairs_107 hl (k := 3) rfl rfl (by decide) rfl (fun ls hl => ?_)
        refine lv_goto (tgt := 50) hx hb dX8_noPairs_110 (by decide) ?_
        exact ih h hR hS (lv_sub hl [2, 3, 1, 0] rfl)
      · have h := iq c h
        refine lv_aload_n hx hb dX8_noPairs_69 rfl (lv_at hl 0 rfl) ?_
        refine lv_aload_n hx hb dX8_noPairs_70 rfl (lv_at hl 0 rfl) ?_
        obtain ⟨v26, zqe27, h⟩ := ob h
        refine gf957 C hR zqe27 dX8_noPairs_71 ?_
        refine lv_iload_n hx hb dX8_noPairs_74 rfl (lv_at hl 3 rfl) ?_
        obtain ⟨v28, zqe29, h⟩ := ob h
        refine ra_I C hR zqe29 dX8_noPairs_75 ?_
        obtain ⟨v31, zqe30, h⟩ := ob h
        refine rc_V C hR hS cf_X8_isOrder cv_X8_isOrder lk1186 (ok_X8_isOrder zqe30) (ck_X8_isOrder zqe30) ⟨Nat.le_of_ble_eq_true rfl, Nat.le_of_ble_eq_true rfl⟩ ⟨Nat.zero_le _, Nat.zero_le _⟩ rfl rfl hl.1 (Nat.le_of_ble_eq_true rfl) dX8_noPairs_76 (rc_k1 (fun H locs hR hS => ?_))
        refine lv_if_eq (tgt := 105) hx hb dX8_noPairs_79 (by decide) (fun c => ?_) (fun c => ?_)
        · have h := ip c h
          refine lv_iconst (v := 0) hx hb dX8_noPairs_105 (by decide) ?_
          refine lv_istore_n (lv' := [(2, .int 0), (0, .ref (B + x0)), (1, .int x1), (3, .int x3)]) hx hb dX8_noPairs_106 rfl hl (by decide) rfl (fun ls hl => ?_)
          refine lv_iinc (v := (x3 + 2)) (lv' := [(3, .int (x3 + 2)), (2, .int 0), (0, .ref (B + x0)), (1, .int x1)]) hx hb dX8_noPairs_107 hl (k := 3) rfl rfl (by decide) rfl (fun ls hl => ?_)
          refine lv_goto (tgt := 50) hx hb dX8_noPairs_110 (by decide) ?_
          exact ih h hR hS (lv_sub hl [2, 3, 1, 0] rfl)
        · have h := iq c h
          refine lv_aload_n hx hb dX8_noPairs_82 rfl (lv_at hl 0 rfl) ?_
          obtain ⟨v32, zqe33, h⟩ := ob h
          refine gf957 C hR zqe33 dX8_noPairs_83 ?_
          refine lv_iload_n hx hb dX8_noPairs_86 rfl (lv_at hl 3 rfl) ?_
          refine lv_iconst (v := 1) hx hb dX8_noPairs_87 (by decide) ?_
          refine lv_iadd hx hb dX8_noPairs_88 ?_
          obtain ⟨v34, zqe35, h⟩ := ob h
          refine ra_I C hR zqe35 dX8_noPairs_89 ?_
          refine lv_i2l (v := (Int32.toInt64 v34)) hx hb dX8_noPairs_90 rfl ?_
          refine lv_lconst (v := 0) hx hb dX8_noPairs_91 (by decide) ?_
          refine lv_ldc2 hx hb C.2.2.2.1 (C.2.2.2.2.1 _ lk1220) dX8_noPairs_92 ?_
          refine rc_S C hR hS cf_X8_in cs_X8_in lk1059 (ok_X8_in (Int32.toInt64 v34) 0 9) ⟨Nat.le_of_ble_eq_true rfl, Nat.le_of_ble_eq_true rfl⟩ ⟨Nat.zero_le _, Nat.zero_le _⟩ rfl rfl hl.1 (Nat.le_of_ble_eq_true rfl) dX8_noPairs_95 (rc_k1 (fun H locs hR hS => ?_))
          refine lv_if_eq (tgt := 105) hx hb dX8_noPairs_98 (by decide) (fun c => ?_) (fun c => ?_)
          · have h := ip c h
            refine lv_iconst (v := 0) hx hb dX8_noPairs_105 (by decide) ?_
            refine lv_istore_n (lv' := [(2, .int 0), (0, .ref (B + x0)), (1, .int x1), (3, .int x3)]) hx hb dX8_noPairs_106 rfl hl (by decide) rfl (fun ls hl => ?_)
            refine lv_iinc (v := (x3 + 2)) (lv' := [(3, .int (x3 + 2)), (2, .int 0), (0, .ref (B + x0)), (1, .int x1)]) hx hb dX8_noPairs_107 hl (k := 3) rfl rfl (by decide) rfl (fun ls hl => ?_)
            refine lv_goto (tgt := 50) hx hb dX8_noPairs_110 (by decide) ?_
            exact ih h hR hS (lv_sub hl [2, 3, 1, 0] rfl)
          · have h := iq c h
            refine lv_iconst (v := 1) hx hb dX8_noPairs_101 (by decide) ?_
            refine lv_goto (tgt := 106) hx hb dX8_noPairs_102 (by decide) ?_
            refine lv_istore_n (lv' := [(2, .int 1), (0, .ref (B + x0)), (1, .int x1), (3, .int x3)]) hx hb dX8_noPairs_106 rfl hl (by decide) rfl (fun ls hl => ?_)
            refine lv_iinc (v := (x3 + 2)) (lv' := [(3, .int (x3 + 2)), (2, .int 1), (0, .ref (B + x0)), (1, .int x1)]) hx hb dX8_noPairs_107 hl (k := 3) rfl rfl (by decide) rfl (fun ls hl => ?_)
            refine lv_goto (tgt := 50) hx hb dX8_noPairs_110 (by decide) ?_
            exact ih h hR hS (lv_sub hl [2, 3, 1, 0] rfl)
theorem ck_X8_noPairs  {x0 : Nat} {x1 : Int32} {M : Mem} {r : Int32 × Mem} (h : f_X8_noPairs  x0 x1 M = some r) : kd M x0 = 18 := by
  unfold f_X8_noPairs at h
  exact ck h
set_option maxHeartbeats 4000000 in
set_option maxRecDepth 100000 in
theorem ok_X8_noPairs  {x0 : Nat} {x1 : Int32}  {M : Mem} {r : Int32 × Mem}  (h : f_X8_noPairs  x0 x1 M = some r) : Ok l yX8_noPairs cX8_noPairs 4 (some .int) 2 [.ref (B + x0), .int x1] D B ca st M (some (.int r.1)) r.2 := by
  have hk0 := ck_X8_noPairs h
  unfold f_X8_noPairs at h
  have h := ip hk0 h
  refine ok_of rfl rfl (Nat.le_of_ble_eq_true rfl) ?_
  intro p e s m args below meth c ls C hl hR hS
  have hl : lv_has ls 4 [(0, .ref (B + x0)), (1, .int x1)] := hl
  have hx := C.1
  have hb := C.2.1
  refine lv_aload_n hx hb dX8_noPairs_0 rfl (lv_at hl 0 rfl) ?_
  obtain ⟨v1, zqe2, h⟩ := ob h
  refine gf956 C hR zqe2 dX8_noPairs_1 ?_
  refine lv_iload_n hx hb dX8_noPairs_4 rfl (lv_at hl 1 rfl) ?_
  obtain ⟨v3, zqe4, h⟩ := ob h
  refine ra_I C hR zqe4 dX8_noPairs_5 ?_
  refine lv_if_ge (tgt := 15) hx hb dX8_noPairs_6 (by decide) (fun c => ?_) (fun c => ?_)
  · have h := ip c h
    refine lv_aload_n hx hb dX8_noPairs_15 rfl (lv_at hl 0 rfl) ?_
    obtain ⟨v5, zqe6, h⟩ := ob h
    refine gf956 C hR zqe6 dX8_noPairs_16 ?_
    refine lv_iload_n hx hb dX8_noPairs_19 rfl (lv_at hl 1 rfl) ?_
    obtain ⟨v7, zqe8, h⟩ := ob h
    refine ra_I C hR zqe8 dX8_noPairs_20 ?_
    refine lv_iconst (v := 2) hx hb dX8_noPairs_21 (by decide) ?_
    refine lv_irem hx hb dX8_noPairs_22 (by decide) ?_
    refine lv_if_ne (tgt := 37) hx hb dX8_noPairs_23 (by decide) (fun c => ?_) (fun c => ?_)
    · have h := iq c h
      exact w_X8_noPairs_37 C  h hR hS (lv_sub hl [0] rfl)
    · have h := ip c h
      refine lv_aload_n hx hb dX8_noPairs_26 rfl (lv_at hl 0 rfl) ?_
      obtain ⟨v9, zqe10, h⟩ := ob h
      refine gf956 C hR zqe10 dX8_noPairs_27 ?_
      refine lv_iload_n hx hb dX8_noPairs_30 rfl (lv_at hl 1 rfl) ?_
      obtain ⟨v11, zqe12, h⟩ := ob h
      refine ra_I C hR zqe12 dX8_noPairs_31 ?_
      refine lv_bipush (v := 12) hx hb dX8_noPairs_32 (by decide) ?_
      refine lv_icmp_le (tgt := 43) hx hb dX8_noPairs_34 (by decide) (fun c => ?_) (fun c => ?_)
      · have h := ip c h
        refine lv_iconst (v := 1) hx hb dX8_noPairs_43 (by decide) ?_
        refine lv_istore_n (lv' := [(2, .int 1), (0, .ref (B + x0)), (1, .int x1)]) hx hb dX8_noPairs_44 rfl hl (by decide) rfl (fun ls hl => ?_)
        refine lv_bipush (v := 40) hx hb dX8_noPairs_45 (by decide) ?_
        refine lv_iload_n hx hb dX8_noPairs_47 rfl (lv_at hl 2 rfl) ?_
        refine lv_imul hx hb dX8_noPairs_48 ?_
        refine lv_istore_n (lv' := [(3, .int (40 * x1)), (2, .int 1), (0, .ref (B + x0)), (1, .int x1)]) hx hb dX8_noPairs_49 rfl hl (by decide) rfl (fun ls hl => ?_)
        exact w_X8_noPairs_50 C  FU h hR hS (lv_sub hl [2, 3, 1, 0] rfl)
      · have h := iq c h
        exact w_X8_noPairs_37 C  h hR hS (lv_sub hl [0] rfl)
  · have h := iq c h
    refine lv_aload_n hx hb dX8_noPairs_9 rfl (lv_at hl 0 rfl) ?_
    refine lv_iconst (v := 1) hx hb dX8_noPairs_10 (by decide) ?_
    obtain ⟨qv14, zqe13, h⟩ := ob h
    refine rc_V C hR hS cf_X8_find cv_X8_find lk1062 (ok_X8_find zqe13) (ck_X8_find zqe13) ⟨Nat.le_of_ble_eq_true rfl, Nat.le_of_ble_eq_true rfl⟩ ⟨Nat.zero_le _, Nat.zero_le _⟩ rfl rfl hl.1 (Nat.le_of_ble_eq_true rfl) dX8_noPairs_11 (rc_k1 (fun H locs hR hS => ?_))
    cases h
    exact rr_I C hR hS dX8_noPairs_14
set_option maxHeartbeats 4000000 in
set_option maxRecDepth 100000 in
theorem w_X8_breaths_35    {r : Int32 × Mem} (C : Cx p s m args meth c RX8 cX8_breaths 6 (some .int) D B ca st)   : ∀ (n : Nat) {x0 : Nat} {x1 : Int32} {x2 : Int32} {x4 : Int32} {x5 : Int32} {M : Mem}, f_X8_breaths_35  n x0 x1 x2 x4 x5 M = some r → ∀ {H : Heap} {locs : List Loc} {ls : Array Slot}, RH D B ca M H → va_S (AA B) s.heap H locs → lv_has ls 6 [(0, .ref (B + x0)), (1, .int x1), (2, .int x2), (4, .int x4), (5, .int x5)] → W p l e (rmD 3) s m args below meth c H locs 0 0 (MQ below (Qp D B ca st (some (.int r.1)) r.2) args s 0 0 (AA B)) (F0 m 35 ls []) := by
  have hx := C.1
  have hb := C.2.1
  intro n
  induction n with
  | zero => intro x0 x1 x2 x4 x5 M h; simp [f_X8_breaths_35] at h
  | succ n ih =>
    intro x0 x1 x2 x4 x5 M h H locs ls hR hS hl
    rw [f_X8_breaths_35] at h
    refine lv_iload hx hb dX8_breaths_35 (lv_at hl 4 rfl) ?_
    refine lv_bipush (v := 10) hx hb dX8_breaths_37 (by decide) ?_
    refine lv_icmp_ge (tgt := 77) hx hb dX8_breaths_39 (by decide) (fun c => ?_) (fun c => ?_)
    · have h := ip c h
      refine lv_iload hx hb dX8_breaths_77 (lv_at hl 3 rfl) ?_
      cases h
      exact rr_I C hR hS dX8_breaths_79
    · have h := iq c h
      refine lv_iload hx hb dX8_breaths_42 (lv_at hl 3 rfl) ?_
      refine lv_aload_n hx hb dX8_breaths_44 rfl (lv_at hl 0 rfl) ?_
      refine lv_iload_n hx hb dX8_breaths_45 rfl (lv_at hl 2 rfl) ?_
      refine lv_aload_n hx hb dX8_breaths_46 rfl (lv_at hl 0 rfl) ?_
      obtain ⟨v8, zqe9, h⟩ := ob h
      refine gf950 C hR zqe9 dX8_breaths_47 ?_
      refine lv_iload_n hx hb dX8_breaths_50 rfl (lv_at hl 1 rfl) ?_
      obtain ⟨v10, zqe11, h⟩ := ob h
      refine ra_I C hR zqe11 dX8_breaths_51 ?_
      refine lv_iload hx hb dX8_breaths_52 (lv_at hl 4 rfl) ?_
      obtain ⟨v13, zqe12, h⟩ := ob h
      refine rc_V C hR hS cf_X8_isSo cv_X8_isSo lk1370 (ok_X8_isSo zqe12) (ck_X8_isSo zqe12) ⟨Nat.le_of_ble_eq_true rfl, Nat.le_of_ble_eq_true rfl⟩ ⟨Nat.zero_le _, Nat.zero_le _⟩ rfl rfl hl.1 (Nat.le_of_ble_eq_true rfl) dX8_breaths_54 (rc_k1 (fun H locs hR hS => ?_))
      refine lv_if_eq (tgt := 67) hx hb dX8_breaths_57 (by decide) (fun c => ?_) (fun c => ?_)
      · have h := ip c h
        refine lv_iconst (v := 0) hx hb dX8_breaths_67 (by decide) ?_
        refine lv_ior hx hb dX8_breaths_68 ?_
        refine lv_istore (lv' := [(4, .int (x4 ||| 0)), (0, .ref (B + x0)), (1, .int x1), (2, .int x2), (5, .int x5)]) hx hb dX8_breaths_69 hl (by decide) rfl (fun ls hl => ?_)
        refine lv_iinc (v := (x5 + 1)) (lv' := [(5, .int (x5 + 1)), (4, .int (x4 ||| 0)), (0, .ref (B + x0)), (1, .int x1), (2, .int x2)]) hx hb dX8_breaths_71 hl (k := 4) rfl rfl (by decide) rfl (fun ls hl => ?_)
        refine lv_goto (tgt := 35) hx hb dX8_breaths_74 (by decide) ?_
        exact ih h hR hS (lv_sub hl [2, 3, 4, 1, 0] rfl)
      · have h := iq c h
        refine lv_iconst (v := 1) hx hb dX8_breaths_60 (by decide) ?_
        refine lv_iload hx hb dX8_breaths_61 (lv_at hl 4 rfl) ?_
        refine lv_ishl hx hb dX8_breaths_63 ?_
        refine lv_goto (tgt := 68) hx hb dX8_breaths_64 (by decide) ?_
        refine lv_ior hx hb dX8_breaths_68 ?_
        refine lv_istore (lv' := [(4, .int (x4 ||| (1 <<< (x5 &&& 31)))), (0, .ref (B + x0)), (1, .int x1), (2, .int x2), (5, .int x5)]) hx hb dX8_breaths_69 hl (by decide) rfl (fun ls hl => ?_)
        refine lv_iinc (v := (x5 + 1)) (lv' := [(5, .int (x5 + 1)), (4, .int (x4 ||| (1 <<< (x5 &&& 31)))), (0, .ref (B + x0)), (1, .int x1), (2, .int x2)]) hx hb dX8_breaths_71 hl (k := 4) rfl rfl (by decide) rfl (fun ls hl => ?_)
        refine lv_goto (tgt := 35) hx hb dX8_breaths_74 (by decide) ?_
        exact ih h hR hS (lv_sub hl [2, 3, 4, 1, 0] rfl)
theorem ck_X8_breaths  {x0 : Nat} {x1 : Int32} {x2 : Int32} {M : Mem} {r : Int32 × Mem} (h : f_X8_breaths  x0 x1 x2 M = some r) : kd M x0 = 18 := by
  unfold f_X8_breaths at h
  exact ck h
set_option maxHeartbeats 4000000 in
set_option maxRecDepth 100000 in
theorem ok_X8_breaths  {x0 : Nat} {x1 : Int32} {x2 : Int32}  {M : Mem} {r : Int32 × Mem}  (h : f_X8_breaths  x0 x1 x2 M = some r) : Ok l yX8_breaths cX8_breaths 6 (some .int) 3 [.ref (B + x0), .int x1, .int x2] D B ca st M (some (.int r.1)) r.2 := by
  have hk0 := ck_X8_breaths h
  unfold f_X8_breaths at h
  have h := ip hk0 h
  refine ok_of rfl rfl (Nat.le_of_ble_eq_true rfl) ?_
  intro p e s m args below meth c ls C hl hR hS
  have hl : lv_has ls 6 [(0, .ref (B + x0)), (1, .int x1), (2, .int x2)] := hl
  have hx := C.1
  have hb := C.2.1
  refine lv_aload_n hx hb dX8_breaths_0 rfl (lv_at hl 0 rfl) ?_
  refine lv_iload_n hx hb dX8_breaths_1 rfl (lv_at hl 1 rfl) ?_
  obtain ⟨v2, zqe1, h⟩ := ob h
  refine rc_V C hR hS cf_X8_isSigher cv_X8_isSigher lk1153 (ok_X8_isSigher zqe1) (ck_X8_isSigher zqe1) ⟨Nat.le_of_ble_eq_true rfl, Nat.le_of_ble_eq_true rfl⟩ ⟨Nat.zero_le _, Nat.zero_le _⟩ rfl rfl hl.1 (Nat.le_of_ble_eq_true rfl) dX8_breaths_2 (rc_k1 (fun H locs hR hS => ?_))
  refine lv_if_eq (tgt := 15) hx hb dX8_breaths_5 (by decide) (fun c => ?_) (fun c => ?_)
  · have h := ip c h
    refine lv_iconst (v := (-1)) hx hb dX8_breaths_15 (by decide) ?_
    cases h
    exact rr_I C hR hS dX8_breaths_16
  · have h := iq c h
    refine lv_iload_n hx hb dX8_breaths_8 rfl (lv_at hl 2 rfl) ?_
    obtain ⟨v4, zqe3, h⟩ := ob h
    refine rc_S C hR hS cf_X8_isRow cs_X8_isRow lk1055 (ok_X8_isRow zqe3) ⟨Nat.le_of_ble_eq_true rfl, Nat.le_of_ble_eq_true rfl⟩ ⟨Nat.zero_le _, Nat.zero_le _⟩ rfl rfl hl.1 (Nat.le_of_ble_eq_true rfl) dX8_breaths_9 (rc_k1 (fun H locs hR hS => ?_))
    refine lv_if_ne (tgt := 17) hx hb dX8_breaths_12 (by decide) (fun c => ?_) (fun c => ?_)
    · have h := iq c h
      refine lv_aload_n hx hb dX8_breaths_17 rfl (lv_at hl 0 rfl) ?_
      refine lv_iload_n hx hb dX8_breaths_18 rfl (lv_at hl 2 rfl) ?_
      obtain ⟨qv6, zqe5, h⟩ := ob h
      refine rc_V C hR hS cf_X8_noPairs cv_X8_noPairs lk1366 (ok_X8_noPairs zqe5) (ck_X8_noPairs zqe5) ⟨Nat.le_of_ble_eq_true rfl, Nat.le_of_ble_eq_true rfl⟩ ⟨Nat.zero_le _, Nat.zero_le _⟩ rfl rfl hl.1 (Nat.le_of_ble_eq_true rfl) dX8_breaths_19 (rc_k1 (fun H locs hR hS => ?_))
      refine lv_istore_n (lv' := [(3, .int qv6.1), (0, .ref (B + x0)), (1, .int x1), (2, .int x2)]) hx hb dX8_breaths_22 rfl hl (by decide) rfl (fun ls hl => ?_)
      refine lv_iload_n hx hb dX8_breaths_23 rfl (lv_at hl 0 rfl) ?_
      refine lv_if_eq (tgt := 29) hx hb dX8_breaths_24 (by decide) (fun c => ?_) (fun c => ?_)
      · have h := ip c h
        refine lv_iconst (v := 0) hx hb dX8_breaths_29 (by decide) ?_
        refine lv_istore (lv' := [(4, .int 0), (3, .int qv6.1), (0, .ref (B + x0)), (1, .int x1), (2, .int x2)]) hx hb dX8_breaths_30 hl (by decide) rfl (fun ls hl => ?_)
        refine lv_iconst (v := 0) hx hb dX8_breaths_32 (by decide) ?_
        refine lv_istore (lv' := [(5, .int 0), (4, .int 0), (3, .int qv6.1), (0, .ref (B + x0)), (1, .int x1), (2, .int x2)]) hx hb dX8_breaths_33 hl (by decide) rfl (fun ls hl => ?_)
        exact w_X8_breaths_35 C  FU h hR hS (lv_sub hl [3, 4, 5, 1, 0] rfl)
      · have h := iq c h
        refine lv_iload_n hx hb dX8_breaths_27 rfl (lv_at hl 0 rfl) ?_
        cases h
        exact rr_I C hR hS dX8_breaths_28
    · have h := ip c h
      refine lv_iconst (v := (-1)) hx hb dX8_breaths_15 (by decide) ?_
      cases h
      exact rr_I C hR hS dX8_breaths_16
set_option maxHeartbeats 4000000 in
set_option maxRecDepth 100000 in
theorem ok_X8_some (x0 : Int32) {M : Mem} : Ok l yX8_some cX8_some 1 (some .int) 0 [.int x0] D B ca st M (some (.int (f_X8_some  x0))) M := by
  obtain ⟨r, h⟩ : ∃ r, f_X8_some  x0 = r := ⟨_, rfl⟩
  rw [h]
  unfold f_X8_some at h
  refine ok_of rfl rfl (Nat.le_of_ble_eq_true rfl) ?_
  intro p e s m args below meth c ls C hl hR hS
  have hl : lv_has ls 1 [(0, .int x0)] := hl
  have hx := C.1
  have hb := C.2.1
  refine lv_iload_n hx hb dX8_some_0 rfl (lv_at hl 0 rfl) ?_
  refine lv_if_ge (tgt := 8) hx hb dX8_some_1 (by decide) (fun c => ?_) (fun c => ?_)
  · have h := ip c h
    refine lv_iload_n hx hb dX8_some_8 rfl (lv_at hl 0 rfl) ?_
    subst h
    exact rr_I C hR hS dX8_some_9
  · have h := iq c h
    refine lv_iconst (v := 0) hx hb dX8_some_4 (by decide) ?_
    refine lv_goto (tgt := 9) hx hb dX8_some_5 (by decide) ?_
    subst h
    exact rr_I C hR hS dX8_some_9
set_option maxHeartbeats 4000000 in
set_option maxRecDepth 100000 in
theorem ok_X8_bringsBy (x0 : Int32) (x1 : Int32) {M : Mem} : Ok l yX8_bringsBy cX8_bringsBy 2 (some .int) 1 [.int x0, .int x1] D B ca st M (some (.int (f_X8_bringsBy  x0 x1))) M := by
  obtain ⟨r, h⟩ : ∃ r, f_X8_bringsBy  x0 x1 = r := ⟨_, rfl⟩
  rw [h]
  unfold f_X8_bringsBy at h
  refine ok_of rfl rfl (Nat.le_of_ble_eq_true rfl) ?_
  intro p e s m args below meth c ls C hl hR hS
  have hl : lv_has ls 2 [(0, .int x0), (1, .int x1)] := hl
  have hx := C.1
  have hb := C.2.1
  refine lv_iload_n hx hb dX8_bringsBy_0 rfl (lv_at hl 0 rfl) ?_
  refine lv_iconst (v := 3) hx hb dX8_bringsBy_1 (by decide) ?_
  refine lv_icmp_ne (tgt := 11) hx hb dX8_bringsBy_2 (by decide) (fun c => ?_) (fun c => ?_)
  · have h := iq c h
    refine lv_iload_n hx hb dX8_bringsBy_11 rfl (lv_at hl 0 rfl) ?_
    refine lv_iconst (v := 4) hx hb dX8_bringsBy_12 (by decide) ?_
    refine lv_icmp_ne (tgt := 22) hx hb dX8_bringsBy_13 (by decide) (fun c => ?_) (fun c => ?_)
    · have h := iq c h
      refine lv_iload_n hx hb dX8_bringsBy_22 rfl (lv_at hl 0 rfl) ?_
      refine lv_iconst (v := 5) hx hb dX8_bringsBy_23 (by decide) ?_
      refine lv_icmp_ne (tgt := 36) hx hb dX8_bringsBy_24 (by decide) (fun c => ?_) (fun c => ?_)
      · have h := iq c h
        refine lv_iload_n hx hb dX8_bringsBy_36 rfl (lv_at hl 1 rfl) ?_
        subst h
        exact rr_I C hR hS dX8_bringsBy_37
      · have h := ip c h
        refine lv_iload_n hx hb dX8_bringsBy_27 rfl (lv_at hl 1 rfl) ?_
        refine lv_iconst (v := 1) hx hb dX8_bringsBy_28 (by decide) ?_
        refine lv_isub hx hb dX8_bringsBy_29 ?_
        refine rc_S C hR hS cf_X8_some cs_X8_some lk1213 (ok_X8_some (x1 - 1)) ⟨Nat.le_of_ble_eq_true rfl, Nat.le_of_ble_eq_true rfl⟩ ⟨Nat.zero_le _, Nat.zero_le _⟩ rfl rfl hl.1 (Nat.le_of_ble_eq_true rfl) dX8_bringsBy_30 (rc_k1 (fun H locs hR hS => ?_))
        refine lv_goto (tgt := 37) hx hb dX8_bringsBy_33 (by decide) ?_
        subst h
        exact rr_I C hR hS dX8_bringsBy_37
    · have h := ip c h
      refine lv_iload_n hx hb dX8_bringsBy_16 rfl (lv_at hl 1 rfl) ?_
      refine lv_iconst (v := 2) hx hb dX8_bringsBy_17 (by decide) ?_
      refine lv_iadd hx hb dX8_bringsBy_18 ?_
      refine lv_goto (tgt := 37) hx hb dX8_bringsBy_19 (by decide) ?_
      subst h
      exact rr_I C hR hS dX8_bringsBy_37
  · have h := ip c h
    refine lv_iload_n hx hb dX8_bringsBy_5 rfl (lv_at hl 1 rfl) ?_
    refine lv_iconst (v := 2) hx hb dX8_bringsBy_6 (by decide) ?_
    refine lv_idiv hx hb dX8_bringsBy_7 (by decide) ?_
    refine lv_goto (tgt := 37) hx hb dX8_bringsBy_8 (by decide) ?_
    subst h
    exact rr_I C hR hS dX8_bringsBy_37
theorem ck_X8_brought  {x0 : Nat} {x1 : Int32} {x2 : Int32} {M : Mem} {r : Int32} (h : f_X8_brought  x0 x1 x2 M = some r) : kd M x0 = 18 := by
  unfold f_X8_brought at h
  exact ck h
set_option maxHeartbeats 4000000 in
set_option maxRecDepth 100000 in
theorem ok_X8_brought  {x0 : Nat} {x1 : Int32} {x2 : Int32}  {M : Mem} {r : Int32}  (h : f_X8_brought  x0 x1 x2 M = some r) : Ok l yX8_brought cX8_brought 3 (some .int) 2 [.ref (B + x0), .int x1, .int x2] D B ca st M (some (.int r)) M := by
  have hk0 := ck_X8_brought h
  unfold f_X8_brought at h
  have h := ip hk0 h
  refine ok_of rfl rfl (Nat.le_of_ble_eq_true rfl) ?_
  intro p e s m args below meth c ls C hl hR hS
  have hl : lv_has ls 3 [(0, .ref (B + x0)), (1, .int x1), (2, .int x2)] := hl
  have hx := C.1
  have hb := C.2.1
  refine lv_aload_n hx hb dX8_brought_0 rfl (lv_at hl 0 rfl) ?_
  obtain ⟨v1, zqe2, h⟩ := ob h
  refine gf950 C hR zqe2 dX8_brought_1 ?_
  refine lv_iload_n hx hb dX8_brought_4 rfl (lv_at hl 1 rfl) ?_
  obtain ⟨v3, zqe4, h⟩ := ob h
  refine ra_I C hR zqe4 dX8_brought_5 ?_
  refine lv_aload_n hx hb dX8_brought_6 rfl (lv_at hl 0 rfl) ?_
  obtain ⟨v5, zqe6, h⟩ := ob h
  refine gf955 C hR zqe6 dX8_brought_7 ?_
  refine lv_iload_n hx hb dX8_brought_10 rfl (lv_at hl 2 rfl) ?_
  obtain ⟨v7, zqe8, h⟩ := ob h
  refine ra_I C hR zqe8 dX8_brought_11 ?_
  refine rc_S C hR hS cf_X8_bringsBy cs_X8_bringsBy lk1210 (ok_X8_bringsBy v3 v7) ⟨Nat.le_of_ble_eq_true rfl, Nat.le_of_ble_eq_true rfl⟩ ⟨Nat.zero_le _, Nat.zero_le _⟩ rfl rfl hl.1 (Nat.le_of_ble_eq_true rfl) dX8_brought_12 (rc_k1 (fun H locs hR hS => ?_))
  cases h
  exact rr_I C hR hS dX8_brought_15
theorem ck_X8_brings  {x0 : Nat} {x1 : Int32} {x2 : Int32} {M : Mem} {r : Int32} (h : f_X8_brings  x0 x1 x2 M = some r) : kd M x0 = 18 := by
  unfold f_X8_brings at h
  exact ck h
set_option maxHeartbeats 4000000 in
set_option maxRecDepth 100000 in
theorem ok_X8_brings  {x0 : Nat} {x1 : Int32} {x2 : Int32}  {M : Mem} {r : Int32}  (h : f_X8_brings  x0 x1 x2 M = some r) : Ok l yX8_brings cX8_brings 3 (some .int) 3 [.ref (B + x0), .int x1, .int x2] D B ca st M (some (.int r)) M := by
  have hk0 := ck_X8_brings h
  unfold f_X8_brings at h
  have h := ip hk0 h
  refine ok_of rfl rfl (Nat.le_of_ble_eq_true rfl) ?_
  intro p e s m args below meth c ls C hl hR hS
  have hl : lv_has ls 3 [(0, .ref (B + x0)), (1, .int x1), (2, .int x2)] := hl
  have hx := C.1
  have hb := C.2.1
  refine lv_aload_n hx hb dX8_brings_0 rfl (lv_at hl 0 rfl) ?_
  refine lv_iload_n hx hb dX8_brings_1 rfl (lv_at hl 1 rfl) ?_
  obtain ⟨v2, zqe1, h⟩ := ob h
  refine rc_V C hR hS cf_X8_isSigher cv_X8_isSigher lk1153 (ok_X8_isSigher zqe1) (ck_X8_isSigher zqe1) ⟨Nat.le_of_ble_eq_true rfl, Nat.le_of_ble_eq_true rfl⟩ ⟨Nat.zero_le _, Nat.zero_le _⟩ rfl rfl hl.1 (Nat.le_of_ble_eq_true rfl) dX8_brings_2 (rc_k1 (fun H locs hR hS => ?_))
  refine lv_if_eq (tgt := 25) hx hb dX8_brings_5 (by decide) (fun c => ?_) (fun c => ?_)
  · have h := ip c h
    refine lv_iconst (v := (-1)) hx hb dX8_brings_25 (by decide) ?_
    cases h
    exact rr_I C hR hS dX8_brings_26
  · have h := iq c h
    refine lv_aload_n hx hb dX8_brings_8 rfl (lv_at hl 0 rfl) ?_
    refine lv_iload_n hx hb dX8_brings_9 rfl (lv_at hl 2 rfl) ?_
    obtain ⟨v4, zqe3, h⟩ := ob h
    refine rc_V C hR hS cf_X8_isOrder cv_X8_isOrder lk1186 (ok_X8_isOrder zqe3) (ck_X8_isOrder zqe3) ⟨Nat.le_of_ble_eq_true rfl, Nat.le_of_ble_eq_true rfl⟩ ⟨Nat.zero_le _, Nat.zero_le _⟩ rfl rfl hl.1 (Nat.le_of_ble_eq_true rfl) dX8_brings_10 (rc_k1 (fun H locs hR hS => ?_))
    refine lv_if_eq (tgt := 25) hx hb dX8_brings_13 (by decide) (fun c => ?_) (fun c => ?_)
    · have h := ip c h
      refine lv_iconst (v := (-1)) hx hb dX8_brings_25 (by decide) ?_
      cases h
      exact rr_I C hR hS dX8_brings_26
    · have h := iq c h
      refine lv_aload_n hx hb dX8_brings_16 rfl (lv_at hl 0 rfl) ?_
      refine lv_iload_n hx hb dX8_brings_17 rfl (lv_at hl 1 rfl) ?_
      refine lv_iload_n hx hb dX8_brings_18 rfl (lv_at hl 2 rfl) ?_
      obtain ⟨v6, zqe5, h⟩ := ob h
      refine rc_V C hR hS cf_X8_brought cv_X8_brought lk1206 (ok_X8_brought zqe5) (ck_X8_brought zqe5) ⟨Nat.le_of_ble_eq_true rfl, Nat.le_of_ble_eq_true rfl⟩ ⟨Nat.zero_le _, Nat.zero_le _⟩ rfl rfl hl.1 (Nat.le_of_ble_eq_true rfl) dX8_brings_19 (rc_k1 (fun H locs hR hS => ?_))
      refine lv_goto (tgt := 26) hx hb dX8_brings_22 (by decide) ?_
      cases h
      exact rr_I C hR hS dX8_brings_26
set_option maxHeartbeats 4000000 in
set_option maxRecDepth 100000 in
theorem w_X8_bits_4    {M : Mem} {r : Int32} (C : Cx p s m args meth c RX8 cX8_bits 3 (some .int) D B ca st)   : ∀ (n : Nat) {x0 : Int32} {x1 : Int32} {x2 : Int32}, f_X8_bits_4  n x0 x1 x2 = some r → ∀ {H : Heap} {locs : List Loc} {ls : Array Slot}, RH D B ca M H → va_S (AA B) s.heap H locs → lv_has ls 3 [(0, .int x0), (1, .int x1), (2, .int x2)] → W p l e (rmD 0) s m args below meth c H locs 0 0 (MQ below (Qp D B ca st (some (.int r)) M) args s 0 0 (AA B)) (F0 m 4 ls []) := by
  have hx := C.1
  have hb := C.2.1
  intro n
  induction n with
  | zero => intro x0 x1 x2 h; simp [f_X8_bits_4] at h
  | succ n ih =>
    intro x0 x1 x2 h H locs ls hR hS hl
    rw [f_X8_bits_4] at h
    refine lv_iload_n hx hb dX8_bits_4 rfl (lv_at hl 2 rfl) ?_
    refine lv_bipush (v := 6) hx hb dX8_bits_5 (by decide) ?_
    refine lv_icmp_ge (tgt := 24) hx hb dX8_bits_7 (by decide) (fun c => ?_) (fun c => ?_)
    · have h := ip c h
      refine lv_iload_n hx hb dX8_bits_24 rfl (lv_at hl 1 rfl) ?_
      cases h
      exact rr_I C hR hS dX8_bits_25
    · have h := iq c h
      refine lv_iload_n hx hb dX8_bits_10 rfl (lv_at hl 1 rfl) ?_
      refine lv_iload_n hx hb dX8_bits_11 rfl (lv_at hl 0 rfl) ?_
      refine lv_iload_n hx hb dX8_bits_12 rfl (lv_at hl 2 rfl) ?_
      refine lv_ishr hx hb dX8_bits_13 ?_
      refine lv_iconst (v := 1) hx hb dX8_bits_14 (by decide) ?_
      refine lv_iand hx hb dX8_bits_15 ?_
      refine lv_iadd hx hb dX8_bits_16 ?_
      refine lv_istore_n (lv' := [(1, .int (x1 + ((x0 >>> (x2 &&& 31)) &&& 1))), (0, .int x0), (2, .int x2)]) hx hb dX8_bits_17 rfl hl (by decide) rfl (fun ls hl => ?_)
      refine lv_iinc (v := (x2 + 1)) (lv' := [(2, .int (x2 + 1)), (1, .int (x1 + ((x0 >>> (x2 &&& 31)) &&& 1))), (0, .int x0)]) hx hb dX8_bits_18 hl (k := 2) rfl rfl (by decide) rfl (fun ls hl => ?_)
      refine lv_goto (tgt := 4) hx hb dX8_bits_21 (by decide) ?_
      exact ih h hR hS (lv_sub hl [2, 1, 0] rfl)
set_option maxHeartbeats 4000000 in
set_option maxRecDepth 100000 in
theorem ok_X8_bits  {x0 : Int32}  {M : Mem} {r : Int32}  (h : f_X8_bits  x0 = some r) : Ok l yX8_bits cX8_bits 3 (some .int) 0 [.int x0] D B ca st M (some (.int r)) M := by
  unfold f_X8_bits at h
  refine ok_of rfl rfl (Nat.le_of_ble_eq_true rfl) ?_
  intro p e s m args below meth c ls C hl hR hS
  have hl : lv_has ls 3 [(0, .int x0)] := hl
  have hx := C.1
  have hb := C.2.1
  refine lv_iconst (v := 0) hx hb dX8_bits_0 (by decide) ?_
  refine lv_istore_n (lv' := [(1, .int 0), (0, .int x0)]) hx hb dX8_bits_1 rfl hl (by decide) rfl (fun ls hl => ?_)
  refine lv_iconst (v := 0) hx hb dX8_bits_2 (by decide) ?_
  refine lv_istore_n (lv' := [(2, .int 0), (1, .int 0), (0, .int x0)]) hx hb dX8_bits_3 rfl hl (by decide) rfl (fun ls hl => ?_)
  exact w_X8_bits_4 C  FU h hR hS (lv_sub hl [2, 1, 0] rfl)
set_option maxHeartbeats 4000000 in
set_option maxRecDepth 100000 in
theorem ok_X8_apart (x0 : Int32) (x1 : Int32) {M : Mem} : Ok l yX8_apart cX8_apart 2 (some .int) 0 [.int x0, .int x1] D B ca st M (some (.int (f_X8_apart  x0 x1))) M := by
  obtain ⟨r, h⟩ : ∃ r, f_X8_apart  x0 x1 = r := ⟨_, rfl⟩
  rw [h]
  unfold f_X8_apart at h
  refine ok_of rfl rfl (Nat.le_of_ble_eq_true rfl) ?_
  intro p e s m args below meth c ls C hl hR hS
  have hl : lv_has ls 2 [(0, .int x0), (1, .int x1)] := hl
  have hx := C.1
  have hb := C.2.1
  refine lv_iload_n hx hb dX8_apart_0 rfl (lv_at hl 0 rfl) ?_
  refine lv_iload_n hx hb dX8_apart_1 rfl (lv_at hl 1 rfl) ?_
  refine lv_icmp_ge (tgt := 11) hx hb dX8_apart_2 (by decide) (fun c => ?_) (fun c => ?_)
  · have h := ip c h
    refine lv_iload_n hx hb dX8_apart_11 rfl (lv_at hl 0 rfl) ?_
    refine lv_iload_n hx hb dX8_apart_12 rfl (lv_at hl 1 rfl) ?_
    refine lv_isub hx hb dX8_apart_13 ?_
    subst h
    exact rr_I C hR hS dX8_apart_14
  · have h := iq c h
    refine lv_iload_n hx hb dX8_apart_5 rfl (lv_at hl 1 rfl) ?_
    refine lv_iload_n hx hb dX8_apart_6 rfl (lv_at hl 0 rfl) ?_
    refine lv_isub hx hb dX8_apart_7 ?_
    refine lv_goto (tgt := 14) hx hb dX8_apart_8 (by decide) ?_
    subst h
    exact rr_I C hR hS dX8_apart_14
theorem ck_X8_areInTune  {x0 : Nat} {x1 : Int32} {x2 : Int32} {x3 : Int32} {M : Mem} {r : Int32} (h : f_X8_areInTune  x0 x1 x2 x3 M = some r) : kd M x0 = 18 := by
  unfold f_X8_areInTune at h
  exact ck h
set_option maxHeartbeats 4000000 in
set_option maxRecDepth 100000 in
theorem ok_X8_areInTune  {x0 : Nat} {x1 : Int32} {x2 : Int32} {x3 : Int32}  {M : Mem} {r : Int32}  (h : f_X8_areInTune  x0 x1 x2 x3 M = some r) : Ok l yX8_areInTune cX8_areInTune 4 (some .boolean) 1 [.ref (B + x0), .int x1, .int x2, .int x3] D B ca st M (some (.int r)) M := by
  have hk0 := ck_X8_areInTune h
  unfold f_X8_areInTune at h
  have h := ip hk0 h
  refine ok_of rfl rfl (Nat.le_of_ble_eq_true rfl) ?_
  intro p e s m args below meth c ls C hl hR hS
  have hl : lv_has ls 4 [(0, .ref (B + x0)), (1, .int x1), (2, .int x2), (3, .int x3)] := hl
  have hx := C.1
  have hb := C.2.1
  refine lv_aload_n hx hb dX8_areInTune_0 rfl (lv_at hl 0 rfl) ?_
  obtain ⟨v1, zqe2, h⟩ := ob h
  refine gf951 C hR zqe2 dX8_areInTune_1 ?_
  refine lv_iload_n hx hb dX8_areInTune_4 rfl (lv_at hl 1 rfl) ?_
  obtain ⟨v3, zqe4, h⟩ := ob h
  refine ra_I C hR zqe4 dX8_areInTune_5 ?_
  refine lv_aload_n hx hb dX8_areInTune_6 rfl (lv_at hl 0 rfl) ?_
  obtain ⟨v5, zqe6, h⟩ := ob h
  refine gf951 C hR zqe6 dX8_areInTune_7 ?_
  refine lv_iload_n hx hb dX8_areInTune_10 rfl (lv_at hl 2 rfl) ?_
  obtain ⟨v7, zqe8, h⟩ := ob h
  refine ra_I C hR zqe8 dX8_areInTune_11 ?_
  refine rc_S C hR hS cf_X8_apart cs_X8_apart lk1221 (ok_X8_apart v3 v7) ⟨Nat.le_of_ble_eq_true rfl, Nat.le_of_ble_eq_true rfl⟩ ⟨Nat.zero_le _, Nat.zero_le _⟩ rfl rfl hl.1 (Nat.le_of_ble_eq_true rfl) dX8_areInTune_12 (rc_k1 (fun H locs hR hS => ?_))
  refine lv_iload_n hx hb dX8_areInTune_15 rfl (lv_at hl 3 rfl) ?_
  refine lv_icmp_gt (tgt := 23) hx hb dX8_areInTune_16 (by decide) (fun c => ?_) (fun c => ?_)
  · have h := ip c h
    refine lv_iconst (v := 0) hx hb dX8_areInTune_23 (by decide) ?_
    cases h
    exact rr_Z (v := 0) C hR hS (by decide) dX8_areInTune_24
  · have h := iq c h
    refine lv_iconst (v := 1) hx hb dX8_areInTune_19 (by decide) ?_
    refine lv_goto (tgt := 24) hx hb dX8_areInTune_20 (by decide) ?_
    cases h
    exact rr_Z (v := 1) C hR hS (by decide) dX8_areInTune_24
set_option maxHeartbeats 4000000 in
set_option maxRecDepth 100000 in
theorem ok_X8_has (x0 : Int32) (x1 : Int32) {M : Mem} : Ok l yX8_has cX8_has 2 (some .boolean) 0 [.int x0, .int x1] D B ca st M (some (.int (f_X8_has  x0 x1))) M := by
  obtain ⟨r, h⟩ : ∃ r, f_X8_has  x0 x1 = r := ⟨_, rfl⟩
  rw [h]
  unfold f_X8_has at h
  refine ok_of rfl rfl (Nat.le_of_ble_eq_true rfl) ?_
  intro p e s m args below meth c ls C hl hR hS
  have hl : lv_has ls 2 [(0, .int x0), (1, .int x1)] := hl
  have hx := C.1
  have hb := C.2.1
  refine lv_iload_n hx hb dX8_has_0 rfl (lv_at hl 0 rfl) ?_
  refine lv_iload_n hx hb dX8_has_1 rfl (lv_at hl 1 rfl) ?_
  refine lv_ishr hx hb dX8_has_2 ?_
  refine lv_iconst (v := 1) hx hb dX8_has_3 (by decide) ?_
  refine lv_iand hx hb dX8_has_4 ?_
  refine lv_iconst (v := 1) hx hb dX8_has_5 (by decide) ?_
  refine lv_icmp_ne (tgt := 13) hx hb dX8_has_6 (by decide) (fun c => ?_) (fun c => ?_)
  · have h := iq c h
    refine lv_iconst (v := 0) hx hb dX8_has_13 (by decide) ?_
    subst h
    exact rr_Z (v := 0) C hR hS (by decide) dX8_has_14
  · have h := ip c h
    refine lv_iconst (v := 1) hx hb dX8_has_9 (by decide) ?_
    refine lv_goto (tgt := 14) hx hb dX8_has_10 (by decide) ?_
    subst h
    exact rr_Z (v := 1) C hR hS (by decide) dX8_has_14
set_option maxHeartbeats 4000000 in
set_option maxRecDepth 100000 in
theorem w_X8_isChoir_17  {k5 : Nat → Int32 → Int32 → Int32 → Int32 → Mem → Option Int32}  {r : Int32} (C : Cx p s m args meth c RX8 cX8_isChoir 6 (some .boolean) D B ca st)  (hk5 : ∀ {x0 : Nat} {x1 : Int32} {x2 : Int32} {x3 : Int32} {x4 : Int32} {M : Mem}, k5 x0 x1 x2 x3 x4 M = some r → ∀ {H : Heap} {locs : List Loc} {ls : Array Slot}, RH D B ca M H → va_S (AA B) s.heap H locs → lv_has ls 6 [(0, .ref (B + x0)), (1, .int x1), (2, .int x2), (3, .int x3), (4, .int x4)] → W p l e (rmD 2) s m args below meth c H locs 0 0 (MQ below (Qp D B ca st (some (.int r)) M) args s 0 0 (AA B)) (F0 m 5 ls [])) : ∀ (n : Nat) {x0 : Nat} {x1 : Int32} {x2 : Int32} {x3 : Int32} {x4 : Int32} {x5 : Int32} {M : Mem}, f_X8_isChoir_17 k5 n x0 x1 x2 x3 x4 x5 M = some r → ∀ {H : Heap} {locs : List Loc} {ls : Array Slot}, RH D B ca M H → va_S (AA B) s.heap H locs → lv_has ls 6 [(0, .ref (B + x0)), (1, .int x1), (2, .int x2), (3, .int x3), (4, .int x4), (5, .int x5)] → W p l e (rmD 2) s m args below meth c H locs 0 0 (MQ below (Qp D B ca st (some (.int r)) M) args s 0 0 (AA B)) (F0 m 17 ls []) := by
  have hx := C.1
  have hb := C.2.1
  intro n
  induction n with
  | zero => intro x0 x1 x2 x3 x4 x5 M h; simp [f_X8_isChoir_17] at h
  | succ n ih =>
    intro x0 x1 x2 x3 x4 x5 M h H locs ls hR hS hl
    rw [f_X8_isChoir_17] at h
    refine lv_iload hx hb dX8_isChoir_17 (lv_at hl 5 rfl) ?_
    refine lv_iload hx hb dX8_isChoir_19 (lv_at hl 4 rfl) ?_
    refine lv_icmp_ge (tgt := 70) hx hb dX8_isChoir_21 (by decide) (fun c => ?_) (fun c => ?_)
    · have h := ip c h
      refine lv_iinc (v := (x4 + 1)) (lv' := [(4, .int (x4 + 1)), (0, .ref (B + x0)), (1, .int x1), (2, .int x2), (3, .int x3), (5, .int x5)]) hx hb dX8_isChoir_70 hl (k := 4) rfl rfl (by decide) rfl (fun ls hl => ?_)
      refine lv_goto (tgt := 5) hx hb dX8_isChoir_73 (by decide) ?_
      exact hk5 h hR hS (lv_sub hl [1, 2, 3, 4, 0] rfl)
    · have h := iq c h
      refine lv_iload_n hx hb dX8_isChoir_24 rfl (lv_at hl 3 rfl) ?_
      refine lv_if_eq (tgt := 62) hx hb dX8_isChoir_25 (by decide) (fun c => ?_) (fun c => ?_)
      · have h := ip c h
        refine lv_iconst (v := 0) hx hb dX8_isChoir_62 (by decide) ?_
        refine lv_istore_n (lv' := [(3, .int 0), (0, .ref (B + x0)), (1, .int x1), (2, .int x2), (4, .int x4), (5, .int x5)]) hx hb dX8_isChoir_63 rfl hl (by decide) rfl (fun ls hl => ?_)
        refine lv_iinc (v := (x5 + 1)) (lv' := [(5, .int (x5 + 1)), (3, .int 0), (0, .ref (B + x0)), (1, .int x1), (2, .int x2), (4, .int x4)]) hx hb dX8_isChoir_64 hl (k := 5) rfl rfl (by decide) rfl (fun ls hl => ?_)
        refine lv_goto (tgt := 17) hx hb dX8_isChoir_67 (by decide) ?_
        exact ih h hR hS (lv_sub hl [2, 3, 4, 1, 5, 0] rfl)
      · have h := iq c h
        refine lv_iload_n hx hb dX8_isChoir_28 rfl (lv_at hl 1 rfl) ?_
        refine lv_iload hx hb dX8_isChoir_29 (lv_at hl 4 rfl) ?_
        refine rc_S C hR hS cf_X8_has cs_X8_has lk1166 (ok_X8_has x1 x4) ⟨Nat.le_of_ble_eq_true rfl, Nat.le_of_ble_eq_true rfl⟩ ⟨Nat.zero_le _, Nat.zero_le _⟩ rfl rfl hl.1 (Nat.le_of_ble_eq_true rfl) dX8_isChoir_31 (rc_k1 (fun H locs hR hS => ?_))
        refine lv_if_eq (tgt := 58) hx hb dX8_isChoir_34 (by decide) (fun c => ?_) (fun c => ?_)
        · have h := ip c h
          refine lv_iconst (v := 1) hx hb dX8_isChoir_58 (by decide) ?_
          refine lv_goto (tgt := 63) hx hb dX8_isChoir_59 (by decide) ?_
          refine lv_istore_n (lv' := [(3, .int 1), (0, .ref (B + x0)), (1, .int x1), (2, .int x2), (4, .int x4), (5, .int x5)]) hx hb dX8_isChoir_63 rfl hl (by decide) rfl (fun ls hl => ?_)
          refine lv_iinc (v := (x5 + 1)) (lv' := [(5, .int (x5 + 1)), (3, .int 1), (0, .ref (B + x0)), (1, .int x1), (2, .int x2), (4, .int x4)]) hx hb dX8_isChoir_64 hl (k := 5) rfl rfl (by decide) rfl (fun ls hl => ?_)
          refine lv_goto (tgt := 17) hx hb dX8_isChoir_67 (by decide) ?_
          exact ih h hR hS (lv_sub hl [2, 3, 4, 1, 5, 0] rfl)
        · have h := iq c h
          refine lv_iload_n hx hb dX8_isChoir_37 rfl (lv_at hl 1 rfl) ?_
          refine lv_iload hx hb dX8_isChoir_38 (lv_at hl 5 rfl) ?_
          refine rc_S C hR hS cf_X8_has cs_X8_has lk1166 (ok_X8_has x1 x5) ⟨Nat.le_of_ble_eq_true rfl, Nat.le_of_ble_eq_true rfl⟩ ⟨Nat.zero_le _, Nat.zero_le _⟩ rfl rfl hl.1 (Nat.le_of_ble_eq_true rfl) dX8_isChoir_40 (rc_k1 (fun H locs hR hS => ?_))
          refine lv_if_eq (tgt := 58) hx hb dX8_isChoir_43 (by decide) (fun c => ?_) (fun c => ?_)
          · have h := ip c h
            refine lv_iconst (v := 1) hx hb dX8_isChoir_58 (by decide) ?_
            refine lv_goto (tgt := 63) hx hb dX8_isChoir_59 (by decide) ?_
            refine lv_istore_n (lv' := [(3, .int 1), (0, .ref (B + x0)), (1, .int x1), (2, .int x2), (4, .int x4), (5, .int x5)]) hx hb dX8_isChoir_63 rfl hl (by decide) rfl (fun ls hl => ?_)
            refine lv_iinc (v := (x5 + 1)) (lv' := [(5, .int (x5 + 1)), (3, .int 1), (0, .ref (B + x0)), (1, .int x1), (2, .int x2), (4, .int x4)]) hx hb dX8_isChoir_64 hl (k := 5) rfl rfl (by decide) rfl (fun ls hl => ?_)
            refine lv_goto (tgt := 17) hx hb dX8_isChoir_67 (by decide) ?_
            exact ih h hR hS (lv_sub hl [2, 3, 4, 1, 5, 0] rfl)
          · have h := iq c h
            refine lv_aload_n hx hb dX8_isChoir_46 rfl (lv_at hl 0 rfl) ?_
            refine lv_iload hx hb dX8_isChoir_47 (lv_at hl 4 rfl) ?_
            refine lv_iload hx hb dX8_isChoir_49 (lv_at hl 5 rfl) ?_
            refine lv_iload_n hx hb dX8_isChoir_51 rfl (lv_at hl 2 rfl) ?_
            obtain ⟨v8, zqe7, h⟩ := ob h
            refine rc_V C hR hS cf_X8_areInTune cv_X8_areInTune lk1345 (ok_X8_areInTune zqe7) (ck_X8_areInTune zqe7) ⟨Nat.le_of_ble_eq_true rfl, Nat.le_of_ble_eq_true rfl⟩ ⟨Nat.zero_le _, Nat.zero_le _⟩ rfl rfl hl.1 (Nat.le_of_ble_eq_true rfl) dX8_isChoir_52 (rc_k1 (fun H locs hR hS => ?_))
            refine lv_if_eq (tgt := 62) hx hb dX8_isChoir_55 (by decide) (fun c => ?_) (fun c => ?_)
            · have h := ip c h
              refine lv_iconst (v := 0) hx hb dX8_isChoir_62 (by decide) ?_
              refine lv_istore_n (lv' := [(3, .int 0), (0, .ref (B + x0)), (1, .int x1), (2, .int x2), (4, .int x4), (5, .int x5)]) hx hb dX8_isChoir_63 rfl hl (by decide) rfl (fun ls hl => ?_)
              refine lv_iinc (v := (x5 + 1)) (lv' := [(5, .int (x5 + 1)), (3, .int 0), (0, .ref (B + x0)), (1, .int x1), (2, .int x2), (4, .int x4)]) hx hb dX8_isChoir_64 hl (k := 5) rfl rfl (by decide) rfl (fun ls hl => ?_)
              refine lv_goto (tgt := 17) hx hb dX8_isChoir_67 (by decide) ?_
              exact ih h hR hS (lv_sub hl [2, 3, 4, 1, 5, 0] rfl)
            · have h := iq c h
              refine lv_iconst (v := 1) hx hb dX8_isChoir_58 (by decide) ?_
              refine lv_goto (tgt := 63) hx hb dX8_isChoir_59 (by decide) ?_
              refine lv_istore_n (lv' := [(3, .int 1), (0, .ref (B + x0)), (1, .int x1), (2, .int x2), (4, .int x4), (5, .int x5)]) hx hb dX8_isChoir_63 rfl hl (by decide) rfl (fun ls hl => ?_)
              refine lv_iinc (v := (x5 + 1)) (lv' := [(5, .int (x5 + 1)), (3, .int 1), (0, .ref (B + x0)), (1, .int x1), (2, .int x2), (4, .int x4)]) hx hb dX8_isChoir_64 hl (k := 5) rfl rfl (by decide) rfl (fun ls hl => ?_)
              refine lv_goto (tgt := 17) hx hb dX8_isChoir_67 (by decide) ?_
              exact ih h hR hS (lv_sub hl [2, 3, 4, 1, 5, 0] rfl)
set_option maxHeartbeats 4000000 in
set_option maxRecDepth 100000 in
theorem w_X8_isChoir_5    {r : Int32} (C : Cx p s m args meth c RX8 cX8_isChoir 6 (some .boolean) D B ca st)   : ∀ (n : Nat) {x0 : Nat} {x1 : Int32} {x2 : Int32} {x3 : Int32} {x4 : Int32} {M : Mem}, f_X8_isChoir_5  n x0 x1 x2 x3 x4 M = some r → ∀ {H : Heap} {locs : List Loc} {ls : Array Slot}, RH D B ca M H → va_S (AA B) s.heap H locs → lv_has ls 6 [(0, .ref (B + x0)), (1, .int x1), (2, .int x2), (3, .int x3), (4, .int x4)] → W p l e (rmD 2) s m args below meth c H locs 0 0 (MQ below (Qp D B ca st (some (.int r)) M) args s 0 0 (AA B)) (F0 m 5 ls []) := by
  have hx := C.1
  have hb := C.2.1
  intro n
  induction n with
  | zero => intro x0 x1 x2 x3 x4 M h; simp [f_X8_isChoir_5] at h
  | succ n ih =>
    intro x0 x1 x2 x3 x4 M h H locs ls hR hS hl
    rw [f_X8_isChoir_5] at h
    refine lv_iload hx hb dX8_isChoir_5 (lv_at hl 4 rfl) ?_
    refine lv_aload_n hx hb dX8_isChoir_7 rfl (lv_at hl 0 rfl) ?_
    obtain ⟨v1, zqe2, h⟩ := ob h
    refine gf949 C hR zqe2 dX8_isChoir_8 ?_
    refine lv_icmp_ge (tgt := 76) hx hb dX8_isChoir_11 (by decide) (fun c => ?_) (fun c => ?_)
    · have h := ip c h
      refine lv_iload_n hx hb dX8_isChoir_76 rfl (lv_at hl 3 rfl) ?_
      obtain ⟨zqb3, zqe4, h⟩ := ob h
      cases h
      exact rr_Z C hR hS (bz_self zqe4) dX8_isChoir_77
    · have h := iq c h
      refine lv_iconst (v := 0) hx hb dX8_isChoir_14 (by decide) ?_
      refine lv_istore (lv' := [(5, .int 0), (0, .ref (B + x0)), (1, .int x1), (2, .int x2), (3, .int x3), (4, .int x4)]) hx hb dX8_isChoir_15 hl (by decide) rfl (fun ls hl => ?_)
      exact w_X8_isChoir_17 C (hk5 := @ih) FU h hR hS (lv_sub hl [1, 2, 3, 4, 5, 0] rfl)
theorem ck_X8_isChoir  {x0 : Nat} {x1 : Int32} {x2 : Int32} {M : Mem} {r : Int32} (h : f_X8_isChoir  x0 x1 x2 M = some r) : kd M x0 = 18 := by
  unfold f_X8_isChoir at h
  exact ck h
set_option maxHeartbeats 4000000 in
set_option maxRecDepth 100000 in
theorem ok_X8_isChoir  {x0 : Nat} {x1 : Int32} {x2 : Int32}  {M : Mem} {r : Int32}  (h : f_X8_isChoir  x0 x1 x2 M = some r) : Ok l yX8_isChoir cX8_isChoir 6 (some .boolean) 2 [.ref (B + x0), .int x1, .int x2] D B ca st M (some (.int r)) M := by
  have hk0 := ck_X8_isChoir h
  unfold f_X8_isChoir at h
  have h := ip hk0 h
  refine ok_of rfl rfl (Nat.le_of_ble_eq_true rfl) ?_
  intro p e s m args below meth c ls C hl hR hS
  have hl : lv_has ls 6 [(0, .ref (B + x0)), (1, .int x1), (2, .int x2)] := hl
  have hx := C.1
  have hb := C.2.1
  refine lv_iconst (v := 1) hx hb dX8_isChoir_0 (by decide) ?_
  refine lv_istore_n (lv' := [(3, .int 1), (0, .ref (B + x0)), (1, .int x1), (2, .int x2)]) hx hb dX8_isChoir_1 rfl hl (by decide) rfl (fun ls hl => ?_)
  refine lv_iconst (v := 0) hx hb dX8_isChoir_2 (by decide) ?_
  refine lv_istore (lv' := [(4, .int 0), (3, .int 1), (0, .ref (B + x0)), (1, .int x1), (2, .int x2)]) hx hb dX8_isChoir_3 hl (by decide) rfl (fun ls hl => ?_)
  exact w_X8_isChoir_5 C  FU h hR hS (lv_sub hl [2, 3, 4, 1, 0] rfl)
set_option maxHeartbeats 4000000 in
set_option maxRecDepth 100000 in
theorem w_X8_choir_28    {r : Int32 × Mem} (C : Cx p s m args meth c RX8 cX8_choir 4 (some .int) D B ca st)   : ∀ (n : Nat) {x0 : Nat} {x1 : Int32} {x2 : Int32} {x3 : Int32} {M : Mem}, f_X8_choir_28  n x0 x1 x2 x3 M = some r → ∀ {H : Heap} {locs : List Loc} {ls : Array Slot}, RH D B ca M H → va_S (AA B) s.heap H locs → lv_has ls 4 [(0, .ref (B + x0)), (1, .int x1), (2, .int x2), (3, .int x3)] → W p l e (rmD 3) s m args below meth c H locs 0 0 (MQ below (Qp D B ca st (some (.int r.1)) r.2) args s 0 0 (AA B)) (F0 m 28 ls []) := by
  have hx := C.1
  have hb := C.2.1
  intro n
  induction n with
  | zero => intro x0 x1 x2 x3 M h; simp [f_X8_choir_28] at h
  | succ n ih =>
    intro x0 x1 x2 x3 M h H locs ls hR hS hl
    rw [f_X8_choir_28] at h
    refine lv_iload_n hx hb dX8_choir_28 rfl (lv_at hl 3 rfl) ?_
    refine lv_iconst (v := 1) hx hb dX8_choir_29 (by decide) ?_
    refine lv_aload_n hx hb dX8_choir_30 rfl (lv_at hl 0 rfl) ?_
    obtain ⟨v4, zqe5, h⟩ := ob h
    refine gf949 C hR zqe5 dX8_choir_31 ?_
    refine lv_ishl hx hb dX8_choir_34 ?_
    refine lv_icmp_ge (tgt := 70) hx hb dX8_choir_35 (by decide) (fun c => ?_) (fun c => ?_)
    · have h := ip c h
      refine lv_aload_n hx hb dX8_choir_70 rfl (lv_at hl 0 rfl) ?_
      refine lv_iload_n hx hb dX8_choir_71 rfl (lv_at hl 2 rfl) ?_
      obtain ⟨M6, zqe7, h⟩ := ob h
      refine pf960 C hR hS zqe7 dX8_choir_72 (fun H locs hR hS => ?_)
      refine lv_iload_n hx hb dX8_choir_75 rfl (lv_at hl 2 rfl) ?_
      obtain ⟨v9, zqe8, h⟩ := ob h
      refine rc_S C hR hS cf_X8_bits cs_X8_bits lk1285 (ok_X8_bits zqe8) ⟨Nat.le_of_ble_eq_true rfl, Nat.le_of_ble_eq_true rfl⟩ ⟨Nat.zero_le _, Nat.zero_le _⟩ rfl rfl hl.1 (Nat.le_of_ble_eq_true rfl) dX8_choir_76 (rc_k1 (fun H locs hR hS => ?_))
      cases h
      exact rr_I C hR hS dX8_choir_79
    · have h := iq c h
      refine lv_iload_n hx hb dX8_choir_38 rfl (lv_at hl 3 rfl) ?_
      obtain ⟨v11, zqe10, h⟩ := ob h
      refine rc_S C hR hS cf_X8_bits cs_X8_bits lk1285 (ok_X8_bits zqe10) ⟨Nat.le_of_ble_eq_true rfl, Nat.le_of_ble_eq_true rfl⟩ ⟨Nat.zero_le _, Nat.zero_le _⟩ rfl rfl hl.1 (Nat.le_of_ble_eq_true rfl) dX8_choir_39 (rc_k1 (fun H locs hR hS => ?_))
      refine lv_iload_n hx hb dX8_choir_42 rfl (lv_at hl 2 rfl) ?_
      obtain ⟨v13, zqe12, h⟩ := ob h
      refine rc_S C hR hS cf_X8_bits cs_X8_bits lk1285 (ok_X8_bits zqe12) ⟨Nat.le_of_ble_eq_true rfl, Nat.le_of_ble_eq_true rfl⟩ ⟨Nat.zero_le _, Nat.zero_le _⟩ rfl rfl hl.1 (Nat.le_of_ble_eq_true rfl) dX8_choir_43 (rc_k1 (fun H locs hR hS => ?_))
      refine lv_icmp_le (tgt := 62) hx hb dX8_choir_46 (by decide) (fun c => ?_) (fun c => ?_)
      · have h := ip c h
        refine lv_iload_n hx hb dX8_choir_62 rfl (lv_at hl 2 rfl) ?_
        refine lv_istore_n (lv' := [(2, .int x2), (0, .ref (B + x0)), (1, .int x1), (3, .int x3)]) hx hb dX8_choir_63 rfl hl (by decide) rfl (fun ls hl => ?_)
        refine lv_iinc (v := (x3 + 1)) (lv' := [(3, .int (x3 + 1)), (2, .int x2), (0, .ref (B + x0)), (1, .int x1)]) hx hb dX8_choir_64 hl (k := 3) rfl rfl (by decide) rfl (fun ls hl => ?_)
        refine lv_goto (tgt := 28) hx hb dX8_choir_67 (by decide) ?_
        exact ih h hR hS (lv_sub hl [2, 3, 1, 0] rfl)
      · have h := iq c h
        refine lv_aload_n hx hb dX8_choir_49 rfl (lv_at hl 0 rfl) ?_
        refine lv_iload_n hx hb dX8_choir_50 rfl (lv_at hl 3 rfl) ?_
        refine lv_iload_n hx hb dX8_choir_51 rfl (lv_at hl 1 rfl) ?_
        obtain ⟨v15, zqe14, h⟩ := ob h
        refine rc_V C hR hS cf_X8_isChoir cv_X8_isChoir lk1353 (ok_X8_isChoir zqe14) (ck_X8_isChoir zqe14) ⟨Nat.le_of_ble_eq_true rfl, Nat.le_of_ble_eq_true rfl⟩ ⟨Nat.zero_le _, Nat.zero_le _⟩ rfl rfl hl.1 (Nat.le_of_ble_eq_true rfl) dX8_choir_52 (rc_k1 (fun H locs hR hS => ?_))
        refine lv_if_eq (tgt := 62) hx hb dX8_choir_55 (by decide) (fun c => ?_) (fun c => ?_)
        · have h := ip c h
          refine lv_iload_n hx hb dX8_choir_62 rfl (lv_at hl 2 rfl) ?_
          refine lv_istore_n (lv' := [(2, .int x2), (0, .ref (B + x0)), (1, .int x1), (3, .int x3)]) hx hb dX8_choir_63 rfl hl (by decide) rfl (fun ls hl => ?_)
          refine lv_iinc (v := (x3 + 1)) (lv' := [(3, .int (x3 + 1)), (2, .int x2), (0, .ref (B + x0)), (1, .int x1)]) hx hb dX8_choir_64 hl (k := 3) rfl rfl (by decide) rfl (fun ls hl => ?_)
          refine lv_goto (tgt := 28) hx hb dX8_choir_67 (by decide) ?_
          exact ih h hR hS (lv_sub hl [2, 3, 1, 0] rfl)
        · have h := iq c h
          refine lv_iload_n hx hb dX8_choir_58 rfl (lv_at hl 3 rfl) ?_
          refine lv_goto (tgt := 63) hx hb dX8_choir_59 (by decide) ?_
          refine lv_istore_n (lv' := [(2, .int x3), (0, .ref (B + x0)), (1, .int x1), (3, .int x3)]) hx hb dX8_choir_63 rfl hl (by decide) rfl (fun ls hl => ?_)
          refine lv_iinc (v := (x3 + 1)) (lv' := [(3, .int (x3 + 1)), (2, .int x3), (0, .ref (B + x0)), (1, .int x1)]) hx hb dX8_choir_64 hl (k := 3) rfl rfl (by decide) rfl (fun ls hl => ?_)
          refine lv_goto (tgt := 28) hx hb dX8_choir_67 (by decide) ?_
          exact ih h hR hS (lv_sub hl [2, 3, 1, 0] rfl)
theorem ck_X8_choir  {x0 : Nat} {x1 : Int32} {M : Mem} {r : Int32 × Mem} (h : f_X8_choir  x0 x1 M = some r) : kd M x0 = 18 := by
  unfold f_X8_choir at h
  exact ck h
set_option maxHeartbeats 4000000 in
set_option maxRecDepth 100000 in
theorem ok_X8_choir  {x0 : Nat} {x1 : Int32}  {M : Mem} {r : Int32 × Mem}  (h : f_X8_choir  x0 x1 M = some r) : Ok l yX8_choir cX8_choir 4 (some .int) 3 [.ref (B + x0), .int x1] D B ca st M (some (.int r.1)) r.2 := by
  have hk0 := ck_X8_choir h
  unfold f_X8_choir at h
  have h := ip hk0 h
  refine ok_of rfl rfl (Nat.le_of_ble_eq_true rfl) ?_
  intro p e s m args below meth c ls C hl hR hS
  have hl : lv_has ls 4 [(0, .ref (B + x0)), (1, .int x1)] := hl
  have hx := C.1
  have hb := C.2.1
  refine lv_iload_n hx hb dX8_choir_0 rfl (lv_at hl 1 rfl) ?_
  refine lv_i2l (v := (Int32.toInt64 x1)) hx hb dX8_choir_1 rfl ?_
  refine lv_lconst (v := 0) hx hb dX8_choir_2 (by decide) ?_
  refine lv_ldc2 hx hb C.2.2.2.1 (C.2.2.2.2.1 _ lk1220) dX8_choir_3 ?_
  refine rc_S C hR hS cf_X8_in cs_X8_in lk1059 (ok_X8_in (Int32.toInt64 x1) 0 9) ⟨Nat.le_of_ble_eq_true rfl, Nat.le_of_ble_eq_true rfl⟩ ⟨Nat.zero_le _, Nat.zero_le _⟩ rfl rfl hl.1 (Nat.le_of_ble_eq_true rfl) dX8_choir_6 (rc_k1 (fun H locs hR hS => ?_))
  refine lv_if_ne (tgt := 14) hx hb dX8_choir_9 (by decide) (fun c => ?_) (fun c => ?_)
  · have h := iq c h
    refine lv_aload_n hx hb dX8_choir_14 rfl (lv_at hl 0 rfl) ?_
    obtain ⟨v2, zqe3, h⟩ := ob h
    refine gf949 C hR zqe3 dX8_choir_15 ?_
    refine lv_if_ne (tgt := 24) hx hb dX8_choir_18 (by decide) (fun c => ?_) (fun c => ?_)
    · have h := iq c h
      refine lv_iconst (v := 0) hx hb dX8_choir_24 (by decide) ?_
      refine lv_istore_n (lv' := [(2, .int 0), (0, .ref (B + x0)), (1, .int x1)]) hx hb dX8_choir_25 rfl hl (by decide) rfl (fun ls hl => ?_)
      refine lv_iconst (v := 1) hx hb dX8_choir_26 (by decide) ?_
      refine lv_istore_n (lv' := [(3, .int 1), (2, .int 0), (0, .ref (B + x0)), (1, .int x1)]) hx hb dX8_choir_27 rfl hl (by decide) rfl (fun ls hl => ?_)
      exact w_X8_choir_28 C  FU h hR hS (lv_sub hl [2, 3, 1, 0] rfl)
    · have h := ip c h
      refine lv_bipush (v := (-4)) hx hb dX8_choir_21 (by decide) ?_
      cases h
      exact rr_I C hR hS dX8_choir_23
  · have h := ip c h
    refine lv_iconst (v := (-1)) hx hb dX8_choir_12 (by decide) ?_
    cases h
    exact rr_I C hR hS dX8_choir_13
theorem ck_X8_isSpan  {x0 : Nat} {x1 : Int32} {x2 : Int32} {x3 : Int32} {M : Mem} {r : Int32} (h : f_X8_isSpan  x0 x1 x2 x3 M = some r) : kd M x0 = 18 := by
  unfold f_X8_isSpan at h
  exact ck h
set_option maxHeartbeats 4000000 in
set_option maxRecDepth 100000 in
theorem ok_X8_isSpan  {x0 : Nat} {x1 : Int32} {x2 : Int32} {x3 : Int32}  {M : Mem} {r : Int32}  (h : f_X8_isSpan  x0 x1 x2 x3 M = some r) : Ok l yX8_isSpan cX8_isSpan 4 (some .boolean) 0 [.ref (B + x0), .int x1, .int x2, .int x3] D B ca st M (some (.int r)) M := by
  have hk0 := ck_X8_isSpan h
  unfold f_X8_isSpan at h
  have h := ip hk0 h
  refine ok_of rfl rfl (Nat.le_of_ble_eq_true rfl) ?_
  intro p e s m args below meth c ls C hl hR hS
  have hl : lv_has ls 4 [(0, .ref (B + x0)), (1, .int x1), (2, .int x2), (3, .int x3)] := hl
  have hx := C.1
  have hb := C.2.1
  refine lv_iload_n hx hb dX8_isSpan_0 rfl (lv_at hl 2 rfl) ?_
  refine lv_if_lt (tgt := 24) hx hb dX8_isSpan_1 (by decide) (fun c => ?_) (fun c => ?_)
  · have h := ip c h
    refine lv_iconst (v := 0) hx hb dX8_isSpan_24 (by decide) ?_
    cases h
    exact rr_Z (v := 0) C hR hS (by decide) dX8_isSpan_25
  · have h := iq c h
    refine lv_iload_n hx hb dX8_isSpan_4 rfl (lv_at hl 2 rfl) ?_
    refine lv_i2l (v := (Int32.toInt64 x2)) hx hb dX8_isSpan_5 rfl ?_
    refine lv_iload_n hx hb dX8_isSpan_6 rfl (lv_at hl 3 rfl) ?_
    refine lv_i2l (v := (Int32.toInt64 x3)) hx hb dX8_isSpan_7 rfl ?_
    refine lv_ladd hx hb dX8_isSpan_8 ?_
    refine lv_aload_n hx hb dX8_isSpan_9 rfl (lv_at hl 0 rfl) ?_
    obtain ⟨v1, zqe2, h⟩ := ob h
    refine gf956 C hR zqe2 dX8_isSpan_10 ?_
    refine lv_iload_n hx hb dX8_isSpan_13 rfl (lv_at hl 1 rfl) ?_
    obtain ⟨v3, zqe4, h⟩ := ob h
    refine ra_I C hR zqe4 dX8_isSpan_14 ?_
    refine lv_i2l (v := (Int32.toInt64 v3)) hx hb dX8_isSpan_15 rfl ?_
    refine W.lcmp hx hb dX8_isSpan_16 ?_
    refine lv_if_gt (tgt := 24) hx hb dX8_isSpan_17 (by decide) (fun c => ?_) (fun c => ?_)
    · have h := ip c h
      refine lv_iconst (v := 0) hx hb dX8_isSpan_24 (by decide) ?_
      cases h
      exact rr_Z (v := 0) C hR hS (by decide) dX8_isSpan_25
    · have h := iq c h
      refine lv_iconst (v := 1) hx hb dX8_isSpan_20 (by decide) ?_
      refine lv_goto (tgt := 25) hx hb dX8_isSpan_21 (by decide) ?_
      cases h
      exact rr_Z (v := 1) C hR hS (by decide) dX8_isSpan_25
end Walk3
