section Walk4
variable {p : Program} {l : Launch} {e : Env} {s : State} {m : MethodId} {args : Array Value} {below : List Frame} {meth : Method} {c : Code}
variable {D : va_G} {B : Nat} {ca : Nat → ClassId} {st : Nat → Nat}
set_option maxHeartbeats 4000000 in
set_option maxRecDepth 100000 in
theorem w_X8_copy_45    {r : Int32 × Mem} {x0 : Nat} {M : Mem} (C : Cx p s m args meth c RX8 cX8_copy 9 (some .int) D B ca st)   (h : f_X8_copy_45  x0 M = some r) : ∀ {H : Heap} {locs : List Loc} {ls : Array Slot}, RH D B ca M H → va_S (AA B) s.heap H locs → lv_has ls 9 [(0, .ref (B + x0))] → W p l e (rmD 2) s m args below meth c H locs 0 0 (MQ below (Qp D B ca st (some (.int r.1)) r.2) args s 0 0 (AA B)) (F0 m 45 ls []) := by
  have hx := C.1
  have hb := C.2.1
  unfold f_X8_copy_45 at h
  intro H locs ls hR hS hl
  refine lv_aload_n hx hb dX8_copy_45 rfl (lv_at hl 0 rfl) ?_
  refine lv_iconst (v := 1) hx hb dX8_copy_46 (by decide) ?_
  obtain ⟨qv21, zqe20, h⟩ := ob h
  refine rc_V C hR hS cf_X8_find cv_X8_find lk1062 (ok_X8_find zqe20) (ck_X8_find zqe20) ⟨Nat.le_of_ble_eq_true rfl, Nat.le_of_ble_eq_true rfl⟩ ⟨Nat.zero_le _, Nat.zero_le _⟩ rfl rfl hl.1 (Nat.le_of_ble_eq_true rfl) dX8_copy_47 (rc_k1 (fun H locs hR hS => ?_))
  cases h
  exact rr_I C hR hS dX8_copy_50
set_option maxHeartbeats 4000000 in
set_option maxRecDepth 100000 in
theorem w_X8_copy_74    {r : Int32 × Mem} {x0 : Nat} {M : Mem} (C : Cx p s m args meth c RX8 cX8_copy 9 (some .int) D B ca st)   (h : f_X8_copy_74  x0 M = some r) : ∀ {H : Heap} {locs : List Loc} {ls : Array Slot}, RH D B ca M H → va_S (AA B) s.heap H locs → lv_has ls 9 [(0, .ref (B + x0))] → W p l e (rmD 2) s m args below meth c H locs 0 0 (MQ below (Qp D B ca st (some (.int r.1)) r.2) args s 0 0 (AA B)) (F0 m 74 ls []) := by
  have hx := C.1
  have hb := C.2.1
  unfold f_X8_copy_74 at h
  intro H locs ls hR hS hl
  refine lv_aload_n hx hb dX8_copy_74 rfl (lv_at hl 0 rfl) ?_
  refine lv_iconst (v := 2) hx hb dX8_copy_75 (by decide) ?_
  obtain ⟨qv24, zqe23, h⟩ := ob h
  refine rc_V C hR hS cf_X8_find cv_X8_find lk1062 (ok_X8_find zqe23) (ck_X8_find zqe23) ⟨Nat.le_of_ble_eq_true rfl, Nat.le_of_ble_eq_true rfl⟩ ⟨Nat.zero_le _, Nat.zero_le _⟩ rfl rfl hl.1 (Nat.le_of_ble_eq_true rfl) dX8_copy_76 (rc_k1 (fun H locs hR hS => ?_))
  cases h
  exact rr_I C hR hS dX8_copy_79
set_option maxHeartbeats 4000000 in
set_option maxRecDepth 100000 in
theorem w_X8_copy_120  {k96 : Nat → Int32 → Int32 → Int32 → Int32 → Int32 → Int32 → Int32 → Mem → Option (Int32 × Mem)}  {r : Int32 × Mem} {x0 : Nat} {x1 : Int32} {x2 : Int32} {x3 : Int32} {x4 : Int32} {x5 : Int32} {x6 : Int32} {x7 : Int32} {s0 : Int32} {M : Mem} (C : Cx p s m args meth c RX8 cX8_copy 9 (some .int) D B ca st)  (hk96 : ∀ {x0 : Nat} {x1 : Int32} {x2 : Int32} {x3 : Int32} {x4 : Int32} {x5 : Int32} {x6 : Int32} {x7 : Int32} {M : Mem}, k96 x0 x1 x2 x3 x4 x5 x6 x7 M = some r → ∀ {H : Heap} {locs : List Loc} {ls : Array Slot}, RH D B ca M H → va_S (AA B) s.heap H locs → lv_has ls 9 [(0, .ref (B + x0)), (1, .int x1), (2, .int x2), (3, .int x3), (4, .int x4), (5, .int x5), (6, .int x6), (7, .int x7)] → W p l e (rmD 2) s m args below meth c H locs 0 0 (MQ below (Qp D B ca st (some (.int r.1)) r.2) args s 0 0 (AA B)) (F0 m 96 ls [])) (h : f_X8_copy_120 k96 x0 x1 x2 x3 x4 x5 x6 x7 s0 M = some r) : ∀ {H : Heap} {locs : List Loc} {ls : Array Slot}, RH D B ca M H → va_S (AA B) s.heap H locs → lv_has ls 9 [(0, .ref (B + x0)), (1, .int x1), (2, .int x2), (3, .int x3), (4, .int x4), (5, .int x5), (6, .int x6), (7, .int x7)] → W p l e (rmD 2) s m args below meth c H locs 0 0 (MQ below (Qp D B ca st (some (.int r.1)) r.2) args s 0 0 (AA B)) (F0 m 120 ls [.int s0]) := by
  have hx := C.1
  have hb := C.2.1
  unfold f_X8_copy_120 at h
  intro H locs ls hR hS hl
  refine lv_istore (lv' := [(8, .int s0), (0, .ref (B + x0)), (1, .int x1), (2, .int x2), (3, .int x3), (4, .int x4), (5, .int x5), (6, .int x6), (7, .int x7)]) hx hb dX8_copy_120 hl (by decide) rfl (fun ls hl => ?_)
  refine lv_aload_n hx hb dX8_copy_122 rfl (lv_at hl 1 rfl) ?_
  obtain ⟨v26, zqe27, h⟩ := ob h
  refine gf957 C hR zqe27 dX8_copy_123 ?_
  refine lv_bipush (v := 40) hx hb dX8_copy_126 (by decide) ?_
  refine lv_iload_n hx hb dX8_copy_128 rfl (lv_at hl 4 rfl) ?_
  refine lv_imul hx hb dX8_copy_129 ?_
  refine lv_iload hx hb dX8_copy_130 (lv_at hl 5 rfl) ?_
  refine lv_iadd hx hb dX8_copy_132 ?_
  refine lv_iload hx hb dX8_copy_133 (lv_at hl 0 rfl) ?_
  refine lv_iadd hx hb dX8_copy_135 ?_
  refine lv_aload_n hx hb dX8_copy_136 rfl (lv_at hl 1 rfl) ?_
  obtain ⟨v28, zqe29, h⟩ := ob h
  refine gf957 C hR zqe29 dX8_copy_137 ?_
  refine lv_bipush (v := 40) hx hb dX8_copy_140 (by decide) ?_
  refine lv_iload_n hx hb dX8_copy_142 rfl (lv_at hl 2 rfl) ?_
  refine lv_imul hx hb dX8_copy_143 ?_
  refine lv_iload_n hx hb dX8_copy_144 rfl (lv_at hl 3 rfl) ?_
  refine lv_iadd hx hb dX8_copy_145 ?_
  refine lv_iload hx hb dX8_copy_146 (lv_at hl 0 rfl) ?_
  refine lv_iadd hx hb dX8_copy_148 ?_
  obtain ⟨v30, zqe31, h⟩ := ob h
  refine ra_I C hR zqe31 dX8_copy_149 ?_
  obtain ⟨M32, zqe33, h⟩ := ob h
  refine re_I C hR hS zqe33 dX8_copy_150 (fun H locs hR hS => ?_)
  refine lv_iinc (v := (x7 + 1)) (lv' := [(7, .int (x7 + 1)), (8, .int s0), (0, .ref (B + x0)), (1, .int x1), (2, .int x2), (3, .int x3), (4, .int x4), (5, .int x5), (6, .int x6)]) hx hb dX8_copy_151 hl (k := 8) rfl rfl (by decide) rfl (fun ls hl => ?_)
  refine lv_goto (tgt := 96) hx hb dX8_copy_154 (by decide) ?_
  exact hk96 h hR hS (lv_sub hl [2, 3, 4, 5, 6, 7, 8, 0] rfl)
set_option maxHeartbeats 4000000 in
set_option maxRecDepth 100000 in
theorem w_X8_copy_96    {r : Int32 × Mem} (C : Cx p s m args meth c RX8 cX8_copy 9 (some .int) D B ca st)   : ∀ (n : Nat) {x0 : Nat} {x1 : Int32} {x2 : Int32} {x3 : Int32} {x4 : Int32} {x5 : Int32} {x6 : Int32} {x7 : Int32} {M : Mem}, f_X8_copy_96  n x0 x1 x2 x3 x4 x5 x6 x7 M = some r → ∀ {H : Heap} {locs : List Loc} {ls : Array Slot}, RH D B ca M H → va_S (AA B) s.heap H locs → lv_has ls 9 [(0, .ref (B + x0)), (1, .int x1), (2, .int x2), (3, .int x3), (4, .int x4), (5, .int x5), (6, .int x6), (7, .int x7)] → W p l e (rmD 2) s m args below meth c H locs 0 0 (MQ below (Qp D B ca st (some (.int r.1)) r.2) args s 0 0 (AA B)) (F0 m 96 ls []) := by
  have hx := C.1
  have hb := C.2.1
  intro n
  induction n with
  | zero => intro x0 x1 x2 x3 x4 x5 x6 x7 M h; simp [f_X8_copy_96] at h
  | succ n ih =>
    intro x0 x1 x2 x3 x4 x5 x6 x7 M h H locs ls hR hS hl
    rw [f_X8_copy_96] at h
    refine lv_iload hx hb dX8_copy_96 (lv_at hl 7 rfl) ?_
    refine lv_iload hx hb dX8_copy_98 (lv_at hl 5 rfl) ?_
    refine lv_icmp_ge (tgt := 157) hx hb dX8_copy_100 (by decide) (fun c => ?_) (fun c => ?_)
    · have h := ip c h
      refine lv_iconst (v := 1) hx hb dX8_copy_157 (by decide) ?_
      cases h
      exact rr_I C hR hS dX8_copy_158
    · have h := iq c h
      refine lv_iload hx hb dX8_copy_103 (lv_at hl 6 rfl) ?_
      refine lv_if_eq (tgt := 118) hx hb dX8_copy_105 (by decide) (fun c => ?_) (fun c => ?_)
      · have h := ip c h
        refine lv_iload hx hb dX8_copy_118 (lv_at hl 7 rfl) ?_
        exact w_X8_copy_120 C (hk96 := @ih) h hR hS (lv_sub hl [0, 1, 2, 3, 4, 5, 6, 7] rfl)
      · have h := iq c h
        refine lv_iload hx hb dX8_copy_108 (lv_at hl 5 rfl) ?_
        refine lv_iconst (v := 1) hx hb dX8_copy_110 (by decide) ?_
        refine lv_isub hx hb dX8_copy_111 ?_
        refine lv_iload hx hb dX8_copy_112 (lv_at hl 7 rfl) ?_
        refine lv_isub hx hb dX8_copy_114 ?_
        refine lv_goto (tgt := 120) hx hb dX8_copy_115 (by decide) ?_
        exact w_X8_copy_120 C (hk96 := @ih) h hR hS (lv_sub hl [0, 1, 2, 3, 4, 5, 6, 7] rfl)
theorem ck_X8_copy  {x0 : Nat} {x1 : Int32} {x2 : Int32} {x3 : Int32} {x4 : Int32} {x5 : Int32} {M : Mem} {r : Int32 × Mem} (h : f_X8_copy  x0 x1 x2 x3 x4 x5 M = some r) : kd M x0 = 18 := by
  unfold f_X8_copy at h
  exact ck h
set_option maxHeartbeats 4000000 in
set_option maxRecDepth 100000 in
theorem ok_X8_copy  {x0 : Nat} {x1 : Int32} {x2 : Int32} {x3 : Int32} {x4 : Int32} {x5 : Int32}  {M : Mem} {r : Int32 × Mem}  (h : f_X8_copy  x0 x1 x2 x3 x4 x5 M = some r) : Ok l yX8_copy cX8_copy 9 (some .int) 2 [.ref (B + x0), .int x1, .int x2, .int x3, .int x4, .int x5] D B ca st M (some (.int r.1)) r.2 := by
  have hk0 := ck_X8_copy h
  unfold f_X8_copy at h
  have h := ip hk0 h
  refine ok_of rfl rfl (Nat.le_of_ble_eq_true rfl) ?_
  intro p e s m args below meth c ls C hl hR hS
  have hl : lv_has ls 9 [(0, .ref (B + x0)), (1, .int x1), (2, .int x2), (3, .int x3), (4, .int x4), (5, .int x5)] := hl
  have hx := C.1
  have hb := C.2.1
  refine lv_iload_n hx hb dX8_copy_0 rfl (lv_at hl 1 rfl) ?_
  obtain ⟨v2, zqe1, h⟩ := ob h
  refine rc_S C hR hS cf_X8_isRow cs_X8_isRow lk1055 (ok_X8_isRow zqe1) ⟨Nat.le_of_ble_eq_true rfl, Nat.le_of_ble_eq_true rfl⟩ ⟨Nat.zero_le _, Nat.zero_le _⟩ rfl rfl hl.1 (Nat.le_of_ble_eq_true rfl) dX8_copy_1 (rc_k1 (fun H locs hR hS => ?_))
  refine lv_if_eq (tgt := 14) hx hb dX8_copy_4 (by decide) (fun c => ?_) (fun c => ?_)
  · have h := ip c h
    refine lv_iconst (v := (-1)) hx hb dX8_copy_14 (by decide) ?_
    cases h
    exact rr_I C hR hS dX8_copy_15
  · have h := iq c h
    refine lv_iload_n hx hb dX8_copy_7 rfl (lv_at hl 3 rfl) ?_
    obtain ⟨v4, zqe3, h⟩ := ob h
    refine rc_S C hR hS cf_X8_isRow cs_X8_isRow lk1055 (ok_X8_isRow zqe3) ⟨Nat.le_of_ble_eq_true rfl, Nat.le_of_ble_eq_true rfl⟩ ⟨Nat.zero_le _, Nat.zero_le _⟩ rfl rfl hl.1 (Nat.le_of_ble_eq_true rfl) dX8_copy_8 (rc_k1 (fun H locs hR hS => ?_))
    refine lv_if_ne (tgt := 16) hx hb dX8_copy_11 (by decide) (fun c => ?_) (fun c => ?_)
    · have h := iq c h
      refine lv_iload hx hb dX8_copy_16 (lv_at hl 5 rfl) ?_
      refine lv_if_ge (tgt := 27) hx hb dX8_copy_18 (by decide) (fun c => ?_) (fun c => ?_)
      · have h := ip c h
        refine lv_aload_n hx hb dX8_copy_27 rfl (lv_at hl 0 rfl) ?_
        obtain ⟨v5, zqe6, h⟩ := ob h
        refine gf956 C hR zqe6 dX8_copy_28 ?_
        refine lv_iload_n hx hb dX8_copy_31 rfl (lv_at hl 1 rfl) ?_
        obtain ⟨v7, zqe8, h⟩ := ob h
        refine ra_I C hR zqe8 dX8_copy_32 ?_
        refine lv_if_lt (tgt := 45) hx hb dX8_copy_33 (by decide) (fun c => ?_) (fun c => ?_)
        · have h := ip c h
          exact w_X8_copy_45 C  h hR hS (lv_sub hl [0] rfl)
        · have h := iq c h
          refine lv_aload_n hx hb dX8_copy_36 rfl (lv_at hl 0 rfl) ?_
          obtain ⟨v9, zqe10, h⟩ := ob h
          refine gf956 C hR zqe10 dX8_copy_37 ?_
          refine lv_iload_n hx hb dX8_copy_40 rfl (lv_at hl 3 rfl) ?_
          obtain ⟨v11, zqe12, h⟩ := ob h
          refine ra_I C hR zqe12 dX8_copy_41 ?_
          refine lv_if_ge (tgt := 51) hx hb dX8_copy_42 (by decide) (fun c => ?_) (fun c => ?_)
          · have h := ip c h
            refine lv_aload_n hx hb dX8_copy_51 rfl (lv_at hl 0 rfl) ?_
            refine lv_iload_n hx hb dX8_copy_52 rfl (lv_at hl 1 rfl) ?_
            refine lv_iload_n hx hb dX8_copy_53 rfl (lv_at hl 2 rfl) ?_
            refine lv_iload hx hb dX8_copy_54 (lv_at hl 5 rfl) ?_
            obtain ⟨v14, zqe13, h⟩ := ob h
            refine rc_V C hR hS cf_X8_isSpan cv_X8_isSpan lk1094 (ok_X8_isSpan zqe13) (ck_X8_isSpan zqe13) ⟨Nat.le_of_ble_eq_true rfl, Nat.le_of_ble_eq_true rfl⟩ ⟨Nat.zero_le _, Nat.zero_le _⟩ rfl rfl hl.1 (Nat.le_of_ble_eq_true rfl) dX8_copy_56 (rc_k1 (fun H locs hR hS => ?_))
            refine lv_if_eq (tgt := 74) hx hb dX8_copy_59 (by decide) (fun c => ?_) (fun c => ?_)
            · have h := ip c h
              exact w_X8_copy_74 C  h hR hS (lv_sub hl [0] rfl)
            · have h := iq c h
              refine lv_aload_n hx hb dX8_copy_62 rfl (lv_at hl 0 rfl) ?_
              refine lv_iload_n hx hb dX8_copy_63 rfl (lv_at hl 3 rfl) ?_
              refine lv_iload hx hb dX8_copy_64 (lv_at hl 4 rfl) ?_
              refine lv_iload hx hb dX8_copy_66 (lv_at hl 5 rfl) ?_
              obtain ⟨v16, zqe15, h⟩ := ob h
              refine rc_V C hR hS cf_X8_isSpan cv_X8_isSpan lk1094 (ok_X8_isSpan zqe15) (ck_X8_isSpan zqe15) ⟨Nat.le_of_ble_eq_true rfl, Nat.le_of_ble_eq_true rfl⟩ ⟨Nat.zero_le _, Nat.zero_le _⟩ rfl rfl hl.1 (Nat.le_of_ble_eq_true rfl) dX8_copy_68 (rc_k1 (fun H locs hR hS => ?_))
              refine lv_if_ne (tgt := 80) hx hb dX8_copy_71 (by decide) (fun c => ?_) (fun c => ?_)
              · have h := iq c h
                refine lv_iload_n hx hb dX8_copy_80 rfl (lv_at hl 2 rfl) ?_
                refine lv_iload hx hb dX8_copy_81 (lv_at hl 4 rfl) ?_
                refine lv_icmp_ge (tgt := 90) hx hb dX8_copy_83 (by decide) (fun c => ?_) (fun c => ?_)
                · have h := ip c h
                  refine lv_iconst (v := 0) hx hb dX8_copy_90 (by decide) ?_
                  refine lv_istore (lv' := [(6, .int 0), (0, .ref (B + x0)), (1, .int x1), (2, .int x2), (3, .int x3), (4, .int x4), (5, .int x5)]) hx hb dX8_copy_91 hl (by decide) rfl (fun ls hl => ?_)
                  refine lv_iconst (v := 0) hx hb dX8_copy_93 (by decide) ?_
                  refine lv_istore (lv' := [(7, .int 0), (6, .int 0), (0, .ref (B + x0)), (1, .int x1), (2, .int x2), (3, .int x3), (4, .int x4), (5, .int x5)]) hx hb dX8_copy_94 hl (by decide) rfl (fun ls hl => ?_)
                  exact w_X8_copy_96 C  FU h hR hS (lv_sub hl [2, 3, 4, 5, 6, 7, 1, 0] rfl)
                · have h := iq c h
                  refine lv_iconst (v := 1) hx hb dX8_copy_86 (by decide) ?_
                  refine lv_goto (tgt := 91) hx hb dX8_copy_87 (by decide) ?_
                  refine lv_istore (lv' := [(6, .int 1), (0, .ref (B + x0)), (1, .int x1), (2, .int x2), (3, .int x3), (4, .int x4), (5, .int x5)]) hx hb dX8_copy_91 hl (by decide) rfl (fun ls hl => ?_)
                  refine lv_iconst (v := 0) hx hb dX8_copy_93 (by decide) ?_
                  refine lv_istore (lv' := [(7, .int 0), (6, .int 1), (0, .ref (B + x0)), (1, .int x1), (2, .int x2), (3, .int x3), (4, .int x4), (5, .int x5)]) hx hb dX8_copy_94 hl (by decide) rfl (fun ls hl => ?_)
                  exact w_X8_copy_96 C  FU h hR hS (lv_sub hl [2, 3, 4, 5, 6, 7, 1, 0] rfl)
              · have h := ip c h
                exact w_X8_copy_74 C  h hR hS (lv_sub hl [0] rfl)
          · have h := iq c h
            exact w_X8_copy_45 C  h hR hS (lv_sub hl [0] rfl)
      · have h := iq c h
        refine lv_aload_n hx hb dX8_copy_21 rfl (lv_at hl 0 rfl) ?_
        refine lv_iconst (v := 5) hx hb dX8_copy_22 (by decide) ?_
        obtain ⟨qv18, zqe17, h⟩ := ob h
        refine rc_V C hR hS cf_X8_find cv_X8_find lk1062 (ok_X8_find zqe17) (ck_X8_find zqe17) ⟨Nat.le_of_ble_eq_true rfl, Nat.le_of_ble_eq_true rfl⟩ ⟨Nat.zero_le _, Nat.zero_le _⟩ rfl rfl hl.1 (Nat.le_of_ble_eq_true rfl) dX8_copy_23 (rc_k1 (fun H locs hR hS => ?_))
        cases h
        exact rr_I C hR hS dX8_copy_26
    · have h := ip c h
      refine lv_iconst (v := (-1)) hx hb dX8_copy_14 (by decide) ?_
      cases h
      exact rr_I C hR hS dX8_copy_15
set_option maxHeartbeats 4000000 in
set_option maxRecDepth 100000 in
theorem w_X8_allBreath_4    {r : Int32} (C : Cx p s m args meth c RX8 cX8_allBreath 3 (some .int) D B ca st)   : ∀ (n : Nat) {x0 : Nat} {x1 : Int32} {x2 : Int32} {M : Mem}, f_X8_allBreath_4  n x0 x1 x2 M = some r → ∀ {H : Heap} {locs : List Loc} {ls : Array Slot}, RH D B ca M H → va_S (AA B) s.heap H locs → lv_has ls 3 [(0, .ref (B + x0)), (1, .int x1), (2, .int x2)] → W p l e (rmD 0) s m args below meth c H locs 0 0 (MQ below (Qp D B ca st (some (.int r)) M) args s 0 0 (AA B)) (F0 m 4 ls []) := by
  have hx := C.1
  have hb := C.2.1
  intro n
  induction n with
  | zero => intro x0 x1 x2 M h; simp [f_X8_allBreath_4] at h
  | succ n ih =>
    intro x0 x1 x2 M h H locs ls hR hS hl
    rw [f_X8_allBreath_4] at h
    refine lv_iload_n hx hb dX8_allBreath_4 rfl (lv_at hl 2 rfl) ?_
    refine lv_aload_n hx hb dX8_allBreath_5 rfl (lv_at hl 0 rfl) ?_
    obtain ⟨v1, zqe2, h⟩ := ob h
    refine gf949 C hR zqe2 dX8_allBreath_6 ?_
    refine lv_icmp_ge (tgt := 29) hx hb dX8_allBreath_9 (by decide) (fun c => ?_) (fun c => ?_)
    · have h := ip c h
      refine lv_iload_n hx hb dX8_allBreath_29 rfl (lv_at hl 1 rfl) ?_
      cases h
      exact rr_I C hR hS dX8_allBreath_30
    · have h := iq c h
      refine lv_iload_n hx hb dX8_allBreath_12 rfl (lv_at hl 1 rfl) ?_
      refine lv_aload_n hx hb dX8_allBreath_13 rfl (lv_at hl 0 rfl) ?_
      obtain ⟨v3, zqe4, h⟩ := ob h
      refine gf948 C hR zqe4 dX8_allBreath_14 ?_
      refine lv_iconst (v := 3) hx hb dX8_allBreath_17 (by decide) ?_
      refine lv_iload_n hx hb dX8_allBreath_18 rfl (lv_at hl 2 rfl) ?_
      refine lv_iadd hx hb dX8_allBreath_19 ?_
      obtain ⟨v5, zqe6, h⟩ := ob h
      refine ra_I C hR zqe6 dX8_allBreath_20 ?_
      refine lv_iadd hx hb dX8_allBreath_21 ?_
      refine lv_istore_n (lv' := [(1, .int (x1 + v5)), (0, .ref (B + x0)), (2, .int x2)]) hx hb dX8_allBreath_22 rfl hl (by decide) rfl (fun ls hl => ?_)
      refine lv_iinc (v := (x2 + 1)) (lv' := [(2, .int (x2 + 1)), (1, .int (x1 + v5)), (0, .ref (B + x0))]) hx hb dX8_allBreath_23 hl (k := 2) rfl rfl (by decide) rfl (fun ls hl => ?_)
      refine lv_goto (tgt := 4) hx hb dX8_allBreath_26 (by decide) ?_
      exact ih h hR hS (lv_sub hl [2, 1, 0] rfl)
theorem ck_X8_allBreath  {x0 : Nat} {M : Mem} {r : Int32} (h : f_X8_allBreath  x0 M = some r) : kd M x0 = 18 := by
  unfold f_X8_allBreath at h
  exact ck h
set_option maxHeartbeats 4000000 in
set_option maxRecDepth 100000 in
theorem ok_X8_allBreath  {x0 : Nat}  {M : Mem} {r : Int32}  (h : f_X8_allBreath  x0 M = some r) : Ok l yX8_allBreath cX8_allBreath 3 (some .int) 0 [.ref (B + x0)] D B ca st M (some (.int r)) M := by
  have hk0 := ck_X8_allBreath h
  unfold f_X8_allBreath at h
  have h := ip hk0 h
  refine ok_of rfl rfl (Nat.le_of_ble_eq_true rfl) ?_
  intro p e s m args below meth c ls C hl hR hS
  have hl : lv_has ls 3 [(0, .ref (B + x0))] := hl
  have hx := C.1
  have hb := C.2.1
  refine lv_iconst (v := 0) hx hb dX8_allBreath_0 (by decide) ?_
  refine lv_istore_n (lv' := [(1, .int 0), (0, .ref (B + x0))]) hx hb dX8_allBreath_1 rfl hl (by decide) rfl (fun ls hl => ?_)
  refine lv_iconst (v := 0) hx hb dX8_allBreath_2 (by decide) ?_
  refine lv_istore_n (lv' := [(2, .int 0), (1, .int 0), (0, .ref (B + x0))]) hx hb dX8_allBreath_3 rfl hl (by decide) rfl (fun ls hl => ?_)
  exact w_X8_allBreath_4 C  FU h hR hS (lv_sub hl [2, 1, 0] rfl)
set_option maxHeartbeats 4000000 in
set_option maxRecDepth 100000 in
theorem w_X8_thereOf_4    {r : Int32} (C : Cx p s m args meth c RX8 cX8_thereOf 4 (some .int) D B ca st)   : ∀ (n : Nat) {x0 : Nat} {x1 : Int32} {x2 : Int32} {x3 : Int32} {M : Mem}, f_X8_thereOf_4  n x0 x1 x2 x3 M = some r → ∀ {H : Heap} {locs : List Loc} {ls : Array Slot}, RH D B ca M H → va_S (AA B) s.heap H locs → lv_has ls 4 [(0, .ref (B + x0)), (1, .int x1), (2, .int x2), (3, .int x3)] → W p l e (rmD 0) s m args below meth c H locs 0 0 (MQ below (Qp D B ca st (some (.int r)) M) args s 0 0 (AA B)) (F0 m 4 ls []) := by
  have hx := C.1
  have hb := C.2.1
  intro n
  induction n with
  | zero => intro x0 x1 x2 x3 M h; simp [f_X8_thereOf_4] at h
  | succ n ih =>
    intro x0 x1 x2 x3 M h H locs ls hR hS hl
    rw [f_X8_thereOf_4] at h
    refine lv_iload_n hx hb dX8_thereOf_4 rfl (lv_at hl 3 rfl) ?_
    refine lv_bipush (v := 6) hx hb dX8_thereOf_5 (by decide) ?_
    refine lv_icmp_ge (tgt := 97) hx hb dX8_thereOf_7 (by decide) (fun c => ?_) (fun c => ?_)
    · have h := ip c h
      refine lv_iload_n hx hb dX8_thereOf_97 rfl (lv_at hl 2 rfl) ?_
      cases h
      exact rr_I C hR hS dX8_thereOf_98
    · have h := iq c h
      refine lv_iload_n hx hb dX8_thereOf_10 rfl (lv_at hl 2 rfl) ?_
      refine lv_iload_n hx hb dX8_thereOf_11 rfl (lv_at hl 1 rfl) ?_
      refine lv_bipush (v := 8) hx hb dX8_thereOf_12 (by decide) ?_
      refine lv_icmp_ne (tgt := 34) hx hb dX8_thereOf_14 (by decide) (fun c => ?_) (fun c => ?_)
      · have h := iq c h
        refine lv_iload_n hx hb dX8_thereOf_34 rfl (lv_at hl 1 rfl) ?_
        refine lv_bipush (v := 9) hx hb dX8_thereOf_35 (by decide) ?_
        refine lv_icmp_ne (tgt := 62) hx hb dX8_thereOf_37 (by decide) (fun c => ?_) (fun c => ?_)
        · have h := iq c h
          refine lv_iload_n hx hb dX8_thereOf_62 rfl (lv_at hl 3 rfl) ?_
          refine lv_iconst (v := 3) hx hb dX8_thereOf_63 (by decide) ?_
          refine lv_icmp_ge (tgt := 88) hx hb dX8_thereOf_64 (by decide) (fun c => ?_) (fun c => ?_)
          · have h := ip c h
            refine lv_iconst (v := 0) hx hb dX8_thereOf_88 (by decide) ?_
            refine lv_iadd hx hb dX8_thereOf_89 ?_
            refine lv_istore_n (lv' := [(2, .int (x2 + 0)), (0, .ref (B + x0)), (1, .int x1), (3, .int x3)]) hx hb dX8_thereOf_90 rfl hl (by decide) rfl (fun ls hl => ?_)
            refine lv_iinc (v := (x3 + 1)) (lv' := [(3, .int (x3 + 1)), (2, .int (x2 + 0)), (0, .ref (B + x0)), (1, .int x1)]) hx hb dX8_thereOf_91 hl (k := 3) rfl rfl (by decide) rfl (fun ls hl => ?_)
            refine lv_goto (tgt := 4) hx hb dX8_thereOf_94 (by decide) ?_
            exact ih h hR hS (lv_sub hl [2, 3, 1, 0] rfl)
          · have h := iq c h
            refine lv_aload_n hx hb dX8_thereOf_67 rfl (lv_at hl 0 rfl) ?_
            obtain ⟨v1, zqe2, h⟩ := ob h
            refine gf948 C hR zqe2 dX8_thereOf_68 ?_
            refine lv_sipush (v := 493) hx hb dX8_thereOf_71 (by decide) ?_
            refine lv_iconst (v := 1) hx hb dX8_thereOf_74 (by decide) ?_
            refine lv_iload_n hx hb dX8_thereOf_75 rfl (lv_at hl 3 rfl) ?_
            refine lv_iadd hx hb dX8_thereOf_76 ?_
            refine lv_imul hx hb dX8_thereOf_77 ?_
            refine lv_iconst (v := 0) hx hb dX8_thereOf_78 (by decide) ?_
            refine lv_iadd hx hb dX8_thereOf_79 ?_
            obtain ⟨v3, zqe4, h⟩ := ob h
            refine ra_I C hR zqe4 dX8_thereOf_80 ?_
            refine lv_if_lt (tgt := 88) hx hb dX8_thereOf_81 (by decide) (fun c => ?_) (fun c => ?_)
            · have h := ip c h
              refine lv_iconst (v := 0) hx hb dX8_thereOf_88 (by decide) ?_
              refine lv_iadd hx hb dX8_thereOf_89 ?_
              refine lv_istore_n (lv' := [(2, .int (x2 + 0)), (0, .ref (B + x0)), (1, .int x1), (3, .int x3)]) hx hb dX8_thereOf_90 rfl hl (by decide) rfl (fun ls hl => ?_)
              refine lv_iinc (v := (x3 + 1)) (lv' := [(3, .int (x3 + 1)), (2, .int (x2 + 0)), (0, .ref (B + x0)), (1, .int x1)]) hx hb dX8_thereOf_91 hl (k := 3) rfl rfl (by decide) rfl (fun ls hl => ?_)
              refine lv_goto (tgt := 4) hx hb dX8_thereOf_94 (by decide) ?_
              exact ih h hR hS (lv_sub hl [2, 3, 1, 0] rfl)
            · have h := iq c h
              refine lv_iconst (v := 1) hx hb dX8_thereOf_84 (by decide) ?_
              refine lv_goto (tgt := 89) hx hb dX8_thereOf_85 (by decide) ?_
              refine lv_iadd hx hb dX8_thereOf_89 ?_
              refine lv_istore_n (lv' := [(2, .int (x2 + 1)), (0, .ref (B + x0)), (1, .int x1), (3, .int x3)]) hx hb dX8_thereOf_90 rfl hl (by decide) rfl (fun ls hl => ?_)
              refine lv_iinc (v := (x3 + 1)) (lv' := [(3, .int (x3 + 1)), (2, .int (x2 + 1)), (0, .ref (B + x0)), (1, .int x1)]) hx hb dX8_thereOf_91 hl (k := 3) rfl rfl (by decide) rfl (fun ls hl => ?_)
              refine lv_goto (tgt := 4) hx hb dX8_thereOf_94 (by decide) ?_
              exact ih h hR hS (lv_sub hl [2, 3, 1, 0] rfl)
        · have h := ip c h
          refine lv_iload_n hx hb dX8_thereOf_40 rfl (lv_at hl 3 rfl) ?_
          refine lv_iconst (v := 4) hx hb dX8_thereOf_41 (by decide) ?_
          refine lv_icmp_ge (tgt := 58) hx hb dX8_thereOf_42 (by decide) (fun c => ?_) (fun c => ?_)
          · have h := ip c h
            refine lv_iconst (v := 0) hx hb dX8_thereOf_58 (by decide) ?_
            refine lv_goto (tgt := 89) hx hb dX8_thereOf_59 (by decide) ?_
            refine lv_iadd hx hb dX8_thereOf_89 ?_
            refine lv_istore_n (lv' := [(2, .int (x2 + 0)), (0, .ref (B + x0)), (1, .int x1), (3, .int x3)]) hx hb dX8_thereOf_90 rfl hl (by decide) rfl (fun ls hl => ?_)
            refine lv_iinc (v := (x3 + 1)) (lv' := [(3, .int (x3 + 1)), (2, .int (x2 + 0)), (0, .ref (B + x0)), (1, .int x1)]) hx hb dX8_thereOf_91 hl (k := 3) rfl rfl (by decide) rfl (fun ls hl => ?_)
            refine lv_goto (tgt := 4) hx hb dX8_thereOf_94 (by decide) ?_
            exact ih h hR hS (lv_sub hl [2, 3, 1, 0] rfl)
          · have h := iq c h
            refine lv_aload_n hx hb dX8_thereOf_45 rfl (lv_at hl 0 rfl) ?_
            obtain ⟨v5, zqe6, h⟩ := ob h
            refine gf958 C hR zqe6 dX8_thereOf_46 ?_
            refine lv_iload_n hx hb dX8_thereOf_49 rfl (lv_at hl 3 rfl) ?_
            obtain ⟨v7, zqe8, h⟩ := ob h
            refine ra_I C hR zqe8 dX8_thereOf_50 ?_
            refine lv_if_lt (tgt := 58) hx hb dX8_thereOf_51 (by decide) (fun c => ?_) (fun c => ?_)
            · have h := ip c h
              refine lv_iconst (v := 0) hx hb dX8_thereOf_58 (by decide) ?_
              refine lv_goto (tgt := 89) hx hb dX8_thereOf_59 (by decide) ?_
              refine lv_iadd hx hb dX8_thereOf_89 ?_
              refine lv_istore_n (lv' := [(2, .int (x2 + 0)), (0, .ref (B + x0)), (1, .int x1), (3, .int x3)]) hx hb dX8_thereOf_90 rfl hl (by decide) rfl (fun ls hl => ?_)
              refine lv_iinc (v := (x3 + 1)) (lv' := [(3, .int (x3 + 1)), (2, .int (x2 + 0)), (0, .ref (B + x0)), (1, .int x1)]) hx hb dX8_thereOf_91 hl (k := 3) rfl rfl (by decide) rfl (fun ls hl => ?_)
              refine lv_goto (tgt := 4) hx hb dX8_thereOf_94 (by decide) ?_
              exact ih h hR hS (lv_sub hl [2, 3, 1, 0] rfl)
            · have h := iq c h
              refine lv_iconst (v := 1) hx hb dX8_thereOf_54 (by decide) ?_
              refine lv_goto (tgt := 89) hx hb dX8_thereOf_55 (by decide) ?_
              refine lv_iadd hx hb dX8_thereOf_89 ?_
              refine lv_istore_n (lv' := [(2, .int (x2 + 1)), (0, .ref (B + x0)), (1, .int x1), (3, .int x3)]) hx hb dX8_thereOf_90 rfl hl (by decide) rfl (fun ls hl => ?_)
              refine lv_iinc (v := (x3 + 1)) (lv' := [(3, .int (x3 + 1)), (2, .int (x2 + 1)), (0, .ref (B + x0)), (1, .int x1)]) hx hb dX8_thereOf_91 hl (k := 3) rfl rfl (by decide) rfl (fun ls hl => ?_)
              refine lv_goto (tgt := 4) hx hb dX8_thereOf_94 (by decide) ?_
              exact ih h hR hS (lv_sub hl [2, 3, 1, 0] rfl)
      · have h := ip c h
        refine lv_aload_n hx hb dX8_thereOf_17 rfl (lv_at hl 0 rfl) ?_
        obtain ⟨v9, zqe10, h⟩ := ob h
        refine gf956 C hR zqe10 dX8_thereOf_18 ?_
        refine lv_iload_n hx hb dX8_thereOf_21 rfl (lv_at hl 3 rfl) ?_
        obtain ⟨v11, zqe12, h⟩ := ob h
        refine ra_I C hR zqe12 dX8_thereOf_22 ?_
        refine lv_if_ge (tgt := 30) hx hb dX8_thereOf_23 (by decide) (fun c => ?_) (fun c => ?_)
        · have h := ip c h
          refine lv_iconst (v := 1) hx hb dX8_thereOf_30 (by decide) ?_
          refine lv_goto (tgt := 89) hx hb dX8_thereOf_31 (by decide) ?_
          refine lv_iadd hx hb dX8_thereOf_89 ?_
          refine lv_istore_n (lv' := [(2, .int (x2 + 1)), (0, .ref (B + x0)), (1, .int x1), (3, .int x3)]) hx hb dX8_thereOf_90 rfl hl (by decide) rfl (fun ls hl => ?_)
          refine lv_iinc (v := (x3 + 1)) (lv' := [(3, .int (x3 + 1)), (2, .int (x2 + 1)), (0, .ref (B + x0)), (1, .int x1)]) hx hb dX8_thereOf_91 hl (k := 3) rfl rfl (by decide) rfl (fun ls hl => ?_)
          refine lv_goto (tgt := 4) hx hb dX8_thereOf_94 (by decide) ?_
          exact ih h hR hS (lv_sub hl [2, 3, 1, 0] rfl)
        · have h := iq c h
          refine lv_iconst (v := 0) hx hb dX8_thereOf_26 (by decide) ?_
          refine lv_goto (tgt := 89) hx hb dX8_thereOf_27 (by decide) ?_
          refine lv_iadd hx hb dX8_thereOf_89 ?_
          refine lv_istore_n (lv' := [(2, .int (x2 + 0)), (0, .ref (B + x0)), (1, .int x1), (3, .int x3)]) hx hb dX8_thereOf_90 rfl hl (by decide) rfl (fun ls hl => ?_)
          refine lv_iinc (v := (x3 + 1)) (lv' := [(3, .int (x3 + 1)), (2, .int (x2 + 0)), (0, .ref (B + x0)), (1, .int x1)]) hx hb dX8_thereOf_91 hl (k := 3) rfl rfl (by decide) rfl (fun ls hl => ?_)
          refine lv_goto (tgt := 4) hx hb dX8_thereOf_94 (by decide) ?_
          exact ih h hR hS (lv_sub hl [2, 3, 1, 0] rfl)
theorem ck_X8_thereOf  {x0 : Nat} {x1 : Int32} {M : Mem} {r : Int32} (h : f_X8_thereOf  x0 x1 M = some r) : kd M x0 = 18 := by
  unfold f_X8_thereOf at h
  exact ck h
set_option maxHeartbeats 4000000 in
set_option maxRecDepth 100000 in
theorem ok_X8_thereOf  {x0 : Nat} {x1 : Int32}  {M : Mem} {r : Int32}  (h : f_X8_thereOf  x0 x1 M = some r) : Ok l yX8_thereOf cX8_thereOf 4 (some .int) 0 [.ref (B + x0), .int x1] D B ca st M (some (.int r)) M := by
  have hk0 := ck_X8_thereOf h
  unfold f_X8_thereOf at h
  have h := ip hk0 h
  refine ok_of rfl rfl (Nat.le_of_ble_eq_true rfl) ?_
  intro p e s m args below meth c ls C hl hR hS
  have hl : lv_has ls 4 [(0, .ref (B + x0)), (1, .int x1)] := hl
  have hx := C.1
  have hb := C.2.1
  refine lv_iconst (v := 0) hx hb dX8_thereOf_0 (by decide) ?_
  refine lv_istore_n (lv' := [(2, .int 0), (0, .ref (B + x0)), (1, .int x1)]) hx hb dX8_thereOf_1 rfl hl (by decide) rfl (fun ls hl => ?_)
  refine lv_iconst (v := 0) hx hb dX8_thereOf_2 (by decide) ?_
  refine lv_istore_n (lv' := [(3, .int 0), (2, .int 0), (0, .ref (B + x0)), (1, .int x1)]) hx hb dX8_thereOf_3 rfl hl (by decide) rfl (fun ls hl => ?_)
  exact w_X8_thereOf_4 C  FU h hR hS (lv_sub hl [2, 3, 1, 0] rfl)
set_option maxHeartbeats 4000000 in
set_option maxRecDepth 100000 in
theorem w_X8_isOf_22    {r : Int32} {x2 : Int32} {x3 : Int32} {M : Mem} (C : Cx p s m args meth c RX8 cX8_isOf 4 (some .boolean) D B ca st)   (h : f_X8_isOf_22  x2 x3 M = some r) : ∀ {H : Heap} {locs : List Loc} {ls : Array Slot}, RH D B ca M H → va_S (AA B) s.heap H locs → lv_has ls 4 [(2, .int x2), (3, .int x3)] → W p l e (rmD 0) s m args below meth c H locs 0 0 (MQ below (Qp D B ca st (some (.int r)) M) args s 0 0 (AA B)) (F0 m 22 ls []) := by
  have hx := C.1
  have hb := C.2.1
  unfold f_X8_isOf_22 at h
  intro H locs ls hR hS hl
  refine lv_iload_n hx hb dX8_isOf_22 rfl (lv_at hl 0 rfl) ?_
  refine lv_iconst (v := 2) hx hb dX8_isOf_23 (by decide) ?_
  refine lv_icmp_ne (tgt := 36) hx hb dX8_isOf_24 (by decide) (fun c => ?_) (fun c => ?_)
  · have h := iq c h
    refine lv_iconst (v := 0) hx hb dX8_isOf_36 (by decide) ?_
    cases h
    exact rr_Z (v := 0) C hR hS (by decide) dX8_isOf_37
  · have h := ip c h
    refine lv_iload_n hx hb dX8_isOf_27 rfl (lv_at hl 1 rfl) ?_
    refine lv_iconst (v := 5) hx hb dX8_isOf_28 (by decide) ?_
    refine lv_icmp_ne (tgt := 36) hx hb dX8_isOf_29 (by decide) (fun c => ?_) (fun c => ?_)
    · have h := iq c h
      refine lv_iconst (v := 0) hx hb dX8_isOf_36 (by decide) ?_
      cases h
      exact rr_Z (v := 0) C hR hS (by decide) dX8_isOf_37
    · have h := ip c h
      refine lv_iconst (v := 1) hx hb dX8_isOf_32 (by decide) ?_
      refine lv_goto (tgt := 37) hx hb dX8_isOf_33 (by decide) ?_
      cases h
      exact rr_Z (v := 1) C hR hS (by decide) dX8_isOf_37
theorem ck_X8_isOf  {x0 : Nat} {x1 : Int32} {x2 : Int32} {M : Mem} {r : Int32} (h : f_X8_isOf  x0 x1 x2 M = some r) : kd M x0 = 18 := by
  unfold f_X8_isOf at h
  exact ck h
set_option maxHeartbeats 4000000 in
set_option maxRecDepth 100000 in
theorem ok_X8_isOf  {x0 : Nat} {x1 : Int32} {x2 : Int32}  {M : Mem} {r : Int32}  (h : f_X8_isOf  x0 x1 x2 M = some r) : Ok l yX8_isOf cX8_isOf 4 (some .boolean) 0 [.ref (B + x0), .int x1, .int x2] D B ca st M (some (.int r)) M := by
  have hk0 := ck_X8_isOf h
  unfold f_X8_isOf at h
  have h := ip hk0 h
  refine ok_of rfl rfl (Nat.le_of_ble_eq_true rfl) ?_
  intro p e s m args below meth c ls C hl hR hS
  have hl : lv_has ls 4 [(0, .ref (B + x0)), (1, .int x1), (2, .int x2)] := hl
  have hx := C.1
  have hb := C.2.1
  refine lv_aload_n hx hb dX8_isOf_0 rfl (lv_at hl 0 rfl) ?_
  obtain ⟨v1, zqe2, h⟩ := ob h
  refine gf950 C hR zqe2 dX8_isOf_1 ?_
  refine lv_iload_n hx hb dX8_isOf_4 rfl (lv_at hl 1 rfl) ?_
  obtain ⟨v3, zqe4, h⟩ := ob h
  refine ra_I C hR zqe4 dX8_isOf_5 ?_
  refine lv_istore_n (lv' := [(3, .int v3), (0, .ref (B + x0)), (1, .int x1), (2, .int x2)]) hx hb dX8_isOf_6 rfl hl (by decide) rfl (fun ls hl => ?_)
  refine lv_iload_n hx hb dX8_isOf_7 rfl (lv_at hl 0 rfl) ?_
  refine lv_iload_n hx hb dX8_isOf_8 rfl (lv_at hl 3 rfl) ?_
  refine lv_icmp_eq (tgt := 32) hx hb dX8_isOf_9 (by decide) (fun c => ?_) (fun c => ?_)
  · have h := ip c h
    refine lv_iconst (v := 1) hx hb dX8_isOf_32 (by decide) ?_
    refine lv_goto (tgt := 37) hx hb dX8_isOf_33 (by decide) ?_
    cases h
    exact rr_Z (v := 1) C hR hS (by decide) dX8_isOf_37
  · have h := iq c h
    refine lv_iload_n hx hb dX8_isOf_12 rfl (lv_at hl 3 rfl) ?_
    refine lv_iconst (v := 1) hx hb dX8_isOf_13 (by decide) ?_
    refine lv_icmp_ne (tgt := 22) hx hb dX8_isOf_14 (by decide) (fun c => ?_) (fun c => ?_)
    · have h := iq c h
      exact w_X8_isOf_22 C  h hR hS (lv_sub hl [3, 0] rfl)
    · have h := ip c h
      refine lv_iload_n hx hb dX8_isOf_17 rfl (lv_at hl 0 rfl) ?_
      refine lv_iconst (v := 4) hx hb dX8_isOf_18 (by decide) ?_
      refine lv_icmp_eq (tgt := 32) hx hb dX8_isOf_19 (by decide) (fun c => ?_) (fun c => ?_)
      · have h := ip c h
        refine lv_iconst (v := 1) hx hb dX8_isOf_32 (by decide) ?_
        refine lv_goto (tgt := 37) hx hb dX8_isOf_33 (by decide) ?_
        cases h
        exact rr_Z (v := 1) C hR hS (by decide) dX8_isOf_37
      · have h := iq c h
        exact w_X8_isOf_22 C  h hR hS (lv_sub hl [3, 0] rfl)
set_option maxHeartbeats 4000000 in
set_option maxRecDepth 100000 in
theorem w_X8_those_4    {r : Int32} (C : Cx p s m args meth c RX8 cX8_those 4 (some .int) D B ca st)   : ∀ (n : Nat) {x0 : Nat} {x1 : Int32} {x2 : Int32} {x3 : Int32} {M : Mem}, f_X8_those_4  n x0 x1 x2 x3 M = some r → ∀ {H : Heap} {locs : List Loc} {ls : Array Slot}, RH D B ca M H → va_S (AA B) s.heap H locs → lv_has ls 4 [(0, .ref (B + x0)), (1, .int x1), (2, .int x2), (3, .int x3)] → W p l e (rmD 1) s m args below meth c H locs 0 0 (MQ below (Qp D B ca st (some (.int r)) M) args s 0 0 (AA B)) (F0 m 4 ls []) := by
  have hx := C.1
  have hb := C.2.1
  intro n
  induction n with
  | zero => intro x0 x1 x2 x3 M h; simp [f_X8_those_4] at h
  | succ n ih =>
    intro x0 x1 x2 x3 M h H locs ls hR hS hl
    rw [f_X8_those_4] at h
    refine lv_iload_n hx hb dX8_those_4 rfl (lv_at hl 3 rfl) ?_
    refine lv_aload_n hx hb dX8_those_5 rfl (lv_at hl 0 rfl) ?_
    obtain ⟨v1, zqe2, h⟩ := ob h
    refine gf949 C hR zqe2 dX8_those_6 ?_
    refine lv_icmp_ge (tgt := 35) hx hb dX8_those_9 (by decide) (fun c => ?_) (fun c => ?_)
    · have h := ip c h
      refine lv_iload_n hx hb dX8_those_35 rfl (lv_at hl 2 rfl) ?_
      cases h
      exact rr_I C hR hS dX8_those_36
    · have h := iq c h
      refine lv_iload_n hx hb dX8_those_12 rfl (lv_at hl 2 rfl) ?_
      refine lv_aload_n hx hb dX8_those_13 rfl (lv_at hl 0 rfl) ?_
      refine lv_iload_n hx hb dX8_those_14 rfl (lv_at hl 3 rfl) ?_
      refine lv_iload_n hx hb dX8_those_15 rfl (lv_at hl 1 rfl) ?_
      obtain ⟨v4, zqe3, h⟩ := ob h
      refine rc_V C hR hS cf_X8_isOf cv_X8_isOf lk1198 (ok_X8_isOf zqe3) (ck_X8_isOf zqe3) ⟨Nat.le_of_ble_eq_true rfl, Nat.le_of_ble_eq_true rfl⟩ ⟨Nat.zero_le _, Nat.zero_le _⟩ rfl rfl hl.1 (Nat.le_of_ble_eq_true rfl) dX8_those_16 (rc_k1 (fun H locs hR hS => ?_))
      refine lv_if_eq (tgt := 26) hx hb dX8_those_19 (by decide) (fun c => ?_) (fun c => ?_)
      · have h := ip c h
        refine lv_iconst (v := 0) hx hb dX8_those_26 (by decide) ?_
        refine lv_iadd hx hb dX8_those_27 ?_
        refine lv_istore_n (lv' := [(2, .int (x2 + 0)), (0, .ref (B + x0)), (1, .int x1), (3, .int x3)]) hx hb dX8_those_28 rfl hl (by decide) rfl (fun ls hl => ?_)
        refine lv_iinc (v := (x3 + 1)) (lv' := [(3, .int (x3 + 1)), (2, .int (x2 + 0)), (0, .ref (B + x0)), (1, .int x1)]) hx hb dX8_those_29 hl (k := 3) rfl rfl (by decide) rfl (fun ls hl => ?_)
        refine lv_goto (tgt := 4) hx hb dX8_those_32 (by decide) ?_
        exact ih h hR hS (lv_sub hl [2, 3, 1, 0] rfl)
      · have h := iq c h
        refine lv_iconst (v := 1) hx hb dX8_those_22 (by decide) ?_
        refine lv_goto (tgt := 27) hx hb dX8_those_23 (by decide) ?_
        refine lv_iadd hx hb dX8_those_27 ?_
        refine lv_istore_n (lv' := [(2, .int (x2 + 1)), (0, .ref (B + x0)), (1, .int x1), (3, .int x3)]) hx hb dX8_those_28 rfl hl (by decide) rfl (fun ls hl => ?_)
        refine lv_iinc (v := (x3 + 1)) (lv' := [(3, .int (x3 + 1)), (2, .int (x2 + 1)), (0, .ref (B + x0)), (1, .int x1)]) hx hb dX8_those_29 hl (k := 3) rfl rfl (by decide) rfl (fun ls hl => ?_)
        refine lv_goto (tgt := 4) hx hb dX8_those_32 (by decide) ?_
        exact ih h hR hS (lv_sub hl [2, 3, 1, 0] rfl)
theorem ck_X8_those  {x0 : Nat} {x1 : Int32} {M : Mem} {r : Int32} (h : f_X8_those  x0 x1 M = some r) : kd M x0 = 18 := by
  unfold f_X8_those at h
  exact ck h
set_option maxHeartbeats 4000000 in
set_option maxRecDepth 100000 in
theorem ok_X8_those  {x0 : Nat} {x1 : Int32}  {M : Mem} {r : Int32}  (h : f_X8_those  x0 x1 M = some r) : Ok l yX8_those cX8_those 4 (some .int) 1 [.ref (B + x0), .int x1] D B ca st M (some (.int r)) M := by
  have hk0 := ck_X8_those h
  unfold f_X8_those at h
  have h := ip hk0 h
  refine ok_of rfl rfl (Nat.le_of_ble_eq_true rfl) ?_
  intro p e s m args below meth c ls C hl hR hS
  have hl : lv_has ls 4 [(0, .ref (B + x0)), (1, .int x1)] := hl
  have hx := C.1
  have hb := C.2.1
  refine lv_iconst (v := 0) hx hb dX8_those_0 (by decide) ?_
  refine lv_istore_n (lv' := [(2, .int 0), (0, .ref (B + x0)), (1, .int x1)]) hx hb dX8_those_1 rfl hl (by decide) rfl (fun ls hl => ?_)
  refine lv_iconst (v := 0) hx hb dX8_those_2 (by decide) ?_
  refine lv_istore_n (lv' := [(3, .int 0), (2, .int 0), (0, .ref (B + x0)), (1, .int x1)]) hx hb dX8_those_3 rfl hl (by decide) rfl (fun ls hl => ?_)
  exact w_X8_those_4 C  FU h hR hS (lv_sub hl [2, 3, 1, 0] rfl)
theorem ck_X8_countOf  {x0 : Nat} {x1 : Int32} {M : Mem} {r : Int32} (h : f_X8_countOf  x0 x1 M = some r) : kd M x0 = 18 := by
  unfold f_X8_countOf at h
  exact ck h
set_option maxHeartbeats 4000000 in
set_option maxRecDepth 100000 in
theorem ok_X8_countOf  {x0 : Nat} {x1 : Int32}  {M : Mem} {r : Int32}  (h : f_X8_countOf  x0 x1 M = some r) : Ok l yX8_countOf cX8_countOf 2 (some .int) 2 [.ref (B + x0), .int x1] D B ca st M (some (.int r)) M := by
  have hk0 := ck_X8_countOf h
  unfold f_X8_countOf at h
  have h := ip hk0 h
  refine ok_of rfl rfl (Nat.le_of_ble_eq_true rfl) ?_
  intro p e s m args below meth c ls C hl hR hS
  have hl : lv_has ls 2 [(0, .ref (B + x0)), (1, .int x1)] := hl
  have hx := C.1
  have hb := C.2.1
  refine lv_iload_n hx hb dX8_countOf_0 rfl (lv_at hl 1 rfl) ?_
  by_cases zqc1 : x1 = 0
  · have h := ip zqc1 h
    refine lv_tableIn (off := 47) (tgt := 48) hx hb dX8_countOf_1 (by rw [zqc1]; decide) (by rw [zqc1]; decide) (by rw [zqc1]; decide +kernel) (by decide) ?_
    refine lv_aload_n hx hb dX8_countOf_48 rfl (lv_at hl 0 rfl) ?_
    obtain ⟨v2, zqe3, h⟩ := ob h
    refine gf949 C hR zqe3 dX8_countOf_49 ?_
    cases h
    exact rr_I C hR hS dX8_countOf_52
  have h := iq zqc1 h
  by_cases zqc4 : x1 = 1
  · have h := ip zqc4 h
    refine lv_tableIn (off := 52) (tgt := 53) hx hb dX8_countOf_1 (by rw [zqc4]; decide) (by rw [zqc4]; decide) (by rw [zqc4]; decide +kernel) (by decide) ?_
    refine lv_aload_n hx hb dX8_countOf_53 rfl (lv_at hl 0 rfl) ?_
    obtain ⟨v5, zqe6, h⟩ := ob h
    refine gf952 C hR zqe6 dX8_countOf_54 ?_
    cases h
    exact rr_I C hR hS dX8_countOf_57
  have h := iq zqc4 h
  by_cases zqc7 : x1 = 2
  · have h := ip zqc7 h
    refine lv_tableIn (off := 57) (tgt := 58) hx hb dX8_countOf_1 (by rw [zqc7]; decide) (by rw [zqc7]; decide) (by rw [zqc7]; decide +kernel) (by decide) ?_
    refine lv_aload_n hx hb dX8_countOf_58 rfl (lv_at hl 0 rfl) ?_
    obtain ⟨v8, zqe9, h⟩ := ob h
    refine gf948 C hR zqe9 dX8_countOf_59 ?_
    refine lv_iconst (v := 0) hx hb dX8_countOf_62 (by decide) ?_
    obtain ⟨v10, zqe11, h⟩ := ob h
    refine ra_I C hR zqe11 dX8_countOf_63 ?_
    cases h
    exact rr_I C hR hS dX8_countOf_64
  have h := iq zqc7 h
  by_cases zqc12 : x1 = 3
  · have h := ip zqc12 h
    refine lv_tableIn (off := 64) (tgt := 65) hx hb dX8_countOf_1 (by rw [zqc12]; decide) (by rw [zqc12]; decide) (by rw [zqc12]; decide +kernel) (by decide) ?_
    refine lv_aload_n hx hb dX8_countOf_65 rfl (lv_at hl 0 rfl) ?_
    obtain ⟨v13, zqe14, h⟩ := ob h
    refine gf948 C hR zqe14 dX8_countOf_66 ?_
    refine lv_iconst (v := 1) hx hb dX8_countOf_69 (by decide) ?_
    obtain ⟨v15, zqe16, h⟩ := ob h
    refine ra_I C hR zqe16 dX8_countOf_70 ?_
    cases h
    exact rr_I C hR hS dX8_countOf_71
  have h := iq zqc12 h
  by_cases zqc17 : x1 = 4
  · have h := ip zqc17 h
    refine lv_tableIn (off := 71) (tgt := 72) hx hb dX8_countOf_1 (by rw [zqc17]; decide) (by rw [zqc17]; decide) (by rw [zqc17]; decide +kernel) (by decide) ?_
    refine lv_aload_n hx hb dX8_countOf_72 rfl (lv_at hl 0 rfl) ?_
    obtain ⟨v18, zqe19, h⟩ := ob h
    refine gf948 C hR zqe19 dX8_countOf_73 ?_
    refine lv_iconst (v := 2) hx hb dX8_countOf_76 (by decide) ?_
    obtain ⟨v20, zqe21, h⟩ := ob h
    refine ra_I C hR zqe21 dX8_countOf_77 ?_
    cases h
    exact rr_I C hR hS dX8_countOf_78
  have h := iq zqc17 h
  by_cases zqc22 : x1 = 5
  · have h := ip zqc22 h
    refine lv_tableIn (off := 78) (tgt := 79) hx hb dX8_countOf_1 (by rw [zqc22]; decide) (by rw [zqc22]; decide) (by rw [zqc22]; decide +kernel) (by decide) ?_
    refine lv_aload_n hx hb dX8_countOf_79 rfl (lv_at hl 0 rfl) ?_
    obtain ⟨v24, zqe23, h⟩ := ob h
    refine rc_V C hR hS cf_X8_allBreath cv_X8_allBreath lk1442 (ok_X8_allBreath zqe23) (ck_X8_allBreath zqe23) ⟨Nat.le_of_ble_eq_true rfl, Nat.le_of_ble_eq_true rfl⟩ ⟨Nat.zero_le _, Nat.zero_le _⟩ rfl rfl hl.1 (Nat.le_of_ble_eq_true rfl) dX8_countOf_80 (rc_k1 (fun H locs hR hS => ?_))
    cases h
    exact rr_I C hR hS dX8_countOf_83
  have h := iq zqc22 h
  by_cases zqc25 : x1 = 6
  · have h := ip zqc25 h
    refine lv_tableIn (off := 83) (tgt := 84) hx hb dX8_countOf_1 (by rw [zqc25]; decide) (by rw [zqc25]; decide) (by rw [zqc25]; decide +kernel) (by decide) ?_
    refine lv_aload_n hx hb dX8_countOf_84 rfl (lv_at hl 0 rfl) ?_
    refine lv_iconst (v := 1) hx hb dX8_countOf_85 (by decide) ?_
    obtain ⟨v27, zqe26, h⟩ := ob h
    refine rc_V C hR hS cf_X8_those cv_X8_those lk1446 (ok_X8_those zqe26) (ck_X8_those zqe26) ⟨Nat.le_of_ble_eq_true rfl, Nat.le_of_ble_eq_true rfl⟩ ⟨Nat.zero_le _, Nat.zero_le _⟩ rfl rfl hl.1 (Nat.le_of_ble_eq_true rfl) dX8_countOf_86 (rc_k1 (fun H locs hR hS => ?_))
    cases h
    exact rr_I C hR hS dX8_countOf_89
  have h := iq zqc25 h
  by_cases zqc28 : x1 = 7
  · have h := ip zqc28 h
    refine lv_tableIn (off := 89) (tgt := 90) hx hb dX8_countOf_1 (by rw [zqc28]; decide) (by rw [zqc28]; decide) (by rw [zqc28]; decide +kernel) (by decide) ?_
    refine lv_aload_n hx hb dX8_countOf_90 rfl (lv_at hl 0 rfl) ?_
    refine lv_iconst (v := 2) hx hb dX8_countOf_91 (by decide) ?_
    obtain ⟨v30, zqe29, h⟩ := ob h
    refine rc_V C hR hS cf_X8_those cv_X8_those lk1446 (ok_X8_those zqe29) (ck_X8_those zqe29) ⟨Nat.le_of_ble_eq_true rfl, Nat.le_of_ble_eq_true rfl⟩ ⟨Nat.zero_le _, Nat.zero_le _⟩ rfl rfl hl.1 (Nat.le_of_ble_eq_true rfl) dX8_countOf_92 (rc_k1 (fun H locs hR hS => ?_))
    cases h
    exact rr_I C hR hS dX8_countOf_95
  have h := iq zqc28 h
  refine lv_tableOut (tgt := 96) hx hb dX8_countOf_1 (by have q0 := lv_neT (a := 0) zqc1 (by decide); have q1 := lv_neT (a := 1) zqc4 (by decide); have q2 := lv_neT (a := 2) zqc7 (by decide); have q3 := lv_neT (a := 3) zqc12 (by decide); have q4 := lv_neT (a := 4) zqc17 (by decide); have q5 := lv_neT (a := 5) zqc22 (by decide); have q6 := lv_neT (a := 6) zqc25 (by decide); have q7 := lv_neT (a := 7) zqc28 (by decide); omega) (by decide) ?_
  refine lv_aload_n hx hb dX8_countOf_96 rfl (lv_at hl 0 rfl) ?_
  refine lv_iload_n hx hb dX8_countOf_97 rfl (lv_at hl 1 rfl) ?_
  obtain ⟨v32, zqe31, h⟩ := ob h
  refine rc_V C hR hS cf_X8_thereOf cv_X8_thereOf lk1450 (ok_X8_thereOf zqe31) (ck_X8_thereOf zqe31) ⟨Nat.le_of_ble_eq_true rfl, Nat.le_of_ble_eq_true rfl⟩ ⟨Nat.zero_le _, Nat.zero_le _⟩ rfl rfl hl.1 (Nat.le_of_ble_eq_true rfl) dX8_countOf_98 (rc_k1 (fun H locs hR hS => ?_))
  cases h
  exact rr_I C hR hS dX8_countOf_101
theorem ck_X8_count  {x0 : Nat} {x1 : Int32} {M : Mem} {r : Int32} (h : f_X8_count  x0 x1 M = some r) : kd M x0 = 18 := by
  unfold f_X8_count at h
  exact ck h
set_option maxHeartbeats 4000000 in
set_option maxRecDepth 100000 in
theorem ok_X8_count  {x0 : Nat} {x1 : Int32}  {M : Mem} {r : Int32}  (h : f_X8_count  x0 x1 M = some r) : Ok l yX8_count cX8_count 2 (some .int) 3 [.ref (B + x0), .int x1] D B ca st M (some (.int r)) M := by
  have hk0 := ck_X8_count h
  unfold f_X8_count at h
  have h := ip hk0 h
  refine ok_of rfl rfl (Nat.le_of_ble_eq_true rfl) ?_
  intro p e s m args below meth c ls C hl hR hS
  have hl : lv_has ls 2 [(0, .ref (B + x0)), (1, .int x1)] := hl
  have hx := C.1
  have hb := C.2.1
  refine lv_iload_n hx hb dX8_count_0 rfl (lv_at hl 1 rfl) ?_
  refine lv_i2l (v := (Int32.toInt64 x1)) hx hb dX8_count_1 rfl ?_
  refine lv_lconst (v := 0) hx hb dX8_count_2 (by decide) ?_
  refine lv_ldc2 hx hb C.2.2.2.1 (C.2.2.2.2.1 _ lk1437) dX8_count_3 ?_
  refine rc_S C hR hS cf_X8_in cs_X8_in lk1059 (ok_X8_in (Int32.toInt64 x1) 0 10) ⟨Nat.le_of_ble_eq_true rfl, Nat.le_of_ble_eq_true rfl⟩ ⟨Nat.zero_le _, Nat.zero_le _⟩ rfl rfl hl.1 (Nat.le_of_ble_eq_true rfl) dX8_count_6 (rc_k1 (fun H locs hR hS => ?_))
  refine lv_if_eq (tgt := 20) hx hb dX8_count_9 (by decide) (fun c => ?_) (fun c => ?_)
  · have h := ip c h
    refine lv_iconst (v := (-1)) hx hb dX8_count_20 (by decide) ?_
    cases h
    exact rr_I C hR hS dX8_count_21
  · have h := iq c h
    refine lv_aload_n hx hb dX8_count_12 rfl (lv_at hl 0 rfl) ?_
    refine lv_iload_n hx hb dX8_count_13 rfl (lv_at hl 1 rfl) ?_
    obtain ⟨v3, zqe2, h⟩ := ob h
    refine rc_V C hR hS cf_X8_countOf cv_X8_countOf lk1438 (ok_X8_countOf zqe2) (ck_X8_countOf zqe2) ⟨Nat.le_of_ble_eq_true rfl, Nat.le_of_ble_eq_true rfl⟩ ⟨Nat.zero_le _, Nat.zero_le _⟩ rfl rfl hl.1 (Nat.le_of_ble_eq_true rfl) dX8_count_14 (rc_k1 (fun H locs hR hS => ?_))
    refine lv_goto (tgt := 21) hx hb dX8_count_17 (by decide) ?_
    cases h
    exact rr_I C hR hS dX8_count_21
theorem ck_X8_taken  {x0 : Nat} {x1 : Int32} {x2 : Int32} {M : Mem} {r : Int32} (h : f_X8_taken  x0 x1 x2 M = some r) : kd M x0 = 18 := by
  unfold f_X8_taken at h
  exact ck h
set_option maxHeartbeats 4000000 in
set_option maxRecDepth 100000 in
theorem ok_X8_taken  {x0 : Nat} {x1 : Int32} {x2 : Int32}  {M : Mem} {r : Int32}  (h : f_X8_taken  x0 x1 x2 M = some r) : Ok l yX8_taken cX8_taken 3 (some .int) 2 [.ref (B + x0), .int x1, .int x2] D B ca st M (some (.int r)) M := by
  have hk0 := ck_X8_taken h
  unfold f_X8_taken at h
  have h := ip hk0 h
  refine ok_of rfl rfl (Nat.le_of_ble_eq_true rfl) ?_
  intro p e s m args below meth c ls C hl hR hS
  have hl : lv_has ls 3 [(0, .ref (B + x0)), (1, .int x1), (2, .int x2)] := hl
  have hx := C.1
  have hb := C.2.1
  refine lv_aload_n hx hb dX8_taken_0 rfl (lv_at hl 0 rfl) ?_
  obtain ⟨v1, zqe2, h⟩ := ob h
  refine gf950 C hR zqe2 dX8_taken_1 ?_
  refine lv_iload_n hx hb dX8_taken_4 rfl (lv_at hl 1 rfl) ?_
  obtain ⟨v3, zqe4, h⟩ := ob h
  refine ra_I C hR zqe4 dX8_taken_5 ?_
  refine lv_aload_n hx hb dX8_taken_6 rfl (lv_at hl 0 rfl) ?_
  obtain ⟨v5, zqe6, h⟩ := ob h
  refine gf954 C hR zqe6 dX8_taken_7 ?_
  refine lv_iload_n hx hb dX8_taken_10 rfl (lv_at hl 2 rfl) ?_
  obtain ⟨v7, zqe8, h⟩ := ob h
  refine ra_I C hR zqe8 dX8_taken_11 ?_
  refine rc_S C hR hS cf_X8_takesOf cs_X8_takesOf lk1176 (ok_X8_takesOf v3 v7) ⟨Nat.le_of_ble_eq_true rfl, Nat.le_of_ble_eq_true rfl⟩ ⟨Nat.zero_le _, Nat.zero_le _⟩ rfl rfl hl.1 (Nat.le_of_ble_eq_true rfl) dX8_taken_12 (rc_k1 (fun H locs hR hS => ?_))
  cases h
  exact rr_I C hR hS dX8_taken_15
theorem ck_X8_can  {x0 : Nat} {x1 : Int32} {x2 : Int32} {x3 : Int32} {M : Mem} {r : Int32} (h : f_X8_can  x0 x1 x2 x3 M = some r) : kd M x0 = 18 := by
  unfold f_X8_can at h
  exact ck h
set_option maxHeartbeats 4000000 in
set_option maxRecDepth 100000 in
theorem ok_X8_can  {x0 : Nat} {x1 : Int32} {x2 : Int32} {x3 : Int32}  {M : Mem} {r : Int32}  (h : f_X8_can  x0 x1 x2 x3 M = some r) : Ok l yX8_can cX8_can 4 (some .boolean) 3 [.ref (B + x0), .int x1, .int x2, .int x3] D B ca st M (some (.int r)) M := by
  have hk0 := ck_X8_can h
  unfold f_X8_can at h
  have h := ip hk0 h
  refine ok_of rfl rfl (Nat.le_of_ble_eq_true rfl) ?_
  intro p e s m args below meth c ls C hl hR hS
  have hl : lv_has ls 4 [(0, .ref (B + x0)), (1, .int x1), (2, .int x2), (3, .int x3)] := hl
  have hx := C.1
  have hb := C.2.1
  refine lv_aload_n hx hb dX8_can_0 rfl (lv_at hl 0 rfl) ?_
  obtain ⟨v1, zqe2, h⟩ := ob h
  refine gf948 C hR zqe2 dX8_can_1 ?_
  refine lv_iload_n hx hb dX8_can_4 rfl (lv_at hl 1 rfl) ?_
  refine lv_iconst (v := 2) hx hb dX8_can_5 (by decide) ?_
  refine lv_iadd hx hb dX8_can_6 ?_
  obtain ⟨v3, zqe4, h⟩ := ob h
  refine ra_I C hR zqe4 dX8_can_7 ?_
  refine lv_iload_n hx hb dX8_can_8 rfl (lv_at hl 3 rfl) ?_
  refine rc_S C hR hS cf_X8_has cs_X8_has lk1166 (ok_X8_has v3 x3) ⟨Nat.le_of_ble_eq_true rfl, Nat.le_of_ble_eq_true rfl⟩ ⟨Nat.zero_le _, Nat.zero_le _⟩ rfl rfl hl.1 (Nat.le_of_ble_eq_true rfl) dX8_can_9 (rc_k1 (fun H locs hR hS => ?_))
  refine lv_if_ne (tgt := 56) hx hb dX8_can_12 (by decide) (fun c => ?_) (fun c => ?_)
  · have h := iq c h
    refine lv_iconst (v := 0) hx hb dX8_can_56 (by decide) ?_
    cases h
    exact rr_Z (v := 0) C hR hS (by decide) dX8_can_57
  · have h := ip c h
    refine lv_aload_n hx hb dX8_can_15 rfl (lv_at hl 0 rfl) ?_
    obtain ⟨v6, zqe7, h⟩ := ob h
    refine gf950 C hR zqe7 dX8_can_16 ?_
    refine lv_iload_n hx hb dX8_can_19 rfl (lv_at hl 2 rfl) ?_
    obtain ⟨v8, zqe9, h⟩ := ob h
    refine ra_I C hR zqe9 dX8_can_20 ?_
    refine lv_aload_n hx hb dX8_can_21 rfl (lv_at hl 0 rfl) ?_
    obtain ⟨v10, zqe11, h⟩ := ob h
    refine gf954 C hR zqe11 dX8_can_22 ?_
    refine lv_iload_n hx hb dX8_can_25 rfl (lv_at hl 3 rfl) ?_
    obtain ⟨v12, zqe13, h⟩ := ob h
    refine ra_I C hR zqe13 dX8_can_26 ?_
    refine rc_S C hR hS cf_X8_isTooDeep cs_X8_isTooDeep lk1169 (ok_X8_isTooDeep v8 v12) ⟨Nat.le_of_ble_eq_true rfl, Nat.le_of_ble_eq_true rfl⟩ ⟨Nat.zero_le _, Nat.zero_le _⟩ rfl rfl hl.1 (Nat.le_of_ble_eq_true rfl) dX8_can_27 (rc_k1 (fun H locs hR hS => ?_))
    refine lv_if_ne (tgt := 56) hx hb dX8_can_30 (by decide) (fun c => ?_) (fun c => ?_)
    · have h := iq c h
      refine lv_iconst (v := 0) hx hb dX8_can_56 (by decide) ?_
      cases h
      exact rr_Z (v := 0) C hR hS (by decide) dX8_can_57
    · have h := ip c h
      refine lv_aload_n hx hb dX8_can_33 rfl (lv_at hl 0 rfl) ?_
      obtain ⟨v15, zqe16, h⟩ := ob h
      refine gf948 C hR zqe16 dX8_can_34 ?_
      refine lv_iload_n hx hb dX8_can_37 rfl (lv_at hl 1 rfl) ?_
      refine lv_iconst (v := 3) hx hb dX8_can_38 (by decide) ?_
      refine lv_iadd hx hb dX8_can_39 ?_
      refine lv_iload_n hx hb dX8_can_40 rfl (lv_at hl 2 rfl) ?_
      refine lv_iadd hx hb dX8_can_41 ?_
      obtain ⟨v17, zqe18, h⟩ := ob h
      refine ra_I C hR zqe18 dX8_can_42 ?_
      refine lv_aload_n hx hb dX8_can_43 rfl (lv_at hl 0 rfl) ?_
      refine lv_iload_n hx hb dX8_can_44 rfl (lv_at hl 2 rfl) ?_
      refine lv_iload_n hx hb dX8_can_45 rfl (lv_at hl 3 rfl) ?_
      obtain ⟨v20, zqe19, h⟩ := ob h
      refine rc_V C hR hS cf_X8_taken cv_X8_taken lk1172 (ok_X8_taken zqe19) (ck_X8_taken zqe19) ⟨Nat.le_of_ble_eq_true rfl, Nat.le_of_ble_eq_true rfl⟩ ⟨Nat.zero_le _, Nat.zero_le _⟩ rfl rfl hl.1 (Nat.le_of_ble_eq_true rfl) dX8_can_46 (rc_k1 (fun H locs hR hS => ?_))
      refine lv_icmp_lt (tgt := 56) hx hb dX8_can_49 (by decide) (fun c => ?_) (fun c => ?_)
      · have h := ip c h
        refine lv_iconst (v := 0) hx hb dX8_can_56 (by decide) ?_
        cases h
        exact rr_Z (v := 0) C hR hS (by decide) dX8_can_57
      · have h := iq c h
        refine lv_iconst (v := 1) hx hb dX8_can_52 (by decide) ?_
        refine lv_goto (tgt := 57) hx hb dX8_can_53 (by decide) ?_
        cases h
        exact rr_Z (v := 1) C hR hS (by decide) dX8_can_57
set_option maxHeartbeats 4000000 in
set_option maxRecDepth 100000 in
theorem w_X8_orderTold_67    {r : Int32} (C : Cx p s m args meth c RX8 cX8_orderTold 5 (some .int) D B ca st)   : ∀ (n : Nat) {x0 : Nat} {x1 : Int32} {x3 : Int32} {x4 : Int32} {M : Mem}, f_X8_orderTold_67  n x0 x1 x3 x4 M = some r → ∀ {H : Heap} {locs : List Loc} {ls : Array Slot}, RH D B ca M H → va_S (AA B) s.heap H locs → lv_has ls 5 [(0, .ref (B + x0)), (1, .int x1), (3, .int x3), (4, .int x4)] → W p l e (rmD 4) s m args below meth c H locs 0 0 (MQ below (Qp D B ca st (some (.int r)) M) args s 0 0 (AA B)) (F0 m 67 ls []) := by
  have hx := C.1
  have hb := C.2.1
  intro n
  induction n with
  | zero => intro x0 x1 x3 x4 M h; simp [f_X8_orderTold_67] at h
  | succ n ih =>
    intro x0 x1 x3 x4 M h H locs ls hR hS hl
    rw [f_X8_orderTold_67] at h
    refine lv_iload hx hb dX8_orderTold_67 (lv_at hl 3 rfl) ?_
    refine lv_aload_n hx hb dX8_orderTold_69 rfl (lv_at hl 0 rfl) ?_
    obtain ⟨v21, zqe22, h⟩ := ob h
    refine gf949 C hR zqe22 dX8_orderTold_70 ?_
    refine lv_icmp_ge (tgt := 104) hx hb dX8_orderTold_73 (by decide) (fun c => ?_) (fun c => ?_)
    · have h := ip c h
      refine lv_iload_n hx hb dX8_orderTold_104 rfl (lv_at hl 2 rfl) ?_
      cases h
      exact rr_I C hR hS dX8_orderTold_105
    · have h := iq c h
      refine lv_iload_n hx hb dX8_orderTold_76 rfl (lv_at hl 2 rfl) ?_
      refine lv_aload_n hx hb dX8_orderTold_77 rfl (lv_at hl 0 rfl) ?_
      refine lv_iconst (v := 0) hx hb dX8_orderTold_78 (by decide) ?_
      refine lv_iload hx hb dX8_orderTold_79 (lv_at hl 3 rfl) ?_
      refine lv_iload_n hx hb dX8_orderTold_81 rfl (lv_at hl 1 rfl) ?_
      obtain ⟨v24, zqe23, h⟩ := ob h
      refine rc_V C hR hS cf_X8_can cv_X8_can lk1162 (ok_X8_can zqe23) (ck_X8_can zqe23) ⟨Nat.le_of_ble_eq_true rfl, Nat.le_of_ble_eq_true rfl⟩ ⟨Nat.zero_le _, Nat.zero_le _⟩ rfl rfl hl.1 (Nat.le_of_ble_eq_true rfl) dX8_orderTold_82 (rc_k1 (fun H locs hR hS => ?_))
      refine lv_if_eq (tgt := 95) hx hb dX8_orderTold_85 (by decide) (fun c => ?_) (fun c => ?_)
      · have h := ip c h
        refine lv_iconst (v := 0) hx hb dX8_orderTold_95 (by decide) ?_
        refine lv_ior hx hb dX8_orderTold_96 ?_
        refine lv_istore_n (lv' := [(3, .int (x3 ||| 0)), (0, .ref (B + x0)), (1, .int x1), (4, .int x4)]) hx hb dX8_orderTold_97 rfl hl (by decide) rfl (fun ls hl => ?_)
        refine lv_iinc (v := (x4 + 1)) (lv' := [(4, .int (x4 + 1)), (3, .int (x3 ||| 0)), (0, .ref (B + x0)), (1, .int x1)]) hx hb dX8_orderTold_98 hl (k := 3) rfl rfl (by decide) rfl (fun ls hl => ?_)
        refine lv_goto (tgt := 67) hx hb dX8_orderTold_101 (by decide) ?_
        exact ih h hR hS (lv_sub hl [2, 3, 1, 0] rfl)
      · have h := iq c h
        refine lv_iconst (v := 1) hx hb dX8_orderTold_88 (by decide) ?_
        refine lv_iload hx hb dX8_orderTold_89 (lv_at hl 3 rfl) ?_
        refine lv_ishl hx hb dX8_orderTold_91 ?_
        refine lv_goto (tgt := 96) hx hb dX8_orderTold_92 (by decide) ?_
        refine lv_ior hx hb dX8_orderTold_96 ?_
        refine lv_istore_n (lv' := [(3, .int (x3 ||| (1 <<< (x4 &&& 31)))), (0, .ref (B + x0)), (1, .int x1), (4, .int x4)]) hx hb dX8_orderTold_97 rfl hl (by decide) rfl (fun ls hl => ?_)
        refine lv_iinc (v := (x4 + 1)) (lv' := [(4, .int (x4 + 1)), (3, .int (x3 ||| (1 <<< (x4 &&& 31)))), (0, .ref (B + x0)), (1, .int x1)]) hx hb dX8_orderTold_98 hl (k := 3) rfl rfl (by decide) rfl (fun ls hl => ?_)
        refine lv_goto (tgt := 67) hx hb dX8_orderTold_101 (by decide) ?_
        exact ih h hR hS (lv_sub hl [2, 3, 1, 0] rfl)
theorem ck_X8_orderTold  {x0 : Nat} {x1 : Int32} {x2 : Int32} {M : Mem} {r : Int32} (h : f_X8_orderTold  x0 x1 x2 M = some r) : kd M x0 = 18 := by
  unfold f_X8_orderTold at h
  exact ck h
set_option maxHeartbeats 4000000 in
set_option maxRecDepth 100000 in
theorem ok_X8_orderTold  {x0 : Nat} {x1 : Int32} {x2 : Int32}  {M : Mem} {r : Int32}  (h : f_X8_orderTold  x0 x1 x2 M = some r) : Ok l yX8_orderTold cX8_orderTold 5 (some .int) 4 [.ref (B + x0), .int x1, .int x2] D B ca st M (some (.int r)) M := by
  have hk0 := ck_X8_orderTold h
  unfold f_X8_orderTold at h
  have h := ip hk0 h
  refine ok_of rfl rfl (Nat.le_of_ble_eq_true rfl) ?_
  intro p e s m args below meth c ls C hl hR hS
  have hl : lv_has ls 5 [(0, .ref (B + x0)), (1, .int x1), (2, .int x2)] := hl
  have hx := C.1
  have hb := C.2.1
  refine lv_iconst (v := 0) hx hb dX8_orderTold_0 (by decide) ?_
  refine lv_istore_n (lv' := [(3, .int 0), (0, .ref (B + x0)), (1, .int x1), (2, .int x2)]) hx hb dX8_orderTold_1 rfl hl (by decide) rfl (fun ls hl => ?_)
  refine lv_iload_n hx hb dX8_orderTold_2 rfl (lv_at hl 3 rfl) ?_
  by_cases zqc1 : x2 = 0
  · have h := ip zqc1 h
    refine lv_tableIn (off := 29) (tgt := 32) hx hb dX8_orderTold_3 (by rw [zqc1]; decide) (by rw [zqc1]; decide) (by rw [zqc1]; decide +kernel) (by decide) ?_
    refine lv_aload_n hx hb dX8_orderTold_32 rfl (lv_at hl 1 rfl) ?_
    obtain ⟨v2, zqe3, h⟩ := ob h
    refine gf953 C hR zqe3 dX8_orderTold_33 ?_
    refine lv_iload_n hx hb dX8_orderTold_36 rfl (lv_at hl 2 rfl) ?_
    obtain ⟨v4, zqe5, h⟩ := ob h
    refine ra_I C hR zqe5 dX8_orderTold_37 ?_
    cases h
    exact rr_I C hR hS dX8_orderTold_38
  have h := iq zqc1 h
  by_cases zqc6 : x2 = 1
  · have h := ip zqc6 h
    refine lv_tableIn (off := 36) (tgt := 39) hx hb dX8_orderTold_3 (by rw [zqc6]; decide) (by rw [zqc6]; decide) (by rw [zqc6]; decide +kernel) (by decide) ?_
    refine lv_aload_n hx hb dX8_orderTold_39 rfl (lv_at hl 1 rfl) ?_
    obtain ⟨v7, zqe8, h⟩ := ob h
    refine gf954 C hR zqe8 dX8_orderTold_40 ?_
    refine lv_iload_n hx hb dX8_orderTold_43 rfl (lv_at hl 2 rfl) ?_
    obtain ⟨v9, zqe10, h⟩ := ob h
    refine ra_I C hR zqe10 dX8_orderTold_44 ?_
    cases h
    exact rr_I C hR hS dX8_orderTold_45
  have h := iq zqc6 h
  by_cases zqc11 : x2 = 2
  · have h := ip zqc11 h
    refine lv_tableIn (off := 43) (tgt := 46) hx hb dX8_orderTold_3 (by rw [zqc11]; decide) (by rw [zqc11]; decide) (by rw [zqc11]; decide +kernel) (by decide) ?_
    refine lv_aload_n hx hb dX8_orderTold_46 rfl (lv_at hl 1 rfl) ?_
    obtain ⟨v12, zqe13, h⟩ := ob h
    refine gf955 C hR zqe13 dX8_orderTold_47 ?_
    refine lv_iload_n hx hb dX8_orderTold_50 rfl (lv_at hl 2 rfl) ?_
    obtain ⟨v14, zqe15, h⟩ := ob h
    refine ra_I C hR zqe15 dX8_orderTold_51 ?_
    cases h
    exact rr_I C hR hS dX8_orderTold_52
  have h := iq zqc11 h
  by_cases zqc16 : x2 = 3
  · have h := ip zqc16 h
    refine lv_tableIn (off := 50) (tgt := 53) hx hb dX8_orderTold_3 (by rw [zqc16]; decide) (by rw [zqc16]; decide) (by rw [zqc16]; decide +kernel) (by decide) ?_
    refine lv_aload_n hx hb dX8_orderTold_53 rfl (lv_at hl 1 rfl) ?_
    obtain ⟨v17, zqe18, h⟩ := ob h
    refine gf948 C hR zqe18 dX8_orderTold_54 ?_
    refine lv_iconst (v := 2) hx hb dX8_orderTold_57 (by decide) ?_
    obtain ⟨v19, zqe20, h⟩ := ob h
    refine ra_I C hR zqe20 dX8_orderTold_58 ?_
    refine lv_iload_n hx hb dX8_orderTold_59 rfl (lv_at hl 2 rfl) ?_
    refine lv_ishr hx hb dX8_orderTold_60 ?_
    refine lv_iconst (v := 1) hx hb dX8_orderTold_61 (by decide) ?_
    refine lv_iand hx hb dX8_orderTold_62 ?_
    cases h
    exact rr_I C hR hS dX8_orderTold_63
  have h := iq zqc16 h
  refine lv_tableOut (tgt := 64) hx hb dX8_orderTold_3 (by have q0 := lv_neT (a := 0) zqc1 (by decide); have q1 := lv_neT (a := 1) zqc6 (by decide); have q2 := lv_neT (a := 2) zqc11 (by decide); have q3 := lv_neT (a := 3) zqc16 (by decide); omega) (by decide) ?_
  refine lv_iconst (v := 0) hx hb dX8_orderTold_64 (by decide) ?_
  refine lv_istore (lv' := [(4, .int 0), (3, .int 0), (0, .ref (B + x0)), (1, .int x1), (2, .int x2)]) hx hb dX8_orderTold_65 hl (by decide) rfl (fun ls hl => ?_)
  exact w_X8_orderTold_67 C  FU h hR hS (lv_sub hl [2, 3, 1, 0] rfl)
set_option maxHeartbeats 4000000 in
set_option maxRecDepth 100000 in
theorem w_X8_sigherTold_68    {r : Int32} (C : Cx p s m args meth c RX8 cX8_sigherTold 5 (some .int) D B ca st)   : ∀ (n : Nat) {x0 : Nat} {x1 : Int32} {x3 : Int32} {x4 : Int32} {M : Mem}, f_X8_sigherTold_68  n x0 x1 x3 x4 M = some r → ∀ {H : Heap} {locs : List Loc} {ls : Array Slot}, RH D B ca M H → va_S (AA B) s.heap H locs → lv_has ls 5 [(0, .ref (B + x0)), (1, .int x1), (3, .int x3), (4, .int x4)] → W p l e (rmD 4) s m args below meth c H locs 0 0 (MQ below (Qp D B ca st (some (.int r)) M) args s 0 0 (AA B)) (F0 m 68 ls []) := by
  have hx := C.1
  have hb := C.2.1
  intro n
  induction n with
  | zero => intro x0 x1 x3 x4 M h; simp [f_X8_sigherTold_68] at h
  | succ n ih =>
    intro x0 x1 x3 x4 M h H locs ls hR hS hl
    rw [f_X8_sigherTold_68] at h
    refine lv_iload hx hb dX8_sigherTold_68 (lv_at hl 3 rfl) ?_
    refine lv_aload_n hx hb dX8_sigherTold_70 rfl (lv_at hl 0 rfl) ?_
    obtain ⟨v21, zqe22, h⟩ := ob h
    refine gf952 C hR zqe22 dX8_sigherTold_71 ?_
    refine lv_icmp_ge (tgt := 105) hx hb dX8_sigherTold_74 (by decide) (fun c => ?_) (fun c => ?_)
    · have h := ip c h
      refine lv_iload_n hx hb dX8_sigherTold_105 rfl (lv_at hl 2 rfl) ?_
      cases h
      exact rr_I C hR hS dX8_sigherTold_106
    · have h := iq c h
      refine lv_iload_n hx hb dX8_sigherTold_77 rfl (lv_at hl 2 rfl) ?_
      refine lv_aload_n hx hb dX8_sigherTold_78 rfl (lv_at hl 0 rfl) ?_
      refine lv_iconst (v := 0) hx hb dX8_sigherTold_79 (by decide) ?_
      refine lv_iload_n hx hb dX8_sigherTold_80 rfl (lv_at hl 1 rfl) ?_
      refine lv_iload hx hb dX8_sigherTold_81 (lv_at hl 3 rfl) ?_
      obtain ⟨v24, zqe23, h⟩ := ob h
      refine rc_V C hR hS cf_X8_can cv_X8_can lk1162 (ok_X8_can zqe23) (ck_X8_can zqe23) ⟨Nat.le_of_ble_eq_true rfl, Nat.le_of_ble_eq_true rfl⟩ ⟨Nat.zero_le _, Nat.zero_le _⟩ rfl rfl hl.1 (Nat.le_of_ble_eq_true rfl) dX8_sigherTold_83 (rc_k1 (fun H locs hR hS => ?_))
      refine lv_if_eq (tgt := 96) hx hb dX8_sigherTold_86 (by decide) (fun c => ?_) (fun c => ?_)
      · have h := ip c h
        refine lv_iconst (v := 0) hx hb dX8_sigherTold_96 (by decide) ?_
        refine lv_ior hx hb dX8_sigherTold_97 ?_
        refine lv_istore_n (lv' := [(3, .int (x3 ||| 0)), (0, .ref (B + x0)), (1, .int x1), (4, .int x4)]) hx hb dX8_sigherTold_98 rfl hl (by decide) rfl (fun ls hl => ?_)
        refine lv_iinc (v := (x4 + 1)) (lv' := [(4, .int (x4 + 1)), (3, .int (x3 ||| 0)), (0, .ref (B + x0)), (1, .int x1)]) hx hb dX8_sigherTold_99 hl (k := 3) rfl rfl (by decide) rfl (fun ls hl => ?_)
        refine lv_goto (tgt := 68) hx hb dX8_sigherTold_102 (by decide) ?_
        exact ih h hR hS (lv_sub hl [2, 3, 1, 0] rfl)
      · have h := iq c h
        refine lv_iconst (v := 1) hx hb dX8_sigherTold_89 (by decide) ?_
        refine lv_iload hx hb dX8_sigherTold_90 (lv_at hl 3 rfl) ?_
        refine lv_ishl hx hb dX8_sigherTold_92 ?_
        refine lv_goto (tgt := 97) hx hb dX8_sigherTold_93 (by decide) ?_
        refine lv_ior hx hb dX8_sigherTold_97 ?_
        refine lv_istore_n (lv' := [(3, .int (x3 ||| (1 <<< (x4 &&& 31)))), (0, .ref (B + x0)), (1, .int x1), (4, .int x4)]) hx hb dX8_sigherTold_98 rfl hl (by decide) rfl (fun ls hl => ?_)
        refine lv_iinc (v := (x4 + 1)) (lv' := [(4, .int (x4 + 1)), (3, .int (x3 ||| (1 <<< (x4 &&& 31)))), (0, .ref (B + x0)), (1, .int x1)]) hx hb dX8_sigherTold_99 hl (k := 3) rfl rfl (by decide) rfl (fun ls hl => ?_)
        refine lv_goto (tgt := 68) hx hb dX8_sigherTold_102 (by decide) ?_
        exact ih h hR hS (lv_sub hl [2, 3, 1, 0] rfl)
theorem ck_X8_sigherTold  {x0 : Nat} {x1 : Int32} {x2 : Int32} {M : Mem} {r : Int32} (h : f_X8_sigherTold  x0 x1 x2 M = some r) : kd M x0 = 18 := by
  unfold f_X8_sigherTold at h
  exact ck h
set_option maxHeartbeats 4000000 in
set_option maxRecDepth 100000 in
theorem ok_X8_sigherTold  {x0 : Nat} {x1 : Int32} {x2 : Int32}  {M : Mem} {r : Int32}  (h : f_X8_sigherTold  x0 x1 x2 M = some r) : Ok l yX8_sigherTold cX8_sigherTold 5 (some .int) 4 [.ref (B + x0), .int x1, .int x2] D B ca st M (some (.int r)) M := by
  have hk0 := ck_X8_sigherTold h
  unfold f_X8_sigherTold at h
  have h := ip hk0 h
  refine ok_of rfl rfl (Nat.le_of_ble_eq_true rfl) ?_
  intro p e s m args below meth c ls C hl hR hS
  have hl : lv_has ls 5 [(0, .ref (B + x0)), (1, .int x1), (2, .int x2)] := hl
  have hx := C.1
  have hb := C.2.1
  refine lv_iconst (v := 0) hx hb dX8_sigherTold_0 (by decide) ?_
  refine lv_istore_n (lv' := [(3, .int 0), (0, .ref (B + x0)), (1, .int x1), (2, .int x2)]) hx hb dX8_sigherTold_1 rfl hl (by decide) rfl (fun ls hl => ?_)
  refine lv_iload_n hx hb dX8_sigherTold_2 rfl (lv_at hl 3 rfl) ?_
  by_cases zqc1 : x2 = 0
  · have h := ip zqc1 h
    refine lv_tableIn (off := 29) (tgt := 32) hx hb dX8_sigherTold_3 (by rw [zqc1]; decide) (by rw [zqc1]; decide) (by rw [zqc1]; decide +kernel) (by decide) ?_
    refine lv_aload_n hx hb dX8_sigherTold_32 rfl (lv_at hl 1 rfl) ?_
    obtain ⟨v2, zqe3, h⟩ := ob h
    refine gf950 C hR zqe3 dX8_sigherTold_33 ?_
    refine lv_iload_n hx hb dX8_sigherTold_36 rfl (lv_at hl 2 rfl) ?_
    obtain ⟨v4, zqe5, h⟩ := ob h
    refine ra_I C hR zqe5 dX8_sigherTold_37 ?_
    cases h
    exact rr_I C hR hS dX8_sigherTold_38
  have h := iq zqc1 h
  by_cases zqc6 : x2 = 1
  · have h := ip zqc6 h
    refine lv_tableIn (off := 36) (tgt := 39) hx hb dX8_sigherTold_3 (by rw [zqc6]; decide) (by rw [zqc6]; decide) (by rw [zqc6]; decide +kernel) (by decide) ?_
    refine lv_aload_n hx hb dX8_sigherTold_39 rfl (lv_at hl 1 rfl) ?_
    obtain ⟨v7, zqe8, h⟩ := ob h
    refine gf948 C hR zqe8 dX8_sigherTold_40 ?_
    refine lv_iconst (v := 3) hx hb dX8_sigherTold_43 (by decide) ?_
    refine lv_iload_n hx hb dX8_sigherTold_44 rfl (lv_at hl 2 rfl) ?_
    refine lv_iadd hx hb dX8_sigherTold_45 ?_
    obtain ⟨v9, zqe10, h⟩ := ob h
    refine ra_I C hR zqe10 dX8_sigherTold_46 ?_
    cases h
    exact rr_I C hR hS dX8_sigherTold_47
  have h := iq zqc6 h
  by_cases zqc11 : x2 = 2
  · have h := ip zqc11 h
    refine lv_tableIn (off := 45) (tgt := 48) hx hb dX8_sigherTold_3 (by rw [zqc11]; decide) (by rw [zqc11]; decide) (by rw [zqc11]; decide +kernel) (by decide) ?_
    refine lv_aload_n hx hb dX8_sigherTold_48 rfl (lv_at hl 1 rfl) ?_
    obtain ⟨v12, zqe13, h⟩ := ob h
    refine gf951 C hR zqe13 dX8_sigherTold_49 ?_
    refine lv_iload_n hx hb dX8_sigherTold_52 rfl (lv_at hl 2 rfl) ?_
    obtain ⟨v14, zqe15, h⟩ := ob h
    refine ra_I C hR zqe15 dX8_sigherTold_53 ?_
    cases h
    exact rr_I C hR hS dX8_sigherTold_54
  have h := iq zqc11 h
  by_cases zqc16 : x2 = 3
  · have h := ip zqc16 h
    refine lv_tableIn (off := 52) (tgt := 55) hx hb dX8_sigherTold_3 (by rw [zqc16]; decide) (by rw [zqc16]; decide) (by rw [zqc16]; decide +kernel) (by decide) ?_
    refine lv_aload_n hx hb dX8_sigherTold_55 rfl (lv_at hl 1 rfl) ?_
    obtain ⟨v17, zqe18, h⟩ := ob h
    refine gf948 C hR zqe18 dX8_sigherTold_56 ?_
    refine lv_bipush (v := 8) hx hb dX8_sigherTold_59 (by decide) ?_
    refine lv_iload_n hx hb dX8_sigherTold_61 rfl (lv_at hl 2 rfl) ?_
    refine lv_iadd hx hb dX8_sigherTold_62 ?_
    obtain ⟨v19, zqe20, h⟩ := ob h
    refine ra_I C hR zqe20 dX8_sigherTold_63 ?_
    cases h
    exact rr_I C hR hS dX8_sigherTold_64
  have h := iq zqc16 h
  refine lv_tableOut (tgt := 65) hx hb dX8_sigherTold_3 (by have q0 := lv_neT (a := 0) zqc1 (by decide); have q1 := lv_neT (a := 1) zqc6 (by decide); have q2 := lv_neT (a := 2) zqc11 (by decide); have q3 := lv_neT (a := 3) zqc16 (by decide); omega) (by decide) ?_
  refine lv_iconst (v := 0) hx hb dX8_sigherTold_65 (by decide) ?_
  refine lv_istore (lv' := [(4, .int 0), (3, .int 0), (0, .ref (B + x0)), (1, .int x1), (2, .int x2)]) hx hb dX8_sigherTold_66 hl (by decide) rfl (fun ls hl => ?_)
  exact w_X8_sigherTold_68 C  FU h hR hS (lv_sub hl [2, 3, 1, 0] rfl)
set_option maxHeartbeats 4000000 in
set_option maxRecDepth 100000 in
theorem w_X8_digest_228  {k206 : Nat → Int64 → Int32 → Mem → Option Int64}  {r : Int64} (C : Cx p s m args meth c RX8 cX8_digest 5 (some .long) D B ca st)  (hk206 : ∀ {x0 : Nat} {x1 : Int64} {x3 : Int32} {M : Mem}, k206 x0 x1 x3 M = some r → ∀ {H : Heap} {locs : List Loc} {ls : Array Slot}, RH D B ca M H → va_S (AA B) s.heap H locs → lv_has ls 5 [(0, .ref (B + x0)), (1, .long x1), (3, .int x3)] → W p l e (rmD 5) s m args below meth c H locs 0 0 (MQ below (Qp D B ca st (some (.long r)) M) args s 0 0 (AA B)) (F0 m 206 ls [])) : ∀ (n : Nat) {x0 : Nat} {x1 : Int64} {x3 : Int32} {x4 : Int32} {M : Mem}, f_X8_digest_228 k206 n x0 x1 x3 x4 M = some r → ∀ {H : Heap} {locs : List Loc} {ls : Array Slot}, RH D B ca M H → va_S (AA B) s.heap H locs → lv_has ls 5 [(0, .ref (B + x0)), (1, .long x1), (3, .int x3), (4, .int x4)] → W p l e (rmD 5) s m args below meth c H locs 0 0 (MQ below (Qp D B ca st (some (.long r)) M) args s 0 0 (AA B)) (F0 m 228 ls []) := by
  have hx := C.1
  have hb := C.2.1
  intro n
  induction n with
  | zero => intro x0 x1 x3 x4 M h; simp [f_X8_digest_228] at h
  | succ n ih =>
    intro x0 x1 x3 x4 M h H locs ls hR hS hl
    rw [f_X8_digest_228] at h
    refine lv_iload hx hb dX8_digest_228 (lv_at hl 3 rfl) ?_
    refine lv_aload_n hx hb dX8_digest_230 rfl (lv_at hl 0 rfl) ?_
    obtain ⟨v31, zqe32, h⟩ := ob h
    refine gf958 C hR zqe32 dX8_digest_231 ?_
    refine lv_iload_n hx hb dX8_digest_234 rfl (lv_at hl 2 rfl) ?_
    obtain ⟨v33, zqe34, h⟩ := ob h
    refine ra_I C hR zqe34 dX8_digest_235 ?_
    refine lv_icmp_ge (tgt := 265) hx hb dX8_digest_236 (by decide) (fun c => ?_) (fun c => ?_)
    · have h := ip c h
      refine lv_iinc (v := (x3 + 1)) (lv' := [(3, .int (x3 + 1)), (0, .ref (B + x0)), (1, .long x1), (4, .int x4)]) hx hb dX8_digest_265 hl (k := 2) rfl rfl (by decide) rfl (fun ls hl => ?_)
      refine lv_goto (tgt := 206) hx hb dX8_digest_268 (by decide) ?_
      exact hk206 h hR hS (lv_sub hl [1, 2, 0] rfl)
    · have h := iq c h
      refine lv_ldc2 hx hb C.2.2.2.1 (C.2.2.2.2.1 _ lk1467) dX8_digest_239 ?_
      refine lv_lload_n hx hb dX8_digest_242 rfl (lv_at hl 1 rfl) ?_
      refine lv_lmul hx hb dX8_digest_243 ?_
      refine lv_aload_n hx hb dX8_digest_244 rfl (lv_at hl 0 rfl) ?_
      obtain ⟨v35, zqe36, h⟩ := ob h
      refine gf959 C hR zqe36 dX8_digest_245 ?_
      refine lv_bipush (v := 60) hx hb dX8_digest_248 (by decide) ?_
      refine lv_iload_n hx hb dX8_digest_250 rfl (lv_at hl 2 rfl) ?_
      refine lv_imul hx hb dX8_digest_251 ?_
      refine lv_iload hx hb dX8_digest_252 (lv_at hl 3 rfl) ?_
      refine lv_iadd hx hb dX8_digest_254 ?_
      obtain ⟨v37, zqe38, h⟩ := ob h
      refine ra_I C hR zqe38 dX8_digest_255 ?_
      refine lv_i2l (v := (Int32.toInt64 v37)) hx hb dX8_digest_256 rfl ?_
      refine lv_ladd hx hb dX8_digest_257 ?_
      refine lv_lstore_n (lv' := [(1, .long ((31 * x1) + (Int32.toInt64 v37))), (0, .ref (B + x0)), (3, .int x3), (4, .int x4)]) hx hb dX8_digest_258 rfl hl (by decide) rfl (fun ls hl => ?_)
      refine lv_iinc (v := (x4 + 1)) (lv' := [(4, .int (x4 + 1)), (1, .long ((31 * x1) + (Int32.toInt64 v37))), (0, .ref (B + x0)), (3, .int x3)]) hx hb dX8_digest_259 hl (k := 3) rfl rfl (by decide) rfl (fun ls hl => ?_)
      refine lv_goto (tgt := 228) hx hb dX8_digest_262 (by decide) ?_
      exact ih h hR hS (lv_sub hl [2, 1, 3, 0] rfl)
set_option maxHeartbeats 4000000 in
set_option maxRecDepth 100000 in
theorem w_X8_digest_206    {r : Int64} (C : Cx p s m args meth c RX8 cX8_digest 5 (some .long) D B ca st)   : ∀ (n : Nat) {x0 : Nat} {x1 : Int64} {x3 : Int32} {M : Mem}, f_X8_digest_206  n x0 x1 x3 M = some r → ∀ {H : Heap} {locs : List Loc} {ls : Array Slot}, RH D B ca M H → va_S (AA B) s.heap H locs → lv_has ls 5 [(0, .ref (B + x0)), (1, .long x1), (3, .int x3)] → W p l e (rmD 5) s m args below meth c H locs 0 0 (MQ below (Qp D B ca st (some (.long r)) M) args s 0 0 (AA B)) (F0 m 206 ls []) := by
  have hx := C.1
  have hb := C.2.1
  intro n
  induction n with
  | zero => intro x0 x1 x3 M h; simp [f_X8_digest_206] at h
  | succ n ih =>
    intro x0 x1 x3 M h H locs ls hR hS hl
    rw [f_X8_digest_206] at h
    refine lv_iload_n hx hb dX8_digest_206 rfl (lv_at hl 2 rfl) ?_
    refine lv_iconst (v := 4) hx hb dX8_digest_207 (by decide) ?_
    refine lv_icmp_ge (tgt := 271) hx hb dX8_digest_208 (by decide) (fun c => ?_) (fun c => ?_)
    · have h := ip c h
      refine lv_lload_n hx hb dX8_digest_271 rfl (lv_at hl 1 rfl) ?_
      cases h
      exact rr_L C hR hS dX8_digest_272
    · have h := iq c h
      refine lv_ldc2 hx hb C.2.2.2.1 (C.2.2.2.2.1 _ lk1467) dX8_digest_211 ?_
      refine lv_lload_n hx hb dX8_digest_214 rfl (lv_at hl 1 rfl) ?_
      refine lv_lmul hx hb dX8_digest_215 ?_
      refine lv_aload_n hx hb dX8_digest_216 rfl (lv_at hl 0 rfl) ?_
      obtain ⟨v19, zqe20, h⟩ := ob h
      refine gf958 C hR zqe20 dX8_digest_217 ?_
      refine lv_iload_n hx hb dX8_digest_220 rfl (lv_at hl 2 rfl) ?_
      obtain ⟨v21, zqe22, h⟩ := ob h
      refine ra_I C hR zqe22 dX8_digest_221 ?_
      refine lv_i2l (v := (Int32.toInt64 v21)) hx hb dX8_digest_222 rfl ?_
      refine lv_ladd hx hb dX8_digest_223 ?_
      refine lv_lstore_n (lv' := [(1, .long ((31 * x1) + (Int32.toInt64 v21))), (0, .ref (B + x0)), (3, .int x3)]) hx hb dX8_digest_224 rfl hl (by decide) rfl (fun ls hl => ?_)
      refine lv_iconst (v := 0) hx hb dX8_digest_225 (by decide) ?_
      refine lv_istore (lv' := [(4, .int 0), (1, .long ((31 * x1) + (Int32.toInt64 v21))), (0, .ref (B + x0)), (3, .int x3)]) hx hb dX8_digest_226 hl (by decide) rfl (fun ls hl => ?_)
      exact w_X8_digest_228 C (hk206 := @ih) FU h hR hS (lv_sub hl [2, 1, 3, 0] rfl)
set_option maxHeartbeats 4000000 in
set_option maxRecDepth 100000 in
theorem w_X8_digest_161  {k138 : Nat → Int64 → Int32 → Mem → Option Int64}  {r : Int64} (C : Cx p s m args meth c RX8 cX8_digest 5 (some .long) D B ca st)  (hk138 : ∀ {x0 : Nat} {x1 : Int64} {x3 : Int32} {M : Mem}, k138 x0 x1 x3 M = some r → ∀ {H : Heap} {locs : List Loc} {ls : Array Slot}, RH D B ca M H → va_S (AA B) s.heap H locs → lv_has ls 5 [(0, .ref (B + x0)), (1, .long x1), (3, .int x3)] → W p l e (rmD 5) s m args below meth c H locs 0 0 (MQ below (Qp D B ca st (some (.long r)) M) args s 0 0 (AA B)) (F0 m 138 ls [])) : ∀ (n : Nat) {x0 : Nat} {x1 : Int64} {x3 : Int32} {x4 : Int32} {M : Mem}, f_X8_digest_161 k138 n x0 x1 x3 x4 M = some r → ∀ {H : Heap} {locs : List Loc} {ls : Array Slot}, RH D B ca M H → va_S (AA B) s.heap H locs → lv_has ls 5 [(0, .ref (B + x0)), (1, .long x1), (3, .int x3), (4, .int x4)] → W p l e (rmD 5) s m args below meth c H locs 0 0 (MQ below (Qp D B ca st (some (.long r)) M) args s 0 0 (AA B)) (F0 m 161 ls []) := by
  have hx := C.1
  have hb := C.2.1
  intro n
  induction n with
  | zero => intro x0 x1 x3 x4 M h; simp [f_X8_digest_161] at h
  | succ n ih =>
    intro x0 x1 x3 x4 M h H locs ls hR hS hl
    rw [f_X8_digest_161] at h
    refine lv_iload hx hb dX8_digest_161 (lv_at hl 3 rfl) ?_
    refine lv_aload_n hx hb dX8_digest_163 rfl (lv_at hl 0 rfl) ?_
    obtain ⟨v23, zqe24, h⟩ := ob h
    refine gf956 C hR zqe24 dX8_digest_164 ?_
    refine lv_iload_n hx hb dX8_digest_167 rfl (lv_at hl 2 rfl) ?_
    obtain ⟨v25, zqe26, h⟩ := ob h
    refine ra_I C hR zqe26 dX8_digest_168 ?_
    refine lv_icmp_ge (tgt := 198) hx hb dX8_digest_169 (by decide) (fun c => ?_) (fun c => ?_)
    · have h := ip c h
      refine lv_iinc (v := (x3 + 1)) (lv' := [(3, .int (x3 + 1)), (0, .ref (B + x0)), (1, .long x1), (4, .int x4)]) hx hb dX8_digest_198 hl (k := 2) rfl rfl (by decide) rfl (fun ls hl => ?_)
      refine lv_goto (tgt := 138) hx hb dX8_digest_201 (by decide) ?_
      exact hk138 h hR hS (lv_sub hl [1, 2, 0] rfl)
    · have h := iq c h
      refine lv_ldc2 hx hb C.2.2.2.1 (C.2.2.2.2.1 _ lk1467) dX8_digest_172 ?_
      refine lv_lload_n hx hb dX8_digest_175 rfl (lv_at hl 1 rfl) ?_
      refine lv_lmul hx hb dX8_digest_176 ?_
      refine lv_aload_n hx hb dX8_digest_177 rfl (lv_at hl 0 rfl) ?_
      obtain ⟨v27, zqe28, h⟩ := ob h
      refine gf957 C hR zqe28 dX8_digest_178 ?_
      refine lv_bipush (v := 40) hx hb dX8_digest_181 (by decide) ?_
      refine lv_iload_n hx hb dX8_digest_183 rfl (lv_at hl 2 rfl) ?_
      refine lv_imul hx hb dX8_digest_184 ?_
      refine lv_iload hx hb dX8_digest_185 (lv_at hl 3 rfl) ?_
      refine lv_iadd hx hb dX8_digest_187 ?_
      obtain ⟨v29, zqe30, h⟩ := ob h
      refine ra_I C hR zqe30 dX8_digest_188 ?_
      refine lv_i2l (v := (Int32.toInt64 v29)) hx hb dX8_digest_189 rfl ?_
      refine lv_ladd hx hb dX8_digest_190 ?_
      refine lv_lstore_n (lv' := [(1, .long ((31 * x1) + (Int32.toInt64 v29))), (0, .ref (B + x0)), (3, .int x3), (4, .int x4)]) hx hb dX8_digest_191 rfl hl (by decide) rfl (fun ls hl => ?_)
      refine lv_iinc (v := (x4 + 1)) (lv' := [(4, .int (x4 + 1)), (1, .long ((31 * x1) + (Int32.toInt64 v29))), (0, .ref (B + x0)), (3, .int x3)]) hx hb dX8_digest_192 hl (k := 3) rfl rfl (by decide) rfl (fun ls hl => ?_)
      refine lv_goto (tgt := 161) hx hb dX8_digest_195 (by decide) ?_
      exact ih h hR hS (lv_sub hl [2, 1, 3, 0] rfl)
set_option maxHeartbeats 4000000 in
set_option maxRecDepth 100000 in
theorem w_X8_digest_138    {r : Int64} (C : Cx p s m args meth c RX8 cX8_digest 5 (some .long) D B ca st)   : ∀ (n : Nat) {x0 : Nat} {x1 : Int64} {x3 : Int32} {M : Mem}, f_X8_digest_138  n x0 x1 x3 M = some r → ∀ {H : Heap} {locs : List Loc} {ls : Array Slot}, RH D B ca M H → va_S (AA B) s.heap H locs → lv_has ls 5 [(0, .ref (B + x0)), (1, .long x1), (3, .int x3)] → W p l e (rmD 5) s m args below meth c H locs 0 0 (MQ below (Qp D B ca st (some (.long r)) M) args s 0 0 (AA B)) (F0 m 138 ls []) := by
  have hx := C.1
  have hb := C.2.1
  intro n
  induction n with
  | zero => intro x0 x1 x3 M h; simp [f_X8_digest_138] at h
  | succ n ih =>
    intro x0 x1 x3 M h H locs ls hR hS hl
    rw [f_X8_digest_138] at h
    refine lv_iload_n hx hb dX8_digest_138 rfl (lv_at hl 2 rfl) ?_
    refine lv_bipush (v := 6) hx hb dX8_digest_139 (by decide) ?_
    refine lv_icmp_ge (tgt := 204) hx hb dX8_digest_141 (by decide) (fun c => ?_) (fun c => ?_)
    · have h := ip c h
      refine lv_iconst (v := 0) hx hb dX8_digest_204 (by decide) ?_
      refine lv_istore_n (lv' := [(3, .int 0), (0, .ref (B + x0)), (1, .long x1)]) hx hb dX8_digest_205 rfl hl (by decide) rfl (fun ls hl => ?_)
      exact w_X8_digest_206 C  FU h hR hS (lv_sub hl [1, 2, 0] rfl)
    · have h := iq c h
      refine lv_ldc2 hx hb C.2.2.2.1 (C.2.2.2.2.1 _ lk1467) dX8_digest_144 ?_
      refine lv_lload_n hx hb dX8_digest_147 rfl (lv_at hl 1 rfl) ?_
      refine lv_lmul hx hb dX8_digest_148 ?_
      refine lv_aload_n hx hb dX8_digest_149 rfl (lv_at hl 0 rfl) ?_
      obtain ⟨v15, zqe16, h⟩ := ob h
      refine gf956 C hR zqe16 dX8_digest_150 ?_
      refine lv_iload_n hx hb dX8_digest_153 rfl (lv_at hl 2 rfl) ?_
      obtain ⟨v17, zqe18, h⟩ := ob h
      refine ra_I C hR zqe18 dX8_digest_154 ?_
      refine lv_i2l (v := (Int32.toInt64 v17)) hx hb dX8_digest_155 rfl ?_
      refine lv_ladd hx hb dX8_digest_156 ?_
      refine lv_lstore_n (lv' := [(1, .long ((31 * x1) + (Int32.toInt64 v17))), (0, .ref (B + x0)), (3, .int x3)]) hx hb dX8_digest_157 rfl hl (by decide) rfl (fun ls hl => ?_)
      refine lv_iconst (v := 0) hx hb dX8_digest_158 (by decide) ?_
      refine lv_istore (lv' := [(4, .int 0), (1, .long ((31 * x1) + (Int32.toInt64 v17))), (0, .ref (B + x0)), (3, .int x3)]) hx hb dX8_digest_159 hl (by decide) rfl (fun ls hl => ?_)
      exact w_X8_digest_161 C (hk138 := @ih) FU h hR hS (lv_sub hl [2, 1, 3, 0] rfl)
set_option maxHeartbeats 4000000 in
set_option maxRecDepth 100000 in
theorem w_X8_digest_105    {r : Int64} (C : Cx p s m args meth c RX8 cX8_digest 5 (some .long) D B ca st)   : ∀ (n : Nat) {x0 : Nat} {x1 : Int64} {x3 : Int32} {M : Mem}, f_X8_digest_105  n x0 x1 x3 M = some r → ∀ {H : Heap} {locs : List Loc} {ls : Array Slot}, RH D B ca M H → va_S (AA B) s.heap H locs → lv_has ls 5 [(0, .ref (B + x0)), (1, .long x1), (3, .int x3)] → W p l e (rmD 5) s m args below meth c H locs 0 0 (MQ below (Qp D B ca st (some (.long r)) M) args s 0 0 (AA B)) (F0 m 105 ls []) := by
  have hx := C.1
  have hb := C.2.1
  intro n
  induction n with
  | zero => intro x0 x1 x3 M h; simp [f_X8_digest_105] at h
  | succ n ih =>
    intro x0 x1 x3 M h H locs ls hR hS hl
    rw [f_X8_digest_105] at h
    refine lv_iload_n hx hb dX8_digest_105 rfl (lv_at hl 2 rfl) ?_
    refine lv_iconst (v := 4) hx hb dX8_digest_106 (by decide) ?_
    refine lv_icmp_ge (tgt := 136) hx hb dX8_digest_107 (by decide) (fun c => ?_) (fun c => ?_)
    · have h := ip c h
      refine lv_iconst (v := 0) hx hb dX8_digest_136 (by decide) ?_
      refine lv_istore_n (lv' := [(3, .int 0), (0, .ref (B + x0)), (1, .long x1)]) hx hb dX8_digest_137 rfl hl (by decide) rfl (fun ls hl => ?_)
      exact w_X8_digest_138 C  FU h hR hS (lv_sub hl [1, 2, 0] rfl)
    · have h := iq c h
      refine lv_ldc2 hx hb C.2.2.2.1 (C.2.2.2.2.1 _ lk1467) dX8_digest_110 ?_
      refine lv_lload_n hx hb dX8_digest_113 rfl (lv_at hl 1 rfl) ?_
      refine lv_lmul hx hb dX8_digest_114 ?_
      refine lv_aload_n hx hb dX8_digest_115 rfl (lv_at hl 0 rfl) ?_
      obtain ⟨v11, zqe12, h⟩ := ob h
      refine gf948 C hR zqe12 dX8_digest_116 ?_
      refine lv_sipush (v := 493) hx hb dX8_digest_119 (by decide) ?_
      refine lv_iload_n hx hb dX8_digest_122 rfl (lv_at hl 2 rfl) ?_
      refine lv_imul hx hb dX8_digest_123 ?_
      refine lv_iconst (v := 0) hx hb dX8_digest_124 (by decide) ?_
      refine lv_iadd hx hb dX8_digest_125 ?_
      obtain ⟨v13, zqe14, h⟩ := ob h
      refine ra_I C hR zqe14 dX8_digest_126 ?_
      refine lv_i2l (v := (Int32.toInt64 v13)) hx hb dX8_digest_127 rfl ?_
      refine lv_ladd hx hb dX8_digest_128 ?_
      refine lv_lstore_n (lv' := [(1, .long ((31 * x1) + (Int32.toInt64 v13))), (0, .ref (B + x0)), (3, .int x3)]) hx hb dX8_digest_129 rfl hl (by decide) rfl (fun ls hl => ?_)
      refine lv_iinc (v := (x3 + 1)) (lv' := [(3, .int (x3 + 1)), (1, .long ((31 * x1) + (Int32.toInt64 v13))), (0, .ref (B + x0))]) hx hb dX8_digest_130 hl (k := 2) rfl rfl (by decide) rfl (fun ls hl => ?_)
      refine lv_goto (tgt := 105) hx hb dX8_digest_133 (by decide) ?_
      exact ih h hR hS (lv_sub hl [2, 1, 0] rfl)
set_option maxHeartbeats 4000000 in
set_option maxRecDepth 100000 in
theorem w_X8_digest_69    {r : Int64} (C : Cx p s m args meth c RX8 cX8_digest 5 (some .long) D B ca st)   : ∀ (n : Nat) {x0 : Nat} {x1 : Int64} {x3 : Int32} {M : Mem}, f_X8_digest_69  n x0 x1 x3 M = some r → ∀ {H : Heap} {locs : List Loc} {ls : Array Slot}, RH D B ca M H → va_S (AA B) s.heap H locs → lv_has ls 5 [(0, .ref (B + x0)), (1, .long x1), (3, .int x3)] → W p l e (rmD 5) s m args below meth c H locs 0 0 (MQ below (Qp D B ca st (some (.long r)) M) args s 0 0 (AA B)) (F0 m 69 ls []) := by
  have hx := C.1
  have hb := C.2.1
  intro n
  induction n with
  | zero => intro x0 x1 x3 M h; simp [f_X8_digest_69] at h
  | succ n ih =>
    intro x0 x1 x3 M h H locs ls hR hS hl
    rw [f_X8_digest_69] at h
    refine lv_iload_n hx hb dX8_digest_69 rfl (lv_at hl 2 rfl) ?_
    refine lv_iconst (v := 5) hx hb dX8_digest_70 (by decide) ?_
    refine lv_aload_n hx hb dX8_digest_71 rfl (lv_at hl 0 rfl) ?_
    obtain ⟨v7, zqe8, h⟩ := ob h
    refine gf952 C hR zqe8 dX8_digest_72 ?_
    refine lv_imul hx hb dX8_digest_75 ?_
    refine lv_icmp_ge (tgt := 103) hx hb dX8_digest_76 (by decide) (fun c => ?_) (fun c => ?_)
    · have h := ip c h
      refine lv_iconst (v := 1) hx hb dX8_digest_103 (by decide) ?_
      refine lv_istore_n (lv' := [(3, .int 1), (0, .ref (B + x0)), (1, .long x1)]) hx hb dX8_digest_104 rfl hl (by decide) rfl (fun ls hl => ?_)
      exact w_X8_digest_105 C  FU h hR hS (lv_sub hl [1, 2, 0] rfl)
    · have h := iq c h
      refine lv_ldc2 hx hb C.2.2.2.1 (C.2.2.2.2.1 _ lk1467) dX8_digest_79 ?_
      refine lv_lload_n hx hb dX8_digest_82 rfl (lv_at hl 1 rfl) ?_
      refine lv_lmul hx hb dX8_digest_83 ?_
      refine lv_aload_n hx hb dX8_digest_84 rfl (lv_at hl 0 rfl) ?_
      refine lv_iload_n hx hb dX8_digest_85 rfl (lv_at hl 2 rfl) ?_
      refine lv_iconst (v := 5) hx hb dX8_digest_86 (by decide) ?_
      refine lv_idiv hx hb dX8_digest_87 (by decide) ?_
      refine lv_iload_n hx hb dX8_digest_88 rfl (lv_at hl 2 rfl) ?_
      refine lv_iconst (v := 5) hx hb dX8_digest_89 (by decide) ?_
      refine lv_irem hx hb dX8_digest_90 (by decide) ?_
      obtain ⟨v10, zqe9, h⟩ := ob h
      refine rc_V C hR hS cf_X8_orderTold cv_X8_orderTold lk1190 (ok_X8_orderTold zqe9) (ck_X8_orderTold zqe9) ⟨Nat.le_of_ble_eq_true rfl, Nat.le_of_ble_eq_true rfl⟩ ⟨Nat.zero_le _, Nat.zero_le _⟩ rfl rfl hl.1 (Nat.le_of_ble_eq_true rfl) dX8_digest_91 (rc_k1 (fun H locs hR hS => ?_))
      refine lv_i2l (v := (Int32.toInt64 v10)) hx hb dX8_digest_94 rfl ?_
      refine lv_ladd hx hb dX8_digest_95 ?_
      refine lv_lstore_n (lv' := [(1, .long ((31 * x1) + (Int32.toInt64 v10))), (0, .ref (B + x0)), (3, .int x3)]) hx hb dX8_digest_96 rfl hl (by decide) rfl (fun ls hl => ?_)
      refine lv_iinc (v := (x3 + 1)) (lv' := [(3, .int (x3 + 1)), (1, .long ((31 * x1) + (Int32.toInt64 v10))), (0, .ref (B + x0))]) hx hb dX8_digest_97 hl (k := 2) rfl rfl (by decide) rfl (fun ls hl => ?_)
      refine lv_goto (tgt := 69) hx hb dX8_digest_100 (by decide) ?_
      exact ih h hR hS (lv_sub hl [2, 1, 0] rfl)
set_option maxHeartbeats 4000000 in
set_option maxRecDepth 100000 in
theorem w_X8_digest_33    {r : Int64} (C : Cx p s m args meth c RX8 cX8_digest 5 (some .long) D B ca st)   : ∀ (n : Nat) {x0 : Nat} {x1 : Int64} {x3 : Int32} {M : Mem}, f_X8_digest_33  n x0 x1 x3 M = some r → ∀ {H : Heap} {locs : List Loc} {ls : Array Slot}, RH D B ca M H → va_S (AA B) s.heap H locs → lv_has ls 5 [(0, .ref (B + x0)), (1, .long x1), (3, .int x3)] → W p l e (rmD 5) s m args below meth c H locs 0 0 (MQ below (Qp D B ca st (some (.long r)) M) args s 0 0 (AA B)) (F0 m 33 ls []) := by
  have hx := C.1
  have hb := C.2.1
  intro n
  induction n with
  | zero => intro x0 x1 x3 M h; simp [f_X8_digest_33] at h
  | succ n ih =>
    intro x0 x1 x3 M h H locs ls hR hS hl
    rw [f_X8_digest_33] at h
    refine lv_iload_n hx hb dX8_digest_33 rfl (lv_at hl 2 rfl) ?_
    refine lv_iconst (v := 5) hx hb dX8_digest_34 (by decide) ?_
    refine lv_aload_n hx hb dX8_digest_35 rfl (lv_at hl 0 rfl) ?_
    obtain ⟨v3, zqe4, h⟩ := ob h
    refine gf949 C hR zqe4 dX8_digest_36 ?_
    refine lv_imul hx hb dX8_digest_39 ?_
    refine lv_icmp_ge (tgt := 67) hx hb dX8_digest_40 (by decide) (fun c => ?_) (fun c => ?_)
    · have h := ip c h
      refine lv_iconst (v := 0) hx hb dX8_digest_67 (by decide) ?_
      refine lv_istore_n (lv' := [(3, .int 0), (0, .ref (B + x0)), (1, .long x1)]) hx hb dX8_digest_68 rfl hl (by decide) rfl (fun ls hl => ?_)
      exact w_X8_digest_69 C  FU h hR hS (lv_sub hl [1, 2, 0] rfl)
    · have h := iq c h
      refine lv_ldc2 hx hb C.2.2.2.1 (C.2.2.2.2.1 _ lk1467) dX8_digest_43 ?_
      refine lv_lload_n hx hb dX8_digest_46 rfl (lv_at hl 1 rfl) ?_
      refine lv_lmul hx hb dX8_digest_47 ?_
      refine lv_aload_n hx hb dX8_digest_48 rfl (lv_at hl 0 rfl) ?_
      refine lv_iload_n hx hb dX8_digest_49 rfl (lv_at hl 2 rfl) ?_
      refine lv_iconst (v := 5) hx hb dX8_digest_50 (by decide) ?_
      refine lv_idiv hx hb dX8_digest_51 (by decide) ?_
      refine lv_iload_n hx hb dX8_digest_52 rfl (lv_at hl 2 rfl) ?_
      refine lv_iconst (v := 5) hx hb dX8_digest_53 (by decide) ?_
      refine lv_irem hx hb dX8_digest_54 (by decide) ?_
      obtain ⟨v6, zqe5, h⟩ := ob h
      refine rc_V C hR hS cf_X8_sigherTold cv_X8_sigherTold lk1158 (ok_X8_sigherTold zqe5) (ck_X8_sigherTold zqe5) ⟨Nat.le_of_ble_eq_true rfl, Nat.le_of_ble_eq_true rfl⟩ ⟨Nat.zero_le _, Nat.zero_le _⟩ rfl rfl hl.1 (Nat.le_of_ble_eq_true rfl) dX8_digest_55 (rc_k1 (fun H locs hR hS => ?_))
      refine lv_i2l (v := (Int32.toInt64 v6)) hx hb dX8_digest_58 rfl ?_
      refine lv_ladd hx hb dX8_digest_59 ?_
      refine lv_lstore_n (lv' := [(1, .long ((31 * x1) + (Int32.toInt64 v6))), (0, .ref (B + x0)), (3, .int x3)]) hx hb dX8_digest_60 rfl hl (by decide) rfl (fun ls hl => ?_)
      refine lv_iinc (v := (x3 + 1)) (lv' := [(3, .int (x3 + 1)), (1, .long ((31 * x1) + (Int32.toInt64 v6))), (0, .ref (B + x0))]) hx hb dX8_digest_61 hl (k := 2) rfl rfl (by decide) rfl (fun ls hl => ?_)
      refine lv_goto (tgt := 33) hx hb dX8_digest_64 (by decide) ?_
      exact ih h hR hS (lv_sub hl [2, 1, 0] rfl)
set_option maxHeartbeats 4000000 in
set_option maxRecDepth 100000 in
theorem w_X8_digest_6    {r : Int64} (C : Cx p s m args meth c RX8 cX8_digest 5 (some .long) D B ca st)   : ∀ (n : Nat) {x0 : Nat} {x1 : Int64} {x3 : Int32} {M : Mem}, f_X8_digest_6  n x0 x1 x3 M = some r → ∀ {H : Heap} {locs : List Loc} {ls : Array Slot}, RH D B ca M H → va_S (AA B) s.heap H locs → lv_has ls 5 [(0, .ref (B + x0)), (1, .long x1), (3, .int x3)] → W p l e (rmD 5) s m args below meth c H locs 0 0 (MQ below (Qp D B ca st (some (.long r)) M) args s 0 0 (AA B)) (F0 m 6 ls []) := by
  have hx := C.1
  have hb := C.2.1
  intro n
  induction n with
  | zero => intro x0 x1 x3 M h; simp [f_X8_digest_6] at h
  | succ n ih =>
    intro x0 x1 x3 M h H locs ls hR hS hl
    rw [f_X8_digest_6] at h
    refine lv_iload_n hx hb dX8_digest_6 rfl (lv_at hl 2 rfl) ?_
    refine lv_bipush (v := 11) hx hb dX8_digest_7 (by decide) ?_
    refine lv_icmp_ge (tgt := 31) hx hb dX8_digest_9 (by decide) (fun c => ?_) (fun c => ?_)
    · have h := ip c h
      refine lv_iconst (v := 0) hx hb dX8_digest_31 (by decide) ?_
      refine lv_istore_n (lv' := [(3, .int 0), (0, .ref (B + x0)), (1, .long x1)]) hx hb dX8_digest_32 rfl hl (by decide) rfl (fun ls hl => ?_)
      exact w_X8_digest_33 C  FU h hR hS (lv_sub hl [1, 2, 0] rfl)
    · have h := iq c h
      refine lv_ldc2 hx hb C.2.2.2.1 (C.2.2.2.2.1 _ lk1467) dX8_digest_12 ?_
      refine lv_lload_n hx hb dX8_digest_15 rfl (lv_at hl 1 rfl) ?_
      refine lv_lmul hx hb dX8_digest_16 ?_
      refine lv_aload_n hx hb dX8_digest_17 rfl (lv_at hl 0 rfl) ?_
      refine lv_iload_n hx hb dX8_digest_18 rfl (lv_at hl 2 rfl) ?_
      obtain ⟨v2, zqe1, h⟩ := ob h
      refine rc_V C hR hS cf_X8_countOf cv_X8_countOf lk1438 (ok_X8_countOf zqe1) (ck_X8_countOf zqe1) ⟨Nat.le_of_ble_eq_true rfl, Nat.le_of_ble_eq_true rfl⟩ ⟨Nat.zero_le _, Nat.zero_le _⟩ rfl rfl hl.1 (Nat.le_of_ble_eq_true rfl) dX8_digest_19 (rc_k1 (fun H locs hR hS => ?_))
      refine lv_i2l (v := (Int32.toInt64 v2)) hx hb dX8_digest_22 rfl ?_
      refine lv_ladd hx hb dX8_digest_23 ?_
      refine lv_lstore_n (lv' := [(1, .long ((31 * x1) + (Int32.toInt64 v2))), (0, .ref (B + x0)), (3, .int x3)]) hx hb dX8_digest_24 rfl hl (by decide) rfl (fun ls hl => ?_)
      refine lv_iinc (v := (x3 + 1)) (lv' := [(3, .int (x3 + 1)), (1, .long ((31 * x1) + (Int32.toInt64 v2))), (0, .ref (B + x0))]) hx hb dX8_digest_25 hl (k := 2) rfl rfl (by decide) rfl (fun ls hl => ?_)
      refine lv_goto (tgt := 6) hx hb dX8_digest_28 (by decide) ?_
      exact ih h hR hS (lv_sub hl [2, 1, 0] rfl)
theorem ck_X8_digest  {x0 : Nat} {M : Mem} {r : Int64} (h : f_X8_digest  x0 M = some r) : kd M x0 = 18 := by
  unfold f_X8_digest at h
  exact ck h
set_option maxHeartbeats 4000000 in
set_option maxRecDepth 100000 in
theorem ok_X8_digest  {x0 : Nat}  {M : Mem} {r : Int64}  (h : f_X8_digest  x0 M = some r) : Ok l yX8_digest cX8_digest 5 (some .long) 5 [.ref (B + x0)] D B ca st M (some (.long r)) M := by
  have hk0 := ck_X8_digest h
  unfold f_X8_digest at h
  have h := ip hk0 h
  refine ok_of rfl rfl (Nat.le_of_ble_eq_true rfl) ?_
  intro p e s m args below meth c ls C hl hR hS
  have hl : lv_has ls 5 [(0, .ref (B + x0))] := hl
  have hx := C.1
  have hb := C.2.1
  refine lv_ldc2 hx hb C.2.2.2.1 (C.2.2.2.2.1 _ lk1466) dX8_digest_0 ?_
  refine lv_lstore_n (lv' := [(1, .long 17), (0, .ref (B + x0))]) hx hb dX8_digest_3 rfl hl (by decide) rfl (fun ls hl => ?_)
  refine lv_iconst (v := 0) hx hb dX8_digest_4 (by decide) ?_
  refine lv_istore_n (lv' := [(3, .int 0), (1, .long 17), (0, .ref (B + x0))]) hx hb dX8_digest_5 rfl hl (by decide) rfl (fun ls hl => ?_)
  exact w_X8_digest_6 C  FU h hR hS (lv_sub hl [2, 1, 0] rfl)
theorem ck_X8_beginLine  {x0 : Nat} {x1 : Int32} {M : Mem} {r : Mem} (h : f_X8_beginLine  x0 x1 M = some r) : kd M x0 = 18 := by
  unfold f_X8_beginLine at h
  exact ck h
set_option maxHeartbeats 4000000 in
set_option maxRecDepth 100000 in
theorem ok_X8_beginLine  {x0 : Nat} {x1 : Int32}  {M : Mem} {r : Mem}  (h : f_X8_beginLine  x0 x1 M = some r) : Ok l yX8_beginLine cX8_beginLine 2 none 0 [.ref (B + x0), .int x1] D B ca st M none r := by
  have hk0 := ck_X8_beginLine h
  unfold f_X8_beginLine at h
  have h := ip hk0 h
  refine ok_of rfl rfl (Nat.le_of_ble_eq_true rfl) ?_
  intro p e s m args below meth c ls C hl hR hS
  have hl : lv_has ls 2 [(0, .ref (B + x0)), (1, .int x1)] := hl
  have hx := C.1
  have hb := C.2.1
  refine lv_aload_n hx hb dX8_beginLine_0 rfl (lv_at hl 0 rfl) ?_
  refine lv_iconst (v := 0) hx hb dX8_beginLine_1 (by decide) ?_
  obtain ⟨M1, zqe2, h⟩ := ob h
  refine pf974 C hR hS zqe2 dX8_beginLine_2 (fun H locs hR hS => ?_)
  refine lv_aload_n hx hb dX8_beginLine_5 rfl (lv_at hl 0 rfl) ?_
  refine lv_iconst (v := 0) hx hb dX8_beginLine_6 (by decide) ?_
  obtain ⟨zqb37, zqe38, h⟩ := ob h
  obtain ⟨M3, zqe4, h⟩ := ob h
  refine pf975 C hR hS zqe38 zqe4 dX8_beginLine_7 (fun H locs hR hS => ?_)
  refine lv_aload_n hx hb dX8_beginLine_10 rfl (lv_at hl 0 rfl) ?_
  obtain ⟨v5, zqe6, h⟩ := ob h
  refine gf977 C hR zqe6 dX8_beginLine_11 ?_
  refine lv_iconst (v := 0) hx hb dX8_beginLine_14 (by decide) ?_
  refine lv_iconst (v := 0) hx hb dX8_beginLine_15 (by decide) ?_
  obtain ⟨M7, zqe8, h⟩ := ob h
  refine re_I C hR hS zqe8 dX8_beginLine_16 (fun H locs hR hS => ?_)
  refine lv_aload_n hx hb dX8_beginLine_17 rfl (lv_at hl 0 rfl) ?_
  obtain ⟨v9, zqe10, h⟩ := ob h
  refine gf978 C hR zqe10 dX8_beginLine_18 ?_
  refine lv_iconst (v := 0) hx hb dX8_beginLine_21 (by decide) ?_
  refine lv_iconst (v := 0) hx hb dX8_beginLine_22 (by decide) ?_
  obtain ⟨M11, zqe12, h⟩ := ob h
  refine re_I C hR hS zqe12 dX8_beginLine_23 (fun H locs hR hS => ?_)
  refine lv_aload_n hx hb dX8_beginLine_24 rfl (lv_at hl 0 rfl) ?_
  obtain ⟨v13, zqe14, h⟩ := ob h
  refine gf979 C hR zqe14 dX8_beginLine_25 ?_
  refine lv_iconst (v := 0) hx hb dX8_beginLine_28 (by decide) ?_
  refine lv_aload_n hx hb dX8_beginLine_29 rfl (lv_at hl 0 rfl) ?_
  obtain ⟨v15, zqe16, h⟩ := ob h
  refine gf948 C hR zqe16 dX8_beginLine_30 ?_
  refine lv_iconst (v := 3) hx hb dX8_beginLine_33 (by decide) ?_
  refine lv_iload_n hx hb dX8_beginLine_34 rfl (lv_at hl 1 rfl) ?_
  refine lv_iadd hx hb dX8_beginLine_35 ?_
  obtain ⟨v17, zqe18, h⟩ := ob h
  refine ra_I C hR zqe18 dX8_beginLine_36 ?_
  obtain ⟨M19, zqe20, h⟩ := ob h
  refine re_I C hR hS zqe20 dX8_beginLine_37 (fun H locs hR hS => ?_)
  refine lv_aload_n hx hb dX8_beginLine_38 rfl (lv_at hl 0 rfl) ?_
  obtain ⟨v21, zqe22, h⟩ := ob h
  refine gf980 C hR zqe22 dX8_beginLine_39 ?_
  refine lv_iconst (v := 0) hx hb dX8_beginLine_42 (by decide) ?_
  refine lv_aload_n hx hb dX8_beginLine_43 rfl (lv_at hl 0 rfl) ?_
  obtain ⟨v23, zqe24, h⟩ := ob h
  refine gf948 C hR zqe24 dX8_beginLine_44 ?_
  refine lv_iconst (v := 2) hx hb dX8_beginLine_47 (by decide) ?_
  obtain ⟨v25, zqe26, h⟩ := ob h
  refine ra_I C hR zqe26 dX8_beginLine_48 ?_
  obtain ⟨M27, zqe28, h⟩ := ob h
  refine re_I C hR hS zqe28 dX8_beginLine_49 (fun H locs hR hS => ?_)
  refine lv_aload_n hx hb dX8_beginLine_50 rfl (lv_at hl 0 rfl) ?_
  obtain ⟨v29, zqe30, h⟩ := ob h
  refine gf981 C hR zqe30 dX8_beginLine_51 ?_
  refine lv_iconst (v := 0) hx hb dX8_beginLine_54 (by decide) ?_
  refine lv_aload_n hx hb dX8_beginLine_55 rfl (lv_at hl 0 rfl) ?_
  obtain ⟨v31, zqe32, h⟩ := ob h
  refine gf948 C hR zqe32 dX8_beginLine_56 ?_
  refine lv_bipush (v := 8) hx hb dX8_beginLine_59 (by decide) ?_
  refine lv_iload_n hx hb dX8_beginLine_61 rfl (lv_at hl 1 rfl) ?_
  refine lv_iadd hx hb dX8_beginLine_62 ?_
  obtain ⟨v33, zqe34, h⟩ := ob h
  refine ra_I C hR zqe34 dX8_beginLine_63 ?_
  obtain ⟨M35, zqe36, h⟩ := ob h
  refine re_I C hR hS zqe36 dX8_beginLine_64 (fun H locs hR hS => ?_)
  cases h
  exact rr_V C hR hS dX8_beginLine_65
set_option maxHeartbeats 4000000 in
set_option maxRecDepth 100000 in
theorem w_X8_makeRow_9    {r : Mem} (C : Cx p s m args meth c RX8 cX8_makeRow 4 none D B ca st)   : ∀ (n : Nat) {x0 : Nat} {x1 : Int32} {x3 : Int32} {M : Mem}, f_X8_makeRow_9  n x0 x1 x3 M = some r → ∀ {H : Heap} {locs : List Loc} {ls : Array Slot}, RH D B ca M H → va_S (AA B) s.heap H locs → lv_has ls 4 [(0, .ref (B + x0)), (1, .int x1), (3, .int x3)] → W p l e (rmD 0) s m args below meth c H locs 0 0 (MQ below (Qp D B ca st none r) args s 0 0 (AA B)) (F0 m 9 ls []) := by
  have hx := C.1
  have hb := C.2.1
  intro n
  induction n with
  | zero => intro x0 x1 x3 M h; simp [f_X8_makeRow_9] at h
  | succ n ih =>
    intro x0 x1 x3 M h H locs ls hR hS hl
    rw [f_X8_makeRow_9] at h
    refine lv_iload_n hx hb dX8_makeRow_9 rfl (lv_at hl 2 rfl) ?_
    refine lv_bipush (v := 40) hx hb dX8_makeRow_10 (by decide) ?_
    refine lv_icmp_ge (tgt := 33) hx hb dX8_makeRow_12 (by decide) (fun c => ?_) (fun c => ?_)
    · have h := ip c h
      cases h
      exact rr_V C hR hS dX8_makeRow_33
    · have h := iq c h
      refine lv_aload_n hx hb dX8_makeRow_15 rfl (lv_at hl 0 rfl) ?_
      obtain ⟨v5, zqe6, h⟩ := ob h
      refine gf957 C hR zqe6 dX8_makeRow_16 ?_
      refine lv_bipush (v := 40) hx hb dX8_makeRow_19 (by decide) ?_
      refine lv_iload_n hx hb dX8_makeRow_21 rfl (lv_at hl 1 rfl) ?_
      refine lv_imul hx hb dX8_makeRow_22 ?_
      refine lv_iload_n hx hb dX8_makeRow_23 rfl (lv_at hl 2 rfl) ?_
      refine lv_iadd hx hb dX8_makeRow_24 ?_
      refine lv_iconst (v := 0) hx hb dX8_makeRow_25 (by decide) ?_
      obtain ⟨M7, zqe8, h⟩ := ob h
      refine re_I C hR hS zqe8 dX8_makeRow_26 (fun H locs hR hS => ?_)
      refine lv_iinc (v := (x3 + 1)) (lv' := [(3, .int (x3 + 1)), (0, .ref (B + x0)), (1, .int x1)]) hx hb dX8_makeRow_27 hl (k := 2) rfl rfl (by decide) rfl (fun ls hl => ?_)
      refine lv_goto (tgt := 9) hx hb dX8_makeRow_30 (by decide) ?_
      exact ih h hR hS (lv_sub hl [1, 2, 0] rfl)
theorem ck_X8_makeRow  {x0 : Nat} {x1 : Int32} {x2 : Int32} {M : Mem} {r : Mem} (h : f_X8_makeRow  x0 x1 x2 M = some r) : kd M x0 = 18 := by
  unfold f_X8_makeRow at h
  exact ck h
set_option maxHeartbeats 4000000 in
set_option maxRecDepth 100000 in
theorem ok_X8_makeRow  {x0 : Nat} {x1 : Int32} {x2 : Int32}  {M : Mem} {r : Mem}  (h : f_X8_makeRow  x0 x1 x2 M = some r) : Ok l yX8_makeRow cX8_makeRow 4 none 0 [.ref (B + x0), .int x1, .int x2] D B ca st M none r := by
  have hk0 := ck_X8_makeRow h
  unfold f_X8_makeRow at h
  have h := ip hk0 h
  refine ok_of rfl rfl (Nat.le_of_ble_eq_true rfl) ?_
  intro p e s m args below meth c ls C hl hR hS
  have hl : lv_has ls 4 [(0, .ref (B + x0)), (1, .int x1), (2, .int x2)] := hl
  have hx := C.1
  have hb := C.2.1
  refine lv_aload_n hx hb dX8_makeRow_0 rfl (lv_at hl 0 rfl) ?_
  obtain ⟨v1, zqe2, h⟩ := ob h
  refine gf956 C hR zqe2 dX8_makeRow_1 ?_
  refine lv_iload_n hx hb dX8_makeRow_4 rfl (lv_at hl 1 rfl) ?_
  refine lv_iload_n hx hb dX8_makeRow_5 rfl (lv_at hl 2 rfl) ?_
  obtain ⟨M3, zqe4, h⟩ := ob h
  refine re_I C hR hS zqe4 dX8_makeRow_6 (fun H locs hR hS => ?_)
  refine lv_iconst (v := 0) hx hb dX8_makeRow_7 (by decide) ?_
  refine lv_istore_n (lv' := [(3, .int 0), (0, .ref (B + x0)), (1, .int x1), (2, .int x2)]) hx hb dX8_makeRow_8 rfl hl (by decide) rfl (fun ls hl => ?_)
  exact w_X8_makeRow_9 C  FU h hR hS (lv_sub hl [1, 2, 0] rfl)
theorem ck_X8_hoursTo  {x0 : Nat} {x1 : Int32} {M : Mem} {r : Int32} (h : f_X8_hoursTo  x0 x1 M = some r) : kd M x0 = 18 := by
  unfold f_X8_hoursTo at h
  exact ck h
set_option maxHeartbeats 4000000 in
set_option maxRecDepth 100000 in
theorem ok_X8_hoursTo  {x0 : Nat} {x1 : Int32}  {M : Mem} {r : Int32}  (h : f_X8_hoursTo  x0 x1 M = some r) : Ok l yX8_hoursTo cX8_hoursTo 2 (some .int) 1 [.ref (B + x0), .int x1] D B ca st M (some (.int r)) M := by
  have hk0 := ck_X8_hoursTo h
  unfold f_X8_hoursTo at h
  have h := ip hk0 h
  refine ok_of rfl rfl (Nat.le_of_ble_eq_true rfl) ?_
  intro p e s m args below meth c ls C hl hR hS
  have hl : lv_has ls 2 [(0, .ref (B + x0)), (1, .int x1)] := hl
  have hx := C.1
  have hb := C.2.1
  refine lv_aload_n hx hb dX8_hoursTo_0 rfl (lv_at hl 0 rfl) ?_
  obtain ⟨v1, zqe2, h⟩ := ob h
  refine gf977 C hR zqe2 dX8_hoursTo_1 ?_
  refine lv_aload_n hx hb dX8_hoursTo_4 rfl (lv_at hl 0 rfl) ?_
  obtain ⟨v3, zqe4, h⟩ := ob h
  refine gf974 C hR zqe4 dX8_hoursTo_5 ?_
  obtain ⟨v5, zqe6, h⟩ := ob h
  refine ra_I C hR zqe6 dX8_hoursTo_8 ?_
  refine lv_aload_n hx hb dX8_hoursTo_9 rfl (lv_at hl 0 rfl) ?_
  obtain ⟨v7, zqe8, h⟩ := ob h
  refine gf981 C hR zqe8 dX8_hoursTo_10 ?_
  refine lv_aload_n hx hb dX8_hoursTo_13 rfl (lv_at hl 0 rfl) ?_
  obtain ⟨v9, zqe10, h⟩ := ob h
  refine gf974 C hR zqe10 dX8_hoursTo_14 ?_
  obtain ⟨v11, zqe12, h⟩ := ob h
  refine ra_I C hR zqe12 dX8_hoursTo_17 ?_
  refine lv_aload_n hx hb dX8_hoursTo_18 rfl (lv_at hl 0 rfl) ?_
  obtain ⟨v13, zqe14, h⟩ := ob h
  refine gf953 C hR zqe14 dX8_hoursTo_19 ?_
  refine lv_iload_n hx hb dX8_hoursTo_22 rfl (lv_at hl 1 rfl) ?_
  obtain ⟨v15, zqe16, h⟩ := ob h
  refine ra_I C hR zqe16 dX8_hoursTo_23 ?_
  refine rc_S C hR hS cf_X8_apart cs_X8_apart lk1221 (ok_X8_apart v11 v15) ⟨Nat.le_of_ble_eq_true rfl, Nat.le_of_ble_eq_true rfl⟩ ⟨Nat.zero_le _, Nat.zero_le _⟩ rfl rfl hl.1 (Nat.le_of_ble_eq_true rfl) dX8_hoursTo_24 (rc_k1 (fun H locs hR hS => ?_))
  refine lv_iadd hx hb dX8_hoursTo_27 ?_
  refine lv_iconst (v := 1) hx hb dX8_hoursTo_28 (by decide) ?_
  refine lv_iadd hx hb dX8_hoursTo_29 ?_
  cases h
  exact rr_I C hR hS dX8_hoursTo_30
set_option maxHeartbeats 4000000 in
set_option maxRecDepth 100000 in
theorem w_X8_mayNext_39    {r : Int32} {x0 : Nat} {x1 : Int32} {x2 : Int32} {x3 : Int32} {s0 : Int32} {M : Mem} (C : Cx p s m args meth c RX8 cX8_mayNext 5 (some .boolean) D B ca st)   (h : f_X8_mayNext_39  x0 x1 x2 x3 s0 M = some r) : ∀ {H : Heap} {locs : List Loc} {ls : Array Slot}, RH D B ca M H → va_S (AA B) s.heap H locs → lv_has ls 5 [(0, .ref (B + x0)), (1, .int x1), (2, .int x2), (3, .int x3)] → W p l e (rmD 3) s m args below meth c H locs 0 0 (MQ below (Qp D B ca st (some (.int r)) M) args s 0 0 (AA B)) (F0 m 39 ls [.int s0]) := by
  have hx := C.1
  have hb := C.2.1
  unfold f_X8_mayNext_39 at h
  intro H locs ls hR hS hl
  refine lv_istore (lv' := [(4, .int s0), (0, .ref (B + x0)), (1, .int x1), (2, .int x2), (3, .int x3)]) hx hb dX8_mayNext_39 hl (by decide) rfl (fun ls hl => ?_)
  refine lv_iload hx hb dX8_mayNext_41 (lv_at hl 0 rfl) ?_
  refine lv_if_eq (tgt := 77) hx hb dX8_mayNext_43 (by decide) (fun c => ?_) (fun c => ?_)
  · have h := ip c h
    refine lv_iconst (v := 0) hx hb dX8_mayNext_77 (by decide) ?_
    cases h
    exact rr_Z (v := 0) C hR hS (by decide) dX8_mayNext_78
  · have h := iq c h
    refine lv_aload_n hx hb dX8_mayNext_46 rfl (lv_at hl 1 rfl) ?_
    obtain ⟨v17, zqe18, h⟩ := ob h
    refine gf979 C hR zqe18 dX8_mayNext_47 ?_
    refine lv_aload_n hx hb dX8_mayNext_50 rfl (lv_at hl 1 rfl) ?_
    obtain ⟨v19, zqe20, h⟩ := ob h
    refine gf974 C hR zqe20 dX8_mayNext_51 ?_
    obtain ⟨v21, zqe22, h⟩ := ob h
    refine ra_I C hR zqe22 dX8_mayNext_54 ?_
    refine lv_aload_n hx hb dX8_mayNext_55 rfl (lv_at hl 1 rfl) ?_
    refine lv_iload_n hx hb dX8_mayNext_56 rfl (lv_at hl 2 rfl) ?_
    refine lv_iload_n hx hb dX8_mayNext_57 rfl (lv_at hl 3 rfl) ?_
    obtain ⟨v24, zqe23, h⟩ := ob h
    refine rc_V C hR hS cf_X8_taken cv_X8_taken lk1172 (ok_X8_taken zqe23) (ck_X8_taken zqe23) ⟨Nat.le_of_ble_eq_true rfl, Nat.le_of_ble_eq_true rfl⟩ ⟨Nat.zero_le _, Nat.zero_le _⟩ rfl rfl hl.1 (Nat.le_of_ble_eq_true rfl) dX8_mayNext_58 (rc_k1 (fun H locs hR hS => ?_))
    refine lv_icmp_lt (tgt := 77) hx hb dX8_mayNext_61 (by decide) (fun c => ?_) (fun c => ?_)
    · have h := ip c h
      refine lv_iconst (v := 0) hx hb dX8_mayNext_77 (by decide) ?_
      cases h
      exact rr_Z (v := 0) C hR hS (by decide) dX8_mayNext_78
    · have h := iq c h
      refine lv_aload_n hx hb dX8_mayNext_64 rfl (lv_at hl 1 rfl) ?_
      refine lv_iload_n hx hb dX8_mayNext_65 rfl (lv_at hl 3 rfl) ?_
      obtain ⟨v26, zqe25, h⟩ := ob h
      refine rc_V C hR hS cf_X8_hoursTo cv_X8_hoursTo lk1333 (ok_X8_hoursTo zqe25) (ck_X8_hoursTo zqe25) ⟨Nat.le_of_ble_eq_true rfl, Nat.le_of_ble_eq_true rfl⟩ ⟨Nat.zero_le _, Nat.zero_le _⟩ rfl rfl hl.1 (Nat.le_of_ble_eq_true rfl) dX8_mayNext_66 (rc_k1 (fun H locs hR hS => ?_))
      refine lv_iload_n hx hb dX8_mayNext_69 rfl (lv_at hl 4 rfl) ?_
      refine lv_icmp_gt (tgt := 77) hx hb dX8_mayNext_70 (by decide) (fun c => ?_) (fun c => ?_)
      · have h := ip c h
        refine lv_iconst (v := 0) hx hb dX8_mayNext_77 (by decide) ?_
        cases h
        exact rr_Z (v := 0) C hR hS (by decide) dX8_mayNext_78
      · have h := iq c h
        refine lv_iconst (v := 1) hx hb dX8_mayNext_73 (by decide) ?_
        refine lv_goto (tgt := 78) hx hb dX8_mayNext_74 (by decide) ?_
        cases h
        exact rr_Z (v := 1) C hR hS (by decide) dX8_mayNext_78
set_option maxHeartbeats 4000000 in
set_option maxRecDepth 100000 in
theorem w_X8_mayNext_38    {r : Int32} {x0 : Nat} {x1 : Int32} {x2 : Int32} {x3 : Int32} {M : Mem} (C : Cx p s m args meth c RX8 cX8_mayNext 5 (some .boolean) D B ca st)   (h : f_X8_mayNext_38  x0 x1 x2 x3 M = some r) : ∀ {H : Heap} {locs : List Loc} {ls : Array Slot}, RH D B ca M H → va_S (AA B) s.heap H locs → lv_has ls 5 [(0, .ref (B + x0)), (1, .int x1), (2, .int x2), (3, .int x3)] → W p l e (rmD 3) s m args below meth c H locs 0 0 (MQ below (Qp D B ca st (some (.int r)) M) args s 0 0 (AA B)) (F0 m 38 ls []) := by
  have hx := C.1
  have hb := C.2.1
  unfold f_X8_mayNext_38 at h
  intro H locs ls hR hS hl
  refine lv_iconst (v := 0) hx hb dX8_mayNext_38 (by decide) ?_
  exact w_X8_mayNext_39 C  h hR hS (lv_sub hl [0, 1, 2, 3] rfl)
theorem ck_X8_mayNext  {x0 : Nat} {x1 : Int32} {x2 : Int32} {x3 : Int32} {M : Mem} {r : Int32} (h : f_X8_mayNext  x0 x1 x2 x3 M = some r) : kd M x0 = 18 := by
  unfold f_X8_mayNext at h
  exact ck h
set_option maxHeartbeats 4000000 in
set_option maxRecDepth 100000 in
theorem ok_X8_mayNext  {x0 : Nat} {x1 : Int32} {x2 : Int32} {x3 : Int32}  {M : Mem} {r : Int32}  (h : f_X8_mayNext  x0 x1 x2 x3 M = some r) : Ok l yX8_mayNext cX8_mayNext 5 (some .boolean) 3 [.ref (B + x0), .int x1, .int x2, .int x3] D B ca st M (some (.int r)) M := by
  have hk0 := ck_X8_mayNext h
  unfold f_X8_mayNext at h
  have h := ip hk0 h
  refine ok_of rfl rfl (Nat.le_of_ble_eq_true rfl) ?_
  intro p e s m args below meth c ls C hl hR hS
  have hl : lv_has ls 5 [(0, .ref (B + x0)), (1, .int x1), (2, .int x2), (3, .int x3)] := hl
  have hx := C.1
  have hb := C.2.1
  refine lv_aload_n hx hb dX8_mayNext_0 rfl (lv_at hl 0 rfl) ?_
  obtain ⟨v1, zqe2, h⟩ := ob h
  refine gf980 C hR zqe2 dX8_mayNext_1 ?_
  refine lv_aload_n hx hb dX8_mayNext_4 rfl (lv_at hl 0 rfl) ?_
  obtain ⟨v3, zqe4, h⟩ := ob h
  refine gf974 C hR zqe4 dX8_mayNext_5 ?_
  obtain ⟨v5, zqe6, h⟩ := ob h
  refine ra_I C hR zqe6 dX8_mayNext_8 ?_
  refine lv_iload_n hx hb dX8_mayNext_9 rfl (lv_at hl 2 rfl) ?_
  refine rc_S C hR hS cf_X8_has cs_X8_has lk1166 (ok_X8_has v5 x2) ⟨Nat.le_of_ble_eq_true rfl, Nat.le_of_ble_eq_true rfl⟩ ⟨Nat.zero_le _, Nat.zero_le _⟩ rfl rfl hl.1 (Nat.le_of_ble_eq_true rfl) dX8_mayNext_10 (rc_k1 (fun H locs hR hS => ?_))
  refine lv_if_ne (tgt := 38) hx hb dX8_mayNext_13 (by decide) (fun c => ?_) (fun c => ?_)
  · have h := iq c h
    exact w_X8_mayNext_38 C  h hR hS (lv_sub hl [0, 1, 2, 3] rfl)
  · have h := ip c h
    refine lv_aload_n hx hb dX8_mayNext_16 rfl (lv_at hl 0 rfl) ?_
    obtain ⟨v8, zqe9, h⟩ := ob h
    refine gf950 C hR zqe9 dX8_mayNext_17 ?_
    refine lv_iload_n hx hb dX8_mayNext_20 rfl (lv_at hl 1 rfl) ?_
    obtain ⟨v10, zqe11, h⟩ := ob h
    refine ra_I C hR zqe11 dX8_mayNext_21 ?_
    refine lv_aload_n hx hb dX8_mayNext_22 rfl (lv_at hl 0 rfl) ?_
    obtain ⟨v12, zqe13, h⟩ := ob h
    refine gf954 C hR zqe13 dX8_mayNext_23 ?_
    refine lv_iload_n hx hb dX8_mayNext_26 rfl (lv_at hl 2 rfl) ?_
    obtain ⟨v14, zqe15, h⟩ := ob h
    refine ra_I C hR zqe15 dX8_mayNext_27 ?_
    refine rc_S C hR hS cf_X8_isTooDeep cs_X8_isTooDeep lk1169 (ok_X8_isTooDeep v10 v14) ⟨Nat.le_of_ble_eq_true rfl, Nat.le_of_ble_eq_true rfl⟩ ⟨Nat.zero_le _, Nat.zero_le _⟩ rfl rfl hl.1 (Nat.le_of_ble_eq_true rfl) dX8_mayNext_28 (rc_k1 (fun H locs hR hS => ?_))
    refine lv_if_ne (tgt := 38) hx hb dX8_mayNext_31 (by decide) (fun c => ?_) (fun c => ?_)
    · have h := iq c h
      exact w_X8_mayNext_38 C  h hR hS (lv_sub hl [0, 1, 2, 3] rfl)
    · have h := ip c h
      refine lv_iconst (v := 1) hx hb dX8_mayNext_34 (by decide) ?_
      refine lv_goto (tgt := 39) hx hb dX8_mayNext_35 (by decide) ?_
      exact w_X8_mayNext_39 C  h hR hS (lv_sub hl [0, 1, 2, 3] rfl)
set_option maxHeartbeats 4000000 in
set_option maxRecDepth 100000 in
theorem w_X8_nextLine_47  {k16 : Nat → Int32 → Int32 → Int32 → Mem → Option (Int32 × Mem)}  {r : Int32 × Mem} {x0 : Nat} {x1 : Int32} {x2 : Int32} {x3 : Int32} {M : Mem} (C : Cx p s m args meth c RX8 cX8_nextLine 5 (some .boolean) D B ca st)  (hk16 : ∀ {x0 : Nat} {x1 : Int32} {x2 : Int32} {x3 : Int32} {M : Mem}, k16 x0 x1 x2 x3 M = some r → ∀ {H : Heap} {locs : List Loc} {ls : Array Slot}, RH D B ca M H → va_S (AA B) s.heap H locs → lv_has ls 5 [(0, .ref (B + x0)), (1, .int x1), (2, .int x2), (3, .int x3)] → W p l e (rmD 4) s m args below meth c H locs 0 0 (MQ below (Qp D B ca st (some (.int r.1)) r.2) args s 0 0 (AA B)) (F0 m 16 ls [])) (h : f_X8_nextLine_47 k16 x0 x1 x2 x3 M = some r) : ∀ {H : Heap} {locs : List Loc} {ls : Array Slot}, RH D B ca M H → va_S (AA B) s.heap H locs → lv_has ls 5 [(0, .ref (B + x0)), (1, .int x1), (2, .int x2), (3, .int x3)] → W p l e (rmD 4) s m args below meth c H locs 0 0 (MQ below (Qp D B ca st (some (.int r.1)) r.2) args s 0 0 (AA B)) (F0 m 47 ls []) := by
  have hx := C.1
  have hb := C.2.1
  unfold f_X8_nextLine_47 at h
  intro H locs ls hR hS hl
  refine lv_iload_n hx hb dX8_nextLine_47 rfl (lv_at hl 3 rfl) ?_
  refine lv_aload_n hx hb dX8_nextLine_48 rfl (lv_at hl 0 rfl) ?_
  obtain ⟨v13, zqe14, h⟩ := ob h
  refine gf952 C hR zqe14 dX8_nextLine_49 ?_
  refine lv_icmp_ge (tgt := 176) hx hb dX8_nextLine_52 (by decide) (fun c => ?_) (fun c => ?_)
  · have h := ip c h
    refine lv_aload_n hx hb dX8_nextLine_176 rfl (lv_at hl 0 rfl) ?_
    refine lv_dup hx hb dX8_nextLine_177 rfl ?_
    obtain ⟨v15, zqe16, h⟩ := ob h
    refine gf974 C hR zqe16 dX8_nextLine_178 ?_
    refine lv_iconst (v := 1) hx hb dX8_nextLine_181 (by decide) ?_
    refine lv_isub hx hb dX8_nextLine_182 ?_
    obtain ⟨M17, zqe18, h⟩ := ob h
    refine pf974 C hR hS zqe18 dX8_nextLine_183 (fun H locs hR hS => ?_)
    refine lv_aload_n hx hb dX8_nextLine_186 rfl (lv_at hl 0 rfl) ?_
    obtain ⟨v19, zqe20, h⟩ := ob h
    refine gf974 C hR zqe20 dX8_nextLine_187 ?_
    refine lv_if_ge (tgt := 197) hx hb dX8_nextLine_190 (by decide) (fun c => ?_) (fun c => ?_)
    · have h := ip c h
      refine lv_aload_n hx hb dX8_nextLine_197 rfl (lv_at hl 0 rfl) ?_
      obtain ⟨v21, zqe22, h⟩ := ob h
      refine gf976 C hR zqe22 dX8_nextLine_198 ?_
      refine lv_aload_n hx hb dX8_nextLine_201 rfl (lv_at hl 0 rfl) ?_
      obtain ⟨v23, zqe24, h⟩ := ob h
      refine gf974 C hR zqe24 dX8_nextLine_202 ?_
      obtain ⟨v25, zqe26, h⟩ := ob h
      refine ra_I C hR zqe26 dX8_nextLine_205 ?_
      refine lv_iconst (v := 1) hx hb dX8_nextLine_206 (by decide) ?_
      refine lv_iadd hx hb dX8_nextLine_207 ?_
      refine lv_istore_n (lv' := [(3, .int (v25 + 1)), (0, .ref (B + x0)), (1, .int x1), (2, .int x2)]) hx hb dX8_nextLine_208 rfl hl (by decide) rfl (fun ls hl => ?_)
      refine lv_goto (tgt := 16) hx hb dX8_nextLine_209 (by decide) ?_
      exact hk16 h hR hS (lv_sub hl [1, 2, 3, 0] rfl)
    · have h := iq c h
      refine lv_iconst (v := 0) hx hb dX8_nextLine_193 (by decide) ?_
      refine lv_goto (tgt := 208) hx hb dX8_nextLine_194 (by decide) ?_
      refine lv_istore_n (lv' := [(3, .int 0), (0, .ref (B + x0)), (1, .int x1), (2, .int x2)]) hx hb dX8_nextLine_208 rfl hl (by decide) rfl (fun ls hl => ?_)
      refine lv_goto (tgt := 16) hx hb dX8_nextLine_209 (by decide) ?_
      exact hk16 h hR hS (lv_sub hl [1, 2, 3, 0] rfl)
  · have h := iq c h
    refine lv_aload_n hx hb dX8_nextLine_55 rfl (lv_at hl 0 rfl) ?_
    obtain ⟨v27, zqe28, h⟩ := ob h
    refine gf974 C hR zqe28 dX8_nextLine_56 ?_
    refine lv_istore (lv' := [(4, .int v27), (0, .ref (B + x0)), (1, .int x1), (2, .int x2), (3, .int x3)]) hx hb dX8_nextLine_59 hl (by decide) rfl (fun ls hl => ?_)
    refine lv_aload_n hx hb dX8_nextLine_61 rfl (lv_at hl 1 rfl) ?_
    obtain ⟨v29, zqe30, h⟩ := ob h
    refine gf976 C hR zqe30 dX8_nextLine_62 ?_
    refine lv_iload hx hb dX8_nextLine_65 (lv_at hl 0 rfl) ?_
    refine lv_iload_n hx hb dX8_nextLine_67 rfl (lv_at hl 4 rfl) ?_
    obtain ⟨M31, zqe32, h⟩ := ob h
    refine re_I C hR hS zqe32 dX8_nextLine_68 (fun H locs hR hS => ?_)
    refine lv_aload_n hx hb dX8_nextLine_69 rfl (lv_at hl 1 rfl) ?_
    obtain ⟨v33, zqe34, h⟩ := ob h
    refine gf977 C hR zqe34 dX8_nextLine_70 ?_
    refine lv_iload hx hb dX8_nextLine_73 (lv_at hl 0 rfl) ?_
    refine lv_iconst (v := 1) hx hb dX8_nextLine_75 (by decide) ?_
    refine lv_iadd hx hb dX8_nextLine_76 ?_
    refine lv_aload_n hx hb dX8_nextLine_77 rfl (lv_at hl 1 rfl) ?_
    refine lv_iload_n hx hb dX8_nextLine_78 rfl (lv_at hl 4 rfl) ?_
    obtain ⟨v36, zqe35, h⟩ := ob h
    refine rc_V C hR hS cf_X8_hoursTo cv_X8_hoursTo lk1333 (ok_X8_hoursTo zqe35) (ck_X8_hoursTo zqe35) ⟨Nat.le_of_ble_eq_true rfl, Nat.le_of_ble_eq_true rfl⟩ ⟨Nat.zero_le _, Nat.zero_le _⟩ rfl rfl hl.1 (Nat.le_of_ble_eq_true rfl) dX8_nextLine_79 (rc_k1 (fun H locs hR hS => ?_))
    obtain ⟨M37, zqe38, h⟩ := ob h
    refine re_I C hR hS zqe38 dX8_nextLine_82 (fun H locs hR hS => ?_)
    refine lv_aload_n hx hb dX8_nextLine_83 rfl (lv_at hl 1 rfl) ?_
    obtain ⟨v39, zqe40, h⟩ := ob h
    refine gf978 C hR zqe40 dX8_nextLine_84 ?_
    refine lv_iload hx hb dX8_nextLine_87 (lv_at hl 0 rfl) ?_
    refine lv_iconst (v := 1) hx hb dX8_nextLine_89 (by decide) ?_
    refine lv_iadd hx hb dX8_nextLine_90 ?_
    refine lv_aload_n hx hb dX8_nextLine_91 rfl (lv_at hl 1 rfl) ?_
    obtain ⟨v41, zqe42, h⟩ := ob h
    refine gf978 C hR zqe42 dX8_nextLine_92 ?_
    refine lv_iload hx hb dX8_nextLine_95 (lv_at hl 0 rfl) ?_
    obtain ⟨v43, zqe44, h⟩ := ob h
    refine ra_I C hR zqe44 dX8_nextLine_97 ?_
    refine lv_aload_n hx hb dX8_nextLine_98 rfl (lv_at hl 1 rfl) ?_
    refine lv_iload_n hx hb dX8_nextLine_99 rfl (lv_at hl 2 rfl) ?_
    refine lv_iload_n hx hb dX8_nextLine_100 rfl (lv_at hl 4 rfl) ?_
    obtain ⟨v46, zqe45, h⟩ := ob h
    refine rc_V C hR hS cf_X8_brought cv_X8_brought lk1206 (ok_X8_brought zqe45) (ck_X8_brought zqe45) ⟨Nat.le_of_ble_eq_true rfl, Nat.le_of_ble_eq_true rfl⟩ ⟨Nat.zero_le _, Nat.zero_le _⟩ rfl rfl hl.1 (Nat.le_of_ble_eq_true rfl) dX8_nextLine_101 (rc_k1 (fun H locs hR hS => ?_))
    refine lv_iadd hx hb dX8_nextLine_104 ?_
    obtain ⟨M47, zqe48, h⟩ := ob h
    refine re_I C hR hS zqe48 dX8_nextLine_105 (fun H locs hR hS => ?_)
    refine lv_aload_n hx hb dX8_nextLine_106 rfl (lv_at hl 1 rfl) ?_
    obtain ⟨v49, zqe50, h⟩ := ob h
    refine gf979 C hR zqe50 dX8_nextLine_107 ?_
    refine lv_iload hx hb dX8_nextLine_110 (lv_at hl 0 rfl) ?_
    refine lv_iconst (v := 1) hx hb dX8_nextLine_112 (by decide) ?_
    refine lv_iadd hx hb dX8_nextLine_113 ?_
    refine lv_aload_n hx hb dX8_nextLine_114 rfl (lv_at hl 1 rfl) ?_
    obtain ⟨v51, zqe52, h⟩ := ob h
    refine gf979 C hR zqe52 dX8_nextLine_115 ?_
    refine lv_iload hx hb dX8_nextLine_118 (lv_at hl 0 rfl) ?_
    obtain ⟨v53, zqe54, h⟩ := ob h
    refine ra_I C hR zqe54 dX8_nextLine_120 ?_
    refine lv_aload_n hx hb dX8_nextLine_121 rfl (lv_at hl 1 rfl) ?_
    refine lv_iload_n hx hb dX8_nextLine_122 rfl (lv_at hl 2 rfl) ?_
    refine lv_iload_n hx hb dX8_nextLine_123 rfl (lv_at hl 4 rfl) ?_
    obtain ⟨v56, zqe55, h⟩ := ob h
    refine rc_V C hR hS cf_X8_taken cv_X8_taken lk1172 (ok_X8_taken zqe55) (ck_X8_taken zqe55) ⟨Nat.le_of_ble_eq_true rfl, Nat.le_of_ble_eq_true rfl⟩ ⟨Nat.zero_le _, Nat.zero_le _⟩ rfl rfl hl.1 (Nat.le_of_ble_eq_true rfl) dX8_nextLine_124 (rc_k1 (fun H locs hR hS => ?_))
    refine lv_isub hx hb dX8_nextLine_127 ?_
    obtain ⟨M57, zqe58, h⟩ := ob h
    refine re_I C hR hS zqe58 dX8_nextLine_128 (fun H locs hR hS => ?_)
    refine lv_aload_n hx hb dX8_nextLine_129 rfl (lv_at hl 1 rfl) ?_
    obtain ⟨v59, zqe60, h⟩ := ob h
    refine gf980 C hR zqe60 dX8_nextLine_130 ?_
    refine lv_iload hx hb dX8_nextLine_133 (lv_at hl 0 rfl) ?_
    refine lv_iconst (v := 1) hx hb dX8_nextLine_135 (by decide) ?_
    refine lv_iadd hx hb dX8_nextLine_136 ?_
    refine lv_aload_n hx hb dX8_nextLine_137 rfl (lv_at hl 1 rfl) ?_
    obtain ⟨v61, zqe62, h⟩ := ob h
    refine gf980 C hR zqe62 dX8_nextLine_138 ?_
    refine lv_iload hx hb dX8_nextLine_141 (lv_at hl 0 rfl) ?_
    obtain ⟨v63, zqe64, h⟩ := ob h
    refine ra_I C hR zqe64 dX8_nextLine_143 ?_
    refine lv_iconst (v := 1) hx hb dX8_nextLine_144 (by decide) ?_
    refine lv_iload_n hx hb dX8_nextLine_145 rfl (lv_at hl 4 rfl) ?_
    refine lv_ishl hx hb dX8_nextLine_146 ?_
    refine lv_ior hx hb dX8_nextLine_147 ?_
    obtain ⟨M65, zqe66, h⟩ := ob h
    refine re_I C hR hS zqe66 dX8_nextLine_148 (fun H locs hR hS => ?_)
    refine lv_aload_n hx hb dX8_nextLine_149 rfl (lv_at hl 1 rfl) ?_
    obtain ⟨v67, zqe68, h⟩ := ob h
    refine gf981 C hR zqe68 dX8_nextLine_150 ?_
    refine lv_iload hx hb dX8_nextLine_153 (lv_at hl 0 rfl) ?_
    refine lv_iconst (v := 1) hx hb dX8_nextLine_155 (by decide) ?_
    refine lv_iadd hx hb dX8_nextLine_156 ?_
    refine lv_aload_n hx hb dX8_nextLine_157 rfl (lv_at hl 1 rfl) ?_
    obtain ⟨v69, zqe70, h⟩ := ob h
    refine gf953 C hR zqe70 dX8_nextLine_158 ?_
    refine lv_iload_n hx hb dX8_nextLine_161 rfl (lv_at hl 4 rfl) ?_
    obtain ⟨v71, zqe72, h⟩ := ob h
    refine ra_I C hR zqe72 dX8_nextLine_162 ?_
    obtain ⟨M73, zqe74, h⟩ := ob h
    refine re_I C hR hS zqe74 dX8_nextLine_163 (fun H locs hR hS => ?_)
    refine lv_aload_n hx hb dX8_nextLine_164 rfl (lv_at hl 1 rfl) ?_
    refine lv_dup hx hb dX8_nextLine_165 rfl ?_
    obtain ⟨v75, zqe76, h⟩ := ob h
    refine gf974 C hR zqe76 dX8_nextLine_166 ?_
    refine lv_iconst (v := 1) hx hb dX8_nextLine_169 (by decide) ?_
    refine lv_iadd hx hb dX8_nextLine_170 ?_
    obtain ⟨M77, zqe78, h⟩ := ob h
    refine pf974 C hR hS zqe78 dX8_nextLine_171 (fun H locs hR hS => ?_)
    refine lv_iconst (v := 1) hx hb dX8_nextLine_174 (by decide) ?_
    cases h
    exact rr_Z (v := 1) C hR hS (by decide) dX8_nextLine_175
set_option maxHeartbeats 4000000 in
set_option maxRecDepth 100000 in
theorem w_X8_nextLine_23  {k16 : Nat → Int32 → Int32 → Int32 → Mem → Option (Int32 × Mem)}  {r : Int32 × Mem} (C : Cx p s m args meth c RX8 cX8_nextLine 5 (some .boolean) D B ca st)  (hk16 : ∀ {x0 : Nat} {x1 : Int32} {x2 : Int32} {x3 : Int32} {M : Mem}, k16 x0 x1 x2 x3 M = some r → ∀ {H : Heap} {locs : List Loc} {ls : Array Slot}, RH D B ca M H → va_S (AA B) s.heap H locs → lv_has ls 5 [(0, .ref (B + x0)), (1, .int x1), (2, .int x2), (3, .int x3)] → W p l e (rmD 4) s m args below meth c H locs 0 0 (MQ below (Qp D B ca st (some (.int r.1)) r.2) args s 0 0 (AA B)) (F0 m 16 ls [])) : ∀ (n : Nat) {x0 : Nat} {x1 : Int32} {x2 : Int32} {x3 : Int32} {M : Mem}, f_X8_nextLine_23 k16 n x0 x1 x2 x3 M = some r → ∀ {H : Heap} {locs : List Loc} {ls : Array Slot}, RH D B ca M H → va_S (AA B) s.heap H locs → lv_has ls 5 [(0, .ref (B + x0)), (1, .int x1), (2, .int x2), (3, .int x3)] → W p l e (rmD 4) s m args below meth c H locs 0 0 (MQ below (Qp D B ca st (some (.int r.1)) r.2) args s 0 0 (AA B)) (F0 m 23 ls []) := by
  have hx := C.1
  have hb := C.2.1
  intro n
  induction n with
  | zero => intro x0 x1 x2 x3 M h; simp [f_X8_nextLine_23] at h
  | succ n ih =>
    intro x0 x1 x2 x3 M h H locs ls hR hS hl
    rw [f_X8_nextLine_23] at h
    refine lv_iload_n hx hb dX8_nextLine_23 rfl (lv_at hl 3 rfl) ?_
    refine lv_aload_n hx hb dX8_nextLine_24 rfl (lv_at hl 0 rfl) ?_
    obtain ⟨v9, zqe10, h⟩ := ob h
    refine gf952 C hR zqe10 dX8_nextLine_25 ?_
    refine lv_icmp_ge (tgt := 47) hx hb dX8_nextLine_28 (by decide) (fun c => ?_) (fun c => ?_)
    · have h := ip c h
      exact w_X8_nextLine_47 C (hk16 := @hk16) h hR hS (lv_sub hl [0, 1, 2, 3] rfl)
    · have h := iq c h
      refine lv_aload_n hx hb dX8_nextLine_31 rfl (lv_at hl 0 rfl) ?_
      refine lv_iload_n hx hb dX8_nextLine_32 rfl (lv_at hl 1 rfl) ?_
      refine lv_iload_n hx hb dX8_nextLine_33 rfl (lv_at hl 3 rfl) ?_
      refine lv_iload_n hx hb dX8_nextLine_34 rfl (lv_at hl 2 rfl) ?_
      obtain ⟨v12, zqe11, h⟩ := ob h
      refine rc_V C hR hS cf_X8_mayNext cv_X8_mayNext lk1329 (ok_X8_mayNext zqe11) (ck_X8_mayNext zqe11) ⟨Nat.le_of_ble_eq_true rfl, Nat.le_of_ble_eq_true rfl⟩ ⟨Nat.zero_le _, Nat.zero_le _⟩ rfl rfl hl.1 (Nat.le_of_ble_eq_true rfl) dX8_nextLine_35 (rc_k1 (fun H locs hR hS => ?_))
      refine lv_if_ne (tgt := 47) hx hb dX8_nextLine_38 (by decide) (fun c => ?_) (fun c => ?_)
      · have h := iq c h
        exact w_X8_nextLine_47 C (hk16 := @hk16) h hR hS (lv_sub hl [0, 1, 2, 3] rfl)
      · have h := ip c h
        refine lv_iinc (v := (x3 + 1)) (lv' := [(3, .int (x3 + 1)), (0, .ref (B + x0)), (1, .int x1), (2, .int x2)]) hx hb dX8_nextLine_41 hl (k := 3) rfl rfl (by decide) rfl (fun ls hl => ?_)
        refine lv_goto (tgt := 23) hx hb dX8_nextLine_44 (by decide) ?_
        exact ih h hR hS (lv_sub hl [1, 2, 3, 0] rfl)
set_option maxHeartbeats 4000000 in
set_option maxRecDepth 100000 in
theorem w_X8_nextLine_16    {r : Int32 × Mem} (C : Cx p s m args meth c RX8 cX8_nextLine 5 (some .boolean) D B ca st)   : ∀ (n : Nat) {x0 : Nat} {x1 : Int32} {x2 : Int32} {x3 : Int32} {M : Mem}, f_X8_nextLine_16  n x0 x1 x2 x3 M = some r → ∀ {H : Heap} {locs : List Loc} {ls : Array Slot}, RH D B ca M H → va_S (AA B) s.heap H locs → lv_has ls 5 [(0, .ref (B + x0)), (1, .int x1), (2, .int x2), (3, .int x3)] → W p l e (rmD 4) s m args below meth c H locs 0 0 (MQ below (Qp D B ca st (some (.int r.1)) r.2) args s 0 0 (AA B)) (F0 m 16 ls []) := by
  have hx := C.1
  have hb := C.2.1
  intro n
  induction n with
  | zero => intro x0 x1 x2 x3 M h; simp [f_X8_nextLine_16] at h
  | succ n ih =>
    intro x0 x1 x2 x3 M h H locs ls hR hS hl
    rw [f_X8_nextLine_16] at h
    refine lv_aload_n hx hb dX8_nextLine_16 rfl (lv_at hl 0 rfl) ?_
    obtain ⟨v7, zqe8, h⟩ := ob h
    refine gf974 C hR zqe8 dX8_nextLine_17 ?_
    refine lv_if_lt (tgt := 212) hx hb dX8_nextLine_20 (by decide) (fun c => ?_) (fun c => ?_)
    · have h := ip c h
      refine lv_iconst (v := 0) hx hb dX8_nextLine_212 (by decide) ?_
      cases h
      exact rr_Z (v := 0) C hR hS (by decide) dX8_nextLine_213
    · have h := iq c h
      exact w_X8_nextLine_23 C (hk16 := @ih) FU h hR hS (lv_sub hl [0, 1, 2, 3] rfl)
theorem ck_X8_nextLine  {x0 : Nat} {x1 : Int32} {x2 : Int32} {M : Mem} {r : Int32 × Mem} (h : f_X8_nextLine  x0 x1 x2 M = some r) : kd M x0 = 18 := by
  unfold f_X8_nextLine at h
  exact ck h
set_option maxHeartbeats 4000000 in
set_option maxRecDepth 100000 in
theorem ok_X8_nextLine  {x0 : Nat} {x1 : Int32} {x2 : Int32}  {M : Mem} {r : Int32 × Mem}  (h : f_X8_nextLine  x0 x1 x2 M = some r) : Ok l yX8_nextLine cX8_nextLine 5 (some .boolean) 4 [.ref (B + x0), .int x1, .int x2] D B ca st M (some (.int r.1)) r.2 := by
  have hk0 := ck_X8_nextLine h
  unfold f_X8_nextLine at h
  have h := ip hk0 h
  refine ok_of rfl rfl (Nat.le_of_ble_eq_true rfl) ?_
  intro p e s m args below meth c ls C hl hR hS
  have hl : lv_has ls 5 [(0, .ref (B + x0)), (1, .int x1), (2, .int x2)] := hl
  have hx := C.1
  have hb := C.2.1
  refine lv_aload_n hx hb dX8_nextLine_0 rfl (lv_at hl 0 rfl) ?_
  obtain ⟨v1, zqe2, h⟩ := ob h
  refine gf975 C hR zqe2 dX8_nextLine_1 ?_
  refine lv_if_ne (tgt := 14) hx hb dX8_nextLine_4 (by decide) (fun c => ?_) (fun c => ?_)
  · have h := iq c h
    refine lv_iconst (v := 0) hx hb dX8_nextLine_14 (by decide) ?_
    refine lv_istore_n (lv' := [(3, .int 0), (0, .ref (B + x0)), (1, .int x1), (2, .int x2)]) hx hb dX8_nextLine_15 rfl hl (by decide) rfl (fun ls hl => ?_)
    exact w_X8_nextLine_16 C  FU h hR hS (lv_sub hl [1, 2, 3, 0] rfl)
  · have h := ip c h
    refine lv_aload_n hx hb dX8_nextLine_7 rfl (lv_at hl 0 rfl) ?_
    refine lv_iconst (v := 1) hx hb dX8_nextLine_8 (by decide) ?_
    obtain ⟨zqb5, zqe6, h⟩ := ob h
    obtain ⟨M3, zqe4, h⟩ := ob h
    refine pf975 C hR hS zqe6 zqe4 dX8_nextLine_9 (fun H locs hR hS => ?_)
    refine lv_iconst (v := 1) hx hb dX8_nextLine_12 (by decide) ?_
    cases h
    exact rr_Z (v := 1) C hR hS (by decide) dX8_nextLine_13
set_option maxHeartbeats 4000000 in
set_option maxRecDepth 100000 in
theorem w_X8_dusk_83  {k37 : Nat → Int32 → Int32 → Int32 → Int32 → Mem → Option (Int32 × Mem)}  {r : Int32 × Mem} (C : Cx p s m args meth c RX8 cX8_dusk 6 (some .int) D B ca st)  (hk37 : ∀ {x0 : Nat} {x1 : Int32} {x2 : Int32} {x3 : Int32} {x4 : Int32} {M : Mem}, k37 x0 x1 x2 x3 x4 M = some r → ∀ {H : Heap} {locs : List Loc} {ls : Array Slot}, RH D B ca M H → va_S (AA B) s.heap H locs → lv_has ls 6 [(0, .ref (B + x0)), (1, .int x1), (2, .int x2), (3, .int x3), (4, .int x4)] → W p l e (rmD 5) s m args below meth c H locs 0 0 (MQ below (Qp D B ca st (some (.int r.1)) r.2) args s 0 0 (AA B)) (F0 m 37 ls [])) : ∀ (n : Nat) {x0 : Nat} {x1 : Int32} {x2 : Int32} {x3 : Int32} {x4 : Int32} {x5 : Int32} {M : Mem}, f_X8_dusk_83 k37 n x0 x1 x2 x3 x4 x5 M = some r → ∀ {H : Heap} {locs : List Loc} {ls : Array Slot}, RH D B ca M H → va_S (AA B) s.heap H locs → lv_has ls 6 [(0, .ref (B + x0)), (1, .int x1), (2, .int x2), (3, .int x3), (4, .int x4), (5, .int x5)] → W p l e (rmD 5) s m args below meth c H locs 0 0 (MQ below (Qp D B ca st (some (.int r.1)) r.2) args s 0 0 (AA B)) (F0 m 83 ls []) := by
  have hx := C.1
  have hb := C.2.1
  intro n
  induction n with
  | zero => intro x0 x1 x2 x3 x4 x5 M h; simp [f_X8_dusk_83] at h
  | succ n ih =>
    intro x0 x1 x2 x3 x4 x5 M h H locs ls hR hS hl
    rw [f_X8_dusk_83] at h
    refine lv_iload hx hb dX8_dusk_83 (lv_at hl 5 rfl) ?_
    refine lv_aload_n hx hb dX8_dusk_85 rfl (lv_at hl 0 rfl) ?_
    obtain ⟨v27, zqe28, h⟩ := ob h
    refine gf974 C hR zqe28 dX8_dusk_86 ?_
    refine lv_icmp_ge (tgt := 117) hx hb dX8_dusk_89 (by decide) (fun c => ?_) (fun c => ?_)
    · have h := ip c h
      refine lv_goto (tgt := 37) hx hb dX8_dusk_117 (by decide) ?_
      exact hk37 h hR hS (lv_sub hl [0, 1, 2, 3, 4] rfl)
    · have h := iq c h
      refine lv_aload_n hx hb dX8_dusk_92 rfl (lv_at hl 0 rfl) ?_
      obtain ⟨v29, zqe30, h⟩ := ob h
      refine gf957 C hR zqe30 dX8_dusk_93 ?_
      refine lv_bipush (v := 40) hx hb dX8_dusk_96 (by decide) ?_
      refine lv_iload_n hx hb dX8_dusk_98 rfl (lv_at hl 3 rfl) ?_
      refine lv_imul hx hb dX8_dusk_99 ?_
      refine lv_iload hx hb dX8_dusk_100 (lv_at hl 5 rfl) ?_
      refine lv_iadd hx hb dX8_dusk_102 ?_
      refine lv_aload_n hx hb dX8_dusk_103 rfl (lv_at hl 0 rfl) ?_
      obtain ⟨v31, zqe32, h⟩ := ob h
      refine gf976 C hR zqe32 dX8_dusk_104 ?_
      refine lv_iload hx hb dX8_dusk_107 (lv_at hl 5 rfl) ?_
      obtain ⟨v33, zqe34, h⟩ := ob h
      refine ra_I C hR zqe34 dX8_dusk_109 ?_
      obtain ⟨M35, zqe36, h⟩ := ob h
      refine re_I C hR hS zqe36 dX8_dusk_110 (fun H locs hR hS => ?_)
      refine lv_iinc (v := (x5 + 1)) (lv' := [(5, .int (x5 + 1)), (0, .ref (B + x0)), (1, .int x1), (2, .int x2), (3, .int x3), (4, .int x4)]) hx hb dX8_dusk_111 hl (k := 5) rfl rfl (by decide) rfl (fun ls hl => ?_)
      refine lv_goto (tgt := 83) hx hb dX8_dusk_114 (by decide) ?_
      exact ih h hR hS (lv_sub hl [1, 2, 3, 4, 5, 0] rfl)
set_option maxHeartbeats 4000000 in
set_option maxRecDepth 100000 in
theorem w_X8_dusk_37    {r : Int32 × Mem} (C : Cx p s m args meth c RX8 cX8_dusk 6 (some .int) D B ca st)   : ∀ (n : Nat) {x0 : Nat} {x1 : Int32} {x2 : Int32} {x3 : Int32} {x4 : Int32} {M : Mem}, f_X8_dusk_37  n x0 x1 x2 x3 x4 M = some r → ∀ {H : Heap} {locs : List Loc} {ls : Array Slot}, RH D B ca M H → va_S (AA B) s.heap H locs → lv_has ls 6 [(0, .ref (B + x0)), (1, .int x1), (2, .int x2), (3, .int x3), (4, .int x4)] → W p l e (rmD 5) s m args below meth c H locs 0 0 (MQ below (Qp D B ca st (some (.int r.1)) r.2) args s 0 0 (AA B)) (F0 m 37 ls []) := by
  have hx := C.1
  have hb := C.2.1
  intro n
  induction n with
  | zero => intro x0 x1 x2 x3 x4 M h; simp [f_X8_dusk_37] at h
  | succ n ih =>
    intro x0 x1 x2 x3 x4 M h H locs ls hR hS hl
    rw [f_X8_dusk_37] at h
    refine lv_aload_n hx hb dX8_dusk_37 rfl (lv_at hl 0 rfl) ?_
    refine lv_iload_n hx hb dX8_dusk_38 rfl (lv_at hl 1 rfl) ?_
    refine lv_iload_n hx hb dX8_dusk_39 rfl (lv_at hl 2 rfl) ?_
    obtain ⟨qv9, zqe8, h⟩ := ob h
    refine rc_V C hR hS cf_X8_nextLine cv_X8_nextLine lk1325 (ok_X8_nextLine zqe8) (ck_X8_nextLine zqe8) ⟨Nat.le_of_ble_eq_true rfl, Nat.le_of_ble_eq_true rfl⟩ ⟨Nat.zero_le _, Nat.zero_le _⟩ rfl rfl hl.1 (Nat.le_of_ble_eq_true rfl) dX8_dusk_40 (rc_k1 (fun H locs hR hS => ?_))
    refine lv_if_eq (tgt := 120) hx hb dX8_dusk_43 (by decide) (fun c => ?_) (fun c => ?_)
    · have h := ip c h
      refine lv_iload hx hb dX8_dusk_120 (lv_at hl 4 rfl) ?_
      cases h
      exact rr_I C hR hS dX8_dusk_122
    · have h := iq c h
      refine lv_aload_n hx hb dX8_dusk_46 rfl (lv_at hl 0 rfl) ?_
      obtain ⟨v11, zqe12, h⟩ := ob h
      refine gf978 C hR zqe12 dX8_dusk_47 ?_
      refine lv_aload_n hx hb dX8_dusk_50 rfl (lv_at hl 0 rfl) ?_
      obtain ⟨v13, zqe14, h⟩ := ob h
      refine gf974 C hR zqe14 dX8_dusk_51 ?_
      obtain ⟨v15, zqe16, h⟩ := ob h
      refine ra_I C hR zqe16 dX8_dusk_54 ?_
      refine lv_iload hx hb dX8_dusk_55 (lv_at hl 4 rfl) ?_
      refine lv_icmp_le (tgt := 37) hx hb dX8_dusk_57 (by decide) (fun c => ?_) (fun c => ?_)
      · have h := ip c h
        exact ih h hR hS (lv_sub hl [0, 1, 2, 3, 4] rfl)
      · have h := iq c h
        refine lv_aload_n hx hb dX8_dusk_60 rfl (lv_at hl 0 rfl) ?_
        obtain ⟨v17, zqe18, h⟩ := ob h
        refine gf978 C hR zqe18 dX8_dusk_61 ?_
        refine lv_aload_n hx hb dX8_dusk_64 rfl (lv_at hl 0 rfl) ?_
        obtain ⟨v19, zqe20, h⟩ := ob h
        refine gf974 C hR zqe20 dX8_dusk_65 ?_
        obtain ⟨v21, zqe22, h⟩ := ob h
        refine ra_I C hR zqe22 dX8_dusk_68 ?_
        refine lv_istore (lv' := [(4, .int v21), (0, .ref (B + x0)), (1, .int x1), (2, .int x2), (3, .int x3)]) hx hb dX8_dusk_69 hl (by decide) rfl (fun ls hl => ?_)
        refine lv_aload_n hx hb dX8_dusk_71 rfl (lv_at hl 1 rfl) ?_
        refine lv_iload_n hx hb dX8_dusk_72 rfl (lv_at hl 4 rfl) ?_
        refine lv_aload_n hx hb dX8_dusk_73 rfl (lv_at hl 1 rfl) ?_
        obtain ⟨v23, zqe24, h⟩ := ob h
        refine gf974 C hR zqe24 dX8_dusk_74 ?_
        obtain ⟨M26, zqe25, h⟩ := ob h
        refine rc_V C hR hS cf_X8_makeRow cv_X8_makeRow lk1066 (ok_X8_makeRow zqe25) (ck_X8_makeRow zqe25) ⟨Nat.le_of_ble_eq_true rfl, Nat.le_of_ble_eq_true rfl⟩ ⟨Nat.zero_le _, Nat.zero_le _⟩ rfl rfl hl.1 (Nat.le_of_ble_eq_true rfl) dX8_dusk_77 (rc_k0 (fun H locs hR hS => ?_))
        refine lv_iconst (v := 0) hx hb dX8_dusk_80 (by decide) ?_
        refine lv_istore (lv' := [(5, .int 0), (4, .int v21), (0, .ref (B + x0)), (1, .int x1), (2, .int x2), (3, .int x3)]) hx hb dX8_dusk_81 hl (by decide) rfl (fun ls hl => ?_)
        exact w_X8_dusk_83 C (hk37 := @ih) FU h hR hS (lv_sub hl [2, 3, 4, 5, 1, 0] rfl)
theorem ck_X8_dusk  {x0 : Nat} {x1 : Int32} {x2 : Int32} {x3 : Int32} {M : Mem} {r : Int32 × Mem} (h : f_X8_dusk  x0 x1 x2 x3 M = some r) : kd M x0 = 18 := by
  unfold f_X8_dusk at h
  exact ck h
set_option maxHeartbeats 4000000 in
set_option maxRecDepth 100000 in
theorem ok_X8_dusk  {x0 : Nat} {x1 : Int32} {x2 : Int32} {x3 : Int32}  {M : Mem} {r : Int32 × Mem}  (h : f_X8_dusk  x0 x1 x2 x3 M = some r) : Ok l yX8_dusk cX8_dusk 6 (some .int) 5 [.ref (B + x0), .int x1, .int x2, .int x3] D B ca st M (some (.int r.1)) r.2 := by
  have hk0 := ck_X8_dusk h
  unfold f_X8_dusk at h
  have h := ip hk0 h
  refine ok_of rfl rfl (Nat.le_of_ble_eq_true rfl) ?_
  intro p e s m args below meth c ls C hl hR hS
  have hl : lv_has ls 6 [(0, .ref (B + x0)), (1, .int x1), (2, .int x2), (3, .int x3)] := hl
  have hx := C.1
  have hb := C.2.1
  refine lv_aload_n hx hb dX8_dusk_0 rfl (lv_at hl 0 rfl) ?_
  refine lv_iload_n hx hb dX8_dusk_1 rfl (lv_at hl 1 rfl) ?_
  obtain ⟨v2, zqe1, h⟩ := ob h
  refine rc_V C hR hS cf_X8_isSigher cv_X8_isSigher lk1153 (ok_X8_isSigher zqe1) (ck_X8_isSigher zqe1) ⟨Nat.le_of_ble_eq_true rfl, Nat.le_of_ble_eq_true rfl⟩ ⟨Nat.zero_le _, Nat.zero_le _⟩ rfl rfl hl.1 (Nat.le_of_ble_eq_true rfl) dX8_dusk_2 (rc_k1 (fun H locs hR hS => ?_))
  refine lv_if_eq (tgt := 27) hx hb dX8_dusk_5 (by decide) (fun c => ?_) (fun c => ?_)
  · have h := ip c h
    refine lv_iconst (v := (-1)) hx hb dX8_dusk_27 (by decide) ?_
    cases h
    exact rr_I C hR hS dX8_dusk_28
  · have h := iq c h
    refine lv_iload_n hx hb dX8_dusk_8 rfl (lv_at hl 2 rfl) ?_
    refine lv_i2l (v := (Int32.toInt64 x2)) hx hb dX8_dusk_9 rfl ?_
    refine lv_lconst (v := 0) hx hb dX8_dusk_10 (by decide) ?_
    refine lv_ldc2 hx hb C.2.2.2.1 (C.2.2.2.2.1 _ lk1320) dX8_dusk_11 ?_
    refine rc_S C hR hS cf_X8_in cs_X8_in lk1059 (ok_X8_in (Int32.toInt64 x2) 0 30) ⟨Nat.le_of_ble_eq_true rfl, Nat.le_of_ble_eq_true rfl⟩ ⟨Nat.zero_le _, Nat.zero_le _⟩ rfl rfl hl.1 (Nat.le_of_ble_eq_true rfl) dX8_dusk_14 (rc_k1 (fun H locs hR hS => ?_))
    refine lv_if_eq (tgt := 27) hx hb dX8_dusk_17 (by decide) (fun c => ?_) (fun c => ?_)
    · have h := ip c h
      refine lv_iconst (v := (-1)) hx hb dX8_dusk_27 (by decide) ?_
      cases h
      exact rr_I C hR hS dX8_dusk_28
    · have h := iq c h
      refine lv_iload_n hx hb dX8_dusk_20 rfl (lv_at hl 3 rfl) ?_
      obtain ⟨v5, zqe4, h⟩ := ob h
      refine rc_S C hR hS cf_X8_isRow cs_X8_isRow lk1055 (ok_X8_isRow zqe4) ⟨Nat.le_of_ble_eq_true rfl, Nat.le_of_ble_eq_true rfl⟩ ⟨Nat.zero_le _, Nat.zero_le _⟩ rfl rfl hl.1 (Nat.le_of_ble_eq_true rfl) dX8_dusk_21 (rc_k1 (fun H locs hR hS => ?_))
      refine lv_if_ne (tgt := 29) hx hb dX8_dusk_24 (by decide) (fun c => ?_) (fun c => ?_)
      · have h := iq c h
        refine lv_iconst (v := (-1)) hx hb dX8_dusk_29 (by decide) ?_
        refine lv_istore (lv' := [(4, .int (-1)), (0, .ref (B + x0)), (1, .int x1), (2, .int x2), (3, .int x3)]) hx hb dX8_dusk_30 hl (by decide) rfl (fun ls hl => ?_)
        refine lv_aload_n hx hb dX8_dusk_32 rfl (lv_at hl 1 rfl) ?_
        refine lv_iload_n hx hb dX8_dusk_33 rfl (lv_at hl 2 rfl) ?_
        obtain ⟨M7, zqe6, h⟩ := ob h
        refine rc_V C hR hS cf_X8_beginLine cv_X8_beginLine lk1321 (ok_X8_beginLine zqe6) (ck_X8_beginLine zqe6) ⟨Nat.le_of_ble_eq_true rfl, Nat.le_of_ble_eq_true rfl⟩ ⟨Nat.zero_le _, Nat.zero_le _⟩ rfl rfl hl.1 (Nat.le_of_ble_eq_true rfl) dX8_dusk_34 (rc_k0 (fun H locs hR hS => ?_))
        exact w_X8_dusk_37 C  FU h hR hS (lv_sub hl [1, 2, 3, 4, 0] rfl)
      · have h := ip c h
        refine lv_iconst (v := (-1)) hx hb dX8_dusk_27 (by decide) ?_
        cases h
        exact rr_I C hR hS dX8_dusk_28
theorem ck_X8_here  {x0 : Nat} {M : Mem} {r : Int32} (h : f_X8_here  x0 M = some r) : kd M x0 = 18 := by
  unfold f_X8_here at h
  exact ck h
set_option maxHeartbeats 4000000 in
set_option maxRecDepth 100000 in
theorem ok_X8_here  {x0 : Nat}  {M : Mem} {r : Int32}  (h : f_X8_here  x0 M = some r) : Ok l yX8_here cX8_here 1 (some .int) 0 [.ref (B + x0)] D B ca st M (some (.int r)) M := by
  have hk0 := ck_X8_here h
  unfold f_X8_here at h
  have h := ip hk0 h
  refine ok_of rfl rfl (Nat.le_of_ble_eq_true rfl) ?_
  intro p e s m args below meth c ls C hl hR hS
  have hl : lv_has ls 1 [(0, .ref (B + x0))] := hl
  have hx := C.1
  have hb := C.2.1
  refine lv_aload_n hx hb dX8_here_0 rfl (lv_at hl 0 rfl) ?_
  obtain ⟨v1, zqe2, h⟩ := ob h
  refine gf959 C hR zqe2 dX8_here_1 ?_
  refine lv_aload_n hx hb dX8_here_4 rfl (lv_at hl 0 rfl) ?_
  obtain ⟨v3, zqe4, h⟩ := ob h
  refine gf965 C hR zqe4 dX8_here_5 ?_
  refine lv_aload_n hx hb dX8_here_8 rfl (lv_at hl 0 rfl) ?_
  obtain ⟨v5, zqe6, h⟩ := ob h
  refine gf966 C hR zqe6 dX8_here_9 ?_
  refine lv_iadd hx hb dX8_here_12 ?_
  obtain ⟨v7, zqe8, h⟩ := ob h
  refine ra_I C hR zqe8 dX8_here_13 ?_
  cases h
  exact rr_I C hR hS dX8_here_14
theorem ck_X8_figure  {x0 : Nat} {x1 : Int32} {x2 : Int32} {M : Mem} {r : Int32 × Mem} (h : f_X8_figure  x0 x1 x2 M = some r) : kd M x0 = 18 := by
  unfold f_X8_figure at h
  exact ck h
set_option maxHeartbeats 4000000 in
set_option maxRecDepth 100000 in
theorem ok_X8_figure  {x0 : Nat} {x1 : Int32} {x2 : Int32}  {M : Mem} {r : Int32 × Mem}  (h : f_X8_figure  x0 x1 x2 M = some r) : Ok l yX8_figure cX8_figure 3 (some .int) 1 [.ref (B + x0), .int x1, .int x2] D B ca st M (some (.int r.1)) r.2 := by
  have hk0 := ck_X8_figure h
  unfold f_X8_figure at h
  have h := ip hk0 h
  refine ok_of rfl rfl (Nat.le_of_ble_eq_true rfl) ?_
  intro p e s m args below meth c ls C hl hR hS
  have hl : lv_has ls 3 [(0, .ref (B + x0)), (1, .int x1), (2, .int x2)] := hl
  have hx := C.1
  have hb := C.2.1
  refine lv_aload_n hx hb dX8_figure_0 rfl (lv_at hl 0 rfl) ?_
  obtain ⟨v1, zqe2, h⟩ := ob h
  refine gf966 C hR zqe2 dX8_figure_1 ?_
  refine lv_aload_n hx hb dX8_figure_4 rfl (lv_at hl 0 rfl) ?_
  obtain ⟨v3, zqe4, h⟩ := ob h
  refine gf967 C hR zqe4 dX8_figure_5 ?_
  refine lv_icmp_eq (tgt := 32) hx hb dX8_figure_8 (by decide) (fun c => ?_) (fun c => ?_)
  · have h := ip c h
    refine lv_bipush (v := (-9)) hx hb dX8_figure_32 (by decide) ?_
    cases h
    exact rr_I C hR hS dX8_figure_34
  · have h := iq c h
    refine lv_aload_n hx hb dX8_figure_11 rfl (lv_at hl 0 rfl) ?_
    obtain ⟨v6, zqe5, h⟩ := ob h
    refine rc_V C hR hS cf_X8_here cv_X8_here lk1126 (ok_X8_here zqe5) (ck_X8_here zqe5) ⟨Nat.le_of_ble_eq_true rfl, Nat.le_of_ble_eq_true rfl⟩ ⟨Nat.zero_le _, Nat.zero_le _⟩ rfl rfl hl.1 (Nat.le_of_ble_eq_true rfl) dX8_figure_12 (rc_k1 (fun H locs hR hS => ?_))
    refine lv_i2l (v := (Int32.toInt64 v6)) hx hb dX8_figure_15 rfl ?_
    refine lv_bipush (v := 48) hx hb dX8_figure_16 (by decide) ?_
    refine lv_iload_n hx hb dX8_figure_18 rfl (lv_at hl 1 rfl) ?_
    refine lv_iadd hx hb dX8_figure_19 ?_
    refine lv_i2l (v := (Int32.toInt64 (48 + x1))) hx hb dX8_figure_20 rfl ?_
    refine lv_bipush (v := 48) hx hb dX8_figure_21 (by decide) ?_
    refine lv_iload_n hx hb dX8_figure_23 rfl (lv_at hl 2 rfl) ?_
    refine lv_iadd hx hb dX8_figure_24 ?_
    refine lv_i2l (v := (Int32.toInt64 (48 + x2))) hx hb dX8_figure_25 rfl ?_
    refine rc_S C hR hS cf_X8_in cs_X8_in lk1059 (ok_X8_in (Int32.toInt64 v6) (Int32.toInt64 (48 + x1)) (Int32.toInt64 (48 + x2))) ⟨Nat.le_of_ble_eq_true rfl, Nat.le_of_ble_eq_true rfl⟩ ⟨Nat.zero_le _, Nat.zero_le _⟩ rfl rfl hl.1 (Nat.le_of_ble_eq_true rfl) dX8_figure_26 (rc_k1 (fun H locs hR hS => ?_))
    refine lv_if_ne (tgt := 35) hx hb dX8_figure_29 (by decide) (fun c => ?_) (fun c => ?_)
    · have h := iq c h
      refine lv_aload_n hx hb dX8_figure_35 rfl (lv_at hl 0 rfl) ?_
      refine lv_dup hx hb dX8_figure_36 rfl ?_
      obtain ⟨v8, zqe9, h⟩ := ob h
      refine gf966 C hR zqe9 dX8_figure_37 ?_
      refine lv_iconst (v := 1) hx hb dX8_figure_40 (by decide) ?_
      refine lv_iadd hx hb dX8_figure_41 ?_
      obtain ⟨M10, zqe11, h⟩ := ob h
      refine pf966 C hR hS zqe11 dX8_figure_42 (fun H locs hR hS => ?_)
      refine lv_aload_n hx hb dX8_figure_45 rfl (lv_at hl 0 rfl) ?_
      obtain ⟨v12, zqe13, h⟩ := ob h
      refine gf959 C hR zqe13 dX8_figure_46 ?_
      refine lv_aload_n hx hb dX8_figure_49 rfl (lv_at hl 0 rfl) ?_
      obtain ⟨v14, zqe15, h⟩ := ob h
      refine gf965 C hR zqe15 dX8_figure_50 ?_
      refine lv_aload_n hx hb dX8_figure_53 rfl (lv_at hl 0 rfl) ?_
      obtain ⟨v16, zqe17, h⟩ := ob h
      refine gf966 C hR zqe17 dX8_figure_54 ?_
      refine lv_iadd hx hb dX8_figure_57 ?_
      refine lv_iconst (v := 1) hx hb dX8_figure_58 (by decide) ?_
      refine lv_isub hx hb dX8_figure_59 ?_
      obtain ⟨v18, zqe19, h⟩ := ob h
      refine ra_I C hR zqe19 dX8_figure_60 ?_
      refine lv_bipush (v := 48) hx hb dX8_figure_61 (by decide) ?_
      refine lv_isub hx hb dX8_figure_63 ?_
      cases h
      exact rr_I C hR hS dX8_figure_64
    · have h := ip c h
      refine lv_bipush (v := (-9)) hx hb dX8_figure_32 (by decide) ?_
      cases h
      exact rr_I C hR hS dX8_figure_34
set_option maxHeartbeats 4000000 in
set_option maxRecDepth 100000 in
theorem w_X8_readsOrder_73    {r : Int32 × Mem} {x0 : Nat} {x1 : Int32} {x2 : Int32} {s0 : Int32} {M : Mem} (C : Cx p s m args meth c RX8 cX8_readsOrder 4 (some .boolean) D B ca st)   (h : f_X8_readsOrder_73  x0 x1 x2 s0 M = some r) : ∀ {H : Heap} {locs : List Loc} {ls : Array Slot}, RH D B ca M H → va_S (AA B) s.heap H locs → lv_has ls 4 [(0, .ref (B + x0)), (1, .int x1), (2, .int x2)] → W p l e (rmD 2) s m args below meth c H locs 0 0 (MQ below (Qp D B ca st (some (.int r.1)) r.2) args s 0 0 (AA B)) (F0 m 73 ls [.int s0]) := by
  have hx := C.1
  have hb := C.2.1
  unfold f_X8_readsOrder_73 at h
  intro H locs ls hR hS hl
  refine lv_istore_n (lv' := [(3, .int s0), (0, .ref (B + x0)), (1, .int x1), (2, .int x2)]) hx hb dX8_readsOrder_73 rfl hl (by decide) rfl (fun ls hl => ?_)
  refine lv_iload_n hx hb dX8_readsOrder_74 rfl (lv_at hl 0 rfl) ?_
  refine lv_bipush (v := (-9)) hx hb dX8_readsOrder_75 (by decide) ?_
  refine lv_icmp_ne (tgt := 82) hx hb dX8_readsOrder_77 (by decide) (fun c => ?_) (fun c => ?_)
  · have h := iq c h
    refine lv_aload_n hx hb dX8_readsOrder_82 rfl (lv_at hl 1 rfl) ?_
    obtain ⟨v18, zqe19, h⟩ := ob h
    refine gf970 C hR zqe19 dX8_readsOrder_83 ?_
    refine lv_iconst (v := 3) hx hb dX8_readsOrder_86 (by decide) ?_
    refine lv_aload_n hx hb dX8_readsOrder_87 rfl (lv_at hl 1 rfl) ?_
    obtain ⟨v20, zqe21, h⟩ := ob h
    refine gf971 C hR zqe21 dX8_readsOrder_88 ?_
    refine lv_imul hx hb dX8_readsOrder_91 ?_
    refine lv_iload_n hx hb dX8_readsOrder_92 rfl (lv_at hl 2 rfl) ?_
    obtain ⟨M22, zqe23, h⟩ := ob h
    refine re_I C hR hS zqe23 dX8_readsOrder_93 (fun H locs hR hS => ?_)
    refine lv_aload_n hx hb dX8_readsOrder_94 rfl (lv_at hl 1 rfl) ?_
    obtain ⟨v24, zqe25, h⟩ := ob h
    refine gf970 C hR zqe25 dX8_readsOrder_95 ?_
    refine lv_iconst (v := 3) hx hb dX8_readsOrder_98 (by decide) ?_
    refine lv_aload_n hx hb dX8_readsOrder_99 rfl (lv_at hl 1 rfl) ?_
    obtain ⟨v26, zqe27, h⟩ := ob h
    refine gf971 C hR zqe27 dX8_readsOrder_100 ?_
    refine lv_imul hx hb dX8_readsOrder_103 ?_
    refine lv_iconst (v := 1) hx hb dX8_readsOrder_104 (by decide) ?_
    refine lv_iadd hx hb dX8_readsOrder_105 ?_
    refine lv_iload_n hx hb dX8_readsOrder_106 rfl (lv_at hl 3 rfl) ?_
    obtain ⟨M28, zqe29, h⟩ := ob h
    refine re_I C hR hS zqe29 dX8_readsOrder_107 (fun H locs hR hS => ?_)
    refine lv_aload_n hx hb dX8_readsOrder_108 rfl (lv_at hl 1 rfl) ?_
    obtain ⟨v30, zqe31, h⟩ := ob h
    refine gf970 C hR zqe31 dX8_readsOrder_109 ?_
    refine lv_iconst (v := 3) hx hb dX8_readsOrder_112 (by decide) ?_
    refine lv_aload_n hx hb dX8_readsOrder_113 rfl (lv_at hl 1 rfl) ?_
    obtain ⟨v32, zqe33, h⟩ := ob h
    refine gf971 C hR zqe33 dX8_readsOrder_114 ?_
    refine lv_imul hx hb dX8_readsOrder_117 ?_
    refine lv_iconst (v := 2) hx hb dX8_readsOrder_118 (by decide) ?_
    refine lv_iadd hx hb dX8_readsOrder_119 ?_
    refine lv_iload_n hx hb dX8_readsOrder_120 rfl (lv_at hl 0 rfl) ?_
    obtain ⟨M34, zqe35, h⟩ := ob h
    refine re_I C hR hS zqe35 dX8_readsOrder_121 (fun H locs hR hS => ?_)
    refine lv_aload_n hx hb dX8_readsOrder_122 rfl (lv_at hl 1 rfl) ?_
    refine lv_dup hx hb dX8_readsOrder_123 rfl ?_
    obtain ⟨v36, zqe37, h⟩ := ob h
    refine gf971 C hR zqe37 dX8_readsOrder_124 ?_
    refine lv_iconst (v := 1) hx hb dX8_readsOrder_127 (by decide) ?_
    refine lv_iadd hx hb dX8_readsOrder_128 ?_
    obtain ⟨M38, zqe39, h⟩ := ob h
    refine pf971 C hR hS zqe39 dX8_readsOrder_129 (fun H locs hR hS => ?_)
    refine lv_iconst (v := 1) hx hb dX8_readsOrder_132 (by decide) ?_
    cases h
    exact rr_Z (v := 1) C hR hS (by decide) dX8_readsOrder_133
  · have h := ip c h
    refine lv_iconst (v := 0) hx hb dX8_readsOrder_80 (by decide) ?_
    cases h
    exact rr_Z (v := 0) C hR hS (by decide) dX8_readsOrder_81
set_option maxHeartbeats 4000000 in
set_option maxRecDepth 100000 in
theorem w_X8_readsOrder_54    {r : Int32 × Mem} {x0 : Nat} {x1 : Int32} {s0 : Int32} {M : Mem} (C : Cx p s m args meth c RX8 cX8_readsOrder 4 (some .boolean) D B ca st)   (h : f_X8_readsOrder_54  x0 x1 s0 M = some r) : ∀ {H : Heap} {locs : List Loc} {ls : Array Slot}, RH D B ca M H → va_S (AA B) s.heap H locs → lv_has ls 4 [(0, .ref (B + x0)), (1, .int x1)] → W p l e (rmD 2) s m args below meth c H locs 0 0 (MQ below (Qp D B ca st (some (.int r.1)) r.2) args s 0 0 (AA B)) (F0 m 54 ls [.int s0]) := by
  have hx := C.1
  have hb := C.2.1
  unfold f_X8_readsOrder_54 at h
  intro H locs ls hR hS hl
  refine lv_istore_n (lv' := [(2, .int s0), (0, .ref (B + x0)), (1, .int x1)]) hx hb dX8_readsOrder_54 rfl hl (by decide) rfl (fun ls hl => ?_)
  refine lv_iload_n hx hb dX8_readsOrder_55 rfl (lv_at hl 0 rfl) ?_
  refine lv_bipush (v := (-9)) hx hb dX8_readsOrder_56 (by decide) ?_
  refine lv_icmp_ne (tgt := 66) hx hb dX8_readsOrder_58 (by decide) (fun c => ?_) (fun c => ?_)
  · have h := iq c h
    refine lv_aload_n hx hb dX8_readsOrder_66 rfl (lv_at hl 1 rfl) ?_
    refine lv_iconst (v := 0) hx hb dX8_readsOrder_67 (by decide) ?_
    refine lv_bipush (v := 9) hx hb dX8_readsOrder_68 (by decide) ?_
    obtain ⟨qv16, zqe15, h⟩ := ob h
    refine rc_V C hR hS cf_X8_figure cv_X8_figure lk1134 (ok_X8_figure zqe15) (ck_X8_figure zqe15) ⟨Nat.le_of_ble_eq_true rfl, Nat.le_of_ble_eq_true rfl⟩ ⟨Nat.zero_le _, Nat.zero_le _⟩ rfl rfl hl.1 (Nat.le_of_ble_eq_true rfl) dX8_readsOrder_70 (rc_k1 (fun H locs hR hS => ?_))
    exact w_X8_readsOrder_73 C  h hR hS (lv_sub hl [1, 2, 0] rfl)
  · have h := ip c h
    refine lv_bipush (v := (-9)) hx hb dX8_readsOrder_61 (by decide) ?_
    refine lv_goto (tgt := 73) hx hb dX8_readsOrder_63 (by decide) ?_
    exact w_X8_readsOrder_73 C  h hR hS (lv_sub hl [1, 2, 0] rfl)
theorem ck_X8_readsOrder  {x0 : Nat} {M : Mem} {r : Int32 × Mem} (h : f_X8_readsOrder  x0 M = some r) : kd M x0 = 18 := by
  unfold f_X8_readsOrder at h
  exact ck h
set_option maxHeartbeats 4000000 in
set_option maxRecDepth 100000 in
theorem ok_X8_readsOrder  {x0 : Nat}  {M : Mem} {r : Int32 × Mem}  (h : f_X8_readsOrder  x0 M = some r) : Ok l yX8_readsOrder cX8_readsOrder 4 (some .boolean) 2 [.ref (B + x0)] D B ca st M (some (.int r.1)) r.2 := by
  have hk0 := ck_X8_readsOrder h
  unfold f_X8_readsOrder at h
  have h := ip hk0 h
  refine ok_of rfl rfl (Nat.le_of_ble_eq_true rfl) ?_
  intro p e s m args below meth c ls C hl hR hS
  have hl : lv_has ls 4 [(0, .ref (B + x0))] := hl
  have hx := C.1
  have hb := C.2.1
  refine lv_aload_n hx hb dX8_readsOrder_0 rfl (lv_at hl 0 rfl) ?_
  obtain ⟨v1, zqe2, h⟩ := ob h
  refine gf969 C hR zqe2 dX8_readsOrder_1 ?_
  refine lv_if_eq (tgt := 16) hx hb dX8_readsOrder_4 (by decide) (fun c => ?_) (fun c => ?_)
  · have h := ip c h
    refine lv_iconst (v := 0) hx hb dX8_readsOrder_16 (by decide) ?_
    cases h
    exact rr_Z (v := 0) C hR hS (by decide) dX8_readsOrder_17
  · have h := iq c h
    refine lv_aload_n hx hb dX8_readsOrder_7 rfl (lv_at hl 0 rfl) ?_
    obtain ⟨v3, zqe4, h⟩ := ob h
    refine gf971 C hR zqe4 dX8_readsOrder_8 ?_
    refine lv_bipush (v := 6) hx hb dX8_readsOrder_11 (by decide) ?_
    refine lv_icmp_ne (tgt := 18) hx hb dX8_readsOrder_13 (by decide) (fun c => ?_) (fun c => ?_)
    · have h := iq c h
      refine lv_aload_n hx hb dX8_readsOrder_18 rfl (lv_at hl 0 rfl) ?_
      refine lv_dup hx hb dX8_readsOrder_19 rfl ?_
      obtain ⟨v5, zqe6, h⟩ := ob h
      refine gf966 C hR zqe6 dX8_readsOrder_20 ?_
      refine lv_iconst (v := 1) hx hb dX8_readsOrder_23 (by decide) ?_
      refine lv_iadd hx hb dX8_readsOrder_24 ?_
      obtain ⟨M7, zqe8, h⟩ := ob h
      refine pf966 C hR hS zqe8 dX8_readsOrder_25 (fun H locs hR hS => ?_)
      refine lv_aload_n hx hb dX8_readsOrder_28 rfl (lv_at hl 0 rfl) ?_
      refine lv_iconst (v := 0) hx hb dX8_readsOrder_29 (by decide) ?_
      refine lv_bipush (v := 9) hx hb dX8_readsOrder_30 (by decide) ?_
      obtain ⟨qv10, zqe9, h⟩ := ob h
      refine rc_V C hR hS cf_X8_figure cv_X8_figure lk1134 (ok_X8_figure zqe9) (ck_X8_figure zqe9) ⟨Nat.le_of_ble_eq_true rfl, Nat.le_of_ble_eq_true rfl⟩ ⟨Nat.zero_le _, Nat.zero_le _⟩ rfl rfl hl.1 (Nat.le_of_ble_eq_true rfl) dX8_readsOrder_32 (rc_k1 (fun H locs hR hS => ?_))
      refine lv_istore_n (lv' := [(1, .int qv10.1), (0, .ref (B + x0))]) hx hb dX8_readsOrder_35 rfl hl (by decide) rfl (fun ls hl => ?_)
      refine lv_iload_n hx hb dX8_readsOrder_36 rfl (lv_at hl 0 rfl) ?_
      refine lv_bipush (v := (-9)) hx hb dX8_readsOrder_37 (by decide) ?_
      refine lv_icmp_ne (tgt := 47) hx hb dX8_readsOrder_39 (by decide) (fun c => ?_) (fun c => ?_)
      · have h := iq c h
        refine lv_aload_n hx hb dX8_readsOrder_47 rfl (lv_at hl 1 rfl) ?_
        refine lv_iconst (v := 1) hx hb dX8_readsOrder_48 (by decide) ?_
        refine lv_bipush (v := 9) hx hb dX8_readsOrder_49 (by decide) ?_
        obtain ⟨qv13, zqe12, h⟩ := ob h
        refine rc_V C hR hS cf_X8_figure cv_X8_figure lk1134 (ok_X8_figure zqe12) (ck_X8_figure zqe12) ⟨Nat.le_of_ble_eq_true rfl, Nat.le_of_ble_eq_true rfl⟩ ⟨Nat.zero_le _, Nat.zero_le _⟩ rfl rfl hl.1 (Nat.le_of_ble_eq_true rfl) dX8_readsOrder_51 (rc_k1 (fun H locs hR hS => ?_))
        exact w_X8_readsOrder_54 C  h hR hS (lv_sub hl [1, 0] rfl)
      · have h := ip c h
        refine lv_bipush (v := (-9)) hx hb dX8_readsOrder_42 (by decide) ?_
        refine lv_goto (tgt := 54) hx hb dX8_readsOrder_44 (by decide) ?_
        exact w_X8_readsOrder_54 C  h hR hS (lv_sub hl [1, 0] rfl)
    · have h := ip c h
      refine lv_iconst (v := 0) hx hb dX8_readsOrder_16 (by decide) ?_
      cases h
      exact rr_Z (v := 0) C hR hS (by decide) dX8_readsOrder_17
set_option maxHeartbeats 4000000 in
set_option maxRecDepth 100000 in
theorem ok_X8_kindOfLetter (x0 : Int32) {M : Mem} : Ok l yX8_kindOfLetter cX8_kindOfLetter 1 (some .int) 0 [.int x0] D B ca st M (some (.int (f_X8_kindOfLetter  x0))) M := by
  obtain ⟨r, h⟩ : ∃ r, f_X8_kindOfLetter  x0 = r := ⟨_, rfl⟩
  rw [h]
  unfold f_X8_kindOfLetter at h
  refine ok_of rfl rfl (Nat.le_of_ble_eq_true rfl) ?_
  intro p e s m args below meth c ls C hl hR hS
  have hl : lv_has ls 1 [(0, .int x0)] := hl
  have hx := C.1
  have hb := C.2.1
  refine lv_iload_n hx hb dX8_kindOfLetter_0 rfl (lv_at hl 0 rfl) ?_
  refine lv_bipush (v := 115) hx hb dX8_kindOfLetter_1 (by decide) ?_
  refine lv_icmp_ne (tgt := 10) hx hb dX8_kindOfLetter_3 (by decide) (fun c => ?_) (fun c => ?_)
  · have h := iq c h
    refine lv_iload_n hx hb dX8_kindOfLetter_10 rfl (lv_at hl 0 rfl) ?_
    refine lv_bipush (v := 100) hx hb dX8_kindOfLetter_11 (by decide) ?_
    refine lv_icmp_ne (tgt := 20) hx hb dX8_kindOfLetter_13 (by decide) (fun c => ?_) (fun c => ?_)
    · have h := iq c h
      refine lv_iload_n hx hb dX8_kindOfLetter_20 rfl (lv_at hl 0 rfl) ?_
      refine lv_bipush (v := 97) hx hb dX8_kindOfLetter_21 (by decide) ?_
      refine lv_icmp_ne (tgt := 30) hx hb dX8_kindOfLetter_23 (by decide) (fun c => ?_) (fun c => ?_)
      · have h := iq c h
        refine lv_iload_n hx hb dX8_kindOfLetter_30 rfl (lv_at hl 0 rfl) ?_
        refine lv_bipush (v := 102) hx hb dX8_kindOfLetter_31 (by decide) ?_
        refine lv_icmp_ne (tgt := 40) hx hb dX8_kindOfLetter_33 (by decide) (fun c => ?_) (fun c => ?_)
        · have h := iq c h
          refine lv_iload_n hx hb dX8_kindOfLetter_40 rfl (lv_at hl 0 rfl) ?_
          refine lv_bipush (v := 109) hx hb dX8_kindOfLetter_41 (by decide) ?_
          refine lv_icmp_ne (tgt := 50) hx hb dX8_kindOfLetter_43 (by decide) (fun c => ?_) (fun c => ?_)
          · have h := iq c h
            refine lv_iload_n hx hb dX8_kindOfLetter_50 rfl (lv_at hl 0 rfl) ?_
            refine lv_bipush (v := 112) hx hb dX8_kindOfLetter_51 (by decide) ?_
            refine lv_icmp_ne (tgt := 60) hx hb dX8_kindOfLetter_53 (by decide) (fun c => ?_) (fun c => ?_)
            · have h := iq c h
              refine lv_bipush (v := (-9)) hx hb dX8_kindOfLetter_60 (by decide) ?_
              subst h
              exact rr_I C hR hS dX8_kindOfLetter_62
            · have h := ip c h
              refine lv_iconst (v := 5) hx hb dX8_kindOfLetter_56 (by decide) ?_
              refine lv_goto (tgt := 62) hx hb dX8_kindOfLetter_57 (by decide) ?_
              subst h
              exact rr_I C hR hS dX8_kindOfLetter_62
          · have h := ip c h
            refine lv_iconst (v := 4) hx hb dX8_kindOfLetter_46 (by decide) ?_
            refine lv_goto (tgt := 62) hx hb dX8_kindOfLetter_47 (by decide) ?_
            subst h
            exact rr_I C hR hS dX8_kindOfLetter_62
        · have h := ip c h
          refine lv_iconst (v := 3) hx hb dX8_kindOfLetter_36 (by decide) ?_
          refine lv_goto (tgt := 62) hx hb dX8_kindOfLetter_37 (by decide) ?_
          subst h
          exact rr_I C hR hS dX8_kindOfLetter_62
      · have h := ip c h
        refine lv_iconst (v := 2) hx hb dX8_kindOfLetter_26 (by decide) ?_
        refine lv_goto (tgt := 62) hx hb dX8_kindOfLetter_27 (by decide) ?_
        subst h
        exact rr_I C hR hS dX8_kindOfLetter_62
    · have h := ip c h
      refine lv_iconst (v := 1) hx hb dX8_kindOfLetter_16 (by decide) ?_
      refine lv_goto (tgt := 62) hx hb dX8_kindOfLetter_17 (by decide) ?_
      subst h
      exact rr_I C hR hS dX8_kindOfLetter_62
  · have h := ip c h
    refine lv_iconst (v := 0) hx hb dX8_kindOfLetter_6 (by decide) ?_
    refine lv_goto (tgt := 62) hx hb dX8_kindOfLetter_7 (by decide) ?_
    subst h
    exact rr_I C hR hS dX8_kindOfLetter_62
set_option maxHeartbeats 4000000 in
set_option maxRecDepth 100000 in
theorem w_X8_readsSigher_67    {r : Int32 × Mem} {x0 : Nat} {x1 : Int32} {x2 : Int32} {s0 : Int32} {M : Mem} (C : Cx p s m args meth c RX8 cX8_readsSigher 4 (some .boolean) D B ca st)   (h : f_X8_readsSigher_67  x0 x1 x2 s0 M = some r) : ∀ {H : Heap} {locs : List Loc} {ls : Array Slot}, RH D B ca M H → va_S (AA B) s.heap H locs → lv_has ls 4 [(0, .ref (B + x0)), (1, .int x1), (2, .int x2)] → W p l e (rmD 2) s m args below meth c H locs 0 0 (MQ below (Qp D B ca st (some (.int r.1)) r.2) args s 0 0 (AA B)) (F0 m 67 ls [.int s0]) := by
  have hx := C.1
  have hb := C.2.1
  unfold f_X8_readsSigher_67 at h
  intro H locs ls hR hS hl
  refine lv_istore_n (lv' := [(3, .int s0), (0, .ref (B + x0)), (1, .int x1), (2, .int x2)]) hx hb dX8_readsSigher_67 rfl hl (by decide) rfl (fun ls hl => ?_)
  refine lv_iload_n hx hb dX8_readsSigher_68 rfl (lv_at hl 0 rfl) ?_
  refine lv_bipush (v := (-9)) hx hb dX8_readsSigher_69 (by decide) ?_
  refine lv_icmp_ne (tgt := 76) hx hb dX8_readsSigher_71 (by decide) (fun c => ?_) (fun c => ?_)
  · have h := iq c h
    refine lv_aload_n hx hb dX8_readsSigher_76 rfl (lv_at hl 1 rfl) ?_
    obtain ⟨v18, zqe19, h⟩ := ob h
    refine gf968 C hR zqe19 dX8_readsSigher_77 ?_
    refine lv_iconst (v := 3) hx hb dX8_readsSigher_80 (by decide) ?_
    refine lv_aload_n hx hb dX8_readsSigher_81 rfl (lv_at hl 1 rfl) ?_
    obtain ⟨v20, zqe21, h⟩ := ob h
    refine gf969 C hR zqe21 dX8_readsSigher_82 ?_
    refine lv_imul hx hb dX8_readsSigher_85 ?_
    refine lv_iload_n hx hb dX8_readsSigher_86 rfl (lv_at hl 2 rfl) ?_
    obtain ⟨M22, zqe23, h⟩ := ob h
    refine re_I C hR hS zqe23 dX8_readsSigher_87 (fun H locs hR hS => ?_)
    refine lv_aload_n hx hb dX8_readsSigher_88 rfl (lv_at hl 1 rfl) ?_
    obtain ⟨v24, zqe25, h⟩ := ob h
    refine gf968 C hR zqe25 dX8_readsSigher_89 ?_
    refine lv_iconst (v := 3) hx hb dX8_readsSigher_92 (by decide) ?_
    refine lv_aload_n hx hb dX8_readsSigher_93 rfl (lv_at hl 1 rfl) ?_
    obtain ⟨v26, zqe27, h⟩ := ob h
    refine gf969 C hR zqe27 dX8_readsSigher_94 ?_
    refine lv_imul hx hb dX8_readsSigher_97 ?_
    refine lv_iconst (v := 1) hx hb dX8_readsSigher_98 (by decide) ?_
    refine lv_iadd hx hb dX8_readsSigher_99 ?_
    refine lv_iload_n hx hb dX8_readsSigher_100 rfl (lv_at hl 3 rfl) ?_
    obtain ⟨M28, zqe29, h⟩ := ob h
    refine re_I C hR hS zqe29 dX8_readsSigher_101 (fun H locs hR hS => ?_)
    refine lv_aload_n hx hb dX8_readsSigher_102 rfl (lv_at hl 1 rfl) ?_
    obtain ⟨v30, zqe31, h⟩ := ob h
    refine gf968 C hR zqe31 dX8_readsSigher_103 ?_
    refine lv_iconst (v := 3) hx hb dX8_readsSigher_106 (by decide) ?_
    refine lv_aload_n hx hb dX8_readsSigher_107 rfl (lv_at hl 1 rfl) ?_
    obtain ⟨v32, zqe33, h⟩ := ob h
    refine gf969 C hR zqe33 dX8_readsSigher_108 ?_
    refine lv_imul hx hb dX8_readsSigher_111 ?_
    refine lv_iconst (v := 2) hx hb dX8_readsSigher_112 (by decide) ?_
    refine lv_iadd hx hb dX8_readsSigher_113 ?_
    refine lv_iload_n hx hb dX8_readsSigher_114 rfl (lv_at hl 0 rfl) ?_
    obtain ⟨M34, zqe35, h⟩ := ob h
    refine re_I C hR hS zqe35 dX8_readsSigher_115 (fun H locs hR hS => ?_)
    refine lv_aload_n hx hb dX8_readsSigher_116 rfl (lv_at hl 1 rfl) ?_
    refine lv_dup hx hb dX8_readsSigher_117 rfl ?_
    obtain ⟨v36, zqe37, h⟩ := ob h
    refine gf969 C hR zqe37 dX8_readsSigher_118 ?_
    refine lv_iconst (v := 1) hx hb dX8_readsSigher_121 (by decide) ?_
    refine lv_iadd hx hb dX8_readsSigher_122 ?_
    obtain ⟨M38, zqe39, h⟩ := ob h
    refine pf969 C hR hS zqe39 dX8_readsSigher_123 (fun H locs hR hS => ?_)
    refine lv_iconst (v := 1) hx hb dX8_readsSigher_126 (by decide) ?_
    cases h
    exact rr_Z (v := 1) C hR hS (by decide) dX8_readsSigher_127
  · have h := ip c h
    refine lv_iconst (v := 0) hx hb dX8_readsSigher_74 (by decide) ?_
    cases h
    exact rr_Z (v := 0) C hR hS (by decide) dX8_readsSigher_75
theorem ck_X8_readsSigher  {x0 : Nat} {M : Mem} {r : Int32 × Mem} (h : f_X8_readsSigher  x0 M = some r) : kd M x0 = 18 := by
  unfold f_X8_readsSigher at h
  exact ck h
set_option maxHeartbeats 4000000 in
set_option maxRecDepth 100000 in
theorem ok_X8_readsSigher  {x0 : Nat}  {M : Mem} {r : Int32 × Mem}  (h : f_X8_readsSigher  x0 M = some r) : Ok l yX8_readsSigher cX8_readsSigher 4 (some .boolean) 2 [.ref (B + x0)] D B ca st M (some (.int r.1)) r.2 := by
  have hk0 := ck_X8_readsSigher h
  unfold f_X8_readsSigher at h
  have h := ip hk0 h
  refine ok_of rfl rfl (Nat.le_of_ble_eq_true rfl) ?_
  intro p e s m args below meth c ls C hl hR hS
  have hl : lv_has ls 4 [(0, .ref (B + x0))] := hl
  have hx := C.1
  have hb := C.2.1
  refine lv_aload_n hx hb dX8_readsSigher_0 rfl (lv_at hl 0 rfl) ?_
  obtain ⟨v2, zqe1, h⟩ := ob h
  refine rc_V C hR hS cf_X8_here cv_X8_here lk1126 (ok_X8_here zqe1) (ck_X8_here zqe1) ⟨Nat.le_of_ble_eq_true rfl, Nat.le_of_ble_eq_true rfl⟩ ⟨Nat.zero_le _, Nat.zero_le _⟩ rfl rfl hl.1 (Nat.le_of_ble_eq_true rfl) dX8_readsSigher_1 (rc_k1 (fun H locs hR hS => ?_))
  refine rc_S C hR hS cf_X8_kindOfLetter cs_X8_kindOfLetter lk1142 (ok_X8_kindOfLetter v2) ⟨Nat.le_of_ble_eq_true rfl, Nat.le_of_ble_eq_true rfl⟩ ⟨Nat.zero_le _, Nat.zero_le _⟩ rfl rfl hl.1 (Nat.le_of_ble_eq_true rfl) dX8_readsSigher_4 (rc_k1 (fun H locs hR hS => ?_))
  refine lv_istore_n (lv' := [(1, .int (f_X8_kindOfLetter v2)), (0, .ref (B + x0))]) hx hb dX8_readsSigher_7 rfl hl (by decide) rfl (fun ls hl => ?_)
  refine lv_iload_n hx hb dX8_readsSigher_8 rfl (lv_at hl 0 rfl) ?_
  refine lv_bipush (v := (-9)) hx hb dX8_readsSigher_9 (by decide) ?_
  refine lv_icmp_eq (tgt := 29) hx hb dX8_readsSigher_11 (by decide) (fun c => ?_) (fun c => ?_)
  · have h := ip c h
    refine lv_iconst (v := 0) hx hb dX8_readsSigher_29 (by decide) ?_
    cases h
    exact rr_Z (v := 0) C hR hS (by decide) dX8_readsSigher_30
  · have h := iq c h
    refine lv_aload_n hx hb dX8_readsSigher_14 rfl (lv_at hl 1 rfl) ?_
    obtain ⟨v4, zqe5, h⟩ := ob h
    refine gf969 C hR zqe5 dX8_readsSigher_15 ?_
    refine lv_iconst (v := 5) hx hb dX8_readsSigher_18 (by decide) ?_
    refine lv_icmp_eq (tgt := 29) hx hb dX8_readsSigher_19 (by decide) (fun c => ?_) (fun c => ?_)
    · have h := ip c h
      refine lv_iconst (v := 0) hx hb dX8_readsSigher_29 (by decide) ?_
      cases h
      exact rr_Z (v := 0) C hR hS (by decide) dX8_readsSigher_30
    · have h := iq c h
      refine lv_aload_n hx hb dX8_readsSigher_22 rfl (lv_at hl 1 rfl) ?_
      obtain ⟨v6, zqe7, h⟩ := ob h
      refine gf971 C hR zqe7 dX8_readsSigher_23 ?_
      refine lv_if_le (tgt := 31) hx hb dX8_readsSigher_26 (by decide) (fun c => ?_) (fun c => ?_)
      · have h := ip c h
        refine lv_aload_n hx hb dX8_readsSigher_31 rfl (lv_at hl 1 rfl) ?_
        refine lv_dup hx hb dX8_readsSigher_32 rfl ?_
        obtain ⟨v8, zqe9, h⟩ := ob h
        refine gf966 C hR zqe9 dX8_readsSigher_33 ?_
        refine lv_iconst (v := 1) hx hb dX8_readsSigher_36 (by decide) ?_
        refine lv_iadd hx hb dX8_readsSigher_37 ?_
        obtain ⟨M10, zqe11, h⟩ := ob h
        refine pf966 C hR hS zqe11 dX8_readsSigher_38 (fun H locs hR hS => ?_)
        refine lv_aload_n hx hb dX8_readsSigher_41 rfl (lv_at hl 1 rfl) ?_
        refine lv_iconst (v := 0) hx hb dX8_readsSigher_42 (by decide) ?_
        refine lv_bipush (v := 9) hx hb dX8_readsSigher_43 (by decide) ?_
        obtain ⟨qv13, zqe12, h⟩ := ob h
        refine rc_V C hR hS cf_X8_figure cv_X8_figure lk1134 (ok_X8_figure zqe12) (ck_X8_figure zqe12) ⟨Nat.le_of_ble_eq_true rfl, Nat.le_of_ble_eq_true rfl⟩ ⟨Nat.zero_le _, Nat.zero_le _⟩ rfl rfl hl.1 (Nat.le_of_ble_eq_true rfl) dX8_readsSigher_45 (rc_k1 (fun H locs hR hS => ?_))
        refine lv_istore_n (lv' := [(2, .int qv13.1), (1, .int (f_X8_kindOfLetter v2)), (0, .ref (B + x0))]) hx hb dX8_readsSigher_48 rfl hl (by decide) rfl (fun ls hl => ?_)
        refine lv_iload_n hx hb dX8_readsSigher_49 rfl (lv_at hl 0 rfl) ?_
        refine lv_bipush (v := (-9)) hx hb dX8_readsSigher_50 (by decide) ?_
        refine lv_icmp_ne (tgt := 60) hx hb dX8_readsSigher_52 (by decide) (fun c => ?_) (fun c => ?_)
        · have h := iq c h
          refine lv_aload_n hx hb dX8_readsSigher_60 rfl (lv_at hl 2 rfl) ?_
          refine lv_iconst (v := 0) hx hb dX8_readsSigher_61 (by decide) ?_
          refine lv_bipush (v := 9) hx hb dX8_readsSigher_62 (by decide) ?_
          obtain ⟨qv16, zqe15, h⟩ := ob h
          refine rc_V C hR hS cf_X8_figure cv_X8_figure lk1134 (ok_X8_figure zqe15) (ck_X8_figure zqe15) ⟨Nat.le_of_ble_eq_true rfl, Nat.le_of_ble_eq_true rfl⟩ ⟨Nat.zero_le _, Nat.zero_le _⟩ rfl rfl hl.1 (Nat.le_of_ble_eq_true rfl) dX8_readsSigher_64 (rc_k1 (fun H locs hR hS => ?_))
          exact w_X8_readsSigher_67 C  h hR hS (lv_sub hl [2, 1, 0] rfl)
        · have h := ip c h
          refine lv_bipush (v := (-9)) hx hb dX8_readsSigher_55 (by decide) ?_
          refine lv_goto (tgt := 67) hx hb dX8_readsSigher_57 (by decide) ?_
          exact w_X8_readsSigher_67 C  h hR hS (lv_sub hl [2, 1, 0] rfl)
      · have h := iq c h
        refine lv_iconst (v := 0) hx hb dX8_readsSigher_29 (by decide) ?_
        cases h
        exact rr_Z (v := 0) C hR hS (by decide) dX8_readsSigher_30
set_option maxHeartbeats 4000000 in
set_option maxRecDepth 100000 in
theorem w_X8_skip_0    {r : Mem} (C : Cx p s m args meth c RX8 cX8_skip 1 none D B ca st)   : ∀ (n : Nat) {x0 : Nat} {M : Mem}, f_X8_skip_0  n x0 M = some r → ∀ {H : Heap} {locs : List Loc} {ls : Array Slot}, RH D B ca M H → va_S (AA B) s.heap H locs → lv_has ls 1 [(0, .ref (B + x0))] → W p l e (rmD 1) s m args below meth c H locs 0 0 (MQ below (Qp D B ca st none r) args s 0 0 (AA B)) (F0 m 0 ls []) := by
  have hx := C.1
  have hb := C.2.1
  intro n
  induction n with
  | zero => intro x0 M h; simp [f_X8_skip_0] at h
  | succ n ih =>
    intro x0 M h H locs ls hR hS hl
    rw [f_X8_skip_0] at h
    refine lv_aload_n hx hb dX8_skip_0 rfl (lv_at hl 0 rfl) ?_
    obtain ⟨v1, zqe2, h⟩ := ob h
    refine gf966 C hR zqe2 dX8_skip_1 ?_
    refine lv_aload_n hx hb dX8_skip_4 rfl (lv_at hl 0 rfl) ?_
    obtain ⟨v3, zqe4, h⟩ := ob h
    refine gf967 C hR zqe4 dX8_skip_5 ?_
    refine lv_icmp_ge (tgt := 33) hx hb dX8_skip_8 (by decide) (fun c => ?_) (fun c => ?_)
    · have h := ip c h
      cases h
      exact rr_V C hR hS dX8_skip_33
    · have h := iq c h
      refine lv_aload_n hx hb dX8_skip_11 rfl (lv_at hl 0 rfl) ?_
      obtain ⟨v6, zqe5, h⟩ := ob h
      refine rc_V C hR hS cf_X8_here cv_X8_here lk1126 (ok_X8_here zqe5) (ck_X8_here zqe5) ⟨Nat.le_of_ble_eq_true rfl, Nat.le_of_ble_eq_true rfl⟩ ⟨Nat.zero_le _, Nat.zero_le _⟩ rfl rfl hl.1 (Nat.le_of_ble_eq_true rfl) dX8_skip_12 (rc_k1 (fun H locs hR hS => ?_))
      refine lv_bipush (v := 32) hx hb dX8_skip_15 (by decide) ?_
      refine lv_icmp_ne (tgt := 33) hx hb dX8_skip_17 (by decide) (fun c => ?_) (fun c => ?_)
      · have h := iq c h
        cases h
        exact rr_V C hR hS dX8_skip_33
      · have h := ip c h
        refine lv_aload_n hx hb dX8_skip_20 rfl (lv_at hl 0 rfl) ?_
        refine lv_dup hx hb dX8_skip_21 rfl ?_
        obtain ⟨v7, zqe8, h⟩ := ob h
        refine gf966 C hR zqe8 dX8_skip_22 ?_
        refine lv_iconst (v := 1) hx hb dX8_skip_25 (by decide) ?_
        refine lv_iadd hx hb dX8_skip_26 ?_
        obtain ⟨M9, zqe10, h⟩ := ob h
        refine pf966 C hR hS zqe10 dX8_skip_27 (fun H locs hR hS => ?_)
        refine lv_goto (tgt := 0) hx hb dX8_skip_30 (by decide) ?_
        exact ih h hR hS (lv_sub hl [0] rfl)
theorem ck_X8_skip  {x0 : Nat} {M : Mem} {r : Mem} (h : f_X8_skip  x0 M = some r) : kd M x0 = 18 := by
  unfold f_X8_skip at h
  exact ck h
set_option maxHeartbeats 4000000 in
set_option maxRecDepth 100000 in
theorem ok_X8_skip  {x0 : Nat}  {M : Mem} {r : Mem}  (h : f_X8_skip  x0 M = some r) : Ok l yX8_skip cX8_skip 1 none 1 [.ref (B + x0)] D B ca st M none r := by
  have hk0 := ck_X8_skip h
  unfold f_X8_skip at h
  have h := ip hk0 h
  refine ok_of rfl rfl (Nat.le_of_ble_eq_true rfl) ?_
  intro p e s m args below meth c ls C hl hR hS
  have hl : lv_has ls 1 [(0, .ref (B + x0))] := hl
  have hx := C.1
  have hb := C.2.1
  exact w_X8_skip_0 C  FU h hR hS (lv_sub hl [0] rfl)
set_option maxHeartbeats 4000000 in
set_option maxRecDepth 100000 in
theorem w_X8_faultOf_86    {r : Int32 × Mem} {x0 : Nat} {x2 : Int32} {M : Mem} (C : Cx p s m args meth c RX8 cX8_faultOf 3 (some .int) D B ca st)   (h : f_X8_faultOf_86  x0 x2 M = some r) : ∀ {H : Heap} {locs : List Loc} {ls : Array Slot}, RH D B ca M H → va_S (AA B) s.heap H locs → lv_has ls 3 [(0, .ref (B + x0)), (2, .int x2)] → W p l e (rmD 3) s m args below meth c H locs 0 0 (MQ below (Qp D B ca st (some (.int r.1)) r.2) args s 0 0 (AA B)) (F0 m 86 ls []) := by
  have hx := C.1
  have hb := C.2.1
  unfold f_X8_faultOf_86 at h
  intro H locs ls hR hS hl
  refine lv_iload_n hx hb dX8_faultOf_86 rfl (lv_at hl 1 rfl) ?_
  refine lv_if_eq (tgt := 102) hx hb dX8_faultOf_87 (by decide) (fun c => ?_) (fun c => ?_)
  · have h := ip c h
    refine lv_aload_n hx hb dX8_faultOf_102 rfl (lv_at hl 0 rfl) ?_
    obtain ⟨v29, zqe30, h⟩ := ob h
    refine gf966 C hR zqe30 dX8_faultOf_103 ?_
    cases h
    exact rr_I C hR hS dX8_faultOf_106
  · have h := iq c h
    refine lv_aload_n hx hb dX8_faultOf_90 rfl (lv_at hl 0 rfl) ?_
    obtain ⟨v31, zqe32, h⟩ := ob h
    refine gf971 C hR zqe32 dX8_faultOf_91 ?_
    refine lv_if_le (tgt := 102) hx hb dX8_faultOf_94 (by decide) (fun c => ?_) (fun c => ?_)
    · have h := ip c h
      refine lv_aload_n hx hb dX8_faultOf_102 rfl (lv_at hl 0 rfl) ?_
      obtain ⟨v33, zqe34, h⟩ := ob h
      refine gf966 C hR zqe34 dX8_faultOf_103 ?_
      cases h
      exact rr_I C hR hS dX8_faultOf_106
    · have h := iq c h
      refine lv_bipush (v := (-9)) hx hb dX8_faultOf_97 (by decide) ?_
      refine lv_goto (tgt := 106) hx hb dX8_faultOf_99 (by decide) ?_
      cases h
      exact rr_I C hR hS dX8_faultOf_106
set_option maxHeartbeats 4000000 in
set_option maxRecDepth 100000 in
theorem w_X8_faultOf_74  {k39 : Nat → Int32 → Mem → Option (Int32 × Mem)}  {r : Int32 × Mem} {x0 : Nat} {s0 : Int32} {M : Mem} (C : Cx p s m args meth c RX8 cX8_faultOf 3 (some .int) D B ca st)  (hk39 : ∀ {x0 : Nat} {x2 : Int32} {M : Mem}, k39 x0 x2 M = some r → ∀ {H : Heap} {locs : List Loc} {ls : Array Slot}, RH D B ca M H → va_S (AA B) s.heap H locs → lv_has ls 3 [(0, .ref (B + x0)), (2, .int x2)] → W p l e (rmD 3) s m args below meth c H locs 0 0 (MQ below (Qp D B ca st (some (.int r.1)) r.2) args s 0 0 (AA B)) (F0 m 39 ls [])) (h : f_X8_faultOf_74 k39 x0 s0 M = some r) : ∀ {H : Heap} {locs : List Loc} {ls : Array Slot}, RH D B ca M H → va_S (AA B) s.heap H locs → lv_has ls 3 [(0, .ref (B + x0))] → W p l e (rmD 3) s m args below meth c H locs 0 0 (MQ below (Qp D B ca st (some (.int r.1)) r.2) args s 0 0 (AA B)) (F0 m 74 ls [.int s0]) := by
  have hx := C.1
  have hb := C.2.1
  unfold f_X8_faultOf_74 at h
  intro H locs ls hR hS hl
  refine lv_istore_n (lv' := [(2, .int s0), (0, .ref (B + x0))]) hx hb dX8_faultOf_74 rfl hl (by decide) rfl (fun ls hl => ?_)
  refine lv_iload_n hx hb dX8_faultOf_75 rfl (lv_at hl 0 rfl) ?_
  refine lv_if_eq (tgt := 39) hx hb dX8_faultOf_76 (by decide) (fun c => ?_) (fun c => ?_)
  · have h := ip c h
    exact hk39 h hR hS (lv_sub hl [1, 0] rfl)
  · have h := iq c h
    refine lv_aload_n hx hb dX8_faultOf_79 rfl (lv_at hl 1 rfl) ?_
    obtain ⟨M36, zqe35, h⟩ := ob h
    refine rc_V C hR hS cf_X8_skip cv_X8_skip lk1122 (ok_X8_skip zqe35) (ck_X8_skip zqe35) ⟨Nat.le_of_ble_eq_true rfl, Nat.le_of_ble_eq_true rfl⟩ ⟨Nat.zero_le _, Nat.zero_le _⟩ rfl rfl hl.1 (Nat.le_of_ble_eq_true rfl) dX8_faultOf_80 (rc_k0 (fun H locs hR hS => ?_))
    refine lv_goto (tgt := 39) hx hb dX8_faultOf_83 (by decide) ?_
    exact hk39 h hR hS (lv_sub hl [1, 0] rfl)
set_option maxHeartbeats 4000000 in
set_option maxRecDepth 100000 in
theorem w_X8_faultOf_39    {r : Int32 × Mem} (C : Cx p s m args meth c RX8 cX8_faultOf 3 (some .int) D B ca st)   : ∀ (n : Nat) {x0 : Nat} {x2 : Int32} {M : Mem}, f_X8_faultOf_39  n x0 x2 M = some r → ∀ {H : Heap} {locs : List Loc} {ls : Array Slot}, RH D B ca M H → va_S (AA B) s.heap H locs → lv_has ls 3 [(0, .ref (B + x0)), (2, .int x2)] → W p l e (rmD 3) s m args below meth c H locs 0 0 (MQ below (Qp D B ca st (some (.int r.1)) r.2) args s 0 0 (AA B)) (F0 m 39 ls []) := by
  have hx := C.1
  have hb := C.2.1
  intro n
  induction n with
  | zero => intro x0 x2 M h; simp [f_X8_faultOf_39] at h
  | succ n ih =>
    intro x0 x2 M h H locs ls hR hS hl
    rw [f_X8_faultOf_39] at h
    refine lv_iload_n hx hb dX8_faultOf_39 rfl (lv_at hl 1 rfl) ?_
    refine lv_if_eq (tgt := 86) hx hb dX8_faultOf_40 (by decide) (fun c => ?_) (fun c => ?_)
    · have h := ip c h
      exact w_X8_faultOf_86 C  h hR hS (lv_sub hl [0, 1] rfl)
    · have h := iq c h
      refine lv_aload_n hx hb dX8_faultOf_43 rfl (lv_at hl 0 rfl) ?_
      obtain ⟨v17, zqe18, h⟩ := ob h
      refine gf966 C hR zqe18 dX8_faultOf_44 ?_
      refine lv_aload_n hx hb dX8_faultOf_47 rfl (lv_at hl 0 rfl) ?_
      obtain ⟨v19, zqe20, h⟩ := ob h
      refine gf967 C hR zqe20 dX8_faultOf_48 ?_
      refine lv_icmp_ge (tgt := 86) hx hb dX8_faultOf_51 (by decide) (fun c => ?_) (fun c => ?_)
      · have h := ip c h
        exact w_X8_faultOf_86 C  h hR hS (lv_sub hl [0, 1] rfl)
      · have h := iq c h
        refine lv_aload_n hx hb dX8_faultOf_54 rfl (lv_at hl 0 rfl) ?_
        obtain ⟨v22, zqe21, h⟩ := ob h
        refine rc_V C hR hS cf_X8_here cv_X8_here lk1126 (ok_X8_here zqe21) (ck_X8_here zqe21) ⟨Nat.le_of_ble_eq_true rfl, Nat.le_of_ble_eq_true rfl⟩ ⟨Nat.zero_le _, Nat.zero_le _⟩ rfl rfl hl.1 (Nat.le_of_ble_eq_true rfl) dX8_faultOf_55 (rc_k1 (fun H locs hR hS => ?_))
        refine lv_bipush (v := 111) hx hb dX8_faultOf_58 (by decide) ?_
        refine lv_icmp_ne (tgt := 70) hx hb dX8_faultOf_60 (by decide) (fun c => ?_) (fun c => ?_)
        · have h := iq c h
          refine lv_aload_n hx hb dX8_faultOf_70 rfl (lv_at hl 0 rfl) ?_
          obtain ⟨qv24, zqe23, h⟩ := ob h
          refine rc_V C hR hS cf_X8_readsSigher cv_X8_readsSigher lk1138 (ok_X8_readsSigher zqe23) (ck_X8_readsSigher zqe23) ⟨Nat.le_of_ble_eq_true rfl, Nat.le_of_ble_eq_true rfl⟩ ⟨Nat.zero_le _, Nat.zero_le _⟩ rfl rfl hl.1 (Nat.le_of_ble_eq_true rfl) dX8_faultOf_71 (rc_k1 (fun H locs hR hS => ?_))
          exact w_X8_faultOf_74 C (hk39 := @ih) h hR hS (lv_sub hl [0] rfl)
        · have h := ip c h
          refine lv_aload_n hx hb dX8_faultOf_63 rfl (lv_at hl 0 rfl) ?_
          obtain ⟨qv27, zqe26, h⟩ := ob h
          refine rc_V C hR hS cf_X8_readsOrder cv_X8_readsOrder lk1130 (ok_X8_readsOrder zqe26) (ck_X8_readsOrder zqe26) ⟨Nat.le_of_ble_eq_true rfl, Nat.le_of_ble_eq_true rfl⟩ ⟨Nat.zero_le _, Nat.zero_le _⟩ rfl rfl hl.1 (Nat.le_of_ble_eq_true rfl) dX8_faultOf_64 (rc_k1 (fun H locs hR hS => ?_))
          refine lv_goto (tgt := 74) hx hb dX8_faultOf_67 (by decide) ?_
          exact w_X8_faultOf_74 C (hk39 := @ih) h hR hS (lv_sub hl [0] rfl)
theorem ck_X8_faultOf  {x0 : Nat} {x1 : Int32} {M : Mem} {r : Int32 × Mem} (h : f_X8_faultOf  x0 x1 M = some r) : kd M x0 = 18 := by
  unfold f_X8_faultOf at h
  exact ck h
set_option maxHeartbeats 4000000 in
set_option maxRecDepth 100000 in
theorem ok_X8_faultOf  {x0 : Nat} {x1 : Int32}  {M : Mem} {r : Int32 × Mem}  (h : f_X8_faultOf  x0 x1 M = some r) : Ok l yX8_faultOf cX8_faultOf 3 (some .int) 3 [.ref (B + x0), .int x1] D B ca st M (some (.int r.1)) r.2 := by
  have hk0 := ck_X8_faultOf h
  unfold f_X8_faultOf at h
  have h := ip hk0 h
  refine ok_of rfl rfl (Nat.le_of_ble_eq_true rfl) ?_
  intro p e s m args below meth c ls C hl hR hS
  have hl : lv_has ls 3 [(0, .ref (B + x0)), (1, .int x1)] := hl
  have hx := C.1
  have hb := C.2.1
  refine lv_aload_n hx hb dX8_faultOf_0 rfl (lv_at hl 0 rfl) ?_
  refine lv_bipush (v := 60) hx hb dX8_faultOf_1 (by decide) ?_
  refine lv_iload_n hx hb dX8_faultOf_3 rfl (lv_at hl 1 rfl) ?_
  refine lv_imul hx hb dX8_faultOf_4 ?_
  obtain ⟨M1, zqe2, h⟩ := ob h
  refine pf965 C hR hS zqe2 dX8_faultOf_5 (fun H locs hR hS => ?_)
  refine lv_aload_n hx hb dX8_faultOf_8 rfl (lv_at hl 0 rfl) ?_
  refine lv_iconst (v := 0) hx hb dX8_faultOf_9 (by decide) ?_
  obtain ⟨M3, zqe4, h⟩ := ob h
  refine pf966 C hR hS zqe4 dX8_faultOf_10 (fun H locs hR hS => ?_)
  refine lv_aload_n hx hb dX8_faultOf_13 rfl (lv_at hl 0 rfl) ?_
  refine lv_aload_n hx hb dX8_faultOf_14 rfl (lv_at hl 0 rfl) ?_
  obtain ⟨v5, zqe6, h⟩ := ob h
  refine gf958 C hR zqe6 dX8_faultOf_15 ?_
  refine lv_iload_n hx hb dX8_faultOf_18 rfl (lv_at hl 1 rfl) ?_
  obtain ⟨v7, zqe8, h⟩ := ob h
  refine ra_I C hR zqe8 dX8_faultOf_19 ?_
  obtain ⟨M9, zqe10, h⟩ := ob h
  refine pf967 C hR hS zqe10 dX8_faultOf_20 (fun H locs hR hS => ?_)
  refine lv_aload_n hx hb dX8_faultOf_23 rfl (lv_at hl 0 rfl) ?_
  refine lv_iconst (v := 0) hx hb dX8_faultOf_24 (by decide) ?_
  obtain ⟨M11, zqe12, h⟩ := ob h
  refine pf969 C hR hS zqe12 dX8_faultOf_25 (fun H locs hR hS => ?_)
  refine lv_aload_n hx hb dX8_faultOf_28 rfl (lv_at hl 0 rfl) ?_
  refine lv_iconst (v := 0) hx hb dX8_faultOf_29 (by decide) ?_
  obtain ⟨M13, zqe14, h⟩ := ob h
  refine pf971 C hR hS zqe14 dX8_faultOf_30 (fun H locs hR hS => ?_)
  refine lv_iconst (v := 1) hx hb dX8_faultOf_33 (by decide) ?_
  refine lv_istore_n (lv' := [(2, .int 1), (0, .ref (B + x0)), (1, .int x1)]) hx hb dX8_faultOf_34 rfl hl (by decide) rfl (fun ls hl => ?_)
  refine lv_aload_n hx hb dX8_faultOf_35 rfl (lv_at hl 1 rfl) ?_
  obtain ⟨M16, zqe15, h⟩ := ob h
  refine rc_V C hR hS cf_X8_skip cv_X8_skip lk1122 (ok_X8_skip zqe15) (ck_X8_skip zqe15) ⟨Nat.le_of_ble_eq_true rfl, Nat.le_of_ble_eq_true rfl⟩ ⟨Nat.zero_le _, Nat.zero_le _⟩ rfl rfl hl.1 (Nat.le_of_ble_eq_true rfl) dX8_faultOf_36 (rc_k0 (fun H locs hR hS => ?_))
  exact w_X8_faultOf_39 C  FU h hR hS (lv_sub hl [1, 0] rfl)
set_option maxHeartbeats 4000000 in
set_option maxRecDepth 100000 in
theorem ok_X8_isText  {x0 : Int32}  {M : Mem} {r : Int32}  (h : f_X8_isText  x0 = some r) : Ok l yX8_isText cX8_isText 1 (some .boolean) 1 [.int x0] D B ca st M (some (.int r)) M := by
  unfold f_X8_isText at h
  refine ok_of rfl rfl (Nat.le_of_ble_eq_true rfl) ?_
  intro p e s m args below meth c ls C hl hR hS
  have hl : lv_has ls 1 [(0, .int x0)] := hl
  have hx := C.1
  have hb := C.2.1
  refine lv_iload_n hx hb dX8_isText_0 rfl (lv_at hl 0 rfl) ?_
  refine lv_i2l (v := (Int32.toInt64 x0)) hx hb dX8_isText_1 rfl ?_
  refine lv_lconst (v := 0) hx hb dX8_isText_2 (by decide) ?_
  refine lv_ldc2 hx hb C.2.2.2.1 (C.2.2.2.2.1 _ lk1109) dX8_isText_3 ?_
  refine rc_S C hR hS cf_X8_in cs_X8_in lk1059 (ok_X8_in (Int32.toInt64 x0) 0 3) ⟨Nat.le_of_ble_eq_true rfl, Nat.le_of_ble_eq_true rfl⟩ ⟨Nat.zero_le _, Nat.zero_le _⟩ rfl rfl hl.1 (Nat.le_of_ble_eq_true rfl) dX8_isText_6 (rc_k1 (fun H locs hR hS => ?_))
  obtain ⟨zqb2, zqe3, h⟩ := ob h
  cases h
  exact rr_Z C hR hS (bz_self zqe3) dX8_isText_9
theorem ck_X8_fault  {x0 : Nat} {x1 : Int32} {M : Mem} {r : Int32 × Mem} (h : f_X8_fault  x0 x1 M = some r) : kd M x0 = 18 := by
  unfold f_X8_fault at h
  exact ck h
set_option maxHeartbeats 4000000 in
set_option maxRecDepth 100000 in
theorem ok_X8_fault  {x0 : Nat} {x1 : Int32}  {M : Mem} {r : Int32 × Mem}  (h : f_X8_fault  x0 x1 M = some r) : Ok l yX8_fault cX8_fault 2 (some .int) 4 [.ref (B + x0), .int x1] D B ca st M (some (.int r.1)) r.2 := by
  have hk0 := ck_X8_fault h
  unfold f_X8_fault at h
  have h := ip hk0 h
  refine ok_of rfl rfl (Nat.le_of_ble_eq_true rfl) ?_
  intro p e s m args below meth c ls C hl hR hS
  have hl : lv_has ls 2 [(0, .ref (B + x0)), (1, .int x1)] := hl
  have hx := C.1
  have hb := C.2.1
  refine lv_iload_n hx hb dX8_fault_0 rfl (lv_at hl 1 rfl) ?_
  obtain ⟨v2, zqe1, h⟩ := ob h
  refine rc_S C hR hS cf_X8_isText cs_X8_isText lk1106 (ok_X8_isText zqe1) ⟨Nat.le_of_ble_eq_true rfl, Nat.le_of_ble_eq_true rfl⟩ ⟨Nat.zero_le _, Nat.zero_le _⟩ rfl rfl hl.1 (Nat.le_of_ble_eq_true rfl) dX8_fault_1 (rc_k1 (fun H locs hR hS => ?_))
  refine lv_if_ne (tgt := 9) hx hb dX8_fault_4 (by decide) (fun c => ?_) (fun c => ?_)
  · have h := iq c h
    refine lv_aload_n hx hb dX8_fault_9 rfl (lv_at hl 0 rfl) ?_
    obtain ⟨v3, zqe4, h⟩ := ob h
    refine gf958 C hR zqe4 dX8_fault_10 ?_
    refine lv_iload_n hx hb dX8_fault_13 rfl (lv_at hl 1 rfl) ?_
    obtain ⟨v5, zqe6, h⟩ := ob h
    refine ra_I C hR zqe6 dX8_fault_14 ?_
    refine lv_if_ge (tgt := 26) hx hb dX8_fault_15 (by decide) (fun c => ?_) (fun c => ?_)
    · have h := ip c h
      refine lv_aload_n hx hb dX8_fault_26 rfl (lv_at hl 0 rfl) ?_
      refine lv_iload_n hx hb dX8_fault_27 rfl (lv_at hl 1 rfl) ?_
      obtain ⟨qv8, zqe7, h⟩ := ob h
      refine rc_V C hR hS cf_X8_faultOf cv_X8_faultOf lk1118 (ok_X8_faultOf zqe7) (ck_X8_faultOf zqe7) ⟨Nat.le_of_ble_eq_true rfl, Nat.le_of_ble_eq_true rfl⟩ ⟨Nat.zero_le _, Nat.zero_le _⟩ rfl rfl hl.1 (Nat.le_of_ble_eq_true rfl) dX8_fault_28 (rc_k1 (fun H locs hR hS => ?_))
      cases h
      exact rr_I C hR hS dX8_fault_31
    · have h := iq c h
      refine lv_aload_n hx hb dX8_fault_18 rfl (lv_at hl 0 rfl) ?_
      refine lv_iconst (v := 1) hx hb dX8_fault_19 (by decide) ?_
      obtain ⟨qv11, zqe10, h⟩ := ob h
      refine rc_V C hR hS cf_X8_find cv_X8_find lk1062 (ok_X8_find zqe10) (ck_X8_find zqe10) ⟨Nat.le_of_ble_eq_true rfl, Nat.le_of_ble_eq_true rfl⟩ ⟨Nat.zero_le _, Nat.zero_le _⟩ rfl rfl hl.1 (Nat.le_of_ble_eq_true rfl) dX8_fault_20 (rc_k1 (fun H locs hR hS => ?_))
      refine lv_goto (tgt := 31) hx hb dX8_fault_23 (by decide) ?_
      cases h
      exact rr_I C hR hS dX8_fault_31
  · have h := ip c h
    refine lv_iconst (v := (-1)) hx hb dX8_fault_7 (by decide) ?_
    cases h
    exact rr_I C hR hS dX8_fault_8
theorem ck_X8_finding  {x0 : Nat} {M : Mem} {r : Int32} (h : f_X8_finding  x0 M = some r) : kd M x0 = 18 := by
  unfold f_X8_finding at h
  exact ck h
set_option maxHeartbeats 4000000 in
set_option maxRecDepth 100000 in
theorem ok_X8_finding  {x0 : Nat}  {M : Mem} {r : Int32}  (h : f_X8_finding  x0 M = some r) : Ok l yX8_finding cX8_finding 1 (some .int) 0 [.ref (B + x0)] D B ca st M (some (.int r)) M := by
  have hk0 := ck_X8_finding h
  unfold f_X8_finding at h
  have h := ip hk0 h
  refine ok_of rfl rfl (Nat.le_of_ble_eq_true rfl) ?_
  intro p e s m args below meth c ls C hl hR hS
  have hl : lv_has ls 1 [(0, .ref (B + x0))] := hl
  have hx := C.1
  have hb := C.2.1
  refine lv_aload_n hx hb dX8_finding_0 rfl (lv_at hl 0 rfl) ?_
  obtain ⟨v1, zqe2, h⟩ := ob h
  refine gf963 C hR zqe2 dX8_finding_1 ?_
  cases h
  exact rr_I C hR hS dX8_finding_4
theorem ck_X8_findings  {x0 : Nat} {x1 : Int32} {M : Mem} {r : Int32} (h : f_X8_findings  x0 x1 M = some r) : kd M x0 = 18 := by
  unfold f_X8_findings at h
  exact ck h
set_option maxHeartbeats 4000000 in
set_option maxRecDepth 100000 in
theorem ok_X8_findings  {x0 : Nat} {x1 : Int32}  {M : Mem} {r : Int32}  (h : f_X8_findings  x0 x1 M = some r) : Ok l yX8_findings cX8_findings 2 (some .int) 1 [.ref (B + x0), .int x1] D B ca st M (some (.int r)) M := by
  have hk0 := ck_X8_findings h
  unfold f_X8_findings at h
  have h := ip hk0 h
  refine ok_of rfl rfl (Nat.le_of_ble_eq_true rfl) ?_
  intro p e s m args below meth c ls C hl hR hS
  have hl : lv_has ls 2 [(0, .ref (B + x0)), (1, .int x1)] := hl
  have hx := C.1
  have hb := C.2.1
  refine lv_iload_n hx hb dX8_findings_0 rfl (lv_at hl 1 rfl) ?_
  refine lv_i2l (v := (Int32.toInt64 x1)) hx hb dX8_findings_1 rfl ?_
  refine lv_lconst (v := 1) hx hb dX8_findings_2 (by decide) ?_
  refine lv_ldc2 hx hb C.2.2.2.1 (C.2.2.2.2.1 _ lk1058) dX8_findings_3 ?_
  refine rc_S C hR hS cf_X8_in cs_X8_in lk1059 (ok_X8_in (Int32.toInt64 x1) 1 5) ⟨Nat.le_of_ble_eq_true rfl, Nat.le_of_ble_eq_true rfl⟩ ⟨Nat.zero_le _, Nat.zero_le _⟩ rfl rfl hl.1 (Nat.le_of_ble_eq_true rfl) dX8_findings_6 (rc_k1 (fun H locs hR hS => ?_))
  refine lv_if_eq (tgt := 21) hx hb dX8_findings_9 (by decide) (fun c => ?_) (fun c => ?_)
  · have h := ip c h
    refine lv_iconst (v := (-1)) hx hb dX8_findings_21 (by decide) ?_
    cases h
    exact rr_I C hR hS dX8_findings_22
  · have h := iq c h
    refine lv_aload_n hx hb dX8_findings_12 rfl (lv_at hl 0 rfl) ?_
    obtain ⟨v2, zqe3, h⟩ := ob h
    refine gf964 C hR zqe3 dX8_findings_13 ?_
    refine lv_iload_n hx hb dX8_findings_16 rfl (lv_at hl 1 rfl) ?_
    obtain ⟨v4, zqe5, h⟩ := ob h
    refine ra_I C hR zqe5 dX8_findings_17 ?_
    refine lv_goto (tgt := 22) hx hb dX8_findings_18 (by decide) ?_
    cases h
    exact rr_I C hR hS dX8_findings_22
set_option maxHeartbeats 4000000 in
set_option maxRecDepth 100000 in
theorem w_X8_copyPart_2    {r : Mem} (C : Cx p s m args meth c RX8 cX8_copyPart 4 none D B ca st)   : ∀ (n : Nat) {x0 : Nat} {x1 : Int32} {x2 : Int32} {x3 : Int32} {M : Mem}, f_X8_copyPart_2  n x0 x1 x2 x3 M = some r → ∀ {H : Heap} {locs : List Loc} {ls : Array Slot}, RH D B ca M H → va_S (AA B) s.heap H locs → lv_has ls 4 [(0, .ref (B + x0)), (1, .int x1), (2, .int x2), (3, .int x3)] → W p l e (rmD 0) s m args below meth c H locs 0 0 (MQ below (Qp D B ca st none r) args s 0 0 (AA B)) (F0 m 2 ls []) := by
  have hx := C.1
  have hb := C.2.1
  intro n
  induction n with
  | zero => intro x0 x1 x2 x3 M h; simp [f_X8_copyPart_2] at h
  | succ n ih =>
    intro x0 x1 x2 x3 M h H locs ls hR hS hl
    rw [f_X8_copyPart_2] at h
    refine lv_iload_n hx hb dX8_copyPart_2 rfl (lv_at hl 3 rfl) ?_
    refine lv_bipush (v := 13) hx hb dX8_copyPart_3 (by decide) ?_
    refine lv_icmp_ge (tgt := 30) hx hb dX8_copyPart_5 (by decide) (fun c => ?_) (fun c => ?_)
    · have h := ip c h
      cases h
      exact rr_V C hR hS dX8_copyPart_30
    · have h := iq c h
      refine lv_aload_n hx hb dX8_copyPart_8 rfl (lv_at hl 0 rfl) ?_
      obtain ⟨v1, zqe2, h⟩ := ob h
      refine gf948 C hR zqe2 dX8_copyPart_9 ?_
      refine lv_iload_n hx hb dX8_copyPart_12 rfl (lv_at hl 2 rfl) ?_
      refine lv_iload_n hx hb dX8_copyPart_13 rfl (lv_at hl 3 rfl) ?_
      refine lv_iadd hx hb dX8_copyPart_14 ?_
      refine lv_aload_n hx hb dX8_copyPart_15 rfl (lv_at hl 0 rfl) ?_
      obtain ⟨v3, zqe4, h⟩ := ob h
      refine gf948 C hR zqe4 dX8_copyPart_16 ?_
      refine lv_iload_n hx hb dX8_copyPart_19 rfl (lv_at hl 1 rfl) ?_
      refine lv_iload_n hx hb dX8_copyPart_20 rfl (lv_at hl 3 rfl) ?_
      refine lv_iadd hx hb dX8_copyPart_21 ?_
      obtain ⟨v5, zqe6, h⟩ := ob h
      refine ra_I C hR zqe6 dX8_copyPart_22 ?_
      obtain ⟨M7, zqe8, h⟩ := ob h
      refine re_I C hR hS zqe8 dX8_copyPart_23 (fun H locs hR hS => ?_)
      refine lv_iinc (v := (x3 + 1)) (lv' := [(3, .int (x3 + 1)), (0, .ref (B + x0)), (1, .int x1), (2, .int x2)]) hx hb dX8_copyPart_24 hl (k := 3) rfl rfl (by decide) rfl (fun ls hl => ?_)
      refine lv_goto (tgt := 2) hx hb dX8_copyPart_27 (by decide) ?_
      exact ih h hR hS (lv_sub hl [1, 2, 3, 0] rfl)
theorem ck_X8_copyPart  {x0 : Nat} {x1 : Int32} {x2 : Int32} {M : Mem} {r : Mem} (h : f_X8_copyPart  x0 x1 x2 M = some r) : kd M x0 = 18 := by
  unfold f_X8_copyPart at h
  exact ck h
set_option maxHeartbeats 4000000 in
set_option maxRecDepth 100000 in
theorem ok_X8_copyPart  {x0 : Nat} {x1 : Int32} {x2 : Int32}  {M : Mem} {r : Mem}  (h : f_X8_copyPart  x0 x1 x2 M = some r) : Ok l yX8_copyPart cX8_copyPart 4 none 0 [.ref (B + x0), .int x1, .int x2] D B ca st M none r := by
  have hk0 := ck_X8_copyPart h
  unfold f_X8_copyPart at h
  have h := ip hk0 h
  refine ok_of rfl rfl (Nat.le_of_ble_eq_true rfl) ?_
  intro p e s m args below meth c ls C hl hR hS
  have hl : lv_has ls 4 [(0, .ref (B + x0)), (1, .int x1), (2, .int x2)] := hl
  have hx := C.1
  have hb := C.2.1
  refine lv_iconst (v := 0) hx hb dX8_copyPart_0 (by decide) ?_
  refine lv_istore_n (lv' := [(3, .int 0), (0, .ref (B + x0)), (1, .int x1), (2, .int x2)]) hx hb dX8_copyPart_1 rfl hl (by decide) rfl (fun ls hl => ?_)
  exact w_X8_copyPart_2 C  FU h hR hS (lv_sub hl [1, 2, 3, 0] rfl)
theorem ck_X8_sighsAt  {x0 : Nat} {x1 : Int32} {x2 : Int32} {x3 : Int32} {M : Mem} {r : Mem} (h : f_X8_sighsAt  x0 x1 x2 x3 M = some r) : kd M x0 = 18 := by
  unfold f_X8_sighsAt at h
  exact ck h
set_option maxHeartbeats 4000000 in
set_option maxRecDepth 100000 in
theorem ok_X8_sighsAt  {x0 : Nat} {x1 : Int32} {x2 : Int32} {x3 : Int32}  {M : Mem} {r : Mem}  (h : f_X8_sighsAt  x0 x1 x2 x3 M = some r) : Ok l yX8_sighsAt cX8_sighsAt 4 none 3 [.ref (B + x0), .int x1, .int x2, .int x3] D B ca st M none r := by
  have hk0 := ck_X8_sighsAt h
  unfold f_X8_sighsAt at h
  have h := ip hk0 h
  refine ok_of rfl rfl (Nat.le_of_ble_eq_true rfl) ?_
  intro p e s m args below meth c ls C hl hR hS
  have hl : lv_has ls 4 [(0, .ref (B + x0)), (1, .int x1), (2, .int x2), (3, .int x3)] := hl
  have hx := C.1
  have hb := C.2.1
  refine lv_aload_n hx hb dX8_sighsAt_0 rfl (lv_at hl 0 rfl) ?_
  obtain ⟨v1, zqe2, h⟩ := ob h
  refine gf948 C hR zqe2 dX8_sighsAt_1 ?_
  refine lv_iload_n hx hb dX8_sighsAt_4 rfl (lv_at hl 1 rfl) ?_
  refine lv_iconst (v := 3) hx hb dX8_sighsAt_5 (by decide) ?_
  refine lv_iadd hx hb dX8_sighsAt_6 ?_
  refine lv_iload_n hx hb dX8_sighsAt_7 rfl (lv_at hl 2 rfl) ?_
  refine lv_iadd hx hb dX8_sighsAt_8 ?_
  refine lv_dup2_11 hx hb dX8_sighsAt_9 rfl rfl ?_
  obtain ⟨v3, zqe4, h⟩ := ob h
  refine ra_I C hR zqe4 dX8_sighsAt_10 ?_
  refine lv_aload_n hx hb dX8_sighsAt_11 rfl (lv_at hl 0 rfl) ?_
  refine lv_iload_n hx hb dX8_sighsAt_12 rfl (lv_at hl 2 rfl) ?_
  refine lv_iload_n hx hb dX8_sighsAt_13 rfl (lv_at hl 3 rfl) ?_
  obtain ⟨v6, zqe5, h⟩ := ob h
  refine rc_V C hR hS cf_X8_taken cv_X8_taken lk1172 (ok_X8_taken zqe5) (ck_X8_taken zqe5) ⟨Nat.le_of_ble_eq_true rfl, Nat.le_of_ble_eq_true rfl⟩ ⟨Nat.zero_le _, Nat.zero_le _⟩ rfl rfl hl.1 (Nat.le_of_ble_eq_true rfl) dX8_sighsAt_14 (rc_k1 (fun H locs hR hS => ?_))
  refine lv_isub hx hb dX8_sighsAt_17 ?_
  obtain ⟨M7, zqe8, h⟩ := ob h
  refine re_I C hR hS zqe8 dX8_sighsAt_18 (fun H locs hR hS => ?_)
  refine lv_aload_n hx hb dX8_sighsAt_19 rfl (lv_at hl 0 rfl) ?_
  obtain ⟨v9, zqe10, h⟩ := ob h
  refine gf948 C hR zqe10 dX8_sighsAt_20 ?_
  refine lv_iload_n hx hb dX8_sighsAt_23 rfl (lv_at hl 1 rfl) ?_
  refine lv_iconst (v := 1) hx hb dX8_sighsAt_24 (by decide) ?_
  refine lv_iadd hx hb dX8_sighsAt_25 ?_
  refine lv_dup2_11 hx hb dX8_sighsAt_26 rfl rfl ?_
  obtain ⟨v11, zqe12, h⟩ := ob h
  refine ra_I C hR zqe12 dX8_sighsAt_27 ?_
  refine lv_aload_n hx hb dX8_sighsAt_28 rfl (lv_at hl 0 rfl) ?_
  refine lv_iload_n hx hb dX8_sighsAt_29 rfl (lv_at hl 2 rfl) ?_
  refine lv_iload_n hx hb dX8_sighsAt_30 rfl (lv_at hl 3 rfl) ?_
  obtain ⟨v14, zqe13, h⟩ := ob h
  refine rc_V C hR hS cf_X8_brought cv_X8_brought lk1206 (ok_X8_brought zqe13) (ck_X8_brought zqe13) ⟨Nat.le_of_ble_eq_true rfl, Nat.le_of_ble_eq_true rfl⟩ ⟨Nat.zero_le _, Nat.zero_le _⟩ rfl rfl hl.1 (Nat.le_of_ble_eq_true rfl) dX8_sighsAt_31 (rc_k1 (fun H locs hR hS => ?_))
  refine lv_iadd hx hb dX8_sighsAt_34 ?_
  obtain ⟨M15, zqe16, h⟩ := ob h
  refine re_I C hR hS zqe16 dX8_sighsAt_35 (fun H locs hR hS => ?_)
  refine lv_aload_n hx hb dX8_sighsAt_36 rfl (lv_at hl 0 rfl) ?_
  obtain ⟨v17, zqe18, h⟩ := ob h
  refine gf948 C hR zqe18 dX8_sighsAt_37 ?_
  refine lv_iload_n hx hb dX8_sighsAt_40 rfl (lv_at hl 1 rfl) ?_
  refine lv_iconst (v := 2) hx hb dX8_sighsAt_41 (by decide) ?_
  refine lv_iadd hx hb dX8_sighsAt_42 ?_
  refine lv_dup2_11 hx hb dX8_sighsAt_43 rfl rfl ?_
  obtain ⟨v19, zqe20, h⟩ := ob h
  refine ra_I C hR zqe20 dX8_sighsAt_44 ?_
  refine lv_iconst (v := 1) hx hb dX8_sighsAt_45 (by decide) ?_
  refine lv_iload_n hx hb dX8_sighsAt_46 rfl (lv_at hl 3 rfl) ?_
  refine lv_ishl hx hb dX8_sighsAt_47 ?_
  refine lv_ior hx hb dX8_sighsAt_48 ?_
  obtain ⟨M21, zqe22, h⟩ := ob h
  refine re_I C hR hS zqe22 dX8_sighsAt_49 (fun H locs hR hS => ?_)
  cases h
  exact rr_V C hR hS dX8_sighsAt_50
set_option maxHeartbeats 4000000 in
set_option maxRecDepth 100000 in
theorem w_X8_doesGivens_10    {r : Int32 × Mem} (C : Cx p s m args meth c RX8 cX8_doesGivens 3 (some .boolean) D B ca st)   : ∀ (n : Nat) {x0 : Nat} {x1 : Int32} {M : Mem}, f_X8_doesGivens_10  n x0 x1 M = some r → ∀ {H : Heap} {locs : List Loc} {ls : Array Slot}, RH D B ca M H → va_S (AA B) s.heap H locs → lv_has ls 3 [(0, .ref (B + x0)), (1, .int x1)] → W p l e (rmD 4) s m args below meth c H locs 0 0 (MQ below (Qp D B ca st (some (.int r.1)) r.2) args s 0 0 (AA B)) (F0 m 10 ls []) := by
  have hx := C.1
  have hb := C.2.1
  intro n
  induction n with
  | zero => intro x0 x1 M h; simp [f_X8_doesGivens_10] at h
  | succ n ih =>
    intro x0 x1 M h H locs ls hR hS hl
    rw [f_X8_doesGivens_10] at h
    refine lv_iload_n hx hb dX8_doesGivens_10 rfl (lv_at hl 1 rfl) ?_
    refine lv_aload_n hx hb dX8_doesGivens_11 rfl (lv_at hl 0 rfl) ?_
    obtain ⟨v3, zqe4, h⟩ := ob h
    refine gf952 C hR zqe4 dX8_doesGivens_12 ?_
    refine lv_icmp_ge (tgt := 60) hx hb dX8_doesGivens_15 (by decide) (fun c => ?_) (fun c => ?_)
    · have h := ip c h
      refine lv_iconst (v := 1) hx hb dX8_doesGivens_60 (by decide) ?_
      cases h
      exact rr_Z (v := 1) C hR hS (by decide) dX8_doesGivens_61
    · have h := iq c h
      refine lv_aload_n hx hb dX8_doesGivens_18 rfl (lv_at hl 0 rfl) ?_
      obtain ⟨v5, zqe6, h⟩ := ob h
      refine gf972 C hR zqe6 dX8_doesGivens_19 ?_
      refine lv_iload_n hx hb dX8_doesGivens_22 rfl (lv_at hl 1 rfl) ?_
      obtain ⟨v7, zqe8, h⟩ := ob h
      refine ra_I C hR zqe8 dX8_doesGivens_23 ?_
      refine lv_iconst (v := 1) hx hb dX8_doesGivens_24 (by decide) ?_
      refine lv_isub hx hb dX8_doesGivens_25 ?_
      refine lv_istore_n (lv' := [(2, .int (v7 - 1)), (0, .ref (B + x0)), (1, .int x1)]) hx hb dX8_doesGivens_26 rfl hl (by decide) rfl (fun ls hl => ?_)
      refine lv_iload_n hx hb dX8_doesGivens_27 rfl (lv_at hl 0 rfl) ?_
      refine lv_if_lt (tgt := 54) hx hb dX8_doesGivens_28 (by decide) (fun c => ?_) (fun c => ?_)
      · have h := ip c h
        refine lv_iinc (v := (x1 + 1)) (lv' := [(1, .int (x1 + 1)), (2, .int (v7 - 1)), (0, .ref (B + x0))]) hx hb dX8_doesGivens_54 hl (k := 2) rfl rfl (by decide) rfl (fun ls hl => ?_)
        refine lv_goto (tgt := 10) hx hb dX8_doesGivens_57 (by decide) ?_
        exact ih h hR hS (lv_sub hl [2, 0] rfl)
      · have h := iq c h
        refine lv_aload_n hx hb dX8_doesGivens_31 rfl (lv_at hl 1 rfl) ?_
        refine lv_sipush (v := 1972) hx hb dX8_doesGivens_32 (by decide) ?_
        refine lv_iload_n hx hb dX8_doesGivens_35 rfl (lv_at hl 0 rfl) ?_
        refine lv_iload_n hx hb dX8_doesGivens_36 rfl (lv_at hl 2 rfl) ?_
        obtain ⟨v10, zqe9, h⟩ := ob h
        refine rc_V C hR hS cf_X8_can cv_X8_can lk1162 (ok_X8_can zqe9) (ck_X8_can zqe9) ⟨Nat.le_of_ble_eq_true rfl, Nat.le_of_ble_eq_true rfl⟩ ⟨Nat.zero_le _, Nat.zero_le _⟩ rfl rfl hl.1 (Nat.le_of_ble_eq_true rfl) dX8_doesGivens_37 (rc_k1 (fun H locs hR hS => ?_))
        refine lv_if_ne (tgt := 45) hx hb dX8_doesGivens_40 (by decide) (fun c => ?_) (fun c => ?_)
        · have h := iq c h
          refine lv_aload_n hx hb dX8_doesGivens_45 rfl (lv_at hl 1 rfl) ?_
          refine lv_sipush (v := 1972) hx hb dX8_doesGivens_46 (by decide) ?_
          refine lv_iload_n hx hb dX8_doesGivens_49 rfl (lv_at hl 0 rfl) ?_
          refine lv_iload_n hx hb dX8_doesGivens_50 rfl (lv_at hl 2 rfl) ?_
          obtain ⟨M12, zqe11, h⟩ := ob h
          refine rc_V C hR hS cf_X8_sighsAt cv_X8_sighsAt lk1232 (ok_X8_sighsAt zqe11) (ck_X8_sighsAt zqe11) ⟨Nat.le_of_ble_eq_true rfl, Nat.le_of_ble_eq_true rfl⟩ ⟨Nat.zero_le _, Nat.zero_le _⟩ rfl rfl hl.1 (Nat.le_of_ble_eq_true rfl) dX8_doesGivens_51 (rc_k0 (fun H locs hR hS => ?_))
          refine lv_iinc (v := (x1 + 1)) (lv' := [(1, .int (x1 + 1)), (2, .int (v7 - 1)), (0, .ref (B + x0))]) hx hb dX8_doesGivens_54 hl (k := 2) rfl rfl (by decide) rfl (fun ls hl => ?_)
          refine lv_goto (tgt := 10) hx hb dX8_doesGivens_57 (by decide) ?_
          exact ih h hR hS (lv_sub hl [2, 0] rfl)
        · have h := ip c h
          refine lv_iconst (v := 0) hx hb dX8_doesGivens_43 (by decide) ?_
          cases h
          exact rr_Z (v := 0) C hR hS (by decide) dX8_doesGivens_44
theorem ck_X8_doesGivens  {x0 : Nat} {M : Mem} {r : Int32 × Mem} (h : f_X8_doesGivens  x0 M = some r) : kd M x0 = 18 := by
  unfold f_X8_doesGivens at h
  exact ck h
set_option maxHeartbeats 4000000 in
set_option maxRecDepth 100000 in
theorem ok_X8_doesGivens  {x0 : Nat}  {M : Mem} {r : Int32 × Mem}  (h : f_X8_doesGivens  x0 M = some r) : Ok l yX8_doesGivens cX8_doesGivens 3 (some .boolean) 4 [.ref (B + x0)] D B ca st M (some (.int r.1)) r.2 := by
  have hk0 := ck_X8_doesGivens h
  unfold f_X8_doesGivens at h
  have h := ip hk0 h
  refine ok_of rfl rfl (Nat.le_of_ble_eq_true rfl) ?_
  intro p e s m args below meth c ls C hl hR hS
  have hl : lv_has ls 3 [(0, .ref (B + x0))] := hl
  have hx := C.1
  have hb := C.2.1
  refine lv_aload_n hx hb dX8_doesGivens_0 rfl (lv_at hl 0 rfl) ?_
  refine lv_iconst (v := 0) hx hb dX8_doesGivens_1 (by decide) ?_
  refine lv_sipush (v := 1972) hx hb dX8_doesGivens_2 (by decide) ?_
  obtain ⟨M2, zqe1, h⟩ := ob h
  refine rc_V C hR hS cf_X8_copyPart cv_X8_copyPart lk1281 (ok_X8_copyPart zqe1) (ck_X8_copyPart zqe1) ⟨Nat.le_of_ble_eq_true rfl, Nat.le_of_ble_eq_true rfl⟩ ⟨Nat.zero_le _, Nat.zero_le _⟩ rfl rfl hl.1 (Nat.le_of_ble_eq_true rfl) dX8_doesGivens_5 (rc_k0 (fun H locs hR hS => ?_))
  refine lv_iconst (v := 0) hx hb dX8_doesGivens_8 (by decide) ?_
  refine lv_istore_n (lv' := [(1, .int 0), (0, .ref (B + x0))]) hx hb dX8_doesGivens_9 rfl hl (by decide) rfl (fun ls hl => ?_)
  exact w_X8_doesGivens_10 C  FU h hR hS (lv_sub hl [1, 0] rfl)
set_option maxHeartbeats 4000000 in
set_option maxRecDepth 100000 in
theorem w_X8_nextGivens_37    {r : Int32 × Mem} {x0 : Nat} {x1 : Int32} {M : Mem} (C : Cx p s m args meth c RX8 cX8_nextGivens 2 (some .boolean) D B ca st)   (h : f_X8_nextGivens_37  x0 x1 M = some r) : ∀ {H : Heap} {locs : List Loc} {ls : Array Slot}, RH D B ca M H → va_S (AA B) s.heap H locs → lv_has ls 2 [(0, .ref (B + x0)), (1, .int x1)] → W p l e (rmD 0) s m args below meth c H locs 0 0 (MQ below (Qp D B ca st (some (.int r.1)) r.2) args s 0 0 (AA B)) (F0 m 37 ls []) := by
  have hx := C.1
  have hb := C.2.1
  unfold f_X8_nextGivens_37 at h
  intro H locs ls hR hS hl
  refine lv_iload_n hx hb dX8_nextGivens_37 rfl (lv_at hl 1 rfl) ?_
  refine lv_if_ge (tgt := 43) hx hb dX8_nextGivens_38 (by decide) (fun c => ?_) (fun c => ?_)
  · have h := ip c h
    refine lv_aload_n hx hb dX8_nextGivens_43 rfl (lv_at hl 0 rfl) ?_
    obtain ⟨v13, zqe14, h⟩ := ob h
    refine gf972 C hR zqe14 dX8_nextGivens_44 ?_
    refine lv_iload_n hx hb dX8_nextGivens_47 rfl (lv_at hl 1 rfl) ?_
    refine lv_dup2_11 hx hb dX8_nextGivens_48 rfl rfl ?_
    obtain ⟨v15, zqe16, h⟩ := ob h
    refine ra_I C hR zqe16 dX8_nextGivens_49 ?_
    refine lv_iconst (v := 1) hx hb dX8_nextGivens_50 (by decide) ?_
    refine lv_iadd hx hb dX8_nextGivens_51 ?_
    obtain ⟨M17, zqe18, h⟩ := ob h
    refine re_I C hR hS zqe18 dX8_nextGivens_52 (fun H locs hR hS => ?_)
    refine lv_iconst (v := 1) hx hb dX8_nextGivens_53 (by decide) ?_
    cases h
    exact rr_Z (v := 1) C hR hS (by decide) dX8_nextGivens_54
  · have h := iq c h
    refine lv_iconst (v := 0) hx hb dX8_nextGivens_41 (by decide) ?_
    cases h
    exact rr_Z (v := 0) C hR hS (by decide) dX8_nextGivens_42
set_option maxHeartbeats 4000000 in
set_option maxRecDepth 100000 in
theorem w_X8_nextGivens_7    {r : Int32 × Mem} (C : Cx p s m args meth c RX8 cX8_nextGivens 2 (some .boolean) D B ca st)   : ∀ (n : Nat) {x0 : Nat} {x1 : Int32} {M : Mem}, f_X8_nextGivens_7  n x0 x1 M = some r → ∀ {H : Heap} {locs : List Loc} {ls : Array Slot}, RH D B ca M H → va_S (AA B) s.heap H locs → lv_has ls 2 [(0, .ref (B + x0)), (1, .int x1)] → W p l e (rmD 0) s m args below meth c H locs 0 0 (MQ below (Qp D B ca st (some (.int r.1)) r.2) args s 0 0 (AA B)) (F0 m 7 ls []) := by
  have hx := C.1
  have hb := C.2.1
  intro n
  induction n with
  | zero => intro x0 x1 M h; simp [f_X8_nextGivens_7] at h
  | succ n ih =>
    intro x0 x1 M h H locs ls hR hS hl
    rw [f_X8_nextGivens_7] at h
    refine lv_iload_n hx hb dX8_nextGivens_7 rfl (lv_at hl 1 rfl) ?_
    refine lv_if_lt (tgt := 37) hx hb dX8_nextGivens_8 (by decide) (fun c => ?_) (fun c => ?_)
    · have h := ip c h
      exact w_X8_nextGivens_37 C  h hR hS (lv_sub hl [0, 1] rfl)
    · have h := iq c h
      refine lv_aload_n hx hb dX8_nextGivens_11 rfl (lv_at hl 0 rfl) ?_
      obtain ⟨v3, zqe4, h⟩ := ob h
      refine gf972 C hR zqe4 dX8_nextGivens_12 ?_
      refine lv_iload_n hx hb dX8_nextGivens_15 rfl (lv_at hl 1 rfl) ?_
      obtain ⟨v5, zqe6, h⟩ := ob h
      refine ra_I C hR zqe6 dX8_nextGivens_16 ?_
      refine lv_aload_n hx hb dX8_nextGivens_17 rfl (lv_at hl 0 rfl) ?_
      obtain ⟨v7, zqe8, h⟩ := ob h
      refine gf949 C hR zqe8 dX8_nextGivens_18 ?_
      refine lv_icmp_ne (tgt := 37) hx hb dX8_nextGivens_21 (by decide) (fun c => ?_) (fun c => ?_)
      · have h := iq c h
        exact w_X8_nextGivens_37 C  h hR hS (lv_sub hl [0, 1] rfl)
      · have h := ip c h
        refine lv_aload_n hx hb dX8_nextGivens_24 rfl (lv_at hl 0 rfl) ?_
        obtain ⟨v9, zqe10, h⟩ := ob h
        refine gf972 C hR zqe10 dX8_nextGivens_25 ?_
        refine lv_iload_n hx hb dX8_nextGivens_28 rfl (lv_at hl 1 rfl) ?_
        refine lv_iconst (v := 0) hx hb dX8_nextGivens_29 (by decide) ?_
        obtain ⟨M11, zqe12, h⟩ := ob h
        refine re_I C hR hS zqe12 dX8_nextGivens_30 (fun H locs hR hS => ?_)
        refine lv_iinc (v := (x1 + (-1))) (lv' := [(1, .int (x1 + (-1))), (0, .ref (B + x0))]) hx hb dX8_nextGivens_31 hl (k := 1) rfl rfl (by decide) rfl (fun ls hl => ?_)
        refine lv_goto (tgt := 7) hx hb dX8_nextGivens_34 (by decide) ?_
        exact ih h hR hS (lv_sub hl [1, 0] rfl)
theorem ck_X8_nextGivens  {x0 : Nat} {M : Mem} {r : Int32 × Mem} (h : f_X8_nextGivens  x0 M = some r) : kd M x0 = 18 := by
  unfold f_X8_nextGivens at h
  exact ck h
set_option maxHeartbeats 4000000 in
set_option maxRecDepth 100000 in
theorem ok_X8_nextGivens  {x0 : Nat}  {M : Mem} {r : Int32 × Mem}  (h : f_X8_nextGivens  x0 M = some r) : Ok l yX8_nextGivens cX8_nextGivens 2 (some .boolean) 0 [.ref (B + x0)] D B ca st M (some (.int r.1)) r.2 := by
  have hk0 := ck_X8_nextGivens h
  unfold f_X8_nextGivens at h
  have h := ip hk0 h
  refine ok_of rfl rfl (Nat.le_of_ble_eq_true rfl) ?_
  intro p e s m args below meth c ls C hl hR hS
  have hl : lv_has ls 2 [(0, .ref (B + x0))] := hl
  have hx := C.1
  have hb := C.2.1
  refine lv_aload_n hx hb dX8_nextGivens_0 rfl (lv_at hl 0 rfl) ?_
  obtain ⟨v1, zqe2, h⟩ := ob h
  refine gf952 C hR zqe2 dX8_nextGivens_1 ?_
  refine lv_iconst (v := 1) hx hb dX8_nextGivens_4 (by decide) ?_
  refine lv_isub hx hb dX8_nextGivens_5 ?_
  refine lv_istore_n (lv' := [(1, .int (v1 - 1)), (0, .ref (B + x0))]) hx hb dX8_nextGivens_6 rfl hl (by decide) rfl (fun ls hl => ?_)
  exact w_X8_nextGivens_7 C  FU h hR hS (lv_sub hl [1, 0] rfl)
set_option maxHeartbeats 4000000 in
set_option maxRecDepth 100000 in
theorem w_X8_giveMost_146    {r : Int32 × Mem} (C : Cx p s m args meth c RX8 cX8_giveMost 7 (some .int) D B ca st)   : ∀ (n : Nat) {x0 : Nat} {x1 : Int32} {x3 : Int32} {x5 : Int32} {M : Mem}, f_X8_giveMost_146  n x0 x1 x3 x5 M = some r → ∀ {H : Heap} {locs : List Loc} {ls : Array Slot}, RH D B ca M H → va_S (AA B) s.heap H locs → lv_has ls 7 [(0, .ref (B + x0)), (1, .int x1), (3, .int x3), (5, .int x5)] → W p l e (rmD 5) s m args below meth c H locs 0 0 (MQ below (Qp D B ca st (some (.int r.1)) r.2) args s 0 0 (AA B)) (F0 m 146 ls []) := by
  have hx := C.1
  have hb := C.2.1
  intro n
  induction n with
  | zero => intro x0 x1 x3 x5 M h; simp [f_X8_giveMost_146] at h
  | succ n ih =>
    intro x0 x1 x3 x5 M h H locs ls hR hS hl
    rw [f_X8_giveMost_146] at h
    refine lv_iload hx hb dX8_giveMost_146 (lv_at hl 3 rfl) ?_
    refine lv_aload_n hx hb dX8_giveMost_148 rfl (lv_at hl 0 rfl) ?_
    obtain ⟨v32, zqe33, h⟩ := ob h
    refine gf952 C hR zqe33 dX8_giveMost_149 ?_
    refine lv_icmp_ge (tgt := 197) hx hb dX8_giveMost_152 (by decide) (fun c => ?_) (fun c => ?_)
    · have h := ip c h
      refine lv_iload_n hx hb dX8_giveMost_197 rfl (lv_at hl 2 rfl) ?_
      cases h
      exact rr_I C hR hS dX8_giveMost_198
    · have h := iq c h
      refine lv_aload_n hx hb dX8_giveMost_155 rfl (lv_at hl 0 rfl) ?_
      obtain ⟨v34, zqe35, h⟩ := ob h
      refine gf957 C hR zqe35 dX8_giveMost_156 ?_
      refine lv_bipush (v := 40) hx hb dX8_giveMost_159 (by decide) ?_
      refine lv_iload_n hx hb dX8_giveMost_161 rfl (lv_at hl 1 rfl) ?_
      refine lv_imul hx hb dX8_giveMost_162 ?_
      refine lv_iload hx hb dX8_giveMost_163 (lv_at hl 3 rfl) ?_
      refine lv_iadd hx hb dX8_giveMost_165 ?_
      refine lv_aload_n hx hb dX8_giveMost_166 rfl (lv_at hl 0 rfl) ?_
      obtain ⟨v36, zqe37, h⟩ := ob h
      refine gf973 C hR zqe37 dX8_giveMost_167 ?_
      refine lv_iload hx hb dX8_giveMost_170 (lv_at hl 3 rfl) ?_
      obtain ⟨v38, zqe39, h⟩ := ob h
      refine ra_I C hR zqe39 dX8_giveMost_172 ?_
      refine lv_if_ne (tgt := 181) hx hb dX8_giveMost_173 (by decide) (fun c => ?_) (fun c => ?_)
      · have h := iq c h
        refine lv_aload_n hx hb dX8_giveMost_181 rfl (lv_at hl 0 rfl) ?_
        obtain ⟨v40, zqe41, h⟩ := ob h
        refine gf973 C hR zqe41 dX8_giveMost_182 ?_
        refine lv_iload hx hb dX8_giveMost_185 (lv_at hl 3 rfl) ?_
        obtain ⟨v42, zqe43, h⟩ := ob h
        refine ra_I C hR zqe43 dX8_giveMost_187 ?_
        refine lv_iconst (v := 1) hx hb dX8_giveMost_188 (by decide) ?_
        refine lv_isub hx hb dX8_giveMost_189 ?_
        obtain ⟨M44, zqe45, h⟩ := ob h
        refine re_I C hR hS zqe45 dX8_giveMost_190 (fun H locs hR hS => ?_)
        refine lv_iinc (v := (x5 + 1)) (lv' := [(5, .int (x5 + 1)), (0, .ref (B + x0)), (1, .int x1), (3, .int x3)]) hx hb dX8_giveMost_191 hl (k := 3) rfl rfl (by decide) rfl (fun ls hl => ?_)
        refine lv_goto (tgt := 146) hx hb dX8_giveMost_194 (by decide) ?_
        exact ih h hR hS (lv_sub hl [1, 2, 3, 0] rfl)
      · have h := ip c h
        refine lv_bipush (v := (-9)) hx hb dX8_giveMost_176 (by decide) ?_
        refine lv_goto (tgt := 190) hx hb dX8_giveMost_178 (by decide) ?_
        obtain ⟨M46, zqe47, h⟩ := ob h
        refine re_I C hR hS zqe47 dX8_giveMost_190 (fun H locs hR hS => ?_)
        refine lv_iinc (v := (x5 + 1)) (lv' := [(5, .int (x5 + 1)), (0, .ref (B + x0)), (1, .int x1), (3, .int x3)]) hx hb dX8_giveMost_191 hl (k := 3) rfl rfl (by decide) rfl (fun ls hl => ?_)
        refine lv_goto (tgt := 146) hx hb dX8_giveMost_194 (by decide) ?_
        exact ih h hR hS (lv_sub hl [1, 2, 3, 0] rfl)
set_option maxHeartbeats 4000000 in
set_option maxRecDepth 100000 in
theorem w_X8_giveMost_125  {k29 : Nat → Int32 → Int32 → Int32 → Int32 → Mem → Option (Int32 × Mem)}  {r : Int32 × Mem} {x0 : Nat} {x1 : Int32} {x2 : Int32} {x3 : Int32} {M : Mem} (C : Cx p s m args meth c RX8 cX8_giveMost 7 (some .int) D B ca st)  (hk29 : ∀ {x0 : Nat} {x1 : Int32} {x2 : Int32} {x3 : Int32} {x4 : Int32} {M : Mem}, k29 x0 x1 x2 x3 x4 M = some r → ∀ {H : Heap} {locs : List Loc} {ls : Array Slot}, RH D B ca M H → va_S (AA B) s.heap H locs → lv_has ls 7 [(0, .ref (B + x0)), (1, .int x1), (2, .int x2), (3, .int x3), (4, .int x4)] → W p l e (rmD 5) s m args below meth c H locs 0 0 (MQ below (Qp D B ca st (some (.int r.1)) r.2) args s 0 0 (AA B)) (F0 m 29 ls [])) (h : f_X8_giveMost_125 k29 x0 x1 x2 x3 M = some r) : ∀ {H : Heap} {locs : List Loc} {ls : Array Slot}, RH D B ca M H → va_S (AA B) s.heap H locs → lv_has ls 7 [(0, .ref (B + x0)), (1, .int x1), (2, .int x2), (3, .int x3)] → W p l e (rmD 5) s m args below meth c H locs 0 0 (MQ below (Qp D B ca st (some (.int r.1)) r.2) args s 0 0 (AA B)) (F0 m 125 ls []) := by
  have hx := C.1
  have hb := C.2.1
  unfold f_X8_giveMost_125 at h
  intro H locs ls hR hS hl
  refine lv_aload_n hx hb dX8_giveMost_125 rfl (lv_at hl 0 rfl) ?_
  obtain ⟨qv49, zqe48, h⟩ := ob h
  refine rc_V C hR hS cf_X8_nextGivens cv_X8_nextGivens lk1288 (ok_X8_nextGivens zqe48) (ck_X8_nextGivens zqe48) ⟨Nat.le_of_ble_eq_true rfl, Nat.le_of_ble_eq_true rfl⟩ ⟨Nat.zero_le _, Nat.zero_le _⟩ rfl rfl hl.1 (Nat.le_of_ble_eq_true rfl) dX8_giveMost_126 (rc_k1 (fun H locs hR hS => ?_))
  refine lv_istore (lv' := [(4, .int qv49.1), (0, .ref (B + x0)), (1, .int x1), (2, .int x2), (3, .int x3)]) hx hb dX8_giveMost_129 hl (by decide) rfl (fun ls hl => ?_)
  refine lv_goto (tgt := 29) hx hb dX8_giveMost_131 (by decide) ?_
  exact hk29 h hR hS (lv_sub hl [1, 2, 3, 4, 0] rfl)
set_option maxHeartbeats 4000000 in
set_option maxRecDepth 100000 in
theorem w_X8_giveMost_98  {k29 : Nat → Int32 → Int32 → Int32 → Int32 → Mem → Option (Int32 × Mem)}  {r : Int32 × Mem} (C : Cx p s m args meth c RX8 cX8_giveMost 7 (some .int) D B ca st)  (hk29 : ∀ {x0 : Nat} {x1 : Int32} {x2 : Int32} {x3 : Int32} {x4 : Int32} {M : Mem}, k29 x0 x1 x2 x3 x4 M = some r → ∀ {H : Heap} {locs : List Loc} {ls : Array Slot}, RH D B ca M H → va_S (AA B) s.heap H locs → lv_has ls 7 [(0, .ref (B + x0)), (1, .int x1), (2, .int x2), (3, .int x3), (4, .int x4)] → W p l e (rmD 5) s m args below meth c H locs 0 0 (MQ below (Qp D B ca st (some (.int r.1)) r.2) args s 0 0 (AA B)) (F0 m 29 ls [])) : ∀ (n : Nat) {x0 : Nat} {x1 : Int32} {x2 : Int32} {x3 : Int32} {x6 : Int32} {M : Mem}, f_X8_giveMost_98 k29 n x0 x1 x2 x3 x6 M = some r → ∀ {H : Heap} {locs : List Loc} {ls : Array Slot}, RH D B ca M H → va_S (AA B) s.heap H locs → lv_has ls 7 [(0, .ref (B + x0)), (1, .int x1), (2, .int x2), (3, .int x3), (6, .int x6)] → W p l e (rmD 5) s m args below meth c H locs 0 0 (MQ below (Qp D B ca st (some (.int r.1)) r.2) args s 0 0 (AA B)) (F0 m 98 ls []) := by
  have hx := C.1
  have hb := C.2.1
  intro n
  induction n with
  | zero => intro x0 x1 x2 x3 x6 M h; simp [f_X8_giveMost_98] at h
  | succ n ih =>
    intro x0 x1 x2 x3 x6 M h H locs ls hR hS hl
    rw [f_X8_giveMost_98] at h
    refine lv_iload hx hb dX8_giveMost_98 (lv_at hl 4 rfl) ?_
    refine lv_bipush (v := 6) hx hb dX8_giveMost_100 (by decide) ?_
    refine lv_icmp_ge (tgt := 125) hx hb dX8_giveMost_102 (by decide) (fun c => ?_) (fun c => ?_)
    · have h := ip c h
      exact w_X8_giveMost_125 C (hk29 := @hk29) h hR hS (lv_sub hl [0, 1, 2, 3] rfl)
    · have h := iq c h
      refine lv_aload_n hx hb dX8_giveMost_105 rfl (lv_at hl 0 rfl) ?_
      obtain ⟨v51, zqe52, h⟩ := ob h
      refine gf973 C hR zqe52 dX8_giveMost_106 ?_
      refine lv_iload hx hb dX8_giveMost_109 (lv_at hl 4 rfl) ?_
      refine lv_aload_n hx hb dX8_giveMost_111 rfl (lv_at hl 0 rfl) ?_
      obtain ⟨v53, zqe54, h⟩ := ob h
      refine gf972 C hR zqe54 dX8_giveMost_112 ?_
      refine lv_iload hx hb dX8_giveMost_115 (lv_at hl 4 rfl) ?_
      obtain ⟨v55, zqe56, h⟩ := ob h
      refine ra_I C hR zqe56 dX8_giveMost_117 ?_
      obtain ⟨M57, zqe58, h⟩ := ob h
      refine re_I C hR hS zqe58 dX8_giveMost_118 (fun H locs hR hS => ?_)
      refine lv_iinc (v := (x6 + 1)) (lv' := [(6, .int (x6 + 1)), (0, .ref (B + x0)), (1, .int x1), (2, .int x2), (3, .int x3)]) hx hb dX8_giveMost_119 hl (k := 4) rfl rfl (by decide) rfl (fun ls hl => ?_)
      refine lv_goto (tgt := 98) hx hb dX8_giveMost_122 (by decide) ?_
      exact ih h hR hS (lv_sub hl [1, 2, 3, 4, 0] rfl)
set_option maxHeartbeats 4000000 in
set_option maxRecDepth 100000 in
theorem w_X8_giveMost_84  {k29 : Nat → Int32 → Int32 → Int32 → Int32 → Mem → Option (Int32 × Mem)}  {r : Int32 × Mem} {x0 : Nat} {x1 : Int32} {x2 : Int32} {x3 : Int32} {s0 : Int32} {M : Mem} (C : Cx p s m args meth c RX8 cX8_giveMost 7 (some .int) D B ca st)  (hk29 : ∀ {x0 : Nat} {x1 : Int32} {x2 : Int32} {x3 : Int32} {x4 : Int32} {M : Mem}, k29 x0 x1 x2 x3 x4 M = some r → ∀ {H : Heap} {locs : List Loc} {ls : Array Slot}, RH D B ca M H → va_S (AA B) s.heap H locs → lv_has ls 7 [(0, .ref (B + x0)), (1, .int x1), (2, .int x2), (3, .int x3), (4, .int x4)] → W p l e (rmD 5) s m args below meth c H locs 0 0 (MQ below (Qp D B ca st (some (.int r.1)) r.2) args s 0 0 (AA B)) (F0 m 29 ls [])) (h : f_X8_giveMost_84 k29 x0 x1 x2 x3 s0 M = some r) : ∀ {H : Heap} {locs : List Loc} {ls : Array Slot}, RH D B ca M H → va_S (AA B) s.heap H locs → lv_has ls 7 [(0, .ref (B + x0)), (1, .int x1), (2, .int x2), (3, .int x3)] → W p l e (rmD 5) s m args below meth c H locs 0 0 (MQ below (Qp D B ca st (some (.int r.1)) r.2) args s 0 0 (AA B)) (F0 m 84 ls [.int s0]) := by
  have hx := C.1
  have hb := C.2.1
  unfold f_X8_giveMost_84 at h
  intro H locs ls hR hS hl
  refine lv_istore (lv' := [(5, .int s0), (0, .ref (B + x0)), (1, .int x1), (2, .int x2), (3, .int x3)]) hx hb dX8_giveMost_84 hl (by decide) rfl (fun ls hl => ?_)
  refine lv_iload hx hb dX8_giveMost_86 (lv_at hl 0 rfl) ?_
  refine lv_iload_n hx hb dX8_giveMost_88 rfl (lv_at hl 4 rfl) ?_
  refine lv_icmp_le (tgt := 125) hx hb dX8_giveMost_89 (by decide) (fun c => ?_) (fun c => ?_)
  · have h := ip c h
    exact w_X8_giveMost_125 C (hk29 := @hk29) h hR hS (lv_sub hl [1, 2, 3, 4] rfl)
  · have h := iq c h
    refine lv_iload hx hb dX8_giveMost_92 (lv_at hl 0 rfl) ?_
    refine lv_istore_n (lv' := [(3, .int s0), (5, .int s0), (0, .ref (B + x0)), (1, .int x1), (2, .int x2)]) hx hb dX8_giveMost_94 rfl hl (by decide) rfl (fun ls hl => ?_)
    refine lv_iconst (v := 0) hx hb dX8_giveMost_95 (by decide) ?_
    refine lv_istore (lv' := [(6, .int 0), (3, .int s0), (5, .int s0), (0, .ref (B + x0)), (1, .int x1), (2, .int x2)]) hx hb dX8_giveMost_96 hl (by decide) rfl (fun ls hl => ?_)
    exact w_X8_giveMost_98 C (hk29 := @hk29) FU h hR hS (lv_sub hl [3, 4, 5, 1, 0] rfl)
set_option maxHeartbeats 4000000 in
set_option maxRecDepth 100000 in
theorem w_X8_giveMost_29    {r : Int32 × Mem} (C : Cx p s m args meth c RX8 cX8_giveMost 7 (some .int) D B ca st)   : ∀ (n : Nat) {x0 : Nat} {x1 : Int32} {x2 : Int32} {x3 : Int32} {x4 : Int32} {M : Mem}, f_X8_giveMost_29  n x0 x1 x2 x3 x4 M = some r → ∀ {H : Heap} {locs : List Loc} {ls : Array Slot}, RH D B ca M H → va_S (AA B) s.heap H locs → lv_has ls 7 [(0, .ref (B + x0)), (1, .int x1), (2, .int x2), (3, .int x3), (4, .int x4)] → W p l e (rmD 5) s m args below meth c H locs 0 0 (MQ below (Qp D B ca st (some (.int r.1)) r.2) args s 0 0 (AA B)) (F0 m 29 ls []) := by
  have hx := C.1
  have hb := C.2.1
  intro n
  induction n with
  | zero => intro x0 x1 x2 x3 x4 M h; simp [f_X8_giveMost_29] at h
  | succ n ih =>
    intro x0 x1 x2 x3 x4 M h H locs ls hR hS hl
    rw [f_X8_giveMost_29] at h
    refine lv_iload hx hb dX8_giveMost_29 (lv_at hl 4 rfl) ?_
    refine lv_if_eq (tgt := 134) hx hb dX8_giveMost_31 (by decide) (fun c => ?_) (fun c => ?_)
    · have h := ip c h
      refine lv_aload_n hx hb dX8_giveMost_134 rfl (lv_at hl 0 rfl) ?_
      refine lv_iload_n hx hb dX8_giveMost_135 rfl (lv_at hl 1 rfl) ?_
      refine lv_aload_n hx hb dX8_giveMost_136 rfl (lv_at hl 0 rfl) ?_
      obtain ⟨v5, zqe6, h⟩ := ob h
      refine gf952 C hR zqe6 dX8_giveMost_137 ?_
      obtain ⟨M8, zqe7, h⟩ := ob h
      refine rc_V C hR hS cf_X8_makeRow cv_X8_makeRow lk1066 (ok_X8_makeRow zqe7) (ck_X8_makeRow zqe7) ⟨Nat.le_of_ble_eq_true rfl, Nat.le_of_ble_eq_true rfl⟩ ⟨Nat.zero_le _, Nat.zero_le _⟩ rfl rfl hl.1 (Nat.le_of_ble_eq_true rfl) dX8_giveMost_140 (rc_k0 (fun H locs hR hS => ?_))
      refine lv_iconst (v := 0) hx hb dX8_giveMost_143 (by decide) ?_
      refine lv_istore (lv' := [(5, .int 0), (0, .ref (B + x0)), (1, .int x1), (2, .int x2), (3, .int x3), (4, .int x4)]) hx hb dX8_giveMost_144 hl (by decide) rfl (fun ls hl => ?_)
      exact w_X8_giveMost_146 C  FU h hR hS (lv_sub hl [1, 2, 4, 0] rfl)
    · have h := iq c h
      refine lv_aload_n hx hb dX8_giveMost_34 rfl (lv_at hl 0 rfl) ?_
      obtain ⟨qv10, zqe9, h⟩ := ob h
      refine rc_V C hR hS cf_X8_doesGivens cv_X8_doesGivens lk1277 (ok_X8_doesGivens zqe9) (ck_X8_doesGivens zqe9) ⟨Nat.le_of_ble_eq_true rfl, Nat.le_of_ble_eq_true rfl⟩ ⟨Nat.zero_le _, Nat.zero_le _⟩ rfl rfl hl.1 (Nat.le_of_ble_eq_true rfl) dX8_giveMost_35 (rc_k1 (fun H locs hR hS => ?_))
      refine lv_if_eq (tgt := 125) hx hb dX8_giveMost_38 (by decide) (fun c => ?_) (fun c => ?_)
      · have h := ip c h
        exact w_X8_giveMost_125 C (hk29 := @ih) h hR hS (lv_sub hl [0, 1, 2, 3] rfl)
      · have h := iq c h
        refine lv_iload_n hx hb dX8_giveMost_41 rfl (lv_at hl 2 rfl) ?_
        refine lv_if_eq (tgt := 63) hx hb dX8_giveMost_42 (by decide) (fun c => ?_) (fun c => ?_)
        · have h := ip c h
          refine lv_aload_n hx hb dX8_giveMost_63 rfl (lv_at hl 0 rfl) ?_
          obtain ⟨v12, zqe13, h⟩ := ob h
          refine gf948 C hR zqe13 dX8_giveMost_64 ?_
          refine lv_sipush (v := 1974) hx hb dX8_giveMost_67 (by decide) ?_
          obtain ⟨v14, zqe15, h⟩ := ob h
          refine ra_I C hR zqe15 dX8_giveMost_70 ?_
          obtain ⟨v17, zqe16, h⟩ := ob h
          refine rc_S C hR hS cf_X8_bits cs_X8_bits lk1285 (ok_X8_bits zqe16) ⟨Nat.le_of_ble_eq_true rfl, Nat.le_of_ble_eq_true rfl⟩ ⟨Nat.zero_le _, Nat.zero_le _⟩ rfl rfl hl.1 (Nat.le_of_ble_eq_true rfl) dX8_giveMost_71 (rc_k1 (fun H locs hR hS => ?_))
          refine lv_aload_n hx hb dX8_giveMost_74 rfl (lv_at hl 0 rfl) ?_
          obtain ⟨v18, zqe19, h⟩ := ob h
          refine gf948 C hR zqe19 dX8_giveMost_75 ?_
          refine lv_iconst (v := 2) hx hb dX8_giveMost_78 (by decide) ?_
          obtain ⟨v20, zqe21, h⟩ := ob h
          refine ra_I C hR zqe21 dX8_giveMost_79 ?_
          obtain ⟨v23, zqe22, h⟩ := ob h
          refine rc_S C hR hS cf_X8_bits cs_X8_bits lk1285 (ok_X8_bits zqe22) ⟨Nat.le_of_ble_eq_true rfl, Nat.le_of_ble_eq_true rfl⟩ ⟨Nat.zero_le _, Nat.zero_le _⟩ rfl rfl hl.1 (Nat.le_of_ble_eq_true rfl) dX8_giveMost_80 (rc_k1 (fun H locs hR hS => ?_))
          refine lv_isub hx hb dX8_giveMost_83 ?_
          exact w_X8_giveMost_84 C (hk29 := @ih) h hR hS (lv_sub hl [0, 1, 2, 3] rfl)
        · have h := iq c h
          refine lv_aload_n hx hb dX8_giveMost_45 rfl (lv_at hl 0 rfl) ?_
          obtain ⟨v24, zqe25, h⟩ := ob h
          refine gf948 C hR zqe25 dX8_giveMost_46 ?_
          refine lv_sipush (v := 1973) hx hb dX8_giveMost_49 (by decide) ?_
          obtain ⟨v26, zqe27, h⟩ := ob h
          refine ra_I C hR zqe27 dX8_giveMost_52 ?_
          refine lv_aload_n hx hb dX8_giveMost_53 rfl (lv_at hl 0 rfl) ?_
          obtain ⟨v28, zqe29, h⟩ := ob h
          refine gf948 C hR zqe29 dX8_giveMost_54 ?_
          refine lv_iconst (v := 1) hx hb dX8_giveMost_57 (by decide) ?_
          obtain ⟨v30, zqe31, h⟩ := ob h
          refine ra_I C hR zqe31 dX8_giveMost_58 ?_
          refine lv_isub hx hb dX8_giveMost_59 ?_
          refine lv_goto (tgt := 84) hx hb dX8_giveMost_60 (by decide) ?_
          exact w_X8_giveMost_84 C (hk29 := @ih) h hR hS (lv_sub hl [0, 1, 2, 3] rfl)
set_option maxHeartbeats 4000000 in
set_option maxRecDepth 100000 in
theorem w_X8_giveMost_8    {r : Int32 × Mem} (C : Cx p s m args meth c RX8 cX8_giveMost 7 (some .int) D B ca st)   : ∀ (n : Nat) {x0 : Nat} {x1 : Int32} {x2 : Int32} {x3 : Int32} {x4 : Int32} {x5 : Int32} {M : Mem}, f_X8_giveMost_8  n x0 x1 x2 x3 x4 x5 M = some r → ∀ {H : Heap} {locs : List Loc} {ls : Array Slot}, RH D B ca M H → va_S (AA B) s.heap H locs → lv_has ls 7 [(0, .ref (B + x0)), (1, .int x1), (2, .int x2), (3, .int x3), (4, .int x4), (5, .int x5)] → W p l e (rmD 5) s m args below meth c H locs 0 0 (MQ below (Qp D B ca st (some (.int r.1)) r.2) args s 0 0 (AA B)) (F0 m 8 ls []) := by
  have hx := C.1
  have hb := C.2.1
  intro n
  induction n with
  | zero => intro x0 x1 x2 x3 x4 x5 M h; simp [f_X8_giveMost_8] at h
  | succ n ih =>
    intro x0 x1 x2 x3 x4 x5 M h H locs ls hR hS hl
    rw [f_X8_giveMost_8] at h
    refine lv_iload hx hb dX8_giveMost_8 (lv_at hl 5 rfl) ?_
    refine lv_bipush (v := 6) hx hb dX8_giveMost_10 (by decide) ?_
    refine lv_icmp_ge (tgt := 29) hx hb dX8_giveMost_12 (by decide) (fun c => ?_) (fun c => ?_)
    · have h := ip c h
      exact w_X8_giveMost_29 C  FU h hR hS (lv_sub hl [0, 1, 2, 3, 4] rfl)
    · have h := iq c h
      refine lv_aload_n hx hb dX8_giveMost_15 rfl (lv_at hl 0 rfl) ?_
      obtain ⟨v1, zqe2, h⟩ := ob h
      refine gf972 C hR zqe2 dX8_giveMost_16 ?_
      refine lv_iload hx hb dX8_giveMost_19 (lv_at hl 5 rfl) ?_
      refine lv_iconst (v := 0) hx hb dX8_giveMost_21 (by decide) ?_
      obtain ⟨M3, zqe4, h⟩ := ob h
      refine re_I C hR hS zqe4 dX8_giveMost_22 (fun H locs hR hS => ?_)
      refine lv_iinc (v := (x5 + 1)) (lv' := [(5, .int (x5 + 1)), (0, .ref (B + x0)), (1, .int x1), (2, .int x2), (3, .int x3), (4, .int x4)]) hx hb dX8_giveMost_23 hl (k := 5) rfl rfl (by decide) rfl (fun ls hl => ?_)
      refine lv_goto (tgt := 8) hx hb dX8_giveMost_26 (by decide) ?_
      exact ih h hR hS (lv_sub hl [1, 2, 3, 4, 5, 0] rfl)
theorem ck_X8_giveMost  {x0 : Nat} {x1 : Int32} {x2 : Int32} {M : Mem} {r : Int32 × Mem} (h : f_X8_giveMost  x0 x1 x2 M = some r) : kd M x0 = 18 := by
  unfold f_X8_giveMost at h
  exact ck h
set_option maxHeartbeats 4000000 in
set_option maxRecDepth 100000 in
theorem ok_X8_giveMost  {x0 : Nat} {x1 : Int32} {x2 : Int32}  {M : Mem} {r : Int32 × Mem}  (h : f_X8_giveMost  x0 x1 x2 M = some r) : Ok l yX8_giveMost cX8_giveMost 7 (some .int) 5 [.ref (B + x0), .int x1, .int x2] D B ca st M (some (.int r.1)) r.2 := by
  have hk0 := ck_X8_giveMost h
  unfold f_X8_giveMost at h
  have h := ip hk0 h
  refine ok_of rfl rfl (Nat.le_of_ble_eq_true rfl) ?_
  intro p e s m args below meth c ls C hl hR hS
  have hl : lv_has ls 7 [(0, .ref (B + x0)), (1, .int x1), (2, .int x2)] := hl
  have hx := C.1
  have hb := C.2.1
  refine lv_iconst (v := (-1)) hx hb dX8_giveMost_0 (by decide) ?_
  refine lv_istore_n (lv' := [(3, .int (-1)), (0, .ref (B + x0)), (1, .int x1), (2, .int x2)]) hx hb dX8_giveMost_1 rfl hl (by decide) rfl (fun ls hl => ?_)
  refine lv_iconst (v := 1) hx hb dX8_giveMost_2 (by decide) ?_
  refine lv_istore (lv' := [(4, .int 1), (3, .int (-1)), (0, .ref (B + x0)), (1, .int x1), (2, .int x2)]) hx hb dX8_giveMost_3 hl (by decide) rfl (fun ls hl => ?_)
  refine lv_iconst (v := 0) hx hb dX8_giveMost_5 (by decide) ?_
  refine lv_istore (lv' := [(5, .int 0), (4, .int 1), (3, .int (-1)), (0, .ref (B + x0)), (1, .int x1), (2, .int x2)]) hx hb dX8_giveMost_6 hl (by decide) rfl (fun ls hl => ?_)
  exact w_X8_giveMost_8 C  FU h hR hS (lv_sub hl [3, 4, 5, 2, 1, 0] rfl)
theorem ck_X8_give  {x0 : Nat} {x1 : Int32} {M : Mem} {r : Int32 × Mem} (h : f_X8_give  x0 x1 M = some r) : kd M x0 = 18 := by
  unfold f_X8_give at h
  exact ck h
set_option maxHeartbeats 4000000 in
set_option maxRecDepth 100000 in
theorem ok_X8_give  {x0 : Nat} {x1 : Int32}  {M : Mem} {r : Int32 × Mem}  (h : f_X8_give  x0 x1 M = some r) : Ok l yX8_give cX8_give 2 (some .int) 6 [.ref (B + x0), .int x1] D B ca st M (some (.int r.1)) r.2 := by
  have hk0 := ck_X8_give h
  unfold f_X8_give at h
  have h := ip hk0 h
  refine ok_of rfl rfl (Nat.le_of_ble_eq_true rfl) ?_
  intro p e s m args below meth c ls C hl hR hS
  have hl : lv_has ls 2 [(0, .ref (B + x0)), (1, .int x1)] := hl
  have hx := C.1
  have hb := C.2.1
  refine lv_iload_n hx hb dX8_give_0 rfl (lv_at hl 1 rfl) ?_
  obtain ⟨v2, zqe1, h⟩ := ob h
  refine rc_S C hR hS cf_X8_isRow cs_X8_isRow lk1055 (ok_X8_isRow zqe1) ⟨Nat.le_of_ble_eq_true rfl, Nat.le_of_ble_eq_true rfl⟩ ⟨Nat.zero_le _, Nat.zero_le _⟩ rfl rfl hl.1 (Nat.le_of_ble_eq_true rfl) dX8_give_1 (rc_k1 (fun H locs hR hS => ?_))
  refine lv_if_ne (tgt := 9) hx hb dX8_give_4 (by decide) (fun c => ?_) (fun c => ?_)
  · have h := iq c h
    refine lv_aload_n hx hb dX8_give_9 rfl (lv_at hl 0 rfl) ?_
    obtain ⟨v3, zqe4, h⟩ := ob h
    refine gf949 C hR zqe4 dX8_give_10 ?_
    refine lv_if_ne (tgt := 21) hx hb dX8_give_13 (by decide) (fun c => ?_) (fun c => ?_)
    · have h := iq c h
      refine lv_aload_n hx hb dX8_give_21 rfl (lv_at hl 0 rfl) ?_
      refine lv_iload_n hx hb dX8_give_22 rfl (lv_at hl 1 rfl) ?_
      refine lv_iconst (v := 1) hx hb dX8_give_23 (by decide) ?_
      obtain ⟨qv6, zqe5, h⟩ := ob h
      refine rc_V C hR hS cf_X8_giveMost cv_X8_giveMost lk1273 (ok_X8_giveMost zqe5) (ck_X8_giveMost zqe5) ⟨Nat.le_of_ble_eq_true rfl, Nat.le_of_ble_eq_true rfl⟩ ⟨Nat.zero_le _, Nat.zero_le _⟩ rfl rfl hl.1 (Nat.le_of_ble_eq_true rfl) dX8_give_24 (rc_k1 (fun H locs hR hS => ?_))
      cases h
      exact rr_I C hR hS dX8_give_27
    · have h := ip c h
      refine lv_bipush (v := (-4)) hx hb dX8_give_16 (by decide) ?_
      refine lv_goto (tgt := 27) hx hb dX8_give_18 (by decide) ?_
      cases h
      exact rr_I C hR hS dX8_give_27
  · have h := ip c h
    refine lv_iconst (v := (-1)) hx hb dX8_give_7 (by decide) ?_
    cases h
    exact rr_I C hR hS dX8_give_8
set_option maxHeartbeats 4000000 in
set_option maxRecDepth 100000 in
theorem w_X8_guild_203    {r : Int32 × Mem} (C : Cx p s m args meth c RX8 cX8_guild 3 (some .int) D B ca st)   : ∀ (n : Nat) {x0 : Nat} {x2 : Int32} {M : Mem}, f_X8_guild_203  n x0 x2 M = some r → ∀ {H : Heap} {locs : List Loc} {ls : Array Slot}, RH D B ca M H → va_S (AA B) s.heap H locs → lv_has ls 3 [(0, .ref (B + x0)), (2, .int x2)] → W p l e (rmD 4) s m args below meth c H locs 0 0 (MQ below (Qp D B ca st (some (.int r.1)) r.2) args s 0 0 (AA B)) (F0 m 203 ls []) := by
  have hx := C.1
  have hb := C.2.1
  intro n
  induction n with
  | zero => intro x0 x2 M h; simp [f_X8_guild_203] at h
  | succ n ih =>
    intro x0 x2 M h H locs ls hR hS hl
    rw [f_X8_guild_203] at h
    refine lv_iload_n hx hb dX8_guild_203 rfl (lv_at hl 1 rfl) ?_
    refine lv_iconst (v := 4) hx hb dX8_guild_204 (by decide) ?_
    refine lv_icmp_ge (tgt := 227) hx hb dX8_guild_205 (by decide) (fun c => ?_) (fun c => ?_)
    · have h := ip c h
      refine lv_aload_n hx hb dX8_guild_227 rfl (lv_at hl 0 rfl) ?_
      obtain ⟨v77, zqe78, h⟩ := ob h
      refine gf952 C hR zqe78 dX8_guild_228 ?_
      cases h
      exact rr_I C hR hS dX8_guild_231
    · have h := iq c h
      refine lv_aload_n hx hb dX8_guild_208 rfl (lv_at hl 0 rfl) ?_
      obtain ⟨v79, zqe80, h⟩ := ob h
      refine gf948 C hR zqe80 dX8_guild_209 ?_
      refine lv_sipush (v := 493) hx hb dX8_guild_212 (by decide) ?_
      refine lv_iload_n hx hb dX8_guild_215 rfl (lv_at hl 1 rfl) ?_
      refine lv_imul hx hb dX8_guild_216 ?_
      refine lv_iconst (v := 0) hx hb dX8_guild_217 (by decide) ?_
      refine lv_iadd hx hb dX8_guild_218 ?_
      refine lv_iconst (v := (-1)) hx hb dX8_guild_219 (by decide) ?_
      obtain ⟨M81, zqe82, h⟩ := ob h
      refine re_I C hR hS zqe82 dX8_guild_220 (fun H locs hR hS => ?_)
      refine lv_iinc (v := (x2 + 1)) (lv' := [(2, .int (x2 + 1)), (0, .ref (B + x0))]) hx hb dX8_guild_221 hl (k := 1) rfl rfl (by decide) rfl (fun ls hl => ?_)
      refine lv_goto (tgt := 203) hx hb dX8_guild_224 (by decide) ?_
      exact ih h hR hS (lv_sub hl [1, 0] rfl)
set_option maxHeartbeats 4000000 in
set_option maxRecDepth 100000 in
theorem w_X8_guild_141    {r : Int32 × Mem} (C : Cx p s m args meth c RX8 cX8_guild 3 (some .int) D B ca st)   : ∀ (n : Nat) {x0 : Nat} {x2 : Int32} {M : Mem}, f_X8_guild_141  n x0 x2 M = some r → ∀ {H : Heap} {locs : List Loc} {ls : Array Slot}, RH D B ca M H → va_S (AA B) s.heap H locs → lv_has ls 3 [(0, .ref (B + x0)), (2, .int x2)] → W p l e (rmD 4) s m args below meth c H locs 0 0 (MQ below (Qp D B ca st (some (.int r.1)) r.2) args s 0 0 (AA B)) (F0 m 141 ls []) := by
  have hx := C.1
  have hb := C.2.1
  intro n
  induction n with
  | zero => intro x0 x2 M h; simp [f_X8_guild_141] at h
  | succ n ih =>
    intro x0 x2 M h H locs ls hR hS hl
    rw [f_X8_guild_141] at h
    refine lv_iload_n hx hb dX8_guild_141 rfl (lv_at hl 1 rfl) ?_
    refine lv_aload_n hx hb dX8_guild_142 rfl (lv_at hl 0 rfl) ?_
    obtain ⟨v51, zqe52, h⟩ := ob h
    refine gf952 C hR zqe52 dX8_guild_143 ?_
    refine lv_icmp_ge (tgt := 201) hx hb dX8_guild_146 (by decide) (fun c => ?_) (fun c => ?_)
    · have h := ip c h
      refine lv_iconst (v := 1) hx hb dX8_guild_201 (by decide) ?_
      refine lv_istore_n (lv' := [(2, .int 1), (0, .ref (B + x0))]) hx hb dX8_guild_202 rfl hl (by decide) rfl (fun ls hl => ?_)
      exact w_X8_guild_203 C  FU h hR hS (lv_sub hl [1, 0] rfl)
    · have h := iq c h
      refine lv_aload_n hx hb dX8_guild_149 rfl (lv_at hl 0 rfl) ?_
      obtain ⟨v53, zqe54, h⟩ := ob h
      refine gf953 C hR zqe54 dX8_guild_150 ?_
      refine lv_iload_n hx hb dX8_guild_153 rfl (lv_at hl 1 rfl) ?_
      refine lv_aload_n hx hb dX8_guild_154 rfl (lv_at hl 0 rfl) ?_
      obtain ⟨v55, zqe56, h⟩ := ob h
      refine gf970 C hR zqe56 dX8_guild_155 ?_
      refine lv_iconst (v := 3) hx hb dX8_guild_158 (by decide) ?_
      refine lv_iload_n hx hb dX8_guild_159 rfl (lv_at hl 1 rfl) ?_
      refine lv_imul hx hb dX8_guild_160 ?_
      obtain ⟨v57, zqe58, h⟩ := ob h
      refine ra_I C hR zqe58 dX8_guild_161 ?_
      obtain ⟨M59, zqe60, h⟩ := ob h
      refine re_I C hR hS zqe60 dX8_guild_162 (fun H locs hR hS => ?_)
      refine lv_aload_n hx hb dX8_guild_163 rfl (lv_at hl 0 rfl) ?_
      obtain ⟨v61, zqe62, h⟩ := ob h
      refine gf954 C hR zqe62 dX8_guild_164 ?_
      refine lv_iload_n hx hb dX8_guild_167 rfl (lv_at hl 1 rfl) ?_
      refine lv_aload_n hx hb dX8_guild_168 rfl (lv_at hl 0 rfl) ?_
      obtain ⟨v63, zqe64, h⟩ := ob h
      refine gf970 C hR zqe64 dX8_guild_169 ?_
      refine lv_iconst (v := 3) hx hb dX8_guild_172 (by decide) ?_
      refine lv_iload_n hx hb dX8_guild_173 rfl (lv_at hl 1 rfl) ?_
      refine lv_imul hx hb dX8_guild_174 ?_
      refine lv_iconst (v := 1) hx hb dX8_guild_175 (by decide) ?_
      refine lv_iadd hx hb dX8_guild_176 ?_
      obtain ⟨v65, zqe66, h⟩ := ob h
      refine ra_I C hR zqe66 dX8_guild_177 ?_
      obtain ⟨M67, zqe68, h⟩ := ob h
      refine re_I C hR hS zqe68 dX8_guild_178 (fun H locs hR hS => ?_)
      refine lv_aload_n hx hb dX8_guild_179 rfl (lv_at hl 0 rfl) ?_
      obtain ⟨v69, zqe70, h⟩ := ob h
      refine gf955 C hR zqe70 dX8_guild_180 ?_
      refine lv_iload_n hx hb dX8_guild_183 rfl (lv_at hl 1 rfl) ?_
      refine lv_aload_n hx hb dX8_guild_184 rfl (lv_at hl 0 rfl) ?_
      obtain ⟨v71, zqe72, h⟩ := ob h
      refine gf970 C hR zqe72 dX8_guild_185 ?_
      refine lv_iconst (v := 3) hx hb dX8_guild_188 (by decide) ?_
      refine lv_iload_n hx hb dX8_guild_189 rfl (lv_at hl 1 rfl) ?_
      refine lv_imul hx hb dX8_guild_190 ?_
      refine lv_iconst (v := 2) hx hb dX8_guild_191 (by decide) ?_
      refine lv_iadd hx hb dX8_guild_192 ?_
      obtain ⟨v73, zqe74, h⟩ := ob h
      refine ra_I C hR zqe74 dX8_guild_193 ?_
      obtain ⟨M75, zqe76, h⟩ := ob h
      refine re_I C hR hS zqe76 dX8_guild_194 (fun H locs hR hS => ?_)
      refine lv_iinc (v := (x2 + 1)) (lv' := [(2, .int (x2 + 1)), (0, .ref (B + x0))]) hx hb dX8_guild_195 hl (k := 1) rfl rfl (by decide) rfl (fun ls hl => ?_)
      refine lv_goto (tgt := 141) hx hb dX8_guild_198 (by decide) ?_
      exact ih h hR hS (lv_sub hl [1, 0] rfl)
set_option maxHeartbeats 4000000 in
set_option maxRecDepth 100000 in
theorem w_X8_guild_77    {r : Int32 × Mem} (C : Cx p s m args meth c RX8 cX8_guild 3 (some .int) D B ca st)   : ∀ (n : Nat) {x0 : Nat} {x2 : Int32} {M : Mem}, f_X8_guild_77  n x0 x2 M = some r → ∀ {H : Heap} {locs : List Loc} {ls : Array Slot}, RH D B ca M H → va_S (AA B) s.heap H locs → lv_has ls 3 [(0, .ref (B + x0)), (2, .int x2)] → W p l e (rmD 4) s m args below meth c H locs 0 0 (MQ below (Qp D B ca st (some (.int r.1)) r.2) args s 0 0 (AA B)) (F0 m 77 ls []) := by
  have hx := C.1
  have hb := C.2.1
  intro n
  induction n with
  | zero => intro x0 x2 M h; simp [f_X8_guild_77] at h
  | succ n ih =>
    intro x0 x2 M h H locs ls hR hS hl
    rw [f_X8_guild_77] at h
    refine lv_iload_n hx hb dX8_guild_77 rfl (lv_at hl 1 rfl) ?_
    refine lv_aload_n hx hb dX8_guild_78 rfl (lv_at hl 0 rfl) ?_
    obtain ⟨v25, zqe26, h⟩ := ob h
    refine gf949 C hR zqe26 dX8_guild_79 ?_
    refine lv_icmp_ge (tgt := 139) hx hb dX8_guild_82 (by decide) (fun c => ?_) (fun c => ?_)
    · have h := ip c h
      refine lv_iconst (v := 0) hx hb dX8_guild_139 (by decide) ?_
      refine lv_istore_n (lv' := [(2, .int 0), (0, .ref (B + x0))]) hx hb dX8_guild_140 rfl hl (by decide) rfl (fun ls hl => ?_)
      exact w_X8_guild_141 C  FU h hR hS (lv_sub hl [1, 0] rfl)
    · have h := iq c h
      refine lv_aload_n hx hb dX8_guild_85 rfl (lv_at hl 0 rfl) ?_
      obtain ⟨v27, zqe28, h⟩ := ob h
      refine gf950 C hR zqe28 dX8_guild_86 ?_
      refine lv_iload_n hx hb dX8_guild_89 rfl (lv_at hl 1 rfl) ?_
      refine lv_aload_n hx hb dX8_guild_90 rfl (lv_at hl 0 rfl) ?_
      obtain ⟨v29, zqe30, h⟩ := ob h
      refine gf968 C hR zqe30 dX8_guild_91 ?_
      refine lv_iconst (v := 3) hx hb dX8_guild_94 (by decide) ?_
      refine lv_iload_n hx hb dX8_guild_95 rfl (lv_at hl 1 rfl) ?_
      refine lv_imul hx hb dX8_guild_96 ?_
      obtain ⟨v31, zqe32, h⟩ := ob h
      refine ra_I C hR zqe32 dX8_guild_97 ?_
      obtain ⟨M33, zqe34, h⟩ := ob h
      refine re_I C hR hS zqe34 dX8_guild_98 (fun H locs hR hS => ?_)
      refine lv_aload_n hx hb dX8_guild_99 rfl (lv_at hl 0 rfl) ?_
      obtain ⟨v35, zqe36, h⟩ := ob h
      refine gf948 C hR zqe36 dX8_guild_100 ?_
      refine lv_iconst (v := 3) hx hb dX8_guild_103 (by decide) ?_
      refine lv_iload_n hx hb dX8_guild_104 rfl (lv_at hl 1 rfl) ?_
      refine lv_iadd hx hb dX8_guild_105 ?_
      refine lv_aload_n hx hb dX8_guild_106 rfl (lv_at hl 0 rfl) ?_
      obtain ⟨v37, zqe38, h⟩ := ob h
      refine gf968 C hR zqe38 dX8_guild_107 ?_
      refine lv_iconst (v := 3) hx hb dX8_guild_110 (by decide) ?_
      refine lv_iload_n hx hb dX8_guild_111 rfl (lv_at hl 1 rfl) ?_
      refine lv_imul hx hb dX8_guild_112 ?_
      refine lv_iconst (v := 1) hx hb dX8_guild_113 (by decide) ?_
      refine lv_iadd hx hb dX8_guild_114 ?_
      obtain ⟨v39, zqe40, h⟩ := ob h
      refine ra_I C hR zqe40 dX8_guild_115 ?_
      obtain ⟨M41, zqe42, h⟩ := ob h
      refine re_I C hR hS zqe42 dX8_guild_116 (fun H locs hR hS => ?_)
      refine lv_aload_n hx hb dX8_guild_117 rfl (lv_at hl 0 rfl) ?_
      obtain ⟨v43, zqe44, h⟩ := ob h
      refine gf951 C hR zqe44 dX8_guild_118 ?_
      refine lv_iload_n hx hb dX8_guild_121 rfl (lv_at hl 1 rfl) ?_
      refine lv_aload_n hx hb dX8_guild_122 rfl (lv_at hl 0 rfl) ?_
      obtain ⟨v45, zqe46, h⟩ := ob h
      refine gf968 C hR zqe46 dX8_guild_123 ?_
      refine lv_iconst (v := 3) hx hb dX8_guild_126 (by decide) ?_
      refine lv_iload_n hx hb dX8_guild_127 rfl (lv_at hl 1 rfl) ?_
      refine lv_imul hx hb dX8_guild_128 ?_
      refine lv_iconst (v := 2) hx hb dX8_guild_129 (by decide) ?_
      refine lv_iadd hx hb dX8_guild_130 ?_
      obtain ⟨v47, zqe48, h⟩ := ob h
      refine ra_I C hR zqe48 dX8_guild_131 ?_
      obtain ⟨M49, zqe50, h⟩ := ob h
      refine re_I C hR hS zqe50 dX8_guild_132 (fun H locs hR hS => ?_)
      refine lv_iinc (v := (x2 + 1)) (lv' := [(2, .int (x2 + 1)), (0, .ref (B + x0))]) hx hb dX8_guild_133 hl (k := 1) rfl rfl (by decide) rfl (fun ls hl => ?_)
      refine lv_goto (tgt := 77) hx hb dX8_guild_136 (by decide) ?_
      exact ih h hR hS (lv_sub hl [1, 0] rfl)
set_option maxHeartbeats 4000000 in
set_option maxRecDepth 100000 in
theorem w_X8_guild_39    {r : Int32 × Mem} (C : Cx p s m args meth c RX8 cX8_guild 3 (some .int) D B ca st)   : ∀ (n : Nat) {x0 : Nat} {x2 : Int32} {M : Mem}, f_X8_guild_39  n x0 x2 M = some r → ∀ {H : Heap} {locs : List Loc} {ls : Array Slot}, RH D B ca M H → va_S (AA B) s.heap H locs → lv_has ls 3 [(0, .ref (B + x0)), (2, .int x2)] → W p l e (rmD 4) s m args below meth c H locs 0 0 (MQ below (Qp D B ca st (some (.int r.1)) r.2) args s 0 0 (AA B)) (F0 m 39 ls []) := by
  have hx := C.1
  have hb := C.2.1
  intro n
  induction n with
  | zero => intro x0 x2 M h; simp [f_X8_guild_39] at h
  | succ n ih =>
    intro x0 x2 M h H locs ls hR hS hl
    rw [f_X8_guild_39] at h
    refine lv_iload_n hx hb dX8_guild_39 rfl (lv_at hl 1 rfl) ?_
    refine lv_sipush (v := 493) hx hb dX8_guild_40 (by decide) ?_
    refine lv_icmp_ge (tgt := 59) hx hb dX8_guild_43 (by decide) (fun c => ?_) (fun c => ?_)
    · have h := ip c h
      refine lv_aload_n hx hb dX8_guild_59 rfl (lv_at hl 0 rfl) ?_
      refine lv_aload_n hx hb dX8_guild_60 rfl (lv_at hl 0 rfl) ?_
      obtain ⟨v13, zqe14, h⟩ := ob h
      refine gf969 C hR zqe14 dX8_guild_61 ?_
      obtain ⟨M15, zqe16, h⟩ := ob h
      refine pf949 C hR hS zqe16 dX8_guild_64 (fun H locs hR hS => ?_)
      refine lv_aload_n hx hb dX8_guild_67 rfl (lv_at hl 0 rfl) ?_
      refine lv_aload_n hx hb dX8_guild_68 rfl (lv_at hl 0 rfl) ?_
      obtain ⟨v17, zqe18, h⟩ := ob h
      refine gf971 C hR zqe18 dX8_guild_69 ?_
      obtain ⟨M19, zqe20, h⟩ := ob h
      refine pf952 C hR hS zqe20 dX8_guild_72 (fun H locs hR hS => ?_)
      refine lv_iconst (v := 0) hx hb dX8_guild_75 (by decide) ?_
      refine lv_istore_n (lv' := [(2, .int 0), (0, .ref (B + x0))]) hx hb dX8_guild_76 rfl hl (by decide) rfl (fun ls hl => ?_)
      exact w_X8_guild_77 C  FU h hR hS (lv_sub hl [1, 0] rfl)
    · have h := iq c h
      refine lv_aload_n hx hb dX8_guild_46 rfl (lv_at hl 0 rfl) ?_
      obtain ⟨v21, zqe22, h⟩ := ob h
      refine gf948 C hR zqe22 dX8_guild_47 ?_
      refine lv_iload_n hx hb dX8_guild_50 rfl (lv_at hl 1 rfl) ?_
      refine lv_iconst (v := 0) hx hb dX8_guild_51 (by decide) ?_
      obtain ⟨M23, zqe24, h⟩ := ob h
      refine re_I C hR hS zqe24 dX8_guild_52 (fun H locs hR hS => ?_)
      refine lv_iinc (v := (x2 + 1)) (lv' := [(2, .int (x2 + 1)), (0, .ref (B + x0))]) hx hb dX8_guild_53 hl (k := 1) rfl rfl (by decide) rfl (fun ls hl => ?_)
      refine lv_goto (tgt := 39) hx hb dX8_guild_56 (by decide) ?_
      exact ih h hR hS (lv_sub hl [1, 0] rfl)
theorem ck_X8_guild  {x0 : Nat} {x1 : Int32} {M : Mem} {r : Int32 × Mem} (h : f_X8_guild  x0 x1 M = some r) : kd M x0 = 18 := by
  unfold f_X8_guild at h
  exact ck h
set_option maxHeartbeats 4000000 in
set_option maxRecDepth 100000 in
theorem ok_X8_guild  {x0 : Nat} {x1 : Int32}  {M : Mem} {r : Int32 × Mem}  (h : f_X8_guild  x0 x1 M = some r) : Ok l yX8_guild cX8_guild 3 (some .int) 4 [.ref (B + x0), .int x1] D B ca st M (some (.int r.1)) r.2 := by
  have hk0 := ck_X8_guild h
  unfold f_X8_guild at h
  have h := ip hk0 h
  refine ok_of rfl rfl (Nat.le_of_ble_eq_true rfl) ?_
  intro p e s m args below meth c ls C hl hR hS
  have hl : lv_has ls 3 [(0, .ref (B + x0)), (1, .int x1)] := hl
  have hx := C.1
  have hb := C.2.1
  refine lv_iload_n hx hb dX8_guild_0 rfl (lv_at hl 1 rfl) ?_
  obtain ⟨v2, zqe1, h⟩ := ob h
  refine rc_S C hR hS cf_X8_isText cs_X8_isText lk1106 (ok_X8_isText zqe1) ⟨Nat.le_of_ble_eq_true rfl, Nat.le_of_ble_eq_true rfl⟩ ⟨Nat.zero_le _, Nat.zero_le _⟩ rfl rfl hl.1 (Nat.le_of_ble_eq_true rfl) dX8_guild_1 (rc_k1 (fun H locs hR hS => ?_))
  refine lv_if_ne (tgt := 9) hx hb dX8_guild_4 (by decide) (fun c => ?_) (fun c => ?_)
  · have h := iq c h
    refine lv_aload_n hx hb dX8_guild_9 rfl (lv_at hl 0 rfl) ?_
    obtain ⟨v3, zqe4, h⟩ := ob h
    refine gf958 C hR zqe4 dX8_guild_10 ?_
    refine lv_iload_n hx hb dX8_guild_13 rfl (lv_at hl 1 rfl) ?_
    obtain ⟨v5, zqe6, h⟩ := ob h
    refine ra_I C hR zqe6 dX8_guild_14 ?_
    refine lv_if_ge (tgt := 24) hx hb dX8_guild_15 (by decide) (fun c => ?_) (fun c => ?_)
    · have h := ip c h
      refine lv_aload_n hx hb dX8_guild_24 rfl (lv_at hl 0 rfl) ?_
      refine lv_iload_n hx hb dX8_guild_25 rfl (lv_at hl 1 rfl) ?_
      obtain ⟨qv8, zqe7, h⟩ := ob h
      refine rc_V C hR hS cf_X8_faultOf cv_X8_faultOf lk1118 (ok_X8_faultOf zqe7) (ck_X8_faultOf zqe7) ⟨Nat.le_of_ble_eq_true rfl, Nat.le_of_ble_eq_true rfl⟩ ⟨Nat.zero_le _, Nat.zero_le _⟩ rfl rfl hl.1 (Nat.le_of_ble_eq_true rfl) dX8_guild_26 (rc_k1 (fun H locs hR hS => ?_))
      refine lv_bipush (v := (-9)) hx hb dX8_guild_29 (by decide) ?_
      refine lv_icmp_eq (tgt := 37) hx hb dX8_guild_31 (by decide) (fun c => ?_) (fun c => ?_)
      · have h := ip c h
        refine lv_iconst (v := 0) hx hb dX8_guild_37 (by decide) ?_
        refine lv_istore_n (lv' := [(2, .int 0), (0, .ref (B + x0)), (1, .int x1)]) hx hb dX8_guild_38 rfl hl (by decide) rfl (fun ls hl => ?_)
        exact w_X8_guild_39 C  FU h hR hS (lv_sub hl [1, 0] rfl)
      · have h := iq c h
        refine lv_bipush (v := (-4)) hx hb dX8_guild_34 (by decide) ?_
        cases h
        exact rr_I C hR hS dX8_guild_36
    · have h := iq c h
      refine lv_aload_n hx hb dX8_guild_18 rfl (lv_at hl 0 rfl) ?_
      refine lv_iconst (v := 1) hx hb dX8_guild_19 (by decide) ?_
      obtain ⟨qv11, zqe10, h⟩ := ob h
      refine rc_V C hR hS cf_X8_find cv_X8_find lk1062 (ok_X8_find zqe10) (ck_X8_find zqe10) ⟨Nat.le_of_ble_eq_true rfl, Nat.le_of_ble_eq_true rfl⟩ ⟨Nat.zero_le _, Nat.zero_le _⟩ rfl rfl hl.1 (Nat.le_of_ble_eq_true rfl) dX8_guild_20 (rc_k1 (fun H locs hR hS => ?_))
      cases h
      exact rr_I C hR hS dX8_guild_23
  · have h := ip c h
    refine lv_iconst (v := (-1)) hx hb dX8_guild_7 (by decide) ?_
    cases h
    exact rr_I C hR hS dX8_guild_8
theorem ck_X8_areOrders  {x0 : Nat} {x1 : Int32} {M : Mem} {r : Int32} (h : f_X8_areOrders  x0 x1 M = some r) : kd M x0 = 18 := by
  unfold f_X8_areOrders at h
  exact ck h
set_option maxHeartbeats 4000000 in
set_option maxRecDepth 100000 in
theorem ok_X8_areOrders  {x0 : Nat} {x1 : Int32}  {M : Mem} {r : Int32}  (h : f_X8_areOrders  x0 x1 M = some r) : Ok l yX8_areOrders cX8_areOrders 2 (some .boolean) 1 [.ref (B + x0), .int x1] D B ca st M (some (.int r)) M := by
  have hk0 := ck_X8_areOrders h
  unfold f_X8_areOrders at h
  have h := ip hk0 h
  refine ok_of rfl rfl (Nat.le_of_ble_eq_true rfl) ?_
  intro p e s m args below meth c ls C hl hR hS
  have hl : lv_has ls 2 [(0, .ref (B + x0)), (1, .int x1)] := hl
  have hx := C.1
  have hb := C.2.1
  refine lv_iload_n hx hb dX8_areOrders_0 rfl (lv_at hl 1 rfl) ?_
  refine lv_i2l (v := (Int32.toInt64 x1)) hx hb dX8_areOrders_1 rfl ?_
  refine lv_lconst (v := 0) hx hb dX8_areOrders_2 (by decide) ?_
  refine lv_iconst (v := 1) hx hb dX8_areOrders_3 (by decide) ?_
  refine lv_aload_n hx hb dX8_areOrders_4 rfl (lv_at hl 0 rfl) ?_
  obtain ⟨v1, zqe2, h⟩ := ob h
  refine gf952 C hR zqe2 dX8_areOrders_5 ?_
  refine lv_ishl hx hb dX8_areOrders_8 ?_
  refine lv_iconst (v := 1) hx hb dX8_areOrders_9 (by decide) ?_
  refine lv_isub hx hb dX8_areOrders_10 ?_
  refine lv_i2l (v := (Int32.toInt64 ((1 <<< (v1 &&& 31)) - 1))) hx hb dX8_areOrders_11 rfl ?_
  refine rc_S C hR hS cf_X8_in cs_X8_in lk1059 (ok_X8_in (Int32.toInt64 x1) 0 (Int32.toInt64 ((1 <<< (v1 &&& 31)) - 1))) ⟨Nat.le_of_ble_eq_true rfl, Nat.le_of_ble_eq_true rfl⟩ ⟨Nat.zero_le _, Nat.zero_le _⟩ rfl rfl hl.1 (Nat.le_of_ble_eq_true rfl) dX8_areOrders_12 (rc_k1 (fun H locs hR hS => ?_))
  obtain ⟨zqb4, zqe5, h⟩ := ob h
  cases h
  exact rr_Z C hR hS (bz_self zqe5) dX8_areOrders_15
set_option maxHeartbeats 4000000 in
set_option maxRecDepth 100000 in
theorem w_X8_wayOf_49  {k9 : Nat → Int32 → Int32 → Int32 → Int32 → Int32 → Mem → Option Int32}  {r : Int32} {x0 : Nat} {x1 : Int32} {x2 : Int32} {x4 : Int32} {x5 : Int32} {s0 : Int32} {M : Mem} (C : Cx p s m args meth c RX8 cX8_wayOf 7 (some .int) D B ca st)  (hk9 : ∀ {x0 : Nat} {x1 : Int32} {x2 : Int32} {x3 : Int32} {x4 : Int32} {x5 : Int32} {M : Mem}, k9 x0 x1 x2 x3 x4 x5 M = some r → ∀ {H : Heap} {locs : List Loc} {ls : Array Slot}, RH D B ca M H → va_S (AA B) s.heap H locs → lv_has ls 7 [(0, .ref (B + x0)), (1, .int x1), (2, .int x2), (3, .int x3), (4, .int x4), (5, .int x5)] → W p l e (rmD 1) s m args below meth c H locs 0 0 (MQ below (Qp D B ca st (some (.int r)) M) args s 0 0 (AA B)) (F0 m 9 ls [])) (h : f_X8_wayOf_49 k9 x0 x1 x2 x4 x5 s0 M = some r) : ∀ {H : Heap} {locs : List Loc} {ls : Array Slot}, RH D B ca M H → va_S (AA B) s.heap H locs → lv_has ls 7 [(0, .ref (B + x0)), (1, .int x1), (2, .int x2), (4, .int x4), (5, .int x5)] → W p l e (rmD 1) s m args below meth c H locs 0 0 (MQ below (Qp D B ca st (some (.int r)) M) args s 0 0 (AA B)) (F0 m 49 ls [.int s0]) := by
  have hx := C.1
  have hb := C.2.1
  unfold f_X8_wayOf_49 at h
  intro H locs ls hR hS hl
  refine lv_istore_n (lv' := [(3, .int s0), (0, .ref (B + x0)), (1, .int x1), (2, .int x2), (4, .int x4), (5, .int x5)]) hx hb dX8_wayOf_49 rfl hl (by decide) rfl (fun ls hl => ?_)
  refine lv_iload_n hx hb dX8_wayOf_50 rfl (lv_at hl 3 rfl) ?_
  refine lv_iload hx hb dX8_wayOf_51 (lv_at hl 5 rfl) ?_
  refine rc_S C hR hS cf_X8_has cs_X8_has lk1166 (ok_X8_has x2 x5) ⟨Nat.le_of_ble_eq_true rfl, Nat.le_of_ble_eq_true rfl⟩ ⟨Nat.zero_le _, Nat.zero_le _⟩ rfl rfl hl.1 (Nat.le_of_ble_eq_true rfl) dX8_wayOf_53 (rc_k1 (fun H locs hR hS => ?_))
  refine lv_if_eq (tgt := 81) hx hb dX8_wayOf_56 (by decide) (fun c => ?_) (fun c => ?_)
  · have h := ip c h
    refine lv_iload hx hb dX8_wayOf_81 (lv_at hl 4 rfl) ?_
    refine lv_istore (lv' := [(4, .int x4), (3, .int s0), (0, .ref (B + x0)), (1, .int x1), (2, .int x2), (5, .int x5)]) hx hb dX8_wayOf_83 hl (by decide) rfl (fun ls hl => ?_)
    refine lv_iinc (v := (x5 + 1)) (lv' := [(5, .int (x5 + 1)), (4, .int x4), (3, .int s0), (0, .ref (B + x0)), (1, .int x1), (2, .int x2)]) hx hb dX8_wayOf_85 hl (k := 5) rfl rfl (by decide) rfl (fun ls hl => ?_)
    refine lv_goto (tgt := 9) hx hb dX8_wayOf_88 (by decide) ?_
    exact hk9 h hR hS (lv_sub hl [3, 4, 5, 2, 1, 0] rfl)
  · have h := iq c h
    refine lv_aload_n hx hb dX8_wayOf_59 rfl (lv_at hl 1 rfl) ?_
    obtain ⟨v23, zqe24, h⟩ := ob h
    refine gf953 C hR zqe24 dX8_wayOf_60 ?_
    refine lv_iload hx hb dX8_wayOf_63 (lv_at hl 5 rfl) ?_
    obtain ⟨v25, zqe26, h⟩ := ob h
    refine ra_I C hR zqe26 dX8_wayOf_65 ?_
    refine lv_iload hx hb dX8_wayOf_66 (lv_at hl 4 rfl) ?_
    refine lv_icmp_le (tgt := 81) hx hb dX8_wayOf_68 (by decide) (fun c => ?_) (fun c => ?_)
    · have h := ip c h
      refine lv_iload hx hb dX8_wayOf_81 (lv_at hl 4 rfl) ?_
      refine lv_istore (lv' := [(4, .int x4), (3, .int s0), (0, .ref (B + x0)), (1, .int x1), (2, .int x2), (5, .int x5)]) hx hb dX8_wayOf_83 hl (by decide) rfl (fun ls hl => ?_)
      refine lv_iinc (v := (x5 + 1)) (lv' := [(5, .int (x5 + 1)), (4, .int x4), (3, .int s0), (0, .ref (B + x0)), (1, .int x1), (2, .int x2)]) hx hb dX8_wayOf_85 hl (k := 5) rfl rfl (by decide) rfl (fun ls hl => ?_)
      refine lv_goto (tgt := 9) hx hb dX8_wayOf_88 (by decide) ?_
      exact hk9 h hR hS (lv_sub hl [3, 4, 5, 2, 1, 0] rfl)
    · have h := iq c h
      refine lv_aload_n hx hb dX8_wayOf_71 rfl (lv_at hl 1 rfl) ?_
      obtain ⟨v27, zqe28, h⟩ := ob h
      refine gf953 C hR zqe28 dX8_wayOf_72 ?_
      refine lv_iload hx hb dX8_wayOf_75 (lv_at hl 5 rfl) ?_
      obtain ⟨v29, zqe30, h⟩ := ob h
      refine ra_I C hR zqe30 dX8_wayOf_77 ?_
      refine lv_goto (tgt := 83) hx hb dX8_wayOf_78 (by decide) ?_
      refine lv_istore (lv' := [(4, .int v29), (3, .int s0), (0, .ref (B + x0)), (1, .int x1), (2, .int x2), (5, .int x5)]) hx hb dX8_wayOf_83 hl (by decide) rfl (fun ls hl => ?_)
      refine lv_iinc (v := (x5 + 1)) (lv' := [(5, .int (x5 + 1)), (4, .int v29), (3, .int s0), (0, .ref (B + x0)), (1, .int x1), (2, .int x2)]) hx hb dX8_wayOf_85 hl (k := 5) rfl rfl (by decide) rfl (fun ls hl => ?_)
      refine lv_goto (tgt := 9) hx hb dX8_wayOf_88 (by decide) ?_
      exact hk9 h hR hS (lv_sub hl [3, 4, 5, 2, 1, 0] rfl)
set_option maxHeartbeats 4000000 in
set_option maxRecDepth 100000 in
theorem w_X8_wayOf_48  {k9 : Nat → Int32 → Int32 → Int32 → Int32 → Int32 → Mem → Option Int32}  {r : Int32} {x0 : Nat} {x1 : Int32} {x2 : Int32} {x3 : Int32} {x4 : Int32} {x5 : Int32} {M : Mem} (C : Cx p s m args meth c RX8 cX8_wayOf 7 (some .int) D B ca st)  (hk9 : ∀ {x0 : Nat} {x1 : Int32} {x2 : Int32} {x3 : Int32} {x4 : Int32} {x5 : Int32} {M : Mem}, k9 x0 x1 x2 x3 x4 x5 M = some r → ∀ {H : Heap} {locs : List Loc} {ls : Array Slot}, RH D B ca M H → va_S (AA B) s.heap H locs → lv_has ls 7 [(0, .ref (B + x0)), (1, .int x1), (2, .int x2), (3, .int x3), (4, .int x4), (5, .int x5)] → W p l e (rmD 1) s m args below meth c H locs 0 0 (MQ below (Qp D B ca st (some (.int r)) M) args s 0 0 (AA B)) (F0 m 9 ls [])) (h : f_X8_wayOf_48 k9 x0 x1 x2 x3 x4 x5 M = some r) : ∀ {H : Heap} {locs : List Loc} {ls : Array Slot}, RH D B ca M H → va_S (AA B) s.heap H locs → lv_has ls 7 [(0, .ref (B + x0)), (1, .int x1), (2, .int x2), (3, .int x3), (4, .int x4), (5, .int x5)] → W p l e (rmD 1) s m args below meth c H locs 0 0 (MQ below (Qp D B ca st (some (.int r)) M) args s 0 0 (AA B)) (F0 m 48 ls []) := by
  have hx := C.1
  have hb := C.2.1
  unfold f_X8_wayOf_48 at h
  intro H locs ls hR hS hl
  refine lv_iload_n hx hb dX8_wayOf_48 rfl (lv_at hl 3 rfl) ?_
  exact w_X8_wayOf_49 C (hk9 := @hk9) h hR hS (lv_sub hl [0, 1, 2, 4, 5] rfl)
set_option maxHeartbeats 4000000 in
set_option maxRecDepth 100000 in
theorem w_X8_wayOf_9    {r : Int32} (C : Cx p s m args meth c RX8 cX8_wayOf 7 (some .int) D B ca st)   : ∀ (n : Nat) {x0 : Nat} {x1 : Int32} {x2 : Int32} {x3 : Int32} {x4 : Int32} {x5 : Int32} {M : Mem}, f_X8_wayOf_9  n x0 x1 x2 x3 x4 x5 M = some r → ∀ {H : Heap} {locs : List Loc} {ls : Array Slot}, RH D B ca M H → va_S (AA B) s.heap H locs → lv_has ls 7 [(0, .ref (B + x0)), (1, .int x1), (2, .int x2), (3, .int x3), (4, .int x4), (5, .int x5)] → W p l e (rmD 1) s m args below meth c H locs 0 0 (MQ below (Qp D B ca st (some (.int r)) M) args s 0 0 (AA B)) (F0 m 9 ls []) := by
  have hx := C.1
  have hb := C.2.1
  intro n
  induction n with
  | zero => intro x0 x1 x2 x3 x4 x5 M h; simp [f_X8_wayOf_9] at h
  | succ n ih =>
    intro x0 x1 x2 x3 x4 x5 M h H locs ls hR hS hl
    rw [f_X8_wayOf_9] at h
    refine lv_iload hx hb dX8_wayOf_9 (lv_at hl 5 rfl) ?_
    refine lv_aload_n hx hb dX8_wayOf_11 rfl (lv_at hl 0 rfl) ?_
    obtain ⟨v1, zqe2, h⟩ := ob h
    refine gf952 C hR zqe2 dX8_wayOf_12 ?_
    refine lv_icmp_ge (tgt := 91) hx hb dX8_wayOf_15 (by decide) (fun c => ?_) (fun c => ?_)
    · have h := ip c h
      refine lv_aload_n hx hb dX8_wayOf_91 rfl (lv_at hl 0 rfl) ?_
      obtain ⟨v3, zqe4, h⟩ := ob h
      refine gf948 C hR zqe4 dX8_wayOf_92 ?_
      refine lv_bipush (v := 8) hx hb dX8_wayOf_95 (by decide) ?_
      refine lv_iload_n hx hb dX8_wayOf_97 rfl (lv_at hl 1 rfl) ?_
      refine lv_iadd hx hb dX8_wayOf_98 ?_
      obtain ⟨v5, zqe6, h⟩ := ob h
      refine ra_I C hR zqe6 dX8_wayOf_99 ?_
      refine lv_iload_n hx hb dX8_wayOf_100 rfl (lv_at hl 3 rfl) ?_
      refine rc_S C hR hS cf_X8_apart cs_X8_apart lk1221 (ok_X8_apart v5 x3) ⟨Nat.le_of_ble_eq_true rfl, Nat.le_of_ble_eq_true rfl⟩ ⟨Nat.zero_le _, Nat.zero_le _⟩ rfl rfl hl.1 (Nat.le_of_ble_eq_true rfl) dX8_wayOf_101 (rc_k1 (fun H locs hR hS => ?_))
      refine lv_istore (lv' := [(5, .int (f_X8_apart v5 x3)), (0, .ref (B + x0)), (1, .int x1), (2, .int x2), (3, .int x3), (4, .int x4)]) hx hb dX8_wayOf_104 hl (by decide) rfl (fun ls hl => ?_)
      refine lv_aload_n hx hb dX8_wayOf_106 rfl (lv_at hl 1 rfl) ?_
      obtain ⟨v8, zqe9, h⟩ := ob h
      refine gf948 C hR zqe9 dX8_wayOf_107 ?_
      refine lv_bipush (v := 8) hx hb dX8_wayOf_110 (by decide) ?_
      refine lv_iload_n hx hb dX8_wayOf_112 rfl (lv_at hl 2 rfl) ?_
      refine lv_iadd hx hb dX8_wayOf_113 ?_
      obtain ⟨v10, zqe11, h⟩ := ob h
      refine ra_I C hR zqe11 dX8_wayOf_114 ?_
      refine lv_iload hx hb dX8_wayOf_115 (lv_at hl 5 rfl) ?_
      refine rc_S C hR hS cf_X8_apart cs_X8_apart lk1221 (ok_X8_apart v10 x4) ⟨Nat.le_of_ble_eq_true rfl, Nat.le_of_ble_eq_true rfl⟩ ⟨Nat.zero_le _, Nat.zero_le _⟩ rfl rfl hl.1 (Nat.le_of_ble_eq_true rfl) dX8_wayOf_117 (rc_k1 (fun H locs hR hS => ?_))
      refine lv_istore (lv' := [(6, .int (f_X8_apart v10 x4)), (5, .int (f_X8_apart v5 x3)), (0, .ref (B + x0)), (1, .int x1), (2, .int x2), (3, .int x3), (4, .int x4)]) hx hb dX8_wayOf_120 hl (by decide) rfl (fun ls hl => ?_)
      refine lv_iload_n hx hb dX8_wayOf_122 rfl (lv_at hl 4 rfl) ?_
      refine lv_if_ne (tgt := 130) hx hb dX8_wayOf_123 (by decide) (fun c => ?_) (fun c => ?_)
      · have h := iq c h
        refine lv_iload hx hb dX8_wayOf_130 (lv_at hl 6 rfl) ?_
        refine lv_iload_n hx hb dX8_wayOf_132 rfl (lv_at hl 5 rfl) ?_
        refine lv_isub hx hb dX8_wayOf_133 ?_
        refine lv_iload hx hb dX8_wayOf_134 (lv_at hl 1 rfl) ?_
        refine lv_iload hx hb dX8_wayOf_136 (lv_at hl 0 rfl) ?_
        refine lv_icmp_ge (tgt := 146) hx hb dX8_wayOf_138 (by decide) (fun c => ?_) (fun c => ?_)
        · have h := ip c h
          refine lv_iload hx hb dX8_wayOf_146 (lv_at hl 0 rfl) ?_
          refine lv_iadd hx hb dX8_wayOf_148 ?_
          cases h
          exact rr_I C hR hS dX8_wayOf_149
        · have h := iq c h
          refine lv_iload hx hb dX8_wayOf_141 (lv_at hl 1 rfl) ?_
          refine lv_goto (tgt := 148) hx hb dX8_wayOf_143 (by decide) ?_
          refine lv_iadd hx hb dX8_wayOf_148 ?_
          cases h
          exact rr_I C hR hS dX8_wayOf_149
      · have h := ip c h
        refine lv_iconst (v := 0) hx hb dX8_wayOf_126 (by decide) ?_
        refine lv_goto (tgt := 149) hx hb dX8_wayOf_127 (by decide) ?_
        cases h
        exact rr_I C hR hS dX8_wayOf_149
    · have h := iq c h
      refine lv_iload_n hx hb dX8_wayOf_18 rfl (lv_at hl 2 rfl) ?_
      refine lv_iload hx hb dX8_wayOf_19 (lv_at hl 5 rfl) ?_
      refine rc_S C hR hS cf_X8_has cs_X8_has lk1166 (ok_X8_has x2 x5) ⟨Nat.le_of_ble_eq_true rfl, Nat.le_of_ble_eq_true rfl⟩ ⟨Nat.zero_le _, Nat.zero_le _⟩ rfl rfl hl.1 (Nat.le_of_ble_eq_true rfl) dX8_wayOf_21 (rc_k1 (fun H locs hR hS => ?_))
      refine lv_if_eq (tgt := 48) hx hb dX8_wayOf_24 (by decide) (fun c => ?_) (fun c => ?_)
      · have h := ip c h
        exact w_X8_wayOf_48 C (hk9 := @ih) h hR hS (lv_sub hl [0, 1, 2, 3, 4, 5] rfl)
      · have h := iq c h
        refine lv_aload_n hx hb dX8_wayOf_27 rfl (lv_at hl 0 rfl) ?_
        obtain ⟨v14, zqe15, h⟩ := ob h
        refine gf953 C hR zqe15 dX8_wayOf_28 ?_
        refine lv_iload hx hb dX8_wayOf_31 (lv_at hl 5 rfl) ?_
        obtain ⟨v16, zqe17, h⟩ := ob h
        refine ra_I C hR zqe17 dX8_wayOf_33 ?_
        refine lv_iload_n hx hb dX8_wayOf_34 rfl (lv_at hl 3 rfl) ?_
        refine lv_icmp_ge (tgt := 48) hx hb dX8_wayOf_35 (by decide) (fun c => ?_) (fun c => ?_)
        · have h := ip c h
          exact w_X8_wayOf_48 C (hk9 := @ih) h hR hS (lv_sub hl [0, 1, 2, 3, 4, 5] rfl)
        · have h := iq c h
          refine lv_aload_n hx hb dX8_wayOf_38 rfl (lv_at hl 0 rfl) ?_
          obtain ⟨v18, zqe19, h⟩ := ob h
          refine gf953 C hR zqe19 dX8_wayOf_39 ?_
          refine lv_iload hx hb dX8_wayOf_42 (lv_at hl 5 rfl) ?_
          obtain ⟨v20, zqe21, h⟩ := ob h
          refine ra_I C hR zqe21 dX8_wayOf_44 ?_
          refine lv_goto (tgt := 49) hx hb dX8_wayOf_45 (by decide) ?_
          exact w_X8_wayOf_49 C (hk9 := @ih) h hR hS (lv_sub hl [0, 1, 2, 4, 5] rfl)
theorem ck_X8_wayOf  {x0 : Nat} {x1 : Int32} {x2 : Int32} {M : Mem} {r : Int32} (h : f_X8_wayOf  x0 x1 x2 M = some r) : kd M x0 = 18 := by
  unfold f_X8_wayOf at h
  exact ck h
set_option maxHeartbeats 4000000 in
set_option maxRecDepth 100000 in
theorem ok_X8_wayOf  {x0 : Nat} {x1 : Int32} {x2 : Int32}  {M : Mem} {r : Int32}  (h : f_X8_wayOf  x0 x1 x2 M = some r) : Ok l yX8_wayOf cX8_wayOf 7 (some .int) 1 [.ref (B + x0), .int x1, .int x2] D B ca st M (some (.int r)) M := by
  have hk0 := ck_X8_wayOf h
  unfold f_X8_wayOf at h
  have h := ip hk0 h
  refine ok_of rfl rfl (Nat.le_of_ble_eq_true rfl) ?_
  intro p e s m args below meth c ls C hl hR hS
  have hl : lv_has ls 7 [(0, .ref (B + x0)), (1, .int x1), (2, .int x2)] := hl
  have hx := C.1
  have hb := C.2.1
  refine lv_bipush (v := 99) hx hb dX8_wayOf_0 (by decide) ?_
  refine lv_istore_n (lv' := [(3, .int 99), (0, .ref (B + x0)), (1, .int x1), (2, .int x2)]) hx hb dX8_wayOf_2 rfl hl (by decide) rfl (fun ls hl => ?_)
  refine lv_iconst (v := (-1)) hx hb dX8_wayOf_3 (by decide) ?_
  refine lv_istore (lv' := [(4, .int (-1)), (3, .int 99), (0, .ref (B + x0)), (1, .int x1), (2, .int x2)]) hx hb dX8_wayOf_4 hl (by decide) rfl (fun ls hl => ?_)
  refine lv_iconst (v := 0) hx hb dX8_wayOf_6 (by decide) ?_
  refine lv_istore (lv' := [(5, .int 0), (4, .int (-1)), (3, .int 99), (0, .ref (B + x0)), (1, .int x1), (2, .int x2)]) hx hb dX8_wayOf_7 hl (by decide) rfl (fun ls hl => ?_)
  exact w_X8_wayOf_9 C  FU h hR hS (lv_sub hl [3, 4, 5, 2, 1, 0] rfl)
set_option maxHeartbeats 4000000 in
set_option maxRecDepth 100000 in
theorem w_X8_hours_35    {r : Int32} (C : Cx p s m args meth c RX8 cX8_hours 6 (some .int) D B ca st)   : ∀ (n : Nat) {x0 : Nat} {x1 : Int32} {x3 : Int32} {x4 : Int32} {x5 : Int32} {M : Mem}, f_X8_hours_35  n x0 x1 x3 x4 x5 M = some r → ∀ {H : Heap} {locs : List Loc} {ls : Array Slot}, RH D B ca M H → va_S (AA B) s.heap H locs → lv_has ls 6 [(0, .ref (B + x0)), (1, .int x1), (3, .int x3), (4, .int x4), (5, .int x5)] → W p l e (rmD 3) s m args below meth c H locs 0 0 (MQ below (Qp D B ca st (some (.int r)) M) args s 0 0 (AA B)) (F0 m 35 ls []) := by
  have hx := C.1
  have hb := C.2.1
  intro n
  induction n with
  | zero => intro x0 x1 x3 x4 x5 M h; simp [f_X8_hours_35] at h
  | succ n ih =>
    intro x0 x1 x3 x4 x5 M h H locs ls hR hS hl
    rw [f_X8_hours_35] at h
    refine lv_iload hx hb dX8_hours_35 (lv_at hl 4 rfl) ?_
    refine lv_aload_n hx hb dX8_hours_37 rfl (lv_at hl 0 rfl) ?_
    obtain ⟨v9, zqe10, h⟩ := ob h
    refine gf952 C hR zqe10 dX8_hours_38 ?_
    refine lv_icmp_ge (tgt := 106) hx hb dX8_hours_41 (by decide) (fun c => ?_) (fun c => ?_)
    · have h := ip c h
      refine lv_aload_n hx hb dX8_hours_106 rfl (lv_at hl 0 rfl) ?_
      refine lv_iload_n hx hb dX8_hours_107 rfl (lv_at hl 1 rfl) ?_
      refine lv_iload_n hx hb dX8_hours_108 rfl (lv_at hl 2 rfl) ?_
      obtain ⟨v12, zqe11, h⟩ := ob h
      refine rc_V C hR hS cf_X8_wayOf cv_X8_wayOf lk1312 (ok_X8_wayOf zqe11) (ck_X8_wayOf zqe11) ⟨Nat.le_of_ble_eq_true rfl, Nat.le_of_ble_eq_true rfl⟩ ⟨Nat.zero_le _, Nat.zero_le _⟩ rfl rfl hl.1 (Nat.le_of_ble_eq_true rfl) dX8_hours_109 (rc_k1 (fun H locs hR hS => ?_))
      refine lv_iload_n hx hb dX8_hours_112 rfl (lv_at hl 2 rfl) ?_
      obtain ⟨v14, zqe13, h⟩ := ob h
      refine rc_S C hR hS cf_X8_bits cs_X8_bits lk1285 (ok_X8_bits zqe13) ⟨Nat.le_of_ble_eq_true rfl, Nat.le_of_ble_eq_true rfl⟩ ⟨Nat.zero_le _, Nat.zero_le _⟩ rfl rfl hl.1 (Nat.le_of_ble_eq_true rfl) dX8_hours_113 (rc_k1 (fun H locs hR hS => ?_))
      refine lv_iadd hx hb dX8_hours_116 ?_
      cases h
      exact rr_I C hR hS dX8_hours_117
    · have h := iq c h
      refine lv_iload_n hx hb dX8_hours_44 rfl (lv_at hl 2 rfl) ?_
      refine lv_iload hx hb dX8_hours_45 (lv_at hl 4 rfl) ?_
      refine rc_S C hR hS cf_X8_has cs_X8_has lk1166 (ok_X8_has x3 x5) ⟨Nat.le_of_ble_eq_true rfl, Nat.le_of_ble_eq_true rfl⟩ ⟨Nat.zero_le _, Nat.zero_le _⟩ rfl rfl hl.1 (Nat.le_of_ble_eq_true rfl) dX8_hours_47 (rc_k1 (fun H locs hR hS => ?_))
      refine lv_if_eq (tgt := 100) hx hb dX8_hours_50 (by decide) (fun c => ?_) (fun c => ?_)
      · have h := ip c h
        refine lv_iinc (v := (x5 + 1)) (lv' := [(5, .int (x5 + 1)), (0, .ref (B + x0)), (1, .int x1), (3, .int x3), (4, .int x4)]) hx hb dX8_hours_100 hl (k := 4) rfl rfl (by decide) rfl (fun ls hl => ?_)
        refine lv_goto (tgt := 35) hx hb dX8_hours_103 (by decide) ?_
        exact ih h hR hS (lv_sub hl [1, 2, 3, 4, 0] rfl)
      · have h := iq c h
        refine lv_iload hx hb dX8_hours_53 (lv_at hl 3 rfl) ?_
        refine lv_aload_n hx hb dX8_hours_55 rfl (lv_at hl 0 rfl) ?_
        refine lv_iload_n hx hb dX8_hours_56 rfl (lv_at hl 1 rfl) ?_
        refine lv_iload hx hb dX8_hours_57 (lv_at hl 4 rfl) ?_
        obtain ⟨v17, zqe16, h⟩ := ob h
        refine rc_V C hR hS cf_X8_taken cv_X8_taken lk1172 (ok_X8_taken zqe16) (ck_X8_taken zqe16) ⟨Nat.le_of_ble_eq_true rfl, Nat.le_of_ble_eq_true rfl⟩ ⟨Nat.zero_le _, Nat.zero_le _⟩ rfl rfl hl.1 (Nat.le_of_ble_eq_true rfl) dX8_hours_59 (rc_k1 (fun H locs hR hS => ?_))
        refine lv_iadd hx hb dX8_hours_62 ?_
        refine lv_istore (lv' := [(4, .int (x4 + v17)), (0, .ref (B + x0)), (1, .int x1), (3, .int x3), (5, .int x5)]) hx hb dX8_hours_63 hl (by decide) rfl (fun ls hl => ?_)
        refine lv_aload_n hx hb dX8_hours_65 rfl (lv_at hl 1 rfl) ?_
        obtain ⟨v18, zqe19, h⟩ := ob h
        refine gf950 C hR zqe19 dX8_hours_66 ?_
        refine lv_iload_n hx hb dX8_hours_69 rfl (lv_at hl 2 rfl) ?_
        obtain ⟨v20, zqe21, h⟩ := ob h
        refine ra_I C hR zqe21 dX8_hours_70 ?_
        refine lv_aload_n hx hb dX8_hours_71 rfl (lv_at hl 1 rfl) ?_
        obtain ⟨v22, zqe23, h⟩ := ob h
        refine gf954 C hR zqe23 dX8_hours_72 ?_
        refine lv_iload hx hb dX8_hours_75 (lv_at hl 4 rfl) ?_
        obtain ⟨v24, zqe25, h⟩ := ob h
        refine ra_I C hR zqe25 dX8_hours_77 ?_
        refine rc_S C hR hS cf_X8_isTooDeep cs_X8_isTooDeep lk1169 (ok_X8_isTooDeep v20 v24) ⟨Nat.le_of_ble_eq_true rfl, Nat.le_of_ble_eq_true rfl⟩ ⟨Nat.zero_le _, Nat.zero_le _⟩ rfl rfl hl.1 (Nat.le_of_ble_eq_true rfl) dX8_hours_78 (rc_k1 (fun H locs hR hS => ?_))
        refine lv_if_ne (tgt := 97) hx hb dX8_hours_81 (by decide) (fun c => ?_) (fun c => ?_)
        · have h := iq c h
          refine lv_bipush (v := (-9)) hx hb dX8_hours_97 (by decide) ?_
          cases h
          exact rr_I C hR hS dX8_hours_99
        · have h := ip c h
          refine lv_iload hx hb dX8_hours_84 (lv_at hl 0 rfl) ?_
          refine lv_aload_n hx hb dX8_hours_86 rfl (lv_at hl 1 rfl) ?_
          obtain ⟨v27, zqe28, h⟩ := ob h
          refine gf948 C hR zqe28 dX8_hours_87 ?_
          refine lv_iconst (v := 3) hx hb dX8_hours_90 (by decide) ?_
          refine lv_iload_n hx hb dX8_hours_91 rfl (lv_at hl 2 rfl) ?_
          refine lv_iadd hx hb dX8_hours_92 ?_
          obtain ⟨v29, zqe30, h⟩ := ob h
          refine ra_I C hR zqe30 dX8_hours_93 ?_
          refine lv_icmp_le (tgt := 100) hx hb dX8_hours_94 (by decide) (fun c => ?_) (fun c => ?_)
          · have h := ip c h
            refine lv_iinc (v := (x5 + 1)) (lv' := [(5, .int (x5 + 1)), (4, .int (x4 + v17)), (0, .ref (B + x0)), (1, .int x1), (3, .int x3)]) hx hb dX8_hours_100 hl (k := 4) rfl rfl (by decide) rfl (fun ls hl => ?_)
            refine lv_goto (tgt := 35) hx hb dX8_hours_103 (by decide) ?_
            exact ih h hR hS (lv_sub hl [2, 3, 4, 1, 0] rfl)
          · have h := iq c h
            refine lv_bipush (v := (-9)) hx hb dX8_hours_97 (by decide) ?_
            cases h
            exact rr_I C hR hS dX8_hours_99
theorem ck_X8_hours  {x0 : Nat} {x1 : Int32} {x2 : Int32} {M : Mem} {r : Int32} (h : f_X8_hours  x0 x1 x2 M = some r) : kd M x0 = 18 := by
  unfold f_X8_hours at h
  exact ck h
set_option maxHeartbeats 4000000 in
set_option maxRecDepth 100000 in
theorem ok_X8_hours  {x0 : Nat} {x1 : Int32} {x2 : Int32}  {M : Mem} {r : Int32}  (h : f_X8_hours  x0 x1 x2 M = some r) : Ok l yX8_hours cX8_hours 6 (some .int) 3 [.ref (B + x0), .int x1, .int x2] D B ca st M (some (.int r)) M := by
  have hk0 := ck_X8_hours h
  unfold f_X8_hours at h
  have h := ip hk0 h
  refine ok_of rfl rfl (Nat.le_of_ble_eq_true rfl) ?_
  intro p e s m args below meth c ls C hl hR hS
  have hl : lv_has ls 6 [(0, .ref (B + x0)), (1, .int x1), (2, .int x2)] := hl
  have hx := C.1
  have hb := C.2.1
  refine lv_aload_n hx hb dX8_hours_0 rfl (lv_at hl 0 rfl) ?_
  refine lv_iload_n hx hb dX8_hours_1 rfl (lv_at hl 1 rfl) ?_
  obtain ⟨v2, zqe1, h⟩ := ob h
  refine rc_V C hR hS cf_X8_isSigher cv_X8_isSigher lk1153 (ok_X8_isSigher zqe1) (ck_X8_isSigher zqe1) ⟨Nat.le_of_ble_eq_true rfl, Nat.le_of_ble_eq_true rfl⟩ ⟨Nat.zero_le _, Nat.zero_le _⟩ rfl rfl hl.1 (Nat.le_of_ble_eq_true rfl) dX8_hours_2 (rc_k1 (fun H locs hR hS => ?_))
  refine lv_if_eq (tgt := 16) hx hb dX8_hours_5 (by decide) (fun c => ?_) (fun c => ?_)
  · have h := ip c h
    refine lv_iconst (v := (-1)) hx hb dX8_hours_16 (by decide) ?_
    cases h
    exact rr_I C hR hS dX8_hours_17
  · have h := iq c h
    refine lv_aload_n hx hb dX8_hours_8 rfl (lv_at hl 0 rfl) ?_
    refine lv_iload_n hx hb dX8_hours_9 rfl (lv_at hl 2 rfl) ?_
    obtain ⟨v4, zqe3, h⟩ := ob h
    refine rc_V C hR hS cf_X8_areOrders cv_X8_areOrders lk1308 (ok_X8_areOrders zqe3) (ck_X8_areOrders zqe3) ⟨Nat.le_of_ble_eq_true rfl, Nat.le_of_ble_eq_true rfl⟩ ⟨Nat.zero_le _, Nat.zero_le _⟩ rfl rfl hl.1 (Nat.le_of_ble_eq_true rfl) dX8_hours_10 (rc_k1 (fun H locs hR hS => ?_))
    refine lv_if_ne (tgt := 18) hx hb dX8_hours_13 (by decide) (fun c => ?_) (fun c => ?_)
    · have h := iq c h
      refine lv_iload_n hx hb dX8_hours_18 rfl (lv_at hl 2 rfl) ?_
      refine lv_aload_n hx hb dX8_hours_19 rfl (lv_at hl 0 rfl) ?_
      obtain ⟨v5, zqe6, h⟩ := ob h
      refine gf948 C hR zqe6 dX8_hours_20 ?_
      refine lv_iconst (v := 2) hx hb dX8_hours_23 (by decide) ?_
      obtain ⟨v7, zqe8, h⟩ := ob h
      refine ra_I C hR zqe8 dX8_hours_24 ?_
      refine lv_iconst (v := (-1)) hx hb dX8_hours_25 (by decide) ?_
      refine lv_ixor hx hb dX8_hours_26 ?_
      refine lv_iand hx hb dX8_hours_27 ?_
      refine lv_istore_n (lv' := [(3, .int (x2 &&& (v7 ^^^ (-1)))), (0, .ref (B + x0)), (1, .int x1), (2, .int x2)]) hx hb dX8_hours_28 rfl hl (by decide) rfl (fun ls hl => ?_)
      refine lv_iconst (v := 0) hx hb dX8_hours_29 (by decide) ?_
      refine lv_istore (lv' := [(4, .int 0), (3, .int (x2 &&& (v7 ^^^ (-1)))), (0, .ref (B + x0)), (1, .int x1), (2, .int x2)]) hx hb dX8_hours_30 hl (by decide) rfl (fun ls hl => ?_)
      refine lv_iconst (v := 0) hx hb dX8_hours_32 (by decide) ?_
      refine lv_istore (lv' := [(5, .int 0), (4, .int 0), (3, .int (x2 &&& (v7 ^^^ (-1)))), (0, .ref (B + x0)), (1, .int x1), (2, .int x2)]) hx hb dX8_hours_33 hl (by decide) rfl (fun ls hl => ?_)
      exact w_X8_hours_35 C  FU h hR hS (lv_sub hl [3, 4, 2, 1, 0] rfl)
    · have h := ip c h
      refine lv_iconst (v := (-1)) hx hb dX8_hours_16 (by decide) ?_
      cases h
      exact rr_I C hR hS dX8_hours_17
set_option maxHeartbeats 4000000 in
set_option maxRecDepth 100000 in
theorem w_X8_copyGuild_2    {r : Mem} (C : Cx p s m args meth c RX8 cX8_copyGuild 4 none D B ca st)   : ∀ (n : Nat) {x0 : Nat} {x1 : Int32} {x2 : Int32} {x3 : Int32} {M : Mem}, f_X8_copyGuild_2  n x0 x1 x2 x3 M = some r → ∀ {H : Heap} {locs : List Loc} {ls : Array Slot}, RH D B ca M H → va_S (AA B) s.heap H locs → lv_has ls 4 [(0, .ref (B + x0)), (1, .int x1), (2, .int x2), (3, .int x3)] → W p l e (rmD 0) s m args below meth c H locs 0 0 (MQ below (Qp D B ca st none r) args s 0 0 (AA B)) (F0 m 2 ls []) := by
  have hx := C.1
  have hb := C.2.1
  intro n
  induction n with
  | zero => intro x0 x1 x2 x3 M h; simp [f_X8_copyGuild_2] at h
  | succ n ih =>
    intro x0 x1 x2 x3 M h H locs ls hR hS hl
    rw [f_X8_copyGuild_2] at h
    refine lv_iload_n hx hb dX8_copyGuild_2 rfl (lv_at hl 3 rfl) ?_
    refine lv_sipush (v := 493) hx hb dX8_copyGuild_3 (by decide) ?_
    refine lv_icmp_ge (tgt := 31) hx hb dX8_copyGuild_6 (by decide) (fun c => ?_) (fun c => ?_)
    · have h := ip c h
      cases h
      exact rr_V C hR hS dX8_copyGuild_31
    · have h := iq c h
      refine lv_aload_n hx hb dX8_copyGuild_9 rfl (lv_at hl 0 rfl) ?_
      obtain ⟨v1, zqe2, h⟩ := ob h
      refine gf948 C hR zqe2 dX8_copyGuild_10 ?_
      refine lv_iload_n hx hb dX8_copyGuild_13 rfl (lv_at hl 2 rfl) ?_
      refine lv_iload_n hx hb dX8_copyGuild_14 rfl (lv_at hl 3 rfl) ?_
      refine lv_iadd hx hb dX8_copyGuild_15 ?_
      refine lv_aload_n hx hb dX8_copyGuild_16 rfl (lv_at hl 0 rfl) ?_
      obtain ⟨v3, zqe4, h⟩ := ob h
      refine gf948 C hR zqe4 dX8_copyGuild_17 ?_
      refine lv_iload_n hx hb dX8_copyGuild_20 rfl (lv_at hl 1 rfl) ?_
      refine lv_iload_n hx hb dX8_copyGuild_21 rfl (lv_at hl 3 rfl) ?_
      refine lv_iadd hx hb dX8_copyGuild_22 ?_
      obtain ⟨v5, zqe6, h⟩ := ob h
      refine ra_I C hR zqe6 dX8_copyGuild_23 ?_
      obtain ⟨M7, zqe8, h⟩ := ob h
      refine re_I C hR hS zqe8 dX8_copyGuild_24 (fun H locs hR hS => ?_)
      refine lv_iinc (v := (x3 + 1)) (lv' := [(3, .int (x3 + 1)), (0, .ref (B + x0)), (1, .int x1), (2, .int x2)]) hx hb dX8_copyGuild_25 hl (k := 3) rfl rfl (by decide) rfl (fun ls hl => ?_)
      refine lv_goto (tgt := 2) hx hb dX8_copyGuild_28 (by decide) ?_
      exact ih h hR hS (lv_sub hl [1, 2, 3, 0] rfl)
theorem ck_X8_copyGuild  {x0 : Nat} {x1 : Int32} {x2 : Int32} {M : Mem} {r : Mem} (h : f_X8_copyGuild  x0 x1 x2 M = some r) : kd M x0 = 18 := by
  unfold f_X8_copyGuild at h
  exact ck h
set_option maxHeartbeats 4000000 in
set_option maxRecDepth 100000 in
theorem ok_X8_copyGuild  {x0 : Nat} {x1 : Int32} {x2 : Int32}  {M : Mem} {r : Mem}  (h : f_X8_copyGuild  x0 x1 x2 M = some r) : Ok l yX8_copyGuild cX8_copyGuild 4 none 0 [.ref (B + x0), .int x1, .int x2] D B ca st M none r := by
  have hk0 := ck_X8_copyGuild h
  unfold f_X8_copyGuild at h
  have h := ip hk0 h
  refine ok_of rfl rfl (Nat.le_of_ble_eq_true rfl) ?_
  intro p e s m args below meth c ls C hl hR hS
  have hl : lv_has ls 4 [(0, .ref (B + x0)), (1, .int x1), (2, .int x2)] := hl
  have hx := C.1
  have hb := C.2.1
  refine lv_iconst (v := 0) hx hb dX8_copyGuild_0 (by decide) ?_
  refine lv_istore_n (lv' := [(3, .int 0), (0, .ref (B + x0)), (1, .int x1), (2, .int x2)]) hx hb dX8_copyGuild_1 rfl hl (by decide) rfl (fun ls hl => ?_)
  exact w_X8_copyGuild_2 C  FU h hR hS (lv_sub hl [1, 2, 3, 0] rfl)
end Walk4
