section Walk0
variable {p : Program} {l : Launch} {e : Env} {s : State} {m : MethodId} {args : Array Value} {below : List Frame} {meth : Method} {c : Code}
variable {D : va_G} {B : Nat} {ca : Nat → ClassId} {st : Nat → Nat}
set_option maxHeartbeats 4000000 in
set_option maxRecDepth 100000 in
theorem ok_J6_bitCount_0f7a4 (x0 : Int32) {M : Mem} : Ok l yJ6_bitCount_0f7a4 cJ6_bitCount_0f7a4 1 (some .int) 0 [.int x0] D B ca st M (some (.int (f_J6_bitCount_0f7a4  x0))) M := by
  obtain ⟨r, h⟩ : ∃ r, f_J6_bitCount_0f7a4  x0 = r := ⟨_, rfl⟩
  rw [h]
  unfold f_J6_bitCount_0f7a4 at h
  refine ok_of rfl rfl (Nat.le_of_ble_eq_true rfl) ?_
  intro p e s m args below meth c ls C hl hR hS
  have hl : lv_has ls 1 [(0, .int x0)] := hl
  have hx := C.1
  have hb := C.2.1
  refine lv_iload_n hx hb dJ6_bitCount_0f7a4_0 rfl (lv_at hl 0 rfl) ?_
  refine lv_iload_n hx hb dJ6_bitCount_0f7a4_1 rfl (lv_at hl 0 rfl) ?_
  refine lv_iconst (v := 1) hx hb dJ6_bitCount_0f7a4_2 (by decide) ?_
  refine lv_iushr (v := (Int32.toUInt32 x0 >>> (Int32.toUInt32 1 &&& Int32.toUInt32 31)).toInt32) hx hb dJ6_bitCount_0f7a4_3 rfl ?_
  refine lv_ldcw hx hb C.2.2.2.1 (C.2.2.2.2.1 _ lk734) dJ6_bitCount_0f7a4_4 ?_
  refine lv_iand hx hb dJ6_bitCount_0f7a4_7 ?_
  refine lv_isub hx hb dJ6_bitCount_0f7a4_8 ?_
  refine lv_istore_n (lv' := [(0, .int (x0 - ((Int32.toUInt32 x0 >>> (Int32.toUInt32 1 &&& Int32.toUInt32 31)).toInt32 &&& 1431655765)))]) hx hb dJ6_bitCount_0f7a4_9 rfl hl (by decide) rfl (fun ls hl => ?_)
  refine lv_iload_n hx hb dJ6_bitCount_0f7a4_10 rfl (lv_at hl 0 rfl) ?_
  refine lv_ldcw hx hb C.2.2.2.1 (C.2.2.2.2.1 _ lk735) dJ6_bitCount_0f7a4_11 ?_
  refine lv_iand hx hb dJ6_bitCount_0f7a4_14 ?_
  refine lv_iload_n hx hb dJ6_bitCount_0f7a4_15 rfl (lv_at hl 0 rfl) ?_
  refine lv_iconst (v := 2) hx hb dJ6_bitCount_0f7a4_16 (by decide) ?_
  refine lv_iushr (v := (Int32.toUInt32 (x0 - ((Int32.toUInt32 x0 >>> (Int32.toUInt32 1 &&& Int32.toUInt32 31)).toInt32 &&& 1431655765)) >>> (Int32.toUInt32 2 &&& Int32.toUInt32 31)).toInt32) hx hb dJ6_bitCount_0f7a4_17 rfl ?_
  refine lv_ldcw hx hb C.2.2.2.1 (C.2.2.2.2.1 _ lk735) dJ6_bitCount_0f7a4_18 ?_
  refine lv_iand hx hb dJ6_bitCount_0f7a4_21 ?_
  refine lv_iadd hx hb dJ6_bitCount_0f7a4_22 ?_
  refine lv_istore_n (lv' := [(0, .int (((x0 - ((Int32.toUInt32 x0 >>> (Int32.toUInt32 1 &&& Int32.toUInt32 31)).toInt32 &&& 1431655765)) &&& 858993459) + ((Int32.toUInt32 (x0 - ((Int32.toUInt32 x0 >>> (Int32.toUInt32 1 &&& Int32.toUInt32 31)).toInt32 &&& 1431655765)) >>> (Int32.toUInt32 2 &&& Int32.toUInt32 31)).toInt32 &&& 858993459)))]) hx hb dJ6_bitCount_0f7a4_23 rfl hl (by decide) rfl (fun ls hl => ?_)
  refine lv_iload_n hx hb dJ6_bitCount_0f7a4_24 rfl (lv_at hl 0 rfl) ?_
  refine lv_iload_n hx hb dJ6_bitCount_0f7a4_25 rfl (lv_at hl 0 rfl) ?_
  refine lv_iconst (v := 4) hx hb dJ6_bitCount_0f7a4_26 (by decide) ?_
  refine lv_iushr (v := (Int32.toUInt32 (((x0 - ((Int32.toUInt32 x0 >>> (Int32.toUInt32 1 &&& Int32.toUInt32 31)).toInt32 &&& 1431655765)) &&& 858993459) + ((Int32.toUInt32 (x0 - ((Int32.toUInt32 x0 >>> (Int32.toUInt32 1 &&& Int32.toUInt32 31)).toInt32 &&& 1431655765)) >>> (Int32.toUInt32 2 &&& Int32.toUInt32 31)).toInt32 &&& 858993459)) >>> (Int32.toUInt32 4 &&& Int32.toUInt32 31)).toInt32) hx hb dJ6_bitCount_0f7a4_27 rfl ?_
  refine lv_iadd hx hb dJ6_bitCount_0f7a4_28 ?_
  refine lv_ldcw hx hb C.2.2.2.1 (C.2.2.2.2.1 _ lk736) dJ6_bitCount_0f7a4_29 ?_
  refine lv_iand hx hb dJ6_bitCount_0f7a4_32 ?_
  refine lv_istore_n (lv' := [(0, .int (((((x0 - ((Int32.toUInt32 x0 >>> (Int32.toUInt32 1 &&& Int32.toUInt32 31)).toInt32 &&& 1431655765)) &&& 858993459) + ((Int32.toUInt32 (x0 - ((Int32.toUInt32 x0 >>> (Int32.toUInt32 1 &&& Int32.toUInt32 31)).toInt32 &&& 1431655765)) >>> (Int32.toUInt32 2 &&& Int32.toUInt32 31)).toInt32 &&& 858993459)) + (Int32.toUInt32 (((x0 - ((Int32.toUInt32 x0 >>> (Int32.toUInt32 1 &&& Int32.toUInt32 31)).toInt32 &&& 1431655765)) &&& 858993459) + ((Int32.toUInt32 (x0 - ((Int32.toUInt32 x0 >>> (Int32.toUInt32 1 &&& Int32.toUInt32 31)).toInt32 &&& 1431655765)) >>> (Int32.toUInt32 2 &&& Int32.toUInt32 31)).toInt32 &&& 858993459)) >>> (Int32.toUInt32 4 &&& Int32.toUInt32 31)).toInt32) &&& 252645135))]) hx hb dJ6_bitCount_0f7a4_33 rfl hl (by decide) rfl (fun ls hl => ?_)
  refine lv_iload_n hx hb dJ6_bitCount_0f7a4_34 rfl (lv_at hl 0 rfl) ?_
  refine lv_iload_n hx hb dJ6_bitCount_0f7a4_35 rfl (lv_at hl 0 rfl) ?_
  refine lv_bipush (v := 8) hx hb dJ6_bitCount_0f7a4_36 (by decide) ?_
  refine lv_iushr (v := (Int32.toUInt32 (((((x0 - ((Int32.toUInt32 x0 >>> (Int32.toUInt32 1 &&& Int32.toUInt32 31)).toInt32 &&& 1431655765)) &&& 858993459) + ((Int32.toUInt32 (x0 - ((Int32.toUInt32 x0 >>> (Int32.toUInt32 1 &&& Int32.toUInt32 31)).toInt32 &&& 1431655765)) >>> (Int32.toUInt32 2 &&& Int32.toUInt32 31)).toInt32 &&& 858993459)) + (Int32.toUInt32 (((x0 - ((Int32.toUInt32 x0 >>> (Int32.toUInt32 1 &&& Int32.toUInt32 31)).toInt32 &&& 1431655765)) &&& 858993459) + ((Int32.toUInt32 (x0 - ((Int32.toUInt32 x0 >>> (Int32.toUInt32 1 &&& Int32.toUInt32 31)).toInt32 &&& 1431655765)) >>> (Int32.toUInt32 2 &&& Int32.toUInt32 31)).toInt32 &&& 858993459)) >>> (Int32.toUInt32 4 &&& Int32.toUInt32 31)).toInt32) &&& 252645135) >>> (Int32.toUInt32 8 &&& Int32.toUInt32 31)).toInt32) hx hb dJ6_bitCount_0f7a4_38 rfl ?_
  refine lv_iadd hx hb dJ6_bitCount_0f7a4_39 ?_
  refine lv_istore_n (lv' := [(0, .int ((((((x0 - ((Int32.toUInt32 x0 >>> (Int32.toUInt32 1 &&& Int32.toUInt32 31)).toInt32 &&& 1431655765)) &&& 858993459) + ((Int32.toUInt32 (x0 - ((Int32.toUInt32 x0 >>> (Int32.toUInt32 1 &&& Int32.toUInt32 31)).toInt32 &&& 1431655765)) >>> (Int32.toUInt32 2 &&& Int32.toUInt32 31)).toInt32 &&& 858993459)) + (Int32.toUInt32 (((x0 - ((Int32.toUInt32 x0 >>> (Int32.toUInt32 1 &&& Int32.toUInt32 31)).toInt32 &&& 1431655765)) &&& 858993459) + ((Int32.toUInt32 (x0 - ((Int32.toUInt32 x0 >>> (Int32.toUInt32 1 &&& Int32.toUInt32 31)).toInt32 &&& 1431655765)) >>> (Int32.toUInt32 2 &&& Int32.toUInt32 31)).toInt32 &&& 858993459)) >>> (Int32.toUInt32 4 &&& Int32.toUInt32 31)).toInt32) &&& 252645135) + (Int32.toUInt32 (((((x0 - ((Int32.toUInt32 x0 >>> (Int32.toUInt32 1 &&& Int32.toUInt32 31)).toInt32 &&& 1431655765)) &&& 858993459) + ((Int32.toUInt32 (x0 - ((Int32.toUInt32 x0 >>> (Int32.toUInt32 1 &&& Int32.toUInt32 31)).toInt32 &&& 1431655765)) >>> (Int32.toUInt32 2 &&& Int32.toUInt32 31)).toInt32 &&& 858993459)) + (Int32.toUInt32 (((x0 - ((Int32.toUInt32 x0 >>> (Int32.toUInt32 1 &&& Int32.toUInt32 31)).toInt32 &&& 1431655765)) &&& 858993459) + ((Int32.toUInt32 (x0 - ((Int32.toUInt32 x0 >>> (Int32.toUInt32 1 &&& Int32.toUInt32 31)).toInt32 &&& 1431655765)) >>> (Int32.toUInt32 2 &&& Int32.toUInt32 31)).toInt32 &&& 858993459)) >>> (Int32.toUInt32 4 &&& Int32.toUInt32 31)).toInt32) &&& 252645135) >>> (Int32.toUInt32 8 &&& Int32.toUInt32 31)).toInt32))]) hx hb dJ6_bitCount_0f7a4_40 rfl hl (by decide) rfl (fun ls hl => ?_)
  refine lv_iload_n hx hb dJ6_bitCount_0f7a4_41 rfl (lv_at hl 0 rfl) ?_
  refine lv_iload_n hx hb dJ6_bitCount_0f7a4_42 rfl (lv_at hl 0 rfl) ?_
  refine lv_bipush (v := 16) hx hb dJ6_bitCount_0f7a4_43 (by decide) ?_
  refine lv_iushr (v := (Int32.toUInt32 ((((((x0 - ((Int32.toUInt32 x0 >>> (Int32.toUInt32 1 &&& Int32.toUInt32 31)).toInt32 &&& 1431655765)) &&& 858993459) + ((Int32.toUInt32 (x0 - ((Int32.toUInt32 x0 >>> (Int32.toUInt32 1 &&& Int32.toUInt32 31)).toInt32 &&& 1431655765)) >>> (Int32.toUInt32 2 &&& Int32.toUInt32 31)).toInt32 &&& 858993459)) + (Int32.toUInt32 (((x0 - ((Int32.toUInt32 x0 >>> (Int32.toUInt32 1 &&& Int32.toUInt32 31)).toInt32 &&& 1431655765)) &&& 858993459) + ((Int32.toUInt32 (x0 - ((Int32.toUInt32 x0 >>> (Int32.toUInt32 1 &&& Int32.toUInt32 31)).toInt32 &&& 1431655765)) >>> (Int32.toUInt32 2 &&& Int32.toUInt32 31)).toInt32 &&& 858993459)) >>> (Int32.toUInt32 4 &&& Int32.toUInt32 31)).toInt32) &&& 252645135) + (Int32.toUInt32 (((((x0 - ((Int32.toUInt32 x0 >>> (Int32.toUInt32 1 &&& Int32.toUInt32 31)).toInt32 &&& 1431655765)) &&& 858993459) + ((Int32.toUInt32 (x0 - ((Int32.toUInt32 x0 >>> (Int32.toUInt32 1 &&& Int32.toUInt32 31)).toInt32 &&& 1431655765)) >>> (Int32.toUInt32 2 &&& Int32.toUInt32 31)).toInt32 &&& 858993459)) + (Int32.toUInt32 (((x0 - ((Int32.toUInt32 x0 >>> (Int32.toUInt32 1 &&& Int32.toUInt32 31)).toInt32 &&& 1431655765)) &&& 858993459) + ((Int32.toUInt32 (x0 - ((Int32.toUInt32 x0 >>> (Int32.toUInt32 1 &&& Int32.toUInt32 31)).toInt32 &&& 1431655765)) >>> (Int32.toUInt32 2 &&& Int32.toUInt32 31)).toInt32 &&& 858993459)) >>> (Int32.toUInt32 4 &&& Int32.toUInt32 31)).toInt32) &&& 252645135) >>> (Int32.toUInt32 8 &&& Int32.toUInt32 31)).toInt32) >>> (Int32.toUInt32 16 &&& Int32.toUInt32 31)).toInt32) hx hb dJ6_bitCount_0f7a4_45 rfl ?_
  refine lv_iadd hx hb dJ6_bitCount_0f7a4_46 ?_
  refine lv_istore_n (lv' := [(0, .int (((((((x0 - ((Int32.toUInt32 x0 >>> (Int32.toUInt32 1 &&& Int32.toUInt32 31)).toInt32 &&& 1431655765)) &&& 858993459) + ((Int32.toUInt32 (x0 - ((Int32.toUInt32 x0 >>> (Int32.toUInt32 1 &&& Int32.toUInt32 31)).toInt32 &&& 1431655765)) >>> (Int32.toUInt32 2 &&& Int32.toUInt32 31)).toInt32 &&& 858993459)) + (Int32.toUInt32 (((x0 - ((Int32.toUInt32 x0 >>> (Int32.toUInt32 1 &&& Int32.toUInt32 31)).toInt32 &&& 1431655765)) &&& 858993459) + ((Int32.toUInt32 (x0 - ((Int32.toUInt32 x0 >>> (Int32.toUInt32 1 &&& Int32.toUInt32 31)).toInt32 &&& 1431655765)) >>> (Int32.toUInt32 2 &&& Int32.toUInt32 31)).toInt32 &&& 858993459)) >>> (Int32.toUInt32 4 &&& Int32.toUInt32 31)).toInt32) &&& 252645135) + (Int32.toUInt32 (((((x0 - ((Int32.toUInt32 x0 >>> (Int32.toUInt32 1 &&& Int32.toUInt32 31)).toInt32 &&& 1431655765)) &&& 858993459) + ((Int32.toUInt32 (x0 - ((Int32.toUInt32 x0 >>> (Int32.toUInt32 1 &&& Int32.toUInt32 31)).toInt32 &&& 1431655765)) >>> (Int32.toUInt32 2 &&& Int32.toUInt32 31)).toInt32 &&& 858993459)) + (Int32.toUInt32 (((x0 - ((Int32.toUInt32 x0 >>> (Int32.toUInt32 1 &&& Int32.toUInt32 31)).toInt32 &&& 1431655765)) &&& 858993459) + ((Int32.toUInt32 (x0 - ((Int32.toUInt32 x0 >>> (Int32.toUInt32 1 &&& Int32.toUInt32 31)).toInt32 &&& 1431655765)) >>> (Int32.toUInt32 2 &&& Int32.toUInt32 31)).toInt32 &&& 858993459)) >>> (Int32.toUInt32 4 &&& Int32.toUInt32 31)).toInt32) &&& 252645135) >>> (Int32.toUInt32 8 &&& Int32.toUInt32 31)).toInt32) + (Int32.toUInt32 ((((((x0 - ((Int32.toUInt32 x0 >>> (Int32.toUInt32 1 &&& Int32.toUInt32 31)).toInt32 &&& 1431655765)) &&& 858993459) + ((Int32.toUInt32 (x0 - ((Int32.toUInt32 x0 >>> (Int32.toUInt32 1 &&& Int32.toUInt32 31)).toInt32 &&& 1431655765)) >>> (Int32.toUInt32 2 &&& Int32.toUInt32 31)).toInt32 &&& 858993459)) + (Int32.toUInt32 (((x0 - ((Int32.toUInt32 x0 >>> (Int32.toUInt32 1 &&& Int32.toUInt32 31)).toInt32 &&& 1431655765)) &&& 858993459) + ((Int32.toUInt32 (x0 - ((Int32.toUInt32 x0 >>> (Int32.toUInt32 1 &&& Int32.toUInt32 31)).toInt32 &&& 1431655765)) >>> (Int32.toUInt32 2 &&& Int32.toUInt32 31)).toInt32 &&& 858993459)) >>> (Int32.toUInt32 4 &&& Int32.toUInt32 31)).toInt32) &&& 252645135) + (Int32.toUInt32 (((((x0 - ((Int32.toUInt32 x0 >>> (Int32.toUInt32 1 &&& Int32.toUInt32 31)).toInt32 &&& 1431655765)) &&& 858993459) + ((Int32.toUInt32 (x0 - ((Int32.toUInt32 x0 >>> (Int32.toUInt32 1 &&& Int32.toUInt32 31)).toInt32 &&& 1431655765)) >>> (Int32.toUInt32 2 &&& Int32.toUInt32 31)).toInt32 &&& 858993459)) + (Int32.toUInt32 (((x0 - ((Int32.toUInt32 x0 >>> (Int32.toUInt32 1 &&& Int32.toUInt32 31)).toInt32 &&& 1431655765)) &&& 858993459) + ((Int32.toUInt32 (x0 - ((Int32.toUInt32 x0 >>> (Int32.toUInt32 1 &&& Int32.toUInt32 31)).toInt32 &&& 1431655765)) >>> (Int32.toUInt32 2 &&& Int32.toUInt32 31)).toInt32 &&& 858993459)) >>> (Int32.toUInt32 4 &&& Int32.toUInt32 31)).toInt32) &&& 252645135) >>> (Int32.toUInt32 8 &&& Int32.toUInt32 31)).toInt32) >>> (Int32.toUInt32 16 &&& Int32.toUInt32 31)).toInt32))]) hx hb dJ6_bitCount_0f7a4_47 rfl hl (by decide) rfl (fun ls hl => ?_)
  refine lv_iload_n hx hb dJ6_bitCount_0f7a4_48 rfl (lv_at hl 0 rfl) ?_
  refine lv_bipush (v := 63) hx hb dJ6_bitCount_0f7a4_49 (by decide) ?_
  refine lv_iand hx hb dJ6_bitCount_0f7a4_51 ?_
  subst h
  exact rr_I C hR hS dJ6_bitCount_0f7a4_52
set_option maxHeartbeats 4000000 in
set_option maxRecDepth 100000 in
theorem w_J7_fill_031fb_5    {r : Mem} (C : Cx p s m args meth c RJ7 cJ7_fill_031fb 4 none D B ca st)   : ∀ (n : Nat) {x0 : Nat} {x1 : Int32} {x2 : Int32} {x3 : Int32} {M : Mem}, f_J7_fill_031fb_5  n x0 x1 x2 x3 M = some r → ∀ {H : Heap} {locs : List Loc} {ls : Array Slot}, RH D B ca M H → va_S (AA B) s.heap H locs → lv_has ls 4 [(0, .ref (B + x0)), (1, .int x1), (2, .int x2), (3, .int x3)] → W p l e (rmD 0) s m args below meth c H locs 0 0 (MQ below (Qp D B ca st none r) args s 0 0 (AA B)) (F0 m 5 ls []) := by
  have hx := C.1
  have hb := C.2.1
  intro n
  induction n with
  | zero => intro x0 x1 x2 x3 M h; simp [f_J7_fill_031fb_5] at h
  | succ n ih =>
    intro x0 x1 x2 x3 M h H locs ls hR hS hl
    rw [f_J7_fill_031fb_5] at h
    refine lv_iload_n hx hb dJ7_fill_031fb_5 rfl (lv_at hl 2 rfl) ?_
    refine lv_iload_n hx hb dJ7_fill_031fb_6 rfl (lv_at hl 3 rfl) ?_
    refine lv_icmp_ge (tgt := 20) hx hb dJ7_fill_031fb_7 (by decide) (fun c => ?_) (fun c => ?_)
    · have h := ip c h
      cases h
      exact rr_V C hR hS dJ7_fill_031fb_20
    · have h := iq c h
      refine lv_aload_n hx hb dJ7_fill_031fb_10 rfl (lv_at hl 0 rfl) ?_
      refine lv_iload_n hx hb dJ7_fill_031fb_11 rfl (lv_at hl 2 rfl) ?_
      refine lv_iload_n hx hb dJ7_fill_031fb_12 rfl (lv_at hl 1 rfl) ?_
      obtain ⟨M3, zqe4, h⟩ := ob h
      refine re_B C hR hS zqe4 dJ7_fill_031fb_13 (fun H locs hR hS => ?_)
      refine lv_iinc (v := (x2 + 1)) (lv' := [(2, .int (x2 + 1)), (0, .ref (B + x0)), (1, .int x1), (3, .int x3)]) hx hb dJ7_fill_031fb_14 hl (k := 2) rfl rfl (by decide) rfl (fun ls hl => ?_)
      refine lv_goto (tgt := 5) hx hb dJ7_fill_031fb_17 (by decide) ?_
      exact ih h hR hS (lv_sub hl [1, 2, 0, 3] rfl)
set_option maxHeartbeats 4000000 in
set_option maxRecDepth 100000 in
theorem ok_J7_fill_031fb  {x0 : Nat} {x1 : Int32}  {M : Mem} {r : Mem}  (h : f_J7_fill_031fb  x0 x1 M = some r) : Ok l yJ7_fill_031fb cJ7_fill_031fb 4 none 0 [.ref (B + x0), .int x1] D B ca st M none r := by
  unfold f_J7_fill_031fb at h
  refine ok_of rfl rfl (Nat.le_of_ble_eq_true rfl) ?_
  intro p e s m args below meth c ls C hl hR hS
  have hl : lv_has ls 4 [(0, .ref (B + x0)), (1, .int x1)] := hl
  have hx := C.1
  have hb := C.2.1
  refine lv_iconst (v := 0) hx hb dJ7_fill_031fb_0 (by decide) ?_
  refine lv_istore_n (lv' := [(2, .int 0), (0, .ref (B + x0)), (1, .int x1)]) hx hb dJ7_fill_031fb_1 rfl hl (by decide) rfl (fun ls hl => ?_)
  refine lv_aload_n hx hb dJ7_fill_031fb_2 rfl (lv_at hl 1 rfl) ?_
  obtain ⟨v1, zqe2, h⟩ := ob h
  refine ra_N C hR (k := 2) (by decide) (by decide) zqe2 dJ7_fill_031fb_3 ?_
  refine lv_istore_n (lv' := [(3, .int v1), (2, .int 0), (0, .ref (B + x0)), (1, .int x1)]) hx hb dJ7_fill_031fb_4 rfl hl (by decide) rfl (fun ls hl => ?_)
  exact w_J7_fill_031fb_5 C  FU h hR hS (lv_sub hl [2, 3, 1, 0] rfl)
set_option maxHeartbeats 4000000 in
set_option maxRecDepth 100000 in
theorem w_J7_fill_53178_5    {r : Mem} (C : Cx p s m args meth c RJ7 cJ7_fill_53178 4 none D B ca st)   : ∀ (n : Nat) {x0 : Nat} {x1 : Int32} {x2 : Int32} {x3 : Int32} {M : Mem}, f_J7_fill_53178_5  n x0 x1 x2 x3 M = some r → ∀ {H : Heap} {locs : List Loc} {ls : Array Slot}, RH D B ca M H → va_S (AA B) s.heap H locs → lv_has ls 4 [(0, .ref (B + x0)), (1, .int x1), (2, .int x2), (3, .int x3)] → W p l e (rmD 0) s m args below meth c H locs 0 0 (MQ below (Qp D B ca st none r) args s 0 0 (AA B)) (F0 m 5 ls []) := by
  have hx := C.1
  have hb := C.2.1
  intro n
  induction n with
  | zero => intro x0 x1 x2 x3 M h; simp [f_J7_fill_53178_5] at h
  | succ n ih =>
    intro x0 x1 x2 x3 M h H locs ls hR hS hl
    rw [f_J7_fill_53178_5] at h
    refine lv_iload_n hx hb dJ7_fill_53178_5 rfl (lv_at hl 2 rfl) ?_
    refine lv_iload_n hx hb dJ7_fill_53178_6 rfl (lv_at hl 3 rfl) ?_
    refine lv_icmp_ge (tgt := 20) hx hb dJ7_fill_53178_7 (by decide) (fun c => ?_) (fun c => ?_)
    · have h := ip c h
      cases h
      exact rr_V C hR hS dJ7_fill_53178_20
    · have h := iq c h
      refine lv_aload_n hx hb dJ7_fill_53178_10 rfl (lv_at hl 0 rfl) ?_
      refine lv_iload_n hx hb dJ7_fill_53178_11 rfl (lv_at hl 2 rfl) ?_
      refine lv_iload_n hx hb dJ7_fill_53178_12 rfl (lv_at hl 1 rfl) ?_
      obtain ⟨M3, zqe4, h⟩ := ob h
      refine re_I C hR hS zqe4 dJ7_fill_53178_13 (fun H locs hR hS => ?_)
      refine lv_iinc (v := (x2 + 1)) (lv' := [(2, .int (x2 + 1)), (0, .ref (B + x0)), (1, .int x1), (3, .int x3)]) hx hb dJ7_fill_53178_14 hl (k := 2) rfl rfl (by decide) rfl (fun ls hl => ?_)
      refine lv_goto (tgt := 5) hx hb dJ7_fill_53178_17 (by decide) ?_
      exact ih h hR hS (lv_sub hl [1, 2, 0, 3] rfl)
set_option maxHeartbeats 4000000 in
set_option maxRecDepth 100000 in
theorem ok_J7_fill_53178  {x0 : Nat} {x1 : Int32}  {M : Mem} {r : Mem}  (h : f_J7_fill_53178  x0 x1 M = some r) : Ok l yJ7_fill_53178 cJ7_fill_53178 4 none 0 [.ref (B + x0), .int x1] D B ca st M none r := by
  unfold f_J7_fill_53178 at h
  refine ok_of rfl rfl (Nat.le_of_ble_eq_true rfl) ?_
  intro p e s m args below meth c ls C hl hR hS
  have hl : lv_has ls 4 [(0, .ref (B + x0)), (1, .int x1)] := hl
  have hx := C.1
  have hb := C.2.1
  refine lv_iconst (v := 0) hx hb dJ7_fill_53178_0 (by decide) ?_
  refine lv_istore_n (lv' := [(2, .int 0), (0, .ref (B + x0)), (1, .int x1)]) hx hb dJ7_fill_53178_1 rfl hl (by decide) rfl (fun ls hl => ?_)
  refine lv_aload_n hx hb dJ7_fill_53178_2 rfl (lv_at hl 1 rfl) ?_
  obtain ⟨v1, zqe2, h⟩ := ob h
  refine ra_N C hR (k := 1) (by decide) (by decide) zqe2 dJ7_fill_53178_3 ?_
  refine lv_istore_n (lv' := [(3, .int v1), (2, .int 0), (0, .ref (B + x0)), (1, .int x1)]) hx hb dJ7_fill_53178_4 rfl hl (by decide) rfl (fun ls hl => ?_)
  exact w_J7_fill_53178_5 C  FU h hR hS (lv_sub hl [2, 3, 1, 0] rfl)
theorem ck_X7_asked  {x0 : Nat} {M : Mem} {r : Int32} (h : f_X7_asked  x0 M = some r) : kd M x0 = 17 := by
  unfold f_X7_asked at h
  exact ck h
set_option maxHeartbeats 4000000 in
set_option maxRecDepth 100000 in
theorem ok_X7_asked  {x0 : Nat}  {M : Mem} {r : Int32}  (h : f_X7_asked  x0 M = some r) : Ok l yX7_asked cX7_asked 1 (some .int) 0 [.ref (B + x0)] D B ca st M (some (.int r)) M := by
  have hk0 := ck_X7_asked h
  unfold f_X7_asked at h
  have h := ip hk0 h
  refine ok_of rfl rfl (Nat.le_of_ble_eq_true rfl) ?_
  intro p e s m args below meth c ls C hl hR hS
  have hl : lv_has ls 1 [(0, .ref (B + x0))] := hl
  have hx := C.1
  have hb := C.2.1
  refine lv_aload_n hx hb dX7_asked_0 rfl (lv_at hl 0 rfl) ?_
  obtain ⟨v1, zqe2, h⟩ := ob h
  refine gf335 C hR zqe2 dX7_asked_1 ?_
  cases h
  exact rr_I C hR hS dX7_asked_4
theorem ck_X4_has  {x0 : Nat} {x1 : Int32} {M : Mem} {r : Int32} (h : f_X4_has  x0 x1 M = some r) : kd M x0 = 14 := by
  unfold f_X4_has at h
  exact ck h
set_option maxHeartbeats 4000000 in
set_option maxRecDepth 100000 in
theorem ok_X4_has  {x0 : Nat} {x1 : Int32}  {M : Mem} {r : Int32}  (h : f_X4_has  x0 x1 M = some r) : Ok l yX4_has cX4_has 2 (some .boolean) 0 [.ref (B + x0), .int x1] D B ca st M (some (.int r)) M := by
  have hk0 := ck_X4_has h
  unfold f_X4_has at h
  have h := ip hk0 h
  refine ok_of rfl rfl (Nat.le_of_ble_eq_true rfl) ?_
  intro p e s m args below meth c ls C hl hR hS
  have hl : lv_has ls 2 [(0, .ref (B + x0)), (1, .int x1)] := hl
  have hx := C.1
  have hb := C.2.1
  refine lv_iload_n hx hb dX4_has_0 rfl (lv_at hl 1 rfl) ?_
  refine lv_if_lt (tgt := 16) hx hb dX4_has_1 (by decide) (fun c => ?_) (fun c => ?_)
  · have h := ip c h
    refine lv_iconst (v := 0) hx hb dX4_has_16 (by decide) ?_
    cases h
    exact rr_Z (v := 0) C hR hS (by decide) dX4_has_17
  · have h := iq c h
    refine lv_iload_n hx hb dX4_has_4 rfl (lv_at hl 1 rfl) ?_
    refine lv_aload_n hx hb dX4_has_5 rfl (lv_at hl 0 rfl) ?_
    obtain ⟨v1, zqe2, h⟩ := ob h
    refine gf303 C hR zqe2 dX4_has_6 ?_
    refine lv_icmp_ge (tgt := 16) hx hb dX4_has_9 (by decide) (fun c => ?_) (fun c => ?_)
    · have h := ip c h
      refine lv_iconst (v := 0) hx hb dX4_has_16 (by decide) ?_
      cases h
      exact rr_Z (v := 0) C hR hS (by decide) dX4_has_17
    · have h := iq c h
      refine lv_iconst (v := 1) hx hb dX4_has_12 (by decide) ?_
      refine lv_goto (tgt := 17) hx hb dX4_has_13 (by decide) ?_
      cases h
      exact rr_Z (v := 1) C hR hS (by decide) dX4_has_17
theorem ck_X4_isMissing  {x0 : Nat} {M : Mem} {r : Int32} (h : f_X4_isMissing  x0 M = some r) : kd M x0 = 14 := by
  unfold f_X4_isMissing at h
  exact ck h
set_option maxHeartbeats 4000000 in
set_option maxRecDepth 100000 in
theorem ok_X4_isMissing  {x0 : Nat}  {M : Mem} {r : Int32}  (h : f_X4_isMissing  x0 M = some r) : Ok l yX4_isMissing cX4_isMissing 1 (some .boolean) 0 [.ref (B + x0)] D B ca st M (some (.int r)) M := by
  have hk0 := ck_X4_isMissing h
  unfold f_X4_isMissing at h
  have h := ip hk0 h
  refine ok_of rfl rfl (Nat.le_of_ble_eq_true rfl) ?_
  intro p e s m args below meth c ls C hl hR hS
  have hl : lv_has ls 1 [(0, .ref (B + x0))] := hl
  have hx := C.1
  have hb := C.2.1
  refine lv_aload_n hx hb dX4_isMissing_0 rfl (lv_at hl 0 rfl) ?_
  obtain ⟨v1, zqe2, h⟩ := ob h
  refine gf303 C hR zqe2 dX4_isMissing_1 ?_
  refine lv_iconst (v := (-1)) hx hb dX4_isMissing_4 (by decide) ?_
  refine lv_icmp_ne (tgt := 12) hx hb dX4_isMissing_5 (by decide) (fun c => ?_) (fun c => ?_)
  · have h := iq c h
    refine lv_iconst (v := 0) hx hb dX4_isMissing_12 (by decide) ?_
    cases h
    exact rr_Z (v := 0) C hR hS (by decide) dX4_isMissing_13
  · have h := ip c h
    refine lv_iconst (v := 1) hx hb dX4_isMissing_8 (by decide) ?_
    refine lv_goto (tgt := 13) hx hb dX4_isMissing_9 (by decide) ?_
    cases h
    exact rr_Z (v := 1) C hR hS (by decide) dX4_isMissing_13
theorem ck_X7_refuse  {x0 : Nat} {x1 : Int32} {M : Mem} {r : Int32 × Mem} (h : f_X7_refuse  x0 x1 M = some r) : kd M x0 = 17 := by
  unfold f_X7_refuse at h
  exact ck h
set_option maxHeartbeats 4000000 in
set_option maxRecDepth 100000 in
theorem ok_X7_refuse  {x0 : Nat} {x1 : Int32}  {M : Mem} {r : Int32 × Mem}  (h : f_X7_refuse  x0 x1 M = some r) : Ok l yX7_refuse cX7_refuse 2 (some .int) 0 [.ref (B + x0), .int x1] D B ca st M (some (.int r.1)) r.2 := by
  have hk0 := ck_X7_refuse h
  unfold f_X7_refuse at h
  have h := ip hk0 h
  refine ok_of rfl rfl (Nat.le_of_ble_eq_true rfl) ?_
  intro p e s m args below meth c ls C hl hR hS
  have hl : lv_has ls 2 [(0, .ref (B + x0)), (1, .int x1)] := hl
  have hx := C.1
  have hb := C.2.1
  refine lv_aload_n hx hb dX7_refuse_0 rfl (lv_at hl 0 rfl) ?_
  refine lv_iload_n hx hb dX7_refuse_1 rfl (lv_at hl 1 rfl) ?_
  obtain ⟨M1, zqe2, h⟩ := ob h
  refine pf338 C hR hS zqe2 dX7_refuse_2 (fun H locs hR hS => ?_)
  refine lv_iload_n hx hb dX7_refuse_5 rfl (lv_at hl 1 rfl) ?_
  refine lv_if_lt (tgt := 28) hx hb dX7_refuse_6 (by decide) (fun c => ?_) (fun c => ?_)
  · have h := ip c h
    refine lv_bipush (v := (-3)) hx hb dX7_refuse_28 (by decide) ?_
    cases h
    exact rr_I C hR hS dX7_refuse_30
  · have h := iq c h
    refine lv_iload_n hx hb dX7_refuse_9 rfl (lv_at hl 1 rfl) ?_
    refine lv_aload_n hx hb dX7_refuse_10 rfl (lv_at hl 0 rfl) ?_
    obtain ⟨v3, zqe4, h⟩ := ob h
    refine gf339 C hR zqe4 dX7_refuse_11 ?_
    obtain ⟨v5, zqe6, h⟩ := ob h
    refine ra_N C hR (k := 1) (by decide) (by decide) zqe6 dX7_refuse_14 ?_
    refine lv_icmp_ge (tgt := 28) hx hb dX7_refuse_15 (by decide) (fun c => ?_) (fun c => ?_)
    · have h := ip c h
      refine lv_bipush (v := (-3)) hx hb dX7_refuse_28 (by decide) ?_
      cases h
      exact rr_I C hR hS dX7_refuse_30
    · have h := iq c h
      refine lv_aload_n hx hb dX7_refuse_18 rfl (lv_at hl 0 rfl) ?_
      obtain ⟨v7, zqe8, h⟩ := ob h
      refine gf339 C hR zqe8 dX7_refuse_19 ?_
      refine lv_iload_n hx hb dX7_refuse_22 rfl (lv_at hl 1 rfl) ?_
      refine lv_dup2_11 hx hb dX7_refuse_23 rfl rfl ?_
      obtain ⟨v9, zqe10, h⟩ := ob h
      refine ra_I C hR zqe10 dX7_refuse_24 ?_
      refine lv_iconst (v := 1) hx hb dX7_refuse_25 (by decide) ?_
      refine lv_iadd hx hb dX7_refuse_26 ?_
      obtain ⟨M11, zqe12, h⟩ := ob h
      refine re_I C hR hS zqe12 dX7_refuse_27 (fun H locs hR hS => ?_)
      refine lv_bipush (v := (-3)) hx hb dX7_refuse_28 (by decide) ?_
      cases h
      exact rr_I C hR hS dX7_refuse_30
theorem ck_X7_rowOf  {x0 : Nat} {x1 : Int32} {M : Mem} {r : Nat} (h : f_X7_rowOf  x0 x1 M = some r) : kd M x0 = 17 := by
  unfold f_X7_rowOf at h
  exact ck h
set_option maxHeartbeats 4000000 in
set_option maxRecDepth 100000 in
theorem ok_X7_rowOf  {x0 : Nat} {x1 : Int32}  {M : Mem} {r : Nat}  (h : f_X7_rowOf  x0 x1 M = some r) : Ok l yX7_rowOf cX7_rowOf 2 (some (.object "SighGuild$Row")) 0 [.ref (B + x0), .int x1] D B ca st M (some (va_rf (rO B r))) M := by
  have hk0 := ck_X7_rowOf h
  unfold f_X7_rowOf at h
  have h := ip hk0 h
  refine ok_of rfl rfl (Nat.le_of_ble_eq_true rfl) ?_
  intro p e s m args below meth c ls C hl hR hS
  have hl : lv_has ls 2 [(0, .ref (B + x0)), (1, .int x1)] := hl
  have hx := C.1
  have hb := C.2.1
  refine lv_iload_n hx hb dX7_rowOf_0 rfl (lv_at hl 1 rfl) ?_
  refine lv_if_lt (tgt := 22) hx hb dX7_rowOf_1 (by decide) (fun c => ?_) (fun c => ?_)
  · have h := ip c h
    refine lv_null hx hb dX7_rowOf_22 ?_
    cases h
    exact rr_R C hR hS (rO_0 _) dX7_rowOf_23
  · have h := iq c h
    refine lv_iload_n hx hb dX7_rowOf_4 rfl (lv_at hl 1 rfl) ?_
    refine lv_aload_n hx hb dX7_rowOf_5 rfl (lv_at hl 0 rfl) ?_
    obtain ⟨v1, zqe2, h⟩ := ob h
    refine gf325 C hR zqe2 dX7_rowOf_6 ?_
    obtain ⟨v3, zqe4, h⟩ := ob h
    refine ra_N C hR (k := 4) (by decide) (by decide) zqe4 dX7_rowOf_9 ?_
    refine lv_icmp_ge (tgt := 22) hx hb dX7_rowOf_10 (by decide) (fun c => ?_) (fun c => ?_)
    · have h := ip c h
      refine lv_null hx hb dX7_rowOf_22 ?_
      cases h
      exact rr_R C hR hS (rO_0 _) dX7_rowOf_23
    · have h := iq c h
      refine lv_aload_n hx hb dX7_rowOf_13 rfl (lv_at hl 0 rfl) ?_
      obtain ⟨v5, zqe6, h⟩ := ob h
      refine gf325 C hR zqe6 dX7_rowOf_14 ?_
      refine lv_iload_n hx hb dX7_rowOf_17 rfl (lv_at hl 1 rfl) ?_
      obtain ⟨v7, zqe8, h⟩ := ob h
      refine ra_R C hR (k := 4) (by decide) (by decide) rfl zqe8 dX7_rowOf_18 ?_
      refine lv_goto (tgt := 23) hx hb dX7_rowOf_19 (by decide) ?_
      cases h
      exact rr_R C hR hS (rO_ne (aR_nz zqe8)) dX7_rowOf_23
theorem ck_X7_at  {x0 : Nat} {x1 : Int32} {x2 : Int32} {M : Mem} {r : Int32 × Mem} (h : f_X7_at  x0 x1 x2 M = some r) : kd M x0 = 17 := by
  unfold f_X7_at at h
  exact ck h
set_option maxHeartbeats 4000000 in
set_option maxRecDepth 100000 in
theorem ok_X7_at  {x0 : Nat} {x1 : Int32} {x2 : Int32}  {M : Mem} {r : Int32 × Mem}  (h : f_X7_at  x0 x1 x2 M = some r) : Ok l yX7_at cX7_at 4 (some .int) 1 [.ref (B + x0), .int x1, .int x2] D B ca st M (some (.int r.1)) r.2 := by
  have hk0 := ck_X7_at h
  unfold f_X7_at at h
  have h := ip hk0 h
  refine ok_of rfl rfl (Nat.le_of_ble_eq_true rfl) ?_
  intro p e s m args below meth c ls C hl hR hS
  have hl : lv_has ls 4 [(0, .ref (B + x0)), (1, .int x1), (2, .int x2)] := hl
  have hx := C.1
  have hb := C.2.1
  refine lv_aload_n hx hb dX7_at_0 rfl (lv_at hl 0 rfl) ?_
  refine lv_iload_n hx hb dX7_at_1 rfl (lv_at hl 1 rfl) ?_
  obtain ⟨v2, zqe1, h⟩ := ob h
  refine rc_V C hR hS cf_X7_rowOf cv_X7_rowOf lk375 (ok_X7_rowOf zqe1) (ck_X7_rowOf zqe1) ⟨Nat.le_of_ble_eq_true rfl, Nat.le_of_ble_eq_true rfl⟩ ⟨Nat.zero_le _, Nat.zero_le _⟩ rfl rfl hl.1 (Nat.le_of_ble_eq_true rfl) dX7_at_2 (rc_k1 (fun H locs hR hS => ?_))
  refine rc_nul (fun zqz3 => ?_) (fun zqz3 => ?_)
  · have h := ip zqz3 h
    refine lv_astore_nN (lv' := [(3, .null), (0, .ref (B + x0)), (1, .int x1), (2, .int x2)]) hx hb dX7_at_5 rfl hl (by decide) rfl (fun ls hl => ?_)
    refine lv_aload_nN hx hb dX7_at_6 rfl (lv_at hl 0 rfl) ?_
    refine lv_ifnonnullN hx hb dX7_at_7 ?_
    refine lv_iconst (v := (-1)) hx hb dX7_at_10 (by decide) ?_
    cases h
    exact rr_I C hR hS dX7_at_11
  · have h := iq zqz3 h
    refine lv_astore_n (lv' := [(3, .ref (B + v2)), (0, .ref (B + x0)), (1, .int x1), (2, .int x2)]) hx hb dX7_at_5 rfl hl (by decide) rfl (fun ls hl => ?_)
    refine lv_aload_n hx hb dX7_at_6 rfl (lv_at hl 0 rfl) ?_
    refine lv_ifnonnull (tgt := 12) hx hb dX7_at_7 (by decide) ?_
    refine lv_aload_n hx hb dX7_at_12 rfl (lv_at hl 0 rfl) ?_
    obtain ⟨v5, zqe4, h⟩ := ob h
    refine rc_VN C hR hS cf_X4_isMissing cv_X4_isMissing lk394 (ok_X4_isMissing zqe4) (ck_X4_isMissing zqe4) ⟨Nat.le_of_ble_eq_true rfl, Nat.le_of_ble_eq_true rfl⟩ ⟨Nat.zero_le _, Nat.zero_le _⟩ rfl rfl hl.1 (Nat.le_of_ble_eq_true rfl) dX7_at_13 (rc_k1 (fun H locs hR hS => ?_))
    refine lv_if_eq (tgt := 25) hx hb dX7_at_16 (by decide) (fun c => ?_) (fun c => ?_)
    · have h := ip c h
      refine lv_aload_n hx hb dX7_at_25 rfl (lv_at hl 0 rfl) ?_
      refine lv_iload_n hx hb dX7_at_26 rfl (lv_at hl 3 rfl) ?_
      obtain ⟨v7, zqe6, h⟩ := ob h
      refine rc_VN C hR hS cf_X4_has cv_X4_has lk398 (ok_X4_has zqe6) (ck_X4_has zqe6) ⟨Nat.le_of_ble_eq_true rfl, Nat.le_of_ble_eq_true rfl⟩ ⟨Nat.zero_le _, Nat.zero_le _⟩ rfl rfl hl.1 (Nat.le_of_ble_eq_true rfl) dX7_at_27 (rc_k1 (fun H locs hR hS => ?_))
      refine lv_if_ne (tgt := 39) hx hb dX7_at_30 (by decide) (fun c => ?_) (fun c => ?_)
      · have h := iq c h
        refine lv_aload_n hx hb dX7_at_39 rfl (lv_at hl 1 rfl) ?_
        refine lv_aload_n hx hb dX7_at_40 rfl (lv_at hl 0 rfl) ?_
        obtain ⟨v8, zqe9, h⟩ := ob h
        refine gf302 C hR zqe9 dX7_at_41 ?_
        refine lv_iload_n hx hb dX7_at_44 rfl (lv_at hl 3 rfl) ?_
        obtain ⟨v10, zqe11, h⟩ := ob h
        refine ra_I C hR zqe11 dX7_at_45 ?_
        obtain ⟨M12, zqe13, h⟩ := ob h
        refine pf335 C hR hS zqe13 dX7_at_46 (fun H locs hR hS => ?_)
        refine lv_iconst (v := 1) hx hb dX7_at_49 (by decide) ?_
        cases h
        exact rr_I C hR hS dX7_at_50
      · have h := ip c h
        refine lv_aload_n hx hb dX7_at_33 rfl (lv_at hl 1 rfl) ?_
        refine lv_iconst (v := 2) hx hb dX7_at_34 (by decide) ?_
        obtain ⟨qv15, zqe14, h⟩ := ob h
        refine rc_V C hR hS cf_X7_refuse cv_X7_refuse lk379 (ok_X7_refuse zqe14) (ck_X7_refuse zqe14) ⟨Nat.le_of_ble_eq_true rfl, Nat.le_of_ble_eq_true rfl⟩ ⟨Nat.zero_le _, Nat.zero_le _⟩ rfl rfl hl.1 (Nat.le_of_ble_eq_true rfl) dX7_at_35 (rc_k1 (fun H locs hR hS => ?_))
        cases h
        exact rr_I C hR hS dX7_at_38
    · have h := iq c h
      refine lv_aload_n hx hb dX7_at_19 rfl (lv_at hl 1 rfl) ?_
      refine lv_iconst (v := 1) hx hb dX7_at_20 (by decide) ?_
      obtain ⟨qv18, zqe17, h⟩ := ob h
      refine rc_V C hR hS cf_X7_refuse cv_X7_refuse lk379 (ok_X7_refuse zqe17) (ck_X7_refuse zqe17) ⟨Nat.le_of_ble_eq_true rfl, Nat.le_of_ble_eq_true rfl⟩ ⟨Nat.zero_le _, Nat.zero_le _⟩ rfl rfl hl.1 (Nat.le_of_ble_eq_true rfl) dX7_at_21 (rc_k1 (fun H locs hR hS => ?_))
      cases h
      exact rr_I C hR hS dX7_at_24
theorem ck_X2_hasSigher  {x0 : Nat} {x1 : Int32} {M : Mem} {r : Int32} (h : f_X2_hasSigher  x0 x1 M = some r) : kd M x0 = 12 := by
  unfold f_X2_hasSigher at h
  exact ck h
set_option maxHeartbeats 4000000 in
set_option maxRecDepth 100000 in
theorem ok_X2_hasSigher  {x0 : Nat} {x1 : Int32}  {M : Mem} {r : Int32}  (h : f_X2_hasSigher  x0 x1 M = some r) : Ok l yX2_hasSigher cX2_hasSigher 2 (some .boolean) 0 [.ref (B + x0), .int x1] D B ca st M (some (.int r)) M := by
  have hk0 := ck_X2_hasSigher h
  unfold f_X2_hasSigher at h
  have h := ip hk0 h
  refine ok_of rfl rfl (Nat.le_of_ble_eq_true rfl) ?_
  intro p e s m args below meth c ls C hl hR hS
  have hl : lv_has ls 2 [(0, .ref (B + x0)), (1, .int x1)] := hl
  have hx := C.1
  have hb := C.2.1
  refine lv_iload_n hx hb dX2_hasSigher_0 rfl (lv_at hl 1 rfl) ?_
  refine lv_if_lt (tgt := 16) hx hb dX2_hasSigher_1 (by decide) (fun c => ?_) (fun c => ?_)
  · have h := ip c h
    refine lv_iconst (v := 0) hx hb dX2_hasSigher_16 (by decide) ?_
    cases h
    exact rr_Z (v := 0) C hR hS (by decide) dX2_hasSigher_17
  · have h := iq c h
    refine lv_iload_n hx hb dX2_hasSigher_4 rfl (lv_at hl 1 rfl) ?_
    refine lv_aload_n hx hb dX2_hasSigher_5 rfl (lv_at hl 0 rfl) ?_
    obtain ⟨v1, zqe2, h⟩ := ob h
    refine gf151 C hR zqe2 dX2_hasSigher_6 ?_
    refine lv_icmp_ge (tgt := 16) hx hb dX2_hasSigher_9 (by decide) (fun c => ?_) (fun c => ?_)
    · have h := ip c h
      refine lv_iconst (v := 0) hx hb dX2_hasSigher_16 (by decide) ?_
      cases h
      exact rr_Z (v := 0) C hR hS (by decide) dX2_hasSigher_17
    · have h := iq c h
      refine lv_iconst (v := 1) hx hb dX2_hasSigher_12 (by decide) ?_
      refine lv_goto (tgt := 17) hx hb dX2_hasSigher_13 (by decide) ?_
      cases h
      exact rr_Z (v := 1) C hR hS (by decide) dX2_hasSigher_17
theorem ck_X2_hasOrder  {x0 : Nat} {x1 : Int32} {M : Mem} {r : Int32} (h : f_X2_hasOrder  x0 x1 M = some r) : kd M x0 = 12 := by
  unfold f_X2_hasOrder at h
  exact ck h
set_option maxHeartbeats 4000000 in
set_option maxRecDepth 100000 in
theorem ok_X2_hasOrder  {x0 : Nat} {x1 : Int32}  {M : Mem} {r : Int32}  (h : f_X2_hasOrder  x0 x1 M = some r) : Ok l yX2_hasOrder cX2_hasOrder 2 (some .boolean) 0 [.ref (B + x0), .int x1] D B ca st M (some (.int r)) M := by
  have hk0 := ck_X2_hasOrder h
  unfold f_X2_hasOrder at h
  have h := ip hk0 h
  refine ok_of rfl rfl (Nat.le_of_ble_eq_true rfl) ?_
  intro p e s m args below meth c ls C hl hR hS
  have hl : lv_has ls 2 [(0, .ref (B + x0)), (1, .int x1)] := hl
  have hx := C.1
  have hb := C.2.1
  refine lv_iload_n hx hb dX2_hasOrder_0 rfl (lv_at hl 1 rfl) ?_
  refine lv_if_lt (tgt := 16) hx hb dX2_hasOrder_1 (by decide) (fun c => ?_) (fun c => ?_)
  · have h := ip c h
    refine lv_iconst (v := 0) hx hb dX2_hasOrder_16 (by decide) ?_
    cases h
    exact rr_Z (v := 0) C hR hS (by decide) dX2_hasOrder_17
  · have h := iq c h
    refine lv_iload_n hx hb dX2_hasOrder_4 rfl (lv_at hl 1 rfl) ?_
    refine lv_aload_n hx hb dX2_hasOrder_5 rfl (lv_at hl 0 rfl) ?_
    obtain ⟨v1, zqe2, h⟩ := ob h
    refine gf155 C hR zqe2 dX2_hasOrder_6 ?_
    refine lv_icmp_ge (tgt := 16) hx hb dX2_hasOrder_9 (by decide) (fun c => ?_) (fun c => ?_)
    · have h := ip c h
      refine lv_iconst (v := 0) hx hb dX2_hasOrder_16 (by decide) ?_
      cases h
      exact rr_Z (v := 0) C hR hS (by decide) dX2_hasOrder_17
    · have h := iq c h
      refine lv_iconst (v := 1) hx hb dX2_hasOrder_12 (by decide) ?_
      refine lv_goto (tgt := 17) hx hb dX2_hasOrder_13 (by decide) ?_
      cases h
      exact rr_Z (v := 1) C hR hS (by decide) dX2_hasOrder_17
set_option maxHeartbeats 4000000 in
set_option maxRecDepth 100000 in
theorem ok_X7_isKind (x0 : Int32) {M : Mem} : Ok l yX7_isKind cX7_isKind 1 (some .boolean) 0 [.int x0] D B ca st M (some (.int (f_X7_isKind  x0))) M := by
  obtain ⟨r, h⟩ : ∃ r, f_X7_isKind  x0 = r := ⟨_, rfl⟩
  rw [h]
  unfold f_X7_isKind at h
  refine ok_of rfl rfl (Nat.le_of_ble_eq_true rfl) ?_
  intro p e s m args below meth c ls C hl hR hS
  have hl : lv_has ls 1 [(0, .int x0)] := hl
  have hx := C.1
  have hb := C.2.1
  refine lv_iload_n hx hb dX7_isKind_0 rfl (lv_at hl 0 rfl) ?_
  refine lv_if_lt (tgt := 13) hx hb dX7_isKind_1 (by decide) (fun c => ?_) (fun c => ?_)
  · have h := ip c h
    refine lv_iconst (v := 0) hx hb dX7_isKind_13 (by decide) ?_
    subst h
    exact rr_Z (v := 0) C hR hS (by decide) dX7_isKind_14
  · have h := iq c h
    refine lv_iload_n hx hb dX7_isKind_4 rfl (lv_at hl 0 rfl) ?_
    refine lv_iconst (v := 5) hx hb dX7_isKind_5 (by decide) ?_
    refine lv_icmp_gt (tgt := 13) hx hb dX7_isKind_6 (by decide) (fun c => ?_) (fun c => ?_)
    · have h := ip c h
      refine lv_iconst (v := 0) hx hb dX7_isKind_13 (by decide) ?_
      subst h
      exact rr_Z (v := 0) C hR hS (by decide) dX7_isKind_14
    · have h := iq c h
      refine lv_iconst (v := 1) hx hb dX7_isKind_9 (by decide) ?_
      refine lv_goto (tgt := 14) hx hb dX7_isKind_10 (by decide) ?_
      subst h
      exact rr_Z (v := 1) C hR hS (by decide) dX7_isKind_14
set_option maxHeartbeats 4000000 in
set_option maxRecDepth 100000 in
theorem w_X7_isOf_4    {M : Mem} {r : Int32} (C : Cx p s m args meth c RX7 cX7_isOf 4 (some .boolean) D B ca st)   : ∀ (n : Nat) {x1 : Int32} {x2 : Int32} {x3 : Int32}, f_X7_isOf_4  n x1 x2 x3 = some r → ∀ {H : Heap} {locs : List Loc} {ls : Array Slot}, RH D B ca M H → va_S (AA B) s.heap H locs → lv_has ls 4 [(1, .int x1), (2, .int x2), (3, .int x3)] → W p l e (rmD 1) s m args below meth c H locs 0 0 (MQ below (Qp D B ca st (some (.int r)) M) args s 0 0 (AA B)) (F0 m 4 ls []) := by
  have hx := C.1
  have hb := C.2.1
  intro n
  induction n with
  | zero => intro x1 x2 x3 h; simp [f_X7_isOf_4] at h
  | succ n ih =>
    intro x1 x2 x3 h H locs ls hR hS hl
    rw [f_X7_isOf_4] at h
    refine lv_iload_n hx hb dX7_isOf_4 rfl (lv_at hl 2 rfl) ?_
    refine lv_iconst (v := 5) hx hb dX7_isOf_5 (by decide) ?_
    refine lv_icmp_gt (tgt := 35) hx hb dX7_isOf_6 (by decide) (fun c => ?_) (fun c => ?_)
    · have h := ip c h
      refine lv_iconst (v := 0) hx hb dX7_isOf_35 (by decide) ?_
      cases h
      exact rr_Z (v := 0) C hR hS (by decide) dX7_isOf_36
    · have h := iq c h
      refine lv_iload_n hx hb dX7_isOf_9 rfl (lv_at hl 1 rfl) ?_
      refine rc_S C hR hS cf_X7_isKind cs_X7_isKind lk504 (ok_X7_isKind x2) ⟨Nat.le_of_ble_eq_true rfl, Nat.le_of_ble_eq_true rfl⟩ ⟨Nat.zero_le _, Nat.zero_le _⟩ rfl rfl hl.1 (Nat.le_of_ble_eq_true rfl) dX7_isOf_10 (rc_k1 (fun H locs hR hS => ?_))
      refine lv_if_eq (tgt := 35) hx hb dX7_isOf_13 (by decide) (fun c => ?_) (fun c => ?_)
      · have h := ip c h
        refine lv_iconst (v := 0) hx hb dX7_isOf_35 (by decide) ?_
        cases h
        exact rr_Z (v := 0) C hR hS (by decide) dX7_isOf_36
      · have h := iq c h
        refine lv_iload_n hx hb dX7_isOf_16 rfl (lv_at hl 1 rfl) ?_
        refine lv_iload_n hx hb dX7_isOf_17 rfl (lv_at hl 0 rfl) ?_
        refine lv_icmp_ne (tgt := 23) hx hb dX7_isOf_18 (by decide) (fun c => ?_) (fun c => ?_)
        · have h := iq c h
          refine rs_T C hS (t := 1) (by decide) (Or.inl lk512) dX7_isOf_23 ?_
          refine lv_iload_n hx hb dX7_isOf_26 rfl (lv_at hl 1 rfl) ?_
          obtain ⟨v2, zqe3, h⟩ := ob h
          refine rs_A C hS (t := 1) (by decide) zqe3 dX7_isOf_27 ?_
          refine lv_istore_n (lv' := [(2, .int v2), (1, .int x1), (3, .int x3)]) hx hb dX7_isOf_28 rfl hl (by decide) rfl (fun ls hl => ?_)
          refine lv_iinc (v := (x3 + 1)) (lv' := [(3, .int (x3 + 1)), (2, .int v2), (1, .int x1)]) hx hb dX7_isOf_29 hl (k := 2) rfl rfl (by decide) rfl (fun ls hl => ?_)
          refine lv_goto (tgt := 4) hx hb dX7_isOf_32 (by decide) ?_
          exact ih h hR hS (lv_sub hl [2, 1, 0] rfl)
        · have h := ip c h
          refine lv_iconst (v := 1) hx hb dX7_isOf_21 (by decide) ?_
          cases h
          exact rr_Z (v := 1) C hR hS (by decide) dX7_isOf_22
set_option maxHeartbeats 4000000 in
set_option maxRecDepth 100000 in
theorem ok_X7_isOf  {x0 : Int32} {x1 : Int32}  {M : Mem} {r : Int32}  (h : f_X7_isOf  x0 x1 = some r) : Ok l yX7_isOf cX7_isOf 4 (some .boolean) 1 [.int x0, .int x1] D B ca st M (some (.int r)) M := by
  unfold f_X7_isOf at h
  refine ok_of rfl rfl (Nat.le_of_ble_eq_true rfl) ?_
  intro p e s m args below meth c ls C hl hR hS
  have hl : lv_has ls 4 [(0, .int x0), (1, .int x1)] := hl
  have hx := C.1
  have hb := C.2.1
  refine lv_iload_n hx hb dX7_isOf_0 rfl (lv_at hl 0 rfl) ?_
  refine lv_istore_n (lv' := [(2, .int x0), (0, .int x0), (1, .int x1)]) hx hb dX7_isOf_1 rfl hl (by decide) rfl (fun ls hl => ?_)
  refine lv_iconst (v := 0) hx hb dX7_isOf_2 (by decide) ?_
  refine lv_istore_n (lv' := [(3, .int 0), (2, .int x0), (0, .int x0), (1, .int x1)]) hx hb dX7_isOf_3 rfl hl (by decide) rfl (fun ls hl => ?_)
  exact w_X7_isOf_4 C  FU h hR hS (lv_sub hl [3, 1, 0] rfl)
set_option maxHeartbeats 4000000 in
set_option maxRecDepth 100000 in
theorem ok_X7_isTooDeep  {x0 : Int32} {x1 : Int32}  {M : Mem} {r : Int32}  (h : f_X7_isTooDeep  x0 x1 = some r) : Ok l yX7_isTooDeep cX7_isTooDeep 2 (some .boolean) 1 [.int x0, .int x1] D B ca st M (some (.int r)) M := by
  unfold f_X7_isTooDeep at h
  refine ok_of rfl rfl (Nat.le_of_ble_eq_true rfl) ?_
  intro p e s m args below meth c ls C hl hR hS
  have hl : lv_has ls 2 [(0, .int x0), (1, .int x1)] := hl
  have hx := C.1
  have hb := C.2.1
  refine lv_iload_n hx hb dX7_isTooDeep_0 rfl (lv_at hl 0 rfl) ?_
  refine rc_S C hR hS cf_X7_isKind cs_X7_isKind lk504 (ok_X7_isKind x0) ⟨Nat.le_of_ble_eq_true rfl, Nat.le_of_ble_eq_true rfl⟩ ⟨Nat.zero_le _, Nat.zero_le _⟩ rfl rfl hl.1 (Nat.le_of_ble_eq_true rfl) dX7_isTooDeep_1 (rc_k1 (fun H locs hR hS => ?_))
  refine lv_if_eq (tgt := 20) hx hb dX7_isTooDeep_4 (by decide) (fun c => ?_) (fun c => ?_)
  · have h := ip c h
    refine lv_iconst (v := 0) hx hb dX7_isTooDeep_20 (by decide) ?_
    cases h
    exact rr_Z (v := 0) C hR hS (by decide) dX7_isTooDeep_21
  · have h := iq c h
    refine lv_iload_n hx hb dX7_isTooDeep_7 rfl (lv_at hl 1 rfl) ?_
    refine rs_T C hS (t := 2) (by decide) (Or.inl lk507) dX7_isTooDeep_8 ?_
    refine lv_iload_n hx hb dX7_isTooDeep_11 rfl (lv_at hl 0 rfl) ?_
    obtain ⟨v2, zqe3, h⟩ := ob h
    refine rs_A C hS (t := 2) (by decide) zqe3 dX7_isTooDeep_12 ?_
    refine lv_icmp_le (tgt := 20) hx hb dX7_isTooDeep_13 (by decide) (fun c => ?_) (fun c => ?_)
    · have h := ip c h
      refine lv_iconst (v := 0) hx hb dX7_isTooDeep_20 (by decide) ?_
      cases h
      exact rr_Z (v := 0) C hR hS (by decide) dX7_isTooDeep_21
    · have h := iq c h
      refine lv_iconst (v := 1) hx hb dX7_isTooDeep_16 (by decide) ?_
      refine lv_goto (tgt := 21) hx hb dX7_isTooDeep_17 (by decide) ?_
      cases h
      exact rr_Z (v := 1) C hR hS (by decide) dX7_isTooDeep_21
set_option maxHeartbeats 4000000 in
set_option maxRecDepth 100000 in
theorem ok_X7_breathByKind  {x0 : Int32} {x1 : Int32}  {M : Mem} {r : Int32}  (h : f_X7_breathByKind  x0 x1 = some r) : Ok l yX7_breathByKind cX7_breathByKind 2 (some .int) 2 [.int x0, .int x1] D B ca st M (some (.int r)) M := by
  unfold f_X7_breathByKind at h
  refine ok_of rfl rfl (Nat.le_of_ble_eq_true rfl) ?_
  intro p e s m args below meth c ls C hl hR hS
  have hl : lv_has ls 2 [(0, .int x0), (1, .int x1)] := hl
  have hx := C.1
  have hb := C.2.1
  refine lv_iload_n hx hb dX7_breathByKind_0 rfl (lv_at hl 0 rfl) ?_
  refine lv_iload_n hx hb dX7_breathByKind_1 rfl (lv_at hl 1 rfl) ?_
  obtain ⟨v2, zqe1, h⟩ := ob h
  refine rc_S C hR hS cf_X7_isTooDeep cs_X7_isTooDeep lk501 (ok_X7_isTooDeep zqe1) ⟨Nat.le_of_ble_eq_true rfl, Nat.le_of_ble_eq_true rfl⟩ ⟨Nat.zero_le _, Nat.zero_le _⟩ rfl rfl hl.1 (Nat.le_of_ble_eq_true rfl) dX7_breathByKind_2 (rc_k1 (fun H locs hR hS => ?_))
  refine lv_if_eq (tgt := 11) hx hb dX7_breathByKind_5 (by decide) (fun c => ?_) (fun c => ?_)
  · have h := ip c h
    refine lv_iload_n hx hb dX7_breathByKind_11 rfl (lv_at hl 0 rfl) ?_
    refine lv_iconst (v := 3) hx hb dX7_breathByKind_12 (by decide) ?_
    obtain ⟨v4, zqe3, h⟩ := ob h
    refine rc_S C hR hS cf_X7_isOf cs_X7_isOf lk509 (ok_X7_isOf zqe3) ⟨Nat.le_of_ble_eq_true rfl, Nat.le_of_ble_eq_true rfl⟩ ⟨Nat.zero_le _, Nat.zero_le _⟩ rfl rfl hl.1 (Nat.le_of_ble_eq_true rfl) dX7_breathByKind_13 (rc_k1 (fun H locs hR hS => ?_))
    refine lv_if_eq (tgt := 21) hx hb dX7_breathByKind_16 (by decide) (fun c => ?_) (fun c => ?_)
    · have h := ip c h
      refine lv_iload_n hx hb dX7_breathByKind_21 rfl (lv_at hl 0 rfl) ?_
      refine lv_iconst (v := 1) hx hb dX7_breathByKind_22 (by decide) ?_
      obtain ⟨v6, zqe5, h⟩ := ob h
      refine rc_S C hR hS cf_X7_isOf cs_X7_isOf lk509 (ok_X7_isOf zqe5) ⟨Nat.le_of_ble_eq_true rfl, Nat.le_of_ble_eq_true rfl⟩ ⟨Nat.zero_le _, Nat.zero_le _⟩ rfl rfl hl.1 (Nat.le_of_ble_eq_true rfl) dX7_breathByKind_23 (rc_k1 (fun H locs hR hS => ?_))
      refine lv_if_eq (tgt := 39) hx hb dX7_breathByKind_26 (by decide) (fun c => ?_) (fun c => ?_)
      · have h := ip c h
        refine lv_iload_n hx hb dX7_breathByKind_39 rfl (lv_at hl 1 rfl) ?_
        cases h
        exact rr_I C hR hS dX7_breathByKind_40
      · have h := iq c h
        refine lv_iconst (v := 1) hx hb dX7_breathByKind_29 (by decide) ?_
        refine lv_iload_n hx hb dX7_breathByKind_30 rfl (lv_at hl 1 rfl) ?_
        refine lv_iconst (v := 2) hx hb dX7_breathByKind_31 (by decide) ?_
        refine lv_idiv hx hb dX7_breathByKind_32 (by decide) ?_
        refine rm_max C lk514 hl.1 ⟨Nat.le_of_ble_eq_true rfl, Nat.le_of_ble_eq_true rfl⟩ ⟨Nat.zero_le _, Nat.zero_le _⟩ dX7_breathByKind_33 ?_
        refine lv_goto (tgt := 40) hx hb dX7_breathByKind_36 (by decide) ?_
        cases h
        exact rr_I C hR hS dX7_breathByKind_40
    · have h := iq c h
      refine lv_iconst (v := 0) hx hb dX7_breathByKind_19 (by decide) ?_
      cases h
      exact rr_I C hR hS dX7_breathByKind_20
  · have h := iq c h
    refine lv_bipush (v := (-9)) hx hb dX7_breathByKind_8 (by decide) ?_
    cases h
    exact rr_I C hR hS dX7_breathByKind_10
set_option maxHeartbeats 4000000 in
set_option maxRecDepth 100000 in
theorem w_X7_breathOfPairs_5    {r : Int32} (C : Cx p s m args meth c RX7 cX7_breathOfPairs 7 (some .int) D B ca st)   : ∀ (n : Nat) {x0 : Nat} {x1 : Nat} {x2 : Int32} {x3 : Int32} {x4 : Int32} {M : Mem}, f_X7_breathOfPairs_5  n x0 x1 x2 x3 x4 M = some r → ∀ {H : Heap} {locs : List Loc} {ls : Array Slot}, RH D B ca M H → va_S (AA B) s.heap H locs → lv_has ls 7 [(0, .ref (B + x0)), (1, .ref (B + x1)), (2, .int x2), (3, .int x3), (4, .int x4)] → W p l e (rmD 3) s m args below meth c H locs 0 0 (MQ below (Qp D B ca st (some (.int r)) M) args s 0 0 (AA B)) (F0 m 5 ls []) := by
  have hx := C.1
  have hb := C.2.1
  intro n
  induction n with
  | zero => intro x0 x1 x2 x3 x4 M h; simp [f_X7_breathOfPairs_5] at h
  | succ n ih =>
    intro x0 x1 x2 x3 x4 M h H locs ls hR hS hl
    rw [f_X7_breathOfPairs_5] at h
    refine lv_iload hx hb dX7_breathOfPairs_5 (lv_at hl 4 rfl) ?_
    refine lv_iconst (v := 1) hx hb dX7_breathOfPairs_7 (by decide) ?_
    refine lv_iadd hx hb dX7_breathOfPairs_8 ?_
    refine lv_aload_n hx hb dX7_breathOfPairs_9 rfl (lv_at hl 1 rfl) ?_
    obtain ⟨v1, zqe2, h⟩ := ob h
    refine gf304 C hR zqe2 dX7_breathOfPairs_10 ?_
    refine lv_icmp_ge (tgt := 81) hx hb dX7_breathOfPairs_13 (by decide) (fun c => ?_) (fun c => ?_)
    · have h := ip c h
      refine lv_iload_n hx hb dX7_breathOfPairs_81 rfl (lv_at hl 3 rfl) ?_
      cases h
      exact rr_I C hR hS dX7_breathOfPairs_82
    · have h := iq c h
      refine lv_aload_n hx hb dX7_breathOfPairs_16 rfl (lv_at hl 1 rfl) ?_
      obtain ⟨v3, zqe4, h⟩ := ob h
      refine gf302 C hR zqe4 dX7_breathOfPairs_17 ?_
      refine lv_iload hx hb dX7_breathOfPairs_20 (lv_at hl 4 rfl) ?_
      obtain ⟨v5, zqe6, h⟩ := ob h
      refine ra_I C hR zqe6 dX7_breathOfPairs_22 ?_
      refine lv_istore (lv' := [(5, .int v5), (0, .ref (B + x0)), (1, .ref (B + x1)), (2, .int x2), (3, .int x3), (4, .int x4)]) hx hb dX7_breathOfPairs_23 hl (by decide) rfl (fun ls hl => ?_)
      refine lv_aload_n hx hb dX7_breathOfPairs_25 rfl (lv_at hl 2 rfl) ?_
      obtain ⟨v7, zqe8, h⟩ := ob h
      refine gf302 C hR zqe8 dX7_breathOfPairs_26 ?_
      refine lv_iload hx hb dX7_breathOfPairs_29 (lv_at hl 5 rfl) ?_
      refine lv_iconst (v := 1) hx hb dX7_breathOfPairs_31 (by decide) ?_
      refine lv_iadd hx hb dX7_breathOfPairs_32 ?_
      obtain ⟨v9, zqe10, h⟩ := ob h
      refine ra_I C hR zqe10 dX7_breathOfPairs_33 ?_
      refine lv_istore (lv' := [(6, .int v9), (5, .int v5), (0, .ref (B + x0)), (1, .ref (B + x1)), (2, .int x2), (3, .int x3), (4, .int x4)]) hx hb dX7_breathOfPairs_34 hl (by decide) rfl (fun ls hl => ?_)
      refine lv_aload_n hx hb dX7_breathOfPairs_36 rfl (lv_at hl 2 rfl) ?_
      obtain ⟨v11, zqe12, h⟩ := ob h
      refine gf327 C hR zqe12 dX7_breathOfPairs_37 ?_
      refine lv_iload hx hb dX7_breathOfPairs_40 (lv_at hl 1 rfl) ?_
      obtain ⟨v14, zqe13, h⟩ := ob h
      refine rc_VN C hR hS cf_X2_hasOrder cv_X2_hasOrder lk575 (ok_X2_hasOrder zqe13) (ck_X2_hasOrder zqe13) ⟨Nat.le_of_ble_eq_true rfl, Nat.le_of_ble_eq_true rfl⟩ ⟨Nat.zero_le _, Nat.zero_le _⟩ rfl rfl hl.1 (Nat.le_of_ble_eq_true rfl) dX7_breathOfPairs_42 (rc_k1 (fun H locs hR hS => ?_))
      refine lv_if_eq (tgt := 67) hx hb dX7_breathOfPairs_45 (by decide) (fun c => ?_) (fun c => ?_)
      · have h := ip c h
        refine lv_bipush (v := (-9)) hx hb dX7_breathOfPairs_67 (by decide) ?_
        cases h
        exact rr_I C hR hS dX7_breathOfPairs_69
      · have h := iq c h
        refine lv_iload_n hx hb dX7_breathOfPairs_48 rfl (lv_at hl 4 rfl) ?_
        refine lv_aload_n hx hb dX7_breathOfPairs_49 rfl (lv_at hl 2 rfl) ?_
        obtain ⟨v15, zqe16, h⟩ := ob h
        refine gf327 C hR zqe16 dX7_breathOfPairs_50 ?_
        obtain ⟨v17, zqe18, h⟩ := ob h
        refine gf169 C hR zqe18 dX7_breathOfPairs_53 ?_
        refine lv_iload hx hb dX7_breathOfPairs_56 (lv_at hl 1 rfl) ?_
        obtain ⟨v19, zqe20, h⟩ := ob h
        refine ra_I C hR zqe20 dX7_breathOfPairs_58 ?_
        obtain ⟨v22, zqe21, h⟩ := ob h
        refine rc_S C hR hS cf_X7_breathByKind cs_X7_breathByKind lk821 (ok_X7_breathByKind zqe21) ⟨Nat.le_of_ble_eq_true rfl, Nat.le_of_ble_eq_true rfl⟩ ⟨Nat.zero_le _, Nat.zero_le _⟩ rfl rfl hl.1 (Nat.le_of_ble_eq_true rfl) dX7_breathOfPairs_59 (rc_k1 (fun H locs hR hS => ?_))
        refine lv_iload hx hb dX7_breathOfPairs_62 (lv_at hl 0 rfl) ?_
        refine lv_icmp_eq (tgt := 70) hx hb dX7_breathOfPairs_64 (by decide) (fun c => ?_) (fun c => ?_)
        · have h := ip c h
          refine lv_iload_n hx hb dX7_breathOfPairs_70 rfl (lv_at hl 5 rfl) ?_
          refine lv_iload hx hb dX7_breathOfPairs_71 (lv_at hl 0 rfl) ?_
          refine lv_iadd hx hb dX7_breathOfPairs_73 ?_
          refine lv_istore_n (lv' := [(3, .int (x3 + v9)), (6, .int v9), (5, .int v5), (0, .ref (B + x0)), (1, .ref (B + x1)), (2, .int x2), (4, .int x4)]) hx hb dX7_breathOfPairs_74 rfl hl (by decide) rfl (fun ls hl => ?_)
          refine lv_iinc (v := (x4 + 2)) (lv' := [(4, .int (x4 + 2)), (3, .int (x3 + v9)), (6, .int v9), (5, .int v5), (0, .ref (B + x0)), (1, .ref (B + x1)), (2, .int x2)]) hx hb dX7_breathOfPairs_75 hl (k := 6) rfl rfl (by decide) rfl (fun ls hl => ?_)
          refine lv_goto (tgt := 5) hx hb dX7_breathOfPairs_78 (by decide) ?_
          exact ih h hR hS (lv_sub hl [4, 5, 6, 1, 0] rfl)
        · have h := iq c h
          refine lv_bipush (v := (-9)) hx hb dX7_breathOfPairs_67 (by decide) ?_
          cases h
          exact rr_I C hR hS dX7_breathOfPairs_69
theorem ck_X7_breathOfPairs  {x0 : Nat} {x1 : Nat} {x2 : Int32} {M : Mem} {r : Int32} (h : f_X7_breathOfPairs  x0 x1 x2 M = some r) : kd M x0 = 17 := by
  unfold f_X7_breathOfPairs at h
  exact ck h
set_option maxHeartbeats 4000000 in
set_option maxRecDepth 100000 in
theorem ok_X7_breathOfPairs  {x0 : Nat} {x1 : Nat} {x2 : Int32}  {M : Mem} {r : Int32}  (h : f_X7_breathOfPairs  x0 x1 x2 M = some r) : Ok l yX7_breathOfPairs cX7_breathOfPairs 7 (some .int) 3 [.ref (B + x0), .ref (B + x1), .int x2] D B ca st M (some (.int r)) M := by
  have hk0 := ck_X7_breathOfPairs h
  unfold f_X7_breathOfPairs at h
  have h := ip hk0 h
  refine ok_of rfl rfl (Nat.le_of_ble_eq_true rfl) ?_
  intro p e s m args below meth c ls C hl hR hS
  have hl : lv_has ls 7 [(0, .ref (B + x0)), (1, .ref (B + x1)), (2, .int x2)] := hl
  have hx := C.1
  have hb := C.2.1
  refine lv_iconst (v := 0) hx hb dX7_breathOfPairs_0 (by decide) ?_
  refine lv_istore_n (lv' := [(3, .int 0), (0, .ref (B + x0)), (1, .ref (B + x1)), (2, .int x2)]) hx hb dX7_breathOfPairs_1 rfl hl (by decide) rfl (fun ls hl => ?_)
  refine lv_iconst (v := 0) hx hb dX7_breathOfPairs_2 (by decide) ?_
  refine lv_istore (lv' := [(4, .int 0), (3, .int 0), (0, .ref (B + x0)), (1, .ref (B + x1)), (2, .int x2)]) hx hb dX7_breathOfPairs_3 hl (by decide) rfl (fun ls hl => ?_)
  exact w_X7_breathOfPairs_5 C  FU h hR hS (lv_sub hl [2, 3, 4, 1, 0] rfl)
set_option maxHeartbeats 4000000 in
set_option maxRecDepth 100000 in
theorem w_X7_findingOfPairs_31    {r : Int32} (C : Cx p s m args meth c RX7 cX7_findingOfPairs 4 (some .int) D B ca st)   : ∀ (n : Nat) {x0 : Nat} {x1 : Nat} {x2 : Int32} {M : Mem}, f_X7_findingOfPairs_31  n x0 x1 x2 M = some r → ∀ {H : Heap} {locs : List Loc} {ls : Array Slot}, RH D B ca M H → va_S (AA B) s.heap H locs → lv_has ls 4 [(0, .ref (B + x0)), (1, .ref (B + x1)), (2, .int x2)] → W p l e (rmD 1) s m args below meth c H locs 0 0 (MQ below (Qp D B ca st (some (.int r)) M) args s 0 0 (AA B)) (F0 m 31 ls []) := by
  have hx := C.1
  have hb := C.2.1
  intro n
  induction n with
  | zero => intro x0 x1 x2 M h; simp [f_X7_findingOfPairs_31] at h
  | succ n ih =>
    intro x0 x1 x2 M h H locs ls hR hS hl
    rw [f_X7_findingOfPairs_31] at h
    refine lv_iload_n hx hb dX7_findingOfPairs_31 rfl (lv_at hl 2 rfl) ?_
    refine lv_iconst (v := 1) hx hb dX7_findingOfPairs_32 (by decide) ?_
    refine lv_iadd hx hb dX7_findingOfPairs_33 ?_
    refine lv_aload_n hx hb dX7_findingOfPairs_34 rfl (lv_at hl 1 rfl) ?_
    obtain ⟨v7, zqe8, h⟩ := ob h
    refine gf304 C hR zqe8 dX7_findingOfPairs_35 ?_
    refine lv_icmp_ge (tgt := 84) hx hb dX7_findingOfPairs_38 (by decide) (fun c => ?_) (fun c => ?_)
    · have h := ip c h
      refine lv_iconst (v := 0) hx hb dX7_findingOfPairs_84 (by decide) ?_
      cases h
      exact rr_I C hR hS dX7_findingOfPairs_85
    · have h := iq c h
      refine lv_aload_n hx hb dX7_findingOfPairs_41 rfl (lv_at hl 1 rfl) ?_
      obtain ⟨v9, zqe10, h⟩ := ob h
      refine gf302 C hR zqe10 dX7_findingOfPairs_42 ?_
      refine lv_iload_n hx hb dX7_findingOfPairs_45 rfl (lv_at hl 2 rfl) ?_
      refine lv_iconst (v := 1) hx hb dX7_findingOfPairs_46 (by decide) ?_
      refine lv_iadd hx hb dX7_findingOfPairs_47 ?_
      obtain ⟨v11, zqe12, h⟩ := ob h
      refine ra_I C hR zqe12 dX7_findingOfPairs_48 ?_
      refine lv_istore_n (lv' := [(3, .int v11), (0, .ref (B + x0)), (1, .ref (B + x1)), (2, .int x2)]) hx hb dX7_findingOfPairs_49 rfl hl (by decide) rfl (fun ls hl => ?_)
      refine lv_aload_n hx hb dX7_findingOfPairs_50 rfl (lv_at hl 1 rfl) ?_
      obtain ⟨v13, zqe14, h⟩ := ob h
      refine gf327 C hR zqe14 dX7_findingOfPairs_51 ?_
      refine lv_aload_n hx hb dX7_findingOfPairs_54 rfl (lv_at hl 2 rfl) ?_
      obtain ⟨v15, zqe16, h⟩ := ob h
      refine gf302 C hR zqe16 dX7_findingOfPairs_55 ?_
      refine lv_iload_n hx hb dX7_findingOfPairs_58 rfl (lv_at hl 3 rfl) ?_
      obtain ⟨v17, zqe18, h⟩ := ob h
      refine ra_I C hR zqe18 dX7_findingOfPairs_59 ?_
      obtain ⟨v20, zqe19, h⟩ := ob h
      refine rc_VN C hR hS cf_X2_hasOrder cv_X2_hasOrder lk575 (ok_X2_hasOrder zqe19) (ck_X2_hasOrder zqe19) ⟨Nat.le_of_ble_eq_true rfl, Nat.le_of_ble_eq_true rfl⟩ ⟨Nat.zero_le _, Nat.zero_le _⟩ rfl rfl hl.1 (Nat.le_of_ble_eq_true rfl) dX7_findingOfPairs_60 (rc_k1 (fun H locs hR hS => ?_))
      refine lv_if_eq (tgt := 76) hx hb dX7_findingOfPairs_63 (by decide) (fun c => ?_) (fun c => ?_)
      · have h := ip c h
        refine lv_iconst (v := 3) hx hb dX7_findingOfPairs_76 (by decide) ?_
        cases h
        exact rr_I C hR hS dX7_findingOfPairs_77
      · have h := iq c h
        refine lv_iload_n hx hb dX7_findingOfPairs_66 rfl (lv_at hl 0 rfl) ?_
        refine lv_if_lt (tgt := 76) hx hb dX7_findingOfPairs_67 (by decide) (fun c => ?_) (fun c => ?_)
        · have h := ip c h
          refine lv_iconst (v := 3) hx hb dX7_findingOfPairs_76 (by decide) ?_
          cases h
          exact rr_I C hR hS dX7_findingOfPairs_77
        · have h := iq c h
          refine lv_iload_n hx hb dX7_findingOfPairs_70 rfl (lv_at hl 0 rfl) ?_
          refine lv_bipush (v := 9) hx hb dX7_findingOfPairs_71 (by decide) ?_
          refine lv_icmp_le (tgt := 78) hx hb dX7_findingOfPairs_73 (by decide) (fun c => ?_) (fun c => ?_)
          · have h := ip c h
            refine lv_iinc (v := (x2 + 2)) (lv' := [(2, .int (x2 + 2)), (3, .int v11), (0, .ref (B + x0)), (1, .ref (B + x1))]) hx hb dX7_findingOfPairs_78 hl (k := 3) rfl rfl (by decide) rfl (fun ls hl => ?_)
            refine lv_goto (tgt := 31) hx hb dX7_findingOfPairs_81 (by decide) ?_
            exact ih h hR hS (lv_sub hl [2, 3, 0] rfl)
          · have h := iq c h
            refine lv_iconst (v := 3) hx hb dX7_findingOfPairs_76 (by decide) ?_
            cases h
            exact rr_I C hR hS dX7_findingOfPairs_77
theorem ck_X7_findingOfPairs  {x0 : Nat} {x1 : Nat} {M : Mem} {r : Int32} (h : f_X7_findingOfPairs  x0 x1 M = some r) : kd M x0 = 17 := by
  unfold f_X7_findingOfPairs at h
  exact ck h
set_option maxHeartbeats 4000000 in
set_option maxRecDepth 100000 in
theorem ok_X7_findingOfPairs  {x0 : Nat} {x1 : Nat}  {M : Mem} {r : Int32}  (h : f_X7_findingOfPairs  x0 x1 M = some r) : Ok l yX7_findingOfPairs cX7_findingOfPairs 4 (some .int) 1 [.ref (B + x0), .ref (B + x1)] D B ca st M (some (.int r)) M := by
  have hk0 := ck_X7_findingOfPairs h
  unfold f_X7_findingOfPairs at h
  have h := ip hk0 h
  refine ok_of rfl rfl (Nat.le_of_ble_eq_true rfl) ?_
  intro p e s m args below meth c ls C hl hR hS
  have hl : lv_has ls 4 [(0, .ref (B + x0)), (1, .ref (B + x1))] := hl
  have hx := C.1
  have hb := C.2.1
  refine lv_aload_n hx hb dX7_findingOfPairs_0 rfl (lv_at hl 1 rfl) ?_
  obtain ⟨v2, zqe1, h⟩ := ob h
  refine rc_VN C hR hS cf_X4_isMissing cv_X4_isMissing lk394 (ok_X4_isMissing zqe1) (ck_X4_isMissing zqe1) ⟨Nat.le_of_ble_eq_true rfl, Nat.le_of_ble_eq_true rfl⟩ ⟨Nat.zero_le _, Nat.zero_le _⟩ rfl rfl hl.1 (Nat.le_of_ble_eq_true rfl) dX7_findingOfPairs_1 (rc_k1 (fun H locs hR hS => ?_))
  refine lv_if_eq (tgt := 9) hx hb dX7_findingOfPairs_4 (by decide) (fun c => ?_) (fun c => ?_)
  · have h := ip c h
    refine lv_aload_n hx hb dX7_findingOfPairs_9 rfl (lv_at hl 1 rfl) ?_
    obtain ⟨v3, zqe4, h⟩ := ob h
    refine gf304 C hR zqe4 dX7_findingOfPairs_10 ?_
    refine lv_iconst (v := 2) hx hb dX7_findingOfPairs_13 (by decide) ?_
    refine lv_irem hx hb dX7_findingOfPairs_14 (by decide) ?_
    refine lv_if_ne (tgt := 27) hx hb dX7_findingOfPairs_15 (by decide) (fun c => ?_) (fun c => ?_)
    · have h := iq c h
      refine lv_iconst (v := 5) hx hb dX7_findingOfPairs_27 (by decide) ?_
      cases h
      exact rr_I C hR hS dX7_findingOfPairs_28
    · have h := ip c h
      refine lv_aload_n hx hb dX7_findingOfPairs_18 rfl (lv_at hl 1 rfl) ?_
      obtain ⟨v5, zqe6, h⟩ := ob h
      refine gf304 C hR zqe6 dX7_findingOfPairs_19 ?_
      refine lv_bipush (v := 12) hx hb dX7_findingOfPairs_22 (by decide) ?_
      refine lv_icmp_le (tgt := 29) hx hb dX7_findingOfPairs_24 (by decide) (fun c => ?_) (fun c => ?_)
      · have h := ip c h
        refine lv_iconst (v := 0) hx hb dX7_findingOfPairs_29 (by decide) ?_
        refine lv_istore_n (lv' := [(2, .int 0), (0, .ref (B + x0)), (1, .ref (B + x1))]) hx hb dX7_findingOfPairs_30 rfl hl (by decide) rfl (fun ls hl => ?_)
        exact w_X7_findingOfPairs_31 C  FU h hR hS (lv_sub hl [1, 2, 0] rfl)
      · have h := iq c h
        refine lv_iconst (v := 5) hx hb dX7_findingOfPairs_27 (by decide) ?_
        cases h
        exact rr_I C hR hS dX7_findingOfPairs_28
  · have h := iq c h
    refine lv_iconst (v := 1) hx hb dX7_findingOfPairs_7 (by decide) ?_
    cases h
    exact rr_I C hR hS dX7_findingOfPairs_8
set_option maxHeartbeats 4000000 in
set_option maxRecDepth 100000 in
theorem w_X7_breaths_74    {r : Int32 × Mem} (C : Cx p s m args meth c RX7 cX7_breaths 8 (some .int) D B ca st)   : ∀ (n : Nat) {x6 : Int32} {x7 : Int32} {M : Mem}, f_X7_breaths_74  n x6 x7 M = some r → ∀ {H : Heap} {locs : List Loc} {ls : Array Slot}, RH D B ca M H → va_S (AA B) s.heap H locs → lv_has ls 8 [(6, .int x6), (7, .int x7)] → W p l e (rmD 4) s m args below meth c H locs 0 0 (MQ below (Qp D B ca st (some (.int r.1)) r.2) args s 0 0 (AA B)) (F0 m 74 ls []) := by
  have hx := C.1
  have hb := C.2.1
  intro n
  induction n with
  | zero => intro x6 x7 M h; simp [f_X7_breaths_74] at h
  | succ n ih =>
    intro x6 x7 M h H locs ls hR hS hl
    rw [f_X7_breaths_74] at h
    refine lv_iload hx hb dX7_breaths_74 (lv_at hl 1 rfl) ?_
    refine lv_bipush (v := 9) hx hb dX7_breaths_76 (by decide) ?_
    refine lv_icmp_gt (tgt := 96) hx hb dX7_breaths_78 (by decide) (fun c => ?_) (fun c => ?_)
    · have h := ip c h
      refine lv_iload hx hb dX7_breaths_96 (lv_at hl 0 rfl) ?_
      cases h
      exact rr_I C hR hS dX7_breaths_98
    · have h := iq c h
      refine lv_iload hx hb dX7_breaths_81 (lv_at hl 0 rfl) ?_
      refine lv_iconst (v := 1) hx hb dX7_breaths_83 (by decide) ?_
      refine lv_iload hx hb dX7_breaths_84 (lv_at hl 1 rfl) ?_
      refine lv_ishl hx hb dX7_breaths_86 ?_
      refine lv_ior hx hb dX7_breaths_87 ?_
      refine lv_istore (lv' := [(6, .int (x6 ||| (1 <<< (x7 &&& 31)))), (7, .int x7)]) hx hb dX7_breaths_88 hl (by decide) rfl (fun ls hl => ?_)
      refine lv_iinc (v := (x7 + 1)) (lv' := [(7, .int (x7 + 1)), (6, .int (x6 ||| (1 <<< (x7 &&& 31))))]) hx hb dX7_breaths_90 hl (k := 1) rfl rfl (by decide) rfl (fun ls hl => ?_)
      refine lv_goto (tgt := 74) hx hb dX7_breaths_93 (by decide) ?_
      exact ih h hR hS (lv_sub hl [1, 0] rfl)
theorem ck_X7_breaths  {x0 : Nat} {x1 : Int32} {x2 : Int32} {M : Mem} {r : Int32 × Mem} (h : f_X7_breaths  x0 x1 x2 M = some r) : kd M x0 = 17 := by
  unfold f_X7_breaths at h
  exact ck h
set_option maxHeartbeats 4000000 in
set_option maxRecDepth 100000 in
theorem ok_X7_breaths  {x0 : Nat} {x1 : Int32} {x2 : Int32}  {M : Mem} {r : Int32 × Mem}  (h : f_X7_breaths  x0 x1 x2 M = some r) : Ok l yX7_breaths cX7_breaths 8 (some .int) 4 [.ref (B + x0), .int x1, .int x2] D B ca st M (some (.int r.1)) r.2 := by
  have hk0 := ck_X7_breaths h
  unfold f_X7_breaths at h
  have h := ip hk0 h
  refine ok_of rfl rfl (Nat.le_of_ble_eq_true rfl) ?_
  intro p e s m args below meth c ls C hl hR hS
  have hl : lv_has ls 8 [(0, .ref (B + x0)), (1, .int x1), (2, .int x2)] := hl
  have hx := C.1
  have hb := C.2.1
  refine lv_aload_n hx hb dX7_breaths_0 rfl (lv_at hl 0 rfl) ?_
  refine lv_iload_n hx hb dX7_breaths_1 rfl (lv_at hl 2 rfl) ?_
  obtain ⟨v2, zqe1, h⟩ := ob h
  refine rc_V C hR hS cf_X7_rowOf cv_X7_rowOf lk375 (ok_X7_rowOf zqe1) (ck_X7_rowOf zqe1) ⟨Nat.le_of_ble_eq_true rfl, Nat.le_of_ble_eq_true rfl⟩ ⟨Nat.zero_le _, Nat.zero_le _⟩ rfl rfl hl.1 (Nat.le_of_ble_eq_true rfl) dX7_breaths_2 (rc_k1 (fun H locs hR hS => ?_))
  refine rc_nul (fun zqz3 => ?_) (fun zqz3 => ?_)
  · have h := ip zqz3 h
    refine lv_astore_nN (lv' := [(3, .null), (0, .ref (B + x0)), (1, .int x1), (2, .int x2)]) hx hb dX7_breaths_5 rfl hl (by decide) rfl (fun ls hl => ?_)
    refine lv_aload_n hx hb dX7_breaths_6 rfl (lv_at hl 1 rfl) ?_
    obtain ⟨v4, zqe5, h⟩ := ob h
    refine gf327 C hR zqe5 dX7_breaths_7 ?_
    refine lv_iload_n hx hb dX7_breaths_10 rfl (lv_at hl 2 rfl) ?_
    obtain ⟨v7, zqe6, h⟩ := ob h
    refine rc_VN C hR hS cf_X2_hasSigher cv_X2_hasSigher lk538 (ok_X2_hasSigher zqe6) (ck_X2_hasSigher zqe6) ⟨Nat.le_of_ble_eq_true rfl, Nat.le_of_ble_eq_true rfl⟩ ⟨Nat.zero_le _, Nat.zero_le _⟩ rfl rfl hl.1 (Nat.le_of_ble_eq_true rfl) dX7_breaths_11 (rc_k1 (fun H locs hR hS => ?_))
    refine lv_if_eq (tgt := 21) hx hb dX7_breaths_14 (by decide) (fun c => ?_) (fun c => ?_)
    · have h := ip c h
      refine lv_iconst (v := (-1)) hx hb dX7_breaths_21 (by decide) ?_
      cases h
      exact rr_I C hR hS dX7_breaths_22
    · have h := iq c h
      refine lv_aload_nN hx hb dX7_breaths_17 rfl (lv_at hl 0 rfl) ?_
      refine lv_ifnonnullN hx hb dX7_breaths_18 ?_
      refine lv_iconst (v := (-1)) hx hb dX7_breaths_21 (by decide) ?_
      cases h
      exact rr_I C hR hS dX7_breaths_22
  · have h := iq zqz3 h
    refine lv_astore_n (lv' := [(3, .ref (B + v2)), (0, .ref (B + x0)), (1, .int x1), (2, .int x2)]) hx hb dX7_breaths_5 rfl hl (by decide) rfl (fun ls hl => ?_)
    refine lv_aload_n hx hb dX7_breaths_6 rfl (lv_at hl 1 rfl) ?_
    obtain ⟨v8, zqe9, h⟩ := ob h
    refine gf327 C hR zqe9 dX7_breaths_7 ?_
    refine lv_iload_n hx hb dX7_breaths_10 rfl (lv_at hl 2 rfl) ?_
    obtain ⟨v11, zqe10, h⟩ := ob h
    refine rc_VN C hR hS cf_X2_hasSigher cv_X2_hasSigher lk538 (ok_X2_hasSigher zqe10) (ck_X2_hasSigher zqe10) ⟨Nat.le_of_ble_eq_true rfl, Nat.le_of_ble_eq_true rfl⟩ ⟨Nat.zero_le _, Nat.zero_le _⟩ rfl rfl hl.1 (Nat.le_of_ble_eq_true rfl) dX7_breaths_11 (rc_k1 (fun H locs hR hS => ?_))
    refine lv_if_eq (tgt := 21) hx hb dX7_breaths_14 (by decide) (fun c => ?_) (fun c => ?_)
    · have h := ip c h
      refine lv_iconst (v := (-1)) hx hb dX7_breaths_21 (by decide) ?_
      cases h
      exact rr_I C hR hS dX7_breaths_22
    · have h := iq c h
      refine lv_aload_n hx hb dX7_breaths_17 rfl (lv_at hl 0 rfl) ?_
      refine lv_ifnonnull (tgt := 23) hx hb dX7_breaths_18 (by decide) ?_
      refine lv_aload_n hx hb dX7_breaths_23 rfl (lv_at hl 1 rfl) ?_
      refine lv_aload_n hx hb dX7_breaths_24 rfl (lv_at hl 0 rfl) ?_
      obtain ⟨v13, zqe12, h⟩ := ob h
      refine rc_V C hR hS cf_X7_findingOfPairs cv_X7_findingOfPairs lk813 (ok_X7_findingOfPairs zqe12) (ck_X7_findingOfPairs zqe12) ⟨Nat.le_of_ble_eq_true rfl, Nat.le_of_ble_eq_true rfl⟩ ⟨Nat.zero_le _, Nat.zero_le _⟩ rfl rfl hl.1 (Nat.le_of_ble_eq_true rfl) dX7_breaths_25 (rc_k1 (fun H locs hR hS => ?_))
      refine lv_istore (lv' := [(4, .int v13), (3, .ref (B + v2)), (0, .ref (B + x0)), (1, .int x1), (2, .int x2)]) hx hb dX7_breaths_28 hl (by decide) rfl (fun ls hl => ?_)
      refine lv_iload hx hb dX7_breaths_30 (lv_at hl 0 rfl) ?_
      refine lv_if_eq (tgt := 42) hx hb dX7_breaths_32 (by decide) (fun c => ?_) (fun c => ?_)
      · have h := ip c h
        refine lv_aload_n hx hb dX7_breaths_42 rfl (lv_at hl 2 rfl) ?_
        refine lv_aload_n hx hb dX7_breaths_43 rfl (lv_at hl 1 rfl) ?_
        refine lv_aload_n hx hb dX7_breaths_44 rfl (lv_at hl 2 rfl) ?_
        obtain ⟨v14, zqe15, h⟩ := ob h
        refine gf327 C hR zqe15 dX7_breaths_45 ?_
        obtain ⟨v16, zqe17, h⟩ := ob h
        refine gf160 C hR zqe17 dX7_breaths_48 ?_
        refine lv_iload_n hx hb dX7_breaths_51 rfl (lv_at hl 3 rfl) ?_
        obtain ⟨v18, zqe19, h⟩ := ob h
        refine ra_I C hR zqe19 dX7_breaths_52 ?_
        obtain ⟨v21, zqe20, h⟩ := ob h
        refine rc_V C hR hS cf_X7_breathOfPairs cv_X7_breathOfPairs lk817 (ok_X7_breathOfPairs zqe20) (ck_X7_breathOfPairs zqe20) ⟨Nat.le_of_ble_eq_true rfl, Nat.le_of_ble_eq_true rfl⟩ ⟨Nat.zero_le _, Nat.zero_le _⟩ rfl rfl hl.1 (Nat.le_of_ble_eq_true rfl) dX7_breaths_53 (rc_k1 (fun H locs hR hS => ?_))
        refine lv_istore (lv' := [(5, .int v21), (4, .int v13), (3, .ref (B + v2)), (0, .ref (B + x0)), (1, .int x1), (2, .int x2)]) hx hb dX7_breaths_56 hl (by decide) rfl (fun ls hl => ?_)
        refine lv_iload hx hb dX7_breaths_58 (lv_at hl 0 rfl) ?_
        refine lv_bipush (v := (-9)) hx hb dX7_breaths_60 (by decide) ?_
        refine lv_icmp_ne (tgt := 67) hx hb dX7_breaths_62 (by decide) (fun c => ?_) (fun c => ?_)
        · have h := iq c h
          refine lv_iconst (v := 0) hx hb dX7_breaths_67 (by decide) ?_
          refine lv_istore (lv' := [(6, .int 0), (5, .int v21), (4, .int v13), (3, .ref (B + v2)), (0, .ref (B + x0)), (1, .int x1), (2, .int x2)]) hx hb dX7_breaths_68 hl (by decide) rfl (fun ls hl => ?_)
          refine lv_iload hx hb dX7_breaths_70 (lv_at hl 1 rfl) ?_
          refine lv_istore (lv' := [(7, .int v21), (6, .int 0), (5, .int v21), (4, .int v13), (3, .ref (B + v2)), (0, .ref (B + x0)), (1, .int x1), (2, .int x2)]) hx hb dX7_breaths_72 hl (by decide) rfl (fun ls hl => ?_)
          exact w_X7_breaths_74 C  FU h hR hS (lv_sub hl [1, 0] rfl)
        · have h := ip c h
          refine lv_iconst (v := 0) hx hb dX7_breaths_65 (by decide) ?_
          cases h
          exact rr_I C hR hS dX7_breaths_66
      · have h := iq c h
        refine lv_aload_n hx hb dX7_breaths_35 rfl (lv_at hl 2 rfl) ?_
        refine lv_iload hx hb dX7_breaths_36 (lv_at hl 0 rfl) ?_
        obtain ⟨qv23, zqe22, h⟩ := ob h
        refine rc_V C hR hS cf_X7_refuse cv_X7_refuse lk379 (ok_X7_refuse zqe22) (ck_X7_refuse zqe22) ⟨Nat.le_of_ble_eq_true rfl, Nat.le_of_ble_eq_true rfl⟩ ⟨Nat.zero_le _, Nat.zero_le _⟩ rfl rfl hl.1 (Nat.le_of_ble_eq_true rfl) dX7_breaths_38 (rc_k1 (fun H locs hR hS => ?_))
        cases h
        exact rr_I C hR hS dX7_breaths_41
theorem ck_X2_goldFor  {x0 : Nat} {x1 : Int32} {x2 : Int32} {M : Mem} {r : Int32} (h : f_X2_goldFor  x0 x1 x2 M = some r) : kd M x0 = 12 := by
  unfold f_X2_goldFor at h
  exact ck h
set_option maxHeartbeats 4000000 in
set_option maxRecDepth 100000 in
theorem ok_X2_goldFor  {x0 : Nat} {x1 : Int32} {x2 : Int32}  {M : Mem} {r : Int32}  (h : f_X2_goldFor  x0 x1 x2 M = some r) : Ok l yX2_goldFor cX2_goldFor 3 (some .int) 1 [.ref (B + x0), .int x1, .int x2] D B ca st M (some (.int r)) M := by
  have hk0 := ck_X2_goldFor h
  unfold f_X2_goldFor at h
  have h := ip hk0 h
  refine ok_of rfl rfl (Nat.le_of_ble_eq_true rfl) ?_
  intro p e s m args below meth c ls C hl hR hS
  have hl : lv_has ls 3 [(0, .ref (B + x0)), (1, .int x1), (2, .int x2)] := hl
  have hx := C.1
  have hb := C.2.1
  refine lv_aload_n hx hb dX2_goldFor_0 rfl (lv_at hl 0 rfl) ?_
  refine lv_iload_n hx hb dX2_goldFor_1 rfl (lv_at hl 1 rfl) ?_
  obtain ⟨v2, zqe1, h⟩ := ob h
  refine rc_V C hR hS cf_X2_hasSigher cv_X2_hasSigher lk566 (ok_X2_hasSigher zqe1) (ck_X2_hasSigher zqe1) ⟨Nat.le_of_ble_eq_true rfl, Nat.le_of_ble_eq_true rfl⟩ ⟨Nat.zero_le _, Nat.zero_le _⟩ rfl rfl hl.1 (Nat.le_of_ble_eq_true rfl) dX2_goldFor_2 (rc_k1 (fun H locs hR hS => ?_))
  refine lv_if_eq (tgt := 30) hx hb dX2_goldFor_5 (by decide) (fun c => ?_) (fun c => ?_)
  · have h := ip c h
    refine lv_iconst (v := 0) hx hb dX2_goldFor_30 (by decide) ?_
    cases h
    exact rr_I C hR hS dX2_goldFor_31
  · have h := iq c h
    refine lv_aload_n hx hb dX2_goldFor_8 rfl (lv_at hl 0 rfl) ?_
    refine lv_iload_n hx hb dX2_goldFor_9 rfl (lv_at hl 2 rfl) ?_
    obtain ⟨v4, zqe3, h⟩ := ob h
    refine rc_V C hR hS cf_X2_hasOrder cv_X2_hasOrder lk567 (ok_X2_hasOrder zqe3) (ck_X2_hasOrder zqe3) ⟨Nat.le_of_ble_eq_true rfl, Nat.le_of_ble_eq_true rfl⟩ ⟨Nat.zero_le _, Nat.zero_le _⟩ rfl rfl hl.1 (Nat.le_of_ble_eq_true rfl) dX2_goldFor_10 (rc_k1 (fun H locs hR hS => ?_))
    refine lv_if_eq (tgt := 30) hx hb dX2_goldFor_13 (by decide) (fun c => ?_) (fun c => ?_)
    · have h := ip c h
      refine lv_iconst (v := 0) hx hb dX2_goldFor_30 (by decide) ?_
      cases h
      exact rr_I C hR hS dX2_goldFor_31
    · have h := iq c h
      refine lv_aload_n hx hb dX2_goldFor_16 rfl (lv_at hl 0 rfl) ?_
      obtain ⟨v5, zqe6, h⟩ := ob h
      refine gf173 C hR zqe6 dX2_goldFor_17 ?_
      refine lv_iload_n hx hb dX2_goldFor_20 rfl (lv_at hl 1 rfl) ?_
      refine lv_bipush (v := 6) hx hb dX2_goldFor_21 (by decide) ?_
      refine lv_imul hx hb dX2_goldFor_23 ?_
      refine lv_iload_n hx hb dX2_goldFor_24 rfl (lv_at hl 2 rfl) ?_
      refine lv_iadd hx hb dX2_goldFor_25 ?_
      obtain ⟨v7, zqe8, h⟩ := ob h
      refine ra_I C hR zqe8 dX2_goldFor_26 ?_
      refine lv_goto (tgt := 31) hx hb dX2_goldFor_27 (by decide) ?_
      cases h
      exact rr_I C hR hS dX2_goldFor_31
theorem ck_X7_brings  {x0 : Nat} {x1 : Int32} {x2 : Int32} {M : Mem} {r : Int32} (h : f_X7_brings  x0 x1 x2 M = some r) : kd M x0 = 17 := by
  unfold f_X7_brings at h
  exact ck h
set_option maxHeartbeats 4000000 in
set_option maxRecDepth 100000 in
theorem ok_X7_brings  {x0 : Nat} {x1 : Int32} {x2 : Int32}  {M : Mem} {r : Int32}  (h : f_X7_brings  x0 x1 x2 M = some r) : Ok l yX7_brings cX7_brings 3 (some .int) 2 [.ref (B + x0), .int x1, .int x2] D B ca st M (some (.int r)) M := by
  have hk0 := ck_X7_brings h
  unfold f_X7_brings at h
  have h := ip hk0 h
  refine ok_of rfl rfl (Nat.le_of_ble_eq_true rfl) ?_
  intro p e s m args below meth c ls C hl hR hS
  have hl : lv_has ls 3 [(0, .ref (B + x0)), (1, .int x1), (2, .int x2)] := hl
  have hx := C.1
  have hb := C.2.1
  refine lv_aload_n hx hb dX7_brings_0 rfl (lv_at hl 0 rfl) ?_
  obtain ⟨v1, zqe2, h⟩ := ob h
  refine gf327 C hR zqe2 dX7_brings_1 ?_
  refine lv_iload_n hx hb dX7_brings_4 rfl (lv_at hl 1 rfl) ?_
  obtain ⟨v4, zqe3, h⟩ := ob h
  refine rc_VN C hR hS cf_X2_hasSigher cv_X2_hasSigher lk538 (ok_X2_hasSigher zqe3) (ck_X2_hasSigher zqe3) ⟨Nat.le_of_ble_eq_true rfl, Nat.le_of_ble_eq_true rfl⟩ ⟨Nat.zero_le _, Nat.zero_le _⟩ rfl rfl hl.1 (Nat.le_of_ble_eq_true rfl) dX7_brings_5 (rc_k1 (fun H locs hR hS => ?_))
  refine lv_if_eq (tgt := 22) hx hb dX7_brings_8 (by decide) (fun c => ?_) (fun c => ?_)
  · have h := ip c h
    refine lv_iconst (v := (-1)) hx hb dX7_brings_22 (by decide) ?_
    cases h
    exact rr_I C hR hS dX7_brings_23
  · have h := iq c h
    refine lv_aload_n hx hb dX7_brings_11 rfl (lv_at hl 0 rfl) ?_
    obtain ⟨v5, zqe6, h⟩ := ob h
    refine gf327 C hR zqe6 dX7_brings_12 ?_
    refine lv_iload_n hx hb dX7_brings_15 rfl (lv_at hl 2 rfl) ?_
    obtain ⟨v8, zqe7, h⟩ := ob h
    refine rc_VN C hR hS cf_X2_hasOrder cv_X2_hasOrder lk575 (ok_X2_hasOrder zqe7) (ck_X2_hasOrder zqe7) ⟨Nat.le_of_ble_eq_true rfl, Nat.le_of_ble_eq_true rfl⟩ ⟨Nat.zero_le _, Nat.zero_le _⟩ rfl rfl hl.1 (Nat.le_of_ble_eq_true rfl) dX7_brings_16 (rc_k1 (fun H locs hR hS => ?_))
    refine lv_if_ne (tgt := 24) hx hb dX7_brings_19 (by decide) (fun c => ?_) (fun c => ?_)
    · have h := iq c h
      refine lv_aload_n hx hb dX7_brings_24 rfl (lv_at hl 0 rfl) ?_
      obtain ⟨v9, zqe10, h⟩ := ob h
      refine gf327 C hR zqe10 dX7_brings_25 ?_
      refine lv_iload_n hx hb dX7_brings_28 rfl (lv_at hl 1 rfl) ?_
      refine lv_iload_n hx hb dX7_brings_29 rfl (lv_at hl 2 rfl) ?_
      obtain ⟨v12, zqe11, h⟩ := ob h
      refine rc_VN C hR hS cf_X2_goldFor cv_X2_goldFor lk594 (ok_X2_goldFor zqe11) (ck_X2_goldFor zqe11) ⟨Nat.le_of_ble_eq_true rfl, Nat.le_of_ble_eq_true rfl⟩ ⟨Nat.zero_le _, Nat.zero_le _⟩ rfl rfl hl.1 (Nat.le_of_ble_eq_true rfl) dX7_brings_30 (rc_k1 (fun H locs hR hS => ?_))
      cases h
      exact rr_I C hR hS dX7_brings_33
    · have h := ip c h
      refine lv_iconst (v := (-1)) hx hb dX7_brings_22 (by decide) ?_
      cases h
      exact rr_I C hR hS dX7_brings_23
theorem ck_X2_areInTune  {x0 : Nat} {x1 : Int32} {x2 : Int32} {x3 : Int32} {M : Mem} {r : Int32} (h : f_X2_areInTune  x0 x1 x2 x3 M = some r) : kd M x0 = 12 := by
  unfold f_X2_areInTune at h
  exact ck h
set_option maxHeartbeats 4000000 in
set_option maxRecDepth 100000 in
theorem ok_X2_areInTune  {x0 : Nat} {x1 : Int32} {x2 : Int32} {x3 : Int32}  {M : Mem} {r : Int32}  (h : f_X2_areInTune  x0 x1 x2 x3 M = some r) : Ok l yX2_areInTune cX2_areInTune 4 (some .boolean) 1 [.ref (B + x0), .int x1, .int x2, .int x3] D B ca st M (some (.int r)) M := by
  have hk0 := ck_X2_areInTune h
  unfold f_X2_areInTune at h
  have h := ip hk0 h
  refine ok_of rfl rfl (Nat.le_of_ble_eq_true rfl) ?_
  intro p e s m args below meth c ls C hl hR hS
  have hl : lv_has ls 4 [(0, .ref (B + x0)), (1, .int x1), (2, .int x2), (3, .int x3)] := hl
  have hx := C.1
  have hb := C.2.1
  refine lv_aload_n hx hb dX2_areInTune_0 rfl (lv_at hl 0 rfl) ?_
  refine lv_iload_n hx hb dX2_areInTune_1 rfl (lv_at hl 1 rfl) ?_
  obtain ⟨v2, zqe1, h⟩ := ob h
  refine rc_V C hR hS cf_X2_hasSigher cv_X2_hasSigher lk566 (ok_X2_hasSigher zqe1) (ck_X2_hasSigher zqe1) ⟨Nat.le_of_ble_eq_true rfl, Nat.le_of_ble_eq_true rfl⟩ ⟨Nat.zero_le _, Nat.zero_le _⟩ rfl rfl hl.1 (Nat.le_of_ble_eq_true rfl) dX2_areInTune_2 (rc_k1 (fun H locs hR hS => ?_))
  refine lv_if_eq (tgt := 40) hx hb dX2_areInTune_5 (by decide) (fun c => ?_) (fun c => ?_)
  · have h := ip c h
    refine lv_iconst (v := 0) hx hb dX2_areInTune_40 (by decide) ?_
    cases h
    exact rr_Z (v := 0) C hR hS (by decide) dX2_areInTune_41
  · have h := iq c h
    refine lv_aload_n hx hb dX2_areInTune_8 rfl (lv_at hl 0 rfl) ?_
    refine lv_iload_n hx hb dX2_areInTune_9 rfl (lv_at hl 2 rfl) ?_
    obtain ⟨v4, zqe3, h⟩ := ob h
    refine rc_V C hR hS cf_X2_hasSigher cv_X2_hasSigher lk566 (ok_X2_hasSigher zqe3) (ck_X2_hasSigher zqe3) ⟨Nat.le_of_ble_eq_true rfl, Nat.le_of_ble_eq_true rfl⟩ ⟨Nat.zero_le _, Nat.zero_le _⟩ rfl rfl hl.1 (Nat.le_of_ble_eq_true rfl) dX2_areInTune_10 (rc_k1 (fun H locs hR hS => ?_))
    refine lv_if_eq (tgt := 40) hx hb dX2_areInTune_13 (by decide) (fun c => ?_) (fun c => ?_)
    · have h := ip c h
      refine lv_iconst (v := 0) hx hb dX2_areInTune_40 (by decide) ?_
      cases h
      exact rr_Z (v := 0) C hR hS (by decide) dX2_areInTune_41
    · have h := iq c h
      refine lv_aload_n hx hb dX2_areInTune_16 rfl (lv_at hl 0 rfl) ?_
      obtain ⟨v5, zqe6, h⟩ := ob h
      refine gf163 C hR zqe6 dX2_areInTune_17 ?_
      refine lv_iload_n hx hb dX2_areInTune_20 rfl (lv_at hl 1 rfl) ?_
      obtain ⟨v7, zqe8, h⟩ := ob h
      refine ra_I C hR zqe8 dX2_areInTune_21 ?_
      refine lv_aload_n hx hb dX2_areInTune_22 rfl (lv_at hl 0 rfl) ?_
      obtain ⟨v9, zqe10, h⟩ := ob h
      refine gf163 C hR zqe10 dX2_areInTune_23 ?_
      refine lv_iload_n hx hb dX2_areInTune_26 rfl (lv_at hl 2 rfl) ?_
      obtain ⟨v11, zqe12, h⟩ := ob h
      refine ra_I C hR zqe12 dX2_areInTune_27 ?_
      refine lv_isub hx hb dX2_areInTune_28 ?_
      refine rm_abs C lk790 hl.1 ⟨Nat.le_of_ble_eq_true rfl, Nat.le_of_ble_eq_true rfl⟩ ⟨Nat.zero_le _, Nat.zero_le _⟩ dX2_areInTune_29 ?_
      refine lv_iload_n hx hb dX2_areInTune_32 rfl (lv_at hl 3 rfl) ?_
      refine lv_icmp_gt (tgt := 40) hx hb dX2_areInTune_33 (by decide) (fun c => ?_) (fun c => ?_)
      · have h := ip c h
        refine lv_iconst (v := 0) hx hb dX2_areInTune_40 (by decide) ?_
        cases h
        exact rr_Z (v := 0) C hR hS (by decide) dX2_areInTune_41
      · have h := iq c h
        refine lv_iconst (v := 1) hx hb dX2_areInTune_36 (by decide) ?_
        refine lv_goto (tgt := 41) hx hb dX2_areInTune_37 (by decide) ?_
        cases h
        exact rr_Z (v := 1) C hR hS (by decide) dX2_areInTune_41
set_option maxHeartbeats 4000000 in
set_option maxRecDepth 100000 in
theorem ok_X7_holds (x0 : Int32) (x1 : Int32) {M : Mem} : Ok l yX7_holds cX7_holds 2 (some .boolean) 0 [.int x0, .int x1] D B ca st M (some (.int (f_X7_holds  x0 x1))) M := by
  obtain ⟨r, h⟩ : ∃ r, f_X7_holds  x0 x1 = r := ⟨_, rfl⟩
  rw [h]
  unfold f_X7_holds at h
  refine ok_of rfl rfl (Nat.le_of_ble_eq_true rfl) ?_
  intro p e s m args below meth c ls C hl hR hS
  have hl : lv_has ls 2 [(0, .int x0), (1, .int x1)] := hl
  have hx := C.1
  have hb := C.2.1
  refine lv_iload_n hx hb dX7_holds_0 rfl (lv_at hl 0 rfl) ?_
  refine lv_iload_n hx hb dX7_holds_1 rfl (lv_at hl 1 rfl) ?_
  refine lv_ishr hx hb dX7_holds_2 ?_
  refine lv_iconst (v := 1) hx hb dX7_holds_3 (by decide) ?_
  refine lv_iand hx hb dX7_holds_4 ?_
  refine lv_iconst (v := 1) hx hb dX7_holds_5 (by decide) ?_
  refine lv_icmp_ne (tgt := 13) hx hb dX7_holds_6 (by decide) (fun c => ?_) (fun c => ?_)
  · have h := iq c h
    refine lv_iconst (v := 0) hx hb dX7_holds_13 (by decide) ?_
    subst h
    exact rr_Z (v := 0) C hR hS (by decide) dX7_holds_14
  · have h := ip c h
    refine lv_iconst (v := 1) hx hb dX7_holds_9 (by decide) ?_
    refine lv_goto (tgt := 14) hx hb dX7_holds_10 (by decide) ?_
    subst h
    exact rr_Z (v := 1) C hR hS (by decide) dX7_holds_14
set_option maxHeartbeats 4000000 in
set_option maxRecDepth 100000 in
theorem w_X2_isChoir_15  {k2 : Nat → Int32 → Int32 → Int32 → Mem → Option Int32}  {r : Int32} (C : Cx p s m args meth c RX2 cX2_isChoir 5 (some .boolean) D B ca st)  (hk2 : ∀ {x0 : Nat} {x1 : Int32} {x2 : Int32} {x3 : Int32} {M : Mem}, k2 x0 x1 x2 x3 M = some r → ∀ {H : Heap} {locs : List Loc} {ls : Array Slot}, RH D B ca M H → va_S (AA B) s.heap H locs → lv_has ls 5 [(0, .ref (B + x0)), (1, .int x1), (2, .int x2), (3, .int x3)] → W p l e (rmD 2) s m args below meth c H locs 0 0 (MQ below (Qp D B ca st (some (.int r)) M) args s 0 0 (AA B)) (F0 m 2 ls [])) : ∀ (n : Nat) {x0 : Nat} {x1 : Int32} {x2 : Int32} {x3 : Int32} {x4 : Int32} {M : Mem}, f_X2_isChoir_15 k2 n x0 x1 x2 x3 x4 M = some r → ∀ {H : Heap} {locs : List Loc} {ls : Array Slot}, RH D B ca M H → va_S (AA B) s.heap H locs → lv_has ls 5 [(0, .ref (B + x0)), (1, .int x1), (2, .int x2), (3, .int x3), (4, .int x4)] → W p l e (rmD 2) s m args below meth c H locs 0 0 (MQ below (Qp D B ca st (some (.int r)) M) args s 0 0 (AA B)) (F0 m 15 ls []) := by
  have hx := C.1
  have hb := C.2.1
  intro n
  induction n with
  | zero => intro x0 x1 x2 x3 x4 M h; simp [f_X2_isChoir_15] at h
  | succ n ih =>
    intro x0 x1 x2 x3 x4 M h H locs ls hR hS hl
    rw [f_X2_isChoir_15] at h
    refine lv_iload hx hb dX2_isChoir_15 (lv_at hl 4 rfl) ?_
    refine lv_aload_n hx hb dX2_isChoir_17 rfl (lv_at hl 0 rfl) ?_
    obtain ⟨v3, zqe4, h⟩ := ob h
    refine gf151 C hR zqe4 dX2_isChoir_18 ?_
    refine lv_icmp_ge (tgt := 60) hx hb dX2_isChoir_21 (by decide) (fun c => ?_) (fun c => ?_)
    · have h := ip c h
      refine lv_iinc (v := (x3 + 1)) (lv' := [(3, .int (x3 + 1)), (0, .ref (B + x0)), (1, .int x1), (2, .int x2), (4, .int x4)]) hx hb dX2_isChoir_60 hl (k := 3) rfl rfl (by decide) rfl (fun ls hl => ?_)
      refine lv_goto (tgt := 2) hx hb dX2_isChoir_63 (by decide) ?_
      exact hk2 h hR hS (lv_sub hl [1, 2, 3, 0] rfl)
    · have h := iq c h
      refine lv_iload_n hx hb dX2_isChoir_24 rfl (lv_at hl 1 rfl) ?_
      refine lv_iload_n hx hb dX2_isChoir_25 rfl (lv_at hl 3 rfl) ?_
      refine rc_SN C hR hS cf_X7_holds cs_X7_holds lk799 (ok_X7_holds x1 x3) ⟨Nat.le_of_ble_eq_true rfl, Nat.le_of_ble_eq_true rfl⟩ ⟨Nat.zero_le _, Nat.zero_le _⟩ rfl rfl hl.1 (Nat.le_of_ble_eq_true rfl) dX2_isChoir_26 (rc_k1 (fun H locs hR hS => ?_))
      refine lv_if_eq (tgt := 54) hx hb dX2_isChoir_29 (by decide) (fun c => ?_) (fun c => ?_)
      · have h := ip c h
        refine lv_iinc (v := (x4 + 1)) (lv' := [(4, .int (x4 + 1)), (0, .ref (B + x0)), (1, .int x1), (2, .int x2), (3, .int x3)]) hx hb dX2_isChoir_54 hl (k := 4) rfl rfl (by decide) rfl (fun ls hl => ?_)
        refine lv_goto (tgt := 15) hx hb dX2_isChoir_57 (by decide) ?_
        exact ih h hR hS (lv_sub hl [1, 2, 3, 4, 0] rfl)
      · have h := iq c h
        refine lv_iload_n hx hb dX2_isChoir_32 rfl (lv_at hl 1 rfl) ?_
        refine lv_iload hx hb dX2_isChoir_33 (lv_at hl 4 rfl) ?_
        refine rc_SN C hR hS cf_X7_holds cs_X7_holds lk799 (ok_X7_holds x1 x4) ⟨Nat.le_of_ble_eq_true rfl, Nat.le_of_ble_eq_true rfl⟩ ⟨Nat.zero_le _, Nat.zero_le _⟩ rfl rfl hl.1 (Nat.le_of_ble_eq_true rfl) dX2_isChoir_35 (rc_k1 (fun H locs hR hS => ?_))
        refine lv_if_eq (tgt := 54) hx hb dX2_isChoir_38 (by decide) (fun c => ?_) (fun c => ?_)
        · have h := ip c h
          refine lv_iinc (v := (x4 + 1)) (lv' := [(4, .int (x4 + 1)), (0, .ref (B + x0)), (1, .int x1), (2, .int x2), (3, .int x3)]) hx hb dX2_isChoir_54 hl (k := 4) rfl rfl (by decide) rfl (fun ls hl => ?_)
          refine lv_goto (tgt := 15) hx hb dX2_isChoir_57 (by decide) ?_
          exact ih h hR hS (lv_sub hl [1, 2, 3, 4, 0] rfl)
        · have h := iq c h
          refine lv_aload_n hx hb dX2_isChoir_41 rfl (lv_at hl 0 rfl) ?_
          refine lv_iload_n hx hb dX2_isChoir_42 rfl (lv_at hl 3 rfl) ?_
          refine lv_iload hx hb dX2_isChoir_43 (lv_at hl 4 rfl) ?_
          refine lv_iload_n hx hb dX2_isChoir_45 rfl (lv_at hl 2 rfl) ?_
          obtain ⟨v8, zqe7, h⟩ := ob h
          refine rc_V C hR hS cf_X2_areInTune cv_X2_areInTune lk800 (ok_X2_areInTune zqe7) (ck_X2_areInTune zqe7) ⟨Nat.le_of_ble_eq_true rfl, Nat.le_of_ble_eq_true rfl⟩ ⟨Nat.zero_le _, Nat.zero_le _⟩ rfl rfl hl.1 (Nat.le_of_ble_eq_true rfl) dX2_isChoir_46 (rc_k1 (fun H locs hR hS => ?_))
          refine lv_if_ne (tgt := 54) hx hb dX2_isChoir_49 (by decide) (fun c => ?_) (fun c => ?_)
          · have h := iq c h
            refine lv_iinc (v := (x4 + 1)) (lv' := [(4, .int (x4 + 1)), (0, .ref (B + x0)), (1, .int x1), (2, .int x2), (3, .int x3)]) hx hb dX2_isChoir_54 hl (k := 4) rfl rfl (by decide) rfl (fun ls hl => ?_)
            refine lv_goto (tgt := 15) hx hb dX2_isChoir_57 (by decide) ?_
            exact ih h hR hS (lv_sub hl [1, 2, 3, 4, 0] rfl)
          · have h := ip c h
            refine lv_iconst (v := 0) hx hb dX2_isChoir_52 (by decide) ?_
            cases h
            exact rr_Z (v := 0) C hR hS (by decide) dX2_isChoir_53
set_option maxHeartbeats 4000000 in
set_option maxRecDepth 100000 in
theorem w_X2_isChoir_2    {r : Int32} (C : Cx p s m args meth c RX2 cX2_isChoir 5 (some .boolean) D B ca st)   : ∀ (n : Nat) {x0 : Nat} {x1 : Int32} {x2 : Int32} {x3 : Int32} {M : Mem}, f_X2_isChoir_2  n x0 x1 x2 x3 M = some r → ∀ {H : Heap} {locs : List Loc} {ls : Array Slot}, RH D B ca M H → va_S (AA B) s.heap H locs → lv_has ls 5 [(0, .ref (B + x0)), (1, .int x1), (2, .int x2), (3, .int x3)] → W p l e (rmD 2) s m args below meth c H locs 0 0 (MQ below (Qp D B ca st (some (.int r)) M) args s 0 0 (AA B)) (F0 m 2 ls []) := by
  have hx := C.1
  have hb := C.2.1
  intro n
  induction n with
  | zero => intro x0 x1 x2 x3 M h; simp [f_X2_isChoir_2] at h
  | succ n ih =>
    intro x0 x1 x2 x3 M h H locs ls hR hS hl
    rw [f_X2_isChoir_2] at h
    refine lv_iload_n hx hb dX2_isChoir_2 rfl (lv_at hl 3 rfl) ?_
    refine lv_aload_n hx hb dX2_isChoir_3 rfl (lv_at hl 0 rfl) ?_
    obtain ⟨v1, zqe2, h⟩ := ob h
    refine gf151 C hR zqe2 dX2_isChoir_4 ?_
    refine lv_icmp_ge (tgt := 66) hx hb dX2_isChoir_7 (by decide) (fun c => ?_) (fun c => ?_)
    · have h := ip c h
      refine lv_iconst (v := 1) hx hb dX2_isChoir_66 (by decide) ?_
      cases h
      exact rr_Z (v := 1) C hR hS (by decide) dX2_isChoir_67
    · have h := iq c h
      refine lv_iload_n hx hb dX2_isChoir_10 rfl (lv_at hl 3 rfl) ?_
      refine lv_iconst (v := 1) hx hb dX2_isChoir_11 (by decide) ?_
      refine lv_iadd hx hb dX2_isChoir_12 ?_
      refine lv_istore (lv' := [(4, .int (x3 + 1)), (0, .ref (B + x0)), (1, .int x1), (2, .int x2), (3, .int x3)]) hx hb dX2_isChoir_13 hl (by decide) rfl (fun ls hl => ?_)
      exact w_X2_isChoir_15 C (hk2 := @ih) FU h hR hS (lv_sub hl [1, 2, 3, 4, 0] rfl)
theorem ck_X2_isChoir  {x0 : Nat} {x1 : Int32} {x2 : Int32} {M : Mem} {r : Int32} (h : f_X2_isChoir  x0 x1 x2 M = some r) : kd M x0 = 12 := by
  unfold f_X2_isChoir at h
  exact ck h
set_option maxHeartbeats 4000000 in
set_option maxRecDepth 100000 in
theorem ok_X2_isChoir  {x0 : Nat} {x1 : Int32} {x2 : Int32}  {M : Mem} {r : Int32}  (h : f_X2_isChoir  x0 x1 x2 M = some r) : Ok l yX2_isChoir cX2_isChoir 5 (some .boolean) 2 [.ref (B + x0), .int x1, .int x2] D B ca st M (some (.int r)) M := by
  have hk0 := ck_X2_isChoir h
  unfold f_X2_isChoir at h
  have h := ip hk0 h
  refine ok_of rfl rfl (Nat.le_of_ble_eq_true rfl) ?_
  intro p e s m args below meth c ls C hl hR hS
  have hl : lv_has ls 5 [(0, .ref (B + x0)), (1, .int x1), (2, .int x2)] := hl
  have hx := C.1
  have hb := C.2.1
  refine lv_iconst (v := 0) hx hb dX2_isChoir_0 (by decide) ?_
  refine lv_istore_n (lv' := [(3, .int 0), (0, .ref (B + x0)), (1, .int x1), (2, .int x2)]) hx hb dX2_isChoir_1 rfl hl (by decide) rfl (fun ls hl => ?_)
  exact w_X2_isChoir_2 C  FU h hR hS (lv_sub hl [1, 2, 3, 0] rfl)
set_option maxHeartbeats 4000000 in
set_option maxRecDepth 100000 in
theorem w_X7_choir_29    {r : Int32 × Mem} (C : Cx p s m args meth c RX7 cX7_choir 4 (some .int) D B ca st)   : ∀ (n : Nat) {x0 : Nat} {x1 : Int32} {x2 : Int32} {x3 : Int32} {M : Mem}, f_X7_choir_29  n x0 x1 x2 x3 M = some r → ∀ {H : Heap} {locs : List Loc} {ls : Array Slot}, RH D B ca M H → va_S (AA B) s.heap H locs → lv_has ls 4 [(0, .ref (B + x0)), (1, .int x1), (2, .int x2), (3, .int x3)] → W p l e (rmD 3) s m args below meth c H locs 0 0 (MQ below (Qp D B ca st (some (.int r.1)) r.2) args s 0 0 (AA B)) (F0 m 29 ls []) := by
  have hx := C.1
  have hb := C.2.1
  intro n
  induction n with
  | zero => intro x0 x1 x2 x3 M h; simp [f_X7_choir_29] at h
  | succ n ih =>
    intro x0 x1 x2 x3 M h H locs ls hR hS hl
    rw [f_X7_choir_29] at h
    refine lv_iload_n hx hb dX7_choir_29 rfl (lv_at hl 3 rfl) ?_
    refine lv_iconst (v := 1) hx hb dX7_choir_30 (by decide) ?_
    refine lv_aload_n hx hb dX7_choir_31 rfl (lv_at hl 0 rfl) ?_
    obtain ⟨v5, zqe6, h⟩ := ob h
    refine gf327 C hR zqe6 dX7_choir_32 ?_
    obtain ⟨v7, zqe8, h⟩ := ob h
    refine gf154 C hR zqe8 dX7_choir_35 ?_
    refine lv_ishl hx hb dX7_choir_38 ?_
    refine lv_icmp_ge (tgt := 73) hx hb dX7_choir_39 (by decide) (fun c => ?_) (fun c => ?_)
    · have h := ip c h
      refine lv_aload_n hx hb dX7_choir_73 rfl (lv_at hl 0 rfl) ?_
      refine lv_iload_n hx hb dX7_choir_74 rfl (lv_at hl 2 rfl) ?_
      obtain ⟨M9, zqe10, h⟩ := ob h
      refine pf335 C hR hS zqe10 dX7_choir_75 (fun H locs hR hS => ?_)
      refine lv_iload_n hx hb dX7_choir_78 rfl (lv_at hl 2 rfl) ?_
      refine rc_S C hR hS cf_J6_bitCount_0f7a4 cs_J6_bitCount_0f7a4 lk731 (ok_J6_bitCount_0f7a4 x2) ⟨Nat.le_of_ble_eq_true rfl, Nat.le_of_ble_eq_true rfl⟩ ⟨Nat.zero_le _, Nat.zero_le _⟩ rfl rfl hl.1 (Nat.le_of_ble_eq_true rfl) dX7_choir_79 (rc_k1 (fun H locs hR hS => ?_))
      cases h
      exact rr_I C hR hS dX7_choir_82
    · have h := iq c h
      refine lv_iload_n hx hb dX7_choir_42 rfl (lv_at hl 3 rfl) ?_
      refine rc_S C hR hS cf_J6_bitCount_0f7a4 cs_J6_bitCount_0f7a4 lk731 (ok_J6_bitCount_0f7a4 x3) ⟨Nat.le_of_ble_eq_true rfl, Nat.le_of_ble_eq_true rfl⟩ ⟨Nat.zero_le _, Nat.zero_le _⟩ rfl rfl hl.1 (Nat.le_of_ble_eq_true rfl) dX7_choir_43 (rc_k1 (fun H locs hR hS => ?_))
      refine lv_iload_n hx hb dX7_choir_46 rfl (lv_at hl 2 rfl) ?_
      refine rc_S C hR hS cf_J6_bitCount_0f7a4 cs_J6_bitCount_0f7a4 lk731 (ok_J6_bitCount_0f7a4 x2) ⟨Nat.le_of_ble_eq_true rfl, Nat.le_of_ble_eq_true rfl⟩ ⟨Nat.zero_le _, Nat.zero_le _⟩ rfl rfl hl.1 (Nat.le_of_ble_eq_true rfl) dX7_choir_47 (rc_k1 (fun H locs hR hS => ?_))
      refine lv_icmp_le (tgt := 67) hx hb dX7_choir_50 (by decide) (fun c => ?_) (fun c => ?_)
      · have h := ip c h
        refine lv_iinc (v := (x3 + 1)) (lv' := [(3, .int (x3 + 1)), (0, .ref (B + x0)), (1, .int x1), (2, .int x2)]) hx hb dX7_choir_67 hl (k := 3) rfl rfl (by decide) rfl (fun ls hl => ?_)
        refine lv_goto (tgt := 29) hx hb dX7_choir_70 (by decide) ?_
        exact ih h hR hS (lv_sub hl [1, 2, 3, 0] rfl)
      · have h := iq c h
        refine lv_aload_n hx hb dX7_choir_53 rfl (lv_at hl 0 rfl) ?_
        obtain ⟨v14, zqe15, h⟩ := ob h
        refine gf327 C hR zqe15 dX7_choir_54 ?_
        refine lv_iload_n hx hb dX7_choir_57 rfl (lv_at hl 3 rfl) ?_
        refine lv_iload_n hx hb dX7_choir_58 rfl (lv_at hl 1 rfl) ?_
        obtain ⟨v17, zqe16, h⟩ := ob h
        refine rc_VN C hR hS cf_X2_isChoir cv_X2_isChoir lk795 (ok_X2_isChoir zqe16) (ck_X2_isChoir zqe16) ⟨Nat.le_of_ble_eq_true rfl, Nat.le_of_ble_eq_true rfl⟩ ⟨Nat.zero_le _, Nat.zero_le _⟩ rfl rfl hl.1 (Nat.le_of_ble_eq_true rfl) dX7_choir_59 (rc_k1 (fun H locs hR hS => ?_))
        refine lv_if_eq (tgt := 67) hx hb dX7_choir_62 (by decide) (fun c => ?_) (fun c => ?_)
        · have h := ip c h
          refine lv_iinc (v := (x3 + 1)) (lv' := [(3, .int (x3 + 1)), (0, .ref (B + x0)), (1, .int x1), (2, .int x2)]) hx hb dX7_choir_67 hl (k := 3) rfl rfl (by decide) rfl (fun ls hl => ?_)
          refine lv_goto (tgt := 29) hx hb dX7_choir_70 (by decide) ?_
          exact ih h hR hS (lv_sub hl [1, 2, 3, 0] rfl)
        · have h := iq c h
          refine lv_iload_n hx hb dX7_choir_65 rfl (lv_at hl 3 rfl) ?_
          refine lv_istore_n (lv' := [(2, .int x3), (0, .ref (B + x0)), (1, .int x1), (3, .int x3)]) hx hb dX7_choir_66 rfl hl (by decide) rfl (fun ls hl => ?_)
          refine lv_iinc (v := (x3 + 1)) (lv' := [(3, .int (x3 + 1)), (2, .int x3), (0, .ref (B + x0)), (1, .int x1)]) hx hb dX7_choir_67 hl (k := 3) rfl rfl (by decide) rfl (fun ls hl => ?_)
          refine lv_goto (tgt := 29) hx hb dX7_choir_70 (by decide) ?_
          exact ih h hR hS (lv_sub hl [2, 3, 1, 0] rfl)
theorem ck_X7_choir  {x0 : Nat} {x1 : Int32} {M : Mem} {r : Int32 × Mem} (h : f_X7_choir  x0 x1 M = some r) : kd M x0 = 17 := by
  unfold f_X7_choir at h
  exact ck h
set_option maxHeartbeats 4000000 in
set_option maxRecDepth 100000 in
theorem ok_X7_choir  {x0 : Nat} {x1 : Int32}  {M : Mem} {r : Int32 × Mem}  (h : f_X7_choir  x0 x1 M = some r) : Ok l yX7_choir cX7_choir 4 (some .int) 3 [.ref (B + x0), .int x1] D B ca st M (some (.int r.1)) r.2 := by
  have hk0 := ck_X7_choir h
  unfold f_X7_choir at h
  have h := ip hk0 h
  refine ok_of rfl rfl (Nat.le_of_ble_eq_true rfl) ?_
  intro p e s m args below meth c ls C hl hR hS
  have hl : lv_has ls 4 [(0, .ref (B + x0)), (1, .int x1)] := hl
  have hx := C.1
  have hb := C.2.1
  refine lv_iload_n hx hb dX7_choir_0 rfl (lv_at hl 1 rfl) ?_
  refine lv_if_lt (tgt := 10) hx hb dX7_choir_1 (by decide) (fun c => ?_) (fun c => ?_)
  · have h := ip c h
    refine lv_iconst (v := (-1)) hx hb dX7_choir_10 (by decide) ?_
    cases h
    exact rr_I C hR hS dX7_choir_11
  · have h := iq c h
    refine lv_iload_n hx hb dX7_choir_4 rfl (lv_at hl 1 rfl) ?_
    refine lv_bipush (v := 9) hx hb dX7_choir_5 (by decide) ?_
    refine lv_icmp_le (tgt := 12) hx hb dX7_choir_7 (by decide) (fun c => ?_) (fun c => ?_)
    · have h := ip c h
      refine lv_aload_n hx hb dX7_choir_12 rfl (lv_at hl 0 rfl) ?_
      obtain ⟨v1, zqe2, h⟩ := ob h
      refine gf327 C hR zqe2 dX7_choir_13 ?_
      obtain ⟨v3, zqe4, h⟩ := ob h
      refine gf154 C hR zqe4 dX7_choir_16 ?_
      refine lv_if_ne (tgt := 25) hx hb dX7_choir_19 (by decide) (fun c => ?_) (fun c => ?_)
      · have h := iq c h
        refine lv_iconst (v := 0) hx hb dX7_choir_25 (by decide) ?_
        refine lv_istore_n (lv' := [(2, .int 0), (0, .ref (B + x0)), (1, .int x1)]) hx hb dX7_choir_26 rfl hl (by decide) rfl (fun ls hl => ?_)
        refine lv_iconst (v := 1) hx hb dX7_choir_27 (by decide) ?_
        refine lv_istore_n (lv' := [(3, .int 1), (2, .int 0), (0, .ref (B + x0)), (1, .int x1)]) hx hb dX7_choir_28 rfl hl (by decide) rfl (fun ls hl => ?_)
        exact w_X7_choir_29 C  FU h hR hS (lv_sub hl [2, 3, 1, 0] rfl)
      · have h := ip c h
        refine lv_bipush (v := (-4)) hx hb dX7_choir_22 (by decide) ?_
        cases h
        exact rr_I C hR hS dX7_choir_24
    · have h := iq c h
      refine lv_iconst (v := (-1)) hx hb dX7_choir_10 (by decide) ?_
      cases h
      exact rr_I C hR hS dX7_choir_11
theorem ck_X4_hasFrom  {x0 : Nat} {x1 : Int32} {x2 : Int32} {M : Mem} {r : Int32} (h : f_X4_hasFrom  x0 x1 x2 M = some r) : kd M x0 = 14 := by
  unfold f_X4_hasFrom at h
  exact ck h
set_option maxHeartbeats 4000000 in
set_option maxRecDepth 100000 in
theorem ok_X4_hasFrom  {x0 : Nat} {x1 : Int32} {x2 : Int32}  {M : Mem} {r : Int32}  (h : f_X4_hasFrom  x0 x1 x2 M = some r) : Ok l yX4_hasFrom cX4_hasFrom 3 (some .boolean) 0 [.ref (B + x0), .int x1, .int x2] D B ca st M (some (.int r)) M := by
  have hk0 := ck_X4_hasFrom h
  unfold f_X4_hasFrom at h
  have h := ip hk0 h
  refine ok_of rfl rfl (Nat.le_of_ble_eq_true rfl) ?_
  intro p e s m args below meth c ls C hl hR hS
  have hl : lv_has ls 3 [(0, .ref (B + x0)), (1, .int x1), (2, .int x2)] := hl
  have hx := C.1
  have hb := C.2.1
  refine lv_iload_n hx hb dX4_hasFrom_0 rfl (lv_at hl 1 rfl) ?_
  refine lv_if_lt (tgt := 26) hx hb dX4_hasFrom_1 (by decide) (fun c => ?_) (fun c => ?_)
  · have h := ip c h
    refine lv_iconst (v := 0) hx hb dX4_hasFrom_26 (by decide) ?_
    cases h
    exact rr_Z (v := 0) C hR hS (by decide) dX4_hasFrom_27
  · have h := iq c h
    refine lv_iload_n hx hb dX4_hasFrom_4 rfl (lv_at hl 1 rfl) ?_
    refine lv_aload_n hx hb dX4_hasFrom_5 rfl (lv_at hl 0 rfl) ?_
    obtain ⟨v1, zqe2, h⟩ := ob h
    refine gf303 C hR zqe2 dX4_hasFrom_6 ?_
    refine lv_icmp_gt (tgt := 26) hx hb dX4_hasFrom_9 (by decide) (fun c => ?_) (fun c => ?_)
    · have h := ip c h
      refine lv_iconst (v := 0) hx hb dX4_hasFrom_26 (by decide) ?_
      cases h
      exact rr_Z (v := 0) C hR hS (by decide) dX4_hasFrom_27
    · have h := iq c h
      refine lv_iload_n hx hb dX4_hasFrom_12 rfl (lv_at hl 2 rfl) ?_
      refine lv_aload_n hx hb dX4_hasFrom_13 rfl (lv_at hl 0 rfl) ?_
      obtain ⟨v3, zqe4, h⟩ := ob h
      refine gf303 C hR zqe4 dX4_hasFrom_14 ?_
      refine lv_iload_n hx hb dX4_hasFrom_17 rfl (lv_at hl 1 rfl) ?_
      refine lv_isub hx hb dX4_hasFrom_18 ?_
      refine lv_icmp_gt (tgt := 26) hx hb dX4_hasFrom_19 (by decide) (fun c => ?_) (fun c => ?_)
      · have h := ip c h
        refine lv_iconst (v := 0) hx hb dX4_hasFrom_26 (by decide) ?_
        cases h
        exact rr_Z (v := 0) C hR hS (by decide) dX4_hasFrom_27
      · have h := iq c h
        refine lv_iconst (v := 1) hx hb dX4_hasFrom_22 (by decide) ?_
        refine lv_goto (tgt := 27) hx hb dX4_hasFrom_23 (by decide) ?_
        cases h
        exact rr_Z (v := 1) C hR hS (by decide) dX4_hasFrom_27
set_option maxHeartbeats 4000000 in
set_option maxRecDepth 100000 in
theorem w_X7_copy_53    {r : Int32 × Mem} {x0 : Nat} {M : Mem} (C : Cx p s m args meth c RX7 cX7_copy 8 (some .int) D B ca st)   (h : f_X7_copy_53  x0 M = some r) : ∀ {H : Heap} {locs : List Loc} {ls : Array Slot}, RH D B ca M H → va_S (AA B) s.heap H locs → lv_has ls 8 [(0, .ref (B + x0))] → W p l e (rmD 1) s m args below meth c H locs 0 0 (MQ below (Qp D B ca st (some (.int r.1)) r.2) args s 0 0 (AA B)) (F0 m 53 ls []) := by
  have hx := C.1
  have hb := C.2.1
  unfold f_X7_copy_53 at h
  intro H locs ls hR hS hl
  refine lv_aload_n hx hb dX7_copy_53 rfl (lv_at hl 0 rfl) ?_
  refine lv_iconst (v := 1) hx hb dX7_copy_54 (by decide) ?_
  obtain ⟨qv28, zqe27, h⟩ := ob h
  refine rc_V C hR hS cf_X7_refuse cv_X7_refuse lk379 (ok_X7_refuse zqe27) (ck_X7_refuse zqe27) ⟨Nat.le_of_ble_eq_true rfl, Nat.le_of_ble_eq_true rfl⟩ ⟨Nat.zero_le _, Nat.zero_le _⟩ rfl rfl hl.1 (Nat.le_of_ble_eq_true rfl) dX7_copy_55 (rc_k1 (fun H locs hR hS => ?_))
  cases h
  exact rr_I C hR hS dX7_copy_58
set_option maxHeartbeats 4000000 in
set_option maxRecDepth 100000 in
theorem w_X7_copy_82    {r : Int32 × Mem} {x0 : Nat} {M : Mem} (C : Cx p s m args meth c RX7 cX7_copy 8 (some .int) D B ca st)   (h : f_X7_copy_82  x0 M = some r) : ∀ {H : Heap} {locs : List Loc} {ls : Array Slot}, RH D B ca M H → va_S (AA B) s.heap H locs → lv_has ls 8 [(0, .ref (B + x0))] → W p l e (rmD 1) s m args below meth c H locs 0 0 (MQ below (Qp D B ca st (some (.int r.1)) r.2) args s 0 0 (AA B)) (F0 m 82 ls []) := by
  have hx := C.1
  have hb := C.2.1
  unfold f_X7_copy_82 at h
  intro H locs ls hR hS hl
  refine lv_aload_n hx hb dX7_copy_82 rfl (lv_at hl 0 rfl) ?_
  refine lv_iconst (v := 2) hx hb dX7_copy_83 (by decide) ?_
  obtain ⟨qv31, zqe30, h⟩ := ob h
  refine rc_V C hR hS cf_X7_refuse cv_X7_refuse lk379 (ok_X7_refuse zqe30) (ck_X7_refuse zqe30) ⟨Nat.le_of_ble_eq_true rfl, Nat.le_of_ble_eq_true rfl⟩ ⟨Nat.zero_le _, Nat.zero_le _⟩ rfl rfl hl.1 (Nat.le_of_ble_eq_true rfl) dX7_copy_84 (rc_k1 (fun H locs hR hS => ?_))
  cases h
  exact rr_I C hR hS dX7_copy_87
theorem ck_X7_copy  {x0 : Nat} {x1 : Int32} {x2 : Int32} {x3 : Int32} {x4 : Int32} {x5 : Int32} {M : Mem} {r : Int32 × Mem} (h : f_X7_copy  x0 x1 x2 x3 x4 x5 M = some r) : kd M x0 = 17 := by
  unfold f_X7_copy at h
  exact ck h
set_option maxHeartbeats 4000000 in
set_option maxRecDepth 100000 in
theorem ok_X7_copy  {x0 : Nat} {x1 : Int32} {x2 : Int32} {x3 : Int32} {x4 : Int32} {x5 : Int32}  {M : Mem} {r : Int32 × Mem}  (h : f_X7_copy  x0 x1 x2 x3 x4 x5 M = some r) : Ok l yX7_copy cX7_copy 8 (some .int) 1 [.ref (B + x0), .int x1, .int x2, .int x3, .int x4, .int x5] D B ca st M (some (.int r.1)) r.2 := by
  have hk0 := ck_X7_copy h
  unfold f_X7_copy at h
  have h := ip hk0 h
  refine ok_of rfl rfl (Nat.le_of_ble_eq_true rfl) ?_
  intro p e s m args below meth c ls C hl hR hS
  have hl : lv_has ls 8 [(0, .ref (B + x0)), (1, .int x1), (2, .int x2), (3, .int x3), (4, .int x4), (5, .int x5)] := hl
  have hx := C.1
  have hb := C.2.1
  refine lv_aload_n hx hb dX7_copy_0 rfl (lv_at hl 0 rfl) ?_
  refine lv_iload_n hx hb dX7_copy_1 rfl (lv_at hl 1 rfl) ?_
  obtain ⟨v2, zqe1, h⟩ := ob h
  refine rc_V C hR hS cf_X7_rowOf cv_X7_rowOf lk375 (ok_X7_rowOf zqe1) (ck_X7_rowOf zqe1) ⟨Nat.le_of_ble_eq_true rfl, Nat.le_of_ble_eq_true rfl⟩ ⟨Nat.zero_le _, Nat.zero_le _⟩ rfl rfl hl.1 (Nat.le_of_ble_eq_true rfl) dX7_copy_2 (rc_k1 (fun H locs hR hS => ?_))
  refine rc_nul (fun zqz3 => ?_) (fun zqz3 => ?_)
  · have h := ip zqz3 h
    refine lv_astoreN (lv' := [(6, .null), (0, .ref (B + x0)), (1, .int x1), (2, .int x2), (3, .int x3), (4, .int x4), (5, .int x5)]) hx hb dX7_copy_5 hl (by decide) rfl (fun ls hl => ?_)
    refine lv_aload_n hx hb dX7_copy_7 rfl (lv_at hl 1 rfl) ?_
    refine lv_iload_n hx hb dX7_copy_8 rfl (lv_at hl 4 rfl) ?_
    obtain ⟨v5, zqe4, h⟩ := ob h
    refine rc_V C hR hS cf_X7_rowOf cv_X7_rowOf lk375 (ok_X7_rowOf zqe4) (ck_X7_rowOf zqe4) ⟨Nat.le_of_ble_eq_true rfl, Nat.le_of_ble_eq_true rfl⟩ ⟨Nat.zero_le _, Nat.zero_le _⟩ rfl rfl hl.1 (Nat.le_of_ble_eq_true rfl) dX7_copy_9 (rc_k1 (fun H locs hR hS => ?_))
    refine rc_nul (fun zqz6 => ?_) (fun zqz6 => ?_)
    · have h := ip zqz6 h
      refine lv_astoreN (lv' := [(7, .null), (6, .null), (0, .ref (B + x0)), (1, .int x1), (2, .int x2), (3, .int x3), (4, .int x4), (5, .int x5)]) hx hb dX7_copy_12 hl (by decide) rfl (fun ls hl => ?_)
      refine lv_aloadN hx hb dX7_copy_14 (lv_at hl 1 rfl) ?_
      refine lv_ifnullN (tgt := 24) hx hb dX7_copy_16 (by decide) ?_
      refine lv_iconst (v := (-1)) hx hb dX7_copy_24 (by decide) ?_
      cases h
      exact rr_I C hR hS dX7_copy_25
    · have h := iq zqz6 h
      refine lv_astore (lv' := [(7, .ref (B + v5)), (6, .null), (0, .ref (B + x0)), (1, .int x1), (2, .int x2), (3, .int x3), (4, .int x4), (5, .int x5)]) hx hb dX7_copy_12 hl (by decide) rfl (fun ls hl => ?_)
      refine lv_aloadN hx hb dX7_copy_14 (lv_at hl 1 rfl) ?_
      refine lv_ifnullN (tgt := 24) hx hb dX7_copy_16 (by decide) ?_
      refine lv_iconst (v := (-1)) hx hb dX7_copy_24 (by decide) ?_
      cases h
      exact rr_I C hR hS dX7_copy_25
  · have h := iq zqz3 h
    refine lv_astore (lv' := [(6, .ref (B + v2)), (0, .ref (B + x0)), (1, .int x1), (2, .int x2), (3, .int x3), (4, .int x4), (5, .int x5)]) hx hb dX7_copy_5 hl (by decide) rfl (fun ls hl => ?_)
    refine lv_aload_n hx hb dX7_copy_7 rfl (lv_at hl 1 rfl) ?_
    refine lv_iload_n hx hb dX7_copy_8 rfl (lv_at hl 4 rfl) ?_
    obtain ⟨v8, zqe7, h⟩ := ob h
    refine rc_V C hR hS cf_X7_rowOf cv_X7_rowOf lk375 (ok_X7_rowOf zqe7) (ck_X7_rowOf zqe7) ⟨Nat.le_of_ble_eq_true rfl, Nat.le_of_ble_eq_true rfl⟩ ⟨Nat.zero_le _, Nat.zero_le _⟩ rfl rfl hl.1 (Nat.le_of_ble_eq_true rfl) dX7_copy_9 (rc_k1 (fun H locs hR hS => ?_))
    refine rc_nul (fun zqz9 => ?_) (fun zqz9 => ?_)
    · have h := ip zqz9 h
      refine lv_astoreN (lv' := [(7, .null), (6, .ref (B + v2)), (0, .ref (B + x0)), (1, .int x1), (2, .int x2), (3, .int x3), (4, .int x4), (5, .int x5)]) hx hb dX7_copy_12 hl (by decide) rfl (fun ls hl => ?_)
      refine lv_aload hx hb dX7_copy_14 (lv_at hl 1 rfl) ?_
      refine lv_ifnull hx hb dX7_copy_16 ?_
      refine lv_aloadN hx hb dX7_copy_19 (lv_at hl 0 rfl) ?_
      refine lv_ifnonnullN hx hb dX7_copy_21 ?_
      refine lv_iconst (v := (-1)) hx hb dX7_copy_24 (by decide) ?_
      cases h
      exact rr_I C hR hS dX7_copy_25
    · have h := iq zqz9 h
      refine lv_astore (lv' := [(7, .ref (B + v8)), (6, .ref (B + v2)), (0, .ref (B + x0)), (1, .int x1), (2, .int x2), (3, .int x3), (4, .int x4), (5, .int x5)]) hx hb dX7_copy_12 hl (by decide) rfl (fun ls hl => ?_)
      refine lv_aload hx hb dX7_copy_14 (lv_at hl 1 rfl) ?_
      refine lv_ifnull hx hb dX7_copy_16 ?_
      refine lv_aload hx hb dX7_copy_19 (lv_at hl 0 rfl) ?_
      refine lv_ifnonnull (tgt := 26) hx hb dX7_copy_21 (by decide) ?_
      refine lv_iload hx hb dX7_copy_26 (lv_at hl 7 rfl) ?_
      refine lv_if_ge (tgt := 37) hx hb dX7_copy_28 (by decide) (fun c => ?_) (fun c => ?_)
      · have h := ip c h
        refine lv_aload hx hb dX7_copy_37 (lv_at hl 1 rfl) ?_
        obtain ⟨v11, zqe10, h⟩ := ob h
        refine rc_VN C hR hS cf_X4_isMissing cv_X4_isMissing lk394 (ok_X4_isMissing zqe10) (ck_X4_isMissing zqe10) ⟨Nat.le_of_ble_eq_true rfl, Nat.le_of_ble_eq_true rfl⟩ ⟨Nat.zero_le _, Nat.zero_le _⟩ rfl rfl hl.1 (Nat.le_of_ble_eq_true rfl) dX7_copy_39 (rc_k1 (fun H locs hR hS => ?_))
        refine lv_if_ne (tgt := 53) hx hb dX7_copy_42 (by decide) (fun c => ?_) (fun c => ?_)
        · have h := iq c h
          exact w_X7_copy_53 C  h hR hS (lv_sub hl [2] rfl)
        · have h := ip c h
          refine lv_aload hx hb dX7_copy_45 (lv_at hl 0 rfl) ?_
          obtain ⟨v13, zqe12, h⟩ := ob h
          refine rc_VN C hR hS cf_X4_isMissing cv_X4_isMissing lk394 (ok_X4_isMissing zqe12) (ck_X4_isMissing zqe12) ⟨Nat.le_of_ble_eq_true rfl, Nat.le_of_ble_eq_true rfl⟩ ⟨Nat.zero_le _, Nat.zero_le _⟩ rfl rfl hl.1 (Nat.le_of_ble_eq_true rfl) dX7_copy_47 (rc_k1 (fun H locs hR hS => ?_))
          refine lv_if_eq (tgt := 59) hx hb dX7_copy_50 (by decide) (fun c => ?_) (fun c => ?_)
          · have h := ip c h
            refine lv_aload hx hb dX7_copy_59 (lv_at hl 1 rfl) ?_
            refine lv_iload_n hx hb dX7_copy_61 rfl (lv_at hl 4 rfl) ?_
            refine lv_iload hx hb dX7_copy_62 (lv_at hl 7 rfl) ?_
            obtain ⟨v15, zqe14, h⟩ := ob h
            refine rc_VN C hR hS cf_X4_hasFrom cv_X4_hasFrom lk414 (ok_X4_hasFrom zqe14) (ck_X4_hasFrom zqe14) ⟨Nat.le_of_ble_eq_true rfl, Nat.le_of_ble_eq_true rfl⟩ ⟨Nat.zero_le _, Nat.zero_le _⟩ rfl rfl hl.1 (Nat.le_of_ble_eq_true rfl) dX7_copy_64 (rc_k1 (fun H locs hR hS => ?_))
            refine lv_if_eq (tgt := 82) hx hb dX7_copy_67 (by decide) (fun c => ?_) (fun c => ?_)
            · have h := ip c h
              exact w_X7_copy_82 C  h hR hS (lv_sub hl [2] rfl)
            · have h := iq c h
              refine lv_aload hx hb dX7_copy_70 (lv_at hl 0 rfl) ?_
              refine lv_iload hx hb dX7_copy_72 (lv_at hl 6 rfl) ?_
              refine lv_iload hx hb dX7_copy_74 (lv_at hl 7 rfl) ?_
              obtain ⟨v17, zqe16, h⟩ := ob h
              refine rc_VN C hR hS cf_X4_hasFrom cv_X4_hasFrom lk414 (ok_X4_hasFrom zqe16) (ck_X4_hasFrom zqe16) ⟨Nat.le_of_ble_eq_true rfl, Nat.le_of_ble_eq_true rfl⟩ ⟨Nat.zero_le _, Nat.zero_le _⟩ rfl rfl hl.1 (Nat.le_of_ble_eq_true rfl) dX7_copy_76 (rc_k1 (fun H locs hR hS => ?_))
              refine lv_if_ne (tgt := 88) hx hb dX7_copy_79 (by decide) (fun c => ?_) (fun c => ?_)
              · have h := iq c h
                refine lv_aload hx hb dX7_copy_88 (lv_at hl 1 rfl) ?_
                obtain ⟨v18, zqe19, h⟩ := ob h
                refine gf302 C hR zqe19 dX7_copy_90 ?_
                refine lv_iload_n hx hb dX7_copy_93 rfl (lv_at hl 4 rfl) ?_
                refine lv_aload hx hb dX7_copy_94 (lv_at hl 0 rfl) ?_
                obtain ⟨v20, zqe21, h⟩ := ob h
                refine gf302 C hR zqe21 dX7_copy_96 ?_
                refine lv_iload hx hb dX7_copy_99 (lv_at hl 6 rfl) ?_
                refine lv_iload hx hb dX7_copy_101 (lv_at hl 7 rfl) ?_
                obtain ⟨M22, zqe23, h⟩ := ob h
                refine rcp C hR hS hl.1 lk418 lk420 lk419 lk130 zqe23 ⟨Nat.le_of_ble_eq_true rfl, Nat.le_of_ble_eq_true rfl⟩ dX7_copy_103 (fun H locs hR hS => ?_)
                refine lv_iconst (v := 1) hx hb dX7_copy_106 (by decide) ?_
                cases h
                exact rr_I C hR hS dX7_copy_107
              · have h := ip c h
                exact w_X7_copy_82 C  h hR hS (lv_sub hl [2] rfl)
          · have h := iq c h
            exact w_X7_copy_53 C  h hR hS (lv_sub hl [2] rfl)
      · have h := iq c h
        refine lv_aload_n hx hb dX7_copy_31 rfl (lv_at hl 2 rfl) ?_
        refine lv_iconst (v := 5) hx hb dX7_copy_32 (by decide) ?_
        obtain ⟨qv25, zqe24, h⟩ := ob h
        refine rc_V C hR hS cf_X7_refuse cv_X7_refuse lk379 (ok_X7_refuse zqe24) (ck_X7_refuse zqe24) ⟨Nat.le_of_ble_eq_true rfl, Nat.le_of_ble_eq_true rfl⟩ ⟨Nat.zero_le _, Nat.zero_le _⟩ rfl rfl hl.1 (Nat.le_of_ble_eq_true rfl) dX7_copy_33 (rc_k1 (fun H locs hR hS => ?_))
        cases h
        exact rr_I C hR hS dX7_copy_36
set_option maxHeartbeats 4000000 in
set_option maxRecDepth 100000 in
theorem w_X2_countOfKind_4    {r : Int32} (C : Cx p s m args meth c RX2 cX2_countOfKind 4 (some .int) D B ca st)   : ∀ (n : Nat) {x0 : Nat} {x1 : Int32} {x2 : Int32} {x3 : Int32} {M : Mem}, f_X2_countOfKind_4  n x0 x1 x2 x3 M = some r → ∀ {H : Heap} {locs : List Loc} {ls : Array Slot}, RH D B ca M H → va_S (AA B) s.heap H locs → lv_has ls 4 [(0, .ref (B + x0)), (1, .int x1), (2, .int x2), (3, .int x3)] → W p l e (rmD 2) s m args below meth c H locs 0 0 (MQ below (Qp D B ca st (some (.int r)) M) args s 0 0 (AA B)) (F0 m 4 ls []) := by
  have hx := C.1
  have hb := C.2.1
  intro n
  induction n with
  | zero => intro x0 x1 x2 x3 M h; simp [f_X2_countOfKind_4] at h
  | succ n ih =>
    intro x0 x1 x2 x3 M h H locs ls hR hS hl
    rw [f_X2_countOfKind_4] at h
    refine lv_iload_n hx hb dX2_countOfKind_4 rfl (lv_at hl 3 rfl) ?_
    refine lv_aload_n hx hb dX2_countOfKind_5 rfl (lv_at hl 0 rfl) ?_
    obtain ⟨v1, zqe2, h⟩ := ob h
    refine gf151 C hR zqe2 dX2_countOfKind_6 ?_
    refine lv_icmp_ge (tgt := 39) hx hb dX2_countOfKind_9 (by decide) (fun c => ?_) (fun c => ?_)
    · have h := ip c h
      refine lv_iload_n hx hb dX2_countOfKind_39 rfl (lv_at hl 2 rfl) ?_
      cases h
      exact rr_I C hR hS dX2_countOfKind_40
    · have h := iq c h
      refine lv_iload_n hx hb dX2_countOfKind_12 rfl (lv_at hl 2 rfl) ?_
      refine lv_aload_n hx hb dX2_countOfKind_13 rfl (lv_at hl 0 rfl) ?_
      obtain ⟨v3, zqe4, h⟩ := ob h
      refine gf159 C hR zqe4 dX2_countOfKind_14 ?_
      refine lv_iload_n hx hb dX2_countOfKind_17 rfl (lv_at hl 3 rfl) ?_
      obtain ⟨v5, zqe6, h⟩ := ob h
      refine ra_I C hR zqe6 dX2_countOfKind_18 ?_
      refine lv_iload_n hx hb dX2_countOfKind_19 rfl (lv_at hl 1 rfl) ?_
      obtain ⟨v8, zqe7, h⟩ := ob h
      refine rc_SN C hR hS cf_X7_isOf cs_X7_isOf lk905 (ok_X7_isOf zqe7) ⟨Nat.le_of_ble_eq_true rfl, Nat.le_of_ble_eq_true rfl⟩ ⟨Nat.zero_le _, Nat.zero_le _⟩ rfl rfl hl.1 (Nat.le_of_ble_eq_true rfl) dX2_countOfKind_20 (rc_k1 (fun H locs hR hS => ?_))
      refine lv_if_eq (tgt := 30) hx hb dX2_countOfKind_23 (by decide) (fun c => ?_) (fun c => ?_)
      · have h := ip c h
        refine lv_iconst (v := 0) hx hb dX2_countOfKind_30 (by decide) ?_
        refine lv_iadd hx hb dX2_countOfKind_31 ?_
        refine lv_istore_n (lv' := [(2, .int (x2 + 0)), (0, .ref (B + x0)), (1, .int x1), (3, .int x3)]) hx hb dX2_countOfKind_32 rfl hl (by decide) rfl (fun ls hl => ?_)
        refine lv_iinc (v := (x3 + 1)) (lv' := [(3, .int (x3 + 1)), (2, .int (x2 + 0)), (0, .ref (B + x0)), (1, .int x1)]) hx hb dX2_countOfKind_33 hl (k := 3) rfl rfl (by decide) rfl (fun ls hl => ?_)
        refine lv_goto (tgt := 4) hx hb dX2_countOfKind_36 (by decide) ?_
        exact ih h hR hS (lv_sub hl [2, 3, 1, 0] rfl)
      · have h := iq c h
        refine lv_iconst (v := 1) hx hb dX2_countOfKind_26 (by decide) ?_
        refine lv_goto (tgt := 31) hx hb dX2_countOfKind_27 (by decide) ?_
        refine lv_iadd hx hb dX2_countOfKind_31 ?_
        refine lv_istore_n (lv' := [(2, .int (x2 + 1)), (0, .ref (B + x0)), (1, .int x1), (3, .int x3)]) hx hb dX2_countOfKind_32 rfl hl (by decide) rfl (fun ls hl => ?_)
        refine lv_iinc (v := (x3 + 1)) (lv' := [(3, .int (x3 + 1)), (2, .int (x2 + 1)), (0, .ref (B + x0)), (1, .int x1)]) hx hb dX2_countOfKind_33 hl (k := 3) rfl rfl (by decide) rfl (fun ls hl => ?_)
        refine lv_goto (tgt := 4) hx hb dX2_countOfKind_36 (by decide) ?_
        exact ih h hR hS (lv_sub hl [2, 3, 1, 0] rfl)
theorem ck_X2_countOfKind  {x0 : Nat} {x1 : Int32} {M : Mem} {r : Int32} (h : f_X2_countOfKind  x0 x1 M = some r) : kd M x0 = 12 := by
  unfold f_X2_countOfKind at h
  exact ck h
set_option maxHeartbeats 4000000 in
set_option maxRecDepth 100000 in
theorem ok_X2_countOfKind  {x0 : Nat} {x1 : Int32}  {M : Mem} {r : Int32}  (h : f_X2_countOfKind  x0 x1 M = some r) : Ok l yX2_countOfKind cX2_countOfKind 4 (some .int) 2 [.ref (B + x0), .int x1] D B ca st M (some (.int r)) M := by
  have hk0 := ck_X2_countOfKind h
  unfold f_X2_countOfKind at h
  have h := ip hk0 h
  refine ok_of rfl rfl (Nat.le_of_ble_eq_true rfl) ?_
  intro p e s m args below meth c ls C hl hR hS
  have hl : lv_has ls 4 [(0, .ref (B + x0)), (1, .int x1)] := hl
  have hx := C.1
  have hb := C.2.1
  refine lv_iconst (v := 0) hx hb dX2_countOfKind_0 (by decide) ?_
  refine lv_istore_n (lv' := [(2, .int 0), (0, .ref (B + x0)), (1, .int x1)]) hx hb dX2_countOfKind_1 rfl hl (by decide) rfl (fun ls hl => ?_)
  refine lv_iconst (v := 0) hx hb dX2_countOfKind_2 (by decide) ?_
  refine lv_istore_n (lv' := [(3, .int 0), (2, .int 0), (0, .ref (B + x0)), (1, .int x1)]) hx hb dX2_countOfKind_3 rfl hl (by decide) rfl (fun ls hl => ?_)
  exact w_X2_countOfKind_4 C  FU h hR hS (lv_sub hl [2, 3, 1, 0] rfl)
set_option maxHeartbeats 4000000 in
set_option maxRecDepth 100000 in
theorem w_X6_allBreath_4    {r : Int32} (C : Cx p s m args meth c RX6 cX6_allBreath 4 (some .int) D B ca st)   : ∀ (n : Nat) {x0 : Nat} {x1 : Nat} {x2 : Int32} {x3 : Int32} {M : Mem}, f_X6_allBreath_4  n x0 x1 x2 x3 M = some r → ∀ {H : Heap} {locs : List Loc} {ls : Array Slot}, RH D B ca M H → va_S (AA B) s.heap H locs → lv_has ls 4 [(0, .ref (B + x0)), (1, .ref (B + x1)), (2, .int x2), (3, .int x3)] → W p l e (rmD 0) s m args below meth c H locs 0 0 (MQ below (Qp D B ca st (some (.int r)) M) args s 0 0 (AA B)) (F0 m 4 ls []) := by
  have hx := C.1
  have hb := C.2.1
  intro n
  induction n with
  | zero => intro x0 x1 x2 x3 M h; simp [f_X6_allBreath_4] at h
  | succ n ih =>
    intro x0 x1 x2 x3 M h H locs ls hR hS hl
    rw [f_X6_allBreath_4] at h
    refine lv_iload_n hx hb dX6_allBreath_4 rfl (lv_at hl 3 rfl) ?_
    refine lv_aload_n hx hb dX6_allBreath_5 rfl (lv_at hl 1 rfl) ?_
    obtain ⟨v1, zqe2, h⟩ := ob h
    refine gf152 C hR zqe2 dX6_allBreath_6 ?_
    refine lv_icmp_ge (tgt := 27) hx hb dX6_allBreath_9 (by decide) (fun c => ?_) (fun c => ?_)
    · have h := ip c h
      refine lv_iload_n hx hb dX6_allBreath_27 rfl (lv_at hl 2 rfl) ?_
      cases h
      exact rr_I C hR hS dX6_allBreath_28
    · have h := iq c h
      refine lv_iload_n hx hb dX6_allBreath_12 rfl (lv_at hl 2 rfl) ?_
      refine lv_aload_n hx hb dX6_allBreath_13 rfl (lv_at hl 0 rfl) ?_
      obtain ⟨v3, zqe4, h⟩ := ob h
      refine gf202 C hR zqe4 dX6_allBreath_14 ?_
      refine lv_iload_n hx hb dX6_allBreath_17 rfl (lv_at hl 3 rfl) ?_
      obtain ⟨v5, zqe6, h⟩ := ob h
      refine ra_I C hR zqe6 dX6_allBreath_18 ?_
      refine lv_iadd hx hb dX6_allBreath_19 ?_
      refine lv_istore_n (lv' := [(2, .int (x2 + v5)), (0, .ref (B + x0)), (1, .ref (B + x1)), (3, .int x3)]) hx hb dX6_allBreath_20 rfl hl (by decide) rfl (fun ls hl => ?_)
      refine lv_iinc (v := (x3 + 1)) (lv' := [(3, .int (x3 + 1)), (2, .int (x2 + v5)), (0, .ref (B + x0)), (1, .ref (B + x1))]) hx hb dX6_allBreath_21 hl (k := 3) rfl rfl (by decide) rfl (fun ls hl => ?_)
      refine lv_goto (tgt := 4) hx hb dX6_allBreath_24 (by decide) ?_
      exact ih h hR hS (lv_sub hl [2, 3, 1, 0] rfl)
theorem ck_X6_allBreath  {x0 : Nat} {x1 : Nat} {M : Mem} {r : Int32} (h : f_X6_allBreath  x0 x1 M = some r) : kd M x0 = 16 := by
  unfold f_X6_allBreath at h
  exact ck h
set_option maxHeartbeats 4000000 in
set_option maxRecDepth 100000 in
theorem ok_X6_allBreath  {x0 : Nat} {x1 : Nat}  {M : Mem} {r : Int32}  (h : f_X6_allBreath  x0 x1 M = some r) : Ok l yX6_allBreath cX6_allBreath 4 (some .int) 0 [.ref (B + x0), .ref (B + x1)] D B ca st M (some (.int r)) M := by
  have hk0 := ck_X6_allBreath h
  unfold f_X6_allBreath at h
  have h := ip hk0 h
  refine ok_of rfl rfl (Nat.le_of_ble_eq_true rfl) ?_
  intro p e s m args below meth c ls C hl hR hS
  have hl : lv_has ls 4 [(0, .ref (B + x0)), (1, .ref (B + x1))] := hl
  have hx := C.1
  have hb := C.2.1
  refine lv_iconst (v := 0) hx hb dX6_allBreath_0 (by decide) ?_
  refine lv_istore_n (lv' := [(2, .int 0), (0, .ref (B + x0)), (1, .ref (B + x1))]) hx hb dX6_allBreath_1 rfl hl (by decide) rfl (fun ls hl => ?_)
  refine lv_iconst (v := 0) hx hb dX6_allBreath_2 (by decide) ?_
  refine lv_istore_n (lv' := [(3, .int 0), (2, .int 0), (0, .ref (B + x0)), (1, .ref (B + x1))]) hx hb dX6_allBreath_3 rfl hl (by decide) rfl (fun ls hl => ?_)
  exact w_X6_allBreath_4 C  FU h hR hS (lv_sub hl [2, 3, 1, 0] rfl)
set_option maxHeartbeats 4000000 in
set_option maxRecDepth 100000 in
theorem w_X7_countKept_4    {r : Int32} (C : Cx p s m args meth c RX7 cX7_countKept 3 (some .int) D B ca st)   : ∀ (n : Nat) {x0 : Nat} {x1 : Int32} {x2 : Int32} {M : Mem}, f_X7_countKept_4  n x0 x1 x2 M = some r → ∀ {H : Heap} {locs : List Loc} {ls : Array Slot}, RH D B ca M H → va_S (AA B) s.heap H locs → lv_has ls 3 [(0, .ref (B + x0)), (1, .int x1), (2, .int x2)] → W p l e (rmD 0) s m args below meth c H locs 0 0 (MQ below (Qp D B ca st (some (.int r)) M) args s 0 0 (AA B)) (F0 m 4 ls []) := by
  have hx := C.1
  have hb := C.2.1
  intro n
  induction n with
  | zero => intro x0 x1 x2 M h; simp [f_X7_countKept_4] at h
  | succ n ih =>
    intro x0 x1 x2 M h H locs ls hR hS hl
    rw [f_X7_countKept_4] at h
    refine lv_iload_n hx hb dX7_countKept_4 rfl (lv_at hl 2 rfl) ?_
    refine lv_aload_n hx hb dX7_countKept_5 rfl (lv_at hl 0 rfl) ?_
    obtain ⟨v1, zqe2, h⟩ := ob h
    refine gf332 C hR zqe2 dX7_countKept_6 ?_
    obtain ⟨v3, zqe4, h⟩ := ob h
    refine ra_N C hR (k := 3) (by decide) (by decide) zqe4 dX7_countKept_9 ?_
    refine lv_icmp_ge (tgt := 40) hx hb dX7_countKept_10 (by decide) (fun c => ?_) (fun c => ?_)
    · have h := ip c h
      refine lv_iload_n hx hb dX7_countKept_40 rfl (lv_at hl 1 rfl) ?_
      cases h
      exact rr_I C hR hS dX7_countKept_41
    · have h := iq c h
      refine lv_iload_n hx hb dX7_countKept_13 rfl (lv_at hl 1 rfl) ?_
      refine lv_aload_n hx hb dX7_countKept_14 rfl (lv_at hl 0 rfl) ?_
      obtain ⟨v5, zqe6, h⟩ := ob h
      refine gf332 C hR zqe6 dX7_countKept_15 ?_
      refine lv_iload_n hx hb dX7_countKept_18 rfl (lv_at hl 2 rfl) ?_
      obtain ⟨v7, zqe8, h⟩ := ob h
      refine ra_R C hR (k := 3) (by decide) (by decide) rfl zqe8 dX7_countKept_19 ?_
      obtain ⟨v9, zqe10, h⟩ := ob h
      refine gf233 C hR zqe10 dX7_countKept_20 ?_
      refine lv_iconst (v := (-1)) hx hb dX7_countKept_23 (by decide) ?_
      refine lv_icmp_ne (tgt := 31) hx hb dX7_countKept_24 (by decide) (fun c => ?_) (fun c => ?_)
      · have h := iq c h
        refine lv_iconst (v := 1) hx hb dX7_countKept_31 (by decide) ?_
        refine lv_iadd hx hb dX7_countKept_32 ?_
        refine lv_istore_n (lv' := [(1, .int (x1 + 1)), (0, .ref (B + x0)), (2, .int x2)]) hx hb dX7_countKept_33 rfl hl (by decide) rfl (fun ls hl => ?_)
        refine lv_iinc (v := (x2 + 1)) (lv' := [(2, .int (x2 + 1)), (1, .int (x1 + 1)), (0, .ref (B + x0))]) hx hb dX7_countKept_34 hl (k := 2) rfl rfl (by decide) rfl (fun ls hl => ?_)
        refine lv_goto (tgt := 4) hx hb dX7_countKept_37 (by decide) ?_
        exact ih h hR hS (lv_sub hl [2, 1, 0] rfl)
      · have h := ip c h
        refine lv_iconst (v := 0) hx hb dX7_countKept_27 (by decide) ?_
        refine lv_goto (tgt := 32) hx hb dX7_countKept_28 (by decide) ?_
        refine lv_iadd hx hb dX7_countKept_32 ?_
        refine lv_istore_n (lv' := [(1, .int (x1 + 0)), (0, .ref (B + x0)), (2, .int x2)]) hx hb dX7_countKept_33 rfl hl (by decide) rfl (fun ls hl => ?_)
        refine lv_iinc (v := (x2 + 1)) (lv' := [(2, .int (x2 + 1)), (1, .int (x1 + 0)), (0, .ref (B + x0))]) hx hb dX7_countKept_34 hl (k := 2) rfl rfl (by decide) rfl (fun ls hl => ?_)
        refine lv_goto (tgt := 4) hx hb dX7_countKept_37 (by decide) ?_
        exact ih h hR hS (lv_sub hl [2, 1, 0] rfl)
theorem ck_X7_countKept  {x0 : Nat} {M : Mem} {r : Int32} (h : f_X7_countKept  x0 M = some r) : kd M x0 = 17 := by
  unfold f_X7_countKept at h
  exact ck h
set_option maxHeartbeats 4000000 in
set_option maxRecDepth 100000 in
theorem ok_X7_countKept  {x0 : Nat}  {M : Mem} {r : Int32}  (h : f_X7_countKept  x0 M = some r) : Ok l yX7_countKept cX7_countKept 3 (some .int) 0 [.ref (B + x0)] D B ca st M (some (.int r)) M := by
  have hk0 := ck_X7_countKept h
  unfold f_X7_countKept at h
  have h := ip hk0 h
  refine ok_of rfl rfl (Nat.le_of_ble_eq_true rfl) ?_
  intro p e s m args below meth c ls C hl hR hS
  have hl : lv_has ls 3 [(0, .ref (B + x0))] := hl
  have hx := C.1
  have hb := C.2.1
  refine lv_iconst (v := 0) hx hb dX7_countKept_0 (by decide) ?_
  refine lv_istore_n (lv' := [(1, .int 0), (0, .ref (B + x0))]) hx hb dX7_countKept_1 rfl hl (by decide) rfl (fun ls hl => ?_)
  refine lv_iconst (v := 0) hx hb dX7_countKept_2 (by decide) ?_
  refine lv_istore_n (lv' := [(2, .int 0), (1, .int 0), (0, .ref (B + x0))]) hx hb dX7_countKept_3 rfl hl (by decide) rfl (fun ls hl => ?_)
  exact w_X7_countKept_4 C  FU h hR hS (lv_sub hl [2, 1, 0] rfl)
set_option maxHeartbeats 4000000 in
set_option maxRecDepth 100000 in
theorem w_X7_countRows_4    {r : Int32} (C : Cx p s m args meth c RX7 cX7_countRows 3 (some .int) D B ca st)   : ∀ (n : Nat) {x0 : Nat} {x1 : Int32} {x2 : Int32} {M : Mem}, f_X7_countRows_4  n x0 x1 x2 M = some r → ∀ {H : Heap} {locs : List Loc} {ls : Array Slot}, RH D B ca M H → va_S (AA B) s.heap H locs → lv_has ls 3 [(0, .ref (B + x0)), (1, .int x1), (2, .int x2)] → W p l e (rmD 1) s m args below meth c H locs 0 0 (MQ below (Qp D B ca st (some (.int r)) M) args s 0 0 (AA B)) (F0 m 4 ls []) := by
  have hx := C.1
  have hb := C.2.1
  intro n
  induction n with
  | zero => intro x0 x1 x2 M h; simp [f_X7_countRows_4] at h
  | succ n ih =>
    intro x0 x1 x2 M h H locs ls hR hS hl
    rw [f_X7_countRows_4] at h
    refine lv_iload_n hx hb dX7_countRows_4 rfl (lv_at hl 2 rfl) ?_
    refine lv_aload_n hx hb dX7_countRows_5 rfl (lv_at hl 0 rfl) ?_
    obtain ⟨v1, zqe2, h⟩ := ob h
    refine gf325 C hR zqe2 dX7_countRows_6 ?_
    obtain ⟨v3, zqe4, h⟩ := ob h
    refine ra_N C hR (k := 4) (by decide) (by decide) zqe4 dX7_countRows_9 ?_
    refine lv_icmp_ge (tgt := 39) hx hb dX7_countRows_10 (by decide) (fun c => ?_) (fun c => ?_)
    · have h := ip c h
      refine lv_iload_n hx hb dX7_countRows_39 rfl (lv_at hl 1 rfl) ?_
      cases h
      exact rr_I C hR hS dX7_countRows_40
    · have h := iq c h
      refine lv_iload_n hx hb dX7_countRows_13 rfl (lv_at hl 1 rfl) ?_
      refine lv_aload_n hx hb dX7_countRows_14 rfl (lv_at hl 0 rfl) ?_
      obtain ⟨v5, zqe6, h⟩ := ob h
      refine gf325 C hR zqe6 dX7_countRows_15 ?_
      refine lv_iload_n hx hb dX7_countRows_18 rfl (lv_at hl 2 rfl) ?_
      obtain ⟨v7, zqe8, h⟩ := ob h
      refine ra_R C hR (k := 4) (by decide) (by decide) rfl zqe8 dX7_countRows_19 ?_
      obtain ⟨v10, zqe9, h⟩ := ob h
      refine rc_VN C hR hS cf_X4_isMissing cv_X4_isMissing lk394 (ok_X4_isMissing zqe9) (ck_X4_isMissing zqe9) ⟨Nat.le_of_ble_eq_true rfl, Nat.le_of_ble_eq_true rfl⟩ ⟨Nat.zero_le _, Nat.zero_le _⟩ rfl rfl hl.1 (Nat.le_of_ble_eq_true rfl) dX7_countRows_20 (rc_k1 (fun H locs hR hS => ?_))
      refine lv_if_eq (tgt := 30) hx hb dX7_countRows_23 (by decide) (fun c => ?_) (fun c => ?_)
      · have h := ip c h
        refine lv_iconst (v := 1) hx hb dX7_countRows_30 (by decide) ?_
        refine lv_iadd hx hb dX7_countRows_31 ?_
        refine lv_istore_n (lv' := [(1, .int (x1 + 1)), (0, .ref (B + x0)), (2, .int x2)]) hx hb dX7_countRows_32 rfl hl (by decide) rfl (fun ls hl => ?_)
        refine lv_iinc (v := (x2 + 1)) (lv' := [(2, .int (x2 + 1)), (1, .int (x1 + 1)), (0, .ref (B + x0))]) hx hb dX7_countRows_33 hl (k := 2) rfl rfl (by decide) rfl (fun ls hl => ?_)
        refine lv_goto (tgt := 4) hx hb dX7_countRows_36 (by decide) ?_
        exact ih h hR hS (lv_sub hl [2, 1, 0] rfl)
      · have h := iq c h
        refine lv_iconst (v := 0) hx hb dX7_countRows_26 (by decide) ?_
        refine lv_goto (tgt := 31) hx hb dX7_countRows_27 (by decide) ?_
        refine lv_iadd hx hb dX7_countRows_31 ?_
        refine lv_istore_n (lv' := [(1, .int (x1 + 0)), (0, .ref (B + x0)), (2, .int x2)]) hx hb dX7_countRows_32 rfl hl (by decide) rfl (fun ls hl => ?_)
        refine lv_iinc (v := (x2 + 1)) (lv' := [(2, .int (x2 + 1)), (1, .int (x1 + 0)), (0, .ref (B + x0))]) hx hb dX7_countRows_33 hl (k := 2) rfl rfl (by decide) rfl (fun ls hl => ?_)
        refine lv_goto (tgt := 4) hx hb dX7_countRows_36 (by decide) ?_
        exact ih h hR hS (lv_sub hl [2, 1, 0] rfl)
theorem ck_X7_countRows  {x0 : Nat} {M : Mem} {r : Int32} (h : f_X7_countRows  x0 M = some r) : kd M x0 = 17 := by
  unfold f_X7_countRows at h
  exact ck h
set_option maxHeartbeats 4000000 in
set_option maxRecDepth 100000 in
theorem ok_X7_countRows  {x0 : Nat}  {M : Mem} {r : Int32}  (h : f_X7_countRows  x0 M = some r) : Ok l yX7_countRows cX7_countRows 3 (some .int) 1 [.ref (B + x0)] D B ca st M (some (.int r)) M := by
  have hk0 := ck_X7_countRows h
  unfold f_X7_countRows at h
  have h := ip hk0 h
  refine ok_of rfl rfl (Nat.le_of_ble_eq_true rfl) ?_
  intro p e s m args below meth c ls C hl hR hS
  have hl : lv_has ls 3 [(0, .ref (B + x0))] := hl
  have hx := C.1
  have hb := C.2.1
  refine lv_iconst (v := 0) hx hb dX7_countRows_0 (by decide) ?_
  refine lv_istore_n (lv' := [(1, .int 0), (0, .ref (B + x0))]) hx hb dX7_countRows_1 rfl hl (by decide) rfl (fun ls hl => ?_)
  refine lv_iconst (v := 0) hx hb dX7_countRows_2 (by decide) ?_
  refine lv_istore_n (lv' := [(2, .int 0), (1, .int 0), (0, .ref (B + x0))]) hx hb dX7_countRows_3 rfl hl (by decide) rfl (fun ls hl => ?_)
  exact w_X7_countRows_4 C  FU h hR hS (lv_sub hl [2, 1, 0] rfl)
theorem ck_X5_isMissing  {x0 : Nat} {M : Mem} {r : Int32} (h : f_X5_isMissing  x0 M = some r) : kd M x0 = 15 := by
  unfold f_X5_isMissing at h
  exact ck h
set_option maxHeartbeats 4000000 in
set_option maxRecDepth 100000 in
theorem ok_X5_isMissing  {x0 : Nat}  {M : Mem} {r : Int32}  (h : f_X5_isMissing  x0 M = some r) : Ok l yX5_isMissing cX5_isMissing 1 (some .boolean) 0 [.ref (B + x0)] D B ca st M (some (.int r)) M := by
  have hk0 := ck_X5_isMissing h
  unfold f_X5_isMissing at h
  have h := ip hk0 h
  refine ok_of rfl rfl (Nat.le_of_ble_eq_true rfl) ?_
  intro p e s m args below meth c ls C hl hR hS
  have hl : lv_has ls 1 [(0, .ref (B + x0))] := hl
  have hx := C.1
  have hb := C.2.1
  refine lv_aload_n hx hb dX5_isMissing_0 rfl (lv_at hl 0 rfl) ?_
  obtain ⟨v1, zqe2, h⟩ := ob h
  refine gf317 C hR zqe2 dX5_isMissing_1 ?_
  refine lv_iconst (v := (-1)) hx hb dX5_isMissing_4 (by decide) ?_
  refine lv_icmp_ne (tgt := 12) hx hb dX5_isMissing_5 (by decide) (fun c => ?_) (fun c => ?_)
  · have h := iq c h
    refine lv_iconst (v := 0) hx hb dX5_isMissing_12 (by decide) ?_
    cases h
    exact rr_Z (v := 0) C hR hS (by decide) dX5_isMissing_13
  · have h := ip c h
    refine lv_iconst (v := 1) hx hb dX5_isMissing_8 (by decide) ?_
    refine lv_goto (tgt := 13) hx hb dX5_isMissing_9 (by decide) ?_
    cases h
    exact rr_Z (v := 1) C hR hS (by decide) dX5_isMissing_13
set_option maxHeartbeats 4000000 in
set_option maxRecDepth 100000 in
theorem w_X7_countTexts_4    {r : Int32} (C : Cx p s m args meth c RX7 cX7_countTexts 3 (some .int) D B ca st)   : ∀ (n : Nat) {x0 : Nat} {x1 : Int32} {x2 : Int32} {M : Mem}, f_X7_countTexts_4  n x0 x1 x2 M = some r → ∀ {H : Heap} {locs : List Loc} {ls : Array Slot}, RH D B ca M H → va_S (AA B) s.heap H locs → lv_has ls 3 [(0, .ref (B + x0)), (1, .int x1), (2, .int x2)] → W p l e (rmD 1) s m args below meth c H locs 0 0 (MQ below (Qp D B ca st (some (.int r)) M) args s 0 0 (AA B)) (F0 m 4 ls []) := by
  have hx := C.1
  have hb := C.2.1
  intro n
  induction n with
  | zero => intro x0 x1 x2 M h; simp [f_X7_countTexts_4] at h
  | succ n ih =>
    intro x0 x1 x2 M h H locs ls hR hS hl
    rw [f_X7_countTexts_4] at h
    refine lv_iload_n hx hb dX7_countTexts_4 rfl (lv_at hl 2 rfl) ?_
    refine lv_aload_n hx hb dX7_countTexts_5 rfl (lv_at hl 0 rfl) ?_
    obtain ⟨v1, zqe2, h⟩ := ob h
    refine gf326 C hR zqe2 dX7_countTexts_6 ?_
    obtain ⟨v3, zqe4, h⟩ := ob h
    refine ra_N C hR (k := 5) (by decide) (by decide) zqe4 dX7_countTexts_9 ?_
    refine lv_icmp_ge (tgt := 39) hx hb dX7_countTexts_10 (by decide) (fun c => ?_) (fun c => ?_)
    · have h := ip c h
      refine lv_iload_n hx hb dX7_countTexts_39 rfl (lv_at hl 1 rfl) ?_
      cases h
      exact rr_I C hR hS dX7_countTexts_40
    · have h := iq c h
      refine lv_iload_n hx hb dX7_countTexts_13 rfl (lv_at hl 1 rfl) ?_
      refine lv_aload_n hx hb dX7_countTexts_14 rfl (lv_at hl 0 rfl) ?_
      obtain ⟨v5, zqe6, h⟩ := ob h
      refine gf326 C hR zqe6 dX7_countTexts_15 ?_
      refine lv_iload_n hx hb dX7_countTexts_18 rfl (lv_at hl 2 rfl) ?_
      obtain ⟨v7, zqe8, h⟩ := ob h
      refine ra_R C hR (k := 5) (by decide) (by decide) rfl zqe8 dX7_countTexts_19 ?_
      obtain ⟨v10, zqe9, h⟩ := ob h
      refine rc_VN C hR hS cf_X5_isMissing cv_X5_isMissing lk448 (ok_X5_isMissing zqe9) (ck_X5_isMissing zqe9) ⟨Nat.le_of_ble_eq_true rfl, Nat.le_of_ble_eq_true rfl⟩ ⟨Nat.zero_le _, Nat.zero_le _⟩ rfl rfl hl.1 (Nat.le_of_ble_eq_true rfl) dX7_countTexts_20 (rc_k1 (fun H locs hR hS => ?_))
      refine lv_if_eq (tgt := 30) hx hb dX7_countTexts_23 (by decide) (fun c => ?_) (fun c => ?_)
      · have h := ip c h
        refine lv_iconst (v := 1) hx hb dX7_countTexts_30 (by decide) ?_
        refine lv_iadd hx hb dX7_countTexts_31 ?_
        refine lv_istore_n (lv' := [(1, .int (x1 + 1)), (0, .ref (B + x0)), (2, .int x2)]) hx hb dX7_countTexts_32 rfl hl (by decide) rfl (fun ls hl => ?_)
        refine lv_iinc (v := (x2 + 1)) (lv' := [(2, .int (x2 + 1)), (1, .int (x1 + 1)), (0, .ref (B + x0))]) hx hb dX7_countTexts_33 hl (k := 2) rfl rfl (by decide) rfl (fun ls hl => ?_)
        refine lv_goto (tgt := 4) hx hb dX7_countTexts_36 (by decide) ?_
        exact ih h hR hS (lv_sub hl [2, 1, 0] rfl)
      · have h := iq c h
        refine lv_iconst (v := 0) hx hb dX7_countTexts_26 (by decide) ?_
        refine lv_goto (tgt := 31) hx hb dX7_countTexts_27 (by decide) ?_
        refine lv_iadd hx hb dX7_countTexts_31 ?_
        refine lv_istore_n (lv' := [(1, .int (x1 + 0)), (0, .ref (B + x0)), (2, .int x2)]) hx hb dX7_countTexts_32 rfl hl (by decide) rfl (fun ls hl => ?_)
        refine lv_iinc (v := (x2 + 1)) (lv' := [(2, .int (x2 + 1)), (1, .int (x1 + 0)), (0, .ref (B + x0))]) hx hb dX7_countTexts_33 hl (k := 2) rfl rfl (by decide) rfl (fun ls hl => ?_)
        refine lv_goto (tgt := 4) hx hb dX7_countTexts_36 (by decide) ?_
        exact ih h hR hS (lv_sub hl [2, 1, 0] rfl)
theorem ck_X7_countTexts  {x0 : Nat} {M : Mem} {r : Int32} (h : f_X7_countTexts  x0 M = some r) : kd M x0 = 17 := by
  unfold f_X7_countTexts at h
  exact ck h
set_option maxHeartbeats 4000000 in
set_option maxRecDepth 100000 in
theorem ok_X7_countTexts  {x0 : Nat}  {M : Mem} {r : Int32}  (h : f_X7_countTexts  x0 M = some r) : Ok l yX7_countTexts cX7_countTexts 3 (some .int) 1 [.ref (B + x0)] D B ca st M (some (.int r)) M := by
  have hk0 := ck_X7_countTexts h
  unfold f_X7_countTexts at h
  have h := ip hk0 h
  refine ok_of rfl rfl (Nat.le_of_ble_eq_true rfl) ?_
  intro p e s m args below meth c ls C hl hR hS
  have hl : lv_has ls 3 [(0, .ref (B + x0))] := hl
  have hx := C.1
  have hb := C.2.1
  refine lv_iconst (v := 0) hx hb dX7_countTexts_0 (by decide) ?_
  refine lv_istore_n (lv' := [(1, .int 0), (0, .ref (B + x0))]) hx hb dX7_countTexts_1 rfl hl (by decide) rfl (fun ls hl => ?_)
  refine lv_iconst (v := 0) hx hb dX7_countTexts_2 (by decide) ?_
  refine lv_istore_n (lv' := [(2, .int 0), (1, .int 0), (0, .ref (B + x0))]) hx hb dX7_countTexts_3 rfl hl (by decide) rfl (fun ls hl => ?_)
  exact w_X7_countTexts_4 C  FU h hR hS (lv_sub hl [2, 1, 0] rfl)
theorem ck_X7_countOf  {x0 : Nat} {x1 : Int32} {M : Mem} {r : Int32} (h : f_X7_countOf  x0 x1 M = some r) : kd M x0 = 17 := by
  unfold f_X7_countOf at h
  exact ck h
set_option maxHeartbeats 4000000 in
set_option maxRecDepth 100000 in
theorem ok_X7_countOf  {x0 : Nat} {x1 : Int32}  {M : Mem} {r : Int32}  (h : f_X7_countOf  x0 x1 M = some r) : Ok l yX7_countOf cX7_countOf 2 (some .int) 3 [.ref (B + x0), .int x1] D B ca st M (some (.int r)) M := by
  have hk0 := ck_X7_countOf h
  unfold f_X7_countOf at h
  have h := ip hk0 h
  refine ok_of rfl rfl (Nat.le_of_ble_eq_true rfl) ?_
  intro p e s m args below meth c ls C hl hR hS
  have hl : lv_has ls 2 [(0, .ref (B + x0)), (1, .int x1)] := hl
  have hx := C.1
  have hb := C.2.1
  refine lv_iload_n hx hb dX7_countOf_0 rfl (lv_at hl 1 rfl) ?_
  by_cases zqc1 : x1 = 0
  · have h := ip zqc1 h
    refine lv_tableIn (off := 55) (tgt := 56) hx hb dX7_countOf_1 (by rw [zqc1]; decide) (by rw [zqc1]; decide) (by rw [zqc1]; decide +kernel) (by decide) ?_
    refine lv_aload_n hx hb dX7_countOf_56 rfl (lv_at hl 0 rfl) ?_
    obtain ⟨v2, zqe3, h⟩ := ob h
    refine gf327 C hR zqe3 dX7_countOf_57 ?_
    obtain ⟨v4, zqe5, h⟩ := ob h
    refine gf154 C hR zqe5 dX7_countOf_60 ?_
    cases h
    exact rr_I C hR hS dX7_countOf_63
  have h := iq zqc1 h
  by_cases zqc6 : x1 = 1
  · have h := ip zqc6 h
    refine lv_tableIn (off := 63) (tgt := 64) hx hb dX7_countOf_1 (by rw [zqc6]; decide) (by rw [zqc6]; decide) (by rw [zqc6]; decide +kernel) (by decide) ?_
    refine lv_aload_n hx hb dX7_countOf_64 rfl (lv_at hl 0 rfl) ?_
    obtain ⟨v7, zqe8, h⟩ := ob h
    refine gf327 C hR zqe8 dX7_countOf_65 ?_
    obtain ⟨v9, zqe10, h⟩ := ob h
    refine gf158 C hR zqe10 dX7_countOf_68 ?_
    cases h
    exact rr_I C hR hS dX7_countOf_71
  have h := iq zqc6 h
  by_cases zqc11 : x1 = 2
  · have h := ip zqc11 h
    refine lv_tableIn (off := 71) (tgt := 72) hx hb dX7_countOf_1 (by rw [zqc11]; decide) (by rw [zqc11]; decide) (by rw [zqc11]; decide +kernel) (by decide) ?_
    refine lv_aload_n hx hb dX7_countOf_72 rfl (lv_at hl 0 rfl) ?_
    obtain ⟨v12, zqe13, h⟩ := ob h
    refine gf331 C hR zqe13 dX7_countOf_73 ?_
    obtain ⟨v14, zqe15, h⟩ := ob h
    refine gf233 C hR zqe15 dX7_countOf_76 ?_
    cases h
    exact rr_I C hR hS dX7_countOf_79
  have h := iq zqc11 h
  by_cases zqc16 : x1 = 3
  · have h := ip zqc16 h
    refine lv_tableIn (off := 79) (tgt := 80) hx hb dX7_countOf_1 (by rw [zqc16]; decide) (by rw [zqc16]; decide) (by rw [zqc16]; decide +kernel) (by decide) ?_
    refine lv_aload_n hx hb dX7_countOf_80 rfl (lv_at hl 0 rfl) ?_
    obtain ⟨v17, zqe18, h⟩ := ob h
    refine gf329 C hR zqe18 dX7_countOf_81 ?_
    obtain ⟨v19, zqe20, h⟩ := ob h
    refine gf214 C hR zqe20 dX7_countOf_84 ?_
    cases h
    exact rr_I C hR hS dX7_countOf_87
  have h := iq zqc16 h
  by_cases zqc21 : x1 = 4
  · have h := ip zqc21 h
    refine lv_tableIn (off := 87) (tgt := 88) hx hb dX7_countOf_1 (by rw [zqc21]; decide) (by rw [zqc21]; decide) (by rw [zqc21]; decide +kernel) (by decide) ?_
    refine lv_aload_n hx hb dX7_countOf_88 rfl (lv_at hl 0 rfl) ?_
    obtain ⟨v22, zqe23, h⟩ := ob h
    refine gf329 C hR zqe23 dX7_countOf_89 ?_
    obtain ⟨v24, zqe25, h⟩ := ob h
    refine gf212 C hR zqe25 dX7_countOf_92 ?_
    cases h
    exact rr_I C hR hS dX7_countOf_95
  have h := iq zqc21 h
  by_cases zqc26 : x1 = 5
  · have h := ip zqc26 h
    refine lv_tableIn (off := 95) (tgt := 96) hx hb dX7_countOf_1 (by rw [zqc26]; decide) (by rw [zqc26]; decide) (by rw [zqc26]; decide +kernel) (by decide) ?_
    refine lv_aload_n hx hb dX7_countOf_96 rfl (lv_at hl 0 rfl) ?_
    obtain ⟨v27, zqe28, h⟩ := ob h
    refine gf329 C hR zqe28 dX7_countOf_97 ?_
    refine lv_aload_n hx hb dX7_countOf_100 rfl (lv_at hl 0 rfl) ?_
    obtain ⟨v29, zqe30, h⟩ := ob h
    refine gf327 C hR zqe30 dX7_countOf_101 ?_
    obtain ⟨v32, zqe31, h⟩ := ob h
    refine rc_VN C hR hS cf_X6_allBreath cv_X6_allBreath lk897 (ok_X6_allBreath zqe31) (ck_X6_allBreath zqe31) ⟨Nat.le_of_ble_eq_true rfl, Nat.le_of_ble_eq_true rfl⟩ ⟨Nat.zero_le _, Nat.zero_le _⟩ rfl rfl hl.1 (Nat.le_of_ble_eq_true rfl) dX7_countOf_104 (rc_k1 (fun H locs hR hS => ?_))
    cases h
    exact rr_I C hR hS dX7_countOf_107
  have h := iq zqc26 h
  by_cases zqc33 : x1 = 6
  · have h := ip zqc33 h
    refine lv_tableIn (off := 107) (tgt := 108) hx hb dX7_countOf_1 (by rw [zqc33]; decide) (by rw [zqc33]; decide) (by rw [zqc33]; decide +kernel) (by decide) ?_
    refine lv_aload_n hx hb dX7_countOf_108 rfl (lv_at hl 0 rfl) ?_
    obtain ⟨v34, zqe35, h⟩ := ob h
    refine gf327 C hR zqe35 dX7_countOf_109 ?_
    refine lv_iconst (v := 1) hx hb dX7_countOf_112 (by decide) ?_
    obtain ⟨v37, zqe36, h⟩ := ob h
    refine rc_VN C hR hS cf_X2_countOfKind cv_X2_countOfKind lk901 (ok_X2_countOfKind zqe36) (ck_X2_countOfKind zqe36) ⟨Nat.le_of_ble_eq_true rfl, Nat.le_of_ble_eq_true rfl⟩ ⟨Nat.zero_le _, Nat.zero_le _⟩ rfl rfl hl.1 (Nat.le_of_ble_eq_true rfl) dX7_countOf_113 (rc_k1 (fun H locs hR hS => ?_))
    cases h
    exact rr_I C hR hS dX7_countOf_116
  have h := iq zqc33 h
  by_cases zqc38 : x1 = 7
  · have h := ip zqc38 h
    refine lv_tableIn (off := 116) (tgt := 117) hx hb dX7_countOf_1 (by rw [zqc38]; decide) (by rw [zqc38]; decide) (by rw [zqc38]; decide +kernel) (by decide) ?_
    refine lv_aload_n hx hb dX7_countOf_117 rfl (lv_at hl 0 rfl) ?_
    obtain ⟨v39, zqe40, h⟩ := ob h
    refine gf327 C hR zqe40 dX7_countOf_118 ?_
    refine lv_iconst (v := 2) hx hb dX7_countOf_121 (by decide) ?_
    obtain ⟨v42, zqe41, h⟩ := ob h
    refine rc_VN C hR hS cf_X2_countOfKind cv_X2_countOfKind lk901 (ok_X2_countOfKind zqe41) (ck_X2_countOfKind zqe41) ⟨Nat.le_of_ble_eq_true rfl, Nat.le_of_ble_eq_true rfl⟩ ⟨Nat.zero_le _, Nat.zero_le _⟩ rfl rfl hl.1 (Nat.le_of_ble_eq_true rfl) dX7_countOf_122 (rc_k1 (fun H locs hR hS => ?_))
    cases h
    exact rr_I C hR hS dX7_countOf_125
  have h := iq zqc38 h
  by_cases zqc43 : x1 = 8
  · have h := ip zqc43 h
    refine lv_tableIn (off := 125) (tgt := 126) hx hb dX7_countOf_1 (by rw [zqc43]; decide) (by rw [zqc43]; decide) (by rw [zqc43]; decide +kernel) (by decide) ?_
    refine lv_aload_n hx hb dX7_countOf_126 rfl (lv_at hl 0 rfl) ?_
    obtain ⟨v45, zqe44, h⟩ := ob h
    refine rc_V C hR hS cf_X7_countRows cv_X7_countRows lk906 (ok_X7_countRows zqe44) (ck_X7_countRows zqe44) ⟨Nat.le_of_ble_eq_true rfl, Nat.le_of_ble_eq_true rfl⟩ ⟨Nat.zero_le _, Nat.zero_le _⟩ rfl rfl hl.1 (Nat.le_of_ble_eq_true rfl) dX7_countOf_127 (rc_k1 (fun H locs hR hS => ?_))
    cases h
    exact rr_I C hR hS dX7_countOf_130
  have h := iq zqc43 h
  by_cases zqc46 : x1 = 9
  · have h := ip zqc46 h
    refine lv_tableIn (off := 130) (tgt := 131) hx hb dX7_countOf_1 (by rw [zqc46]; decide) (by rw [zqc46]; decide) (by rw [zqc46]; decide +kernel) (by decide) ?_
    refine lv_aload_n hx hb dX7_countOf_131 rfl (lv_at hl 0 rfl) ?_
    obtain ⟨v48, zqe47, h⟩ := ob h
    refine rc_V C hR hS cf_X7_countTexts cv_X7_countTexts lk910 (ok_X7_countTexts zqe47) (ck_X7_countTexts zqe47) ⟨Nat.le_of_ble_eq_true rfl, Nat.le_of_ble_eq_true rfl⟩ ⟨Nat.zero_le _, Nat.zero_le _⟩ rfl rfl hl.1 (Nat.le_of_ble_eq_true rfl) dX7_countOf_132 (rc_k1 (fun H locs hR hS => ?_))
    cases h
    exact rr_I C hR hS dX7_countOf_135
  have h := iq zqc46 h
  refine lv_tableOut (tgt := 136) hx hb dX7_countOf_1 (by have q0 := lv_neT (a := 0) zqc1 (by decide); have q1 := lv_neT (a := 1) zqc6 (by decide); have q2 := lv_neT (a := 2) zqc11 (by decide); have q3 := lv_neT (a := 3) zqc16 (by decide); have q4 := lv_neT (a := 4) zqc21 (by decide); have q5 := lv_neT (a := 5) zqc26 (by decide); have q6 := lv_neT (a := 6) zqc33 (by decide); have q7 := lv_neT (a := 7) zqc38 (by decide); have q8 := lv_neT (a := 8) zqc43 (by decide); have q9 := lv_neT (a := 9) zqc46 (by decide); omega) (by decide) ?_
  refine lv_aload_n hx hb dX7_countOf_136 rfl (lv_at hl 0 rfl) ?_
  obtain ⟨v50, zqe49, h⟩ := ob h
  refine rc_V C hR hS cf_X7_countKept cv_X7_countKept lk914 (ok_X7_countKept zqe49) (ck_X7_countKept zqe49) ⟨Nat.le_of_ble_eq_true rfl, Nat.le_of_ble_eq_true rfl⟩ ⟨Nat.zero_le _, Nat.zero_le _⟩ rfl rfl hl.1 (Nat.le_of_ble_eq_true rfl) dX7_countOf_137 (rc_k1 (fun H locs hR hS => ?_))
  cases h
  exact rr_I C hR hS dX7_countOf_140
theorem ck_X7_count  {x0 : Nat} {x1 : Int32} {M : Mem} {r : Int32} (h : f_X7_count  x0 x1 M = some r) : kd M x0 = 17 := by
  unfold f_X7_count at h
  exact ck h
set_option maxHeartbeats 4000000 in
set_option maxRecDepth 100000 in
theorem ok_X7_count  {x0 : Nat} {x1 : Int32}  {M : Mem} {r : Int32}  (h : f_X7_count  x0 x1 M = some r) : Ok l yX7_count cX7_count 2 (some .int) 4 [.ref (B + x0), .int x1] D B ca st M (some (.int r)) M := by
  have hk0 := ck_X7_count h
  unfold f_X7_count at h
  have h := ip hk0 h
  refine ok_of rfl rfl (Nat.le_of_ble_eq_true rfl) ?_
  intro p e s m args below meth c ls C hl hR hS
  have hl : lv_has ls 2 [(0, .ref (B + x0)), (1, .int x1)] := hl
  have hx := C.1
  have hb := C.2.1
  refine lv_iload_n hx hb dX7_count_0 rfl (lv_at hl 1 rfl) ?_
  refine lv_if_lt (tgt := 10) hx hb dX7_count_1 (by decide) (fun c => ?_) (fun c => ?_)
  · have h := ip c h
    refine lv_iconst (v := (-1)) hx hb dX7_count_10 (by decide) ?_
    cases h
    exact rr_I C hR hS dX7_count_11
  · have h := iq c h
    refine lv_iload_n hx hb dX7_count_4 rfl (lv_at hl 1 rfl) ?_
    refine lv_bipush (v := 11) hx hb dX7_count_5 (by decide) ?_
    refine lv_icmp_lt (tgt := 12) hx hb dX7_count_7 (by decide) (fun c => ?_) (fun c => ?_)
    · have h := ip c h
      refine lv_aload_n hx hb dX7_count_12 rfl (lv_at hl 0 rfl) ?_
      refine lv_iload_n hx hb dX7_count_13 rfl (lv_at hl 1 rfl) ?_
      obtain ⟨v2, zqe1, h⟩ := ob h
      refine rc_V C hR hS cf_X7_countOf cv_X7_countOf lk893 (ok_X7_countOf zqe1) (ck_X7_countOf zqe1) ⟨Nat.le_of_ble_eq_true rfl, Nat.le_of_ble_eq_true rfl⟩ ⟨Nat.zero_le _, Nat.zero_le _⟩ rfl rfl hl.1 (Nat.le_of_ble_eq_true rfl) dX7_count_14 (rc_k1 (fun H locs hR hS => ?_))
      cases h
      exact rr_I C hR hS dX7_count_17
    · have h := iq c h
      refine lv_iconst (v := (-1)) hx hb dX7_count_10 (by decide) ?_
      cases h
      exact rr_I C hR hS dX7_count_11
set_option maxHeartbeats 4000000 in
set_option maxRecDepth 100000 in
theorem w_X4_digestFrom_15    {r : Int64} (C : Cx p s m args meth c RX4 cX4_digestFrom 6 (some .long) D B ca st)   : ∀ (n : Nat) {x0 : Nat} {x3 : Int64} {x5 : Int32} {M : Mem}, f_X4_digestFrom_15  n x0 x3 x5 M = some r → ∀ {H : Heap} {locs : List Loc} {ls : Array Slot}, RH D B ca M H → va_S (AA B) s.heap H locs → lv_has ls 6 [(0, .ref (B + x0)), (3, .long x3), (5, .int x5)] → W p l e (rmD 0) s m args below meth c H locs 0 0 (MQ below (Qp D B ca st (some (.long r)) M) args s 0 0 (AA B)) (F0 m 15 ls []) := by
  have hx := C.1
  have hb := C.2.1
  intro n
  induction n with
  | zero => intro x0 x3 x5 M h; simp [f_X4_digestFrom_15] at h
  | succ n ih =>
    intro x0 x3 x5 M h H locs ls hR hS hl
    rw [f_X4_digestFrom_15] at h
    refine lv_iload hx hb dX4_digestFrom_15 (lv_at hl 2 rfl) ?_
    refine lv_aload_n hx hb dX4_digestFrom_17 rfl (lv_at hl 0 rfl) ?_
    obtain ⟨v3, zqe4, h⟩ := ob h
    refine gf303 C hR zqe4 dX4_digestFrom_18 ?_
    refine lv_icmp_ge (tgt := 45) hx hb dX4_digestFrom_21 (by decide) (fun c => ?_) (fun c => ?_)
    · have h := ip c h
      refine lv_lload_n hx hb dX4_digestFrom_45 rfl (lv_at hl 1 rfl) ?_
      cases h
      exact rr_L C hR hS dX4_digestFrom_46
    · have h := iq c h
      refine lv_ldc2 hx hb C.2.2.2.1 (C.2.2.2.2.1 _ lk936) dX4_digestFrom_24 ?_
      refine lv_lload_n hx hb dX4_digestFrom_27 rfl (lv_at hl 1 rfl) ?_
      refine lv_lmul hx hb dX4_digestFrom_28 ?_
      refine lv_aload_n hx hb dX4_digestFrom_29 rfl (lv_at hl 0 rfl) ?_
      obtain ⟨v5, zqe6, h⟩ := ob h
      refine gf301 C hR zqe6 dX4_digestFrom_30 ?_
      refine lv_iload hx hb dX4_digestFrom_33 (lv_at hl 2 rfl) ?_
      obtain ⟨v7, zqe8, h⟩ := ob h
      refine ra_I C hR zqe8 dX4_digestFrom_35 ?_
      refine lv_i2l (v := (Int32.toInt64 v7)) hx hb dX4_digestFrom_36 rfl ?_
      refine lv_ladd hx hb dX4_digestFrom_37 ?_
      refine lv_lstore_n (lv' := [(3, .long ((31 * x3) + (Int32.toInt64 v7))), (0, .ref (B + x0)), (5, .int x5)]) hx hb dX4_digestFrom_38 rfl hl (by decide) rfl (fun ls hl => ?_)
      refine lv_iinc (v := (x5 + 1)) (lv' := [(5, .int (x5 + 1)), (3, .long ((31 * x3) + (Int32.toInt64 v7))), (0, .ref (B + x0))]) hx hb dX4_digestFrom_39 hl (k := 2) rfl rfl (by decide) rfl (fun ls hl => ?_)
      refine lv_goto (tgt := 15) hx hb dX4_digestFrom_42 (by decide) ?_
      exact ih h hR hS (lv_sub hl [2, 1, 0] rfl)
theorem ck_X4_digestFrom  {x0 : Nat} {x1 : Int64} {M : Mem} {r : Int64} (h : f_X4_digestFrom  x0 x1 M = some r) : kd M x0 = 14 := by
  unfold f_X4_digestFrom at h
  exact ck h
set_option maxHeartbeats 4000000 in
set_option maxRecDepth 100000 in
theorem ok_X4_digestFrom  {x0 : Nat} {x1 : Int64}  {M : Mem} {r : Int64}  (h : f_X4_digestFrom  x0 x1 M = some r) : Ok l yX4_digestFrom cX4_digestFrom 6 (some .long) 0 [.ref (B + x0), .long x1] D B ca st M (some (.long r)) M := by
  have hk0 := ck_X4_digestFrom h
  unfold f_X4_digestFrom at h
  have h := ip hk0 h
  refine ok_of rfl rfl (Nat.le_of_ble_eq_true rfl) ?_
  intro p e s m args below meth c ls C hl hR hS
  have hl : lv_has ls 6 [(0, .ref (B + x0)), (1, .long x1)] := hl
  have hx := C.1
  have hb := C.2.1
  refine lv_ldc2 hx hb C.2.2.2.1 (C.2.2.2.2.1 _ lk936) dX4_digestFrom_0 ?_
  refine lv_lload_n hx hb dX4_digestFrom_3 rfl (lv_at hl 1 rfl) ?_
  refine lv_lmul hx hb dX4_digestFrom_4 ?_
  refine lv_aload_n hx hb dX4_digestFrom_5 rfl (lv_at hl 0 rfl) ?_
  obtain ⟨v1, zqe2, h⟩ := ob h
  refine gf303 C hR zqe2 dX4_digestFrom_6 ?_
  refine lv_i2l (v := (Int32.toInt64 v1)) hx hb dX4_digestFrom_9 rfl ?_
  refine lv_ladd hx hb dX4_digestFrom_10 ?_
  refine lv_lstore_n (lv' := [(3, .long ((31 * x1) + (Int32.toInt64 v1))), (0, .ref (B + x0)), (1, .long x1)]) hx hb dX4_digestFrom_11 rfl hl (by decide) rfl (fun ls hl => ?_)
  refine lv_iconst (v := 0) hx hb dX4_digestFrom_12 (by decide) ?_
  refine lv_istore (lv' := [(5, .int 0), (3, .long ((31 * x1) + (Int32.toInt64 v1))), (0, .ref (B + x0)), (1, .long x1)]) hx hb dX4_digestFrom_13 hl (by decide) rfl (fun ls hl => ?_)
  exact w_X4_digestFrom_15 C  FU h hR hS (lv_sub hl [2, 1, 0] rfl)
set_option maxHeartbeats 4000000 in
set_option maxRecDepth 100000 in
theorem w_X5_digestFrom_15    {r : Int64} (C : Cx p s m args meth c RX5 cX5_digestFrom 6 (some .long) D B ca st)   : ∀ (n : Nat) {x0 : Nat} {x3 : Int64} {x5 : Int32} {M : Mem}, f_X5_digestFrom_15  n x0 x3 x5 M = some r → ∀ {H : Heap} {locs : List Loc} {ls : Array Slot}, RH D B ca M H → va_S (AA B) s.heap H locs → lv_has ls 6 [(0, .ref (B + x0)), (3, .long x3), (5, .int x5)] → W p l e (rmD 0) s m args below meth c H locs 0 0 (MQ below (Qp D B ca st (some (.long r)) M) args s 0 0 (AA B)) (F0 m 15 ls []) := by
  have hx := C.1
  have hb := C.2.1
  intro n
  induction n with
  | zero => intro x0 x3 x5 M h; simp [f_X5_digestFrom_15] at h
  | succ n ih =>
    intro x0 x3 x5 M h H locs ls hR hS hl
    rw [f_X5_digestFrom_15] at h
    refine lv_iload hx hb dX5_digestFrom_15 (lv_at hl 2 rfl) ?_
    refine lv_aload_n hx hb dX5_digestFrom_17 rfl (lv_at hl 0 rfl) ?_
    obtain ⟨v3, zqe4, h⟩ := ob h
    refine gf317 C hR zqe4 dX5_digestFrom_18 ?_
    refine lv_icmp_ge (tgt := 45) hx hb dX5_digestFrom_21 (by decide) (fun c => ?_) (fun c => ?_)
    · have h := ip c h
      refine lv_lload_n hx hb dX5_digestFrom_45 rfl (lv_at hl 1 rfl) ?_
      cases h
      exact rr_L C hR hS dX5_digestFrom_46
    · have h := iq c h
      refine lv_ldc2 hx hb C.2.2.2.1 (C.2.2.2.2.1 _ lk941) dX5_digestFrom_24 ?_
      refine lv_lload_n hx hb dX5_digestFrom_27 rfl (lv_at hl 1 rfl) ?_
      refine lv_lmul hx hb dX5_digestFrom_28 ?_
      refine lv_aload_n hx hb dX5_digestFrom_29 rfl (lv_at hl 0 rfl) ?_
      obtain ⟨v5, zqe6, h⟩ := ob h
      refine gf315 C hR zqe6 dX5_digestFrom_30 ?_
      refine lv_iload hx hb dX5_digestFrom_33 (lv_at hl 2 rfl) ?_
      obtain ⟨v7, zqe8, h⟩ := ob h
      refine ra_B C hR zqe8 dX5_digestFrom_35 ?_
      refine lv_i2l (v := (Int32.toInt64 v7)) hx hb dX5_digestFrom_36 rfl ?_
      refine lv_ladd hx hb dX5_digestFrom_37 ?_
      refine lv_lstore_n (lv' := [(3, .long ((31 * x3) + (Int32.toInt64 v7))), (0, .ref (B + x0)), (5, .int x5)]) hx hb dX5_digestFrom_38 rfl hl (by decide) rfl (fun ls hl => ?_)
      refine lv_iinc (v := (x5 + 1)) (lv' := [(5, .int (x5 + 1)), (3, .long ((31 * x3) + (Int32.toInt64 v7))), (0, .ref (B + x0))]) hx hb dX5_digestFrom_39 hl (k := 2) rfl rfl (by decide) rfl (fun ls hl => ?_)
      refine lv_goto (tgt := 15) hx hb dX5_digestFrom_42 (by decide) ?_
      exact ih h hR hS (lv_sub hl [2, 1, 0] rfl)
theorem ck_X5_digestFrom  {x0 : Nat} {x1 : Int64} {M : Mem} {r : Int64} (h : f_X5_digestFrom  x0 x1 M = some r) : kd M x0 = 15 := by
  unfold f_X5_digestFrom at h
  exact ck h
set_option maxHeartbeats 4000000 in
set_option maxRecDepth 100000 in
theorem ok_X5_digestFrom  {x0 : Nat} {x1 : Int64}  {M : Mem} {r : Int64}  (h : f_X5_digestFrom  x0 x1 M = some r) : Ok l yX5_digestFrom cX5_digestFrom 6 (some .long) 0 [.ref (B + x0), .long x1] D B ca st M (some (.long r)) M := by
  have hk0 := ck_X5_digestFrom h
  unfold f_X5_digestFrom at h
  have h := ip hk0 h
  refine ok_of rfl rfl (Nat.le_of_ble_eq_true rfl) ?_
  intro p e s m args below meth c ls C hl hR hS
  have hl : lv_has ls 6 [(0, .ref (B + x0)), (1, .long x1)] := hl
  have hx := C.1
  have hb := C.2.1
  refine lv_ldc2 hx hb C.2.2.2.1 (C.2.2.2.2.1 _ lk941) dX5_digestFrom_0 ?_
  refine lv_lload_n hx hb dX5_digestFrom_3 rfl (lv_at hl 1 rfl) ?_
  refine lv_lmul hx hb dX5_digestFrom_4 ?_
  refine lv_aload_n hx hb dX5_digestFrom_5 rfl (lv_at hl 0 rfl) ?_
  obtain ⟨v1, zqe2, h⟩ := ob h
  refine gf317 C hR zqe2 dX5_digestFrom_6 ?_
  refine lv_i2l (v := (Int32.toInt64 v1)) hx hb dX5_digestFrom_9 rfl ?_
  refine lv_ladd hx hb dX5_digestFrom_10 ?_
  refine lv_lstore_n (lv' := [(3, .long ((31 * x1) + (Int32.toInt64 v1))), (0, .ref (B + x0)), (1, .long x1)]) hx hb dX5_digestFrom_11 rfl hl (by decide) rfl (fun ls hl => ?_)
  refine lv_iconst (v := 0) hx hb dX5_digestFrom_12 (by decide) ?_
  refine lv_istore (lv' := [(5, .int 0), (3, .long ((31 * x1) + (Int32.toInt64 v1))), (0, .ref (B + x0)), (1, .long x1)]) hx hb dX5_digestFrom_13 hl (by decide) rfl (fun ls hl => ?_)
  exact w_X5_digestFrom_15 C  FU h hR hS (lv_sub hl [2, 1, 0] rfl)
theorem ck_X6_isDone  {x0 : Nat} {x1 : Int32} {M : Mem} {r : Int32} (h : f_X6_isDone  x0 x1 M = some r) : kd M x0 = 16 := by
  unfold f_X6_isDone at h
  exact ck h
set_option maxHeartbeats 4000000 in
set_option maxRecDepth 100000 in
theorem ok_X6_isDone  {x0 : Nat} {x1 : Int32}  {M : Mem} {r : Int32}  (h : f_X6_isDone  x0 x1 M = some r) : Ok l yX6_isDone cX6_isDone 2 (some .boolean) 1 [.ref (B + x0), .int x1] D B ca st M (some (.int r)) M := by
  have hk0 := ck_X6_isDone h
  unfold f_X6_isDone at h
  have h := ip hk0 h
  refine ok_of rfl rfl (Nat.le_of_ble_eq_true rfl) ?_
  intro p e s m args below meth c ls C hl hR hS
  have hl : lv_has ls 2 [(0, .ref (B + x0)), (1, .int x1)] := hl
  have hx := C.1
  have hb := C.2.1
  refine lv_aload_n hx hb dX6_isDone_0 rfl (lv_at hl 0 rfl) ?_
  obtain ⟨v1, zqe2, h⟩ := ob h
  refine gf209 C hR zqe2 dX6_isDone_1 ?_
  refine lv_iload_n hx hb dX6_isDone_4 rfl (lv_at hl 1 rfl) ?_
  refine rc_SN C hR hS cf_X7_holds cs_X7_holds lk559 (ok_X7_holds v1 x1) ⟨Nat.le_of_ble_eq_true rfl, Nat.le_of_ble_eq_true rfl⟩ ⟨Nat.zero_le _, Nat.zero_le _⟩ rfl rfl hl.1 (Nat.le_of_ble_eq_true rfl) dX6_isDone_5 (rc_k1 (fun H locs hR hS => ?_))
  obtain ⟨zqb4, zqe5, h⟩ := ob h
  cases h
  exact rr_Z C hR hS (bz_self zqe5) dX6_isDone_8
end Walk0
