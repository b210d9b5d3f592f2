def lawOp_0 (a1 : Int32) (a2 : Int32) (M : Mem) : Option Mem :=
  (f_X7_row 1 a1 a2 M).bind fun qv2 =>
  (f_X8_row 65 a1 a2 qv2.2).bind fun qv5 =>
  if qv2.1 = qv5.1 then (
  some qv5.2) else
  none
def lawOp_1 (a1 : Int32) (a2 : Int32) (a3 : Int32) (M : Mem) : Option Mem :=
  (f_X7_lay 1 a1 a2 a3 M).bind fun qv2 =>
  (f_X8_lay 65 a1 a2 a3 qv2.2).bind fun qv5 =>
  if qv2.1 = qv5.1 then (
  some qv5.2) else
  none
def lawOp_2 (a1 : Int32) (a2 : Int32) (M : Mem) : Option Mem :=
  (f_X7_at 1 a1 a2 M).bind fun qv2 =>
  (f_X8_at 65 a1 a2 qv2.2).bind fun qv5 =>
  if qv2.1 = qv5.1 then (
  some qv5.2) else
  none
def lawOp_3 (a1 : Int32) (M : Mem) : Option Mem :=
  (f_X7_tear 1 a1 M).bind fun qv2 =>
  (f_X8_tear 65 a1 qv2.2).bind fun qv5 =>
  if qv2.1 = qv5.1 then (
  some qv5.2) else
  none
def lawOp_4 (a1 : Int32) (a2 : Int32) (a3 : Int32) (a4 : Int32) (a5 : Int32) (M : Mem) : Option Mem :=
  (f_X7_copy 1 a1 a2 a3 a4 a5 M).bind fun qv2 =>
  (f_X8_copy 65 a1 a2 a3 a4 a5 qv2.2).bind fun qv5 =>
  if qv2.1 = qv5.1 then (
  some qv5.2) else
  none
def lawOp_5 (a1 : Int32) (M : Mem) : Option Mem :=
  (f_X7_mean 1 a1 M).bind fun qv2 =>
  (f_X8_mean 65 a1 qv2.2).bind fun qv5 =>
  if qv2.1 = qv5.1 then (
  some qv5.2) else
  none
def lawOp_6 (a1 : Int32) (a2 : Int32) (M : Mem) : Option Mem :=
  (f_X7_text 1 a1 a2 M).bind fun qv2 =>
  (f_X8_text 65 a1 a2 qv2.2).bind fun qv5 =>
  if qv2.1 = qv5.1 then (
  some qv5.2) else
  none
def lawOp_7 (a1 : Int32) (a2 : Int32) (a3 : Int32) (M : Mem) : Option Mem :=
  (f_X7_put 1 a1 a2 a3 M).bind fun qv2 =>
  (f_X8_put 65 a1 a2 a3 qv2.2).bind fun qv5 =>
  if qv2.1 = qv5.1 then (
  some qv5.2) else
  none
def lawOp_8 (a1 : Int32) (M : Mem) : Option Mem :=
  (f_X7_fault 1 a1 M).bind fun qv2 =>
  (f_X8_fault 65 a1 qv2.2).bind fun qv5 =>
  if qv2.1 = qv5.1 then (
  some qv5.2) else
  none
def lawOp_9 (a1 : Int32) (M : Mem) : Option Mem :=
  (f_X7_guild 1 a1 M).bind fun qv2 =>
  (f_X8_guild 65 a1 qv2.2).bind fun qv5 =>
  if qv2.1 = qv5.1 then (
  some qv5.2) else
  none
def lawOp_10 (a1 : Int32) (a2 : Int32) (M : Mem) : Option Mem :=
  (f_X7_sigher 1 a1 a2 M).bind fun qv2 =>
  (f_X8_sigher 65 a1 a2 qv2.2).bind fun qv5 =>
  if qv2.1 = qv5.1 then (
  some qv5.2) else
  none
def lawOp_11 (a1 : Int32) (a2 : Int32) (M : Mem) : Option Mem :=
  (f_X7_order 1 a1 a2 M).bind fun qv2 =>
  (f_X8_order 65 a1 a2 qv2.2).bind fun qv5 =>
  if qv2.1 = qv5.1 then (
  some qv5.2) else
  none
def lawOp_12 (a1 : Int32) (a2 : Int32) (M : Mem) : Option Mem :=
  (f_X7_mark 1 a1 a2 M).bind fun qv2 =>
  (f_X8_mark 65 a1 a2 qv2.2).bind fun qv5 =>
  if qv2.1 = qv5.1 then (
  some qv5.2) else
  none
def lawOp_13 (a1 : Int32) (a2 : Int32) (M : Mem) : Option Mem :=
  (f_X7_walk 1 a1 a2 M).bind fun qv2 =>
  (f_X8_walk 65 a1 a2 qv2.2).bind fun qv5 =>
  if qv2.1 = qv5.1 then (
  some qv5.2) else
  none
def lawOp_14 (a1 : Int32) (a2 : Int32) (M : Mem) : Option Mem :=
  (f_X7_sigh 1 a1 a2 M).bind fun qv2 =>
  (f_X8_sigh 65 a1 a2 qv2.2).bind fun qv5 =>
  if qv2.1 = qv5.1 then (
  some qv5.2) else
  none
def lawOp_15 (a1 : Int32) (M : Mem) : Option Mem :=
  (f_X7_rest 1 a1 M).bind fun qv2 =>
  (f_X8_rest 65 a1 qv2.2).bind fun qv5 =>
  if qv2.1 = qv5.1 then (
  some qv5.2) else
  none
def lawOp_16 (a1 : Int32) (M : Mem) : Option Mem :=
  (f_X7_undo 1 a1 M).bind fun qv2 =>
  (f_X8_undo 65 a1 qv2.2).bind fun qv5 =>
  if qv2.1 = qv5.1 then (
  some qv5.2) else
  none
def lawOp_17 (a1 : Int32) (M : Mem) : Option Mem :=
  (f_X7_keep 1 a1 M).bind fun qv2 =>
  (f_X8_keep 65 a1 qv2.2).bind fun qv5 =>
  if qv2.1 = qv5.1 then (
  some qv5.2) else
  none
def lawOp_18 (a1 : Int32) (M : Mem) : Option Mem :=
  (f_X7_on 1 a1 M).bind fun qv2 =>
  (f_X8_on 65 a1 qv2.2).bind fun qv5 =>
  if qv2.1 = qv5.1 then (
  some qv5.2) else
  none
def lawOp_19 (a1 : Int32) (a2 : Int32) (M : Mem) : Option Mem :=
  (f_X7_takes 1 a1 a2 M).bind fun v2 =>
  (f_X8_takes 65 a1 a2 M).bind fun v4 =>
  if v2 = v4 then (
  some M) else
  none
def lawOp_20 (a1 : Int32) (a2 : Int32) (M : Mem) : Option Mem :=
  (f_X7_brings 1 a1 a2 M).bind fun v2 =>
  (f_X8_brings 65 a1 a2 M).bind fun v4 =>
  if v2 = v4 then (
  some M) else
  none
def lawOp_21 (a1 : Int32) (M : Mem) : Option Mem :=
  (f_X7_give 1 a1 M).bind fun qv2 =>
  (f_X8_give 65 a1 qv2.2).bind fun qv5 =>
  if qv2.1 = qv5.1 then (
  some qv5.2) else
  none
def lawOp_22 (a1 : Int32) (M : Mem) : Option Mem :=
  (f_X7_most 1 a1 M).bind fun qv2 =>
  (f_X8_most 65 a1 qv2.2).bind fun qv5 =>
  if qv2.1 = qv5.1 then (
  some qv5.2) else
  none
def lawOp_23  (M : Mem) : Option Mem :=
  (f_X7_plain 1 M).bind fun qv2 =>
  (f_X8_plain 65 qv2.2).bind fun qv5 =>
  if qv2.1 = qv5.1 then (
  some qv5.2) else
  none
def lawOp_24 (a1 : Int32) (a2 : Int32) (M : Mem) : Option Mem :=
  (f_X7_way 1 a1 a2 M).bind fun v2 =>
  (f_X8_way 65 a1 a2 M).bind fun v4 =>
  if v2 = v4 then (
  some M) else
  none
def lawOp_25 (a1 : Int32) (a2 : Int32) (a3 : Int32) (M : Mem) : Option Mem :=
  (f_X7_dusk 1 a1 a2 a3 M).bind fun qv2 =>
  (f_X8_dusk 65 a1 a2 a3 qv2.2).bind fun qv5 =>
  if qv2.1 = qv5.1 then (
  some qv5.2) else
  none
def lawOp_26 (a1 : Int32) (a2 : Int32) (M : Mem) : Option Mem :=
  (f_X7_hours 1 a1 a2 M).bind fun v2 =>
  (f_X8_hours 65 a1 a2 M).bind fun v4 =>
  if v2 = v4 then (
  some M) else
  none
def lawOp_27 (a1 : Int32) (M : Mem) : Option Mem :=
  (f_X7_pairs 1 a1 M).bind fun qv2 =>
  (f_X8_pairs 65 a1 qv2.2).bind fun qv5 =>
  if qv2.1 = qv5.1 then (
  some qv5.2) else
  none
def lawOp_28 (a1 : Int32) (M : Mem) : Option Mem :=
  (f_X7_choir 1 a1 M).bind fun qv2 =>
  (f_X8_choir 65 a1 qv2.2).bind fun qv5 =>
  if qv2.1 = qv5.1 then (
  some qv5.2) else
  none
def lawOp_29 (a1 : Int32) (a2 : Int32) (a3 : Int32) (M : Mem) : Option Mem :=
  (f_X7_loose 1 a1 a2 a3 M).bind fun v2 =>
  (f_X8_loose 65 a1 a2 a3 M).bind fun v4 =>
  if v2 = v4 then (
  some M) else
  none
def lawOp_30 (a1 : Int32) (M : Mem) : Option Mem :=
  (f_X7_who 1 a1 M).bind fun qv2 =>
  (f_X8_who 65 a1 qv2.2).bind fun qv5 =>
  if qv2.1 = qv5.1 then (
  some qv5.2) else
  none
def lawOp_31 (a1 : Int32) (a2 : Int32) (M : Mem) : Option Mem :=
  (f_X7_kinds 1 a1 a2 M).bind fun qv2 =>
  (f_X8_kinds 65 a1 a2 qv2.2).bind fun qv5 =>
  if qv2.1 = qv5.1 then (
  some qv5.2) else
  none
def lawOp_32 (a1 : Int32) (a2 : Int32) (M : Mem) : Option Mem :=
  (f_X7_breaths 1 a1 a2 M).bind fun qv2 =>
  (f_X8_breaths 65 a1 a2 qv2.2).bind fun qv5 =>
  if qv2.1 = qv5.1 then (
  some qv5.2) else
  none
def lawOp_33 (a1 : Int32) (M : Mem) : Option Mem :=
  (f_X7_strike 1 a1 M).bind fun qv2 =>
  (f_X8_strike 65 a1 qv2.2).bind fun qv5 =>
  if qv2.1 = qv5.1 then (
  some qv5.2) else
  none
def lawOp_34 (a1 : Int32) (a2 : Int32) (M : Mem) : Option Mem :=
  (f_X7_odds 1 a1 a2 M).bind fun qv2 =>
  (f_X8_odds 65 a1 a2 qv2.2).bind fun qv5 =>
  if qv2.1 = qv5.1 then (
  some qv5.2) else
  none
def lawOp_35 (a1 : Int32) (M : Mem) : Option Mem :=
  (f_X7_mid 1 a1 M).bind fun qv2 =>
  (f_X8_mid 65 a1 qv2.2).bind fun qv5 =>
  if qv2.1 = qv5.1 then (
  some qv5.2) else
  none
def lawOp_36 (a1 : Int32) (a2 : Int32) (M : Mem) : Option Mem :=
  (f_X7_lots 1 a1 a2 M).bind fun qv2 =>
  (f_X8_lots 65 a1 a2 qv2.2).bind fun qv5 =>
  if qv2.1 = qv5.1 then (
  some qv5.2) else
  none
def lawOp_37  (M : Mem) : Option Mem :=
  (f_X7_asked 1 M).bind fun v2 =>
  (f_X8_asked 65 M).bind fun v4 =>
  if v2 = v4 then (
  some M) else
  none
def lawOp_38  (M : Mem) : Option Mem :=
  (f_X7_upper 1 M).bind fun v2 =>
  (f_X8_upper 65 M).bind fun v4 =>
  if (lg_cmp v2 v4) = 0 then (
  some M) else
  none
def lawOp_39  (M : Mem) : Option Mem :=
  (f_X7_lower 1 M).bind fun v2 =>
  (f_X8_lower 65 M).bind fun v4 =>
  if (lg_cmp v2 v4) = 0 then (
  some M) else
  none
def lawOp_40 (a1 : Int32) (M : Mem) : Option Mem :=
  (f_X7_count 1 a1 M).bind fun v2 =>
  (f_X8_count 65 a1 M).bind fun v4 =>
  if v2 = v4 then (
  some M) else
  none
def lawOp_41  (M : Mem) : Option Mem :=
  (f_X7_finding 1 M).bind fun v2 =>
  (f_X8_finding 65 M).bind fun v4 =>
  if v2 = v4 then (
  some M) else
  none
def lawOp_42 (a1 : Int32) (M : Mem) : Option Mem :=
  (f_X7_findings 1 a1 M).bind fun v2 =>
  (f_X8_findings 65 a1 M).bind fun v4 =>
  if v2 = v4 then (
  some M) else
  none
def lawOp_43  (M : Mem) : Option Mem :=
  (f_X7_digest 1 M).bind fun v2 =>
  (f_X8_digest 65 M).bind fun v4 =>
  if (lg_cmp v2 v4) = 0 then (
  some M) else
  none
def lawOps (v a1 a2 a3 a4 a5 : Int32) (M : Mem) : Option Mem :=
  if v = 0 then lawOp_0 a1 a2 M else
  if v = 1 then lawOp_1 a1 a2 a3 M else
  if v = 2 then lawOp_2 a1 a2 M else
  if v = 3 then lawOp_3 a1 M else
  if v = 4 then lawOp_4 a1 a2 a3 a4 a5 M else
  if v = 5 then lawOp_5 a1 M else
  if v = 6 then lawOp_6 a1 a2 M else
  if v = 7 then lawOp_7 a1 a2 a3 M else
  if v = 8 then lawOp_8 a1 M else
  if v = 9 then lawOp_9 a1 M else
  if v = 10 then lawOp_10 a1 a2 M else
  if v = 11 then lawOp_11 a1 a2 M else
  if v = 12 then lawOp_12 a1 a2 M else
  if v = 13 then lawOp_13 a1 a2 M else
  if v = 14 then lawOp_14 a1 a2 M else
  if v = 15 then lawOp_15 a1 M else
  if v = 16 then lawOp_16 a1 M else
  if v = 17 then lawOp_17 a1 M else
  if v = 18 then lawOp_18 a1 M else
  if v = 19 then lawOp_19 a1 a2 M else
  if v = 20 then lawOp_20 a1 a2 M else
  if v = 21 then lawOp_21 a1 M else
  if v = 22 then lawOp_22 a1 M else
  if v = 23 then lawOp_23  M else
  if v = 24 then lawOp_24 a1 a2 M else
  if v = 25 then lawOp_25 a1 a2 a3 M else
  if v = 26 then lawOp_26 a1 a2 M else
  if v = 27 then lawOp_27 a1 M else
  if v = 28 then lawOp_28 a1 M else
  if v = 29 then lawOp_29 a1 a2 a3 M else
  if v = 30 then lawOp_30 a1 M else
  if v = 31 then lawOp_31 a1 a2 M else
  if v = 32 then lawOp_32 a1 a2 M else
  if v = 33 then lawOp_33 a1 M else
  if v = 34 then lawOp_34 a1 a2 M else
  if v = 35 then lawOp_35 a1 M else
  if v = 36 then lawOp_36 a1 a2 M else
  if v = 37 then lawOp_37  M else
  if v = 38 then lawOp_38  M else
  if v = 39 then lawOp_39  M else
  if v = 40 then lawOp_40 a1 M else
  if v = 41 then lawOp_41  M else
  if v = 42 then lawOp_42 a1 M else
  if v = 43 then lawOp_43  M else
  some M
