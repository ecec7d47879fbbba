section Mth
variable {p : Program} {l : Launch} {e : Env} {s : State} {m : MethodId} {args : Array Value} {below : List Frame} {meth : Method} {c : Code} {G : Ge}
-- J15_checkIndex_7cf53
def f_J15_checkIndex_7cf53 (S : St) (x0 : Int32) (x1 : Int32) : Option Int32 :=
    (f_J3_checkIndex_8e157 S x0 x1 none).bind fun v3 =>
    some v3
theorem k_J15_checkIndex_7cf53 {l : Launch} {G : Ge} {S : St} {x0 : Int32} {x1 : Int32} {rr : Int32} (hr : f_J15_checkIndex_7cf53 S x0 x1 = some rr) : Ct l G yJ15_checkIndex_7cf53 cJ15_checkIndex_7cf53 2 (Option.some Jvm.ClassFile.FieldType.int) S [.int x0, .int x1] (some (.int rr)) S 1 22 := by
  refine ct_of (by decide +kernel) (Nat.le_of_ble_eq_true rfl) ?_
  intro p e s m args below meth c C ls hl
  have hl : lv_has ls 2 [(0, .int x0), (1, .int x1)] := hl
  unfold f_J15_checkIndex_7cf53 at hr
  refine v_iload_n C (lv_at hl 0 rfl) rfl dJ15_checkIndex_7cf53_0 ?_
  refine v_iload_n C (lv_at hl 1 rfl) rfl dJ15_checkIndex_7cf53_1 ?_
  refine v_null C dJ15_checkIndex_7cf53_2 ?_
  obtain ⟨v3, e3, hr⟩ := ob hr
  refine v_callS C (k_J3_checkIndex_8e157 e3) cw_J3_checkIndex_8e157 w_456 w_457 (show (parseMethodDescriptor (yJ3_checkIndex_8e157).desc).map (fun d => d.parameters.length) = some 3 by decide +kernel) ⟨by decide, by decide⟩ (rest := []) (stk2 := [.int v3]) rfl rfl (Nat.le_of_ble_eq_true rfl) hl dJ15_checkIndex_7cf53_3 ?_
  obtain rfl := os hr
  exact v_iret C dJ15_checkIndex_7cf53_6
-- J6_bitCount_0f7a4
def f_J6_bitCount_0f7a4 (S : St) (x0 : Int32) : Option Int32 :=
    some ((((((((x0 - (((Int32.toUInt32 x0 >>> (Int32.toUInt32 1 &&& Int32.toUInt32 31)).toInt32) &&& 1431655765)) &&& 858993459) + (((Int32.toUInt32 (x0 - (((Int32.toUInt32 x0 >>> (Int32.toUInt32 1 &&& Int32.toUInt32 31)).toInt32) &&& 1431655765)) >>> (Int32.toUInt32 2 &&& Int32.toUInt32 31)).toInt32) &&& 858993459)) + ((Int32.toUInt32 (((x0 - (((Int32.toUInt32 x0 >>> (Int32.toUInt32 1 &&& Int32.toUInt32 31)).toInt32) &&& 1431655765)) &&& 858993459) + (((Int32.toUInt32 (x0 - (((Int32.toUInt32 x0 >>> (Int32.toUInt32 1 &&& Int32.toUInt32 31)).toInt32) &&& 1431655765)) >>> (Int32.toUInt32 2 &&& Int32.toUInt32 31)).toInt32) &&& 858993459)) >>> (Int32.toUInt32 4 &&& Int32.toUInt32 31)).toInt32)) &&& 252645135) + ((Int32.toUInt32 (((((x0 - (((Int32.toUInt32 x0 >>> (Int32.toUInt32 1 &&& Int32.toUInt32 31)).toInt32) &&& 1431655765)) &&& 858993459) + (((Int32.toUInt32 (x0 - (((Int32.toUInt32 x0 >>> (Int32.toUInt32 1 &&& Int32.toUInt32 31)).toInt32) &&& 1431655765)) >>> (Int32.toUInt32 2 &&& Int32.toUInt32 31)).toInt32) &&& 858993459)) + ((Int32.toUInt32 (((x0 - (((Int32.toUInt32 x0 >>> (Int32.toUInt32 1 &&& Int32.toUInt32 31)).toInt32) &&& 1431655765)) &&& 858993459) + (((Int32.toUInt32 (x0 - (((Int32.toUInt32 x0 >>> (Int32.toUInt32 1 &&& Int32.toUInt32 31)).toInt32) &&& 1431655765)) >>> (Int32.toUInt32 2 &&& Int32.toUInt32 31)).toInt32) &&& 858993459)) >>> (Int32.toUInt32 4 &&& Int32.toUInt32 31)).toInt32)) &&& 252645135) >>> (Int32.toUInt32 8 &&& Int32.toUInt32 31)).toInt32)) + ((Int32.toUInt32 ((((((x0 - (((Int32.toUInt32 x0 >>> (Int32.toUInt32 1 &&& Int32.toUInt32 31)).toInt32) &&& 1431655765)) &&& 858993459) + (((Int32.toUInt32 (x0 - (((Int32.toUInt32 x0 >>> (Int32.toUInt32 1 &&& Int32.toUInt32 31)).toInt32) &&& 1431655765)) >>> (Int32.toUInt32 2 &&& Int32.toUInt32 31)).toInt32) &&& 858993459)) + ((Int32.toUInt32 (((x0 - (((Int32.toUInt32 x0 >>> (Int32.toUInt32 1 &&& Int32.toUInt32 31)).toInt32) &&& 1431655765)) &&& 858993459) + (((Int32.toUInt32 (x0 - (((Int32.toUInt32 x0 >>> (Int32.toUInt32 1 &&& Int32.toUInt32 31)).toInt32) &&& 1431655765)) >>> (Int32.toUInt32 2 &&& Int32.toUInt32 31)).toInt32) &&& 858993459)) >>> (Int32.toUInt32 4 &&& Int32.toUInt32 31)).toInt32)) &&& 252645135) + ((Int32.toUInt32 (((((x0 - (((Int32.toUInt32 x0 >>> (Int32.toUInt32 1 &&& Int32.toUInt32 31)).toInt32) &&& 1431655765)) &&& 858993459) + (((Int32.toUInt32 (x0 - (((Int32.toUInt32 x0 >>> (Int32.toUInt32 1 &&& Int32.toUInt32 31)).toInt32) &&& 1431655765)) >>> (Int32.toUInt32 2 &&& Int32.toUInt32 31)).toInt32) &&& 858993459)) + ((Int32.toUInt32 (((x0 - (((Int32.toUInt32 x0 >>> (Int32.toUInt32 1 &&& Int32.toUInt32 31)).toInt32) &&& 1431655765)) &&& 858993459) + (((Int32.toUInt32 (x0 - (((Int32.toUInt32 x0 >>> (Int32.toUInt32 1 &&& Int32.toUInt32 31)).toInt32) &&& 1431655765)) >>> (Int32.toUInt32 2 &&& Int32.toUInt32 31)).toInt32) &&& 858993459)) >>> (Int32.toUInt32 4 &&& Int32.toUInt32 31)).toInt32)) &&& 252645135) >>> (Int32.toUInt32 8 &&& Int32.toUInt32 31)).toInt32)) >>> (Int32.toUInt32 16 &&& Int32.toUInt32 31)).toInt32)) &&& 63)
theorem k_J6_bitCount_0f7a4 {l : Launch} {G : Ge} {S : St} {x0 : Int32} {rr : Int32} (hr : f_J6_bitCount_0f7a4 S x0 = some rr) : Ct l G yJ6_bitCount_0f7a4 cJ6_bitCount_0f7a4 1 (Option.some Jvm.ClassFile.FieldType.int) S [.int x0] (some (.int rr)) S 0 0 := by
  refine ct_of (by decide +kernel) (Nat.le_of_ble_eq_true rfl) ?_
  intro p e s m args below meth c C ls hl
  have hl : lv_has ls 1 [(0, .int x0)] := hl
  unfold f_J6_bitCount_0f7a4 at hr
  refine v_iload_n C (lv_at hl 0 rfl) rfl dJ6_bitCount_0f7a4_0 ?_
  refine v_iload_n C (lv_at hl 0 rfl) rfl dJ6_bitCount_0f7a4_1 ?_
  refine v_iconst C 1 (by decide) dJ6_bitCount_0f7a4_2 ?_
  refine v_iushr C dJ6_bitCount_0f7a4_3 ?_
  refine v_ldcw C w_1065 dJ6_bitCount_0f7a4_4 ?_
  refine v_iand C dJ6_bitCount_0f7a4_7 ?_
  refine v_isub C dJ6_bitCount_0f7a4_8 ?_
  refine v_istore_n C (i := 0) (lv' := [(0, .int (x0 - (((Int32.toUInt32 x0 >>> (Int32.toUInt32 1 &&& Int32.toUInt32 31)).toInt32) &&& 1431655765)))]) hl rfl (by decide) rfl dJ6_bitCount_0f7a4_9 (fun ls hl => ?_)
  refine v_iload_n C (lv_at hl 0 rfl) rfl dJ6_bitCount_0f7a4_10 ?_
  refine v_ldcw C w_1066 dJ6_bitCount_0f7a4_11 ?_
  refine v_iand C dJ6_bitCount_0f7a4_14 ?_
  refine v_iload_n C (lv_at hl 0 rfl) rfl dJ6_bitCount_0f7a4_15 ?_
  refine v_iconst C 2 (by decide) dJ6_bitCount_0f7a4_16 ?_
  refine v_iushr C dJ6_bitCount_0f7a4_17 ?_
  refine v_ldcw C w_1066 dJ6_bitCount_0f7a4_18 ?_
  refine v_iand C dJ6_bitCount_0f7a4_21 ?_
  refine v_iadd C dJ6_bitCount_0f7a4_22 ?_
  refine v_istore_n C (i := 0) (lv' := [(0, .int (((x0 - (((Int32.toUInt32 x0 >>> (Int32.toUInt32 1 &&& Int32.toUInt32 31)).toInt32) &&& 1431655765)) &&& 858993459) + (((Int32.toUInt32 (x0 - (((Int32.toUInt32 x0 >>> (Int32.toUInt32 1 &&& Int32.toUInt32 31)).toInt32) &&& 1431655765)) >>> (Int32.toUInt32 2 &&& Int32.toUInt32 31)).toInt32) &&& 858993459)))]) hl rfl (by decide) rfl dJ6_bitCount_0f7a4_23 (fun ls hl => ?_)
  refine v_iload_n C (lv_at hl 0 rfl) rfl dJ6_bitCount_0f7a4_24 ?_
  refine v_iload_n C (lv_at hl 0 rfl) rfl dJ6_bitCount_0f7a4_25 ?_
  refine v_iconst C 4 (by decide) dJ6_bitCount_0f7a4_26 ?_
  refine v_iushr C dJ6_bitCount_0f7a4_27 ?_
  refine v_iadd C dJ6_bitCount_0f7a4_28 ?_
  refine v_ldcw C w_1067 dJ6_bitCount_0f7a4_29 ?_
  refine v_iand C dJ6_bitCount_0f7a4_32 ?_
  refine v_istore_n C (i := 0) (lv' := [(0, .int (((((x0 - (((Int32.toUInt32 x0 >>> (Int32.toUInt32 1 &&& Int32.toUInt32 31)).toInt32) &&& 1431655765)) &&& 858993459) + (((Int32.toUInt32 (x0 - (((Int32.toUInt32 x0 >>> (Int32.toUInt32 1 &&& Int32.toUInt32 31)).toInt32) &&& 1431655765)) >>> (Int32.toUInt32 2 &&& Int32.toUInt32 31)).toInt32) &&& 858993459)) + ((Int32.toUInt32 (((x0 - (((Int32.toUInt32 x0 >>> (Int32.toUInt32 1 &&& Int32.toUInt32 31)).toInt32) &&& 1431655765)) &&& 858993459) + (((Int32.toUInt32 (x0 - (((Int32.toUInt32 x0 >>> (Int32.toUInt32 1 &&& Int32.toUInt32 31)).toInt32) &&& 1431655765)) >>> (Int32.toUInt32 2 &&& Int32.toUInt32 31)).toInt32) &&& 858993459)) >>> (Int32.toUInt32 4 &&& Int32.toUInt32 31)).toInt32)) &&& 252645135))]) hl rfl (by decide) rfl dJ6_bitCount_0f7a4_33 (fun ls hl => ?_)
  refine v_iload_n C (lv_at hl 0 rfl) rfl dJ6_bitCount_0f7a4_34 ?_
  refine v_iload_n C (lv_at hl 0 rfl) rfl dJ6_bitCount_0f7a4_35 ?_
  refine v_bipush C 8 (by decide) dJ6_bitCount_0f7a4_36 ?_
  refine v_iushr C dJ6_bitCount_0f7a4_38 ?_
  refine v_iadd C dJ6_bitCount_0f7a4_39 ?_
  refine v_istore_n C (i := 0) (lv' := [(0, .int ((((((x0 - (((Int32.toUInt32 x0 >>> (Int32.toUInt32 1 &&& Int32.toUInt32 31)).toInt32) &&& 1431655765)) &&& 858993459) + (((Int32.toUInt32 (x0 - (((Int32.toUInt32 x0 >>> (Int32.toUInt32 1 &&& Int32.toUInt32 31)).toInt32) &&& 1431655765)) >>> (Int32.toUInt32 2 &&& Int32.toUInt32 31)).toInt32) &&& 858993459)) + ((Int32.toUInt32 (((x0 - (((Int32.toUInt32 x0 >>> (Int32.toUInt32 1 &&& Int32.toUInt32 31)).toInt32) &&& 1431655765)) &&& 858993459) + (((Int32.toUInt32 (x0 - (((Int32.toUInt32 x0 >>> (Int32.toUInt32 1 &&& Int32.toUInt32 31)).toInt32) &&& 1431655765)) >>> (Int32.toUInt32 2 &&& Int32.toUInt32 31)).toInt32) &&& 858993459)) >>> (Int32.toUInt32 4 &&& Int32.toUInt32 31)).toInt32)) &&& 252645135) + ((Int32.toUInt32 (((((x0 - (((Int32.toUInt32 x0 >>> (Int32.toUInt32 1 &&& Int32.toUInt32 31)).toInt32) &&& 1431655765)) &&& 858993459) + (((Int32.toUInt32 (x0 - (((Int32.toUInt32 x0 >>> (Int32.toUInt32 1 &&& Int32.toUInt32 31)).toInt32) &&& 1431655765)) >>> (Int32.toUInt32 2 &&& Int32.toUInt32 31)).toInt32) &&& 858993459)) + ((Int32.toUInt32 (((x0 - (((Int32.toUInt32 x0 >>> (Int32.toUInt32 1 &&& Int32.toUInt32 31)).toInt32) &&& 1431655765)) &&& 858993459) + (((Int32.toUInt32 (x0 - (((Int32.toUInt32 x0 >>> (Int32.toUInt32 1 &&& Int32.toUInt32 31)).toInt32) &&& 1431655765)) >>> (Int32.toUInt32 2 &&& Int32.toUInt32 31)).toInt32) &&& 858993459)) >>> (Int32.toUInt32 4 &&& Int32.toUInt32 31)).toInt32)) &&& 252645135) >>> (Int32.toUInt32 8 &&& Int32.toUInt32 31)).toInt32)))]) hl rfl (by decide) rfl dJ6_bitCount_0f7a4_40 (fun ls hl => ?_)
  refine v_iload_n C (lv_at hl 0 rfl) rfl dJ6_bitCount_0f7a4_41 ?_
  refine v_iload_n C (lv_at hl 0 rfl) rfl dJ6_bitCount_0f7a4_42 ?_
  refine v_bipush C 16 (by decide) dJ6_bitCount_0f7a4_43 ?_
  refine v_iushr C dJ6_bitCount_0f7a4_45 ?_
  refine v_iadd C dJ6_bitCount_0f7a4_46 ?_
  refine v_istore_n C (i := 0) (lv' := [(0, .int (((((((x0 - (((Int32.toUInt32 x0 >>> (Int32.toUInt32 1 &&& Int32.toUInt32 31)).toInt32) &&& 1431655765)) &&& 858993459) + (((Int32.toUInt32 (x0 - (((Int32.toUInt32 x0 >>> (Int32.toUInt32 1 &&& Int32.toUInt32 31)).toInt32) &&& 1431655765)) >>> (Int32.toUInt32 2 &&& Int32.toUInt32 31)).toInt32) &&& 858993459)) + ((Int32.toUInt32 (((x0 - (((Int32.toUInt32 x0 >>> (Int32.toUInt32 1 &&& Int32.toUInt32 31)).toInt32) &&& 1431655765)) &&& 858993459) + (((Int32.toUInt32 (x0 - (((Int32.toUInt32 x0 >>> (Int32.toUInt32 1 &&& Int32.toUInt32 31)).toInt32) &&& 1431655765)) >>> (Int32.toUInt32 2 &&& Int32.toUInt32 31)).toInt32) &&& 858993459)) >>> (Int32.toUInt32 4 &&& Int32.toUInt32 31)).toInt32)) &&& 252645135) + ((Int32.toUInt32 (((((x0 - (((Int32.toUInt32 x0 >>> (Int32.toUInt32 1 &&& Int32.toUInt32 31)).toInt32) &&& 1431655765)) &&& 858993459) + (((Int32.toUInt32 (x0 - (((Int32.toUInt32 x0 >>> (Int32.toUInt32 1 &&& Int32.toUInt32 31)).toInt32) &&& 1431655765)) >>> (Int32.toUInt32 2 &&& Int32.toUInt32 31)).toInt32) &&& 858993459)) + ((Int32.toUInt32 (((x0 - (((Int32.toUInt32 x0 >>> (Int32.toUInt32 1 &&& Int32.toUInt32 31)).toInt32) &&& 1431655765)) &&& 858993459) + (((Int32.toUInt32 (x0 - (((Int32.toUInt32 x0 >>> (Int32.toUInt32 1 &&& Int32.toUInt32 31)).toInt32) &&& 1431655765)) >>> (Int32.toUInt32 2 &&& Int32.toUInt32 31)).toInt32) &&& 858993459)) >>> (Int32.toUInt32 4 &&& Int32.toUInt32 31)).toInt32)) &&& 252645135) >>> (Int32.toUInt32 8 &&& Int32.toUInt32 31)).toInt32)) + ((Int32.toUInt32 ((((((x0 - (((Int32.toUInt32 x0 >>> (Int32.toUInt32 1 &&& Int32.toUInt32 31)).toInt32) &&& 1431655765)) &&& 858993459) + (((Int32.toUInt32 (x0 - (((Int32.toUInt32 x0 >>> (Int32.toUInt32 1 &&& Int32.toUInt32 31)).toInt32) &&& 1431655765)) >>> (Int32.toUInt32 2 &&& Int32.toUInt32 31)).toInt32) &&& 858993459)) + ((Int32.toUInt32 (((x0 - (((Int32.toUInt32 x0 >>> (Int32.toUInt32 1 &&& Int32.toUInt32 31)).toInt32) &&& 1431655765)) &&& 858993459) + (((Int32.toUInt32 (x0 - (((Int32.toUInt32 x0 >>> (Int32.toUInt32 1 &&& Int32.toUInt32 31)).toInt32) &&& 1431655765)) >>> (Int32.toUInt32 2 &&& Int32.toUInt32 31)).toInt32) &&& 858993459)) >>> (Int32.toUInt32 4 &&& Int32.toUInt32 31)).toInt32)) &&& 252645135) + ((Int32.toUInt32 (((((x0 - (((Int32.toUInt32 x0 >>> (Int32.toUInt32 1 &&& Int32.toUInt32 31)).toInt32) &&& 1431655765)) &&& 858993459) + (((Int32.toUInt32 (x0 - (((Int32.toUInt32 x0 >>> (Int32.toUInt32 1 &&& Int32.toUInt32 31)).toInt32) &&& 1431655765)) >>> (Int32.toUInt32 2 &&& Int32.toUInt32 31)).toInt32) &&& 858993459)) + ((Int32.toUInt32 (((x0 - (((Int32.toUInt32 x0 >>> (Int32.toUInt32 1 &&& Int32.toUInt32 31)).toInt32) &&& 1431655765)) &&& 858993459) + (((Int32.toUInt32 (x0 - (((Int32.toUInt32 x0 >>> (Int32.toUInt32 1 &&& Int32.toUInt32 31)).toInt32) &&& 1431655765)) >>> (Int32.toUInt32 2 &&& Int32.toUInt32 31)).toInt32) &&& 858993459)) >>> (Int32.toUInt32 4 &&& Int32.toUInt32 31)).toInt32)) &&& 252645135) >>> (Int32.toUInt32 8 &&& Int32.toUInt32 31)).toInt32)) >>> (Int32.toUInt32 16 &&& Int32.toUInt32 31)).toInt32)))]) hl rfl (by decide) rfl dJ6_bitCount_0f7a4_47 (fun ls hl => ?_)
  refine v_iload_n C (lv_at hl 0 rfl) rfl dJ6_bitCount_0f7a4_48 ?_
  refine v_bipush C 63 (by decide) dJ6_bitCount_0f7a4_49 ?_
  refine v_iand C dJ6_bitCount_0f7a4_51 ?_
  obtain rfl := os hr
  exact v_iret C dJ6_bitCount_0f7a4_52
-- J9_min_7cf53
def f_J9_min_7cf53 (S : St) (x0 : Int32) (x1 : Int32) : Option Int32 :=
    (if x1 < x0 then
    some x1
    else
    some x0)
theorem k_J9_min_7cf53 {l : Launch} {G : Ge} {S : St} {x0 : Int32} {x1 : Int32} {rr : Int32} (hr : f_J9_min_7cf53 S x0 x1 = some rr) : Ct l G yJ9_min_7cf53 cJ9_min_7cf53 2 (Option.some Jvm.ClassFile.FieldType.int) S [.int x0, .int x1] (some (.int rr)) S 0 0 := by
  refine ct_of (by decide +kernel) (Nat.le_of_ble_eq_true rfl) ?_
  intro p e s m args below meth c C ls hl
  have hl : lv_has ls 2 [(0, .int x0), (1, .int x1)] := hl
  unfold f_J9_min_7cf53 at hr
  refine v_iload_n C (lv_at hl 0 rfl) rfl dJ9_min_7cf53_0 ?_
  refine v_iload_n C (lv_at hl 1 rfl) rfl dJ9_min_7cf53_1 ?_
  refine v_icmp_gt C 9 (by decide) dJ9_min_7cf53_2 (fun c2 => ?_) (fun c2 => ?_)
  · rw [if_pos c2] at hr
    refine v_iload_n C (lv_at hl 1 rfl) rfl dJ9_min_7cf53_9 ?_
    obtain rfl := os hr
    exact v_iret C dJ9_min_7cf53_10
  · rw [if_neg c2] at hr
    refine v_iload_n C (lv_at hl 0 rfl) rfl dJ9_min_7cf53_5 ?_
    refine v_goto C 10 (by decide) dJ9_min_7cf53_6 ?_
    obtain rfl := os hr
    exact v_iret C dJ9_min_7cf53_10
-- J7_copyOf_6403c
def f_J7_copyOf_6403c (S : St) (x0 : Option Nat) (x1 : Int32) (x2 : Option Nat) : Option (Option Nat × St) :=
    (if x2 = (some (lit S 15)) then
    (newA S 20 x1).bind fun (a7, S7) =>
    (alen S7 x0).bind fun v30 =>
    (f_J9_min_7cf53 S7 v30 x1).bind fun v32 =>
    (acopy S7 x0 0 (some a7) 0 v32).bind fun S35 =>
    some ((some a7), S35)
    else
    none)
theorem k_J7_copyOf_6403c {l : Launch} {G : Ge} {S S' : St} {x0 : Option Nat} {x1 : Int32} {x2 : Option Nat} {rr : Option Nat} (hr : f_J7_copyOf_6403c S x0 x1 x2 = some (rr, S')) : Ct l G yJ7_copyOf_6403c cJ7_copyOf_6403c 4 (Option.some (Jvm.ClassFile.FieldType.array (Jvm.ClassFile.FieldType.object "java/lang/Object"))) S [va_rf x0, .int x1, va_rf x2] (some (va_rf rr)) S' 1 36 := by
  refine ct_of (by decide +kernel) (by cases x0 <;> cases x2 <;> exact Nat.le_of_ble_eq_true rfl) ?_
  intro p e s m args below meth c C ls hl
  have hl : lv_has ls 4 [(0, va_rf x0), (1, .int x1), (2, va_rf x2)] := by clear hr; cases x0 <;> cases x2 <;> exact hl
  unfold f_J7_copyOf_6403c at hr
  refine v_aload_n C (lv_at hl 2 rfl) rfl dJ7_copyOf_6403c_0 ?_
  refine v_ldcM C w_430 dJ7_copyOf_6403c_1 ?_
  refine v_acmp_ne C 13 (by decide) dJ7_copyOf_6403c_3 (fun c3 => ?_) (fun c3 => ?_)
  · rw [if_neg c3] at hr
    refine v_aload_n C (lv_at hl 2 rfl) rfl dJ7_copyOf_6403c_13 ?_
    cases hr
  · rw [if_pos c3] at hr
    refine v_iload_n C (lv_at hl 1 rfl) rfl dJ7_copyOf_6403c_6 ?_
    obtain ⟨⟨a7, S7⟩, e7, hr⟩ := ob hr
    (try dsimp only at hr)
    refine v_newR C (nm := "java/lang/Object") e7 (by decide) w_432 dJ7_copyOf_6403c_7 ?_
    refine v_goto C 24 (by decide) dJ7_copyOf_6403c_10 ?_
    refine v_astore_n C (i := 3) (lv' := [(3, va_rf (some a7)), (0, va_rf x0), (1, .int x1), (2, va_rf x2)]) hl rfl (by decide) (by simp [rf_n2]) dJ7_copyOf_6403c_24 (fun ls hl => ?_)
    refine v_aload_n C (lv_at hl 1 rfl) rfl dJ7_copyOf_6403c_25 ?_
    refine v_iconst C 0 (by decide) dJ7_copyOf_6403c_26 ?_
    refine v_aload_n C (lv_at hl 0 rfl) rfl dJ7_copyOf_6403c_27 ?_
    refine v_iconst C 0 (by decide) dJ7_copyOf_6403c_28 ?_
    refine v_aload_n C (lv_at hl 1 rfl) rfl dJ7_copyOf_6403c_29 ?_
    obtain ⟨v30, e30, hr⟩ := ob hr
    refine v_alen C e30 dJ7_copyOf_6403c_30 ?_
    refine v_iload_n C (lv_at hl 2 rfl) rfl dJ7_copyOf_6403c_31 ?_
    obtain ⟨v32, e32, hr⟩ := ob hr
    refine v_callS C (k_J9_min_7cf53 e32) cw_J9_min_7cf53 w_433 w_434 (show (parseMethodDescriptor (yJ9_min_7cf53).desc).map (fun d => d.parameters.length) = some 2 by decide +kernel) ⟨by decide, by decide⟩ (rest := [.int 0, va_rf (some a7), .int 0, va_rf x0]) (stk2 := [.int v32, .int 0, va_rf (some a7), .int 0, va_rf x0]) rfl rfl (by simp [rf_cat, cat_i, cat_l]) hl dJ7_copyOf_6403c_32 ?_
    obtain ⟨S35, e35, hr⟩ := ob hr
    refine v_acopy C e35 w_436 w_438 w_437 w_115 ⟨by decide, by decide⟩ (Nat.le_of_ble_eq_true rfl) hl dJ7_copyOf_6403c_35 ?_
    refine v_aload_n C (lv_at hl 0 rfl) rfl dJ7_copyOf_6403c_38 ?_
    obtain ⟨rfl, rfl⟩ := Prod.mk.inj (os hr)
    exact v_aret C (Or.inr ⟨_, rfl⟩) dJ7_copyOf_6403c_39
-- J7_copyOf_1904c
def f_J7_copyOf_1904c (S : St) (x0 : Option Nat) (x1 : Int32) : Option (Option Nat × St) :=
    (gcls S x0).bind fun v3 =>
    (f_J7_copyOf_6403c S x0 x1 v3).bind fun (v6, S6) =>
    some (v6, S6)
theorem k_J7_copyOf_1904c {l : Launch} {G : Ge} {S S' : St} {x0 : Option Nat} {x1 : Int32} {rr : Option Nat} (hr : f_J7_copyOf_1904c S x0 x1 = some (rr, S')) : Ct l G yJ7_copyOf_1904c cJ7_copyOf_1904c 2 (Option.some (Jvm.ClassFile.FieldType.array (Jvm.ClassFile.FieldType.object "java/lang/Object"))) S [va_rf x0, .int x1] (some (va_rf rr)) S' 2 59 := by
  refine ct_of (by decide +kernel) (by cases x0 <;> exact Nat.le_of_ble_eq_true rfl) ?_
  intro p e s m args below meth c C ls hl
  have hl : lv_has ls 2 [(0, va_rf x0), (1, .int x1)] := by clear hr; cases x0 <;> exact hl
  unfold f_J7_copyOf_1904c at hr
  refine v_aload_n C (lv_at hl 0 rfl) rfl dJ7_copyOf_1904c_0 ?_
  refine v_iload_n C (lv_at hl 1 rfl) rfl dJ7_copyOf_1904c_1 ?_
  refine v_aload_n C (lv_at hl 0 rfl) rfl dJ7_copyOf_1904c_2 ?_
  obtain ⟨v3, e3, hr⟩ := ob hr
  refine v_getC C e3 w_409 w_1939 w_410 w_426 ⟨by decide, by decide⟩ (by simp [rf_cat, cat_i, cat_l]) hl dJ7_copyOf_1904c_3 ?_
  obtain ⟨⟨v6, S6⟩, e6, hr⟩ := ob hr
  (try dsimp only at hr)
  refine v_callS C (k_J7_copyOf_6403c e6) cw_J7_copyOf_6403c w_427 w_428 (show (parseMethodDescriptor (yJ7_copyOf_6403c).desc).map (fun d => d.parameters.length) = some 3 by decide +kernel) ⟨by decide, by decide⟩ (rest := []) (stk2 := [va_rf v6]) rfl rfl (Nat.le_of_ble_eq_true rfl) hl dJ7_copyOf_1904c_6 ?_
  obtain ⟨rfl, rfl⟩ := Prod.mk.inj (os hr)
  exact v_aret C (Or.inr ⟨_, rfl⟩) dJ7_copyOf_1904c_9
-- J8_hugeLength_7cf53
def f_J8_hugeLength_7cf53 (S : St) (x0 : Int32) (x1 : Int32) : Option Int32 :=
    (if (0 : Int32) ≤ (x0 + x1) then
    (if (2147483639 : Int32) < (x0 + x1) then
    some (x0 + x1)
    else
    some 2147483639)
    else
    none)
theorem k_J8_hugeLength_7cf53 {l : Launch} {G : Ge} {S : St} {x0 : Int32} {x1 : Int32} {rr : Int32} (hr : f_J8_hugeLength_7cf53 S x0 x1 = some rr) : Ct l G yJ8_hugeLength_7cf53 cJ8_hugeLength_7cf53 3 (Option.some Jvm.ClassFile.FieldType.int) S [.int x0, .int x1] (some (.int rr)) S 0 0 := by
  refine ct_of (by decide +kernel) (Nat.le_of_ble_eq_true rfl) ?_
  intro p e s m args below meth c C ls hl
  have hl : lv_has ls 3 [(0, .int x0), (1, .int x1)] := hl
  unfold f_J8_hugeLength_7cf53 at hr
  refine v_iload_n C (lv_at hl 0 rfl) rfl dJ8_hugeLength_7cf53_0 ?_
  refine v_iload_n C (lv_at hl 1 rfl) rfl dJ8_hugeLength_7cf53_1 ?_
  refine v_iadd C dJ8_hugeLength_7cf53_2 ?_
  refine v_istore_n C (i := 2) (lv' := [(2, .int (x0 + x1)), (0, .int x0), (1, .int x1)]) hl rfl (by decide) rfl dJ8_hugeLength_7cf53_3 (fun ls hl => ?_)
  refine v_iload_n C (lv_at hl 0 rfl) rfl dJ8_hugeLength_7cf53_4 ?_
  refine v_if_ge C 49 (by decide) dJ8_hugeLength_7cf53_5 (fun c5 => ?_) (fun c5 => ?_)
  · rw [if_pos c5] at hr
    refine v_iload_n C (lv_at hl 0 rfl) rfl dJ8_hugeLength_7cf53_49 ?_
    refine v_ldc C w_402 dJ8_hugeLength_7cf53_50 ?_
    refine v_icmp_gt C 58 (by decide) dJ8_hugeLength_7cf53_52 (fun c52 => ?_) (fun c52 => ?_)
    · rw [if_pos c52] at hr
      refine v_iload_n C (lv_at hl 0 rfl) rfl dJ8_hugeLength_7cf53_58 ?_
      obtain rfl := os hr
      exact v_iret C dJ8_hugeLength_7cf53_59
    · rw [if_neg c52] at hr
      refine v_ldc C w_402 dJ8_hugeLength_7cf53_55 ?_
      obtain rfl := os hr
      exact v_iret C dJ8_hugeLength_7cf53_57
  · rw [if_neg c5] at hr
    cases hr
-- J9_max_7cf53
def f_J9_max_7cf53 (S : St) (x0 : Int32) (x1 : Int32) : Option Int32 :=
    (if x0 < x1 then
    some x1
    else
    some x0)
theorem k_J9_max_7cf53 {l : Launch} {G : Ge} {S : St} {x0 : Int32} {x1 : Int32} {rr : Int32} (hr : f_J9_max_7cf53 S x0 x1 = some rr) : Ct l G yJ9_max_7cf53 cJ9_max_7cf53 2 (Option.some Jvm.ClassFile.FieldType.int) S [.int x0, .int x1] (some (.int rr)) S 0 0 := by
  refine ct_of (by decide +kernel) (Nat.le_of_ble_eq_true rfl) ?_
  intro p e s m args below meth c C ls hl
  have hl : lv_has ls 2 [(0, .int x0), (1, .int x1)] := hl
  unfold f_J9_max_7cf53 at hr
  refine v_iload_n C (lv_at hl 0 rfl) rfl dJ9_max_7cf53_0 ?_
  refine v_iload_n C (lv_at hl 1 rfl) rfl dJ9_max_7cf53_1 ?_
  refine v_icmp_lt C 9 (by decide) dJ9_max_7cf53_2 (fun c2 => ?_) (fun c2 => ?_)
  · rw [if_pos c2] at hr
    refine v_iload_n C (lv_at hl 1 rfl) rfl dJ9_max_7cf53_9 ?_
    obtain rfl := os hr
    exact v_iret C dJ9_max_7cf53_10
  · rw [if_neg c2] at hr
    refine v_iload_n C (lv_at hl 0 rfl) rfl dJ9_max_7cf53_5 ?_
    refine v_goto C 10 (by decide) dJ9_max_7cf53_6 ?_
    obtain rfl := os hr
    exact v_iret C dJ9_max_7cf53_10
-- J8_newLength_cabcc
def f_J8_newLength_cabcc_21 (S : St) (x0 : Int32) (x1 : Int32) : Option Int32 :=
    (f_J8_hugeLength_7cf53 S x0 x1).bind fun v23 =>
    some v23
def f_J8_newLength_cabcc (S : St) (x0 : Int32) (x1 : Int32) (x2 : Int32) : Option Int32 :=
    (f_J9_max_7cf53 S x1 x2).bind fun v3 =>
    (if (x0 + v3) ≤ 0 then
    f_J8_newLength_cabcc_21 S x0 x1
    else
    (if (2147483639 : Int32) < (x0 + v3) then
    f_J8_newLength_cabcc_21 S x0 x1
    else
    some (x0 + v3)))
theorem b_J8_newLength_cabcc_21  {S : St} {rr : Int32} {x0 : Int32} {x1 : Int32} (C : Cx p s m args meth c G S yJ8_newLength_cabcc cJ8_newLength_cabcc 4 (Option.some Jvm.ClassFile.FieldType.int)) (hr : f_J8_newLength_cabcc_21 S x0 x1 = some rr) : ∀ ls : Array Slot, lv_has ls 4 [(0, .int x0), (1, .int x1)] → V p l e (rmo 1 22 S) s m args below meth c G S S (QM below args s G S S (some (.int rr))) (F0 m 21 ls []) := by
  intro ls hl
  unfold f_J8_newLength_cabcc_21 at hr
  refine v_iload_n C (lv_at hl 0 rfl) rfl dJ8_newLength_cabcc_21 ?_
  refine v_iload_n C (lv_at hl 1 rfl) rfl dJ8_newLength_cabcc_22 ?_
  obtain ⟨v23, e23, hr⟩ := ob hr
  refine v_callS C (k_J8_hugeLength_7cf53 e23) cw_J8_hugeLength_7cf53 w_403 w_404 (show (parseMethodDescriptor (yJ8_hugeLength_7cf53).desc).map (fun d => d.parameters.length) = some 2 by decide +kernel) ⟨by decide, by decide⟩ (rest := []) (stk2 := [.int v23]) rfl rfl (Nat.le_of_ble_eq_true rfl) hl dJ8_newLength_cabcc_23 ?_
  obtain rfl := os hr
  exact v_iret C dJ8_newLength_cabcc_26
theorem k_J8_newLength_cabcc {l : Launch} {G : Ge} {S : St} {x0 : Int32} {x1 : Int32} {x2 : Int32} {rr : Int32} (hr : f_J8_newLength_cabcc S x0 x1 x2 = some rr) : Ct l G yJ8_newLength_cabcc cJ8_newLength_cabcc 4 (Option.some Jvm.ClassFile.FieldType.int) S [.int x0, .int x1, .int x2] (some (.int rr)) S 1 22 := by
  refine ct_of (by decide +kernel) (Nat.le_of_ble_eq_true rfl) ?_
  intro p e s m args below meth c C ls hl
  have hl : lv_has ls 4 [(0, .int x0), (1, .int x1), (2, .int x2)] := hl
  unfold f_J8_newLength_cabcc at hr
  refine v_iload_n C (lv_at hl 0 rfl) rfl dJ8_newLength_cabcc_0 ?_
  refine v_iload_n C (lv_at hl 1 rfl) rfl dJ8_newLength_cabcc_1 ?_
  refine v_iload_n C (lv_at hl 2 rfl) rfl dJ8_newLength_cabcc_2 ?_
  obtain ⟨v3, e3, hr⟩ := ob hr
  refine v_callS C (k_J9_max_7cf53 e3) cw_J9_max_7cf53 w_401 w_169 (show (parseMethodDescriptor (yJ9_max_7cf53).desc).map (fun d => d.parameters.length) = some 2 by decide +kernel) ⟨by decide, by decide⟩ (rest := [.int x0]) (stk2 := [.int v3, .int x0]) rfl rfl (Nat.le_of_ble_eq_true rfl) hl dJ8_newLength_cabcc_3 ?_
  refine v_iadd C dJ8_newLength_cabcc_6 ?_
  refine v_istore_n C (i := 3) (lv' := [(3, .int (x0 + v3)), (0, .int x0), (1, .int x1), (2, .int x2)]) hl rfl (by decide) rfl dJ8_newLength_cabcc_7 (fun ls hl => ?_)
  refine v_iconst C 0 (by decide) dJ8_newLength_cabcc_8 ?_
  refine v_iload_n C (lv_at hl 0 rfl) rfl dJ8_newLength_cabcc_9 ?_
  refine v_icmp_ge C 21 (by decide) dJ8_newLength_cabcc_10 (fun c10 => ?_) (fun c10 => ?_)
  · rw [if_pos c10] at hr
    exact b_J8_newLength_cabcc_21 C hr _ (lv_sub hl [1, 2] rfl)
  · rw [if_neg c10] at hr
    refine v_iload_n C (lv_at hl 0 rfl) rfl dJ8_newLength_cabcc_13 ?_
    refine v_ldc C w_402 dJ8_newLength_cabcc_14 ?_
    refine v_icmp_gt C 21 (by decide) dJ8_newLength_cabcc_16 (fun c16 => ?_) (fun c16 => ?_)
    · rw [if_pos c16] at hr
      exact b_J8_newLength_cabcc_21 C hr _ (lv_sub hl [1, 2] rfl)
    · rw [if_neg c16] at hr
      refine v_iload_n C (lv_at hl 0 rfl) rfl dJ8_newLength_cabcc_19 ?_
      obtain rfl := os hr
      exact v_iret C dJ8_newLength_cabcc_20
-- J9_floorDiv_f86c9
def f_J9_floorDiv_f86c9 (S : St) (x0 : Int64) (x2 : Int64) : Option Int64 :=
    (divL x0 x2).bind fun v2 =>
    (if (0 : Int32) ≤ (lg_cmp (x0 ^^^ x2) 0) then
    some v2
    else
    (if (lg_cmp (v2 * x2) x0) = 0 then
    some v2
    else
    some (v2 - 1)))
theorem k_J9_floorDiv_f86c9 {l : Launch} {G : Ge} {S : St} {x0 : Int64} {x2 : Int64} {rr : Int64} (hr : f_J9_floorDiv_f86c9 S x0 x2 = some rr) : Ct l G yJ9_floorDiv_f86c9 cJ9_floorDiv_f86c9 6 (Option.some Jvm.ClassFile.FieldType.long) S [.long x0, .long x2] (some (.long rr)) S 0 0 := by
  refine ct_of (by decide +kernel) (Nat.le_of_ble_eq_true rfl) ?_
  intro p e s m args below meth c C ls hl
  have hl : lv_has ls 6 [(0, .long x0), (2, .long x2)] := hl
  unfold f_J9_floorDiv_f86c9 at hr
  refine v_lload_n C (lv_at hl 0 rfl) rfl dJ9_floorDiv_f86c9_0 ?_
  refine v_lload_n C (lv_at hl 1 rfl) rfl dJ9_floorDiv_f86c9_1 ?_
  obtain ⟨v2, e2, hr⟩ := ob hr
  refine v_ldiv C e2 dJ9_floorDiv_f86c9_2 ?_
  refine v_lstore C (i := 4) (lv' := [(4, .long v2), (0, .long x0), (2, .long x2)]) hl (by decide) rfl dJ9_floorDiv_f86c9_3 (fun ls hl => ?_)
  refine v_lload_n C (lv_at hl 1 rfl) rfl dJ9_floorDiv_f86c9_5 ?_
  refine v_lload_n C (lv_at hl 2 rfl) rfl dJ9_floorDiv_f86c9_6 ?_
  refine v_lxor C dJ9_floorDiv_f86c9_7 ?_
  refine v_lconst C 0 (by decide) dJ9_floorDiv_f86c9_8 ?_
  refine v_lcmp C dJ9_floorDiv_f86c9_9 ?_
  refine v_if_ge C 27 (by decide) dJ9_floorDiv_f86c9_10 (fun c10 => ?_) (fun c10 => ?_)
  · rw [if_pos c10] at hr
    refine v_lload C (lv_at hl 0 rfl) dJ9_floorDiv_f86c9_27 ?_
    obtain rfl := os hr
    exact v_lret C dJ9_floorDiv_f86c9_29
  · rw [if_neg c10] at hr
    refine v_lload C (lv_at hl 0 rfl) dJ9_floorDiv_f86c9_13 ?_
    refine v_lload_n C (lv_at hl 2 rfl) rfl dJ9_floorDiv_f86c9_15 ?_
    refine v_lmul C dJ9_floorDiv_f86c9_16 ?_
    refine v_lload_n C (lv_at hl 1 rfl) rfl dJ9_floorDiv_f86c9_17 ?_
    refine v_lcmp C dJ9_floorDiv_f86c9_18 ?_
    refine v_if_eq C 27 (by decide) dJ9_floorDiv_f86c9_19 (fun c19 => ?_) (fun c19 => ?_)
    · rw [if_pos c19] at hr
      refine v_lload C (lv_at hl 0 rfl) dJ9_floorDiv_f86c9_27 ?_
      obtain rfl := os hr
      exact v_lret C dJ9_floorDiv_f86c9_29
    · rw [if_neg c19] at hr
      refine v_lload C (lv_at hl 0 rfl) dJ9_floorDiv_f86c9_22 ?_
      refine v_lconst C 1 (by decide) dJ9_floorDiv_f86c9_24 ?_
      refine v_lsub C dJ9_floorDiv_f86c9_25 ?_
      obtain rfl := os hr
      exact v_lret C dJ9_floorDiv_f86c9_26
-- J9_max_f86c9
def f_J9_max_f86c9 (S : St) (x0 : Int64) (x2 : Int64) : Option Int64 :=
    (if (lg_cmp x0 x2) < 0 then
    some x2
    else
    some x0)
theorem k_J9_max_f86c9 {l : Launch} {G : Ge} {S : St} {x0 : Int64} {x2 : Int64} {rr : Int64} (hr : f_J9_max_f86c9 S x0 x2 = some rr) : Ct l G yJ9_max_f86c9 cJ9_max_f86c9 4 (Option.some Jvm.ClassFile.FieldType.long) S [.long x0, .long x2] (some (.long rr)) S 0 0 := by
  refine ct_of (by decide +kernel) (Nat.le_of_ble_eq_true rfl) ?_
  intro p e s m args below meth c C ls hl
  have hl : lv_has ls 4 [(0, .long x0), (2, .long x2)] := hl
  unfold f_J9_max_f86c9 at hr
  refine v_lload_n C (lv_at hl 0 rfl) rfl dJ9_max_f86c9_0 ?_
  refine v_lload_n C (lv_at hl 1 rfl) rfl dJ9_max_f86c9_1 ?_
  refine v_lcmp C dJ9_max_f86c9_2 ?_
  refine v_if_lt C 10 (by decide) dJ9_max_f86c9_3 (fun c3 => ?_) (fun c3 => ?_)
  · rw [if_pos c3] at hr
    refine v_lload_n C (lv_at hl 1 rfl) rfl dJ9_max_f86c9_10 ?_
    obtain rfl := os hr
    exact v_lret C dJ9_max_f86c9_11
  · rw [if_neg c3] at hr
    refine v_lload_n C (lv_at hl 0 rfl) rfl dJ9_max_f86c9_6 ?_
    refine v_goto C 11 (by decide) dJ9_max_f86c9_7 ?_
    obtain rfl := os hr
    exact v_lret C dJ9_max_f86c9_11
-- J9_min_f86c9
def f_J9_min_f86c9 (S : St) (x0 : Int64) (x2 : Int64) : Option Int64 :=
    (if (0 : Int32) < (lg_cmp x0 x2) then
    some x2
    else
    some x0)
theorem k_J9_min_f86c9 {l : Launch} {G : Ge} {S : St} {x0 : Int64} {x2 : Int64} {rr : Int64} (hr : f_J9_min_f86c9 S x0 x2 = some rr) : Ct l G yJ9_min_f86c9 cJ9_min_f86c9 4 (Option.some Jvm.ClassFile.FieldType.long) S [.long x0, .long x2] (some (.long rr)) S 0 0 := by
  refine ct_of (by decide +kernel) (Nat.le_of_ble_eq_true rfl) ?_
  intro p e s m args below meth c C ls hl
  have hl : lv_has ls 4 [(0, .long x0), (2, .long x2)] := hl
  unfold f_J9_min_f86c9 at hr
  refine v_lload_n C (lv_at hl 0 rfl) rfl dJ9_min_f86c9_0 ?_
  refine v_lload_n C (lv_at hl 1 rfl) rfl dJ9_min_f86c9_1 ?_
  refine v_lcmp C dJ9_min_f86c9_2 ?_
  refine v_if_gt C 10 (by decide) dJ9_min_f86c9_3 (fun c3 => ?_) (fun c3 => ?_)
  · rw [if_pos c3] at hr
    refine v_lload_n C (lv_at hl 1 rfl) rfl dJ9_min_f86c9_10 ?_
    obtain rfl := os hr
    exact v_lret C dJ9_min_f86c9_11
  · rw [if_neg c3] at hr
    refine v_lload_n C (lv_at hl 0 rfl) rfl dJ9_min_f86c9_6 ?_
    refine v_goto C 11 (by decide) dJ9_min_f86c9_7 ?_
    obtain rfl := os hr
    exact v_lret C dJ9_min_f86c9_11
-- Jx4a65c_grow_92f84
def f_Jx4a65c_grow_92f84_20 (S : St) (x0 : Nat) (x1 : Int32) (x2 : Int32) : Option (Option Nat × St) :=
    (f_J8_newLength_cabcc S x2 (x1 - x2) (x2 >>> (1 &&& 31))).bind fun v27 =>
    (getR S (some x0) 0 1).bind fun v33 =>
    (f_J7_copyOf_1904c S v33 v27).bind fun (v37, S37) =>
    (putR S37 (some x0) 0 1 v37).bind fun S41 =>
    some (v37, S41)
def f_Jx4a65c_grow_92f84 (S : St) (x0 : Nat) (x1 : Int32) : Option (Option Nat × St) :=
    (getR S (some x0) 0 1).bind fun v1 =>
    (alen S v1).bind fun v4 =>
    (if (0 : Int32) < v4 then
    f_Jx4a65c_grow_92f84_20 S x0 x1 v4
    else
    (getR S (some x0) 0 1).bind fun v11 =>
    (if v11 = (some (emp S)) then
    (f_J9_max_7cf53 S 10 x1).bind fun v49 =>
    (newA S 20 v49).bind fun (a52, S52) =>
    (putR S52 (some x0) 0 1 (some a52)).bind fun S56 =>
    some ((some a52), S56)
    else
    f_Jx4a65c_grow_92f84_20 S x0 x1 v4))
theorem b_Jx4a65c_grow_92f84_20  {S0 S S' : St} {rr : Option Nat} {x0 : Nat} {x1 : Int32} {x2 : Int32} (C : Cx p s m args meth c G S0 yJx4a65c_grow_92f84 cJx4a65c_grow_92f84 4 (Option.some (Jvm.ClassFile.FieldType.array (Jvm.ClassFile.FieldType.object "java/lang/Object")))) (hr : f_Jx4a65c_grow_92f84_20 S x0 x1 x2 = some (rr, S')) : ∀ ls : Array Slot, lv_has ls 4 [(0, va_rf (some x0)), (1, .int x1), (2, .int x2)] → V p l e (rmo 3 80 S0) s m args below meth c G S0 S (QM below args s G S0 S' (some (va_rf rr))) (F0 m 20 ls []) := by
  intro ls hl
  unfold f_Jx4a65c_grow_92f84_20 at hr
  refine v_iload_n C (lv_at hl 2 rfl) rfl dJx4a65c_grow_92f84_20 ?_
  refine v_iload_n C (lv_at hl 1 rfl) rfl dJx4a65c_grow_92f84_21 ?_
  refine v_iload_n C (lv_at hl 2 rfl) rfl dJx4a65c_grow_92f84_22 ?_
  refine v_isub C dJx4a65c_grow_92f84_23 ?_
  refine v_iload_n C (lv_at hl 2 rfl) rfl dJx4a65c_grow_92f84_24 ?_
  refine v_iconst C 1 (by decide) dJx4a65c_grow_92f84_25 ?_
  refine v_ishr C dJx4a65c_grow_92f84_26 ?_
  obtain ⟨v27, e27, hr⟩ := ob hr
  refine v_callS C (k_J8_newLength_cabcc e27) cw_J8_newLength_cabcc w_398 w_399 (show (parseMethodDescriptor (yJ8_newLength_cabcc).desc).map (fun d => d.parameters.length) = some 3 by decide +kernel) ⟨by decide, by decide⟩ (rest := []) (stk2 := [.int v27]) rfl rfl (Nat.le_of_ble_eq_true rfl) hl dJx4a65c_grow_92f84_27 ?_
  refine v_istore_n C (i := 3) (lv' := [(3, .int v27), (0, va_rf (some x0)), (1, .int x1), (2, .int x2)]) hl rfl (by decide) rfl dJx4a65c_grow_92f84_30 (fun ls hl => ?_)
  refine v_aload_n C (lv_at hl 1 rfl) rfl dJx4a65c_grow_92f84_31 ?_
  refine v_aload_n C (lv_at hl 1 rfl) rfl dJx4a65c_grow_92f84_32 ?_
  obtain ⟨v33, e33, hr⟩ := ob hr
  refine v_getR C fl_RJx4a65c_9 rfl e33 dJx4a65c_grow_92f84_33 ?_
  refine v_iload_n C (lv_at hl 0 rfl) rfl dJx4a65c_grow_92f84_36 ?_
  obtain ⟨⟨v37, S37⟩, e37, hr⟩ := ob hr
  (try dsimp only at hr)
  refine v_callS C (k_J7_copyOf_1904c e37) cw_J7_copyOf_1904c w_406 w_407 (show (parseMethodDescriptor (yJ7_copyOf_1904c).desc).map (fun d => d.parameters.length) = some 2 by decide +kernel) ⟨by decide, by decide⟩ (rest := [va_rf (some x0)]) (stk2 := [va_rf v37, va_rf (some x0)]) rfl rfl (by simp [rf_cat, cat_i, cat_l]) hl dJx4a65c_grow_92f84_37 ?_
  refine v_dup_x1 C (rf_cat _) (rf_cat _) dJx4a65c_grow_92f84_40 ?_
  obtain ⟨S41, e41, hr⟩ := ob hr
  refine v_putR C fl_RJx4a65c_9 (Or.inl rfl) rfl e41 dJx4a65c_grow_92f84_41 ?_
  obtain ⟨rfl, rfl⟩ := Prod.mk.inj (os hr)
  exact v_aret C (Or.inr ⟨_, rfl⟩) dJx4a65c_grow_92f84_44
theorem k_Jx4a65c_grow_92f84 {l : Launch} {G : Ge} {S S' : St} {x0 : Nat} {x1 : Int32} {rr : Option Nat} (hr : f_Jx4a65c_grow_92f84 S x0 x1 = some (rr, S')) : Ct l G yJx4a65c_grow_92f84 cJx4a65c_grow_92f84 4 (Option.some (Jvm.ClassFile.FieldType.array (Jvm.ClassFile.FieldType.object "java/lang/Object"))) S [va_rf (some x0), .int x1] (some (va_rf rr)) S' 3 80 := by
  refine ct_of (by decide +kernel) (Nat.le_of_ble_eq_true rfl) ?_
  intro p e s m args below meth c C ls hl
  have hl : lv_has ls 4 [(0, va_rf (some x0)), (1, .int x1)] := hl
  unfold f_Jx4a65c_grow_92f84 at hr
  refine v_aload_n C (lv_at hl 0 rfl) rfl dJx4a65c_grow_92f84_0 ?_
  obtain ⟨v1, e1, hr⟩ := ob hr
  refine v_getR C fl_RJx4a65c_9 rfl e1 dJx4a65c_grow_92f84_1 ?_
  obtain ⟨v4, e4, hr⟩ := ob hr
  refine v_alen C e4 dJx4a65c_grow_92f84_4 ?_
  refine v_istore_n C (i := 2) (lv' := [(2, .int v4), (0, va_rf (some x0)), (1, .int x1)]) hl rfl (by decide) rfl dJx4a65c_grow_92f84_5 (fun ls hl => ?_)
  refine v_iload_n C (lv_at hl 0 rfl) rfl dJx4a65c_grow_92f84_6 ?_
  refine v_if_gt C 20 (by decide) dJx4a65c_grow_92f84_7 (fun c7 => ?_) (fun c7 => ?_)
  · rw [if_pos c7] at hr
    exact b_Jx4a65c_grow_92f84_20 C hr _ (lv_sub hl [1, 2, 0] rfl)
  · rw [if_neg c7] at hr
    refine v_aload_n C (lv_at hl 1 rfl) rfl dJx4a65c_grow_92f84_10 ?_
    obtain ⟨v11, e11, hr⟩ := ob hr
    refine v_getR C fl_RJx4a65c_9 rfl e11 dJx4a65c_grow_92f84_11 ?_
    refine v_getE C w_148 dJx4a65c_grow_92f84_14 ?_
    refine v_acmp_eq C 45 (by decide) dJx4a65c_grow_92f84_17 (fun c17 => ?_) (fun c17 => ?_)
    · rw [if_pos c17] at hr
      refine v_aload_n C (lv_at hl 1 rfl) rfl dJx4a65c_grow_92f84_45 ?_
      refine v_bipush C 10 (by decide) dJx4a65c_grow_92f84_46 ?_
      refine v_iload_n C (lv_at hl 2 rfl) rfl dJx4a65c_grow_92f84_48 ?_
      obtain ⟨v49, e49, hr⟩ := ob hr
      refine v_callS C (k_J9_max_7cf53 e49) cw_J9_max_7cf53 w_439 w_169 (show (parseMethodDescriptor (yJ9_max_7cf53).desc).map (fun d => d.parameters.length) = some 2 by decide +kernel) ⟨by decide, by decide⟩ (rest := [va_rf (some x0)]) (stk2 := [.int v49, va_rf (some x0)]) rfl rfl (by simp [rf_cat, cat_i, cat_l]) hl dJx4a65c_grow_92f84_49 ?_
      obtain ⟨⟨a52, S52⟩, e52, hr⟩ := ob hr
      (try dsimp only at hr)
      refine v_newR C (nm := "java/lang/Object") e52 (by decide) w_440 dJx4a65c_grow_92f84_52 ?_
      refine v_dup_x1 C (rf_cat _) (rf_cat _) dJx4a65c_grow_92f84_55 ?_
      obtain ⟨S56, e56, hr⟩ := ob hr
      refine v_putR C fl_RJx4a65c_9 (Or.inl rfl) rfl e56 dJx4a65c_grow_92f84_56 ?_
      obtain ⟨rfl, rfl⟩ := Prod.mk.inj (os hr)
      exact v_aret C (Or.inr ⟨_, rfl⟩) dJx4a65c_grow_92f84_59
    · rw [if_neg c17] at hr
      exact b_Jx4a65c_grow_92f84_20 C hr _ (lv_sub hl [1, 2, 0] rfl)
-- Jx4a65c_grow_d5877
def f_Jx4a65c_grow_d5877 (S : St) (x0 : Nat) : Option (Option Nat × St) :=
    (getI S (some x0) 0 2).bind fun v2 =>
    (rcv S (some x0) 0).bind fun b7 =>
    (f_Jx4a65c_grow_92f84 S b7 (v2 + 1)).bind fun (v7, S7) =>
    some (v7, S7)
theorem k_Jx4a65c_grow_d5877 {l : Launch} {G : Ge} {S S' : St} {x0 : Nat} {rr : Option Nat} (hr : f_Jx4a65c_grow_d5877 S x0 = some (rr, S')) : Ct l G yJx4a65c_grow_d5877 cJx4a65c_grow_d5877 1 (Option.some (Jvm.ClassFile.FieldType.array (Jvm.ClassFile.FieldType.object "java/lang/Object"))) S [va_rf (some x0)] (some (va_rf rr)) S' 4 103 := by
  refine ct_of (by decide +kernel) (Nat.le_of_ble_eq_true rfl) ?_
  intro p e s m args below meth c C ls hl
  have hl : lv_has ls 1 [(0, va_rf (some x0))] := hl
  unfold f_Jx4a65c_grow_d5877 at hr
  refine v_aload_n C (lv_at hl 0 rfl) rfl dJx4a65c_grow_d5877_0 ?_
  refine v_aload_n C (lv_at hl 0 rfl) rfl dJx4a65c_grow_d5877_1 ?_
  obtain ⟨v2, e2, hr⟩ := ob hr
  refine v_getI C fl_RJx4a65c_48 rfl e2 dJx4a65c_grow_d5877_2 ?_
  refine v_iconst C 1 (by decide) dJx4a65c_grow_d5877_5 ?_
  refine v_iadd C dJx4a65c_grow_d5877_6 ?_
  obtain ⟨b7, f7, hr⟩ := ob hr
  obtain ⟨g7, h7⟩ := rcv_n f7
  obtain ⟨⟨v7, S7⟩, e7, hr⟩ := ob hr
  (try dsimp only at hr)
  refine v_callV C (b := b7) h7 (by decide) rfl rfl (k_Jx4a65c_grow_92f84 e7) cw_Jx4a65c_grow_92f84 w_394 w_396 w_2 (show (parseMethodDescriptor (yJx4a65c_grow_92f84).desc).map (fun d => d.parameters.length) = some 1 by decide +kernel) ⟨by decide, by decide⟩ (rest := []) (stk2 := [va_rf v7]) (by rw [g7]; rfl) rfl (Nat.le_of_ble_eq_true rfl) hl dJx4a65c_grow_d5877_7 ?_
  obtain ⟨rfl, rfl⟩ := Prod.mk.inj (os hr)
  exact v_aret C (Or.inr ⟨_, rfl⟩) dJx4a65c_grow_d5877_10
-- Jx4a65c_add_72be8
def f_Jx4a65c_add_72be8_11 (S : St) (x0 : Nat) (x1 : Option Nat) (x2 : Option Nat) (x3 : Int32) : Option St :=
    (stR S x2 20 x3 x1).bind fun S14 =>
    (putI S14 (some x0) 0 2 (x3 + 1)).bind fun S19 =>
    some S19
def f_Jx4a65c_add_72be8 (S : St) (x0 : Nat) (x1 : Option Nat) (x2 : Option Nat) (x3 : Int32) : Option St :=
    (alen S x2).bind fun v2 =>
    (if x3 = v2 then
    (rcv S (some x0) 0).bind fun b7 =>
    (f_Jx4a65c_grow_d5877 S b7).bind fun (v7, S7) =>
    f_Jx4a65c_add_72be8_11 S7 x0 x1 v7 x3
    else
    f_Jx4a65c_add_72be8_11 S x0 x1 x2 x3)
theorem b_Jx4a65c_add_72be8_11  {S0 S S' : St} {x0 : Nat} {x1 : Option Nat} {x2 : Option Nat} {x3 : Int32} (C : Cx p s m args meth c G S0 yJx4a65c_add_72be8 cJx4a65c_add_72be8 4 (Option.none : Option Jvm.ClassFile.FieldType)) (hr : f_Jx4a65c_add_72be8_11 S x0 x1 x2 x3 = some S') : ∀ ls : Array Slot, lv_has ls 4 [(0, va_rf (some x0)), (1, va_rf x1), (2, va_rf x2), (3, .int x3)] → V p l e (rmo 5 123 S0) s m args below meth c G S0 S (QM below args s G S0 S' none) (F0 m 11 ls []) := by
  intro ls hl
  unfold f_Jx4a65c_add_72be8_11 at hr
  refine v_aload_n C (lv_at hl 2 rfl) rfl dJx4a65c_add_72be8_11 ?_
  refine v_iload_n C (lv_at hl 3 rfl) rfl dJx4a65c_add_72be8_12 ?_
  refine v_aload_n C (lv_at hl 1 rfl) rfl dJx4a65c_add_72be8_13 ?_
  obtain ⟨S14, e14, hr⟩ := ob hr
  refine v_stR C (t0 := 6) (nm := "java/lang/Object") e14 (by decide) dJx4a65c_add_72be8_14 ?_
  refine v_aload_n C (lv_at hl 0 rfl) rfl dJx4a65c_add_72be8_15 ?_
  refine v_iload_n C (lv_at hl 3 rfl) rfl dJx4a65c_add_72be8_16 ?_
  refine v_iconst C 1 (by decide) dJx4a65c_add_72be8_17 ?_
  refine v_iadd C dJx4a65c_add_72be8_18 ?_
  obtain ⟨S19, e19, hr⟩ := ob hr
  refine v_putI C fl_RJx4a65c_48 (Or.inl rfl) rfl e19 dJx4a65c_add_72be8_19 ?_
  obtain rfl := os hr
  exact v_vret C dJx4a65c_add_72be8_22
theorem k_Jx4a65c_add_72be8 {l : Launch} {G : Ge} {S S' : St} {x0 : Nat} {x1 : Option Nat} {x2 : Option Nat} {x3 : Int32} (hr : f_Jx4a65c_add_72be8 S x0 x1 x2 x3 = some S') : Ct l G yJx4a65c_add_72be8 cJx4a65c_add_72be8 4 (Option.none : Option Jvm.ClassFile.FieldType) S [va_rf (some x0), va_rf x1, va_rf x2, .int x3] none S' 5 123 := by
  refine ct_of (by decide +kernel) (by cases x1 <;> cases x2 <;> exact Nat.le_of_ble_eq_true rfl) ?_
  intro p e s m args below meth c C ls hl
  have hl : lv_has ls 4 [(0, va_rf (some x0)), (1, va_rf x1), (2, va_rf x2), (3, .int x3)] := by clear hr; cases x1 <;> cases x2 <;> exact hl
  unfold f_Jx4a65c_add_72be8 at hr
  refine v_iload_n C (lv_at hl 3 rfl) rfl dJx4a65c_add_72be8_0 ?_
  refine v_aload_n C (lv_at hl 2 rfl) rfl dJx4a65c_add_72be8_1 ?_
  obtain ⟨v2, e2, hr⟩ := ob hr
  refine v_alen C e2 dJx4a65c_add_72be8_2 ?_
  refine v_icmp_ne C 11 (by decide) dJx4a65c_add_72be8_3 (fun c3 => ?_) (fun c3 => ?_)
  · rw [if_neg c3] at hr
    exact b_Jx4a65c_add_72be8_11 C hr _ (lv_sub hl [0, 1, 2, 3] rfl)
  · rw [if_pos c3] at hr
    refine v_aload_n C (lv_at hl 0 rfl) rfl dJx4a65c_add_72be8_6 ?_
    obtain ⟨b7, f7, hr⟩ := ob hr
    obtain ⟨g7, h7⟩ := rcv_n f7
    obtain ⟨⟨v7, S7⟩, e7, hr⟩ := ob hr
    (try dsimp only at hr)
    refine v_callV C (b := b7) h7 (by decide) rfl rfl (k_Jx4a65c_grow_d5877 e7) cw_Jx4a65c_grow_d5877 w_390 w_392 w_1 (show (parseMethodDescriptor (yJx4a65c_grow_d5877).desc).map (fun d => d.parameters.length) = some 0 by decide +kernel) ⟨by decide, by decide⟩ (rest := []) (stk2 := [va_rf v7]) (by rw [g7]; rfl) rfl (Nat.le_of_ble_eq_true rfl) hl dJx4a65c_add_72be8_7 ?_
    refine v_astore_n C (i := 2) (lv' := [(2, va_rf v7), (0, va_rf (some x0)), (1, va_rf x1), (3, .int x3)]) hl rfl (by decide) (by simp [rf_n2]) dJx4a65c_add_72be8_10 (fun ls hl => ?_)
    exact b_Jx4a65c_add_72be8_11 C hr _ (lv_sub hl [1, 2, 0, 3] rfl)
-- Jx4a65c_rangeCheckForAdd_d00df
def f_Jx4a65c_rangeCheckForAdd_d00df_12 (S : St)  : Option Unit :=
    none
def f_Jx4a65c_rangeCheckForAdd_d00df (S : St) (x0 : Nat) (x1 : Int32) : Option Unit :=
    (getI S (some x0) 0 2).bind fun v2 =>
    (if v2 < x1 then
    f_Jx4a65c_rangeCheckForAdd_d00df_12 S
    else
    (if (0 : Int32) ≤ x1 then
    some ()
    else
    f_Jx4a65c_rangeCheckForAdd_d00df_12 S))
theorem b_Jx4a65c_rangeCheckForAdd_d00df_12  {S : St}  (C : Cx p s m args meth c G S yJx4a65c_rangeCheckForAdd_d00df cJx4a65c_rangeCheckForAdd_d00df 2 (Option.none : Option Jvm.ClassFile.FieldType)) (hr : f_Jx4a65c_rangeCheckForAdd_d00df_12 S = some ()) : ∀ ls : Array Slot, lv_has ls 2 [] → V p l e (rmo 0 0 S) s m args below meth c G S S (QM below args s G S S none) (F0 m 12 ls []) := by
  intro ls hl
  unfold f_Jx4a65c_rangeCheckForAdd_d00df_12 at hr
  cases hr
theorem k_Jx4a65c_rangeCheckForAdd_d00df {l : Launch} {G : Ge} {S : St} {x0 : Nat} {x1 : Int32} (hr : f_Jx4a65c_rangeCheckForAdd_d00df S x0 x1 = some ()) : Ct l G yJx4a65c_rangeCheckForAdd_d00df cJx4a65c_rangeCheckForAdd_d00df 2 (Option.none : Option Jvm.ClassFile.FieldType) S [va_rf (some x0), .int x1] none S 0 0 := by
  refine ct_of (by decide +kernel) (Nat.le_of_ble_eq_true rfl) ?_
  intro p e s m args below meth c C ls hl
  have hl : lv_has ls 2 [(0, va_rf (some x0)), (1, .int x1)] := hl
  unfold f_Jx4a65c_rangeCheckForAdd_d00df at hr
  refine v_iload_n C (lv_at hl 1 rfl) rfl dJx4a65c_rangeCheckForAdd_d00df_0 ?_
  refine v_aload_n C (lv_at hl 0 rfl) rfl dJx4a65c_rangeCheckForAdd_d00df_1 ?_
  obtain ⟨v2, e2, hr⟩ := ob hr
  refine v_getI C fl_RJx4a65c_48 rfl e2 dJx4a65c_rangeCheckForAdd_d00df_2 ?_
  refine v_icmp_gt C 12 (by decide) dJx4a65c_rangeCheckForAdd_d00df_5 (fun c5 => ?_) (fun c5 => ?_)
  · rw [if_pos c5] at hr
    exact b_Jx4a65c_rangeCheckForAdd_d00df_12 C hr _ (lv_sub hl [] rfl)
  · rw [if_neg c5] at hr
    refine v_iload_n C (lv_at hl 1 rfl) rfl dJx4a65c_rangeCheckForAdd_d00df_8 ?_
    refine v_if_ge C 25 (by decide) dJx4a65c_rangeCheckForAdd_d00df_9 (fun c9 => ?_) (fun c9 => ?_)
    · rw [if_pos c9] at hr
      exact v_vret C dJx4a65c_rangeCheckForAdd_d00df_25
    · rw [if_neg c9] at hr
      exact b_Jx4a65c_rangeCheckForAdd_d00df_12 C hr _ (lv_sub hl [] rfl)
-- Jx4a65c_add_7a177
def f_Jx4a65c_add_7a177_38 (S : St) (x0 : Nat) (x1 : Int32) (x2 : Option Nat) (x3 : Int32) (x4 : Option Nat) : Option St :=
    (acopy S x4 x1 x4 (x1 + 1) (x3 - x1)).bind fun S49 =>
    (stR S49 x4 20 x1 x2).bind fun S56 =>
    (putI S56 (some x0) 0 2 (x3 + 1)).bind fun S61 =>
    some S61
def f_Jx4a65c_add_7a177 (S : St) (x0 : Nat) (x1 : Int32) (x2 : Option Nat) : Option St :=
    (rcv S (some x0) 0).bind fun b2 =>
    (f_Jx4a65c_rangeCheckForAdd_d00df S b2 x1).bind fun _ =>
    (getI S (some x0) 0 0).bind fun v7 =>
    (putI S (some x0) 0 0 (v7 + 1)).bind fun S12 =>
    (getI S12 (some x0) 0 2).bind fun v16 =>
    (getR S12 (some x0) 0 1).bind fun v22 =>
    (alen S12 v22).bind fun v28 =>
    (if v16 = v28 then
    (rcv S12 (some x0) 0).bind fun b33 =>
    (f_Jx4a65c_grow_d5877 S12 b33).bind fun (v33, S33) =>
    f_Jx4a65c_add_7a177_38 S33 x0 x1 x2 v16 v33
    else
    f_Jx4a65c_add_7a177_38 S12 x0 x1 x2 v16 v22)
theorem b_Jx4a65c_add_7a177_38  {S0 S S' : St} {x0 : Nat} {x1 : Int32} {x2 : Option Nat} {x3 : Int32} {x4 : Option Nat} (C : Cx p s m args meth c G S0 yJx4a65c_add_7a177 cJx4a65c_add_7a177 5 (Option.none : Option Jvm.ClassFile.FieldType)) (hr : f_Jx4a65c_add_7a177_38 S x0 x1 x2 x3 x4 = some S') : ∀ ls : Array Slot, lv_has ls 5 [(0, va_rf (some x0)), (1, .int x1), (2, va_rf x2), (3, .int x3), (4, va_rf x4)] → V p l e (rmo 5 123 S0) s m args below meth c G S0 S (QM below args s G S0 S' none) (F0 m 38 ls []) := by
  intro ls hl
  unfold f_Jx4a65c_add_7a177_38 at hr
  refine v_aload C (lv_at hl 4 rfl) dJx4a65c_add_7a177_38 ?_
  refine v_iload_n C (lv_at hl 1 rfl) rfl dJx4a65c_add_7a177_40 ?_
  refine v_aload C (lv_at hl 4 rfl) dJx4a65c_add_7a177_41 ?_
  refine v_iload_n C (lv_at hl 1 rfl) rfl dJx4a65c_add_7a177_43 ?_
  refine v_iconst C 1 (by decide) dJx4a65c_add_7a177_44 ?_
  refine v_iadd C dJx4a65c_add_7a177_45 ?_
  refine v_iload_n C (lv_at hl 3 rfl) rfl dJx4a65c_add_7a177_46 ?_
  refine v_iload_n C (lv_at hl 1 rfl) rfl dJx4a65c_add_7a177_47 ?_
  refine v_isub C dJx4a65c_add_7a177_48 ?_
  obtain ⟨S49, e49, hr⟩ := ob hr
  refine v_acopy C e49 w_663 w_438 w_437 w_115 ⟨by decide, by decide⟩ (Nat.le_of_ble_eq_true rfl) hl dJx4a65c_add_7a177_49 ?_
  refine v_aload C (lv_at hl 4 rfl) dJx4a65c_add_7a177_52 ?_
  refine v_iload_n C (lv_at hl 1 rfl) rfl dJx4a65c_add_7a177_54 ?_
  refine v_aload_n C (lv_at hl 2 rfl) rfl dJx4a65c_add_7a177_55 ?_
  obtain ⟨S56, e56, hr⟩ := ob hr
  refine v_stR C (t0 := 6) (nm := "java/lang/Object") e56 (by decide) dJx4a65c_add_7a177_56 ?_
  refine v_aload_n C (lv_at hl 0 rfl) rfl dJx4a65c_add_7a177_57 ?_
  refine v_iload_n C (lv_at hl 3 rfl) rfl dJx4a65c_add_7a177_58 ?_
  refine v_iconst C 1 (by decide) dJx4a65c_add_7a177_59 ?_
  refine v_iadd C dJx4a65c_add_7a177_60 ?_
  obtain ⟨S61, e61, hr⟩ := ob hr
  refine v_putI C fl_RJx4a65c_48 (Or.inl rfl) rfl e61 dJx4a65c_add_7a177_61 ?_
  obtain rfl := os hr
  exact v_vret C dJx4a65c_add_7a177_64
theorem k_Jx4a65c_add_7a177 {l : Launch} {G : Ge} {S S' : St} {x0 : Nat} {x1 : Int32} {x2 : Option Nat} (hr : f_Jx4a65c_add_7a177 S x0 x1 x2 = some S') : Ct l G yJx4a65c_add_7a177 cJx4a65c_add_7a177 5 (Option.none : Option Jvm.ClassFile.FieldType) S [va_rf (some x0), .int x1, va_rf x2] none S' 5 123 := by
  refine ct_of (by decide +kernel) (by cases x2 <;> exact Nat.le_of_ble_eq_true rfl) ?_
  intro p e s m args below meth c C ls hl
  have hl : lv_has ls 5 [(0, va_rf (some x0)), (1, .int x1), (2, va_rf x2)] := by clear hr; cases x2 <;> exact hl
  unfold f_Jx4a65c_add_7a177 at hr
  refine v_aload_n C (lv_at hl 0 rfl) rfl dJx4a65c_add_7a177_0 ?_
  refine v_iload_n C (lv_at hl 1 rfl) rfl dJx4a65c_add_7a177_1 ?_
  obtain ⟨b2, f2, hr⟩ := ob hr
  obtain ⟨g2, h2⟩ := rcv_n f2
  obtain ⟨_, e2, hr⟩ := ob hr
  refine v_callV C (b := b2) h2 (by decide) rfl rfl (k_Jx4a65c_rangeCheckForAdd_d00df e2) cw_Jx4a65c_rangeCheckForAdd_d00df w_659 w_661 w_10 (show (parseMethodDescriptor (yJx4a65c_rangeCheckForAdd_d00df).desc).map (fun d => d.parameters.length) = some 1 by decide +kernel) ⟨by decide, by decide⟩ (rest := []) (stk2 := []) (by rw [g2]; rfl) rfl (Nat.le_of_ble_eq_true rfl) hl dJx4a65c_add_7a177_2 ?_
  refine v_aload_n C (lv_at hl 0 rfl) rfl dJx4a65c_add_7a177_5 ?_
  refine v_dup C (rf_cat _) dJx4a65c_add_7a177_6 ?_
  obtain ⟨v7, e7, hr⟩ := ob hr
  refine v_getI C fl_RJx4a65c_63 rfl e7 dJx4a65c_add_7a177_7 ?_
  refine v_iconst C 1 (by decide) dJx4a65c_add_7a177_10 ?_
  refine v_iadd C dJx4a65c_add_7a177_11 ?_
  obtain ⟨S12, e12, hr⟩ := ob hr
  refine v_putI C fl_RJx4a65c_63 (Or.inl rfl) rfl e12 dJx4a65c_add_7a177_12 ?_
  refine v_aload_n C (lv_at hl 0 rfl) rfl dJx4a65c_add_7a177_15 ?_
  obtain ⟨v16, e16, hr⟩ := ob hr
  refine v_getI C fl_RJx4a65c_48 rfl e16 dJx4a65c_add_7a177_16 ?_
  refine v_dup C rfl dJx4a65c_add_7a177_19 ?_
  refine v_istore_n C (i := 3) (lv' := [(3, .int v16), (0, va_rf (some x0)), (1, .int x1), (2, va_rf x2)]) hl rfl (by decide) (by simp [rf_n2]) dJx4a65c_add_7a177_20 (fun ls hl => ?_)
  refine v_aload_n C (lv_at hl 1 rfl) rfl dJx4a65c_add_7a177_21 ?_
  obtain ⟨v22, e22, hr⟩ := ob hr
  refine v_getR C fl_RJx4a65c_9 rfl e22 dJx4a65c_add_7a177_22 ?_
  refine v_dup C (rf_cat _) dJx4a65c_add_7a177_25 ?_
  refine v_astore C (i := 4) (lv' := [(4, va_rf v22), (3, .int v16), (0, va_rf (some x0)), (1, .int x1), (2, va_rf x2)]) hl (by decide) rfl dJx4a65c_add_7a177_26 (fun ls hl => ?_)
  obtain ⟨v28, e28, hr⟩ := ob hr
  refine v_alen C e28 dJx4a65c_add_7a177_28 ?_
  refine v_icmp_ne C 38 (by decide) dJx4a65c_add_7a177_29 (fun c29 => ?_) (fun c29 => ?_)
  · rw [if_neg c29] at hr
    exact b_Jx4a65c_add_7a177_38 C hr _ (lv_sub hl [2, 3, 4, 1, 0] rfl)
  · rw [if_pos c29] at hr
    refine v_aload_n C (lv_at hl 2 rfl) rfl dJx4a65c_add_7a177_32 ?_
    obtain ⟨b33, f33, hr⟩ := ob hr
    obtain ⟨g33, h33⟩ := rcv_n f33
    obtain ⟨⟨v33, S33⟩, e33, hr⟩ := ob hr
    (try dsimp only at hr)
    refine v_callV C (b := b33) h33 (by decide) rfl rfl (k_Jx4a65c_grow_d5877 e33) cw_Jx4a65c_grow_d5877 w_390 w_392 w_1 (show (parseMethodDescriptor (yJx4a65c_grow_d5877).desc).map (fun d => d.parameters.length) = some 0 by decide +kernel) ⟨by decide, by decide⟩ (rest := []) (stk2 := [va_rf v33]) (by rw [g33]; rfl) rfl (Nat.le_of_ble_eq_true rfl) hl dJx4a65c_add_7a177_33 ?_
    refine v_astore C (i := 4) (lv' := [(4, va_rf v33), (3, .int v16), (0, va_rf (some x0)), (1, .int x1), (2, va_rf x2)]) hl (by decide) rfl dJx4a65c_add_7a177_36 (fun ls hl => ?_)
    exact b_Jx4a65c_add_7a177_38 C hr _ (lv_sub hl [2, 3, 4, 1, 0] rfl)
-- Jx4a65c_add_9ea2d
def f_Jx4a65c_add_9ea2d (S : St) (x0 : Nat) (x1 : Option Nat) : Option (Int32 × St) :=
    (getI S (some x0) 0 0).bind fun v2 =>
    (putI S (some x0) 0 0 (v2 + 1)).bind fun S7 =>
    (getR S7 (some x0) 0 1).bind fun v13 =>
    (getI S7 (some x0) 0 2).bind fun v17 =>
    (rcv S7 (some x0) 0).bind fun b20 =>
    (f_Jx4a65c_add_72be8 S7 b20 x1 v13 v17).bind fun S20 =>
    some (1, S20)
theorem k_Jx4a65c_add_9ea2d {l : Launch} {G : Ge} {S S' : St} {x0 : Nat} {x1 : Option Nat} {rr : Int32} (hr : f_Jx4a65c_add_9ea2d S x0 x1 = some (rr, S')) : Ct l G yJx4a65c_add_9ea2d cJx4a65c_add_9ea2d 2 (Option.some Jvm.ClassFile.FieldType.boolean) S [va_rf (some x0), va_rf x1] (some (.int rr)) S' 6 146 := by
  refine ct_of (by decide +kernel) (by cases x1 <;> exact Nat.le_of_ble_eq_true rfl) ?_
  intro p e s m args below meth c C ls hl
  have hl : lv_has ls 2 [(0, va_rf (some x0)), (1, va_rf x1)] := by clear hr; cases x1 <;> exact hl
  unfold f_Jx4a65c_add_9ea2d at hr
  refine v_aload_n C (lv_at hl 0 rfl) rfl dJx4a65c_add_9ea2d_0 ?_
  refine v_dup C (rf_cat _) dJx4a65c_add_9ea2d_1 ?_
  obtain ⟨v2, e2, hr⟩ := ob hr
  refine v_getI C fl_RJx4a65c_63 rfl e2 dJx4a65c_add_9ea2d_2 ?_
  refine v_iconst C 1 (by decide) dJx4a65c_add_9ea2d_5 ?_
  refine v_iadd C dJx4a65c_add_9ea2d_6 ?_
  obtain ⟨S7, e7, hr⟩ := ob hr
  refine v_putI C fl_RJx4a65c_63 (Or.inl rfl) rfl e7 dJx4a65c_add_9ea2d_7 ?_
  refine v_aload_n C (lv_at hl 0 rfl) rfl dJx4a65c_add_9ea2d_10 ?_
  refine v_aload_n C (lv_at hl 1 rfl) rfl dJx4a65c_add_9ea2d_11 ?_
  refine v_aload_n C (lv_at hl 0 rfl) rfl dJx4a65c_add_9ea2d_12 ?_
  obtain ⟨v13, e13, hr⟩ := ob hr
  refine v_getR C fl_RJx4a65c_9 rfl e13 dJx4a65c_add_9ea2d_13 ?_
  refine v_aload_n C (lv_at hl 0 rfl) rfl dJx4a65c_add_9ea2d_16 ?_
  obtain ⟨v17, e17, hr⟩ := ob hr
  refine v_getI C fl_RJx4a65c_48 rfl e17 dJx4a65c_add_9ea2d_17 ?_
  obtain ⟨b20, f20, hr⟩ := ob hr
  obtain ⟨g20, h20⟩ := rcv_n f20
  obtain ⟨S20, e20, hr⟩ := ob hr
  refine v_callV C (b := b20) h20 (by decide) rfl rfl (k_Jx4a65c_add_72be8 e20) cw_Jx4a65c_add_72be8 w_386 w_388 w_0 (show (parseMethodDescriptor (yJx4a65c_add_72be8).desc).map (fun d => d.parameters.length) = some 3 by decide +kernel) ⟨by decide, by decide⟩ (rest := []) (stk2 := []) (by rw [g20]; rfl) rfl (Nat.le_of_ble_eq_true rfl) hl dJx4a65c_add_9ea2d_20 ?_
  refine v_iconst C 1 (by decide) dJx4a65c_add_9ea2d_23 ?_
  obtain ⟨rfl, rfl⟩ := Prod.mk.inj (os hr)
  exact v_zret C rfl dJx4a65c_add_9ea2d_24
-- Jx4a65c_elementData_915e3
def f_Jx4a65c_elementData_915e3 (S : St) (x0 : Nat) (x1 : Int32) : Option (Option Nat) :=
    (getR S (some x0) 0 1).bind fun v1 =>
    (ldR S v1 20 x1).bind fun v5 =>
    some v5
theorem k_Jx4a65c_elementData_915e3 {l : Launch} {G : Ge} {S : St} {x0 : Nat} {x1 : Int32} {rr : Option Nat} (hr : f_Jx4a65c_elementData_915e3 S x0 x1 = some rr) : Ct l G yJx4a65c_elementData_915e3 cJx4a65c_elementData_915e3 2 (Option.some (Jvm.ClassFile.FieldType.object "java/lang/Object")) S [va_rf (some x0), .int x1] (some (va_rf rr)) S 0 0 := by
  refine ct_of (by decide +kernel) (Nat.le_of_ble_eq_true rfl) ?_
  intro p e s m args below meth c C ls hl
  have hl : lv_has ls 2 [(0, va_rf (some x0)), (1, .int x1)] := hl
  unfold f_Jx4a65c_elementData_915e3 at hr
  refine v_aload_n C (lv_at hl 0 rfl) rfl dJx4a65c_elementData_915e3_0 ?_
  obtain ⟨v1, e1, hr⟩ := ob hr
  refine v_getR C fl_RJx4a65c_9 rfl e1 dJx4a65c_elementData_915e3_1 ?_
  refine v_iload_n C (lv_at hl 1 rfl) rfl dJx4a65c_elementData_915e3_4 ?_
  obtain ⟨v5, e5, hr⟩ := ob hr
  refine v_ldR C (t0 := 6) (nm := "java/lang/Object") e5 (by decide) rfl (fun _ => rfl) dJx4a65c_elementData_915e3_5 ?_
  obtain rfl := os hr
  exact v_aret C (Or.inl ⟨_, rfl⟩) dJx4a65c_elementData_915e3_6
-- Jx4a65c_get_915e3
def f_Jx4a65c_get_915e3 (S : St) (x0 : Nat) (x1 : Int32) : Option (Option Nat) :=
    (getI S (some x0) 0 2).bind fun v2 =>
    (f_J15_checkIndex_7cf53 S x1 v2).bind fun v5 =>
    (rcv S (some x0) 0).bind fun b11 =>
    (f_Jx4a65c_elementData_915e3 S b11 x1).bind fun v11 =>
    some v11
theorem k_Jx4a65c_get_915e3 {l : Launch} {G : Ge} {S : St} {x0 : Nat} {x1 : Int32} {rr : Option Nat} (hr : f_Jx4a65c_get_915e3 S x0 x1 = some rr) : Ct l G yJx4a65c_get_915e3 cJx4a65c_get_915e3 2 (Option.some (Jvm.ClassFile.FieldType.object "java/lang/Object")) S [va_rf (some x0), .int x1] (some (va_rf rr)) S 2 43 := by
  refine ct_of (by decide +kernel) (Nat.le_of_ble_eq_true rfl) ?_
  intro p e s m args below meth c C ls hl
  have hl : lv_has ls 2 [(0, va_rf (some x0)), (1, .int x1)] := hl
  unfold f_Jx4a65c_get_915e3 at hr
  refine v_iload_n C (lv_at hl 1 rfl) rfl dJx4a65c_get_915e3_0 ?_
  refine v_aload_n C (lv_at hl 0 rfl) rfl dJx4a65c_get_915e3_1 ?_
  obtain ⟨v2, e2, hr⟩ := ob hr
  refine v_getI C fl_RJx4a65c_48 rfl e2 dJx4a65c_get_915e3_2 ?_
  obtain ⟨v5, e5, hr⟩ := ob hr
  refine v_callS C (k_J15_checkIndex_7cf53 e5) cw_J15_checkIndex_7cf53 w_453 w_454 (show (parseMethodDescriptor (yJ15_checkIndex_7cf53).desc).map (fun d => d.parameters.length) = some 2 by decide +kernel) ⟨by decide, by decide⟩ (rest := []) (stk2 := [.int v5]) rfl rfl (Nat.le_of_ble_eq_true rfl) hl dJx4a65c_get_915e3_5 ?_
  refine v_pop C rfl dJx4a65c_get_915e3_8 ?_
  refine v_aload_n C (lv_at hl 0 rfl) rfl dJx4a65c_get_915e3_9 ?_
  refine v_iload_n C (lv_at hl 1 rfl) rfl dJx4a65c_get_915e3_10 ?_
  obtain ⟨b11, f11, hr⟩ := ob hr
  obtain ⟨g11, h11⟩ := rcv_n f11
  obtain ⟨v11, e11, hr⟩ := ob hr
  refine v_callV C (b := b11) h11 (by decide) rfl rfl (k_Jx4a65c_elementData_915e3 e11) cw_Jx4a65c_elementData_915e3 w_459 w_460 w_461 (show (parseMethodDescriptor (yJx4a65c_elementData_915e3).desc).map (fun d => d.parameters.length) = some 1 by decide +kernel) ⟨by decide, by decide⟩ (rest := []) (stk2 := [va_rf v11]) (by rw [g11]; rfl) rfl (Nat.le_of_ble_eq_true rfl) hl dJx4a65c_get_915e3_11 ?_
  obtain rfl := os hr
  exact v_aret C (Or.inl ⟨_, rfl⟩) dJx4a65c_get_915e3_14
-- Jxa1e45_init_da8c8
def f_Jxa1e45_init_da8c8 (S : St) (x0 : Nat) : Option Unit :=
    some ()
theorem k_Jxa1e45_init_da8c8 {l : Launch} {G : Ge} {S : St} {x0 : Nat} (hr : f_Jxa1e45_init_da8c8 S x0 = some ()) : Ct l G yJxa1e45_init_da8c8 cJxa1e45_init_da8c8 1 (Option.none : Option Jvm.ClassFile.FieldType) S [va_rf (some x0)] none S 1 36 := by
  refine ct_of (by decide +kernel) (Nat.le_of_ble_eq_true rfl) ?_
  intro p e s m args below meth c C ls hl
  have hl : lv_has ls 1 [(0, va_rf (some x0))] := hl
  unfold f_Jxa1e45_init_da8c8 at hr
  refine v_aload_n C (lv_at hl 0 rfl) rfl dJxa1e45_init_da8c8_0 ?_
  refine v_objInit C (b := x0) w_147 w_134 w_135 ⟨by decide, by decide⟩ (Nat.le_of_ble_eq_true rfl) hl dJxa1e45_init_da8c8_1 ?_
  exact v_vret C dJxa1e45_init_da8c8_4
end Mth
