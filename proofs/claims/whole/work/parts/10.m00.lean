section Mth
variable {p : Program} {l : Launch} {e : Env} {s : State} {m : MethodId} {args : Array Value} {below : List Frame} {meth : Method} {c : Code} {G : Ge}
-- J3_checkIndex_8e157
def f_J3_checkIndex_8e157_9 (S : St) (x0 : Int32) (x1 : Int32) (x2 : Option Nat) : Option Int32 :=
    none
def f_J3_checkIndex_8e157 (S : St) (x0 : Int32) (x1 : Int32) (x2 : Option Nat) : Option Int32 :=
    (if x0 < 0 then
    f_J3_checkIndex_8e157_9 S x0 x1 x2
    else
    (if x0 < x1 then
    some x0
    else
    f_J3_checkIndex_8e157_9 S x0 x1 x2))
theorem b_J3_checkIndex_8e157_9  {S : St} {rr : Int32} {x0 : Int32} {x1 : Int32} {x2 : Option Nat} (C : Cx p s m args meth c G S yJ3_checkIndex_8e157 cJ3_checkIndex_8e157 3 (Option.some Jvm.ClassFile.FieldType.int)) (hr : f_J3_checkIndex_8e157_9 S x0 x1 x2 = some rr) : ∀ ls : Array Slot, lv_has ls 3 [(0, .int x0), (1, .int x1), (2, va_rf x2)] → V p l e (rmo 0 0 S) s m args below meth c G S S (QM below args s G S S (some (.int rr))) (F0 m 9 ls []) := by
  intro ls hl
  unfold f_J3_checkIndex_8e157_9 at hr
  refine v_aload_n C (lv_at hl 2 rfl) rfl dJ3_checkIndex_8e157_9 ?_
  refine v_iload_n C (lv_at hl 0 rfl) rfl dJ3_checkIndex_8e157_10 ?_
  refine v_iload_n C (lv_at hl 1 rfl) rfl dJ3_checkIndex_8e157_11 ?_
  cases hr
theorem k_J3_checkIndex_8e157 {l : Launch} {G : Ge} {S : St} {x0 : Int32} {x1 : Int32} {x2 : Option Nat} {rr : Int32} (hr : f_J3_checkIndex_8e157 S x0 x1 x2 = some rr) : Ct l G yJ3_checkIndex_8e157 cJ3_checkIndex_8e157 3 (Option.some Jvm.ClassFile.FieldType.int) S [.int x0, .int x1, va_rf x2] (some (.int rr)) S 0 0 := by
  refine ct_of (by decide +kernel) (Nat.le_of_ble_eq_true rfl) ?_
  intro p e s m args below meth c C ls hl
  have hl : lv_has ls 3 [(0, .int x0), (1, .int x1), (2, va_rf x2)] := hl
  unfold f_J3_checkIndex_8e157 at hr
  refine v_iload_n C (lv_at hl 0 rfl) rfl dJ3_checkIndex_8e157_0 ?_
  refine v_if_lt C 9 (by decide) dJ3_checkIndex_8e157_1 (fun c1 => ?_) (fun c1 => ?_)
  · rw [if_pos c1] at hr
    exact b_J3_checkIndex_8e157_9 C hr _ (lv_sub hl [0, 1, 2] rfl)
  · rw [if_neg c1] at hr
    refine v_iload_n C (lv_at hl 0 rfl) rfl dJ3_checkIndex_8e157_4 ?_
    refine v_iload_n C (lv_at hl 1 rfl) rfl dJ3_checkIndex_8e157_5 ?_
    refine v_icmp_lt C 16 (by decide) dJ3_checkIndex_8e157_6 (fun c6 => ?_) (fun c6 => ?_)
    · rw [if_pos c6] at hr
      refine v_iload_n C (lv_at hl 0 rfl) rfl dJ3_checkIndex_8e157_16 ?_
      cases hr
      exact v_iret C dJ3_checkIndex_8e157_17
    · rw [if_neg c6] at hr
      exact b_J3_checkIndex_8e157_9 C hr _ (lv_sub hl [0, 1, 2] rfl)
-- J15_checkIndex_7cf53
def f_J15_checkIndex_7cf53 (S : St) (x0 : Int32) (x1 : Int32) : Option Int32 :=
    (f_J3_checkIndex_8e157 S x0 x1 none).bind fun v3 =>
    some v3
theorem k_J15_checkIndex_7cf53 {l : Launch} {G : Ge} {S : St} {x0 : Int32} {x1 : Int32} {rr : Int32} (hr : f_J15_checkIndex_7cf53 S x0 x1 = some rr) : Ct l G yJ15_checkIndex_7cf53 cJ15_checkIndex_7cf53 2 (Option.some Jvm.ClassFile.FieldType.int) S [.int x0, .int x1] (some (.int rr)) S 1 22 := by
  refine ct_of (by decide +kernel) (Nat.le_of_ble_eq_true rfl) ?_
  intro p e s m args below meth c C ls hl
  have hl : lv_has ls 2 [(0, .int x0), (1, .int x1)] := hl
  unfold f_J15_checkIndex_7cf53 at hr
  refine v_iload_n C (lv_at hl 0 rfl) rfl dJ15_checkIndex_7cf53_0 ?_
  refine v_iload_n C (lv_at hl 1 rfl) rfl dJ15_checkIndex_7cf53_1 ?_
  refine v_null C dJ15_checkIndex_7cf53_2 ?_
  obtain ⟨v3, e3, hr⟩ := ob hr
  refine v_callS C (k_J3_checkIndex_8e157 e3) cw_J3_checkIndex_8e157 w_458 w_459 (by decide +kernel) ⟨by decide, by decide⟩ (rest := []) (stk2 := [.int v3]) rfl rfl (Nat.le_of_ble_eq_true rfl) hl dJ15_checkIndex_7cf53_3 ?_
  cases hr
  exact v_iret C dJ15_checkIndex_7cf53_6
-- J6_bitCount_0f7a4
def f_J6_bitCount_0f7a4 (S : St) (x0 : Int32) : Option Int32 :=
    some ((((((((x0 - (((Int32.toUInt32 x0 >>> (Int32.toUInt32 1 &&& Int32.toUInt32 31)).toInt32) &&& 1431655765)) &&& 858993459) + (((Int32.toUInt32 (x0 - (((Int32.toUInt32 x0 >>> (Int32.toUInt32 1 &&& Int32.toUInt32 31)).toInt32) &&& 1431655765)) >>> (Int32.toUInt32 2 &&& Int32.toUInt32 31)).toInt32) &&& 858993459)) + ((Int32.toUInt32 (((x0 - (((Int32.toUInt32 x0 >>> (Int32.toUInt32 1 &&& Int32.toUInt32 31)).toInt32) &&& 1431655765)) &&& 858993459) + (((Int32.toUInt32 (x0 - (((Int32.toUInt32 x0 >>> (Int32.toUInt32 1 &&& Int32.toUInt32 31)).toInt32) &&& 1431655765)) >>> (Int32.toUInt32 2 &&& Int32.toUInt32 31)).toInt32) &&& 858993459)) >>> (Int32.toUInt32 4 &&& Int32.toUInt32 31)).toInt32)) &&& 252645135) + ((Int32.toUInt32 (((((x0 - (((Int32.toUInt32 x0 >>> (Int32.toUInt32 1 &&& Int32.toUInt32 31)).toInt32) &&& 1431655765)) &&& 858993459) + (((Int32.toUInt32 (x0 - (((Int32.toUInt32 x0 >>> (Int32.toUInt32 1 &&& Int32.toUInt32 31)).toInt32) &&& 1431655765)) >>> (Int32.toUInt32 2 &&& Int32.toUInt32 31)).toInt32) &&& 858993459)) + ((Int32.toUInt32 (((x0 - (((Int32.toUInt32 x0 >>> (Int32.toUInt32 1 &&& Int32.toUInt32 31)).toInt32) &&& 1431655765)) &&& 858993459) + (((Int32.toUInt32 (x0 - (((Int32.toUInt32 x0 >>> (Int32.toUInt32 1 &&& Int32.toUInt32 31)).toInt32) &&& 1431655765)) >>> (Int32.toUInt32 2 &&& Int32.toUInt32 31)).toInt32) &&& 858993459)) >>> (Int32.toUInt32 4 &&& Int32.toUInt32 31)).toInt32)) &&& 252645135) >>> (Int32.toUInt32 8 &&& Int32.toUInt32 31)).toInt32)) + ((Int32.toUInt32 ((((((x0 - (((Int32.toUInt32 x0 >>> (Int32.toUInt32 1 &&& Int32.toUInt32 31)).toInt32) &&& 1431655765)) &&& 858993459) + (((Int32.toUInt32 (x0 - (((Int32.toUInt32 x0 >>> (Int32.toUInt32 1 &&& Int32.toUInt32 31)).toInt32) &&& 1431655765)) >>> (Int32.toUInt32 2 &&& Int32.toUInt32 31)).toInt32) &&& 858993459)) + ((Int32.toUInt32 (((x0 - (((Int32.toUInt32 x0 >>> (Int32.toUInt32 1 &&& Int32.toUInt32 31)).toInt32) &&& 1431655765)) &&& 858993459) + (((Int32.toUInt32 (x0 - (((Int32.toUInt32 x0 >>> (Int32.toUInt32 1 &&& Int32.toUInt32 31)).toInt32) &&& 1431655765)) >>> (Int32.toUInt32 2 &&& Int32.toUInt32 31)).toInt32) &&& 858993459)) >>> (Int32.toUInt32 4 &&& Int32.toUInt32 31)).toInt32)) &&& 252645135) + ((Int32.toUInt32 (((((x0 - (((Int32.toUInt32 x0 >>> (Int32.toUInt32 1 &&& Int32.toUInt32 31)).toInt32) &&& 1431655765)) &&& 858993459) + (((Int32.toUInt32 (x0 - (((Int32.toUInt32 x0 >>> (Int32.toUInt32 1 &&& Int32.toUInt32 31)).toInt32) &&& 1431655765)) >>> (Int32.toUInt32 2 &&& Int32.toUInt32 31)).toInt32) &&& 858993459)) + ((Int32.toUInt32 (((x0 - (((Int32.toUInt32 x0 >>> (Int32.toUInt32 1 &&& Int32.toUInt32 31)).toInt32) &&& 1431655765)) &&& 858993459) + (((Int32.toUInt32 (x0 - (((Int32.toUInt32 x0 >>> (Int32.toUInt32 1 &&& Int32.toUInt32 31)).toInt32) &&& 1431655765)) >>> (Int32.toUInt32 2 &&& Int32.toUInt32 31)).toInt32) &&& 858993459)) >>> (Int32.toUInt32 4 &&& Int32.toUInt32 31)).toInt32)) &&& 252645135) >>> (Int32.toUInt32 8 &&& Int32.toUInt32 31)).toInt32)) >>> (Int32.toUInt32 16 &&& Int32.toUInt32 31)).toInt32)) &&& 63)
theorem k_J6_bitCount_0f7a4 {l : Launch} {G : Ge} {S : St} {x0 : Int32} {rr : Int32} (hr : f_J6_bitCount_0f7a4 S x0 = some rr) : Ct l G yJ6_bitCount_0f7a4 cJ6_bitCount_0f7a4 1 (Option.some Jvm.ClassFile.FieldType.int) S [.int x0] (some (.int rr)) S 0 0 := by
  refine ct_of (by decide +kernel) (Nat.le_of_ble_eq_true rfl) ?_
  intro p e s m args below meth c C ls hl
  have hl : lv_has ls 1 [(0, .int x0)] := hl
  unfold f_J6_bitCount_0f7a4 at hr
  refine v_iload_n C (lv_at hl 0 rfl) rfl dJ6_bitCount_0f7a4_0 ?_
  refine v_iload_n C (lv_at hl 0 rfl) rfl dJ6_bitCount_0f7a4_1 ?_
  refine v_iconst C 1 (by decide) dJ6_bitCount_0f7a4_2 ?_
  refine v_iushr C dJ6_bitCount_0f7a4_3 ?_
  refine v_ldcw C w_1075 dJ6_bitCount_0f7a4_4 ?_
  refine v_iand C dJ6_bitCount_0f7a4_7 ?_
  refine v_isub C dJ6_bitCount_0f7a4_8 ?_
  refine v_istore_n C (lv' := [(0, .int (x0 - (((Int32.toUInt32 x0 >>> (Int32.toUInt32 1 &&& Int32.toUInt32 31)).toInt32) &&& 1431655765)))]) hl rfl (by decide) rfl dJ6_bitCount_0f7a4_9 (fun ls hl => ?_)
  refine v_iload_n C (lv_at hl 0 rfl) rfl dJ6_bitCount_0f7a4_10 ?_
  refine v_ldcw C w_1076 dJ6_bitCount_0f7a4_11 ?_
  refine v_iand C dJ6_bitCount_0f7a4_14 ?_
  refine v_iload_n C (lv_at hl 0 rfl) rfl dJ6_bitCount_0f7a4_15 ?_
  refine v_iconst C 2 (by decide) dJ6_bitCount_0f7a4_16 ?_
  refine v_iushr C dJ6_bitCount_0f7a4_17 ?_
  refine v_ldcw C w_1076 dJ6_bitCount_0f7a4_18 ?_
  refine v_iand C dJ6_bitCount_0f7a4_21 ?_
  refine v_iadd C dJ6_bitCount_0f7a4_22 ?_
  refine v_istore_n C (lv' := [(0, .int (((x0 - (((Int32.toUInt32 x0 >>> (Int32.toUInt32 1 &&& Int32.toUInt32 31)).toInt32) &&& 1431655765)) &&& 858993459) + (((Int32.toUInt32 (x0 - (((Int32.toUInt32 x0 >>> (Int32.toUInt32 1 &&& Int32.toUInt32 31)).toInt32) &&& 1431655765)) >>> (Int32.toUInt32 2 &&& Int32.toUInt32 31)).toInt32) &&& 858993459)))]) hl rfl (by decide) rfl dJ6_bitCount_0f7a4_23 (fun ls hl => ?_)
  refine v_iload_n C (lv_at hl 0 rfl) rfl dJ6_bitCount_0f7a4_24 ?_
  refine v_iload_n C (lv_at hl 0 rfl) rfl dJ6_bitCount_0f7a4_25 ?_
  refine v_iconst C 4 (by decide) dJ6_bitCount_0f7a4_26 ?_
  refine v_iushr C dJ6_bitCount_0f7a4_27 ?_
  refine v_iadd C dJ6_bitCount_0f7a4_28 ?_
  refine v_ldcw C w_1077 dJ6_bitCount_0f7a4_29 ?_
  refine v_iand C dJ6_bitCount_0f7a4_32 ?_
  refine v_istore_n C (lv' := [(0, .int (((((x0 - (((Int32.toUInt32 x0 >>> (Int32.toUInt32 1 &&& Int32.toUInt32 31)).toInt32) &&& 1431655765)) &&& 858993459) + (((Int32.toUInt32 (x0 - (((Int32.toUInt32 x0 >>> (Int32.toUInt32 1 &&& Int32.toUInt32 31)).toInt32) &&& 1431655765)) >>> (Int32.toUInt32 2 &&& Int32.toUInt32 31)).toInt32) &&& 858993459)) + ((Int32.toUInt32 (((x0 - (((Int32.toUInt32 x0 >>> (Int32.toUInt32 1 &&& Int32.toUInt32 31)).toInt32) &&& 1431655765)) &&& 858993459) + (((Int32.toUInt32 (x0 - (((Int32.toUInt32 x0 >>> (Int32.toUInt32 1 &&& Int32.toUInt32 31)).toInt32) &&& 1431655765)) >>> (Int32.toUInt32 2 &&& Int32.toUInt32 31)).toInt32) &&& 858993459)) >>> (Int32.toUInt32 4 &&& Int32.toUInt32 31)).toInt32)) &&& 252645135))]) hl rfl (by decide) rfl dJ6_bitCount_0f7a4_33 (fun ls hl => ?_)
  refine v_iload_n C (lv_at hl 0 rfl) rfl dJ6_bitCount_0f7a4_34 ?_
  refine v_iload_n C (lv_at hl 0 rfl) rfl dJ6_bitCount_0f7a4_35 ?_
  refine v_bipush C 8 (by decide) dJ6_bitCount_0f7a4_36 ?_
  refine v_iushr C dJ6_bitCount_0f7a4_38 ?_
  refine v_iadd C dJ6_bitCount_0f7a4_39 ?_
  refine v_istore_n C (lv' := [(0, .int ((((((x0 - (((Int32.toUInt32 x0 >>> (Int32.toUInt32 1 &&& Int32.toUInt32 31)).toInt32) &&& 1431655765)) &&& 858993459) + (((Int32.toUInt32 (x0 - (((Int32.toUInt32 x0 >>> (Int32.toUInt32 1 &&& Int32.toUInt32 31)).toInt32) &&& 1431655765)) >>> (Int32.toUInt32 2 &&& Int32.toUInt32 31)).toInt32) &&& 858993459)) + ((Int32.toUInt32 (((x0 - (((Int32.toUInt32 x0 >>> (Int32.toUInt32 1 &&& Int32.toUInt32 31)).toInt32) &&& 1431655765)) &&& 858993459) + (((Int32.toUInt32 (x0 - (((Int32.toUInt32 x0 >>> (Int32.toUInt32 1 &&& Int32.toUInt32 31)).toInt32) &&& 1431655765)) >>> (Int32.toUInt32 2 &&& Int32.toUInt32 31)).toInt32) &&& 858993459)) >>> (Int32.toUInt32 4 &&& Int32.toUInt32 31)).toInt32)) &&& 252645135) + ((Int32.toUInt32 (((((x0 - (((Int32.toUInt32 x0 >>> (Int32.toUInt32 1 &&& Int32.toUInt32 31)).toInt32) &&& 1431655765)) &&& 858993459) + (((Int32.toUInt32 (x0 - (((Int32.toUInt32 x0 >>> (Int32.toUInt32 1 &&& Int32.toUInt32 31)).toInt32) &&& 1431655765)) >>> (Int32.toUInt32 2 &&& Int32.toUInt32 31)).toInt32) &&& 858993459)) + ((Int32.toUInt32 (((x0 - (((Int32.toUInt32 x0 >>> (Int32.toUInt32 1 &&& Int32.toUInt32 31)).toInt32) &&& 1431655765)) &&& 858993459) + (((Int32.toUInt32 (x0 - (((Int32.toUInt32 x0 >>> (Int32.toUInt32 1 &&& Int32.toUInt32 31)).toInt32) &&& 1431655765)) >>> (Int32.toUInt32 2 &&& Int32.toUInt32 31)).toInt32) &&& 858993459)) >>> (Int32.toUInt32 4 &&& Int32.toUInt32 31)).toInt32)) &&& 252645135) >>> (Int32.toUInt32 8 &&& Int32.toUInt32 31)).toInt32)))]) hl rfl (by decide) rfl dJ6_bitCount_0f7a4_40 (fun ls hl => ?_)
  refine v_iload_n C (lv_at hl 0 rfl) rfl dJ6_bitCount_0f7a4_41 ?_
  refine v_iload_n C (lv_at hl 0 rfl) rfl dJ6_bitCount_0f7a4_42 ?_
  refine v_bipush C 16 (by decide) dJ6_bitCount_0f7a4_43 ?_
  refine v_iushr C dJ6_bitCount_0f7a4_45 ?_
  refine v_iadd C dJ6_bitCount_0f7a4_46 ?_
  refine v_istore_n C (lv' := [(0, .int (((((((x0 - (((Int32.toUInt32 x0 >>> (Int32.toUInt32 1 &&& Int32.toUInt32 31)).toInt32) &&& 1431655765)) &&& 858993459) + (((Int32.toUInt32 (x0 - (((Int32.toUInt32 x0 >>> (Int32.toUInt32 1 &&& Int32.toUInt32 31)).toInt32) &&& 1431655765)) >>> (Int32.toUInt32 2 &&& Int32.toUInt32 31)).toInt32) &&& 858993459)) + ((Int32.toUInt32 (((x0 - (((Int32.toUInt32 x0 >>> (Int32.toUInt32 1 &&& Int32.toUInt32 31)).toInt32) &&& 1431655765)) &&& 858993459) + (((Int32.toUInt32 (x0 - (((Int32.toUInt32 x0 >>> (Int32.toUInt32 1 &&& Int32.toUInt32 31)).toInt32) &&& 1431655765)) >>> (Int32.toUInt32 2 &&& Int32.toUInt32 31)).toInt32) &&& 858993459)) >>> (Int32.toUInt32 4 &&& Int32.toUInt32 31)).toInt32)) &&& 252645135) + ((Int32.toUInt32 (((((x0 - (((Int32.toUInt32 x0 >>> (Int32.toUInt32 1 &&& Int32.toUInt32 31)).toInt32) &&& 1431655765)) &&& 858993459) + (((Int32.toUInt32 (x0 - (((Int32.toUInt32 x0 >>> (Int32.toUInt32 1 &&& Int32.toUInt32 31)).toInt32) &&& 1431655765)) >>> (Int32.toUInt32 2 &&& Int32.toUInt32 31)).toInt32) &&& 858993459)) + ((Int32.toUInt32 (((x0 - (((Int32.toUInt32 x0 >>> (Int32.toUInt32 1 &&& Int32.toUInt32 31)).toInt32) &&& 1431655765)) &&& 858993459) + (((Int32.toUInt32 (x0 - (((Int32.toUInt32 x0 >>> (Int32.toUInt32 1 &&& Int32.toUInt32 31)).toInt32) &&& 1431655765)) >>> (Int32.toUInt32 2 &&& Int32.toUInt32 31)).toInt32) &&& 858993459)) >>> (Int32.toUInt32 4 &&& Int32.toUInt32 31)).toInt32)) &&& 252645135) >>> (Int32.toUInt32 8 &&& Int32.toUInt32 31)).toInt32)) + ((Int32.toUInt32 ((((((x0 - (((Int32.toUInt32 x0 >>> (Int32.toUInt32 1 &&& Int32.toUInt32 31)).toInt32) &&& 1431655765)) &&& 858993459) + (((Int32.toUInt32 (x0 - (((Int32.toUInt32 x0 >>> (Int32.toUInt32 1 &&& Int32.toUInt32 31)).toInt32) &&& 1431655765)) >>> (Int32.toUInt32 2 &&& Int32.toUInt32 31)).toInt32) &&& 858993459)) + ((Int32.toUInt32 (((x0 - (((Int32.toUInt32 x0 >>> (Int32.toUInt32 1 &&& Int32.toUInt32 31)).toInt32) &&& 1431655765)) &&& 858993459) + (((Int32.toUInt32 (x0 - (((Int32.toUInt32 x0 >>> (Int32.toUInt32 1 &&& Int32.toUInt32 31)).toInt32) &&& 1431655765)) >>> (Int32.toUInt32 2 &&& Int32.toUInt32 31)).toInt32) &&& 858993459)) >>> (Int32.toUInt32 4 &&& Int32.toUInt32 31)).toInt32)) &&& 252645135) + ((Int32.toUInt32 (((((x0 - (((Int32.toUInt32 x0 >>> (Int32.toUInt32 1 &&& Int32.toUInt32 31)).toInt32) &&& 1431655765)) &&& 858993459) + (((Int32.toUInt32 (x0 - (((Int32.toUInt32 x0 >>> (Int32.toUInt32 1 &&& Int32.toUInt32 31)).toInt32) &&& 1431655765)) >>> (Int32.toUInt32 2 &&& Int32.toUInt32 31)).toInt32) &&& 858993459)) + ((Int32.toUInt32 (((x0 - (((Int32.toUInt32 x0 >>> (Int32.toUInt32 1 &&& Int32.toUInt32 31)).toInt32) &&& 1431655765)) &&& 858993459) + (((Int32.toUInt32 (x0 - (((Int32.toUInt32 x0 >>> (Int32.toUInt32 1 &&& Int32.toUInt32 31)).toInt32) &&& 1431655765)) >>> (Int32.toUInt32 2 &&& Int32.toUInt32 31)).toInt32) &&& 858993459)) >>> (Int32.toUInt32 4 &&& Int32.toUInt32 31)).toInt32)) &&& 252645135) >>> (Int32.toUInt32 8 &&& Int32.toUInt32 31)).toInt32)) >>> (Int32.toUInt32 16 &&& Int32.toUInt32 31)).toInt32)))]) hl rfl (by decide) rfl dJ6_bitCount_0f7a4_47 (fun ls hl => ?_)
  refine v_iload_n C (lv_at hl 0 rfl) rfl dJ6_bitCount_0f7a4_48 ?_
  refine v_bipush C 63 (by decide) dJ6_bitCount_0f7a4_49 ?_
  refine v_iand C dJ6_bitCount_0f7a4_51 ?_
  cases hr
  exact v_iret C dJ6_bitCount_0f7a4_52
-- J9_min_7cf53
def f_J9_min_7cf53 (S : St) (x0 : Int32) (x1 : Int32) : Option Int32 :=
    (if x1 < x0 then
    some x1
    else
    some x0)
theorem k_J9_min_7cf53 {l : Launch} {G : Ge} {S : St} {x0 : Int32} {x1 : Int32} {rr : Int32} (hr : f_J9_min_7cf53 S x0 x1 = some rr) : Ct l G yJ9_min_7cf53 cJ9_min_7cf53 2 (Option.some Jvm.ClassFile.FieldType.int) S [.int x0, .int x1] (some (.int rr)) S 0 0 := by
  refine ct_of (by decide +kernel) (Nat.le_of_ble_eq_true rfl) ?_
  intro p e s m args below meth c C ls hl
  have hl : lv_has ls 2 [(0, .int x0), (1, .int x1)] := hl
  unfold f_J9_min_7cf53 at hr
  refine v_iload_n C (lv_at hl 0 rfl) rfl dJ9_min_7cf53_0 ?_
  refine v_iload_n C (lv_at hl 1 rfl) rfl dJ9_min_7cf53_1 ?_
  refine v_icmp_gt C 9 (by decide) dJ9_min_7cf53_2 (fun c2 => ?_) (fun c2 => ?_)
  · rw [if_pos c2] at hr
    refine v_iload_n C (lv_at hl 1 rfl) rfl dJ9_min_7cf53_9 ?_
    cases hr
    exact v_iret C dJ9_min_7cf53_10
  · rw [if_neg c2] at hr
    refine v_iload_n C (lv_at hl 0 rfl) rfl dJ9_min_7cf53_5 ?_
    refine v_goto C 10 (by decide) dJ9_min_7cf53_6 ?_
    cases hr
    exact v_iret C dJ9_min_7cf53_10
-- J7_copyOf_6403c
def f_J7_copyOf_6403c (S : St) (x0 : Option Nat) (x1 : Int32) (x2 : Option Nat) : Option (Option Nat × St) :=
    (if x2 = (some (lit S 15)) then
    (newA S 20 x1).bind fun (a7, S7) =>
    (alen S7 x0).bind fun v30 =>
    (f_J9_min_7cf53 S7 v30 x1).bind fun v32 =>
    (acopy S7 x0 0 (some a7) 0 v32).bind fun S35 =>
    some ((some a7), S35)
    else
    none)
theorem k_J7_copyOf_6403c {l : Launch} {G : Ge} {S S' : St} {x0 : Option Nat} {x1 : Int32} {x2 : Option Nat} {rr : Option Nat} (hr : f_J7_copyOf_6403c S x0 x1 x2 = some (rr, S')) : Ct l G yJ7_copyOf_6403c cJ7_copyOf_6403c 4 (Option.some (Jvm.ClassFile.FieldType.array (Jvm.ClassFile.FieldType.object "java/lang/Object"))) S [va_rf x0, .int x1, va_rf x2] (some (va_rf rr)) S' 1 36 := by
  refine ct_of (by decide +kernel) (Nat.le_of_ble_eq_true rfl) ?_
  intro p e s m args below meth c C ls hl
  have hl : lv_has ls 4 [(0, va_rf x0), (1, .int x1), (2, va_rf x2)] := hl
  unfold f_J7_copyOf_6403c at hr
  refine v_aload_n C (lv_at hl 2 rfl) rfl dJ7_copyOf_6403c_0 ?_
  refine v_ldcM C w_432 dJ7_copyOf_6403c_1 ?_
  refine v_acmp_ne C 13 (by decide) dJ7_copyOf_6403c_3 (fun c3 => ?_) (fun c3 => ?_)
  · rw [if_neg c3] at hr
    refine v_aload_n C (lv_at hl 2 rfl) rfl dJ7_copyOf_6403c_13 ?_
    cases hr
  · rw [if_pos c3] at hr
    refine v_iload_n C (lv_at hl 1 rfl) rfl dJ7_copyOf_6403c_6 ?_
    obtain ⟨⟨a7, S7⟩, e7, hr⟩ := ob hr
    refine v_newR C (nm := "java/lang/Object") e7 (by decide) w_434 dJ7_copyOf_6403c_7 ?_
    refine v_goto C 24 (by decide) dJ7_copyOf_6403c_10 ?_
    refine v_astore_n C (lv' := [(3, va_rf (some a7)), (0, va_rf x0), (1, .int x1), (2, va_rf x2)]) hl rfl (by decide) rfl dJ7_copyOf_6403c_24 (fun ls hl => ?_)
    refine v_aload_n C (lv_at hl 1 rfl) rfl dJ7_copyOf_6403c_25 ?_
    refine v_iconst C 0 (by decide) dJ7_copyOf_6403c_26 ?_
    refine v_aload_n C (lv_at hl 0 rfl) rfl dJ7_copyOf_6403c_27 ?_
    refine v_iconst C 0 (by decide) dJ7_copyOf_6403c_28 ?_
    refine v_aload_n C (lv_at hl 1 rfl) rfl dJ7_copyOf_6403c_29 ?_
    obtain ⟨v30, e30, hr⟩ := ob hr
    refine v_alen C e30 dJ7_copyOf_6403c_30 ?_
    refine v_iload_n C (lv_at hl 2 rfl) rfl dJ7_copyOf_6403c_31 ?_
    obtain ⟨v32, e32, hr⟩ := ob hr
    refine v_callS C (k_J9_min_7cf53 e32) cw_J9_min_7cf53 w_435 w_436 (by decide +kernel) ⟨by decide, by decide⟩ (rest := [.int 0, va_rf (some a7), .int 0, va_rf x0]) (stk2 := [.int v32, .int 0, va_rf (some a7), .int 0, va_rf x0]) rfl rfl (by simp [rf_cat, Value.category]) hl dJ7_copyOf_6403c_32 ?_
    obtain ⟨S35, e35, hr⟩ := ob hr
    refine v_acopy C e35 w_438 w_440 w_439 w_117 ⟨by decide, by decide⟩ (Nat.le_of_ble_eq_true rfl) hl dJ7_copyOf_6403c_35 ?_
    refine v_aload_n C (lv_at hl 0 rfl) rfl dJ7_copyOf_6403c_38 ?_
    cases hr
    exact v_aret C (Or.inr ⟨_, rfl⟩) dJ7_copyOf_6403c_39
-- J7_copyOf_1904c
def f_J7_copyOf_1904c (S : St) (x0 : Option Nat) (x1 : Int32) : Option (Option Nat × St) :=
    (gcls S x0).bind fun v3 =>
    (f_J7_copyOf_6403c S x0 x1 v3).bind fun (v6, S6) =>
    some (v6, S6)
theorem k_J7_copyOf_1904c {l : Launch} {G : Ge} {S S' : St} {x0 : Option Nat} {x1 : Int32} {rr : Option Nat} (hr : f_J7_copyOf_1904c S x0 x1 = some (rr, S')) : Ct l G yJ7_copyOf_1904c cJ7_copyOf_1904c 2 (Option.some (Jvm.ClassFile.FieldType.array (Jvm.ClassFile.FieldType.object "java/lang/Object"))) S [va_rf x0, .int x1] (some (va_rf rr)) S' 2 59 := by
  refine ct_of (by decide +kernel) (Nat.le_of_ble_eq_true rfl) ?_
  intro p e s m args below meth c C ls hl
  have hl : lv_has ls 2 [(0, va_rf x0), (1, .int x1)] := hl
  unfold f_J7_copyOf_1904c at hr
  refine v_aload_n C (lv_at hl 0 rfl) rfl dJ7_copyOf_1904c_0 ?_
  refine v_iload_n C (lv_at hl 1 rfl) rfl dJ7_copyOf_1904c_1 ?_
  refine v_aload_n C (lv_at hl 0 rfl) rfl dJ7_copyOf_1904c_2 ?_
  obtain ⟨v3, e3, hr⟩ := ob hr
  refine v_getC C e3 w_411 w_1949 w_412 w_428 ⟨by decide, by decide⟩ (by simp [rf_cat, Value.category]) hl dJ7_copyOf_1904c_3 ?_
  obtain ⟨⟨v6, S6⟩, e6, hr⟩ := ob hr
  refine v_callS C (k_J7_copyOf_6403c e6) cw_J7_copyOf_6403c w_429 w_430 (by decide +kernel) ⟨by decide, by decide⟩ (rest := []) (stk2 := [va_rf v6]) rfl rfl (Nat.le_of_ble_eq_true rfl) hl dJ7_copyOf_1904c_6 ?_
  cases hr
  exact v_aret C (Or.inr ⟨_, rfl⟩) dJ7_copyOf_1904c_9
-- J8_hugeLength_7cf53
def f_J8_hugeLength_7cf53 (S : St) (x0 : Int32) (x1 : Int32) : Option Int32 :=
    (if (0 : Int32) ≤ (x0 + x1) then
    (if (2147483639 : Int32) < (x0 + x1) then
    some (x0 + x1)
    else
    some 2147483639)
    else
    none)
theorem k_J8_hugeLength_7cf53 {l : Launch} {G : Ge} {S : St} {x0 : Int32} {x1 : Int32} {rr : Int32} (hr : f_J8_hugeLength_7cf53 S x0 x1 = some rr) : Ct l G yJ8_hugeLength_7cf53 cJ8_hugeLength_7cf53 3 (Option.some Jvm.ClassFile.FieldType.int) S [.int x0, .int x1] (some (.int rr)) S 0 0 := by
  refine ct_of (by decide +kernel) (Nat.le_of_ble_eq_true rfl) ?_
  intro p e s m args below meth c C ls hl
  have hl : lv_has ls 3 [(0, .int x0), (1, .int x1)] := hl
  unfold f_J8_hugeLength_7cf53 at hr
  refine v_iload_n C (lv_at hl 0 rfl) rfl dJ8_hugeLength_7cf53_0 ?_
  refine v_iload_n C (lv_at hl 1 rfl) rfl dJ8_hugeLength_7cf53_1 ?_
  refine v_iadd C dJ8_hugeLength_7cf53_2 ?_
  refine v_istore_n C (lv' := [(2, .int (x0 + x1)), (0, .int x0), (1, .int x1)]) hl rfl (by decide) rfl dJ8_hugeLength_7cf53_3 (fun ls hl => ?_)
  refine v_iload_n C (lv_at hl 0 rfl) rfl dJ8_hugeLength_7cf53_4 ?_
  refine v_if_ge C 49 (by decide) dJ8_hugeLength_7cf53_5 (fun c5 => ?_) (fun c5 => ?_)
  · rw [if_pos c5] at hr
    refine v_iload_n C (lv_at hl 0 rfl) rfl dJ8_hugeLength_7cf53_49 ?_
    refine v_ldc C w_404 dJ8_hugeLength_7cf53_50 ?_
    refine v_icmp_gt C 58 (by decide) dJ8_hugeLength_7cf53_52 (fun c52 => ?_) (fun c52 => ?_)
    · rw [if_pos c52] at hr
      refine v_iload_n C (lv_at hl 0 rfl) rfl dJ8_hugeLength_7cf53_58 ?_
      cases hr
      exact v_iret C dJ8_hugeLength_7cf53_59
    · rw [if_neg c52] at hr
      refine v_ldc C w_404 dJ8_hugeLength_7cf53_55 ?_
      cases hr
      exact v_iret C dJ8_hugeLength_7cf53_57
  · rw [if_neg c5] at hr
    cases hr
-- J9_max_7cf53
def f_J9_max_7cf53 (S : St) (x0 : Int32) (x1 : Int32) : Option Int32 :=
    (if x0 < x1 then
    some x1
    else
    some x0)
theorem k_J9_max_7cf53 {l : Launch} {G : Ge} {S : St} {x0 : Int32} {x1 : Int32} {rr : Int32} (hr : f_J9_max_7cf53 S x0 x1 = some rr) : Ct l G yJ9_max_7cf53 cJ9_max_7cf53 2 (Option.some Jvm.ClassFile.FieldType.int) S [.int x0, .int x1] (some (.int rr)) S 0 0 := by
  refine ct_of (by decide +kernel) (Nat.le_of_ble_eq_true rfl) ?_
  intro p e s m args below meth c C ls hl
  have hl : lv_has ls 2 [(0, .int x0), (1, .int x1)] := hl
  unfold f_J9_max_7cf53 at hr
  refine v_iload_n C (lv_at hl 0 rfl) rfl dJ9_max_7cf53_0 ?_
  refine v_iload_n C (lv_at hl 1 rfl) rfl dJ9_max_7cf53_1 ?_
  refine v_icmp_lt C 9 (by decide) dJ9_max_7cf53_2 (fun c2 => ?_) (fun c2 => ?_)
  · rw [if_pos c2] at hr
    refine v_iload_n C (lv_at hl 1 rfl) rfl dJ9_max_7cf53_9 ?_
    cases hr
    exact v_iret C dJ9_max_7cf53_10
  · rw [if_neg c2] at hr
    refine v_iload_n C (lv_at hl 0 rfl) rfl dJ9_max_7cf53_5 ?_
    refine v_goto C 10 (by decide) dJ9_max_7cf53_6 ?_
    cases hr
    exact v_iret C dJ9_max_7cf53_10
-- J8_newLength_cabcc
def f_J8_newLength_cabcc_21 (S : St) (x0 : Int32) (x1 : Int32) : Option Int32 :=
    (f_J8_hugeLength_7cf53 S x0 x1).bind fun v23 =>
    some v23
def f_J8_newLength_cabcc (S : St) (x0 : Int32) (x1 : Int32) (x2 : Int32) : Option Int32 :=
    (f_J9_max_7cf53 S x1 x2).bind fun v3 =>
    (if (x0 + v3) ≤ 0 then
    f_J8_newLength_cabcc_21 S x0 x1
    else
    (if (2147483639 : Int32) < (x0 + v3) then
    f_J8_newLength_cabcc_21 S x0 x1
    else
    some (x0 + v3)))
theorem b_J8_newLength_cabcc_21  {S : St} {rr : Int32} {x0 : Int32} {x1 : Int32} (C : Cx p s m args meth c G S yJ8_newLength_cabcc cJ8_newLength_cabcc 4 (Option.some Jvm.ClassFile.FieldType.int)) (hr : f_J8_newLength_cabcc_21 S x0 x1 = some rr) : ∀ ls : Array Slot, lv_has ls 4 [(0, .int x0), (1, .int x1)] → V p l e (rmo 1 22 S) s m args below meth c G S S (QM below args s G S S (some (.int rr))) (F0 m 21 ls []) := by
  intro ls hl
  unfold f_J8_newLength_cabcc_21 at hr
  refine v_iload_n C (lv_at hl 0 rfl) rfl dJ8_newLength_cabcc_21 ?_
  refine v_iload_n C (lv_at hl 1 rfl) rfl dJ8_newLength_cabcc_22 ?_
  obtain ⟨v23, e23, hr⟩ := ob hr
  refine v_callS C (k_J8_hugeLength_7cf53 e23) cw_J8_hugeLength_7cf53 w_405 w_406 (by decide +kernel) ⟨by decide, by decide⟩ (rest := []) (stk2 := [.int v23]) rfl rfl (Nat.le_of_ble_eq_true rfl) hl dJ8_newLength_cabcc_23 ?_
  cases hr
  exact v_iret C dJ8_newLength_cabcc_26
theorem k_J8_newLength_cabcc {l : Launch} {G : Ge} {S : St} {x0 : Int32} {x1 : Int32} {x2 : Int32} {rr : Int32} (hr : f_J8_newLength_cabcc S x0 x1 x2 = some rr) : Ct l G yJ8_newLength_cabcc cJ8_newLength_cabcc 4 (Option.some Jvm.ClassFile.FieldType.int) S [.int x0, .int x1, .int x2] (some (.int rr)) S 1 22 := by
  refine ct_of (by decide +kernel) (Nat.le_of_ble_eq_true rfl) ?_
  intro p e s m args below meth c C ls hl
  have hl : lv_has ls 4 [(0, .int x0), (1, .int x1), (2, .int x2)] := hl
  unfold f_J8_newLength_cabcc at hr
  refine v_iload_n C (lv_at hl 0 rfl) rfl dJ8_newLength_cabcc_0 ?_
  refine v_iload_n C (lv_at hl 1 rfl) rfl dJ8_newLength_cabcc_1 ?_
  refine v_iload_n C (lv_at hl 2 rfl) rfl dJ8_newLength_cabcc_2 ?_
  obtain ⟨v3, e3, hr⟩ := ob hr
  refine v_callS C (k_J9_max_7cf53 e3) cw_J9_max_7cf53 w_403 w_171 (by decide +kernel) ⟨by decide, by decide⟩ (rest := [.int x0]) (stk2 := [.int v3, .int x0]) rfl rfl (Nat.le_of_ble_eq_true rfl) hl dJ8_newLength_cabcc_3 ?_
  refine v_iadd C dJ8_newLength_cabcc_6 ?_
  refine v_istore_n C (lv' := [(3, .int (x0 + v3)), (0, .int x0), (1, .int x1), (2, .int x2)]) hl rfl (by decide) rfl dJ8_newLength_cabcc_7 (fun ls hl => ?_)
  refine v_iconst C 0 (by decide) dJ8_newLength_cabcc_8 ?_
  refine v_iload_n C (lv_at hl 0 rfl) rfl dJ8_newLength_cabcc_9 ?_
  refine v_icmp_ge C 21 (by decide) dJ8_newLength_cabcc_10 (fun c10 => ?_) (fun c10 => ?_)
  · rw [if_pos c10] at hr
    exact b_J8_newLength_cabcc_21 C hr _ (lv_sub hl [1, 2] rfl)
  · rw [if_neg c10] at hr
    refine v_iload_n C (lv_at hl 0 rfl) rfl dJ8_newLength_cabcc_13 ?_
    refine v_ldc C w_404 dJ8_newLength_cabcc_14 ?_
    refine v_icmp_gt C 21 (by decide) dJ8_newLength_cabcc_16 (fun c16 => ?_) (fun c16 => ?_)
    · rw [if_pos c16] at hr
      exact b_J8_newLength_cabcc_21 C hr _ (lv_sub hl [1, 2] rfl)
    · rw [if_neg c16] at hr
      refine v_iload_n C (lv_at hl 0 rfl) rfl dJ8_newLength_cabcc_19 ?_
      cases hr
      exact v_iret C dJ8_newLength_cabcc_20
-- J9_floorDiv_f86c9
def f_J9_floorDiv_f86c9 (S : St) (x0 : Int64) (x2 : Int64) : Option Int64 :=
    (divL x0 x2).bind fun v2 =>
    (if (0 : Int32) ≤ (lg_cmp (x0 ^^^ x2) 0) then
    some v2
    else
    (if (lg_cmp (v2 * x2) x0) = 0 then
    some v2
    else
    some (v2 - 1)))
theorem k_J9_floorDiv_f86c9 {l : Launch} {G : Ge} {S : St} {x0 : Int64} {x2 : Int64} {rr : Int64} (hr : f_J9_floorDiv_f86c9 S x0 x2 = some rr) : Ct l G yJ9_floorDiv_f86c9 cJ9_floorDiv_f86c9 6 (Option.some Jvm.ClassFile.FieldType.long) S [.long x0, .long x2] (some (.long rr)) S 0 0 := by
  refine ct_of (by decide +kernel) (Nat.le_of_ble_eq_true rfl) ?_
  intro p e s m args below meth c C ls hl
  have hl : lv_has ls 6 [(0, .long x0), (2, .long x2)] := hl
  unfold f_J9_floorDiv_f86c9 at hr
  refine v_lload_n C (lv_at hl 0 rfl) rfl dJ9_floorDiv_f86c9_0 ?_
  refine v_lload_n C (lv_at hl 1 rfl) rfl dJ9_floorDiv_f86c9_1 ?_
  obtain ⟨v2, e2, hr⟩ := ob hr
  refine v_ldiv C e2 dJ9_floorDiv_f86c9_2 ?_
  refine v_lstore C (lv' := [(4, .long v2), (0, .long x0), (2, .long x2)]) hl (by decide) rfl dJ9_floorDiv_f86c9_3 (fun ls hl => ?_)
  refine v_lload_n C (lv_at hl 1 rfl) rfl dJ9_floorDiv_f86c9_5 ?_
  refine v_lload_n C (lv_at hl 2 rfl) rfl dJ9_floorDiv_f86c9_6 ?_
  refine v_lxor C dJ9_floorDiv_f86c9_7 ?_
  refine v_lconst C 0 (by decide) dJ9_floorDiv_f86c9_8 ?_
  refine v_lcmp C dJ9_floorDiv_f86c9_9 ?_
  refine v_if_ge C 27 (by decide) dJ9_floorDiv_f86c9_10 (fun c10 => ?_) (fun c10 => ?_)
  · rw [if_pos c10] at hr
    refine v_lload C (lv_at hl 0 rfl) dJ9_floorDiv_f86c9_27 ?_
    cases hr
    exact v_lret C dJ9_floorDiv_f86c9_29
  · rw [if_neg c10] at hr
    refine v_lload C (lv_at hl 0 rfl) dJ9_floorDiv_f86c9_13 ?_
    refine v_lload_n C (lv_at hl 2 rfl) rfl dJ9_floorDiv_f86c9_15 ?_
    refine v_lmul C dJ9_floorDiv_f86c9_16 ?_
    refine v_lload_n C (lv_at hl 1 rfl) rfl dJ9_floorDiv_f86c9_17 ?_
    refine v_lcmp C dJ9_floorDiv_f86c9_18 ?_
    refine v_if_eq C 27 (by decide) dJ9_floorDiv_f86c9_19 (fun c19 => ?_) (fun c19 => ?_)
    · rw [if_pos c19] at hr
      refine v_lload C (lv_at hl 0 rfl) dJ9_floorDiv_f86c9_27 ?_
      cases hr
      exact v_lret C dJ9_floorDiv_f86c9_29
    · rw [if_neg c19] at hr
      refine v_lload C (lv_at hl 0 rfl) dJ9_floorDiv_f86c9_22 ?_
      refine v_lconst C 1 (by decide) dJ9_floorDiv_f86c9_24 ?_
      refine v_lsub C dJ9_floorDiv_f86c9_25 ?_
      cases hr
      exact v_lret C dJ9_floorDiv_f86c9_26
-- J9_max_f86c9
def f_J9_max_f86c9 (S : St) (x0 : Int64) (x2 : Int64) : Option Int64 :=
    (if (lg_cmp x0 x2) < 0 then
    some x2
    else
    some x0)
theorem k_J9_max_f86c9 {l : Launch} {G : Ge} {S : St} {x0 : Int64} {x2 : Int64} {rr : Int64} (hr : f_J9_max_f86c9 S x0 x2 = some rr) : Ct l G yJ9_max_f86c9 cJ9_max_f86c9 4 (Option.some Jvm.ClassFile.FieldType.long) S [.long x0, .long x2] (some (.long rr)) S 0 0 := by
  refine ct_of (by decide +kernel) (Nat.le_of_ble_eq_true rfl) ?_
  intro p e s m args below meth c C ls hl
  have hl : lv_has ls 4 [(0, .long x0), (2, .long x2)] := hl
  unfold f_J9_max_f86c9 at hr
  refine v_lload_n C (lv_at hl 0 rfl) rfl dJ9_max_f86c9_0 ?_
  refine v_lload_n C (lv_at hl 1 rfl) rfl dJ9_max_f86c9_1 ?_
  refine v_lcmp C dJ9_max_f86c9_2 ?_
  refine v_if_lt C 10 (by decide) dJ9_max_f86c9_3 (fun c3 => ?_) (fun c3 => ?_)
  · rw [if_pos c3] at hr
    refine v_lload_n C (lv_at hl 1 rfl) rfl dJ9_max_f86c9_10 ?_
    cases hr
    exact v_lret C dJ9_max_f86c9_11
  · rw [if_neg c3] at hr
    refine v_lload_n C (lv_at hl 0 rfl) rfl dJ9_max_f86c9_6 ?_
    refine v_goto C 11 (by decide) dJ9_max_f86c9_7 ?_
    cases hr
    exact v_lret C dJ9_max_f86c9_11
-- J9_min_f86c9
def f_J9_min_f86c9 (S : St) (x0 : Int64) (x2 : Int64) : Option Int64 :=
    (if (0 : Int32) < (lg_cmp x0 x2) then
    some x2
    else
    some x0)
theorem k_J9_min_f86c9 {l : Launch} {G : Ge} {S : St} {x0 : Int64} {x2 : Int64} {rr : Int64} (hr : f_J9_min_f86c9 S x0 x2 = some rr) : Ct l G yJ9_min_f86c9 cJ9_min_f86c9 4 (Option.some Jvm.ClassFile.FieldType.long) S [.long x0, .long x2] (some (.long rr)) S 0 0 := by
  refine ct_of (by decide +kernel) (Nat.le_of_ble_eq_true rfl) ?_
  intro p e s m args below meth c C ls hl
  have hl : lv_has ls 4 [(0, .long x0), (2, .long x2)] := hl
  unfold f_J9_min_f86c9 at hr
  refine v_lload_n C (lv_at hl 0 rfl) rfl dJ9_min_f86c9_0 ?_
  refine v_lload_n C (lv_at hl 1 rfl) rfl dJ9_min_f86c9_1 ?_
  refine v_lcmp C dJ9_min_f86c9_2 ?_
  refine v_if_gt C 10 (by decide) dJ9_min_f86c9_3 (fun c3 => ?_) (fun c3 => ?_)
  · rw [if_pos c3] at hr
    refine v_lload_n C (lv_at hl 1 rfl) rfl dJ9_min_f86c9_10 ?_
    cases hr
    exact v_lret C dJ9_min_f86c9_11
  · rw [if_neg c3] at hr
    refine v_lload_n C (lv_at hl 0 rfl) rfl dJ9_min_f86c9_6 ?_
    refine v_goto C 11 (by decide) dJ9_min_f86c9_7 ?_
    cases hr
    exact v_lret C dJ9_min_f86c9_11
end Mth
