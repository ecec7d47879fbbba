section Mth
variable {p : Program} {l : Launch} {e : Env} {s : State} {m : MethodId} {args : Array Value} {below : List Frame} {meth : Method} {c : Code} {G : Ge}
-- X8_isKnownAlike
def f_X8_isKnownAlike (S : St) (x0 : Int32) (x1 : Int32) : Option Int32 :=
    (if x0 = (-1) then
    some 0
    else
    (if x0 = x1 then
    some 1
    else
    some 0))
theorem k_X8_isKnownAlike {l : Launch} {G : Ge} {S : St} {x0 : Int32} {x1 : Int32} {rr : Int32} (hr : f_X8_isKnownAlike S x0 x1 = some rr) : Ct l G yX8_isKnownAlike cX8_isKnownAlike 2 (Option.some Jvm.ClassFile.FieldType.boolean) S [.int x0, .int x1] (some (.int rr)) S 0 0 := by
  refine ct_of (by decide +kernel) (Nat.le_of_ble_eq_true rfl) ?_
  intro p e s m args below meth c C ls hl
  have hl : lv_has ls 2 [(0, .int x0), (1, .int x1)] := hl
  unfold f_X8_isKnownAlike at hr
  refine v_iload_n C (lv_at hl 0 rfl) rfl dX8_isKnownAlike_0 ?_
  refine v_iconst C (-1) (by decide) dX8_isKnownAlike_1 ?_
  refine v_icmp_eq C 14 (by decide) dX8_isKnownAlike_2 (fun c2 => ?_) (fun c2 => ?_)
  · rw [if_pos c2] at hr
    refine v_iconst C 0 (by decide) dX8_isKnownAlike_14 ?_
    obtain rfl := os hr
    exact v_zret C rfl dX8_isKnownAlike_15
  · rw [if_neg c2] at hr
    refine v_iload_n C (lv_at hl 0 rfl) rfl dX8_isKnownAlike_5 ?_
    refine v_iload_n C (lv_at hl 1 rfl) rfl dX8_isKnownAlike_6 ?_
    refine v_icmp_ne C 14 (by decide) dX8_isKnownAlike_7 (fun c7 => ?_) (fun c7 => ?_)
    · rw [if_neg c7] at hr
      refine v_iconst C 0 (by decide) dX8_isKnownAlike_14 ?_
      obtain rfl := os hr
      exact v_zret C rfl dX8_isKnownAlike_15
    · rw [if_pos c7] at hr
      refine v_iconst C 1 (by decide) dX8_isKnownAlike_10 ?_
      refine v_goto C 15 (by decide) dX8_isKnownAlike_11 ?_
      obtain rfl := os hr
      exact v_zret C rfl dX8_isKnownAlike_15
-- X8_pointsWith
def f_X8_pointsWith_60 (S : St) (x0 : Nat) (x1 : Option Nat) (t0 : Int32) (t1 : Int32) : Option Int32 :=
    (getI S (some x0) 9 2).bind fun v64 =>
    (getI S x1 9 2).bind fun v68 =>
    (f_X8_isKnownAlike S v64 v68).bind fun v71 =>
    (if v71 = 0 then
    some ((t1 + t0) + 0)
    else
    some ((t1 + t0) + 4))
def f_X8_pointsWith_38 (S : St) (x0 : Nat) (x1 : Option Nat) (t0 : Int32) (t1 : Int32) : Option Int32 :=
    (getI S (some x0) 9 5).bind fun v42 =>
    (getI S x1 9 5).bind fun v46 =>
    (f_X8_isKnownAlike S v42 v46).bind fun v49 =>
    (if v49 = 0 then
    f_X8_pointsWith_60 S x0 x1 0 (t1 + t0)
    else
    f_X8_pointsWith_60 S x0 x1 1 (t1 + t0))
def f_X8_pointsWith_16 (S : St) (x0 : Nat) (x1 : Option Nat) (t0 : Int32) : Option Int32 :=
    (getI S (some x0) 9 3).bind fun v19 =>
    (getI S x1 9 3).bind fun v23 =>
    (f_X8_isKnownAlike S v19 v23).bind fun v26 =>
    (if v26 = 0 then
    f_X8_pointsWith_38 S x0 x1 0 t0
    else
    f_X8_pointsWith_38 S x0 x1 6 t0)
def f_X8_pointsWith (S : St) (x0 : Nat) (x1 : Option Nat) : Option Int32 :=
    (getI S (some x0) 9 1).bind fun v1 =>
    (getI S x1 9 1).bind fun v5 =>
    (if v1 = v5 then
    f_X8_pointsWith_16 S x0 x1 3
    else
    f_X8_pointsWith_16 S x0 x1 0)
theorem b_X8_pointsWith_60  {S : St} {rr : Int32} {x0 : Nat} {x1 : Option Nat} {t0 : Int32} {t1 : Int32} (C : Cx p s m args meth c G S yX8_pointsWith cX8_pointsWith 3 (Option.some Jvm.ClassFile.FieldType.int)) (hr : f_X8_pointsWith_60 S x0 x1 t0 t1 = some rr) : ∀ ls : Array Slot, lv_has ls 3 [(0, va_rf (some x0)), (1, va_rf x1)] → V p l e (rmo 1 21 S) s m args below meth c G S S (QM below args s G S S (some (.int rr))) (F0 m 60 ls [.int t0, .int t1]) := by
  intro ls hl
  unfold f_X8_pointsWith_60 at hr
  refine v_iadd C dX8_pointsWith_60 ?_
  refine v_istore_n C (i := 2) (lv' := [(2, .int (t1 + t0)), (0, va_rf (some x0)), (1, va_rf x1)]) hl rfl (by decide) (by simp [rf_n2]) dX8_pointsWith_61 (fun ls hl => ?_)
  refine v_iload_n C (lv_at hl 0 rfl) rfl dX8_pointsWith_62 ?_
  refine v_aload_n C (lv_at hl 1 rfl) rfl dX8_pointsWith_63 ?_
  obtain ⟨v64, e64, hr⟩ := ob hr
  refine v_getI C fl_RX8_27 rfl e64 dX8_pointsWith_64 ?_
  refine v_aload_n C (lv_at hl 2 rfl) rfl dX8_pointsWith_67 ?_
  obtain ⟨v68, e68, hr⟩ := ob hr
  refine v_getI C fl_RX8_27 rfl e68 dX8_pointsWith_68 ?_
  obtain ⟨v71, e71, hr⟩ := ob hr
  refine v_callS C (k_X8_isKnownAlike e71) cw_X8_isKnownAlike w_1004 w_1005 (show (parseMethodDescriptor (yX8_isKnownAlike).desc).map (fun d => d.parameters.length) = some 2 by decide +kernel) ⟨by decide, by decide⟩ (rest := [.int (t1 + t0)]) (stk2 := [.int v71, .int (t1 + t0)]) rfl rfl (Nat.le_of_ble_eq_true rfl) hl dX8_pointsWith_71 ?_
  refine v_if_eq C 81 (by decide) dX8_pointsWith_74 (fun c74 => ?_) (fun c74 => ?_)
  · rw [if_pos c74] at hr
    refine v_iconst C 0 (by decide) dX8_pointsWith_81 ?_
    refine v_iadd C dX8_pointsWith_82 ?_
    refine v_istore_n C (i := 2) (lv' := [(2, .int ((t1 + t0) + 0)), (0, va_rf (some x0)), (1, va_rf x1)]) hl rfl (by decide) (by simp [rf_n2]) dX8_pointsWith_83 (fun ls hl => ?_)
    refine v_iload_n C (lv_at hl 0 rfl) rfl dX8_pointsWith_84 ?_
    obtain rfl := os hr
    exact v_iret C dX8_pointsWith_85
  · rw [if_neg c74] at hr
    refine v_iconst C 4 (by decide) dX8_pointsWith_77 ?_
    refine v_goto C 82 (by decide) dX8_pointsWith_78 ?_
    refine v_iadd C dX8_pointsWith_82 ?_
    refine v_istore_n C (i := 2) (lv' := [(2, .int ((t1 + t0) + 4)), (0, va_rf (some x0)), (1, va_rf x1)]) hl rfl (by decide) (by simp [rf_n2]) dX8_pointsWith_83 (fun ls hl => ?_)
    refine v_iload_n C (lv_at hl 0 rfl) rfl dX8_pointsWith_84 ?_
    obtain rfl := os hr
    exact v_iret C dX8_pointsWith_85
theorem b_X8_pointsWith_38  {S : St} {rr : Int32} {x0 : Nat} {x1 : Option Nat} {t0 : Int32} {t1 : Int32} (C : Cx p s m args meth c G S yX8_pointsWith cX8_pointsWith 3 (Option.some Jvm.ClassFile.FieldType.int)) (hr : f_X8_pointsWith_38 S x0 x1 t0 t1 = some rr) : ∀ ls : Array Slot, lv_has ls 3 [(0, va_rf (some x0)), (1, va_rf x1)] → V p l e (rmo 1 21 S) s m args below meth c G S S (QM below args s G S S (some (.int rr))) (F0 m 38 ls [.int t0, .int t1]) := by
  intro ls hl
  unfold f_X8_pointsWith_38 at hr
  refine v_iadd C dX8_pointsWith_38 ?_
  refine v_istore_n C (i := 2) (lv' := [(2, .int (t1 + t0)), (0, va_rf (some x0)), (1, va_rf x1)]) hl rfl (by decide) (by simp [rf_n2]) dX8_pointsWith_39 (fun ls hl => ?_)
  refine v_iload_n C (lv_at hl 0 rfl) rfl dX8_pointsWith_40 ?_
  refine v_aload_n C (lv_at hl 1 rfl) rfl dX8_pointsWith_41 ?_
  obtain ⟨v42, e42, hr⟩ := ob hr
  refine v_getI C fl_RX8_9 rfl e42 dX8_pointsWith_42 ?_
  refine v_aload_n C (lv_at hl 2 rfl) rfl dX8_pointsWith_45 ?_
  obtain ⟨v46, e46, hr⟩ := ob hr
  refine v_getI C fl_RX8_9 rfl e46 dX8_pointsWith_46 ?_
  obtain ⟨v49, e49, hr⟩ := ob hr
  refine v_callS C (k_X8_isKnownAlike e49) cw_X8_isKnownAlike w_1004 w_1005 (show (parseMethodDescriptor (yX8_isKnownAlike).desc).map (fun d => d.parameters.length) = some 2 by decide +kernel) ⟨by decide, by decide⟩ (rest := [.int (t1 + t0)]) (stk2 := [.int v49, .int (t1 + t0)]) rfl rfl (Nat.le_of_ble_eq_true rfl) hl dX8_pointsWith_49 ?_
  refine v_if_eq C 59 (by decide) dX8_pointsWith_52 (fun c52 => ?_) (fun c52 => ?_)
  · rw [if_pos c52] at hr
    refine v_iconst C 0 (by decide) dX8_pointsWith_59 ?_
    exact b_X8_pointsWith_60 C hr _ (lv_sub hl [1, 2] rfl)
  · rw [if_neg c52] at hr
    refine v_iconst C 1 (by decide) dX8_pointsWith_55 ?_
    refine v_goto C 60 (by decide) dX8_pointsWith_56 ?_
    exact b_X8_pointsWith_60 C hr _ (lv_sub hl [1, 2] rfl)
theorem b_X8_pointsWith_16  {S : St} {rr : Int32} {x0 : Nat} {x1 : Option Nat} {t0 : Int32} (C : Cx p s m args meth c G S yX8_pointsWith cX8_pointsWith 3 (Option.some Jvm.ClassFile.FieldType.int)) (hr : f_X8_pointsWith_16 S x0 x1 t0 = some rr) : ∀ ls : Array Slot, lv_has ls 3 [(0, va_rf (some x0)), (1, va_rf x1)] → V p l e (rmo 1 21 S) s m args below meth c G S S (QM below args s G S S (some (.int rr))) (F0 m 16 ls [.int t0]) := by
  intro ls hl
  unfold f_X8_pointsWith_16 at hr
  refine v_istore_n C (i := 2) (lv' := [(2, .int t0), (0, va_rf (some x0)), (1, va_rf x1)]) hl rfl (by decide) (by simp [rf_n2]) dX8_pointsWith_16 (fun ls hl => ?_)
  refine v_iload_n C (lv_at hl 0 rfl) rfl dX8_pointsWith_17 ?_
  refine v_aload_n C (lv_at hl 1 rfl) rfl dX8_pointsWith_18 ?_
  obtain ⟨v19, e19, hr⟩ := ob hr
  refine v_getI C fl_RX8_30 rfl e19 dX8_pointsWith_19 ?_
  refine v_aload_n C (lv_at hl 2 rfl) rfl dX8_pointsWith_22 ?_
  obtain ⟨v23, e23, hr⟩ := ob hr
  refine v_getI C fl_RX8_30 rfl e23 dX8_pointsWith_23 ?_
  obtain ⟨v26, e26, hr⟩ := ob hr
  refine v_callS C (k_X8_isKnownAlike e26) cw_X8_isKnownAlike w_1004 w_1005 (show (parseMethodDescriptor (yX8_isKnownAlike).desc).map (fun d => d.parameters.length) = some 2 by decide +kernel) ⟨by decide, by decide⟩ (rest := [.int t0]) (stk2 := [.int v26, .int t0]) rfl rfl (Nat.le_of_ble_eq_true rfl) hl dX8_pointsWith_26 ?_
  refine v_if_eq C 37 (by decide) dX8_pointsWith_29 (fun c29 => ?_) (fun c29 => ?_)
  · rw [if_pos c29] at hr
    refine v_iconst C 0 (by decide) dX8_pointsWith_37 ?_
    exact b_X8_pointsWith_38 C hr _ (lv_sub hl [1, 2] rfl)
  · rw [if_neg c29] at hr
    refine v_bipush C 6 (by decide) dX8_pointsWith_32 ?_
    refine v_goto C 38 (by decide) dX8_pointsWith_34 ?_
    exact b_X8_pointsWith_38 C hr _ (lv_sub hl [1, 2] rfl)
theorem k_X8_pointsWith {l : Launch} {G : Ge} {S : St} {x0 : Nat} {x1 : Option Nat} {rr : Int32} (hr : f_X8_pointsWith S x0 x1 = some rr) : Ct l G yX8_pointsWith cX8_pointsWith 3 (Option.some Jvm.ClassFile.FieldType.int) S [va_rf (some x0), va_rf x1] (some (.int rr)) S 1 21 := by
  refine ct_of (by decide +kernel) (by cases x1 <;> exact Nat.le_of_ble_eq_true rfl) ?_
  intro p e s m args below meth c C ls hl
  have hl : lv_has ls 3 [(0, va_rf (some x0)), (1, va_rf x1)] := by clear hr; cases x1 <;> exact hl
  unfold f_X8_pointsWith at hr
  refine v_aload_n C (lv_at hl 0 rfl) rfl dX8_pointsWith_0 ?_
  obtain ⟨v1, e1, hr⟩ := ob hr
  refine v_getI C fl_RX8_24 rfl e1 dX8_pointsWith_1 ?_
  refine v_aload_n C (lv_at hl 1 rfl) rfl dX8_pointsWith_4 ?_
  obtain ⟨v5, e5, hr⟩ := ob hr
  refine v_getI C fl_RX8_24 rfl e5 dX8_pointsWith_5 ?_
  refine v_icmp_ne C 15 (by decide) dX8_pointsWith_8 (fun c8 => ?_) (fun c8 => ?_)
  · rw [if_neg c8] at hr
    refine v_iconst C 0 (by decide) dX8_pointsWith_15 ?_
    exact b_X8_pointsWith_16 C hr _ (lv_sub hl [0, 1] rfl)
  · rw [if_pos c8] at hr
    refine v_iconst C 3 (by decide) dX8_pointsWith_11 ?_
    refine v_goto C 16 (by decide) dX8_pointsWith_12 ?_
    exact b_X8_pointsWith_16 C hr _ (lv_sub hl [0, 1] rfl)
-- X5_pairWorth
def f_X5_pairWorth (S : St) (x0 : Nat) (x1 : Int32) (x2 : Int32) : Option Int32 :=
    (getR S (some x0) 6 0).bind fun v2 =>
    (alen S v2).bind fun v5 =>
    (f_X11_isWithin S x1 v5).bind fun v6 =>
    (if v6 = 0 then
    some (-9999)
    else
    (getR S (some x0) 6 0).bind fun v14 =>
    (alen S v14).bind fun v17 =>
    (f_X11_isWithin S x2 v17).bind fun v18 =>
    (if v18 = 0 then
    some (-9999)
    else
    (getR S (some x0) 6 0).bind fun v29 =>
    (ldR S v29 19 x1).bind fun v33 =>
    (getR S (some x0) 6 0).bind fun v36 =>
    (ldR S v36 19 x2).bind fun v40 =>
    (if v33 = none then
    some (-9999)
    else
    (if v40 = none then
    some (-9999)
    else
    (rcv S v33 9).bind fun b55 =>
    (f_X8_isBarredFrom S b55 v40).bind fun v55 =>
    (if v55 = 0 then
    (rcv S v33 9).bind fun b68 =>
    (f_X8_pointsWith S b68 v40).bind fun v68 =>
    some (v68 - 5)
    else
    some (-9999))))))
theorem k_X5_pairWorth {l : Launch} {G : Ge} {S : St} {x0 : Nat} {x1 : Int32} {x2 : Int32} {rr : Int32} (hr : f_X5_pairWorth S x0 x1 x2 = some rr) : Ct l G yX5_pairWorth cX5_pairWorth 5 (Option.some Jvm.ClassFile.FieldType.int) S [va_rf (some x0), .int x1, .int x2] (some (.int rr)) S 2 43 := by
  refine ct_of (by decide +kernel) (Nat.le_of_ble_eq_true rfl) ?_
  intro p e s m args below meth c C ls hl
  have hl : lv_has ls 5 [(0, va_rf (some x0)), (1, .int x1), (2, .int x2)] := hl
  unfold f_X5_pairWorth at hr
  refine v_iload_n C (lv_at hl 1 rfl) rfl dX5_pairWorth_0 ?_
  refine v_aload_n C (lv_at hl 0 rfl) rfl dX5_pairWorth_1 ?_
  obtain ⟨v2, e2, hr⟩ := ob hr
  refine v_getR C fl_RX5_11 rfl e2 dX5_pairWorth_2 ?_
  obtain ⟨v5, e5, hr⟩ := ob hr
  refine v_alen C e5 dX5_pairWorth_5 ?_
  obtain ⟨v6, e6, hr⟩ := ob hr
  refine v_callSN C "SleepOffice" (k_X11_isWithin e6) cw_X11_isWithin (by decide +kernel) w_350 (show (parseMethodDescriptor (yX11_isWithin).desc).map (fun d => d.parameters.length) = some 2 by decide +kernel) ⟨by decide, by decide⟩ (rest := []) (stk2 := [.int v6]) rfl rfl (Nat.le_of_ble_eq_true rfl) hl dX5_pairWorth_6 ?_
  refine v_if_eq C 24 (by decide) dX5_pairWorth_9 (fun c9 => ?_) (fun c9 => ?_)
  · rw [if_pos c9] at hr
    refine v_sipush C (-9999) (by decide) dX5_pairWorth_24 ?_
    obtain rfl := os hr
    exact v_iret C dX5_pairWorth_27
  · rw [if_neg c9] at hr
    refine v_iload_n C (lv_at hl 2 rfl) rfl dX5_pairWorth_12 ?_
    refine v_aload_n C (lv_at hl 0 rfl) rfl dX5_pairWorth_13 ?_
    obtain ⟨v14, e14, hr⟩ := ob hr
    refine v_getR C fl_RX5_11 rfl e14 dX5_pairWorth_14 ?_
    obtain ⟨v17, e17, hr⟩ := ob hr
    refine v_alen C e17 dX5_pairWorth_17 ?_
    obtain ⟨v18, e18, hr⟩ := ob hr
    refine v_callSN C "SleepOffice" (k_X11_isWithin e18) cw_X11_isWithin (by decide +kernel) w_350 (show (parseMethodDescriptor (yX11_isWithin).desc).map (fun d => d.parameters.length) = some 2 by decide +kernel) ⟨by decide, by decide⟩ (rest := []) (stk2 := [.int v18]) rfl rfl (Nat.le_of_ble_eq_true rfl) hl dX5_pairWorth_18 ?_
    refine v_if_ne C 28 (by decide) dX5_pairWorth_21 (fun c21 => ?_) (fun c21 => ?_)
    · rw [if_neg c21] at hr
      refine v_aload_n C (lv_at hl 0 rfl) rfl dX5_pairWorth_28 ?_
      obtain ⟨v29, e29, hr⟩ := ob hr
      refine v_getR C fl_RX5_11 rfl e29 dX5_pairWorth_29 ?_
      refine v_iload_n C (lv_at hl 1 rfl) rfl dX5_pairWorth_32 ?_
      obtain ⟨v33, e33, hr⟩ := ob hr
      refine v_ldR C (t0 := 5) (nm := RX8) e33 (by decide) rfl (fun _ => rfl) dX5_pairWorth_33 ?_
      refine v_astore_n C (i := 3) (lv' := [(3, va_rf v33), (0, va_rf (some x0)), (1, .int x1), (2, .int x2)]) hl rfl (by decide) rfl dX5_pairWorth_34 (fun ls hl => ?_)
      refine v_aload_n C (lv_at hl 1 rfl) rfl dX5_pairWorth_35 ?_
      obtain ⟨v36, e36, hr⟩ := ob hr
      refine v_getR C fl_RX5_11 rfl e36 dX5_pairWorth_36 ?_
      refine v_iload_n C (lv_at hl 3 rfl) rfl dX5_pairWorth_39 ?_
      obtain ⟨v40, e40, hr⟩ := ob hr
      refine v_ldR C (t0 := 5) (nm := RX8) e40 (by decide) rfl (fun _ => rfl) dX5_pairWorth_40 ?_
      refine v_astore C (i := 4) (lv' := [(4, va_rf v40), (3, va_rf v33), (0, va_rf (some x0)), (1, .int x1), (2, .int x2)]) hl (by decide) (by simp [rf_n2]) dX5_pairWorth_41 (fun ls hl => ?_)
      refine v_aload_n C (lv_at hl 1 rfl) rfl dX5_pairWorth_43 ?_
      refine v_ifnull C 61 (by decide) dX5_pairWorth_44 (fun c44 => ?_) (fun c44 => ?_)
      · rw [if_pos c44] at hr
        refine v_sipush C (-9999) (by decide) dX5_pairWorth_61 ?_
        obtain rfl := os hr
        exact v_iret C dX5_pairWorth_64
      · rw [if_neg c44] at hr
        refine v_aload C (lv_at hl 0 rfl) dX5_pairWorth_47 ?_
        refine v_ifnull C 61 (by decide) dX5_pairWorth_49 (fun c49 => ?_) (fun c49 => ?_)
        · rw [if_pos c49] at hr
          refine v_sipush C (-9999) (by decide) dX5_pairWorth_61 ?_
          obtain rfl := os hr
          exact v_iret C dX5_pairWorth_64
        · rw [if_neg c49] at hr
          refine v_aload_n C (lv_at hl 1 rfl) rfl dX5_pairWorth_52 ?_
          refine v_aload C (lv_at hl 0 rfl) dX5_pairWorth_53 ?_
          obtain ⟨b55, f55, hr⟩ := ob hr
          obtain ⟨g55, h55⟩ := rcv_n f55
          obtain ⟨v55, e55, hr⟩ := ob hr
          refine v_callV C (b := b55) h55 (by decide) rfl rfl (k_X8_isBarredFrom e55) cw_X8_isBarredFrom w_1040 w_990 w_991 (show (parseMethodDescriptor (yX8_isBarredFrom).desc).map (fun d => d.parameters.length) = some 1 by decide +kernel) ⟨by decide, by decide⟩ (rest := []) (stk2 := [.int v55]) (by rw [g55]; rfl) rfl (Nat.le_of_ble_eq_true rfl) hl dX5_pairWorth_55 ?_
          refine v_if_eq C 65 (by decide) dX5_pairWorth_58 (fun c58 => ?_) (fun c58 => ?_)
          · rw [if_pos c58] at hr
            refine v_aload_n C (lv_at hl 1 rfl) rfl dX5_pairWorth_65 ?_
            refine v_aload C (lv_at hl 0 rfl) dX5_pairWorth_66 ?_
            obtain ⟨b68, f68, hr⟩ := ob hr
            obtain ⟨g68, h68⟩ := rcv_n f68
            obtain ⟨v68, e68, hr⟩ := ob hr
            refine v_callV C (b := b68) h68 (by decide) rfl rfl (k_X8_pointsWith e68) cw_X8_pointsWith w_1041 w_1001 w_1002 (show (parseMethodDescriptor (yX8_pointsWith).desc).map (fun d => d.parameters.length) = some 1 by decide +kernel) ⟨by decide, by decide⟩ (rest := []) (stk2 := [.int v68]) (by rw [g68]; rfl) rfl (Nat.le_of_ble_eq_true rfl) hl dX5_pairWorth_68 ?_
            refine v_iconst C 5 (by decide) dX5_pairWorth_71 ?_
            refine v_isub C dX5_pairWorth_72 ?_
            obtain rfl := os hr
            exact v_iret C dX5_pairWorth_73
          · rw [if_neg c58] at hr
            refine v_sipush C (-9999) (by decide) dX5_pairWorth_61 ?_
            obtain rfl := os hr
            exact v_iret C dX5_pairWorth_64
    · rw [if_pos c21] at hr
      refine v_sipush C (-9999) (by decide) dX5_pairWorth_24 ?_
      obtain rfl := os hr
      exact v_iret C dX5_pairWorth_27
-- X5_worthOf
def f_X5_worthOf_2 : Nat → St → Nat → Int32 → Int32 → Option (Nat × Int32 × Int32)
  | 0, _, _, _, _ => none
  | n + 1, S, x0, x1, x2 =>
    (getI S (some x0) 6 1).bind fun v4 =>
    (if v4 ≤ x2 then
    some (x0, x1, x2)
    else
    (if ((x1 >>> (x2 &&& 31)) &&& 1) = 0 then
    f_X5_worthOf_2 n S x0 x1 (x2 + 1)
    else
    some (x0, x1, x2)))
def f_X5_worthOf_47 : Nat → St → Nat → Int32 → Int32 → Int32 → Int32 → Option (Int32)
  | 0, _, _, _, _, _, _ => none
  | n + 1, S, x0, x2, x3, x4, x5 =>
    (getI S (some x0) 6 1).bind fun v50 =>
    (if v50 ≤ x5 then
    some x4
    else
    (if x4 = (-9999) then
    some x4
    else
    (if ((x3 >>> (x5 &&& 31)) &&& 1) = 1 then
    (rcv S (some x0) 6).bind fun b78 =>
    (f_X5_pairWorth S b78 x2 x5).bind fun v78 =>
    (if v78 = (-9999) then
    f_X5_worthOf_47 n S x0 x2 x3 (-9999) (x5 + 1)
    else
    f_X5_worthOf_47 n S x0 x2 x3 (x4 + v78) (x5 + 1))
    else
    f_X5_worthOf_47 n S x0 x2 x3 x4 (x5 + 1))))
def f_X5_worthOf_24 (S : St) (x0 : Nat) (x1 : Int32) (x2 : Int32) : Option Int32 :=
    (getR S (some x0) 6 2).bind fun v35 =>
    (ldI S v35 15 ((x1 &&& (x1 - 1)) &&& 255)).bind fun v39 =>
    f_X5_worthOf_47 FU S x0 x2 ((x1 &&& (x1 - 1)) &&& 255) v39 (x2 + 1)
def f_X5_worthOf (S : St) (x0 : Nat) (x1 : Int32) : Option Int32 :=
    (f_X5_worthOf_2 FU S x0 x1 0).bind fun (x0, x1_2, x2_2) => f_X5_worthOf_24 S x0 x1_2 x2_2
theorem b_X5_worthOf_2  {S : St} {rr : Int32} (C : Cx p s m args meth c G S yX5_worthOf cX5_worthOf 7 (Option.some Jvm.ClassFile.FieldType.int)) {o : (Nat × Int32 × Int32)} (kX24 : ∀ {x0 : Nat} {x1 : Int32} {x2 : Int32}, o = (x0, x1, x2) → ∀ ls : Array Slot, lv_has ls 7 [(0, va_rf (some x0)), (1, .int x1), (2, .int x2)] → V p l e (rmo 3 67 S) s m args below meth c G S S (QM below args s G S S (some (.int rr))) (F0 m 24 ls [])) : ∀ (n : Nat) {x0 : Nat} {x1 : Int32} {x2 : Int32}, f_X5_worthOf_2 n S x0 x1 x2 = some o → ∀ ls : Array Slot, lv_has ls 7 [(0, va_rf (some x0)), (1, .int x1), (2, .int x2)] → V p l e (rmo 3 67 S) s m args below meth c G S S (QM below args s G S S (some (.int rr))) (F0 m 2 ls []) := by
  intro n
  induction n with
  | zero => intro x0 x1 x2 hr; cases hr
  | succ n ih =>
    intro x0 x1 x2 hr ls hl
    unfold f_X5_worthOf_2 at hr
    refine v_iload_n C (lv_at hl 2 rfl) rfl dX5_worthOf_2 ?_
    refine v_aload_n C (lv_at hl 0 rfl) rfl dX5_worthOf_3 ?_
    obtain ⟨v4, e4, hr⟩ := ob hr
    refine v_getI C fl_RX5_17 rfl e4 dX5_worthOf_4 ?_
    refine v_icmp_ge C 24 (by decide) dX5_worthOf_7 (fun c7 => ?_) (fun c7 => ?_)
    · rw [if_pos c7] at hr
      obtain rfl := os hr
      exact kX24 rfl _ (lv_sub hl [0, 1, 2] rfl)
    · rw [if_neg c7] at hr
      refine v_iload_n C (lv_at hl 1 rfl) rfl dX5_worthOf_10 ?_
      refine v_iload_n C (lv_at hl 2 rfl) rfl dX5_worthOf_11 ?_
      refine v_ishr C dX5_worthOf_12 ?_
      refine v_iconst C 1 (by decide) dX5_worthOf_13 ?_
      refine v_iand C dX5_worthOf_14 ?_
      refine v_if_ne C 24 (by decide) dX5_worthOf_15 (fun c15 => ?_) (fun c15 => ?_)
      · rw [if_neg c15] at hr
        obtain rfl := os hr
        exact kX24 rfl _ (lv_sub hl [0, 1, 2] rfl)
      · rw [if_pos c15] at hr
        refine v_iinc C (x2 + 1) (k0 := 2) (lv' := [(2, .int (x2 + 1)), (0, va_rf (some x0)), (1, .int x1)]) hl rfl rfl (by decide) rfl dX5_worthOf_18 (fun ls hl => ?_)
        refine v_goto C 2 (by decide) dX5_worthOf_21 ?_
        exact ih hr _ (lv_sub hl [1, 2, 0] rfl)
theorem b_X5_worthOf_47  {S : St} {rr : Int32} (C : Cx p s m args meth c G S yX5_worthOf cX5_worthOf 7 (Option.some Jvm.ClassFile.FieldType.int)) {o : (Int32)} (kR : ∀ (v : Int32), o = v → rr = v) : ∀ (n : Nat) {x0 : Nat} {x2 : Int32} {x3 : Int32} {x4 : Int32} {x5 : Int32}, f_X5_worthOf_47 n S x0 x2 x3 x4 x5 = some o → ∀ ls : Array Slot, lv_has ls 7 [(0, va_rf (some x0)), (2, .int x2), (3, .int x3), (4, .int x4), (5, .int x5)] → V p l e (rmo 3 67 S) s m args below meth c G S S (QM below args s G S S (some (.int rr))) (F0 m 47 ls []) := by
  intro n
  induction n with
  | zero => intro x0 x2 x3 x4 x5 hr; cases hr
  | succ n ih =>
    intro x0 x2 x3 x4 x5 hr ls hl
    unfold f_X5_worthOf_47 at hr
    refine v_iload C (lv_at hl 4 rfl) dX5_worthOf_47 ?_
    refine v_aload_n C (lv_at hl 0 rfl) rfl dX5_worthOf_49 ?_
    obtain ⟨v50, e50, hr⟩ := ob hr
    refine v_getI C fl_RX5_17 rfl e50 dX5_worthOf_50 ?_
    refine v_icmp_ge C 110 (by decide) dX5_worthOf_53 (fun c53 => ?_) (fun c53 => ?_)
    · rw [if_pos c53] at hr
      refine v_iload C (lv_at hl 3 rfl) dX5_worthOf_110 ?_
      obtain rfl := os hr
      obtain rfl := kR _ rfl
      exact v_iret C dX5_worthOf_112
    · rw [if_neg c53] at hr
      refine v_iload C (lv_at hl 3 rfl) dX5_worthOf_56 ?_
      refine v_sipush C (-9999) (by decide) dX5_worthOf_58 ?_
      refine v_icmp_eq C 110 (by decide) dX5_worthOf_61 (fun c61 => ?_) (fun c61 => ?_)
      · rw [if_pos c61] at hr
        refine v_iload C (lv_at hl 3 rfl) dX5_worthOf_110 ?_
        obtain rfl := os hr
        obtain rfl := kR _ rfl
        exact v_iret C dX5_worthOf_112
      · rw [if_neg c61] at hr
        refine v_iload_n C (lv_at hl 2 rfl) rfl dX5_worthOf_64 ?_
        refine v_iload C (lv_at hl 4 rfl) dX5_worthOf_65 ?_
        refine v_ishr C dX5_worthOf_67 ?_
        refine v_iconst C 1 (by decide) dX5_worthOf_68 ?_
        refine v_iand C dX5_worthOf_69 ?_
        refine v_iconst C 1 (by decide) dX5_worthOf_70 ?_
        refine v_icmp_ne C 104 (by decide) dX5_worthOf_71 (fun c71 => ?_) (fun c71 => ?_)
        · rw [if_neg c71] at hr
          refine v_iinc C (x5 + 1) (k0 := 4) (lv' := [(5, .int (x5 + 1)), (0, va_rf (some x0)), (2, .int x2), (3, .int x3), (4, .int x4)]) hl rfl rfl (by decide) rfl dX5_worthOf_104 (fun ls hl => ?_)
          refine v_goto C 47 (by decide) dX5_worthOf_107 ?_
          exact ih hr _ (lv_sub hl [1, 2, 3, 4, 0] rfl)
        · rw [if_pos c71] at hr
          refine v_aload_n C (lv_at hl 0 rfl) rfl dX5_worthOf_74 ?_
          refine v_iload_n C (lv_at hl 1 rfl) rfl dX5_worthOf_75 ?_
          refine v_iload C (lv_at hl 4 rfl) dX5_worthOf_76 ?_
          obtain ⟨b78, f78, hr⟩ := ob hr
          obtain ⟨g78, h78⟩ := rcv_n f78
          obtain ⟨v78, e78, hr⟩ := ob hr
          refine v_callV C (b := b78) h78 (by decide) rfl rfl (k_X5_pairWorth e78) cw_X5_pairWorth w_1036 w_1038 w_31 (show (parseMethodDescriptor (yX5_pairWorth).desc).map (fun d => d.parameters.length) = some 2 by decide +kernel) ⟨by decide, by decide⟩ (rest := []) (stk2 := [.int v78]) (by rw [g78]; rfl) rfl (Nat.le_of_ble_eq_true rfl) hl dX5_worthOf_78 ?_
          refine v_istore C (i := 6) (lv' := [(6, .int v78), (0, va_rf (some x0)), (2, .int x2), (3, .int x3), (4, .int x4), (5, .int x5)]) hl (by decide) rfl dX5_worthOf_81 (fun ls hl => ?_)
          refine v_iload C (lv_at hl 0 rfl) dX5_worthOf_83 ?_
          refine v_sipush C (-9999) (by decide) dX5_worthOf_85 ?_
          refine v_icmp_ne C 97 (by decide) dX5_worthOf_88 (fun c88 => ?_) (fun c88 => ?_)
          · rw [if_neg c88] at hr
            refine v_iload C (lv_at hl 4 rfl) dX5_worthOf_97 ?_
            refine v_iload C (lv_at hl 0 rfl) dX5_worthOf_99 ?_
            refine v_iadd C dX5_worthOf_101 ?_
            refine v_istore C (i := 4) (lv' := [(4, .int (x4 + v78)), (6, .int v78), (0, va_rf (some x0)), (2, .int x2), (3, .int x3), (5, .int x5)]) hl (by decide) rfl dX5_worthOf_102 (fun ls hl => ?_)
            refine v_iinc C (x5 + 1) (k0 := 5) (lv' := [(5, .int (x5 + 1)), (4, .int (x4 + v78)), (6, .int v78), (0, va_rf (some x0)), (2, .int x2), (3, .int x3)]) hl rfl rfl (by decide) rfl dX5_worthOf_104 (fun ls hl => ?_)
            refine v_goto C 47 (by decide) dX5_worthOf_107 ?_
            exact ih hr _ (lv_sub hl [3, 4, 5, 1, 0] rfl)
          · rw [if_pos c88] at hr
            refine v_sipush C (-9999) (by decide) dX5_worthOf_91 ?_
            refine v_goto C 102 (by decide) dX5_worthOf_94 ?_
            refine v_istore C (i := 4) (lv' := [(4, .int (-9999)), (6, .int v78), (0, va_rf (some x0)), (2, .int x2), (3, .int x3), (5, .int x5)]) hl (by decide) rfl dX5_worthOf_102 (fun ls hl => ?_)
            refine v_iinc C (x5 + 1) (k0 := 5) (lv' := [(5, .int (x5 + 1)), (4, .int (-9999)), (6, .int v78), (0, va_rf (some x0)), (2, .int x2), (3, .int x3)]) hl rfl rfl (by decide) rfl dX5_worthOf_104 (fun ls hl => ?_)
            refine v_goto C 47 (by decide) dX5_worthOf_107 ?_
            exact ih hr _ (lv_sub hl [3, 4, 5, 1, 0] rfl)
theorem b_X5_worthOf_24  {S : St} {rr : Int32} {x0 : Nat} {x1 : Int32} {x2 : Int32} (C : Cx p s m args meth c G S yX5_worthOf cX5_worthOf 7 (Option.some Jvm.ClassFile.FieldType.int)) (hr : f_X5_worthOf_24 S x0 x1 x2 = some rr) : ∀ ls : Array Slot, lv_has ls 7 [(0, va_rf (some x0)), (1, .int x1), (2, .int x2)] → V p l e (rmo 3 67 S) s m args below meth c G S S (QM below args s G S S (some (.int rr))) (F0 m 24 ls []) := by
  intro ls hl
  unfold f_X5_worthOf_24 at hr
  refine v_iload_n C (lv_at hl 1 rfl) rfl dX5_worthOf_24 ?_
  refine v_iload_n C (lv_at hl 1 rfl) rfl dX5_worthOf_25 ?_
  refine v_iconst C 1 (by decide) dX5_worthOf_26 ?_
  refine v_isub C dX5_worthOf_27 ?_
  refine v_iand C dX5_worthOf_28 ?_
  refine v_sipush C 255 (by decide) dX5_worthOf_29 ?_
  refine v_iand C dX5_worthOf_32 ?_
  refine v_istore_n C (i := 3) (lv' := [(3, .int ((x1 &&& (x1 - 1)) &&& 255)), (0, va_rf (some x0)), (1, .int x1), (2, .int x2)]) hl rfl (by decide) rfl dX5_worthOf_33 (fun ls hl => ?_)
  refine v_aload_n C (lv_at hl 1 rfl) rfl dX5_worthOf_34 ?_
  obtain ⟨v35, e35, hr⟩ := ob hr
  refine v_getR C fl_RX5_21 rfl e35 dX5_worthOf_35 ?_
  refine v_iload_n C (lv_at hl 0 rfl) rfl dX5_worthOf_38 ?_
  obtain ⟨v39, e39, hr⟩ := ob hr
  refine v_ldI_i C e39 dX5_worthOf_39 ?_
  refine v_istore C (i := 4) (lv' := [(4, .int v39), (3, .int ((x1 &&& (x1 - 1)) &&& 255)), (0, va_rf (some x0)), (1, .int x1), (2, .int x2)]) hl (by decide) rfl dX5_worthOf_40 (fun ls hl => ?_)
  refine v_iload_n C (lv_at hl 4 rfl) rfl dX5_worthOf_42 ?_
  refine v_iconst C 1 (by decide) dX5_worthOf_43 ?_
  refine v_iadd C dX5_worthOf_44 ?_
  refine v_istore C (i := 5) (lv' := [(5, .int (x2 + 1)), (4, .int v39), (3, .int ((x1 &&& (x1 - 1)) &&& 255)), (0, va_rf (some x0)), (1, .int x1), (2, .int x2)]) hl (by decide) rfl dX5_worthOf_45 (fun ls hl => ?_)
  exact b_X5_worthOf_47 C (fun _ q => by cases q; rfl) FU hr _ (lv_sub hl [3, 5, 2, 1, 0] rfl)
theorem k_X5_worthOf {l : Launch} {G : Ge} {S : St} {x0 : Nat} {x1 : Int32} {rr : Int32} (hr : f_X5_worthOf S x0 x1 = some rr) : Ct l G yX5_worthOf cX5_worthOf 7 (Option.some Jvm.ClassFile.FieldType.int) S [va_rf (some x0), .int x1] (some (.int rr)) S 3 67 := by
  refine ct_of (by decide +kernel) (Nat.le_of_ble_eq_true rfl) ?_
  intro p e s m args below meth c C ls hl
  have hl : lv_has ls 7 [(0, va_rf (some x0)), (1, .int x1)] := hl
  unfold f_X5_worthOf at hr
  refine v_iconst C 0 (by decide) dX5_worthOf_0 ?_
  refine v_istore_n C (i := 2) (lv' := [(2, .int 0), (0, va_rf (some x0)), (1, .int x1)]) hl rfl (by decide) rfl dX5_worthOf_1 (fun ls hl => ?_)
  obtain ⟨o2, e2, hr⟩ := ob hr
  refine b_X5_worthOf_2 C ?_ FU e2 _ (lv_sub hl [1, 2, 0] rfl)
  · intro x0 x1_2 x2_2 q ls hl
    subst q
    (try dsimp only at hr)
    exact b_X5_worthOf_24 C hr _ (lv_sub hl [0, 1, 2] rfl)
-- X5_reckon
def f_X5_reckon_23 : Nat → St → Nat → Int32 → Option (Nat × St)
  | 0, _, _, _ => none
  | n + 1, S, x0, x1 =>
    (rcv S (some x0) 6).bind fun b25 =>
    (f_X5_everybody S b25).bind fun v25 =>
    (if v25 < x1 then
    some (x0, S)
    else
    (if (256 : Int32) ≤ x1 then
    some (x0, S)
    else
    (getR S (some x0) 6 2).bind fun v39 =>
    (rcv S (some x0) 6).bind fun b45 =>
    (f_X5_worthOf S b45 x1).bind fun v45 =>
    (stI S v39 15 x1 v45).bind fun S48 =>
    f_X5_reckon_23 n S48 x0 (x1 + 1)))
def f_X5_reckon_57 : Nat → St → Nat → Int32 → Option (St)
  | 0, _, _, _ => none
  | n + 1, S, x0, x1 =>
    (rcv S (some x0) 6).bind fun b59 =>
    (f_X5_everybody S b59).bind fun v59 =>
    (if v59 < x1 then
    some S
    else
    (if (256 : Int32) ≤ x1 then
    some S
    else
    (rcv S (some x0) 6).bind fun b74 =>
    (f_X5_part S b74 x1).bind fun S74 =>
    f_X5_reckon_57 n S74 x0 (x1 + 1)))
def f_X5_reckon (S : St) (x0 : Nat) : Option St :=
    (getR S (some x0) 6 3).bind fun v1 =>
    (stI S v1 15 0 0).bind fun S6 =>
    (getR S6 (some x0) 6 4).bind fun v8 =>
    (stI S6 v8 15 0 1).bind fun S13 =>
    (getR S13 (some x0) 6 2).bind fun v15 =>
    (stI S13 v15 15 0 0).bind fun S20 =>
    (f_X5_reckon_23 FU S20 x0 1).bind fun (x0, S_23) => f_X5_reckon_57 FU S_23 x0 1
theorem b_X5_reckon_23  {S0 S' : St} (C : Cx p s m args meth c G S0 yX5_reckon cX5_reckon 2 (Option.none : Option Jvm.ClassFile.FieldType)) {o : (Nat × St)} (kX55 : ∀ {x0 : Nat} {Z : St}, o = (x0, Z) → ∀ ls : Array Slot, lv_has ls 2 [(0, va_rf (some x0))] → V p l e (rmo 4 93 S0) s m args below meth c G S0 Z (QM below args s G S0 S' none) (F0 m 55 ls [])) : ∀ (n : Nat) {S : St} {x0 : Nat} {x1 : Int32}, f_X5_reckon_23 n S x0 x1 = some o → ∀ ls : Array Slot, lv_has ls 2 [(0, va_rf (some x0)), (1, .int x1)] → V p l e (rmo 4 93 S0) s m args below meth c G S0 S (QM below args s G S0 S' none) (F0 m 23 ls []) := by
  intro n
  induction n with
  | zero => intro S x0 x1 hr; cases hr
  | succ n ih =>
    intro S x0 x1 hr ls hl
    unfold f_X5_reckon_23 at hr
    refine v_iload_n C (lv_at hl 1 rfl) rfl dX5_reckon_23 ?_
    refine v_aload_n C (lv_at hl 0 rfl) rfl dX5_reckon_24 ?_
    obtain ⟨b25, f25, hr⟩ := ob hr
    obtain ⟨g25, h25⟩ := rcv_n f25
    obtain ⟨v25, e25, hr⟩ := ob hr
    refine v_callV C (b := b25) h25 (by decide) rfl rfl (k_X5_everybody e25) cw_X5_everybody w_1028 w_1030 w_29 (show (parseMethodDescriptor (yX5_everybody).desc).map (fun d => d.parameters.length) = some 0 by decide +kernel) ⟨by decide, by decide⟩ (rest := [.int x1]) (stk2 := [.int v25, .int x1]) (by rw [g25]; rfl) rfl (Nat.le_of_ble_eq_true rfl) hl dX5_reckon_25 ?_
    refine v_icmp_gt C 55 (by decide) dX5_reckon_28 (fun c28 => ?_) (fun c28 => ?_)
    · rw [if_pos c28] at hr
      obtain rfl := os hr
      exact kX55 rfl _ (lv_sub hl [0] rfl)
    · rw [if_neg c28] at hr
      refine v_iload_n C (lv_at hl 1 rfl) rfl dX5_reckon_31 ?_
      refine v_sipush C 256 (by decide) dX5_reckon_32 ?_
      refine v_icmp_ge C 55 (by decide) dX5_reckon_35 (fun c35 => ?_) (fun c35 => ?_)
      · rw [if_pos c35] at hr
        obtain rfl := os hr
        exact kX55 rfl _ (lv_sub hl [0] rfl)
      · rw [if_neg c35] at hr
        refine v_aload_n C (lv_at hl 0 rfl) rfl dX5_reckon_38 ?_
        obtain ⟨v39, e39, hr⟩ := ob hr
        refine v_getR C fl_RX5_21 rfl e39 dX5_reckon_39 ?_
        refine v_iload_n C (lv_at hl 1 rfl) rfl dX5_reckon_42 ?_
        refine v_aload_n C (lv_at hl 0 rfl) rfl dX5_reckon_43 ?_
        refine v_iload_n C (lv_at hl 1 rfl) rfl dX5_reckon_44 ?_
        obtain ⟨b45, f45, hr⟩ := ob hr
        obtain ⟨g45, h45⟩ := rcv_n f45
        obtain ⟨v45, e45, hr⟩ := ob hr
        refine v_callV C (b := b45) h45 (by decide) rfl rfl (k_X5_worthOf e45) cw_X5_worthOf w_1032 w_1034 w_30 (show (parseMethodDescriptor (yX5_worthOf).desc).map (fun d => d.parameters.length) = some 1 by decide +kernel) ⟨by decide, by decide⟩ (rest := [.int x1, va_rf v39]) (stk2 := [.int v45, .int x1, va_rf v39]) (by rw [g45]; rfl) rfl (by simp [rf_cat, cat_i, cat_l]) hl dX5_reckon_45 ?_
        obtain ⟨S48, e48, hr⟩ := ob hr
        refine v_stI_i C e48 dX5_reckon_48 ?_
        refine v_iinc C (x1 + 1) (k0 := 1) (lv' := [(1, .int (x1 + 1)), (0, va_rf (some x0))]) hl rfl rfl (by decide) rfl dX5_reckon_49 (fun ls hl => ?_)
        refine v_goto C 23 (by decide) dX5_reckon_52 ?_
        exact ih hr _ (lv_sub hl [1, 0] rfl)
theorem b_X5_reckon_57  {S0 S' : St} (C : Cx p s m args meth c G S0 yX5_reckon cX5_reckon 2 (Option.none : Option Jvm.ClassFile.FieldType)) {o : (St)} (kR : ∀ (Z : St), o = Z → S' = Z) : ∀ (n : Nat) {S : St} {x0 : Nat} {x1 : Int32}, f_X5_reckon_57 n S x0 x1 = some o → ∀ ls : Array Slot, lv_has ls 2 [(0, va_rf (some x0)), (1, .int x1)] → V p l e (rmo 4 93 S0) s m args below meth c G S0 S (QM below args s G S0 S' none) (F0 m 57 ls []) := by
  intro n
  induction n with
  | zero => intro S x0 x1 hr; cases hr
  | succ n ih =>
    intro S x0 x1 hr ls hl
    unfold f_X5_reckon_57 at hr
    refine v_iload_n C (lv_at hl 1 rfl) rfl dX5_reckon_57 ?_
    refine v_aload_n C (lv_at hl 0 rfl) rfl dX5_reckon_58 ?_
    obtain ⟨b59, f59, hr⟩ := ob hr
    obtain ⟨g59, h59⟩ := rcv_n f59
    obtain ⟨v59, e59, hr⟩ := ob hr
    refine v_callV C (b := b59) h59 (by decide) rfl rfl (k_X5_everybody e59) cw_X5_everybody w_1028 w_1030 w_29 (show (parseMethodDescriptor (yX5_everybody).desc).map (fun d => d.parameters.length) = some 0 by decide +kernel) ⟨by decide, by decide⟩ (rest := [.int x1]) (stk2 := [.int v59, .int x1]) (by rw [g59]; rfl) rfl (Nat.le_of_ble_eq_true rfl) hl dX5_reckon_59 ?_
    refine v_icmp_gt C 83 (by decide) dX5_reckon_62 (fun c62 => ?_) (fun c62 => ?_)
    · rw [if_pos c62] at hr
      obtain rfl := os hr
      obtain rfl := kR _ rfl
      exact v_vret C dX5_reckon_83
    · rw [if_neg c62] at hr
      refine v_iload_n C (lv_at hl 1 rfl) rfl dX5_reckon_65 ?_
      refine v_sipush C 256 (by decide) dX5_reckon_66 ?_
      refine v_icmp_ge C 83 (by decide) dX5_reckon_69 (fun c69 => ?_) (fun c69 => ?_)
      · rw [if_pos c69] at hr
        obtain rfl := os hr
        obtain rfl := kR _ rfl
        exact v_vret C dX5_reckon_83
      · rw [if_neg c69] at hr
        refine v_aload_n C (lv_at hl 0 rfl) rfl dX5_reckon_72 ?_
        refine v_iload_n C (lv_at hl 1 rfl) rfl dX5_reckon_73 ?_
        obtain ⟨b74, f74, hr⟩ := ob hr
        obtain ⟨g74, h74⟩ := rcv_n f74
        obtain ⟨S74, e74, hr⟩ := ob hr
        refine v_callV C (b := b74) h74 (by decide) rfl rfl (k_X5_part e74) cw_X5_part w_1042 w_1044 w_32 (show (parseMethodDescriptor (yX5_part).desc).map (fun d => d.parameters.length) = some 1 by decide +kernel) ⟨by decide, by decide⟩ (rest := []) (stk2 := []) (by rw [g74]; rfl) rfl (Nat.le_of_ble_eq_true rfl) hl dX5_reckon_74 ?_
        refine v_iinc C (x1 + 1) (k0 := 1) (lv' := [(1, .int (x1 + 1)), (0, va_rf (some x0))]) hl rfl rfl (by decide) rfl dX5_reckon_77 (fun ls hl => ?_)
        refine v_goto C 57 (by decide) dX5_reckon_80 ?_
        exact ih hr _ (lv_sub hl [1, 0] rfl)
theorem k_X5_reckon {l : Launch} {G : Ge} {S S' : St} {x0 : Nat} (hr : f_X5_reckon S x0 = some S') : Ct l G yX5_reckon cX5_reckon 2 (Option.none : Option Jvm.ClassFile.FieldType) S [va_rf (some x0)] none S' 4 93 := by
  refine ct_of (by decide +kernel) (Nat.le_of_ble_eq_true rfl) ?_
  intro p e s m args below meth c C ls hl
  have hl : lv_has ls 2 [(0, va_rf (some x0))] := hl
  unfold f_X5_reckon at hr
  refine v_aload_n C (lv_at hl 0 rfl) rfl dX5_reckon_0 ?_
  obtain ⟨v1, e1, hr⟩ := ob hr
  refine v_getR C fl_RX5_25 rfl e1 dX5_reckon_1 ?_
  refine v_iconst C 0 (by decide) dX5_reckon_4 ?_
  refine v_iconst C 0 (by decide) dX5_reckon_5 ?_
  obtain ⟨S6, e6, hr⟩ := ob hr
  refine v_stI_i C e6 dX5_reckon_6 ?_
  refine v_aload_n C (lv_at hl 0 rfl) rfl dX5_reckon_7 ?_
  obtain ⟨v8, e8, hr⟩ := ob hr
  refine v_getR C fl_RX5_28 rfl e8 dX5_reckon_8 ?_
  refine v_iconst C 0 (by decide) dX5_reckon_11 ?_
  refine v_iconst C 1 (by decide) dX5_reckon_12 ?_
  obtain ⟨S13, e13, hr⟩ := ob hr
  refine v_stI_i C e13 dX5_reckon_13 ?_
  refine v_aload_n C (lv_at hl 0 rfl) rfl dX5_reckon_14 ?_
  obtain ⟨v15, e15, hr⟩ := ob hr
  refine v_getR C fl_RX5_21 rfl e15 dX5_reckon_15 ?_
  refine v_iconst C 0 (by decide) dX5_reckon_18 ?_
  refine v_iconst C 0 (by decide) dX5_reckon_19 ?_
  obtain ⟨S20, e20, hr⟩ := ob hr
  refine v_stI_i C e20 dX5_reckon_20 ?_
  refine v_iconst C 1 (by decide) dX5_reckon_21 ?_
  refine v_istore_n C (i := 1) (lv' := [(1, .int 1), (0, va_rf (some x0))]) hl rfl (by decide) rfl dX5_reckon_22 (fun ls hl => ?_)
  obtain ⟨o23, e23, hr⟩ := ob hr
  refine b_X5_reckon_23 C ?_ FU e23 _ (lv_sub hl [1, 0] rfl)
  · intro x0 S_23 q ls hl
    subst q
    (try dsimp only at hr)
    refine v_iconst C 1 (by decide) dX5_reckon_55 ?_
    refine v_istore_n C (i := 1) (lv' := [(1, .int 1), (0, va_rf (some x0))]) hl rfl (by decide) rfl dX5_reckon_56 (fun ls hl => ?_)
    exact b_X5_reckon_57 C (fun _ q => by cases q; rfl) FU hr _ (lv_sub hl [1, 0] rfl)
-- X5_seat
def f_X5_seat (S : St) (x0 : Nat) (x1 : Option Nat) : Option (Int32 × St) :=
    (getI S (some x0) 6 1).bind fun v1 =>
    (getR S (some x0) 6 0).bind fun v5 =>
    (alen S v5).bind fun v8 =>
    (f_X11_isWithin S v1 v8).bind fun v9 =>
    (if v9 = 0 then
    some (0, S)
    else
    (getR S (some x0) 6 0).bind fun v18 =>
    (getI S (some x0) 6 1).bind fun v22 =>
    (stR S v18 19 v22 x1).bind fun S26 =>
    (getI S26 (some x0) 6 1).bind fun v29 =>
    (putI S26 (some x0) 6 1 (v29 + 1)).bind fun S34 =>
    some (1, S34))
theorem k_X5_seat {l : Launch} {G : Ge} {S S' : St} {x0 : Nat} {x1 : Option Nat} {rr : Int32} (hr : f_X5_seat S x0 x1 = some (rr, S')) : Ct l G yX5_seat cX5_seat 2 (Option.some Jvm.ClassFile.FieldType.boolean) S [va_rf (some x0), va_rf x1] (some (.int rr)) S' 1 21 := by
  refine ct_of (by decide +kernel) (by cases x1 <;> exact Nat.le_of_ble_eq_true rfl) ?_
  intro p e s m args below meth c C ls hl
  have hl : lv_has ls 2 [(0, va_rf (some x0)), (1, va_rf x1)] := by clear hr; cases x1 <;> exact hl
  unfold f_X5_seat at hr
  refine v_aload_n C (lv_at hl 0 rfl) rfl dX5_seat_0 ?_
  obtain ⟨v1, e1, hr⟩ := ob hr
  refine v_getI C fl_RX5_17 rfl e1 dX5_seat_1 ?_
  refine v_aload_n C (lv_at hl 0 rfl) rfl dX5_seat_4 ?_
  obtain ⟨v5, e5, hr⟩ := ob hr
  refine v_getR C fl_RX5_11 rfl e5 dX5_seat_5 ?_
  obtain ⟨v8, e8, hr⟩ := ob hr
  refine v_alen C e8 dX5_seat_8 ?_
  obtain ⟨v9, e9, hr⟩ := ob hr
  refine v_callSN C "SleepOffice" (k_X11_isWithin e9) cw_X11_isWithin (by decide +kernel) w_350 (show (parseMethodDescriptor (yX11_isWithin).desc).map (fun d => d.parameters.length) = some 2 by decide +kernel) ⟨by decide, by decide⟩ (rest := []) (stk2 := [.int v9]) rfl rfl (Nat.le_of_ble_eq_true rfl) hl dX5_seat_9 ?_
  refine v_if_ne C 17 (by decide) dX5_seat_12 (fun c12 => ?_) (fun c12 => ?_)
  · rw [if_neg c12] at hr
    refine v_aload_n C (lv_at hl 0 rfl) rfl dX5_seat_17 ?_
    obtain ⟨v18, e18, hr⟩ := ob hr
    refine v_getR C fl_RX5_11 rfl e18 dX5_seat_18 ?_
    refine v_aload_n C (lv_at hl 0 rfl) rfl dX5_seat_21 ?_
    obtain ⟨v22, e22, hr⟩ := ob hr
    refine v_getI C fl_RX5_17 rfl e22 dX5_seat_22 ?_
    refine v_aload_n C (lv_at hl 1 rfl) rfl dX5_seat_25 ?_
    obtain ⟨S26, e26, hr⟩ := ob hr
    refine v_stR C (t0 := 5) (nm := RX8) e26 (by decide) dX5_seat_26 ?_
    refine v_aload_n C (lv_at hl 0 rfl) rfl dX5_seat_27 ?_
    refine v_dup C (rf_cat _) dX5_seat_28 ?_
    obtain ⟨v29, e29, hr⟩ := ob hr
    refine v_getI C fl_RX5_17 rfl e29 dX5_seat_29 ?_
    refine v_iconst C 1 (by decide) dX5_seat_32 ?_
    refine v_iadd C dX5_seat_33 ?_
    obtain ⟨S34, e34, hr⟩ := ob hr
    refine v_putI C fl_RX5_17 (Or.inl rfl) rfl e34 dX5_seat_34 ?_
    refine v_iconst C 1 (by decide) dX5_seat_37 ?_
    obtain ⟨rfl, rfl⟩ := Prod.mk.inj (os hr)
    exact v_zret C rfl dX5_seat_38
  · rw [if_pos c12] at hr
    refine v_iconst C 0 (by decide) dX5_seat_15 ?_
    obtain ⟨rfl, rfl⟩ := Prod.mk.inj (os hr)
    exact v_zret C rfl dX5_seat_16
-- X11_gather
def f_X11_gather_22 : Nat → St → Nat → Int32 → Int32 → Option ((Int32 × St))
  | 0, _, _, _, _ => none
  | n + 1, S, x0, x1, x2 =>
    (if (24 : Int32) ≤ x2 then
    (getR S (some x0) 12 13).bind fun v67 =>
    (rcv S v67 6).bind fun b70 =>
    (f_X5_reckon S b70).bind fun S70 =>
    some (1, S70)
    else
    (if ((x1 >>> (x2 &&& 31)) &&& 1) = 1 then
    (rcv S (some x0) 12).bind fun b39 =>
    (f_X11_personAt S b39 x2).bind fun v39 =>
    (if v39 = none then
    some (0, S)
    else
    (getR S (some x0) 12 13).bind fun v48 =>
    (rcv S v48 6).bind fun b52 =>
    (f_X5_seat S b52 v39).bind fun (v52, S52) =>
    (if v52 = 0 then
    some (0, S52)
    else
    f_X11_gather_22 n S52 x0 x1 (x2 + 1)))
    else
    f_X11_gather_22 n S x0 x1 (x2 + 1)))
def f_X11_gather (S : St) (x0 : Nat) (x1 : Int32) : Option (Int32 × St) :=
    (getR S (some x0) 12 13).bind fun v1 =>
    (rcv S v1 6).bind fun b4 =>
    (f_X5_clear S b4).bind fun S4 =>
    (if x1 ≤ 0 then
    some (0, S4)
    else
    (if (x1 >>> (24 &&& 31)) = 0 then
    f_X11_gather_22 FU S4 x0 x1 0
    else
    some (0, S4)))
theorem b_X11_gather_22  {S0 S' : St} {rr : Int32} (C : Cx p s m args meth c G S0 yX11_gather cX11_gather 4 (Option.some Jvm.ClassFile.FieldType.boolean)) {o : ((Int32 × St))} (kR : ∀ (v : Int32) (Z : St), o = (v, Z) → rr = v ∧ S' = Z) : ∀ (n : Nat) {S : St} {x0 : Nat} {x1 : Int32} {x2 : Int32}, f_X11_gather_22 n S x0 x1 x2 = some o → ∀ ls : Array Slot, lv_has ls 4 [(0, va_rf (some x0)), (1, .int x1), (2, .int x2)] → V p l e (rmo 5 114 S0) s m args below meth c G S0 S (QM below args s G S0 S' (some (.int rr))) (F0 m 22 ls []) := by
  intro n
  induction n with
  | zero => intro S x0 x1 x2 hr; cases hr
  | succ n ih =>
    intro S x0 x1 x2 hr ls hl
    unfold f_X11_gather_22 at hr
    refine v_iload_n C (lv_at hl 2 rfl) rfl dX11_gather_22 ?_
    refine v_bipush C 24 (by decide) dX11_gather_23 ?_
    refine v_icmp_ge C 66 (by decide) dX11_gather_25 (fun c25 => ?_) (fun c25 => ?_)
    · rw [if_pos c25] at hr
      refine v_aload_n C (lv_at hl 0 rfl) rfl dX11_gather_66 ?_
      obtain ⟨v67, e67, hr⟩ := ob hr
      refine v_getR C fl_RX11_68 rfl e67 dX11_gather_67 ?_
      obtain ⟨b70, f70, hr⟩ := ob hr
      obtain ⟨g70, h70⟩ := rcv_n f70
      obtain ⟨S70, e70, hr⟩ := ob hr
      refine v_callV C (b := b70) h70 (by decide) rfl rfl (k_X5_reckon e70) cw_X5_reckon w_1024 w_1025 w_1026 (show (parseMethodDescriptor (yX5_reckon).desc).map (fun d => d.parameters.length) = some 0 by decide +kernel) ⟨by decide, by decide⟩ (rest := []) (stk2 := []) (by rw [g70]; rfl) rfl (Nat.le_of_ble_eq_true rfl) hl dX11_gather_70 ?_
      refine v_iconst C 1 (by decide) dX11_gather_73 ?_
      obtain rfl := os hr
      obtain ⟨rfl, rfl⟩ := kR _ _ rfl
      exact v_zret C rfl dX11_gather_74
    · rw [if_neg c25] at hr
      refine v_iload_n C (lv_at hl 1 rfl) rfl dX11_gather_28 ?_
      refine v_iload_n C (lv_at hl 2 rfl) rfl dX11_gather_29 ?_
      refine v_ishr C dX11_gather_30 ?_
      refine v_iconst C 1 (by decide) dX11_gather_31 ?_
      refine v_iand C dX11_gather_32 ?_
      refine v_iconst C 1 (by decide) dX11_gather_33 ?_
      refine v_icmp_ne C 60 (by decide) dX11_gather_34 (fun c34 => ?_) (fun c34 => ?_)
      · rw [if_neg c34] at hr
        refine v_iinc C (x2 + 1) (k0 := 2) (lv' := [(2, .int (x2 + 1)), (0, va_rf (some x0)), (1, .int x1)]) hl rfl rfl (by decide) rfl dX11_gather_60 (fun ls hl => ?_)
        refine v_goto C 22 (by decide) dX11_gather_63 ?_
        exact ih hr _ (lv_sub hl [1, 2, 0] rfl)
      · rw [if_pos c34] at hr
        refine v_aload_n C (lv_at hl 0 rfl) rfl dX11_gather_37 ?_
        refine v_iload_n C (lv_at hl 2 rfl) rfl dX11_gather_38 ?_
        obtain ⟨b39, f39, hr⟩ := ob hr
        obtain ⟨g39, h39⟩ := rcv_n f39
        obtain ⟨v39, e39, hr⟩ := ob hr
        refine v_callV C (b := b39) h39 (by decide) rfl rfl (k_X11_personAt e39) cw_X11_personAt w_486 w_488 w_6 (show (parseMethodDescriptor (yX11_personAt).desc).map (fun d => d.parameters.length) = some 1 by decide +kernel) ⟨by decide, by decide⟩ (rest := []) (stk2 := [va_rf v39]) (by rw [g39]; rfl) rfl (Nat.le_of_ble_eq_true rfl) hl dX11_gather_39 ?_
        refine v_astore_n C (i := 3) (lv' := [(3, va_rf v39), (0, va_rf (some x0)), (1, .int x1), (2, .int x2)]) hl rfl (by decide) rfl dX11_gather_42 (fun ls hl => ?_)
        refine v_aload_n C (lv_at hl 0 rfl) rfl dX11_gather_43 ?_
        refine v_ifnull C 58 (by decide) dX11_gather_44 (fun c44 => ?_) (fun c44 => ?_)
        · rw [if_pos c44] at hr
          refine v_iconst C 0 (by decide) dX11_gather_58 ?_
          obtain rfl := os hr
          obtain ⟨rfl, rfl⟩ := kR _ _ rfl
          exact v_zret C rfl dX11_gather_59
        · rw [if_neg c44] at hr
          refine v_aload_n C (lv_at hl 1 rfl) rfl dX11_gather_47 ?_
          obtain ⟨v48, e48, hr⟩ := ob hr
          refine v_getR C fl_RX11_68 rfl e48 dX11_gather_48 ?_
          refine v_aload_n C (lv_at hl 0 rfl) rfl dX11_gather_51 ?_
          obtain ⟨b52, f52, hr⟩ := ob hr
          obtain ⟨g52, h52⟩ := rcv_n f52
          obtain ⟨⟨v52, S52⟩, e52, hr⟩ := ob hr
          (try dsimp only at hr)
          refine v_callV C (b := b52) h52 (by decide) rfl rfl (k_X5_seat e52) cw_X5_seat w_1019 w_1020 w_1021 (show (parseMethodDescriptor (yX5_seat).desc).map (fun d => d.parameters.length) = some 1 by decide +kernel) ⟨by decide, by decide⟩ (rest := []) (stk2 := [.int v52]) (by rw [g52]; rfl) rfl (Nat.le_of_ble_eq_true rfl) hl dX11_gather_52 ?_
          refine v_if_ne C 60 (by decide) dX11_gather_55 (fun c55 => ?_) (fun c55 => ?_)
          · rw [if_neg c55] at hr
            refine v_iinc C (x2 + 1) (k0 := 3) (lv' := [(2, .int (x2 + 1)), (3, va_rf v39), (0, va_rf (some x0)), (1, .int x1)]) hl rfl rfl (by decide) rfl dX11_gather_60 (fun ls hl => ?_)
            refine v_goto C 22 (by decide) dX11_gather_63 ?_
            exact ih hr _ (lv_sub hl [2, 3, 0] rfl)
          · rw [if_pos c55] at hr
            refine v_iconst C 0 (by decide) dX11_gather_58 ?_
            obtain rfl := os hr
            obtain ⟨rfl, rfl⟩ := kR _ _ rfl
            exact v_zret C rfl dX11_gather_59
theorem k_X11_gather {l : Launch} {G : Ge} {S S' : St} {x0 : Nat} {x1 : Int32} {rr : Int32} (hr : f_X11_gather S x0 x1 = some (rr, S')) : Ct l G yX11_gather cX11_gather 4 (Option.some Jvm.ClassFile.FieldType.boolean) S [va_rf (some x0), .int x1] (some (.int rr)) S' 5 114 := by
  refine ct_of (by decide +kernel) (Nat.le_of_ble_eq_true rfl) ?_
  intro p e s m args below meth c C ls hl
  have hl : lv_has ls 4 [(0, va_rf (some x0)), (1, .int x1)] := hl
  unfold f_X11_gather at hr
  refine v_aload_n C (lv_at hl 0 rfl) rfl dX11_gather_0 ?_
  obtain ⟨v1, e1, hr⟩ := ob hr
  refine v_getR C fl_RX11_68 rfl e1 dX11_gather_1 ?_
  obtain ⟨b4, f4, hr⟩ := ob hr
  obtain ⟨g4, h4⟩ := rcv_n f4
  obtain ⟨S4, e4, hr⟩ := ob hr
  refine v_callV C (b := b4) h4 (by decide) rfl rfl (k_X5_clear e4) cw_X5_clear w_1015 w_1016 w_1017 (show (parseMethodDescriptor (yX5_clear).desc).map (fun d => d.parameters.length) = some 0 by decide +kernel) ⟨by decide, by decide⟩ (rest := []) (stk2 := []) (by rw [g4]; rfl) rfl (Nat.le_of_ble_eq_true rfl) hl dX11_gather_4 ?_
  refine v_iload_n C (lv_at hl 1 rfl) rfl dX11_gather_7 ?_
  refine v_if_le C 18 (by decide) dX11_gather_8 (fun c8 => ?_) (fun c8 => ?_)
  · rw [if_pos c8] at hr
    refine v_iconst C 0 (by decide) dX11_gather_18 ?_
    obtain ⟨rfl, rfl⟩ := Prod.mk.inj (os hr)
    exact v_zret C rfl dX11_gather_19
  · rw [if_neg c8] at hr
    refine v_iload_n C (lv_at hl 1 rfl) rfl dX11_gather_11 ?_
    refine v_bipush C 24 (by decide) dX11_gather_12 ?_
    refine v_ishr C dX11_gather_14 ?_
    refine v_if_eq C 20 (by decide) dX11_gather_15 (fun c15 => ?_) (fun c15 => ?_)
    · rw [if_pos c15] at hr
      refine v_iconst C 0 (by decide) dX11_gather_20 ?_
      refine v_istore_n C (i := 2) (lv' := [(2, .int 0), (0, va_rf (some x0)), (1, .int x1)]) hl rfl (by decide) rfl dX11_gather_21 (fun ls hl => ?_)
      exact b_X11_gather_22 C (fun _ _ q => by cases q; exact ⟨rfl, rfl⟩) FU hr _ (lv_sub hl [1, 2, 0] rfl)
    · rw [if_neg c15] at hr
      refine v_iconst C 0 (by decide) dX11_gather_18 ?_
      obtain ⟨rfl, rfl⟩ := Prod.mk.inj (os hr)
      exact v_zret C rfl dX11_gather_19
-- X11_grow
def f_X11_grow (S : St) (x0 : Nat) (x1 : Int32) (x2 : Int32) (x3 : Int32) (x4 : Int32) : Option (Int32 × St) :=
    (rcv S (some x0) 12).bind fun b2 =>
    (f_X11_accountAt S b2 x1).bind fun v2 =>
    (if v2 = none then
    some (0, S)
    else
    (rcv S (some x0) 12).bind fun b16 =>
    (f_X11_takesEntry S b16 v2 x2).bind fun v16 =>
    (if v16 = 0 then
    some (0, S)
    else
    (if x3 < 1 then
    some (0, S)
    else
    (if (9 : Int32) < x3 then
    some (0, S)
    else
    (if x4 < 1 then
    some (0, S)
    else
    (if x4 ≤ 9 then
    (getI S v2 1 6).bind fun v50 =>
    (if (4 : Int32) ≤ v50 then
    some (0, S)
    else
    (rcv S v2 1).bind fun b60 =>
    (f_X0_grewOn S b60 x2).bind fun v60 =>
    (if v60 = 0 then
    (newO S 4).bind fun (a70, S70) =>
    (getI S70 (some x0) 12 0).bind fun v77 =>
    (rcv S70 (some a70) 4).bind fun b84 =>
    (f_X3_init S70 b84 (-1) x2 v77 x3 x4 0).bind fun S84 =>
    (rcv S84 v2 1).bind fun b87 =>
    (f_X0_tell S84 b87 (some a70)).bind fun S87 =>
    (getI S87 v2 1 6).bind fun v93 =>
    (putI S87 v2 1 6 (v93 + 1)).bind fun S98 =>
    (getI S98 (some x0) 12 5).bind fun v103 =>
    (putI S98 (some x0) 12 5 (v103 + 1)).bind fun S108 =>
    some (1, S108)
    else
    some (0, S)))
    else
    some (0, S)))))))
theorem k_X11_grow {l : Launch} {G : Ge} {S S' : St} {x0 : Nat} {x1 : Int32} {x2 : Int32} {x3 : Int32} {x4 : Int32} {rr : Int32} (hr : f_X11_grow S x0 x1 x2 x3 x4 = some (rr, S')) : Ct l G yX11_grow cX11_grow 6 (Option.some Jvm.ClassFile.FieldType.boolean) S [va_rf (some x0), .int x1, .int x2, .int x3, .int x4] (some (.int rr)) S' 7 169 := by
  refine ct_of (by decide +kernel) (Nat.le_of_ble_eq_true rfl) ?_
  intro p e s m args below meth c C ls hl
  have hl : lv_has ls 6 [(0, va_rf (some x0)), (1, .int x1), (2, .int x2), (3, .int x3), (4, .int x4)] := hl
  unfold f_X11_grow at hr
  refine v_aload_n C (lv_at hl 0 rfl) rfl dX11_grow_0 ?_
  refine v_iload_n C (lv_at hl 1 rfl) rfl dX11_grow_1 ?_
  obtain ⟨b2, f2, hr⟩ := ob hr
  obtain ⟨g2, h2⟩ := rcv_n f2
  obtain ⟨v2, e2, hr⟩ := ob hr
  refine v_callV C (b := b2) h2 (by decide) rfl rfl (k_X11_accountAt e2) cw_X11_accountAt w_606 w_608 w_8 (show (parseMethodDescriptor (yX11_accountAt).desc).map (fun d => d.parameters.length) = some 1 by decide +kernel) ⟨by decide, by decide⟩ (rest := []) (stk2 := [va_rf v2]) (by rw [g2]; rfl) rfl (Nat.le_of_ble_eq_true rfl) hl dX11_grow_2 ?_
  refine v_astore C (i := 5) (lv' := [(5, va_rf v2), (0, va_rf (some x0)), (1, .int x1), (2, .int x2), (3, .int x3), (4, .int x4)]) hl (by decide) rfl dX11_grow_5 (fun ls hl => ?_)
  refine v_aload C (lv_at hl 0 rfl) dX11_grow_7 ?_
  refine v_ifnull C 46 (by decide) dX11_grow_9 (fun c9 => ?_) (fun c9 => ?_)
  · rw [if_pos c9] at hr
    refine v_iconst C 0 (by decide) dX11_grow_46 ?_
    obtain ⟨rfl, rfl⟩ := Prod.mk.inj (os hr)
    exact v_zret C rfl dX11_grow_47
  · rw [if_neg c9] at hr
    refine v_aload_n C (lv_at hl 1 rfl) rfl dX11_grow_12 ?_
    refine v_aload C (lv_at hl 0 rfl) dX11_grow_13 ?_
    refine v_iload_n C (lv_at hl 3 rfl) rfl dX11_grow_15 ?_
    obtain ⟨b16, f16, hr⟩ := ob hr
    obtain ⟨g16, h16⟩ := rcv_n f16
    obtain ⟨v16, e16, hr⟩ := ob hr
    refine v_callV C (b := b16) h16 (by decide) rfl rfl (k_X11_takesEntry e16) cw_X11_takesEntry w_610 w_612 w_9 (show (parseMethodDescriptor (yX11_takesEntry).desc).map (fun d => d.parameters.length) = some 2 by decide +kernel) ⟨by decide, by decide⟩ (rest := []) (stk2 := [.int v16]) (by rw [g16]; rfl) rfl (Nat.le_of_ble_eq_true rfl) hl dX11_grow_16 ?_
    refine v_if_eq C 46 (by decide) dX11_grow_19 (fun c19 => ?_) (fun c19 => ?_)
    · rw [if_pos c19] at hr
      refine v_iconst C 0 (by decide) dX11_grow_46 ?_
      obtain ⟨rfl, rfl⟩ := Prod.mk.inj (os hr)
      exact v_zret C rfl dX11_grow_47
    · rw [if_neg c19] at hr
      refine v_iload_n C (lv_at hl 4 rfl) rfl dX11_grow_22 ?_
      refine v_iconst C 1 (by decide) dX11_grow_23 ?_
      refine v_icmp_lt C 46 (by decide) dX11_grow_24 (fun c24 => ?_) (fun c24 => ?_)
      · rw [if_pos c24] at hr
        refine v_iconst C 0 (by decide) dX11_grow_46 ?_
        obtain ⟨rfl, rfl⟩ := Prod.mk.inj (os hr)
        exact v_zret C rfl dX11_grow_47
      · rw [if_neg c24] at hr
        refine v_iload_n C (lv_at hl 4 rfl) rfl dX11_grow_27 ?_
        refine v_bipush C 9 (by decide) dX11_grow_28 ?_
        refine v_icmp_gt C 46 (by decide) dX11_grow_30 (fun c30 => ?_) (fun c30 => ?_)
        · rw [if_pos c30] at hr
          refine v_iconst C 0 (by decide) dX11_grow_46 ?_
          obtain ⟨rfl, rfl⟩ := Prod.mk.inj (os hr)
          exact v_zret C rfl dX11_grow_47
        · rw [if_neg c30] at hr
          refine v_iload C (lv_at hl 5 rfl) dX11_grow_33 ?_
          refine v_iconst C 1 (by decide) dX11_grow_35 ?_
          refine v_icmp_lt C 46 (by decide) dX11_grow_36 (fun c36 => ?_) (fun c36 => ?_)
          · rw [if_pos c36] at hr
            refine v_iconst C 0 (by decide) dX11_grow_46 ?_
            obtain ⟨rfl, rfl⟩ := Prod.mk.inj (os hr)
            exact v_zret C rfl dX11_grow_47
          · rw [if_neg c36] at hr
            refine v_iload C (lv_at hl 5 rfl) dX11_grow_39 ?_
            refine v_bipush C 9 (by decide) dX11_grow_41 ?_
            refine v_icmp_le C 48 (by decide) dX11_grow_43 (fun c43 => ?_) (fun c43 => ?_)
            · rw [if_pos c43] at hr
              refine v_aload C (lv_at hl 0 rfl) dX11_grow_48 ?_
              obtain ⟨v50, e50, hr⟩ := ob hr
              refine v_getI C fl_RX11_187 rfl e50 dX11_grow_50 ?_
              refine v_iconst C 4 (by decide) dX11_grow_53 ?_
              refine v_icmp_ge C 66 (by decide) dX11_grow_54 (fun c54 => ?_) (fun c54 => ?_)
              · rw [if_pos c54] at hr
                refine v_iconst C 0 (by decide) dX11_grow_66 ?_
                obtain ⟨rfl, rfl⟩ := Prod.mk.inj (os hr)
                exact v_zret C rfl dX11_grow_67
              · rw [if_neg c54] at hr
                refine v_aload C (lv_at hl 0 rfl) dX11_grow_57 ?_
                refine v_iload_n C (lv_at hl 3 rfl) rfl dX11_grow_59 ?_
                obtain ⟨b60, f60, hr⟩ := ob hr
                obtain ⟨g60, h60⟩ := rcv_n f60
                obtain ⟨v60, e60, hr⟩ := ob hr
                refine v_callV C (b := b60) h60 (by decide) rfl rfl (k_X0_grewOn e60) cw_X0_grewOn w_668 w_669 w_670 (show (parseMethodDescriptor (yX0_grewOn).desc).map (fun d => d.parameters.length) = some 1 by decide +kernel) ⟨by decide, by decide⟩ (rest := []) (stk2 := [.int v60]) (by rw [g60]; rfl) rfl (Nat.le_of_ble_eq_true rfl) hl dX11_grow_60 ?_
                refine v_if_eq C 68 (by decide) dX11_grow_63 (fun c63 => ?_) (fun c63 => ?_)
                · rw [if_pos c63] at hr
                  refine v_aload C (lv_at hl 0 rfl) dX11_grow_68 ?_
                  obtain ⟨⟨a70, S70⟩, e70, hr⟩ := ob hr
                  (try dsimp only at hr)
                  refine v_newO C e70 (by decide) rfl w_616 w_617 w_120 lay_4 tyo_4 dfo_4 dX11_grow_70 ?_
                  refine v_dup C (rf_cat _) dX11_grow_73 ?_
                  refine v_iconst C (-1) (by decide) dX11_grow_74 ?_
                  refine v_iload_n C (lv_at hl 3 rfl) rfl dX11_grow_75 ?_
                  refine v_aload_n C (lv_at hl 1 rfl) rfl dX11_grow_76 ?_
                  obtain ⟨v77, e77, hr⟩ := ob hr
                  refine v_getI C fl_RX11_7 rfl e77 dX11_grow_77 ?_
                  refine v_iload_n C (lv_at hl 4 rfl) rfl dX11_grow_80 ?_
                  refine v_iload C (lv_at hl 5 rfl) dX11_grow_81 ?_
                  refine v_iconst C 0 (by decide) dX11_grow_83 ?_
                  obtain ⟨b84, f84, hr⟩ := ob hr
                  obtain ⟨g84, h84⟩ := rcv_n f84
                  obtain ⟨S84, e84, hr⟩ := ob hr
                  refine v_callI C (b := b84) (k_X3_init e84) cw_X3_init w_618 w_619 rfl (show (parseMethodDescriptor (yX3_init).desc).map (fun d => d.parameters.length) = some 6 by decide +kernel) ⟨by decide, by decide⟩ (rest := [va_rf (some a70), va_rf v2]) (stk2 := [va_rf (some a70), va_rf v2]) (by rw [g84]; rfl) rfl (by simp [rf_cat, cat_i, cat_l]) hl dX11_grow_84 ?_
                  obtain ⟨b87, f87, hr⟩ := ob hr
                  obtain ⟨g87, h87⟩ := rcv_n f87
                  obtain ⟨S87, e87, hr⟩ := ob hr
                  refine v_callV C (b := b87) h87 (by decide) rfl rfl (k_X0_tell e87) cw_X0_tell w_644 w_645 w_646 (show (parseMethodDescriptor (yX0_tell).desc).map (fun d => d.parameters.length) = some 1 by decide +kernel) ⟨by decide, by decide⟩ (rest := []) (stk2 := []) (by rw [g87]; rfl) rfl (Nat.le_of_ble_eq_true rfl) hl dX11_grow_87 ?_
                  refine v_aload C (lv_at hl 0 rfl) dX11_grow_90 ?_
                  refine v_dup C (rf_cat _) dX11_grow_92 ?_
                  obtain ⟨v93, e93, hr⟩ := ob hr
                  refine v_getI C fl_RX11_187 rfl e93 dX11_grow_93 ?_
                  refine v_iconst C 1 (by decide) dX11_grow_96 ?_
                  refine v_iadd C dX11_grow_97 ?_
                  obtain ⟨S98, e98, hr⟩ := ob hr
                  refine v_putI C fl_RX11_187 (Or.inl rfl) rfl e98 dX11_grow_98 ?_
                  refine v_aload_n C (lv_at hl 1 rfl) rfl dX11_grow_101 ?_
                  refine v_dup C (rf_cat _) dX11_grow_102 ?_
                  obtain ⟨v103, e103, hr⟩ := ob hr
                  refine v_getI C fl_RX11_29 rfl e103 dX11_grow_103 ?_
                  refine v_iconst C 1 (by decide) dX11_grow_106 ?_
                  refine v_iadd C dX11_grow_107 ?_
                  obtain ⟨S108, e108, hr⟩ := ob hr
                  refine v_putI C fl_RX11_29 (Or.inl rfl) rfl e108 dX11_grow_108 ?_
                  refine v_iconst C 1 (by decide) dX11_grow_111 ?_
                  obtain ⟨rfl, rfl⟩ := Prod.mk.inj (os hr)
                  exact v_zret C rfl dX11_grow_112
                · rw [if_neg c63] at hr
                  refine v_iconst C 0 (by decide) dX11_grow_66 ?_
                  obtain ⟨rfl, rfl⟩ := Prod.mk.inj (os hr)
                  exact v_zret C rfl dX11_grow_67
            · rw [if_neg c43] at hr
              refine v_iconst C 0 (by decide) dX11_grow_46 ?_
              obtain ⟨rfl, rfl⟩ := Prod.mk.inj (os hr)
              exact v_zret C rfl dX11_grow_47
-- X11_heirs
def f_X11_heirs (S : St) (x0 : Nat) (x1 : Int32) : Option Int32 :=
    (rcv S (some x0) 12).bind fun b2 =>
    (f_X11_personAt S b2 x1).bind fun v2 =>
    (if v2 = none then
    some (-1)
    else
    (rcv S v2 9).bind fun b11 =>
    (f_X8_lives S b11).bind fun v11 =>
    (if v11 = 0 then
    (rcv S (some x0) 12).bind fun b23 =>
    (f_X11_countHeirs S b23 v2).bind fun v23 =>
    some v23
    else
    some (-1)))
theorem k_X11_heirs {l : Launch} {G : Ge} {S : St} {x0 : Nat} {x1 : Int32} {rr : Int32} (hr : f_X11_heirs S x0 x1 = some rr) : Ct l G yX11_heirs cX11_heirs 3 (Option.some Jvm.ClassFile.FieldType.int) S [va_rf (some x0), .int x1] (some (.int rr)) S 4 87 := by
  refine ct_of (by decide +kernel) (Nat.le_of_ble_eq_true rfl) ?_
  intro p e s m args below meth c C ls hl
  have hl : lv_has ls 3 [(0, va_rf (some x0)), (1, .int x1)] := hl
  unfold f_X11_heirs at hr
  refine v_aload_n C (lv_at hl 0 rfl) rfl dX11_heirs_0 ?_
  refine v_iload_n C (lv_at hl 1 rfl) rfl dX11_heirs_1 ?_
  obtain ⟨b2, f2, hr⟩ := ob hr
  obtain ⟨g2, h2⟩ := rcv_n f2
  obtain ⟨v2, e2, hr⟩ := ob hr
  refine v_callV C (b := b2) h2 (by decide) rfl rfl (k_X11_personAt e2) cw_X11_personAt w_486 w_488 w_6 (show (parseMethodDescriptor (yX11_personAt).desc).map (fun d => d.parameters.length) = some 1 by decide +kernel) ⟨by decide, by decide⟩ (rest := []) (stk2 := [va_rf v2]) (by rw [g2]; rfl) rfl (Nat.le_of_ble_eq_true rfl) hl dX11_heirs_2 ?_
  refine v_astore_n C (i := 2) (lv' := [(2, va_rf v2), (0, va_rf (some x0)), (1, .int x1)]) hl rfl (by decide) rfl dX11_heirs_5 (fun ls hl => ?_)
  refine v_aload_n C (lv_at hl 0 rfl) rfl dX11_heirs_6 ?_
  refine v_ifnull C 17 (by decide) dX11_heirs_7 (fun c7 => ?_) (fun c7 => ?_)
  · rw [if_pos c7] at hr
    refine v_iconst C (-1) (by decide) dX11_heirs_17 ?_
    refine v_goto C 26 (by decide) dX11_heirs_18 ?_
    obtain rfl := os hr
    exact v_iret C dX11_heirs_26
  · rw [if_neg c7] at hr
    refine v_aload_n C (lv_at hl 0 rfl) rfl dX11_heirs_10 ?_
    obtain ⟨b11, f11, hr⟩ := ob hr
    obtain ⟨g11, h11⟩ := rcv_n f11
    obtain ⟨v11, e11, hr⟩ := ob hr
    refine v_callV C (b := b11) h11 (by decide) rfl rfl (k_X8_lives e11) cw_X8_lives w_534 w_535 w_536 (show (parseMethodDescriptor (yX8_lives).desc).map (fun d => d.parameters.length) = some 0 by decide +kernel) ⟨by decide, by decide⟩ (rest := []) (stk2 := [.int v11]) (by rw [g11]; rfl) rfl (Nat.le_of_ble_eq_true rfl) hl dX11_heirs_11 ?_
    refine v_if_eq C 21 (by decide) dX11_heirs_14 (fun c14 => ?_) (fun c14 => ?_)
    · rw [if_pos c14] at hr
      refine v_aload_n C (lv_at hl 1 rfl) rfl dX11_heirs_21 ?_
      refine v_aload_n C (lv_at hl 0 rfl) rfl dX11_heirs_22 ?_
      obtain ⟨b23, f23, hr⟩ := ob hr
      obtain ⟨g23, h23⟩ := rcv_n f23
      obtain ⟨v23, e23, hr⟩ := ob hr
      refine v_callV C (b := b23) h23 (by decide) rfl rfl (k_X11_countHeirs e23) cw_X11_countHeirs w_1076 w_1078 w_33 (show (parseMethodDescriptor (yX11_countHeirs).desc).map (fun d => d.parameters.length) = some 1 by decide +kernel) ⟨by decide, by decide⟩ (rest := []) (stk2 := [.int v23]) (by rw [g23]; rfl) rfl (Nat.le_of_ble_eq_true rfl) hl dX11_heirs_23 ?_
      obtain rfl := os hr
      exact v_iret C dX11_heirs_26
    · rw [if_neg c14] at hr
      refine v_iconst C (-1) (by decide) dX11_heirs_17 ?_
      refine v_goto C 26 (by decide) dX11_heirs_18 ?_
      obtain rfl := os hr
      exact v_iret C dX11_heirs_26
-- X11_interestOf
def f_X11_interestOf (S : St) (x0 : Nat) (x1 : Option Nat) : Option Int64 :=
    (getI S x1 1 7).bind fun v2 =>
    (rcv S (some x0) 12).bind fun b5 =>
    (f_X11_lawOf S b5 v2).bind fun v5 =>
    (getI S v5 7 5).bind fun v10 =>
    (getI S (some x0) 12 0).bind fun v15 =>
    (getI S x1 1 9).bind fun v19 =>
    (getI S v5 7 6).bind fun v24 =>
    (f_J9_min_7cf53 S (v15 - v19) (v24 * 360)).bind fun v31 =>
    (getL S x1 1 8).bind fun v38 =>
    (divL v38 360000).bind fun v44 =>
    (getL S x1 1 8).bind fun v48 =>
    (remL v48 360000).bind fun v54 =>
    (divL (v54 * ((Int32.toInt64 v10) * (Int32.toInt64 v31))) 360000).bind fun v60 =>
    some ((v44 * ((Int32.toInt64 v10) * (Int32.toInt64 v31))) + v60)
theorem k_X11_interestOf {l : Launch} {G : Ge} {S : St} {x0 : Nat} {x1 : Option Nat} {rr : Int64} (hr : f_X11_interestOf S x0 x1 = some rr) : Ct l G yX11_interestOf cX11_interestOf 5 (Option.some Jvm.ClassFile.FieldType.long) S [va_rf (some x0), va_rf x1] (some (.long rr)) S 2 42 := by
  refine ct_of (by decide +kernel) (by cases x1 <;> exact Nat.le_of_ble_eq_true rfl) ?_
  intro p e s m args below meth c C ls hl
  have hl : lv_has ls 5 [(0, va_rf (some x0)), (1, va_rf x1)] := by clear hr; cases x1 <;> exact hl
  unfold f_X11_interestOf at hr
  refine v_aload_n C (lv_at hl 0 rfl) rfl dX11_interestOf_0 ?_
  refine v_aload_n C (lv_at hl 1 rfl) rfl dX11_interestOf_1 ?_
  obtain ⟨v2, e2, hr⟩ := ob hr
  refine v_getI C fl_RX11_272 rfl e2 dX11_interestOf_2 ?_
  obtain ⟨b5, f5, hr⟩ := ob hr
  obtain ⟨g5, h5⟩ := rcv_n f5
  obtain ⟨v5, e5, hr⟩ := ob hr
  refine v_callV C (b := b5) h5 (by decide) rfl rfl (k_X11_lawOf e5) cw_X11_lawOf w_929 w_931 w_22 (show (parseMethodDescriptor (yX11_lawOf).desc).map (fun d => d.parameters.length) = some 1 by decide +kernel) ⟨by decide, by decide⟩ (rest := []) (stk2 := [va_rf v5]) (by rw [g5]; rfl) rfl (Nat.le_of_ble_eq_true rfl) hl dX11_interestOf_5 ?_
  refine v_astore_n C (i := 2) (lv' := [(2, va_rf v5), (0, va_rf (some x0)), (1, va_rf x1)]) hl rfl (by decide) (by simp [rf_n2]) dX11_interestOf_8 (fun ls hl => ?_)
  refine v_aload_n C (lv_at hl 0 rfl) rfl dX11_interestOf_9 ?_
  obtain ⟨v10, e10, hr⟩ := ob hr
  refine v_getI C fl_RX11_248 rfl e10 dX11_interestOf_10 ?_
  refine v_i2l C dX11_interestOf_13 ?_
  refine v_aload_n C (lv_at hl 1 rfl) rfl dX11_interestOf_14 ?_
  obtain ⟨v15, e15, hr⟩ := ob hr
  refine v_getI C fl_RX11_7 rfl e15 dX11_interestOf_15 ?_
  refine v_aload_n C (lv_at hl 2 rfl) rfl dX11_interestOf_18 ?_
  obtain ⟨v19, e19, hr⟩ := ob hr
  refine v_getI C fl_RX11_279 rfl e19 dX11_interestOf_19 ?_
  refine v_isub C dX11_interestOf_22 ?_
  refine v_aload_n C (lv_at hl 0 rfl) rfl dX11_interestOf_23 ?_
  obtain ⟨v24, e24, hr⟩ := ob hr
  refine v_getI C fl_RX11_251 rfl e24 dX11_interestOf_24 ?_
  refine v_sipush C 360 (by decide) dX11_interestOf_27 ?_
  refine v_imul C dX11_interestOf_30 ?_
  obtain ⟨v31, e31, hr⟩ := ob hr
  refine v_callS C (k_J9_min_7cf53 e31) cw_J9_min_7cf53 w_978 w_434 (show (parseMethodDescriptor (yJ9_min_7cf53).desc).map (fun d => d.parameters.length) = some 2 by decide +kernel) ⟨by decide, by decide⟩ (rest := [.long (Int32.toInt64 v10)]) (stk2 := [.int v31, .long (Int32.toInt64 v10)]) rfl rfl (Nat.le_of_ble_eq_true rfl) hl dX11_interestOf_31 ?_
  refine v_i2l C dX11_interestOf_34 ?_
  refine v_lmul C dX11_interestOf_35 ?_
  refine v_lstore_n C (i := 3) (lv' := [(3, .long ((Int32.toInt64 v10) * (Int32.toInt64 v31))), (2, va_rf v5), (0, va_rf (some x0)), (1, va_rf x1)]) hl rfl (by decide) (by simp [rf_n2]) dX11_interestOf_36 (fun ls hl => ?_)
  refine v_aload_n C (lv_at hl 3 rfl) rfl dX11_interestOf_37 ?_
  obtain ⟨v38, e38, hr⟩ := ob hr
  refine v_getL C fl_RX11_275 rfl e38 dX11_interestOf_38 ?_
  refine v_ldc2 C w_979 dX11_interestOf_41 ?_
  obtain ⟨v44, e44, hr⟩ := ob hr
  refine v_ldiv C e44 dX11_interestOf_44 ?_
  refine v_lload_n C (lv_at hl 0 rfl) rfl dX11_interestOf_45 ?_
  refine v_lmul C dX11_interestOf_46 ?_
  refine v_aload_n C (lv_at hl 3 rfl) rfl dX11_interestOf_47 ?_
  obtain ⟨v48, e48, hr⟩ := ob hr
  refine v_getL C fl_RX11_275 rfl e48 dX11_interestOf_48 ?_
  refine v_ldc2 C w_979 dX11_interestOf_51 ?_
  obtain ⟨v54, e54, hr⟩ := ob hr
  refine v_lrem C e54 dX11_interestOf_54 ?_
  refine v_lload_n C (lv_at hl 0 rfl) rfl dX11_interestOf_55 ?_
  refine v_lmul C dX11_interestOf_56 ?_
  refine v_ldc2 C w_979 dX11_interestOf_57 ?_
  obtain ⟨v60, e60, hr⟩ := ob hr
  refine v_ldiv C e60 dX11_interestOf_60 ?_
  refine v_ladd C dX11_interestOf_61 ?_
  obtain rfl := os hr
  exact v_lret C dX11_interestOf_62
-- X11_paidOf
def f_X11_paidOf_5 : Nat → St → Nat → (Option Nat) → Int64 → Int32 → Option (Int64)
  | 0, _, _, _, _, _ => none
  | n + 1, S, x0, x1, x2, x4 =>
    (getR S (some x0) 12 4).bind fun v8 =>
    (rcv S v8 0).bind fun b11 =>
    (f_Jx4a65c_size_8abf5 S b11).bind fun v11 =>
    (if v11 ≤ x4 then
    some x2
    else
    (getR S (some x0) 12 4).bind fun v18 =>
    (rcv S v18 0).bind fun b23 =>
    (f_Jx4a65c_get_915e3 S b23 x4).bind fun v23 =>
    (castO S v23 3).bind fun v26 =>
    (getR S v26 3 1).bind fun v33 =>
    (if v33 = x1 then
    (getI S v26 3 4).bind fun v42 =>
    (if v42 = 1 then
    (getL S v26 3 5).bind fun v52 =>
    f_X11_paidOf_5 n S x0 x1 (x2 + v52) (x4 + 1)
    else
    f_X11_paidOf_5 n S x0 x1 x2 (x4 + 1))
    else
    f_X11_paidOf_5 n S x0 x1 x2 (x4 + 1)))
def f_X11_paidOf (S : St) (x0 : Nat) (x1 : Option Nat) : Option Int64 :=
    f_X11_paidOf_5 FU S x0 x1 0 0
theorem b_X11_paidOf_5  {S : St} {rr : Int64} (C : Cx p s m args meth c G S yX11_paidOf cX11_paidOf 6 (Option.some Jvm.ClassFile.FieldType.long)) {o : (Int64)} (kR : ∀ (v : Int64), o = v → rr = v) : ∀ (n : Nat) {x0 : Nat} {x1 : Option Nat} {x2 : Int64} {x4 : Int32}, f_X11_paidOf_5 n S x0 x1 x2 x4 = some o → ∀ ls : Array Slot, lv_has ls 6 [(0, va_rf (some x0)), (1, va_rf x1), (2, .long x2), (4, .int x4)] → V p l e (rmo 3 64 S) s m args below meth c G S S (QM below args s G S S (some (.long rr))) (F0 m 5 ls []) := by
  intro n
  induction n with
  | zero => intro x0 x1 x2 x4 hr; cases hr
  | succ n ih =>
    intro x0 x1 x2 x4 hr ls hl
    unfold f_X11_paidOf_5 at hr
    refine v_iload C (lv_at hl 3 rfl) dX11_paidOf_5 ?_
    refine v_aload_n C (lv_at hl 0 rfl) rfl dX11_paidOf_7 ?_
    obtain ⟨v8, e8, hr⟩ := ob hr
    refine v_getR C fl_RX11_26 rfl e8 dX11_paidOf_8 ?_
    obtain ⟨b11, f11, hr⟩ := ob hr
    obtain ⟨g11, h11⟩ := rcv_n f11
    obtain ⟨v11, e11, hr⟩ := ob hr
    refine v_callV C (b := b11) h11 (by decide) rfl rfl (k_Jx4a65c_size_8abf5 e11) cw_Jx4a65c_size_8abf5 w_352 w_353 w_354 (show (parseMethodDescriptor (yJx4a65c_size_8abf5).desc).map (fun d => d.parameters.length) = some 0 by decide +kernel) ⟨by decide, by decide⟩ (rest := [.int x4]) (stk2 := [.int v11, .int x4]) (by rw [g11]; rfl) rfl (Nat.le_of_ble_eq_true rfl) hl dX11_paidOf_11 ?_
    refine v_icmp_ge C 63 (by decide) dX11_paidOf_14 (fun c14 => ?_) (fun c14 => ?_)
    · rw [if_pos c14] at hr
      refine v_lload_n C (lv_at hl 2 rfl) rfl dX11_paidOf_63 ?_
      obtain rfl := os hr
      obtain rfl := kR _ rfl
      exact v_lret C dX11_paidOf_64
    · rw [if_neg c14] at hr
      refine v_aload_n C (lv_at hl 0 rfl) rfl dX11_paidOf_17 ?_
      obtain ⟨v18, e18, hr⟩ := ob hr
      refine v_getR C fl_RX11_26 rfl e18 dX11_paidOf_18 ?_
      refine v_iload C (lv_at hl 3 rfl) dX11_paidOf_21 ?_
      obtain ⟨b23, f23, hr⟩ := ob hr
      obtain ⟨g23, h23⟩ := rcv_n f23
      obtain ⟨v23, e23, hr⟩ := ob hr
      refine v_callV C (b := b23) h23 (by decide) rfl rfl (k_Jx4a65c_get_915e3 e23) cw_Jx4a65c_get_915e3 w_449 w_450 w_451 (show (parseMethodDescriptor (yJx4a65c_get_915e3).desc).map (fun d => d.parameters.length) = some 1 by decide +kernel) ⟨by decide, by decide⟩ (rest := []) (stk2 := [va_rf v23]) (by rw [g23]; rfl) rfl (Nat.le_of_ble_eq_true rfl) hl dX11_paidOf_23 ?_
      obtain ⟨v26, e26, hr⟩ := ob hr
      refine v_cast C e26 (by decide) rfl w_984 dX11_paidOf_26 ?_
      refine v_astore C (i := 5) (lv' := [(5, va_rf v26), (0, va_rf (some x0)), (1, va_rf x1), (2, .long x2), (4, .int x4)]) hl (by decide) rfl dX11_paidOf_29 (fun ls hl => ?_)
      refine v_aload C (lv_at hl 0 rfl) dX11_paidOf_31 ?_
      obtain ⟨v33, e33, hr⟩ := ob hr
      refine v_getR C fl_RX11_315 rfl e33 dX11_paidOf_33 ?_
      refine v_aload_n C (lv_at hl 2 rfl) rfl dX11_paidOf_36 ?_
      refine v_acmp_ne C 57 (by decide) dX11_paidOf_37 (fun c37 => ?_) (fun c37 => ?_)
      · rw [if_neg c37] at hr
        refine v_iinc C (x4 + 1) (k0 := 4) (lv' := [(4, .int (x4 + 1)), (5, va_rf v26), (0, va_rf (some x0)), (1, va_rf x1), (2, .long x2)]) hl rfl rfl (by decide) rfl dX11_paidOf_57 (fun ls hl => ?_)
        refine v_goto C 5 (by decide) dX11_paidOf_60 ?_
        exact ih hr _ (lv_sub hl [2, 3, 4, 0] rfl)
      · rw [if_pos c37] at hr
        refine v_aload C (lv_at hl 0 rfl) dX11_paidOf_40 ?_
        obtain ⟨v42, e42, hr⟩ := ob hr
        refine v_getI C fl_RX11_319 rfl e42 dX11_paidOf_42 ?_
        refine v_iconst C 1 (by decide) dX11_paidOf_45 ?_
        refine v_icmp_ne C 57 (by decide) dX11_paidOf_46 (fun c46 => ?_) (fun c46 => ?_)
        · rw [if_neg c46] at hr
          refine v_iinc C (x4 + 1) (k0 := 4) (lv' := [(4, .int (x4 + 1)), (5, va_rf v26), (0, va_rf (some x0)), (1, va_rf x1), (2, .long x2)]) hl rfl rfl (by decide) rfl dX11_paidOf_57 (fun ls hl => ?_)
          refine v_goto C 5 (by decide) dX11_paidOf_60 ?_
          exact ih hr _ (lv_sub hl [2, 3, 4, 0] rfl)
        · rw [if_pos c46] at hr
          refine v_lload_n C (lv_at hl 3 rfl) rfl dX11_paidOf_49 ?_
          refine v_aload C (lv_at hl 0 rfl) dX11_paidOf_50 ?_
          obtain ⟨v52, e52, hr⟩ := ob hr
          refine v_getL C fl_RX11_322 rfl e52 dX11_paidOf_52 ?_
          refine v_ladd C dX11_paidOf_55 ?_
          refine v_lstore_n C (i := 2) (lv' := [(2, .long (x2 + v52)), (5, va_rf v26), (0, va_rf (some x0)), (1, va_rf x1), (4, .int x4)]) hl rfl (by decide) (by simp [rf_n2]) dX11_paidOf_56 (fun ls hl => ?_)
          refine v_iinc C (x4 + 1) (k0 := 4) (lv' := [(4, .int (x4 + 1)), (2, .long (x2 + v52)), (5, va_rf v26), (0, va_rf (some x0)), (1, va_rf x1)]) hl rfl rfl (by decide) rfl dX11_paidOf_57 (fun ls hl => ?_)
          refine v_goto C 5 (by decide) dX11_paidOf_60 ?_
          exact ih hr _ (lv_sub hl [3, 4, 1, 0] rfl)
theorem k_X11_paidOf {l : Launch} {G : Ge} {S : St} {x0 : Nat} {x1 : Option Nat} {rr : Int64} (hr : f_X11_paidOf S x0 x1 = some rr) : Ct l G yX11_paidOf cX11_paidOf 6 (Option.some Jvm.ClassFile.FieldType.long) S [va_rf (some x0), va_rf x1] (some (.long rr)) S 3 64 := by
  refine ct_of (by decide +kernel) (by cases x1 <;> exact Nat.le_of_ble_eq_true rfl) ?_
  intro p e s m args below meth c C ls hl
  have hl : lv_has ls 6 [(0, va_rf (some x0)), (1, va_rf x1)] := by clear hr; cases x1 <;> exact hl
  unfold f_X11_paidOf at hr
  refine v_lconst C 0 (by decide) dX11_paidOf_0 ?_
  refine v_lstore_n C (i := 2) (lv' := [(2, .long 0), (0, va_rf (some x0)), (1, va_rf x1)]) hl rfl (by decide) (by simp [rf_n2]) dX11_paidOf_1 (fun ls hl => ?_)
  refine v_iconst C 0 (by decide) dX11_paidOf_2 ?_
  refine v_istore C (i := 4) (lv' := [(4, .int 0), (2, .long 0), (0, va_rf (some x0)), (1, va_rf x1)]) hl (by decide) rfl dX11_paidOf_3 (fun ls hl => ?_)
  exact b_X11_paidOf_5 C (fun _ q => by cases q; rfl) FU hr _ (lv_sub hl [2, 3, 1, 0] rfl)
-- X11_held
def f_X11_held (S : St) (x0 : Nat) (x1 : Int32) (x2 : Int32) : Option Int64 :=
    (rcv S (some x0) 12).bind fun b2 =>
    (f_X11_accountAt S b2 x1).bind fun v2 =>
    (if v2 = none then
    some (-1)
    else
    (rcv S v2 1).bind fun b11 =>
    (f_X0_isHeld S b11).bind fun v11 =>
    (if v11 = 0 then
    some (-1)
    else
    (if x2 = 0 then
    (getI S v2 1 7).bind fun v61 =>
    some (Int32.toInt64 v61)
    else
    (if x2 = 1 then
    (getL S v2 1 8).bind fun v67 =>
    some v67
    else
    (if x2 = 2 then
    (getI S v2 1 9).bind fun v72 =>
    some (Int32.toInt64 v72)
    else
    (if x2 = 3 then
    (getI S v2 1 10).bind fun v78 =>
    some (Int32.toInt64 v78)
    else
    (if x2 = 4 then
    (rcv S (some x0) 12).bind fun b85 =>
    (f_X11_interestOf S b85 v2).bind fun v85 =>
    some v85
    else
    (if x2 = 5 then
    (rcv S (some x0) 12).bind fun b91 =>
    (f_X11_paidOf S b91 v2).bind fun v91 =>
    some v91
    else
    some (-1)))))))))
theorem k_X11_held {l : Launch} {G : Ge} {S : St} {x0 : Nat} {x1 : Int32} {x2 : Int32} {rr : Int64} (hr : f_X11_held S x0 x1 x2 = some rr) : Ct l G yX11_held cX11_held 4 (Option.some Jvm.ClassFile.FieldType.long) S [va_rf (some x0), .int x1, .int x2] (some (.long rr)) S 4 89 := by
  refine ct_of (by decide +kernel) (Nat.le_of_ble_eq_true rfl) ?_
  intro p e s m args below meth c C ls hl
  have hl : lv_has ls 4 [(0, va_rf (some x0)), (1, .int x1), (2, .int x2)] := hl
  unfold f_X11_held at hr
  refine v_aload_n C (lv_at hl 0 rfl) rfl dX11_held_0 ?_
  refine v_iload_n C (lv_at hl 1 rfl) rfl dX11_held_1 ?_
  obtain ⟨b2, f2, hr⟩ := ob hr
  obtain ⟨g2, h2⟩ := rcv_n f2
  obtain ⟨v2, e2, hr⟩ := ob hr
  refine v_callV C (b := b2) h2 (by decide) rfl rfl (k_X11_accountAt e2) cw_X11_accountAt w_606 w_608 w_8 (show (parseMethodDescriptor (yX11_accountAt).desc).map (fun d => d.parameters.length) = some 1 by decide +kernel) ⟨by decide, by decide⟩ (rest := []) (stk2 := [va_rf v2]) (by rw [g2]; rfl) rfl (Nat.le_of_ble_eq_true rfl) hl dX11_held_2 ?_
  refine v_astore_n C (i := 3) (lv' := [(3, va_rf v2), (0, va_rf (some x0)), (1, .int x1), (2, .int x2)]) hl rfl (by decide) rfl dX11_held_5 (fun ls hl => ?_)
  refine v_aload_n C (lv_at hl 0 rfl) rfl dX11_held_6 ?_
  refine v_ifnull C 17 (by decide) dX11_held_7 (fun c7 => ?_) (fun c7 => ?_)
  · rw [if_pos c7] at hr
    refine v_ldc2 C w_676 dX11_held_17 ?_
    obtain rfl := os hr
    exact v_lret C dX11_held_20
  · rw [if_neg c7] at hr
    refine v_aload_n C (lv_at hl 0 rfl) rfl dX11_held_10 ?_
    obtain ⟨b11, f11, hr⟩ := ob hr
    obtain ⟨g11, h11⟩ := rcv_n f11
    obtain ⟨v11, e11, hr⟩ := ob hr
    refine v_callV C (b := b11) h11 (by decide) rfl rfl (k_X0_isHeld e11) cw_X0_isHeld w_962 w_963 w_964 (show (parseMethodDescriptor (yX0_isHeld).desc).map (fun d => d.parameters.length) = some 0 by decide +kernel) ⟨by decide, by decide⟩ (rest := []) (stk2 := [.int v11]) (by rw [g11]; rfl) rfl (Nat.le_of_ble_eq_true rfl) hl dX11_held_11 ?_
    refine v_if_ne C 21 (by decide) dX11_held_14 (fun c14 => ?_) (fun c14 => ?_)
    · rw [if_neg c14] at hr
      refine v_iload_n C (lv_at hl 3 rfl) rfl dX11_held_21 ?_
      by_cases q22_0 : x2 = 0
      · rw [if_pos q22_0] at hr
        refine v_tableIn C (off := 38) 60 (by rw [q22_0]; decide) (by rw [q22_0]; decide) (by rw [q22_0]; decide) (by decide) dX11_held_22 ?_
        refine v_aload_n C (lv_at hl 0 rfl) rfl dX11_held_60 ?_
        obtain ⟨v61, e61, hr⟩ := ob hr
        refine v_getI C fl_RX11_272 rfl e61 dX11_held_61 ?_
        refine v_i2l C dX11_held_64 ?_
        obtain rfl := os hr
        exact v_lret C dX11_held_65
      rw [if_neg q22_0] at hr
      by_cases q22_1 : x2 = 1
      · rw [if_pos q22_1] at hr
        refine v_tableIn C (off := 44) 66 (by rw [q22_1]; decide) (by rw [q22_1]; decide) (by rw [q22_1]; decide) (by decide) dX11_held_22 ?_
        refine v_aload_n C (lv_at hl 0 rfl) rfl dX11_held_66 ?_
        obtain ⟨v67, e67, hr⟩ := ob hr
        refine v_getL C fl_RX11_275 rfl e67 dX11_held_67 ?_
        obtain rfl := os hr
        exact v_lret C dX11_held_70
      rw [if_neg q22_1] at hr
      by_cases q22_2 : x2 = 2
      · rw [if_pos q22_2] at hr
        refine v_tableIn C (off := 49) 71 (by rw [q22_2]; decide) (by rw [q22_2]; decide) (by rw [q22_2]; decide) (by decide) dX11_held_22 ?_
        refine v_aload_n C (lv_at hl 0 rfl) rfl dX11_held_71 ?_
        obtain ⟨v72, e72, hr⟩ := ob hr
        refine v_getI C fl_RX11_279 rfl e72 dX11_held_72 ?_
        refine v_i2l C dX11_held_75 ?_
        obtain rfl := os hr
        exact v_lret C dX11_held_76
      rw [if_neg q22_2] at hr
      by_cases q22_3 : x2 = 3
      · rw [if_pos q22_3] at hr
        refine v_tableIn C (off := 55) 77 (by rw [q22_3]; decide) (by rw [q22_3]; decide) (by rw [q22_3]; decide) (by decide) dX11_held_22 ?_
        refine v_aload_n C (lv_at hl 0 rfl) rfl dX11_held_77 ?_
        obtain ⟨v78, e78, hr⟩ := ob hr
        refine v_getI C fl_RX11_282 rfl e78 dX11_held_78 ?_
        refine v_i2l C dX11_held_81 ?_
        obtain rfl := os hr
        exact v_lret C dX11_held_82
      rw [if_neg q22_3] at hr
      by_cases q22_4 : x2 = 4
      · rw [if_pos q22_4] at hr
        refine v_tableIn C (off := 61) 83 (by rw [q22_4]; decide) (by rw [q22_4]; decide) (by rw [q22_4]; decide) (by decide) dX11_held_22 ?_
        refine v_aload_n C (lv_at hl 1 rfl) rfl dX11_held_83 ?_
        refine v_aload_n C (lv_at hl 0 rfl) rfl dX11_held_84 ?_
        obtain ⟨b85, f85, hr⟩ := ob hr
        obtain ⟨g85, h85⟩ := rcv_n f85
        obtain ⟨v85, e85, hr⟩ := ob hr
        refine v_callV C (b := b85) h85 (by decide) rfl rfl (k_X11_interestOf e85) cw_X11_interestOf w_974 w_976 w_25 (show (parseMethodDescriptor (yX11_interestOf).desc).map (fun d => d.parameters.length) = some 1 by decide +kernel) ⟨by decide, by decide⟩ (rest := []) (stk2 := [.long v85]) (by rw [g85]; rfl) rfl (Nat.le_of_ble_eq_true rfl) hl dX11_held_85 ?_
        obtain rfl := os hr
        exact v_lret C dX11_held_88
      rw [if_neg q22_4] at hr
      by_cases q22_5 : x2 = 5
      · rw [if_pos q22_5] at hr
        refine v_tableIn C (off := 67) 89 (by rw [q22_5]; decide) (by rw [q22_5]; decide) (by rw [q22_5]; decide) (by decide) dX11_held_22 ?_
        refine v_aload_n C (lv_at hl 1 rfl) rfl dX11_held_89 ?_
        refine v_aload_n C (lv_at hl 0 rfl) rfl dX11_held_90 ?_
        obtain ⟨b91, f91, hr⟩ := ob hr
        obtain ⟨g91, h91⟩ := rcv_n f91
        obtain ⟨v91, e91, hr⟩ := ob hr
        refine v_callV C (b := b91) h91 (by decide) rfl rfl (k_X11_paidOf e91) cw_X11_paidOf w_980 w_982 w_26 (show (parseMethodDescriptor (yX11_paidOf).desc).map (fun d => d.parameters.length) = some 1 by decide +kernel) ⟨by decide, by decide⟩ (rest := []) (stk2 := [.long v91]) (by rw [g91]; rfl) rfl (Nat.le_of_ble_eq_true rfl) hl dX11_held_91 ?_
        obtain rfl := os hr
        exact v_lret C dX11_held_94
      rw [if_neg q22_5] at hr
      have kd22 : V p l e (rmo 4 89 S) s m args below meth c G S S (QM below args s G S S (some (.long rr))) (F0 m 95 ls []) := by
        refine v_ldc2 C w_676 dX11_held_95 ?_
        obtain rfl := os hr
        exact v_lret C dX11_held_98
      have z0 := lv_neT q22_0 (a := 0) (by decide)
      have z1 := lv_neT q22_1 (a := 1) (by decide)
      have z2 := lv_neT q22_2 (a := 2) (by decide)
      have z3 := lv_neT q22_3 (a := 3) (by decide)
      have z4 := lv_neT q22_4 (a := 4) (by decide)
      have z5 := lv_neT q22_5 (a := 5) (by decide)
      exact v_tableOut C 95 (by omega) (by decide) dX11_held_22 kd22
    · rw [if_pos c14] at hr
      refine v_ldc2 C w_676 dX11_held_17 ?_
      obtain rfl := os hr
      exact v_lret C dX11_held_20
-- X11_owedOn
def f_X11_owedOn (S : St) (x0 : Option Nat) (x1 : Int32) : Option Int32 :=
    (getR S x0 1 3).bind fun v1 =>
    (getI S v1 9 5).bind fun v4 =>
    (if v4 = (-1) then
    (getR S x0 1 1).bind fun v14 =>
    (f_X11_holderOn S v14 x1).bind fun v18 =>
    (getI S v18 5 1).bind fun v21 =>
    some v21
    else
    some v4)
theorem k_X11_owedOn {l : Launch} {G : Ge} {S : St} {x0 : Option Nat} {x1 : Int32} {rr : Int32} (hr : f_X11_owedOn S x0 x1 = some rr) : Ct l G yX11_owedOn cX11_owedOn 3 (Option.some Jvm.ClassFile.FieldType.int) S [va_rf x0, .int x1] (some (.int rr)) S 1 23 := by
  refine ct_of (by decide +kernel) (by cases x0 <;> exact Nat.le_of_ble_eq_true rfl) ?_
  intro p e s m args below meth c C ls hl
  have hl : lv_has ls 3 [(0, va_rf x0), (1, .int x1)] := by clear hr; cases x0 <;> exact hl
  unfold f_X11_owedOn at hr
  refine v_aload_n C (lv_at hl 0 rfl) rfl dX11_owedOn_0 ?_
  obtain ⟨v1, e1, hr⟩ := ob hr
  refine v_getR C fl_RX11_292 rfl e1 dX11_owedOn_1 ?_
  obtain ⟨v4, e4, hr⟩ := ob hr
  refine v_getI C fl_RX11_145 rfl e4 dX11_owedOn_4 ?_
  refine v_istore_n C (i := 2) (lv' := [(2, .int v4), (0, va_rf x0), (1, .int x1)]) hl rfl (by decide) rfl dX11_owedOn_7 (fun ls hl => ?_)
  refine v_iload_n C (lv_at hl 0 rfl) rfl dX11_owedOn_8 ?_
  refine v_iconst C (-1) (by decide) dX11_owedOn_9 ?_
  refine v_icmp_ne C 27 (by decide) dX11_owedOn_10 (fun c10 => ?_) (fun c10 => ?_)
  · rw [if_neg c10] at hr
    refine v_iload_n C (lv_at hl 0 rfl) rfl dX11_owedOn_27 ?_
    obtain rfl := os hr
    exact v_iret C dX11_owedOn_28
  · rw [if_pos c10] at hr
    refine v_aload_n C (lv_at hl 1 rfl) rfl dX11_owedOn_13 ?_
    obtain ⟨v14, e14, hr⟩ := ob hr
    refine v_getR C fl_RX11_265 rfl e14 dX11_owedOn_14 ?_
    refine v_iload_n C (lv_at hl 2 rfl) rfl dX11_owedOn_17 ?_
    obtain ⟨v18, e18, hr⟩ := ob hr
    refine v_callS C (k_X11_holderOn e18) cw_X11_holderOn w_479 w_480 (show (parseMethodDescriptor (yX11_holderOn).desc).map (fun d => d.parameters.length) = some 2 by decide +kernel) ⟨by decide, by decide⟩ (rest := []) (stk2 := [va_rf v18]) rfl rfl (Nat.le_of_ble_eq_true rfl) hl dX11_owedOn_18 ?_
    obtain ⟨v21, e21, hr⟩ := ob hr
    refine v_getI C fl_RX11_296 rfl e21 dX11_owedOn_21 ?_
    refine v_goto C 28 (by decide) dX11_owedOn_24 ?_
    obtain rfl := os hr
    exact v_iret C dX11_owedOn_28
-- X6_sortsThatCount
def f_X6_sortsThatCount (S : St) (x0 : Nat) : Option Int32 :=
    (getI S (some x0) 7 2).bind fun v1 =>
    (if v1 = 0 then
    some 63
    else
    (getI S (some x0) 7 2).bind fun v13 =>
    some v13)
theorem k_X6_sortsThatCount {l : Launch} {G : Ge} {S : St} {x0 : Nat} {rr : Int32} (hr : f_X6_sortsThatCount S x0 = some rr) : Ct l G yX6_sortsThatCount cX6_sortsThatCount 1 (Option.some Jvm.ClassFile.FieldType.int) S [va_rf (some x0)] (some (.int rr)) S 0 0 := by
  refine ct_of (by decide +kernel) (Nat.le_of_ble_eq_true rfl) ?_
  intro p e s m args below meth c C ls hl
  have hl : lv_has ls 1 [(0, va_rf (some x0))] := hl
  unfold f_X6_sortsThatCount at hr
  refine v_aload_n C (lv_at hl 0 rfl) rfl dX6_sortsThatCount_0 ?_
  obtain ⟨v1, e1, hr⟩ := ob hr
  refine v_getI C fl_RX6_19 rfl e1 dX6_sortsThatCount_1 ?_
  refine v_if_ne C 12 (by decide) dX6_sortsThatCount_4 (fun c4 => ?_) (fun c4 => ?_)
  · rw [if_neg c4] at hr
    refine v_aload_n C (lv_at hl 0 rfl) rfl dX6_sortsThatCount_12 ?_
    obtain ⟨v13, e13, hr⟩ := ob hr
    refine v_getI C fl_RX6_19 rfl e13 dX6_sortsThatCount_13 ?_
    obtain rfl := os hr
    exact v_iret C dX6_sortsThatCount_16
  · rw [if_pos c4] at hr
    refine v_bipush C 63 (by decide) dX6_sortsThatCount_7 ?_
    refine v_goto C 16 (by decide) dX6_sortsThatCount_9 ?_
    obtain rfl := os hr
    exact v_iret C dX6_sortsThatCount_16
-- X6_yearsOfSleep
def f_X6_yearsOfSleep (S : St) (x0 : Nat) (x1 : Int32) : Option Int32 :=
    (getR S (some x0) 7 1).bind fun v2 =>
    (alen S v2).bind fun v5 =>
    (f_X11_isWithin S x1 v5).bind fun v6 =>
    (if v6 = 0 then
    some 0
    else
    (getR S (some x0) 7 1).bind fun v13 =>
    (ldI S v13 15 x1).bind fun v17 =>
    some v17)
theorem k_X6_yearsOfSleep {l : Launch} {G : Ge} {S : St} {x0 : Nat} {x1 : Int32} {rr : Int32} (hr : f_X6_yearsOfSleep S x0 x1 = some rr) : Ct l G yX6_yearsOfSleep cX6_yearsOfSleep 2 (Option.some Jvm.ClassFile.FieldType.int) S [va_rf (some x0), .int x1] (some (.int rr)) S 1 21 := by
  refine ct_of (by decide +kernel) (Nat.le_of_ble_eq_true rfl) ?_
  intro p e s m args below meth c C ls hl
  have hl : lv_has ls 2 [(0, va_rf (some x0)), (1, .int x1)] := hl
  unfold f_X6_yearsOfSleep at hr
  refine v_iload_n C (lv_at hl 1 rfl) rfl dX6_yearsOfSleep_0 ?_
  refine v_aload_n C (lv_at hl 0 rfl) rfl dX6_yearsOfSleep_1 ?_
  obtain ⟨v2, e2, hr⟩ := ob hr
  refine v_getR C fl_RX6_15 rfl e2 dX6_yearsOfSleep_2 ?_
  obtain ⟨v5, e5, hr⟩ := ob hr
  refine v_alen C e5 dX6_yearsOfSleep_5 ?_
  obtain ⟨v6, e6, hr⟩ := ob hr
  refine v_callSN C "SleepOffice" (k_X11_isWithin e6) cw_X11_isWithin (by decide +kernel) w_350 (show (parseMethodDescriptor (yX11_isWithin).desc).map (fun d => d.parameters.length) = some 2 by decide +kernel) ⟨by decide, by decide⟩ (rest := []) (stk2 := [.int v6]) rfl rfl (Nat.le_of_ble_eq_true rfl) hl dX6_yearsOfSleep_6 ?_
  refine v_if_eq C 21 (by decide) dX6_yearsOfSleep_9 (fun c9 => ?_) (fun c9 => ?_)
  · rw [if_pos c9] at hr
    refine v_iconst C 0 (by decide) dX6_yearsOfSleep_21 ?_
    obtain rfl := os hr
    exact v_iret C dX6_yearsOfSleep_22
  · rw [if_neg c9] at hr
    refine v_aload_n C (lv_at hl 0 rfl) rfl dX6_yearsOfSleep_12 ?_
    obtain ⟨v13, e13, hr⟩ := ob hr
    refine v_getR C fl_RX6_15 rfl e13 dX6_yearsOfSleep_13 ?_
    refine v_iload_n C (lv_at hl 1 rfl) rfl dX6_yearsOfSleep_16 ?_
    obtain ⟨v17, e17, hr⟩ := ob hr
    refine v_ldI_i C e17 dX6_yearsOfSleep_17 ?_
    refine v_goto C 22 (by decide) dX6_yearsOfSleep_18 ?_
    obtain rfl := os hr
    exact v_iret C dX6_yearsOfSleep_22
-- X11_sleepDay
def f_X11_sleepDay (S : St) (x0 : Nat) (x1 : Option Nat) (x2 : Int32) : Option Int32 :=
    (f_X11_owedOn S x1 x2).bind fun v3 =>
    (rcv S (some x0) 12).bind fun b6 =>
    (f_X11_lawOf S b6 v3).bind fun v6 =>
    (rcv S v6 7).bind fun b12 =>
    (f_X6_sortsThatCount S b12).bind fun v12 =>
    (rcv S x1 1).bind fun b16 =>
    (f_X0_lastStir S b16 v12 x2).bind fun v16 =>
    (getI S x1 1 2).bind fun v21 =>
    (rcv S v6 7).bind fun b24 =>
    (f_X6_yearsOfSleep S b24 v21).bind fun v24 =>
    some (v16 + (v24 * 360))
theorem k_X11_sleepDay {l : Launch} {G : Ge} {S : St} {x0 : Nat} {x1 : Option Nat} {x2 : Int32} {rr : Int32} (hr : f_X11_sleepDay S x0 x1 x2 = some rr) : Ct l G yX11_sleepDay cX11_sleepDay 4 (Option.some Jvm.ClassFile.FieldType.int) S [va_rf (some x0), va_rf x1, .int x2] (some (.int rr)) S 4 90 := by
  refine ct_of (by decide +kernel) (by cases x1 <;> exact Nat.le_of_ble_eq_true rfl) ?_
  intro p e s m args below meth c C ls hl
  have hl : lv_has ls 4 [(0, va_rf (some x0)), (1, va_rf x1), (2, .int x2)] := by clear hr; cases x1 <;> exact hl
  unfold f_X11_sleepDay at hr
  refine v_aload_n C (lv_at hl 0 rfl) rfl dX11_sleepDay_0 ?_
  refine v_aload_n C (lv_at hl 1 rfl) rfl dX11_sleepDay_1 ?_
  refine v_iload_n C (lv_at hl 2 rfl) rfl dX11_sleepDay_2 ?_
  obtain ⟨v3, e3, hr⟩ := ob hr
  refine v_callS C (k_X11_owedOn e3) cw_X11_owedOn w_946 w_947 (show (parseMethodDescriptor (yX11_owedOn).desc).map (fun d => d.parameters.length) = some 2 by decide +kernel) ⟨by decide, by decide⟩ (rest := [va_rf (some x0)]) (stk2 := [.int v3, va_rf (some x0)]) rfl rfl (by simp [rf_cat, cat_i, cat_l]) hl dX11_sleepDay_3 ?_
  obtain ⟨b6, f6, hr⟩ := ob hr
  obtain ⟨g6, h6⟩ := rcv_n f6
  obtain ⟨v6, e6, hr⟩ := ob hr
  refine v_callV C (b := b6) h6 (by decide) rfl rfl (k_X11_lawOf e6) cw_X11_lawOf w_929 w_931 w_22 (show (parseMethodDescriptor (yX11_lawOf).desc).map (fun d => d.parameters.length) = some 1 by decide +kernel) ⟨by decide, by decide⟩ (rest := []) (stk2 := [va_rf v6]) (by rw [g6]; rfl) rfl (Nat.le_of_ble_eq_true rfl) hl dX11_sleepDay_6 ?_
  refine v_astore_n C (i := 3) (lv' := [(3, va_rf v6), (0, va_rf (some x0)), (1, va_rf x1), (2, .int x2)]) hl rfl (by decide) rfl dX11_sleepDay_9 (fun ls hl => ?_)
  refine v_aload_n C (lv_at hl 2 rfl) rfl dX11_sleepDay_10 ?_
  refine v_aload_n C (lv_at hl 0 rfl) rfl dX11_sleepDay_11 ?_
  obtain ⟨b12, f12, hr⟩ := ob hr
  obtain ⟨g12, h12⟩ := rcv_n f12
  obtain ⟨v12, e12, hr⟩ := ob hr
  refine v_callV C (b := b12) h12 (by decide) rfl rfl (k_X6_sortsThatCount e12) cw_X6_sortsThatCount w_937 w_938 w_939 (show (parseMethodDescriptor (yX6_sortsThatCount).desc).map (fun d => d.parameters.length) = some 0 by decide +kernel) ⟨by decide, by decide⟩ (rest := [va_rf x1]) (stk2 := [.int v12, va_rf x1]) (by rw [g12]; rfl) rfl (by simp [rf_cat, cat_i, cat_l]) hl dX11_sleepDay_12 ?_
  refine v_iload_n C (lv_at hl 3 rfl) rfl dX11_sleepDay_15 ?_
  obtain ⟨b16, f16, hr⟩ := ob hr
  obtain ⟨g16, h16⟩ := rcv_n f16
  obtain ⟨v16, e16, hr⟩ := ob hr
  refine v_callV C (b := b16) h16 (by decide) rfl rfl (k_X0_lastStir e16) cw_X0_lastStir w_953 w_954 w_955 (show (parseMethodDescriptor (yX0_lastStir).desc).map (fun d => d.parameters.length) = some 2 by decide +kernel) ⟨by decide, by decide⟩ (rest := []) (stk2 := [.int v16]) (by rw [g16]; rfl) rfl (Nat.le_of_ble_eq_true rfl) hl dX11_sleepDay_16 ?_
  refine v_aload_n C (lv_at hl 0 rfl) rfl dX11_sleepDay_19 ?_
  refine v_aload_n C (lv_at hl 2 rfl) rfl dX11_sleepDay_20 ?_
  obtain ⟨v21, e21, hr⟩ := ob hr
  refine v_getI C fl_RX11_303 rfl e21 dX11_sleepDay_21 ?_
  obtain ⟨b24, f24, hr⟩ := ob hr
  obtain ⟨g24, h24⟩ := rcv_n f24
  obtain ⟨v24, e24, hr⟩ := ob hr
  refine v_callV C (b := b24) h24 (by decide) rfl rfl (k_X6_yearsOfSleep e24) cw_X6_yearsOfSleep w_933 w_934 w_935 (show (parseMethodDescriptor (yX6_yearsOfSleep).desc).map (fun d => d.parameters.length) = some 1 by decide +kernel) ⟨by decide, by decide⟩ (rest := [.int v16]) (stk2 := [.int v24, .int v16]) (by rw [g24]; rfl) rfl (Nat.le_of_ble_eq_true rfl) hl dX11_sleepDay_24 ?_
  refine v_sipush C 360 (by decide) dX11_sleepDay_27 ?_
  refine v_imul C dX11_sleepDay_30 ?_
  refine v_iadd C dX11_sleepDay_31 ?_
  obtain rfl := os hr
  exact v_iret C dX11_sleepDay_32
-- X11_hold
def f_X11_hold (S : St) (x0 : Nat) (x1 : Option Nat) : Option St :=
    (getI S (some x0) 12 0).bind fun v2 =>
    (getI S (some x0) 12 0).bind fun v8 =>
    (rcv S (some x0) 12).bind fun b11 =>
    (f_X11_sleepDay S b11 x1 v8).bind fun v11 =>
    (putI S x1 1 10 (v2 - v11)).bind fun S15 =>
    (getI S15 (some x0) 12 0).bind fun v21 =>
    (f_X11_owedOn S15 x1 v21).bind fun v24 =>
    (putI S15 x1 1 7 v24).bind fun S27 =>
    (getI S27 (some x0) 12 0).bind fun v33 =>
    (getI S27 (some x0) 12 0).bind fun v37 =>
    (rcv S27 x1 1).bind fun b40 =>
    (f_X0_askedSum S27 b40 v33 v37).bind fun v40 =>
    (putL S27 x1 1 8 v40).bind fun S43 =>
    (getI S43 (some x0) 12 0).bind fun v48 =>
    (putI S43 x1 1 9 v48).bind fun S51 =>
    some S51
theorem k_X11_hold {l : Launch} {G : Ge} {S S' : St} {x0 : Nat} {x1 : Option Nat} (hr : f_X11_hold S x0 x1 = some S') : Ct l G yX11_hold cX11_hold 2 (Option.none : Option Jvm.ClassFile.FieldType) S [va_rf (some x0), va_rf x1] none S' 5 113 := by
  refine ct_of (by decide +kernel) (by cases x1 <;> exact Nat.le_of_ble_eq_true rfl) ?_
  intro p e s m args below meth c C ls hl
  have hl : lv_has ls 2 [(0, va_rf (some x0)), (1, va_rf x1)] := by clear hr; cases x1 <;> exact hl
  unfold f_X11_hold at hr
  refine v_aload_n C (lv_at hl 1 rfl) rfl dX11_hold_0 ?_
  refine v_aload_n C (lv_at hl 0 rfl) rfl dX11_hold_1 ?_
  obtain ⟨v2, e2, hr⟩ := ob hr
  refine v_getI C fl_RX11_7 rfl e2 dX11_hold_2 ?_
  refine v_aload_n C (lv_at hl 0 rfl) rfl dX11_hold_5 ?_
  refine v_aload_n C (lv_at hl 1 rfl) rfl dX11_hold_6 ?_
  refine v_aload_n C (lv_at hl 0 rfl) rfl dX11_hold_7 ?_
  obtain ⟨v8, e8, hr⟩ := ob hr
  refine v_getI C fl_RX11_7 rfl e8 dX11_hold_8 ?_
  obtain ⟨b11, f11, hr⟩ := ob hr
  obtain ⟨g11, h11⟩ := rcv_n f11
  obtain ⟨v11, e11, hr⟩ := ob hr
  refine v_callV C (b := b11) h11 (by decide) rfl rfl (k_X11_sleepDay e11) cw_X11_sleepDay w_949 w_951 w_23 (show (parseMethodDescriptor (yX11_sleepDay).desc).map (fun d => d.parameters.length) = some 2 by decide +kernel) ⟨by decide, by decide⟩ (rest := [.int v2, va_rf x1]) (stk2 := [.int v11, .int v2, va_rf x1]) (by rw [g11]; rfl) rfl (by simp [rf_cat, cat_i, cat_l]) hl dX11_hold_11 ?_
  refine v_isub C dX11_hold_14 ?_
  obtain ⟨S15, e15, hr⟩ := ob hr
  refine v_putI C fl_RX11_282 (Or.inl rfl) rfl e15 dX11_hold_15 ?_
  refine v_aload_n C (lv_at hl 1 rfl) rfl dX11_hold_18 ?_
  refine v_aload_n C (lv_at hl 1 rfl) rfl dX11_hold_19 ?_
  refine v_aload_n C (lv_at hl 0 rfl) rfl dX11_hold_20 ?_
  obtain ⟨v21, e21, hr⟩ := ob hr
  refine v_getI C fl_RX11_7 rfl e21 dX11_hold_21 ?_
  obtain ⟨v24, e24, hr⟩ := ob hr
  refine v_callS C (k_X11_owedOn e24) cw_X11_owedOn w_946 w_947 (show (parseMethodDescriptor (yX11_owedOn).desc).map (fun d => d.parameters.length) = some 2 by decide +kernel) ⟨by decide, by decide⟩ (rest := [va_rf x1]) (stk2 := [.int v24, va_rf x1]) rfl rfl (by simp [rf_cat, cat_i, cat_l]) hl dX11_hold_24 ?_
  obtain ⟨S27, e27, hr⟩ := ob hr
  refine v_putI C fl_RX11_272 (Or.inl rfl) rfl e27 dX11_hold_27 ?_
  refine v_aload_n C (lv_at hl 1 rfl) rfl dX11_hold_30 ?_
  refine v_aload_n C (lv_at hl 1 rfl) rfl dX11_hold_31 ?_
  refine v_aload_n C (lv_at hl 0 rfl) rfl dX11_hold_32 ?_
  obtain ⟨v33, e33, hr⟩ := ob hr
  refine v_getI C fl_RX11_7 rfl e33 dX11_hold_33 ?_
  refine v_aload_n C (lv_at hl 0 rfl) rfl dX11_hold_36 ?_
  obtain ⟨v37, e37, hr⟩ := ob hr
  refine v_getI C fl_RX11_7 rfl e37 dX11_hold_37 ?_
  obtain ⟨b40, f40, hr⟩ := ob hr
  obtain ⟨g40, h40⟩ := rcv_n f40
  obtain ⟨v40, e40, hr⟩ := ob hr
  refine v_callV C (b := b40) h40 (by decide) rfl rfl (k_X0_askedSum e40) cw_X0_askedSum w_677 w_678 w_679 (show (parseMethodDescriptor (yX0_askedSum).desc).map (fun d => d.parameters.length) = some 2 by decide +kernel) ⟨by decide, by decide⟩ (rest := [va_rf x1]) (stk2 := [.long v40, va_rf x1]) (by rw [g40]; rfl) rfl (by simp [rf_cat, cat_i, cat_l]) hl dX11_hold_40 ?_
  obtain ⟨S43, e43, hr⟩ := ob hr
  refine v_putL C fl_RX11_275 (Or.inl rfl) rfl e43 dX11_hold_43 ?_
  refine v_aload_n C (lv_at hl 1 rfl) rfl dX11_hold_46 ?_
  refine v_aload_n C (lv_at hl 0 rfl) rfl dX11_hold_47 ?_
  obtain ⟨v48, e48, hr⟩ := ob hr
  refine v_getI C fl_RX11_7 rfl e48 dX11_hold_48 ?_
  obtain ⟨S51, e51, hr⟩ := ob hr
  refine v_putI C fl_RX11_279 (Or.inl rfl) rfl e51 dX11_hold_51 ?_
  obtain rfl := os hr
  exact v_vret C dX11_hold_54
-- X1_init
def f_X1_init (S : St) (x0 : Nat) : Option St :=
    (newA S 16 20).bind fun (a7, S7) =>
    (putR S7 (some x0) 2 0 (some a7)).bind fun S9 =>
    (newA S9 15 20).bind fun (a15, S15) =>
    (putR S15 (some x0) 2 1 (some a15)).bind fun S17 =>
    (newA S17 15 20).bind fun (a23, S23) =>
    (putR S23 (some x0) 2 2 (some a23)).bind fun S25 =>
    (putI S25 (some x0) 2 3 0).bind fun S30 =>
    (putL S30 (some x0) 2 4 0).bind fun S35 =>
    some S35
theorem k_X1_init {l : Launch} {G : Ge} {S S' : St} {x0 : Nat} (hr : f_X1_init S x0 = some S') : Ct l G yX1_init cX1_init 1 (Option.none : Option Jvm.ClassFile.FieldType) S [va_rf (some x0)] none S' 1 36 := by
  refine ct_of (by decide +kernel) (Nat.le_of_ble_eq_true rfl) ?_
  intro p e s m args below meth c C ls hl
  have hl : lv_has ls 1 [(0, va_rf (some x0))] := hl
  unfold f_X1_init at hr
  refine v_aload_n C (lv_at hl 0 rfl) rfl dX1_init_0 ?_
  refine v_objInit C (b := x0) w_274 w_134 w_135 ⟨by decide, by decide⟩ (Nat.le_of_ble_eq_true rfl) hl dX1_init_1 ?_
  refine v_aload_n C (lv_at hl 0 rfl) rfl dX1_init_4 ?_
  refine v_bipush C 20 (by decide) dX1_init_5 ?_
  obtain ⟨⟨a7, S7⟩, e7, hr⟩ := ob hr
  (try dsimp only at hr)
  refine v_newA C (atype := .long) (t0 := 2) e7 (by decide) rfl (fun _ => ⟨rfl, rfl, rfl, by decide⟩) w_291 dX1_init_7 ?_
  obtain ⟨S9, e9, hr⟩ := ob hr
  refine v_putR C fl_RX1_9 (Or.inr ⟨rfl, rfl⟩) rfl e9 dX1_init_9 ?_
  refine v_aload_n C (lv_at hl 0 rfl) rfl dX1_init_12 ?_
  refine v_bipush C 20 (by decide) dX1_init_13 ?_
  obtain ⟨⟨a15, S15⟩, e15, hr⟩ := ob hr
  (try dsimp only at hr)
  refine v_newA C (atype := .int) (t0 := 1) e15 (by decide) rfl (fun _ => ⟨rfl, rfl, rfl, by decide⟩) w_211 dX1_init_15 ?_
  obtain ⟨S17, e17, hr⟩ := ob hr
  refine v_putR C fl_RX1_15 (Or.inr ⟨rfl, rfl⟩) rfl e17 dX1_init_17 ?_
  refine v_aload_n C (lv_at hl 0 rfl) rfl dX1_init_20 ?_
  refine v_bipush C 20 (by decide) dX1_init_21 ?_
  obtain ⟨⟨a23, S23⟩, e23, hr⟩ := ob hr
  (try dsimp only at hr)
  refine v_newA C (atype := .int) (t0 := 1) e23 (by decide) rfl (fun _ => ⟨rfl, rfl, rfl, by decide⟩) w_211 dX1_init_23 ?_
  obtain ⟨S25, e25, hr⟩ := ob hr
  refine v_putR C fl_RX1_19 (Or.inr ⟨rfl, rfl⟩) rfl e25 dX1_init_25 ?_
  refine v_aload_n C (lv_at hl 0 rfl) rfl dX1_init_28 ?_
  refine v_iconst C 0 (by decide) dX1_init_29 ?_
  obtain ⟨S30, e30, hr⟩ := ob hr
  refine v_putI C fl_RX1_22 (Or.inl rfl) rfl e30 dX1_init_30 ?_
  refine v_aload_n C (lv_at hl 0 rfl) rfl dX1_init_33 ?_
  refine v_lconst C 0 (by decide) dX1_init_34 ?_
  obtain ⟨S35, e35, hr⟩ := ob hr
  refine v_putL C fl_RX1_26 (Or.inl rfl) rfl e35 dX1_init_35 ?_
  obtain rfl := os hr
  exact v_vret C dX1_init_38
-- X5_init
def f_X5_init (S : St) (x0 : Nat) : Option St :=
    (newA S 19 8).bind fun (a7, S7) =>
    (putR S7 (some x0) 6 0 (some a7)).bind fun S10 =>
    (putI S10 (some x0) 6 1 0).bind fun S15 =>
    (newA S15 15 256).bind fun (a22, S22) =>
    (putR S22 (some x0) 6 2 (some a22)).bind fun S24 =>
    (newA S24 15 256).bind fun (a31, S31) =>
    (putR S31 (some x0) 6 3 (some a31)).bind fun S33 =>
    (newA S33 15 256).bind fun (a40, S40) =>
    (putR S40 (some x0) 6 4 (some a40)).bind fun S42 =>
    some S42
theorem k_X5_init {l : Launch} {G : Ge} {S S' : St} {x0 : Nat} (hr : f_X5_init S x0 = some S') : Ct l G yX5_init cX5_init 1 (Option.none : Option Jvm.ClassFile.FieldType) S [va_rf (some x0)] none S' 1 36 := by
  refine ct_of (by decide +kernel) (Nat.le_of_ble_eq_true rfl) ?_
  intro p e s m args below meth c C ls hl
  have hl : lv_has ls 1 [(0, va_rf (some x0))] := hl
  unfold f_X5_init at hr
  refine v_aload_n C (lv_at hl 0 rfl) rfl dX5_init_0 ?_
  refine v_objInit C (b := x0) w_250 w_134 w_135 ⟨by decide, by decide⟩ (Nat.le_of_ble_eq_true rfl) hl dX5_init_1 ?_
  refine v_aload_n C (lv_at hl 0 rfl) rfl dX5_init_4 ?_
  refine v_bipush C 8 (by decide) dX5_init_5 ?_
  obtain ⟨⟨a7, S7⟩, e7, hr⟩ := ob hr
  (try dsimp only at hr)
  refine v_newR C (nm := RX8) e7 (by decide) w_251 dX5_init_7 ?_
  obtain ⟨S10, e10, hr⟩ := ob hr
  refine v_putR C fl_RX5_11 (Or.inr ⟨rfl, rfl⟩) rfl e10 dX5_init_10 ?_
  refine v_aload_n C (lv_at hl 0 rfl) rfl dX5_init_13 ?_
  refine v_iconst C 0 (by decide) dX5_init_14 ?_
  obtain ⟨S15, e15, hr⟩ := ob hr
  refine v_putI C fl_RX5_17 (Or.inl rfl) rfl e15 dX5_init_15 ?_
  refine v_aload_n C (lv_at hl 0 rfl) rfl dX5_init_18 ?_
  refine v_sipush C 256 (by decide) dX5_init_19 ?_
  obtain ⟨⟨a22, S22⟩, e22, hr⟩ := ob hr
  (try dsimp only at hr)
  refine v_newA C (atype := .int) (t0 := 1) e22 (by decide) rfl (fun _ => ⟨rfl, rfl, rfl, by decide⟩) w_211 dX5_init_22 ?_
  obtain ⟨S24, e24, hr⟩ := ob hr
  refine v_putR C fl_RX5_21 (Or.inr ⟨rfl, rfl⟩) rfl e24 dX5_init_24 ?_
  refine v_aload_n C (lv_at hl 0 rfl) rfl dX5_init_27 ?_
  refine v_sipush C 256 (by decide) dX5_init_28 ?_
  obtain ⟨⟨a31, S31⟩, e31, hr⟩ := ob hr
  (try dsimp only at hr)
  refine v_newA C (atype := .int) (t0 := 1) e31 (by decide) rfl (fun _ => ⟨rfl, rfl, rfl, by decide⟩) w_211 dX5_init_31 ?_
  obtain ⟨S33, e33, hr⟩ := ob hr
  refine v_putR C fl_RX5_25 (Or.inr ⟨rfl, rfl⟩) rfl e33 dX5_init_33 ?_
  refine v_aload_n C (lv_at hl 0 rfl) rfl dX5_init_36 ?_
  refine v_sipush C 256 (by decide) dX5_init_37 ?_
  obtain ⟨⟨a40, S40⟩, e40, hr⟩ := ob hr
  (try dsimp only at hr)
  refine v_newA C (atype := .int) (t0 := 1) e40 (by decide) rfl (fun _ => ⟨rfl, rfl, rfl, by decide⟩) w_211 dX5_init_40 ?_
  obtain ⟨S42, e42, hr⟩ := ob hr
  refine v_putR C fl_RX5_28 (Or.inr ⟨rfl, rfl⟩) rfl e42 dX5_init_42 ?_
  obtain rfl := os hr
  exact v_vret C dX5_init_45
-- X6_init
def f_X6_init (S : St) (x0 : Nat) (x1 : Int32) : Option St :=
    (putI S (some x0) 7 0 0).bind fun S6 =>
    (newA S6 15 4).bind fun (a11, S11) =>
    (stI S11 (some a11) 15 0 5).bind fun S16 =>
    (stI S16 (some a11) 15 1 5).bind fun S20 =>
    (stI S20 (some a11) 15 2 5).bind fun S24 =>
    (stI S24 (some a11) 15 3 5).bind fun S28 =>
    (putR S28 (some x0) 7 1 (some a11)).bind fun S29 =>
    (putI S29 (some x0) 7 2 0).bind fun S34 =>
    (putI S34 (some x0) 7 3 30).bind fun S40 =>
    (putI S40 (some x0) 7 4 10).bind fun S46 =>
    (putI S46 (some x0) 7 5 0).bind fun S51 =>
    (putI S51 (some x0) 7 6 0).bind fun S56 =>
    (putI S56 (some x0) 7 8 0).bind fun S61 =>
    (f_J9_max_7cf53 S61 0 x1).bind fun v67 =>
    (newA S61 15 v67).bind fun (a70, S70) =>
    (putR S70 (some x0) 7 7 (some a70)).bind fun S72 =>
    some S72
theorem k_X6_init {l : Launch} {G : Ge} {S S' : St} {x0 : Nat} {x1 : Int32} (hr : f_X6_init S x0 x1 = some S') : Ct l G yX6_init cX6_init 2 (Option.none : Option Jvm.ClassFile.FieldType) S [va_rf (some x0), .int x1] none S' 1 36 := by
  refine ct_of (by decide +kernel) (Nat.le_of_ble_eq_true rfl) ?_
  intro p e s m args below meth c C ls hl
  have hl : lv_has ls 2 [(0, va_rf (some x0)), (1, .int x1)] := hl
  unfold f_X6_init at hr
  refine v_aload_n C (lv_at hl 0 rfl) rfl dX6_init_0 ?_
  refine v_objInit C (b := x0) w_167 w_134 w_135 ⟨by decide, by decide⟩ (Nat.le_of_ble_eq_true rfl) hl dX6_init_1 ?_
  refine v_aload_n C (lv_at hl 0 rfl) rfl dX6_init_4 ?_
  refine v_iconst C 0 (by decide) dX6_init_5 ?_
  obtain ⟨S6, e6, hr⟩ := ob hr
  refine v_putI C fl_RX6_9 (Or.inl rfl) rfl e6 dX6_init_6 ?_
  refine v_aload_n C (lv_at hl 0 rfl) rfl dX6_init_9 ?_
  refine v_iconst C 4 (by decide) dX6_init_10 ?_
  obtain ⟨⟨a11, S11⟩, e11, hr⟩ := ob hr
  (try dsimp only at hr)
  refine v_newA C (atype := .int) (t0 := 1) e11 (by decide) rfl (fun _ => ⟨rfl, rfl, rfl, by decide⟩) w_211 dX6_init_11 ?_
  refine v_dup C (rf_cat _) dX6_init_13 ?_
  refine v_iconst C 0 (by decide) dX6_init_14 ?_
  refine v_iconst C 5 (by decide) dX6_init_15 ?_
  obtain ⟨S16, e16, hr⟩ := ob hr
  refine v_stI_i C e16 dX6_init_16 ?_
  refine v_dup C (rf_cat _) dX6_init_17 ?_
  refine v_iconst C 1 (by decide) dX6_init_18 ?_
  refine v_iconst C 5 (by decide) dX6_init_19 ?_
  obtain ⟨S20, e20, hr⟩ := ob hr
  refine v_stI_i C e20 dX6_init_20 ?_
  refine v_dup C (rf_cat _) dX6_init_21 ?_
  refine v_iconst C 2 (by decide) dX6_init_22 ?_
  refine v_iconst C 5 (by decide) dX6_init_23 ?_
  obtain ⟨S24, e24, hr⟩ := ob hr
  refine v_stI_i C e24 dX6_init_24 ?_
  refine v_dup C (rf_cat _) dX6_init_25 ?_
  refine v_iconst C 3 (by decide) dX6_init_26 ?_
  refine v_iconst C 5 (by decide) dX6_init_27 ?_
  obtain ⟨S28, e28, hr⟩ := ob hr
  refine v_stI_i C e28 dX6_init_28 ?_
  obtain ⟨S29, e29, hr⟩ := ob hr
  refine v_putR C fl_RX6_15 (Or.inr ⟨rfl, rfl⟩) rfl e29 dX6_init_29 ?_
  refine v_aload_n C (lv_at hl 0 rfl) rfl dX6_init_32 ?_
  refine v_iconst C 0 (by decide) dX6_init_33 ?_
  obtain ⟨S34, e34, hr⟩ := ob hr
  refine v_putI C fl_RX6_19 (Or.inl rfl) rfl e34 dX6_init_34 ?_
  refine v_aload_n C (lv_at hl 0 rfl) rfl dX6_init_37 ?_
  refine v_bipush C 30 (by decide) dX6_init_38 ?_
  obtain ⟨S40, e40, hr⟩ := ob hr
  refine v_putI C fl_RX6_22 (Or.inl rfl) rfl e40 dX6_init_40 ?_
  refine v_aload_n C (lv_at hl 0 rfl) rfl dX6_init_43 ?_
  refine v_bipush C 10 (by decide) dX6_init_44 ?_
  obtain ⟨S46, e46, hr⟩ := ob hr
  refine v_putI C fl_RX6_25 (Or.inl rfl) rfl e46 dX6_init_46 ?_
  refine v_aload_n C (lv_at hl 0 rfl) rfl dX6_init_49 ?_
  refine v_iconst C 0 (by decide) dX6_init_50 ?_
  obtain ⟨S51, e51, hr⟩ := ob hr
  refine v_putI C fl_RX6_28 (Or.inl rfl) rfl e51 dX6_init_51 ?_
  refine v_aload_n C (lv_at hl 0 rfl) rfl dX6_init_54 ?_
  refine v_iconst C 0 (by decide) dX6_init_55 ?_
  obtain ⟨S56, e56, hr⟩ := ob hr
  refine v_putI C fl_RX6_31 (Or.inl rfl) rfl e56 dX6_init_56 ?_
  refine v_aload_n C (lv_at hl 0 rfl) rfl dX6_init_59 ?_
  refine v_iconst C 0 (by decide) dX6_init_60 ?_
  obtain ⟨S61, e61, hr⟩ := ob hr
  refine v_putI C fl_RX6_34 (Or.inl rfl) rfl e61 dX6_init_61 ?_
  refine v_aload_n C (lv_at hl 0 rfl) rfl dX6_init_64 ?_
  refine v_iconst C 0 (by decide) dX6_init_65 ?_
  refine v_iload_n C (lv_at hl 1 rfl) rfl dX6_init_66 ?_
  obtain ⟨v67, e67, hr⟩ := ob hr
  refine v_callS C (k_J9_max_7cf53 e67) cw_J9_max_7cf53 w_168 w_169 (show (parseMethodDescriptor (yJ9_max_7cf53).desc).map (fun d => d.parameters.length) = some 2 by decide +kernel) ⟨by decide, by decide⟩ (rest := [va_rf (some x0)]) (stk2 := [.int v67, va_rf (some x0)]) rfl rfl (by simp [rf_cat, cat_i, cat_l]) hl dX6_init_67 ?_
  obtain ⟨⟨a70, S70⟩, e70, hr⟩ := ob hr
  (try dsimp only at hr)
  refine v_newA C (atype := .int) (t0 := 1) e70 (by decide) rfl (fun _ => ⟨rfl, rfl, rfl, by decide⟩) w_211 dX6_init_70 ?_
  obtain ⟨S72, e72, hr⟩ := ob hr
  refine v_putR C fl_RX6_43 (Or.inr ⟨rfl, rfl⟩) rfl e72 dX6_init_72 ?_
  obtain rfl := os hr
  exact v_vret C dX6_init_75
end Mth
