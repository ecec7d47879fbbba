section Mth
variable {p : Program} {l : Launch} {e : Env} {s : State} {m : MethodId} {args : Array Value} {below : List Frame} {meth : Method} {c : Code} {G : Ge}
-- X12_firm
def f_X12_firm (S : St) (x0 : Nat) (x1 : Int32) : Option (Int32 × St) :=
    (f_X12_isState S x1).bind fun v1 =>
    (if v1 = 0 then
    some ((-1), S)
    else
    (getI S (some x0) 13 1).bind fun v8 =>
    (if v8 = 8 then
    some ((-1), S)
    else
    (getR S (some x0) 13 5).bind fun v19 =>
    (getI S (some x0) 13 1).bind fun v23 =>
    (stI S v19 15 v23 x1).bind fun S27 =>
    (getR S27 (some x0) 13 6).bind fun v29 =>
    (getI S27 (some x0) 13 1).bind fun v33 =>
    (stI S27 v29 15 v33 (-1)).bind fun S37 =>
    (getI S37 (some x0) 13 1).bind fun v40 =>
    (putI S37 (some x0) 13 1 (v40 + 1)).bind fun S45 =>
    (getI S45 (some x0) 13 1).bind fun v49 =>
    some ((v49 - 1), S45)))
theorem k_X12_firm {l : Launch} {G : Ge} {S S' : St} {x0 : Nat} {x1 : Int32} {rr : Int32} (hr : f_X12_firm S x0 x1 = some (rr, S')) : Ct l G yX12_firm cX12_firm 2 (Option.some Jvm.ClassFile.FieldType.int) S [va_rf (some x0), .int x1] (some (.int rr)) S' 2 42 := by
  refine ct_of (by decide +kernel) (Nat.le_of_ble_eq_true rfl) ?_
  intro p e s m args below meth c C ls hl
  have hl : lv_has ls 2 [(0, va_rf (some x0)), (1, .int x1)] := hl
  unfold f_X12_firm at hr
  refine v_iload_n C (lv_at hl 1 rfl) rfl dX12_firm_0 ?_
  obtain ⟨v1, e1, hr⟩ := ob hr
  refine v_callS C (k_X12_isState e1) cw_X12_isState w_1562 w_1563 (show (parseMethodDescriptor (yX12_isState).desc).map (fun d => d.parameters.length) = some 1 by decide +kernel) ⟨by decide, by decide⟩ (rest := []) (stk2 := [.int v1]) rfl rfl (Nat.le_of_ble_eq_true rfl) hl dX12_firm_1 ?_
  refine v_if_eq C 16 (by decide) dX12_firm_4 (fun c4 => ?_) (fun c4 => ?_)
  · rw [if_pos c4] at hr
    refine v_iconst C (-1) (by decide) dX12_firm_16 ?_
    obtain ⟨rfl, rfl⟩ := Prod.mk.inj (os hr)
    exact v_iret C dX12_firm_17
  · rw [if_neg c4] at hr
    refine v_aload_n C (lv_at hl 0 rfl) rfl dX12_firm_7 ?_
    obtain ⟨v8, e8, hr⟩ := ob hr
    refine v_getI C fl_RX12_204 rfl e8 dX12_firm_8 ?_
    refine v_bipush C 8 (by decide) dX12_firm_11 ?_
    refine v_icmp_ne C 18 (by decide) dX12_firm_13 (fun c13 => ?_) (fun c13 => ?_)
    · rw [if_neg c13] at hr
      refine v_aload_n C (lv_at hl 0 rfl) rfl dX12_firm_18 ?_
      obtain ⟨v19, e19, hr⟩ := ob hr
      refine v_getR C fl_RX12_7 rfl e19 dX12_firm_19 ?_
      refine v_aload_n C (lv_at hl 0 rfl) rfl dX12_firm_22 ?_
      obtain ⟨v23, e23, hr⟩ := ob hr
      refine v_getI C fl_RX12_204 rfl e23 dX12_firm_23 ?_
      refine v_iload_n C (lv_at hl 1 rfl) rfl dX12_firm_26 ?_
      obtain ⟨S27, e27, hr⟩ := ob hr
      refine v_stI_i C e27 dX12_firm_27 ?_
      refine v_aload_n C (lv_at hl 0 rfl) rfl dX12_firm_28 ?_
      obtain ⟨v29, e29, hr⟩ := ob hr
      refine v_getR C fl_RX12_13 rfl e29 dX12_firm_29 ?_
      refine v_aload_n C (lv_at hl 0 rfl) rfl dX12_firm_32 ?_
      obtain ⟨v33, e33, hr⟩ := ob hr
      refine v_getI C fl_RX12_204 rfl e33 dX12_firm_33 ?_
      refine v_iconst C (-1) (by decide) dX12_firm_36 ?_
      obtain ⟨S37, e37, hr⟩ := ob hr
      refine v_stI_i C e37 dX12_firm_37 ?_
      refine v_aload_n C (lv_at hl 0 rfl) rfl dX12_firm_38 ?_
      refine v_dup C (rf_cat _) dX12_firm_39 ?_
      obtain ⟨v40, e40, hr⟩ := ob hr
      refine v_getI C fl_RX12_204 rfl e40 dX12_firm_40 ?_
      refine v_iconst C 1 (by decide) dX12_firm_43 ?_
      refine v_iadd C dX12_firm_44 ?_
      obtain ⟨S45, e45, hr⟩ := ob hr
      refine v_putI C fl_RX12_204 (Or.inl rfl) rfl e45 dX12_firm_45 ?_
      refine v_aload_n C (lv_at hl 0 rfl) rfl dX12_firm_48 ?_
      obtain ⟨v49, e49, hr⟩ := ob hr
      refine v_getI C fl_RX12_204 rfl e49 dX12_firm_49 ?_
      refine v_iconst C 1 (by decide) dX12_firm_52 ?_
      refine v_isub C dX12_firm_53 ?_
      obtain ⟨rfl, rfl⟩ := Prod.mk.inj (os hr)
      exact v_iret C dX12_firm_54
    · rw [if_pos c13] at hr
      refine v_iconst C (-1) (by decide) dX12_firm_16 ?_
      obtain ⟨rfl, rfl⟩ := Prod.mk.inj (os hr)
      exact v_iret C dX12_firm_17
-- X12_firmOf
def f_X12_firmOf_2 : Nat → St → Nat → Int32 → Int32 → Option (Int32)
  | 0, _, _, _, _ => none
  | n + 1, S, x0, x2, x3 =>
    (rcv S (some x0) 13).bind fun b5 =>
    (f_X12_isMerged S b5 x3 x2).bind fun v5 =>
    (if v5 = 0 then
    some x3
    else
    (getR S (some x0) 13 6).bind fun v12 =>
    (ldI S v12 15 x3).bind fun v16 =>
    f_X12_firmOf_2 n S x0 x2 v16)
def f_X12_firmOf (S : St) (x0 : Nat) (x1 : Int32) (x2 : Int32) : Option Int32 :=
    f_X12_firmOf_2 FU S x0 x2 x1
theorem b_X12_firmOf_2  {S : St} {rr : Int32} (C : Cx p s m args meth c G S yX12_firmOf cX12_firmOf 4 (Option.some Jvm.ClassFile.FieldType.int)) {o : (Int32)} (kR : ∀ (v : Int32), o = v → rr = v) : ∀ (n : Nat) {x0 : Nat} {x2 : Int32} {x3 : Int32}, f_X12_firmOf_2 n S x0 x2 x3 = some o → ∀ ls : Array Slot, lv_has ls 4 [(0, va_rf (some x0)), (2, .int x2), (3, .int x3)] → V p l e (rmo 1 22 S) s m args below meth c G S S (QM below args s G S S (some (.int rr))) (F0 m 2 ls []) := by
  intro n
  induction n with
  | zero => intro x0 x2 x3 hr; cases hr
  | succ n ih =>
    intro x0 x2 x3 hr ls hl
    unfold f_X12_firmOf_2 at hr
    refine v_aload_n C (lv_at hl 0 rfl) rfl dX12_firmOf_2 ?_
    refine v_iload_n C (lv_at hl 2 rfl) rfl dX12_firmOf_3 ?_
    refine v_iload_n C (lv_at hl 1 rfl) rfl dX12_firmOf_4 ?_
    obtain ⟨b5, f5, hr⟩ := ob hr
    obtain ⟨g5, h5⟩ := rcv_n f5
    obtain ⟨v5, e5, hr⟩ := ob hr
    refine v_callV C (b := b5) h5 (by decide) rfl rfl (k_X12_isMerged e5) cw_X12_isMerged w_1577 w_1579 w_54 (show (parseMethodDescriptor (yX12_isMerged).desc).map (fun d => d.parameters.length) = some 2 by decide +kernel) ⟨by decide, by decide⟩ (rest := []) (stk2 := [.int v5]) (by rw [g5]; rfl) rfl (Nat.le_of_ble_eq_true rfl) hl dX12_firmOf_5 ?_
    refine v_if_eq C 21 (by decide) dX12_firmOf_8 (fun c8 => ?_) (fun c8 => ?_)
    · rw [if_pos c8] at hr
      refine v_iload_n C (lv_at hl 2 rfl) rfl dX12_firmOf_21 ?_
      obtain rfl := os hr
      obtain rfl := kR _ rfl
      exact v_iret C dX12_firmOf_22
    · rw [if_neg c8] at hr
      refine v_aload_n C (lv_at hl 0 rfl) rfl dX12_firmOf_11 ?_
      obtain ⟨v12, e12, hr⟩ := ob hr
      refine v_getR C fl_RX12_13 rfl e12 dX12_firmOf_12 ?_
      refine v_iload_n C (lv_at hl 2 rfl) rfl dX12_firmOf_15 ?_
      obtain ⟨v16, e16, hr⟩ := ob hr
      refine v_ldI_i C e16 dX12_firmOf_16 ?_
      refine v_istore_n C (i := 3) (lv' := [(3, .int v16), (0, va_rf (some x0)), (2, .int x2)]) hl rfl (by decide) rfl dX12_firmOf_17 (fun ls hl => ?_)
      refine v_goto C 2 (by decide) dX12_firmOf_18 ?_
      exact ih hr _ (lv_sub hl [1, 2, 0] rfl)
theorem k_X12_firmOf {l : Launch} {G : Ge} {S : St} {x0 : Nat} {x1 : Int32} {x2 : Int32} {rr : Int32} (hr : f_X12_firmOf S x0 x1 x2 = some rr) : Ct l G yX12_firmOf cX12_firmOf 4 (Option.some Jvm.ClassFile.FieldType.int) S [va_rf (some x0), .int x1, .int x2] (some (.int rr)) S 1 22 := by
  refine ct_of (by decide +kernel) (Nat.le_of_ble_eq_true rfl) ?_
  intro p e s m args below meth c C ls hl
  have hl : lv_has ls 4 [(0, va_rf (some x0)), (1, .int x1), (2, .int x2)] := hl
  unfold f_X12_firmOf at hr
  refine v_iload_n C (lv_at hl 1 rfl) rfl dX12_firmOf_0 ?_
  refine v_istore_n C (i := 3) (lv' := [(3, .int x1), (0, va_rf (some x0)), (1, .int x1), (2, .int x2)]) hl rfl (by decide) rfl dX12_firmOf_1 (fun ls hl => ?_)
  exact b_X12_firmOf_2 C (fun _ q => by cases q; rfl) FU hr _ (lv_sub hl [1, 3, 0] rfl)
-- X12_firmOn
def f_X12_firmOn (S : St) (x0 : Nat) (x1 : Int32) (x2 : Int32) : Option Int32 :=
    (rcv S (some x0) 13).bind fun b2 =>
    (f_X12_isFirm S b2 x1).bind fun v2 =>
    (if v2 = 0 then
    some (-1)
    else
    (f_X12_isIn S x2 0 19999).bind fun v13 =>
    (if v13 = 0 then
    some (-1)
    else
    (rcv S (some x0) 13).bind fun b22 =>
    (f_X12_firmOf S b22 x1 x2).bind fun v22 =>
    some v22))
theorem k_X12_firmOn {l : Launch} {G : Ge} {S : St} {x0 : Nat} {x1 : Int32} {x2 : Int32} {rr : Int32} (hr : f_X12_firmOn S x0 x1 x2 = some rr) : Ct l G yX12_firmOn cX12_firmOn 3 (Option.some Jvm.ClassFile.FieldType.int) S [va_rf (some x0), .int x1, .int x2] (some (.int rr)) S 2 45 := by
  refine ct_of (by decide +kernel) (Nat.le_of_ble_eq_true rfl) ?_
  intro p e s m args below meth c C ls hl
  have hl : lv_has ls 3 [(0, va_rf (some x0)), (1, .int x1), (2, .int x2)] := hl
  unfold f_X12_firmOn at hr
  refine v_aload_n C (lv_at hl 0 rfl) rfl dX12_firmOn_0 ?_
  refine v_iload_n C (lv_at hl 1 rfl) rfl dX12_firmOn_1 ?_
  obtain ⟨b2, f2, hr⟩ := ob hr
  obtain ⟨g2, h2⟩ := rcv_n f2
  obtain ⟨v2, e2, hr⟩ := ob hr
  refine v_callV C (b := b2) h2 (by decide) rfl rfl (k_X12_isFirm e2) cw_X12_isFirm w_1569 w_1571 w_52 (show (parseMethodDescriptor (yX12_isFirm).desc).map (fun d => d.parameters.length) = some 1 by decide +kernel) ⟨by decide, by decide⟩ (rest := []) (stk2 := [.int v2]) (by rw [g2]; rfl) rfl (Nat.le_of_ble_eq_true rfl) hl dX12_firmOn_2 ?_
  refine v_if_eq C 28 (by decide) dX12_firmOn_5 (fun c5 => ?_) (fun c5 => ?_)
  · rw [if_pos c5] at hr
    refine v_iconst C (-1) (by decide) dX12_firmOn_28 ?_
    obtain rfl := os hr
    exact v_iret C dX12_firmOn_29
  · rw [if_neg c5] at hr
    refine v_iload_n C (lv_at hl 2 rfl) rfl dX12_firmOn_8 ?_
    refine v_iconst C 0 (by decide) dX12_firmOn_9 ?_
    refine v_sipush C 19999 (by decide) dX12_firmOn_10 ?_
    obtain ⟨v13, e13, hr⟩ := ob hr
    refine v_callS C (k_X12_isIn e13) cw_X12_isIn w_1555 w_1556 (show (parseMethodDescriptor (yX12_isIn).desc).map (fun d => d.parameters.length) = some 3 by decide +kernel) ⟨by decide, by decide⟩ (rest := []) (stk2 := [.int v13]) rfl rfl (Nat.le_of_ble_eq_true rfl) hl dX12_firmOn_13 ?_
    refine v_if_eq C 28 (by decide) dX12_firmOn_16 (fun c16 => ?_) (fun c16 => ?_)
    · rw [if_pos c16] at hr
      refine v_iconst C (-1) (by decide) dX12_firmOn_28 ?_
      obtain rfl := os hr
      exact v_iret C dX12_firmOn_29
    · rw [if_neg c16] at hr
      refine v_aload_n C (lv_at hl 0 rfl) rfl dX12_firmOn_19 ?_
      refine v_iload_n C (lv_at hl 1 rfl) rfl dX12_firmOn_20 ?_
      refine v_iload_n C (lv_at hl 2 rfl) rfl dX12_firmOn_21 ?_
      obtain ⟨b22, f22, hr⟩ := ob hr
      obtain ⟨g22, h22⟩ := rcv_n f22
      obtain ⟨v22, e22, hr⟩ := ob hr
      refine v_callV C (b := b22) h22 (by decide) rfl rfl (k_X12_firmOf e22) cw_X12_firmOf w_1585 w_1587 w_55 (show (parseMethodDescriptor (yX12_firmOf).desc).map (fun d => d.parameters.length) = some 2 by decide +kernel) ⟨by decide, by decide⟩ (rest := []) (stk2 := [.int v22]) (by rw [g22]; rfl) rfl (Nat.le_of_ble_eq_true rfl) hl dX12_firmOn_22 ?_
      refine v_goto C 29 (by decide) dX12_firmOn_25 ?_
      obtain rfl := os hr
      exact v_iret C dX12_firmOn_29
-- X12_grow
def f_X12_grow_64 : Nat → St → Nat → Int32 → Int32 → Int32 → Int32 → Int32 → Int32 → Option ((Int32 × St))
  | 0, _, _, _, _, _, _, _, _ => none
  | n + 1, S, x0, x1, x2, x3, x4, x5, x6 =>
    (getI S (some x0) 13 4).bind fun v67 =>
    (if v67 ≤ x6 then
    (if x5 = 4 then
    some (0, S)
    else
    (rcv S (some x0) 13).bind fun b137 =>
    (f_X12_tells S b137 x1 6 x2 x3 x4).bind fun S137 =>
    some (1, S137))
    else
    (getR S (some x0) 13 18).bind fun v74 =>
    (ldI S v74 15 x6).bind fun v79 =>
    (if v79 = x1 then
    (getR S (some x0) 13 19).bind fun v85 =>
    (ldI S v85 15 x6).bind fun v90 =>
    (if v90 = 6 then
    (getR S (some x0) 13 20).bind fun v100 =>
    (ldI S v100 15 x6).bind fun v105 =>
    (if v105 = x2 then
    some (0, S)
    else
    f_X12_grow_64 n S x0 x1 x2 x3 x4 (x5 + 1) (x6 + 1))
    else
    f_X12_grow_64 n S x0 x1 x2 x3 x4 x5 (x6 + 1))
    else
    f_X12_grow_64 n S x0 x1 x2 x3 x4 x5 (x6 + 1)))
def f_X12_grow (S : St) (x0 : Nat) (x1 : Int32) (x2 : Int32) (x3 : Int32) (x4 : Int32) : Option (Int32 × St) :=
    (rcv S (some x0) 13).bind fun b2 =>
    (f_X12_isAccount S b2 x1).bind fun v2 =>
    (if v2 = 0 then
    some (0, S)
    else
    (getR S (some x0) 13 17).bind fun v10 =>
    (ldI S v10 15 x1).bind fun v14 =>
    (getI S (some x0) 13 0).bind fun v16 =>
    (f_X12_isIn S x2 v14 v16).bind fun v19 =>
    (if v19 = 0 then
    some (0, S)
    else
    (f_X12_isIn S x3 1 9).bind fun v29 =>
    (if v29 = 0 then
    some (0, S)
    else
    (f_X12_isIn S x4 1 9).bind fun v40 =>
    (if v40 = 0 then
    some (0, S)
    else
    (getI S (some x0) 13 4).bind fun v47 =>
    (if v47 = 600 then
    some (0, S)
    else
    f_X12_grow_64 FU S x0 x1 x2 x3 x4 0 0)))))
theorem b_X12_grow_64  {S0 S' : St} {rr : Int32} (C : Cx p s m args meth c G S0 yX12_grow cX12_grow 7 (Option.some Jvm.ClassFile.FieldType.boolean)) {o : ((Int32 × St))} (kR : ∀ (v : Int32) (Z : St), o = (v, Z) → rr = v ∧ S' = Z) : ∀ (n : Nat) {S : St} {x0 : Nat} {x1 : Int32} {x2 : Int32} {x3 : Int32} {x4 : Int32} {x5 : Int32} {x6 : Int32}, f_X12_grow_64 n S x0 x1 x2 x3 x4 x5 x6 = some o → ∀ ls : Array Slot, lv_has ls 7 [(0, va_rf (some x0)), (1, .int x1), (2, .int x2), (3, .int x3), (4, .int x4), (5, .int x5), (6, .int x6)] → V p l e (rmo 2 43 S0) s m args below meth c G S0 S (QM below args s G S0 S' (some (.int rr))) (F0 m 64 ls []) := by
  intro n
  induction n with
  | zero => intro S x0 x1 x2 x3 x4 x5 x6 hr; cases hr
  | succ n ih =>
    intro S x0 x1 x2 x3 x4 x5 x6 hr ls hl
    unfold f_X12_grow_64 at hr
    refine v_iload C (lv_at hl 6 rfl) dX12_grow_64 ?_
    refine v_aload_n C (lv_at hl 0 rfl) rfl dX12_grow_66 ?_
    obtain ⟨v67, e67, hr⟩ := ob hr
    refine v_getI C fl_RX12_234 rfl e67 dX12_grow_67 ?_
    refine v_icmp_ge C 121 (by decide) dX12_grow_70 (fun c70 => ?_) (fun c70 => ?_)
    · rw [if_pos c70] at hr
      refine v_iload C (lv_at hl 5 rfl) dX12_grow_121 ?_
      refine v_iconst C 4 (by decide) dX12_grow_123 ?_
      refine v_icmp_ne C 129 (by decide) dX12_grow_124 (fun c124 => ?_) (fun c124 => ?_)
      · rw [if_neg c124] at hr
        refine v_aload_n C (lv_at hl 0 rfl) rfl dX12_grow_129 ?_
        refine v_iload_n C (lv_at hl 1 rfl) rfl dX12_grow_130 ?_
        refine v_bipush C 6 (by decide) dX12_grow_131 ?_
        refine v_iload_n C (lv_at hl 2 rfl) rfl dX12_grow_133 ?_
        refine v_iload_n C (lv_at hl 3 rfl) rfl dX12_grow_134 ?_
        refine v_iload C (lv_at hl 4 rfl) dX12_grow_135 ?_
        obtain ⟨b137, f137, hr⟩ := ob hr
        obtain ⟨g137, h137⟩ := rcv_n f137
        obtain ⟨S137, e137, hr⟩ := ob hr
        refine v_callV C (b := b137) h137 (by decide) rfl rfl (k_X12_tells e137) cw_X12_tells w_1619 w_1621 w_58 (show (parseMethodDescriptor (yX12_tells).desc).map (fun d => d.parameters.length) = some 5 by decide +kernel) ⟨by decide, by decide⟩ (rest := []) (stk2 := []) (by rw [g137]; rfl) rfl (Nat.le_of_ble_eq_true rfl) hl dX12_grow_137 ?_
        refine v_iconst C 1 (by decide) dX12_grow_140 ?_
        obtain rfl := os hr
        obtain ⟨rfl, rfl⟩ := kR _ _ rfl
        exact v_zret C rfl dX12_grow_141
      · rw [if_pos c124] at hr
        refine v_iconst C 0 (by decide) dX12_grow_127 ?_
        obtain rfl := os hr
        obtain ⟨rfl, rfl⟩ := kR _ _ rfl
        exact v_zret C rfl dX12_grow_128
    · rw [if_neg c70] at hr
      refine v_aload_n C (lv_at hl 0 rfl) rfl dX12_grow_73 ?_
      obtain ⟨v74, e74, hr⟩ := ob hr
      refine v_getR C fl_RX12_49 rfl e74 dX12_grow_74 ?_
      refine v_iload C (lv_at hl 6 rfl) dX12_grow_77 ?_
      obtain ⟨v79, e79, hr⟩ := ob hr
      refine v_ldI_i C e79 dX12_grow_79 ?_
      refine v_iload_n C (lv_at hl 1 rfl) rfl dX12_grow_80 ?_
      refine v_icmp_ne C 115 (by decide) dX12_grow_81 (fun c81 => ?_) (fun c81 => ?_)
      · rw [if_neg c81] at hr
        refine v_iinc C (x6 + 1) (k0 := 6) (lv' := [(6, .int (x6 + 1)), (0, va_rf (some x0)), (1, .int x1), (2, .int x2), (3, .int x3), (4, .int x4), (5, .int x5)]) hl rfl rfl (by decide) rfl dX12_grow_115 (fun ls hl => ?_)
        refine v_goto C 64 (by decide) dX12_grow_118 ?_
        exact ih hr _ (lv_sub hl [1, 2, 3, 4, 5, 6, 0] rfl)
      · rw [if_pos c81] at hr
        refine v_aload_n C (lv_at hl 0 rfl) rfl dX12_grow_84 ?_
        obtain ⟨v85, e85, hr⟩ := ob hr
        refine v_getR C fl_RX12_52 rfl e85 dX12_grow_85 ?_
        refine v_iload C (lv_at hl 6 rfl) dX12_grow_88 ?_
        obtain ⟨v90, e90, hr⟩ := ob hr
        refine v_ldI_i C e90 dX12_grow_90 ?_
        refine v_bipush C 6 (by decide) dX12_grow_91 ?_
        refine v_icmp_eq C 99 (by decide) dX12_grow_93 (fun c93 => ?_) (fun c93 => ?_)
        · rw [if_pos c93] at hr
          refine v_aload_n C (lv_at hl 0 rfl) rfl dX12_grow_99 ?_
          obtain ⟨v100, e100, hr⟩ := ob hr
          refine v_getR C fl_RX12_55 rfl e100 dX12_grow_100 ?_
          refine v_iload C (lv_at hl 6 rfl) dX12_grow_103 ?_
          obtain ⟨v105, e105, hr⟩ := ob hr
          refine v_ldI_i C e105 dX12_grow_105 ?_
          refine v_iload_n C (lv_at hl 2 rfl) rfl dX12_grow_106 ?_
          refine v_icmp_ne C 112 (by decide) dX12_grow_107 (fun c107 => ?_) (fun c107 => ?_)
          · rw [if_neg c107] at hr
            refine v_iinc C (x5 + 1) (k0 := 5) (lv' := [(5, .int (x5 + 1)), (0, va_rf (some x0)), (1, .int x1), (2, .int x2), (3, .int x3), (4, .int x4), (6, .int x6)]) hl rfl rfl (by decide) rfl dX12_grow_112 (fun ls hl => ?_)
            refine v_iinc C (x6 + 1) (k0 := 6) (lv' := [(6, .int (x6 + 1)), (5, .int (x5 + 1)), (0, va_rf (some x0)), (1, .int x1), (2, .int x2), (3, .int x3), (4, .int x4)]) hl rfl rfl (by decide) rfl dX12_grow_115 (fun ls hl => ?_)
            refine v_goto C 64 (by decide) dX12_grow_118 ?_
            exact ih hr _ (lv_sub hl [2, 3, 4, 5, 6, 1, 0] rfl)
          · rw [if_pos c107] at hr
            refine v_iconst C 0 (by decide) dX12_grow_110 ?_
            obtain rfl := os hr
            obtain ⟨rfl, rfl⟩ := kR _ _ rfl
            exact v_zret C rfl dX12_grow_111
        · rw [if_neg c93] at hr
          refine v_goto C 115 (by decide) dX12_grow_96 ?_
          refine v_iinc C (x6 + 1) (k0 := 6) (lv' := [(6, .int (x6 + 1)), (0, va_rf (some x0)), (1, .int x1), (2, .int x2), (3, .int x3), (4, .int x4), (5, .int x5)]) hl rfl rfl (by decide) rfl dX12_grow_115 (fun ls hl => ?_)
          refine v_goto C 64 (by decide) dX12_grow_118 ?_
          exact ih hr _ (lv_sub hl [1, 2, 3, 4, 5, 6, 0] rfl)
theorem k_X12_grow {l : Launch} {G : Ge} {S S' : St} {x0 : Nat} {x1 : Int32} {x2 : Int32} {x3 : Int32} {x4 : Int32} {rr : Int32} (hr : f_X12_grow S x0 x1 x2 x3 x4 = some (rr, S')) : Ct l G yX12_grow cX12_grow 7 (Option.some Jvm.ClassFile.FieldType.boolean) S [va_rf (some x0), .int x1, .int x2, .int x3, .int x4] (some (.int rr)) S' 2 43 := by
  refine ct_of (by decide +kernel) (Nat.le_of_ble_eq_true rfl) ?_
  intro p e s m args below meth c C ls hl
  have hl : lv_has ls 7 [(0, va_rf (some x0)), (1, .int x1), (2, .int x2), (3, .int x3), (4, .int x4)] := hl
  unfold f_X12_grow at hr
  refine v_aload_n C (lv_at hl 0 rfl) rfl dX12_grow_0 ?_
  refine v_iload_n C (lv_at hl 1 rfl) rfl dX12_grow_1 ?_
  obtain ⟨b2, f2, hr⟩ := ob hr
  obtain ⟨g2, h2⟩ := rcv_n f2
  obtain ⟨v2, e2, hr⟩ := ob hr
  refine v_callV C (b := b2) h2 (by decide) rfl rfl (k_X12_isAccount e2) cw_X12_isAccount w_1613 w_1615 w_57 (show (parseMethodDescriptor (yX12_isAccount).desc).map (fun d => d.parameters.length) = some 1 by decide +kernel) ⟨by decide, by decide⟩ (rest := []) (stk2 := [.int v2]) (by rw [g2]; rfl) rfl (Nat.le_of_ble_eq_true rfl) hl dX12_grow_2 ?_
  refine v_if_eq C 56 (by decide) dX12_grow_5 (fun c5 => ?_) (fun c5 => ?_)
  · rw [if_pos c5] at hr
    refine v_iconst C 0 (by decide) dX12_grow_56 ?_
    obtain ⟨rfl, rfl⟩ := Prod.mk.inj (os hr)
    exact v_zret C rfl dX12_grow_57
  · rw [if_neg c5] at hr
    refine v_iload_n C (lv_at hl 2 rfl) rfl dX12_grow_8 ?_
    refine v_aload_n C (lv_at hl 0 rfl) rfl dX12_grow_9 ?_
    obtain ⟨v10, e10, hr⟩ := ob hr
    refine v_getR C fl_RX12_46 rfl e10 dX12_grow_10 ?_
    refine v_iload_n C (lv_at hl 1 rfl) rfl dX12_grow_13 ?_
    obtain ⟨v14, e14, hr⟩ := ob hr
    refine v_ldI_i C e14 dX12_grow_14 ?_
    refine v_aload_n C (lv_at hl 0 rfl) rfl dX12_grow_15 ?_
    obtain ⟨v16, e16, hr⟩ := ob hr
    refine v_getI C fl_RX12_197 rfl e16 dX12_grow_16 ?_
    obtain ⟨v19, e19, hr⟩ := ob hr
    refine v_callS C (k_X12_isIn e19) cw_X12_isIn w_1555 w_1556 (show (parseMethodDescriptor (yX12_isIn).desc).map (fun d => d.parameters.length) = some 3 by decide +kernel) ⟨by decide, by decide⟩ (rest := []) (stk2 := [.int v19]) rfl rfl (Nat.le_of_ble_eq_true rfl) hl dX12_grow_19 ?_
    refine v_if_eq C 56 (by decide) dX12_grow_22 (fun c22 => ?_) (fun c22 => ?_)
    · rw [if_pos c22] at hr
      refine v_iconst C 0 (by decide) dX12_grow_56 ?_
      obtain ⟨rfl, rfl⟩ := Prod.mk.inj (os hr)
      exact v_zret C rfl dX12_grow_57
    · rw [if_neg c22] at hr
      refine v_iload_n C (lv_at hl 3 rfl) rfl dX12_grow_25 ?_
      refine v_iconst C 1 (by decide) dX12_grow_26 ?_
      refine v_bipush C 9 (by decide) dX12_grow_27 ?_
      obtain ⟨v29, e29, hr⟩ := ob hr
      refine v_callS C (k_X12_isIn e29) cw_X12_isIn w_1555 w_1556 (show (parseMethodDescriptor (yX12_isIn).desc).map (fun d => d.parameters.length) = some 3 by decide +kernel) ⟨by decide, by decide⟩ (rest := []) (stk2 := [.int v29]) rfl rfl (Nat.le_of_ble_eq_true rfl) hl dX12_grow_29 ?_
      refine v_if_eq C 56 (by decide) dX12_grow_32 (fun c32 => ?_) (fun c32 => ?_)
      · rw [if_pos c32] at hr
        refine v_iconst C 0 (by decide) dX12_grow_56 ?_
        obtain ⟨rfl, rfl⟩ := Prod.mk.inj (os hr)
        exact v_zret C rfl dX12_grow_57
      · rw [if_neg c32] at hr
        refine v_iload C (lv_at hl 4 rfl) dX12_grow_35 ?_
        refine v_iconst C 1 (by decide) dX12_grow_37 ?_
        refine v_bipush C 9 (by decide) dX12_grow_38 ?_
        obtain ⟨v40, e40, hr⟩ := ob hr
        refine v_callS C (k_X12_isIn e40) cw_X12_isIn w_1555 w_1556 (show (parseMethodDescriptor (yX12_isIn).desc).map (fun d => d.parameters.length) = some 3 by decide +kernel) ⟨by decide, by decide⟩ (rest := []) (stk2 := [.int v40]) rfl rfl (Nat.le_of_ble_eq_true rfl) hl dX12_grow_40 ?_
        refine v_if_eq C 56 (by decide) dX12_grow_43 (fun c43 => ?_) (fun c43 => ?_)
        · rw [if_pos c43] at hr
          refine v_iconst C 0 (by decide) dX12_grow_56 ?_
          obtain ⟨rfl, rfl⟩ := Prod.mk.inj (os hr)
          exact v_zret C rfl dX12_grow_57
        · rw [if_neg c43] at hr
          refine v_aload_n C (lv_at hl 0 rfl) rfl dX12_grow_46 ?_
          obtain ⟨v47, e47, hr⟩ := ob hr
          refine v_getI C fl_RX12_234 rfl e47 dX12_grow_47 ?_
          refine v_sipush C 600 (by decide) dX12_grow_50 ?_
          refine v_icmp_ne C 58 (by decide) dX12_grow_53 (fun c53 => ?_) (fun c53 => ?_)
          · rw [if_neg c53] at hr
            refine v_iconst C 0 (by decide) dX12_grow_58 ?_
            refine v_istore C (i := 5) (lv' := [(5, .int 0), (0, va_rf (some x0)), (1, .int x1), (2, .int x2), (3, .int x3), (4, .int x4)]) hl (by decide) rfl dX12_grow_59 (fun ls hl => ?_)
            refine v_iconst C 0 (by decide) dX12_grow_61 ?_
            refine v_istore C (i := 6) (lv' := [(6, .int 0), (5, .int 0), (0, va_rf (some x0)), (1, .int x1), (2, .int x2), (3, .int x3), (4, .int x4)]) hl (by decide) rfl dX12_grow_62 (fun ls hl => ?_)
            exact b_X12_grow_64 C (fun _ _ q => by cases q; exact ⟨rfl, rfl⟩) FU hr _ (lv_sub hl [2, 3, 4, 5, 6, 1, 0] rfl)
          · rw [if_pos c53] at hr
            refine v_iconst C 0 (by decide) dX12_grow_56 ?_
            obtain ⟨rfl, rfl⟩ := Prod.mk.inj (os hr)
            exact v_zret C rfl dX12_grow_57
-- X12_heirs
def f_X12_heirs (S : St) (x0 : Nat) (x1 : Int32) : Option (Int32 × St) :=
    (rcv S (some x0) 13).bind fun b2 =>
    (f_X12_isPerson S b2 x1).bind fun v2 =>
    (if v2 = 0 then
    some ((-1), S)
    else
    (getR S (some x0) 13 13).bind fun v9 =>
    (ldI S v9 15 x1).bind fun v13 =>
    (if v13 = (-1) then
    some ((-1), S)
    else
    (rcv S (some x0) 13).bind fun b20 =>
    (f_X12_heirsOf S b20 x1).bind fun (v20, S20) =>
    some (v20, S20)))
theorem k_X12_heirs {l : Launch} {G : Ge} {S S' : St} {x0 : Nat} {x1 : Int32} {rr : Int32} (hr : f_X12_heirs S x0 x1 = some (rr, S')) : Ct l G yX12_heirs cX12_heirs 2 (Option.some Jvm.ClassFile.FieldType.int) S [va_rf (some x0), .int x1] (some (.int rr)) S' 3 70 := by
  refine ct_of (by decide +kernel) (Nat.le_of_ble_eq_true rfl) ?_
  intro p e s m args below meth c C ls hl
  have hl : lv_has ls 2 [(0, va_rf (some x0)), (1, .int x1)] := hl
  unfold f_X12_heirs at hr
  refine v_aload_n C (lv_at hl 0 rfl) rfl dX12_heirs_0 ?_
  refine v_iload_n C (lv_at hl 1 rfl) rfl dX12_heirs_1 ?_
  obtain ⟨b2, f2, hr⟩ := ob hr
  obtain ⟨g2, h2⟩ := rcv_n f2
  obtain ⟨v2, e2, hr⟩ := ob hr
  refine v_callV C (b := b2) h2 (by decide) rfl rfl (k_X12_isPerson e2) cw_X12_isPerson w_1593 w_1595 w_56 (show (parseMethodDescriptor (yX12_isPerson).desc).map (fun d => d.parameters.length) = some 1 by decide +kernel) ⟨by decide, by decide⟩ (rest := []) (stk2 := [.int v2]) (by rw [g2]; rfl) rfl (Nat.le_of_ble_eq_true rfl) hl dX12_heirs_2 ?_
  refine v_if_eq C 26 (by decide) dX12_heirs_5 (fun c5 => ?_) (fun c5 => ?_)
  · rw [if_pos c5] at hr
    refine v_iconst C (-1) (by decide) dX12_heirs_26 ?_
    obtain ⟨rfl, rfl⟩ := Prod.mk.inj (os hr)
    exact v_iret C dX12_heirs_27
  · rw [if_neg c5] at hr
    refine v_aload_n C (lv_at hl 0 rfl) rfl dX12_heirs_8 ?_
    obtain ⟨v9, e9, hr⟩ := ob hr
    refine v_getR C fl_RX12_34 rfl e9 dX12_heirs_9 ?_
    refine v_iload_n C (lv_at hl 1 rfl) rfl dX12_heirs_12 ?_
    obtain ⟨v13, e13, hr⟩ := ob hr
    refine v_ldI_i C e13 dX12_heirs_13 ?_
    refine v_iconst C (-1) (by decide) dX12_heirs_14 ?_
    refine v_icmp_eq C 26 (by decide) dX12_heirs_15 (fun c15 => ?_) (fun c15 => ?_)
    · rw [if_pos c15] at hr
      refine v_iconst C (-1) (by decide) dX12_heirs_26 ?_
      obtain ⟨rfl, rfl⟩ := Prod.mk.inj (os hr)
      exact v_iret C dX12_heirs_27
    · rw [if_neg c15] at hr
      refine v_aload_n C (lv_at hl 0 rfl) rfl dX12_heirs_18 ?_
      refine v_iload_n C (lv_at hl 1 rfl) rfl dX12_heirs_19 ?_
      obtain ⟨b20, f20, hr⟩ := ob hr
      obtain ⟨g20, h20⟩ := rcv_n f20
      obtain ⟨⟨v20, S20⟩, e20, hr⟩ := ob hr
      (try dsimp only at hr)
      refine v_callV C (b := b20) h20 (by decide) rfl rfl (k_X12_heirsOf e20) cw_X12_heirsOf w_1845 w_1847 w_94 (show (parseMethodDescriptor (yX12_heirsOf).desc).map (fun d => d.parameters.length) = some 1 by decide +kernel) ⟨by decide, by decide⟩ (rest := []) (stk2 := [.int v20]) (by rw [g20]; rfl) rfl (Nat.le_of_ble_eq_true rfl) hl dX12_heirs_20 ?_
      refine v_goto C 27 (by decide) dX12_heirs_23 ?_
      obtain ⟨rfl, rfl⟩ := Prod.mk.inj (os hr)
      exact v_iret C dX12_heirs_27
-- X12_interest
def f_X12_interest_53 (S : St) (x0 : Nat) (x1 : Int32) (t0 : Int64) (t1 : Int64) : Option Int64 :=
    (getR S (some x0) 13 59).bind fun v57 =>
    (ldL S v57 x1).bind fun v61 =>
    (divL v61 360000).bind fun v65 =>
    (getR S (some x0) 13 59).bind fun v70 =>
    (ldL S v70 x1).bind fun v74 =>
    (remL v74 360000).bind fun v78 =>
    (divL (v78 * (t1 * t0)) 360000).bind fun v85 =>
    some ((v65 * (t1 * t0)) + v85)
def f_X12_interest (S : St) (x0 : Nat) (x1 : Int32) : Option Int64 :=
    (getR S (some x0) 13 56).bind fun v1 =>
    (ldI S v1 15 x1).bind fun v5 =>
    (getI S (some x0) 13 0).bind fun v8 =>
    (getR S (some x0) 13 57).bind fun v12 =>
    (ldI S v12 15 x1).bind fun v16 =>
    (getR S (some x0) 13 29).bind fun v24 =>
    (ldI S v24 15 v5).bind fun v28 =>
    (getR S (some x0) 13 28).bind fun v34 =>
    (ldI S v34 15 v5).bind fun v38 =>
    (if (0 : Int32) ≤ (lg_cmp (Int32.toInt64 (v8 - v16)) (360 * (Int32.toInt64 v28))) then
    f_X12_interest_53 S x0 x1 (360 * (Int32.toInt64 v28)) (Int32.toInt64 v38)
    else
    f_X12_interest_53 S x0 x1 (Int32.toInt64 (v8 - v16)) (Int32.toInt64 v38))
theorem b_X12_interest_53  {S : St} {rr : Int64} {x0 : Nat} {x1 : Int32} {t0 : Int64} {t1 : Int64} (C : Cx p s m args meth c G S yX12_interest cX12_interest 9 (Option.some Jvm.ClassFile.FieldType.long)) (hr : f_X12_interest_53 S x0 x1 t0 t1 = some rr) : ∀ ls : Array Slot, lv_has ls 9 [(0, va_rf (some x0)), (1, .int x1)] → V p l e (rmo 0 0 S) s m args below meth c G S S (QM below args s G S S (some (.long rr))) (F0 m 53 ls [.long t0, .long t1]) := by
  intro ls hl
  unfold f_X12_interest_53 at hr
  refine v_lmul C dX12_interest_53 ?_
  refine v_lstore C (i := 7) (lv' := [(7, .long (t1 * t0)), (0, va_rf (some x0)), (1, .int x1)]) hl (by decide) rfl dX12_interest_54 (fun ls hl => ?_)
  refine v_aload_n C (lv_at hl 1 rfl) rfl dX12_interest_56 ?_
  obtain ⟨v57, e57, hr⟩ := ob hr
  refine v_getR C fl_RX12_137 rfl e57 dX12_interest_57 ?_
  refine v_iload_n C (lv_at hl 2 rfl) rfl dX12_interest_60 ?_
  obtain ⟨v61, e61, hr⟩ := ob hr
  refine v_ldL C e61 dX12_interest_61 ?_
  refine v_ldc2 C w_1792 dX12_interest_62 ?_
  obtain ⟨v65, e65, hr⟩ := ob hr
  refine v_ldiv C e65 dX12_interest_65 ?_
  refine v_lload C (lv_at hl 0 rfl) dX12_interest_66 ?_
  refine v_lmul C dX12_interest_68 ?_
  refine v_aload_n C (lv_at hl 1 rfl) rfl dX12_interest_69 ?_
  obtain ⟨v70, e70, hr⟩ := ob hr
  refine v_getR C fl_RX12_137 rfl e70 dX12_interest_70 ?_
  refine v_iload_n C (lv_at hl 2 rfl) rfl dX12_interest_73 ?_
  obtain ⟨v74, e74, hr⟩ := ob hr
  refine v_ldL C e74 dX12_interest_74 ?_
  refine v_ldc2 C w_1792 dX12_interest_75 ?_
  obtain ⟨v78, e78, hr⟩ := ob hr
  refine v_lrem C e78 dX12_interest_78 ?_
  refine v_lload C (lv_at hl 0 rfl) dX12_interest_79 ?_
  refine v_lmul C dX12_interest_81 ?_
  refine v_ldc2 C w_1792 dX12_interest_82 ?_
  obtain ⟨v85, e85, hr⟩ := ob hr
  refine v_ldiv C e85 dX12_interest_85 ?_
  refine v_ladd C dX12_interest_86 ?_
  obtain rfl := os hr
  exact v_lret C dX12_interest_87
theorem k_X12_interest {l : Launch} {G : Ge} {S : St} {x0 : Nat} {x1 : Int32} {rr : Int64} (hr : f_X12_interest S x0 x1 = some rr) : Ct l G yX12_interest cX12_interest 9 (Option.some Jvm.ClassFile.FieldType.long) S [va_rf (some x0), .int x1] (some (.long rr)) S 0 0 := by
  refine ct_of (by decide +kernel) (Nat.le_of_ble_eq_true rfl) ?_
  intro p e s m args below meth c C ls hl
  have hl : lv_has ls 9 [(0, va_rf (some x0)), (1, .int x1)] := hl
  unfold f_X12_interest at hr
  refine v_aload_n C (lv_at hl 0 rfl) rfl dX12_interest_0 ?_
  obtain ⟨v1, e1, hr⟩ := ob hr
  refine v_getR C fl_RX12_128 rfl e1 dX12_interest_1 ?_
  refine v_iload_n C (lv_at hl 1 rfl) rfl dX12_interest_4 ?_
  obtain ⟨v5, e5, hr⟩ := ob hr
  refine v_ldI_i C e5 dX12_interest_5 ?_
  refine v_istore_n C (i := 2) (lv' := [(2, .int v5), (0, va_rf (some x0)), (1, .int x1)]) hl rfl (by decide) rfl dX12_interest_6 (fun ls hl => ?_)
  refine v_aload_n C (lv_at hl 1 rfl) rfl dX12_interest_7 ?_
  obtain ⟨v8, e8, hr⟩ := ob hr
  refine v_getI C fl_RX12_197 rfl e8 dX12_interest_8 ?_
  refine v_aload_n C (lv_at hl 1 rfl) rfl dX12_interest_11 ?_
  obtain ⟨v12, e12, hr⟩ := ob hr
  refine v_getR C fl_RX12_131 rfl e12 dX12_interest_12 ?_
  refine v_iload_n C (lv_at hl 2 rfl) rfl dX12_interest_15 ?_
  obtain ⟨v16, e16, hr⟩ := ob hr
  refine v_ldI_i C e16 dX12_interest_16 ?_
  refine v_isub C dX12_interest_17 ?_
  refine v_i2l C dX12_interest_18 ?_
  refine v_lstore_n C (i := 3) (lv' := [(3, .long (Int32.toInt64 (v8 - v16))), (2, .int v5), (0, va_rf (some x0)), (1, .int x1)]) hl rfl (by decide) rfl dX12_interest_19 (fun ls hl => ?_)
  refine v_ldc2 C w_1791 dX12_interest_20 ?_
  refine v_aload_n C (lv_at hl 2 rfl) rfl dX12_interest_23 ?_
  obtain ⟨v24, e24, hr⟩ := ob hr
  refine v_getR C fl_RX12_82 rfl e24 dX12_interest_24 ?_
  refine v_iload_n C (lv_at hl 1 rfl) rfl dX12_interest_27 ?_
  obtain ⟨v28, e28, hr⟩ := ob hr
  refine v_ldI_i C e28 dX12_interest_28 ?_
  refine v_i2l C dX12_interest_29 ?_
  refine v_lmul C dX12_interest_30 ?_
  refine v_lstore C (i := 5) (lv' := [(5, .long (360 * (Int32.toInt64 v28))), (3, .long (Int32.toInt64 (v8 - v16))), (2, .int v5), (0, va_rf (some x0)), (1, .int x1)]) hl (by decide) rfl dX12_interest_31 (fun ls hl => ?_)
  refine v_aload_n C (lv_at hl 3 rfl) rfl dX12_interest_33 ?_
  obtain ⟨v34, e34, hr⟩ := ob hr
  refine v_getR C fl_RX12_79 rfl e34 dX12_interest_34 ?_
  refine v_iload_n C (lv_at hl 2 rfl) rfl dX12_interest_37 ?_
  obtain ⟨v38, e38, hr⟩ := ob hr
  refine v_ldI_i C e38 dX12_interest_38 ?_
  refine v_i2l C dX12_interest_39 ?_
  refine v_lload_n C (lv_at hl 1 rfl) rfl dX12_interest_40 ?_
  refine v_lload C (lv_at hl 0 rfl) dX12_interest_41 ?_
  refine v_lcmp C dX12_interest_43 ?_
  refine v_if_ge C 51 (by decide) dX12_interest_44 (fun c44 => ?_) (fun c44 => ?_)
  · rw [if_pos c44] at hr
    refine v_lload C (lv_at hl 0 rfl) dX12_interest_51 ?_
    exact b_X12_interest_53 C hr _ (lv_sub hl [3, 4] rfl)
  · rw [if_neg c44] at hr
    refine v_lload_n C (lv_at hl 1 rfl) rfl dX12_interest_47 ?_
    refine v_goto C 53 (by decide) dX12_interest_48 ?_
    exact b_X12_interest_53 C hr _ (lv_sub hl [3, 4] rfl)
-- X12_paidOf
def f_X12_paidOf_48 (rec : St → Nat → Int32 → Int64 → Int32 → Option (Int64)) (S : St) (x0 : Nat) (x1 : Int32) (x4 : Int32) (t0 : Int64) (t1 : Int64) : Option (Int64) :=
    rec S x0 x1 (t1 + t0) (x4 + 1)
def f_X12_paidOf_47 (rec : St → Nat → Int32 → Int64 → Int32 → Option (Int64)) (S : St) (x0 : Nat) (x1 : Int32) (x4 : Int32) (t0 : Int64) : Option (Int64) :=
    f_X12_paidOf_48 (rec) S x0 x1 x4 0 t0
def f_X12_paidOf_5 : Nat → St → Nat → Int32 → Int64 → Int32 → Option (Int64)
  | 0, _, _, _, _, _ => none
  | n + 1, S, x0, x1, x2, x4 =>
    (getI S (some x0) 13 69).bind fun v8 =>
    (if v8 ≤ x4 then
    some x2
    else
    (getR S (some x0) 13 71).bind fun v16 =>
    (ldI S v16 15 x4).bind fun v21 =>
    (if v21 = x1 then
    (getR S (some x0) 13 74).bind fun v27 =>
    (ldI S v27 15 x4).bind fun v32 =>
    (if v32 = 1 then
    (getR S (some x0) 13 75).bind fun v38 =>
    (ldL S v38 x4).bind fun v43 =>
    f_X12_paidOf_48 (f_X12_paidOf_5 n) S x0 x1 x4 v43 x2
    else
    f_X12_paidOf_47 (f_X12_paidOf_5 n) S x0 x1 x4 x2)
    else
    f_X12_paidOf_47 (f_X12_paidOf_5 n) S x0 x1 x4 x2))
def f_X12_paidOf (S : St) (x0 : Nat) (x1 : Int32) : Option Int64 :=
    f_X12_paidOf_5 FU S x0 x1 0 0
theorem b_X12_paidOf_48  {S : St} {rr : Int64} {x0 : Nat} {x1 : Int32} {x4 : Int32} {t0 : Int64} {t1 : Int64} (C : Cx p s m args meth c G S yX12_paidOf cX12_paidOf 5 (Option.some Jvm.ClassFile.FieldType.long)) {o : (Int64)} {rec : St → Nat → Int32 → Int64 → Int32 → Option (Int64)} (kR : ∀ (v : Int64), o = v → rr = v) (ihk : ∀ {x0 : Nat} {x1 : Int32} {x2 : Int64} {x4 : Int32}, rec S x0 x1 x2 x4 = some o → ∀ ls : Array Slot, lv_has ls 5 [(0, va_rf (some x0)), (1, .int x1), (2, .long x2), (4, .int x4)] → V p l e (rmo 0 0 S) s m args below meth c G S S (QM below args s G S S (some (.long rr))) (F0 m 5 ls [])) (hr : f_X12_paidOf_48 rec S x0 x1 x4 t0 t1 = some o) : ∀ ls : Array Slot, lv_has ls 5 [(0, va_rf (some x0)), (1, .int x1), (4, .int x4)] → V p l e (rmo 0 0 S) s m args below meth c G S S (QM below args s G S S (some (.long rr))) (F0 m 48 ls [.long t0, .long t1]) := by
  intro ls hl
  unfold f_X12_paidOf_48 at hr
  refine v_ladd C dX12_paidOf_48 ?_
  refine v_lstore_n C (i := 2) (lv' := [(2, .long (t1 + t0)), (0, va_rf (some x0)), (1, .int x1), (4, .int x4)]) hl rfl (by decide) rfl dX12_paidOf_49 (fun ls hl => ?_)
  refine v_iinc C (x4 + 1) (k0 := 3) (lv' := [(4, .int (x4 + 1)), (2, .long (t1 + t0)), (0, va_rf (some x0)), (1, .int x1)]) hl rfl rfl (by decide) rfl dX12_paidOf_50 (fun ls hl => ?_)
  refine v_goto C 5 (by decide) dX12_paidOf_53 ?_
  exact ihk hr _ (lv_sub hl [2, 3, 1, 0] rfl)
theorem b_X12_paidOf_47  {S : St} {rr : Int64} {x0 : Nat} {x1 : Int32} {x4 : Int32} {t0 : Int64} (C : Cx p s m args meth c G S yX12_paidOf cX12_paidOf 5 (Option.some Jvm.ClassFile.FieldType.long)) {o : (Int64)} {rec : St → Nat → Int32 → Int64 → Int32 → Option (Int64)} (kR : ∀ (v : Int64), o = v → rr = v) (ihk : ∀ {x0 : Nat} {x1 : Int32} {x2 : Int64} {x4 : Int32}, rec S x0 x1 x2 x4 = some o → ∀ ls : Array Slot, lv_has ls 5 [(0, va_rf (some x0)), (1, .int x1), (2, .long x2), (4, .int x4)] → V p l e (rmo 0 0 S) s m args below meth c G S S (QM below args s G S S (some (.long rr))) (F0 m 5 ls [])) (hr : f_X12_paidOf_47 rec S x0 x1 x4 t0 = some o) : ∀ ls : Array Slot, lv_has ls 5 [(0, va_rf (some x0)), (1, .int x1), (4, .int x4)] → V p l e (rmo 0 0 S) s m args below meth c G S S (QM below args s G S S (some (.long rr))) (F0 m 47 ls [.long t0]) := by
  intro ls hl
  unfold f_X12_paidOf_47 at hr
  refine v_lconst C 0 (by decide) dX12_paidOf_47 ?_
  exact b_X12_paidOf_48 C kR (@ihk) hr _ (lv_sub hl [0, 1, 2] rfl)
theorem b_X12_paidOf_5  {S : St} {rr : Int64} (C : Cx p s m args meth c G S yX12_paidOf cX12_paidOf 5 (Option.some Jvm.ClassFile.FieldType.long)) {o : (Int64)} (kR : ∀ (v : Int64), o = v → rr = v) : ∀ (n : Nat) {x0 : Nat} {x1 : Int32} {x2 : Int64} {x4 : Int32}, f_X12_paidOf_5 n S x0 x1 x2 x4 = some o → ∀ ls : Array Slot, lv_has ls 5 [(0, va_rf (some x0)), (1, .int x1), (2, .long x2), (4, .int x4)] → V p l e (rmo 0 0 S) s m args below meth c G S S (QM below args s G S S (some (.long rr))) (F0 m 5 ls []) := by
  intro n
  induction n with
  | zero => intro x0 x1 x2 x4 hr; cases hr
  | succ n ih =>
    intro x0 x1 x2 x4 hr ls hl
    unfold f_X12_paidOf_5 at hr
    refine v_iload C (lv_at hl 3 rfl) dX12_paidOf_5 ?_
    refine v_aload_n C (lv_at hl 0 rfl) rfl dX12_paidOf_7 ?_
    obtain ⟨v8, e8, hr⟩ := ob hr
    refine v_getI C fl_RX12_411 rfl e8 dX12_paidOf_8 ?_
    refine v_icmp_ge C 56 (by decide) dX12_paidOf_11 (fun c11 => ?_) (fun c11 => ?_)
    · rw [if_pos c11] at hr
      refine v_lload_n C (lv_at hl 2 rfl) rfl dX12_paidOf_56 ?_
      obtain rfl := os hr
      obtain rfl := kR _ rfl
      exact v_lret C dX12_paidOf_57
    · rw [if_neg c11] at hr
      refine v_lload_n C (lv_at hl 2 rfl) rfl dX12_paidOf_14 ?_
      refine v_aload_n C (lv_at hl 0 rfl) rfl dX12_paidOf_15 ?_
      obtain ⟨v16, e16, hr⟩ := ob hr
      refine v_getR C fl_RX12_163 rfl e16 dX12_paidOf_16 ?_
      refine v_iload C (lv_at hl 3 rfl) dX12_paidOf_19 ?_
      obtain ⟨v21, e21, hr⟩ := ob hr
      refine v_ldI_i C e21 dX12_paidOf_21 ?_
      refine v_iload_n C (lv_at hl 1 rfl) rfl dX12_paidOf_22 ?_
      refine v_icmp_ne C 47 (by decide) dX12_paidOf_23 (fun c23 => ?_) (fun c23 => ?_)
      · rw [if_neg c23] at hr
        exact b_X12_paidOf_47 C kR (@ih) hr _ (lv_sub hl [0, 1, 3] rfl)
      · rw [if_pos c23] at hr
        refine v_aload_n C (lv_at hl 0 rfl) rfl dX12_paidOf_26 ?_
        obtain ⟨v27, e27, hr⟩ := ob hr
        refine v_getR C fl_RX12_172 rfl e27 dX12_paidOf_27 ?_
        refine v_iload C (lv_at hl 3 rfl) dX12_paidOf_30 ?_
        obtain ⟨v32, e32, hr⟩ := ob hr
        refine v_ldI_i C e32 dX12_paidOf_32 ?_
        refine v_iconst C 1 (by decide) dX12_paidOf_33 ?_
        refine v_icmp_ne C 47 (by decide) dX12_paidOf_34 (fun c34 => ?_) (fun c34 => ?_)
        · rw [if_neg c34] at hr
          exact b_X12_paidOf_47 C kR (@ih) hr _ (lv_sub hl [0, 1, 3] rfl)
        · rw [if_pos c34] at hr
          refine v_aload_n C (lv_at hl 0 rfl) rfl dX12_paidOf_37 ?_
          obtain ⟨v38, e38, hr⟩ := ob hr
          refine v_getR C fl_RX12_175 rfl e38 dX12_paidOf_38 ?_
          refine v_iload C (lv_at hl 3 rfl) dX12_paidOf_41 ?_
          obtain ⟨v43, e43, hr⟩ := ob hr
          refine v_ldL C e43 dX12_paidOf_43 ?_
          refine v_goto C 48 (by decide) dX12_paidOf_44 ?_
          exact b_X12_paidOf_48 C kR (@ih) hr _ (lv_sub hl [0, 1, 3] rfl)
theorem k_X12_paidOf {l : Launch} {G : Ge} {S : St} {x0 : Nat} {x1 : Int32} {rr : Int64} (hr : f_X12_paidOf S x0 x1 = some rr) : Ct l G yX12_paidOf cX12_paidOf 5 (Option.some Jvm.ClassFile.FieldType.long) S [va_rf (some x0), .int x1] (some (.long rr)) S 0 0 := by
  refine ct_of (by decide +kernel) (Nat.le_of_ble_eq_true rfl) ?_
  intro p e s m args below meth c C ls hl
  have hl : lv_has ls 5 [(0, va_rf (some x0)), (1, .int x1)] := hl
  unfold f_X12_paidOf at hr
  refine v_lconst C 0 (by decide) dX12_paidOf_0 ?_
  refine v_lstore_n C (i := 2) (lv' := [(2, .long 0), (0, va_rf (some x0)), (1, .int x1)]) hl rfl (by decide) rfl dX12_paidOf_1 (fun ls hl => ?_)
  refine v_iconst C 0 (by decide) dX12_paidOf_2 ?_
  refine v_istore C (i := 4) (lv' := [(4, .int 0), (2, .long 0), (0, va_rf (some x0)), (1, .int x1)]) hl (by decide) rfl dX12_paidOf_3 (fun ls hl => ?_)
  exact b_X12_paidOf_5 C (fun _ q => by cases q; rfl) FU hr _ (lv_sub hl [2, 3, 1, 0] rfl)
-- X12_held
def f_X12_held (S : St) (x0 : Nat) (x1 : Int32) (x2 : Int32) : Option Int64 :=
    (rcv S (some x0) 13).bind fun b2 =>
    (f_X12_isHeld S b2 x1).bind fun v2 =>
    (if v2 = 0 then
    some (-1)
    else
    (if x2 = 0 then
    (getR S (some x0) 13 56).bind fun v53 =>
    (ldI S v53 15 x1).bind fun v57 =>
    some (Int32.toInt64 v57)
    else
    (if x2 = 1 then
    (getR S (some x0) 13 59).bind fun v61 =>
    (ldL S v61 x1).bind fun v65 =>
    some v65
    else
    (if x2 = 2 then
    (getR S (some x0) 13 57).bind fun v68 =>
    (ldI S v68 15 x1).bind fun v72 =>
    some (Int32.toInt64 v72)
    else
    (if x2 = 3 then
    (getR S (some x0) 13 58).bind fun v76 =>
    (ldI S v76 15 x1).bind fun v80 =>
    some (Int32.toInt64 v80)
    else
    (if x2 = 4 then
    (rcv S (some x0) 13).bind fun b85 =>
    (f_X12_interest S b85 x1).bind fun v85 =>
    some v85
    else
    (if x2 = 5 then
    (rcv S (some x0) 13).bind fun b91 =>
    (f_X12_paidOf S b91 x1).bind fun v91 =>
    some v91
    else
    some (-1))))))))
theorem k_X12_held {l : Launch} {G : Ge} {S : St} {x0 : Nat} {x1 : Int32} {x2 : Int32} {rr : Int64} (hr : f_X12_held S x0 x1 x2 = some rr) : Ct l G yX12_held cX12_held 3 (Option.some Jvm.ClassFile.FieldType.long) S [va_rf (some x0), .int x1, .int x2] (some (.long rr)) S 3 64 := by
  refine ct_of (by decide +kernel) (Nat.le_of_ble_eq_true rfl) ?_
  intro p e s m args below meth c C ls hl
  have hl : lv_has ls 3 [(0, va_rf (some x0)), (1, .int x1), (2, .int x2)] := hl
  unfold f_X12_held at hr
  refine v_aload_n C (lv_at hl 0 rfl) rfl dX12_held_0 ?_
  refine v_iload_n C (lv_at hl 1 rfl) rfl dX12_held_1 ?_
  obtain ⟨b2, f2, hr⟩ := ob hr
  obtain ⟨g2, h2⟩ := rcv_n f2
  obtain ⟨v2, e2, hr⟩ := ob hr
  refine v_callV C (b := b2) h2 (by decide) rfl rfl (k_X12_isHeld e2) cw_X12_isHeld w_1783 w_1785 w_83 (show (parseMethodDescriptor (yX12_isHeld).desc).map (fun d => d.parameters.length) = some 1 by decide +kernel) ⟨by decide, by decide⟩ (rest := []) (stk2 := [.int v2]) (by rw [g2]; rfl) rfl (Nat.le_of_ble_eq_true rfl) hl dX12_held_2 ?_
  refine v_if_ne C 12 (by decide) dX12_held_5 (fun c5 => ?_) (fun c5 => ?_)
  · rw [if_neg c5] at hr
    refine v_iload_n C (lv_at hl 2 rfl) rfl dX12_held_12 ?_
    by_cases q13_0 : x2 = 0
    · rw [if_pos q13_0] at hr
      refine v_tableIn C (off := 39) 52 (by rw [q13_0]; decide) (by rw [q13_0]; decide) (by rw [q13_0]; decide) (by decide) dX12_held_13 ?_
      refine v_aload_n C (lv_at hl 0 rfl) rfl dX12_held_52 ?_
      obtain ⟨v53, e53, hr⟩ := ob hr
      refine v_getR C fl_RX12_128 rfl e53 dX12_held_53 ?_
      refine v_iload_n C (lv_at hl 1 rfl) rfl dX12_held_56 ?_
      obtain ⟨v57, e57, hr⟩ := ob hr
      refine v_ldI_i C e57 dX12_held_57 ?_
      refine v_i2l C dX12_held_58 ?_
      obtain rfl := os hr
      exact v_lret C dX12_held_59
    rw [if_neg q13_0] at hr
    by_cases q13_1 : x2 = 1
    · rw [if_pos q13_1] at hr
      refine v_tableIn C (off := 47) 60 (by rw [q13_1]; decide) (by rw [q13_1]; decide) (by rw [q13_1]; decide) (by decide) dX12_held_13 ?_
      refine v_aload_n C (lv_at hl 0 rfl) rfl dX12_held_60 ?_
      obtain ⟨v61, e61, hr⟩ := ob hr
      refine v_getR C fl_RX12_137 rfl e61 dX12_held_61 ?_
      refine v_iload_n C (lv_at hl 1 rfl) rfl dX12_held_64 ?_
      obtain ⟨v65, e65, hr⟩ := ob hr
      refine v_ldL C e65 dX12_held_65 ?_
      obtain rfl := os hr
      exact v_lret C dX12_held_66
    rw [if_neg q13_1] at hr
    by_cases q13_2 : x2 = 2
    · rw [if_pos q13_2] at hr
      refine v_tableIn C (off := 54) 67 (by rw [q13_2]; decide) (by rw [q13_2]; decide) (by rw [q13_2]; decide) (by decide) dX12_held_13 ?_
      refine v_aload_n C (lv_at hl 0 rfl) rfl dX12_held_67 ?_
      obtain ⟨v68, e68, hr⟩ := ob hr
      refine v_getR C fl_RX12_131 rfl e68 dX12_held_68 ?_
      refine v_iload_n C (lv_at hl 1 rfl) rfl dX12_held_71 ?_
      obtain ⟨v72, e72, hr⟩ := ob hr
      refine v_ldI_i C e72 dX12_held_72 ?_
      refine v_i2l C dX12_held_73 ?_
      obtain rfl := os hr
      exact v_lret C dX12_held_74
    rw [if_neg q13_2] at hr
    by_cases q13_3 : x2 = 3
    · rw [if_pos q13_3] at hr
      refine v_tableIn C (off := 62) 75 (by rw [q13_3]; decide) (by rw [q13_3]; decide) (by rw [q13_3]; decide) (by decide) dX12_held_13 ?_
      refine v_aload_n C (lv_at hl 0 rfl) rfl dX12_held_75 ?_
      obtain ⟨v76, e76, hr⟩ := ob hr
      refine v_getR C fl_RX12_134 rfl e76 dX12_held_76 ?_
      refine v_iload_n C (lv_at hl 1 rfl) rfl dX12_held_79 ?_
      obtain ⟨v80, e80, hr⟩ := ob hr
      refine v_ldI_i C e80 dX12_held_80 ?_
      refine v_i2l C dX12_held_81 ?_
      obtain rfl := os hr
      exact v_lret C dX12_held_82
    rw [if_neg q13_3] at hr
    by_cases q13_4 : x2 = 4
    · rw [if_pos q13_4] at hr
      refine v_tableIn C (off := 70) 83 (by rw [q13_4]; decide) (by rw [q13_4]; decide) (by rw [q13_4]; decide) (by decide) dX12_held_13 ?_
      refine v_aload_n C (lv_at hl 0 rfl) rfl dX12_held_83 ?_
      refine v_iload_n C (lv_at hl 1 rfl) rfl dX12_held_84 ?_
      obtain ⟨b85, f85, hr⟩ := ob hr
      obtain ⟨g85, h85⟩ := rcv_n f85
      obtain ⟨v85, e85, hr⟩ := ob hr
      refine v_callV C (b := b85) h85 (by decide) rfl rfl (k_X12_interest e85) cw_X12_interest w_1787 w_1789 w_84 (show (parseMethodDescriptor (yX12_interest).desc).map (fun d => d.parameters.length) = some 1 by decide +kernel) ⟨by decide, by decide⟩ (rest := []) (stk2 := [.long v85]) (by rw [g85]; rfl) rfl (Nat.le_of_ble_eq_true rfl) hl dX12_held_85 ?_
      obtain rfl := os hr
      exact v_lret C dX12_held_88
    rw [if_neg q13_4] at hr
    by_cases q13_5 : x2 = 5
    · rw [if_pos q13_5] at hr
      refine v_tableIn C (off := 76) 89 (by rw [q13_5]; decide) (by rw [q13_5]; decide) (by rw [q13_5]; decide) (by decide) dX12_held_13 ?_
      refine v_aload_n C (lv_at hl 0 rfl) rfl dX12_held_89 ?_
      refine v_iload_n C (lv_at hl 1 rfl) rfl dX12_held_90 ?_
      obtain ⟨b91, f91, hr⟩ := ob hr
      obtain ⟨g91, h91⟩ := rcv_n f91
      obtain ⟨v91, e91, hr⟩ := ob hr
      refine v_callV C (b := b91) h91 (by decide) rfl rfl (k_X12_paidOf e91) cw_X12_paidOf w_1793 w_1795 w_85 (show (parseMethodDescriptor (yX12_paidOf).desc).map (fun d => d.parameters.length) = some 1 by decide +kernel) ⟨by decide, by decide⟩ (rest := []) (stk2 := [.long v91]) (by rw [g91]; rfl) rfl (Nat.le_of_ble_eq_true rfl) hl dX12_held_91 ?_
      obtain rfl := os hr
      exact v_lret C dX12_held_94
    rw [if_neg q13_5] at hr
    have kd13 : V p l e (rmo 3 64 S) s m args below meth c G S S (QM below args s G S S (some (.long rr))) (F0 m 95 ls []) := by
      refine v_ldc2 C w_1643 dX12_held_95 ?_
      obtain rfl := os hr
      exact v_lret C dX12_held_98
    have z0 := lv_neT q13_0 (a := 0) (by decide)
    have z1 := lv_neT q13_1 (a := 1) (by decide)
    have z2 := lv_neT q13_2 (a := 2) (by decide)
    have z3 := lv_neT q13_3 (a := 3) (by decide)
    have z4 := lv_neT q13_4 (a := 4) (by decide)
    have z5 := lv_neT q13_5 (a := 5) (by decide)
    exact v_tableOut C 95 (by omega) (by decide) dX12_held_13 kd13
  · rw [if_pos c5] at hr
    refine v_ldc2 C w_1643 dX12_held_8 ?_
    obtain rfl := os hr
    exact v_lret C dX12_held_11
-- X12_init
def f_X12_init_489 : Nat → St → Nat → Int32 → Option (Nat × St)
  | 0, _, _, _ => none
  | n + 1, S, x0, x1 =>
    (if (4 : Int32) ≤ x1 then
    some (x0, S)
    else
    (rcv S (some x0) 13).bind fun b496 =>
    (f_X12_clears S b496 x1).bind fun S496 =>
    f_X12_init_489 n S496 x0 (x1 + 1))
def f_X12_init_507 : Nat → St → Nat → Int32 → Option (Nat × St)
  | 0, _, _, _ => none
  | n + 1, S, x0, x1 =>
    (if (20 : Int32) ≤ x1 then
    some (x0, S)
    else
    (getR S (some x0) 13 78).bind fun v514 =>
    (stI S v514 15 x1 1).bind fun S519 =>
    f_X12_init_507 n S519 x0 (x1 + 1))
def f_X12_init_528 : Nat → St → Nat → Int32 → Option (St)
  | 0, _, _, _ => none
  | n + 1, S, x0, x1 =>
    (if (160 : Int32) ≤ x1 then
    some S
    else
    (getR S (some x0) 13 77).bind fun v536 =>
    (stI S v536 15 x1 (-1)).bind fun S541 =>
    f_X12_init_528 n S541 x0 (x1 + 1))
def f_X12_init (S : St) (x0 : Nat) : Option St :=
    (newA S 15 8).bind fun (a7, S7) =>
    (putR S7 (some x0) 13 5 (some a7)).bind fun S9 =>
    (newA S9 15 8).bind fun (a15, S15) =>
    (putR S15 (some x0) 13 6 (some a15)).bind fun S17 =>
    (newA S17 15 8).bind fun (a23, S23) =>
    (putR S23 (some x0) 13 7 (some a23)).bind fun S25 =>
    (newA S25 15 24).bind fun (a31, S31) =>
    (putR S31 (some x0) 13 8 (some a31)).bind fun S33 =>
    (newA S33 15 24).bind fun (a39, S39) =>
    (putR S39 (some x0) 13 9 (some a39)).bind fun S41 =>
    (newA S41 15 24).bind fun (a47, S47) =>
    (putR S47 (some x0) 13 10 (some a47)).bind fun S49 =>
    (newA S49 15 24).bind fun (a55, S55) =>
    (putR S55 (some x0) 13 11 (some a55)).bind fun S57 =>
    (newA S57 15 24).bind fun (a63, S63) =>
    (putR S63 (some x0) 13 12 (some a63)).bind fun S65 =>
    (newA S65 15 24).bind fun (a71, S71) =>
    (putR S71 (some x0) 13 13 (some a71)).bind fun S73 =>
    (newA S73 15 40).bind fun (a79, S79) =>
    (putR S79 (some x0) 13 14 (some a79)).bind fun S81 =>
    (newA S81 15 40).bind fun (a87, S87) =>
    (putR S87 (some x0) 13 15 (some a87)).bind fun S89 =>
    (newA S89 15 40).bind fun (a95, S95) =>
    (putR S95 (some x0) 13 16 (some a95)).bind fun S97 =>
    (newA S97 15 40).bind fun (a103, S103) =>
    (putR S103 (some x0) 13 17 (some a103)).bind fun S105 =>
    (newA S105 15 600).bind fun (a112, S112) =>
    (putR S112 (some x0) 13 18 (some a112)).bind fun S114 =>
    (newA S114 15 600).bind fun (a121, S121) =>
    (putR S121 (some x0) 13 19 (some a121)).bind fun S123 =>
    (newA S123 15 600).bind fun (a130, S130) =>
    (putR S130 (some x0) 13 20 (some a130)).bind fun S132 =>
    (newA S132 15 600).bind fun (a139, S139) =>
    (putR S139 (some x0) 13 21 (some a139)).bind fun S141 =>
    (newA S141 15 600).bind fun (a148, S148) =>
    (putR S148 (some x0) 13 22 (some a148)).bind fun S150 =>
    (newA S150 15 600).bind fun (a157, S157) =>
    (putR S157 (some x0) 13 23 (some a157)).bind fun S159 =>
    (newA S159 15 16).bind fun (a165, S165) =>
    (putR S165 (some x0) 13 24 (some a165)).bind fun S167 =>
    (newA S167 15 4).bind fun (a172, S172) =>
    (putR S172 (some x0) 13 25 (some a172)).bind fun S174 =>
    (newA S174 15 4).bind fun (a179, S179) =>
    (putR S179 (some x0) 13 26 (some a179)).bind fun S181 =>
    (newA S181 15 4).bind fun (a186, S186) =>
    (putR S186 (some x0) 13 27 (some a186)).bind fun S188 =>
    (newA S188 15 4).bind fun (a193, S193) =>
    (putR S193 (some x0) 13 28 (some a193)).bind fun S195 =>
    (newA S195 15 4).bind fun (a200, S200) =>
    (putR S200 (some x0) 13 29 (some a200)).bind fun S202 =>
    (newA S202 15 4).bind fun (a207, S207) =>
    (putR S207 (some x0) 13 30 (some a207)).bind fun S209 =>
    (newA S209 15 100).bind fun (a215, S215) =>
    (putR S215 (some x0) 13 31 (some a215)).bind fun S217 =>
    (newA S217 15 96).bind fun (a223, S223) =>
    (putR S223 (some x0) 13 32 (some a223)).bind fun S225 =>
    (newA S225 15 4880).bind fun (a232, S232) =>
    (putR S232 (some x0) 13 33 (some a232)).bind fun S234 =>
    (newA S234 15 24).bind fun (a240, S240) =>
    (putR S240 (some x0) 13 34 (some a240)).bind fun S242 =>
    (newA S242 15 24).bind fun (a248, S248) =>
    (putR S248 (some x0) 13 35 (some a248)).bind fun S250 =>
    (newA S250 15 24).bind fun (a256, S256) =>
    (putR S256 (some x0) 13 36 (some a256)).bind fun S258 =>
    (newA S258 15 25).bind fun (a264, S264) =>
    (putR S264 (some x0) 13 37 (some a264)).bind fun S266 =>
    (newA S266 15 24).bind fun (a272, S272) =>
    (putR S272 (some x0) 13 38 (some a272)).bind fun S274 =>
    (newA S274 15 1220).bind fun (a281, S281) =>
    (putR S281 (some x0) 13 39 (some a281)).bind fun S283 =>
    (newA S283 15 600).bind fun (a290, S290) =>
    (putR S290 (some x0) 13 40 (some a290)).bind fun S292 =>
    (newA S292 15 620).bind fun (a299, S299) =>
    (putR S299 (some x0) 13 41 (some a299)).bind fun S301 =>
    (putI S301 (some x0) 13 54 (-1)).bind fun S306 =>
    (newA S306 15 5).bind fun (a311, S311) =>
    (putR S311 (some x0) 13 55 (some a311)).bind fun S313 =>
    (newA S313 15 40).bind fun (a319, S319) =>
    (putR S319 (some x0) 13 56 (some a319)).bind fun S321 =>
    (newA S321 15 40).bind fun (a327, S327) =>
    (putR S327 (some x0) 13 57 (some a327)).bind fun S329 =>
    (newA S329 15 40).bind fun (a335, S335) =>
    (putR S335 (some x0) 13 58 (some a335)).bind fun S337 =>
    (newA S337 16 40).bind fun (a343, S343) =>
    (putR S343 (some x0) 13 59 (some a343)).bind fun S345 =>
    (newA S345 15 8).bind fun (a351, S351) =>
    (putR S351 (some x0) 13 60 (some a351)).bind fun S353 =>
    (newA S353 15 8).bind fun (a359, S359) =>
    (putR S359 (some x0) 13 61 (some a359)).bind fun S361 =>
    (newA S361 15 64).bind fun (a367, S367) =>
    (putR S367 (some x0) 13 62 (some a367)).bind fun S369 =>
    (newA S369 17 24).bind fun (a375, S375) =>
    (putR S375 (some x0) 13 66 (some a375)).bind fun S377 =>
    (newA S377 16 24).bind fun (a383, S383) =>
    (putR S383 (some x0) 13 67 (some a383)).bind fun S385 =>
    (newA S385 16 24).bind fun (a391, S391) =>
    (putR S391 (some x0) 13 68 (some a391)).bind fun S393 =>
    (newA S393 15 60).bind fun (a399, S399) =>
    (putR S399 (some x0) 13 70 (some a399)).bind fun S401 =>
    (newA S401 15 60).bind fun (a407, S407) =>
    (putR S407 (some x0) 13 71 (some a407)).bind fun S409 =>
    (newA S409 15 60).bind fun (a415, S415) =>
    (putR S415 (some x0) 13 72 (some a415)).bind fun S417 =>
    (newA S417 15 60).bind fun (a423, S423) =>
    (putR S423 (some x0) 13 73 (some a423)).bind fun S425 =>
    (newA S425 15 60).bind fun (a431, S431) =>
    (putR S431 (some x0) 13 74 (some a431)).bind fun S433 =>
    (newA S433 16 60).bind fun (a439, S439) =>
    (putR S439 (some x0) 13 75 (some a439)).bind fun S441 =>
    (newA S441 16 60).bind fun (a447, S447) =>
    (putR S447 (some x0) 13 76 (some a447)).bind fun S449 =>
    (newA S449 15 160).bind fun (a456, S456) =>
    (putR S456 (some x0) 13 77 (some a456)).bind fun S458 =>
    (newA S458 15 20).bind fun (a464, S464) =>
    (putR S464 (some x0) 13 78 (some a464)).bind fun S466 =>
    (newA S466 15 21000).bind fun (a473, S473) =>
    (putR S473 (some x0) 13 79 (some a473)).bind fun S475 =>
    (newA S475 15 21000).bind fun (a482, S482) =>
    (putR S482 (some x0) 13 80 (some a482)).bind fun S484 =>
    (f_X12_init_489 FU S484 x0 0).bind fun (x0, S_489) => (f_X12_init_507 FU S_489 x0 0).bind fun (x0, S_507) => f_X12_init_528 FU S_507 x0 0
theorem b_X12_init_489  {S0 S' : St} (C : Cx p s m args meth c G S0 yX12_init cX12_init 2 (Option.none : Option Jvm.ClassFile.FieldType)) {o : (Nat × St)} (kX505 : ∀ {x0 : Nat} {Z : St}, o = (x0, Z) → ∀ ls : Array Slot, lv_has ls 2 [(0, va_rf (some x0))] → V p l e (rmo 1 36 S0) s m args below meth c G S0 Z (QM below args s G S0 S' none) (F0 m 505 ls [])) : ∀ (n : Nat) {S : St} {x0 : Nat} {x1 : Int32}, f_X12_init_489 n S x0 x1 = some o → ∀ ls : Array Slot, lv_has ls 2 [(0, va_rf (some x0)), (1, .int x1)] → V p l e (rmo 1 36 S0) s m args below meth c G S0 S (QM below args s G S0 S' none) (F0 m 489 ls []) := by
  intro n
  induction n with
  | zero => intro S x0 x1 hr; cases hr
  | succ n ih =>
    intro S x0 x1 hr ls hl
    unfold f_X12_init_489 at hr
    refine v_iload_n C (lv_at hl 1 rfl) rfl dX12_init_489 ?_
    refine v_iconst C 4 (by decide) dX12_init_490 ?_
    refine v_icmp_ge C 505 (by decide) dX12_init_491 (fun c491 => ?_) (fun c491 => ?_)
    · rw [if_pos c491] at hr
      obtain rfl := os hr
      exact kX505 rfl _ (lv_sub hl [0] rfl)
    · rw [if_neg c491] at hr
      refine v_aload_n C (lv_at hl 0 rfl) rfl dX12_init_494 ?_
      refine v_iload_n C (lv_at hl 1 rfl) rfl dX12_init_495 ?_
      obtain ⟨b496, f496, hr⟩ := ob hr
      obtain ⟨g496, h496⟩ := rcv_n f496
      obtain ⟨S496, e496, hr⟩ := ob hr
      refine v_callV C (b := b496) h496 (by decide) rfl rfl (k_X12_clears e496) cw_X12_clears w_1302 w_1304 w_51 (show (parseMethodDescriptor (yX12_clears).desc).map (fun d => d.parameters.length) = some 1 by decide +kernel) ⟨by decide, by decide⟩ (rest := []) (stk2 := []) (by rw [g496]; rfl) rfl (Nat.le_of_ble_eq_true rfl) hl dX12_init_496 ?_
      refine v_iinc C (x1 + 1) (k0 := 1) (lv' := [(1, .int (x1 + 1)), (0, va_rf (some x0))]) hl rfl rfl (by decide) rfl dX12_init_499 (fun ls hl => ?_)
      refine v_goto C 489 (by decide) dX12_init_502 ?_
      exact ih hr _ (lv_sub hl [1, 0] rfl)
theorem b_X12_init_507  {S0 S' : St} (C : Cx p s m args meth c G S0 yX12_init cX12_init 2 (Option.none : Option Jvm.ClassFile.FieldType)) {o : (Nat × St)} (kX526 : ∀ {x0 : Nat} {Z : St}, o = (x0, Z) → ∀ ls : Array Slot, lv_has ls 2 [(0, va_rf (some x0))] → V p l e (rmo 1 36 S0) s m args below meth c G S0 Z (QM below args s G S0 S' none) (F0 m 526 ls [])) : ∀ (n : Nat) {S : St} {x0 : Nat} {x1 : Int32}, f_X12_init_507 n S x0 x1 = some o → ∀ ls : Array Slot, lv_has ls 2 [(0, va_rf (some x0)), (1, .int x1)] → V p l e (rmo 1 36 S0) s m args below meth c G S0 S (QM below args s G S0 S' none) (F0 m 507 ls []) := by
  intro n
  induction n with
  | zero => intro S x0 x1 hr; cases hr
  | succ n ih =>
    intro S x0 x1 hr ls hl
    unfold f_X12_init_507 at hr
    refine v_iload_n C (lv_at hl 1 rfl) rfl dX12_init_507 ?_
    refine v_bipush C 20 (by decide) dX12_init_508 ?_
    refine v_icmp_ge C 526 (by decide) dX12_init_510 (fun c510 => ?_) (fun c510 => ?_)
    · rw [if_pos c510] at hr
      obtain rfl := os hr
      exact kX526 rfl _ (lv_sub hl [0] rfl)
    · rw [if_neg c510] at hr
      refine v_aload_n C (lv_at hl 0 rfl) rfl dX12_init_513 ?_
      obtain ⟨v514, e514, hr⟩ := ob hr
      refine v_getR C fl_RX12_184 rfl e514 dX12_init_514 ?_
      refine v_iload_n C (lv_at hl 1 rfl) rfl dX12_init_517 ?_
      refine v_iconst C 1 (by decide) dX12_init_518 ?_
      obtain ⟨S519, e519, hr⟩ := ob hr
      refine v_stI_i C e519 dX12_init_519 ?_
      refine v_iinc C (x1 + 1) (k0 := 1) (lv' := [(1, .int (x1 + 1)), (0, va_rf (some x0))]) hl rfl rfl (by decide) rfl dX12_init_520 (fun ls hl => ?_)
      refine v_goto C 507 (by decide) dX12_init_523 ?_
      exact ih hr _ (lv_sub hl [1, 0] rfl)
theorem b_X12_init_528  {S0 S' : St} (C : Cx p s m args meth c G S0 yX12_init cX12_init 2 (Option.none : Option Jvm.ClassFile.FieldType)) {o : (St)} (kR : ∀ (Z : St), o = Z → S' = Z) : ∀ (n : Nat) {S : St} {x0 : Nat} {x1 : Int32}, f_X12_init_528 n S x0 x1 = some o → ∀ ls : Array Slot, lv_has ls 2 [(0, va_rf (some x0)), (1, .int x1)] → V p l e (rmo 1 36 S0) s m args below meth c G S0 S (QM below args s G S0 S' none) (F0 m 528 ls []) := by
  intro n
  induction n with
  | zero => intro S x0 x1 hr; cases hr
  | succ n ih =>
    intro S x0 x1 hr ls hl
    unfold f_X12_init_528 at hr
    refine v_iload_n C (lv_at hl 1 rfl) rfl dX12_init_528 ?_
    refine v_sipush C 160 (by decide) dX12_init_529 ?_
    refine v_icmp_ge C 548 (by decide) dX12_init_532 (fun c532 => ?_) (fun c532 => ?_)
    · rw [if_pos c532] at hr
      obtain rfl := os hr
      obtain rfl := kR _ rfl
      exact v_vret C dX12_init_548
    · rw [if_neg c532] at hr
      refine v_aload_n C (lv_at hl 0 rfl) rfl dX12_init_535 ?_
      obtain ⟨v536, e536, hr⟩ := ob hr
      refine v_getR C fl_RX12_181 rfl e536 dX12_init_536 ?_
      refine v_iload_n C (lv_at hl 1 rfl) rfl dX12_init_539 ?_
      refine v_iconst C (-1) (by decide) dX12_init_540 ?_
      obtain ⟨S541, e541, hr⟩ := ob hr
      refine v_stI_i C e541 dX12_init_541 ?_
      refine v_iinc C (x1 + 1) (k0 := 1) (lv' := [(1, .int (x1 + 1)), (0, va_rf (some x0))]) hl rfl rfl (by decide) rfl dX12_init_542 (fun ls hl => ?_)
      refine v_goto C 528 (by decide) dX12_init_545 ?_
      exact ih hr _ (lv_sub hl [1, 0] rfl)
theorem k_X12_init {l : Launch} {G : Ge} {S S' : St} {x0 : Nat} (hr : f_X12_init S x0 = some S') : Ct l G yX12_init cX12_init 2 (Option.none : Option Jvm.ClassFile.FieldType) S [va_rf (some x0)] none S' 1 36 := by
  refine ct_of (by decide +kernel) (Nat.le_of_ble_eq_true rfl) ?_
  intro p e s m args below meth c C ls hl
  have hl : lv_has ls 2 [(0, va_rf (some x0))] := hl
  unfold f_X12_init at hr
  refine v_aload_n C (lv_at hl 0 rfl) rfl dX12_init_0 ?_
  refine v_objInit C (b := x0) w_1301 w_134 w_135 ⟨by decide, by decide⟩ (Nat.le_of_ble_eq_true rfl) hl dX12_init_1 ?_
  refine v_aload_n C (lv_at hl 0 rfl) rfl dX12_init_4 ?_
  refine v_bipush C 8 (by decide) dX12_init_5 ?_
  obtain ⟨⟨a7, S7⟩, e7, hr⟩ := ob hr
  (try dsimp only at hr)
  refine v_newA C (atype := .int) (t0 := 1) e7 (by decide) rfl (fun _ => ⟨rfl, rfl, rfl, by decide⟩) w_211 dX12_init_7 ?_
  obtain ⟨S9, e9, hr⟩ := ob hr
  refine v_putR C fl_RX12_7 (Or.inr ⟨rfl, rfl⟩) rfl e9 dX12_init_9 ?_
  refine v_aload_n C (lv_at hl 0 rfl) rfl dX12_init_12 ?_
  refine v_bipush C 8 (by decide) dX12_init_13 ?_
  obtain ⟨⟨a15, S15⟩, e15, hr⟩ := ob hr
  (try dsimp only at hr)
  refine v_newA C (atype := .int) (t0 := 1) e15 (by decide) rfl (fun _ => ⟨rfl, rfl, rfl, by decide⟩) w_211 dX12_init_15 ?_
  obtain ⟨S17, e17, hr⟩ := ob hr
  refine v_putR C fl_RX12_13 (Or.inr ⟨rfl, rfl⟩) rfl e17 dX12_init_17 ?_
  refine v_aload_n C (lv_at hl 0 rfl) rfl dX12_init_20 ?_
  refine v_bipush C 8 (by decide) dX12_init_21 ?_
  obtain ⟨⟨a23, S23⟩, e23, hr⟩ := ob hr
  (try dsimp only at hr)
  refine v_newA C (atype := .int) (t0 := 1) e23 (by decide) rfl (fun _ => ⟨rfl, rfl, rfl, by decide⟩) w_211 dX12_init_23 ?_
  obtain ⟨S25, e25, hr⟩ := ob hr
  refine v_putR C fl_RX12_16 (Or.inr ⟨rfl, rfl⟩) rfl e25 dX12_init_25 ?_
  refine v_aload_n C (lv_at hl 0 rfl) rfl dX12_init_28 ?_
  refine v_bipush C 24 (by decide) dX12_init_29 ?_
  obtain ⟨⟨a31, S31⟩, e31, hr⟩ := ob hr
  (try dsimp only at hr)
  refine v_newA C (atype := .int) (t0 := 1) e31 (by decide) rfl (fun _ => ⟨rfl, rfl, rfl, by decide⟩) w_211 dX12_init_31 ?_
  obtain ⟨S33, e33, hr⟩ := ob hr
  refine v_putR C fl_RX12_19 (Or.inr ⟨rfl, rfl⟩) rfl e33 dX12_init_33 ?_
  refine v_aload_n C (lv_at hl 0 rfl) rfl dX12_init_36 ?_
  refine v_bipush C 24 (by decide) dX12_init_37 ?_
  obtain ⟨⟨a39, S39⟩, e39, hr⟩ := ob hr
  (try dsimp only at hr)
  refine v_newA C (atype := .int) (t0 := 1) e39 (by decide) rfl (fun _ => ⟨rfl, rfl, rfl, by decide⟩) w_211 dX12_init_39 ?_
  obtain ⟨S41, e41, hr⟩ := ob hr
  refine v_putR C fl_RX12_22 (Or.inr ⟨rfl, rfl⟩) rfl e41 dX12_init_41 ?_
  refine v_aload_n C (lv_at hl 0 rfl) rfl dX12_init_44 ?_
  refine v_bipush C 24 (by decide) dX12_init_45 ?_
  obtain ⟨⟨a47, S47⟩, e47, hr⟩ := ob hr
  (try dsimp only at hr)
  refine v_newA C (atype := .int) (t0 := 1) e47 (by decide) rfl (fun _ => ⟨rfl, rfl, rfl, by decide⟩) w_211 dX12_init_47 ?_
  obtain ⟨S49, e49, hr⟩ := ob hr
  refine v_putR C fl_RX12_25 (Or.inr ⟨rfl, rfl⟩) rfl e49 dX12_init_49 ?_
  refine v_aload_n C (lv_at hl 0 rfl) rfl dX12_init_52 ?_
  refine v_bipush C 24 (by decide) dX12_init_53 ?_
  obtain ⟨⟨a55, S55⟩, e55, hr⟩ := ob hr
  (try dsimp only at hr)
  refine v_newA C (atype := .int) (t0 := 1) e55 (by decide) rfl (fun _ => ⟨rfl, rfl, rfl, by decide⟩) w_211 dX12_init_55 ?_
  obtain ⟨S57, e57, hr⟩ := ob hr
  refine v_putR C fl_RX12_28 (Or.inr ⟨rfl, rfl⟩) rfl e57 dX12_init_57 ?_
  refine v_aload_n C (lv_at hl 0 rfl) rfl dX12_init_60 ?_
  refine v_bipush C 24 (by decide) dX12_init_61 ?_
  obtain ⟨⟨a63, S63⟩, e63, hr⟩ := ob hr
  (try dsimp only at hr)
  refine v_newA C (atype := .int) (t0 := 1) e63 (by decide) rfl (fun _ => ⟨rfl, rfl, rfl, by decide⟩) w_211 dX12_init_63 ?_
  obtain ⟨S65, e65, hr⟩ := ob hr
  refine v_putR C fl_RX12_31 (Or.inr ⟨rfl, rfl⟩) rfl e65 dX12_init_65 ?_
  refine v_aload_n C (lv_at hl 0 rfl) rfl dX12_init_68 ?_
  refine v_bipush C 24 (by decide) dX12_init_69 ?_
  obtain ⟨⟨a71, S71⟩, e71, hr⟩ := ob hr
  (try dsimp only at hr)
  refine v_newA C (atype := .int) (t0 := 1) e71 (by decide) rfl (fun _ => ⟨rfl, rfl, rfl, by decide⟩) w_211 dX12_init_71 ?_
  obtain ⟨S73, e73, hr⟩ := ob hr
  refine v_putR C fl_RX12_34 (Or.inr ⟨rfl, rfl⟩) rfl e73 dX12_init_73 ?_
  refine v_aload_n C (lv_at hl 0 rfl) rfl dX12_init_76 ?_
  refine v_bipush C 40 (by decide) dX12_init_77 ?_
  obtain ⟨⟨a79, S79⟩, e79, hr⟩ := ob hr
  (try dsimp only at hr)
  refine v_newA C (atype := .int) (t0 := 1) e79 (by decide) rfl (fun _ => ⟨rfl, rfl, rfl, by decide⟩) w_211 dX12_init_79 ?_
  obtain ⟨S81, e81, hr⟩ := ob hr
  refine v_putR C fl_RX12_37 (Or.inr ⟨rfl, rfl⟩) rfl e81 dX12_init_81 ?_
  refine v_aload_n C (lv_at hl 0 rfl) rfl dX12_init_84 ?_
  refine v_bipush C 40 (by decide) dX12_init_85 ?_
  obtain ⟨⟨a87, S87⟩, e87, hr⟩ := ob hr
  (try dsimp only at hr)
  refine v_newA C (atype := .int) (t0 := 1) e87 (by decide) rfl (fun _ => ⟨rfl, rfl, rfl, by decide⟩) w_211 dX12_init_87 ?_
  obtain ⟨S89, e89, hr⟩ := ob hr
  refine v_putR C fl_RX12_40 (Or.inr ⟨rfl, rfl⟩) rfl e89 dX12_init_89 ?_
  refine v_aload_n C (lv_at hl 0 rfl) rfl dX12_init_92 ?_
  refine v_bipush C 40 (by decide) dX12_init_93 ?_
  obtain ⟨⟨a95, S95⟩, e95, hr⟩ := ob hr
  (try dsimp only at hr)
  refine v_newA C (atype := .int) (t0 := 1) e95 (by decide) rfl (fun _ => ⟨rfl, rfl, rfl, by decide⟩) w_211 dX12_init_95 ?_
  obtain ⟨S97, e97, hr⟩ := ob hr
  refine v_putR C fl_RX12_43 (Or.inr ⟨rfl, rfl⟩) rfl e97 dX12_init_97 ?_
  refine v_aload_n C (lv_at hl 0 rfl) rfl dX12_init_100 ?_
  refine v_bipush C 40 (by decide) dX12_init_101 ?_
  obtain ⟨⟨a103, S103⟩, e103, hr⟩ := ob hr
  (try dsimp only at hr)
  refine v_newA C (atype := .int) (t0 := 1) e103 (by decide) rfl (fun _ => ⟨rfl, rfl, rfl, by decide⟩) w_211 dX12_init_103 ?_
  obtain ⟨S105, e105, hr⟩ := ob hr
  refine v_putR C fl_RX12_46 (Or.inr ⟨rfl, rfl⟩) rfl e105 dX12_init_105 ?_
  refine v_aload_n C (lv_at hl 0 rfl) rfl dX12_init_108 ?_
  refine v_sipush C 600 (by decide) dX12_init_109 ?_
  obtain ⟨⟨a112, S112⟩, e112, hr⟩ := ob hr
  (try dsimp only at hr)
  refine v_newA C (atype := .int) (t0 := 1) e112 (by decide) rfl (fun _ => ⟨rfl, rfl, rfl, by decide⟩) w_211 dX12_init_112 ?_
  obtain ⟨S114, e114, hr⟩ := ob hr
  refine v_putR C fl_RX12_49 (Or.inr ⟨rfl, rfl⟩) rfl e114 dX12_init_114 ?_
  refine v_aload_n C (lv_at hl 0 rfl) rfl dX12_init_117 ?_
  refine v_sipush C 600 (by decide) dX12_init_118 ?_
  obtain ⟨⟨a121, S121⟩, e121, hr⟩ := ob hr
  (try dsimp only at hr)
  refine v_newA C (atype := .int) (t0 := 1) e121 (by decide) rfl (fun _ => ⟨rfl, rfl, rfl, by decide⟩) w_211 dX12_init_121 ?_
  obtain ⟨S123, e123, hr⟩ := ob hr
  refine v_putR C fl_RX12_52 (Or.inr ⟨rfl, rfl⟩) rfl e123 dX12_init_123 ?_
  refine v_aload_n C (lv_at hl 0 rfl) rfl dX12_init_126 ?_
  refine v_sipush C 600 (by decide) dX12_init_127 ?_
  obtain ⟨⟨a130, S130⟩, e130, hr⟩ := ob hr
  (try dsimp only at hr)
  refine v_newA C (atype := .int) (t0 := 1) e130 (by decide) rfl (fun _ => ⟨rfl, rfl, rfl, by decide⟩) w_211 dX12_init_130 ?_
  obtain ⟨S132, e132, hr⟩ := ob hr
  refine v_putR C fl_RX12_55 (Or.inr ⟨rfl, rfl⟩) rfl e132 dX12_init_132 ?_
  refine v_aload_n C (lv_at hl 0 rfl) rfl dX12_init_135 ?_
  refine v_sipush C 600 (by decide) dX12_init_136 ?_
  obtain ⟨⟨a139, S139⟩, e139, hr⟩ := ob hr
  (try dsimp only at hr)
  refine v_newA C (atype := .int) (t0 := 1) e139 (by decide) rfl (fun _ => ⟨rfl, rfl, rfl, by decide⟩) w_211 dX12_init_139 ?_
  obtain ⟨S141, e141, hr⟩ := ob hr
  refine v_putR C fl_RX12_58 (Or.inr ⟨rfl, rfl⟩) rfl e141 dX12_init_141 ?_
  refine v_aload_n C (lv_at hl 0 rfl) rfl dX12_init_144 ?_
  refine v_sipush C 600 (by decide) dX12_init_145 ?_
  obtain ⟨⟨a148, S148⟩, e148, hr⟩ := ob hr
  (try dsimp only at hr)
  refine v_newA C (atype := .int) (t0 := 1) e148 (by decide) rfl (fun _ => ⟨rfl, rfl, rfl, by decide⟩) w_211 dX12_init_148 ?_
  obtain ⟨S150, e150, hr⟩ := ob hr
  refine v_putR C fl_RX12_61 (Or.inr ⟨rfl, rfl⟩) rfl e150 dX12_init_150 ?_
  refine v_aload_n C (lv_at hl 0 rfl) rfl dX12_init_153 ?_
  refine v_sipush C 600 (by decide) dX12_init_154 ?_
  obtain ⟨⟨a157, S157⟩, e157, hr⟩ := ob hr
  (try dsimp only at hr)
  refine v_newA C (atype := .int) (t0 := 1) e157 (by decide) rfl (fun _ => ⟨rfl, rfl, rfl, by decide⟩) w_211 dX12_init_157 ?_
  obtain ⟨S159, e159, hr⟩ := ob hr
  refine v_putR C fl_RX12_64 (Or.inr ⟨rfl, rfl⟩) rfl e159 dX12_init_159 ?_
  refine v_aload_n C (lv_at hl 0 rfl) rfl dX12_init_162 ?_
  refine v_bipush C 16 (by decide) dX12_init_163 ?_
  obtain ⟨⟨a165, S165⟩, e165, hr⟩ := ob hr
  (try dsimp only at hr)
  refine v_newA C (atype := .int) (t0 := 1) e165 (by decide) rfl (fun _ => ⟨rfl, rfl, rfl, by decide⟩) w_211 dX12_init_165 ?_
  obtain ⟨S167, e167, hr⟩ := ob hr
  refine v_putR C fl_RX12_67 (Or.inr ⟨rfl, rfl⟩) rfl e167 dX12_init_167 ?_
  refine v_aload_n C (lv_at hl 0 rfl) rfl dX12_init_170 ?_
  refine v_iconst C 4 (by decide) dX12_init_171 ?_
  obtain ⟨⟨a172, S172⟩, e172, hr⟩ := ob hr
  (try dsimp only at hr)
  refine v_newA C (atype := .int) (t0 := 1) e172 (by decide) rfl (fun _ => ⟨rfl, rfl, rfl, by decide⟩) w_211 dX12_init_172 ?_
  obtain ⟨S174, e174, hr⟩ := ob hr
  refine v_putR C fl_RX12_70 (Or.inr ⟨rfl, rfl⟩) rfl e174 dX12_init_174 ?_
  refine v_aload_n C (lv_at hl 0 rfl) rfl dX12_init_177 ?_
  refine v_iconst C 4 (by decide) dX12_init_178 ?_
  obtain ⟨⟨a179, S179⟩, e179, hr⟩ := ob hr
  (try dsimp only at hr)
  refine v_newA C (atype := .int) (t0 := 1) e179 (by decide) rfl (fun _ => ⟨rfl, rfl, rfl, by decide⟩) w_211 dX12_init_179 ?_
  obtain ⟨S181, e181, hr⟩ := ob hr
  refine v_putR C fl_RX12_73 (Or.inr ⟨rfl, rfl⟩) rfl e181 dX12_init_181 ?_
  refine v_aload_n C (lv_at hl 0 rfl) rfl dX12_init_184 ?_
  refine v_iconst C 4 (by decide) dX12_init_185 ?_
  obtain ⟨⟨a186, S186⟩, e186, hr⟩ := ob hr
  (try dsimp only at hr)
  refine v_newA C (atype := .int) (t0 := 1) e186 (by decide) rfl (fun _ => ⟨rfl, rfl, rfl, by decide⟩) w_211 dX12_init_186 ?_
  obtain ⟨S188, e188, hr⟩ := ob hr
  refine v_putR C fl_RX12_76 (Or.inr ⟨rfl, rfl⟩) rfl e188 dX12_init_188 ?_
  refine v_aload_n C (lv_at hl 0 rfl) rfl dX12_init_191 ?_
  refine v_iconst C 4 (by decide) dX12_init_192 ?_
  obtain ⟨⟨a193, S193⟩, e193, hr⟩ := ob hr
  (try dsimp only at hr)
  refine v_newA C (atype := .int) (t0 := 1) e193 (by decide) rfl (fun _ => ⟨rfl, rfl, rfl, by decide⟩) w_211 dX12_init_193 ?_
  obtain ⟨S195, e195, hr⟩ := ob hr
  refine v_putR C fl_RX12_79 (Or.inr ⟨rfl, rfl⟩) rfl e195 dX12_init_195 ?_
  refine v_aload_n C (lv_at hl 0 rfl) rfl dX12_init_198 ?_
  refine v_iconst C 4 (by decide) dX12_init_199 ?_
  obtain ⟨⟨a200, S200⟩, e200, hr⟩ := ob hr
  (try dsimp only at hr)
  refine v_newA C (atype := .int) (t0 := 1) e200 (by decide) rfl (fun _ => ⟨rfl, rfl, rfl, by decide⟩) w_211 dX12_init_200 ?_
  obtain ⟨S202, e202, hr⟩ := ob hr
  refine v_putR C fl_RX12_82 (Or.inr ⟨rfl, rfl⟩) rfl e202 dX12_init_202 ?_
  refine v_aload_n C (lv_at hl 0 rfl) rfl dX12_init_205 ?_
  refine v_iconst C 4 (by decide) dX12_init_206 ?_
  obtain ⟨⟨a207, S207⟩, e207, hr⟩ := ob hr
  (try dsimp only at hr)
  refine v_newA C (atype := .int) (t0 := 1) e207 (by decide) rfl (fun _ => ⟨rfl, rfl, rfl, by decide⟩) w_211 dX12_init_207 ?_
  obtain ⟨S209, e209, hr⟩ := ob hr
  refine v_putR C fl_RX12_85 (Or.inr ⟨rfl, rfl⟩) rfl e209 dX12_init_209 ?_
  refine v_aload_n C (lv_at hl 0 rfl) rfl dX12_init_212 ?_
  refine v_bipush C 100 (by decide) dX12_init_213 ?_
  obtain ⟨⟨a215, S215⟩, e215, hr⟩ := ob hr
  (try dsimp only at hr)
  refine v_newA C (atype := .int) (t0 := 1) e215 (by decide) rfl (fun _ => ⟨rfl, rfl, rfl, by decide⟩) w_211 dX12_init_215 ?_
  obtain ⟨S217, e217, hr⟩ := ob hr
  refine v_putR C fl_RX12_88 (Or.inr ⟨rfl, rfl⟩) rfl e217 dX12_init_217 ?_
  refine v_aload_n C (lv_at hl 0 rfl) rfl dX12_init_220 ?_
  refine v_bipush C 96 (by decide) dX12_init_221 ?_
  obtain ⟨⟨a223, S223⟩, e223, hr⟩ := ob hr
  (try dsimp only at hr)
  refine v_newA C (atype := .int) (t0 := 1) e223 (by decide) rfl (fun _ => ⟨rfl, rfl, rfl, by decide⟩) w_211 dX12_init_223 ?_
  obtain ⟨S225, e225, hr⟩ := ob hr
  refine v_putR C fl_RX12_91 (Or.inr ⟨rfl, rfl⟩) rfl e225 dX12_init_225 ?_
  refine v_aload_n C (lv_at hl 0 rfl) rfl dX12_init_228 ?_
  refine v_sipush C 4880 (by decide) dX12_init_229 ?_
  obtain ⟨⟨a232, S232⟩, e232, hr⟩ := ob hr
  (try dsimp only at hr)
  refine v_newA C (atype := .int) (t0 := 1) e232 (by decide) rfl (fun _ => ⟨rfl, rfl, rfl, by decide⟩) w_211 dX12_init_232 ?_
  obtain ⟨S234, e234, hr⟩ := ob hr
  refine v_putR C fl_RX12_94 (Or.inr ⟨rfl, rfl⟩) rfl e234 dX12_init_234 ?_
  refine v_aload_n C (lv_at hl 0 rfl) rfl dX12_init_237 ?_
  refine v_bipush C 24 (by decide) dX12_init_238 ?_
  obtain ⟨⟨a240, S240⟩, e240, hr⟩ := ob hr
  (try dsimp only at hr)
  refine v_newA C (atype := .int) (t0 := 1) e240 (by decide) rfl (fun _ => ⟨rfl, rfl, rfl, by decide⟩) w_211 dX12_init_240 ?_
  obtain ⟨S242, e242, hr⟩ := ob hr
  refine v_putR C fl_RX12_97 (Or.inr ⟨rfl, rfl⟩) rfl e242 dX12_init_242 ?_
  refine v_aload_n C (lv_at hl 0 rfl) rfl dX12_init_245 ?_
  refine v_bipush C 24 (by decide) dX12_init_246 ?_
  obtain ⟨⟨a248, S248⟩, e248, hr⟩ := ob hr
  (try dsimp only at hr)
  refine v_newA C (atype := .int) (t0 := 1) e248 (by decide) rfl (fun _ => ⟨rfl, rfl, rfl, by decide⟩) w_211 dX12_init_248 ?_
  obtain ⟨S250, e250, hr⟩ := ob hr
  refine v_putR C fl_RX12_100 (Or.inr ⟨rfl, rfl⟩) rfl e250 dX12_init_250 ?_
  refine v_aload_n C (lv_at hl 0 rfl) rfl dX12_init_253 ?_
  refine v_bipush C 24 (by decide) dX12_init_254 ?_
  obtain ⟨⟨a256, S256⟩, e256, hr⟩ := ob hr
  (try dsimp only at hr)
  refine v_newA C (atype := .int) (t0 := 1) e256 (by decide) rfl (fun _ => ⟨rfl, rfl, rfl, by decide⟩) w_211 dX12_init_256 ?_
  obtain ⟨S258, e258, hr⟩ := ob hr
  refine v_putR C fl_RX12_103 (Or.inr ⟨rfl, rfl⟩) rfl e258 dX12_init_258 ?_
  refine v_aload_n C (lv_at hl 0 rfl) rfl dX12_init_261 ?_
  refine v_bipush C 25 (by decide) dX12_init_262 ?_
  obtain ⟨⟨a264, S264⟩, e264, hr⟩ := ob hr
  (try dsimp only at hr)
  refine v_newA C (atype := .int) (t0 := 1) e264 (by decide) rfl (fun _ => ⟨rfl, rfl, rfl, by decide⟩) w_211 dX12_init_264 ?_
  obtain ⟨S266, e266, hr⟩ := ob hr
  refine v_putR C fl_RX12_106 (Or.inr ⟨rfl, rfl⟩) rfl e266 dX12_init_266 ?_
  refine v_aload_n C (lv_at hl 0 rfl) rfl dX12_init_269 ?_
  refine v_bipush C 24 (by decide) dX12_init_270 ?_
  obtain ⟨⟨a272, S272⟩, e272, hr⟩ := ob hr
  (try dsimp only at hr)
  refine v_newA C (atype := .int) (t0 := 1) e272 (by decide) rfl (fun _ => ⟨rfl, rfl, rfl, by decide⟩) w_211 dX12_init_272 ?_
  obtain ⟨S274, e274, hr⟩ := ob hr
  refine v_putR C fl_RX12_109 (Or.inr ⟨rfl, rfl⟩) rfl e274 dX12_init_274 ?_
  refine v_aload_n C (lv_at hl 0 rfl) rfl dX12_init_277 ?_
  refine v_sipush C 1220 (by decide) dX12_init_278 ?_
  obtain ⟨⟨a281, S281⟩, e281, hr⟩ := ob hr
  (try dsimp only at hr)
  refine v_newA C (atype := .int) (t0 := 1) e281 (by decide) rfl (fun _ => ⟨rfl, rfl, rfl, by decide⟩) w_211 dX12_init_281 ?_
  obtain ⟨S283, e283, hr⟩ := ob hr
  refine v_putR C fl_RX12_112 (Or.inr ⟨rfl, rfl⟩) rfl e283 dX12_init_283 ?_
  refine v_aload_n C (lv_at hl 0 rfl) rfl dX12_init_286 ?_
  refine v_sipush C 600 (by decide) dX12_init_287 ?_
  obtain ⟨⟨a290, S290⟩, e290, hr⟩ := ob hr
  (try dsimp only at hr)
  refine v_newA C (atype := .int) (t0 := 1) e290 (by decide) rfl (fun _ => ⟨rfl, rfl, rfl, by decide⟩) w_211 dX12_init_290 ?_
  obtain ⟨S292, e292, hr⟩ := ob hr
  refine v_putR C fl_RX12_115 (Or.inr ⟨rfl, rfl⟩) rfl e292 dX12_init_292 ?_
  refine v_aload_n C (lv_at hl 0 rfl) rfl dX12_init_295 ?_
  refine v_sipush C 620 (by decide) dX12_init_296 ?_
  obtain ⟨⟨a299, S299⟩, e299, hr⟩ := ob hr
  (try dsimp only at hr)
  refine v_newA C (atype := .int) (t0 := 1) e299 (by decide) rfl (fun _ => ⟨rfl, rfl, rfl, by decide⟩) w_211 dX12_init_299 ?_
  obtain ⟨S301, e301, hr⟩ := ob hr
  refine v_putR C fl_RX12_118 (Or.inr ⟨rfl, rfl⟩) rfl e301 dX12_init_301 ?_
  refine v_aload_n C (lv_at hl 0 rfl) rfl dX12_init_304 ?_
  refine v_iconst C (-1) (by decide) dX12_init_305 ?_
  obtain ⟨S306, e306, hr⟩ := ob hr
  refine v_putI C fl_RX12_121 (Or.inl rfl) rfl e306 dX12_init_306 ?_
  refine v_aload_n C (lv_at hl 0 rfl) rfl dX12_init_309 ?_
  refine v_iconst C 5 (by decide) dX12_init_310 ?_
  obtain ⟨⟨a311, S311⟩, e311, hr⟩ := ob hr
  (try dsimp only at hr)
  refine v_newA C (atype := .int) (t0 := 1) e311 (by decide) rfl (fun _ => ⟨rfl, rfl, rfl, by decide⟩) w_211 dX12_init_311 ?_
  obtain ⟨S313, e313, hr⟩ := ob hr
  refine v_putR C fl_RX12_125 (Or.inr ⟨rfl, rfl⟩) rfl e313 dX12_init_313 ?_
  refine v_aload_n C (lv_at hl 0 rfl) rfl dX12_init_316 ?_
  refine v_bipush C 40 (by decide) dX12_init_317 ?_
  obtain ⟨⟨a319, S319⟩, e319, hr⟩ := ob hr
  (try dsimp only at hr)
  refine v_newA C (atype := .int) (t0 := 1) e319 (by decide) rfl (fun _ => ⟨rfl, rfl, rfl, by decide⟩) w_211 dX12_init_319 ?_
  obtain ⟨S321, e321, hr⟩ := ob hr
  refine v_putR C fl_RX12_128 (Or.inr ⟨rfl, rfl⟩) rfl e321 dX12_init_321 ?_
  refine v_aload_n C (lv_at hl 0 rfl) rfl dX12_init_324 ?_
  refine v_bipush C 40 (by decide) dX12_init_325 ?_
  obtain ⟨⟨a327, S327⟩, e327, hr⟩ := ob hr
  (try dsimp only at hr)
  refine v_newA C (atype := .int) (t0 := 1) e327 (by decide) rfl (fun _ => ⟨rfl, rfl, rfl, by decide⟩) w_211 dX12_init_327 ?_
  obtain ⟨S329, e329, hr⟩ := ob hr
  refine v_putR C fl_RX12_131 (Or.inr ⟨rfl, rfl⟩) rfl e329 dX12_init_329 ?_
  refine v_aload_n C (lv_at hl 0 rfl) rfl dX12_init_332 ?_
  refine v_bipush C 40 (by decide) dX12_init_333 ?_
  obtain ⟨⟨a335, S335⟩, e335, hr⟩ := ob hr
  (try dsimp only at hr)
  refine v_newA C (atype := .int) (t0 := 1) e335 (by decide) rfl (fun _ => ⟨rfl, rfl, rfl, by decide⟩) w_211 dX12_init_335 ?_
  obtain ⟨S337, e337, hr⟩ := ob hr
  refine v_putR C fl_RX12_134 (Or.inr ⟨rfl, rfl⟩) rfl e337 dX12_init_337 ?_
  refine v_aload_n C (lv_at hl 0 rfl) rfl dX12_init_340 ?_
  refine v_bipush C 40 (by decide) dX12_init_341 ?_
  obtain ⟨⟨a343, S343⟩, e343, hr⟩ := ob hr
  (try dsimp only at hr)
  refine v_newA C (atype := .long) (t0 := 2) e343 (by decide) rfl (fun _ => ⟨rfl, rfl, rfl, by decide⟩) w_291 dX12_init_343 ?_
  obtain ⟨S345, e345, hr⟩ := ob hr
  refine v_putR C fl_RX12_137 (Or.inr ⟨rfl, rfl⟩) rfl e345 dX12_init_345 ?_
  refine v_aload_n C (lv_at hl 0 rfl) rfl dX12_init_348 ?_
  refine v_bipush C 8 (by decide) dX12_init_349 ?_
  obtain ⟨⟨a351, S351⟩, e351, hr⟩ := ob hr
  (try dsimp only at hr)
  refine v_newA C (atype := .int) (t0 := 1) e351 (by decide) rfl (fun _ => ⟨rfl, rfl, rfl, by decide⟩) w_211 dX12_init_351 ?_
  obtain ⟨S353, e353, hr⟩ := ob hr
  refine v_putR C fl_RX12_141 (Or.inr ⟨rfl, rfl⟩) rfl e353 dX12_init_353 ?_
  refine v_aload_n C (lv_at hl 0 rfl) rfl dX12_init_356 ?_
  refine v_bipush C 8 (by decide) dX12_init_357 ?_
  obtain ⟨⟨a359, S359⟩, e359, hr⟩ := ob hr
  (try dsimp only at hr)
  refine v_newA C (atype := .int) (t0 := 1) e359 (by decide) rfl (fun _ => ⟨rfl, rfl, rfl, by decide⟩) w_211 dX12_init_359 ?_
  obtain ⟨S361, e361, hr⟩ := ob hr
  refine v_putR C fl_RX12_144 (Or.inr ⟨rfl, rfl⟩) rfl e361 dX12_init_361 ?_
  refine v_aload_n C (lv_at hl 0 rfl) rfl dX12_init_364 ?_
  refine v_bipush C 64 (by decide) dX12_init_365 ?_
  obtain ⟨⟨a367, S367⟩, e367, hr⟩ := ob hr
  (try dsimp only at hr)
  refine v_newA C (atype := .int) (t0 := 1) e367 (by decide) rfl (fun _ => ⟨rfl, rfl, rfl, by decide⟩) w_211 dX12_init_367 ?_
  obtain ⟨S369, e369, hr⟩ := ob hr
  refine v_putR C fl_RX12_147 (Or.inr ⟨rfl, rfl⟩) rfl e369 dX12_init_369 ?_
  refine v_aload_n C (lv_at hl 0 rfl) rfl dX12_init_372 ?_
  refine v_bipush C 24 (by decide) dX12_init_373 ?_
  obtain ⟨⟨a375, S375⟩, e375, hr⟩ := ob hr
  (try dsimp only at hr)
  refine v_newA C (atype := .boolean) (t0 := 3) e375 (by decide) rfl (fun _ => ⟨rfl, rfl, rfl, by decide⟩) w_1550 dX12_init_375 ?_
  obtain ⟨S377, e377, hr⟩ := ob hr
  refine v_putR C fl_RX12_150 (Or.inr ⟨rfl, rfl⟩) rfl e377 dX12_init_377 ?_
  refine v_aload_n C (lv_at hl 0 rfl) rfl dX12_init_380 ?_
  refine v_bipush C 24 (by decide) dX12_init_381 ?_
  obtain ⟨⟨a383, S383⟩, e383, hr⟩ := ob hr
  (try dsimp only at hr)
  refine v_newA C (atype := .long) (t0 := 2) e383 (by decide) rfl (fun _ => ⟨rfl, rfl, rfl, by decide⟩) w_291 dX12_init_383 ?_
  obtain ⟨S385, e385, hr⟩ := ob hr
  refine v_putR C fl_RX12_154 (Or.inr ⟨rfl, rfl⟩) rfl e385 dX12_init_385 ?_
  refine v_aload_n C (lv_at hl 0 rfl) rfl dX12_init_388 ?_
  refine v_bipush C 24 (by decide) dX12_init_389 ?_
  obtain ⟨⟨a391, S391⟩, e391, hr⟩ := ob hr
  (try dsimp only at hr)
  refine v_newA C (atype := .long) (t0 := 2) e391 (by decide) rfl (fun _ => ⟨rfl, rfl, rfl, by decide⟩) w_291 dX12_init_391 ?_
  obtain ⟨S393, e393, hr⟩ := ob hr
  refine v_putR C fl_RX12_157 (Or.inr ⟨rfl, rfl⟩) rfl e393 dX12_init_393 ?_
  refine v_aload_n C (lv_at hl 0 rfl) rfl dX12_init_396 ?_
  refine v_bipush C 60 (by decide) dX12_init_397 ?_
  obtain ⟨⟨a399, S399⟩, e399, hr⟩ := ob hr
  (try dsimp only at hr)
  refine v_newA C (atype := .int) (t0 := 1) e399 (by decide) rfl (fun _ => ⟨rfl, rfl, rfl, by decide⟩) w_211 dX12_init_399 ?_
  obtain ⟨S401, e401, hr⟩ := ob hr
  refine v_putR C fl_RX12_160 (Or.inr ⟨rfl, rfl⟩) rfl e401 dX12_init_401 ?_
  refine v_aload_n C (lv_at hl 0 rfl) rfl dX12_init_404 ?_
  refine v_bipush C 60 (by decide) dX12_init_405 ?_
  obtain ⟨⟨a407, S407⟩, e407, hr⟩ := ob hr
  (try dsimp only at hr)
  refine v_newA C (atype := .int) (t0 := 1) e407 (by decide) rfl (fun _ => ⟨rfl, rfl, rfl, by decide⟩) w_211 dX12_init_407 ?_
  obtain ⟨S409, e409, hr⟩ := ob hr
  refine v_putR C fl_RX12_163 (Or.inr ⟨rfl, rfl⟩) rfl e409 dX12_init_409 ?_
  refine v_aload_n C (lv_at hl 0 rfl) rfl dX12_init_412 ?_
  refine v_bipush C 60 (by decide) dX12_init_413 ?_
  obtain ⟨⟨a415, S415⟩, e415, hr⟩ := ob hr
  (try dsimp only at hr)
  refine v_newA C (atype := .int) (t0 := 1) e415 (by decide) rfl (fun _ => ⟨rfl, rfl, rfl, by decide⟩) w_211 dX12_init_415 ?_
  obtain ⟨S417, e417, hr⟩ := ob hr
  refine v_putR C fl_RX12_166 (Or.inr ⟨rfl, rfl⟩) rfl e417 dX12_init_417 ?_
  refine v_aload_n C (lv_at hl 0 rfl) rfl dX12_init_420 ?_
  refine v_bipush C 60 (by decide) dX12_init_421 ?_
  obtain ⟨⟨a423, S423⟩, e423, hr⟩ := ob hr
  (try dsimp only at hr)
  refine v_newA C (atype := .int) (t0 := 1) e423 (by decide) rfl (fun _ => ⟨rfl, rfl, rfl, by decide⟩) w_211 dX12_init_423 ?_
  obtain ⟨S425, e425, hr⟩ := ob hr
  refine v_putR C fl_RX12_169 (Or.inr ⟨rfl, rfl⟩) rfl e425 dX12_init_425 ?_
  refine v_aload_n C (lv_at hl 0 rfl) rfl dX12_init_428 ?_
  refine v_bipush C 60 (by decide) dX12_init_429 ?_
  obtain ⟨⟨a431, S431⟩, e431, hr⟩ := ob hr
  (try dsimp only at hr)
  refine v_newA C (atype := .int) (t0 := 1) e431 (by decide) rfl (fun _ => ⟨rfl, rfl, rfl, by decide⟩) w_211 dX12_init_431 ?_
  obtain ⟨S433, e433, hr⟩ := ob hr
  refine v_putR C fl_RX12_172 (Or.inr ⟨rfl, rfl⟩) rfl e433 dX12_init_433 ?_
  refine v_aload_n C (lv_at hl 0 rfl) rfl dX12_init_436 ?_
  refine v_bipush C 60 (by decide) dX12_init_437 ?_
  obtain ⟨⟨a439, S439⟩, e439, hr⟩ := ob hr
  (try dsimp only at hr)
  refine v_newA C (atype := .long) (t0 := 2) e439 (by decide) rfl (fun _ => ⟨rfl, rfl, rfl, by decide⟩) w_291 dX12_init_439 ?_
  obtain ⟨S441, e441, hr⟩ := ob hr
  refine v_putR C fl_RX12_175 (Or.inr ⟨rfl, rfl⟩) rfl e441 dX12_init_441 ?_
  refine v_aload_n C (lv_at hl 0 rfl) rfl dX12_init_444 ?_
  refine v_bipush C 60 (by decide) dX12_init_445 ?_
  obtain ⟨⟨a447, S447⟩, e447, hr⟩ := ob hr
  (try dsimp only at hr)
  refine v_newA C (atype := .long) (t0 := 2) e447 (by decide) rfl (fun _ => ⟨rfl, rfl, rfl, by decide⟩) w_291 dX12_init_447 ?_
  obtain ⟨S449, e449, hr⟩ := ob hr
  refine v_putR C fl_RX12_178 (Or.inr ⟨rfl, rfl⟩) rfl e449 dX12_init_449 ?_
  refine v_aload_n C (lv_at hl 0 rfl) rfl dX12_init_452 ?_
  refine v_sipush C 160 (by decide) dX12_init_453 ?_
  obtain ⟨⟨a456, S456⟩, e456, hr⟩ := ob hr
  (try dsimp only at hr)
  refine v_newA C (atype := .int) (t0 := 1) e456 (by decide) rfl (fun _ => ⟨rfl, rfl, rfl, by decide⟩) w_211 dX12_init_456 ?_
  obtain ⟨S458, e458, hr⟩ := ob hr
  refine v_putR C fl_RX12_181 (Or.inr ⟨rfl, rfl⟩) rfl e458 dX12_init_458 ?_
  refine v_aload_n C (lv_at hl 0 rfl) rfl dX12_init_461 ?_
  refine v_bipush C 20 (by decide) dX12_init_462 ?_
  obtain ⟨⟨a464, S464⟩, e464, hr⟩ := ob hr
  (try dsimp only at hr)
  refine v_newA C (atype := .int) (t0 := 1) e464 (by decide) rfl (fun _ => ⟨rfl, rfl, rfl, by decide⟩) w_211 dX12_init_464 ?_
  obtain ⟨S466, e466, hr⟩ := ob hr
  refine v_putR C fl_RX12_184 (Or.inr ⟨rfl, rfl⟩) rfl e466 dX12_init_466 ?_
  refine v_aload_n C (lv_at hl 0 rfl) rfl dX12_init_469 ?_
  refine v_sipush C 21000 (by decide) dX12_init_470 ?_
  obtain ⟨⟨a473, S473⟩, e473, hr⟩ := ob hr
  (try dsimp only at hr)
  refine v_newA C (atype := .int) (t0 := 1) e473 (by decide) rfl (fun _ => ⟨rfl, rfl, rfl, by decide⟩) w_211 dX12_init_473 ?_
  obtain ⟨S475, e475, hr⟩ := ob hr
  refine v_putR C fl_RX12_187 (Or.inr ⟨rfl, rfl⟩) rfl e475 dX12_init_475 ?_
  refine v_aload_n C (lv_at hl 0 rfl) rfl dX12_init_478 ?_
  refine v_sipush C 21000 (by decide) dX12_init_479 ?_
  obtain ⟨⟨a482, S482⟩, e482, hr⟩ := ob hr
  (try dsimp only at hr)
  refine v_newA C (atype := .int) (t0 := 1) e482 (by decide) rfl (fun _ => ⟨rfl, rfl, rfl, by decide⟩) w_211 dX12_init_482 ?_
  obtain ⟨S484, e484, hr⟩ := ob hr
  refine v_putR C fl_RX12_190 (Or.inr ⟨rfl, rfl⟩) rfl e484 dX12_init_484 ?_
  refine v_iconst C 0 (by decide) dX12_init_487 ?_
  refine v_istore_n C (i := 1) (lv' := [(1, .int 0), (0, va_rf (some x0))]) hl rfl (by decide) rfl dX12_init_488 (fun ls hl => ?_)
  obtain ⟨o489, e489, hr⟩ := ob hr
  refine b_X12_init_489 C ?_ FU e489 _ (lv_sub hl [1, 0] rfl)
  · intro x0 S_489 q ls hl
    subst q
    (try dsimp only at hr)
    refine v_iconst C 0 (by decide) dX12_init_505 ?_
    refine v_istore_n C (i := 1) (lv' := [(1, .int 0), (0, va_rf (some x0))]) hl rfl (by decide) rfl dX12_init_506 (fun ls hl => ?_)
    obtain ⟨o507, e507, hr⟩ := ob hr
    refine b_X12_init_507 C ?_ FU e507 _ (lv_sub hl [1, 0] rfl)
    · intro x0 S_507 q ls hl
      subst q
      (try dsimp only at hr)
      refine v_iconst C 0 (by decide) dX12_init_526 ?_
      refine v_istore_n C (i := 1) (lv' := [(1, .int 0), (0, va_rf (some x0))]) hl rfl (by decide) rfl dX12_init_527 (fun ls hl => ?_)
      exact b_X12_init_528 C (fun _ q => by cases q; rfl) FU hr _ (lv_sub hl [1, 0] rfl)
-- X12_isUnlike
def f_X12_isUnlike (S : St) (x0 : Nat) (x1 : Int32) (x2 : Int32) : Option Int32 :=
    (if x1 = (-1) then
    some 0
    else
    (if x2 = (-1) then
    some 0
    else
    (if x1 = x2 then
    some 0
    else
    some 1)))
theorem k_X12_isUnlike {l : Launch} {G : Ge} {S : St} {x0 : Nat} {x1 : Int32} {x2 : Int32} {rr : Int32} (hr : f_X12_isUnlike S x0 x1 x2 = some rr) : Ct l G yX12_isUnlike cX12_isUnlike 3 (Option.some Jvm.ClassFile.FieldType.boolean) S [va_rf (some x0), .int x1, .int x2] (some (.int rr)) S 0 0 := by
  refine ct_of (by decide +kernel) (Nat.le_of_ble_eq_true rfl) ?_
  intro p e s m args below meth c C ls hl
  have hl : lv_has ls 3 [(0, va_rf (some x0)), (1, .int x1), (2, .int x2)] := hl
  unfold f_X12_isUnlike at hr
  refine v_iload_n C (lv_at hl 1 rfl) rfl dX12_isUnlike_0 ?_
  refine v_iconst C (-1) (by decide) dX12_isUnlike_1 ?_
  refine v_icmp_eq C 19 (by decide) dX12_isUnlike_2 (fun c2 => ?_) (fun c2 => ?_)
  · rw [if_pos c2] at hr
    refine v_iconst C 0 (by decide) dX12_isUnlike_19 ?_
    obtain rfl := os hr
    exact v_zret C rfl dX12_isUnlike_20
  · rw [if_neg c2] at hr
    refine v_iload_n C (lv_at hl 2 rfl) rfl dX12_isUnlike_5 ?_
    refine v_iconst C (-1) (by decide) dX12_isUnlike_6 ?_
    refine v_icmp_eq C 19 (by decide) dX12_isUnlike_7 (fun c7 => ?_) (fun c7 => ?_)
    · rw [if_pos c7] at hr
      refine v_iconst C 0 (by decide) dX12_isUnlike_19 ?_
      obtain rfl := os hr
      exact v_zret C rfl dX12_isUnlike_20
    · rw [if_neg c7] at hr
      refine v_iload_n C (lv_at hl 1 rfl) rfl dX12_isUnlike_10 ?_
      refine v_iload_n C (lv_at hl 2 rfl) rfl dX12_isUnlike_11 ?_
      refine v_icmp_eq C 19 (by decide) dX12_isUnlike_12 (fun c12 => ?_) (fun c12 => ?_)
      · rw [if_pos c12] at hr
        refine v_iconst C 0 (by decide) dX12_isUnlike_19 ?_
        obtain rfl := os hr
        exact v_zret C rfl dX12_isUnlike_20
      · rw [if_neg c12] at hr
        refine v_iconst C 1 (by decide) dX12_isUnlike_15 ?_
        refine v_goto C 20 (by decide) dX12_isUnlike_16 ?_
        obtain rfl := os hr
        exact v_zret C rfl dX12_isUnlike_20
-- X12_isBarred
def f_X12_isBarred_75 (S : St) (x0 : Nat) (x1 : Int32) (x2 : Int32) : Option Int32 :=
    (getR S (some x0) 13 13).bind fun v76 =>
    (ldI S v76 15 x2).bind fun v80 =>
    (if v80 = (-1) then
    some 0
    else
    (getR S (some x0) 13 9).bind fun v86 =>
    (ldI S v86 15 x1).bind fun v90 =>
    (if v90 = (-1) then
    some 0
    else
    (getR S (some x0) 13 13).bind fun v96 =>
    (ldI S v96 15 x2).bind fun v100 =>
    (getR S (some x0) 13 9).bind fun v102 =>
    (ldI S v102 15 x1).bind fun v106 =>
    (if v106 ≤ v100 then
    some 0
    else
    some 1)))
def f_X12_isBarred (S : St) (x0 : Nat) (x1 : Int32) (x2 : Int32) : Option Int32 :=
    (getR S (some x0) 13 9).bind fun v2 =>
    (ldI S v2 15 x1).bind fun v6 =>
    (getR S (some x0) 13 9).bind fun v8 =>
    (ldI S v8 15 x2).bind fun v12 =>
    (rcv S (some x0) 13).bind fun b13 =>
    (f_X12_isUnlike S b13 v6 v12).bind fun v13 =>
    (if v13 = 0 then
    (getR S (some x0) 13 11).bind fun v21 =>
    (ldI S v21 15 x1).bind fun v25 =>
    (getR S (some x0) 13 11).bind fun v27 =>
    (ldI S v27 15 x2).bind fun v31 =>
    (rcv S (some x0) 13).bind fun b32 =>
    (f_X12_isUnlike S b32 v25 v31).bind fun v32 =>
    (if v32 = 0 then
    (getR S (some x0) 13 13).bind fun v41 =>
    (ldI S v41 15 x1).bind fun v45 =>
    (if v45 = (-1) then
    f_X12_isBarred_75 S x0 x1 x2
    else
    (getR S (some x0) 13 9).bind fun v51 =>
    (ldI S v51 15 x2).bind fun v55 =>
    (if v55 = (-1) then
    f_X12_isBarred_75 S x0 x1 x2
    else
    (getR S (some x0) 13 13).bind fun v61 =>
    (ldI S v61 15 x1).bind fun v65 =>
    (getR S (some x0) 13 9).bind fun v67 =>
    (ldI S v67 15 x2).bind fun v71 =>
    (if v65 < v71 then
    some 1
    else
    f_X12_isBarred_75 S x0 x1 x2)))
    else
    some 1)
    else
    some 1)
theorem b_X12_isBarred_75  {S : St} {rr : Int32} {x0 : Nat} {x1 : Int32} {x2 : Int32} (C : Cx p s m args meth c G S yX12_isBarred cX12_isBarred 3 (Option.some Jvm.ClassFile.FieldType.boolean)) (hr : f_X12_isBarred_75 S x0 x1 x2 = some rr) : ∀ ls : Array Slot, lv_has ls 3 [(0, va_rf (some x0)), (1, .int x1), (2, .int x2)] → V p l e (rmo 1 22 S) s m args below meth c G S S (QM below args s G S S (some (.int rr))) (F0 m 75 ls []) := by
  intro ls hl
  unfold f_X12_isBarred_75 at hr
  refine v_aload_n C (lv_at hl 0 rfl) rfl dX12_isBarred_75 ?_
  obtain ⟨v76, e76, hr⟩ := ob hr
  refine v_getR C fl_RX12_34 rfl e76 dX12_isBarred_76 ?_
  refine v_iload_n C (lv_at hl 2 rfl) rfl dX12_isBarred_79 ?_
  obtain ⟨v80, e80, hr⟩ := ob hr
  refine v_ldI_i C e80 dX12_isBarred_80 ?_
  refine v_iconst C (-1) (by decide) dX12_isBarred_81 ?_
  refine v_icmp_eq C 114 (by decide) dX12_isBarred_82 (fun c82 => ?_) (fun c82 => ?_)
  · rw [if_pos c82] at hr
    refine v_iconst C 0 (by decide) dX12_isBarred_114 ?_
    obtain rfl := os hr
    exact v_zret C rfl dX12_isBarred_115
  · rw [if_neg c82] at hr
    refine v_aload_n C (lv_at hl 0 rfl) rfl dX12_isBarred_85 ?_
    obtain ⟨v86, e86, hr⟩ := ob hr
    refine v_getR C fl_RX12_22 rfl e86 dX12_isBarred_86 ?_
    refine v_iload_n C (lv_at hl 1 rfl) rfl dX12_isBarred_89 ?_
    obtain ⟨v90, e90, hr⟩ := ob hr
    refine v_ldI_i C e90 dX12_isBarred_90 ?_
    refine v_iconst C (-1) (by decide) dX12_isBarred_91 ?_
    refine v_icmp_eq C 114 (by decide) dX12_isBarred_92 (fun c92 => ?_) (fun c92 => ?_)
    · rw [if_pos c92] at hr
      refine v_iconst C 0 (by decide) dX12_isBarred_114 ?_
      obtain rfl := os hr
      exact v_zret C rfl dX12_isBarred_115
    · rw [if_neg c92] at hr
      refine v_aload_n C (lv_at hl 0 rfl) rfl dX12_isBarred_95 ?_
      obtain ⟨v96, e96, hr⟩ := ob hr
      refine v_getR C fl_RX12_34 rfl e96 dX12_isBarred_96 ?_
      refine v_iload_n C (lv_at hl 2 rfl) rfl dX12_isBarred_99 ?_
      obtain ⟨v100, e100, hr⟩ := ob hr
      refine v_ldI_i C e100 dX12_isBarred_100 ?_
      refine v_aload_n C (lv_at hl 0 rfl) rfl dX12_isBarred_101 ?_
      obtain ⟨v102, e102, hr⟩ := ob hr
      refine v_getR C fl_RX12_22 rfl e102 dX12_isBarred_102 ?_
      refine v_iload_n C (lv_at hl 1 rfl) rfl dX12_isBarred_105 ?_
      obtain ⟨v106, e106, hr⟩ := ob hr
      refine v_ldI_i C e106 dX12_isBarred_106 ?_
      refine v_icmp_ge C 114 (by decide) dX12_isBarred_107 (fun c107 => ?_) (fun c107 => ?_)
      · rw [if_pos c107] at hr
        refine v_iconst C 0 (by decide) dX12_isBarred_114 ?_
        obtain rfl := os hr
        exact v_zret C rfl dX12_isBarred_115
      · rw [if_neg c107] at hr
        refine v_iconst C 1 (by decide) dX12_isBarred_110 ?_
        refine v_goto C 115 (by decide) dX12_isBarred_111 ?_
        obtain rfl := os hr
        exact v_zret C rfl dX12_isBarred_115
theorem k_X12_isBarred {l : Launch} {G : Ge} {S : St} {x0 : Nat} {x1 : Int32} {x2 : Int32} {rr : Int32} (hr : f_X12_isBarred S x0 x1 x2 = some rr) : Ct l G yX12_isBarred cX12_isBarred 3 (Option.some Jvm.ClassFile.FieldType.boolean) S [va_rf (some x0), .int x1, .int x2] (some (.int rr)) S 1 22 := by
  refine ct_of (by decide +kernel) (Nat.le_of_ble_eq_true rfl) ?_
  intro p e s m args below meth c C ls hl
  have hl : lv_has ls 3 [(0, va_rf (some x0)), (1, .int x1), (2, .int x2)] := hl
  unfold f_X12_isBarred at hr
  refine v_aload_n C (lv_at hl 0 rfl) rfl dX12_isBarred_0 ?_
  refine v_aload_n C (lv_at hl 0 rfl) rfl dX12_isBarred_1 ?_
  obtain ⟨v2, e2, hr⟩ := ob hr
  refine v_getR C fl_RX12_22 rfl e2 dX12_isBarred_2 ?_
  refine v_iload_n C (lv_at hl 1 rfl) rfl dX12_isBarred_5 ?_
  obtain ⟨v6, e6, hr⟩ := ob hr
  refine v_ldI_i C e6 dX12_isBarred_6 ?_
  refine v_aload_n C (lv_at hl 0 rfl) rfl dX12_isBarred_7 ?_
  obtain ⟨v8, e8, hr⟩ := ob hr
  refine v_getR C fl_RX12_22 rfl e8 dX12_isBarred_8 ?_
  refine v_iload_n C (lv_at hl 2 rfl) rfl dX12_isBarred_11 ?_
  obtain ⟨v12, e12, hr⟩ := ob hr
  refine v_ldI_i C e12 dX12_isBarred_12 ?_
  obtain ⟨b13, f13, hr⟩ := ob hr
  obtain ⟨g13, h13⟩ := rcv_n f13
  obtain ⟨v13, e13, hr⟩ := ob hr
  refine v_callV C (b := b13) h13 (by decide) rfl rfl (k_X12_isUnlike e13) cw_X12_isUnlike w_1805 w_1807 w_87 (show (parseMethodDescriptor (yX12_isUnlike).desc).map (fun d => d.parameters.length) = some 2 by decide +kernel) ⟨by decide, by decide⟩ (rest := []) (stk2 := [.int v13]) (by rw [g13]; rfl) rfl (Nat.le_of_ble_eq_true rfl) hl dX12_isBarred_13 ?_
  refine v_if_ne C 38 (by decide) dX12_isBarred_16 (fun c16 => ?_) (fun c16 => ?_)
  · rw [if_neg c16] at hr
    refine v_iconst C 1 (by decide) dX12_isBarred_38 ?_
    obtain rfl := os hr
    exact v_zret C rfl dX12_isBarred_39
  · rw [if_pos c16] at hr
    refine v_aload_n C (lv_at hl 0 rfl) rfl dX12_isBarred_19 ?_
    refine v_aload_n C (lv_at hl 0 rfl) rfl dX12_isBarred_20 ?_
    obtain ⟨v21, e21, hr⟩ := ob hr
    refine v_getR C fl_RX12_28 rfl e21 dX12_isBarred_21 ?_
    refine v_iload_n C (lv_at hl 1 rfl) rfl dX12_isBarred_24 ?_
    obtain ⟨v25, e25, hr⟩ := ob hr
    refine v_ldI_i C e25 dX12_isBarred_25 ?_
    refine v_aload_n C (lv_at hl 0 rfl) rfl dX12_isBarred_26 ?_
    obtain ⟨v27, e27, hr⟩ := ob hr
    refine v_getR C fl_RX12_28 rfl e27 dX12_isBarred_27 ?_
    refine v_iload_n C (lv_at hl 2 rfl) rfl dX12_isBarred_30 ?_
    obtain ⟨v31, e31, hr⟩ := ob hr
    refine v_ldI_i C e31 dX12_isBarred_31 ?_
    obtain ⟨b32, f32, hr⟩ := ob hr
    obtain ⟨g32, h32⟩ := rcv_n f32
    obtain ⟨v32, e32, hr⟩ := ob hr
    refine v_callV C (b := b32) h32 (by decide) rfl rfl (k_X12_isUnlike e32) cw_X12_isUnlike w_1805 w_1807 w_87 (show (parseMethodDescriptor (yX12_isUnlike).desc).map (fun d => d.parameters.length) = some 2 by decide +kernel) ⟨by decide, by decide⟩ (rest := []) (stk2 := [.int v32]) (by rw [g32]; rfl) rfl (Nat.le_of_ble_eq_true rfl) hl dX12_isBarred_32 ?_
    refine v_if_eq C 40 (by decide) dX12_isBarred_35 (fun c35 => ?_) (fun c35 => ?_)
    · rw [if_pos c35] at hr
      refine v_aload_n C (lv_at hl 0 rfl) rfl dX12_isBarred_40 ?_
      obtain ⟨v41, e41, hr⟩ := ob hr
      refine v_getR C fl_RX12_34 rfl e41 dX12_isBarred_41 ?_
      refine v_iload_n C (lv_at hl 1 rfl) rfl dX12_isBarred_44 ?_
      obtain ⟨v45, e45, hr⟩ := ob hr
      refine v_ldI_i C e45 dX12_isBarred_45 ?_
      refine v_iconst C (-1) (by decide) dX12_isBarred_46 ?_
      refine v_icmp_eq C 75 (by decide) dX12_isBarred_47 (fun c47 => ?_) (fun c47 => ?_)
      · rw [if_pos c47] at hr
        exact b_X12_isBarred_75 C hr _ (lv_sub hl [0, 1, 2] rfl)
      · rw [if_neg c47] at hr
        refine v_aload_n C (lv_at hl 0 rfl) rfl dX12_isBarred_50 ?_
        obtain ⟨v51, e51, hr⟩ := ob hr
        refine v_getR C fl_RX12_22 rfl e51 dX12_isBarred_51 ?_
        refine v_iload_n C (lv_at hl 2 rfl) rfl dX12_isBarred_54 ?_
        obtain ⟨v55, e55, hr⟩ := ob hr
        refine v_ldI_i C e55 dX12_isBarred_55 ?_
        refine v_iconst C (-1) (by decide) dX12_isBarred_56 ?_
        refine v_icmp_eq C 75 (by decide) dX12_isBarred_57 (fun c57 => ?_) (fun c57 => ?_)
        · rw [if_pos c57] at hr
          exact b_X12_isBarred_75 C hr _ (lv_sub hl [0, 1, 2] rfl)
        · rw [if_neg c57] at hr
          refine v_aload_n C (lv_at hl 0 rfl) rfl dX12_isBarred_60 ?_
          obtain ⟨v61, e61, hr⟩ := ob hr
          refine v_getR C fl_RX12_34 rfl e61 dX12_isBarred_61 ?_
          refine v_iload_n C (lv_at hl 1 rfl) rfl dX12_isBarred_64 ?_
          obtain ⟨v65, e65, hr⟩ := ob hr
          refine v_ldI_i C e65 dX12_isBarred_65 ?_
          refine v_aload_n C (lv_at hl 0 rfl) rfl dX12_isBarred_66 ?_
          obtain ⟨v67, e67, hr⟩ := ob hr
          refine v_getR C fl_RX12_22 rfl e67 dX12_isBarred_67 ?_
          refine v_iload_n C (lv_at hl 2 rfl) rfl dX12_isBarred_70 ?_
          obtain ⟨v71, e71, hr⟩ := ob hr
          refine v_ldI_i C e71 dX12_isBarred_71 ?_
          refine v_icmp_lt C 110 (by decide) dX12_isBarred_72 (fun c72 => ?_) (fun c72 => ?_)
          · rw [if_pos c72] at hr
            refine v_iconst C 1 (by decide) dX12_isBarred_110 ?_
            refine v_goto C 115 (by decide) dX12_isBarred_111 ?_
            obtain rfl := os hr
            exact v_zret C rfl dX12_isBarred_115
          · rw [if_neg c72] at hr
            exact b_X12_isBarred_75 C hr _ (lv_sub hl [0, 1, 2] rfl)
    · rw [if_neg c35] at hr
      refine v_iconst C 1 (by decide) dX12_isBarred_38 ?_
      obtain rfl := os hr
      exact v_zret C rfl dX12_isBarred_39
-- X12_isLike
def f_X12_isLike (S : St) (x0 : Nat) (x1 : Int32) (x2 : Int32) : Option Int32 :=
    (if x1 = (-1) then
    some 0
    else
    (if x1 = x2 then
    some 1
    else
    some 0))
theorem k_X12_isLike {l : Launch} {G : Ge} {S : St} {x0 : Nat} {x1 : Int32} {x2 : Int32} {rr : Int32} (hr : f_X12_isLike S x0 x1 x2 = some rr) : Ct l G yX12_isLike cX12_isLike 3 (Option.some Jvm.ClassFile.FieldType.boolean) S [va_rf (some x0), .int x1, .int x2] (some (.int rr)) S 0 0 := by
  refine ct_of (by decide +kernel) (Nat.le_of_ble_eq_true rfl) ?_
  intro p e s m args below meth c C ls hl
  have hl : lv_has ls 3 [(0, va_rf (some x0)), (1, .int x1), (2, .int x2)] := hl
  unfold f_X12_isLike at hr
  refine v_iload_n C (lv_at hl 1 rfl) rfl dX12_isLike_0 ?_
  refine v_iconst C (-1) (by decide) dX12_isLike_1 ?_
  refine v_icmp_eq C 14 (by decide) dX12_isLike_2 (fun c2 => ?_) (fun c2 => ?_)
  · rw [if_pos c2] at hr
    refine v_iconst C 0 (by decide) dX12_isLike_14 ?_
    obtain rfl := os hr
    exact v_zret C rfl dX12_isLike_15
  · rw [if_neg c2] at hr
    refine v_iload_n C (lv_at hl 1 rfl) rfl dX12_isLike_5 ?_
    refine v_iload_n C (lv_at hl 2 rfl) rfl dX12_isLike_6 ?_
    refine v_icmp_ne C 14 (by decide) dX12_isLike_7 (fun c7 => ?_) (fun c7 => ?_)
    · rw [if_neg c7] at hr
      refine v_iconst C 0 (by decide) dX12_isLike_14 ?_
      obtain rfl := os hr
      exact v_zret C rfl dX12_isLike_15
    · rw [if_pos c7] at hr
      refine v_iconst C 1 (by decide) dX12_isLike_10 ?_
      refine v_goto C 15 (by decide) dX12_isLike_11 ?_
      obtain rfl := os hr
      exact v_zret C rfl dX12_isLike_15
-- X12_isSet
def f_X12_isSet_32 : Nat → St → Nat → Int32 → Int32 → Option ((Int32 × St))
  | 0, _, _, _, _ => none
  | n + 1, S, x0, x1, x2 =>
    (getI S (some x0) 13 2).bind fun v34 =>
    (if v34 ≤ x2 then
    some (1, S)
    else
    (if ((x1 >>> (x2 &&& 31)) &&& 1) = 0 then
    f_X12_isSet_32 n S x0 x1 (x2 + 1)
    else
    (getI S (some x0) 13 63).bind fun v52 =>
    (if v52 = 8 then
    some (0, S)
    else
    (getR S (some x0) 13 60).bind fun v63 =>
    (getI S (some x0) 13 63).bind fun v67 =>
    (stI S v63 15 v67 x2).bind fun S71 =>
    (getI S71 (some x0) 13 63).bind fun v74 =>
    (putI S71 (some x0) 13 63 (v74 + 1)).bind fun S79 =>
    f_X12_isSet_32 n S79 x0 x1 (x2 + 1))))
def f_X12_isSet (S : St) (x0 : Nat) (x1 : Int32) : Option (Int32 × St) :=
    (putI S (some x0) 13 63 0).bind fun S2 =>
    (if x1 ≤ 0 then
    some (0, S2)
    else
    (getI S2 (some x0) 13 2).bind fun v10 =>
    (if (31 : Int32) ≤ v10 then
    f_X12_isSet_32 FU S2 x0 x1 0
    else
    (getI S2 (some x0) 13 2).bind fun v21 =>
    (if x1 < (1 <<< (v21 &&& 31)) then
    f_X12_isSet_32 FU S2 x0 x1 0
    else
    some (0, S2))))
theorem b_X12_isSet_32  {S0 S' : St} {rr : Int32} (C : Cx p s m args meth c G S0 yX12_isSet cX12_isSet 3 (Option.some Jvm.ClassFile.FieldType.boolean)) {o : ((Int32 × St))} (kR : ∀ (v : Int32) (Z : St), o = (v, Z) → rr = v ∧ S' = Z) : ∀ (n : Nat) {S : St} {x0 : Nat} {x1 : Int32} {x2 : Int32}, f_X12_isSet_32 n S x0 x1 x2 = some o → ∀ ls : Array Slot, lv_has ls 3 [(0, va_rf (some x0)), (1, .int x1), (2, .int x2)] → V p l e (rmo 0 0 S0) s m args below meth c G S0 S (QM below args s G S0 S' (some (.int rr))) (F0 m 32 ls []) := by
  intro n
  induction n with
  | zero => intro S x0 x1 x2 hr; cases hr
  | succ n ih =>
    intro S x0 x1 x2 hr ls hl
    unfold f_X12_isSet_32 at hr
    refine v_iload_n C (lv_at hl 2 rfl) rfl dX12_isSet_32 ?_
    refine v_aload_n C (lv_at hl 0 rfl) rfl dX12_isSet_33 ?_
    obtain ⟨v34, e34, hr⟩ := ob hr
    refine v_getI C fl_RX12_207 rfl e34 dX12_isSet_34 ?_
    refine v_icmp_ge C 88 (by decide) dX12_isSet_37 (fun c37 => ?_) (fun c37 => ?_)
    · rw [if_pos c37] at hr
      refine v_iconst C 1 (by decide) dX12_isSet_88 ?_
      obtain rfl := os hr
      obtain ⟨rfl, rfl⟩ := kR _ _ rfl
      exact v_zret C rfl dX12_isSet_89
    · rw [if_neg c37] at hr
      refine v_iload_n C (lv_at hl 1 rfl) rfl dX12_isSet_40 ?_
      refine v_iload_n C (lv_at hl 2 rfl) rfl dX12_isSet_41 ?_
      refine v_ishr C dX12_isSet_42 ?_
      refine v_iconst C 1 (by decide) dX12_isSet_43 ?_
      refine v_iand C dX12_isSet_44 ?_
      refine v_if_ne C 51 (by decide) dX12_isSet_45 (fun c45 => ?_) (fun c45 => ?_)
      · rw [if_neg c45] at hr
        refine v_aload_n C (lv_at hl 0 rfl) rfl dX12_isSet_51 ?_
        obtain ⟨v52, e52, hr⟩ := ob hr
        refine v_getI C fl_RX12_435 rfl e52 dX12_isSet_52 ?_
        refine v_bipush C 8 (by decide) dX12_isSet_55 ?_
        refine v_icmp_ne C 62 (by decide) dX12_isSet_57 (fun c57 => ?_) (fun c57 => ?_)
        · rw [if_neg c57] at hr
          refine v_aload_n C (lv_at hl 0 rfl) rfl dX12_isSet_62 ?_
          obtain ⟨v63, e63, hr⟩ := ob hr
          refine v_getR C fl_RX12_141 rfl e63 dX12_isSet_63 ?_
          refine v_aload_n C (lv_at hl 0 rfl) rfl dX12_isSet_66 ?_
          obtain ⟨v67, e67, hr⟩ := ob hr
          refine v_getI C fl_RX12_435 rfl e67 dX12_isSet_67 ?_
          refine v_iload_n C (lv_at hl 2 rfl) rfl dX12_isSet_70 ?_
          obtain ⟨S71, e71, hr⟩ := ob hr
          refine v_stI_i C e71 dX12_isSet_71 ?_
          refine v_aload_n C (lv_at hl 0 rfl) rfl dX12_isSet_72 ?_
          refine v_dup C (rf_cat _) dX12_isSet_73 ?_
          obtain ⟨v74, e74, hr⟩ := ob hr
          refine v_getI C fl_RX12_435 rfl e74 dX12_isSet_74 ?_
          refine v_iconst C 1 (by decide) dX12_isSet_77 ?_
          refine v_iadd C dX12_isSet_78 ?_
          obtain ⟨S79, e79, hr⟩ := ob hr
          refine v_putI C fl_RX12_435 (Or.inl rfl) rfl e79 dX12_isSet_79 ?_
          refine v_iinc C (x2 + 1) (k0 := 2) (lv' := [(2, .int (x2 + 1)), (0, va_rf (some x0)), (1, .int x1)]) hl rfl rfl (by decide) rfl dX12_isSet_82 (fun ls hl => ?_)
          refine v_goto C 32 (by decide) dX12_isSet_85 ?_
          exact ih hr _ (lv_sub hl [1, 2, 0] rfl)
        · rw [if_pos c57] at hr
          refine v_iconst C 0 (by decide) dX12_isSet_60 ?_
          obtain rfl := os hr
          obtain ⟨rfl, rfl⟩ := kR _ _ rfl
          exact v_zret C rfl dX12_isSet_61
      · rw [if_pos c45] at hr
        refine v_goto C 82 (by decide) dX12_isSet_48 ?_
        refine v_iinc C (x2 + 1) (k0 := 2) (lv' := [(2, .int (x2 + 1)), (0, va_rf (some x0)), (1, .int x1)]) hl rfl rfl (by decide) rfl dX12_isSet_82 (fun ls hl => ?_)
        refine v_goto C 32 (by decide) dX12_isSet_85 ?_
        exact ih hr _ (lv_sub hl [1, 2, 0] rfl)
theorem k_X12_isSet {l : Launch} {G : Ge} {S S' : St} {x0 : Nat} {x1 : Int32} {rr : Int32} (hr : f_X12_isSet S x0 x1 = some (rr, S')) : Ct l G yX12_isSet cX12_isSet 3 (Option.some Jvm.ClassFile.FieldType.boolean) S [va_rf (some x0), .int x1] (some (.int rr)) S' 0 0 := by
  refine ct_of (by decide +kernel) (Nat.le_of_ble_eq_true rfl) ?_
  intro p e s m args below meth c C ls hl
  have hl : lv_has ls 3 [(0, va_rf (some x0)), (1, .int x1)] := hl
  unfold f_X12_isSet at hr
  refine v_aload_n C (lv_at hl 0 rfl) rfl dX12_isSet_0 ?_
  refine v_iconst C 0 (by decide) dX12_isSet_1 ?_
  obtain ⟨S2, e2, hr⟩ := ob hr
  refine v_putI C fl_RX12_435 (Or.inl rfl) rfl e2 dX12_isSet_2 ?_
  refine v_iload_n C (lv_at hl 1 rfl) rfl dX12_isSet_5 ?_
  refine v_if_le C 28 (by decide) dX12_isSet_6 (fun c6 => ?_) (fun c6 => ?_)
  · rw [if_pos c6] at hr
    refine v_iconst C 0 (by decide) dX12_isSet_28 ?_
    obtain ⟨rfl, rfl⟩ := Prod.mk.inj (os hr)
    exact v_zret C rfl dX12_isSet_29
  · rw [if_neg c6] at hr
    refine v_aload_n C (lv_at hl 0 rfl) rfl dX12_isSet_9 ?_
    obtain ⟨v10, e10, hr⟩ := ob hr
    refine v_getI C fl_RX12_207 rfl e10 dX12_isSet_10 ?_
    refine v_bipush C 31 (by decide) dX12_isSet_13 ?_
    refine v_icmp_ge C 30 (by decide) dX12_isSet_15 (fun c15 => ?_) (fun c15 => ?_)
    · rw [if_pos c15] at hr
      refine v_iconst C 0 (by decide) dX12_isSet_30 ?_
      refine v_istore_n C (i := 2) (lv' := [(2, .int 0), (0, va_rf (some x0)), (1, .int x1)]) hl rfl (by decide) rfl dX12_isSet_31 (fun ls hl => ?_)
      exact b_X12_isSet_32 C (fun _ _ q => by cases q; exact ⟨rfl, rfl⟩) FU hr _ (lv_sub hl [1, 2, 0] rfl)
    · rw [if_neg c15] at hr
      refine v_iload_n C (lv_at hl 1 rfl) rfl dX12_isSet_18 ?_
      refine v_iconst C 1 (by decide) dX12_isSet_19 ?_
      refine v_aload_n C (lv_at hl 0 rfl) rfl dX12_isSet_20 ?_
      obtain ⟨v21, e21, hr⟩ := ob hr
      refine v_getI C fl_RX12_207 rfl e21 dX12_isSet_21 ?_
      refine v_ishl C dX12_isSet_24 ?_
      refine v_icmp_lt C 30 (by decide) dX12_isSet_25 (fun c25 => ?_) (fun c25 => ?_)
      · rw [if_pos c25] at hr
        refine v_iconst C 0 (by decide) dX12_isSet_30 ?_
        refine v_istore_n C (i := 2) (lv' := [(2, .int 0), (0, va_rf (some x0)), (1, .int x1)]) hl rfl (by decide) rfl dX12_isSet_31 (fun ls hl => ?_)
        exact b_X12_isSet_32 C (fun _ _ q => by cases q; exact ⟨rfl, rfl⟩) FU hr _ (lv_sub hl [1, 2, 0] rfl)
      · rw [if_neg c25] at hr
        refine v_iconst C 0 (by decide) dX12_isSet_28 ?_
        obtain ⟨rfl, rfl⟩ := Prod.mk.inj (os hr)
        exact v_zret C rfl dX12_isSet_29
-- X12_pointsOf
def f_X12_pointsOf_70 (S : St) (x0 : Nat) (x1 : Int32) (x2 : Int32) (t0 : Int32) (t1 : Int32) : Option Int32 :=
    (getR S (some x0) 13 9).bind fun v73 =>
    (ldI S v73 15 x1).bind fun v77 =>
    (getR S (some x0) 13 9).bind fun v79 =>
    (ldI S v79 15 x2).bind fun v83 =>
    (rcv S (some x0) 13).bind fun b84 =>
    (f_X12_isLike S b84 v77 v83).bind fun v84 =>
    (if v84 = 0 then
    some ((t1 + t0) + 0)
    else
    some ((t1 + t0) + 4))
def f_X12_pointsOf_45 (S : St) (x0 : Nat) (x1 : Int32) (x2 : Int32) (t0 : Int32) (t1 : Int32) : Option Int32 :=
    (getR S (some x0) 13 10).bind fun v48 =>
    (ldI S v48 15 x1).bind fun v52 =>
    (getR S (some x0) 13 10).bind fun v54 =>
    (ldI S v54 15 x2).bind fun v58 =>
    (rcv S (some x0) 13).bind fun b59 =>
    (f_X12_isLike S b59 v52 v58).bind fun v59 =>
    (if v59 = 0 then
    f_X12_pointsOf_70 S x0 x1 x2 0 (t1 + t0)
    else
    f_X12_pointsOf_70 S x0 x1 x2 1 (t1 + t0))
def f_X12_pointsOf_20 (S : St) (x0 : Nat) (x1 : Int32) (x2 : Int32) (t0 : Int32) : Option Int32 :=
    (getR S (some x0) 13 11).bind fun v22 =>
    (ldI S v22 15 x1).bind fun v26 =>
    (getR S (some x0) 13 11).bind fun v28 =>
    (ldI S v28 15 x2).bind fun v32 =>
    (rcv S (some x0) 13).bind fun b33 =>
    (f_X12_isLike S b33 v26 v32).bind fun v33 =>
    (if v33 = 0 then
    f_X12_pointsOf_45 S x0 x1 x2 0 t0
    else
    f_X12_pointsOf_45 S x0 x1 x2 6 t0)
def f_X12_pointsOf (S : St) (x0 : Nat) (x1 : Int32) (x2 : Int32) : Option Int32 :=
    (getR S (some x0) 13 8).bind fun v1 =>
    (ldI S v1 15 x1).bind fun v5 =>
    (getR S (some x0) 13 8).bind fun v7 =>
    (ldI S v7 15 x2).bind fun v11 =>
    (if v5 = v11 then
    f_X12_pointsOf_20 S x0 x1 x2 3
    else
    f_X12_pointsOf_20 S x0 x1 x2 0)
theorem b_X12_pointsOf_70  {S : St} {rr : Int32} {x0 : Nat} {x1 : Int32} {x2 : Int32} {t0 : Int32} {t1 : Int32} (C : Cx p s m args meth c G S yX12_pointsOf cX12_pointsOf 3 (Option.some Jvm.ClassFile.FieldType.int)) (hr : f_X12_pointsOf_70 S x0 x1 x2 t0 t1 = some rr) : ∀ ls : Array Slot, lv_has ls 3 [(0, va_rf (some x0)), (1, .int x1), (2, .int x2)] → V p l e (rmo 1 22 S) s m args below meth c G S S (QM below args s G S S (some (.int rr))) (F0 m 70 ls [.int t0, .int t1]) := by
  intro ls hl
  unfold f_X12_pointsOf_70 at hr
  refine v_iadd C dX12_pointsOf_70 ?_
  refine v_aload_n C (lv_at hl 0 rfl) rfl dX12_pointsOf_71 ?_
  refine v_aload_n C (lv_at hl 0 rfl) rfl dX12_pointsOf_72 ?_
  obtain ⟨v73, e73, hr⟩ := ob hr
  refine v_getR C fl_RX12_22 rfl e73 dX12_pointsOf_73 ?_
  refine v_iload_n C (lv_at hl 1 rfl) rfl dX12_pointsOf_76 ?_
  obtain ⟨v77, e77, hr⟩ := ob hr
  refine v_ldI_i C e77 dX12_pointsOf_77 ?_
  refine v_aload_n C (lv_at hl 0 rfl) rfl dX12_pointsOf_78 ?_
  obtain ⟨v79, e79, hr⟩ := ob hr
  refine v_getR C fl_RX12_22 rfl e79 dX12_pointsOf_79 ?_
  refine v_iload_n C (lv_at hl 2 rfl) rfl dX12_pointsOf_82 ?_
  obtain ⟨v83, e83, hr⟩ := ob hr
  refine v_ldI_i C e83 dX12_pointsOf_83 ?_
  obtain ⟨b84, f84, hr⟩ := ob hr
  obtain ⟨g84, h84⟩ := rcv_n f84
  obtain ⟨v84, e84, hr⟩ := ob hr
  refine v_callV C (b := b84) h84 (by decide) rfl rfl (k_X12_isLike e84) cw_X12_isLike w_1813 w_1815 w_89 (show (parseMethodDescriptor (yX12_isLike).desc).map (fun d => d.parameters.length) = some 2 by decide +kernel) ⟨by decide, by decide⟩ (rest := [.int (t1 + t0)]) (stk2 := [.int v84, .int (t1 + t0)]) (by rw [g84]; rfl) rfl (Nat.le_of_ble_eq_true rfl) hl dX12_pointsOf_84 ?_
  refine v_if_eq C 94 (by decide) dX12_pointsOf_87 (fun c87 => ?_) (fun c87 => ?_)
  · rw [if_pos c87] at hr
    refine v_iconst C 0 (by decide) dX12_pointsOf_94 ?_
    refine v_iadd C dX12_pointsOf_95 ?_
    obtain rfl := os hr
    exact v_iret C dX12_pointsOf_96
  · rw [if_neg c87] at hr
    refine v_iconst C 4 (by decide) dX12_pointsOf_90 ?_
    refine v_goto C 95 (by decide) dX12_pointsOf_91 ?_
    refine v_iadd C dX12_pointsOf_95 ?_
    obtain rfl := os hr
    exact v_iret C dX12_pointsOf_96
theorem b_X12_pointsOf_45  {S : St} {rr : Int32} {x0 : Nat} {x1 : Int32} {x2 : Int32} {t0 : Int32} {t1 : Int32} (C : Cx p s m args meth c G S yX12_pointsOf cX12_pointsOf 3 (Option.some Jvm.ClassFile.FieldType.int)) (hr : f_X12_pointsOf_45 S x0 x1 x2 t0 t1 = some rr) : ∀ ls : Array Slot, lv_has ls 3 [(0, va_rf (some x0)), (1, .int x1), (2, .int x2)] → V p l e (rmo 1 22 S) s m args below meth c G S S (QM below args s G S S (some (.int rr))) (F0 m 45 ls [.int t0, .int t1]) := by
  intro ls hl
  unfold f_X12_pointsOf_45 at hr
  refine v_iadd C dX12_pointsOf_45 ?_
  refine v_aload_n C (lv_at hl 0 rfl) rfl dX12_pointsOf_46 ?_
  refine v_aload_n C (lv_at hl 0 rfl) rfl dX12_pointsOf_47 ?_
  obtain ⟨v48, e48, hr⟩ := ob hr
  refine v_getR C fl_RX12_25 rfl e48 dX12_pointsOf_48 ?_
  refine v_iload_n C (lv_at hl 1 rfl) rfl dX12_pointsOf_51 ?_
  obtain ⟨v52, e52, hr⟩ := ob hr
  refine v_ldI_i C e52 dX12_pointsOf_52 ?_
  refine v_aload_n C (lv_at hl 0 rfl) rfl dX12_pointsOf_53 ?_
  obtain ⟨v54, e54, hr⟩ := ob hr
  refine v_getR C fl_RX12_25 rfl e54 dX12_pointsOf_54 ?_
  refine v_iload_n C (lv_at hl 2 rfl) rfl dX12_pointsOf_57 ?_
  obtain ⟨v58, e58, hr⟩ := ob hr
  refine v_ldI_i C e58 dX12_pointsOf_58 ?_
  obtain ⟨b59, f59, hr⟩ := ob hr
  obtain ⟨g59, h59⟩ := rcv_n f59
  obtain ⟨v59, e59, hr⟩ := ob hr
  refine v_callV C (b := b59) h59 (by decide) rfl rfl (k_X12_isLike e59) cw_X12_isLike w_1813 w_1815 w_89 (show (parseMethodDescriptor (yX12_isLike).desc).map (fun d => d.parameters.length) = some 2 by decide +kernel) ⟨by decide, by decide⟩ (rest := [.int (t1 + t0)]) (stk2 := [.int v59, .int (t1 + t0)]) (by rw [g59]; rfl) rfl (Nat.le_of_ble_eq_true rfl) hl dX12_pointsOf_59 ?_
  refine v_if_eq C 69 (by decide) dX12_pointsOf_62 (fun c62 => ?_) (fun c62 => ?_)
  · rw [if_pos c62] at hr
    refine v_iconst C 0 (by decide) dX12_pointsOf_69 ?_
    exact b_X12_pointsOf_70 C hr _ (lv_sub hl [0, 1, 2] rfl)
  · rw [if_neg c62] at hr
    refine v_iconst C 1 (by decide) dX12_pointsOf_65 ?_
    refine v_goto C 70 (by decide) dX12_pointsOf_66 ?_
    exact b_X12_pointsOf_70 C hr _ (lv_sub hl [0, 1, 2] rfl)
theorem b_X12_pointsOf_20  {S : St} {rr : Int32} {x0 : Nat} {x1 : Int32} {x2 : Int32} {t0 : Int32} (C : Cx p s m args meth c G S yX12_pointsOf cX12_pointsOf 3 (Option.some Jvm.ClassFile.FieldType.int)) (hr : f_X12_pointsOf_20 S x0 x1 x2 t0 = some rr) : ∀ ls : Array Slot, lv_has ls 3 [(0, va_rf (some x0)), (1, .int x1), (2, .int x2)] → V p l e (rmo 1 22 S) s m args below meth c G S S (QM below args s G S S (some (.int rr))) (F0 m 20 ls [.int t0]) := by
  intro ls hl
  unfold f_X12_pointsOf_20 at hr
  refine v_aload_n C (lv_at hl 0 rfl) rfl dX12_pointsOf_20 ?_
  refine v_aload_n C (lv_at hl 0 rfl) rfl dX12_pointsOf_21 ?_
  obtain ⟨v22, e22, hr⟩ := ob hr
  refine v_getR C fl_RX12_28 rfl e22 dX12_pointsOf_22 ?_
  refine v_iload_n C (lv_at hl 1 rfl) rfl dX12_pointsOf_25 ?_
  obtain ⟨v26, e26, hr⟩ := ob hr
  refine v_ldI_i C e26 dX12_pointsOf_26 ?_
  refine v_aload_n C (lv_at hl 0 rfl) rfl dX12_pointsOf_27 ?_
  obtain ⟨v28, e28, hr⟩ := ob hr
  refine v_getR C fl_RX12_28 rfl e28 dX12_pointsOf_28 ?_
  refine v_iload_n C (lv_at hl 2 rfl) rfl dX12_pointsOf_31 ?_
  obtain ⟨v32, e32, hr⟩ := ob hr
  refine v_ldI_i C e32 dX12_pointsOf_32 ?_
  obtain ⟨b33, f33, hr⟩ := ob hr
  obtain ⟨g33, h33⟩ := rcv_n f33
  obtain ⟨v33, e33, hr⟩ := ob hr
  refine v_callV C (b := b33) h33 (by decide) rfl rfl (k_X12_isLike e33) cw_X12_isLike w_1813 w_1815 w_89 (show (parseMethodDescriptor (yX12_isLike).desc).map (fun d => d.parameters.length) = some 2 by decide +kernel) ⟨by decide, by decide⟩ (rest := [.int t0]) (stk2 := [.int v33, .int t0]) (by rw [g33]; rfl) rfl (Nat.le_of_ble_eq_true rfl) hl dX12_pointsOf_33 ?_
  refine v_if_eq C 44 (by decide) dX12_pointsOf_36 (fun c36 => ?_) (fun c36 => ?_)
  · rw [if_pos c36] at hr
    refine v_iconst C 0 (by decide) dX12_pointsOf_44 ?_
    exact b_X12_pointsOf_45 C hr _ (lv_sub hl [0, 1, 2] rfl)
  · rw [if_neg c36] at hr
    refine v_bipush C 6 (by decide) dX12_pointsOf_39 ?_
    refine v_goto C 45 (by decide) dX12_pointsOf_41 ?_
    exact b_X12_pointsOf_45 C hr _ (lv_sub hl [0, 1, 2] rfl)
theorem k_X12_pointsOf {l : Launch} {G : Ge} {S : St} {x0 : Nat} {x1 : Int32} {x2 : Int32} {rr : Int32} (hr : f_X12_pointsOf S x0 x1 x2 = some rr) : Ct l G yX12_pointsOf cX12_pointsOf 3 (Option.some Jvm.ClassFile.FieldType.int) S [va_rf (some x0), .int x1, .int x2] (some (.int rr)) S 1 22 := by
  refine ct_of (by decide +kernel) (Nat.le_of_ble_eq_true rfl) ?_
  intro p e s m args below meth c C ls hl
  have hl : lv_has ls 3 [(0, va_rf (some x0)), (1, .int x1), (2, .int x2)] := hl
  unfold f_X12_pointsOf at hr
  refine v_aload_n C (lv_at hl 0 rfl) rfl dX12_pointsOf_0 ?_
  obtain ⟨v1, e1, hr⟩ := ob hr
  refine v_getR C fl_RX12_19 rfl e1 dX12_pointsOf_1 ?_
  refine v_iload_n C (lv_at hl 1 rfl) rfl dX12_pointsOf_4 ?_
  obtain ⟨v5, e5, hr⟩ := ob hr
  refine v_ldI_i C e5 dX12_pointsOf_5 ?_
  refine v_aload_n C (lv_at hl 0 rfl) rfl dX12_pointsOf_6 ?_
  obtain ⟨v7, e7, hr⟩ := ob hr
  refine v_getR C fl_RX12_19 rfl e7 dX12_pointsOf_7 ?_
  refine v_iload_n C (lv_at hl 2 rfl) rfl dX12_pointsOf_10 ?_
  obtain ⟨v11, e11, hr⟩ := ob hr
  refine v_ldI_i C e11 dX12_pointsOf_11 ?_
  refine v_icmp_ne C 19 (by decide) dX12_pointsOf_12 (fun c12 => ?_) (fun c12 => ?_)
  · rw [if_neg c12] at hr
    refine v_iconst C 0 (by decide) dX12_pointsOf_19 ?_
    exact b_X12_pointsOf_20 C hr _ (lv_sub hl [0, 1, 2] rfl)
  · rw [if_pos c12] at hr
    refine v_iconst C 3 (by decide) dX12_pointsOf_15 ?_
    refine v_goto C 20 (by decide) dX12_pointsOf_16 ?_
    exact b_X12_pointsOf_20 C hr _ (lv_sub hl [0, 1, 2] rfl)
-- X12_joins
def f_X12_joins_83 (ru : St → Nat → Int32 → Int32 → Int32 → Option St) (rec : St → Nat → Int32 → Int32 → Int32 → Int32 → Int32 → Int32 → Int32 → Option (Nat × Int32 × Int32 × Int32 × Int32 × Int32 × Int32 × St)) (S : St) (x0 : Nat) (x1 : Int32) (x2 : Int32) (x3 : Int32) (x4 : Int32) (x6 : Int32) (x7 : Int32) (t0 : Int32) : Option (Nat × Int32 × Int32 × Int32 × Int32 × Int32 × Int32 × St) :=
    (getR S (some x0) 13 60).bind fun v89 =>
    (ldI S v89 15 x7).bind fun v94 =>
    (getR S (some x0) 13 60).bind fun v96 =>
    (ldI S v96 15 x1).bind fun v100 =>
    (rcv S (some x0) 13).bind fun b101 =>
    (f_X12_pointsOf S b101 v94 v100).bind fun v101 =>
    rec S x0 x1 x2 x3 x4 t0 (x6 + (v101 - 5)) (x7 + 1)
def f_X12_joins_82 (ru : St → Nat → Int32 → Int32 → Int32 → Option St) (rec : St → Nat → Int32 → Int32 → Int32 → Int32 → Int32 → Int32 → Int32 → Option (Nat × Int32 × Int32 × Int32 × Int32 × Int32 × Int32 × St)) (S : St) (x0 : Nat) (x1 : Int32) (x2 : Int32) (x3 : Int32) (x4 : Int32) (x6 : Int32) (x7 : Int32) : Option (Nat × Int32 × Int32 × Int32 × Int32 × Int32 × Int32 × St) :=
    f_X12_joins_83 ru (rec) S x0 x1 x2 x3 x4 x6 x7 0
def f_X12_joins_32 (ru : St → Nat → Int32 → Int32 → Int32 → Option St) : Nat → St → Nat → Int32 → Int32 → Int32 → Int32 → Int32 → Int32 → Int32 → Option (Nat × Int32 × Int32 × Int32 × Int32 × Int32 × Int32 × St)
  | 0, _, _, _, _, _, _, _, _, _ => none
  | n + 1, S, x0, x1, x2, x3, x4, x5, x6, x7 =>
    (if x1 ≤ x7 then
    some (x0, x1, x2, x3, x4, x5, x6, S)
    else
    (getR S (some x0) 13 61).bind fun v39 =>
    (ldI S v39 15 x7).bind fun v44 =>
    (if v44 = x4 then
    (if x5 = 0 then
    f_X12_joins_82 ru (f_X12_joins_32 ru n) S x0 x1 x2 x3 x4 x6 x7
    else
    (getR S (some x0) 13 60).bind fun v60 =>
    (ldI S v60 15 x7).bind fun v65 =>
    (getR S (some x0) 13 60).bind fun v67 =>
    (ldI S v67 15 x1).bind fun v71 =>
    (rcv S (some x0) 13).bind fun b72 =>
    (f_X12_isBarred S b72 v65 v71).bind fun v72 =>
    (if v72 = 0 then
    f_X12_joins_83 ru (f_X12_joins_32 ru n) S x0 x1 x2 x3 x4 x6 x7 1
    else
    f_X12_joins_82 ru (f_X12_joins_32 ru n) S x0 x1 x2 x3 x4 x6 x7))
    else
    f_X12_joins_32 ru n S x0 x1 x2 x3 x4 x5 x6 (x7 + 1)))
def f_X12_joins_148 (ru : St → Nat → Int32 → Int32 → Int32 → Option St) (rec : St → Nat → Int32 → Int32 → Int32 → Int32 → Option (St)) (S : St) (x0 : Nat) (x1 : Int32) (x2 : Int32) (x3 : Int32) (x4 : Int32) (x6 : Int32) (t0 : Int32) (t1 : Int32) (t2 : Option Nat) : Option (St) :=
    (rcv S t2 13).bind fun b152 =>
    (ru S b152 t1 t0 (x3 + x6)).bind fun S152 =>
    rec S152 x0 x1 x2 x3 (x4 + 1)
def f_X12_joins_17 (ru : St → Nat → Int32 → Int32 → Int32 → Option St) : Nat → St → Nat → Int32 → Int32 → Int32 → Int32 → Option (St)
  | 0, _, _, _, _, _, _ => none
  | n + 1, S, x0, x1, x2, x3, x4 =>
    (if x2 < x4 then
    some S
    else
    (f_X12_joins_32 ru FU S x0 x1 x2 x3 x4 1 0 0).bind fun (x0, x1_32, x2_32, x3_32, x4_32, x5_32, x6_32, S_32) => (if x5_32 = 0 then
    f_X12_joins_17 ru n S_32 x0 x1_32 x2_32 x3_32 (x4_32 + 1)
    else
    (getR S_32 (some x0) 13 61).bind fun v124 =>
    (stI S_32 v124 15 x1_32 x4_32).bind fun S130 =>
    (if x4_32 = x2_32 then
    f_X12_joins_148 ru (f_X12_joins_17 ru n) S130 x0 x1_32 x2_32 x3_32 x4_32 x6_32 (x2_32 + 1) (x1_32 + 1) (some x0)
    else
    f_X12_joins_148 ru (f_X12_joins_17 ru n) S130 x0 x1_32 x2_32 x3_32 x4_32 x6_32 x2_32 (x1_32 + 1) (some x0))))
def f_X12_joins (ru : St → Nat → Int32 → Int32 → Int32 → Option St) (S : St) (x0 : Nat) (x1 : Int32) (x2 : Int32) (x3 : Int32) : Option St :=
    (getI S (some x0) 13 63).bind fun v2 =>
    (if x1 = v2 then
    (rcv S (some x0) 13).bind fun b10 =>
    (f_X12_counts S b10 x3).bind fun S10 =>
    some S10
    else
    f_X12_joins_17 ru FU S x0 x1 x2 x3 0)
def r_X12_joins : Nat → St → Nat → Int32 → Int32 → Int32 → Option St
  | 0, _, _, _, _, _ => none
  | d + 1, S, x0, x1, x2, x3 => f_X12_joins (r_X12_joins d) S x0 x1 x2 x3
def F_X12_joins (S : St) (x0 : Nat) (x1 : Int32) (x2 : Int32) (x3 : Int32) : Option St := r_X12_joins 32 S x0 x1 x2 x3
theorem b_X12_joins_83 {ru : St → Nat → Int32 → Int32 → Int32 → Option St} {fru lru : Nat} (hfe : 2 ≤ fru) (hle : 44 ≤ lru) (hru : ∀ {S S' : St} {x0 : Nat} {x1 : Int32} {x2 : Int32} {x3 : Int32}, ru S x0 x1 x2 x3 = some S' → Ct l G yX12_joins cX12_joins 8 (Option.none : Option Jvm.ClassFile.FieldType) S [va_rf (some x0), .int x1, .int x2, .int x3] none S' fru lru)  {S0 S S' : St} {x0 : Nat} {x1 : Int32} {x2 : Int32} {x3 : Int32} {x4 : Int32} {x6 : Int32} {x7 : Int32} {t0 : Int32} (C : Cx p s m args meth c G S0 yX12_joins cX12_joins 8 (Option.none : Option Jvm.ClassFile.FieldType)) {o : (Nat × Int32 × Int32 × Int32 × Int32 × Int32 × Int32 × St)} {rec : St → Nat → Int32 → Int32 → Int32 → Int32 → Int32 → Int32 → Int32 → Option (Nat × Int32 × Int32 × Int32 × Int32 × Int32 × Int32 × St)} (kX115 : ∀ {x0 : Nat} {x1 : Int32} {x2 : Int32} {x3 : Int32} {x4 : Int32} {x5 : Int32} {x6 : Int32} {Z : St}, o = (x0, x1, x2, x3, x4, x5, x6, Z) → ∀ ls : Array Slot, lv_has ls 8 [(0, va_rf (some x0)), (1, .int x1), (2, .int x2), (3, .int x3), (4, .int x4), (5, .int x5), (6, .int x6)] → V p l e (rmo (fru + 1) (lru + 27) S0) s m args below meth c G S0 Z (QM below args s G S0 S' none) (F0 m 115 ls [])) (ihk : ∀ {S : St} {x0 : Nat} {x1 : Int32} {x2 : Int32} {x3 : Int32} {x4 : Int32} {x5 : Int32} {x6 : Int32} {x7 : Int32}, rec S x0 x1 x2 x3 x4 x5 x6 x7 = some o → ∀ ls : Array Slot, lv_has ls 8 [(0, va_rf (some x0)), (1, .int x1), (2, .int x2), (3, .int x3), (4, .int x4), (5, .int x5), (6, .int x6), (7, .int x7)] → V p l e (rmo (fru + 1) (lru + 27) S0) s m args below meth c G S0 S (QM below args s G S0 S' none) (F0 m 32 ls [])) (hr : f_X12_joins_83 ru rec S x0 x1 x2 x3 x4 x6 x7 t0 = some o) : ∀ ls : Array Slot, lv_has ls 8 [(0, va_rf (some x0)), (1, .int x1), (2, .int x2), (3, .int x3), (4, .int x4), (6, .int x6), (7, .int x7)] → V p l e (rmo (fru + 1) (lru + 27) S0) s m args below meth c G S0 S (QM below args s G S0 S' none) (F0 m 83 ls [.int t0]) := by
  intro ls hl
  unfold f_X12_joins_83 at hr
  refine v_istore C (i := 5) (lv' := [(5, .int t0), (0, va_rf (some x0)), (1, .int x1), (2, .int x2), (3, .int x3), (4, .int x4), (6, .int x6), (7, .int x7)]) hl (by decide) rfl dX12_joins_83 (fun ls hl => ?_)
  refine v_iload C (lv_at hl 6 rfl) dX12_joins_85 ?_
  refine v_aload_n C (lv_at hl 1 rfl) rfl dX12_joins_87 ?_
  refine v_aload_n C (lv_at hl 1 rfl) rfl dX12_joins_88 ?_
  obtain ⟨v89, e89, hr⟩ := ob hr
  refine v_getR C fl_RX12_141 rfl e89 dX12_joins_89 ?_
  refine v_iload C (lv_at hl 7 rfl) dX12_joins_92 ?_
  obtain ⟨v94, e94, hr⟩ := ob hr
  refine v_ldI_i C e94 dX12_joins_94 ?_
  refine v_aload_n C (lv_at hl 1 rfl) rfl dX12_joins_95 ?_
  obtain ⟨v96, e96, hr⟩ := ob hr
  refine v_getR C fl_RX12_141 rfl e96 dX12_joins_96 ?_
  refine v_iload_n C (lv_at hl 2 rfl) rfl dX12_joins_99 ?_
  obtain ⟨v100, e100, hr⟩ := ob hr
  refine v_ldI_i C e100 dX12_joins_100 ?_
  obtain ⟨b101, f101, hr⟩ := ob hr
  obtain ⟨g101, h101⟩ := rcv_n f101
  obtain ⟨v101, e101, hr⟩ := ob hr
  refine v_callV C (b := b101) h101 (by decide) rfl rfl (k_X12_pointsOf e101) cw_X12_pointsOf w_1809 w_1811 w_88 (show (parseMethodDescriptor (yX12_pointsOf).desc).map (fun d => d.parameters.length) = some 2 by decide +kernel) ⟨by omega, by omega⟩ (rest := [.int x6]) (stk2 := [.int v101, .int x6]) (by rw [g101]; rfl) rfl (Nat.le_of_ble_eq_true rfl) hl dX12_joins_101 ?_
  refine v_iconst C 5 (by decide) dX12_joins_104 ?_
  refine v_isub C dX12_joins_105 ?_
  refine v_iadd C dX12_joins_106 ?_
  refine v_istore C (i := 6) (lv' := [(6, .int (x6 + (v101 - 5))), (5, .int t0), (0, va_rf (some x0)), (1, .int x1), (2, .int x2), (3, .int x3), (4, .int x4), (7, .int x7)]) hl (by decide) rfl dX12_joins_107 (fun ls hl => ?_)
  refine v_iinc C (x7 + 1) (k0 := 7) (lv' := [(7, .int (x7 + 1)), (6, .int (x6 + (v101 - 5))), (5, .int t0), (0, va_rf (some x0)), (1, .int x1), (2, .int x2), (3, .int x3), (4, .int x4)]) hl rfl rfl (by decide) rfl dX12_joins_109 (fun ls hl => ?_)
  refine v_goto C 32 (by decide) dX12_joins_112 ?_
  exact ihk hr _ (lv_sub hl [3, 4, 5, 6, 7, 2, 1, 0] rfl)
theorem b_X12_joins_82 {ru : St → Nat → Int32 → Int32 → Int32 → Option St} {fru lru : Nat} (hfe : 2 ≤ fru) (hle : 44 ≤ lru) (hru : ∀ {S S' : St} {x0 : Nat} {x1 : Int32} {x2 : Int32} {x3 : Int32}, ru S x0 x1 x2 x3 = some S' → Ct l G yX12_joins cX12_joins 8 (Option.none : Option Jvm.ClassFile.FieldType) S [va_rf (some x0), .int x1, .int x2, .int x3] none S' fru lru)  {S0 S S' : St} {x0 : Nat} {x1 : Int32} {x2 : Int32} {x3 : Int32} {x4 : Int32} {x6 : Int32} {x7 : Int32} (C : Cx p s m args meth c G S0 yX12_joins cX12_joins 8 (Option.none : Option Jvm.ClassFile.FieldType)) {o : (Nat × Int32 × Int32 × Int32 × Int32 × Int32 × Int32 × St)} {rec : St → Nat → Int32 → Int32 → Int32 → Int32 → Int32 → Int32 → Int32 → Option (Nat × Int32 × Int32 × Int32 × Int32 × Int32 × Int32 × St)} (kX115 : ∀ {x0 : Nat} {x1 : Int32} {x2 : Int32} {x3 : Int32} {x4 : Int32} {x5 : Int32} {x6 : Int32} {Z : St}, o = (x0, x1, x2, x3, x4, x5, x6, Z) → ∀ ls : Array Slot, lv_has ls 8 [(0, va_rf (some x0)), (1, .int x1), (2, .int x2), (3, .int x3), (4, .int x4), (5, .int x5), (6, .int x6)] → V p l e (rmo (fru + 1) (lru + 27) S0) s m args below meth c G S0 Z (QM below args s G S0 S' none) (F0 m 115 ls [])) (ihk : ∀ {S : St} {x0 : Nat} {x1 : Int32} {x2 : Int32} {x3 : Int32} {x4 : Int32} {x5 : Int32} {x6 : Int32} {x7 : Int32}, rec S x0 x1 x2 x3 x4 x5 x6 x7 = some o → ∀ ls : Array Slot, lv_has ls 8 [(0, va_rf (some x0)), (1, .int x1), (2, .int x2), (3, .int x3), (4, .int x4), (5, .int x5), (6, .int x6), (7, .int x7)] → V p l e (rmo (fru + 1) (lru + 27) S0) s m args below meth c G S0 S (QM below args s G S0 S' none) (F0 m 32 ls [])) (hr : f_X12_joins_82 ru rec S x0 x1 x2 x3 x4 x6 x7 = some o) : ∀ ls : Array Slot, lv_has ls 8 [(0, va_rf (some x0)), (1, .int x1), (2, .int x2), (3, .int x3), (4, .int x4), (6, .int x6), (7, .int x7)] → V p l e (rmo (fru + 1) (lru + 27) S0) s m args below meth c G S0 S (QM below args s G S0 S' none) (F0 m 82 ls []) := by
  intro ls hl
  unfold f_X12_joins_82 at hr
  refine v_iconst C 0 (by decide) dX12_joins_82 ?_
  exact b_X12_joins_83 hfe hle (@hru) C (@kX115) (@ihk) hr _ (lv_sub hl [0, 1, 2, 3, 4, 5, 6] rfl)
theorem b_X12_joins_32 {ru : St → Nat → Int32 → Int32 → Int32 → Option St} {fru lru : Nat} (hfe : 2 ≤ fru) (hle : 44 ≤ lru) (hru : ∀ {S S' : St} {x0 : Nat} {x1 : Int32} {x2 : Int32} {x3 : Int32}, ru S x0 x1 x2 x3 = some S' → Ct l G yX12_joins cX12_joins 8 (Option.none : Option Jvm.ClassFile.FieldType) S [va_rf (some x0), .int x1, .int x2, .int x3] none S' fru lru)  {S0 S' : St} (C : Cx p s m args meth c G S0 yX12_joins cX12_joins 8 (Option.none : Option Jvm.ClassFile.FieldType)) {o : (Nat × Int32 × Int32 × Int32 × Int32 × Int32 × Int32 × St)} (kX115 : ∀ {x0 : Nat} {x1 : Int32} {x2 : Int32} {x3 : Int32} {x4 : Int32} {x5 : Int32} {x6 : Int32} {Z : St}, o = (x0, x1, x2, x3, x4, x5, x6, Z) → ∀ ls : Array Slot, lv_has ls 8 [(0, va_rf (some x0)), (1, .int x1), (2, .int x2), (3, .int x3), (4, .int x4), (5, .int x5), (6, .int x6)] → V p l e (rmo (fru + 1) (lru + 27) S0) s m args below meth c G S0 Z (QM below args s G S0 S' none) (F0 m 115 ls [])) : ∀ (n : Nat) {S : St} {x0 : Nat} {x1 : Int32} {x2 : Int32} {x3 : Int32} {x4 : Int32} {x5 : Int32} {x6 : Int32} {x7 : Int32}, f_X12_joins_32 ru n S x0 x1 x2 x3 x4 x5 x6 x7 = some o → ∀ ls : Array Slot, lv_has ls 8 [(0, va_rf (some x0)), (1, .int x1), (2, .int x2), (3, .int x3), (4, .int x4), (5, .int x5), (6, .int x6), (7, .int x7)] → V p l e (rmo (fru + 1) (lru + 27) S0) s m args below meth c G S0 S (QM below args s G S0 S' none) (F0 m 32 ls []) := by
  intro n
  induction n with
  | zero => intro S x0 x1 x2 x3 x4 x5 x6 x7 hr; cases hr
  | succ n ih =>
    intro S x0 x1 x2 x3 x4 x5 x6 x7 hr ls hl
    unfold f_X12_joins_32 at hr
    refine v_iload C (lv_at hl 7 rfl) dX12_joins_32 ?_
    refine v_iload_n C (lv_at hl 1 rfl) rfl dX12_joins_34 ?_
    refine v_icmp_ge C 115 (by decide) dX12_joins_35 (fun c35 => ?_) (fun c35 => ?_)
    · rw [if_pos c35] at hr
      obtain rfl := os hr
      exact kX115 rfl _ (lv_sub hl [0, 1, 2, 3, 4, 5, 6] rfl)
    · rw [if_neg c35] at hr
      refine v_aload_n C (lv_at hl 0 rfl) rfl dX12_joins_38 ?_
      obtain ⟨v39, e39, hr⟩ := ob hr
      refine v_getR C fl_RX12_144 rfl e39 dX12_joins_39 ?_
      refine v_iload C (lv_at hl 7 rfl) dX12_joins_42 ?_
      obtain ⟨v44, e44, hr⟩ := ob hr
      refine v_ldI_i C e44 dX12_joins_44 ?_
      refine v_iload C (lv_at hl 4 rfl) dX12_joins_45 ?_
      refine v_icmp_eq C 53 (by decide) dX12_joins_47 (fun c47 => ?_) (fun c47 => ?_)
      · rw [if_pos c47] at hr
        refine v_iload C (lv_at hl 5 rfl) dX12_joins_53 ?_
        refine v_if_eq C 82 (by decide) dX12_joins_55 (fun c55 => ?_) (fun c55 => ?_)
        · rw [if_pos c55] at hr
          exact b_X12_joins_82 hfe hle (@hru) C (@kX115) (@ih) hr _ (lv_sub hl [0, 1, 2, 3, 4, 6, 7] rfl)
        · rw [if_neg c55] at hr
          refine v_aload_n C (lv_at hl 0 rfl) rfl dX12_joins_58 ?_
          refine v_aload_n C (lv_at hl 0 rfl) rfl dX12_joins_59 ?_
          obtain ⟨v60, e60, hr⟩ := ob hr
          refine v_getR C fl_RX12_141 rfl e60 dX12_joins_60 ?_
          refine v_iload C (lv_at hl 7 rfl) dX12_joins_63 ?_
          obtain ⟨v65, e65, hr⟩ := ob hr
          refine v_ldI_i C e65 dX12_joins_65 ?_
          refine v_aload_n C (lv_at hl 0 rfl) rfl dX12_joins_66 ?_
          obtain ⟨v67, e67, hr⟩ := ob hr
          refine v_getR C fl_RX12_141 rfl e67 dX12_joins_67 ?_
          refine v_iload_n C (lv_at hl 1 rfl) rfl dX12_joins_70 ?_
          obtain ⟨v71, e71, hr⟩ := ob hr
          refine v_ldI_i C e71 dX12_joins_71 ?_
          obtain ⟨b72, f72, hr⟩ := ob hr
          obtain ⟨g72, h72⟩ := rcv_n f72
          obtain ⟨v72, e72, hr⟩ := ob hr
          refine v_callV C (b := b72) h72 (by decide) rfl rfl (k_X12_isBarred e72) cw_X12_isBarred w_1801 w_1803 w_86 (show (parseMethodDescriptor (yX12_isBarred).desc).map (fun d => d.parameters.length) = some 2 by decide +kernel) ⟨by omega, by omega⟩ (rest := []) (stk2 := [.int v72]) (by rw [g72]; rfl) rfl (Nat.le_of_ble_eq_true rfl) hl dX12_joins_72 ?_
          refine v_if_ne C 82 (by decide) dX12_joins_75 (fun c75 => ?_) (fun c75 => ?_)
          · rw [if_neg c75] at hr
            exact b_X12_joins_82 hfe hle (@hru) C (@kX115) (@ih) hr _ (lv_sub hl [0, 1, 2, 3, 4, 6, 7] rfl)
          · rw [if_pos c75] at hr
            refine v_iconst C 1 (by decide) dX12_joins_78 ?_
            refine v_goto C 83 (by decide) dX12_joins_79 ?_
            exact b_X12_joins_83 hfe hle (@hru) C (@kX115) (@ih) hr _ (lv_sub hl [0, 1, 2, 3, 4, 6, 7] rfl)
      · rw [if_neg c47] at hr
        refine v_goto C 109 (by decide) dX12_joins_50 ?_
        refine v_iinc C (x7 + 1) (k0 := 7) (lv' := [(7, .int (x7 + 1)), (0, va_rf (some x0)), (1, .int x1), (2, .int x2), (3, .int x3), (4, .int x4), (5, .int x5), (6, .int x6)]) hl rfl rfl (by decide) rfl dX12_joins_109 (fun ls hl => ?_)
        refine v_goto C 32 (by decide) dX12_joins_112 ?_
        exact ih hr _ (lv_sub hl [1, 2, 3, 4, 5, 6, 7, 0] rfl)
theorem b_X12_joins_148 {ru : St → Nat → Int32 → Int32 → Int32 → Option St} {fru lru : Nat} (hfe : 2 ≤ fru) (hle : 44 ≤ lru) (hru : ∀ {S S' : St} {x0 : Nat} {x1 : Int32} {x2 : Int32} {x3 : Int32}, ru S x0 x1 x2 x3 = some S' → Ct l G yX12_joins cX12_joins 8 (Option.none : Option Jvm.ClassFile.FieldType) S [va_rf (some x0), .int x1, .int x2, .int x3] none S' fru lru)  {S0 S S' : St} {x0 : Nat} {x1 : Int32} {x2 : Int32} {x3 : Int32} {x4 : Int32} {x6 : Int32} {t0 : Int32} {t1 : Int32} {t2 : Option Nat} (C : Cx p s m args meth c G S0 yX12_joins cX12_joins 8 (Option.none : Option Jvm.ClassFile.FieldType)) {o : (St)} {rec : St → Nat → Int32 → Int32 → Int32 → Int32 → Option (St)} (kR : ∀ (Z : St), o = Z → S' = Z) (ihk : ∀ {S : St} {x0 : Nat} {x1 : Int32} {x2 : Int32} {x3 : Int32} {x4 : Int32}, rec S x0 x1 x2 x3 x4 = some o → ∀ ls : Array Slot, lv_has ls 8 [(0, va_rf (some x0)), (1, .int x1), (2, .int x2), (3, .int x3), (4, .int x4)] → V p l e (rmo (fru + 1) (lru + 27) S0) s m args below meth c G S0 S (QM below args s G S0 S' none) (F0 m 17 ls [])) (hr : f_X12_joins_148 ru rec S x0 x1 x2 x3 x4 x6 t0 t1 t2 = some o) : ∀ ls : Array Slot, lv_has ls 8 [(0, va_rf (some x0)), (1, .int x1), (2, .int x2), (3, .int x3), (4, .int x4), (6, .int x6)] → V p l e (rmo (fru + 1) (lru + 27) S0) s m args below meth c G S0 S (QM below args s G S0 S' none) (F0 m 148 ls [.int t0, .int t1, va_rf t2]) := by
  intro ls hl
  unfold f_X12_joins_148 at hr
  refine v_iload_n C (lv_at hl 3 rfl) rfl dX12_joins_148 ?_
  refine v_iload C (lv_at hl 5 rfl) dX12_joins_149 ?_
  refine v_iadd C dX12_joins_151 ?_
  obtain ⟨b152, f152, hr⟩ := ob hr
  obtain ⟨g152, h152⟩ := rcv_n f152
  obtain ⟨S152, e152, hr⟩ := ob hr
  refine v_callV C (b := b152) h152 (by decide) rfl rfl (hru e152) cw_X12_joins w_1829 w_1831 w_92 (show (parseMethodDescriptor (yX12_joins).desc).map (fun d => d.parameters.length) = some 3 by decide +kernel) ⟨by omega, by omega⟩ (rest := []) (stk2 := []) (by rw [g152]; rfl) rfl (Nat.le_of_ble_eq_true rfl) hl dX12_joins_152 ?_
  refine v_iinc C (x4 + 1) (k0 := 4) (lv' := [(4, .int (x4 + 1)), (0, va_rf (some x0)), (1, .int x1), (2, .int x2), (3, .int x3), (6, .int x6)]) hl rfl rfl (by decide) rfl dX12_joins_155 (fun ls hl => ?_)
  refine v_goto C 17 (by decide) dX12_joins_158 ?_
  exact ihk hr _ (lv_sub hl [1, 2, 3, 4, 0] rfl)
theorem b_X12_joins_17 {ru : St → Nat → Int32 → Int32 → Int32 → Option St} {fru lru : Nat} (hfe : 2 ≤ fru) (hle : 44 ≤ lru) (hru : ∀ {S S' : St} {x0 : Nat} {x1 : Int32} {x2 : Int32} {x3 : Int32}, ru S x0 x1 x2 x3 = some S' → Ct l G yX12_joins cX12_joins 8 (Option.none : Option Jvm.ClassFile.FieldType) S [va_rf (some x0), .int x1, .int x2, .int x3] none S' fru lru)  {S0 S' : St} (C : Cx p s m args meth c G S0 yX12_joins cX12_joins 8 (Option.none : Option Jvm.ClassFile.FieldType)) {o : (St)} (kR : ∀ (Z : St), o = Z → S' = Z) : ∀ (n : Nat) {S : St} {x0 : Nat} {x1 : Int32} {x2 : Int32} {x3 : Int32} {x4 : Int32}, f_X12_joins_17 ru n S x0 x1 x2 x3 x4 = some o → ∀ ls : Array Slot, lv_has ls 8 [(0, va_rf (some x0)), (1, .int x1), (2, .int x2), (3, .int x3), (4, .int x4)] → V p l e (rmo (fru + 1) (lru + 27) S0) s m args below meth c G S0 S (QM below args s G S0 S' none) (F0 m 17 ls []) := by
  intro n
  induction n with
  | zero => intro S x0 x1 x2 x3 x4 hr; cases hr
  | succ n ih =>
    intro S x0 x1 x2 x3 x4 hr ls hl
    unfold f_X12_joins_17 at hr
    refine v_iload C (lv_at hl 4 rfl) dX12_joins_17 ?_
    refine v_iload_n C (lv_at hl 2 rfl) rfl dX12_joins_19 ?_
    refine v_icmp_gt C 161 (by decide) dX12_joins_20 (fun c20 => ?_) (fun c20 => ?_)
    · rw [if_pos c20] at hr
      obtain rfl := os hr
      obtain rfl := kR _ rfl
      exact v_vret C dX12_joins_161
    · rw [if_neg c20] at hr
      refine v_iconst C 1 (by decide) dX12_joins_23 ?_
      refine v_istore C (i := 5) (lv' := [(5, .int 1), (0, va_rf (some x0)), (1, .int x1), (2, .int x2), (3, .int x3), (4, .int x4)]) hl (by decide) rfl dX12_joins_24 (fun ls hl => ?_)
      refine v_iconst C 0 (by decide) dX12_joins_26 ?_
      refine v_istore C (i := 6) (lv' := [(6, .int 0), (5, .int 1), (0, va_rf (some x0)), (1, .int x1), (2, .int x2), (3, .int x3), (4, .int x4)]) hl (by decide) rfl dX12_joins_27 (fun ls hl => ?_)
      refine v_iconst C 0 (by decide) dX12_joins_29 ?_
      refine v_istore C (i := 7) (lv' := [(7, .int 0), (6, .int 0), (5, .int 1), (0, va_rf (some x0)), (1, .int x1), (2, .int x2), (3, .int x3), (4, .int x4)]) hl (by decide) rfl dX12_joins_30 (fun ls hl => ?_)
      obtain ⟨o32, e32, hr⟩ := ob hr
      refine b_X12_joins_32 hfe hle (@hru) C ?_ FU e32 _ (lv_sub hl [3, 4, 5, 6, 7, 2, 1, 0] rfl)
      · intro x0 x1_32 x2_32 x3_32 x4_32 x5_32 x6_32 S_32 q ls hl
        subst q
        (try dsimp only at hr)
        refine v_iload C (lv_at hl 5 rfl) dX12_joins_115 ?_
        refine v_if_ne C 123 (by decide) dX12_joins_117 (fun c117 => ?_) (fun c117 => ?_)
        · rw [if_neg c117] at hr
          refine v_aload_n C (lv_at hl 0 rfl) rfl dX12_joins_123 ?_
          obtain ⟨v124, e124, hr⟩ := ob hr
          refine v_getR C fl_RX12_144 rfl e124 dX12_joins_124 ?_
          refine v_iload_n C (lv_at hl 1 rfl) rfl dX12_joins_127 ?_
          refine v_iload C (lv_at hl 4 rfl) dX12_joins_128 ?_
          obtain ⟨S130, e130, hr⟩ := ob hr
          refine v_stI_i C e130 dX12_joins_130 ?_
          refine v_aload_n C (lv_at hl 0 rfl) rfl dX12_joins_131 ?_
          refine v_iload_n C (lv_at hl 1 rfl) rfl dX12_joins_132 ?_
          refine v_iconst C 1 (by decide) dX12_joins_133 ?_
          refine v_iadd C dX12_joins_134 ?_
          refine v_iload C (lv_at hl 4 rfl) dX12_joins_135 ?_
          refine v_iload_n C (lv_at hl 2 rfl) rfl dX12_joins_137 ?_
          refine v_icmp_ne C 147 (by decide) dX12_joins_138 (fun c138 => ?_) (fun c138 => ?_)
          · rw [if_neg c138] at hr
            refine v_iload_n C (lv_at hl 2 rfl) rfl dX12_joins_147 ?_
            exact b_X12_joins_148 hfe hle (@hru) C kR (@ih) hr _ (lv_sub hl [0, 1, 2, 3, 4, 6] rfl)
          · rw [if_pos c138] at hr
            refine v_iload_n C (lv_at hl 2 rfl) rfl dX12_joins_141 ?_
            refine v_iconst C 1 (by decide) dX12_joins_142 ?_
            refine v_iadd C dX12_joins_143 ?_
            refine v_goto C 148 (by decide) dX12_joins_144 ?_
            exact b_X12_joins_148 hfe hle (@hru) C kR (@ih) hr _ (lv_sub hl [0, 1, 2, 3, 4, 6] rfl)
        · rw [if_pos c117] at hr
          refine v_goto C 155 (by decide) dX12_joins_120 ?_
          refine v_iinc C (x4_32 + 1) (k0 := 4) (lv' := [(4, .int (x4_32 + 1)), (0, va_rf (some x0)), (1, .int x1_32), (2, .int x2_32), (3, .int x3_32), (5, .int x5_32), (6, .int x6_32)]) hl rfl rfl (by decide) rfl dX12_joins_155 (fun ls hl => ?_)
          refine v_goto C 17 (by decide) dX12_joins_158 ?_
          exact ih hr _ (lv_sub hl [1, 2, 3, 4, 0] rfl)
theorem k_X12_joins {l : Launch} {G : Ge} {ru : St → Nat → Int32 → Int32 → Int32 → Option St} {fru lru : Nat} (hfe : 2 ≤ fru) (hle : 44 ≤ lru) (hru : ∀ {S S' : St} {x0 : Nat} {x1 : Int32} {x2 : Int32} {x3 : Int32}, ru S x0 x1 x2 x3 = some S' → Ct l G yX12_joins cX12_joins 8 (Option.none : Option Jvm.ClassFile.FieldType) S [va_rf (some x0), .int x1, .int x2, .int x3] none S' fru lru) {S S' : St} {x0 : Nat} {x1 : Int32} {x2 : Int32} {x3 : Int32} (hr : f_X12_joins ru S x0 x1 x2 x3 = some S') : Ct l G yX12_joins cX12_joins 8 (Option.none : Option Jvm.ClassFile.FieldType) S [va_rf (some x0), .int x1, .int x2, .int x3] none S' (fru + 1) (lru + 27) := by
  refine ct_of (by decide +kernel) (Nat.le_of_ble_eq_true rfl) ?_
  intro p e s m args below meth c C ls hl
  have hl : lv_has ls 8 [(0, va_rf (some x0)), (1, .int x1), (2, .int x2), (3, .int x3)] := hl
  unfold f_X12_joins at hr
  refine v_iload_n C (lv_at hl 1 rfl) rfl dX12_joins_0 ?_
  refine v_aload_n C (lv_at hl 0 rfl) rfl dX12_joins_1 ?_
  obtain ⟨v2, e2, hr⟩ := ob hr
  refine v_getI C fl_RX12_435 rfl e2 dX12_joins_2 ?_
  refine v_icmp_ne C 14 (by decide) dX12_joins_5 (fun c5 => ?_) (fun c5 => ?_)
  · rw [if_neg c5] at hr
    refine v_iconst C 0 (by decide) dX12_joins_14 ?_
    refine v_istore C (i := 4) (lv' := [(4, .int 0), (0, va_rf (some x0)), (1, .int x1), (2, .int x2), (3, .int x3)]) hl (by decide) rfl dX12_joins_15 (fun ls hl => ?_)
    exact b_X12_joins_17 hfe hle (@hru) C (fun _ q => by cases q; rfl) FU hr _ (lv_sub hl [1, 2, 3, 4, 0] rfl)
  · rw [if_pos c5] at hr
    refine v_aload_n C (lv_at hl 0 rfl) rfl dX12_joins_8 ?_
    refine v_iload_n C (lv_at hl 3 rfl) rfl dX12_joins_9 ?_
    obtain ⟨b10, f10, hr⟩ := ob hr
    obtain ⟨g10, h10⟩ := rcv_n f10
    obtain ⟨S10, e10, hr⟩ := ob hr
    refine v_callV C (b := b10) h10 (by decide) rfl rfl (k_X12_counts e10) cw_X12_counts w_1833 w_1835 w_93 (show (parseMethodDescriptor (yX12_counts).desc).map (fun d => d.parameters.length) = some 1 by decide +kernel) ⟨by omega, by omega⟩ (rest := []) (stk2 := []) (by rw [g10]; rfl) rfl (Nat.le_of_ble_eq_true rfl) hl dX12_joins_10 ?_
    obtain rfl := os hr
    exact v_vret C dX12_joins_13
theorem kr_X12_joins {l : Launch} {G : Ge} : ∀ (d : Nat) {S S' : St} {x0 : Nat} {x1 : Int32} {x2 : Int32} {x3 : Int32}, r_X12_joins d S x0 x1 x2 x3 = some S' → Ct l G yX12_joins cX12_joins 8 (Option.none : Option Jvm.ClassFile.FieldType) S [va_rf (some x0), .int x1, .int x2, .int x3] none S' (2 + 1 * d) (44 + 27 * d) := by
  intro d
  induction d with
  | zero => intro S S' x0 x1 x2 x3 hr; cases hr
  | succ d ih =>
    intro S S' x0 x1 x2 x3 hr
    unfold r_X12_joins at hr
    rw [Nat.mul_succ, Nat.mul_succ, ← Nat.add_assoc, ← Nat.add_assoc]
    exact k_X12_joins (ru := r_X12_joins d) (fru := 2 + 1 * d) (lru := 44 + 27 * d) (by omega) (by omega) (@ih) hr
theorem K_X12_joins {l : Launch} {G : Ge} {S S' : St} {x0 : Nat} {x1 : Int32} {x2 : Int32} {x3 : Int32} (hr : F_X12_joins S x0 x1 x2 x3 = some S') : Ct l G yX12_joins cX12_joins 8 (Option.none : Option Jvm.ClassFile.FieldType) S [va_rf (some x0), .int x1, .int x2, .int x3] none S' 34 908 := kr_X12_joins 32 hr
-- X12_joinAll
def f_X12_joinAll (S : St) (x0 : Nat) : Option St :=
    (putI S (some x0) 13 65 0).bind fun S2 =>
    (rcv S2 (some x0) 13).bind fun b9 =>
    (F_X12_joins S2 b9 0 0 0).bind fun S9 =>
    some S9
theorem k_X12_joinAll {l : Launch} {G : Ge} {S S' : St} {x0 : Nat} (hr : f_X12_joinAll S x0 = some S') : Ct l G yX12_joinAll cX12_joinAll 1 (Option.none : Option Jvm.ClassFile.FieldType) S [va_rf (some x0)] none S' 35 935 := by
  refine ct_of (by decide +kernel) (Nat.le_of_ble_eq_true rfl) ?_
  intro p e s m args below meth c C ls hl
  have hl : lv_has ls 1 [(0, va_rf (some x0))] := hl
  unfold f_X12_joinAll at hr
  refine v_aload_n C (lv_at hl 0 rfl) rfl dX12_joinAll_0 ?_
  refine v_iconst C 0 (by decide) dX12_joinAll_1 ?_
  obtain ⟨S2, e2, hr⟩ := ob hr
  refine v_putI C fl_RX12_445 (Or.inl rfl) rfl e2 dX12_joinAll_2 ?_
  refine v_aload_n C (lv_at hl 0 rfl) rfl dX12_joinAll_5 ?_
  refine v_iconst C 0 (by decide) dX12_joinAll_6 ?_
  refine v_iconst C 0 (by decide) dX12_joinAll_7 ?_
  refine v_iconst C 0 (by decide) dX12_joinAll_8 ?_
  obtain ⟨b9, f9, hr⟩ := ob hr
  obtain ⟨g9, h9⟩ := rcv_n f9
  obtain ⟨S9, e9, hr⟩ := ob hr
  refine v_callV C (b := b9) h9 (by decide) rfl rfl (K_X12_joins e9) cw_X12_joins w_1829 w_1831 w_92 (show (parseMethodDescriptor (yX12_joins).desc).map (fun d => d.parameters.length) = some 3 by decide +kernel) ⟨by decide, by decide⟩ (rest := []) (stk2 := []) (by rw [g9]; rfl) rfl (Nat.le_of_ble_eq_true rfl) hl dX12_joinAll_9 ?_
  obtain rfl := os hr
  exact v_vret C dX12_joinAll_12
-- X12_join
def f_X12_join (S : St) (x0 : Nat) (x1 : Int32) (x2 : Int32) : Option (Int32 × St) :=
    (rcv S (some x0) 13).bind fun b2 =>
    (f_X12_isSet S b2 x1).bind fun (v2, S2) =>
    (if v2 = 0 then
    some ((-10000), S2)
    else
    (f_X12_isIn S2 x2 0 1).bind fun v11 =>
    (if v11 = 0 then
    some ((-10000), S2)
    else
    (rcv S2 (some x0) 13).bind fun b22 =>
    (f_X12_joinAll S2 b22).bind fun S22 =>
    (if x2 = 0 then
    (getI S22 (some x0) 13 64).bind fun v30 =>
    some (v30, S22)
    else
    (getI S22 (some x0) 13 65).bind fun v37 =>
    some (v37, S22))))
theorem k_X12_join {l : Launch} {G : Ge} {S S' : St} {x0 : Nat} {x1 : Int32} {x2 : Int32} {rr : Int32} (hr : f_X12_join S x0 x1 x2 = some (rr, S')) : Ct l G yX12_join cX12_join 3 (Option.some Jvm.ClassFile.FieldType.int) S [va_rf (some x0), .int x1, .int x2] (some (.int rr)) S' 36 955 := by
  refine ct_of (by decide +kernel) (Nat.le_of_ble_eq_true rfl) ?_
  intro p e s m args below meth c C ls hl
  have hl : lv_has ls 3 [(0, va_rf (some x0)), (1, .int x1), (2, .int x2)] := hl
  unfold f_X12_join at hr
  refine v_aload_n C (lv_at hl 0 rfl) rfl dX12_join_0 ?_
  refine v_iload_n C (lv_at hl 1 rfl) rfl dX12_join_1 ?_
  obtain ⟨b2, f2, hr⟩ := ob hr
  obtain ⟨g2, h2⟩ := rcv_n f2
  obtain ⟨⟨v2, S2⟩, e2, hr⟩ := ob hr
  (try dsimp only at hr)
  refine v_callV C (b := b2) h2 (by decide) rfl rfl (k_X12_isSet e2) cw_X12_isSet w_1821 w_1823 w_90 (show (parseMethodDescriptor (yX12_isSet).desc).map (fun d => d.parameters.length) = some 1 by decide +kernel) ⟨by decide, by decide⟩ (rest := []) (stk2 := [.int v2]) (by rw [g2]; rfl) rfl (Nat.le_of_ble_eq_true rfl) hl dX12_join_2 ?_
  refine v_if_eq C 17 (by decide) dX12_join_5 (fun c5 => ?_) (fun c5 => ?_)
  · rw [if_pos c5] at hr
    refine v_sipush C (-10000) (by decide) dX12_join_17 ?_
    obtain ⟨rfl, rfl⟩ := Prod.mk.inj (os hr)
    exact v_iret C dX12_join_20
  · rw [if_neg c5] at hr
    refine v_iload_n C (lv_at hl 2 rfl) rfl dX12_join_8 ?_
    refine v_iconst C 0 (by decide) dX12_join_9 ?_
    refine v_iconst C 1 (by decide) dX12_join_10 ?_
    obtain ⟨v11, e11, hr⟩ := ob hr
    refine v_callS C (k_X12_isIn e11) cw_X12_isIn w_1555 w_1556 (show (parseMethodDescriptor (yX12_isIn).desc).map (fun d => d.parameters.length) = some 3 by decide +kernel) ⟨by decide, by decide⟩ (rest := []) (stk2 := [.int v11]) rfl rfl (Nat.le_of_ble_eq_true rfl) hl dX12_join_11 ?_
    refine v_if_ne C 21 (by decide) dX12_join_14 (fun c14 => ?_) (fun c14 => ?_)
    · rw [if_neg c14] at hr
      refine v_aload_n C (lv_at hl 0 rfl) rfl dX12_join_21 ?_
      obtain ⟨b22, f22, hr⟩ := ob hr
      obtain ⟨g22, h22⟩ := rcv_n f22
      obtain ⟨S22, e22, hr⟩ := ob hr
      refine v_callV C (b := b22) h22 (by decide) rfl rfl (k_X12_joinAll e22) cw_X12_joinAll w_1825 w_1827 w_91 (show (parseMethodDescriptor (yX12_joinAll).desc).map (fun d => d.parameters.length) = some 0 by decide +kernel) ⟨by decide, by decide⟩ (rest := []) (stk2 := []) (by rw [g22]; rfl) rfl (Nat.le_of_ble_eq_true rfl) hl dX12_join_22 ?_
      refine v_iload_n C (lv_at hl 2 rfl) rfl dX12_join_25 ?_
      refine v_if_ne C 36 (by decide) dX12_join_26 (fun c26 => ?_) (fun c26 => ?_)
      · rw [if_neg c26] at hr
        refine v_aload_n C (lv_at hl 0 rfl) rfl dX12_join_36 ?_
        obtain ⟨v37, e37, hr⟩ := ob hr
        refine v_getI C fl_RX12_445 rfl e37 dX12_join_37 ?_
        obtain ⟨rfl, rfl⟩ := Prod.mk.inj (os hr)
        exact v_iret C dX12_join_40
      · rw [if_pos c26] at hr
        refine v_aload_n C (lv_at hl 0 rfl) rfl dX12_join_29 ?_
        obtain ⟨v30, e30, hr⟩ := ob hr
        refine v_getI C fl_RX12_448 rfl e30 dX12_join_30 ?_
        refine v_goto C 40 (by decide) dX12_join_33 ?_
        obtain ⟨rfl, rfl⟩ := Prod.mk.inj (os hr)
        exact v_iret C dX12_join_40
    · rw [if_pos c14] at hr
      refine v_sipush C (-10000) (by decide) dX12_join_17 ?_
      obtain ⟨rfl, rfl⟩ := Prod.mk.inj (os hr)
      exact v_iret C dX12_join_20
-- X12_joined
def f_X12_joined_57 : Nat → St → Nat → Int32 → Int32 → Int32 → Int32 → Option (Nat × Int32 × Int32 × Int32 × St)
  | 0, _, _, _, _, _, _ => none
  | n + 1, S, x0, x2, x3, x4, x5 =>
    (getR S (some x0) 13 60).bind fun v58 =>
    (ldI S v58 15 x4).bind fun v63 =>
    (if v63 = x2 then
    some (x0, x3, x4, x5, S)
    else
    f_X12_joined_57 n S x0 x2 x3 (x4 + 1) x5)
def f_X12_joined_74 : Nat → St → Nat → Int32 → Int32 → Int32 → Option (Nat × Int32 × Int32 × St)
  | 0, _, _, _, _, _ => none
  | n + 1, S, x0, x3, x4, x5 =>
    (getR S (some x0) 13 60).bind fun v75 =>
    (ldI S v75 15 x5).bind fun v80 =>
    (if v80 = x3 then
    some (x0, x4, x5, S)
    else
    f_X12_joined_74 n S x0 x3 x4 (x5 + 1))
def f_X12_joined (S : St) (x0 : Nat) (x1 : Int32) (x2 : Int32) (x3 : Int32) : Option (Int32 × St) :=
    (rcv S (some x0) 13).bind fun b2 =>
    (f_X12_isSet S b2 x1).bind fun (v2, S2) =>
    (if v2 = 0 then
    some ((-1), S2)
    else
    (rcv S2 (some x0) 13).bind fun b10 =>
    (f_X12_isPerson S2 b10 x2).bind fun v10 =>
    (if v10 = 0 then
    some ((-1), S2)
    else
    (rcv S2 (some x0) 13).bind fun b18 =>
    (f_X12_isPerson S2 b18 x3).bind fun v18 =>
    (if v18 = 0 then
    some ((-1), S2)
    else
    (if x2 = x3 then
    some ((-1), S2)
    else
    (if ((x1 >>> (x2 &&& 31)) &&& 1) = 0 then
    some ((-1), S2)
    else
    (if ((x1 >>> (x3 &&& 31)) &&& 1) = 0 then
    some ((-1), S2)
    else
    (rcv S2 (some x0) 13).bind fun b48 =>
    (f_X12_joinAll S2 b48).bind fun S48 =>
    (f_X12_joined_57 FU S48 x0 x2 x3 0 0).bind fun (x0, x3_57, x4_57, x5_57, S_57) => (f_X12_joined_74 FU S_57 x0 x3_57 x4_57 x5_57).bind fun (x0, x4_74, x5_74, S_74) => (getR S_74 (some x0) 13 62).bind fun v92 =>
    (ldI S_74 v92 15 ((8 * x4_74) + x5_74)).bind fun v103 =>
    (getI S_74 (some x0) 13 65).bind fun v109 =>
    (if v103 = v109 then
    some (2, S_74)
    else
    (if v103 ≤ 0 then
    some (0, S_74)
    else
    some (1, S_74)))))))))
theorem b_X12_joined_57  {S0 S' : St} {rr : Int32} (C : Cx p s m args meth c G S0 yX12_joined cX12_joined 7 (Option.some Jvm.ClassFile.FieldType.int)) {o : (Nat × Int32 × Int32 × Int32 × St)} (kX74 : ∀ {x0 : Nat} {x3 : Int32} {x4 : Int32} {x5 : Int32} {Z : St}, o = (x0, x3, x4, x5, Z) → ∀ ls : Array Slot, lv_has ls 7 [(0, va_rf (some x0)), (3, .int x3), (4, .int x4), (5, .int x5)] → V p l e (rmo 36 955 S0) s m args below meth c G S0 Z (QM below args s G S0 S' (some (.int rr))) (F0 m 74 ls [])) : ∀ (n : Nat) {S : St} {x0 : Nat} {x2 : Int32} {x3 : Int32} {x4 : Int32} {x5 : Int32}, f_X12_joined_57 n S x0 x2 x3 x4 x5 = some o → ∀ ls : Array Slot, lv_has ls 7 [(0, va_rf (some x0)), (2, .int x2), (3, .int x3), (4, .int x4), (5, .int x5)] → V p l e (rmo 36 955 S0) s m args below meth c G S0 S (QM below args s G S0 S' (some (.int rr))) (F0 m 57 ls []) := by
  intro n
  induction n with
  | zero => intro S x0 x2 x3 x4 x5 hr; cases hr
  | succ n ih =>
    intro S x0 x2 x3 x4 x5 hr ls hl
    unfold f_X12_joined_57 at hr
    refine v_aload_n C (lv_at hl 0 rfl) rfl dX12_joined_57 ?_
    obtain ⟨v58, e58, hr⟩ := ob hr
    refine v_getR C fl_RX12_141 rfl e58 dX12_joined_58 ?_
    refine v_iload C (lv_at hl 3 rfl) dX12_joined_61 ?_
    obtain ⟨v63, e63, hr⟩ := ob hr
    refine v_ldI_i C e63 dX12_joined_63 ?_
    refine v_iload_n C (lv_at hl 1 rfl) rfl dX12_joined_64 ?_
    refine v_icmp_eq C 74 (by decide) dX12_joined_65 (fun c65 => ?_) (fun c65 => ?_)
    · rw [if_pos c65] at hr
      obtain rfl := os hr
      exact kX74 rfl _ (lv_sub hl [0, 2, 3, 4] rfl)
    · rw [if_neg c65] at hr
      refine v_iinc C (x4 + 1) (k0 := 3) (lv' := [(4, .int (x4 + 1)), (0, va_rf (some x0)), (2, .int x2), (3, .int x3), (5, .int x5)]) hl rfl rfl (by decide) rfl dX12_joined_68 (fun ls hl => ?_)
      refine v_goto C 57 (by decide) dX12_joined_71 ?_
      exact ih hr _ (lv_sub hl [1, 2, 3, 0, 4] rfl)
theorem b_X12_joined_74  {S0 S' : St} {rr : Int32} (C : Cx p s m args meth c G S0 yX12_joined cX12_joined 7 (Option.some Jvm.ClassFile.FieldType.int)) {o : (Nat × Int32 × Int32 × St)} (kX91 : ∀ {x0 : Nat} {x4 : Int32} {x5 : Int32} {Z : St}, o = (x0, x4, x5, Z) → ∀ ls : Array Slot, lv_has ls 7 [(0, va_rf (some x0)), (4, .int x4), (5, .int x5)] → V p l e (rmo 36 955 S0) s m args below meth c G S0 Z (QM below args s G S0 S' (some (.int rr))) (F0 m 91 ls [])) : ∀ (n : Nat) {S : St} {x0 : Nat} {x3 : Int32} {x4 : Int32} {x5 : Int32}, f_X12_joined_74 n S x0 x3 x4 x5 = some o → ∀ ls : Array Slot, lv_has ls 7 [(0, va_rf (some x0)), (3, .int x3), (4, .int x4), (5, .int x5)] → V p l e (rmo 36 955 S0) s m args below meth c G S0 S (QM below args s G S0 S' (some (.int rr))) (F0 m 74 ls []) := by
  intro n
  induction n with
  | zero => intro S x0 x3 x4 x5 hr; cases hr
  | succ n ih =>
    intro S x0 x3 x4 x5 hr ls hl
    unfold f_X12_joined_74 at hr
    refine v_aload_n C (lv_at hl 0 rfl) rfl dX12_joined_74 ?_
    obtain ⟨v75, e75, hr⟩ := ob hr
    refine v_getR C fl_RX12_141 rfl e75 dX12_joined_75 ?_
    refine v_iload C (lv_at hl 3 rfl) dX12_joined_78 ?_
    obtain ⟨v80, e80, hr⟩ := ob hr
    refine v_ldI_i C e80 dX12_joined_80 ?_
    refine v_iload_n C (lv_at hl 1 rfl) rfl dX12_joined_81 ?_
    refine v_icmp_eq C 91 (by decide) dX12_joined_82 (fun c82 => ?_) (fun c82 => ?_)
    · rw [if_pos c82] at hr
      obtain rfl := os hr
      exact kX91 rfl _ (lv_sub hl [0, 2, 3] rfl)
    · rw [if_neg c82] at hr
      refine v_iinc C (x5 + 1) (k0 := 3) (lv' := [(5, .int (x5 + 1)), (0, va_rf (some x0)), (3, .int x3), (4, .int x4)]) hl rfl rfl (by decide) rfl dX12_joined_85 (fun ls hl => ?_)
      refine v_goto C 74 (by decide) dX12_joined_88 ?_
      exact ih hr _ (lv_sub hl [1, 2, 3, 0] rfl)
theorem k_X12_joined {l : Launch} {G : Ge} {S S' : St} {x0 : Nat} {x1 : Int32} {x2 : Int32} {x3 : Int32} {rr : Int32} (hr : f_X12_joined S x0 x1 x2 x3 = some (rr, S')) : Ct l G yX12_joined cX12_joined 7 (Option.some Jvm.ClassFile.FieldType.int) S [va_rf (some x0), .int x1, .int x2, .int x3] (some (.int rr)) S' 36 955 := by
  refine ct_of (by decide +kernel) (Nat.le_of_ble_eq_true rfl) ?_
  intro p e s m args below meth c C ls hl
  have hl : lv_has ls 7 [(0, va_rf (some x0)), (1, .int x1), (2, .int x2), (3, .int x3)] := hl
  unfold f_X12_joined at hr
  refine v_aload_n C (lv_at hl 0 rfl) rfl dX12_joined_0 ?_
  refine v_iload_n C (lv_at hl 1 rfl) rfl dX12_joined_1 ?_
  obtain ⟨b2, f2, hr⟩ := ob hr
  obtain ⟨g2, h2⟩ := rcv_n f2
  obtain ⟨⟨v2, S2⟩, e2, hr⟩ := ob hr
  (try dsimp only at hr)
  refine v_callV C (b := b2) h2 (by decide) rfl rfl (k_X12_isSet e2) cw_X12_isSet w_1821 w_1823 w_90 (show (parseMethodDescriptor (yX12_isSet).desc).map (fun d => d.parameters.length) = some 1 by decide +kernel) ⟨by decide, by decide⟩ (rest := []) (stk2 := [.int v2]) (by rw [g2]; rfl) rfl (Nat.le_of_ble_eq_true rfl) hl dX12_joined_2 ?_
  refine v_if_eq C 45 (by decide) dX12_joined_5 (fun c5 => ?_) (fun c5 => ?_)
  · rw [if_pos c5] at hr
    refine v_iconst C (-1) (by decide) dX12_joined_45 ?_
    obtain ⟨rfl, rfl⟩ := Prod.mk.inj (os hr)
    exact v_iret C dX12_joined_46
  · rw [if_neg c5] at hr
    refine v_aload_n C (lv_at hl 0 rfl) rfl dX12_joined_8 ?_
    refine v_iload_n C (lv_at hl 2 rfl) rfl dX12_joined_9 ?_
    obtain ⟨b10, f10, hr⟩ := ob hr
    obtain ⟨g10, h10⟩ := rcv_n f10
    obtain ⟨v10, e10, hr⟩ := ob hr
    refine v_callV C (b := b10) h10 (by decide) rfl rfl (k_X12_isPerson e10) cw_X12_isPerson w_1593 w_1595 w_56 (show (parseMethodDescriptor (yX12_isPerson).desc).map (fun d => d.parameters.length) = some 1 by decide +kernel) ⟨by decide, by decide⟩ (rest := []) (stk2 := [.int v10]) (by rw [g10]; rfl) rfl (Nat.le_of_ble_eq_true rfl) hl dX12_joined_10 ?_
    refine v_if_eq C 45 (by decide) dX12_joined_13 (fun c13 => ?_) (fun c13 => ?_)
    · rw [if_pos c13] at hr
      refine v_iconst C (-1) (by decide) dX12_joined_45 ?_
      obtain ⟨rfl, rfl⟩ := Prod.mk.inj (os hr)
      exact v_iret C dX12_joined_46
    · rw [if_neg c13] at hr
      refine v_aload_n C (lv_at hl 0 rfl) rfl dX12_joined_16 ?_
      refine v_iload_n C (lv_at hl 3 rfl) rfl dX12_joined_17 ?_
      obtain ⟨b18, f18, hr⟩ := ob hr
      obtain ⟨g18, h18⟩ := rcv_n f18
      obtain ⟨v18, e18, hr⟩ := ob hr
      refine v_callV C (b := b18) h18 (by decide) rfl rfl (k_X12_isPerson e18) cw_X12_isPerson w_1593 w_1595 w_56 (show (parseMethodDescriptor (yX12_isPerson).desc).map (fun d => d.parameters.length) = some 1 by decide +kernel) ⟨by decide, by decide⟩ (rest := []) (stk2 := [.int v18]) (by rw [g18]; rfl) rfl (Nat.le_of_ble_eq_true rfl) hl dX12_joined_18 ?_
      refine v_if_eq C 45 (by decide) dX12_joined_21 (fun c21 => ?_) (fun c21 => ?_)
      · rw [if_pos c21] at hr
        refine v_iconst C (-1) (by decide) dX12_joined_45 ?_
        obtain ⟨rfl, rfl⟩ := Prod.mk.inj (os hr)
        exact v_iret C dX12_joined_46
      · rw [if_neg c21] at hr
        refine v_iload_n C (lv_at hl 2 rfl) rfl dX12_joined_24 ?_
        refine v_iload_n C (lv_at hl 3 rfl) rfl dX12_joined_25 ?_
        refine v_icmp_eq C 45 (by decide) dX12_joined_26 (fun c26 => ?_) (fun c26 => ?_)
        · rw [if_pos c26] at hr
          refine v_iconst C (-1) (by decide) dX12_joined_45 ?_
          obtain ⟨rfl, rfl⟩ := Prod.mk.inj (os hr)
          exact v_iret C dX12_joined_46
        · rw [if_neg c26] at hr
          refine v_iload_n C (lv_at hl 1 rfl) rfl dX12_joined_29 ?_
          refine v_iload_n C (lv_at hl 2 rfl) rfl dX12_joined_30 ?_
          refine v_ishr C dX12_joined_31 ?_
          refine v_iconst C 1 (by decide) dX12_joined_32 ?_
          refine v_iand C dX12_joined_33 ?_
          refine v_if_eq C 45 (by decide) dX12_joined_34 (fun c34 => ?_) (fun c34 => ?_)
          · rw [if_pos c34] at hr
            refine v_iconst C (-1) (by decide) dX12_joined_45 ?_
            obtain ⟨rfl, rfl⟩ := Prod.mk.inj (os hr)
            exact v_iret C dX12_joined_46
          · rw [if_neg c34] at hr
            refine v_iload_n C (lv_at hl 1 rfl) rfl dX12_joined_37 ?_
            refine v_iload_n C (lv_at hl 3 rfl) rfl dX12_joined_38 ?_
            refine v_ishr C dX12_joined_39 ?_
            refine v_iconst C 1 (by decide) dX12_joined_40 ?_
            refine v_iand C dX12_joined_41 ?_
            refine v_if_ne C 47 (by decide) dX12_joined_42 (fun c42 => ?_) (fun c42 => ?_)
            · rw [if_neg c42] at hr
              refine v_aload_n C (lv_at hl 0 rfl) rfl dX12_joined_47 ?_
              obtain ⟨b48, f48, hr⟩ := ob hr
              obtain ⟨g48, h48⟩ := rcv_n f48
              obtain ⟨S48, e48, hr⟩ := ob hr
              refine v_callV C (b := b48) h48 (by decide) rfl rfl (k_X12_joinAll e48) cw_X12_joinAll w_1825 w_1827 w_91 (show (parseMethodDescriptor (yX12_joinAll).desc).map (fun d => d.parameters.length) = some 0 by decide +kernel) ⟨by decide, by decide⟩ (rest := []) (stk2 := []) (by rw [g48]; rfl) rfl (Nat.le_of_ble_eq_true rfl) hl dX12_joined_48 ?_
              refine v_iconst C 0 (by decide) dX12_joined_51 ?_
              refine v_istore C (i := 4) (lv' := [(4, .int 0), (0, va_rf (some x0)), (1, .int x1), (2, .int x2), (3, .int x3)]) hl (by decide) rfl dX12_joined_52 (fun ls hl => ?_)
              refine v_iconst C 0 (by decide) dX12_joined_54 ?_
              refine v_istore C (i := 5) (lv' := [(5, .int 0), (4, .int 0), (0, va_rf (some x0)), (1, .int x1), (2, .int x2), (3, .int x3)]) hl (by decide) rfl dX12_joined_55 (fun ls hl => ?_)
              obtain ⟨o57, e57, hr⟩ := ob hr
              refine b_X12_joined_57 C ?_ FU e57 _ (lv_sub hl [2, 4, 5, 1, 0] rfl)
              · intro x0 x3_57 x4_57 x5_57 S_57 q ls hl
                subst q
                (try dsimp only at hr)
                obtain ⟨o74, e74, hr⟩ := ob hr
                refine b_X12_joined_74 C ?_ FU e74 _ (lv_sub hl [0, 1, 2, 3] rfl)
                · intro x0 x4_74 x5_74 S_74 q ls hl
                  subst q
                  (try dsimp only at hr)
                  refine v_aload_n C (lv_at hl 0 rfl) rfl dX12_joined_91 ?_
                  obtain ⟨v92, e92, hr⟩ := ob hr
                  refine v_getR C fl_RX12_147 rfl e92 dX12_joined_92 ?_
                  refine v_bipush C 8 (by decide) dX12_joined_95 ?_
                  refine v_iload C (lv_at hl 1 rfl) dX12_joined_97 ?_
                  refine v_imul C dX12_joined_99 ?_
                  refine v_iload C (lv_at hl 2 rfl) dX12_joined_100 ?_
                  refine v_iadd C dX12_joined_102 ?_
                  obtain ⟨v103, e103, hr⟩ := ob hr
                  refine v_ldI_i C e103 dX12_joined_103 ?_
                  refine v_istore C (i := 6) (lv' := [(6, .int v103), (0, va_rf (some x0)), (4, .int x4_74), (5, .int x5_74)]) hl (by decide) rfl dX12_joined_104 (fun ls hl => ?_)
                  refine v_iload C (lv_at hl 0 rfl) dX12_joined_106 ?_
                  refine v_aload_n C (lv_at hl 1 rfl) rfl dX12_joined_108 ?_
                  obtain ⟨v109, e109, hr⟩ := ob hr
                  refine v_getI C fl_RX12_445 rfl e109 dX12_joined_109 ?_
                  refine v_icmp_ne C 119 (by decide) dX12_joined_112 (fun c112 => ?_) (fun c112 => ?_)
                  · rw [if_neg c112] at hr
                    refine v_iload C (lv_at hl 0 rfl) dX12_joined_119 ?_
                    refine v_if_le C 128 (by decide) dX12_joined_121 (fun c121 => ?_) (fun c121 => ?_)
                    · rw [if_pos c121] at hr
                      refine v_iconst C 0 (by decide) dX12_joined_128 ?_
                      obtain ⟨rfl, rfl⟩ := Prod.mk.inj (os hr)
                      exact v_iret C dX12_joined_129
                    · rw [if_neg c121] at hr
                      refine v_iconst C 1 (by decide) dX12_joined_124 ?_
                      refine v_goto C 129 (by decide) dX12_joined_125 ?_
                      obtain ⟨rfl, rfl⟩ := Prod.mk.inj (os hr)
                      exact v_iret C dX12_joined_129
                  · rw [if_pos c112] at hr
                    refine v_iconst C 2 (by decide) dX12_joined_115 ?_
                    refine v_goto C 129 (by decide) dX12_joined_116 ?_
                    obtain ⟨rfl, rfl⟩ := Prod.mk.inj (os hr)
                    exact v_iret C dX12_joined_129
            · rw [if_pos c42] at hr
              refine v_iconst C (-1) (by decide) dX12_joined_45 ?_
              obtain ⟨rfl, rfl⟩ := Prod.mk.inj (os hr)
              exact v_iret C dX12_joined_46
-- X12_look
def f_X12_look_111 (rec : St → Nat → Int64 → Int32 → Option (Int64)) (S : St) (x0 : Nat) (x4 : Int32) (t0 : Int64) (t1 : Int64) : Option (Int64) :=
    rec S x0 (t1 + t0) (x4 + 1)
def f_X12_look_85 : Nat → St → Nat → Int64 → Int32 → Option (Int64)
  | 0, _, _, _, _ => none
  | n + 1, S, x0, x2, x4 =>
    (getI S (some x0) 13 3).bind fun v88 =>
    (if v88 ≤ x4 then
    some x2
    else
    (getR S (some x0) 13 56).bind fun v96 =>
    (ldI S v96 15 x4).bind fun v101 =>
    (if v101 = (-1) then
    f_X12_look_111 (f_X12_look_85 n) S x0 x4 0 x2
    else
    f_X12_look_111 (f_X12_look_85 n) S x0 x4 1 x2))
def f_X12_look_156 (rec : St → Nat → Int64 → Int32 → Option (Int64)) (S : St) (x0 : Nat) (x4 : Int32) (t0 : Int64) (t1 : Int64) : Option (Int64) :=
    rec S x0 (t1 + t0) (x4 + 1)
def f_X12_look_124 : Nat → St → Nat → Int64 → Int32 → Option (Int64)
  | 0, _, _, _, _ => none
  | n + 1, S, x0, x2, x4 =>
    (getI S (some x0) 13 3).bind fun v127 =>
    (if v127 ≤ x4 then
    some x2
    else
    (getR S (some x0) 13 56).bind fun v135 =>
    (ldI S v135 15 x4).bind fun v140 =>
    (if v140 = (-1) then
    f_X12_look_156 (f_X12_look_124 n) S x0 x4 0 x2
    else
    (getR S (some x0) 13 59).bind fun v150 =>
    (ldL S v150 x4).bind fun v155 =>
    f_X12_look_156 (f_X12_look_124 n) S x0 x4 v155 x2))
def f_X12_look_169 : Nat → St → Nat → Int64 → Int32 → Option (Int64)
  | 0, _, _, _, _ => none
  | n + 1, S, x0, x2, x4 =>
    (getI S (some x0) 13 3).bind fun v172 =>
    (if v172 ≤ x4 then
    some x2
    else
    (rcv S (some x0) 13).bind fun b182 =>
    (f_X12_paidOf S b182 x4).bind fun v182 =>
    f_X12_look_169 n S x0 (x2 + v182) (x4 + 1))
def f_X12_look (S : St) (x0 : Nat) (x1 : Int32) : Option Int64 :=
    (if x1 = 0 then
    (getI S (some x0) 13 0).bind fun v53 =>
    some (Int32.toInt64 v53)
    else
    (if x1 = 1 then
    (getI S (some x0) 13 1).bind fun v59 =>
    some (Int32.toInt64 v59)
    else
    (if x1 = 2 then
    (getI S (some x0) 13 2).bind fun v65 =>
    some (Int32.toInt64 v65)
    else
    (if x1 = 3 then
    (getI S (some x0) 13 3).bind fun v71 =>
    some (Int32.toInt64 v71)
    else
    (if x1 = 4 then
    (getI S (some x0) 13 4).bind fun v77 =>
    some (Int32.toInt64 v77)
    else
    (if x1 = 5 then
    f_X12_look_85 FU S x0 0 0
    else
    (if x1 = 6 then
    f_X12_look_124 FU S x0 0 0
    else
    (if x1 = 7 then
    f_X12_look_169 FU S x0 0 0
    else
    (if x1 = 8 then
    (getI S (some x0) 13 69).bind fun v196 =>
    some (Int32.toInt64 v196)
    else
    some (-1))))))))))
theorem b_X12_look_111  {S : St} {rr : Int64} {x0 : Nat} {x4 : Int32} {t0 : Int64} {t1 : Int64} (C : Cx p s m args meth c G S yX12_look cX12_look 5 (Option.some Jvm.ClassFile.FieldType.long)) {o : (Int64)} {rec : St → Nat → Int64 → Int32 → Option (Int64)} (kR : ∀ (v : Int64), o = v → rr = v) (ihk : ∀ {x0 : Nat} {x2 : Int64} {x4 : Int32}, rec S x0 x2 x4 = some o → ∀ ls : Array Slot, lv_has ls 5 [(0, va_rf (some x0)), (2, .long x2), (4, .int x4)] → V p l e (rmo 1 24 S) s m args below meth c G S S (QM below args s G S S (some (.long rr))) (F0 m 85 ls [])) (hr : f_X12_look_111 rec S x0 x4 t0 t1 = some o) : ∀ ls : Array Slot, lv_has ls 5 [(0, va_rf (some x0)), (4, .int x4)] → V p l e (rmo 1 24 S) s m args below meth c G S S (QM below args s G S S (some (.long rr))) (F0 m 111 ls [.long t0, .long t1]) := by
  intro ls hl
  unfold f_X12_look_111 at hr
  refine v_ladd C dX12_look_111 ?_
  refine v_lstore_n C (i := 2) (lv' := [(2, .long (t1 + t0)), (0, va_rf (some x0)), (4, .int x4)]) hl rfl (by decide) rfl dX12_look_112 (fun ls hl => ?_)
  refine v_iinc C (x4 + 1) (k0 := 2) (lv' := [(4, .int (x4 + 1)), (2, .long (t1 + t0)), (0, va_rf (some x0))]) hl rfl rfl (by decide) rfl dX12_look_113 (fun ls hl => ?_)
  refine v_goto C 85 (by decide) dX12_look_116 ?_
  exact ihk hr _ (lv_sub hl [2, 1, 0] rfl)
theorem b_X12_look_85  {S : St} {rr : Int64} (C : Cx p s m args meth c G S yX12_look cX12_look 5 (Option.some Jvm.ClassFile.FieldType.long)) {o : (Int64)} (kR : ∀ (v : Int64), o = v → rr = v) : ∀ (n : Nat) {x0 : Nat} {x2 : Int64} {x4 : Int32}, f_X12_look_85 n S x0 x2 x4 = some o → ∀ ls : Array Slot, lv_has ls 5 [(0, va_rf (some x0)), (2, .long x2), (4, .int x4)] → V p l e (rmo 1 24 S) s m args below meth c G S S (QM below args s G S S (some (.long rr))) (F0 m 85 ls []) := by
  intro n
  induction n with
  | zero => intro x0 x2 x4 hr; cases hr
  | succ n ih =>
    intro x0 x2 x4 hr ls hl
    unfold f_X12_look_85 at hr
    refine v_iload C (lv_at hl 2 rfl) dX12_look_85 ?_
    refine v_aload_n C (lv_at hl 0 rfl) rfl dX12_look_87 ?_
    obtain ⟨v88, e88, hr⟩ := ob hr
    refine v_getI C fl_RX12_210 rfl e88 dX12_look_88 ?_
    refine v_icmp_ge C 119 (by decide) dX12_look_91 (fun c91 => ?_) (fun c91 => ?_)
    · rw [if_pos c91] at hr
      refine v_lload_n C (lv_at hl 1 rfl) rfl dX12_look_119 ?_
      obtain rfl := os hr
      obtain rfl := kR _ rfl
      exact v_lret C dX12_look_120
    · rw [if_neg c91] at hr
      refine v_lload_n C (lv_at hl 1 rfl) rfl dX12_look_94 ?_
      refine v_aload_n C (lv_at hl 0 rfl) rfl dX12_look_95 ?_
      obtain ⟨v96, e96, hr⟩ := ob hr
      refine v_getR C fl_RX12_128 rfl e96 dX12_look_96 ?_
      refine v_iload C (lv_at hl 2 rfl) dX12_look_99 ?_
      obtain ⟨v101, e101, hr⟩ := ob hr
      refine v_ldI_i C e101 dX12_look_101 ?_
      refine v_iconst C (-1) (by decide) dX12_look_102 ?_
      refine v_icmp_ne C 110 (by decide) dX12_look_103 (fun c103 => ?_) (fun c103 => ?_)
      · rw [if_neg c103] at hr
        refine v_lconst C 1 (by decide) dX12_look_110 ?_
        exact b_X12_look_111 C kR (@ih) hr _ (lv_sub hl [0, 2] rfl)
      · rw [if_pos c103] at hr
        refine v_lconst C 0 (by decide) dX12_look_106 ?_
        refine v_goto C 111 (by decide) dX12_look_107 ?_
        exact b_X12_look_111 C kR (@ih) hr _ (lv_sub hl [0, 2] rfl)
theorem b_X12_look_156  {S : St} {rr : Int64} {x0 : Nat} {x4 : Int32} {t0 : Int64} {t1 : Int64} (C : Cx p s m args meth c G S yX12_look cX12_look 5 (Option.some Jvm.ClassFile.FieldType.long)) {o : (Int64)} {rec : St → Nat → Int64 → Int32 → Option (Int64)} (kR : ∀ (v : Int64), o = v → rr = v) (ihk : ∀ {x0 : Nat} {x2 : Int64} {x4 : Int32}, rec S x0 x2 x4 = some o → ∀ ls : Array Slot, lv_has ls 5 [(0, va_rf (some x0)), (2, .long x2), (4, .int x4)] → V p l e (rmo 1 24 S) s m args below meth c G S S (QM below args s G S S (some (.long rr))) (F0 m 124 ls [])) (hr : f_X12_look_156 rec S x0 x4 t0 t1 = some o) : ∀ ls : Array Slot, lv_has ls 5 [(0, va_rf (some x0)), (4, .int x4)] → V p l e (rmo 1 24 S) s m args below meth c G S S (QM below args s G S S (some (.long rr))) (F0 m 156 ls [.long t0, .long t1]) := by
  intro ls hl
  unfold f_X12_look_156 at hr
  refine v_ladd C dX12_look_156 ?_
  refine v_lstore_n C (i := 2) (lv' := [(2, .long (t1 + t0)), (0, va_rf (some x0)), (4, .int x4)]) hl rfl (by decide) rfl dX12_look_157 (fun ls hl => ?_)
  refine v_iinc C (x4 + 1) (k0 := 2) (lv' := [(4, .int (x4 + 1)), (2, .long (t1 + t0)), (0, va_rf (some x0))]) hl rfl rfl (by decide) rfl dX12_look_158 (fun ls hl => ?_)
  refine v_goto C 124 (by decide) dX12_look_161 ?_
  exact ihk hr _ (lv_sub hl [2, 1, 0] rfl)
theorem b_X12_look_124  {S : St} {rr : Int64} (C : Cx p s m args meth c G S yX12_look cX12_look 5 (Option.some Jvm.ClassFile.FieldType.long)) {o : (Int64)} (kR : ∀ (v : Int64), o = v → rr = v) : ∀ (n : Nat) {x0 : Nat} {x2 : Int64} {x4 : Int32}, f_X12_look_124 n S x0 x2 x4 = some o → ∀ ls : Array Slot, lv_has ls 5 [(0, va_rf (some x0)), (2, .long x2), (4, .int x4)] → V p l e (rmo 1 24 S) s m args below meth c G S S (QM below args s G S S (some (.long rr))) (F0 m 124 ls []) := by
  intro n
  induction n with
  | zero => intro x0 x2 x4 hr; cases hr
  | succ n ih =>
    intro x0 x2 x4 hr ls hl
    unfold f_X12_look_124 at hr
    refine v_iload C (lv_at hl 2 rfl) dX12_look_124 ?_
    refine v_aload_n C (lv_at hl 0 rfl) rfl dX12_look_126 ?_
    obtain ⟨v127, e127, hr⟩ := ob hr
    refine v_getI C fl_RX12_210 rfl e127 dX12_look_127 ?_
    refine v_icmp_ge C 164 (by decide) dX12_look_130 (fun c130 => ?_) (fun c130 => ?_)
    · rw [if_pos c130] at hr
      refine v_lload_n C (lv_at hl 1 rfl) rfl dX12_look_164 ?_
      obtain rfl := os hr
      obtain rfl := kR _ rfl
      exact v_lret C dX12_look_165
    · rw [if_neg c130] at hr
      refine v_lload_n C (lv_at hl 1 rfl) rfl dX12_look_133 ?_
      refine v_aload_n C (lv_at hl 0 rfl) rfl dX12_look_134 ?_
      obtain ⟨v135, e135, hr⟩ := ob hr
      refine v_getR C fl_RX12_128 rfl e135 dX12_look_135 ?_
      refine v_iload C (lv_at hl 2 rfl) dX12_look_138 ?_
      obtain ⟨v140, e140, hr⟩ := ob hr
      refine v_ldI_i C e140 dX12_look_140 ?_
      refine v_iconst C (-1) (by decide) dX12_look_141 ?_
      refine v_icmp_ne C 149 (by decide) dX12_look_142 (fun c142 => ?_) (fun c142 => ?_)
      · rw [if_neg c142] at hr
        refine v_aload_n C (lv_at hl 0 rfl) rfl dX12_look_149 ?_
        obtain ⟨v150, e150, hr⟩ := ob hr
        refine v_getR C fl_RX12_137 rfl e150 dX12_look_150 ?_
        refine v_iload C (lv_at hl 2 rfl) dX12_look_153 ?_
        obtain ⟨v155, e155, hr⟩ := ob hr
        refine v_ldL C e155 dX12_look_155 ?_
        exact b_X12_look_156 C kR (@ih) hr _ (lv_sub hl [0, 2] rfl)
      · rw [if_pos c142] at hr
        refine v_lconst C 0 (by decide) dX12_look_145 ?_
        refine v_goto C 156 (by decide) dX12_look_146 ?_
        exact b_X12_look_156 C kR (@ih) hr _ (lv_sub hl [0, 2] rfl)
theorem b_X12_look_169  {S : St} {rr : Int64} (C : Cx p s m args meth c G S yX12_look cX12_look 5 (Option.some Jvm.ClassFile.FieldType.long)) {o : (Int64)} (kR : ∀ (v : Int64), o = v → rr = v) : ∀ (n : Nat) {x0 : Nat} {x2 : Int64} {x4 : Int32}, f_X12_look_169 n S x0 x2 x4 = some o → ∀ ls : Array Slot, lv_has ls 5 [(0, va_rf (some x0)), (2, .long x2), (4, .int x4)] → V p l e (rmo 1 24 S) s m args below meth c G S S (QM below args s G S S (some (.long rr))) (F0 m 169 ls []) := by
  intro n
  induction n with
  | zero => intro x0 x2 x4 hr; cases hr
  | succ n ih =>
    intro x0 x2 x4 hr ls hl
    unfold f_X12_look_169 at hr
    refine v_iload C (lv_at hl 2 rfl) dX12_look_169 ?_
    refine v_aload_n C (lv_at hl 0 rfl) rfl dX12_look_171 ?_
    obtain ⟨v172, e172, hr⟩ := ob hr
    refine v_getI C fl_RX12_210 rfl e172 dX12_look_172 ?_
    refine v_icmp_ge C 193 (by decide) dX12_look_175 (fun c175 => ?_) (fun c175 => ?_)
    · rw [if_pos c175] at hr
      refine v_lload_n C (lv_at hl 1 rfl) rfl dX12_look_193 ?_
      obtain rfl := os hr
      obtain rfl := kR _ rfl
      exact v_lret C dX12_look_194
    · rw [if_neg c175] at hr
      refine v_lload_n C (lv_at hl 1 rfl) rfl dX12_look_178 ?_
      refine v_aload_n C (lv_at hl 0 rfl) rfl dX12_look_179 ?_
      refine v_iload C (lv_at hl 2 rfl) dX12_look_180 ?_
      obtain ⟨b182, f182, hr⟩ := ob hr
      obtain ⟨g182, h182⟩ := rcv_n f182
      obtain ⟨v182, e182, hr⟩ := ob hr
      refine v_callV C (b := b182) h182 (by decide) rfl rfl (k_X12_paidOf e182) cw_X12_paidOf w_1793 w_1795 w_85 (show (parseMethodDescriptor (yX12_paidOf).desc).map (fun d => d.parameters.length) = some 1 by decide +kernel) ⟨by decide, by decide⟩ (rest := [.long x2]) (stk2 := [.long v182, .long x2]) (by rw [g182]; rfl) rfl (Nat.le_of_ble_eq_true rfl) hl dX12_look_182 ?_
      refine v_ladd C dX12_look_185 ?_
      refine v_lstore_n C (i := 2) (lv' := [(2, .long (x2 + v182)), (0, va_rf (some x0)), (4, .int x4)]) hl rfl (by decide) rfl dX12_look_186 (fun ls hl => ?_)
      refine v_iinc C (x4 + 1) (k0 := 2) (lv' := [(4, .int (x4 + 1)), (2, .long (x2 + v182)), (0, va_rf (some x0))]) hl rfl rfl (by decide) rfl dX12_look_187 (fun ls hl => ?_)
      refine v_goto C 169 (by decide) dX12_look_190 ?_
      exact ih hr _ (lv_sub hl [2, 1, 0] rfl)
theorem k_X12_look {l : Launch} {G : Ge} {S : St} {x0 : Nat} {x1 : Int32} {rr : Int64} (hr : f_X12_look S x0 x1 = some rr) : Ct l G yX12_look cX12_look 5 (Option.some Jvm.ClassFile.FieldType.long) S [va_rf (some x0), .int x1] (some (.long rr)) S 1 24 := by
  refine ct_of (by decide +kernel) (Nat.le_of_ble_eq_true rfl) ?_
  intro p e s m args below meth c C ls hl
  have hl : lv_has ls 5 [(0, va_rf (some x0)), (1, .int x1)] := hl
  unfold f_X12_look at hr
  refine v_lconst C 0 (by decide) dX12_look_0 ?_
  refine v_lstore_n C (i := 2) (lv' := [(2, .long 0), (0, va_rf (some x0)), (1, .int x1)]) hl rfl (by decide) rfl dX12_look_1 (fun ls hl => ?_)
  refine v_iload_n C (lv_at hl 2 rfl) rfl dX12_look_2 ?_
  by_cases q3_0 : x1 = 0
  · rw [if_pos q3_0] at hr
    refine v_tableIn C (off := 49) 52 (by rw [q3_0]; decide) (by rw [q3_0]; decide) (by rw [q3_0]; decide) (by decide) dX12_look_3 ?_
    refine v_aload_n C (lv_at hl 1 rfl) rfl dX12_look_52 ?_
    obtain ⟨v53, e53, hr⟩ := ob hr
    refine v_getI C fl_RX12_197 rfl e53 dX12_look_53 ?_
    refine v_i2l C dX12_look_56 ?_
    obtain rfl := os hr
    exact v_lret C dX12_look_57
  rw [if_neg q3_0] at hr
  by_cases q3_1 : x1 = 1
  · rw [if_pos q3_1] at hr
    refine v_tableIn C (off := 55) 58 (by rw [q3_1]; decide) (by rw [q3_1]; decide) (by rw [q3_1]; decide) (by decide) dX12_look_3 ?_
    refine v_aload_n C (lv_at hl 1 rfl) rfl dX12_look_58 ?_
    obtain ⟨v59, e59, hr⟩ := ob hr
    refine v_getI C fl_RX12_204 rfl e59 dX12_look_59 ?_
    refine v_i2l C dX12_look_62 ?_
    obtain rfl := os hr
    exact v_lret C dX12_look_63
  rw [if_neg q3_1] at hr
  by_cases q3_2 : x1 = 2
  · rw [if_pos q3_2] at hr
    refine v_tableIn C (off := 61) 64 (by rw [q3_2]; decide) (by rw [q3_2]; decide) (by rw [q3_2]; decide) (by decide) dX12_look_3 ?_
    refine v_aload_n C (lv_at hl 1 rfl) rfl dX12_look_64 ?_
    obtain ⟨v65, e65, hr⟩ := ob hr
    refine v_getI C fl_RX12_207 rfl e65 dX12_look_65 ?_
    refine v_i2l C dX12_look_68 ?_
    obtain rfl := os hr
    exact v_lret C dX12_look_69
  rw [if_neg q3_2] at hr
  by_cases q3_3 : x1 = 3
  · rw [if_pos q3_3] at hr
    refine v_tableIn C (off := 67) 70 (by rw [q3_3]; decide) (by rw [q3_3]; decide) (by rw [q3_3]; decide) (by decide) dX12_look_3 ?_
    refine v_aload_n C (lv_at hl 1 rfl) rfl dX12_look_70 ?_
    obtain ⟨v71, e71, hr⟩ := ob hr
    refine v_getI C fl_RX12_210 rfl e71 dX12_look_71 ?_
    refine v_i2l C dX12_look_74 ?_
    obtain rfl := os hr
    exact v_lret C dX12_look_75
  rw [if_neg q3_3] at hr
  by_cases q3_4 : x1 = 4
  · rw [if_pos q3_4] at hr
    refine v_tableIn C (off := 73) 76 (by rw [q3_4]; decide) (by rw [q3_4]; decide) (by rw [q3_4]; decide) (by decide) dX12_look_3 ?_
    refine v_aload_n C (lv_at hl 1 rfl) rfl dX12_look_76 ?_
    obtain ⟨v77, e77, hr⟩ := ob hr
    refine v_getI C fl_RX12_234 rfl e77 dX12_look_77 ?_
    refine v_i2l C dX12_look_80 ?_
    obtain rfl := os hr
    exact v_lret C dX12_look_81
  rw [if_neg q3_4] at hr
  by_cases q3_5 : x1 = 5
  · rw [if_pos q3_5] at hr
    refine v_tableIn C (off := 79) 82 (by rw [q3_5]; decide) (by rw [q3_5]; decide) (by rw [q3_5]; decide) (by decide) dX12_look_3 ?_
    refine v_iconst C 0 (by decide) dX12_look_82 ?_
    refine v_istore C (i := 4) (lv' := [(4, .int 0), (2, .long 0), (0, va_rf (some x0)), (1, .int x1)]) hl (by decide) rfl dX12_look_83 (fun ls hl => ?_)
    exact b_X12_look_85 C (fun _ q => by cases q; rfl) FU hr _ (lv_sub hl [2, 1, 0] rfl)
  rw [if_neg q3_5] at hr
  by_cases q3_6 : x1 = 6
  · rw [if_pos q3_6] at hr
    refine v_tableIn C (off := 118) 121 (by rw [q3_6]; decide) (by rw [q3_6]; decide) (by rw [q3_6]; decide) (by decide) dX12_look_3 ?_
    refine v_iconst C 0 (by decide) dX12_look_121 ?_
    refine v_istore C (i := 4) (lv' := [(4, .int 0), (2, .long 0), (0, va_rf (some x0)), (1, .int x1)]) hl (by decide) rfl dX12_look_122 (fun ls hl => ?_)
    exact b_X12_look_124 C (fun _ q => by cases q; rfl) FU hr _ (lv_sub hl [2, 1, 0] rfl)
  rw [if_neg q3_6] at hr
  by_cases q3_7 : x1 = 7
  · rw [if_pos q3_7] at hr
    refine v_tableIn C (off := 163) 166 (by rw [q3_7]; decide) (by rw [q3_7]; decide) (by rw [q3_7]; decide) (by decide) dX12_look_3 ?_
    refine v_iconst C 0 (by decide) dX12_look_166 ?_
    refine v_istore C (i := 4) (lv' := [(4, .int 0), (2, .long 0), (0, va_rf (some x0)), (1, .int x1)]) hl (by decide) rfl dX12_look_167 (fun ls hl => ?_)
    exact b_X12_look_169 C (fun _ q => by cases q; rfl) FU hr _ (lv_sub hl [2, 1, 0] rfl)
  rw [if_neg q3_7] at hr
  by_cases q3_8 : x1 = 8
  · rw [if_pos q3_8] at hr
    refine v_tableIn C (off := 192) 195 (by rw [q3_8]; decide) (by rw [q3_8]; decide) (by rw [q3_8]; decide) (by decide) dX12_look_3 ?_
    refine v_aload_n C (lv_at hl 1 rfl) rfl dX12_look_195 ?_
    obtain ⟨v196, e196, hr⟩ := ob hr
    refine v_getI C fl_RX12_411 rfl e196 dX12_look_196 ?_
    refine v_i2l C dX12_look_199 ?_
    obtain rfl := os hr
    exact v_lret C dX12_look_200
  rw [if_neg q3_8] at hr
  have kd3 : V p l e (rmo 1 24 S) s m args below meth c G S S (QM below args s G S S (some (.long rr))) (F0 m 201 ls []) := by
    refine v_ldc2 C w_1643 dX12_look_201 ?_
    obtain rfl := os hr
    exact v_lret C dX12_look_204
  have z0 := lv_neT q3_0 (a := 0) (by decide)
  have z1 := lv_neT q3_1 (a := 1) (by decide)
  have z2 := lv_neT q3_2 (a := 2) (by decide)
  have z3 := lv_neT q3_3 (a := 3) (by decide)
  have z4 := lv_neT q3_4 (a := 4) (by decide)
  have z5 := lv_neT q3_5 (a := 5) (by decide)
  have z6 := lv_neT q3_6 (a := 6) (by decide)
  have z7 := lv_neT q3_7 (a := 7) (by decide)
  have z8 := lv_neT q3_8 (a := 8) (by decide)
  exact v_tableOut C 201 (by omega) (by decide) dX12_look_3 kd3
-- X12_looks
def f_X12_looks_44 : Nat → St → Nat → Int32 → Int32 → Int32 → Int32 → Int32 → Option (Nat × Int32 × Int32 × Int32 × Int32 × St)
  | 0, _, _, _, _, _, _, _ => none
  | n + 1, S, x0, x1, x2, x3, x4, x5 =>
    (if (21000 : Int32) ≤ x5 then
    some (x0, x1, x2, x3, x4, S)
    else
    (getR S (some x0) 13 79).bind fun v53 =>
    (stI S v53 15 x5 (-1)).bind fun S59 =>
    f_X12_looks_44 n S59 x0 x1 x2 x3 x4 (x5 + 1))
def f_X12_looks_259 (rec : St → Nat → Int32 → Int32 → Int32 → Int32 → Int32 → Int32 → Int32 → Int32 → Option (Nat × Int32 × Int32 × Int32 × Int32 × Int32 × Int32 × Int32 × St)) (S : St) (x0 : Nat) (x1 : Int32) (x2 : Int32) (x3 : Int32) (x4 : Int32) (x5 : Int32) (x6 : Int32) (x7 : Int32) (x8 : Int32) (x9 : Int32) (x10 : Int32) : Option (Nat × Int32 × Int32 × Int32 × Int32 × Int32 × Int32 × Int32 × St) :=
    (getR S (some x0) 13 79).bind fun v260 =>
    (getR S (some x0) 13 79).bind fun v266 =>
    (ldI S v266 15 x9).bind fun v271 =>
    (stI S v260 15 x10 (v271 + x6)).bind fun S275 =>
    (getR S275 (some x0) 13 80).bind fun v277 =>
    (getR S275 (some x0) 13 80).bind fun v283 =>
    (ldI S275 v283 15 x9).bind fun v288 =>
    (stI S275 v277 15 x10 (v288 ||| (1 <<< (x5 &&& 31)))).bind fun S294 =>
    rec S294 x0 x1 x2 x3 x4 x5 x6 x7 (x8 + (-1))
def f_X12_looks_139 : Nat → St → Nat → Int32 → Int32 → Int32 → Int32 → Int32 → Int32 → Int32 → Int32 → Option (Nat × Int32 × Int32 × Int32 × Int32 × Int32 × Int32 × Int32 × St)
  | 0, _, _, _, _, _, _, _, _, _, _ => none
  | n + 1, S, x0, x1, x2, x3, x4, x5, x6, x7, x8 =>
    (getR S (some x0) 13 78).bind fun v142 =>
    (ldI S v142 15 x5).bind fun v147 =>
    (if x8 < v147 then
    some (x0, x1, x2, x3, x4, x5, x6, x7, S)
    else
    (getR S (some x0) 13 78).bind fun v163 =>
    (ldI S v163 15 x5).bind fun v168 =>
    (getR S (some x0) 13 79).bind fun v184 =>
    (ldI S v184 15 (((1000 * (x7 - 1)) + x8) - v168)).bind fun v189 =>
    (if v189 = (-1) then
    f_X12_looks_139 n S x0 x1 x2 x3 x4 x5 x6 x7 (x8 + (-1))
    else
    (getR S (some x0) 13 79).bind fun v195 =>
    (ldI S v195 15 (((1000 * (x7 - 1)) + x8) - v168)).bind fun v200 =>
    (getR S (some x0) 13 79).bind fun v205 =>
    (ldI S v205 15 ((1000 * x7) + x8)).bind fun v210 =>
    (if (v200 + x6) < v210 then
    f_X12_looks_139 n S x0 x1 x2 x3 x4 x5 x6 x7 (x8 + (-1))
    else
    (getR S (some x0) 13 79).bind fun v215 =>
    (ldI S v215 15 (((1000 * (x7 - 1)) + x8) - v168)).bind fun v220 =>
    (getR S (some x0) 13 79).bind fun v225 =>
    (ldI S v225 15 ((1000 * x7) + x8)).bind fun v230 =>
    (if (v220 + x6) = v230 then
    (getR S (some x0) 13 80).bind fun v235 =>
    (ldI S v235 15 (((1000 * (x7 - 1)) + x8) - v168)).bind fun v240 =>
    (getR S (some x0) 13 80).bind fun v247 =>
    (ldI S v247 15 ((1000 * x7) + x8)).bind fun v252 =>
    (if (v240 ||| (1 <<< (x5 &&& 31))) < v252 then
    f_X12_looks_259 (f_X12_looks_139 n) S x0 x1 x2 x3 x4 x5 x6 x7 x8 (((1000 * (x7 - 1)) + x8) - v168) ((1000 * x7) + x8)
    else
    f_X12_looks_139 n S x0 x1 x2 x3 x4 x5 x6 x7 (x8 + (-1)))
    else
    f_X12_looks_259 (f_X12_looks_139 n) S x0 x1 x2 x3 x4 x5 x6 x7 x8 (((1000 * (x7 - 1)) + x8) - v168) ((1000 * x7) + x8)))))
def f_X12_looks_131 : Nat → St → Nat → Int32 → Int32 → Int32 → Int32 → Int32 → Int32 → Int32 → Option (Nat × Int32 × Int32 × Int32 × Int32 × Int32 × St)
  | 0, _, _, _, _, _, _, _, _, _ => none
  | n + 1, S, x0, x1, x2, x3, x4, x5, x6, x7 =>
    (if x7 ≤ 0 then
    some (x0, x1, x2, x3, x4, x5, S)
    else
    (f_X12_looks_139 FU S x0 x1 x2 x3 x4 x5 x6 x7 x3).bind fun (x0, x1_139, x2_139, x3_139, x4_139, x5_139, x6_139, x7_139, S_139) => f_X12_looks_131 n S_139 x0 x1_139 x2_139 x3_139 x4_139 x5_139 x6_139 (x7_139 + (-1)))
def f_X12_looks_83 : Nat → St → Nat → Int32 → Int32 → Int32 → Int32 → Int32 → Option (Nat × Int32 × St)
  | 0, _, _, _, _, _, _, _ => none
  | n + 1, S, x0, x1, x2, x3, x4, x5 =>
    (if (20 : Int32) ≤ x5 then
    some (x0, x4, S)
    else
    (getR S (some x0) 13 77).bind fun v91 =>
    (ldI S v91 15 ((20 * x1) + x5)).bind fun v101 =>
    (if v101 = (-1) then
    (rcv S (some x0) 13).bind fun b114 =>
    (f_X12_bound S b114 x1 x5 1).bind fun v114 =>
    (rcv S (some x0) 13).bind fun b122 =>
    (f_X12_bound S b122 x1 x5 0).bind fun v122 =>
    (f_X12_looks_131 FU S x0 x1 x2 x3 x4 x5 (v114 - v122) x2).bind fun (x0, x1_131, x2_131, x3_131, x4_131, x5_131, S_131) => f_X12_looks_83 n S_131 x0 x1_131 x2_131 x3_131 x4_131 (x5_131 + 1)
    else
    f_X12_looks_83 n S x0 x1 x2 x3 x4 (x5 + 1)))
def f_X12_looks_319 : Nat → St → Nat → Int32 → Int32 → Int32 → Option (Nat × Int32 × Int32 × St)
  | 0, _, _, _, _, _ => none
  | n + 1, S, x0, x4, x5, x6 =>
    (if (21000 : Int32) ≤ x6 then
    some (x0, x4, x5, S)
    else
    (getR S (some x0) 13 79).bind fun v328 =>
    (ldI S v328 15 x6).bind fun v333 =>
    (getR S (some x0) 13 79).bind fun v335 =>
    (ldI S v335 15 x5).bind fun v340 =>
    (if v333 < v340 then
    f_X12_looks_319 n S x0 x4 x5 (x6 + 1)
    else
    (getR S (some x0) 13 79).bind fun v345 =>
    (ldI S v345 15 x6).bind fun v350 =>
    (if v350 = (-1) then
    f_X12_looks_319 n S x0 x4 x5 (x6 + 1)
    else
    (getR S (some x0) 13 79).bind fun v359 =>
    (ldI S v359 15 x6).bind fun v364 =>
    (getR S (some x0) 13 79).bind fun v366 =>
    (ldI S v366 15 x5).bind fun v371 =>
    (if v371 < v364 then
    f_X12_looks_319 n S x0 x4 x6 (x6 + 1)
    else
    (remI x6 1000).bind fun v380 =>
    (remI x5 1000).bind fun v386 =>
    (if v380 < v386 then
    f_X12_looks_319 n S x0 x4 x6 (x6 + 1)
    else
    (remI x6 1000).bind fun v395 =>
    (remI x5 1000).bind fun v401 =>
    (if v395 = v401 then
    (getR S (some x0) 13 80).bind fun v406 =>
    (ldI S v406 15 x6).bind fun v411 =>
    (getR S (some x0) 13 80).bind fun v413 =>
    (ldI S v413 15 x5).bind fun v418 =>
    (if v418 ≤ v411 then
    f_X12_looks_319 n S x0 x4 x5 (x6 + 1)
    else
    f_X12_looks_319 n S x0 x4 x6 (x6 + 1))
    else
    f_X12_looks_319 n S x0 x4 x5 (x6 + 1)))))))
def f_X12_looks (S : St) (x0 : Nat) (x1 : Int32) (x2 : Int32) (x3 : Int32) (x4 : Int32) : Option (Int32 × St) :=
    (rcv S (some x0) 13).bind fun b2 =>
    (f_X12_isFirm S b2 x1).bind fun v2 =>
    (if v2 = 0 then
    some ((-1), S)
    else
    (f_X12_isIn S x2 0 20).bind fun v12 =>
    (if v12 = 0 then
    some ((-1), S)
    else
    (f_X12_isIn S x3 0 999).bind fun v23 =>
    (if v23 = 0 then
    some ((-1), S)
    else
    (f_X12_isIn S x4 0 2).bind fun v33 =>
    (if v33 = 0 then
    some ((-1), S)
    else
    (f_X12_looks_44 FU S x0 x1 x2 x3 x4 0).bind fun (x0, x1_44, x2_44, x3_44, x4_44, S_44) => (getR S_44 (some x0) 13 79).bind fun v67 =>
    (stI S_44 v67 15 0 0).bind fun S72 =>
    (getR S72 (some x0) 13 80).bind fun v74 =>
    (stI S72 v74 15 0 0).bind fun S79 =>
    (f_X12_looks_83 FU S79 x0 x1_44 x2_44 x3_44 x4_44 0).bind fun (x0, x4_83, S_83) => (f_X12_looks_319 FU S_83 x0 x4_83 0 0).bind fun (x0, x4_319, x5_319, S_319) => (if x4_319 = 0 then
    (getR S_319 (some x0) 13 80).bind fun v438 =>
    (ldI S_319 v438 15 x5_319).bind fun v443 =>
    some (v443, S_319)
    else
    (if x4_319 = 1 then
    (getR S_319 (some x0) 13 79).bind fun v454 =>
    (ldI S_319 v454 15 x5_319).bind fun v459 =>
    some (v459, S_319)
    else
    (remI x5_319 1000).bind fun v468 =>
    some (v468, S_319)))))))
theorem b_X12_looks_44  {S0 S' : St} {rr : Int32} (C : Cx p s m args meth c G S0 yX12_looks cX12_looks 11 (Option.some Jvm.ClassFile.FieldType.int)) {o : (Nat × Int32 × Int32 × Int32 × Int32 × St)} (kX66 : ∀ {x0 : Nat} {x1 : Int32} {x2 : Int32} {x3 : Int32} {x4 : Int32} {Z : St}, o = (x0, x1, x2, x3, x4, Z) → ∀ ls : Array Slot, lv_has ls 11 [(0, va_rf (some x0)), (1, .int x1), (2, .int x2), (3, .int x3), (4, .int x4)] → V p l e (rmo 2 43 S0) s m args below meth c G S0 Z (QM below args s G S0 S' (some (.int rr))) (F0 m 66 ls [])) : ∀ (n : Nat) {S : St} {x0 : Nat} {x1 : Int32} {x2 : Int32} {x3 : Int32} {x4 : Int32} {x5 : Int32}, f_X12_looks_44 n S x0 x1 x2 x3 x4 x5 = some o → ∀ ls : Array Slot, lv_has ls 11 [(0, va_rf (some x0)), (1, .int x1), (2, .int x2), (3, .int x3), (4, .int x4), (5, .int x5)] → V p l e (rmo 2 43 S0) s m args below meth c G S0 S (QM below args s G S0 S' (some (.int rr))) (F0 m 44 ls []) := by
  intro n
  induction n with
  | zero => intro S x0 x1 x2 x3 x4 x5 hr; cases hr
  | succ n ih =>
    intro S x0 x1 x2 x3 x4 x5 hr ls hl
    unfold f_X12_looks_44 at hr
    refine v_iload C (lv_at hl 5 rfl) dX12_looks_44 ?_
    refine v_sipush C 21000 (by decide) dX12_looks_46 ?_
    refine v_icmp_ge C 66 (by decide) dX12_looks_49 (fun c49 => ?_) (fun c49 => ?_)
    · rw [if_pos c49] at hr
      obtain rfl := os hr
      exact kX66 rfl _ (lv_sub hl [0, 1, 2, 3, 4] rfl)
    · rw [if_neg c49] at hr
      refine v_aload_n C (lv_at hl 0 rfl) rfl dX12_looks_52 ?_
      obtain ⟨v53, e53, hr⟩ := ob hr
      refine v_getR C fl_RX12_187 rfl e53 dX12_looks_53 ?_
      refine v_iload C (lv_at hl 5 rfl) dX12_looks_56 ?_
      refine v_iconst C (-1) (by decide) dX12_looks_58 ?_
      obtain ⟨S59, e59, hr⟩ := ob hr
      refine v_stI_i C e59 dX12_looks_59 ?_
      refine v_iinc C (x5 + 1) (k0 := 5) (lv' := [(5, .int (x5 + 1)), (0, va_rf (some x0)), (1, .int x1), (2, .int x2), (3, .int x3), (4, .int x4)]) hl rfl rfl (by decide) rfl dX12_looks_60 (fun ls hl => ?_)
      refine v_goto C 44 (by decide) dX12_looks_63 ?_
      exact ih hr _ (lv_sub hl [1, 2, 3, 4, 5, 0] rfl)
theorem b_X12_looks_259  {S0 S S' : St} {rr : Int32} {x0 : Nat} {x1 : Int32} {x2 : Int32} {x3 : Int32} {x4 : Int32} {x5 : Int32} {x6 : Int32} {x7 : Int32} {x8 : Int32} {x9 : Int32} {x10 : Int32} (C : Cx p s m args meth c G S0 yX12_looks cX12_looks 11 (Option.some Jvm.ClassFile.FieldType.int)) {o : (Nat × Int32 × Int32 × Int32 × Int32 × Int32 × Int32 × Int32 × St)} {rec : St → Nat → Int32 → Int32 → Int32 → Int32 → Int32 → Int32 → Int32 → Int32 → Option (Nat × Int32 × Int32 × Int32 × Int32 × Int32 × Int32 × Int32 × St)} (kX301 : ∀ {x0 : Nat} {x1 : Int32} {x2 : Int32} {x3 : Int32} {x4 : Int32} {x5 : Int32} {x6 : Int32} {x7 : Int32} {Z : St}, o = (x0, x1, x2, x3, x4, x5, x6, x7, Z) → ∀ ls : Array Slot, lv_has ls 11 [(0, va_rf (some x0)), (1, .int x1), (2, .int x2), (3, .int x3), (4, .int x4), (5, .int x5), (6, .int x6), (7, .int x7)] → V p l e (rmo 2 43 S0) s m args below meth c G S0 Z (QM below args s G S0 S' (some (.int rr))) (F0 m 301 ls [])) (ihk : ∀ {S : St} {x0 : Nat} {x1 : Int32} {x2 : Int32} {x3 : Int32} {x4 : Int32} {x5 : Int32} {x6 : Int32} {x7 : Int32} {x8 : Int32}, rec S x0 x1 x2 x3 x4 x5 x6 x7 x8 = some o → ∀ ls : Array Slot, lv_has ls 11 [(0, va_rf (some x0)), (1, .int x1), (2, .int x2), (3, .int x3), (4, .int x4), (5, .int x5), (6, .int x6), (7, .int x7), (8, .int x8)] → V p l e (rmo 2 43 S0) s m args below meth c G S0 S (QM below args s G S0 S' (some (.int rr))) (F0 m 139 ls [])) (hr : f_X12_looks_259 rec S x0 x1 x2 x3 x4 x5 x6 x7 x8 x9 x10 = some o) : ∀ ls : Array Slot, lv_has ls 11 [(0, va_rf (some x0)), (1, .int x1), (2, .int x2), (3, .int x3), (4, .int x4), (5, .int x5), (6, .int x6), (7, .int x7), (8, .int x8), (9, .int x9), (10, .int x10)] → V p l e (rmo 2 43 S0) s m args below meth c G S0 S (QM below args s G S0 S' (some (.int rr))) (F0 m 259 ls []) := by
  intro ls hl
  unfold f_X12_looks_259 at hr
  refine v_aload_n C (lv_at hl 0 rfl) rfl dX12_looks_259 ?_
  obtain ⟨v260, e260, hr⟩ := ob hr
  refine v_getR C fl_RX12_187 rfl e260 dX12_looks_260 ?_
  refine v_iload C (lv_at hl 10 rfl) dX12_looks_263 ?_
  refine v_aload_n C (lv_at hl 0 rfl) rfl dX12_looks_265 ?_
  obtain ⟨v266, e266, hr⟩ := ob hr
  refine v_getR C fl_RX12_187 rfl e266 dX12_looks_266 ?_
  refine v_iload C (lv_at hl 9 rfl) dX12_looks_269 ?_
  obtain ⟨v271, e271, hr⟩ := ob hr
  refine v_ldI_i C e271 dX12_looks_271 ?_
  refine v_iload C (lv_at hl 6 rfl) dX12_looks_272 ?_
  refine v_iadd C dX12_looks_274 ?_
  obtain ⟨S275, e275, hr⟩ := ob hr
  refine v_stI_i C e275 dX12_looks_275 ?_
  refine v_aload_n C (lv_at hl 0 rfl) rfl dX12_looks_276 ?_
  obtain ⟨v277, e277, hr⟩ := ob hr
  refine v_getR C fl_RX12_190 rfl e277 dX12_looks_277 ?_
  refine v_iload C (lv_at hl 10 rfl) dX12_looks_280 ?_
  refine v_aload_n C (lv_at hl 0 rfl) rfl dX12_looks_282 ?_
  obtain ⟨v283, e283, hr⟩ := ob hr
  refine v_getR C fl_RX12_190 rfl e283 dX12_looks_283 ?_
  refine v_iload C (lv_at hl 9 rfl) dX12_looks_286 ?_
  obtain ⟨v288, e288, hr⟩ := ob hr
  refine v_ldI_i C e288 dX12_looks_288 ?_
  refine v_iconst C 1 (by decide) dX12_looks_289 ?_
  refine v_iload C (lv_at hl 5 rfl) dX12_looks_290 ?_
  refine v_ishl C dX12_looks_292 ?_
  refine v_ior C dX12_looks_293 ?_
  obtain ⟨S294, e294, hr⟩ := ob hr
  refine v_stI_i C e294 dX12_looks_294 ?_
  refine v_iinc C (x8 + (-1)) (k0 := 8) (lv' := [(8, .int (x8 + (-1))), (0, va_rf (some x0)), (1, .int x1), (2, .int x2), (3, .int x3), (4, .int x4), (5, .int x5), (6, .int x6), (7, .int x7), (9, .int x9), (10, .int x10)]) hl rfl (congrArg (fun z => x8 + z) (show Int32.ofInt (-1) = (-1) by decide)) (by decide) rfl dX12_looks_295 (fun ls hl => ?_)
  refine v_goto C 139 (by decide) dX12_looks_298 ?_
  exact ihk hr _ (lv_sub hl [1, 2, 3, 4, 5, 6, 7, 8, 0] rfl)
theorem b_X12_looks_139  {S0 S' : St} {rr : Int32} (C : Cx p s m args meth c G S0 yX12_looks cX12_looks 11 (Option.some Jvm.ClassFile.FieldType.int)) {o : (Nat × Int32 × Int32 × Int32 × Int32 × Int32 × Int32 × Int32 × St)} (kX301 : ∀ {x0 : Nat} {x1 : Int32} {x2 : Int32} {x3 : Int32} {x4 : Int32} {x5 : Int32} {x6 : Int32} {x7 : Int32} {Z : St}, o = (x0, x1, x2, x3, x4, x5, x6, x7, Z) → ∀ ls : Array Slot, lv_has ls 11 [(0, va_rf (some x0)), (1, .int x1), (2, .int x2), (3, .int x3), (4, .int x4), (5, .int x5), (6, .int x6), (7, .int x7)] → V p l e (rmo 2 43 S0) s m args below meth c G S0 Z (QM below args s G S0 S' (some (.int rr))) (F0 m 301 ls [])) : ∀ (n : Nat) {S : St} {x0 : Nat} {x1 : Int32} {x2 : Int32} {x3 : Int32} {x4 : Int32} {x5 : Int32} {x6 : Int32} {x7 : Int32} {x8 : Int32}, f_X12_looks_139 n S x0 x1 x2 x3 x4 x5 x6 x7 x8 = some o → ∀ ls : Array Slot, lv_has ls 11 [(0, va_rf (some x0)), (1, .int x1), (2, .int x2), (3, .int x3), (4, .int x4), (5, .int x5), (6, .int x6), (7, .int x7), (8, .int x8)] → V p l e (rmo 2 43 S0) s m args below meth c G S0 S (QM below args s G S0 S' (some (.int rr))) (F0 m 139 ls []) := by
  intro n
  induction n with
  | zero => intro S x0 x1 x2 x3 x4 x5 x6 x7 x8 hr; cases hr
  | succ n ih =>
    intro S x0 x1 x2 x3 x4 x5 x6 x7 x8 hr ls hl
    unfold f_X12_looks_139 at hr
    refine v_iload C (lv_at hl 8 rfl) dX12_looks_139 ?_
    refine v_aload_n C (lv_at hl 0 rfl) rfl dX12_looks_141 ?_
    obtain ⟨v142, e142, hr⟩ := ob hr
    refine v_getR C fl_RX12_184 rfl e142 dX12_looks_142 ?_
    refine v_iload C (lv_at hl 5 rfl) dX12_looks_145 ?_
    obtain ⟨v147, e147, hr⟩ := ob hr
    refine v_ldI_i C e147 dX12_looks_147 ?_
    refine v_icmp_lt C 301 (by decide) dX12_looks_148 (fun c148 => ?_) (fun c148 => ?_)
    · rw [if_pos c148] at hr
      obtain rfl := os hr
      exact kX301 rfl _ (lv_sub hl [0, 1, 2, 3, 4, 5, 6, 7] rfl)
    · rw [if_neg c148] at hr
      refine v_sipush C 1000 (by decide) dX12_looks_151 ?_
      refine v_iload C (lv_at hl 7 rfl) dX12_looks_154 ?_
      refine v_iconst C 1 (by decide) dX12_looks_156 ?_
      refine v_isub C dX12_looks_157 ?_
      refine v_imul C dX12_looks_158 ?_
      refine v_iload C (lv_at hl 8 rfl) dX12_looks_159 ?_
      refine v_iadd C dX12_looks_161 ?_
      refine v_aload_n C (lv_at hl 0 rfl) rfl dX12_looks_162 ?_
      obtain ⟨v163, e163, hr⟩ := ob hr
      refine v_getR C fl_RX12_184 rfl e163 dX12_looks_163 ?_
      refine v_iload C (lv_at hl 5 rfl) dX12_looks_166 ?_
      obtain ⟨v168, e168, hr⟩ := ob hr
      refine v_ldI_i C e168 dX12_looks_168 ?_
      refine v_isub C dX12_looks_169 ?_
      refine v_istore C (i := 9) (lv' := [(9, .int (((1000 * (x7 - 1)) + x8) - v168)), (0, va_rf (some x0)), (1, .int x1), (2, .int x2), (3, .int x3), (4, .int x4), (5, .int x5), (6, .int x6), (7, .int x7), (8, .int x8)]) hl (by decide) rfl dX12_looks_170 (fun ls hl => ?_)
      refine v_sipush C 1000 (by decide) dX12_looks_172 ?_
      refine v_iload C (lv_at hl 8 rfl) dX12_looks_175 ?_
      refine v_imul C dX12_looks_177 ?_
      refine v_iload C (lv_at hl 9 rfl) dX12_looks_178 ?_
      refine v_iadd C dX12_looks_180 ?_
      refine v_istore C (i := 10) (lv' := [(10, .int ((1000 * x7) + x8)), (9, .int (((1000 * (x7 - 1)) + x8) - v168)), (0, va_rf (some x0)), (1, .int x1), (2, .int x2), (3, .int x3), (4, .int x4), (5, .int x5), (6, .int x6), (7, .int x7), (8, .int x8)]) hl (by decide) rfl dX12_looks_181 (fun ls hl => ?_)
      refine v_aload_n C (lv_at hl 2 rfl) rfl dX12_looks_183 ?_
      obtain ⟨v184, e184, hr⟩ := ob hr
      refine v_getR C fl_RX12_187 rfl e184 dX12_looks_184 ?_
      refine v_iload C (lv_at hl 1 rfl) dX12_looks_187 ?_
      obtain ⟨v189, e189, hr⟩ := ob hr
      refine v_ldI_i C e189 dX12_looks_189 ?_
      refine v_iconst C (-1) (by decide) dX12_looks_190 ?_
      refine v_icmp_eq C 295 (by decide) dX12_looks_191 (fun c191 => ?_) (fun c191 => ?_)
      · rw [if_pos c191] at hr
        refine v_iinc C (x8 + (-1)) (k0 := 10) (lv' := [(8, .int (x8 + (-1))), (10, .int ((1000 * x7) + x8)), (9, .int (((1000 * (x7 - 1)) + x8) - v168)), (0, va_rf (some x0)), (1, .int x1), (2, .int x2), (3, .int x3), (4, .int x4), (5, .int x5), (6, .int x6), (7, .int x7)]) hl rfl (congrArg (fun z => x8 + z) (show Int32.ofInt (-1) = (-1) by decide)) (by decide) rfl dX12_looks_295 (fun ls hl => ?_)
        refine v_goto C 139 (by decide) dX12_looks_298 ?_
        exact ih hr _ (lv_sub hl [3, 4, 5, 6, 7, 8, 9, 10, 0] rfl)
      · rw [if_neg c191] at hr
        refine v_aload_n C (lv_at hl 2 rfl) rfl dX12_looks_194 ?_
        obtain ⟨v195, e195, hr⟩ := ob hr
        refine v_getR C fl_RX12_187 rfl e195 dX12_looks_195 ?_
        refine v_iload C (lv_at hl 1 rfl) dX12_looks_198 ?_
        obtain ⟨v200, e200, hr⟩ := ob hr
        refine v_ldI_i C e200 dX12_looks_200 ?_
        refine v_iload C (lv_at hl 8 rfl) dX12_looks_201 ?_
        refine v_iadd C dX12_looks_203 ?_
        refine v_aload_n C (lv_at hl 2 rfl) rfl dX12_looks_204 ?_
        obtain ⟨v205, e205, hr⟩ := ob hr
        refine v_getR C fl_RX12_187 rfl e205 dX12_looks_205 ?_
        refine v_iload C (lv_at hl 0 rfl) dX12_looks_208 ?_
        obtain ⟨v210, e210, hr⟩ := ob hr
        refine v_ldI_i C e210 dX12_looks_210 ?_
        refine v_icmp_lt C 295 (by decide) dX12_looks_211 (fun c211 => ?_) (fun c211 => ?_)
        · rw [if_pos c211] at hr
          refine v_iinc C (x8 + (-1)) (k0 := 10) (lv' := [(8, .int (x8 + (-1))), (10, .int ((1000 * x7) + x8)), (9, .int (((1000 * (x7 - 1)) + x8) - v168)), (0, va_rf (some x0)), (1, .int x1), (2, .int x2), (3, .int x3), (4, .int x4), (5, .int x5), (6, .int x6), (7, .int x7)]) hl rfl (congrArg (fun z => x8 + z) (show Int32.ofInt (-1) = (-1) by decide)) (by decide) rfl dX12_looks_295 (fun ls hl => ?_)
          refine v_goto C 139 (by decide) dX12_looks_298 ?_
          exact ih hr _ (lv_sub hl [3, 4, 5, 6, 7, 8, 9, 10, 0] rfl)
        · rw [if_neg c211] at hr
          refine v_aload_n C (lv_at hl 2 rfl) rfl dX12_looks_214 ?_
          obtain ⟨v215, e215, hr⟩ := ob hr
          refine v_getR C fl_RX12_187 rfl e215 dX12_looks_215 ?_
          refine v_iload C (lv_at hl 1 rfl) dX12_looks_218 ?_
          obtain ⟨v220, e220, hr⟩ := ob hr
          refine v_ldI_i C e220 dX12_looks_220 ?_
          refine v_iload C (lv_at hl 8 rfl) dX12_looks_221 ?_
          refine v_iadd C dX12_looks_223 ?_
          refine v_aload_n C (lv_at hl 2 rfl) rfl dX12_looks_224 ?_
          obtain ⟨v225, e225, hr⟩ := ob hr
          refine v_getR C fl_RX12_187 rfl e225 dX12_looks_225 ?_
          refine v_iload C (lv_at hl 0 rfl) dX12_looks_228 ?_
          obtain ⟨v230, e230, hr⟩ := ob hr
          refine v_ldI_i C e230 dX12_looks_230 ?_
          refine v_icmp_ne C 259 (by decide) dX12_looks_231 (fun c231 => ?_) (fun c231 => ?_)
          · rw [if_neg c231] at hr
            exact b_X12_looks_259 C (@kX301) (@ih) hr _ (lv_sub hl [2, 3, 4, 5, 6, 7, 8, 9, 10, 1, 0] rfl)
          · rw [if_pos c231] at hr
            refine v_aload_n C (lv_at hl 2 rfl) rfl dX12_looks_234 ?_
            obtain ⟨v235, e235, hr⟩ := ob hr
            refine v_getR C fl_RX12_190 rfl e235 dX12_looks_235 ?_
            refine v_iload C (lv_at hl 1 rfl) dX12_looks_238 ?_
            obtain ⟨v240, e240, hr⟩ := ob hr
            refine v_ldI_i C e240 dX12_looks_240 ?_
            refine v_iconst C 1 (by decide) dX12_looks_241 ?_
            refine v_iload C (lv_at hl 7 rfl) dX12_looks_242 ?_
            refine v_ishl C dX12_looks_244 ?_
            refine v_ior C dX12_looks_245 ?_
            refine v_aload_n C (lv_at hl 2 rfl) rfl dX12_looks_246 ?_
            obtain ⟨v247, e247, hr⟩ := ob hr
            refine v_getR C fl_RX12_190 rfl e247 dX12_looks_247 ?_
            refine v_iload C (lv_at hl 0 rfl) dX12_looks_250 ?_
            obtain ⟨v252, e252, hr⟩ := ob hr
            refine v_ldI_i C e252 dX12_looks_252 ?_
            refine v_icmp_lt C 259 (by decide) dX12_looks_253 (fun c253 => ?_) (fun c253 => ?_)
            · rw [if_pos c253] at hr
              exact b_X12_looks_259 C (@kX301) (@ih) hr _ (lv_sub hl [2, 3, 4, 5, 6, 7, 8, 9, 10, 1, 0] rfl)
            · rw [if_neg c253] at hr
              refine v_goto C 295 (by decide) dX12_looks_256 ?_
              refine v_iinc C (x8 + (-1)) (k0 := 10) (lv' := [(8, .int (x8 + (-1))), (10, .int ((1000 * x7) + x8)), (9, .int (((1000 * (x7 - 1)) + x8) - v168)), (0, va_rf (some x0)), (1, .int x1), (2, .int x2), (3, .int x3), (4, .int x4), (5, .int x5), (6, .int x6), (7, .int x7)]) hl rfl (congrArg (fun z => x8 + z) (show Int32.ofInt (-1) = (-1) by decide)) (by decide) rfl dX12_looks_295 (fun ls hl => ?_)
              refine v_goto C 139 (by decide) dX12_looks_298 ?_
              exact ih hr _ (lv_sub hl [3, 4, 5, 6, 7, 8, 9, 10, 0] rfl)
theorem b_X12_looks_131  {S0 S' : St} {rr : Int32} (C : Cx p s m args meth c G S0 yX12_looks cX12_looks 11 (Option.some Jvm.ClassFile.FieldType.int)) {o : (Nat × Int32 × Int32 × Int32 × Int32 × Int32 × St)} (kX307 : ∀ {x0 : Nat} {x1 : Int32} {x2 : Int32} {x3 : Int32} {x4 : Int32} {x5 : Int32} {Z : St}, o = (x0, x1, x2, x3, x4, x5, Z) → ∀ ls : Array Slot, lv_has ls 11 [(0, va_rf (some x0)), (1, .int x1), (2, .int x2), (3, .int x3), (4, .int x4), (5, .int x5)] → V p l e (rmo 2 43 S0) s m args below meth c G S0 Z (QM below args s G S0 S' (some (.int rr))) (F0 m 307 ls [])) : ∀ (n : Nat) {S : St} {x0 : Nat} {x1 : Int32} {x2 : Int32} {x3 : Int32} {x4 : Int32} {x5 : Int32} {x6 : Int32} {x7 : Int32}, f_X12_looks_131 n S x0 x1 x2 x3 x4 x5 x6 x7 = some o → ∀ ls : Array Slot, lv_has ls 11 [(0, va_rf (some x0)), (1, .int x1), (2, .int x2), (3, .int x3), (4, .int x4), (5, .int x5), (6, .int x6), (7, .int x7)] → V p l e (rmo 2 43 S0) s m args below meth c G S0 S (QM below args s G S0 S' (some (.int rr))) (F0 m 131 ls []) := by
  intro n
  induction n with
  | zero => intro S x0 x1 x2 x3 x4 x5 x6 x7 hr; cases hr
  | succ n ih =>
    intro S x0 x1 x2 x3 x4 x5 x6 x7 hr ls hl
    unfold f_X12_looks_131 at hr
    refine v_iload C (lv_at hl 7 rfl) dX12_looks_131 ?_
    refine v_if_le C 307 (by decide) dX12_looks_133 (fun c133 => ?_) (fun c133 => ?_)
    · rw [if_pos c133] at hr
      obtain rfl := os hr
      exact kX307 rfl _ (lv_sub hl [0, 1, 2, 3, 4, 5] rfl)
    · rw [if_neg c133] at hr
      refine v_iload_n C (lv_at hl 3 rfl) rfl dX12_looks_136 ?_
      refine v_istore C (i := 8) (lv' := [(8, .int x3), (0, va_rf (some x0)), (1, .int x1), (2, .int x2), (3, .int x3), (4, .int x4), (5, .int x5), (6, .int x6), (7, .int x7)]) hl (by decide) rfl dX12_looks_137 (fun ls hl => ?_)
      obtain ⟨o139, e139, hr⟩ := ob hr
      refine b_X12_looks_139 C ?_ FU e139 _ (lv_sub hl [1, 2, 3, 4, 5, 6, 7, 8, 0] rfl)
      · intro x0 x1_139 x2_139 x3_139 x4_139 x5_139 x6_139 x7_139 S_139 q ls hl
        subst q
        (try dsimp only at hr)
        refine v_iinc C (x7_139 + (-1)) (k0 := 7) (lv' := [(7, .int (x7_139 + (-1))), (0, va_rf (some x0)), (1, .int x1_139), (2, .int x2_139), (3, .int x3_139), (4, .int x4_139), (5, .int x5_139), (6, .int x6_139)]) hl rfl (congrArg (fun z => x7_139 + z) (show Int32.ofInt (-1) = (-1) by decide)) (by decide) rfl dX12_looks_301 (fun ls hl => ?_)
        refine v_goto C 131 (by decide) dX12_looks_304 ?_
        exact ih hr _ (lv_sub hl [1, 2, 3, 4, 5, 6, 7, 0] rfl)
theorem b_X12_looks_83  {S0 S' : St} {rr : Int32} (C : Cx p s m args meth c G S0 yX12_looks cX12_looks 11 (Option.some Jvm.ClassFile.FieldType.int)) {o : (Nat × Int32 × St)} (kX313 : ∀ {x0 : Nat} {x4 : Int32} {Z : St}, o = (x0, x4, Z) → ∀ ls : Array Slot, lv_has ls 11 [(0, va_rf (some x0)), (4, .int x4)] → V p l e (rmo 2 43 S0) s m args below meth c G S0 Z (QM below args s G S0 S' (some (.int rr))) (F0 m 313 ls [])) : ∀ (n : Nat) {S : St} {x0 : Nat} {x1 : Int32} {x2 : Int32} {x3 : Int32} {x4 : Int32} {x5 : Int32}, f_X12_looks_83 n S x0 x1 x2 x3 x4 x5 = some o → ∀ ls : Array Slot, lv_has ls 11 [(0, va_rf (some x0)), (1, .int x1), (2, .int x2), (3, .int x3), (4, .int x4), (5, .int x5)] → V p l e (rmo 2 43 S0) s m args below meth c G S0 S (QM below args s G S0 S' (some (.int rr))) (F0 m 83 ls []) := by
  intro n
  induction n with
  | zero => intro S x0 x1 x2 x3 x4 x5 hr; cases hr
  | succ n ih =>
    intro S x0 x1 x2 x3 x4 x5 hr ls hl
    unfold f_X12_looks_83 at hr
    refine v_iload C (lv_at hl 5 rfl) dX12_looks_83 ?_
    refine v_bipush C 20 (by decide) dX12_looks_85 ?_
    refine v_icmp_ge C 313 (by decide) dX12_looks_87 (fun c87 => ?_) (fun c87 => ?_)
    · rw [if_pos c87] at hr
      obtain rfl := os hr
      exact kX313 rfl _ (lv_sub hl [0, 4] rfl)
    · rw [if_neg c87] at hr
      refine v_aload_n C (lv_at hl 0 rfl) rfl dX12_looks_90 ?_
      obtain ⟨v91, e91, hr⟩ := ob hr
      refine v_getR C fl_RX12_181 rfl e91 dX12_looks_91 ?_
      refine v_bipush C 20 (by decide) dX12_looks_94 ?_
      refine v_iload_n C (lv_at hl 1 rfl) rfl dX12_looks_96 ?_
      refine v_imul C dX12_looks_97 ?_
      refine v_iload C (lv_at hl 5 rfl) dX12_looks_98 ?_
      refine v_iadd C dX12_looks_100 ?_
      obtain ⟨v101, e101, hr⟩ := ob hr
      refine v_ldI_i C e101 dX12_looks_101 ?_
      refine v_iconst C (-1) (by decide) dX12_looks_102 ?_
      refine v_icmp_eq C 109 (by decide) dX12_looks_103 (fun c103 => ?_) (fun c103 => ?_)
      · rw [if_pos c103] at hr
        refine v_aload_n C (lv_at hl 0 rfl) rfl dX12_looks_109 ?_
        refine v_iload_n C (lv_at hl 1 rfl) rfl dX12_looks_110 ?_
        refine v_iload C (lv_at hl 5 rfl) dX12_looks_111 ?_
        refine v_iconst C 1 (by decide) dX12_looks_113 ?_
        obtain ⟨b114, f114, hr⟩ := ob hr
        obtain ⟨g114, h114⟩ := rcv_n f114
        obtain ⟨v114, e114, hr⟩ := ob hr
        refine v_callV C (b := b114) h114 (by decide) rfl rfl (k_X12_bound e114) cw_X12_bound w_1911 w_1913 w_100 (show (parseMethodDescriptor (yX12_bound).desc).map (fun d => d.parameters.length) = some 3 by decide +kernel) ⟨by decide, by decide⟩ (rest := []) (stk2 := [.int v114]) (by rw [g114]; rfl) rfl (Nat.le_of_ble_eq_true rfl) hl dX12_looks_114 ?_
        refine v_aload_n C (lv_at hl 0 rfl) rfl dX12_looks_117 ?_
        refine v_iload_n C (lv_at hl 1 rfl) rfl dX12_looks_118 ?_
        refine v_iload C (lv_at hl 5 rfl) dX12_looks_119 ?_
        refine v_iconst C 0 (by decide) dX12_looks_121 ?_
        obtain ⟨b122, f122, hr⟩ := ob hr
        obtain ⟨g122, h122⟩ := rcv_n f122
        obtain ⟨v122, e122, hr⟩ := ob hr
        refine v_callV C (b := b122) h122 (by decide) rfl rfl (k_X12_bound e122) cw_X12_bound w_1911 w_1913 w_100 (show (parseMethodDescriptor (yX12_bound).desc).map (fun d => d.parameters.length) = some 3 by decide +kernel) ⟨by decide, by decide⟩ (rest := [.int v114]) (stk2 := [.int v122, .int v114]) (by rw [g122]; rfl) rfl (Nat.le_of_ble_eq_true rfl) hl dX12_looks_122 ?_
        refine v_isub C dX12_looks_125 ?_
        refine v_istore C (i := 6) (lv' := [(6, .int (v114 - v122)), (0, va_rf (some x0)), (1, .int x1), (2, .int x2), (3, .int x3), (4, .int x4), (5, .int x5)]) hl (by decide) rfl dX12_looks_126 (fun ls hl => ?_)
        refine v_iload_n C (lv_at hl 3 rfl) rfl dX12_looks_128 ?_
        refine v_istore C (i := 7) (lv' := [(7, .int x2), (6, .int (v114 - v122)), (0, va_rf (some x0)), (1, .int x1), (2, .int x2), (3, .int x3), (4, .int x4), (5, .int x5)]) hl (by decide) rfl dX12_looks_129 (fun ls hl => ?_)
        obtain ⟨o131, e131, hr⟩ := ob hr
        refine b_X12_looks_131 C ?_ FU e131 _ (lv_sub hl [2, 3, 4, 5, 6, 7, 1, 0] rfl)
        · intro x0 x1_131 x2_131 x3_131 x4_131 x5_131 S_131 q ls hl
          subst q
          (try dsimp only at hr)
          refine v_iinc C (x5_131 + 1) (k0 := 5) (lv' := [(5, .int (x5_131 + 1)), (0, va_rf (some x0)), (1, .int x1_131), (2, .int x2_131), (3, .int x3_131), (4, .int x4_131)]) hl rfl rfl (by decide) rfl dX12_looks_307 (fun ls hl => ?_)
          refine v_goto C 83 (by decide) dX12_looks_310 ?_
          exact ih hr _ (lv_sub hl [1, 2, 3, 4, 5, 0] rfl)
      · rw [if_neg c103] at hr
        refine v_goto C 307 (by decide) dX12_looks_106 ?_
        refine v_iinc C (x5 + 1) (k0 := 5) (lv' := [(5, .int (x5 + 1)), (0, va_rf (some x0)), (1, .int x1), (2, .int x2), (3, .int x3), (4, .int x4)]) hl rfl rfl (by decide) rfl dX12_looks_307 (fun ls hl => ?_)
        refine v_goto C 83 (by decide) dX12_looks_310 ?_
        exact ih hr _ (lv_sub hl [1, 2, 3, 4, 5, 0] rfl)
theorem b_X12_looks_319  {S0 S' : St} {rr : Int32} (C : Cx p s m args meth c G S0 yX12_looks cX12_looks 11 (Option.some Jvm.ClassFile.FieldType.int)) {o : (Nat × Int32 × Int32 × St)} (kX432 : ∀ {x0 : Nat} {x4 : Int32} {x5 : Int32} {Z : St}, o = (x0, x4, x5, Z) → ∀ ls : Array Slot, lv_has ls 11 [(0, va_rf (some x0)), (4, .int x4), (5, .int x5)] → V p l e (rmo 2 43 S0) s m args below meth c G S0 Z (QM below args s G S0 S' (some (.int rr))) (F0 m 432 ls [])) : ∀ (n : Nat) {S : St} {x0 : Nat} {x4 : Int32} {x5 : Int32} {x6 : Int32}, f_X12_looks_319 n S x0 x4 x5 x6 = some o → ∀ ls : Array Slot, lv_has ls 11 [(0, va_rf (some x0)), (4, .int x4), (5, .int x5), (6, .int x6)] → V p l e (rmo 2 43 S0) s m args below meth c G S0 S (QM below args s G S0 S' (some (.int rr))) (F0 m 319 ls []) := by
  intro n
  induction n with
  | zero => intro S x0 x4 x5 x6 hr; cases hr
  | succ n ih =>
    intro S x0 x4 x5 x6 hr ls hl
    unfold f_X12_looks_319 at hr
    refine v_iload C (lv_at hl 3 rfl) dX12_looks_319 ?_
    refine v_sipush C 21000 (by decide) dX12_looks_321 ?_
    refine v_icmp_ge C 432 (by decide) dX12_looks_324 (fun c324 => ?_) (fun c324 => ?_)
    · rw [if_pos c324] at hr
      obtain rfl := os hr
      exact kX432 rfl _ (lv_sub hl [0, 1, 2] rfl)
    · rw [if_neg c324] at hr
      refine v_aload_n C (lv_at hl 0 rfl) rfl dX12_looks_327 ?_
      obtain ⟨v328, e328, hr⟩ := ob hr
      refine v_getR C fl_RX12_187 rfl e328 dX12_looks_328 ?_
      refine v_iload C (lv_at hl 3 rfl) dX12_looks_331 ?_
      obtain ⟨v333, e333, hr⟩ := ob hr
      refine v_ldI_i C e333 dX12_looks_333 ?_
      refine v_aload_n C (lv_at hl 0 rfl) rfl dX12_looks_334 ?_
      obtain ⟨v335, e335, hr⟩ := ob hr
      refine v_getR C fl_RX12_187 rfl e335 dX12_looks_335 ?_
      refine v_iload C (lv_at hl 2 rfl) dX12_looks_338 ?_
      obtain ⟨v340, e340, hr⟩ := ob hr
      refine v_ldI_i C e340 dX12_looks_340 ?_
      refine v_icmp_lt C 426 (by decide) dX12_looks_341 (fun c341 => ?_) (fun c341 => ?_)
      · rw [if_pos c341] at hr
        refine v_iinc C (x6 + 1) (k0 := 3) (lv' := [(6, .int (x6 + 1)), (0, va_rf (some x0)), (4, .int x4), (5, .int x5)]) hl rfl rfl (by decide) rfl dX12_looks_426 (fun ls hl => ?_)
        refine v_goto C 319 (by decide) dX12_looks_429 ?_
        exact ih hr _ (lv_sub hl [1, 2, 3, 0] rfl)
      · rw [if_neg c341] at hr
        refine v_aload_n C (lv_at hl 0 rfl) rfl dX12_looks_344 ?_
        obtain ⟨v345, e345, hr⟩ := ob hr
        refine v_getR C fl_RX12_187 rfl e345 dX12_looks_345 ?_
        refine v_iload C (lv_at hl 3 rfl) dX12_looks_348 ?_
        obtain ⟨v350, e350, hr⟩ := ob hr
        refine v_ldI_i C e350 dX12_looks_350 ?_
        refine v_iconst C (-1) (by decide) dX12_looks_351 ?_
        refine v_icmp_ne C 358 (by decide) dX12_looks_352 (fun c352 => ?_) (fun c352 => ?_)
        · rw [if_neg c352] at hr
          refine v_aload_n C (lv_at hl 0 rfl) rfl dX12_looks_358 ?_
          obtain ⟨v359, e359, hr⟩ := ob hr
          refine v_getR C fl_RX12_187 rfl e359 dX12_looks_359 ?_
          refine v_iload C (lv_at hl 3 rfl) dX12_looks_362 ?_
          obtain ⟨v364, e364, hr⟩ := ob hr
          refine v_ldI_i C e364 dX12_looks_364 ?_
          refine v_aload_n C (lv_at hl 0 rfl) rfl dX12_looks_365 ?_
          obtain ⟨v366, e366, hr⟩ := ob hr
          refine v_getR C fl_RX12_187 rfl e366 dX12_looks_366 ?_
          refine v_iload C (lv_at hl 2 rfl) dX12_looks_369 ?_
          obtain ⟨v371, e371, hr⟩ := ob hr
          refine v_ldI_i C e371 dX12_looks_371 ?_
          refine v_icmp_gt C 422 (by decide) dX12_looks_372 (fun c372 => ?_) (fun c372 => ?_)
          · rw [if_pos c372] at hr
            refine v_iload C (lv_at hl 3 rfl) dX12_looks_422 ?_
            refine v_istore C (i := 5) (lv' := [(5, .int x6), (0, va_rf (some x0)), (4, .int x4), (6, .int x6)]) hl (by decide) rfl dX12_looks_424 (fun ls hl => ?_)
            refine v_iinc C (x6 + 1) (k0 := 3) (lv' := [(6, .int (x6 + 1)), (5, .int x6), (0, va_rf (some x0)), (4, .int x4)]) hl rfl rfl (by decide) rfl dX12_looks_426 (fun ls hl => ?_)
            refine v_goto C 319 (by decide) dX12_looks_429 ?_
            exact ih hr _ (lv_sub hl [2, 3, 1, 0] rfl)
          · rw [if_neg c372] at hr
            refine v_iload C (lv_at hl 3 rfl) dX12_looks_375 ?_
            refine v_sipush C 1000 (by decide) dX12_looks_377 ?_
            obtain ⟨v380, e380, hr⟩ := ob hr
            refine v_irem C e380 dX12_looks_380 ?_
            refine v_iload C (lv_at hl 2 rfl) dX12_looks_381 ?_
            refine v_sipush C 1000 (by decide) dX12_looks_383 ?_
            obtain ⟨v386, e386, hr⟩ := ob hr
            refine v_irem C e386 dX12_looks_386 ?_
            refine v_icmp_lt C 422 (by decide) dX12_looks_387 (fun c387 => ?_) (fun c387 => ?_)
            · rw [if_pos c387] at hr
              refine v_iload C (lv_at hl 3 rfl) dX12_looks_422 ?_
              refine v_istore C (i := 5) (lv' := [(5, .int x6), (0, va_rf (some x0)), (4, .int x4), (6, .int x6)]) hl (by decide) rfl dX12_looks_424 (fun ls hl => ?_)
              refine v_iinc C (x6 + 1) (k0 := 3) (lv' := [(6, .int (x6 + 1)), (5, .int x6), (0, va_rf (some x0)), (4, .int x4)]) hl rfl rfl (by decide) rfl dX12_looks_426 (fun ls hl => ?_)
              refine v_goto C 319 (by decide) dX12_looks_429 ?_
              exact ih hr _ (lv_sub hl [2, 3, 1, 0] rfl)
            · rw [if_neg c387] at hr
              refine v_iload C (lv_at hl 3 rfl) dX12_looks_390 ?_
              refine v_sipush C 1000 (by decide) dX12_looks_392 ?_
              obtain ⟨v395, e395, hr⟩ := ob hr
              refine v_irem C e395 dX12_looks_395 ?_
              refine v_iload C (lv_at hl 2 rfl) dX12_looks_396 ?_
              refine v_sipush C 1000 (by decide) dX12_looks_398 ?_
              obtain ⟨v401, e401, hr⟩ := ob hr
              refine v_irem C e401 dX12_looks_401 ?_
              refine v_icmp_ne C 426 (by decide) dX12_looks_402 (fun c402 => ?_) (fun c402 => ?_)
              · rw [if_neg c402] at hr
                refine v_iinc C (x6 + 1) (k0 := 3) (lv' := [(6, .int (x6 + 1)), (0, va_rf (some x0)), (4, .int x4), (5, .int x5)]) hl rfl rfl (by decide) rfl dX12_looks_426 (fun ls hl => ?_)
                refine v_goto C 319 (by decide) dX12_looks_429 ?_
                exact ih hr _ (lv_sub hl [1, 2, 3, 0] rfl)
              · rw [if_pos c402] at hr
                refine v_aload_n C (lv_at hl 0 rfl) rfl dX12_looks_405 ?_
                obtain ⟨v406, e406, hr⟩ := ob hr
                refine v_getR C fl_RX12_190 rfl e406 dX12_looks_406 ?_
                refine v_iload C (lv_at hl 3 rfl) dX12_looks_409 ?_
                obtain ⟨v411, e411, hr⟩ := ob hr
                refine v_ldI_i C e411 dX12_looks_411 ?_
                refine v_aload_n C (lv_at hl 0 rfl) rfl dX12_looks_412 ?_
                obtain ⟨v413, e413, hr⟩ := ob hr
                refine v_getR C fl_RX12_190 rfl e413 dX12_looks_413 ?_
                refine v_iload C (lv_at hl 2 rfl) dX12_looks_416 ?_
                obtain ⟨v418, e418, hr⟩ := ob hr
                refine v_ldI_i C e418 dX12_looks_418 ?_
                refine v_icmp_ge C 426 (by decide) dX12_looks_419 (fun c419 => ?_) (fun c419 => ?_)
                · rw [if_pos c419] at hr
                  refine v_iinc C (x6 + 1) (k0 := 3) (lv' := [(6, .int (x6 + 1)), (0, va_rf (some x0)), (4, .int x4), (5, .int x5)]) hl rfl rfl (by decide) rfl dX12_looks_426 (fun ls hl => ?_)
                  refine v_goto C 319 (by decide) dX12_looks_429 ?_
                  exact ih hr _ (lv_sub hl [1, 2, 3, 0] rfl)
                · rw [if_neg c419] at hr
                  refine v_iload C (lv_at hl 3 rfl) dX12_looks_422 ?_
                  refine v_istore C (i := 5) (lv' := [(5, .int x6), (0, va_rf (some x0)), (4, .int x4), (6, .int x6)]) hl (by decide) rfl dX12_looks_424 (fun ls hl => ?_)
                  refine v_iinc C (x6 + 1) (k0 := 3) (lv' := [(6, .int (x6 + 1)), (5, .int x6), (0, va_rf (some x0)), (4, .int x4)]) hl rfl rfl (by decide) rfl dX12_looks_426 (fun ls hl => ?_)
                  refine v_goto C 319 (by decide) dX12_looks_429 ?_
                  exact ih hr _ (lv_sub hl [2, 3, 1, 0] rfl)
        · rw [if_pos c352] at hr
          refine v_goto C 426 (by decide) dX12_looks_355 ?_
          refine v_iinc C (x6 + 1) (k0 := 3) (lv' := [(6, .int (x6 + 1)), (0, va_rf (some x0)), (4, .int x4), (5, .int x5)]) hl rfl rfl (by decide) rfl dX12_looks_426 (fun ls hl => ?_)
          refine v_goto C 319 (by decide) dX12_looks_429 ?_
          exact ih hr _ (lv_sub hl [1, 2, 3, 0] rfl)
theorem k_X12_looks {l : Launch} {G : Ge} {S S' : St} {x0 : Nat} {x1 : Int32} {x2 : Int32} {x3 : Int32} {x4 : Int32} {rr : Int32} (hr : f_X12_looks S x0 x1 x2 x3 x4 = some (rr, S')) : Ct l G yX12_looks cX12_looks 11 (Option.some Jvm.ClassFile.FieldType.int) S [va_rf (some x0), .int x1, .int x2, .int x3, .int x4] (some (.int rr)) S' 2 43 := by
  refine ct_of (by decide +kernel) (Nat.le_of_ble_eq_true rfl) ?_
  intro p e s m args below meth c C ls hl
  have hl : lv_has ls 11 [(0, va_rf (some x0)), (1, .int x1), (2, .int x2), (3, .int x3), (4, .int x4)] := hl
  unfold f_X12_looks at hr
  refine v_aload_n C (lv_at hl 0 rfl) rfl dX12_looks_0 ?_
  refine v_iload_n C (lv_at hl 1 rfl) rfl dX12_looks_1 ?_
  obtain ⟨b2, f2, hr⟩ := ob hr
  obtain ⟨g2, h2⟩ := rcv_n f2
  obtain ⟨v2, e2, hr⟩ := ob hr
  refine v_callV C (b := b2) h2 (by decide) rfl rfl (k_X12_isFirm e2) cw_X12_isFirm w_1569 w_1571 w_52 (show (parseMethodDescriptor (yX12_isFirm).desc).map (fun d => d.parameters.length) = some 1 by decide +kernel) ⟨by decide, by decide⟩ (rest := []) (stk2 := [.int v2]) (by rw [g2]; rfl) rfl (Nat.le_of_ble_eq_true rfl) hl dX12_looks_2 ?_
  refine v_if_eq C 39 (by decide) dX12_looks_5 (fun c5 => ?_) (fun c5 => ?_)
  · rw [if_pos c5] at hr
    refine v_iconst C (-1) (by decide) dX12_looks_39 ?_
    obtain ⟨rfl, rfl⟩ := Prod.mk.inj (os hr)
    exact v_iret C dX12_looks_40
  · rw [if_neg c5] at hr
    refine v_iload_n C (lv_at hl 2 rfl) rfl dX12_looks_8 ?_
    refine v_iconst C 0 (by decide) dX12_looks_9 ?_
    refine v_bipush C 20 (by decide) dX12_looks_10 ?_
    obtain ⟨v12, e12, hr⟩ := ob hr
    refine v_callS C (k_X12_isIn e12) cw_X12_isIn w_1555 w_1556 (show (parseMethodDescriptor (yX12_isIn).desc).map (fun d => d.parameters.length) = some 3 by decide +kernel) ⟨by decide, by decide⟩ (rest := []) (stk2 := [.int v12]) rfl rfl (Nat.le_of_ble_eq_true rfl) hl dX12_looks_12 ?_
    refine v_if_eq C 39 (by decide) dX12_looks_15 (fun c15 => ?_) (fun c15 => ?_)
    · rw [if_pos c15] at hr
      refine v_iconst C (-1) (by decide) dX12_looks_39 ?_
      obtain ⟨rfl, rfl⟩ := Prod.mk.inj (os hr)
      exact v_iret C dX12_looks_40
    · rw [if_neg c15] at hr
      refine v_iload_n C (lv_at hl 3 rfl) rfl dX12_looks_18 ?_
      refine v_iconst C 0 (by decide) dX12_looks_19 ?_
      refine v_sipush C 999 (by decide) dX12_looks_20 ?_
      obtain ⟨v23, e23, hr⟩ := ob hr
      refine v_callS C (k_X12_isIn e23) cw_X12_isIn w_1555 w_1556 (show (parseMethodDescriptor (yX12_isIn).desc).map (fun d => d.parameters.length) = some 3 by decide +kernel) ⟨by decide, by decide⟩ (rest := []) (stk2 := [.int v23]) rfl rfl (Nat.le_of_ble_eq_true rfl) hl dX12_looks_23 ?_
      refine v_if_eq C 39 (by decide) dX12_looks_26 (fun c26 => ?_) (fun c26 => ?_)
      · rw [if_pos c26] at hr
        refine v_iconst C (-1) (by decide) dX12_looks_39 ?_
        obtain ⟨rfl, rfl⟩ := Prod.mk.inj (os hr)
        exact v_iret C dX12_looks_40
      · rw [if_neg c26] at hr
        refine v_iload C (lv_at hl 4 rfl) dX12_looks_29 ?_
        refine v_iconst C 0 (by decide) dX12_looks_31 ?_
        refine v_iconst C 2 (by decide) dX12_looks_32 ?_
        obtain ⟨v33, e33, hr⟩ := ob hr
        refine v_callS C (k_X12_isIn e33) cw_X12_isIn w_1555 w_1556 (show (parseMethodDescriptor (yX12_isIn).desc).map (fun d => d.parameters.length) = some 3 by decide +kernel) ⟨by decide, by decide⟩ (rest := []) (stk2 := [.int v33]) rfl rfl (Nat.le_of_ble_eq_true rfl) hl dX12_looks_33 ?_
        refine v_if_ne C 41 (by decide) dX12_looks_36 (fun c36 => ?_) (fun c36 => ?_)
        · rw [if_neg c36] at hr
          refine v_iconst C 0 (by decide) dX12_looks_41 ?_
          refine v_istore C (i := 5) (lv' := [(5, .int 0), (0, va_rf (some x0)), (1, .int x1), (2, .int x2), (3, .int x3), (4, .int x4)]) hl (by decide) rfl dX12_looks_42 (fun ls hl => ?_)
          obtain ⟨o44, e44, hr⟩ := ob hr
          refine b_X12_looks_44 C ?_ FU e44 _ (lv_sub hl [1, 2, 3, 4, 5, 0] rfl)
          · intro x0 x1_44 x2_44 x3_44 x4_44 S_44 q ls hl
            subst q
            (try dsimp only at hr)
            refine v_aload_n C (lv_at hl 0 rfl) rfl dX12_looks_66 ?_
            obtain ⟨v67, e67, hr⟩ := ob hr
            refine v_getR C fl_RX12_187 rfl e67 dX12_looks_67 ?_
            refine v_iconst C 0 (by decide) dX12_looks_70 ?_
            refine v_iconst C 0 (by decide) dX12_looks_71 ?_
            obtain ⟨S72, e72, hr⟩ := ob hr
            refine v_stI_i C e72 dX12_looks_72 ?_
            refine v_aload_n C (lv_at hl 0 rfl) rfl dX12_looks_73 ?_
            obtain ⟨v74, e74, hr⟩ := ob hr
            refine v_getR C fl_RX12_190 rfl e74 dX12_looks_74 ?_
            refine v_iconst C 0 (by decide) dX12_looks_77 ?_
            refine v_iconst C 0 (by decide) dX12_looks_78 ?_
            obtain ⟨S79, e79, hr⟩ := ob hr
            refine v_stI_i C e79 dX12_looks_79 ?_
            refine v_iconst C 0 (by decide) dX12_looks_80 ?_
            refine v_istore C (i := 5) (lv' := [(5, .int 0), (0, va_rf (some x0)), (1, .int x1_44), (2, .int x2_44), (3, .int x3_44), (4, .int x4_44)]) hl (by decide) rfl dX12_looks_81 (fun ls hl => ?_)
            obtain ⟨o83, e83, hr⟩ := ob hr
            refine b_X12_looks_83 C ?_ FU e83 _ (lv_sub hl [1, 2, 3, 4, 5, 0] rfl)
            · intro x0 x4_83 S_83 q ls hl
              subst q
              (try dsimp only at hr)
              refine v_iconst C 0 (by decide) dX12_looks_313 ?_
              refine v_istore C (i := 5) (lv' := [(5, .int 0), (0, va_rf (some x0)), (4, .int x4_83)]) hl (by decide) rfl dX12_looks_314 (fun ls hl => ?_)
              refine v_iconst C 0 (by decide) dX12_looks_316 ?_
              refine v_istore C (i := 6) (lv' := [(6, .int 0), (5, .int 0), (0, va_rf (some x0)), (4, .int x4_83)]) hl (by decide) rfl dX12_looks_317 (fun ls hl => ?_)
              obtain ⟨o319, e319, hr⟩ := ob hr
              refine b_X12_looks_319 C ?_ FU e319 _ (lv_sub hl [2, 3, 1, 0] rfl)
              · intro x0 x4_319 x5_319 S_319 q ls hl
                subst q
                (try dsimp only at hr)
                refine v_iload C (lv_at hl 1 rfl) dX12_looks_432 ?_
                refine v_if_ne C 447 (by decide) dX12_looks_434 (fun c434 => ?_) (fun c434 => ?_)
                · rw [if_neg c434] at hr
                  refine v_iload C (lv_at hl 1 rfl) dX12_looks_447 ?_
                  refine v_iconst C 1 (by decide) dX12_looks_449 ?_
                  refine v_icmp_ne C 463 (by decide) dX12_looks_450 (fun c450 => ?_) (fun c450 => ?_)
                  · rw [if_neg c450] at hr
                    refine v_iload C (lv_at hl 2 rfl) dX12_looks_463 ?_
                    refine v_sipush C 1000 (by decide) dX12_looks_465 ?_
                    obtain ⟨v468, e468, hr⟩ := ob hr
                    refine v_irem C e468 dX12_looks_468 ?_
                    obtain ⟨rfl, rfl⟩ := Prod.mk.inj (os hr)
                    exact v_iret C dX12_looks_469
                  · rw [if_pos c450] at hr
                    refine v_aload_n C (lv_at hl 0 rfl) rfl dX12_looks_453 ?_
                    obtain ⟨v454, e454, hr⟩ := ob hr
                    refine v_getR C fl_RX12_187 rfl e454 dX12_looks_454 ?_
                    refine v_iload C (lv_at hl 2 rfl) dX12_looks_457 ?_
                    obtain ⟨v459, e459, hr⟩ := ob hr
                    refine v_ldI_i C e459 dX12_looks_459 ?_
                    refine v_goto C 469 (by decide) dX12_looks_460 ?_
                    obtain ⟨rfl, rfl⟩ := Prod.mk.inj (os hr)
                    exact v_iret C dX12_looks_469
                · rw [if_pos c434] at hr
                  refine v_aload_n C (lv_at hl 0 rfl) rfl dX12_looks_437 ?_
                  obtain ⟨v438, e438, hr⟩ := ob hr
                  refine v_getR C fl_RX12_190 rfl e438 dX12_looks_438 ?_
                  refine v_iload C (lv_at hl 2 rfl) dX12_looks_441 ?_
                  obtain ⟨v443, e443, hr⟩ := ob hr
                  refine v_ldI_i C e443 dX12_looks_443 ?_
                  refine v_goto C 469 (by decide) dX12_looks_444 ?_
                  obtain ⟨rfl, rfl⟩ := Prod.mk.inj (os hr)
                  exact v_iret C dX12_looks_469
        · rw [if_pos c36] at hr
          refine v_iconst C (-1) (by decide) dX12_looks_39 ?_
          obtain ⟨rfl, rfl⟩ := Prod.mk.inj (os hr)
          exact v_iret C dX12_looks_40
end Mth
