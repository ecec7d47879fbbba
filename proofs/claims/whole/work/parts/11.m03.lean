section Mth
variable {p : Program} {l : Launch} {e : Env} {s : State} {m : MethodId} {args : Array Value} {below : List Frame} {meth : Method} {c : Code} {G : Ge}
-- X8_lives
def f_X8_lives (S : St) (x0 : Nat) : Option Int32 :=
    (getI S (some x0) 9 6).bind fun v1 =>
    (if v1 = (-1) then
    some 1
    else
    some 0)
theorem k_X8_lives {l : Launch} {G : Ge} {S : St} {x0 : Nat} {rr : Int32} (hr : f_X8_lives S x0 = some rr) : Ct l G yX8_lives cX8_lives 1 (Option.some Jvm.ClassFile.FieldType.boolean) S [va_rf (some x0)] (some (.int rr)) S 0 0 := by
  refine ct_of (by decide +kernel) (Nat.le_of_ble_eq_true rfl) ?_
  intro p e s m args below meth c C ls hl
  have hl : lv_has ls 1 [(0, va_rf (some x0))] := hl
  unfold f_X8_lives at hr
  refine v_aload_n C (lv_at hl 0 rfl) rfl dX8_lives_0 ?_
  obtain ⟨v1, e1, hr⟩ := ob hr
  refine v_getI C fl_RX8_15 rfl e1 dX8_lives_1 ?_
  refine v_iconst C (-1) (by decide) dX8_lives_4 ?_
  refine v_icmp_ne C 12 (by decide) dX8_lives_5 (fun c5 => ?_) (fun c5 => ?_)
  · rw [if_neg c5] at hr
    refine v_iconst C 0 (by decide) dX8_lives_12 ?_
    obtain rfl := os hr
    exact v_zret C rfl dX8_lives_13
  · rw [if_pos c5] at hr
    refine v_iconst C 1 (by decide) dX8_lives_8 ?_
    refine v_goto C 13 (by decide) dX8_lives_9 ?_
    obtain rfl := os hr
    exact v_zret C rfl dX8_lives_13
-- X11_partsFor
def f_X11_partsFor_19 : Nat → St → (Option Nat) → Int32 → (Option Nat) → Int32 → Option (Int32)
  | 0, _, _, _, _, _ => none
  | n + 1, S, x0, x2, x3, x4 =>
    (if (24 : Int32) ≤ x4 then
    some 0
    else
    (if x3 = none then
    some 0
    else
    (rcv S x3 9).bind fun b31 =>
    (f_X8_lives S b31).bind fun v31 =>
    (if v31 = 0 then
    (getI S x3 9 7).bind fun v39 =>
    (if x3 = x0 then
    some (x2 * v39)
    else
    (getR S x3 9 4).bind fun v52 =>
    f_X11_partsFor_19 n S x0 (x2 * v39) v52 (x4 + 1))
    else
    some 0)))
def f_X11_partsFor (S : St) (x0 : Option Nat) (x1 : Option Nat) : Option Int32 :=
    (rcv S x1 9).bind fun b1 =>
    (f_X8_lives S b1).bind fun v1 =>
    (if v1 = 0 then
    some 0
    else
    (getR S x1 9 4).bind fun v12 =>
    f_X11_partsFor_19 FU S x0 1 v12 0)
theorem b_X11_partsFor_19  {S : St} {rr : Int32} (C : Cx p s m args meth c G S yX11_partsFor cX11_partsFor 5 (Option.some Jvm.ClassFile.FieldType.int)) {o : (Int32)} (kR : ∀ (v : Int32), o = v → rr = v) : ∀ (n : Nat) {x0 : Option Nat} {x2 : Int32} {x3 : Option Nat} {x4 : Int32}, f_X11_partsFor_19 n S x0 x2 x3 x4 = some o → ∀ ls : Array Slot, lv_has ls 5 [(0, va_rf x0), (2, .int x2), (3, va_rf x3), (4, .int x4)] → V p l e (rmo 1 20 S) s m args below meth c G S S (QM below args s G S S (some (.int rr))) (F0 m 19 ls []) := by
  intro n
  induction n with
  | zero => intro x0 x2 x3 x4 hr; cases hr
  | succ n ih =>
    intro x0 x2 x3 x4 hr ls hl
    unfold f_X11_partsFor_19 at hr
    refine v_iload C (lv_at hl 3 rfl) dX11_partsFor_19 ?_
    refine v_bipush C 24 (by decide) dX11_partsFor_21 ?_
    refine v_icmp_ge C 62 (by decide) dX11_partsFor_23 (fun c23 => ?_) (fun c23 => ?_)
    · rw [if_pos c23] at hr
      refine v_iconst C 0 (by decide) dX11_partsFor_62 ?_
      obtain rfl := os hr
      obtain rfl := kR _ rfl
      exact v_iret C dX11_partsFor_63
    · rw [if_neg c23] at hr
      refine v_aload_n C (lv_at hl 2 rfl) rfl dX11_partsFor_26 ?_
      refine v_ifnull C 62 (by decide) dX11_partsFor_27 (fun c27 => ?_) (fun c27 => ?_)
      · rw [if_pos c27] at hr
        refine v_iconst C 0 (by decide) dX11_partsFor_62 ?_
        obtain rfl := os hr
        obtain rfl := kR _ rfl
        exact v_iret C dX11_partsFor_63
      · rw [if_neg c27] at hr
        refine v_aload_n C (lv_at hl 2 rfl) rfl dX11_partsFor_30 ?_
        obtain ⟨b31, f31, hr⟩ := ob hr
        obtain ⟨g31, h31⟩ := rcv_n f31
        obtain ⟨v31, e31, hr⟩ := ob hr
        refine v_callV C (b := b31) h31 (by decide) rfl rfl (k_X8_lives e31) cw_X8_lives w_534 w_535 w_536 (show (parseMethodDescriptor (yX8_lives).desc).map (fun d => d.parameters.length) = some 0 by decide +kernel) ⟨by decide, by decide⟩ (rest := []) (stk2 := [.int v31]) (by rw [g31]; rfl) rfl (Nat.le_of_ble_eq_true rfl) hl dX11_partsFor_31 ?_
        refine v_if_ne C 62 (by decide) dX11_partsFor_34 (fun c34 => ?_) (fun c34 => ?_)
        · rw [if_neg c34] at hr
          refine v_iconst C 0 (by decide) dX11_partsFor_62 ?_
          obtain rfl := os hr
          obtain rfl := kR _ rfl
          exact v_iret C dX11_partsFor_63
        · rw [if_pos c34] at hr
          refine v_iload_n C (lv_at hl 1 rfl) rfl dX11_partsFor_37 ?_
          refine v_aload_n C (lv_at hl 2 rfl) rfl dX11_partsFor_38 ?_
          obtain ⟨v39, e39, hr⟩ := ob hr
          refine v_getI C fl_RX11_369 rfl e39 dX11_partsFor_39 ?_
          refine v_imul C dX11_partsFor_42 ?_
          refine v_istore_n C (i := 2) (lv' := [(2, .int (x2 * v39)), (0, va_rf x0), (3, va_rf x3), (4, .int x4)]) hl rfl (by decide) rfl dX11_partsFor_43 (fun ls hl => ?_)
          refine v_aload_n C (lv_at hl 2 rfl) rfl dX11_partsFor_44 ?_
          refine v_aload_n C (lv_at hl 1 rfl) rfl dX11_partsFor_45 ?_
          refine v_acmp_ne C 51 (by decide) dX11_partsFor_46 (fun c46 => ?_) (fun c46 => ?_)
          · rw [if_neg c46] at hr
            refine v_aload_n C (lv_at hl 2 rfl) rfl dX11_partsFor_51 ?_
            obtain ⟨v52, e52, hr⟩ := ob hr
            refine v_getR C fl_RX11_370 rfl e52 dX11_partsFor_52 ?_
            refine v_astore_n C (i := 3) (lv' := [(3, va_rf v52), (2, .int (x2 * v39)), (0, va_rf x0), (4, .int x4)]) hl rfl (by decide) rfl dX11_partsFor_55 (fun ls hl => ?_)
            refine v_iinc C (x4 + 1) (k0 := 3) (lv' := [(4, .int (x4 + 1)), (3, va_rf v52), (2, .int (x2 * v39)), (0, va_rf x0)]) hl rfl rfl (by decide) (by simp [rf_n2]) dX11_partsFor_56 (fun ls hl => ?_)
            refine v_goto C 19 (by decide) dX11_partsFor_59 ?_
            exact ih hr _ (lv_sub hl [3, 2, 1, 0] rfl)
          · rw [if_pos c46] at hr
            refine v_iload_n C (lv_at hl 0 rfl) rfl dX11_partsFor_49 ?_
            obtain rfl := os hr
            obtain rfl := kR _ rfl
            exact v_iret C dX11_partsFor_50
theorem k_X11_partsFor {l : Launch} {G : Ge} {S : St} {x0 : Option Nat} {x1 : Option Nat} {rr : Int32} (hr : f_X11_partsFor S x0 x1 = some rr) : Ct l G yX11_partsFor cX11_partsFor 5 (Option.some Jvm.ClassFile.FieldType.int) S [va_rf x0, va_rf x1] (some (.int rr)) S 1 20 := by
  refine ct_of (by decide +kernel) (by cases x0 <;> cases x1 <;> exact Nat.le_of_ble_eq_true rfl) ?_
  intro p e s m args below meth c C ls hl
  have hl : lv_has ls 5 [(0, va_rf x0), (1, va_rf x1)] := by clear hr; cases x0 <;> cases x1 <;> exact hl
  unfold f_X11_partsFor at hr
  refine v_aload_n C (lv_at hl 1 rfl) rfl dX11_partsFor_0 ?_
  obtain ⟨b1, f1, hr⟩ := ob hr
  obtain ⟨g1, h1⟩ := rcv_n f1
  obtain ⟨v1, e1, hr⟩ := ob hr
  refine v_callV C (b := b1) h1 (by decide) rfl rfl (k_X8_lives e1) cw_X8_lives w_534 w_535 w_536 (show (parseMethodDescriptor (yX8_lives).desc).map (fun d => d.parameters.length) = some 0 by decide +kernel) ⟨by decide, by decide⟩ (rest := []) (stk2 := [.int v1]) (by rw [g1]; rfl) rfl (Nat.le_of_ble_eq_true rfl) hl dX11_partsFor_1 ?_
  refine v_if_ne C 9 (by decide) dX11_partsFor_4 (fun c4 => ?_) (fun c4 => ?_)
  · rw [if_neg c4] at hr
    refine v_iconst C 1 (by decide) dX11_partsFor_9 ?_
    refine v_istore_n C (i := 2) (lv' := [(2, .int 1), (0, va_rf x0), (1, va_rf x1)]) hl rfl (by decide) (by simp [rf_n2]) dX11_partsFor_10 (fun ls hl => ?_)
    refine v_aload_n C (lv_at hl 2 rfl) rfl dX11_partsFor_11 ?_
    obtain ⟨v12, e12, hr⟩ := ob hr
    refine v_getR C fl_RX11_370 rfl e12 dX11_partsFor_12 ?_
    refine v_astore_n C (i := 3) (lv' := [(3, va_rf v12), (2, .int 1), (0, va_rf x0), (1, va_rf x1)]) hl rfl (by decide) rfl dX11_partsFor_15 (fun ls hl => ?_)
    refine v_iconst C 0 (by decide) dX11_partsFor_16 ?_
    refine v_istore C (i := 4) (lv' := [(4, .int 0), (3, va_rf v12), (2, .int 1), (0, va_rf x0), (1, va_rf x1)]) hl (by decide) (by simp [rf_n2]) dX11_partsFor_17 (fun ls hl => ?_)
    exact b_X11_partsFor_19 C (fun _ q => by cases q; rfl) FU hr _ (lv_sub hl [3, 2, 1, 0] rfl)
  · rw [if_pos c4] at hr
    refine v_iconst C 0 (by decide) dX11_partsFor_7 ?_
    obtain rfl := os hr
    exact v_iret C dX11_partsFor_8
-- X11_partsOf
def f_X11_partsOf (S : St) (x0 : Option Nat) : Option Int32 :=
    (getR S x0 3 1).bind fun v1 =>
    (getR S v1 1 3).bind fun v4 =>
    (rcv S v4 9).bind fun b9 =>
    (f_X8_lives S b9).bind fun v9 =>
    (if v9 = 0 then
    (getR S x0 3 0).bind fun v31 =>
    (f_X11_partsFor S v4 v31).bind fun v34 =>
    some v34
    else
    (getR S x0 3 0).bind fun v16 =>
    (if v16 = v4 then
    some 1
    else
    some 0))
theorem k_X11_partsOf {l : Launch} {G : Ge} {S : St} {x0 : Option Nat} {rr : Int32} (hr : f_X11_partsOf S x0 = some rr) : Ct l G yX11_partsOf cX11_partsOf 2 (Option.some Jvm.ClassFile.FieldType.int) S [va_rf x0] (some (.int rr)) S 2 44 := by
  refine ct_of (by decide +kernel) (by cases x0 <;> exact Nat.le_of_ble_eq_true rfl) ?_
  intro p e s m args below meth c C ls hl
  have hl : lv_has ls 2 [(0, va_rf x0)] := by clear hr; cases x0 <;> exact hl
  unfold f_X11_partsOf at hr
  refine v_aload_n C (lv_at hl 0 rfl) rfl dX11_partsOf_0 ?_
  obtain ⟨v1, e1, hr⟩ := ob hr
  refine v_getR C fl_RX11_315 rfl e1 dX11_partsOf_1 ?_
  obtain ⟨v4, e4, hr⟩ := ob hr
  refine v_getR C fl_RX11_292 rfl e4 dX11_partsOf_4 ?_
  refine v_astore_n C (i := 1) (lv' := [(1, va_rf v4), (0, va_rf x0)]) hl rfl (by decide) (by simp [rf_n2]) dX11_partsOf_7 (fun ls hl => ?_)
  refine v_aload_n C (lv_at hl 0 rfl) rfl dX11_partsOf_8 ?_
  obtain ⟨b9, f9, hr⟩ := ob hr
  obtain ⟨g9, h9⟩ := rcv_n f9
  obtain ⟨v9, e9, hr⟩ := ob hr
  refine v_callV C (b := b9) h9 (by decide) rfl rfl (k_X8_lives e9) cw_X8_lives w_534 w_535 w_536 (show (parseMethodDescriptor (yX8_lives).desc).map (fun d => d.parameters.length) = some 0 by decide +kernel) ⟨by decide, by decide⟩ (rest := []) (stk2 := [.int v9]) (by rw [g9]; rfl) rfl (Nat.le_of_ble_eq_true rfl) hl dX11_partsOf_9 ?_
  refine v_if_eq C 29 (by decide) dX11_partsOf_12 (fun c12 => ?_) (fun c12 => ?_)
  · rw [if_pos c12] at hr
    refine v_aload_n C (lv_at hl 0 rfl) rfl dX11_partsOf_29 ?_
    refine v_aload_n C (lv_at hl 1 rfl) rfl dX11_partsOf_30 ?_
    obtain ⟨v31, e31, hr⟩ := ob hr
    refine v_getR C fl_RX11_380 rfl e31 dX11_partsOf_31 ?_
    obtain ⟨v34, e34, hr⟩ := ob hr
    refine v_callS C (k_X11_partsFor e34) cw_X11_partsFor w_1080 w_1081 (show (parseMethodDescriptor (yX11_partsFor).desc).map (fun d => d.parameters.length) = some 2 by decide +kernel) ⟨by decide, by decide⟩ (rest := []) (stk2 := [.int v34]) rfl rfl (Nat.le_of_ble_eq_true rfl) hl dX11_partsOf_34 ?_
    obtain rfl := os hr
    exact v_iret C dX11_partsOf_37
  · rw [if_neg c12] at hr
    refine v_aload_n C (lv_at hl 1 rfl) rfl dX11_partsOf_15 ?_
    obtain ⟨v16, e16, hr⟩ := ob hr
    refine v_getR C fl_RX11_380 rfl e16 dX11_partsOf_16 ?_
    refine v_aload_n C (lv_at hl 0 rfl) rfl dX11_partsOf_19 ?_
    refine v_acmp_ne C 27 (by decide) dX11_partsOf_20 (fun c20 => ?_) (fun c20 => ?_)
    · rw [if_neg c20] at hr
      refine v_iconst C 0 (by decide) dX11_partsOf_27 ?_
      obtain rfl := os hr
      exact v_iret C dX11_partsOf_28
    · rw [if_pos c20] at hr
      refine v_iconst C 1 (by decide) dX11_partsOf_23 ?_
      refine v_goto C 28 (by decide) dX11_partsOf_24 ?_
      obtain rfl := os hr
      exact v_iret C dX11_partsOf_28
-- X11_countHeirs
def f_X11_countHeirs_4 : Nat → St → Nat → (Option Nat) → Int32 → Int32 → Option (Int32)
  | 0, _, _, _, _, _ => none
  | n + 1, S, x0, x1, x2, x3 =>
    (getR S (some x0) 12 2).bind fun v6 =>
    (rcv S v6 0).bind fun b9 =>
    (f_Jx4a65c_size_8abf5 S b9).bind fun v9 =>
    (if v9 ≤ x3 then
    some x2
    else
    (getR S (some x0) 12 2).bind fun v17 =>
    (rcv S v17 0).bind fun b21 =>
    (f_Jx4a65c_get_915e3 S b21 x3).bind fun v21 =>
    (castO S v21 9).bind fun v24 =>
    (f_X11_partsFor S x1 v24).bind fun v27 =>
    (if v27 ≤ 0 then
    f_X11_countHeirs_4 n S x0 x1 x2 (x3 + 1)
    else
    f_X11_countHeirs_4 n S x0 x1 (x2 + 1) (x3 + 1)))
def f_X11_countHeirs (S : St) (x0 : Nat) (x1 : Option Nat) : Option Int32 :=
    f_X11_countHeirs_4 FU S x0 x1 0 0
theorem b_X11_countHeirs_4  {S : St} {rr : Int32} (C : Cx p s m args meth c G S yX11_countHeirs cX11_countHeirs 4 (Option.some Jvm.ClassFile.FieldType.int)) {o : (Int32)} (kR : ∀ (v : Int32), o = v → rr = v) : ∀ (n : Nat) {x0 : Nat} {x1 : Option Nat} {x2 : Int32} {x3 : Int32}, f_X11_countHeirs_4 n S x0 x1 x2 x3 = some o → ∀ ls : Array Slot, lv_has ls 4 [(0, va_rf (some x0)), (1, va_rf x1), (2, .int x2), (3, .int x3)] → V p l e (rmo 3 64 S) s m args below meth c G S S (QM below args s G S S (some (.int rr))) (F0 m 4 ls []) := by
  intro n
  induction n with
  | zero => intro x0 x1 x2 x3 hr; cases hr
  | succ n ih =>
    intro x0 x1 x2 x3 hr ls hl
    unfold f_X11_countHeirs_4 at hr
    refine v_iload_n C (lv_at hl 3 rfl) rfl dX11_countHeirs_4 ?_
    refine v_aload_n C (lv_at hl 0 rfl) rfl dX11_countHeirs_5 ?_
    obtain ⟨v6, e6, hr⟩ := ob hr
    refine v_getR C fl_RX11_20 rfl e6 dX11_countHeirs_6 ?_
    obtain ⟨b9, f9, hr⟩ := ob hr
    obtain ⟨g9, h9⟩ := rcv_n f9
    obtain ⟨v9, e9, hr⟩ := ob hr
    refine v_callV C (b := b9) h9 (by decide) rfl rfl (k_Jx4a65c_size_8abf5 e9) cw_Jx4a65c_size_8abf5 w_352 w_353 w_354 (show (parseMethodDescriptor (yJx4a65c_size_8abf5).desc).map (fun d => d.parameters.length) = some 0 by decide +kernel) ⟨by decide, by decide⟩ (rest := [.int x3]) (stk2 := [.int v9, .int x3]) (by rw [g9]; rfl) rfl (Nat.le_of_ble_eq_true rfl) hl dX11_countHeirs_9 ?_
    refine v_icmp_ge C 42 (by decide) dX11_countHeirs_12 (fun c12 => ?_) (fun c12 => ?_)
    · rw [if_pos c12] at hr
      refine v_iload_n C (lv_at hl 2 rfl) rfl dX11_countHeirs_42 ?_
      obtain rfl := os hr
      obtain rfl := kR _ rfl
      exact v_iret C dX11_countHeirs_43
    · rw [if_neg c12] at hr
      refine v_aload_n C (lv_at hl 1 rfl) rfl dX11_countHeirs_15 ?_
      refine v_aload_n C (lv_at hl 0 rfl) rfl dX11_countHeirs_16 ?_
      obtain ⟨v17, e17, hr⟩ := ob hr
      refine v_getR C fl_RX11_20 rfl e17 dX11_countHeirs_17 ?_
      refine v_iload_n C (lv_at hl 3 rfl) rfl dX11_countHeirs_20 ?_
      obtain ⟨b21, f21, hr⟩ := ob hr
      obtain ⟨g21, h21⟩ := rcv_n f21
      obtain ⟨v21, e21, hr⟩ := ob hr
      refine v_callV C (b := b21) h21 (by decide) rfl rfl (k_Jx4a65c_get_915e3 e21) cw_Jx4a65c_get_915e3 w_449 w_450 w_451 (show (parseMethodDescriptor (yJx4a65c_get_915e3).desc).map (fun d => d.parameters.length) = some 1 by decide +kernel) ⟨by decide, by decide⟩ (rest := [va_rf x1]) (stk2 := [va_rf v21, va_rf x1]) (by rw [g21]; rfl) rfl (by simp [rf_cat, cat_i, cat_l]) hl dX11_countHeirs_21 ?_
      obtain ⟨v24, e24, hr⟩ := ob hr
      refine v_cast C e24 (by decide) rfl w_490 dX11_countHeirs_24 ?_
      obtain ⟨v27, e27, hr⟩ := ob hr
      refine v_callS C (k_X11_partsFor e27) cw_X11_partsFor w_1080 w_1081 (show (parseMethodDescriptor (yX11_partsFor).desc).map (fun d => d.parameters.length) = some 2 by decide +kernel) ⟨by decide, by decide⟩ (rest := []) (stk2 := [.int v27]) rfl rfl (Nat.le_of_ble_eq_true rfl) hl dX11_countHeirs_27 ?_
      refine v_if_le C 36 (by decide) dX11_countHeirs_30 (fun c30 => ?_) (fun c30 => ?_)
      · rw [if_pos c30] at hr
        refine v_iinc C (x3 + 1) (k0 := 3) (lv' := [(3, .int (x3 + 1)), (0, va_rf (some x0)), (1, va_rf x1), (2, .int x2)]) hl rfl rfl (by decide) rfl dX11_countHeirs_36 (fun ls hl => ?_)
        refine v_goto C 4 (by decide) dX11_countHeirs_39 ?_
        exact ih hr _ (lv_sub hl [1, 2, 3, 0] rfl)
      · rw [if_neg c30] at hr
        refine v_iinc C (x2 + 1) (k0 := 2) (lv' := [(2, .int (x2 + 1)), (0, va_rf (some x0)), (1, va_rf x1), (3, .int x3)]) hl rfl rfl (by decide) (by simp [rf_n2]) dX11_countHeirs_33 (fun ls hl => ?_)
        refine v_iinc C (x3 + 1) (k0 := 3) (lv' := [(3, .int (x3 + 1)), (2, .int (x2 + 1)), (0, va_rf (some x0)), (1, va_rf x1)]) hl rfl rfl (by decide) rfl dX11_countHeirs_36 (fun ls hl => ?_)
        refine v_goto C 4 (by decide) dX11_countHeirs_39 ?_
        exact ih hr _ (lv_sub hl [2, 3, 1, 0] rfl)
theorem k_X11_countHeirs {l : Launch} {G : Ge} {S : St} {x0 : Nat} {x1 : Option Nat} {rr : Int32} (hr : f_X11_countHeirs S x0 x1 = some rr) : Ct l G yX11_countHeirs cX11_countHeirs 4 (Option.some Jvm.ClassFile.FieldType.int) S [va_rf (some x0), va_rf x1] (some (.int rr)) S 3 64 := by
  refine ct_of (by decide +kernel) (by cases x1 <;> exact Nat.le_of_ble_eq_true rfl) ?_
  intro p e s m args below meth c C ls hl
  have hl : lv_has ls 4 [(0, va_rf (some x0)), (1, va_rf x1)] := by clear hr; cases x1 <;> exact hl
  unfold f_X11_countHeirs at hr
  refine v_iconst C 0 (by decide) dX11_countHeirs_0 ?_
  refine v_istore_n C (i := 2) (lv' := [(2, .int 0), (0, va_rf (some x0)), (1, va_rf x1)]) hl rfl (by decide) (by simp [rf_n2]) dX11_countHeirs_1 (fun ls hl => ?_)
  refine v_iconst C 0 (by decide) dX11_countHeirs_2 ?_
  refine v_istore_n C (i := 3) (lv' := [(3, .int 0), (2, .int 0), (0, va_rf (some x0)), (1, va_rf x1)]) hl rfl (by decide) rfl dX11_countHeirs_3 (fun ls hl => ?_)
  exact b_X11_countHeirs_4 C (fun _ q => by cases q; rfl) FU hr _ (lv_sub hl [2, 3, 1, 0] rfl)
-- X11_lawOf
def f_X11_lawOf (S : St) (x0 : Nat) (x1 : Int32) : Option (Option Nat) :=
    (getR S (some x0) 12 9).bind fun v2 =>
    (alen S v2).bind fun v5 =>
    (f_X11_isWithin S x1 v5).bind fun v6 =>
    (if v6 = 0 then
    (getR S (some x0) 12 8).bind fun v22 =>
    some v22
    else
    (getR S (some x0) 12 9).bind fun v13 =>
    (ldR S v13 18 x1).bind fun v17 =>
    some v17)
theorem k_X11_lawOf {l : Launch} {G : Ge} {S : St} {x0 : Nat} {x1 : Int32} {rr : Option Nat} (hr : f_X11_lawOf S x0 x1 = some rr) : Ct l G yX11_lawOf cX11_lawOf 2 (Option.some (Jvm.ClassFile.FieldType.object "SleepOffice$Law")) S [va_rf (some x0), .int x1] (some (va_rf rr)) S 1 21 := by
  refine ct_of (by decide +kernel) (Nat.le_of_ble_eq_true rfl) ?_
  intro p e s m args below meth c C ls hl
  have hl : lv_has ls 2 [(0, va_rf (some x0)), (1, .int x1)] := hl
  unfold f_X11_lawOf at hr
  refine v_iload_n C (lv_at hl 1 rfl) rfl dX11_lawOf_0 ?_
  refine v_aload_n C (lv_at hl 0 rfl) rfl dX11_lawOf_1 ?_
  obtain ⟨v2, e2, hr⟩ := ob hr
  refine v_getR C fl_RX11_48 rfl e2 dX11_lawOf_2 ?_
  obtain ⟨v5, e5, hr⟩ := ob hr
  refine v_alen C e5 dX11_lawOf_5 ?_
  obtain ⟨v6, e6, hr⟩ := ob hr
  refine v_callS C (k_X11_isWithin e6) cw_X11_isWithin w_349 w_350 (show (parseMethodDescriptor (yX11_isWithin).desc).map (fun d => d.parameters.length) = some 2 by decide +kernel) ⟨by decide, by decide⟩ (rest := []) (stk2 := [.int v6]) rfl rfl (Nat.le_of_ble_eq_true rfl) hl dX11_lawOf_6 ?_
  refine v_if_eq C 21 (by decide) dX11_lawOf_9 (fun c9 => ?_) (fun c9 => ?_)
  · rw [if_pos c9] at hr
    refine v_aload_n C (lv_at hl 0 rfl) rfl dX11_lawOf_21 ?_
    obtain ⟨v22, e22, hr⟩ := ob hr
    refine v_getR C fl_RX11_44 rfl e22 dX11_lawOf_22 ?_
    obtain rfl := os hr
    exact v_aret C (Or.inl ⟨_, rfl⟩) dX11_lawOf_25
  · rw [if_neg c9] at hr
    refine v_aload_n C (lv_at hl 0 rfl) rfl dX11_lawOf_12 ?_
    obtain ⟨v13, e13, hr⟩ := ob hr
    refine v_getR C fl_RX11_48 rfl e13 dX11_lawOf_13 ?_
    refine v_iload_n C (lv_at hl 1 rfl) rfl dX11_lawOf_16 ?_
    obtain ⟨v17, e17, hr⟩ := ob hr
    refine v_ldR C (t0 := 4) (nm := RX6) e17 (by decide) rfl (fun _ => rfl) dX11_lawOf_17 ?_
    refine v_goto C 25 (by decide) dX11_lawOf_18 ?_
    obtain rfl := os hr
    exact v_aret C (Or.inl ⟨_, rfl⟩) dX11_lawOf_25
-- X6_codeAt
def f_X6_codeAt (S : St) (x0 : Nat) (x1 : Int32) : Option Int32 :=
    (getR S (some x0) 7 7).bind fun v2 =>
    (alen S v2).bind fun v5 =>
    (f_X11_isWithin S x1 v5).bind fun v6 =>
    (if v6 = 0 then
    some 0
    else
    (getR S (some x0) 7 7).bind fun v13 =>
    (ldI S v13 15 x1).bind fun v17 =>
    some v17)
theorem k_X6_codeAt {l : Launch} {G : Ge} {S : St} {x0 : Nat} {x1 : Int32} {rr : Int32} (hr : f_X6_codeAt S x0 x1 = some rr) : Ct l G yX6_codeAt cX6_codeAt 2 (Option.some Jvm.ClassFile.FieldType.int) S [va_rf (some x0), .int x1] (some (.int rr)) S 1 21 := by
  refine ct_of (by decide +kernel) (Nat.le_of_ble_eq_true rfl) ?_
  intro p e s m args below meth c C ls hl
  have hl : lv_has ls 2 [(0, va_rf (some x0)), (1, .int x1)] := hl
  unfold f_X6_codeAt at hr
  refine v_iload_n C (lv_at hl 1 rfl) rfl dX6_codeAt_0 ?_
  refine v_aload_n C (lv_at hl 0 rfl) rfl dX6_codeAt_1 ?_
  obtain ⟨v2, e2, hr⟩ := ob hr
  refine v_getR C fl_RX6_43 rfl e2 dX6_codeAt_2 ?_
  obtain ⟨v5, e5, hr⟩ := ob hr
  refine v_alen C e5 dX6_codeAt_5 ?_
  obtain ⟨v6, e6, hr⟩ := ob hr
  refine v_callSN C "SleepOffice" (k_X11_isWithin e6) cw_X11_isWithin (by decide +kernel) w_350 (show (parseMethodDescriptor (yX11_isWithin).desc).map (fun d => d.parameters.length) = some 2 by decide +kernel) ⟨by decide, by decide⟩ (rest := []) (stk2 := [.int v6]) rfl rfl (Nat.le_of_ble_eq_true rfl) hl dX6_codeAt_6 ?_
  refine v_if_eq C 21 (by decide) dX6_codeAt_9 (fun c9 => ?_) (fun c9 => ?_)
  · rw [if_pos c9] at hr
    refine v_iconst C 0 (by decide) dX6_codeAt_21 ?_
    obtain rfl := os hr
    exact v_iret C dX6_codeAt_22
  · rw [if_neg c9] at hr
    refine v_aload_n C (lv_at hl 0 rfl) rfl dX6_codeAt_12 ?_
    obtain ⟨v13, e13, hr⟩ := ob hr
    refine v_getR C fl_RX6_43 rfl e13 dX6_codeAt_13 ?_
    refine v_iload_n C (lv_at hl 1 rfl) rfl dX6_codeAt_16 ?_
    obtain ⟨v17, e17, hr⟩ := ob hr
    refine v_ldI_i C e17 dX6_codeAt_17 ?_
    refine v_goto C 22 (by decide) dX6_codeAt_18 ?_
    obtain rfl := os hr
    exact v_iret C dX6_codeAt_22
-- X6_codeLength
def f_X6_codeLength (S : St) (x0 : Nat) : Option Int32 :=
    (getI S (some x0) 7 8).bind fun v1 =>
    some v1
theorem k_X6_codeLength {l : Launch} {G : Ge} {S : St} {x0 : Nat} {rr : Int32} (hr : f_X6_codeLength S x0 = some rr) : Ct l G yX6_codeLength cX6_codeLength 1 (Option.some Jvm.ClassFile.FieldType.int) S [va_rf (some x0)] (some (.int rr)) S 0 0 := by
  refine ct_of (by decide +kernel) (Nat.le_of_ble_eq_true rfl) ?_
  intro p e s m args below meth c C ls hl
  have hl : lv_has ls 1 [(0, va_rf (some x0))] := hl
  unfold f_X6_codeLength at hr
  refine v_aload_n C (lv_at hl 0 rfl) rfl dX6_codeLength_0 ?_
  obtain ⟨v1, e1, hr⟩ := ob hr
  refine v_getI C fl_RX6_34 rfl e1 dX6_codeLength_1 ?_
  obtain rfl := os hr
  exact v_iret C dX6_codeLength_4
-- X9_combined
def f_X9_combined (S : St) (x0 : Int32) (x1 : Int32) (x2 : Int32) : Option Int32 :=
    (if x0 = 15 then
    some (x1 &&& x2)
    else
    (if x0 = 18 then
    some (x1 + x2)
    else
    (if x0 = 19 then
    some (x1 - x2)
    else
    (if x0 = 20 then
    some (x1 * x2)
    else
    (if x0 = 21 then
    (if x2 = 0 then
    some 0
    else
    (divI x1 x2).bind fun v86 =>
    some v86)
    else
    (if x0 = 24 then
    (if x2 ≤ x1 then
    some 0
    else
    some 1)
    else
    (if x0 = 25 then
    (if x1 = x2 then
    some 1
    else
    some 0)
    else
    (if x0 = 26 then
    (if x1 ≤ x2 then
    some 0
    else
    some 1)
    else
    some (x1 ||| x2)))))))))
theorem k_X9_combined {l : Launch} {G : Ge} {S : St} {x0 : Int32} {x1 : Int32} {x2 : Int32} {rr : Int32} (hr : f_X9_combined S x0 x1 x2 = some rr) : Ct l G yX9_combined cX9_combined 3 (Option.some Jvm.ClassFile.FieldType.int) S [.int x0, .int x1, .int x2] (some (.int rr)) S 0 0 := by
  refine ct_of (by decide +kernel) (Nat.le_of_ble_eq_true rfl) ?_
  intro p e s m args below meth c C ls hl
  have hl : lv_has ls 3 [(0, .int x0), (1, .int x1), (2, .int x2)] := hl
  unfold f_X9_combined at hr
  refine v_iload_n C (lv_at hl 0 rfl) rfl dX9_combined_0 ?_
  by_cases q1_15 : x0 = 15
  · rw [if_pos q1_15] at hr
    refine v_tableIn C (off := 120) 121 (by rw [q1_15]; decide) (by rw [q1_15]; decide) (by rw [q1_15]; decide) (by decide) dX9_combined_1 ?_
    refine v_iload_n C (lv_at hl 1 rfl) rfl dX9_combined_121 ?_
    refine v_iload_n C (lv_at hl 2 rfl) rfl dX9_combined_122 ?_
    refine v_iand C dX9_combined_123 ?_
    obtain rfl := os hr
    exact v_iret C dX9_combined_124
  rw [if_neg q1_15] at hr
  by_cases q1_18 : x0 = 18
  · rw [if_pos q1_18] at hr
    refine v_tableIn C (off := 63) 64 (by rw [q1_18]; decide) (by rw [q1_18]; decide) (by rw [q1_18]; decide) (by decide) dX9_combined_1 ?_
    refine v_iload_n C (lv_at hl 1 rfl) rfl dX9_combined_64 ?_
    refine v_iload_n C (lv_at hl 2 rfl) rfl dX9_combined_65 ?_
    refine v_iadd C dX9_combined_66 ?_
    obtain rfl := os hr
    exact v_iret C dX9_combined_67
  rw [if_neg q1_18] at hr
  by_cases q1_19 : x0 = 19
  · rw [if_pos q1_19] at hr
    refine v_tableIn C (off := 67) 68 (by rw [q1_19]; decide) (by rw [q1_19]; decide) (by rw [q1_19]; decide) (by decide) dX9_combined_1 ?_
    refine v_iload_n C (lv_at hl 1 rfl) rfl dX9_combined_68 ?_
    refine v_iload_n C (lv_at hl 2 rfl) rfl dX9_combined_69 ?_
    refine v_isub C dX9_combined_70 ?_
    obtain rfl := os hr
    exact v_iret C dX9_combined_71
  rw [if_neg q1_19] at hr
  by_cases q1_20 : x0 = 20
  · rw [if_pos q1_20] at hr
    refine v_tableIn C (off := 71) 72 (by rw [q1_20]; decide) (by rw [q1_20]; decide) (by rw [q1_20]; decide) (by decide) dX9_combined_1 ?_
    refine v_iload_n C (lv_at hl 1 rfl) rfl dX9_combined_72 ?_
    refine v_iload_n C (lv_at hl 2 rfl) rfl dX9_combined_73 ?_
    refine v_imul C dX9_combined_74 ?_
    obtain rfl := os hr
    exact v_iret C dX9_combined_75
  rw [if_neg q1_20] at hr
  by_cases q1_21 : x0 = 21
  · rw [if_pos q1_21] at hr
    refine v_tableIn C (off := 75) 76 (by rw [q1_21]; decide) (by rw [q1_21]; decide) (by rw [q1_21]; decide) (by decide) dX9_combined_1 ?_
    refine v_iload_n C (lv_at hl 2 rfl) rfl dX9_combined_76 ?_
    refine v_if_ne C 84 (by decide) dX9_combined_77 (fun c77 => ?_) (fun c77 => ?_)
    · rw [if_neg c77] at hr
      refine v_iload_n C (lv_at hl 1 rfl) rfl dX9_combined_84 ?_
      refine v_iload_n C (lv_at hl 2 rfl) rfl dX9_combined_85 ?_
      obtain ⟨v86, e86, hr⟩ := ob hr
      refine v_idiv C e86 dX9_combined_86 ?_
      obtain rfl := os hr
      exact v_iret C dX9_combined_87
    · rw [if_pos c77] at hr
      refine v_iconst C 0 (by decide) dX9_combined_80 ?_
      refine v_goto C 87 (by decide) dX9_combined_81 ?_
      obtain rfl := os hr
      exact v_iret C dX9_combined_87
  rw [if_neg q1_21] at hr
  by_cases q1_24 : x0 = 24
  · rw [if_pos q1_24] at hr
    refine v_tableIn C (off := 87) 88 (by rw [q1_24]; decide) (by rw [q1_24]; decide) (by rw [q1_24]; decide) (by decide) dX9_combined_1 ?_
    refine v_iload_n C (lv_at hl 1 rfl) rfl dX9_combined_88 ?_
    refine v_iload_n C (lv_at hl 2 rfl) rfl dX9_combined_89 ?_
    refine v_icmp_ge C 97 (by decide) dX9_combined_90 (fun c90 => ?_) (fun c90 => ?_)
    · rw [if_pos c90] at hr
      refine v_iconst C 0 (by decide) dX9_combined_97 ?_
      obtain rfl := os hr
      exact v_iret C dX9_combined_98
    · rw [if_neg c90] at hr
      refine v_iconst C 1 (by decide) dX9_combined_93 ?_
      refine v_goto C 98 (by decide) dX9_combined_94 ?_
      obtain rfl := os hr
      exact v_iret C dX9_combined_98
  rw [if_neg q1_24] at hr
  by_cases q1_25 : x0 = 25
  · rw [if_pos q1_25] at hr
    refine v_tableIn C (off := 98) 99 (by rw [q1_25]; decide) (by rw [q1_25]; decide) (by rw [q1_25]; decide) (by decide) dX9_combined_1 ?_
    refine v_iload_n C (lv_at hl 1 rfl) rfl dX9_combined_99 ?_
    refine v_iload_n C (lv_at hl 2 rfl) rfl dX9_combined_100 ?_
    refine v_icmp_ne C 108 (by decide) dX9_combined_101 (fun c101 => ?_) (fun c101 => ?_)
    · rw [if_neg c101] at hr
      refine v_iconst C 0 (by decide) dX9_combined_108 ?_
      obtain rfl := os hr
      exact v_iret C dX9_combined_109
    · rw [if_pos c101] at hr
      refine v_iconst C 1 (by decide) dX9_combined_104 ?_
      refine v_goto C 109 (by decide) dX9_combined_105 ?_
      obtain rfl := os hr
      exact v_iret C dX9_combined_109
  rw [if_neg q1_25] at hr
  by_cases q1_26 : x0 = 26
  · rw [if_pos q1_26] at hr
    refine v_tableIn C (off := 109) 110 (by rw [q1_26]; decide) (by rw [q1_26]; decide) (by rw [q1_26]; decide) (by decide) dX9_combined_1 ?_
    refine v_iload_n C (lv_at hl 1 rfl) rfl dX9_combined_110 ?_
    refine v_iload_n C (lv_at hl 2 rfl) rfl dX9_combined_111 ?_
    refine v_icmp_le C 119 (by decide) dX9_combined_112 (fun c112 => ?_) (fun c112 => ?_)
    · rw [if_pos c112] at hr
      refine v_iconst C 0 (by decide) dX9_combined_119 ?_
      obtain rfl := os hr
      exact v_iret C dX9_combined_120
    · rw [if_neg c112] at hr
      refine v_iconst C 1 (by decide) dX9_combined_115 ?_
      refine v_goto C 120 (by decide) dX9_combined_116 ?_
      obtain rfl := os hr
      exact v_iret C dX9_combined_120
  rw [if_neg q1_26] at hr
  have kd1 : V p l e (rmo 0 0 S) s m args below meth c G S S (QM below args s G S S (some (.int rr))) (F0 m 125 ls []) := by
    refine v_iload_n C (lv_at hl 1 rfl) rfl dX9_combined_125 ?_
    refine v_iload_n C (lv_at hl 2 rfl) rfl dX9_combined_126 ?_
    refine v_ior C dX9_combined_127 ?_
    obtain rfl := os hr
    exact v_iret C dX9_combined_128
  by_cases q1_16 : x0 = 16
  · exact v_tableIn C (off := 124) 125 (by rw [q1_16]; decide) (by rw [q1_16]; decide) (by rw [q1_16]; decide) (by decide) dX9_combined_1 kd1
  by_cases q1_17 : x0 = 17
  · exact v_tableIn C (off := 124) 125 (by rw [q1_17]; decide) (by rw [q1_17]; decide) (by rw [q1_17]; decide) (by decide) dX9_combined_1 kd1
  by_cases q1_22 : x0 = 22
  · exact v_tableIn C (off := 124) 125 (by rw [q1_22]; decide) (by rw [q1_22]; decide) (by rw [q1_22]; decide) (by decide) dX9_combined_1 kd1
  by_cases q1_23 : x0 = 23
  · exact v_tableIn C (off := 124) 125 (by rw [q1_23]; decide) (by rw [q1_23]; decide) (by rw [q1_23]; decide) (by decide) dX9_combined_1 kd1
  have z0 := lv_neT q1_15 (a := 15) (by decide)
  have z1 := lv_neT q1_16 (a := 16) (by decide)
  have z2 := lv_neT q1_17 (a := 17) (by decide)
  have z3 := lv_neT q1_18 (a := 18) (by decide)
  have z4 := lv_neT q1_19 (a := 19) (by decide)
  have z5 := lv_neT q1_20 (a := 20) (by decide)
  have z6 := lv_neT q1_21 (a := 21) (by decide)
  have z7 := lv_neT q1_22 (a := 22) (by decide)
  have z8 := lv_neT q1_23 (a := 23) (by decide)
  have z9 := lv_neT q1_24 (a := 24) (by decide)
  have z10 := lv_neT q1_25 (a := 25) (by decide)
  have z11 := lv_neT q1_26 (a := 26) (by decide)
  exact v_tableOut C 125 (by omega) (by decide) dX9_combined_1 kd1
-- X9_pop
def f_X9_pop (S : St) (x0 : Nat) : Option (Int32 × St) :=
    (getI S (some x0) 10 5).bind fun v1 =>
    (getR S (some x0) 10 4).bind fun v7 =>
    (alen S v7).bind fun v10 =>
    (f_X11_isWithin S (v1 - 1) v10).bind fun v11 =>
    (if v11 = 0 then
    some (0, S)
    else
    (getI S (some x0) 10 5).bind fun v21 =>
    (putI S (some x0) 10 5 (v21 - 1)).bind fun S26 =>
    (getR S26 (some x0) 10 4).bind fun v30 =>
    (getI S26 (some x0) 10 5).bind fun v34 =>
    (ldI S26 v30 15 v34).bind fun v37 =>
    some (v37, S26))
theorem k_X9_pop {l : Launch} {G : Ge} {S S' : St} {x0 : Nat} {rr : Int32} (hr : f_X9_pop S x0 = some (rr, S')) : Ct l G yX9_pop cX9_pop 1 (Option.some Jvm.ClassFile.FieldType.int) S [va_rf (some x0)] (some (.int rr)) S' 1 21 := by
  refine ct_of (by decide +kernel) (Nat.le_of_ble_eq_true rfl) ?_
  intro p e s m args below meth c C ls hl
  have hl : lv_has ls 1 [(0, va_rf (some x0))] := hl
  unfold f_X9_pop at hr
  refine v_aload_n C (lv_at hl 0 rfl) rfl dX9_pop_0 ?_
  obtain ⟨v1, e1, hr⟩ := ob hr
  refine v_getI C fl_RX9_26 rfl e1 dX9_pop_1 ?_
  refine v_iconst C 1 (by decide) dX9_pop_4 ?_
  refine v_isub C dX9_pop_5 ?_
  refine v_aload_n C (lv_at hl 0 rfl) rfl dX9_pop_6 ?_
  obtain ⟨v7, e7, hr⟩ := ob hr
  refine v_getR C fl_RX9_22 rfl e7 dX9_pop_7 ?_
  obtain ⟨v10, e10, hr⟩ := ob hr
  refine v_alen C e10 dX9_pop_10 ?_
  obtain ⟨v11, e11, hr⟩ := ob hr
  refine v_callSN C "SleepOffice" (k_X11_isWithin e11) cw_X11_isWithin (by decide +kernel) w_350 (show (parseMethodDescriptor (yX11_isWithin).desc).map (fun d => d.parameters.length) = some 2 by decide +kernel) ⟨by decide, by decide⟩ (rest := []) (stk2 := [.int v11]) rfl rfl (Nat.le_of_ble_eq_true rfl) hl dX9_pop_11 ?_
  refine v_if_ne C 19 (by decide) dX9_pop_14 (fun c14 => ?_) (fun c14 => ?_)
  · rw [if_neg c14] at hr
    refine v_aload_n C (lv_at hl 0 rfl) rfl dX9_pop_19 ?_
    refine v_dup C (rf_cat _) dX9_pop_20 ?_
    obtain ⟨v21, e21, hr⟩ := ob hr
    refine v_getI C fl_RX9_26 rfl e21 dX9_pop_21 ?_
    refine v_iconst C 1 (by decide) dX9_pop_24 ?_
    refine v_isub C dX9_pop_25 ?_
    obtain ⟨S26, e26, hr⟩ := ob hr
    refine v_putI C fl_RX9_26 (Or.inl rfl) rfl e26 dX9_pop_26 ?_
    refine v_aload_n C (lv_at hl 0 rfl) rfl dX9_pop_29 ?_
    obtain ⟨v30, e30, hr⟩ := ob hr
    refine v_getR C fl_RX9_22 rfl e30 dX9_pop_30 ?_
    refine v_aload_n C (lv_at hl 0 rfl) rfl dX9_pop_33 ?_
    obtain ⟨v34, e34, hr⟩ := ob hr
    refine v_getI C fl_RX9_26 rfl e34 dX9_pop_34 ?_
    obtain ⟨v37, e37, hr⟩ := ob hr
    refine v_ldI_i C e37 dX9_pop_37 ?_
    obtain ⟨rfl, rfl⟩ := Prod.mk.inj (os hr)
    exact v_iret C dX9_pop_38
  · rw [if_pos c14] at hr
    refine v_iconst C 0 (by decide) dX9_pop_17 ?_
    obtain ⟨rfl, rfl⟩ := Prod.mk.inj (os hr)
    exact v_iret C dX9_pop_18
-- X9_endLine
def f_X9_endLine_18 (S : St) (x0 : Nat) (t0 : Int32) : Option St :=
    (rcv S (some x0) 10).bind fun b20 =>
    (f_X9_pop S b20).bind fun (v20, S20) =>
    (if t0 = 0 then
    some S20
    else
    (getI S20 (some x0) 10 6).bind fun v30 =>
    (f_J9_max_7cf53 S20 v30 v20).bind fun v34 =>
    (putI S20 (some x0) 10 6 v34).bind fun S37 =>
    some S37)
def f_X9_endLine_13 (S : St) (x0 : Nat) : Option St :=
    f_X9_endLine_18 S x0 1
def f_X9_endLine (S : St) (x0 : Nat) (x1 : Int32) : Option St :=
    (if x1 = 8 then
    f_X9_endLine_13 S x0
    else
    (rcv S (some x0) 10).bind fun b7 =>
    (f_X9_pop S b7).bind fun (v7, S7) =>
    (if v7 = 0 then
    f_X9_endLine_18 S7 x0 0
    else
    f_X9_endLine_13 S7 x0))
theorem b_X9_endLine_18  {S0 S S' : St} {x0 : Nat} {t0 : Int32} (C : Cx p s m args meth c G S0 yX9_endLine cX9_endLine 4 (Option.none : Option Jvm.ClassFile.FieldType)) (hr : f_X9_endLine_18 S x0 t0 = some S') : ∀ ls : Array Slot, lv_has ls 4 [(0, va_rf (some x0))] → V p l e (rmo 2 41 S0) s m args below meth c G S0 S (QM below args s G S0 S' none) (F0 m 18 ls [.int t0]) := by
  intro ls hl
  unfold f_X9_endLine_18 at hr
  refine v_istore_n C (i := 2) (lv' := [(2, .int t0), (0, va_rf (some x0))]) hl rfl (by decide) rfl dX9_endLine_18 (fun ls hl => ?_)
  refine v_aload_n C (lv_at hl 1 rfl) rfl dX9_endLine_19 ?_
  obtain ⟨b20, f20, hr⟩ := ob hr
  obtain ⟨g20, h20⟩ := rcv_n f20
  obtain ⟨⟨v20, S20⟩, e20, hr⟩ := ob hr
  (try dsimp only at hr)
  refine v_callV C (b := b20) h20 (by decide) rfl rfl (k_X9_pop e20) cw_X9_pop w_1162 w_1164 w_38 (show (parseMethodDescriptor (yX9_pop).desc).map (fun d => d.parameters.length) = some 0 by decide +kernel) ⟨by decide, by decide⟩ (rest := []) (stk2 := [.int v20]) (by rw [g20]; rfl) rfl (Nat.le_of_ble_eq_true rfl) hl dX9_endLine_20 ?_
  refine v_istore_n C (i := 3) (lv' := [(3, .int v20), (2, .int t0), (0, va_rf (some x0))]) hl rfl (by decide) rfl dX9_endLine_23 (fun ls hl => ?_)
  refine v_iload_n C (lv_at hl 1 rfl) rfl dX9_endLine_24 ?_
  refine v_if_eq C 40 (by decide) dX9_endLine_25 (fun c25 => ?_) (fun c25 => ?_)
  · rw [if_pos c25] at hr
    obtain rfl := os hr
    exact v_vret C dX9_endLine_40
  · rw [if_neg c25] at hr
    refine v_aload_n C (lv_at hl 2 rfl) rfl dX9_endLine_28 ?_
    refine v_aload_n C (lv_at hl 2 rfl) rfl dX9_endLine_29 ?_
    obtain ⟨v30, e30, hr⟩ := ob hr
    refine v_getI C fl_RX9_29 rfl e30 dX9_endLine_30 ?_
    refine v_iload_n C (lv_at hl 0 rfl) rfl dX9_endLine_33 ?_
    obtain ⟨v34, e34, hr⟩ := ob hr
    refine v_callS C (k_J9_max_7cf53 e34) cw_J9_max_7cf53 w_1166 w_169 (show (parseMethodDescriptor (yJ9_max_7cf53).desc).map (fun d => d.parameters.length) = some 2 by decide +kernel) ⟨by decide, by decide⟩ (rest := [va_rf (some x0)]) (stk2 := [.int v34, va_rf (some x0)]) rfl rfl (by simp [rf_cat, cat_i, cat_l]) hl dX9_endLine_34 ?_
    obtain ⟨S37, e37, hr⟩ := ob hr
    refine v_putI C fl_RX9_29 (Or.inl rfl) rfl e37 dX9_endLine_37 ?_
    obtain rfl := os hr
    exact v_vret C dX9_endLine_40
theorem b_X9_endLine_13  {S0 S S' : St} {x0 : Nat} (C : Cx p s m args meth c G S0 yX9_endLine cX9_endLine 4 (Option.none : Option Jvm.ClassFile.FieldType)) (hr : f_X9_endLine_13 S x0 = some S') : ∀ ls : Array Slot, lv_has ls 4 [(0, va_rf (some x0))] → V p l e (rmo 2 41 S0) s m args below meth c G S0 S (QM below args s G S0 S' none) (F0 m 13 ls []) := by
  intro ls hl
  unfold f_X9_endLine_13 at hr
  refine v_iconst C 1 (by decide) dX9_endLine_13 ?_
  refine v_goto C 18 (by decide) dX9_endLine_14 ?_
  exact b_X9_endLine_18 C hr _ (lv_sub hl [0] rfl)
theorem k_X9_endLine {l : Launch} {G : Ge} {S S' : St} {x0 : Nat} {x1 : Int32} (hr : f_X9_endLine S x0 x1 = some S') : Ct l G yX9_endLine cX9_endLine 4 (Option.none : Option Jvm.ClassFile.FieldType) S [va_rf (some x0), .int x1] none S' 2 41 := by
  refine ct_of (by decide +kernel) (Nat.le_of_ble_eq_true rfl) ?_
  intro p e s m args below meth c C ls hl
  have hl : lv_has ls 4 [(0, va_rf (some x0)), (1, .int x1)] := hl
  unfold f_X9_endLine at hr
  refine v_iload_n C (lv_at hl 1 rfl) rfl dX9_endLine_0 ?_
  refine v_bipush C 8 (by decide) dX9_endLine_1 ?_
  refine v_icmp_eq C 13 (by decide) dX9_endLine_3 (fun c3 => ?_) (fun c3 => ?_)
  · rw [if_pos c3] at hr
    exact b_X9_endLine_13 C hr _ (lv_sub hl [0] rfl)
  · rw [if_neg c3] at hr
    refine v_aload_n C (lv_at hl 0 rfl) rfl dX9_endLine_6 ?_
    obtain ⟨b7, f7, hr⟩ := ob hr
    obtain ⟨g7, h7⟩ := rcv_n f7
    obtain ⟨⟨v7, S7⟩, e7, hr⟩ := ob hr
    (try dsimp only at hr)
    refine v_callV C (b := b7) h7 (by decide) rfl rfl (k_X9_pop e7) cw_X9_pop w_1162 w_1164 w_38 (show (parseMethodDescriptor (yX9_pop).desc).map (fun d => d.parameters.length) = some 0 by decide +kernel) ⟨by decide, by decide⟩ (rest := []) (stk2 := [.int v7]) (by rw [g7]; rfl) rfl (Nat.le_of_ble_eq_true rfl) hl dX9_endLine_7 ?_
    refine v_if_eq C 17 (by decide) dX9_endLine_10 (fun c10 => ?_) (fun c10 => ?_)
    · rw [if_pos c10] at hr
      refine v_iconst C 0 (by decide) dX9_endLine_17 ?_
      exact b_X9_endLine_18 C hr _ (lv_sub hl [0] rfl)
    · rw [if_neg c10] at hr
      exact b_X9_endLine_13 C hr _ (lv_sub hl [0] rfl)
-- X9_named
def f_X9_named (S : St) (x0 : Nat) (x1 : Int32) : Option Int32 :=
    (if x1 = 10 then
    (getI S (some x0) 10 0).bind fun v29 =>
    some v29
    else
    (if x1 = 11 then
    (getI S (some x0) 10 1).bind fun v34 =>
    some v34
    else
    (if x1 = 12 then
    (getI S (some x0) 10 2).bind fun v39 =>
    some v39
    else
    (getI S (some x0) 10 3).bind fun v44 =>
    some v44)))
theorem k_X9_named {l : Launch} {G : Ge} {S : St} {x0 : Nat} {x1 : Int32} {rr : Int32} (hr : f_X9_named S x0 x1 = some rr) : Ct l G yX9_named cX9_named 2 (Option.some Jvm.ClassFile.FieldType.int) S [va_rf (some x0), .int x1] (some (.int rr)) S 0 0 := by
  refine ct_of (by decide +kernel) (Nat.le_of_ble_eq_true rfl) ?_
  intro p e s m args below meth c C ls hl
  have hl : lv_has ls 2 [(0, va_rf (some x0)), (1, .int x1)] := hl
  unfold f_X9_named at hr
  refine v_iload_n C (lv_at hl 1 rfl) rfl dX9_named_0 ?_
  by_cases q1_10 : x1 = 10
  · rw [if_pos q1_10] at hr
    refine v_tableIn C (off := 27) 28 (by rw [q1_10]; decide) (by rw [q1_10]; decide) (by rw [q1_10]; decide) (by decide) dX9_named_1 ?_
    refine v_aload_n C (lv_at hl 0 rfl) rfl dX9_named_28 ?_
    obtain ⟨v29, e29, hr⟩ := ob hr
    refine v_getI C fl_RX9_7 rfl e29 dX9_named_29 ?_
    obtain rfl := os hr
    exact v_iret C dX9_named_32
  rw [if_neg q1_10] at hr
  by_cases q1_11 : x1 = 11
  · rw [if_pos q1_11] at hr
    refine v_tableIn C (off := 32) 33 (by rw [q1_11]; decide) (by rw [q1_11]; decide) (by rw [q1_11]; decide) (by decide) dX9_named_1 ?_
    refine v_aload_n C (lv_at hl 0 rfl) rfl dX9_named_33 ?_
    obtain ⟨v34, e34, hr⟩ := ob hr
    refine v_getI C fl_RX9_13 rfl e34 dX9_named_34 ?_
    obtain rfl := os hr
    exact v_iret C dX9_named_37
  rw [if_neg q1_11] at hr
  by_cases q1_12 : x1 = 12
  · rw [if_pos q1_12] at hr
    refine v_tableIn C (off := 37) 38 (by rw [q1_12]; decide) (by rw [q1_12]; decide) (by rw [q1_12]; decide) (by decide) dX9_named_1 ?_
    refine v_aload_n C (lv_at hl 0 rfl) rfl dX9_named_38 ?_
    obtain ⟨v39, e39, hr⟩ := ob hr
    refine v_getI C fl_RX9_16 rfl e39 dX9_named_39 ?_
    obtain rfl := os hr
    exact v_iret C dX9_named_42
  rw [if_neg q1_12] at hr
  have kd1 : V p l e (rmo 0 0 S) s m args below meth c G S S (QM below args s G S S (some (.int rr))) (F0 m 43 ls []) := by
    refine v_aload_n C (lv_at hl 0 rfl) rfl dX9_named_43 ?_
    obtain ⟨v44, e44, hr⟩ := ob hr
    refine v_getI C fl_RX9_19 rfl e44 dX9_named_44 ?_
    obtain rfl := os hr
    exact v_iret C dX9_named_47
  have z0 := lv_neT q1_10 (a := 10) (by decide)
  have z1 := lv_neT q1_11 (a := 11) (by decide)
  have z2 := lv_neT q1_12 (a := 12) (by decide)
  exact v_tableOut C 43 (by omega) (by decide) dX9_named_1 kd1
-- X9_push
def f_X9_push (S : St) (x0 : Nat) (x1 : Int32) : Option St :=
    (getI S (some x0) 10 5).bind fun v1 =>
    (getR S (some x0) 10 4).bind fun v5 =>
    (alen S v5).bind fun v8 =>
    (f_X11_isWithin S v1 v8).bind fun v9 =>
    (if v9 = 0 then
    some S
    else
    (getR S (some x0) 10 4).bind fun v16 =>
    (getI S (some x0) 10 5).bind fun v20 =>
    (stI S v16 15 v20 x1).bind fun S24 =>
    (getI S24 (some x0) 10 5).bind fun v27 =>
    (putI S24 (some x0) 10 5 (v27 + 1)).bind fun S32 =>
    some S32)
theorem k_X9_push {l : Launch} {G : Ge} {S S' : St} {x0 : Nat} {x1 : Int32} (hr : f_X9_push S x0 x1 = some S') : Ct l G yX9_push cX9_push 2 (Option.none : Option Jvm.ClassFile.FieldType) S [va_rf (some x0), .int x1] none S' 1 21 := by
  refine ct_of (by decide +kernel) (Nat.le_of_ble_eq_true rfl) ?_
  intro p e s m args below meth c C ls hl
  have hl : lv_has ls 2 [(0, va_rf (some x0)), (1, .int x1)] := hl
  unfold f_X9_push at hr
  refine v_aload_n C (lv_at hl 0 rfl) rfl dX9_push_0 ?_
  obtain ⟨v1, e1, hr⟩ := ob hr
  refine v_getI C fl_RX9_26 rfl e1 dX9_push_1 ?_
  refine v_aload_n C (lv_at hl 0 rfl) rfl dX9_push_4 ?_
  obtain ⟨v5, e5, hr⟩ := ob hr
  refine v_getR C fl_RX9_22 rfl e5 dX9_push_5 ?_
  obtain ⟨v8, e8, hr⟩ := ob hr
  refine v_alen C e8 dX9_push_8 ?_
  obtain ⟨v9, e9, hr⟩ := ob hr
  refine v_callSN C "SleepOffice" (k_X11_isWithin e9) cw_X11_isWithin (by decide +kernel) w_350 (show (parseMethodDescriptor (yX11_isWithin).desc).map (fun d => d.parameters.length) = some 2 by decide +kernel) ⟨by decide, by decide⟩ (rest := []) (stk2 := [.int v9]) rfl rfl (Nat.le_of_ble_eq_true rfl) hl dX9_push_9 ?_
  refine v_if_eq C 35 (by decide) dX9_push_12 (fun c12 => ?_) (fun c12 => ?_)
  · rw [if_pos c12] at hr
    obtain rfl := os hr
    exact v_vret C dX9_push_35
  · rw [if_neg c12] at hr
    refine v_aload_n C (lv_at hl 0 rfl) rfl dX9_push_15 ?_
    obtain ⟨v16, e16, hr⟩ := ob hr
    refine v_getR C fl_RX9_22 rfl e16 dX9_push_16 ?_
    refine v_aload_n C (lv_at hl 0 rfl) rfl dX9_push_19 ?_
    obtain ⟨v20, e20, hr⟩ := ob hr
    refine v_getI C fl_RX9_26 rfl e20 dX9_push_20 ?_
    refine v_iload_n C (lv_at hl 1 rfl) rfl dX9_push_23 ?_
    obtain ⟨S24, e24, hr⟩ := ob hr
    refine v_stI_i C e24 dX9_push_24 ?_
    refine v_aload_n C (lv_at hl 0 rfl) rfl dX9_push_25 ?_
    refine v_dup C (rf_cat _) dX9_push_26 ?_
    obtain ⟨v27, e27, hr⟩ := ob hr
    refine v_getI C fl_RX9_26 rfl e27 dX9_push_27 ?_
    refine v_iconst C 1 (by decide) dX9_push_30 ?_
    refine v_iadd C dX9_push_31 ?_
    obtain ⟨S32, e32, hr⟩ := ob hr
    refine v_putI C fl_RX9_26 (Or.inl rfl) rfl e32 dX9_push_32 ?_
    obtain rfl := os hr
    exact v_vret C dX9_push_35
-- X9_greatest
def f_X9_greatest_94 (rec : St → Nat → (Option Nat) → Int32 → Option ((Int32 × St))) (S : St) (x0 : Nat) (x1 : Option Nat) (x2 : Int32) (t0 : Int32) (t1 : Option Nat) : Option ((Int32 × St)) :=
    (rcv S t1 10).bind fun b94 =>
    (f_X9_push S b94 t0).bind fun S94 =>
    rec S94 x0 x1 (x2 + 1)
def f_X9_greatest_12 : Nat → St → Nat → (Option Nat) → Int32 → Option ((Int32 × St))
  | 0, _, _, _, _ => none
  | n + 1, S, x0, x1, x2 =>
    (rcv S x1 7).bind fun b14 =>
    (f_X6_codeLength S b14).bind fun v14 =>
    (if v14 ≤ x2 then
    (getI S (some x0) 10 6).bind fun v132 =>
    some (v132, S)
    else
    (rcv S x1 7).bind fun b22 =>
    (f_X6_codeAt S b22 x2).bind fun v22 =>
    (if v22 < 0 then
    (if (9 : Int32) < (-v22) then
    (if (13 : Int32) < (-v22) then
    (if (-v22) = 16 then
    (rcv S (some x0) 10).bind fun b83 =>
    (f_X9_pop S b83).bind fun (v83, S83) =>
    (if v83 = 0 then
    f_X9_greatest_94 (f_X9_greatest_12 n) S83 x0 x1 x2 1 (some x0)
    else
    f_X9_greatest_94 (f_X9_greatest_12 n) S83 x0 x1 x2 0 (some x0))
    else
    (rcv S (some x0) 10).bind fun b101 =>
    (f_X9_pop S b101).bind fun (v101, S101) =>
    (rcv S101 (some x0) 10).bind fun b107 =>
    (f_X9_pop S101 b107).bind fun (v107, S107) =>
    (f_X9_combined S107 (-v22) v107 v101).bind fun v119 =>
    (rcv S107 (some x0) 10).bind fun b122 =>
    (f_X9_push S107 b122 v119).bind fun S122 =>
    f_X9_greatest_12 n S122 x0 x1 (x2 + 1))
    else
    (rcv S (some x0) 10).bind fun b65 =>
    (f_X9_named S b65 (-v22)).bind fun v65 =>
    (rcv S (some x0) 10).bind fun b68 =>
    (f_X9_push S b68 v65).bind fun S68 =>
    f_X9_greatest_12 n S68 x0 x1 (x2 + 1))
    else
    (rcv S (some x0) 10).bind fun b48 =>
    (f_X9_endLine S b48 (-v22)).bind fun S48 =>
    f_X9_greatest_12 n S48 x0 x1 (x2 + 1))
    else
    (rcv S (some x0) 10).bind fun b32 =>
    (f_X9_push S b32 v22).bind fun S32 =>
    f_X9_greatest_12 n S32 x0 x1 (x2 + 1)))
def f_X9_greatest (S : St) (x0 : Nat) (x1 : Option Nat) : Option (Int32 × St) :=
    (putI S (some x0) 10 5 0).bind fun S2 =>
    (putI S2 (some x0) 10 6 0).bind fun S7 =>
    f_X9_greatest_12 FU S7 x0 x1 0
theorem b_X9_greatest_94  {S0 S S' : St} {rr : Int32} {x0 : Nat} {x1 : Option Nat} {x2 : Int32} {t0 : Int32} {t1 : Option Nat} (C : Cx p s m args meth c G S0 yX9_greatest cX9_greatest 6 (Option.some Jvm.ClassFile.FieldType.int)) {o : ((Int32 × St))} {rec : St → Nat → (Option Nat) → Int32 → Option ((Int32 × St))} (kR : ∀ (v : Int32) (Z : St), o = (v, Z) → rr = v ∧ S' = Z) (ihk : ∀ {S : St} {x0 : Nat} {x1 : Option Nat} {x2 : Int32}, rec S x0 x1 x2 = some o → ∀ ls : Array Slot, lv_has ls 6 [(0, va_rf (some x0)), (1, va_rf x1), (2, .int x2)] → V p l e (rmo 3 64 S0) s m args below meth c G S0 S (QM below args s G S0 S' (some (.int rr))) (F0 m 12 ls [])) (hr : f_X9_greatest_94 rec S x0 x1 x2 t0 t1 = some o) : ∀ ls : Array Slot, lv_has ls 6 [(0, va_rf (some x0)), (1, va_rf x1), (2, .int x2)] → V p l e (rmo 3 64 S0) s m args below meth c G S0 S (QM below args s G S0 S' (some (.int rr))) (F0 m 94 ls [.int t0, va_rf t1]) := by
  intro ls hl
  unfold f_X9_greatest_94 at hr
  obtain ⟨b94, f94, hr⟩ := ob hr
  obtain ⟨g94, h94⟩ := rcv_n f94
  obtain ⟨S94, e94, hr⟩ := ob hr
  refine v_callV C (b := b94) h94 (by decide) rfl rfl (k_X9_push e94) cw_X9_push w_1153 w_1155 w_36 (show (parseMethodDescriptor (yX9_push).desc).map (fun d => d.parameters.length) = some 1 by decide +kernel) ⟨by decide, by decide⟩ (rest := []) (stk2 := []) (by rw [g94]; rfl) rfl (Nat.le_of_ble_eq_true rfl) hl dX9_greatest_94 ?_
  refine v_goto C 125 (by decide) dX9_greatest_97 ?_
  refine v_iinc C (x2 + 1) (k0 := 2) (lv' := [(2, .int (x2 + 1)), (0, va_rf (some x0)), (1, va_rf x1)]) hl rfl rfl (by decide) (by simp [rf_n2]) dX9_greatest_125 (fun ls hl => ?_)
  refine v_goto C 12 (by decide) dX9_greatest_128 ?_
  exact ihk hr _ (lv_sub hl [1, 2, 0] rfl)
theorem b_X9_greatest_12  {S0 S' : St} {rr : Int32} (C : Cx p s m args meth c G S0 yX9_greatest cX9_greatest 6 (Option.some Jvm.ClassFile.FieldType.int)) {o : ((Int32 × St))} (kR : ∀ (v : Int32) (Z : St), o = (v, Z) → rr = v ∧ S' = Z) : ∀ (n : Nat) {S : St} {x0 : Nat} {x1 : Option Nat} {x2 : Int32}, f_X9_greatest_12 n S x0 x1 x2 = some o → ∀ ls : Array Slot, lv_has ls 6 [(0, va_rf (some x0)), (1, va_rf x1), (2, .int x2)] → V p l e (rmo 3 64 S0) s m args below meth c G S0 S (QM below args s G S0 S' (some (.int rr))) (F0 m 12 ls []) := by
  intro n
  induction n with
  | zero => intro S x0 x1 x2 hr; cases hr
  | succ n ih =>
    intro S x0 x1 x2 hr ls hl
    unfold f_X9_greatest_12 at hr
    refine v_iload_n C (lv_at hl 2 rfl) rfl dX9_greatest_12 ?_
    refine v_aload_n C (lv_at hl 1 rfl) rfl dX9_greatest_13 ?_
    obtain ⟨b14, f14, hr⟩ := ob hr
    obtain ⟨g14, h14⟩ := rcv_n f14
    obtain ⟨v14, e14, hr⟩ := ob hr
    refine v_callV C (b := b14) h14 (by decide) rfl rfl (k_X6_codeLength e14) cw_X6_codeLength w_1145 w_1146 w_1147 (show (parseMethodDescriptor (yX6_codeLength).desc).map (fun d => d.parameters.length) = some 0 by decide +kernel) ⟨by decide, by decide⟩ (rest := [.int x2]) (stk2 := [.int v14, .int x2]) (by rw [g14]; rfl) rfl (Nat.le_of_ble_eq_true rfl) hl dX9_greatest_14 ?_
    refine v_icmp_ge C 131 (by decide) dX9_greatest_17 (fun c17 => ?_) (fun c17 => ?_)
    · rw [if_pos c17] at hr
      refine v_aload_n C (lv_at hl 0 rfl) rfl dX9_greatest_131 ?_
      obtain ⟨v132, e132, hr⟩ := ob hr
      refine v_getI C fl_RX9_29 rfl e132 dX9_greatest_132 ?_
      obtain rfl := os hr
      obtain ⟨rfl, rfl⟩ := kR _ _ rfl
      exact v_iret C dX9_greatest_135
    · rw [if_neg c17] at hr
      refine v_aload_n C (lv_at hl 1 rfl) rfl dX9_greatest_20 ?_
      refine v_iload_n C (lv_at hl 2 rfl) rfl dX9_greatest_21 ?_
      obtain ⟨b22, f22, hr⟩ := ob hr
      obtain ⟨g22, h22⟩ := rcv_n f22
      obtain ⟨v22, e22, hr⟩ := ob hr
      refine v_callV C (b := b22) h22 (by decide) rfl rfl (k_X6_codeAt e22) cw_X6_codeAt w_1149 w_1150 w_1151 (show (parseMethodDescriptor (yX6_codeAt).desc).map (fun d => d.parameters.length) = some 1 by decide +kernel) ⟨by decide, by decide⟩ (rest := []) (stk2 := [.int v22]) (by rw [g22]; rfl) rfl (Nat.le_of_ble_eq_true rfl) hl dX9_greatest_22 ?_
      refine v_istore_n C (i := 3) (lv' := [(3, .int v22), (0, va_rf (some x0)), (1, va_rf x1), (2, .int x2)]) hl rfl (by decide) rfl dX9_greatest_25 (fun ls hl => ?_)
      refine v_iload_n C (lv_at hl 0 rfl) rfl dX9_greatest_26 ?_
      refine v_if_lt C 38 (by decide) dX9_greatest_27 (fun c27 => ?_) (fun c27 => ?_)
      · rw [if_pos c27] at hr
        refine v_iload_n C (lv_at hl 0 rfl) rfl dX9_greatest_38 ?_
        refine v_ineg C dX9_greatest_39 ?_
        refine v_bipush C 9 (by decide) dX9_greatest_40 ?_
        refine v_icmp_gt C 54 (by decide) dX9_greatest_42 (fun c42 => ?_) (fun c42 => ?_)
        · rw [if_pos c42] at hr
          refine v_iload_n C (lv_at hl 0 rfl) rfl dX9_greatest_54 ?_
          refine v_ineg C dX9_greatest_55 ?_
          refine v_bipush C 13 (by decide) dX9_greatest_56 ?_
          refine v_icmp_gt C 74 (by decide) dX9_greatest_58 (fun c58 => ?_) (fun c58 => ?_)
          · rw [if_pos c58] at hr
            refine v_iload_n C (lv_at hl 0 rfl) rfl dX9_greatest_74 ?_
            refine v_ineg C dX9_greatest_75 ?_
            refine v_bipush C 16 (by decide) dX9_greatest_76 ?_
            refine v_icmp_ne C 100 (by decide) dX9_greatest_78 (fun c78 => ?_) (fun c78 => ?_)
            · rw [if_neg c78] at hr
              refine v_aload_n C (lv_at hl 1 rfl) rfl dX9_greatest_100 ?_
              obtain ⟨b101, f101, hr⟩ := ob hr
              obtain ⟨g101, h101⟩ := rcv_n f101
              obtain ⟨⟨v101, S101⟩, e101, hr⟩ := ob hr
              (try dsimp only at hr)
              refine v_callV C (b := b101) h101 (by decide) rfl rfl (k_X9_pop e101) cw_X9_pop w_1162 w_1164 w_38 (show (parseMethodDescriptor (yX9_pop).desc).map (fun d => d.parameters.length) = some 0 by decide +kernel) ⟨by decide, by decide⟩ (rest := []) (stk2 := [.int v101]) (by rw [g101]; rfl) rfl (Nat.le_of_ble_eq_true rfl) hl dX9_greatest_101 ?_
              refine v_istore C (i := 4) (lv' := [(4, .int v101), (3, .int v22), (0, va_rf (some x0)), (1, va_rf x1), (2, .int x2)]) hl (by decide) rfl dX9_greatest_104 (fun ls hl => ?_)
              refine v_aload_n C (lv_at hl 2 rfl) rfl dX9_greatest_106 ?_
              obtain ⟨b107, f107, hr⟩ := ob hr
              obtain ⟨g107, h107⟩ := rcv_n f107
              obtain ⟨⟨v107, S107⟩, e107, hr⟩ := ob hr
              (try dsimp only at hr)
              refine v_callV C (b := b107) h107 (by decide) rfl rfl (k_X9_pop e107) cw_X9_pop w_1162 w_1164 w_38 (show (parseMethodDescriptor (yX9_pop).desc).map (fun d => d.parameters.length) = some 0 by decide +kernel) ⟨by decide, by decide⟩ (rest := []) (stk2 := [.int v107]) (by rw [g107]; rfl) rfl (Nat.le_of_ble_eq_true rfl) hl dX9_greatest_107 ?_
              refine v_istore C (i := 5) (lv' := [(5, .int v107), (4, .int v101), (3, .int v22), (0, va_rf (some x0)), (1, va_rf x1), (2, .int x2)]) hl (by decide) rfl dX9_greatest_110 (fun ls hl => ?_)
              refine v_aload_n C (lv_at hl 3 rfl) rfl dX9_greatest_112 ?_
              refine v_iload_n C (lv_at hl 2 rfl) rfl dX9_greatest_113 ?_
              refine v_ineg C dX9_greatest_114 ?_
              refine v_iload C (lv_at hl 0 rfl) dX9_greatest_115 ?_
              refine v_iload C (lv_at hl 1 rfl) dX9_greatest_117 ?_
              obtain ⟨v119, e119, hr⟩ := ob hr
              refine v_callS C (k_X9_combined e119) cw_X9_combined w_1171 w_1172 (show (parseMethodDescriptor (yX9_combined).desc).map (fun d => d.parameters.length) = some 3 by decide +kernel) ⟨by decide, by decide⟩ (rest := [va_rf (some x0)]) (stk2 := [.int v119, va_rf (some x0)]) rfl rfl (by simp [rf_cat, cat_i, cat_l]) hl dX9_greatest_119 ?_
              obtain ⟨b122, f122, hr⟩ := ob hr
              obtain ⟨g122, h122⟩ := rcv_n f122
              obtain ⟨S122, e122, hr⟩ := ob hr
              refine v_callV C (b := b122) h122 (by decide) rfl rfl (k_X9_push e122) cw_X9_push w_1153 w_1155 w_36 (show (parseMethodDescriptor (yX9_push).desc).map (fun d => d.parameters.length) = some 1 by decide +kernel) ⟨by decide, by decide⟩ (rest := []) (stk2 := []) (by rw [g122]; rfl) rfl (Nat.le_of_ble_eq_true rfl) hl dX9_greatest_122 ?_
              refine v_iinc C (x2 + 1) (k0 := 5) (lv' := [(2, .int (x2 + 1)), (5, .int v107), (4, .int v101), (3, .int v22), (0, va_rf (some x0)), (1, va_rf x1)]) hl rfl rfl (by decide) (by simp [rf_n2]) dX9_greatest_125 (fun ls hl => ?_)
              refine v_goto C 12 (by decide) dX9_greatest_128 ?_
              exact ih hr _ (lv_sub hl [4, 5, 0] rfl)
            · rw [if_pos c78] at hr
              refine v_aload_n C (lv_at hl 1 rfl) rfl dX9_greatest_81 ?_
              refine v_aload_n C (lv_at hl 1 rfl) rfl dX9_greatest_82 ?_
              obtain ⟨b83, f83, hr⟩ := ob hr
              obtain ⟨g83, h83⟩ := rcv_n f83
              obtain ⟨⟨v83, S83⟩, e83, hr⟩ := ob hr
              (try dsimp only at hr)
              refine v_callV C (b := b83) h83 (by decide) rfl rfl (k_X9_pop e83) cw_X9_pop w_1162 w_1164 w_38 (show (parseMethodDescriptor (yX9_pop).desc).map (fun d => d.parameters.length) = some 0 by decide +kernel) ⟨by decide, by decide⟩ (rest := [va_rf (some x0)]) (stk2 := [.int v83, va_rf (some x0)]) (by rw [g83]; rfl) rfl (by simp [rf_cat, cat_i, cat_l]) hl dX9_greatest_83 ?_
              refine v_if_ne C 93 (by decide) dX9_greatest_86 (fun c86 => ?_) (fun c86 => ?_)
              · rw [if_neg c86] at hr
                refine v_iconst C 0 (by decide) dX9_greatest_93 ?_
                exact b_X9_greatest_94 C kR (@ih) hr _ (lv_sub hl [1, 2, 3] rfl)
              · rw [if_pos c86] at hr
                refine v_iconst C 1 (by decide) dX9_greatest_89 ?_
                refine v_goto C 94 (by decide) dX9_greatest_90 ?_
                exact b_X9_greatest_94 C kR (@ih) hr _ (lv_sub hl [1, 2, 3] rfl)
          · rw [if_neg c58] at hr
            refine v_aload_n C (lv_at hl 1 rfl) rfl dX9_greatest_61 ?_
            refine v_aload_n C (lv_at hl 1 rfl) rfl dX9_greatest_62 ?_
            refine v_iload_n C (lv_at hl 0 rfl) rfl dX9_greatest_63 ?_
            refine v_ineg C dX9_greatest_64 ?_
            obtain ⟨b65, f65, hr⟩ := ob hr
            obtain ⟨g65, h65⟩ := rcv_n f65
            obtain ⟨v65, e65, hr⟩ := ob hr
            refine v_callV C (b := b65) h65 (by decide) rfl rfl (k_X9_named e65) cw_X9_named w_1167 w_1169 w_39 (show (parseMethodDescriptor (yX9_named).desc).map (fun d => d.parameters.length) = some 1 by decide +kernel) ⟨by decide, by decide⟩ (rest := [va_rf (some x0)]) (stk2 := [.int v65, va_rf (some x0)]) (by rw [g65]; rfl) rfl (by simp [rf_cat, cat_i, cat_l]) hl dX9_greatest_65 ?_
            obtain ⟨b68, f68, hr⟩ := ob hr
            obtain ⟨g68, h68⟩ := rcv_n f68
            obtain ⟨S68, e68, hr⟩ := ob hr
            refine v_callV C (b := b68) h68 (by decide) rfl rfl (k_X9_push e68) cw_X9_push w_1153 w_1155 w_36 (show (parseMethodDescriptor (yX9_push).desc).map (fun d => d.parameters.length) = some 1 by decide +kernel) ⟨by decide, by decide⟩ (rest := []) (stk2 := []) (by rw [g68]; rfl) rfl (Nat.le_of_ble_eq_true rfl) hl dX9_greatest_68 ?_
            refine v_goto C 125 (by decide) dX9_greatest_71 ?_
            refine v_iinc C (x2 + 1) (k0 := 3) (lv' := [(2, .int (x2 + 1)), (3, .int v22), (0, va_rf (some x0)), (1, va_rf x1)]) hl rfl rfl (by decide) (by simp [rf_n2]) dX9_greatest_125 (fun ls hl => ?_)
            refine v_goto C 12 (by decide) dX9_greatest_128 ?_
            exact ih hr _ (lv_sub hl [2, 3, 0] rfl)
        · rw [if_neg c42] at hr
          refine v_aload_n C (lv_at hl 1 rfl) rfl dX9_greatest_45 ?_
          refine v_iload_n C (lv_at hl 0 rfl) rfl dX9_greatest_46 ?_
          refine v_ineg C dX9_greatest_47 ?_
          obtain ⟨b48, f48, hr⟩ := ob hr
          obtain ⟨g48, h48⟩ := rcv_n f48
          obtain ⟨S48, e48, hr⟩ := ob hr
          refine v_callV C (b := b48) h48 (by decide) rfl rfl (k_X9_endLine e48) cw_X9_endLine w_1158 w_1160 w_37 (show (parseMethodDescriptor (yX9_endLine).desc).map (fun d => d.parameters.length) = some 1 by decide +kernel) ⟨by decide, by decide⟩ (rest := []) (stk2 := []) (by rw [g48]; rfl) rfl (Nat.le_of_ble_eq_true rfl) hl dX9_greatest_48 ?_
          refine v_goto C 125 (by decide) dX9_greatest_51 ?_
          refine v_iinc C (x2 + 1) (k0 := 3) (lv' := [(2, .int (x2 + 1)), (3, .int v22), (0, va_rf (some x0)), (1, va_rf x1)]) hl rfl rfl (by decide) (by simp [rf_n2]) dX9_greatest_125 (fun ls hl => ?_)
          refine v_goto C 12 (by decide) dX9_greatest_128 ?_
          exact ih hr _ (lv_sub hl [2, 3, 0] rfl)
      · rw [if_neg c27] at hr
        refine v_aload_n C (lv_at hl 1 rfl) rfl dX9_greatest_30 ?_
        refine v_iload_n C (lv_at hl 0 rfl) rfl dX9_greatest_31 ?_
        obtain ⟨b32, f32, hr⟩ := ob hr
        obtain ⟨g32, h32⟩ := rcv_n f32
        obtain ⟨S32, e32, hr⟩ := ob hr
        refine v_callV C (b := b32) h32 (by decide) rfl rfl (k_X9_push e32) cw_X9_push w_1153 w_1155 w_36 (show (parseMethodDescriptor (yX9_push).desc).map (fun d => d.parameters.length) = some 1 by decide +kernel) ⟨by decide, by decide⟩ (rest := []) (stk2 := []) (by rw [g32]; rfl) rfl (Nat.le_of_ble_eq_true rfl) hl dX9_greatest_32 ?_
        refine v_goto C 125 (by decide) dX9_greatest_35 ?_
        refine v_iinc C (x2 + 1) (k0 := 3) (lv' := [(2, .int (x2 + 1)), (3, .int v22), (0, va_rf (some x0)), (1, va_rf x1)]) hl rfl rfl (by decide) (by simp [rf_n2]) dX9_greatest_125 (fun ls hl => ?_)
        refine v_goto C 12 (by decide) dX9_greatest_128 ?_
        exact ih hr _ (lv_sub hl [2, 3, 0] rfl)
theorem k_X9_greatest {l : Launch} {G : Ge} {S S' : St} {x0 : Nat} {x1 : Option Nat} {rr : Int32} (hr : f_X9_greatest S x0 x1 = some (rr, S')) : Ct l G yX9_greatest cX9_greatest 6 (Option.some Jvm.ClassFile.FieldType.int) S [va_rf (some x0), va_rf x1] (some (.int rr)) S' 3 64 := by
  refine ct_of (by decide +kernel) (by cases x1 <;> exact Nat.le_of_ble_eq_true rfl) ?_
  intro p e s m args below meth c C ls hl
  have hl : lv_has ls 6 [(0, va_rf (some x0)), (1, va_rf x1)] := by clear hr; cases x1 <;> exact hl
  unfold f_X9_greatest at hr
  refine v_aload_n C (lv_at hl 0 rfl) rfl dX9_greatest_0 ?_
  refine v_iconst C 0 (by decide) dX9_greatest_1 ?_
  obtain ⟨S2, e2, hr⟩ := ob hr
  refine v_putI C fl_RX9_26 (Or.inl rfl) rfl e2 dX9_greatest_2 ?_
  refine v_aload_n C (lv_at hl 0 rfl) rfl dX9_greatest_5 ?_
  refine v_iconst C 0 (by decide) dX9_greatest_6 ?_
  obtain ⟨S7, e7, hr⟩ := ob hr
  refine v_putI C fl_RX9_29 (Or.inl rfl) rfl e7 dX9_greatest_7 ?_
  refine v_iconst C 0 (by decide) dX9_greatest_10 ?_
  refine v_istore_n C (i := 2) (lv' := [(2, .int 0), (0, va_rf (some x0)), (1, va_rf x1)]) hl rfl (by decide) (by simp [rf_n2]) dX9_greatest_11 (fun ls hl => ?_)
  exact b_X9_greatest_12 C (fun _ _ q => by cases q; exact ⟨rfl, rfl⟩) FU hr _ (lv_sub hl [1, 2, 0] rfl)
-- X11_pointsAsked
def f_X11_pointsAsked_74 (S : St) (x0 : Nat) (x1 : Option Nat) (t0 : Int32) (t1 : Option Nat) : Option (Int32 × St) :=
    (putI S t1 10 3 t0).bind fun S74 =>
    (getR S74 (some x0) 12 12).bind fun v78 =>
    (getI S74 x1 1 7).bind fun v83 =>
    (rcv S74 (some x0) 12).bind fun b86 =>
    (f_X11_lawOf S74 b86 v83).bind fun v86 =>
    (rcv S74 v78 10).bind fun b89 =>
    (f_X9_greatest S74 b89 v86).bind fun (v89, S89) =>
    some (v89, S89)
def f_X11_pointsAsked (S : St) (x0 : Nat) (x1 : Option Nat) : Option (Int32 × St) :=
    (getR S x1 1 3).bind fun v1 =>
    (getR S (some x0) 12 12).bind fun v6 =>
    (getL S x1 1 8).bind fun v10 =>
    (f_J9_min_f86c9 S v10 2147483647).bind fun v16 =>
    (putI S v6 10 0 (Int64.toInt32 v16)).bind fun S20 =>
    (getR S20 (some x0) 12 12).bind fun v24 =>
    (getI S20 (some x0) 12 0).bind fun v28 =>
    (getI S20 x1 1 9).bind fun v32 =>
    (divI (v28 - v32) 360).bind fun v39 =>
    (putI S20 v24 10 1 v39).bind fun S40 =>
    (getR S40 (some x0) 12 12).bind fun v44 =>
    (getI S40 x1 1 2).bind fun v48 =>
    (putI S40 v44 10 2 v48).bind fun S51 =>
    (getR S51 (some x0) 12 12).bind fun v55 =>
    (rcv S51 v1 9).bind fun b59 =>
    (f_X8_lives S51 b59).bind fun v59 =>
    (if v59 = 0 then
    (rcv S51 (some x0) 12).bind fun b71 =>
    (f_X11_countHeirs S51 b71 v1).bind fun v71 =>
    f_X11_pointsAsked_74 S51 x0 x1 v71 v55
    else
    f_X11_pointsAsked_74 S51 x0 x1 0 v55)
theorem b_X11_pointsAsked_74  {S0 S S' : St} {rr : Int32} {x0 : Nat} {x1 : Option Nat} {t0 : Int32} {t1 : Option Nat} (C : Cx p s m args meth c G S0 yX11_pointsAsked cX11_pointsAsked 3 (Option.some Jvm.ClassFile.FieldType.int)) (hr : f_X11_pointsAsked_74 S x0 x1 t0 t1 = some (rr, S')) : ∀ ls : Array Slot, lv_has ls 3 [(0, va_rf (some x0)), (1, va_rf x1)] → V p l e (rmo 4 89 S0) s m args below meth c G S0 S (QM below args s G S0 S' (some (.int rr))) (F0 m 74 ls [.int t0, va_rf t1]) := by
  intro ls hl
  unfold f_X11_pointsAsked_74 at hr
  obtain ⟨S74, e74, hr⟩ := ob hr
  refine v_putI C fl_RX11_416 (Or.inl rfl) rfl e74 dX11_pointsAsked_74 ?_
  refine v_aload_n C (lv_at hl 0 rfl) rfl dX11_pointsAsked_77 ?_
  obtain ⟨v78, e78, hr⟩ := ob hr
  refine v_getR C fl_RX11_61 rfl e78 dX11_pointsAsked_78 ?_
  refine v_aload_n C (lv_at hl 0 rfl) rfl dX11_pointsAsked_81 ?_
  refine v_aload_n C (lv_at hl 1 rfl) rfl dX11_pointsAsked_82 ?_
  obtain ⟨v83, e83, hr⟩ := ob hr
  refine v_getI C fl_RX11_272 rfl e83 dX11_pointsAsked_83 ?_
  obtain ⟨b86, f86, hr⟩ := ob hr
  obtain ⟨g86, h86⟩ := rcv_n f86
  obtain ⟨v86, e86, hr⟩ := ob hr
  refine v_callV C (b := b86) h86 (by decide) rfl rfl (k_X11_lawOf e86) cw_X11_lawOf w_929 w_931 w_22 (show (parseMethodDescriptor (yX11_lawOf).desc).map (fun d => d.parameters.length) = some 1 by decide +kernel) ⟨by decide, by decide⟩ (rest := [va_rf v78]) (stk2 := [va_rf v86, va_rf v78]) (by rw [g86]; rfl) rfl (by simp [rf_cat, cat_i, cat_l]) hl dX11_pointsAsked_86 ?_
  obtain ⟨b89, f89, hr⟩ := ob hr
  obtain ⟨g89, h89⟩ := rcv_n f89
  obtain ⟨⟨v89, S89⟩, e89, hr⟩ := ob hr
  (try dsimp only at hr)
  refine v_callV C (b := b89) h89 (by decide) rfl rfl (k_X9_greatest e89) cw_X9_greatest w_1141 w_1142 w_1143 (show (parseMethodDescriptor (yX9_greatest).desc).map (fun d => d.parameters.length) = some 1 by decide +kernel) ⟨by decide, by decide⟩ (rest := []) (stk2 := [.int v89]) (by rw [g89]; rfl) rfl (Nat.le_of_ble_eq_true rfl) hl dX11_pointsAsked_89 ?_
  obtain ⟨rfl, rfl⟩ := Prod.mk.inj (os hr)
  exact v_iret C dX11_pointsAsked_92
theorem k_X11_pointsAsked {l : Launch} {G : Ge} {S S' : St} {x0 : Nat} {x1 : Option Nat} {rr : Int32} (hr : f_X11_pointsAsked S x0 x1 = some (rr, S')) : Ct l G yX11_pointsAsked cX11_pointsAsked 3 (Option.some Jvm.ClassFile.FieldType.int) S [va_rf (some x0), va_rf x1] (some (.int rr)) S' 4 89 := by
  refine ct_of (by decide +kernel) (by cases x1 <;> exact Nat.le_of_ble_eq_true rfl) ?_
  intro p e s m args below meth c C ls hl
  have hl : lv_has ls 3 [(0, va_rf (some x0)), (1, va_rf x1)] := by clear hr; cases x1 <;> exact hl
  unfold f_X11_pointsAsked at hr
  refine v_aload_n C (lv_at hl 1 rfl) rfl dX11_pointsAsked_0 ?_
  obtain ⟨v1, e1, hr⟩ := ob hr
  refine v_getR C fl_RX11_292 rfl e1 dX11_pointsAsked_1 ?_
  refine v_astore_n C (i := 2) (lv' := [(2, va_rf v1), (0, va_rf (some x0)), (1, va_rf x1)]) hl rfl (by decide) (by simp [rf_n2]) dX11_pointsAsked_4 (fun ls hl => ?_)
  refine v_aload_n C (lv_at hl 1 rfl) rfl dX11_pointsAsked_5 ?_
  obtain ⟨v6, e6, hr⟩ := ob hr
  refine v_getR C fl_RX11_61 rfl e6 dX11_pointsAsked_6 ?_
  refine v_aload_n C (lv_at hl 2 rfl) rfl dX11_pointsAsked_9 ?_
  obtain ⟨v10, e10, hr⟩ := ob hr
  refine v_getL C fl_RX11_275 rfl e10 dX11_pointsAsked_10 ?_
  refine v_ldc2 C w_1137 dX11_pointsAsked_13 ?_
  obtain ⟨v16, e16, hr⟩ := ob hr
  refine v_callS C (k_J9_min_f86c9 e16) cw_J9_min_f86c9 w_1138 w_1139 (show (parseMethodDescriptor (yJ9_min_f86c9).desc).map (fun d => d.parameters.length) = some 2 by decide +kernel) ⟨by decide, by decide⟩ (rest := [va_rf v6]) (stk2 := [.long v16, va_rf v6]) rfl rfl (by simp [rf_cat, cat_i, cat_l]) hl dX11_pointsAsked_16 ?_
  refine v_l2i C dX11_pointsAsked_19 ?_
  obtain ⟨S20, e20, hr⟩ := ob hr
  refine v_putI C fl_RX11_409 (Or.inl rfl) rfl e20 dX11_pointsAsked_20 ?_
  refine v_aload_n C (lv_at hl 1 rfl) rfl dX11_pointsAsked_23 ?_
  obtain ⟨v24, e24, hr⟩ := ob hr
  refine v_getR C fl_RX11_61 rfl e24 dX11_pointsAsked_24 ?_
  refine v_aload_n C (lv_at hl 1 rfl) rfl dX11_pointsAsked_27 ?_
  obtain ⟨v28, e28, hr⟩ := ob hr
  refine v_getI C fl_RX11_7 rfl e28 dX11_pointsAsked_28 ?_
  refine v_aload_n C (lv_at hl 2 rfl) rfl dX11_pointsAsked_31 ?_
  obtain ⟨v32, e32, hr⟩ := ob hr
  refine v_getI C fl_RX11_279 rfl e32 dX11_pointsAsked_32 ?_
  refine v_isub C dX11_pointsAsked_35 ?_
  refine v_sipush C 360 (by decide) dX11_pointsAsked_36 ?_
  obtain ⟨v39, e39, hr⟩ := ob hr
  refine v_idiv C e39 dX11_pointsAsked_39 ?_
  obtain ⟨S40, e40, hr⟩ := ob hr
  refine v_putI C fl_RX11_412 (Or.inl rfl) rfl e40 dX11_pointsAsked_40 ?_
  refine v_aload_n C (lv_at hl 1 rfl) rfl dX11_pointsAsked_43 ?_
  obtain ⟨v44, e44, hr⟩ := ob hr
  refine v_getR C fl_RX11_61 rfl e44 dX11_pointsAsked_44 ?_
  refine v_aload_n C (lv_at hl 2 rfl) rfl dX11_pointsAsked_47 ?_
  obtain ⟨v48, e48, hr⟩ := ob hr
  refine v_getI C fl_RX11_303 rfl e48 dX11_pointsAsked_48 ?_
  obtain ⟨S51, e51, hr⟩ := ob hr
  refine v_putI C fl_RX11_415 (Or.inl rfl) rfl e51 dX11_pointsAsked_51 ?_
  refine v_aload_n C (lv_at hl 1 rfl) rfl dX11_pointsAsked_54 ?_
  obtain ⟨v55, e55, hr⟩ := ob hr
  refine v_getR C fl_RX11_61 rfl e55 dX11_pointsAsked_55 ?_
  refine v_aload_n C (lv_at hl 0 rfl) rfl dX11_pointsAsked_58 ?_
  obtain ⟨b59, f59, hr⟩ := ob hr
  obtain ⟨g59, h59⟩ := rcv_n f59
  obtain ⟨v59, e59, hr⟩ := ob hr
  refine v_callV C (b := b59) h59 (by decide) rfl rfl (k_X8_lives e59) cw_X8_lives w_534 w_535 w_536 (show (parseMethodDescriptor (yX8_lives).desc).map (fun d => d.parameters.length) = some 0 by decide +kernel) ⟨by decide, by decide⟩ (rest := [va_rf v55]) (stk2 := [.int v59, va_rf v55]) (by rw [g59]; rfl) rfl (by simp [rf_cat, cat_i, cat_l]) hl dX11_pointsAsked_59 ?_
  refine v_if_eq C 69 (by decide) dX11_pointsAsked_62 (fun c62 => ?_) (fun c62 => ?_)
  · rw [if_pos c62] at hr
    refine v_aload_n C (lv_at hl 1 rfl) rfl dX11_pointsAsked_69 ?_
    refine v_aload_n C (lv_at hl 0 rfl) rfl dX11_pointsAsked_70 ?_
    obtain ⟨b71, f71, hr⟩ := ob hr
    obtain ⟨g71, h71⟩ := rcv_n f71
    obtain ⟨v71, e71, hr⟩ := ob hr
    refine v_callV C (b := b71) h71 (by decide) rfl rfl (k_X11_countHeirs e71) cw_X11_countHeirs w_1076 w_1078 w_33 (show (parseMethodDescriptor (yX11_countHeirs).desc).map (fun d => d.parameters.length) = some 1 by decide +kernel) ⟨by decide, by decide⟩ (rest := [va_rf v55]) (stk2 := [.int v71, va_rf v55]) (by rw [g71]; rfl) rfl (by simp [rf_cat, cat_i, cat_l]) hl dX11_pointsAsked_71 ?_
    exact b_X11_pointsAsked_74 C hr _ (lv_sub hl [1, 2] rfl)
  · rw [if_neg c62] at hr
    refine v_iconst C 0 (by decide) dX11_pointsAsked_65 ?_
    refine v_goto C 74 (by decide) dX11_pointsAsked_66 ?_
    exact b_X11_pointsAsked_74 C hr _ (lv_sub hl [1, 2] rfl)
-- X11_isGood
def f_X11_isGood (S : St) (x0 : Nat) (x1 : Option Nat) : Option (Int32 × St) :=
    (f_X11_partsOf S x1).bind fun v1 =>
    (if v1 ≤ 0 then
    some (0, S)
    else
    (getI S x1 3 2).bind fun v8 =>
    (getR S x1 3 1).bind fun v13 =>
    (rcv S (some x0) 12).bind fun b16 =>
    (f_X11_pointsAsked S b16 v13).bind fun (v16, S16) =>
    (if v8 < v16 then
    some (0, S16)
    else
    some (1, S16)))
theorem k_X11_isGood {l : Launch} {G : Ge} {S S' : St} {x0 : Nat} {x1 : Option Nat} {rr : Int32} (hr : f_X11_isGood S x0 x1 = some (rr, S')) : Ct l G yX11_isGood cX11_isGood 2 (Option.some Jvm.ClassFile.FieldType.boolean) S [va_rf (some x0), va_rf x1] (some (.int rr)) S' 5 111 := by
  refine ct_of (by decide +kernel) (by cases x1 <;> exact Nat.le_of_ble_eq_true rfl) ?_
  intro p e s m args below meth c C ls hl
  have hl : lv_has ls 2 [(0, va_rf (some x0)), (1, va_rf x1)] := by clear hr; cases x1 <;> exact hl
  unfold f_X11_isGood at hr
  refine v_aload_n C (lv_at hl 1 rfl) rfl dX11_isGood_0 ?_
  obtain ⟨v1, e1, hr⟩ := ob hr
  refine v_callS C (k_X11_partsOf e1) cw_X11_partsOf w_1178 w_1179 (show (parseMethodDescriptor (yX11_partsOf).desc).map (fun d => d.parameters.length) = some 1 by decide +kernel) ⟨by decide, by decide⟩ (rest := []) (stk2 := [.int v1]) rfl rfl (Nat.le_of_ble_eq_true rfl) hl dX11_isGood_1 ?_
  refine v_if_le C 26 (by decide) dX11_isGood_4 (fun c4 => ?_) (fun c4 => ?_)
  · rw [if_pos c4] at hr
    refine v_iconst C 0 (by decide) dX11_isGood_26 ?_
    obtain ⟨rfl, rfl⟩ := Prod.mk.inj (os hr)
    exact v_zret C rfl dX11_isGood_27
  · rw [if_neg c4] at hr
    refine v_aload_n C (lv_at hl 1 rfl) rfl dX11_isGood_7 ?_
    obtain ⟨v8, e8, hr⟩ := ob hr
    refine v_getI C fl_RX11_423 rfl e8 dX11_isGood_8 ?_
    refine v_aload_n C (lv_at hl 0 rfl) rfl dX11_isGood_11 ?_
    refine v_aload_n C (lv_at hl 1 rfl) rfl dX11_isGood_12 ?_
    obtain ⟨v13, e13, hr⟩ := ob hr
    refine v_getR C fl_RX11_315 rfl e13 dX11_isGood_13 ?_
    obtain ⟨b16, f16, hr⟩ := ob hr
    obtain ⟨g16, h16⟩ := rcv_n f16
    obtain ⟨⟨v16, S16⟩, e16, hr⟩ := ob hr
    (try dsimp only at hr)
    refine v_callV C (b := b16) h16 (by decide) rfl rfl (k_X11_pointsAsked e16) cw_X11_pointsAsked w_1133 w_1135 w_35 (show (parseMethodDescriptor (yX11_pointsAsked).desc).map (fun d => d.parameters.length) = some 1 by decide +kernel) ⟨by decide, by decide⟩ (rest := [.int v8]) (stk2 := [.int v16, .int v8]) (by rw [g16]; rfl) rfl (Nat.le_of_ble_eq_true rfl) hl dX11_isGood_16 ?_
    refine v_icmp_lt C 26 (by decide) dX11_isGood_19 (fun c19 => ?_) (fun c19 => ?_)
    · rw [if_pos c19] at hr
      refine v_iconst C 0 (by decide) dX11_isGood_26 ?_
      obtain ⟨rfl, rfl⟩ := Prod.mk.inj (os hr)
      exact v_zret C rfl dX11_isGood_27
    · rw [if_neg c19] at hr
      refine v_iconst C 1 (by decide) dX11_isGood_22 ?_
      refine v_goto C 27 (by decide) dX11_isGood_23 ?_
      obtain ⟨rfl, rfl⟩ := Prod.mk.inj (os hr)
      exact v_zret C rfl dX11_isGood_27
-- X11_back
def f_X11_back (S : St) (x0 : Nat) (x1 : Int32) : Option (Int64 × St) :=
    (rcv S (some x0) 12).bind fun b2 =>
    (f_X11_claimAt S b2 x1).bind fun v2 =>
    (if v2 = none then
    some ((-1), S)
    else
    (getI S v2 3 4).bind fun v11 =>
    (if v11 = 1 then
    (rcv S (some x0) 12).bind fun b20 =>
    (f_X11_isGood S b20 v2).bind fun (v20, S20) =>
    (if v20 = 0 then
    (putI S20 v2 3 4 2).bind fun S32 =>
    (getL S32 v2 3 5).bind fun v36 =>
    some (v36, S32)
    else
    some ((-1), S20))
    else
    some ((-1), S)))
theorem k_X11_back {l : Launch} {G : Ge} {S S' : St} {x0 : Nat} {x1 : Int32} {rr : Int64} (hr : f_X11_back S x0 x1 = some (rr, S')) : Ct l G yX11_back cX11_back 3 (Option.some Jvm.ClassFile.FieldType.long) S [va_rf (some x0), .int x1] (some (.long rr)) S' 6 132 := by
  refine ct_of (by decide +kernel) (Nat.le_of_ble_eq_true rfl) ?_
  intro p e s m args below meth c C ls hl
  have hl : lv_has ls 3 [(0, va_rf (some x0)), (1, .int x1)] := hl
  unfold f_X11_back at hr
  refine v_aload_n C (lv_at hl 0 rfl) rfl dX11_back_0 ?_
  refine v_iload_n C (lv_at hl 1 rfl) rfl dX11_back_1 ?_
  obtain ⟨b2, f2, hr⟩ := ob hr
  obtain ⟨g2, h2⟩ := rcv_n f2
  obtain ⟨v2, e2, hr⟩ := ob hr
  refine v_callV C (b := b2) h2 (by decide) rfl rfl (k_X11_claimAt e2) cw_X11_claimAt w_1129 w_1131 w_34 (show (parseMethodDescriptor (yX11_claimAt).desc).map (fun d => d.parameters.length) = some 1 by decide +kernel) ⟨by decide, by decide⟩ (rest := []) (stk2 := [va_rf v2]) (by rw [g2]; rfl) rfl (Nat.le_of_ble_eq_true rfl) hl dX11_back_2 ?_
  refine v_astore_n C (i := 2) (lv' := [(2, va_rf v2), (0, va_rf (some x0)), (1, .int x1)]) hl rfl (by decide) rfl dX11_back_5 (fun ls hl => ?_)
  refine v_aload_n C (lv_at hl 0 rfl) rfl dX11_back_6 ?_
  refine v_ifnull C 26 (by decide) dX11_back_7 (fun c7 => ?_) (fun c7 => ?_)
  · rw [if_pos c7] at hr
    refine v_ldc2 C w_676 dX11_back_26 ?_
    obtain ⟨rfl, rfl⟩ := Prod.mk.inj (os hr)
    exact v_lret C dX11_back_29
  · rw [if_neg c7] at hr
    refine v_aload_n C (lv_at hl 0 rfl) rfl dX11_back_10 ?_
    obtain ⟨v11, e11, hr⟩ := ob hr
    refine v_getI C fl_RX11_319 rfl e11 dX11_back_11 ?_
    refine v_iconst C 1 (by decide) dX11_back_14 ?_
    refine v_icmp_ne C 26 (by decide) dX11_back_15 (fun c15 => ?_) (fun c15 => ?_)
    · rw [if_neg c15] at hr
      refine v_ldc2 C w_676 dX11_back_26 ?_
      obtain ⟨rfl, rfl⟩ := Prod.mk.inj (os hr)
      exact v_lret C dX11_back_29
    · rw [if_pos c15] at hr
      refine v_aload_n C (lv_at hl 1 rfl) rfl dX11_back_18 ?_
      refine v_aload_n C (lv_at hl 0 rfl) rfl dX11_back_19 ?_
      obtain ⟨b20, f20, hr⟩ := ob hr
      obtain ⟨g20, h20⟩ := rcv_n f20
      obtain ⟨⟨v20, S20⟩, e20, hr⟩ := ob hr
      (try dsimp only at hr)
      refine v_callV C (b := b20) h20 (by decide) rfl rfl (k_X11_isGood e20) cw_X11_isGood w_1174 w_1176 w_40 (show (parseMethodDescriptor (yX11_isGood).desc).map (fun d => d.parameters.length) = some 1 by decide +kernel) ⟨by decide, by decide⟩ (rest := []) (stk2 := [.int v20]) (by rw [g20]; rfl) rfl (Nat.le_of_ble_eq_true rfl) hl dX11_back_20 ?_
      refine v_if_eq C 30 (by decide) dX11_back_23 (fun c23 => ?_) (fun c23 => ?_)
      · rw [if_pos c23] at hr
        refine v_aload_n C (lv_at hl 0 rfl) rfl dX11_back_30 ?_
        refine v_iconst C 2 (by decide) dX11_back_31 ?_
        obtain ⟨S32, e32, hr⟩ := ob hr
        refine v_putI C fl_RX11_319 (Or.inl rfl) rfl e32 dX11_back_32 ?_
        refine v_aload_n C (lv_at hl 0 rfl) rfl dX11_back_35 ?_
        obtain ⟨v36, e36, hr⟩ := ob hr
        refine v_getL C fl_RX11_322 rfl e36 dX11_back_36 ?_
        obtain ⟨rfl, rfl⟩ := Prod.mk.inj (os hr)
        exact v_lret C dX11_back_39
      · rw [if_neg c23] at hr
        refine v_ldc2 C w_676 dX11_back_26 ?_
        obtain ⟨rfl, rfl⟩ := Prod.mk.inj (os hr)
        exact v_lret C dX11_back_29
-- X2_init
def f_X2_init (S : St) (x0 : Nat) (x1 : Option Nat) (x2 : Option Nat) (x3 : Int32) (x4 : Int32) : Option St :=
    (putI S (some x0) 3 4 0).bind fun S6 =>
    (putL S6 (some x0) 3 5 0).bind fun S11 =>
    (putL S11 (some x0) 3 6 0).bind fun S16 =>
    (putR S16 (some x0) 3 0 x1).bind fun S21 =>
    (putR S21 (some x0) 3 1 x2).bind fun S26 =>
    (putI S26 (some x0) 3 2 x3).bind fun S31 =>
    (putI S31 (some x0) 3 3 x4).bind fun S37 =>
    some S37
theorem k_X2_init {l : Launch} {G : Ge} {S S' : St} {x0 : Nat} {x1 : Option Nat} {x2 : Option Nat} {x3 : Int32} {x4 : Int32} (hr : f_X2_init S x0 x1 x2 x3 x4 = some S') : Ct l G yX2_init cX2_init 5 (Option.none : Option Jvm.ClassFile.FieldType) S [va_rf (some x0), va_rf x1, va_rf x2, .int x3, .int x4] none S' 1 36 := by
  refine ct_of (by decide +kernel) (by cases x1 <;> cases x2 <;> exact Nat.le_of_ble_eq_true rfl) ?_
  intro p e s m args below meth c C ls hl
  have hl : lv_has ls 5 [(0, va_rf (some x0)), (1, va_rf x1), (2, va_rf x2), (3, .int x3), (4, .int x4)] := by clear hr; cases x1 <;> cases x2 <;> exact hl
  unfold f_X2_init at hr
  refine v_aload_n C (lv_at hl 0 rfl) rfl dX2_init_0 ?_
  refine v_objInit C (b := x0) w_1095 w_134 w_135 ⟨by decide, by decide⟩ (Nat.le_of_ble_eq_true rfl) hl dX2_init_1 ?_
  refine v_aload_n C (lv_at hl 0 rfl) rfl dX2_init_4 ?_
  refine v_iconst C 0 (by decide) dX2_init_5 ?_
  obtain ⟨S6, e6, hr⟩ := ob hr
  refine v_putI C fl_RX2_9 (Or.inl rfl) rfl e6 dX2_init_6 ?_
  refine v_aload_n C (lv_at hl 0 rfl) rfl dX2_init_9 ?_
  refine v_lconst C 0 (by decide) dX2_init_10 ?_
  obtain ⟨S11, e11, hr⟩ := ob hr
  refine v_putL C fl_RX2_13 (Or.inl rfl) rfl e11 dX2_init_11 ?_
  refine v_aload_n C (lv_at hl 0 rfl) rfl dX2_init_14 ?_
  refine v_lconst C 0 (by decide) dX2_init_15 ?_
  obtain ⟨S16, e16, hr⟩ := ob hr
  refine v_putL C fl_RX2_17 (Or.inl rfl) rfl e16 dX2_init_16 ?_
  refine v_aload_n C (lv_at hl 0 rfl) rfl dX2_init_19 ?_
  refine v_aload_n C (lv_at hl 1 rfl) rfl dX2_init_20 ?_
  obtain ⟨S21, e21, hr⟩ := ob hr
  refine v_putR C fl_RX2_20 (Or.inr ⟨rfl, rfl⟩) rfl e21 dX2_init_21 ?_
  refine v_aload_n C (lv_at hl 0 rfl) rfl dX2_init_24 ?_
  refine v_aload_n C (lv_at hl 2 rfl) rfl dX2_init_25 ?_
  obtain ⟨S26, e26, hr⟩ := ob hr
  refine v_putR C fl_RX2_24 (Or.inr ⟨rfl, rfl⟩) rfl e26 dX2_init_26 ?_
  refine v_aload_n C (lv_at hl 0 rfl) rfl dX2_init_29 ?_
  refine v_iload_n C (lv_at hl 3 rfl) rfl dX2_init_30 ?_
  obtain ⟨S31, e31, hr⟩ := ob hr
  refine v_putI C fl_RX2_28 (Or.inr ⟨rfl, rfl⟩) rfl e31 dX2_init_31 ?_
  refine v_aload_n C (lv_at hl 0 rfl) rfl dX2_init_34 ?_
  refine v_iload C (lv_at hl 4 rfl) dX2_init_35 ?_
  obtain ⟨S37, e37, hr⟩ := ob hr
  refine v_putI C fl_RX2_31 (Or.inr ⟨rfl, rfl⟩) rfl e37 dX2_init_37 ?_
  obtain rfl := os hr
  exact v_vret C dX2_init_40
-- X11_claim
def f_X11_claim (S : St) (x0 : Nat) (x1 : Int32) (x2 : Int32) (x3 : Int32) (x4 : Int32) : Option (Int32 × St) :=
    (rcv S (some x0) 12).bind fun b2 =>
    (f_X11_personAt S b2 x1).bind fun v2 =>
    (rcv S (some x0) 12).bind fun b9 =>
    (f_X11_accountAt S b9 x2).bind fun v9 =>
    (if v2 = none then
    some ((-1), S)
    else
    (if v9 = none then
    some ((-1), S)
    else
    (rcv S v9 1).bind fun b26 =>
    (f_X0_isHeld S b26).bind fun v26 =>
    (if v26 = 0 then
    some ((-1), S)
    else
    (getR S (some x0) 12 4).bind fun v33 =>
    (rcv S v33 0).bind fun b36 =>
    (f_Jx4a65c_size_8abf5 S b36).bind fun v36 =>
    (if v36 < 60 then
    (f_X11_isWithin S x3 100).bind fun v49 =>
    (if v49 = 0 then
    some ((-1), S)
    else
    (f_X11_isWithin S x4 101).bind fun v59 =>
    (if v59 = 0 then
    some ((-1), S)
    else
    (getR S (some x0) 12 4).bind fun v68 =>
    (newO S 3).bind fun (a71, S71) =>
    (rcv S71 (some a71) 3).bind fun b82 =>
    (f_X2_init S71 b82 v2 v9 x3 x4).bind fun S82 =>
    (rcv S82 v68 0).bind fun b85 =>
    (f_Jx4a65c_add_9ea2d S82 b85 (some a71)).bind fun (v85, S85) =>
    (getR S85 (some x0) 12 4).bind fun v90 =>
    (rcv S85 v90 0).bind fun b93 =>
    (f_Jx4a65c_size_8abf5 S85 b93).bind fun v93 =>
    some ((v93 - 1), S85)))
    else
    some ((-1), S)))))
theorem k_X11_claim {l : Launch} {G : Ge} {S S' : St} {x0 : Nat} {x1 : Int32} {x2 : Int32} {x3 : Int32} {x4 : Int32} {rr : Int32} (hr : f_X11_claim S x0 x1 x2 x3 x4 = some (rr, S')) : Ct l G yX11_claim cX11_claim 7 (Option.some Jvm.ClassFile.FieldType.int) S [va_rf (some x0), .int x1, .int x2, .int x3, .int x4] (some (.int rr)) S' 7 167 := by
  refine ct_of (by decide +kernel) (Nat.le_of_ble_eq_true rfl) ?_
  intro p e s m args below meth c C ls hl
  have hl : lv_has ls 7 [(0, va_rf (some x0)), (1, .int x1), (2, .int x2), (3, .int x3), (4, .int x4)] := hl
  unfold f_X11_claim at hr
  refine v_aload_n C (lv_at hl 0 rfl) rfl dX11_claim_0 ?_
  refine v_iload_n C (lv_at hl 1 rfl) rfl dX11_claim_1 ?_
  obtain ⟨b2, f2, hr⟩ := ob hr
  obtain ⟨g2, h2⟩ := rcv_n f2
  obtain ⟨v2, e2, hr⟩ := ob hr
  refine v_callV C (b := b2) h2 (by decide) rfl rfl (k_X11_personAt e2) cw_X11_personAt w_486 w_488 w_6 (show (parseMethodDescriptor (yX11_personAt).desc).map (fun d => d.parameters.length) = some 1 by decide +kernel) ⟨by decide, by decide⟩ (rest := []) (stk2 := [va_rf v2]) (by rw [g2]; rfl) rfl (Nat.le_of_ble_eq_true rfl) hl dX11_claim_2 ?_
  refine v_astore C (i := 5) (lv' := [(5, va_rf v2), (0, va_rf (some x0)), (1, .int x1), (2, .int x2), (3, .int x3), (4, .int x4)]) hl (by decide) rfl dX11_claim_5 (fun ls hl => ?_)
  refine v_aload_n C (lv_at hl 1 rfl) rfl dX11_claim_7 ?_
  refine v_iload_n C (lv_at hl 3 rfl) rfl dX11_claim_8 ?_
  obtain ⟨b9, f9, hr⟩ := ob hr
  obtain ⟨g9, h9⟩ := rcv_n f9
  obtain ⟨v9, e9, hr⟩ := ob hr
  refine v_callV C (b := b9) h9 (by decide) rfl rfl (k_X11_accountAt e9) cw_X11_accountAt w_606 w_608 w_8 (show (parseMethodDescriptor (yX11_accountAt).desc).map (fun d => d.parameters.length) = some 1 by decide +kernel) ⟨by decide, by decide⟩ (rest := []) (stk2 := [va_rf v9]) (by rw [g9]; rfl) rfl (Nat.le_of_ble_eq_true rfl) hl dX11_claim_9 ?_
  refine v_astore C (i := 6) (lv' := [(6, va_rf v9), (5, va_rf v2), (0, va_rf (some x0)), (1, .int x1), (2, .int x2), (3, .int x3), (4, .int x4)]) hl (by decide) (by simp [rf_n2]) dX11_claim_12 (fun ls hl => ?_)
  refine v_aload C (lv_at hl 1 rfl) dX11_claim_14 ?_
  refine v_ifnull C 44 (by decide) dX11_claim_16 (fun c16 => ?_) (fun c16 => ?_)
  · rw [if_pos c16] at hr
    refine v_iconst C (-1) (by decide) dX11_claim_44 ?_
    obtain ⟨rfl, rfl⟩ := Prod.mk.inj (os hr)
    exact v_iret C dX11_claim_45
  · rw [if_neg c16] at hr
    refine v_aload C (lv_at hl 0 rfl) dX11_claim_19 ?_
    refine v_ifnull C 44 (by decide) dX11_claim_21 (fun c21 => ?_) (fun c21 => ?_)
    · rw [if_pos c21] at hr
      refine v_iconst C (-1) (by decide) dX11_claim_44 ?_
      obtain ⟨rfl, rfl⟩ := Prod.mk.inj (os hr)
      exact v_iret C dX11_claim_45
    · rw [if_neg c21] at hr
      refine v_aload C (lv_at hl 0 rfl) dX11_claim_24 ?_
      obtain ⟨b26, f26, hr⟩ := ob hr
      obtain ⟨g26, h26⟩ := rcv_n f26
      obtain ⟨v26, e26, hr⟩ := ob hr
      refine v_callV C (b := b26) h26 (by decide) rfl rfl (k_X0_isHeld e26) cw_X0_isHeld w_962 w_963 w_964 (show (parseMethodDescriptor (yX0_isHeld).desc).map (fun d => d.parameters.length) = some 0 by decide +kernel) ⟨by decide, by decide⟩ (rest := []) (stk2 := [.int v26]) (by rw [g26]; rfl) rfl (Nat.le_of_ble_eq_true rfl) hl dX11_claim_26 ?_
      refine v_if_eq C 44 (by decide) dX11_claim_29 (fun c29 => ?_) (fun c29 => ?_)
      · rw [if_pos c29] at hr
        refine v_iconst C (-1) (by decide) dX11_claim_44 ?_
        obtain ⟨rfl, rfl⟩ := Prod.mk.inj (os hr)
        exact v_iret C dX11_claim_45
      · rw [if_neg c29] at hr
        refine v_aload_n C (lv_at hl 2 rfl) rfl dX11_claim_32 ?_
        obtain ⟨v33, e33, hr⟩ := ob hr
        refine v_getR C fl_RX11_26 rfl e33 dX11_claim_33 ?_
        obtain ⟨b36, f36, hr⟩ := ob hr
        obtain ⟨g36, h36⟩ := rcv_n f36
        obtain ⟨v36, e36, hr⟩ := ob hr
        refine v_callV C (b := b36) h36 (by decide) rfl rfl (k_Jx4a65c_size_8abf5 e36) cw_Jx4a65c_size_8abf5 w_352 w_353 w_354 (show (parseMethodDescriptor (yJx4a65c_size_8abf5).desc).map (fun d => d.parameters.length) = some 0 by decide +kernel) ⟨by decide, by decide⟩ (rest := []) (stk2 := [.int v36]) (by rw [g36]; rfl) rfl (Nat.le_of_ble_eq_true rfl) hl dX11_claim_36 ?_
        refine v_bipush C 60 (by decide) dX11_claim_39 ?_
        refine v_icmp_lt C 46 (by decide) dX11_claim_41 (fun c41 => ?_) (fun c41 => ?_)
        · rw [if_pos c41] at hr
          refine v_iload_n C (lv_at hl 5 rfl) rfl dX11_claim_46 ?_
          refine v_bipush C 100 (by decide) dX11_claim_47 ?_
          obtain ⟨v49, e49, hr⟩ := ob hr
          refine v_callS C (k_X11_isWithin e49) cw_X11_isWithin w_349 w_350 (show (parseMethodDescriptor (yX11_isWithin).desc).map (fun d => d.parameters.length) = some 2 by decide +kernel) ⟨by decide, by decide⟩ (rest := []) (stk2 := [.int v49]) rfl rfl (Nat.le_of_ble_eq_true rfl) hl dX11_claim_49 ?_
          refine v_if_eq C 65 (by decide) dX11_claim_52 (fun c52 => ?_) (fun c52 => ?_)
          · rw [if_pos c52] at hr
            refine v_iconst C (-1) (by decide) dX11_claim_65 ?_
            obtain ⟨rfl, rfl⟩ := Prod.mk.inj (os hr)
            exact v_iret C dX11_claim_66
          · rw [if_neg c52] at hr
            refine v_iload C (lv_at hl 6 rfl) dX11_claim_55 ?_
            refine v_bipush C 101 (by decide) dX11_claim_57 ?_
            obtain ⟨v59, e59, hr⟩ := ob hr
            refine v_callS C (k_X11_isWithin e59) cw_X11_isWithin w_349 w_350 (show (parseMethodDescriptor (yX11_isWithin).desc).map (fun d => d.parameters.length) = some 2 by decide +kernel) ⟨by decide, by decide⟩ (rest := []) (stk2 := [.int v59]) rfl rfl (Nat.le_of_ble_eq_true rfl) hl dX11_claim_59 ?_
            refine v_if_ne C 67 (by decide) dX11_claim_62 (fun c62 => ?_) (fun c62 => ?_)
            · rw [if_neg c62] at hr
              refine v_aload_n C (lv_at hl 2 rfl) rfl dX11_claim_67 ?_
              obtain ⟨v68, e68, hr⟩ := ob hr
              refine v_getR C fl_RX11_26 rfl e68 dX11_claim_68 ?_
              obtain ⟨⟨a71, S71⟩, e71, hr⟩ := ob hr
              (try dsimp only at hr)
              refine v_newO C e71 (by decide) rfl w_984 w_1091 w_127 lay_3 tyo_3 dfo_3 dX11_claim_71 ?_
              refine v_dup C (rf_cat _) dX11_claim_74 ?_
              refine v_aload C (lv_at hl 1 rfl) dX11_claim_75 ?_
              refine v_aload C (lv_at hl 0 rfl) dX11_claim_77 ?_
              refine v_iload_n C (lv_at hl 5 rfl) rfl dX11_claim_79 ?_
              refine v_iload C (lv_at hl 6 rfl) dX11_claim_80 ?_
              obtain ⟨b82, f82, hr⟩ := ob hr
              obtain ⟨g82, h82⟩ := rcv_n f82
              obtain ⟨S82, e82, hr⟩ := ob hr
              refine v_callI C (b := b82) (k_X2_init e82) cw_X2_init w_1092 w_1093 rfl (show (parseMethodDescriptor (yX2_init).desc).map (fun d => d.parameters.length) = some 4 by decide +kernel) ⟨by decide, by decide⟩ (rest := [va_rf (some a71), va_rf v68]) (stk2 := [va_rf (some a71), va_rf v68]) (by rw [g82]; rfl) rfl (by simp [rf_cat, cat_i, cat_l]) hl dX11_claim_82 ?_
              obtain ⟨b85, f85, hr⟩ := ob hr
              obtain ⟨g85, h85⟩ := rcv_n f85
              obtain ⟨⟨v85, S85⟩, e85, hr⟩ := ob hr
              (try dsimp only at hr)
              refine v_callV C (b := b85) h85 (by decide) rfl rfl (k_Jx4a65c_add_9ea2d e85) cw_Jx4a65c_add_9ea2d w_382 w_383 w_384 (show (parseMethodDescriptor (yJx4a65c_add_9ea2d).desc).map (fun d => d.parameters.length) = some 1 by decide +kernel) ⟨by decide, by decide⟩ (rest := []) (stk2 := [.int v85]) (by rw [g85]; rfl) rfl (Nat.le_of_ble_eq_true rfl) hl dX11_claim_85 ?_
              refine v_pop C rfl dX11_claim_88 ?_
              refine v_aload_n C (lv_at hl 2 rfl) rfl dX11_claim_89 ?_
              obtain ⟨v90, e90, hr⟩ := ob hr
              refine v_getR C fl_RX11_26 rfl e90 dX11_claim_90 ?_
              obtain ⟨b93, f93, hr⟩ := ob hr
              obtain ⟨g93, h93⟩ := rcv_n f93
              obtain ⟨v93, e93, hr⟩ := ob hr
              refine v_callV C (b := b93) h93 (by decide) rfl rfl (k_Jx4a65c_size_8abf5 e93) cw_Jx4a65c_size_8abf5 w_352 w_353 w_354 (show (parseMethodDescriptor (yJx4a65c_size_8abf5).desc).map (fun d => d.parameters.length) = some 0 by decide +kernel) ⟨by decide, by decide⟩ (rest := []) (stk2 := [.int v93]) (by rw [g93]; rfl) rfl (Nat.le_of_ble_eq_true rfl) hl dX11_claim_93 ?_
              refine v_iconst C 1 (by decide) dX11_claim_96 ?_
              refine v_isub C dX11_claim_97 ?_
              obtain ⟨rfl, rfl⟩ := Prod.mk.inj (os hr)
              exact v_iret C dX11_claim_98
            · rw [if_pos c62] at hr
              refine v_iconst C (-1) (by decide) dX11_claim_65 ?_
              obtain ⟨rfl, rfl⟩ := Prod.mk.inj (os hr)
              exact v_iret C dX11_claim_66
        · rw [if_neg c41] at hr
          refine v_iconst C (-1) (by decide) dX11_claim_44 ?_
          obtain ⟨rfl, rfl⟩ := Prod.mk.inj (os hr)
          exact v_iret C dX11_claim_45
-- X11_claimOf
def f_X11_claimOf (S : St) (x0 : Nat) (x1 : Int32) (x2 : Int32) : Option (Int64 × St) :=
    (rcv S (some x0) 12).bind fun b2 =>
    (f_X11_claimAt S b2 x1).bind fun v2 =>
    (if v2 = none then
    some ((-1), S)
    else
    (if x2 = 0 then
    (getR S v2 3 0).bind fun v57 =>
    (getI S v57 9 0).bind fun v60 =>
    some ((Int32.toInt64 v60), S)
    else
    (if x2 = 1 then
    (getR S v2 3 1).bind fun v66 =>
    (getI S v66 1 0).bind fun v69 =>
    some ((Int32.toInt64 v69), S)
    else
    (if x2 = 2 then
    (getR S v2 3 1).bind fun v76 =>
    (rcv S (some x0) 12).bind fun b79 =>
    (f_X11_pointsAsked S b79 v76).bind fun (v79, S79) =>
    some ((Int32.toInt64 v79), S79)
    else
    (if x2 = 3 then
    (rcv S (some x0) 12).bind fun b86 =>
    (f_X11_isGood S b86 v2).bind fun (v86, S86) =>
    (if v86 = 0 then
    some (0, S86)
    else
    some (1, S86))
    else
    (if x2 = 4 then
    (getL S v2 3 5).bind fun v99 =>
    some (v99, S)
    else
    (if x2 = 5 then
    (getL S v2 3 6).bind fun v104 =>
    some (v104, S)
    else
    (if x2 = 6 then
    (getI S v2 3 4).bind fun v109 =>
    some ((Int32.toInt64 v109), S)
    else
    some ((-1), S)))))))))
theorem k_X11_claimOf {l : Launch} {G : Ge} {S S' : St} {x0 : Nat} {x1 : Int32} {x2 : Int32} {rr : Int64} (hr : f_X11_claimOf S x0 x1 x2 = some (rr, S')) : Ct l G yX11_claimOf cX11_claimOf 4 (Option.some Jvm.ClassFile.FieldType.long) S [va_rf (some x0), .int x1, .int x2] (some (.long rr)) S' 6 132 := by
  refine ct_of (by decide +kernel) (Nat.le_of_ble_eq_true rfl) ?_
  intro p e s m args below meth c C ls hl
  have hl : lv_has ls 4 [(0, va_rf (some x0)), (1, .int x1), (2, .int x2)] := hl
  unfold f_X11_claimOf at hr
  refine v_aload_n C (lv_at hl 0 rfl) rfl dX11_claimOf_0 ?_
  refine v_iload_n C (lv_at hl 1 rfl) rfl dX11_claimOf_1 ?_
  obtain ⟨b2, f2, hr⟩ := ob hr
  obtain ⟨g2, h2⟩ := rcv_n f2
  obtain ⟨v2, e2, hr⟩ := ob hr
  refine v_callV C (b := b2) h2 (by decide) rfl rfl (k_X11_claimAt e2) cw_X11_claimAt w_1129 w_1131 w_34 (show (parseMethodDescriptor (yX11_claimAt).desc).map (fun d => d.parameters.length) = some 1 by decide +kernel) ⟨by decide, by decide⟩ (rest := []) (stk2 := [va_rf v2]) (by rw [g2]; rfl) rfl (Nat.le_of_ble_eq_true rfl) hl dX11_claimOf_2 ?_
  refine v_astore_n C (i := 3) (lv' := [(3, va_rf v2), (0, va_rf (some x0)), (1, .int x1), (2, .int x2)]) hl rfl (by decide) rfl dX11_claimOf_5 (fun ls hl => ?_)
  refine v_aload_n C (lv_at hl 0 rfl) rfl dX11_claimOf_6 ?_
  refine v_ifnonnull C 14 (by decide) dX11_claimOf_7 (fun c7 => ?_) (fun c7 => ?_)
  · rw [if_neg c7] at hr
    refine v_iload_n C (lv_at hl 3 rfl) rfl dX11_claimOf_14 ?_
    by_cases q15_0 : x2 = 0
    · rw [if_pos q15_0] at hr
      refine v_tableIn C (off := 41) 56 (by rw [q15_0]; decide) (by rw [q15_0]; decide) (by rw [q15_0]; decide) (by decide) dX11_claimOf_15 ?_
      refine v_aload_n C (lv_at hl 0 rfl) rfl dX11_claimOf_56 ?_
      obtain ⟨v57, e57, hr⟩ := ob hr
      refine v_getR C fl_RX11_380 rfl e57 dX11_claimOf_57 ?_
      obtain ⟨v60, e60, hr⟩ := ob hr
      refine v_getI C fl_RX11_151 rfl e60 dX11_claimOf_60 ?_
      refine v_i2l C dX11_claimOf_63 ?_
      obtain ⟨rfl, rfl⟩ := Prod.mk.inj (os hr)
      exact v_lret C dX11_claimOf_64
    rw [if_neg q15_0] at hr
    by_cases q15_1 : x2 = 1
    · rw [if_pos q15_1] at hr
      refine v_tableIn C (off := 50) 65 (by rw [q15_1]; decide) (by rw [q15_1]; decide) (by rw [q15_1]; decide) (by decide) dX11_claimOf_15 ?_
      refine v_aload_n C (lv_at hl 0 rfl) rfl dX11_claimOf_65 ?_
      obtain ⟨v66, e66, hr⟩ := ob hr
      refine v_getR C fl_RX11_315 rfl e66 dX11_claimOf_66 ?_
      obtain ⟨v69, e69, hr⟩ := ob hr
      refine v_getI C fl_RX11_167 rfl e69 dX11_claimOf_69 ?_
      refine v_i2l C dX11_claimOf_72 ?_
      obtain ⟨rfl, rfl⟩ := Prod.mk.inj (os hr)
      exact v_lret C dX11_claimOf_73
    rw [if_neg q15_1] at hr
    by_cases q15_2 : x2 = 2
    · rw [if_pos q15_2] at hr
      refine v_tableIn C (off := 59) 74 (by rw [q15_2]; decide) (by rw [q15_2]; decide) (by rw [q15_2]; decide) (by decide) dX11_claimOf_15 ?_
      refine v_aload_n C (lv_at hl 1 rfl) rfl dX11_claimOf_74 ?_
      refine v_aload_n C (lv_at hl 0 rfl) rfl dX11_claimOf_75 ?_
      obtain ⟨v76, e76, hr⟩ := ob hr
      refine v_getR C fl_RX11_315 rfl e76 dX11_claimOf_76 ?_
      obtain ⟨b79, f79, hr⟩ := ob hr
      obtain ⟨g79, h79⟩ := rcv_n f79
      obtain ⟨⟨v79, S79⟩, e79, hr⟩ := ob hr
      (try dsimp only at hr)
      refine v_callV C (b := b79) h79 (by decide) rfl rfl (k_X11_pointsAsked e79) cw_X11_pointsAsked w_1133 w_1135 w_35 (show (parseMethodDescriptor (yX11_pointsAsked).desc).map (fun d => d.parameters.length) = some 1 by decide +kernel) ⟨by decide, by decide⟩ (rest := []) (stk2 := [.int v79]) (by rw [g79]; rfl) rfl (Nat.le_of_ble_eq_true rfl) hl dX11_claimOf_79 ?_
      refine v_i2l C dX11_claimOf_82 ?_
      obtain ⟨rfl, rfl⟩ := Prod.mk.inj (os hr)
      exact v_lret C dX11_claimOf_83
    rw [if_neg q15_2] at hr
    by_cases q15_3 : x2 = 3
    · rw [if_pos q15_3] at hr
      refine v_tableIn C (off := 69) 84 (by rw [q15_3]; decide) (by rw [q15_3]; decide) (by rw [q15_3]; decide) (by decide) dX11_claimOf_15 ?_
      refine v_aload_n C (lv_at hl 1 rfl) rfl dX11_claimOf_84 ?_
      refine v_aload_n C (lv_at hl 0 rfl) rfl dX11_claimOf_85 ?_
      obtain ⟨b86, f86, hr⟩ := ob hr
      obtain ⟨g86, h86⟩ := rcv_n f86
      obtain ⟨⟨v86, S86⟩, e86, hr⟩ := ob hr
      (try dsimp only at hr)
      refine v_callV C (b := b86) h86 (by decide) rfl rfl (k_X11_isGood e86) cw_X11_isGood w_1174 w_1176 w_40 (show (parseMethodDescriptor (yX11_isGood).desc).map (fun d => d.parameters.length) = some 1 by decide +kernel) ⟨by decide, by decide⟩ (rest := []) (stk2 := [.int v86]) (by rw [g86]; rfl) rfl (Nat.le_of_ble_eq_true rfl) hl dX11_claimOf_86 ?_
      refine v_if_eq C 96 (by decide) dX11_claimOf_89 (fun c89 => ?_) (fun c89 => ?_)
      · rw [if_pos c89] at hr
        refine v_lconst C 0 (by decide) dX11_claimOf_96 ?_
        obtain ⟨rfl, rfl⟩ := Prod.mk.inj (os hr)
        exact v_lret C dX11_claimOf_97
      · rw [if_neg c89] at hr
        refine v_lconst C 1 (by decide) dX11_claimOf_92 ?_
        refine v_goto C 97 (by decide) dX11_claimOf_93 ?_
        obtain ⟨rfl, rfl⟩ := Prod.mk.inj (os hr)
        exact v_lret C dX11_claimOf_97
    rw [if_neg q15_3] at hr
    by_cases q15_4 : x2 = 4
    · rw [if_pos q15_4] at hr
      refine v_tableIn C (off := 83) 98 (by rw [q15_4]; decide) (by rw [q15_4]; decide) (by rw [q15_4]; decide) (by decide) dX11_claimOf_15 ?_
      refine v_aload_n C (lv_at hl 0 rfl) rfl dX11_claimOf_98 ?_
      obtain ⟨v99, e99, hr⟩ := ob hr
      refine v_getL C fl_RX11_322 rfl e99 dX11_claimOf_99 ?_
      obtain ⟨rfl, rfl⟩ := Prod.mk.inj (os hr)
      exact v_lret C dX11_claimOf_102
    rw [if_neg q15_4] at hr
    by_cases q15_5 : x2 = 5
    · rw [if_pos q15_5] at hr
      refine v_tableIn C (off := 88) 103 (by rw [q15_5]; decide) (by rw [q15_5]; decide) (by rw [q15_5]; decide) (by decide) dX11_claimOf_15 ?_
      refine v_aload_n C (lv_at hl 0 rfl) rfl dX11_claimOf_103 ?_
      obtain ⟨v104, e104, hr⟩ := ob hr
      refine v_getL C fl_RX11_391 rfl e104 dX11_claimOf_104 ?_
      obtain ⟨rfl, rfl⟩ := Prod.mk.inj (os hr)
      exact v_lret C dX11_claimOf_107
    rw [if_neg q15_5] at hr
    by_cases q15_6 : x2 = 6
    · rw [if_pos q15_6] at hr
      refine v_tableIn C (off := 93) 108 (by rw [q15_6]; decide) (by rw [q15_6]; decide) (by rw [q15_6]; decide) (by decide) dX11_claimOf_15 ?_
      refine v_aload_n C (lv_at hl 0 rfl) rfl dX11_claimOf_108 ?_
      obtain ⟨v109, e109, hr⟩ := ob hr
      refine v_getI C fl_RX11_319 rfl e109 dX11_claimOf_109 ?_
      refine v_i2l C dX11_claimOf_112 ?_
      obtain ⟨rfl, rfl⟩ := Prod.mk.inj (os hr)
      exact v_lret C dX11_claimOf_113
    rw [if_neg q15_6] at hr
    have kd15 : V p l e (rmo 6 132 S) s m args below meth c G S S (QM below args s G S S' (some (.long rr))) (F0 m 114 ls []) := by
      refine v_ldc2 C w_676 dX11_claimOf_114 ?_
      obtain ⟨rfl, rfl⟩ := Prod.mk.inj (os hr)
      exact v_lret C dX11_claimOf_117
    have z0 := lv_neT q15_0 (a := 0) (by decide)
    have z1 := lv_neT q15_1 (a := 1) (by decide)
    have z2 := lv_neT q15_2 (a := 2) (by decide)
    have z3 := lv_neT q15_3 (a := 3) (by decide)
    have z4 := lv_neT q15_4 (a := 4) (by decide)
    have z5 := lv_neT q15_5 (a := 5) (by decide)
    have z6 := lv_neT q15_6 (a := 6) (by decide)
    exact v_tableOut C 114 (by omega) (by decide) dX11_claimOf_15 kd15
  · rw [if_pos c7] at hr
    refine v_ldc2 C w_676 dX11_claimOf_10 ?_
    obtain ⟨rfl, rfl⟩ := Prod.mk.inj (os hr)
    exact v_lret C dX11_claimOf_13
-- X11_costs
def f_X11_costs (S : St) (x0 : Nat) (x1 : Int32) (x2 : Int32) : Option (Int32 × St) :=
    (getR S (some x0) 12 14).bind fun v2 =>
    (alen S v2).bind fun v5 =>
    (f_X11_isWithin S x1 v5).bind fun v6 =>
    (if v6 = 0 then
    some (0, S)
    else
    (if x2 < 1 then
    some (0, S)
    else
    (if x2 ≤ 99 then
    (getR S (some x0) 12 14).bind fun v26 =>
    (stI S v26 15 x1 x2).bind fun S31 =>
    some (1, S31)
    else
    some (0, S))))
theorem k_X11_costs {l : Launch} {G : Ge} {S S' : St} {x0 : Nat} {x1 : Int32} {x2 : Int32} {rr : Int32} (hr : f_X11_costs S x0 x1 x2 = some (rr, S')) : Ct l G yX11_costs cX11_costs 3 (Option.some Jvm.ClassFile.FieldType.boolean) S [va_rf (some x0), .int x1, .int x2] (some (.int rr)) S' 1 21 := by
  refine ct_of (by decide +kernel) (Nat.le_of_ble_eq_true rfl) ?_
  intro p e s m args below meth c C ls hl
  have hl : lv_has ls 3 [(0, va_rf (some x0)), (1, .int x1), (2, .int x2)] := hl
  unfold f_X11_costs at hr
  refine v_iload_n C (lv_at hl 1 rfl) rfl dX11_costs_0 ?_
  refine v_aload_n C (lv_at hl 0 rfl) rfl dX11_costs_1 ?_
  obtain ⟨v2, e2, hr⟩ := ob hr
  refine v_getR C fl_RX11_72 rfl e2 dX11_costs_2 ?_
  obtain ⟨v5, e5, hr⟩ := ob hr
  refine v_alen C e5 dX11_costs_5 ?_
  obtain ⟨v6, e6, hr⟩ := ob hr
  refine v_callS C (k_X11_isWithin e6) cw_X11_isWithin w_349 w_350 (show (parseMethodDescriptor (yX11_isWithin).desc).map (fun d => d.parameters.length) = some 2 by decide +kernel) ⟨by decide, by decide⟩ (rest := []) (stk2 := [.int v6]) rfl rfl (Nat.le_of_ble_eq_true rfl) hl dX11_costs_6 ?_
  refine v_if_eq C 23 (by decide) dX11_costs_9 (fun c9 => ?_) (fun c9 => ?_)
  · rw [if_pos c9] at hr
    refine v_iconst C 0 (by decide) dX11_costs_23 ?_
    obtain ⟨rfl, rfl⟩ := Prod.mk.inj (os hr)
    exact v_zret C rfl dX11_costs_24
  · rw [if_neg c9] at hr
    refine v_iload_n C (lv_at hl 2 rfl) rfl dX11_costs_12 ?_
    refine v_iconst C 1 (by decide) dX11_costs_13 ?_
    refine v_icmp_lt C 23 (by decide) dX11_costs_14 (fun c14 => ?_) (fun c14 => ?_)
    · rw [if_pos c14] at hr
      refine v_iconst C 0 (by decide) dX11_costs_23 ?_
      obtain ⟨rfl, rfl⟩ := Prod.mk.inj (os hr)
      exact v_zret C rfl dX11_costs_24
    · rw [if_neg c14] at hr
      refine v_iload_n C (lv_at hl 2 rfl) rfl dX11_costs_17 ?_
      refine v_bipush C 99 (by decide) dX11_costs_18 ?_
      refine v_icmp_le C 25 (by decide) dX11_costs_20 (fun c20 => ?_) (fun c20 => ?_)
      · rw [if_pos c20] at hr
        refine v_aload_n C (lv_at hl 0 rfl) rfl dX11_costs_25 ?_
        obtain ⟨v26, e26, hr⟩ := ob hr
        refine v_getR C fl_RX11_72 rfl e26 dX11_costs_26 ?_
        refine v_iload_n C (lv_at hl 1 rfl) rfl dX11_costs_29 ?_
        refine v_iload_n C (lv_at hl 2 rfl) rfl dX11_costs_30 ?_
        obtain ⟨S31, e31, hr⟩ := ob hr
        refine v_stI_i C e31 dX11_costs_31 ?_
        refine v_iconst C 1 (by decide) dX11_costs_32 ?_
        obtain ⟨rfl, rfl⟩ := Prod.mk.inj (os hr)
        exact v_zret C rfl dX11_costs_33
      · rw [if_neg c20] at hr
        refine v_iconst C 0 (by decide) dX11_costs_23 ?_
        obtain ⟨rfl, rfl⟩ := Prod.mk.inj (os hr)
        exact v_zret C rfl dX11_costs_24
end Mth
