section Mth
variable {p : Program} {l : Launch} {e : Env} {s : State} {m : MethodId} {args : Array Value} {below : List Frame} {meth : Method} {c : Code} {G : Ge}
-- Jxc12de_init_da8c8
def f_Jxc12de_init_da8c8 (S : St) (x0 : Nat) : Option St :=
    (rcv S (some x0) 0).bind fun b1 =>
    (f_Jxa1e45_init_da8c8 S b1).bind fun _ =>
    (putI S (some x0) 0 0 0).bind fun S6 =>
    some S6
theorem k_Jxc12de_init_da8c8 {l : Launch} {G : Ge} {S S' : St} {x0 : Nat} (hr : f_Jxc12de_init_da8c8 S x0 = some S') : Ct l G yJxc12de_init_da8c8 cJxc12de_init_da8c8 1 (Option.none : Option Jvm.ClassFile.FieldType) S [va_rf (some x0)] none S' 2 56 := by
  refine ct_of (by decide +kernel) (Nat.le_of_ble_eq_true rfl) ?_
  intro p e s m args below meth c C ls hl
  have hl : lv_has ls 1 [(0, va_rf (some x0))] := hl
  unfold f_Jxc12de_init_da8c8 at hr
  refine v_aload_n C (lv_at hl 0 rfl) rfl dJxc12de_init_da8c8_0 ?_
  obtain ⟨b1, f1, hr⟩ := ob hr
  obtain ⟨g1, h1⟩ := rcv_n f1
  obtain ⟨_, e1, hr⟩ := ob hr
  refine v_callI C (b := b1) (k_Jxa1e45_init_da8c8 e1) cw_Jxa1e45_init_da8c8 w_144 w_145 rfl (show (parseMethodDescriptor (yJxa1e45_init_da8c8).desc).map (fun d => d.parameters.length) = some 0 by decide +kernel) ⟨by decide, by decide⟩ (rest := []) (stk2 := []) (by rw [g1]; rfl) rfl (Nat.le_of_ble_eq_true rfl) hl dJxc12de_init_da8c8_1 ?_
  refine v_aload_n C (lv_at hl 0 rfl) rfl dJxc12de_init_da8c8_4 ?_
  refine v_iconst C 0 (by decide) dJxc12de_init_da8c8_5 ?_
  obtain ⟨S6, e6, hr⟩ := ob hr
  refine v_putI C fl_RJxc12de_7 (Or.inl rfl) rfl e6 dJxc12de_init_da8c8_6 ?_
  obtain rfl := os hr
  exact v_vret C dJxc12de_init_da8c8_9
-- Jx4a65c_init_da8c8
def f_Jx4a65c_init_da8c8 (S : St) (x0 : Nat) : Option St :=
    (rcv S (some x0) 0).bind fun b1 =>
    (f_Jxc12de_init_da8c8 S b1).bind fun S1 =>
    (putR S1 (some x0) 0 1 (some (emp S1))).bind fun S8 =>
    some S8
theorem k_Jx4a65c_init_da8c8 {l : Launch} {G : Ge} {S S' : St} {x0 : Nat} (hr : f_Jx4a65c_init_da8c8 S x0 = some S') : Ct l G yJx4a65c_init_da8c8 cJx4a65c_init_da8c8 1 (Option.none : Option Jvm.ClassFile.FieldType) S [va_rf (some x0)] none S' 3 76 := by
  refine ct_of (by decide +kernel) (Nat.le_of_ble_eq_true rfl) ?_
  intro p e s m args below meth c C ls hl
  have hl : lv_has ls 1 [(0, va_rf (some x0))] := hl
  unfold f_Jx4a65c_init_da8c8 at hr
  refine v_aload_n C (lv_at hl 0 rfl) rfl dJx4a65c_init_da8c8_0 ?_
  obtain ⟨b1, f1, hr⟩ := ob hr
  obtain ⟨g1, h1⟩ := rcv_n f1
  obtain ⟨S1, e1, hr⟩ := ob hr
  refine v_callI C (b := b1) (k_Jxc12de_init_da8c8 e1) cw_Jxc12de_init_da8c8 w_141 w_142 rfl (show (parseMethodDescriptor (yJxc12de_init_da8c8).desc).map (fun d => d.parameters.length) = some 0 by decide +kernel) ⟨by decide, by decide⟩ (rest := []) (stk2 := []) (by rw [g1]; rfl) rfl (Nat.le_of_ble_eq_true rfl) hl dJx4a65c_init_da8c8_1 ?_
  refine v_aload_n C (lv_at hl 0 rfl) rfl dJx4a65c_init_da8c8_4 ?_
  refine v_getE C w_148 dJx4a65c_init_da8c8_5 ?_
  obtain ⟨S8, e8, hr⟩ := ob hr
  refine v_putR C fl_RJx4a65c_9 (Or.inl rfl) rfl e8 dJx4a65c_init_da8c8_8 ?_
  obtain rfl := os hr
  exact v_vret C dJx4a65c_init_da8c8_11
-- Jx4a65c_size_8abf5
def f_Jx4a65c_size_8abf5 (S : St) (x0 : Nat) : Option Int32 :=
    (getI S (some x0) 0 2).bind fun v1 =>
    some v1
theorem k_Jx4a65c_size_8abf5 {l : Launch} {G : Ge} {S : St} {x0 : Nat} {rr : Int32} (hr : f_Jx4a65c_size_8abf5 S x0 = some rr) : Ct l G yJx4a65c_size_8abf5 cJx4a65c_size_8abf5 1 (Option.some Jvm.ClassFile.FieldType.int) S [va_rf (some x0)] (some (.int rr)) S 0 0 := by
  refine ct_of (by decide +kernel) (Nat.le_of_ble_eq_true rfl) ?_
  intro p e s m args below meth c C ls hl
  have hl : lv_has ls 1 [(0, va_rf (some x0))] := hl
  unfold f_Jx4a65c_size_8abf5 at hr
  refine v_aload_n C (lv_at hl 0 rfl) rfl dJx4a65c_size_8abf5_0 ?_
  obtain ⟨v1, e1, hr⟩ := ob hr
  refine v_getI C fl_RJx4a65c_48 rfl e1 dJx4a65c_size_8abf5_1 ?_
  obtain rfl := os hr
  exact v_iret C dJx4a65c_size_8abf5_4
-- X3_changed
def f_X3_changed_26 (S : St) (x0 : Nat) (t0 : Int64) : Option Int64 :=
    (getI S (some x0) 4 5).bind fun v27 =>
    some (t0 + (Int32.toInt64 v27))
def f_X3_changed (S : St) (x0 : Nat) (x1 : Int64) : Option Int64 :=
    (getI S (some x0) 4 4).bind fun v1 =>
    (if v1 ≤ 0 then
    f_X3_changed_26 S x0 x1
    else
    (getI S (some x0) 4 3).bind fun v9 =>
    (getI S (some x0) 4 4).bind fun v15 =>
    (f_J9_floorDiv_f86c9 S (x1 * (Int32.toInt64 v9)) (Int32.toInt64 v15)).bind fun v19 =>
    f_X3_changed_26 S x0 v19)
theorem b_X3_changed_26  {S : St} {rr : Int64} {x0 : Nat} {t0 : Int64} (C : Cx p s m args meth c G S yX3_changed cX3_changed 3 (Option.some Jvm.ClassFile.FieldType.long)) (hr : f_X3_changed_26 S x0 t0 = some rr) : ∀ ls : Array Slot, lv_has ls 3 [(0, va_rf (some x0))] → V p l e (rmo 1 25 S) s m args below meth c G S S (QM below args s G S S (some (.long rr))) (F0 m 26 ls [.long t0]) := by
  intro ls hl
  unfold f_X3_changed_26 at hr
  refine v_aload_n C (lv_at hl 0 rfl) rfl dX3_changed_26 ?_
  obtain ⟨v27, e27, hr⟩ := ob hr
  refine v_getI C fl_RX3_25 rfl e27 dX3_changed_27 ?_
  refine v_i2l C dX3_changed_30 ?_
  refine v_ladd C dX3_changed_31 ?_
  obtain rfl := os hr
  exact v_lret C dX3_changed_32
theorem k_X3_changed {l : Launch} {G : Ge} {S : St} {x0 : Nat} {x1 : Int64} {rr : Int64} (hr : f_X3_changed S x0 x1 = some rr) : Ct l G yX3_changed cX3_changed 3 (Option.some Jvm.ClassFile.FieldType.long) S [va_rf (some x0), .long x1] (some (.long rr)) S 1 25 := by
  refine ct_of (by decide +kernel) (Nat.le_of_ble_eq_true rfl) ?_
  intro p e s m args below meth c C ls hl
  have hl : lv_has ls 3 [(0, va_rf (some x0)), (1, .long x1)] := hl
  unfold f_X3_changed at hr
  refine v_aload_n C (lv_at hl 0 rfl) rfl dX3_changed_0 ?_
  obtain ⟨v1, e1, hr⟩ := ob hr
  refine v_getI C fl_RX3_22 rfl e1 dX3_changed_1 ?_
  refine v_if_le C 25 (by decide) dX3_changed_4 (fun c4 => ?_) (fun c4 => ?_)
  · rw [if_pos c4] at hr
    refine v_lload_n C (lv_at hl 1 rfl) rfl dX3_changed_25 ?_
    exact b_X3_changed_26 C hr _ (lv_sub hl [0] rfl)
  · rw [if_neg c4] at hr
    refine v_lload_n C (lv_at hl 1 rfl) rfl dX3_changed_7 ?_
    refine v_aload_n C (lv_at hl 0 rfl) rfl dX3_changed_8 ?_
    obtain ⟨v9, e9, hr⟩ := ob hr
    refine v_getI C fl_RX3_19 rfl e9 dX3_changed_9 ?_
    refine v_i2l C dX3_changed_12 ?_
    refine v_lmul C dX3_changed_13 ?_
    refine v_aload_n C (lv_at hl 0 rfl) rfl dX3_changed_14 ?_
    obtain ⟨v15, e15, hr⟩ := ob hr
    refine v_getI C fl_RX3_22 rfl e15 dX3_changed_15 ?_
    refine v_i2l C dX3_changed_18 ?_
    obtain ⟨v19, e19, hr⟩ := ob hr
    refine v_callS C (k_J9_floorDiv_f86c9 e19) cw_J9_floorDiv_f86c9 w_685 w_686 (show (parseMethodDescriptor (yJ9_floorDiv_f86c9).desc).map (fun d => d.parameters.length) = some 2 by decide +kernel) ⟨by decide, by decide⟩ (rest := []) (stk2 := [.long v19]) rfl rfl (Nat.le_of_ble_eq_true rfl) hl dX3_changed_19 ?_
    refine v_goto C 26 (by decide) dX3_changed_22 ?_
    exact b_X3_changed_26 C hr _ (lv_sub hl [0] rfl)
-- X0_askedSum
def f_X0_askedSum_5 : Nat → St → Nat → Int32 → Int32 → Int64 → Int32 → Option (Int64)
  | 0, _, _, _, _, _, _ => none
  | n + 1, S, x0, x1, x2, x3, x5 =>
    (getR S (some x0) 1 5).bind fun v8 =>
    (rcv S v8 0).bind fun b11 =>
    (f_Jx4a65c_size_8abf5 S b11).bind fun v11 =>
    (if v11 ≤ x5 then
    (f_J9_max_f86c9 S 0 x3).bind fun v64 =>
    some v64
    else
    (getR S (some x0) 1 5).bind fun v18 =>
    (rcv S v18 0).bind fun b23 =>
    (f_Jx4a65c_get_915e3 S b23 x5).bind fun v23 =>
    (castO S v23 4).bind fun v26 =>
    (getI S v26 4 1).bind fun v33 =>
    (if x1 < v33 then
    f_X0_askedSum_5 n S x0 x1 x2 x3 (x5 + 1)
    else
    (getI S v26 4 2).bind fun v42 =>
    (if x2 < v42 then
    f_X0_askedSum_5 n S x0 x1 x2 x3 (x5 + 1)
    else
    (rcv S v26 4).bind fun b52 =>
    (f_X3_changed S b52 x3).bind fun v52 =>
    f_X0_askedSum_5 n S x0 x1 x2 v52 (x5 + 1))))
def f_X0_askedSum (S : St) (x0 : Nat) (x1 : Int32) (x2 : Int32) : Option Int64 :=
    f_X0_askedSum_5 FU S x0 x1 x2 0 0
theorem b_X0_askedSum_5  {S : St} {rr : Int64} (C : Cx p s m args meth c G S yX0_askedSum cX0_askedSum 7 (Option.some Jvm.ClassFile.FieldType.long)) {o : (Int64)} (kR : ∀ (v : Int64), o = v → rr = v) : ∀ (n : Nat) {x0 : Nat} {x1 : Int32} {x2 : Int32} {x3 : Int64} {x5 : Int32}, f_X0_askedSum_5 n S x0 x1 x2 x3 x5 = some o → ∀ ls : Array Slot, lv_has ls 7 [(0, va_rf (some x0)), (1, .int x1), (2, .int x2), (3, .long x3), (5, .int x5)] → V p l e (rmo 3 64 S) s m args below meth c G S S (QM below args s G S S (some (.long rr))) (F0 m 5 ls []) := by
  intro n
  induction n with
  | zero => intro x0 x1 x2 x3 x5 hr; cases hr
  | succ n ih =>
    intro x0 x1 x2 x3 x5 hr ls hl
    unfold f_X0_askedSum_5 at hr
    refine v_iload C (lv_at hl 4 rfl) dX0_askedSum_5 ?_
    refine v_aload_n C (lv_at hl 0 rfl) rfl dX0_askedSum_7 ?_
    obtain ⟨v8, e8, hr⟩ := ob hr
    refine v_getR C fl_RX0_12 rfl e8 dX0_askedSum_8 ?_
    obtain ⟨b11, f11, hr⟩ := ob hr
    obtain ⟨g11, h11⟩ := rcv_n f11
    obtain ⟨v11, e11, hr⟩ := ob hr
    refine v_callV C (b := b11) h11 (by decide) rfl rfl (k_Jx4a65c_size_8abf5 e11) cw_Jx4a65c_size_8abf5 w_648 w_353 w_354 (show (parseMethodDescriptor (yJx4a65c_size_8abf5).desc).map (fun d => d.parameters.length) = some 0 by decide +kernel) ⟨by decide, by decide⟩ (rest := [.int x5]) (stk2 := [.int v11, .int x5]) (by rw [g11]; rfl) rfl (Nat.le_of_ble_eq_true rfl) hl dX0_askedSum_11 ?_
    refine v_icmp_ge C 62 (by decide) dX0_askedSum_14 (fun c14 => ?_) (fun c14 => ?_)
    · rw [if_pos c14] at hr
      refine v_lconst C 0 (by decide) dX0_askedSum_62 ?_
      refine v_lload_n C (lv_at hl 3 rfl) rfl dX0_askedSum_63 ?_
      obtain ⟨v64, e64, hr⟩ := ob hr
      refine v_callS C (k_J9_max_f86c9 e64) cw_J9_max_f86c9 w_688 w_689 (show (parseMethodDescriptor (yJ9_max_f86c9).desc).map (fun d => d.parameters.length) = some 2 by decide +kernel) ⟨by decide, by decide⟩ (rest := []) (stk2 := [.long v64]) rfl rfl (Nat.le_of_ble_eq_true rfl) hl dX0_askedSum_64 ?_
      obtain rfl := os hr
      obtain rfl := kR _ rfl
      exact v_lret C dX0_askedSum_67
    · rw [if_neg c14] at hr
      refine v_aload_n C (lv_at hl 0 rfl) rfl dX0_askedSum_17 ?_
      obtain ⟨v18, e18, hr⟩ := ob hr
      refine v_getR C fl_RX0_12 rfl e18 dX0_askedSum_18 ?_
      refine v_iload C (lv_at hl 4 rfl) dX0_askedSum_21 ?_
      obtain ⟨b23, f23, hr⟩ := ob hr
      obtain ⟨g23, h23⟩ := rcv_n f23
      obtain ⟨v23, e23, hr⟩ := ob hr
      refine v_callV C (b := b23) h23 (by decide) rfl rfl (k_Jx4a65c_get_915e3 e23) cw_Jx4a65c_get_915e3 w_649 w_450 w_451 (show (parseMethodDescriptor (yJx4a65c_get_915e3).desc).map (fun d => d.parameters.length) = some 1 by decide +kernel) ⟨by decide, by decide⟩ (rest := []) (stk2 := [va_rf v23]) (by rw [g23]; rfl) rfl (Nat.le_of_ble_eq_true rfl) hl dX0_askedSum_23 ?_
      obtain ⟨v26, e26, hr⟩ := ob hr
      refine v_cast C e26 (by decide) rfl w_650 dX0_askedSum_26 ?_
      refine v_astore C (i := 6) (lv' := [(6, va_rf v26), (0, va_rf (some x0)), (1, .int x1), (2, .int x2), (3, .long x3), (5, .int x5)]) hl (by decide) rfl dX0_askedSum_29 (fun ls hl => ?_)
      refine v_aload C (lv_at hl 0 rfl) dX0_askedSum_31 ?_
      obtain ⟨v33, e33, hr⟩ := ob hr
      refine v_getI C fl_RX0_70 rfl e33 dX0_askedSum_33 ?_
      refine v_iload_n C (lv_at hl 2 rfl) rfl dX0_askedSum_36 ?_
      refine v_icmp_gt C 56 (by decide) dX0_askedSum_37 (fun c37 => ?_) (fun c37 => ?_)
      · rw [if_pos c37] at hr
        refine v_iinc C (x5 + 1) (k0 := 5) (lv' := [(5, .int (x5 + 1)), (6, va_rf v26), (0, va_rf (some x0)), (1, .int x1), (2, .int x2), (3, .long x3)]) hl rfl rfl (by decide) rfl dX0_askedSum_56 (fun ls hl => ?_)
        refine v_goto C 5 (by decide) dX0_askedSum_59 ?_
        exact ih hr _ (lv_sub hl [2, 3, 4, 5, 0] rfl)
      · rw [if_neg c37] at hr
        refine v_aload C (lv_at hl 0 rfl) dX0_askedSum_40 ?_
        obtain ⟨v42, e42, hr⟩ := ob hr
        refine v_getI C fl_RX0_76 rfl e42 dX0_askedSum_42 ?_
        refine v_iload_n C (lv_at hl 3 rfl) rfl dX0_askedSum_45 ?_
        refine v_icmp_gt C 56 (by decide) dX0_askedSum_46 (fun c46 => ?_) (fun c46 => ?_)
        · rw [if_pos c46] at hr
          refine v_iinc C (x5 + 1) (k0 := 5) (lv' := [(5, .int (x5 + 1)), (6, va_rf v26), (0, va_rf (some x0)), (1, .int x1), (2, .int x2), (3, .long x3)]) hl rfl rfl (by decide) rfl dX0_askedSum_56 (fun ls hl => ?_)
          refine v_goto C 5 (by decide) dX0_askedSum_59 ?_
          exact ih hr _ (lv_sub hl [2, 3, 4, 5, 0] rfl)
        · rw [if_neg c46] at hr
          refine v_aload C (lv_at hl 0 rfl) dX0_askedSum_49 ?_
          refine v_lload_n C (lv_at hl 4 rfl) rfl dX0_askedSum_51 ?_
          obtain ⟨b52, f52, hr⟩ := ob hr
          obtain ⟨g52, h52⟩ := rcv_n f52
          obtain ⟨v52, e52, hr⟩ := ob hr
          refine v_callV C (b := b52) h52 (by decide) rfl rfl (k_X3_changed e52) cw_X3_changed w_681 w_682 w_683 (show (parseMethodDescriptor (yX3_changed).desc).map (fun d => d.parameters.length) = some 1 by decide +kernel) ⟨by decide, by decide⟩ (rest := []) (stk2 := [.long v52]) (by rw [g52]; rfl) rfl (Nat.le_of_ble_eq_true rfl) hl dX0_askedSum_52 ?_
          refine v_lstore_n C (i := 3) (lv' := [(3, .long v52), (6, va_rf v26), (0, va_rf (some x0)), (1, .int x1), (2, .int x2), (5, .int x5)]) hl rfl (by decide) rfl dX0_askedSum_55 (fun ls hl => ?_)
          refine v_iinc C (x5 + 1) (k0 := 5) (lv' := [(5, .int (x5 + 1)), (3, .long v52), (6, va_rf v26), (0, va_rf (some x0)), (1, .int x1), (2, .int x2)]) hl rfl rfl (by decide) rfl dX0_askedSum_56 (fun ls hl => ?_)
          refine v_goto C 5 (by decide) dX0_askedSum_59 ?_
          exact ih hr _ (lv_sub hl [3, 4, 5, 1, 0] rfl)
theorem k_X0_askedSum {l : Launch} {G : Ge} {S : St} {x0 : Nat} {x1 : Int32} {x2 : Int32} {rr : Int64} (hr : f_X0_askedSum S x0 x1 x2 = some rr) : Ct l G yX0_askedSum cX0_askedSum 7 (Option.some Jvm.ClassFile.FieldType.long) S [va_rf (some x0), .int x1, .int x2] (some (.long rr)) S 3 64 := by
  refine ct_of (by decide +kernel) (Nat.le_of_ble_eq_true rfl) ?_
  intro p e s m args below meth c C ls hl
  have hl : lv_has ls 7 [(0, va_rf (some x0)), (1, .int x1), (2, .int x2)] := hl
  unfold f_X0_askedSum at hr
  refine v_lconst C 0 (by decide) dX0_askedSum_0 ?_
  refine v_lstore_n C (i := 3) (lv' := [(3, .long 0), (0, va_rf (some x0)), (1, .int x1), (2, .int x2)]) hl rfl (by decide) rfl dX0_askedSum_1 (fun ls hl => ?_)
  refine v_iconst C 0 (by decide) dX0_askedSum_2 ?_
  refine v_istore C (i := 5) (lv' := [(5, .int 0), (3, .long 0), (0, va_rf (some x0)), (1, .int x1), (2, .int x2)]) hl (by decide) rfl dX0_askedSum_3 (fun ls hl => ?_)
  exact b_X0_askedSum_5 C (fun _ q => by cases q; rfl) FU hr _ (lv_sub hl [2, 3, 4, 1, 0] rfl)
-- X0_grewOn
def f_X0_grewOn_2 : Nat → St → Nat → Int32 → Int32 → Option (Int32)
  | 0, _, _, _, _ => none
  | n + 1, S, x0, x1, x2 =>
    (getR S (some x0) 1 5).bind fun v4 =>
    (rcv S v4 0).bind fun b7 =>
    (f_Jx4a65c_size_8abf5 S b7).bind fun v7 =>
    (if v7 ≤ x2 then
    some 0
    else
    (getR S (some x0) 1 5).bind fun v14 =>
    (rcv S v14 0).bind fun b18 =>
    (f_Jx4a65c_get_915e3 S b18 x2).bind fun v18 =>
    (castO S v18 4).bind fun v21 =>
    (getI S v21 4 1).bind fun v26 =>
    (if v26 = x1 then
    (getI S v21 4 0).bind fun v34 =>
    (if v34 = (-1) then
    some 1
    else
    f_X0_grewOn_2 n S x0 x1 (x2 + 1))
    else
    f_X0_grewOn_2 n S x0 x1 (x2 + 1)))
def f_X0_grewOn (S : St) (x0 : Nat) (x1 : Int32) : Option Int32 :=
    f_X0_grewOn_2 FU S x0 x1 0
theorem b_X0_grewOn_2  {S : St} {rr : Int32} (C : Cx p s m args meth c G S yX0_grewOn cX0_grewOn 4 (Option.some Jvm.ClassFile.FieldType.boolean)) {o : (Int32)} (kR : ∀ (v : Int32), o = v → rr = v) : ∀ (n : Nat) {x0 : Nat} {x1 : Int32} {x2 : Int32}, f_X0_grewOn_2 n S x0 x1 x2 = some o → ∀ ls : Array Slot, lv_has ls 4 [(0, va_rf (some x0)), (1, .int x1), (2, .int x2)] → V p l e (rmo 3 64 S) s m args below meth c G S S (QM below args s G S S (some (.int rr))) (F0 m 2 ls []) := by
  intro n
  induction n with
  | zero => intro x0 x1 x2 hr; cases hr
  | succ n ih =>
    intro x0 x1 x2 hr ls hl
    unfold f_X0_grewOn_2 at hr
    refine v_iload_n C (lv_at hl 2 rfl) rfl dX0_grewOn_2 ?_
    refine v_aload_n C (lv_at hl 0 rfl) rfl dX0_grewOn_3 ?_
    obtain ⟨v4, e4, hr⟩ := ob hr
    refine v_getR C fl_RX0_12 rfl e4 dX0_grewOn_4 ?_
    obtain ⟨b7, f7, hr⟩ := ob hr
    obtain ⟨g7, h7⟩ := rcv_n f7
    obtain ⟨v7, e7, hr⟩ := ob hr
    refine v_callV C (b := b7) h7 (by decide) rfl rfl (k_Jx4a65c_size_8abf5 e7) cw_Jx4a65c_size_8abf5 w_648 w_353 w_354 (show (parseMethodDescriptor (yJx4a65c_size_8abf5).desc).map (fun d => d.parameters.length) = some 0 by decide +kernel) ⟨by decide, by decide⟩ (rest := [.int x2]) (stk2 := [.int v7, .int x2]) (by rw [g7]; rfl) rfl (Nat.le_of_ble_eq_true rfl) hl dX0_grewOn_7 ?_
    refine v_icmp_ge C 49 (by decide) dX0_grewOn_10 (fun c10 => ?_) (fun c10 => ?_)
    · rw [if_pos c10] at hr
      refine v_iconst C 0 (by decide) dX0_grewOn_49 ?_
      obtain rfl := os hr
      obtain rfl := kR _ rfl
      exact v_zret C rfl dX0_grewOn_50
    · rw [if_neg c10] at hr
      refine v_aload_n C (lv_at hl 0 rfl) rfl dX0_grewOn_13 ?_
      obtain ⟨v14, e14, hr⟩ := ob hr
      refine v_getR C fl_RX0_12 rfl e14 dX0_grewOn_14 ?_
      refine v_iload_n C (lv_at hl 2 rfl) rfl dX0_grewOn_17 ?_
      obtain ⟨b18, f18, hr⟩ := ob hr
      obtain ⟨g18, h18⟩ := rcv_n f18
      obtain ⟨v18, e18, hr⟩ := ob hr
      refine v_callV C (b := b18) h18 (by decide) rfl rfl (k_Jx4a65c_get_915e3 e18) cw_Jx4a65c_get_915e3 w_649 w_450 w_451 (show (parseMethodDescriptor (yJx4a65c_get_915e3).desc).map (fun d => d.parameters.length) = some 1 by decide +kernel) ⟨by decide, by decide⟩ (rest := []) (stk2 := [va_rf v18]) (by rw [g18]; rfl) rfl (Nat.le_of_ble_eq_true rfl) hl dX0_grewOn_18 ?_
      obtain ⟨v21, e21, hr⟩ := ob hr
      refine v_cast C e21 (by decide) rfl w_650 dX0_grewOn_21 ?_
      refine v_astore_n C (i := 3) (lv' := [(3, va_rf v21), (0, va_rf (some x0)), (1, .int x1), (2, .int x2)]) hl rfl (by decide) rfl dX0_grewOn_24 (fun ls hl => ?_)
      refine v_aload_n C (lv_at hl 0 rfl) rfl dX0_grewOn_25 ?_
      obtain ⟨v26, e26, hr⟩ := ob hr
      refine v_getI C fl_RX0_70 rfl e26 dX0_grewOn_26 ?_
      refine v_iload_n C (lv_at hl 2 rfl) rfl dX0_grewOn_29 ?_
      refine v_icmp_ne C 43 (by decide) dX0_grewOn_30 (fun c30 => ?_) (fun c30 => ?_)
      · rw [if_neg c30] at hr
        refine v_iinc C (x2 + 1) (k0 := 3) (lv' := [(2, .int (x2 + 1)), (3, va_rf v21), (0, va_rf (some x0)), (1, .int x1)]) hl rfl rfl (by decide) rfl dX0_grewOn_43 (fun ls hl => ?_)
        refine v_goto C 2 (by decide) dX0_grewOn_46 ?_
        exact ih hr _ (lv_sub hl [2, 3, 0] rfl)
      · rw [if_pos c30] at hr
        refine v_aload_n C (lv_at hl 0 rfl) rfl dX0_grewOn_33 ?_
        obtain ⟨v34, e34, hr⟩ := ob hr
        refine v_getI C fl_RX0_73 rfl e34 dX0_grewOn_34 ?_
        refine v_iconst C (-1) (by decide) dX0_grewOn_37 ?_
        refine v_icmp_ne C 43 (by decide) dX0_grewOn_38 (fun c38 => ?_) (fun c38 => ?_)
        · rw [if_neg c38] at hr
          refine v_iinc C (x2 + 1) (k0 := 3) (lv' := [(2, .int (x2 + 1)), (3, va_rf v21), (0, va_rf (some x0)), (1, .int x1)]) hl rfl rfl (by decide) rfl dX0_grewOn_43 (fun ls hl => ?_)
          refine v_goto C 2 (by decide) dX0_grewOn_46 ?_
          exact ih hr _ (lv_sub hl [2, 3, 0] rfl)
        · rw [if_pos c38] at hr
          refine v_iconst C 1 (by decide) dX0_grewOn_41 ?_
          obtain rfl := os hr
          obtain rfl := kR _ rfl
          exact v_zret C rfl dX0_grewOn_42
theorem k_X0_grewOn {l : Launch} {G : Ge} {S : St} {x0 : Nat} {x1 : Int32} {rr : Int32} (hr : f_X0_grewOn S x0 x1 = some rr) : Ct l G yX0_grewOn cX0_grewOn 4 (Option.some Jvm.ClassFile.FieldType.boolean) S [va_rf (some x0), .int x1] (some (.int rr)) S 3 64 := by
  refine ct_of (by decide +kernel) (Nat.le_of_ble_eq_true rfl) ?_
  intro p e s m args below meth c C ls hl
  have hl : lv_has ls 4 [(0, va_rf (some x0)), (1, .int x1)] := hl
  unfold f_X0_grewOn at hr
  refine v_iconst C 0 (by decide) dX0_grewOn_0 ?_
  refine v_istore_n C (i := 2) (lv' := [(2, .int 0), (0, va_rf (some x0)), (1, .int x1)]) hl rfl (by decide) rfl dX0_grewOn_1 (fun ls hl => ?_)
  exact b_X0_grewOn_2 C (fun _ q => by cases q; rfl) FU hr _ (lv_sub hl [1, 2, 0] rfl)
-- X0_init
def f_X0_init (S : St) (x0 : Nat) (x1 : Int32) (x2 : Option Nat) (x3 : Int32) (x4 : Option Nat) (x5 : Int32) : Option St :=
    (newO S 0).bind fun (a5, S5) =>
    (rcv S5 (some a5) 0).bind fun b9 =>
    (f_Jx4a65c_init_da8c8 S5 b9).bind fun S9 =>
    (putR S9 (some x0) 1 5 (some a5)).bind fun S12 =>
    (putI S12 (some x0) 1 6 0).bind fun S17 =>
    (putI S17 (some x0) 1 7 (-1)).bind fun S22 =>
    (putL S22 (some x0) 1 8 0).bind fun S27 =>
    (putI S27 (some x0) 1 9 (-1)).bind fun S32 =>
    (putI S32 (some x0) 1 10 0).bind fun S37 =>
    (putI S37 (some x0) 1 0 x1).bind fun S42 =>
    (putR S42 (some x0) 1 1 x2).bind fun S47 =>
    (putI S47 (some x0) 1 2 x3).bind fun S52 =>
    (putR S52 (some x0) 1 3 x4).bind fun S58 =>
    (putI S58 (some x0) 1 4 x5).bind fun S64 =>
    some S64
theorem k_X0_init {l : Launch} {G : Ge} {S S' : St} {x0 : Nat} {x1 : Int32} {x2 : Option Nat} {x3 : Int32} {x4 : Option Nat} {x5 : Int32} (hr : f_X0_init S x0 x1 x2 x3 x4 x5 = some S') : Ct l G yX0_init cX0_init 6 (Option.none : Option Jvm.ClassFile.FieldType) S [va_rf (some x0), .int x1, va_rf x2, .int x3, va_rf x4, .int x5] none S' 4 96 := by
  refine ct_of (by decide +kernel) (by cases x2 <;> cases x4 <;> exact Nat.le_of_ble_eq_true rfl) ?_
  intro p e s m args below meth c C ls hl
  have hl : lv_has ls 6 [(0, va_rf (some x0)), (1, .int x1), (2, va_rf x2), (3, .int x3), (4, va_rf x4), (5, .int x5)] := by clear hr; cases x2 <;> cases x4 <;> exact hl
  unfold f_X0_init at hr
  refine v_aload_n C (lv_at hl 0 rfl) rfl dX0_init_0 ?_
  refine v_objInit C (b := x0) w_555 w_134 w_135 ⟨by decide, by decide⟩ (Nat.le_of_ble_eq_true rfl) hl dX0_init_1 ?_
  refine v_aload_n C (lv_at hl 0 rfl) rfl dX0_init_4 ?_
  obtain ⟨⟨a5, S5⟩, e5, hr⟩ := ob hr
  (try dsimp only at hr)
  refine v_newO C e5 (by decide) rfl w_556 w_137 w_105 lay_0 tyo_0 dfo_0 dX0_init_5 ?_
  refine v_dup C (rf_cat _) dX0_init_8 ?_
  obtain ⟨b9, f9, hr⟩ := ob hr
  obtain ⟨g9, h9⟩ := rcv_n f9
  obtain ⟨S9, e9, hr⟩ := ob hr
  refine v_callI C (b := b9) (k_Jx4a65c_init_da8c8 e9) cw_Jx4a65c_init_da8c8 w_557 w_139 rfl (show (parseMethodDescriptor (yJx4a65c_init_da8c8).desc).map (fun d => d.parameters.length) = some 0 by decide +kernel) ⟨by decide, by decide⟩ (rest := [va_rf (some a5), va_rf (some x0)]) (stk2 := [va_rf (some a5), va_rf (some x0)]) (by rw [g9]; rfl) rfl (by simp [rf_cat, cat_i, cat_l]) hl dX0_init_9 ?_
  obtain ⟨S12, e12, hr⟩ := ob hr
  refine v_putR C fl_RX0_12 (Or.inr ⟨rfl, rfl⟩) rfl e12 dX0_init_12 ?_
  refine v_aload_n C (lv_at hl 0 rfl) rfl dX0_init_15 ?_
  refine v_iconst C 0 (by decide) dX0_init_16 ?_
  obtain ⟨S17, e17, hr⟩ := ob hr
  refine v_putI C fl_RX0_18 (Or.inl rfl) rfl e17 dX0_init_17 ?_
  refine v_aload_n C (lv_at hl 0 rfl) rfl dX0_init_20 ?_
  refine v_iconst C (-1) (by decide) dX0_init_21 ?_
  obtain ⟨S22, e22, hr⟩ := ob hr
  refine v_putI C fl_RX0_22 (Or.inl rfl) rfl e22 dX0_init_22 ?_
  refine v_aload_n C (lv_at hl 0 rfl) rfl dX0_init_25 ?_
  refine v_lconst C 0 (by decide) dX0_init_26 ?_
  obtain ⟨S27, e27, hr⟩ := ob hr
  refine v_putL C fl_RX0_25 (Or.inl rfl) rfl e27 dX0_init_27 ?_
  refine v_aload_n C (lv_at hl 0 rfl) rfl dX0_init_30 ?_
  refine v_iconst C (-1) (by decide) dX0_init_31 ?_
  obtain ⟨S32, e32, hr⟩ := ob hr
  refine v_putI C fl_RX0_29 (Or.inl rfl) rfl e32 dX0_init_32 ?_
  refine v_aload_n C (lv_at hl 0 rfl) rfl dX0_init_35 ?_
  refine v_iconst C 0 (by decide) dX0_init_36 ?_
  obtain ⟨S37, e37, hr⟩ := ob hr
  refine v_putI C fl_RX0_32 (Or.inl rfl) rfl e37 dX0_init_37 ?_
  refine v_aload_n C (lv_at hl 0 rfl) rfl dX0_init_40 ?_
  refine v_iload_n C (lv_at hl 1 rfl) rfl dX0_init_41 ?_
  obtain ⟨S42, e42, hr⟩ := ob hr
  refine v_putI C fl_RX0_35 (Or.inr ⟨rfl, rfl⟩) rfl e42 dX0_init_42 ?_
  refine v_aload_n C (lv_at hl 0 rfl) rfl dX0_init_45 ?_
  refine v_aload_n C (lv_at hl 2 rfl) rfl dX0_init_46 ?_
  obtain ⟨S47, e47, hr⟩ := ob hr
  refine v_putR C fl_RX0_38 (Or.inr ⟨rfl, rfl⟩) rfl e47 dX0_init_47 ?_
  refine v_aload_n C (lv_at hl 0 rfl) rfl dX0_init_50 ?_
  refine v_iload_n C (lv_at hl 3 rfl) rfl dX0_init_51 ?_
  obtain ⟨S52, e52, hr⟩ := ob hr
  refine v_putI C fl_RX0_42 (Or.inr ⟨rfl, rfl⟩) rfl e52 dX0_init_52 ?_
  refine v_aload_n C (lv_at hl 0 rfl) rfl dX0_init_55 ?_
  refine v_aload C (lv_at hl 4 rfl) dX0_init_56 ?_
  obtain ⟨S58, e58, hr⟩ := ob hr
  refine v_putR C fl_RX0_45 (Or.inr ⟨rfl, rfl⟩) rfl e58 dX0_init_58 ?_
  refine v_aload_n C (lv_at hl 0 rfl) rfl dX0_init_61 ?_
  refine v_iload C (lv_at hl 5 rfl) dX0_init_62 ?_
  obtain ⟨S64, e64, hr⟩ := ob hr
  refine v_putI C fl_RX0_49 (Or.inr ⟨rfl, rfl⟩) rfl e64 dX0_init_64 ?_
  obtain rfl := os hr
  exact v_vret C dX0_init_67
-- X0_isHeld
def f_X0_isHeld (S : St) (x0 : Nat) : Option Int32 :=
    (getI S (some x0) 1 7).bind fun v1 =>
    (if v1 = (-1) then
    some 0
    else
    some 1)
theorem k_X0_isHeld {l : Launch} {G : Ge} {S : St} {x0 : Nat} {rr : Int32} (hr : f_X0_isHeld S x0 = some rr) : Ct l G yX0_isHeld cX0_isHeld 1 (Option.some Jvm.ClassFile.FieldType.boolean) S [va_rf (some x0)] (some (.int rr)) S 0 0 := by
  refine ct_of (by decide +kernel) (Nat.le_of_ble_eq_true rfl) ?_
  intro p e s m args below meth c C ls hl
  have hl : lv_has ls 1 [(0, va_rf (some x0))] := hl
  unfold f_X0_isHeld at hr
  refine v_aload_n C (lv_at hl 0 rfl) rfl dX0_isHeld_0 ?_
  obtain ⟨v1, e1, hr⟩ := ob hr
  refine v_getI C fl_RX0_22 rfl e1 dX0_isHeld_1 ?_
  refine v_iconst C (-1) (by decide) dX0_isHeld_4 ?_
  refine v_icmp_eq C 12 (by decide) dX0_isHeld_5 (fun c5 => ?_) (fun c5 => ?_)
  · rw [if_pos c5] at hr
    refine v_iconst C 0 (by decide) dX0_isHeld_12 ?_
    obtain rfl := os hr
    exact v_zret C rfl dX0_isHeld_13
  · rw [if_neg c5] at hr
    refine v_iconst C 1 (by decide) dX0_isHeld_8 ?_
    refine v_goto C 13 (by decide) dX0_isHeld_9 ?_
    obtain rfl := os hr
    exact v_zret C rfl dX0_isHeld_13
-- X0_lastStir
def f_X0_lastStir_61 (rec : St → Nat → Int32 → Int32 → Int32 → Int32 → Option (Int32)) (S : St) (x0 : Nat) (x1 : Int32) (x2 : Int32) (x3 : Int32) (x4 : Int32) (x5 : Option Nat) (t0 : Int32) : Option (Int32) :=
    (if t0 = 0 then
    rec S x0 x1 x2 x3 (x4 + 1)
    else
    (getI S x5 4 2).bind fun v70 =>
    (if x2 < v70 then
    rec S x0 x1 x2 x3 (x4 + 1)
    else
    (getI S x5 4 1).bind fun v80 =>
    (f_J9_max_7cf53 S x3 v80).bind fun v83 =>
    rec S x0 x1 x2 v83 (x4 + 1)))
def f_X0_lastStir_60 (rec : St → Nat → Int32 → Int32 → Int32 → Int32 → Option (Int32)) (S : St) (x0 : Nat) (x1 : Int32) (x2 : Int32) (x3 : Int32) (x4 : Int32) (x5 : Option Nat) : Option (Int32) :=
    f_X0_lastStir_61 (rec) S x0 x1 x2 x3 x4 x5 0
def f_X0_lastStir_8 : Nat → St → Nat → Int32 → Int32 → Int32 → Int32 → Option (Int32)
  | 0, _, _, _, _, _, _ => none
  | n + 1, S, x0, x1, x2, x3, x4 =>
    (getR S (some x0) 1 5).bind fun v11 =>
    (rcv S v11 0).bind fun b14 =>
    (f_Jx4a65c_size_8abf5 S b14).bind fun v14 =>
    (if v14 ≤ x4 then
    some x3
    else
    (getR S (some x0) 1 5).bind fun v21 =>
    (rcv S v21 0).bind fun b26 =>
    (f_Jx4a65c_get_915e3 S b26 x4).bind fun v26 =>
    (castO S v26 4).bind fun v29 =>
    (getI S v29 4 0).bind fun v36 =>
    (if v36 = (-1) then
    f_X0_lastStir_60 (f_X0_lastStir_8 n) S x0 x1 x2 x3 x4 v29
    else
    (getI S v29 4 0).bind fun v46 =>
    (if ((x1 >>> (v46 &&& 31)) &&& 1) = 1 then
    f_X0_lastStir_61 (f_X0_lastStir_8 n) S x0 x1 x2 x3 x4 v29 1
    else
    f_X0_lastStir_60 (f_X0_lastStir_8 n) S x0 x1 x2 x3 x4 v29)))
def f_X0_lastStir (S : St) (x0 : Nat) (x1 : Int32) (x2 : Int32) : Option Int32 :=
    (getI S (some x0) 1 4).bind fun v1 =>
    f_X0_lastStir_8 FU S x0 x1 x2 v1 0
theorem b_X0_lastStir_61  {S : St} {rr : Int32} {x0 : Nat} {x1 : Int32} {x2 : Int32} {x3 : Int32} {x4 : Int32} {x5 : Option Nat} {t0 : Int32} (C : Cx p s m args meth c G S yX0_lastStir cX0_lastStir 7 (Option.some Jvm.ClassFile.FieldType.int)) {o : (Int32)} {rec : St → Nat → Int32 → Int32 → Int32 → Int32 → Option (Int32)} (kR : ∀ (v : Int32), o = v → rr = v) (ihk : ∀ {x0 : Nat} {x1 : Int32} {x2 : Int32} {x3 : Int32} {x4 : Int32}, rec S x0 x1 x2 x3 x4 = some o → ∀ ls : Array Slot, lv_has ls 7 [(0, va_rf (some x0)), (1, .int x1), (2, .int x2), (3, .int x3), (4, .int x4)] → V p l e (rmo 3 64 S) s m args below meth c G S S (QM below args s G S S (some (.int rr))) (F0 m 8 ls [])) (hr : f_X0_lastStir_61 rec S x0 x1 x2 x3 x4 x5 t0 = some o) : ∀ ls : Array Slot, lv_has ls 7 [(0, va_rf (some x0)), (1, .int x1), (2, .int x2), (3, .int x3), (4, .int x4), (5, va_rf x5)] → V p l e (rmo 3 64 S) s m args below meth c G S S (QM below args s G S S (some (.int rr))) (F0 m 61 ls [.int t0]) := by
  intro ls hl
  unfold f_X0_lastStir_61 at hr
  refine v_istore C (i := 6) (lv' := [(6, .int t0), (0, va_rf (some x0)), (1, .int x1), (2, .int x2), (3, .int x3), (4, .int x4), (5, va_rf x5)]) hl (by decide) (by simp [rf_n2]) dX0_lastStir_61 (fun ls hl => ?_)
  refine v_iload C (lv_at hl 0 rfl) dX0_lastStir_63 ?_
  refine v_if_eq C 87 (by decide) dX0_lastStir_65 (fun c65 => ?_) (fun c65 => ?_)
  · rw [if_pos c65] at hr
    refine v_iinc C (x4 + 1) (k0 := 5) (lv' := [(4, .int (x4 + 1)), (6, .int t0), (0, va_rf (some x0)), (1, .int x1), (2, .int x2), (3, .int x3), (5, va_rf x5)]) hl rfl rfl (by decide) rfl dX0_lastStir_87 (fun ls hl => ?_)
    refine v_goto C 8 (by decide) dX0_lastStir_90 ?_
    exact ihk hr _ (lv_sub hl [2, 3, 4, 5, 0] rfl)
  · rw [if_neg c65] at hr
    refine v_aload C (lv_at hl 6 rfl) dX0_lastStir_68 ?_
    obtain ⟨v70, e70, hr⟩ := ob hr
    refine v_getI C fl_RX0_76 rfl e70 dX0_lastStir_70 ?_
    refine v_iload_n C (lv_at hl 3 rfl) rfl dX0_lastStir_73 ?_
    refine v_icmp_gt C 87 (by decide) dX0_lastStir_74 (fun c74 => ?_) (fun c74 => ?_)
    · rw [if_pos c74] at hr
      refine v_iinc C (x4 + 1) (k0 := 5) (lv' := [(4, .int (x4 + 1)), (6, .int t0), (0, va_rf (some x0)), (1, .int x1), (2, .int x2), (3, .int x3), (5, va_rf x5)]) hl rfl rfl (by decide) rfl dX0_lastStir_87 (fun ls hl => ?_)
      refine v_goto C 8 (by decide) dX0_lastStir_90 ?_
      exact ihk hr _ (lv_sub hl [2, 3, 4, 5, 0] rfl)
    · rw [if_neg c74] at hr
      refine v_iload_n C (lv_at hl 4 rfl) rfl dX0_lastStir_77 ?_
      refine v_aload C (lv_at hl 6 rfl) dX0_lastStir_78 ?_
      obtain ⟨v80, e80, hr⟩ := ob hr
      refine v_getI C fl_RX0_70 rfl e80 dX0_lastStir_80 ?_
      obtain ⟨v83, e83, hr⟩ := ob hr
      refine v_callS C (k_J9_max_7cf53 e83) cw_J9_max_7cf53 w_957 w_169 (show (parseMethodDescriptor (yJ9_max_7cf53).desc).map (fun d => d.parameters.length) = some 2 by decide +kernel) ⟨by decide, by decide⟩ (rest := []) (stk2 := [.int v83]) rfl rfl (Nat.le_of_ble_eq_true rfl) hl dX0_lastStir_83 ?_
      refine v_istore_n C (i := 3) (lv' := [(3, .int v83), (6, .int t0), (0, va_rf (some x0)), (1, .int x1), (2, .int x2), (4, .int x4), (5, va_rf x5)]) hl rfl (by decide) rfl dX0_lastStir_86 (fun ls hl => ?_)
      refine v_iinc C (x4 + 1) (k0 := 5) (lv' := [(4, .int (x4 + 1)), (3, .int v83), (6, .int t0), (0, va_rf (some x0)), (1, .int x1), (2, .int x2), (5, va_rf x5)]) hl rfl rfl (by decide) rfl dX0_lastStir_87 (fun ls hl => ?_)
      refine v_goto C 8 (by decide) dX0_lastStir_90 ?_
      exact ihk hr _ (lv_sub hl [3, 4, 5, 1, 0] rfl)
theorem b_X0_lastStir_60  {S : St} {rr : Int32} {x0 : Nat} {x1 : Int32} {x2 : Int32} {x3 : Int32} {x4 : Int32} {x5 : Option Nat} (C : Cx p s m args meth c G S yX0_lastStir cX0_lastStir 7 (Option.some Jvm.ClassFile.FieldType.int)) {o : (Int32)} {rec : St → Nat → Int32 → Int32 → Int32 → Int32 → Option (Int32)} (kR : ∀ (v : Int32), o = v → rr = v) (ihk : ∀ {x0 : Nat} {x1 : Int32} {x2 : Int32} {x3 : Int32} {x4 : Int32}, rec S x0 x1 x2 x3 x4 = some o → ∀ ls : Array Slot, lv_has ls 7 [(0, va_rf (some x0)), (1, .int x1), (2, .int x2), (3, .int x3), (4, .int x4)] → V p l e (rmo 3 64 S) s m args below meth c G S S (QM below args s G S S (some (.int rr))) (F0 m 8 ls [])) (hr : f_X0_lastStir_60 rec S x0 x1 x2 x3 x4 x5 = some o) : ∀ ls : Array Slot, lv_has ls 7 [(0, va_rf (some x0)), (1, .int x1), (2, .int x2), (3, .int x3), (4, .int x4), (5, va_rf x5)] → V p l e (rmo 3 64 S) s m args below meth c G S S (QM below args s G S S (some (.int rr))) (F0 m 60 ls []) := by
  intro ls hl
  unfold f_X0_lastStir_60 at hr
  refine v_iconst C 0 (by decide) dX0_lastStir_60 ?_
  exact b_X0_lastStir_61 C kR (@ihk) hr _ (lv_sub hl [0, 1, 2, 3, 4, 5] rfl)
theorem b_X0_lastStir_8  {S : St} {rr : Int32} (C : Cx p s m args meth c G S yX0_lastStir cX0_lastStir 7 (Option.some Jvm.ClassFile.FieldType.int)) {o : (Int32)} (kR : ∀ (v : Int32), o = v → rr = v) : ∀ (n : Nat) {x0 : Nat} {x1 : Int32} {x2 : Int32} {x3 : Int32} {x4 : Int32}, f_X0_lastStir_8 n S x0 x1 x2 x3 x4 = some o → ∀ ls : Array Slot, lv_has ls 7 [(0, va_rf (some x0)), (1, .int x1), (2, .int x2), (3, .int x3), (4, .int x4)] → V p l e (rmo 3 64 S) s m args below meth c G S S (QM below args s G S S (some (.int rr))) (F0 m 8 ls []) := by
  intro n
  induction n with
  | zero => intro x0 x1 x2 x3 x4 hr; cases hr
  | succ n ih =>
    intro x0 x1 x2 x3 x4 hr ls hl
    unfold f_X0_lastStir_8 at hr
    refine v_iload C (lv_at hl 4 rfl) dX0_lastStir_8 ?_
    refine v_aload_n C (lv_at hl 0 rfl) rfl dX0_lastStir_10 ?_
    obtain ⟨v11, e11, hr⟩ := ob hr
    refine v_getR C fl_RX0_12 rfl e11 dX0_lastStir_11 ?_
    obtain ⟨b14, f14, hr⟩ := ob hr
    obtain ⟨g14, h14⟩ := rcv_n f14
    obtain ⟨v14, e14, hr⟩ := ob hr
    refine v_callV C (b := b14) h14 (by decide) rfl rfl (k_Jx4a65c_size_8abf5 e14) cw_Jx4a65c_size_8abf5 w_648 w_353 w_354 (show (parseMethodDescriptor (yJx4a65c_size_8abf5).desc).map (fun d => d.parameters.length) = some 0 by decide +kernel) ⟨by decide, by decide⟩ (rest := [.int x4]) (stk2 := [.int v14, .int x4]) (by rw [g14]; rfl) rfl (Nat.le_of_ble_eq_true rfl) hl dX0_lastStir_14 ?_
    refine v_icmp_ge C 93 (by decide) dX0_lastStir_17 (fun c17 => ?_) (fun c17 => ?_)
    · rw [if_pos c17] at hr
      refine v_iload_n C (lv_at hl 3 rfl) rfl dX0_lastStir_93 ?_
      obtain rfl := os hr
      obtain rfl := kR _ rfl
      exact v_iret C dX0_lastStir_94
    · rw [if_neg c17] at hr
      refine v_aload_n C (lv_at hl 0 rfl) rfl dX0_lastStir_20 ?_
      obtain ⟨v21, e21, hr⟩ := ob hr
      refine v_getR C fl_RX0_12 rfl e21 dX0_lastStir_21 ?_
      refine v_iload C (lv_at hl 4 rfl) dX0_lastStir_24 ?_
      obtain ⟨b26, f26, hr⟩ := ob hr
      obtain ⟨g26, h26⟩ := rcv_n f26
      obtain ⟨v26, e26, hr⟩ := ob hr
      refine v_callV C (b := b26) h26 (by decide) rfl rfl (k_Jx4a65c_get_915e3 e26) cw_Jx4a65c_get_915e3 w_649 w_450 w_451 (show (parseMethodDescriptor (yJx4a65c_get_915e3).desc).map (fun d => d.parameters.length) = some 1 by decide +kernel) ⟨by decide, by decide⟩ (rest := []) (stk2 := [va_rf v26]) (by rw [g26]; rfl) rfl (Nat.le_of_ble_eq_true rfl) hl dX0_lastStir_26 ?_
      obtain ⟨v29, e29, hr⟩ := ob hr
      refine v_cast C e29 (by decide) rfl w_650 dX0_lastStir_29 ?_
      refine v_astore C (i := 5) (lv' := [(5, va_rf v29), (0, va_rf (some x0)), (1, .int x1), (2, .int x2), (3, .int x3), (4, .int x4)]) hl (by decide) rfl dX0_lastStir_32 (fun ls hl => ?_)
      refine v_aload C (lv_at hl 0 rfl) dX0_lastStir_34 ?_
      obtain ⟨v36, e36, hr⟩ := ob hr
      refine v_getI C fl_RX0_73 rfl e36 dX0_lastStir_36 ?_
      refine v_iconst C (-1) (by decide) dX0_lastStir_39 ?_
      refine v_icmp_eq C 60 (by decide) dX0_lastStir_40 (fun c40 => ?_) (fun c40 => ?_)
      · rw [if_pos c40] at hr
        exact b_X0_lastStir_60 C kR (@ih) hr _ (lv_sub hl [1, 2, 3, 4, 5, 0] rfl)
      · rw [if_neg c40] at hr
        refine v_iload_n C (lv_at hl 2 rfl) rfl dX0_lastStir_43 ?_
        refine v_aload C (lv_at hl 0 rfl) dX0_lastStir_44 ?_
        obtain ⟨v46, e46, hr⟩ := ob hr
        refine v_getI C fl_RX0_73 rfl e46 dX0_lastStir_46 ?_
        refine v_ishr C dX0_lastStir_49 ?_
        refine v_iconst C 1 (by decide) dX0_lastStir_50 ?_
        refine v_iand C dX0_lastStir_51 ?_
        refine v_iconst C 1 (by decide) dX0_lastStir_52 ?_
        refine v_icmp_ne C 60 (by decide) dX0_lastStir_53 (fun c53 => ?_) (fun c53 => ?_)
        · rw [if_neg c53] at hr
          exact b_X0_lastStir_60 C kR (@ih) hr _ (lv_sub hl [1, 2, 3, 4, 5, 0] rfl)
        · rw [if_pos c53] at hr
          refine v_iconst C 1 (by decide) dX0_lastStir_56 ?_
          refine v_goto C 61 (by decide) dX0_lastStir_57 ?_
          exact b_X0_lastStir_61 C kR (@ih) hr _ (lv_sub hl [1, 2, 3, 4, 5, 0] rfl)
theorem k_X0_lastStir {l : Launch} {G : Ge} {S : St} {x0 : Nat} {x1 : Int32} {x2 : Int32} {rr : Int32} (hr : f_X0_lastStir S x0 x1 x2 = some rr) : Ct l G yX0_lastStir cX0_lastStir 7 (Option.some Jvm.ClassFile.FieldType.int) S [va_rf (some x0), .int x1, .int x2] (some (.int rr)) S 3 64 := by
  refine ct_of (by decide +kernel) (Nat.le_of_ble_eq_true rfl) ?_
  intro p e s m args below meth c C ls hl
  have hl : lv_has ls 7 [(0, va_rf (some x0)), (1, .int x1), (2, .int x2)] := hl
  unfold f_X0_lastStir at hr
  refine v_aload_n C (lv_at hl 0 rfl) rfl dX0_lastStir_0 ?_
  obtain ⟨v1, e1, hr⟩ := ob hr
  refine v_getI C fl_RX0_49 rfl e1 dX0_lastStir_1 ?_
  refine v_istore_n C (i := 3) (lv' := [(3, .int v1), (0, va_rf (some x0)), (1, .int x1), (2, .int x2)]) hl rfl (by decide) rfl dX0_lastStir_4 (fun ls hl => ?_)
  refine v_iconst C 0 (by decide) dX0_lastStir_5 ?_
  refine v_istore C (i := 4) (lv' := [(4, .int 0), (3, .int v1), (0, va_rf (some x0)), (1, .int x1), (2, .int x2)]) hl (by decide) rfl dX0_lastStir_6 (fun ls hl => ?_)
  exact b_X0_lastStir_8 C (fun _ q => by cases q; rfl) FU hr _ (lv_sub hl [2, 3, 4, 1, 0] rfl)
-- X3_comesAhead
def f_X3_comesAhead (S : St) (x0 : Nat) (x1 : Option Nat) : Option Int32 :=
    (getI S (some x0) 4 1).bind fun v1 =>
    (getI S x1 4 1).bind fun v5 =>
    (if v1 < v5 then
    some 1
    else
    (getI S (some x0) 4 1).bind fun v12 =>
    (getI S x1 4 1).bind fun v16 =>
    (if v12 = v16 then
    (getI S (some x0) 4 0).bind fun v23 =>
    (if v23 = (-1) then
    some 1
    else
    (getI S x1 4 0).bind fun v31 =>
    (if v31 = (-1) then
    some 0
    else
    some 1))
    else
    some 0))
theorem k_X3_comesAhead {l : Launch} {G : Ge} {S : St} {x0 : Nat} {x1 : Option Nat} {rr : Int32} (hr : f_X3_comesAhead S x0 x1 = some rr) : Ct l G yX3_comesAhead cX3_comesAhead 2 (Option.some Jvm.ClassFile.FieldType.boolean) S [va_rf (some x0), va_rf x1] (some (.int rr)) S 0 0 := by
  refine ct_of (by decide +kernel) (by cases x1 <;> exact Nat.le_of_ble_eq_true rfl) ?_
  intro p e s m args below meth c C ls hl
  have hl : lv_has ls 2 [(0, va_rf (some x0)), (1, va_rf x1)] := by clear hr; cases x1 <;> exact hl
  unfold f_X3_comesAhead at hr
  refine v_aload_n C (lv_at hl 0 rfl) rfl dX3_comesAhead_0 ?_
  obtain ⟨v1, e1, hr⟩ := ob hr
  refine v_getI C fl_RX3_13 rfl e1 dX3_comesAhead_1 ?_
  refine v_aload_n C (lv_at hl 1 rfl) rfl dX3_comesAhead_4 ?_
  obtain ⟨v5, e5, hr⟩ := ob hr
  refine v_getI C fl_RX3_13 rfl e5 dX3_comesAhead_5 ?_
  refine v_icmp_lt C 38 (by decide) dX3_comesAhead_8 (fun c8 => ?_) (fun c8 => ?_)
  · rw [if_pos c8] at hr
    refine v_iconst C 1 (by decide) dX3_comesAhead_38 ?_
    refine v_goto C 43 (by decide) dX3_comesAhead_39 ?_
    obtain rfl := os hr
    exact v_zret C rfl dX3_comesAhead_43
  · rw [if_neg c8] at hr
    refine v_aload_n C (lv_at hl 0 rfl) rfl dX3_comesAhead_11 ?_
    obtain ⟨v12, e12, hr⟩ := ob hr
    refine v_getI C fl_RX3_13 rfl e12 dX3_comesAhead_12 ?_
    refine v_aload_n C (lv_at hl 1 rfl) rfl dX3_comesAhead_15 ?_
    obtain ⟨v16, e16, hr⟩ := ob hr
    refine v_getI C fl_RX3_13 rfl e16 dX3_comesAhead_16 ?_
    refine v_icmp_ne C 42 (by decide) dX3_comesAhead_19 (fun c19 => ?_) (fun c19 => ?_)
    · rw [if_neg c19] at hr
      refine v_iconst C 0 (by decide) dX3_comesAhead_42 ?_
      obtain rfl := os hr
      exact v_zret C rfl dX3_comesAhead_43
    · rw [if_pos c19] at hr
      refine v_aload_n C (lv_at hl 0 rfl) rfl dX3_comesAhead_22 ?_
      obtain ⟨v23, e23, hr⟩ := ob hr
      refine v_getI C fl_RX3_7 rfl e23 dX3_comesAhead_23 ?_
      refine v_iconst C (-1) (by decide) dX3_comesAhead_26 ?_
      refine v_icmp_eq C 38 (by decide) dX3_comesAhead_27 (fun c27 => ?_) (fun c27 => ?_)
      · rw [if_pos c27] at hr
        refine v_iconst C 1 (by decide) dX3_comesAhead_38 ?_
        refine v_goto C 43 (by decide) dX3_comesAhead_39 ?_
        obtain rfl := os hr
        exact v_zret C rfl dX3_comesAhead_43
      · rw [if_neg c27] at hr
        refine v_aload_n C (lv_at hl 1 rfl) rfl dX3_comesAhead_30 ?_
        obtain ⟨v31, e31, hr⟩ := ob hr
        refine v_getI C fl_RX3_7 rfl e31 dX3_comesAhead_31 ?_
        refine v_iconst C (-1) (by decide) dX3_comesAhead_34 ?_
        refine v_icmp_eq C 42 (by decide) dX3_comesAhead_35 (fun c35 => ?_) (fun c35 => ?_)
        · rw [if_pos c35] at hr
          refine v_iconst C 0 (by decide) dX3_comesAhead_42 ?_
          obtain rfl := os hr
          exact v_zret C rfl dX3_comesAhead_43
        · rw [if_neg c35] at hr
          refine v_iconst C 1 (by decide) dX3_comesAhead_38 ?_
          refine v_goto C 43 (by decide) dX3_comesAhead_39 ?_
          obtain rfl := os hr
          exact v_zret C rfl dX3_comesAhead_43
-- X0_tell
def f_X0_tell_8 : Nat → St → Nat → (Option Nat) → Int32 → Option (Nat × (Option Nat) × Int32 × St)
  | 0, _, _, _, _ => none
  | n + 1, S, x0, x1, x2 =>
    (if x2 ≤ 0 then
    some (x0, x1, x2, S)
    else
    (getR S (some x0) 1 5).bind fun v13 =>
    (rcv S v13 0).bind fun b19 =>
    (f_Jx4a65c_get_915e3 S b19 (x2 - 1)).bind fun v19 =>
    (castO S v19 4).bind fun v22 =>
    (rcv S v22 4).bind fun b26 =>
    (f_X3_comesAhead S b26 x1).bind fun v26 =>
    (if v26 = 0 then
    f_X0_tell_8 n S x0 x1 (x2 + (-1))
    else
    some (x0, x1, x2, S)))
def f_X0_tell_38 (S : St) (x0 : Nat) (x1 : Option Nat) (x2 : Int32) : Option St :=
    (getR S (some x0) 1 5).bind fun v39 =>
    (rcv S v39 0).bind fun b44 =>
    (f_Jx4a65c_add_7a177 S b44 x2 x1).bind fun S44 =>
    some S44
def f_X0_tell (S : St) (x0 : Nat) (x1 : Option Nat) : Option St :=
    (getR S (some x0) 1 5).bind fun v1 =>
    (rcv S v1 0).bind fun b4 =>
    (f_Jx4a65c_size_8abf5 S b4).bind fun v4 =>
    (f_X0_tell_8 FU S x0 x1 v4).bind fun (x0, x1_8, x2_8, S_8) => f_X0_tell_38 S_8 x0 x1_8 x2_8
theorem b_X0_tell_8  {S0 S' : St} (C : Cx p s m args meth c G S0 yX0_tell cX0_tell 3 (Option.none : Option Jvm.ClassFile.FieldType)) {o : (Nat × (Option Nat) × Int32 × St)} (kX38 : ∀ {x0 : Nat} {x1 : Option Nat} {x2 : Int32} {Z : St}, o = (x0, x1, x2, Z) → ∀ ls : Array Slot, lv_has ls 3 [(0, va_rf (some x0)), (1, va_rf x1), (2, .int x2)] → V p l e (rmo 6 147 S0) s m args below meth c G S0 Z (QM below args s G S0 S' none) (F0 m 38 ls [])) : ∀ (n : Nat) {S : St} {x0 : Nat} {x1 : Option Nat} {x2 : Int32}, f_X0_tell_8 n S x0 x1 x2 = some o → ∀ ls : Array Slot, lv_has ls 3 [(0, va_rf (some x0)), (1, va_rf x1), (2, .int x2)] → V p l e (rmo 6 147 S0) s m args below meth c G S0 S (QM below args s G S0 S' none) (F0 m 8 ls []) := by
  intro n
  induction n with
  | zero => intro S x0 x1 x2 hr; cases hr
  | succ n ih =>
    intro S x0 x1 x2 hr ls hl
    unfold f_X0_tell_8 at hr
    refine v_iload_n C (lv_at hl 2 rfl) rfl dX0_tell_8 ?_
    refine v_if_le C 38 (by decide) dX0_tell_9 (fun c9 => ?_) (fun c9 => ?_)
    · rw [if_pos c9] at hr
      obtain rfl := os hr
      exact kX38 rfl _ (lv_sub hl [0, 1, 2] rfl)
    · rw [if_neg c9] at hr
      refine v_aload_n C (lv_at hl 0 rfl) rfl dX0_tell_12 ?_
      obtain ⟨v13, e13, hr⟩ := ob hr
      refine v_getR C fl_RX0_12 rfl e13 dX0_tell_13 ?_
      refine v_iload_n C (lv_at hl 2 rfl) rfl dX0_tell_16 ?_
      refine v_iconst C 1 (by decide) dX0_tell_17 ?_
      refine v_isub C dX0_tell_18 ?_
      obtain ⟨b19, f19, hr⟩ := ob hr
      obtain ⟨g19, h19⟩ := rcv_n f19
      obtain ⟨v19, e19, hr⟩ := ob hr
      refine v_callV C (b := b19) h19 (by decide) rfl rfl (k_Jx4a65c_get_915e3 e19) cw_Jx4a65c_get_915e3 w_649 w_450 w_451 (show (parseMethodDescriptor (yJx4a65c_get_915e3).desc).map (fun d => d.parameters.length) = some 1 by decide +kernel) ⟨by decide, by decide⟩ (rest := []) (stk2 := [va_rf v19]) (by rw [g19]; rfl) rfl (Nat.le_of_ble_eq_true rfl) hl dX0_tell_19 ?_
      obtain ⟨v22, e22, hr⟩ := ob hr
      refine v_cast C e22 (by decide) rfl w_650 dX0_tell_22 ?_
      refine v_aload_n C (lv_at hl 1 rfl) rfl dX0_tell_25 ?_
      obtain ⟨b26, f26, hr⟩ := ob hr
      obtain ⟨g26, h26⟩ := rcv_n f26
      obtain ⟨v26, e26, hr⟩ := ob hr
      refine v_callV C (b := b26) h26 (by decide) rfl rfl (k_X3_comesAhead e26) cw_X3_comesAhead w_651 w_652 w_653 (show (parseMethodDescriptor (yX3_comesAhead).desc).map (fun d => d.parameters.length) = some 1 by decide +kernel) ⟨by decide, by decide⟩ (rest := []) (stk2 := [.int v26]) (by rw [g26]; rfl) rfl (Nat.le_of_ble_eq_true rfl) hl dX0_tell_26 ?_
      refine v_if_ne C 38 (by decide) dX0_tell_29 (fun c29 => ?_) (fun c29 => ?_)
      · rw [if_neg c29] at hr
        obtain rfl := os hr
        exact kX38 rfl _ (lv_sub hl [0, 1, 2] rfl)
      · rw [if_pos c29] at hr
        refine v_iinc C (x2 + (-1)) (k0 := 2) (lv' := [(2, .int (x2 + (-1))), (0, va_rf (some x0)), (1, va_rf x1)]) hl rfl (congrArg (fun z => x2 + z) (show Int32.ofInt (-1) = (-1) by decide)) (by decide) (by simp [rf_n2]) dX0_tell_32 (fun ls hl => ?_)
        refine v_goto C 8 (by decide) dX0_tell_35 ?_
        exact ih hr _ (lv_sub hl [1, 2, 0] rfl)
theorem b_X0_tell_38  {S0 S S' : St} {x0 : Nat} {x1 : Option Nat} {x2 : Int32} (C : Cx p s m args meth c G S0 yX0_tell cX0_tell 3 (Option.none : Option Jvm.ClassFile.FieldType)) (hr : f_X0_tell_38 S x0 x1 x2 = some S') : ∀ ls : Array Slot, lv_has ls 3 [(0, va_rf (some x0)), (1, va_rf x1), (2, .int x2)] → V p l e (rmo 6 147 S0) s m args below meth c G S0 S (QM below args s G S0 S' none) (F0 m 38 ls []) := by
  intro ls hl
  unfold f_X0_tell_38 at hr
  refine v_aload_n C (lv_at hl 0 rfl) rfl dX0_tell_38 ?_
  obtain ⟨v39, e39, hr⟩ := ob hr
  refine v_getR C fl_RX0_12 rfl e39 dX0_tell_39 ?_
  refine v_iload_n C (lv_at hl 2 rfl) rfl dX0_tell_42 ?_
  refine v_aload_n C (lv_at hl 1 rfl) rfl dX0_tell_43 ?_
  obtain ⟨b44, f44, hr⟩ := ob hr
  obtain ⟨g44, h44⟩ := rcv_n f44
  obtain ⟨S44, e44, hr⟩ := ob hr
  refine v_callV C (b := b44) h44 (by decide) rfl rfl (k_Jx4a65c_add_7a177 e44) cw_Jx4a65c_add_7a177 w_655 w_656 w_657 (show (parseMethodDescriptor (yJx4a65c_add_7a177).desc).map (fun d => d.parameters.length) = some 2 by decide +kernel) ⟨by decide, by decide⟩ (rest := []) (stk2 := []) (by rw [g44]; rfl) rfl (Nat.le_of_ble_eq_true rfl) hl dX0_tell_44 ?_
  obtain rfl := os hr
  exact v_vret C dX0_tell_47
theorem k_X0_tell {l : Launch} {G : Ge} {S S' : St} {x0 : Nat} {x1 : Option Nat} (hr : f_X0_tell S x0 x1 = some S') : Ct l G yX0_tell cX0_tell 3 (Option.none : Option Jvm.ClassFile.FieldType) S [va_rf (some x0), va_rf x1] none S' 6 147 := by
  refine ct_of (by decide +kernel) (by cases x1 <;> exact Nat.le_of_ble_eq_true rfl) ?_
  intro p e s m args below meth c C ls hl
  have hl : lv_has ls 3 [(0, va_rf (some x0)), (1, va_rf x1)] := by clear hr; cases x1 <;> exact hl
  unfold f_X0_tell at hr
  refine v_aload_n C (lv_at hl 0 rfl) rfl dX0_tell_0 ?_
  obtain ⟨v1, e1, hr⟩ := ob hr
  refine v_getR C fl_RX0_12 rfl e1 dX0_tell_1 ?_
  obtain ⟨b4, f4, hr⟩ := ob hr
  obtain ⟨g4, h4⟩ := rcv_n f4
  obtain ⟨v4, e4, hr⟩ := ob hr
  refine v_callV C (b := b4) h4 (by decide) rfl rfl (k_Jx4a65c_size_8abf5 e4) cw_Jx4a65c_size_8abf5 w_648 w_353 w_354 (show (parseMethodDescriptor (yJx4a65c_size_8abf5).desc).map (fun d => d.parameters.length) = some 0 by decide +kernel) ⟨by decide, by decide⟩ (rest := []) (stk2 := [.int v4]) (by rw [g4]; rfl) rfl (Nat.le_of_ble_eq_true rfl) hl dX0_tell_4 ?_
  refine v_istore_n C (i := 2) (lv' := [(2, .int v4), (0, va_rf (some x0)), (1, va_rf x1)]) hl rfl (by decide) (by simp [rf_n2]) dX0_tell_7 (fun ls hl => ?_)
  obtain ⟨o8, e8, hr⟩ := ob hr
  refine b_X0_tell_8 C ?_ FU e8 _ (lv_sub hl [1, 2, 0] rfl)
  · intro x0 x1_8 x2_8 S_8 q ls hl
    subst q
    (try dsimp only at hr)
    exact b_X0_tell_38 C hr _ (lv_sub hl [0, 1, 2] rfl)
-- X11_isWithin
def f_X11_isWithin (S : St) (x0 : Int32) (x1 : Int32) : Option Int32 :=
    (if x0 < 0 then
    some 0
    else
    (if x1 ≤ x0 then
    some 0
    else
    some 1))
theorem k_X11_isWithin {l : Launch} {G : Ge} {S : St} {x0 : Int32} {x1 : Int32} {rr : Int32} (hr : f_X11_isWithin S x0 x1 = some rr) : Ct l G yX11_isWithin cX11_isWithin 2 (Option.some Jvm.ClassFile.FieldType.boolean) S [.int x0, .int x1] (some (.int rr)) S 0 0 := by
  refine ct_of (by decide +kernel) (Nat.le_of_ble_eq_true rfl) ?_
  intro p e s m args below meth c C ls hl
  have hl : lv_has ls 2 [(0, .int x0), (1, .int x1)] := hl
  unfold f_X11_isWithin at hr
  refine v_iload_n C (lv_at hl 0 rfl) rfl dX11_isWithin_0 ?_
  refine v_if_lt C 13 (by decide) dX11_isWithin_1 (fun c1 => ?_) (fun c1 => ?_)
  · rw [if_pos c1] at hr
    refine v_iconst C 0 (by decide) dX11_isWithin_13 ?_
    obtain rfl := os hr
    exact v_zret C rfl dX11_isWithin_14
  · rw [if_neg c1] at hr
    refine v_iload_n C (lv_at hl 0 rfl) rfl dX11_isWithin_4 ?_
    refine v_iload_n C (lv_at hl 1 rfl) rfl dX11_isWithin_5 ?_
    refine v_icmp_ge C 13 (by decide) dX11_isWithin_6 (fun c6 => ?_) (fun c6 => ?_)
    · rw [if_pos c6] at hr
      refine v_iconst C 0 (by decide) dX11_isWithin_13 ?_
      obtain rfl := os hr
      exact v_zret C rfl dX11_isWithin_14
    · rw [if_neg c6] at hr
      refine v_iconst C 1 (by decide) dX11_isWithin_9 ?_
      refine v_goto C 14 (by decide) dX11_isWithin_10 ?_
      obtain rfl := os hr
      exact v_zret C rfl dX11_isWithin_14
-- X10_byteAt
def f_X10_byteAt (S : St) (x0 : Option Nat) (x1 : Int32) : Option Int32 :=
    (alen S x0).bind fun v2 =>
    (f_X11_isWithin S x1 v2).bind fun v3 =>
    (if v3 = 0 then
    some 0
    else
    (ldI S x0 14 x1).bind fun v11 =>
    some v11)
theorem k_X10_byteAt {l : Launch} {G : Ge} {S : St} {x0 : Option Nat} {x1 : Int32} {rr : Int32} (hr : f_X10_byteAt S x0 x1 = some rr) : Ct l G yX10_byteAt cX10_byteAt 2 (Option.some Jvm.ClassFile.FieldType.int) S [va_rf x0, .int x1] (some (.int rr)) S 1 21 := by
  refine ct_of (by decide +kernel) (by cases x0 <;> exact Nat.le_of_ble_eq_true rfl) ?_
  intro p e s m args below meth c C ls hl
  have hl : lv_has ls 2 [(0, va_rf x0), (1, .int x1)] := by clear hr; cases x0 <;> exact hl
  unfold f_X10_byteAt at hr
  refine v_iload_n C (lv_at hl 1 rfl) rfl dX10_byteAt_0 ?_
  refine v_aload_n C (lv_at hl 0 rfl) rfl dX10_byteAt_1 ?_
  obtain ⟨v2, e2, hr⟩ := ob hr
  refine v_alen C e2 dX10_byteAt_2 ?_
  obtain ⟨v3, e3, hr⟩ := ob hr
  refine v_callSN C "SleepOffice" (k_X11_isWithin e3) cw_X11_isWithin (by decide +kernel) w_350 (show (parseMethodDescriptor (yX11_isWithin).desc).map (fun d => d.parameters.length) = some 2 by decide +kernel) ⟨by decide, by decide⟩ (rest := []) (stk2 := [.int v3]) rfl rfl (Nat.le_of_ble_eq_true rfl) hl dX10_byteAt_3 ?_
  refine v_if_eq C 15 (by decide) dX10_byteAt_6 (fun c6 => ?_) (fun c6 => ?_)
  · rw [if_pos c6] at hr
    refine v_iconst C 0 (by decide) dX10_byteAt_15 ?_
    obtain rfl := os hr
    exact v_iret C dX10_byteAt_16
  · rw [if_neg c6] at hr
    refine v_aload_n C (lv_at hl 0 rfl) rfl dX10_byteAt_9 ?_
    refine v_iload_n C (lv_at hl 1 rfl) rfl dX10_byteAt_10 ?_
    obtain ⟨v11, e11, hr⟩ := ob hr
    refine v_ldI_b C e11 dX10_byteAt_11 ?_
    refine v_goto C 16 (by decide) dX10_byteAt_12 ?_
    obtain rfl := os hr
    exact v_iret C dX10_byteAt_16
-- X10_init
def f_X10_init (S : St) (x0 : Nat) (x1 : Int32) (x2 : Int32) (x3 : Int32) : Option St :=
    (putI S (some x0) 11 0 x1).bind fun S6 =>
    (putI S6 (some x0) 11 1 x2).bind fun S11 =>
    (putI S11 (some x0) 11 2 x3).bind fun S16 =>
    some S16
theorem k_X10_init {l : Launch} {G : Ge} {S S' : St} {x0 : Nat} {x1 : Int32} {x2 : Int32} {x3 : Int32} (hr : f_X10_init S x0 x1 x2 x3 = some S') : Ct l G yX10_init cX10_init 4 (Option.none : Option Jvm.ClassFile.FieldType) S [va_rf (some x0), .int x1, .int x2, .int x3] none S' 1 36 := by
  refine ct_of (by decide +kernel) (Nat.le_of_ble_eq_true rfl) ?_
  intro p e s m args below meth c C ls hl
  have hl : lv_has ls 4 [(0, va_rf (some x0)), (1, .int x1), (2, .int x2), (3, .int x3)] := hl
  unfold f_X10_init at hr
  refine v_aload_n C (lv_at hl 0 rfl) rfl dX10_init_0 ?_
  refine v_objInit C (b := x0) w_802 w_134 w_135 ⟨by decide, by decide⟩ (Nat.le_of_ble_eq_true rfl) hl dX10_init_1 ?_
  refine v_aload_n C (lv_at hl 0 rfl) rfl dX10_init_4 ?_
  refine v_iload_n C (lv_at hl 1 rfl) rfl dX10_init_5 ?_
  obtain ⟨S6, e6, hr⟩ := ob hr
  refine v_putI C fl_RX10_7 (Or.inr ⟨rfl, rfl⟩) rfl e6 dX10_init_6 ?_
  refine v_aload_n C (lv_at hl 0 rfl) rfl dX10_init_9 ?_
  refine v_iload_n C (lv_at hl 2 rfl) rfl dX10_init_10 ?_
  obtain ⟨S11, e11, hr⟩ := ob hr
  refine v_putI C fl_RX10_13 (Or.inr ⟨rfl, rfl⟩) rfl e11 dX10_init_11 ?_
  refine v_aload_n C (lv_at hl 0 rfl) rfl dX10_init_14 ?_
  refine v_iload_n C (lv_at hl 3 rfl) rfl dX10_init_15 ?_
  obtain ⟨S16, e16, hr⟩ := ob hr
  refine v_putI C fl_RX10_16 (Or.inr ⟨rfl, rfl⟩) rfl e16 dX10_init_16 ?_
  obtain rfl := os hr
  exact v_vret C dX10_init_19
-- X10_isBlank
def f_X10_isBlank (S : St) (x0 : Int32) : Option Int32 :=
    (if x0 = 32 then
    some 1
    else
    (if x0 = 10 then
    some 1
    else
    some 0))
theorem k_X10_isBlank {l : Launch} {G : Ge} {S : St} {x0 : Int32} {rr : Int32} (hr : f_X10_isBlank S x0 = some rr) : Ct l G yX10_isBlank cX10_isBlank 1 (Option.some Jvm.ClassFile.FieldType.boolean) S [.int x0] (some (.int rr)) S 0 0 := by
  refine ct_of (by decide +kernel) (Nat.le_of_ble_eq_true rfl) ?_
  intro p e s m args below meth c C ls hl
  have hl : lv_has ls 1 [(0, .int x0)] := hl
  unfold f_X10_isBlank at hr
  refine v_iload_n C (lv_at hl 0 rfl) rfl dX10_isBlank_0 ?_
  refine v_bipush C 32 (by decide) dX10_isBlank_1 ?_
  refine v_icmp_eq C 12 (by decide) dX10_isBlank_3 (fun c3 => ?_) (fun c3 => ?_)
  · rw [if_pos c3] at hr
    refine v_iconst C 1 (by decide) dX10_isBlank_12 ?_
    refine v_goto C 17 (by decide) dX10_isBlank_13 ?_
    obtain rfl := os hr
    exact v_zret C rfl dX10_isBlank_17
  · rw [if_neg c3] at hr
    refine v_iload_n C (lv_at hl 0 rfl) rfl dX10_isBlank_6 ?_
    refine v_bipush C 10 (by decide) dX10_isBlank_7 ?_
    refine v_icmp_ne C 16 (by decide) dX10_isBlank_9 (fun c9 => ?_) (fun c9 => ?_)
    · rw [if_neg c9] at hr
      refine v_iconst C 0 (by decide) dX10_isBlank_16 ?_
      obtain rfl := os hr
      exact v_zret C rfl dX10_isBlank_17
    · rw [if_pos c9] at hr
      refine v_iconst C 1 (by decide) dX10_isBlank_12 ?_
      refine v_goto C 17 (by decide) dX10_isBlank_13 ?_
      obtain rfl := os hr
      exact v_zret C rfl dX10_isBlank_17
-- X10_isDigit
def f_X10_isDigit (S : St) (x0 : Int32) : Option Int32 :=
    (if x0 < 48 then
    some 0
    else
    (if (57 : Int32) < x0 then
    some 0
    else
    some 1))
theorem k_X10_isDigit {l : Launch} {G : Ge} {S : St} {x0 : Int32} {rr : Int32} (hr : f_X10_isDigit S x0 = some rr) : Ct l G yX10_isDigit cX10_isDigit 1 (Option.some Jvm.ClassFile.FieldType.boolean) S [.int x0] (some (.int rr)) S 0 0 := by
  refine ct_of (by decide +kernel) (Nat.le_of_ble_eq_true rfl) ?_
  intro p e s m args below meth c C ls hl
  have hl : lv_has ls 1 [(0, .int x0)] := hl
  unfold f_X10_isDigit at hr
  refine v_iload_n C (lv_at hl 0 rfl) rfl dX10_isDigit_0 ?_
  refine v_bipush C 48 (by decide) dX10_isDigit_1 ?_
  refine v_icmp_lt C 16 (by decide) dX10_isDigit_3 (fun c3 => ?_) (fun c3 => ?_)
  · rw [if_pos c3] at hr
    refine v_iconst C 0 (by decide) dX10_isDigit_16 ?_
    obtain rfl := os hr
    exact v_zret C rfl dX10_isDigit_17
  · rw [if_neg c3] at hr
    refine v_iload_n C (lv_at hl 0 rfl) rfl dX10_isDigit_6 ?_
    refine v_bipush C 57 (by decide) dX10_isDigit_7 ?_
    refine v_icmp_gt C 16 (by decide) dX10_isDigit_9 (fun c9 => ?_) (fun c9 => ?_)
    · rw [if_pos c9] at hr
      refine v_iconst C 0 (by decide) dX10_isDigit_16 ?_
      obtain rfl := os hr
      exact v_zret C rfl dX10_isDigit_17
    · rw [if_neg c9] at hr
      refine v_iconst C 1 (by decide) dX10_isDigit_12 ?_
      refine v_goto C 17 (by decide) dX10_isDigit_13 ?_
      obtain rfl := os hr
      exact v_zret C rfl dX10_isDigit_17
-- X10_isLetter
def f_X10_isLetter_12 (S : St) (x0 : Int32) : Option Int32 :=
    (if x0 < 65 then
    some 0
    else
    (if (90 : Int32) < x0 then
    some 0
    else
    some 1))
def f_X10_isLetter (S : St) (x0 : Int32) : Option Int32 :=
    (if x0 < 97 then
    f_X10_isLetter_12 S x0
    else
    (if x0 ≤ 122 then
    some 1
    else
    f_X10_isLetter_12 S x0))
theorem b_X10_isLetter_12  {S : St} {rr : Int32} {x0 : Int32} (C : Cx p s m args meth c G S yX10_isLetter cX10_isLetter 1 (Option.some Jvm.ClassFile.FieldType.boolean)) (hr : f_X10_isLetter_12 S x0 = some rr) : ∀ ls : Array Slot, lv_has ls 1 [(0, .int x0)] → V p l e (rmo 0 0 S) s m args below meth c G S S (QM below args s G S S (some (.int rr))) (F0 m 12 ls []) := by
  intro ls hl
  unfold f_X10_isLetter_12 at hr
  refine v_iload_n C (lv_at hl 0 rfl) rfl dX10_isLetter_12 ?_
  refine v_bipush C 65 (by decide) dX10_isLetter_13 ?_
  refine v_icmp_lt C 28 (by decide) dX10_isLetter_15 (fun c15 => ?_) (fun c15 => ?_)
  · rw [if_pos c15] at hr
    refine v_iconst C 0 (by decide) dX10_isLetter_28 ?_
    obtain rfl := os hr
    exact v_zret C rfl dX10_isLetter_29
  · rw [if_neg c15] at hr
    refine v_iload_n C (lv_at hl 0 rfl) rfl dX10_isLetter_18 ?_
    refine v_bipush C 90 (by decide) dX10_isLetter_19 ?_
    refine v_icmp_gt C 28 (by decide) dX10_isLetter_21 (fun c21 => ?_) (fun c21 => ?_)
    · rw [if_pos c21] at hr
      refine v_iconst C 0 (by decide) dX10_isLetter_28 ?_
      obtain rfl := os hr
      exact v_zret C rfl dX10_isLetter_29
    · rw [if_neg c21] at hr
      refine v_iconst C 1 (by decide) dX10_isLetter_24 ?_
      refine v_goto C 29 (by decide) dX10_isLetter_25 ?_
      obtain rfl := os hr
      exact v_zret C rfl dX10_isLetter_29
theorem k_X10_isLetter {l : Launch} {G : Ge} {S : St} {x0 : Int32} {rr : Int32} (hr : f_X10_isLetter S x0 = some rr) : Ct l G yX10_isLetter cX10_isLetter 1 (Option.some Jvm.ClassFile.FieldType.boolean) S [.int x0] (some (.int rr)) S 0 0 := by
  refine ct_of (by decide +kernel) (Nat.le_of_ble_eq_true rfl) ?_
  intro p e s m args below meth c C ls hl
  have hl : lv_has ls 1 [(0, .int x0)] := hl
  unfold f_X10_isLetter at hr
  refine v_iload_n C (lv_at hl 0 rfl) rfl dX10_isLetter_0 ?_
  refine v_bipush C 97 (by decide) dX10_isLetter_1 ?_
  refine v_icmp_lt C 12 (by decide) dX10_isLetter_3 (fun c3 => ?_) (fun c3 => ?_)
  · rw [if_pos c3] at hr
    exact b_X10_isLetter_12 C hr _ (lv_sub hl [0] rfl)
  · rw [if_neg c3] at hr
    refine v_iload_n C (lv_at hl 0 rfl) rfl dX10_isLetter_6 ?_
    refine v_bipush C 122 (by decide) dX10_isLetter_7 ?_
    refine v_icmp_le C 24 (by decide) dX10_isLetter_9 (fun c9 => ?_) (fun c9 => ?_)
    · rw [if_pos c9] at hr
      refine v_iconst C 1 (by decide) dX10_isLetter_24 ?_
      refine v_goto C 29 (by decide) dX10_isLetter_25 ?_
      obtain rfl := os hr
      exact v_zret C rfl dX10_isLetter_29
    · rw [if_neg c9] at hr
      exact b_X10_isLetter_12 C hr _ (lv_sub hl [0] rfl)
-- X10_isSpelled
def f_X10_isSpelled_15 : Nat → St → (Option Nat) → (Option Nat) → Int32 → Int32 → Option (Int32)
  | 0, _, _, _, _, _ => none
  | n + 1, S, x0, x1, x2, x4 =>
    (rcv S x0 22).bind fun b18 =>
    (stL0 S b18).bind fun v18 =>
    (if v18 ≤ x4 then
    some 1
    else
    (rcv S x0 22).bind fun b27 =>
    (stC0 S b27 x4).bind fun v27 =>
    (f_X10_byteAt S x1 (x2 + x4)).bind fun v35 =>
    (if v27 = v35 then
    f_X10_isSpelled_15 n S x0 x1 x2 (x4 + 1)
    else
    some 0))
def f_X10_isSpelled (S : St) (x0 : Option Nat) (x1 : Option Nat) (x2 : Int32) (x3 : Int32) : Option Int32 :=
    (rcv S x0 22).bind fun b1 =>
    (stL0 S b1).bind fun v1 =>
    (if v1 = (x3 - x2) then
    f_X10_isSpelled_15 FU S x0 x1 x2 0
    else
    some 0)
theorem b_X10_isSpelled_15  {S : St} {rr : Int32} (C : Cx p s m args meth c G S yX10_isSpelled cX10_isSpelled 5 (Option.some Jvm.ClassFile.FieldType.boolean)) {o : (Int32)} (kR : ∀ (v : Int32), o = v → rr = v) : ∀ (n : Nat) {x0 : Option Nat} {x1 : Option Nat} {x2 : Int32} {x4 : Int32}, f_X10_isSpelled_15 n S x0 x1 x2 x4 = some o → ∀ ls : Array Slot, lv_has ls 5 [(0, va_rf x0), (1, va_rf x1), (2, .int x2), (4, .int x4)] → V p l e (rmo 6 221 S) s m args below meth c G S S (QM below args s G S S (some (.int rr))) (F0 m 15 ls []) := by
  intro n
  induction n with
  | zero => intro x0 x1 x2 x4 hr; cases hr
  | succ n ih =>
    intro x0 x1 x2 x4 hr ls hl
    unfold f_X10_isSpelled_15 at hr
    refine v_iload C (lv_at hl 3 rfl) dX10_isSpelled_15 ?_
    refine v_aload_n C (lv_at hl 0 rfl) rfl dX10_isSpelled_17 ?_
    obtain ⟨b18, f18, hr⟩ := ob hr
    obtain ⟨g18, h18⟩ := rcv_n f18
    obtain ⟨v18, e18, hr⟩ := ob hr
    refine v_callT C (b := b18) h18 rfl (k_strL e18) cw_J0_length_8abf5 w_753 w_754 w_755 (show (parseMethodDescriptor (yJ0_length_8abf5).desc).map (fun d => d.parameters.length) = some 0 by decide +kernel) ⟨by decide, by decide⟩ (rest := [.int x4]) (stk2 := [.int v18, .int x4]) (by rw [g18]; rfl) rfl (Nat.le_of_ble_eq_true rfl) hl dX10_isSpelled_18 ?_
    refine v_icmp_ge C 49 (by decide) dX10_isSpelled_21 (fun c21 => ?_) (fun c21 => ?_)
    · rw [if_pos c21] at hr
      refine v_iconst C 1 (by decide) dX10_isSpelled_49 ?_
      obtain rfl := os hr
      obtain rfl := kR _ rfl
      exact v_zret C rfl dX10_isSpelled_50
    · rw [if_neg c21] at hr
      refine v_aload_n C (lv_at hl 0 rfl) rfl dX10_isSpelled_24 ?_
      refine v_iload C (lv_at hl 3 rfl) dX10_isSpelled_25 ?_
      obtain ⟨b27, f27, hr⟩ := ob hr
      obtain ⟨g27, h27⟩ := rcv_n f27
      obtain ⟨v27, e27, hr⟩ := ob hr
      refine v_callT C (b := b27) h27 rfl (k_strC e27) cw_J0_charAt_5068e w_763 w_764 w_765 (show (parseMethodDescriptor (yJ0_charAt_5068e).desc).map (fun d => d.parameters.length) = some 1 by decide +kernel) ⟨by decide, by decide⟩ (rest := []) (stk2 := [.int v27]) (by rw [g27]; rfl) rfl (Nat.le_of_ble_eq_true rfl) hl dX10_isSpelled_27 ?_
      refine v_aload_n C (lv_at hl 1 rfl) rfl dX10_isSpelled_30 ?_
      refine v_iload_n C (lv_at hl 2 rfl) rfl dX10_isSpelled_31 ?_
      refine v_iload C (lv_at hl 3 rfl) dX10_isSpelled_32 ?_
      refine v_iadd C dX10_isSpelled_34 ?_
      obtain ⟨v35, e35, hr⟩ := ob hr
      refine v_callS C (k_X10_byteAt e35) cw_X10_byteAt w_714 w_715 (show (parseMethodDescriptor (yX10_byteAt).desc).map (fun d => d.parameters.length) = some 2 by decide +kernel) ⟨by decide, by decide⟩ (rest := [.int v27]) (stk2 := [.int v35, .int v27]) rfl rfl (Nat.le_of_ble_eq_true rfl) hl dX10_isSpelled_35 ?_
      refine v_icmp_eq C 43 (by decide) dX10_isSpelled_38 (fun c38 => ?_) (fun c38 => ?_)
      · rw [if_pos c38] at hr
        refine v_iinc C (x4 + 1) (k0 := 3) (lv' := [(4, .int (x4 + 1)), (0, va_rf x0), (1, va_rf x1), (2, .int x2)]) hl rfl rfl (by decide) rfl dX10_isSpelled_43 (fun ls hl => ?_)
        refine v_goto C 15 (by decide) dX10_isSpelled_46 ?_
        exact ih hr _ (lv_sub hl [1, 2, 3, 0] rfl)
      · rw [if_neg c38] at hr
        refine v_iconst C 0 (by decide) dX10_isSpelled_41 ?_
        obtain rfl := os hr
        obtain rfl := kR _ rfl
        exact v_zret C rfl dX10_isSpelled_42
theorem k_X10_isSpelled {l : Launch} {G : Ge} {S : St} {x0 : Option Nat} {x1 : Option Nat} {x2 : Int32} {x3 : Int32} {rr : Int32} (hr : f_X10_isSpelled S x0 x1 x2 x3 = some rr) : Ct l G yX10_isSpelled cX10_isSpelled 5 (Option.some Jvm.ClassFile.FieldType.boolean) S [va_rf x0, va_rf x1, .int x2, .int x3] (some (.int rr)) S 6 221 := by
  refine ct_of (by decide +kernel) (by cases x0 <;> cases x1 <;> exact Nat.le_of_ble_eq_true rfl) ?_
  intro p e s m args below meth c C ls hl
  have hl : lv_has ls 5 [(0, va_rf x0), (1, va_rf x1), (2, .int x2), (3, .int x3)] := by clear hr; cases x0 <;> cases x1 <;> exact hl
  unfold f_X10_isSpelled at hr
  refine v_aload_n C (lv_at hl 0 rfl) rfl dX10_isSpelled_0 ?_
  obtain ⟨b1, f1, hr⟩ := ob hr
  obtain ⟨g1, h1⟩ := rcv_n f1
  obtain ⟨v1, e1, hr⟩ := ob hr
  refine v_callT C (b := b1) h1 rfl (k_strL e1) cw_J0_length_8abf5 w_753 w_754 w_755 (show (parseMethodDescriptor (yJ0_length_8abf5).desc).map (fun d => d.parameters.length) = some 0 by decide +kernel) ⟨by decide, by decide⟩ (rest := []) (stk2 := [.int v1]) (by rw [g1]; rfl) rfl (Nat.le_of_ble_eq_true rfl) hl dX10_isSpelled_1 ?_
  refine v_iload_n C (lv_at hl 3 rfl) rfl dX10_isSpelled_4 ?_
  refine v_iload_n C (lv_at hl 2 rfl) rfl dX10_isSpelled_5 ?_
  refine v_isub C dX10_isSpelled_6 ?_
  refine v_icmp_eq C 12 (by decide) dX10_isSpelled_7 (fun c7 => ?_) (fun c7 => ?_)
  · rw [if_pos c7] at hr
    refine v_iconst C 0 (by decide) dX10_isSpelled_12 ?_
    refine v_istore C (i := 4) (lv' := [(4, .int 0), (0, va_rf x0), (1, va_rf x1), (2, .int x2), (3, .int x3)]) hl (by decide) rfl dX10_isSpelled_13 (fun ls hl => ?_)
    exact b_X10_isSpelled_15 C (fun _ q => by cases q; rfl) FU hr _ (lv_sub hl [1, 2, 3, 0] rfl)
  · rw [if_neg c7] at hr
    refine v_iconst C 0 (by decide) dX10_isSpelled_10 ?_
    obtain rfl := os hr
    exact v_zret C rfl dX10_isSpelled_11
-- X10_spelling
def f_X10_spelling (S : St) (x0 : Int32) : Option (Option Nat) :=
    (if x0 = 3 then
    some (some (lit S 0))
    else
    (if x0 = 4 then
    some (some (lit S 1))
    else
    (if x0 = 5 then
    some (some (lit S 2))
    else
    (if x0 = 6 then
    some (some (lit S 3))
    else
    (if x0 = 7 then
    some (some (lit S 4))
    else
    (if x0 = 8 then
    some (some (lit S 5))
    else
    (if x0 = 9 then
    some (some (lit S 6))
    else
    (if x0 = 10 then
    some (some (lit S 7))
    else
    (if x0 = 11 then
    some (some (lit S 8))
    else
    (if x0 = 12 then
    some (some (lit S 9))
    else
    (if x0 = 13 then
    some (some (lit S 10))
    else
    (if x0 = 14 then
    some (some (lit S 11))
    else
    (if x0 = 15 then
    some (some (lit S 12))
    else
    (if x0 = 16 then
    some (some (lit S 13))
    else
    some (some (lit S 14))))))))))))))))
theorem k_X10_spelling {l : Launch} {G : Ge} {S : St} {x0 : Int32} {rr : Option Nat} (hr : f_X10_spelling S x0 = some rr) : Ct l G yX10_spelling cX10_spelling 1 (Option.some (Jvm.ClassFile.FieldType.object "java/lang/String")) S [.int x0] (some (va_rf rr)) S 0 0 := by
  refine ct_of (by decide +kernel) (Nat.le_of_ble_eq_true rfl) ?_
  intro p e s m args below meth c C ls hl
  have hl : lv_has ls 1 [(0, .int x0)] := hl
  unfold f_X10_spelling at hr
  refine v_iload_n C (lv_at hl 0 rfl) rfl dX10_spelling_0 ?_
  by_cases q1_3 : x0 = 3
  · rw [if_pos q1_3] at hr
    refine v_tableIn C (off := 71) 72 (by rw [q1_3]; decide) (by rw [q1_3]; decide) (by rw [q1_3]; decide) (by decide) dX10_spelling_1 ?_
    refine v_ldcS C (tx := "sleep") (i := 0) (by decide) dX10_spelling_72 ?_
    obtain rfl := os hr
    exact v_aret C (Or.inl ⟨_, rfl⟩) dX10_spelling_74
  rw [if_neg q1_3] at hr
  by_cases q1_4 : x0 = 4
  · rw [if_pos q1_4] at hr
    refine v_tableIn C (off := 74) 75 (by rw [q1_4]; decide) (by rw [q1_4]; decide) (by rw [q1_4]; decide) (by decide) dX10_spelling_1 ?_
    refine v_ldcS C (tx := "act") (i := 1) (by decide) dX10_spelling_75 ?_
    obtain rfl := os hr
    exact v_aret C (Or.inl ⟨_, rfl⟩) dX10_spelling_77
  rw [if_neg q1_4] at hr
  by_cases q1_5 : x0 = 5
  · rw [if_pos q1_5] at hr
    refine v_tableIn C (off := 77) 78 (by rw [q1_5]; decide) (by rw [q1_5]; decide) (by rw [q1_5]; decide) (by decide) dX10_spelling_1 ?_
    refine v_ldcS C (tx := "letter") (i := 2) (by decide) dX10_spelling_78 ?_
    obtain rfl := os hr
    exact v_aret C (Or.inl ⟨_, rfl⟩) dX10_spelling_80
  rw [if_neg q1_5] at hr
  by_cases q1_6 : x0 = 6
  · rw [if_pos q1_6] at hr
    refine v_tableIn C (off := 80) 81 (by rw [q1_6]; decide) (by rw [q1_6]; decide) (by rw [q1_6]; decide) (by decide) dX10_spelling_1 ?_
    refine v_ldcS C (tx := "fee") (i := 3) (by decide) dX10_spelling_81 ?_
    obtain rfl := os hr
    exact v_aret C (Or.inl ⟨_, rfl⟩) dX10_spelling_83
  rw [if_neg q1_6] at hr
  by_cases q1_7 : x0 = 7
  · rw [if_pos q1_7] at hr
    refine v_tableIn C (off := 83) 84 (by rw [q1_7]; decide) (by rw [q1_7]; decide) (by rw [q1_7]; decide) (by decide) dX10_spelling_1 ?_
    refine v_ldcS C (tx := "interest") (i := 4) (by decide) dX10_spelling_84 ?_
    obtain rfl := os hr
    exact v_aret C (Or.inl ⟨_, rfl⟩) dX10_spelling_86
  rw [if_neg q1_7] at hr
  by_cases q1_8 : x0 = 8
  · rw [if_pos q1_8] at hr
    refine v_tableIn C (off := 86) 87 (by rw [q1_8]; decide) (by rw [q1_8]; decide) (by rw [q1_8]; decide) (by decide) dX10_spelling_1 ?_
    refine v_ldcS C (tx := "proof") (i := 5) (by decide) dX10_spelling_87 ?_
    obtain rfl := os hr
    exact v_aret C (Or.inl ⟨_, rfl⟩) dX10_spelling_89
  rw [if_neg q1_8] at hr
  by_cases q1_9 : x0 = 9
  · rw [if_pos q1_9] at hr
    refine v_tableIn C (off := 89) 90 (by rw [q1_9]; decide) (by rw [q1_9]; decide) (by rw [q1_9]; decide) (by decide) dX10_spelling_1 ?_
    refine v_ldcS C (tx := "when") (i := 6) (by decide) dX10_spelling_90 ?_
    obtain rfl := os hr
    exact v_aret C (Or.inl ⟨_, rfl⟩) dX10_spelling_92
  rw [if_neg q1_9] at hr
  by_cases q1_10 : x0 = 10
  · rw [if_pos q1_10] at hr
    refine v_tableIn C (off := 92) 93 (by rw [q1_10]; decide) (by rw [q1_10]; decide) (by rw [q1_10]; decide) (by decide) dX10_spelling_1 ?_
    refine v_ldcS C (tx := "sum") (i := 7) (by decide) dX10_spelling_93 ?_
    obtain rfl := os hr
    exact v_aret C (Or.inl ⟨_, rfl⟩) dX10_spelling_95
  rw [if_neg q1_10] at hr
  by_cases q1_11 : x0 = 11
  · rw [if_pos q1_11] at hr
    refine v_tableIn C (off := 95) 96 (by rw [q1_11]; decide) (by rw [q1_11]; decide) (by rw [q1_11]; decide) (by decide) dX10_spelling_1 ?_
    refine v_ldcS C (tx := "years") (i := 8) (by decide) dX10_spelling_96 ?_
    obtain rfl := os hr
    exact v_aret C (Or.inl ⟨_, rfl⟩) dX10_spelling_98
  rw [if_neg q1_11] at hr
  by_cases q1_12 : x0 = 12
  · rw [if_pos q1_12] at hr
    refine v_tableIn C (off := 98) 99 (by rw [q1_12]; decide) (by rw [q1_12]; decide) (by rw [q1_12]; decide) (by decide) dX10_spelling_1 ?_
    refine v_ldcS C (tx := "kind") (i := 9) (by decide) dX10_spelling_99 ?_
    obtain rfl := os hr
    exact v_aret C (Or.inl ⟨_, rfl⟩) dX10_spelling_101
  rw [if_neg q1_12] at hr
  by_cases q1_13 : x0 = 13
  · rw [if_pos q1_13] at hr
    refine v_tableIn C (off := 101) 102 (by rw [q1_13]; decide) (by rw [q1_13]; decide) (by rw [q1_13]; decide) (by decide) dX10_spelling_1 ?_
    refine v_ldcS C (tx := "heirs") (i := 10) (by decide) dX10_spelling_102 ?_
    obtain rfl := os hr
    exact v_aret C (Or.inl ⟨_, rfl⟩) dX10_spelling_104
  rw [if_neg q1_13] at hr
  by_cases q1_14 : x0 = 14
  · rw [if_pos q1_14] at hr
    refine v_tableIn C (off := 104) 105 (by rw [q1_14]; decide) (by rw [q1_14]; decide) (by rw [q1_14]; decide) (by decide) dX10_spelling_1 ?_
    refine v_ldcS C (tx := "or") (i := 11) (by decide) dX10_spelling_105 ?_
    obtain rfl := os hr
    exact v_aret C (Or.inl ⟨_, rfl⟩) dX10_spelling_107
  rw [if_neg q1_14] at hr
  by_cases q1_15 : x0 = 15
  · rw [if_pos q1_15] at hr
    refine v_tableIn C (off := 107) 108 (by rw [q1_15]; decide) (by rw [q1_15]; decide) (by rw [q1_15]; decide) (by decide) dX10_spelling_1 ?_
    refine v_ldcS C (tx := "and") (i := 12) (by decide) dX10_spelling_108 ?_
    obtain rfl := os hr
    exact v_aret C (Or.inl ⟨_, rfl⟩) dX10_spelling_110
  rw [if_neg q1_15] at hr
  by_cases q1_16 : x0 = 16
  · rw [if_pos q1_16] at hr
    refine v_tableIn C (off := 110) 111 (by rw [q1_16]; decide) (by rw [q1_16]; decide) (by rw [q1_16]; decide) (by decide) dX10_spelling_1 ?_
    refine v_ldcS C (tx := "not") (i := 13) (by decide) dX10_spelling_111 ?_
    obtain rfl := os hr
    exact v_aret C (Or.inl ⟨_, rfl⟩) dX10_spelling_113
  rw [if_neg q1_16] at hr
  have kd1 : V p l e (rmo 0 0 S) s m args below meth c G S S (QM below args s G S S (some (va_rf rr))) (F0 m 114 ls []) := by
    refine v_ldcS C (tx := "") (i := 14) (by decide) dX10_spelling_114 ?_
    obtain rfl := os hr
    exact v_aret C (Or.inl ⟨_, rfl⟩) dX10_spelling_116
  have z0 := lv_neT q1_3 (a := 3) (by decide)
  have z1 := lv_neT q1_4 (a := 4) (by decide)
  have z2 := lv_neT q1_5 (a := 5) (by decide)
  have z3 := lv_neT q1_6 (a := 6) (by decide)
  have z4 := lv_neT q1_7 (a := 7) (by decide)
  have z5 := lv_neT q1_8 (a := 8) (by decide)
  have z6 := lv_neT q1_9 (a := 9) (by decide)
  have z7 := lv_neT q1_10 (a := 10) (by decide)
  have z8 := lv_neT q1_11 (a := 11) (by decide)
  have z9 := lv_neT q1_12 (a := 12) (by decide)
  have z10 := lv_neT q1_13 (a := 13) (by decide)
  have z11 := lv_neT q1_14 (a := 14) (by decide)
  have z12 := lv_neT q1_15 (a := 15) (by decide)
  have z13 := lv_neT q1_16 (a := 16) (by decide)
  exact v_tableOut C 114 (by omega) (by decide) dX10_spelling_1 kd1
-- X10_keyword
def f_X10_keyword_2 : Nat → St → (Option Nat) → Int32 → Int32 → Int32 → Option (Int32)
  | 0, _, _, _, _, _ => none
  | n + 1, S, x0, x1, x2, x3 =>
    (if (16 : Int32) < x3 then
    some 1
    else
    (f_X10_spelling S x3).bind fun v9 =>
    (f_X10_isSpelled S v9 x0 x1 x2).bind fun v15 =>
    (if v15 = 0 then
    f_X10_keyword_2 n S x0 x1 x2 (x3 + 1)
    else
    some x3))
def f_X10_keyword (S : St) (x0 : Option Nat) (x1 : Int32) (x2 : Int32) : Option Int32 :=
    f_X10_keyword_2 FU S x0 x1 x2 3
theorem b_X10_keyword_2  {S : St} {rr : Int32} (C : Cx p s m args meth c G S yX10_keyword cX10_keyword 4 (Option.some Jvm.ClassFile.FieldType.int)) {o : (Int32)} (kR : ∀ (v : Int32), o = v → rr = v) : ∀ (n : Nat) {x0 : Option Nat} {x1 : Int32} {x2 : Int32} {x3 : Int32}, f_X10_keyword_2 n S x0 x1 x2 x3 = some o → ∀ ls : Array Slot, lv_has ls 4 [(0, va_rf x0), (1, .int x1), (2, .int x2), (3, .int x3)] → V p l e (rmo 7 245 S) s m args below meth c G S S (QM below args s G S S (some (.int rr))) (F0 m 2 ls []) := by
  intro n
  induction n with
  | zero => intro x0 x1 x2 x3 hr; cases hr
  | succ n ih =>
    intro x0 x1 x2 x3 hr ls hl
    unfold f_X10_keyword_2 at hr
    refine v_iload_n C (lv_at hl 3 rfl) rfl dX10_keyword_2 ?_
    refine v_bipush C 16 (by decide) dX10_keyword_3 ?_
    refine v_icmp_gt C 29 (by decide) dX10_keyword_5 (fun c5 => ?_) (fun c5 => ?_)
    · rw [if_pos c5] at hr
      refine v_iconst C 1 (by decide) dX10_keyword_29 ?_
      obtain rfl := os hr
      obtain rfl := kR _ rfl
      exact v_iret C dX10_keyword_30
    · rw [if_neg c5] at hr
      refine v_iload_n C (lv_at hl 3 rfl) rfl dX10_keyword_8 ?_
      obtain ⟨v9, e9, hr⟩ := ob hr
      refine v_callS C (k_X10_spelling e9) cw_X10_spelling w_732 w_733 (show (parseMethodDescriptor (yX10_spelling).desc).map (fun d => d.parameters.length) = some 1 by decide +kernel) ⟨by decide, by decide⟩ (rest := []) (stk2 := [va_rf v9]) rfl rfl (Nat.le_of_ble_eq_true rfl) hl dX10_keyword_9 ?_
      refine v_aload_n C (lv_at hl 0 rfl) rfl dX10_keyword_12 ?_
      refine v_iload_n C (lv_at hl 1 rfl) rfl dX10_keyword_13 ?_
      refine v_iload_n C (lv_at hl 2 rfl) rfl dX10_keyword_14 ?_
      obtain ⟨v15, e15, hr⟩ := ob hr
      refine v_callS C (k_X10_isSpelled e15) cw_X10_isSpelled w_750 w_751 (show (parseMethodDescriptor (yX10_isSpelled).desc).map (fun d => d.parameters.length) = some 4 by decide +kernel) ⟨by decide, by decide⟩ (rest := []) (stk2 := [.int v15]) rfl rfl (Nat.le_of_ble_eq_true rfl) hl dX10_keyword_15 ?_
      refine v_if_eq C 23 (by decide) dX10_keyword_18 (fun c18 => ?_) (fun c18 => ?_)
      · rw [if_pos c18] at hr
        refine v_iinc C (x3 + 1) (k0 := 3) (lv' := [(3, .int (x3 + 1)), (0, va_rf x0), (1, .int x1), (2, .int x2)]) hl rfl rfl (by decide) rfl dX10_keyword_23 (fun ls hl => ?_)
        refine v_goto C 2 (by decide) dX10_keyword_26 ?_
        exact ih hr _ (lv_sub hl [1, 2, 3, 0] rfl)
      · rw [if_neg c18] at hr
        refine v_iload_n C (lv_at hl 3 rfl) rfl dX10_keyword_21 ?_
        obtain rfl := os hr
        obtain rfl := kR _ rfl
        exact v_iret C dX10_keyword_22
theorem k_X10_keyword {l : Launch} {G : Ge} {S : St} {x0 : Option Nat} {x1 : Int32} {x2 : Int32} {rr : Int32} (hr : f_X10_keyword S x0 x1 x2 = some rr) : Ct l G yX10_keyword cX10_keyword 4 (Option.some Jvm.ClassFile.FieldType.int) S [va_rf x0, .int x1, .int x2] (some (.int rr)) S 7 245 := by
  refine ct_of (by decide +kernel) (by cases x0 <;> exact Nat.le_of_ble_eq_true rfl) ?_
  intro p e s m args below meth c C ls hl
  have hl : lv_has ls 4 [(0, va_rf x0), (1, .int x1), (2, .int x2)] := by clear hr; cases x0 <;> exact hl
  unfold f_X10_keyword at hr
  refine v_iconst C 3 (by decide) dX10_keyword_0 ?_
  refine v_istore_n C (i := 3) (lv' := [(3, .int 3), (0, va_rf x0), (1, .int x1), (2, .int x2)]) hl rfl (by decide) rfl dX10_keyword_1 (fun ls hl => ?_)
  exact b_X10_keyword_2 C (fun _ q => by cases q; rfl) FU hr _ (lv_sub hl [1, 2, 3, 0] rfl)
end Mth
