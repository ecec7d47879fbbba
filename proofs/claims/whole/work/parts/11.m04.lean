section Mth
variable {p : Program} {l : Launch} {e : Env} {s : State} {m : MethodId} {args : Array Value} {below : List Frame} {meth : Method} {c : Code} {G : Ge}
-- X11_countHeld
def f_X11_countHeld_4 : Nat → St → Nat → Int32 → Int32 → Option (Int32)
  | 0, _, _, _, _ => none
  | n + 1, S, x0, x1, x2 =>
    (getR S (some x0) 12 3).bind fun v6 =>
    (rcv S v6 0).bind fun b9 =>
    (f_Jx4a65c_size_8abf5 S b9).bind fun v9 =>
    (if v9 ≤ x2 then
    some x1
    else
    (getR S (some x0) 12 3).bind fun v16 =>
    (rcv S v16 0).bind fun b20 =>
    (f_Jx4a65c_get_915e3 S b20 x2).bind fun v20 =>
    (castO S v20 1).bind fun v23 =>
    (rcv S v23 1).bind fun b26 =>
    (f_X0_isHeld S b26).bind fun v26 =>
    (if v26 = 0 then
    f_X11_countHeld_4 n S x0 x1 (x2 + 1)
    else
    f_X11_countHeld_4 n S x0 (x1 + 1) (x2 + 1)))
def f_X11_countHeld (S : St) (x0 : Nat) : Option Int32 :=
    f_X11_countHeld_4 FU S x0 0 0
theorem b_X11_countHeld_4  {S : St} {rr : Int32} (C : Cx p s m args meth c G S yX11_countHeld cX11_countHeld 3 (Option.some Jvm.ClassFile.FieldType.int)) {o : (Int32)} (kR : ∀ (v : Int32), o = v → rr = v) : ∀ (n : Nat) {x0 : Nat} {x1 : Int32} {x2 : Int32}, f_X11_countHeld_4 n S x0 x1 x2 = some o → ∀ ls : Array Slot, lv_has ls 3 [(0, va_rf (some x0)), (1, .int x1), (2, .int x2)] → V p l e (rmo 3 64 S) s m args below meth c G S S (QM below args s G S S (some (.int rr))) (F0 m 4 ls []) := by
  intro n
  induction n with
  | zero => intro x0 x1 x2 hr; cases hr
  | succ n ih =>
    intro x0 x1 x2 hr ls hl
    unfold f_X11_countHeld_4 at hr
    refine v_iload_n C (lv_at hl 2 rfl) rfl dX11_countHeld_4 ?_
    refine v_aload_n C (lv_at hl 0 rfl) rfl dX11_countHeld_5 ?_
    obtain ⟨v6, e6, hr⟩ := ob hr
    refine v_getR C fl_RX11_23 rfl e6 dX11_countHeld_6 ?_
    obtain ⟨b9, f9, hr⟩ := ob hr
    obtain ⟨g9, h9⟩ := rcv_n f9
    obtain ⟨v9, e9, hr⟩ := ob hr
    refine v_callV C (b := b9) h9 (by decide) rfl rfl (k_Jx4a65c_size_8abf5 e9) cw_Jx4a65c_size_8abf5 w_352 w_353 w_354 (show (parseMethodDescriptor (yJx4a65c_size_8abf5).desc).map (fun d => d.parameters.length) = some 0 by decide +kernel) ⟨by decide, by decide⟩ (rest := [.int x2]) (stk2 := [.int v9, .int x2]) (by rw [g9]; rfl) rfl (Nat.le_of_ble_eq_true rfl) hl dX11_countHeld_9 ?_
    refine v_icmp_ge C 41 (by decide) dX11_countHeld_12 (fun c12 => ?_) (fun c12 => ?_)
    · rw [if_pos c12] at hr
      refine v_iload_n C (lv_at hl 1 rfl) rfl dX11_countHeld_41 ?_
      obtain rfl := os hr
      obtain rfl := kR _ rfl
      exact v_iret C dX11_countHeld_42
    · rw [if_neg c12] at hr
      refine v_aload_n C (lv_at hl 0 rfl) rfl dX11_countHeld_15 ?_
      obtain ⟨v16, e16, hr⟩ := ob hr
      refine v_getR C fl_RX11_23 rfl e16 dX11_countHeld_16 ?_
      refine v_iload_n C (lv_at hl 2 rfl) rfl dX11_countHeld_19 ?_
      obtain ⟨b20, f20, hr⟩ := ob hr
      obtain ⟨g20, h20⟩ := rcv_n f20
      obtain ⟨v20, e20, hr⟩ := ob hr
      refine v_callV C (b := b20) h20 (by decide) rfl rfl (k_Jx4a65c_get_915e3 e20) cw_Jx4a65c_get_915e3 w_449 w_450 w_451 (show (parseMethodDescriptor (yJx4a65c_get_915e3).desc).map (fun d => d.parameters.length) = some 1 by decide +kernel) ⟨by decide, by decide⟩ (rest := []) (stk2 := [va_rf v20]) (by rw [g20]; rfl) rfl (Nat.le_of_ble_eq_true rfl) hl dX11_countHeld_20 ?_
      obtain ⟨v23, e23, hr⟩ := ob hr
      refine v_cast C e23 (by decide) rfl w_550 dX11_countHeld_23 ?_
      obtain ⟨b26, f26, hr⟩ := ob hr
      obtain ⟨g26, h26⟩ := rcv_n f26
      obtain ⟨v26, e26, hr⟩ := ob hr
      refine v_callV C (b := b26) h26 (by decide) rfl rfl (k_X0_isHeld e26) cw_X0_isHeld w_962 w_963 w_964 (show (parseMethodDescriptor (yX0_isHeld).desc).map (fun d => d.parameters.length) = some 0 by decide +kernel) ⟨by decide, by decide⟩ (rest := []) (stk2 := [.int v26]) (by rw [g26]; rfl) rfl (Nat.le_of_ble_eq_true rfl) hl dX11_countHeld_26 ?_
      refine v_if_eq C 35 (by decide) dX11_countHeld_29 (fun c29 => ?_) (fun c29 => ?_)
      · rw [if_pos c29] at hr
        refine v_iinc C (x2 + 1) (k0 := 2) (lv' := [(2, .int (x2 + 1)), (0, va_rf (some x0)), (1, .int x1)]) hl rfl rfl (by decide) rfl dX11_countHeld_35 (fun ls hl => ?_)
        refine v_goto C 4 (by decide) dX11_countHeld_38 ?_
        exact ih hr _ (lv_sub hl [1, 2, 0] rfl)
      · rw [if_neg c29] at hr
        refine v_iinc C (x1 + 1) (k0 := 1) (lv' := [(1, .int (x1 + 1)), (0, va_rf (some x0)), (2, .int x2)]) hl rfl rfl (by decide) rfl dX11_countHeld_32 (fun ls hl => ?_)
        refine v_iinc C (x2 + 1) (k0 := 2) (lv' := [(2, .int (x2 + 1)), (1, .int (x1 + 1)), (0, va_rf (some x0))]) hl rfl rfl (by decide) rfl dX11_countHeld_35 (fun ls hl => ?_)
        refine v_goto C 4 (by decide) dX11_countHeld_38 ?_
        exact ih hr _ (lv_sub hl [2, 1, 0] rfl)
theorem k_X11_countHeld {l : Launch} {G : Ge} {S : St} {x0 : Nat} {rr : Int32} (hr : f_X11_countHeld S x0 = some rr) : Ct l G yX11_countHeld cX11_countHeld 3 (Option.some Jvm.ClassFile.FieldType.int) S [va_rf (some x0)] (some (.int rr)) S 3 64 := by
  refine ct_of (by decide +kernel) (Nat.le_of_ble_eq_true rfl) ?_
  intro p e s m args below meth c C ls hl
  have hl : lv_has ls 3 [(0, va_rf (some x0))] := hl
  unfold f_X11_countHeld at hr
  refine v_iconst C 0 (by decide) dX11_countHeld_0 ?_
  refine v_istore_n C (i := 1) (lv' := [(1, .int 0), (0, va_rf (some x0))]) hl rfl (by decide) rfl dX11_countHeld_1 (fun ls hl => ?_)
  refine v_iconst C 0 (by decide) dX11_countHeld_2 ?_
  refine v_istore_n C (i := 2) (lv' := [(2, .int 0), (1, .int 0), (0, va_rf (some x0))]) hl rfl (by decide) rfl dX11_countHeld_3 (fun ls hl => ?_)
  exact b_X11_countHeld_4 C (fun _ q => by cases q; rfl) FU hr _ (lv_sub hl [2, 1, 0] rfl)
-- X11_countLines
def f_X11_countLines_2 : Nat → St → Nat → Int32 → Option (Nat × St)
  | 0, _, _, _ => none
  | n + 1, S, x0, x1 =>
    (getR S (some x0) 12 2).bind fun v4 =>
    (rcv S v4 0).bind fun b7 =>
    (f_Jx4a65c_size_8abf5 S b7).bind fun v7 =>
    (if v7 ≤ x1 then
    some (x0, S)
    else
    (getR S (some x0) 12 2).bind fun v14 =>
    (rcv S v14 0).bind fun b18 =>
    (f_Jx4a65c_get_915e3 S b18 x1).bind fun v18 =>
    (castO S v18 9).bind fun v21 =>
    (putI S v21 9 7 0).bind fun S25 =>
    f_X11_countLines_2 n S25 x0 (x1 + 1))
def f_X11_countLines_92 (rec : St → Nat → Int32 → Option (St)) (S : St) (x0 : Nat) (x1 : Int32) (x2 : Option Nat) : Option (St) :=
    (getR S x2 9 4).bind fun v93 =>
    (getI S v93 9 7).bind fun v97 =>
    (putI S v93 9 7 (v97 + 1)).bind fun S102 =>
    rec S102 x0 (x1 + (-1))
def f_X11_countLines_44 : Nat → St → Nat → Int32 → Option (St)
  | 0, _, _, _ => none
  | n + 1, S, x0, x1 =>
    (if x1 < 0 then
    some S
    else
    (getR S (some x0) 12 2).bind fun v50 =>
    (rcv S v50 0).bind fun b53 =>
    (f_Jx4a65c_size_8abf5 S b53).bind fun v53 =>
    (if v53 ≤ x1 then
    some S
    else
    (getR S (some x0) 12 2).bind fun v60 =>
    (rcv S v60 0).bind fun b64 =>
    (f_Jx4a65c_get_915e3 S b64 x1).bind fun v64 =>
    (castO S v64 9).bind fun v67 =>
    (getR S v67 9 4).bind fun v72 =>
    (if v72 = none then
    f_X11_countLines_44 n S x0 (x1 + (-1))
    else
    (rcv S v67 9).bind fun b79 =>
    (f_X8_lives S b79).bind fun v79 =>
    (if v79 = 0 then
    (getI S v67 9 7).bind fun v86 =>
    (if v86 ≤ 0 then
    f_X11_countLines_44 n S x0 (x1 + (-1))
    else
    f_X11_countLines_92 (f_X11_countLines_44 n) S x0 x1 v67)
    else
    f_X11_countLines_92 (f_X11_countLines_44 n) S x0 x1 v67))))
def f_X11_countLines (S : St) (x0 : Nat) : Option St :=
    (f_X11_countLines_2 FU S x0 0).bind fun (x0, S_2) => (getR S_2 (some x0) 12 2).bind fun v35 =>
    (rcv S_2 v35 0).bind fun b38 =>
    (f_Jx4a65c_size_8abf5 S_2 b38).bind fun v38 =>
    f_X11_countLines_44 FU S_2 x0 (v38 - 1)
theorem b_X11_countLines_2  {S0 S' : St} (C : Cx p s m args meth c G S0 yX11_countLines cX11_countLines 3 (Option.none : Option Jvm.ClassFile.FieldType)) {o : (Nat × St)} (kX34 : ∀ {x0 : Nat} {Z : St}, o = (x0, Z) → ∀ ls : Array Slot, lv_has ls 3 [(0, va_rf (some x0))] → V p l e (rmo 3 64 S0) s m args below meth c G S0 Z (QM below args s G S0 S' none) (F0 m 34 ls [])) : ∀ (n : Nat) {S : St} {x0 : Nat} {x1 : Int32}, f_X11_countLines_2 n S x0 x1 = some o → ∀ ls : Array Slot, lv_has ls 3 [(0, va_rf (some x0)), (1, .int x1)] → V p l e (rmo 3 64 S0) s m args below meth c G S0 S (QM below args s G S0 S' none) (F0 m 2 ls []) := by
  intro n
  induction n with
  | zero => intro S x0 x1 hr; cases hr
  | succ n ih =>
    intro S x0 x1 hr ls hl
    unfold f_X11_countLines_2 at hr
    refine v_iload_n C (lv_at hl 1 rfl) rfl dX11_countLines_2 ?_
    refine v_aload_n C (lv_at hl 0 rfl) rfl dX11_countLines_3 ?_
    obtain ⟨v4, e4, hr⟩ := ob hr
    refine v_getR C fl_RX11_20 rfl e4 dX11_countLines_4 ?_
    obtain ⟨b7, f7, hr⟩ := ob hr
    obtain ⟨g7, h7⟩ := rcv_n f7
    obtain ⟨v7, e7, hr⟩ := ob hr
    refine v_callV C (b := b7) h7 (by decide) rfl rfl (k_Jx4a65c_size_8abf5 e7) cw_Jx4a65c_size_8abf5 w_352 w_353 w_354 (show (parseMethodDescriptor (yJx4a65c_size_8abf5).desc).map (fun d => d.parameters.length) = some 0 by decide +kernel) ⟨by decide, by decide⟩ (rest := [.int x1]) (stk2 := [.int v7, .int x1]) (by rw [g7]; rfl) rfl (Nat.le_of_ble_eq_true rfl) hl dX11_countLines_7 ?_
    refine v_icmp_ge C 34 (by decide) dX11_countLines_10 (fun c10 => ?_) (fun c10 => ?_)
    · rw [if_pos c10] at hr
      obtain rfl := os hr
      exact kX34 rfl _ (lv_sub hl [0] rfl)
    · rw [if_neg c10] at hr
      refine v_aload_n C (lv_at hl 0 rfl) rfl dX11_countLines_13 ?_
      obtain ⟨v14, e14, hr⟩ := ob hr
      refine v_getR C fl_RX11_20 rfl e14 dX11_countLines_14 ?_
      refine v_iload_n C (lv_at hl 1 rfl) rfl dX11_countLines_17 ?_
      obtain ⟨b18, f18, hr⟩ := ob hr
      obtain ⟨g18, h18⟩ := rcv_n f18
      obtain ⟨v18, e18, hr⟩ := ob hr
      refine v_callV C (b := b18) h18 (by decide) rfl rfl (k_Jx4a65c_get_915e3 e18) cw_Jx4a65c_get_915e3 w_449 w_450 w_451 (show (parseMethodDescriptor (yJx4a65c_get_915e3).desc).map (fun d => d.parameters.length) = some 1 by decide +kernel) ⟨by decide, by decide⟩ (rest := []) (stk2 := [va_rf v18]) (by rw [g18]; rfl) rfl (Nat.le_of_ble_eq_true rfl) hl dX11_countLines_18 ?_
      obtain ⟨v21, e21, hr⟩ := ob hr
      refine v_cast C e21 (by decide) rfl w_490 dX11_countLines_21 ?_
      refine v_iconst C 0 (by decide) dX11_countLines_24 ?_
      obtain ⟨S25, e25, hr⟩ := ob hr
      refine v_putI C fl_RX11_369 (Or.inl rfl) rfl e25 dX11_countLines_25 ?_
      refine v_iinc C (x1 + 1) (k0 := 1) (lv' := [(1, .int (x1 + 1)), (0, va_rf (some x0))]) hl rfl rfl (by decide) rfl dX11_countLines_28 (fun ls hl => ?_)
      refine v_goto C 2 (by decide) dX11_countLines_31 ?_
      exact ih hr _ (lv_sub hl [1, 0] rfl)
theorem b_X11_countLines_92  {S0 S S' : St} {x0 : Nat} {x1 : Int32} {x2 : Option Nat} (C : Cx p s m args meth c G S0 yX11_countLines cX11_countLines 3 (Option.none : Option Jvm.ClassFile.FieldType)) {o : (St)} {rec : St → Nat → Int32 → Option (St)} (kR : ∀ (Z : St), o = Z → S' = Z) (ihk : ∀ {S : St} {x0 : Nat} {x1 : Int32}, rec S x0 x1 = some o → ∀ ls : Array Slot, lv_has ls 3 [(0, va_rf (some x0)), (1, .int x1)] → V p l e (rmo 3 64 S0) s m args below meth c G S0 S (QM below args s G S0 S' none) (F0 m 44 ls [])) (hr : f_X11_countLines_92 rec S x0 x1 x2 = some o) : ∀ ls : Array Slot, lv_has ls 3 [(0, va_rf (some x0)), (1, .int x1), (2, va_rf x2)] → V p l e (rmo 3 64 S0) s m args below meth c G S0 S (QM below args s G S0 S' none) (F0 m 92 ls []) := by
  intro ls hl
  unfold f_X11_countLines_92 at hr
  refine v_aload_n C (lv_at hl 2 rfl) rfl dX11_countLines_92 ?_
  obtain ⟨v93, e93, hr⟩ := ob hr
  refine v_getR C fl_RX11_370 rfl e93 dX11_countLines_93 ?_
  refine v_dup C (rf_cat _) dX11_countLines_96 ?_
  obtain ⟨v97, e97, hr⟩ := ob hr
  refine v_getI C fl_RX11_369 rfl e97 dX11_countLines_97 ?_
  refine v_iconst C 1 (by decide) dX11_countLines_100 ?_
  refine v_iadd C dX11_countLines_101 ?_
  obtain ⟨S102, e102, hr⟩ := ob hr
  refine v_putI C fl_RX11_369 (Or.inl rfl) rfl e102 dX11_countLines_102 ?_
  refine v_iinc C (x1 + (-1)) (k0 := 1) (lv' := [(1, .int (x1 + (-1))), (0, va_rf (some x0)), (2, va_rf x2)]) hl rfl (congrArg (fun z => x1 + z) (show Int32.ofInt (-1) = (-1) by decide)) (by decide) rfl dX11_countLines_105 (fun ls hl => ?_)
  refine v_goto C 44 (by decide) dX11_countLines_108 ?_
  exact ihk hr _ (lv_sub hl [1, 0] rfl)
theorem b_X11_countLines_44  {S0 S' : St} (C : Cx p s m args meth c G S0 yX11_countLines cX11_countLines 3 (Option.none : Option Jvm.ClassFile.FieldType)) {o : (St)} (kR : ∀ (Z : St), o = Z → S' = Z) : ∀ (n : Nat) {S : St} {x0 : Nat} {x1 : Int32}, f_X11_countLines_44 n S x0 x1 = some o → ∀ ls : Array Slot, lv_has ls 3 [(0, va_rf (some x0)), (1, .int x1)] → V p l e (rmo 3 64 S0) s m args below meth c G S0 S (QM below args s G S0 S' none) (F0 m 44 ls []) := by
  intro n
  induction n with
  | zero => intro S x0 x1 hr; cases hr
  | succ n ih =>
    intro S x0 x1 hr ls hl
    unfold f_X11_countLines_44 at hr
    refine v_iload_n C (lv_at hl 1 rfl) rfl dX11_countLines_44 ?_
    refine v_if_lt C 111 (by decide) dX11_countLines_45 (fun c45 => ?_) (fun c45 => ?_)
    · rw [if_pos c45] at hr
      obtain rfl := os hr
      obtain rfl := kR _ rfl
      exact v_vret C dX11_countLines_111
    · rw [if_neg c45] at hr
      refine v_iload_n C (lv_at hl 1 rfl) rfl dX11_countLines_48 ?_
      refine v_aload_n C (lv_at hl 0 rfl) rfl dX11_countLines_49 ?_
      obtain ⟨v50, e50, hr⟩ := ob hr
      refine v_getR C fl_RX11_20 rfl e50 dX11_countLines_50 ?_
      obtain ⟨b53, f53, hr⟩ := ob hr
      obtain ⟨g53, h53⟩ := rcv_n f53
      obtain ⟨v53, e53, hr⟩ := ob hr
      refine v_callV C (b := b53) h53 (by decide) rfl rfl (k_Jx4a65c_size_8abf5 e53) cw_Jx4a65c_size_8abf5 w_352 w_353 w_354 (show (parseMethodDescriptor (yJx4a65c_size_8abf5).desc).map (fun d => d.parameters.length) = some 0 by decide +kernel) ⟨by decide, by decide⟩ (rest := [.int x1]) (stk2 := [.int v53, .int x1]) (by rw [g53]; rfl) rfl (Nat.le_of_ble_eq_true rfl) hl dX11_countLines_53 ?_
      refine v_icmp_ge C 111 (by decide) dX11_countLines_56 (fun c56 => ?_) (fun c56 => ?_)
      · rw [if_pos c56] at hr
        obtain rfl := os hr
        obtain rfl := kR _ rfl
        exact v_vret C dX11_countLines_111
      · rw [if_neg c56] at hr
        refine v_aload_n C (lv_at hl 0 rfl) rfl dX11_countLines_59 ?_
        obtain ⟨v60, e60, hr⟩ := ob hr
        refine v_getR C fl_RX11_20 rfl e60 dX11_countLines_60 ?_
        refine v_iload_n C (lv_at hl 1 rfl) rfl dX11_countLines_63 ?_
        obtain ⟨b64, f64, hr⟩ := ob hr
        obtain ⟨g64, h64⟩ := rcv_n f64
        obtain ⟨v64, e64, hr⟩ := ob hr
        refine v_callV C (b := b64) h64 (by decide) rfl rfl (k_Jx4a65c_get_915e3 e64) cw_Jx4a65c_get_915e3 w_449 w_450 w_451 (show (parseMethodDescriptor (yJx4a65c_get_915e3).desc).map (fun d => d.parameters.length) = some 1 by decide +kernel) ⟨by decide, by decide⟩ (rest := []) (stk2 := [va_rf v64]) (by rw [g64]; rfl) rfl (Nat.le_of_ble_eq_true rfl) hl dX11_countLines_64 ?_
        obtain ⟨v67, e67, hr⟩ := ob hr
        refine v_cast C e67 (by decide) rfl w_490 dX11_countLines_67 ?_
        refine v_astore_n C (i := 2) (lv' := [(2, va_rf v67), (0, va_rf (some x0)), (1, .int x1)]) hl rfl (by decide) rfl dX11_countLines_70 (fun ls hl => ?_)
        refine v_aload_n C (lv_at hl 0 rfl) rfl dX11_countLines_71 ?_
        obtain ⟨v72, e72, hr⟩ := ob hr
        refine v_getR C fl_RX11_370 rfl e72 dX11_countLines_72 ?_
        refine v_ifnull C 105 (by decide) dX11_countLines_75 (fun c75 => ?_) (fun c75 => ?_)
        · rw [if_pos c75] at hr
          refine v_iinc C (x1 + (-1)) (k0 := 2) (lv' := [(1, .int (x1 + (-1))), (2, va_rf v67), (0, va_rf (some x0))]) hl rfl (congrArg (fun z => x1 + z) (show Int32.ofInt (-1) = (-1) by decide)) (by decide) rfl dX11_countLines_105 (fun ls hl => ?_)
          refine v_goto C 44 (by decide) dX11_countLines_108 ?_
          exact ih hr _ (lv_sub hl [2, 0] rfl)
        · rw [if_neg c75] at hr
          refine v_aload_n C (lv_at hl 0 rfl) rfl dX11_countLines_78 ?_
          obtain ⟨b79, f79, hr⟩ := ob hr
          obtain ⟨g79, h79⟩ := rcv_n f79
          obtain ⟨v79, e79, hr⟩ := ob hr
          refine v_callV C (b := b79) h79 (by decide) rfl rfl (k_X8_lives e79) cw_X8_lives w_534 w_535 w_536 (show (parseMethodDescriptor (yX8_lives).desc).map (fun d => d.parameters.length) = some 0 by decide +kernel) ⟨by decide, by decide⟩ (rest := []) (stk2 := [.int v79]) (by rw [g79]; rfl) rfl (Nat.le_of_ble_eq_true rfl) hl dX11_countLines_79 ?_
          refine v_if_ne C 92 (by decide) dX11_countLines_82 (fun c82 => ?_) (fun c82 => ?_)
          · rw [if_neg c82] at hr
            exact b_X11_countLines_92 C kR (@ih) hr _ (lv_sub hl [1, 2, 0] rfl)
          · rw [if_pos c82] at hr
            refine v_aload_n C (lv_at hl 0 rfl) rfl dX11_countLines_85 ?_
            obtain ⟨v86, e86, hr⟩ := ob hr
            refine v_getI C fl_RX11_369 rfl e86 dX11_countLines_86 ?_
            refine v_if_le C 105 (by decide) dX11_countLines_89 (fun c89 => ?_) (fun c89 => ?_)
            · rw [if_pos c89] at hr
              refine v_iinc C (x1 + (-1)) (k0 := 2) (lv' := [(1, .int (x1 + (-1))), (2, va_rf v67), (0, va_rf (some x0))]) hl rfl (congrArg (fun z => x1 + z) (show Int32.ofInt (-1) = (-1) by decide)) (by decide) rfl dX11_countLines_105 (fun ls hl => ?_)
              refine v_goto C 44 (by decide) dX11_countLines_108 ?_
              exact ih hr _ (lv_sub hl [2, 0] rfl)
            · rw [if_neg c89] at hr
              exact b_X11_countLines_92 C kR (@ih) hr _ (lv_sub hl [1, 2, 0] rfl)
theorem k_X11_countLines {l : Launch} {G : Ge} {S S' : St} {x0 : Nat} (hr : f_X11_countLines S x0 = some S') : Ct l G yX11_countLines cX11_countLines 3 (Option.none : Option Jvm.ClassFile.FieldType) S [va_rf (some x0)] none S' 3 64 := by
  refine ct_of (by decide +kernel) (Nat.le_of_ble_eq_true rfl) ?_
  intro p e s m args below meth c C ls hl
  have hl : lv_has ls 3 [(0, va_rf (some x0))] := hl
  unfold f_X11_countLines at hr
  refine v_iconst C 0 (by decide) dX11_countLines_0 ?_
  refine v_istore_n C (i := 1) (lv' := [(1, .int 0), (0, va_rf (some x0))]) hl rfl (by decide) rfl dX11_countLines_1 (fun ls hl => ?_)
  obtain ⟨o2, e2, hr⟩ := ob hr
  refine b_X11_countLines_2 C ?_ FU e2 _ (lv_sub hl [1, 0] rfl)
  · intro x0 S_2 q ls hl
    subst q
    (try dsimp only at hr)
    refine v_aload_n C (lv_at hl 0 rfl) rfl dX11_countLines_34 ?_
    obtain ⟨v35, e35, hr⟩ := ob hr
    refine v_getR C fl_RX11_20 rfl e35 dX11_countLines_35 ?_
    obtain ⟨b38, f38, hr⟩ := ob hr
    obtain ⟨g38, h38⟩ := rcv_n f38
    obtain ⟨v38, e38, hr⟩ := ob hr
    refine v_callV C (b := b38) h38 (by decide) rfl rfl (k_Jx4a65c_size_8abf5 e38) cw_Jx4a65c_size_8abf5 w_352 w_353 w_354 (show (parseMethodDescriptor (yJx4a65c_size_8abf5).desc).map (fun d => d.parameters.length) = some 0 by decide +kernel) ⟨by decide, by decide⟩ (rest := []) (stk2 := [.int v38]) (by rw [g38]; rfl) rfl (Nat.le_of_ble_eq_true rfl) hl dX11_countLines_38 ?_
    refine v_iconst C 1 (by decide) dX11_countLines_41 ?_
    refine v_isub C dX11_countLines_42 ?_
    refine v_istore_n C (i := 1) (lv' := [(1, .int (v38 - 1)), (0, va_rf (some x0))]) hl rfl (by decide) rfl dX11_countLines_43 (fun ls hl => ?_)
    exact b_X11_countLines_44 C (fun _ q => by cases q; rfl) FU hr _ (lv_sub hl [1, 0] rfl)
-- X11_days
def f_X11_days (S : St) (x0 : Nat) (x1 : Int32) : Option (Int32 × St) :=
    (if x1 < 1 then
    some ((-1), S)
    else
    (if (9999 : Int32) < x1 then
    some ((-1), S)
    else
    (getI S (some x0) 12 0).bind fun v13 =>
    (if (v13 + x1) ≤ 19999 then
    (getI S (some x0) 12 0).bind fun v28 =>
    (putI S (some x0) 12 0 (v28 + x1)).bind fun S33 =>
    (getI S33 (some x0) 12 0).bind fun v37 =>
    some (v37, S33)
    else
    some ((-1), S))))
theorem k_X11_days {l : Launch} {G : Ge} {S S' : St} {x0 : Nat} {x1 : Int32} {rr : Int32} (hr : f_X11_days S x0 x1 = some (rr, S')) : Ct l G yX11_days cX11_days 2 (Option.some Jvm.ClassFile.FieldType.int) S [va_rf (some x0), .int x1] (some (.int rr)) S' 0 0 := by
  refine ct_of (by decide +kernel) (Nat.le_of_ble_eq_true rfl) ?_
  intro p e s m args below meth c C ls hl
  have hl : lv_has ls 2 [(0, va_rf (some x0)), (1, .int x1)] := hl
  unfold f_X11_days at hr
  refine v_iload_n C (lv_at hl 1 rfl) rfl dX11_days_0 ?_
  refine v_iconst C 1 (by decide) dX11_days_1 ?_
  refine v_icmp_lt C 24 (by decide) dX11_days_2 (fun c2 => ?_) (fun c2 => ?_)
  · rw [if_pos c2] at hr
    refine v_iconst C (-1) (by decide) dX11_days_24 ?_
    obtain ⟨rfl, rfl⟩ := Prod.mk.inj (os hr)
    exact v_iret C dX11_days_25
  · rw [if_neg c2] at hr
    refine v_iload_n C (lv_at hl 1 rfl) rfl dX11_days_5 ?_
    refine v_sipush C 9999 (by decide) dX11_days_6 ?_
    refine v_icmp_gt C 24 (by decide) dX11_days_9 (fun c9 => ?_) (fun c9 => ?_)
    · rw [if_pos c9] at hr
      refine v_iconst C (-1) (by decide) dX11_days_24 ?_
      obtain ⟨rfl, rfl⟩ := Prod.mk.inj (os hr)
      exact v_iret C dX11_days_25
    · rw [if_neg c9] at hr
      refine v_aload_n C (lv_at hl 0 rfl) rfl dX11_days_12 ?_
      obtain ⟨v13, e13, hr⟩ := ob hr
      refine v_getI C fl_RX11_7 rfl e13 dX11_days_13 ?_
      refine v_iload_n C (lv_at hl 1 rfl) rfl dX11_days_16 ?_
      refine v_iadd C dX11_days_17 ?_
      refine v_sipush C 19999 (by decide) dX11_days_18 ?_
      refine v_icmp_le C 26 (by decide) dX11_days_21 (fun c21 => ?_) (fun c21 => ?_)
      · rw [if_pos c21] at hr
        refine v_aload_n C (lv_at hl 0 rfl) rfl dX11_days_26 ?_
        refine v_dup C (rf_cat _) dX11_days_27 ?_
        obtain ⟨v28, e28, hr⟩ := ob hr
        refine v_getI C fl_RX11_7 rfl e28 dX11_days_28 ?_
        refine v_iload_n C (lv_at hl 1 rfl) rfl dX11_days_31 ?_
        refine v_iadd C dX11_days_32 ?_
        obtain ⟨S33, e33, hr⟩ := ob hr
        refine v_putI C fl_RX11_7 (Or.inl rfl) rfl e33 dX11_days_33 ?_
        refine v_aload_n C (lv_at hl 0 rfl) rfl dX11_days_36 ?_
        obtain ⟨v37, e37, hr⟩ := ob hr
        refine v_getI C fl_RX11_7 rfl e37 dX11_days_37 ?_
        obtain ⟨rfl, rfl⟩ := Prod.mk.inj (os hr)
        exact v_iret C dX11_days_40
      · rw [if_neg c21] at hr
        refine v_iconst C (-1) (by decide) dX11_days_24 ?_
        obtain ⟨rfl, rfl⟩ := Prod.mk.inj (os hr)
        exact v_iret C dX11_days_25
-- X11_dies
def f_X11_dies (S : St) (x0 : Nat) (x1 : Int32) (x2 : Int32) : Option (Int32 × St) :=
    (rcv S (some x0) 12).bind fun b2 =>
    (f_X11_personAt S b2 x1).bind fun v2 =>
    (if v2 = none then
    some (0, S)
    else
    (rcv S v2 9).bind fun b11 =>
    (f_X8_lives S b11).bind fun v11 =>
    (if v11 = 0 then
    some (0, S)
    else
    (rcv S (some x0) 12).bind fun b19 =>
    (f_X11_isPast S b19 x2).bind fun v19 =>
    (if v19 = 0 then
    some (0, S)
    else
    (getI S v2 9 2).bind fun v27 =>
    (if v27 ≤ x2 then
    (putI S v2 9 6 x2).bind fun S37 =>
    (rcv S37 (some x0) 12).bind fun b41 =>
    (f_X11_countLines S37 b41).bind fun S41 =>
    some (1, S41)
    else
    some (0, S)))))
theorem k_X11_dies {l : Launch} {G : Ge} {S S' : St} {x0 : Nat} {x1 : Int32} {x2 : Int32} {rr : Int32} (hr : f_X11_dies S x0 x1 x2 = some (rr, S')) : Ct l G yX11_dies cX11_dies 4 (Option.some Jvm.ClassFile.FieldType.boolean) S [va_rf (some x0), .int x1, .int x2] (some (.int rr)) S' 4 86 := by
  refine ct_of (by decide +kernel) (Nat.le_of_ble_eq_true rfl) ?_
  intro p e s m args below meth c C ls hl
  have hl : lv_has ls 4 [(0, va_rf (some x0)), (1, .int x1), (2, .int x2)] := hl
  unfold f_X11_dies at hr
  refine v_aload_n C (lv_at hl 0 rfl) rfl dX11_dies_0 ?_
  refine v_iload_n C (lv_at hl 1 rfl) rfl dX11_dies_1 ?_
  obtain ⟨b2, f2, hr⟩ := ob hr
  obtain ⟨g2, h2⟩ := rcv_n f2
  obtain ⟨v2, e2, hr⟩ := ob hr
  refine v_callV C (b := b2) h2 (by decide) rfl rfl (k_X11_personAt e2) cw_X11_personAt w_486 w_488 w_6 (show (parseMethodDescriptor (yX11_personAt).desc).map (fun d => d.parameters.length) = some 1 by decide +kernel) ⟨by decide, by decide⟩ (rest := []) (stk2 := [va_rf v2]) (by rw [g2]; rfl) rfl (Nat.le_of_ble_eq_true rfl) hl dX11_dies_2 ?_
  refine v_astore_n C (i := 3) (lv' := [(3, va_rf v2), (0, va_rf (some x0)), (1, .int x1), (2, .int x2)]) hl rfl (by decide) rfl dX11_dies_5 (fun ls hl => ?_)
  refine v_aload_n C (lv_at hl 0 rfl) rfl dX11_dies_6 ?_
  refine v_ifnull C 33 (by decide) dX11_dies_7 (fun c7 => ?_) (fun c7 => ?_)
  · rw [if_pos c7] at hr
    refine v_iconst C 0 (by decide) dX11_dies_33 ?_
    obtain ⟨rfl, rfl⟩ := Prod.mk.inj (os hr)
    exact v_zret C rfl dX11_dies_34
  · rw [if_neg c7] at hr
    refine v_aload_n C (lv_at hl 0 rfl) rfl dX11_dies_10 ?_
    obtain ⟨b11, f11, hr⟩ := ob hr
    obtain ⟨g11, h11⟩ := rcv_n f11
    obtain ⟨v11, e11, hr⟩ := ob hr
    refine v_callV C (b := b11) h11 (by decide) rfl rfl (k_X8_lives e11) cw_X8_lives w_534 w_535 w_536 (show (parseMethodDescriptor (yX8_lives).desc).map (fun d => d.parameters.length) = some 0 by decide +kernel) ⟨by decide, by decide⟩ (rest := []) (stk2 := [.int v11]) (by rw [g11]; rfl) rfl (Nat.le_of_ble_eq_true rfl) hl dX11_dies_11 ?_
    refine v_if_eq C 33 (by decide) dX11_dies_14 (fun c14 => ?_) (fun c14 => ?_)
    · rw [if_pos c14] at hr
      refine v_iconst C 0 (by decide) dX11_dies_33 ?_
      obtain ⟨rfl, rfl⟩ := Prod.mk.inj (os hr)
      exact v_zret C rfl dX11_dies_34
    · rw [if_neg c14] at hr
      refine v_aload_n C (lv_at hl 1 rfl) rfl dX11_dies_17 ?_
      refine v_iload_n C (lv_at hl 3 rfl) rfl dX11_dies_18 ?_
      obtain ⟨b19, f19, hr⟩ := ob hr
      obtain ⟨g19, h19⟩ := rcv_n f19
      obtain ⟨v19, e19, hr⟩ := ob hr
      refine v_callV C (b := b19) h19 (by decide) rfl rfl (k_X11_isPast e19) cw_X11_isPast w_463 w_465 w_4 (show (parseMethodDescriptor (yX11_isPast).desc).map (fun d => d.parameters.length) = some 1 by decide +kernel) ⟨by decide, by decide⟩ (rest := []) (stk2 := [.int v19]) (by rw [g19]; rfl) rfl (Nat.le_of_ble_eq_true rfl) hl dX11_dies_19 ?_
      refine v_if_eq C 33 (by decide) dX11_dies_22 (fun c22 => ?_) (fun c22 => ?_)
      · rw [if_pos c22] at hr
        refine v_iconst C 0 (by decide) dX11_dies_33 ?_
        obtain ⟨rfl, rfl⟩ := Prod.mk.inj (os hr)
        exact v_zret C rfl dX11_dies_34
      · rw [if_neg c22] at hr
        refine v_iload_n C (lv_at hl 3 rfl) rfl dX11_dies_25 ?_
        refine v_aload_n C (lv_at hl 0 rfl) rfl dX11_dies_26 ?_
        obtain ⟨v27, e27, hr⟩ := ob hr
        refine v_getI C fl_RX11_156 rfl e27 dX11_dies_27 ?_
        refine v_icmp_ge C 35 (by decide) dX11_dies_30 (fun c30 => ?_) (fun c30 => ?_)
        · rw [if_pos c30] at hr
          refine v_aload_n C (lv_at hl 0 rfl) rfl dX11_dies_35 ?_
          refine v_iload_n C (lv_at hl 3 rfl) rfl dX11_dies_36 ?_
          obtain ⟨S37, e37, hr⟩ := ob hr
          refine v_putI C fl_RX11_159 (Or.inl rfl) rfl e37 dX11_dies_37 ?_
          refine v_aload_n C (lv_at hl 1 rfl) rfl dX11_dies_40 ?_
          obtain ⟨b41, f41, hr⟩ := ob hr
          obtain ⟨g41, h41⟩ := rcv_n f41
          obtain ⟨S41, e41, hr⟩ := ob hr
          refine v_callV C (b := b41) h41 (by decide) rfl rfl (k_X11_countLines e41) cw_X11_countLines w_530 w_532 w_7 (show (parseMethodDescriptor (yX11_countLines).desc).map (fun d => d.parameters.length) = some 0 by decide +kernel) ⟨by decide, by decide⟩ (rest := []) (stk2 := []) (by rw [g41]; rfl) rfl (Nat.le_of_ble_eq_true rfl) hl dX11_dies_41 ?_
          refine v_iconst C 1 (by decide) dX11_dies_44 ?_
          obtain ⟨rfl, rfl⟩ := Prod.mk.inj (os hr)
          exact v_zret C rfl dX11_dies_45
        · rw [if_neg c30] at hr
          refine v_iconst C 0 (by decide) dX11_dies_33 ?_
          obtain ⟨rfl, rfl⟩ := Prod.mk.inj (os hr)
          exact v_zret C rfl dX11_dies_34
-- X11_end
def f_X11_end (S : St) (x0 : Nat) (x1 : Int32) : Option (Int32 × St) :=
    (if x1 < 0 then
    some (0, S)
    else
    (getI S (some x0) 12 7).bind fun v6 =>
    (if x1 ≤ v6 then
    (putI S (some x0) 12 7 x1).bind fun S16 =>
    some (1, S16)
    else
    some (0, S)))
theorem k_X11_end {l : Launch} {G : Ge} {S S' : St} {x0 : Nat} {x1 : Int32} {rr : Int32} (hr : f_X11_end S x0 x1 = some (rr, S')) : Ct l G yX11_end cX11_end 2 (Option.some Jvm.ClassFile.FieldType.boolean) S [va_rf (some x0), .int x1] (some (.int rr)) S' 0 0 := by
  refine ct_of (by decide +kernel) (Nat.le_of_ble_eq_true rfl) ?_
  intro p e s m args below meth c C ls hl
  have hl : lv_has ls 2 [(0, va_rf (some x0)), (1, .int x1)] := hl
  unfold f_X11_end at hr
  refine v_iload_n C (lv_at hl 1 rfl) rfl dX11_end_0 ?_
  refine v_if_lt C 12 (by decide) dX11_end_1 (fun c1 => ?_) (fun c1 => ?_)
  · rw [if_pos c1] at hr
    refine v_iconst C 0 (by decide) dX11_end_12 ?_
    obtain ⟨rfl, rfl⟩ := Prod.mk.inj (os hr)
    exact v_zret C rfl dX11_end_13
  · rw [if_neg c1] at hr
    refine v_iload_n C (lv_at hl 1 rfl) rfl dX11_end_4 ?_
    refine v_aload_n C (lv_at hl 0 rfl) rfl dX11_end_5 ?_
    obtain ⟨v6, e6, hr⟩ := ob hr
    refine v_getI C fl_RX11_36 rfl e6 dX11_end_6 ?_
    refine v_icmp_le C 14 (by decide) dX11_end_9 (fun c9 => ?_) (fun c9 => ?_)
    · rw [if_pos c9] at hr
      refine v_aload_n C (lv_at hl 0 rfl) rfl dX11_end_14 ?_
      refine v_iload_n C (lv_at hl 1 rfl) rfl dX11_end_15 ?_
      obtain ⟨S16, e16, hr⟩ := ob hr
      refine v_putI C fl_RX11_36 (Or.inl rfl) rfl e16 dX11_end_16 ?_
      refine v_iconst C 1 (by decide) dX11_end_19 ?_
      obtain ⟨rfl, rfl⟩ := Prod.mk.inj (os hr)
      exact v_zret C rfl dX11_end_20
    · rw [if_neg c9] at hr
      refine v_iconst C 0 (by decide) dX11_end_12 ?_
      obtain ⟨rfl, rfl⟩ := Prod.mk.inj (os hr)
      exact v_zret C rfl dX11_end_13
-- X11_fault
def f_X11_fault (S : St) (x0 : Nat) (x1 : Int32) : Option Int32 :=
    (if x1 = 0 then
    (getI S (some x0) 12 10).bind fun v29 =>
    some v29
    else
    (if x1 = 1 then
    (getI S (some x0) 12 11).bind fun v34 =>
    some v34
    else
    some (-1)))
theorem k_X11_fault {l : Launch} {G : Ge} {S : St} {x0 : Nat} {x1 : Int32} {rr : Int32} (hr : f_X11_fault S x0 x1 = some rr) : Ct l G yX11_fault cX11_fault 2 (Option.some Jvm.ClassFile.FieldType.int) S [va_rf (some x0), .int x1] (some (.int rr)) S 0 0 := by
  refine ct_of (by decide +kernel) (Nat.le_of_ble_eq_true rfl) ?_
  intro p e s m args below meth c C ls hl
  have hl : lv_has ls 2 [(0, va_rf (some x0)), (1, .int x1)] := hl
  unfold f_X11_fault at hr
  refine v_iload_n C (lv_at hl 1 rfl) rfl dX11_fault_0 ?_
  by_cases q1_0 : x1 = 0
  · rw [if_pos q1_0] at hr
    refine v_lookup C (off := 27) 28 (by decide) (by rw [q1_0]; decide) (by decide) dX11_fault_1 ?_
    refine v_aload_n C (lv_at hl 0 rfl) rfl dX11_fault_28 ?_
    obtain ⟨v29, e29, hr⟩ := ob hr
    refine v_getI C fl_RX11_52 rfl e29 dX11_fault_29 ?_
    obtain rfl := os hr
    exact v_iret C dX11_fault_32
  rw [if_neg q1_0] at hr
  by_cases q1_1 : x1 = 1
  · rw [if_pos q1_1] at hr
    refine v_lookup C (off := 32) 33 (by decide) (by rw [q1_1]; decide) (by decide) dX11_fault_1 ?_
    refine v_aload_n C (lv_at hl 0 rfl) rfl dX11_fault_33 ?_
    obtain ⟨v34, e34, hr⟩ := ob hr
    refine v_getI C fl_RX11_55 rfl e34 dX11_fault_34 ?_
    obtain rfl := os hr
    exact v_iret C dX11_fault_37
  rw [if_neg q1_1] at hr
  have kd1 : V p l e (rmo 0 0 S) s m args below meth c G S S (QM below args s G S S (some (.int rr))) (F0 m 38 ls []) := by
    refine v_iconst C (-1) (by decide) dX11_fault_38 ?_
    obtain rfl := os hr
    exact v_iret C dX11_fault_39
  exact v_lookup C (off := 37) 38 (by decide) (by first | (simp only [List.toList_toArray]; done) | (show Op.lookupswitch.offset [(0, 27), (1, 32)] _ _ = _; rw [lv_osw q1_0 (by decide), lv_osw q1_1 (by decide)]; rfl)) (by decide) dX11_fault_1 kd1
-- X11_putBytes
def f_X11_putBytes_3 : Nat → St → Nat → Int32 → Int32 → Option (St)
  | 0, _, _, _, _ => none
  | n + 1, S, x0, x1, x2 =>
    (if x2 < 0 then
    some S
    else
    (getI S (some x0) 12 7).bind fun v8 =>
    (getR S (some x0) 12 6).bind fun v12 =>
    (alen S v12).bind fun v15 =>
    (if v15 ≤ v8 then
    f_X11_putBytes_3 n S x0 x1 (x2 + (-8))
    else
    (getR S (some x0) 12 6).bind fun v20 =>
    (getI S (some x0) 12 7).bind fun v24 =>
    (stI S v20 14 v24 (Int8.toInt32 (Int32.toInt8 (x1 >>> (x2 &&& 31))))).bind fun S31 =>
    (getI S31 (some x0) 12 7).bind fun v34 =>
    (putI S31 (some x0) 12 7 (v34 + 1)).bind fun S39 =>
    f_X11_putBytes_3 n S39 x0 x1 (x2 + (-8))))
def f_X11_putBytes (S : St) (x0 : Nat) (x1 : Int32) : Option St :=
    f_X11_putBytes_3 FU S x0 x1 24
theorem b_X11_putBytes_3  {S0 S' : St} (C : Cx p s m args meth c G S0 yX11_putBytes cX11_putBytes 3 (Option.none : Option Jvm.ClassFile.FieldType)) {o : (St)} (kR : ∀ (Z : St), o = Z → S' = Z) : ∀ (n : Nat) {S : St} {x0 : Nat} {x1 : Int32} {x2 : Int32}, f_X11_putBytes_3 n S x0 x1 x2 = some o → ∀ ls : Array Slot, lv_has ls 3 [(0, va_rf (some x0)), (1, .int x1), (2, .int x2)] → V p l e (rmo 0 0 S0) s m args below meth c G S0 S (QM below args s G S0 S' none) (F0 m 3 ls []) := by
  intro n
  induction n with
  | zero => intro S x0 x1 x2 hr; cases hr
  | succ n ih =>
    intro S x0 x1 x2 hr ls hl
    unfold f_X11_putBytes_3 at hr
    refine v_iload_n C (lv_at hl 2 rfl) rfl dX11_putBytes_3 ?_
    refine v_if_lt C 48 (by decide) dX11_putBytes_4 (fun c4 => ?_) (fun c4 => ?_)
    · rw [if_pos c4] at hr
      obtain rfl := os hr
      obtain rfl := kR _ rfl
      exact v_vret C dX11_putBytes_48
    · rw [if_neg c4] at hr
      refine v_aload_n C (lv_at hl 0 rfl) rfl dX11_putBytes_7 ?_
      obtain ⟨v8, e8, hr⟩ := ob hr
      refine v_getI C fl_RX11_36 rfl e8 dX11_putBytes_8 ?_
      refine v_aload_n C (lv_at hl 0 rfl) rfl dX11_putBytes_11 ?_
      obtain ⟨v12, e12, hr⟩ := ob hr
      refine v_getR C fl_RX11_32 rfl e12 dX11_putBytes_12 ?_
      obtain ⟨v15, e15, hr⟩ := ob hr
      refine v_alen C e15 dX11_putBytes_15 ?_
      refine v_icmp_ge C 42 (by decide) dX11_putBytes_16 (fun c16 => ?_) (fun c16 => ?_)
      · rw [if_pos c16] at hr
        refine v_iinc C (x2 + (-8)) (k0 := 2) (lv' := [(2, .int (x2 + (-8))), (0, va_rf (some x0)), (1, .int x1)]) hl rfl (congrArg (fun z => x2 + z) (show Int32.ofInt (-8) = (-8) by decide)) (by decide) rfl dX11_putBytes_42 (fun ls hl => ?_)
        refine v_goto C 3 (by decide) dX11_putBytes_45 ?_
        exact ih hr _ (lv_sub hl [1, 2, 0] rfl)
      · rw [if_neg c16] at hr
        refine v_aload_n C (lv_at hl 0 rfl) rfl dX11_putBytes_19 ?_
        obtain ⟨v20, e20, hr⟩ := ob hr
        refine v_getR C fl_RX11_32 rfl e20 dX11_putBytes_20 ?_
        refine v_aload_n C (lv_at hl 0 rfl) rfl dX11_putBytes_23 ?_
        obtain ⟨v24, e24, hr⟩ := ob hr
        refine v_getI C fl_RX11_36 rfl e24 dX11_putBytes_24 ?_
        refine v_iload_n C (lv_at hl 1 rfl) rfl dX11_putBytes_27 ?_
        refine v_iload_n C (lv_at hl 2 rfl) rfl dX11_putBytes_28 ?_
        refine v_ishr C dX11_putBytes_29 ?_
        refine v_i2b C dX11_putBytes_30 ?_
        obtain ⟨S31, e31, hr⟩ := ob hr
        refine v_stI_b C e31 dX11_putBytes_31 ?_
        refine v_aload_n C (lv_at hl 0 rfl) rfl dX11_putBytes_32 ?_
        refine v_dup C (rf_cat _) dX11_putBytes_33 ?_
        obtain ⟨v34, e34, hr⟩ := ob hr
        refine v_getI C fl_RX11_36 rfl e34 dX11_putBytes_34 ?_
        refine v_iconst C 1 (by decide) dX11_putBytes_37 ?_
        refine v_iadd C dX11_putBytes_38 ?_
        obtain ⟨S39, e39, hr⟩ := ob hr
        refine v_putI C fl_RX11_36 (Or.inl rfl) rfl e39 dX11_putBytes_39 ?_
        refine v_iinc C (x2 + (-8)) (k0 := 2) (lv' := [(2, .int (x2 + (-8))), (0, va_rf (some x0)), (1, .int x1)]) hl rfl (congrArg (fun z => x2 + z) (show Int32.ofInt (-8) = (-8) by decide)) (by decide) rfl dX11_putBytes_42 (fun ls hl => ?_)
        refine v_goto C 3 (by decide) dX11_putBytes_45 ?_
        exact ih hr _ (lv_sub hl [1, 2, 0] rfl)
theorem k_X11_putBytes {l : Launch} {G : Ge} {S S' : St} {x0 : Nat} {x1 : Int32} (hr : f_X11_putBytes S x0 x1 = some S') : Ct l G yX11_putBytes cX11_putBytes 3 (Option.none : Option Jvm.ClassFile.FieldType) S [va_rf (some x0), .int x1] none S' 0 0 := by
  refine ct_of (by decide +kernel) (Nat.le_of_ble_eq_true rfl) ?_
  intro p e s m args below meth c C ls hl
  have hl : lv_has ls 3 [(0, va_rf (some x0)), (1, .int x1)] := hl
  unfold f_X11_putBytes at hr
  refine v_bipush C 24 (by decide) dX11_putBytes_0 ?_
  refine v_istore_n C (i := 2) (lv' := [(2, .int 24), (0, va_rf (some x0)), (1, .int x1)]) hl rfl (by decide) rfl dX11_putBytes_2 (fun ls hl => ?_)
  exact b_X11_putBytes_3 C (fun _ q => by cases q; rfl) FU hr _ (lv_sub hl [1, 2, 0] rfl)
-- X11_feed
def f_X11_feed (S : St) (x0 : Nat) (x1 : Int32) (x2 : Int32) (x3 : Int32) (x4 : Int32) (x5 : Int32) : Option (Int32 × St) :=
    (getI S (some x0) 12 7).bind fun v1 =>
    (getR S (some x0) 12 6).bind fun v8 =>
    (alen S v8).bind fun v11 =>
    (if (v1 + 20) ≤ v11 then
    (rcv S (some x0) 12).bind fun b19 =>
    (f_X11_putBytes S b19 x1).bind fun S19 =>
    (rcv S19 (some x0) 12).bind fun b24 =>
    (f_X11_putBytes S19 b24 x2).bind fun S24 =>
    (rcv S24 (some x0) 12).bind fun b29 =>
    (f_X11_putBytes S24 b29 x3).bind fun S29 =>
    (rcv S29 (some x0) 12).bind fun b35 =>
    (f_X11_putBytes S29 b35 x4).bind fun S35 =>
    (rcv S35 (some x0) 12).bind fun b41 =>
    (f_X11_putBytes S35 b41 x5).bind fun S41 =>
    (getI S41 (some x0) 12 7).bind fun v45 =>
    some (v45, S41)
    else
    some ((-1), S))
theorem k_X11_feed {l : Launch} {G : Ge} {S S' : St} {x0 : Nat} {x1 : Int32} {x2 : Int32} {x3 : Int32} {x4 : Int32} {x5 : Int32} {rr : Int32} (hr : f_X11_feed S x0 x1 x2 x3 x4 x5 = some (rr, S')) : Ct l G yX11_feed cX11_feed 6 (Option.some Jvm.ClassFile.FieldType.int) S [va_rf (some x0), .int x1, .int x2, .int x3, .int x4, .int x5] (some (.int rr)) S' 1 22 := by
  refine ct_of (by decide +kernel) (Nat.le_of_ble_eq_true rfl) ?_
  intro p e s m args below meth c C ls hl
  have hl : lv_has ls 6 [(0, va_rf (some x0)), (1, .int x1), (2, .int x2), (3, .int x3), (4, .int x4), (5, .int x5)] := hl
  unfold f_X11_feed at hr
  refine v_aload_n C (lv_at hl 0 rfl) rfl dX11_feed_0 ?_
  obtain ⟨v1, e1, hr⟩ := ob hr
  refine v_getI C fl_RX11_36 rfl e1 dX11_feed_1 ?_
  refine v_bipush C 20 (by decide) dX11_feed_4 ?_
  refine v_iadd C dX11_feed_6 ?_
  refine v_aload_n C (lv_at hl 0 rfl) rfl dX11_feed_7 ?_
  obtain ⟨v8, e8, hr⟩ := ob hr
  refine v_getR C fl_RX11_32 rfl e8 dX11_feed_8 ?_
  obtain ⟨v11, e11, hr⟩ := ob hr
  refine v_alen C e11 dX11_feed_11 ?_
  refine v_icmp_le C 17 (by decide) dX11_feed_12 (fun c12 => ?_) (fun c12 => ?_)
  · rw [if_pos c12] at hr
    refine v_aload_n C (lv_at hl 0 rfl) rfl dX11_feed_17 ?_
    refine v_iload_n C (lv_at hl 1 rfl) rfl dX11_feed_18 ?_
    obtain ⟨b19, f19, hr⟩ := ob hr
    obtain ⟨g19, h19⟩ := rcv_n f19
    obtain ⟨S19, e19, hr⟩ := ob hr
    refine v_callV C (b := b19) h19 (by decide) rfl rfl (k_X11_putBytes e19) cw_X11_putBytes w_695 w_697 w_11 (show (parseMethodDescriptor (yX11_putBytes).desc).map (fun d => d.parameters.length) = some 1 by decide +kernel) ⟨by decide, by decide⟩ (rest := []) (stk2 := []) (by rw [g19]; rfl) rfl (Nat.le_of_ble_eq_true rfl) hl dX11_feed_19 ?_
    refine v_aload_n C (lv_at hl 0 rfl) rfl dX11_feed_22 ?_
    refine v_iload_n C (lv_at hl 2 rfl) rfl dX11_feed_23 ?_
    obtain ⟨b24, f24, hr⟩ := ob hr
    obtain ⟨g24, h24⟩ := rcv_n f24
    obtain ⟨S24, e24, hr⟩ := ob hr
    refine v_callV C (b := b24) h24 (by decide) rfl rfl (k_X11_putBytes e24) cw_X11_putBytes w_695 w_697 w_11 (show (parseMethodDescriptor (yX11_putBytes).desc).map (fun d => d.parameters.length) = some 1 by decide +kernel) ⟨by decide, by decide⟩ (rest := []) (stk2 := []) (by rw [g24]; rfl) rfl (Nat.le_of_ble_eq_true rfl) hl dX11_feed_24 ?_
    refine v_aload_n C (lv_at hl 0 rfl) rfl dX11_feed_27 ?_
    refine v_iload_n C (lv_at hl 3 rfl) rfl dX11_feed_28 ?_
    obtain ⟨b29, f29, hr⟩ := ob hr
    obtain ⟨g29, h29⟩ := rcv_n f29
    obtain ⟨S29, e29, hr⟩ := ob hr
    refine v_callV C (b := b29) h29 (by decide) rfl rfl (k_X11_putBytes e29) cw_X11_putBytes w_695 w_697 w_11 (show (parseMethodDescriptor (yX11_putBytes).desc).map (fun d => d.parameters.length) = some 1 by decide +kernel) ⟨by decide, by decide⟩ (rest := []) (stk2 := []) (by rw [g29]; rfl) rfl (Nat.le_of_ble_eq_true rfl) hl dX11_feed_29 ?_
    refine v_aload_n C (lv_at hl 0 rfl) rfl dX11_feed_32 ?_
    refine v_iload C (lv_at hl 4 rfl) dX11_feed_33 ?_
    obtain ⟨b35, f35, hr⟩ := ob hr
    obtain ⟨g35, h35⟩ := rcv_n f35
    obtain ⟨S35, e35, hr⟩ := ob hr
    refine v_callV C (b := b35) h35 (by decide) rfl rfl (k_X11_putBytes e35) cw_X11_putBytes w_695 w_697 w_11 (show (parseMethodDescriptor (yX11_putBytes).desc).map (fun d => d.parameters.length) = some 1 by decide +kernel) ⟨by decide, by decide⟩ (rest := []) (stk2 := []) (by rw [g35]; rfl) rfl (Nat.le_of_ble_eq_true rfl) hl dX11_feed_35 ?_
    refine v_aload_n C (lv_at hl 0 rfl) rfl dX11_feed_38 ?_
    refine v_iload C (lv_at hl 5 rfl) dX11_feed_39 ?_
    obtain ⟨b41, f41, hr⟩ := ob hr
    obtain ⟨g41, h41⟩ := rcv_n f41
    obtain ⟨S41, e41, hr⟩ := ob hr
    refine v_callV C (b := b41) h41 (by decide) rfl rfl (k_X11_putBytes e41) cw_X11_putBytes w_695 w_697 w_11 (show (parseMethodDescriptor (yX11_putBytes).desc).map (fun d => d.parameters.length) = some 1 by decide +kernel) ⟨by decide, by decide⟩ (rest := []) (stk2 := []) (by rw [g41]; rfl) rfl (Nat.le_of_ble_eq_true rfl) hl dX11_feed_41 ?_
    refine v_aload_n C (lv_at hl 0 rfl) rfl dX11_feed_44 ?_
    obtain ⟨v45, e45, hr⟩ := ob hr
    refine v_getI C fl_RX11_36 rfl e45 dX11_feed_45 ?_
    obtain ⟨rfl, rfl⟩ := Prod.mk.inj (os hr)
    exact v_iret C dX11_feed_48
  · rw [if_neg c12] at hr
    refine v_iconst C (-1) (by decide) dX11_feed_15 ?_
    obtain ⟨rfl, rfl⟩ := Prod.mk.inj (os hr)
    exact v_iret C dX11_feed_16
-- X4_setFigure
def f_X4_setFigure (S : St) (x0 : Nat) (x1 : Int32) (x2 : Int32) : Option (Int32 × St) :=
    (getR S (some x0) 5 4).bind fun v2 =>
    (alen S v2).bind fun v5 =>
    (f_X11_isWithin S x1 v5).bind fun v6 =>
    (if v6 = 0 then
    some (0, S)
    else
    (getR S (some x0) 5 4).bind fun v15 =>
    (stI S v15 15 x1 x2).bind fun S20 =>
    some (1, S20))
theorem k_X4_setFigure {l : Launch} {G : Ge} {S S' : St} {x0 : Nat} {x1 : Int32} {x2 : Int32} {rr : Int32} (hr : f_X4_setFigure S x0 x1 x2 = some (rr, S')) : Ct l G yX4_setFigure cX4_setFigure 3 (Option.some Jvm.ClassFile.FieldType.boolean) S [va_rf (some x0), .int x1, .int x2] (some (.int rr)) S' 1 21 := by
  refine ct_of (by decide +kernel) (Nat.le_of_ble_eq_true rfl) ?_
  intro p e s m args below meth c C ls hl
  have hl : lv_has ls 3 [(0, va_rf (some x0)), (1, .int x1), (2, .int x2)] := hl
  unfold f_X4_setFigure at hr
  refine v_iload_n C (lv_at hl 1 rfl) rfl dX4_setFigure_0 ?_
  refine v_aload_n C (lv_at hl 0 rfl) rfl dX4_setFigure_1 ?_
  obtain ⟨v2, e2, hr⟩ := ob hr
  refine v_getR C fl_RX4_19 rfl e2 dX4_setFigure_2 ?_
  obtain ⟨v5, e5, hr⟩ := ob hr
  refine v_alen C e5 dX4_setFigure_5 ?_
  obtain ⟨v6, e6, hr⟩ := ob hr
  refine v_callSN C "SleepOffice" (k_X11_isWithin e6) cw_X11_isWithin (by decide +kernel) w_350 (show (parseMethodDescriptor (yX11_isWithin).desc).map (fun d => d.parameters.length) = some 2 by decide +kernel) ⟨by decide, by decide⟩ (rest := []) (stk2 := [.int v6]) rfl rfl (Nat.le_of_ble_eq_true rfl) hl dX4_setFigure_6 ?_
  refine v_if_ne C 14 (by decide) dX4_setFigure_9 (fun c9 => ?_) (fun c9 => ?_)
  · rw [if_neg c9] at hr
    refine v_aload_n C (lv_at hl 0 rfl) rfl dX4_setFigure_14 ?_
    obtain ⟨v15, e15, hr⟩ := ob hr
    refine v_getR C fl_RX4_19 rfl e15 dX4_setFigure_15 ?_
    refine v_iload_n C (lv_at hl 1 rfl) rfl dX4_setFigure_18 ?_
    refine v_iload_n C (lv_at hl 2 rfl) rfl dX4_setFigure_19 ?_
    obtain ⟨S20, e20, hr⟩ := ob hr
    refine v_stI_i C e20 dX4_setFigure_20 ?_
    refine v_iconst C 1 (by decide) dX4_setFigure_21 ?_
    obtain ⟨rfl, rfl⟩ := Prod.mk.inj (os hr)
    exact v_zret C rfl dX4_setFigure_22
  · rw [if_pos c9] at hr
    refine v_iconst C 0 (by decide) dX4_setFigure_12 ?_
    obtain ⟨rfl, rfl⟩ := Prod.mk.inj (os hr)
    exact v_zret C rfl dX4_setFigure_13
-- X11_figure
def f_X11_figure_27 (S : St) (x2 : Int32) (x3 : Int32) (x4 : Option Nat) (t0 : Int32) : Option (Int32 × St) :=
    (if x4 = none then
    some (0, S)
    else
    (if t0 = 0 then
    some (0, S)
    else
    (rcv S x4 5).bind fun b43 =>
    (f_X4_setFigure S b43 x2 x3).bind fun (v43, S43) =>
    (if v43 = 0 then
    some (0, S43)
    else
    some (1, S43))))
def f_X11_figure_22 (S : St) (x2 : Int32) (x3 : Int32) (x4 : Option Nat) : Option (Int32 × St) :=
    f_X11_figure_27 S x2 x3 x4 1
def f_X11_figure (S : St) (x0 : Nat) (x1 : Int32) (x2 : Int32) (x3 : Int32) : Option (Int32 × St) :=
    (rcv S (some x0) 12).bind fun b2 =>
    (f_X11_firmAt S b2 x1).bind fun v2 =>
    (if x3 = (-1) then
    f_X11_figure_22 S x2 x3 v2
    else
    (f_X11_isWithin S x3 1000000).bind fun v16 =>
    (if v16 = 0 then
    f_X11_figure_27 S x2 x3 v2 0
    else
    f_X11_figure_22 S x2 x3 v2))
theorem b_X11_figure_27  {S0 S S' : St} {rr : Int32} {x2 : Int32} {x3 : Int32} {x4 : Option Nat} {t0 : Int32} (C : Cx p s m args meth c G S0 yX11_figure cX11_figure 6 (Option.some Jvm.ClassFile.FieldType.boolean)) (hr : f_X11_figure_27 S x2 x3 x4 t0 = some (rr, S')) : ∀ ls : Array Slot, lv_has ls 6 [(2, .int x2), (3, .int x3), (4, va_rf x4)] → V p l e (rmo 4 85 S0) s m args below meth c G S0 S (QM below args s G S0 S' (some (.int rr))) (F0 m 27 ls [.int t0]) := by
  intro ls hl
  unfold f_X11_figure_27 at hr
  refine v_istore C (i := 5) (lv' := [(5, .int t0), (2, .int x2), (3, .int x3), (4, va_rf x4)]) hl (by decide) (by simp [rf_n2]) dX11_figure_27 (fun ls hl => ?_)
  refine v_aload C (lv_at hl 3 rfl) dX11_figure_29 ?_
  refine v_ifnull C 53 (by decide) dX11_figure_31 (fun c31 => ?_) (fun c31 => ?_)
  · rw [if_pos c31] at hr
    refine v_iconst C 0 (by decide) dX11_figure_53 ?_
    obtain ⟨rfl, rfl⟩ := Prod.mk.inj (os hr)
    exact v_zret C rfl dX11_figure_54
  · rw [if_neg c31] at hr
    refine v_iload C (lv_at hl 0 rfl) dX11_figure_34 ?_
    refine v_if_eq C 53 (by decide) dX11_figure_36 (fun c36 => ?_) (fun c36 => ?_)
    · rw [if_pos c36] at hr
      refine v_iconst C 0 (by decide) dX11_figure_53 ?_
      obtain ⟨rfl, rfl⟩ := Prod.mk.inj (os hr)
      exact v_zret C rfl dX11_figure_54
    · rw [if_neg c36] at hr
      refine v_aload C (lv_at hl 3 rfl) dX11_figure_39 ?_
      refine v_iload_n C (lv_at hl 1 rfl) rfl dX11_figure_41 ?_
      refine v_iload_n C (lv_at hl 2 rfl) rfl dX11_figure_42 ?_
      obtain ⟨b43, f43, hr⟩ := ob hr
      obtain ⟨g43, h43⟩ := rcv_n f43
      obtain ⟨⟨v43, S43⟩, e43, hr⟩ := ob hr
      (try dsimp only at hr)
      refine v_callV C (b := b43) h43 (by decide) rfl rfl (k_X4_setFigure e43) cw_X4_setFigure w_1199 w_1200 w_1201 (show (parseMethodDescriptor (yX4_setFigure).desc).map (fun d => d.parameters.length) = some 2 by decide +kernel) ⟨by decide, by decide⟩ (rest := []) (stk2 := [.int v43]) (by rw [g43]; rfl) rfl (Nat.le_of_ble_eq_true rfl) hl dX11_figure_43 ?_
      refine v_if_eq C 53 (by decide) dX11_figure_46 (fun c46 => ?_) (fun c46 => ?_)
      · rw [if_pos c46] at hr
        refine v_iconst C 0 (by decide) dX11_figure_53 ?_
        obtain ⟨rfl, rfl⟩ := Prod.mk.inj (os hr)
        exact v_zret C rfl dX11_figure_54
      · rw [if_neg c46] at hr
        refine v_iconst C 1 (by decide) dX11_figure_49 ?_
        refine v_goto C 54 (by decide) dX11_figure_50 ?_
        obtain ⟨rfl, rfl⟩ := Prod.mk.inj (os hr)
        exact v_zret C rfl dX11_figure_54
theorem b_X11_figure_22  {S0 S S' : St} {rr : Int32} {x2 : Int32} {x3 : Int32} {x4 : Option Nat} (C : Cx p s m args meth c G S0 yX11_figure cX11_figure 6 (Option.some Jvm.ClassFile.FieldType.boolean)) (hr : f_X11_figure_22 S x2 x3 x4 = some (rr, S')) : ∀ ls : Array Slot, lv_has ls 6 [(2, .int x2), (3, .int x3), (4, va_rf x4)] → V p l e (rmo 4 85 S0) s m args below meth c G S0 S (QM below args s G S0 S' (some (.int rr))) (F0 m 22 ls []) := by
  intro ls hl
  unfold f_X11_figure_22 at hr
  refine v_iconst C 1 (by decide) dX11_figure_22 ?_
  refine v_goto C 27 (by decide) dX11_figure_23 ?_
  exact b_X11_figure_27 C hr _ (lv_sub hl [0, 1, 2] rfl)
theorem k_X11_figure {l : Launch} {G : Ge} {S S' : St} {x0 : Nat} {x1 : Int32} {x2 : Int32} {x3 : Int32} {rr : Int32} (hr : f_X11_figure S x0 x1 x2 x3 = some (rr, S')) : Ct l G yX11_figure cX11_figure 6 (Option.some Jvm.ClassFile.FieldType.boolean) S [va_rf (some x0), .int x1, .int x2, .int x3] (some (.int rr)) S' 4 85 := by
  refine ct_of (by decide +kernel) (Nat.le_of_ble_eq_true rfl) ?_
  intro p e s m args below meth c C ls hl
  have hl : lv_has ls 6 [(0, va_rf (some x0)), (1, .int x1), (2, .int x2), (3, .int x3)] := hl
  unfold f_X11_figure at hr
  refine v_aload_n C (lv_at hl 0 rfl) rfl dX11_figure_0 ?_
  refine v_iload_n C (lv_at hl 1 rfl) rfl dX11_figure_1 ?_
  obtain ⟨b2, f2, hr⟩ := ob hr
  obtain ⟨g2, h2⟩ := rcv_n f2
  obtain ⟨v2, e2, hr⟩ := ob hr
  refine v_callV C (b := b2) h2 (by decide) rfl rfl (k_X11_firmAt e2) cw_X11_firmAt w_445 w_447 w_3 (show (parseMethodDescriptor (yX11_firmAt).desc).map (fun d => d.parameters.length) = some 1 by decide +kernel) ⟨by decide, by decide⟩ (rest := []) (stk2 := [va_rf v2]) (by rw [g2]; rfl) rfl (Nat.le_of_ble_eq_true rfl) hl dX11_figure_2 ?_
  refine v_astore C (i := 4) (lv' := [(4, va_rf v2), (0, va_rf (some x0)), (1, .int x1), (2, .int x2), (3, .int x3)]) hl (by decide) rfl dX11_figure_5 (fun ls hl => ?_)
  refine v_iload_n C (lv_at hl 4 rfl) rfl dX11_figure_7 ?_
  refine v_iconst C (-1) (by decide) dX11_figure_8 ?_
  refine v_icmp_eq C 22 (by decide) dX11_figure_9 (fun c9 => ?_) (fun c9 => ?_)
  · rw [if_pos c9] at hr
    exact b_X11_figure_22 C hr _ (lv_sub hl [3, 4, 0] rfl)
  · rw [if_neg c9] at hr
    refine v_iload_n C (lv_at hl 4 rfl) rfl dX11_figure_12 ?_
    refine v_ldcw C w_1198 dX11_figure_13 ?_
    obtain ⟨v16, e16, hr⟩ := ob hr
    refine v_callS C (k_X11_isWithin e16) cw_X11_isWithin w_349 w_350 (show (parseMethodDescriptor (yX11_isWithin).desc).map (fun d => d.parameters.length) = some 2 by decide +kernel) ⟨by decide, by decide⟩ (rest := []) (stk2 := [.int v16]) rfl rfl (Nat.le_of_ble_eq_true rfl) hl dX11_figure_16 ?_
    refine v_if_eq C 26 (by decide) dX11_figure_19 (fun c19 => ?_) (fun c19 => ?_)
    · rw [if_pos c19] at hr
      refine v_iconst C 0 (by decide) dX11_figure_26 ?_
      exact b_X11_figure_27 C hr _ (lv_sub hl [3, 4, 0] rfl)
    · rw [if_neg c19] at hr
      exact b_X11_figure_22 C hr _ (lv_sub hl [3, 4, 0] rfl)
-- X4_init
def f_X4_init_34 : Nat → St → Nat → Int32 → Option (St)
  | 0, _, _, _ => none
  | n + 1, S, x0, x3 =>
    (getR S (some x0) 5 4).bind fun v36 =>
    (alen S v36).bind fun v39 =>
    (if v39 ≤ x3 then
    some S
    else
    (getR S (some x0) 5 4).bind fun v44 =>
    (stI S v44 15 x3 (-1)).bind fun S49 =>
    f_X4_init_34 n S49 x0 (x3 + 1))
def f_X4_init (S : St) (x0 : Nat) (x1 : Int32) (x2 : Int32) : Option St :=
    (putR S (some x0) 5 2 none).bind fun S6 =>
    (putI S6 (some x0) 5 3 (-1)).bind fun S11 =>
    (newA S11 15 20).bind fun (a17, S17) =>
    (putR S17 (some x0) 5 4 (some a17)).bind fun S19 =>
    (putI S19 (some x0) 5 0 x1).bind fun S24 =>
    (putI S24 (some x0) 5 1 x2).bind fun S29 =>
    f_X4_init_34 FU S29 x0 0
theorem b_X4_init_34  {S0 S' : St} (C : Cx p s m args meth c G S0 yX4_init cX4_init 4 (Option.none : Option Jvm.ClassFile.FieldType)) {o : (St)} (kR : ∀ (Z : St), o = Z → S' = Z) : ∀ (n : Nat) {S : St} {x0 : Nat} {x3 : Int32}, f_X4_init_34 n S x0 x3 = some o → ∀ ls : Array Slot, lv_has ls 4 [(0, va_rf (some x0)), (3, .int x3)] → V p l e (rmo 1 36 S0) s m args below meth c G S0 S (QM below args s G S0 S' none) (F0 m 34 ls []) := by
  intro n
  induction n with
  | zero => intro S x0 x3 hr; cases hr
  | succ n ih =>
    intro S x0 x3 hr ls hl
    unfold f_X4_init_34 at hr
    refine v_iload_n C (lv_at hl 1 rfl) rfl dX4_init_34 ?_
    refine v_aload_n C (lv_at hl 0 rfl) rfl dX4_init_35 ?_
    obtain ⟨v36, e36, hr⟩ := ob hr
    refine v_getR C fl_RX4_19 rfl e36 dX4_init_36 ?_
    obtain ⟨v39, e39, hr⟩ := ob hr
    refine v_alen C e39 dX4_init_39 ?_
    refine v_icmp_ge C 56 (by decide) dX4_init_40 (fun c40 => ?_) (fun c40 => ?_)
    · rw [if_pos c40] at hr
      obtain rfl := os hr
      obtain rfl := kR _ rfl
      exact v_vret C dX4_init_56
    · rw [if_neg c40] at hr
      refine v_aload_n C (lv_at hl 0 rfl) rfl dX4_init_43 ?_
      obtain ⟨v44, e44, hr⟩ := ob hr
      refine v_getR C fl_RX4_19 rfl e44 dX4_init_44 ?_
      refine v_iload_n C (lv_at hl 1 rfl) rfl dX4_init_47 ?_
      refine v_iconst C (-1) (by decide) dX4_init_48 ?_
      obtain ⟨S49, e49, hr⟩ := ob hr
      refine v_stI_i C e49 dX4_init_49 ?_
      refine v_iinc C (x3 + 1) (k0 := 1) (lv' := [(3, .int (x3 + 1)), (0, va_rf (some x0))]) hl rfl rfl (by decide) rfl dX4_init_50 (fun ls hl => ?_)
      refine v_goto C 34 (by decide) dX4_init_53 ?_
      exact ih hr _ (lv_sub hl [1, 0] rfl)
theorem k_X4_init {l : Launch} {G : Ge} {S S' : St} {x0 : Nat} {x1 : Int32} {x2 : Int32} (hr : f_X4_init S x0 x1 x2 = some S') : Ct l G yX4_init cX4_init 4 (Option.none : Option Jvm.ClassFile.FieldType) S [va_rf (some x0), .int x1, .int x2] none S' 1 36 := by
  refine ct_of (by decide +kernel) (Nat.le_of_ble_eq_true rfl) ?_
  intro p e s m args below meth c C ls hl
  have hl : lv_has ls 4 [(0, va_rf (some x0)), (1, .int x1), (2, .int x2)] := hl
  unfold f_X4_init at hr
  refine v_aload_n C (lv_at hl 0 rfl) rfl dX4_init_0 ?_
  refine v_objInit C (b := x0) w_361 w_134 w_135 ⟨by decide, by decide⟩ (Nat.le_of_ble_eq_true rfl) hl dX4_init_1 ?_
  refine v_aload_n C (lv_at hl 0 rfl) rfl dX4_init_4 ?_
  refine v_null C dX4_init_5 ?_
  obtain ⟨S6, e6, hr⟩ := ob hr
  refine v_putR C fl_RX4_9 (Or.inl rfl) rfl e6 dX4_init_6 ?_
  refine v_aload_n C (lv_at hl 0 rfl) rfl dX4_init_9 ?_
  refine v_iconst C (-1) (by decide) dX4_init_10 ?_
  obtain ⟨S11, e11, hr⟩ := ob hr
  refine v_putI C fl_RX4_15 (Or.inl rfl) rfl e11 dX4_init_11 ?_
  refine v_aload_n C (lv_at hl 0 rfl) rfl dX4_init_14 ?_
  refine v_bipush C 20 (by decide) dX4_init_15 ?_
  obtain ⟨⟨a17, S17⟩, e17, hr⟩ := ob hr
  (try dsimp only at hr)
  refine v_newA C (atype := .int) (t0 := 1) e17 (by decide) rfl (fun _ => ⟨rfl, rfl, rfl, by decide⟩) w_211 dX4_init_17 ?_
  obtain ⟨S19, e19, hr⟩ := ob hr
  refine v_putR C fl_RX4_19 (Or.inr ⟨rfl, rfl⟩) rfl e19 dX4_init_19 ?_
  refine v_aload_n C (lv_at hl 0 rfl) rfl dX4_init_22 ?_
  refine v_iload_n C (lv_at hl 1 rfl) rfl dX4_init_23 ?_
  obtain ⟨S24, e24, hr⟩ := ob hr
  refine v_putI C fl_RX4_23 (Or.inr ⟨rfl, rfl⟩) rfl e24 dX4_init_24 ?_
  refine v_aload_n C (lv_at hl 0 rfl) rfl dX4_init_27 ?_
  refine v_iload_n C (lv_at hl 2 rfl) rfl dX4_init_28 ?_
  obtain ⟨S29, e29, hr⟩ := ob hr
  refine v_putI C fl_RX4_26 (Or.inr ⟨rfl, rfl⟩) rfl e29 dX4_init_29 ?_
  refine v_iconst C 0 (by decide) dX4_init_32 ?_
  refine v_istore_n C (i := 3) (lv' := [(3, .int 0), (0, va_rf (some x0)), (1, .int x1), (2, .int x2)]) hl rfl (by decide) rfl dX4_init_33 (fun ls hl => ?_)
  exact b_X4_init_34 C (fun _ q => by cases q; rfl) FU hr _ (lv_sub hl [1, 0] rfl)
-- X11_firm
def f_X11_firm (S : St) (x0 : Nat) (x1 : Int32) : Option (Int32 × St) :=
    (f_X11_isWithin S x1 4).bind fun v2 =>
    (if v2 = 0 then
    some ((-1), S)
    else
    (getR S (some x0) 12 1).bind fun v9 =>
    (rcv S v9 0).bind fun b12 =>
    (f_Jx4a65c_size_8abf5 S b12).bind fun v12 =>
    (if v12 < 8 then
    (newO S 5).bind fun (a22, S22) =>
    (getR S22 (some x0) 12 1).bind fun v27 =>
    (rcv S22 v27 0).bind fun b30 =>
    (f_Jx4a65c_size_8abf5 S22 b30).bind fun v30 =>
    (rcv S22 (some a22) 5).bind fun b34 =>
    (f_X4_init S22 b34 v30 x1).bind fun S34 =>
    (getR S34 (some x0) 12 1).bind fun v39 =>
    (rcv S34 v39 0).bind fun b43 =>
    (f_Jx4a65c_add_9ea2d S34 b43 (some a22)).bind fun (v43, S43) =>
    (getI S43 (some a22) 5 0).bind fun v48 =>
    some (v48, S43)
    else
    some ((-1), S)))
theorem k_X11_firm {l : Launch} {G : Ge} {S S' : St} {x0 : Nat} {x1 : Int32} {rr : Int32} (hr : f_X11_firm S x0 x1 = some (rr, S')) : Ct l G yX11_firm cX11_firm 3 (Option.some Jvm.ClassFile.FieldType.int) S [va_rf (some x0), .int x1] (some (.int rr)) S' 7 167 := by
  refine ct_of (by decide +kernel) (Nat.le_of_ble_eq_true rfl) ?_
  intro p e s m args below meth c C ls hl
  have hl : lv_has ls 3 [(0, va_rf (some x0)), (1, .int x1)] := hl
  unfold f_X11_firm at hr
  refine v_iload_n C (lv_at hl 1 rfl) rfl dX11_firm_0 ?_
  refine v_iconst C 4 (by decide) dX11_firm_1 ?_
  obtain ⟨v2, e2, hr⟩ := ob hr
  refine v_callS C (k_X11_isWithin e2) cw_X11_isWithin w_349 w_350 (show (parseMethodDescriptor (yX11_isWithin).desc).map (fun d => d.parameters.length) = some 2 by decide +kernel) ⟨by decide, by decide⟩ (rest := []) (stk2 := [.int v2]) rfl rfl (Nat.le_of_ble_eq_true rfl) hl dX11_firm_2 ?_
  refine v_if_eq C 20 (by decide) dX11_firm_5 (fun c5 => ?_) (fun c5 => ?_)
  · rw [if_pos c5] at hr
    refine v_iconst C (-1) (by decide) dX11_firm_20 ?_
    obtain ⟨rfl, rfl⟩ := Prod.mk.inj (os hr)
    exact v_iret C dX11_firm_21
  · rw [if_neg c5] at hr
    refine v_aload_n C (lv_at hl 0 rfl) rfl dX11_firm_8 ?_
    obtain ⟨v9, e9, hr⟩ := ob hr
    refine v_getR C fl_RX11_16 rfl e9 dX11_firm_9 ?_
    obtain ⟨b12, f12, hr⟩ := ob hr
    obtain ⟨g12, h12⟩ := rcv_n f12
    obtain ⟨v12, e12, hr⟩ := ob hr
    refine v_callV C (b := b12) h12 (by decide) rfl rfl (k_Jx4a65c_size_8abf5 e12) cw_Jx4a65c_size_8abf5 w_352 w_353 w_354 (show (parseMethodDescriptor (yJx4a65c_size_8abf5).desc).map (fun d => d.parameters.length) = some 0 by decide +kernel) ⟨by decide, by decide⟩ (rest := []) (stk2 := [.int v12]) (by rw [g12]; rfl) rfl (Nat.le_of_ble_eq_true rfl) hl dX11_firm_12 ?_
    refine v_bipush C 8 (by decide) dX11_firm_15 ?_
    refine v_icmp_lt C 22 (by decide) dX11_firm_17 (fun c17 => ?_) (fun c17 => ?_)
    · rw [if_pos c17] at hr
      obtain ⟨⟨a22, S22⟩, e22, hr⟩ := ob hr
      (try dsimp only at hr)
      refine v_newO C e22 (by decide) rfl w_356 w_357 w_112 lay_5 tyo_5 dfo_5 dX11_firm_22 ?_
      refine v_dup C (rf_cat _) dX11_firm_25 ?_
      refine v_aload_n C (lv_at hl 0 rfl) rfl dX11_firm_26 ?_
      obtain ⟨v27, e27, hr⟩ := ob hr
      refine v_getR C fl_RX11_16 rfl e27 dX11_firm_27 ?_
      obtain ⟨b30, f30, hr⟩ := ob hr
      obtain ⟨g30, h30⟩ := rcv_n f30
      obtain ⟨v30, e30, hr⟩ := ob hr
      refine v_callV C (b := b30) h30 (by decide) rfl rfl (k_Jx4a65c_size_8abf5 e30) cw_Jx4a65c_size_8abf5 w_352 w_353 w_354 (show (parseMethodDescriptor (yJx4a65c_size_8abf5).desc).map (fun d => d.parameters.length) = some 0 by decide +kernel) ⟨by decide, by decide⟩ (rest := [va_rf (some a22), va_rf (some a22)]) (stk2 := [.int v30, va_rf (some a22), va_rf (some a22)]) (by rw [g30]; rfl) rfl (by simp [rf_cat, cat_i, cat_l]) hl dX11_firm_30 ?_
      refine v_iload_n C (lv_at hl 1 rfl) rfl dX11_firm_33 ?_
      obtain ⟨b34, f34, hr⟩ := ob hr
      obtain ⟨g34, h34⟩ := rcv_n f34
      obtain ⟨S34, e34, hr⟩ := ob hr
      refine v_callI C (b := b34) (k_X4_init e34) cw_X4_init w_358 w_359 rfl (show (parseMethodDescriptor (yX4_init).desc).map (fun d => d.parameters.length) = some 2 by decide +kernel) ⟨by decide, by decide⟩ (rest := [va_rf (some a22)]) (stk2 := [va_rf (some a22)]) (by rw [g34]; rfl) rfl (by simp [rf_cat, cat_i, cat_l]) hl dX11_firm_34 ?_
      refine v_astore_n C (i := 2) (lv' := [(2, va_rf (some a22)), (0, va_rf (some x0)), (1, .int x1)]) hl rfl (by decide) rfl dX11_firm_37 (fun ls hl => ?_)
      refine v_aload_n C (lv_at hl 1 rfl) rfl dX11_firm_38 ?_
      obtain ⟨v39, e39, hr⟩ := ob hr
      refine v_getR C fl_RX11_16 rfl e39 dX11_firm_39 ?_
      refine v_aload_n C (lv_at hl 0 rfl) rfl dX11_firm_42 ?_
      obtain ⟨b43, f43, hr⟩ := ob hr
      obtain ⟨g43, h43⟩ := rcv_n f43
      obtain ⟨⟨v43, S43⟩, e43, hr⟩ := ob hr
      (try dsimp only at hr)
      refine v_callV C (b := b43) h43 (by decide) rfl rfl (k_Jx4a65c_add_9ea2d e43) cw_Jx4a65c_add_9ea2d w_382 w_383 w_384 (show (parseMethodDescriptor (yJx4a65c_add_9ea2d).desc).map (fun d => d.parameters.length) = some 1 by decide +kernel) ⟨by decide, by decide⟩ (rest := []) (stk2 := [.int v43]) (by rw [g43]; rfl) rfl (Nat.le_of_ble_eq_true rfl) hl dX11_firm_43 ?_
      refine v_pop C rfl dX11_firm_46 ?_
      refine v_aload_n C (lv_at hl 0 rfl) rfl dX11_firm_47 ?_
      obtain ⟨v48, e48, hr⟩ := ob hr
      refine v_getI C fl_RX11_100 rfl e48 dX11_firm_48 ?_
      obtain ⟨rfl, rfl⟩ := Prod.mk.inj (os hr)
      exact v_iret C dX11_firm_51
    · rw [if_neg c17] at hr
      refine v_iconst C (-1) (by decide) dX11_firm_20 ?_
      obtain ⟨rfl, rfl⟩ := Prod.mk.inj (os hr)
      exact v_iret C dX11_firm_21
-- X11_holderOn
def f_X11_holderOn_4 : Nat → St → Int32 → (Option Nat) → Int32 → Option ((Option Nat))
  | 0, _, _, _, _ => none
  | n + 1, S, x1, x2, x3 =>
    (if (8 : Int32) ≤ x3 then
    some x2
    else
    (getR S x2 5 2).bind fun v11 =>
    (if v11 = none then
    some x2
    else
    (getI S x2 5 3).bind fun v18 =>
    (if x1 < v18 then
    some x2
    else
    (getR S x2 5 2).bind fun v26 =>
    f_X11_holderOn_4 n S x1 v26 (x3 + 1))))
def f_X11_holderOn (S : St) (x0 : Option Nat) (x1 : Int32) : Option (Option Nat) :=
    f_X11_holderOn_4 FU S x1 x0 0
theorem b_X11_holderOn_4  {S : St} {rr : Option Nat} (C : Cx p s m args meth c G S yX11_holderOn cX11_holderOn 4 (Option.some (Jvm.ClassFile.FieldType.object "SleepOffice$Firm"))) {o : ((Option Nat))} (kR : ∀ (v : Option Nat), o = v → rr = v) : ∀ (n : Nat) {x1 : Int32} {x2 : Option Nat} {x3 : Int32}, f_X11_holderOn_4 n S x1 x2 x3 = some o → ∀ ls : Array Slot, lv_has ls 4 [(1, .int x1), (2, va_rf x2), (3, .int x3)] → V p l e (rmo 0 0 S) s m args below meth c G S S (QM below args s G S S (some (va_rf rr))) (F0 m 4 ls []) := by
  intro n
  induction n with
  | zero => intro x1 x2 x3 hr; cases hr
  | succ n ih =>
    intro x1 x2 x3 hr ls hl
    unfold f_X11_holderOn_4 at hr
    refine v_iload_n C (lv_at hl 2 rfl) rfl dX11_holderOn_4 ?_
    refine v_bipush C 8 (by decide) dX11_holderOn_5 ?_
    refine v_icmp_ge C 36 (by decide) dX11_holderOn_7 (fun c7 => ?_) (fun c7 => ?_)
    · rw [if_pos c7] at hr
      refine v_aload_n C (lv_at hl 1 rfl) rfl dX11_holderOn_36 ?_
      obtain rfl := os hr
      obtain rfl := kR _ rfl
      exact v_aret C (Or.inl ⟨_, rfl⟩) dX11_holderOn_37
    · rw [if_neg c7] at hr
      refine v_aload_n C (lv_at hl 1 rfl) rfl dX11_holderOn_10 ?_
      obtain ⟨v11, e11, hr⟩ := ob hr
      refine v_getR C fl_RX11_111 rfl e11 dX11_holderOn_11 ?_
      refine v_ifnull C 36 (by decide) dX11_holderOn_14 (fun c14 => ?_) (fun c14 => ?_)
      · rw [if_pos c14] at hr
        refine v_aload_n C (lv_at hl 1 rfl) rfl dX11_holderOn_36 ?_
        obtain rfl := os hr
        obtain rfl := kR _ rfl
        exact v_aret C (Or.inl ⟨_, rfl⟩) dX11_holderOn_37
      · rw [if_neg c14] at hr
        refine v_aload_n C (lv_at hl 1 rfl) rfl dX11_holderOn_17 ?_
        obtain ⟨v18, e18, hr⟩ := ob hr
        refine v_getI C fl_RX11_122 rfl e18 dX11_holderOn_18 ?_
        refine v_iload_n C (lv_at hl 0 rfl) rfl dX11_holderOn_21 ?_
        refine v_icmp_gt C 36 (by decide) dX11_holderOn_22 (fun c22 => ?_) (fun c22 => ?_)
        · rw [if_pos c22] at hr
          refine v_aload_n C (lv_at hl 1 rfl) rfl dX11_holderOn_36 ?_
          obtain rfl := os hr
          obtain rfl := kR _ rfl
          exact v_aret C (Or.inl ⟨_, rfl⟩) dX11_holderOn_37
        · rw [if_neg c22] at hr
          refine v_aload_n C (lv_at hl 1 rfl) rfl dX11_holderOn_25 ?_
          obtain ⟨v26, e26, hr⟩ := ob hr
          refine v_getR C fl_RX11_111 rfl e26 dX11_holderOn_26 ?_
          refine v_astore_n C (i := 2) (lv' := [(2, va_rf v26), (1, .int x1), (3, .int x3)]) hl rfl (by decide) rfl dX11_holderOn_29 (fun ls hl => ?_)
          refine v_iinc C (x3 + 1) (k0 := 2) (lv' := [(3, .int (x3 + 1)), (2, va_rf v26), (1, .int x1)]) hl rfl rfl (by decide) (by simp [rf_n2]) dX11_holderOn_30 (fun ls hl => ?_)
          refine v_goto C 4 (by decide) dX11_holderOn_33 ?_
          exact ih hr _ (lv_sub hl [2, 1, 0] rfl)
theorem k_X11_holderOn {l : Launch} {G : Ge} {S : St} {x0 : Option Nat} {x1 : Int32} {rr : Option Nat} (hr : f_X11_holderOn S x0 x1 = some rr) : Ct l G yX11_holderOn cX11_holderOn 4 (Option.some (Jvm.ClassFile.FieldType.object "SleepOffice$Firm")) S [va_rf x0, .int x1] (some (va_rf rr)) S 0 0 := by
  refine ct_of (by decide +kernel) (by cases x0 <;> exact Nat.le_of_ble_eq_true rfl) ?_
  intro p e s m args below meth c C ls hl
  have hl : lv_has ls 4 [(0, va_rf x0), (1, .int x1)] := by clear hr; cases x0 <;> exact hl
  unfold f_X11_holderOn at hr
  refine v_aload_n C (lv_at hl 0 rfl) rfl dX11_holderOn_0 ?_
  refine v_astore_n C (i := 2) (lv' := [(2, va_rf x0), (0, va_rf x0), (1, .int x1)]) hl rfl (by decide) rfl dX11_holderOn_1 (fun ls hl => ?_)
  refine v_iconst C 0 (by decide) dX11_holderOn_2 ?_
  refine v_istore_n C (i := 3) (lv' := [(3, .int 0), (2, va_rf x0), (0, va_rf x0), (1, .int x1)]) hl rfl (by decide) (by simp [rf_n2]) dX11_holderOn_3 (fun ls hl => ?_)
  exact b_X11_holderOn_4 C (fun _ q => by cases q; rfl) FU hr _ (lv_sub hl [3, 1, 0] rfl)
-- X11_firmOn
def f_X11_firmOn (S : St) (x0 : Nat) (x1 : Int32) (x2 : Int32) : Option Int32 :=
    (rcv S (some x0) 12).bind fun b2 =>
    (f_X11_firmAt S b2 x1).bind fun v2 =>
    (if v2 = none then
    some (-1)
    else
    (if x2 < 0 then
    some (-1)
    else
    (if x2 ≤ 19999 then
    (f_X11_holderOn S v2 x2).bind fun v25 =>
    (getI S v25 5 0).bind fun v28 =>
    some v28
    else
    some (-1))))
theorem k_X11_firmOn {l : Launch} {G : Ge} {S : St} {x0 : Nat} {x1 : Int32} {x2 : Int32} {rr : Int32} (hr : f_X11_firmOn S x0 x1 x2 = some rr) : Ct l G yX11_firmOn cX11_firmOn 4 (Option.some Jvm.ClassFile.FieldType.int) S [va_rf (some x0), .int x1, .int x2] (some (.int rr)) S 4 85 := by
  refine ct_of (by decide +kernel) (Nat.le_of_ble_eq_true rfl) ?_
  intro p e s m args below meth c C ls hl
  have hl : lv_has ls 4 [(0, va_rf (some x0)), (1, .int x1), (2, .int x2)] := hl
  unfold f_X11_firmOn at hr
  refine v_aload_n C (lv_at hl 0 rfl) rfl dX11_firmOn_0 ?_
  refine v_iload_n C (lv_at hl 1 rfl) rfl dX11_firmOn_1 ?_
  obtain ⟨b2, f2, hr⟩ := ob hr
  obtain ⟨g2, h2⟩ := rcv_n f2
  obtain ⟨v2, e2, hr⟩ := ob hr
  refine v_callV C (b := b2) h2 (by decide) rfl rfl (k_X11_firmAt e2) cw_X11_firmAt w_445 w_447 w_3 (show (parseMethodDescriptor (yX11_firmAt).desc).map (fun d => d.parameters.length) = some 1 by decide +kernel) ⟨by decide, by decide⟩ (rest := []) (stk2 := [va_rf v2]) (by rw [g2]; rfl) rfl (Nat.le_of_ble_eq_true rfl) hl dX11_firmOn_2 ?_
  refine v_astore_n C (i := 3) (lv' := [(3, va_rf v2), (0, va_rf (some x0)), (1, .int x1), (2, .int x2)]) hl rfl (by decide) rfl dX11_firmOn_5 (fun ls hl => ?_)
  refine v_aload_n C (lv_at hl 0 rfl) rfl dX11_firmOn_6 ?_
  refine v_ifnull C 21 (by decide) dX11_firmOn_7 (fun c7 => ?_) (fun c7 => ?_)
  · rw [if_pos c7] at hr
    refine v_iconst C (-1) (by decide) dX11_firmOn_21 ?_
    obtain rfl := os hr
    exact v_iret C dX11_firmOn_22
  · rw [if_neg c7] at hr
    refine v_iload_n C (lv_at hl 3 rfl) rfl dX11_firmOn_10 ?_
    refine v_if_lt C 21 (by decide) dX11_firmOn_11 (fun c11 => ?_) (fun c11 => ?_)
    · rw [if_pos c11] at hr
      refine v_iconst C (-1) (by decide) dX11_firmOn_21 ?_
      obtain rfl := os hr
      exact v_iret C dX11_firmOn_22
    · rw [if_neg c11] at hr
      refine v_iload_n C (lv_at hl 3 rfl) rfl dX11_firmOn_14 ?_
      refine v_sipush C 19999 (by decide) dX11_firmOn_15 ?_
      refine v_icmp_le C 23 (by decide) dX11_firmOn_18 (fun c18 => ?_) (fun c18 => ?_)
      · rw [if_pos c18] at hr
        refine v_aload_n C (lv_at hl 0 rfl) rfl dX11_firmOn_23 ?_
        refine v_iload_n C (lv_at hl 3 rfl) rfl dX11_firmOn_24 ?_
        obtain ⟨v25, e25, hr⟩ := ob hr
        refine v_callS C (k_X11_holderOn e25) cw_X11_holderOn w_479 w_480 (show (parseMethodDescriptor (yX11_holderOn).desc).map (fun d => d.parameters.length) = some 2 by decide +kernel) ⟨by decide, by decide⟩ (rest := []) (stk2 := [va_rf v25]) rfl rfl (Nat.le_of_ble_eq_true rfl) hl dX11_firmOn_25 ?_
        obtain ⟨v28, e28, hr⟩ := ob hr
        refine v_getI C fl_RX11_100 rfl e28 dX11_firmOn_28 ?_
        obtain rfl := os hr
        exact v_iret C dX11_firmOn_31
      · rw [if_neg c18] at hr
        refine v_iconst C (-1) (by decide) dX11_firmOn_21 ?_
        obtain rfl := os hr
        exact v_iret C dX11_firmOn_22
-- X5_clear
def f_X5_clear (S : St) (x0 : Nat) : Option St :=
    (putI S (some x0) 6 1 0).bind fun S2 =>
    some S2
theorem k_X5_clear {l : Launch} {G : Ge} {S S' : St} {x0 : Nat} (hr : f_X5_clear S x0 = some S') : Ct l G yX5_clear cX5_clear 1 (Option.none : Option Jvm.ClassFile.FieldType) S [va_rf (some x0)] none S' 0 0 := by
  refine ct_of (by decide +kernel) (Nat.le_of_ble_eq_true rfl) ?_
  intro p e s m args below meth c C ls hl
  have hl : lv_has ls 1 [(0, va_rf (some x0))] := hl
  unfold f_X5_clear at hr
  refine v_aload_n C (lv_at hl 0 rfl) rfl dX5_clear_0 ?_
  refine v_iconst C 0 (by decide) dX5_clear_1 ?_
  obtain ⟨S2, e2, hr⟩ := ob hr
  refine v_putI C fl_RX5_17 (Or.inl rfl) rfl e2 dX5_clear_2 ?_
  obtain rfl := os hr
  exact v_vret C dX5_clear_5
-- X5_everybody
def f_X5_everybody (S : St) (x0 : Nat) : Option Int32 :=
    (getI S (some x0) 6 1).bind fun v2 =>
    some (((1 <<< (v2 &&& 31)) - 1) &&& 255)
theorem k_X5_everybody {l : Launch} {G : Ge} {S : St} {x0 : Nat} {rr : Int32} (hr : f_X5_everybody S x0 = some rr) : Ct l G yX5_everybody cX5_everybody 1 (Option.some Jvm.ClassFile.FieldType.int) S [va_rf (some x0)] (some (.int rr)) S 0 0 := by
  refine ct_of (by decide +kernel) (Nat.le_of_ble_eq_true rfl) ?_
  intro p e s m args below meth c C ls hl
  have hl : lv_has ls 1 [(0, va_rf (some x0))] := hl
  unfold f_X5_everybody at hr
  refine v_iconst C 1 (by decide) dX5_everybody_0 ?_
  refine v_aload_n C (lv_at hl 0 rfl) rfl dX5_everybody_1 ?_
  obtain ⟨v2, e2, hr⟩ := ob hr
  refine v_getI C fl_RX5_17 rfl e2 dX5_everybody_2 ?_
  refine v_ishl C dX5_everybody_5 ?_
  refine v_iconst C 1 (by decide) dX5_everybody_6 ?_
  refine v_isub C dX5_everybody_7 ?_
  refine v_sipush C 255 (by decide) dX5_everybody_8 ?_
  refine v_iand C dX5_everybody_11 ?_
  obtain rfl := os hr
  exact v_iret C dX5_everybody_12
-- X5_part
def f_X5_part_125 (rec : St → Nat → Int32 → Int32 → Int32 → Int32 → Int32 → Int32 → Int32 → Option (Nat × Int32 × Int32 × Int32 × St)) (S : St) (x0 : Nat) (x1 : Int32) (x2 : Int32) (x3 : Int32) (x4 : Int32) (x5 : Int32) (x6 : Int32) (x7 : Int32) : Option (Nat × Int32 × Int32 × Int32 × St) :=
    (if x6 = 0 then
    rec S x0 x1 x2 x3 x4 x5 (-1) (x7 + 1)
    else
    rec S x0 x1 x2 x3 x4 x5 ((x6 - 1) &&& x3) (x7 + 1))
def f_X5_part_122 (rec : St → Nat → Int32 → Int32 → Int32 → Int32 → Int32 → Int32 → Int32 → Option (Nat × Int32 × Int32 × Int32 × St)) (S : St) (x0 : Nat) (x1 : Int32) (x2 : Int32) (x3 : Int32) (x4 : Int32) (x6 : Int32) (x7 : Int32) (t0 : Int32) (t1 : Int32) : Option (Nat × Int32 × Int32 × Int32 × St) :=
    f_X5_part_125 (rec) S x0 x1 x2 x3 x4 (t1 + t0) x6 x7
def f_X5_part_102 (rec : St → Nat → Int32 → Int32 → Int32 → Int32 → Int32 → Int32 → Int32 → Option (Nat × Int32 × Int32 × Int32 × St)) (S : St) (x0 : Nat) (x1 : Int32) (x2 : Int32) (x3 : Int32) (x4 : Int32) (x5 : Int32) (x6 : Int32) (x7 : Int32) (x9 : Int32) (x10 : Int32) : Option (Nat × Int32 × Int32 × Int32 × St) :=
    (if x10 = x4 then
    (getR S (some x0) 6 4).bind fun v112 =>
    (ldI S v112 15 x9).bind fun v117 =>
    f_X5_part_122 (rec) S x0 x1 x2 x3 x4 x6 x7 v117 x5
    else
    f_X5_part_122 (rec) S x0 x1 x2 x3 x4 x6 x7 0 x5)
def f_X5_part_23 : Nat → St → Nat → Int32 → Int32 → Int32 → Int32 → Int32 → Int32 → Int32 → Option (Nat × Int32 × Int32 × Int32 × St)
  | 0, _, _, _, _, _, _, _, _, _ => none
  | n + 1, S, x0, x1, x2, x3, x4, x5, x6, x7 =>
    (if (256 : Int32) ≤ x7 then
    some (x0, x1, x4, x5, S)
    else
    (if x6 < 0 then
    some (x0, x1, x4, x5, S)
    else
    (getR S (some x0) 6 2).bind fun v59 =>
    (ldI S v59 15 ((x2 ||| x6) &&& 255)).bind fun v64 =>
    (if v64 = (-9999) then
    f_X5_part_125 (f_X5_part_23 n) S x0 x1 x2 x3 x4 x5 x6 x7
    else
    (getR S (some x0) 6 2).bind fun v72 =>
    (ldI S v72 15 ((x2 ||| x6) &&& 255)).bind fun v77 =>
    (getR S (some x0) 6 3).bind fun v79 =>
    (ldI S v79 15 ((x1 &&& (((x2 ||| x6) &&& 255) ^^^ (-1))) &&& 255)).bind fun v84 =>
    (if (v77 + v84) ≤ x4 then
    f_X5_part_102 (f_X5_part_23 n) S x0 x1 x2 x3 x4 x5 x6 x7 ((x1 &&& (((x2 ||| x6) &&& 255) ^^^ (-1))) &&& 255) (v77 + v84)
    else
    f_X5_part_102 (f_X5_part_23 n) S x0 x1 x2 x3 (v77 + v84) 0 x6 x7 ((x1 &&& (((x2 ||| x6) &&& 255) ^^^ (-1))) &&& 255) (v77 + v84)))))
def f_X5_part_148 (S : St) (x0 : Nat) (x1 : Int32) (x4 : Int32) (x5 : Int32) : Option St :=
    (getR S (some x0) 6 3).bind fun v149 =>
    (stI S v149 15 x1 x4).bind fun S155 =>
    (getR S155 (some x0) 6 4).bind fun v157 =>
    (stI S155 v157 15 x1 x5).bind fun S163 =>
    some S163
def f_X5_part (S : St) (x0 : Nat) (x1 : Int32) : Option St :=
    (f_X5_part_23 FU S x0 x1 (x1 &&& (-x1)) (x1 ^^^ (x1 &&& (-x1))) (-9999) 0 (x1 ^^^ (x1 &&& (-x1))) 0).bind fun (x0, x1_23, x4_23, x5_23, S_23) => f_X5_part_148 S_23 x0 x1_23 x4_23 x5_23
theorem b_X5_part_125  {S0 S S' : St} {x0 : Nat} {x1 : Int32} {x2 : Int32} {x3 : Int32} {x4 : Int32} {x5 : Int32} {x6 : Int32} {x7 : Int32} (C : Cx p s m args meth c G S0 yX5_part cX5_part 11 (Option.none : Option Jvm.ClassFile.FieldType)) {o : (Nat × Int32 × Int32 × Int32 × St)} {rec : St → Nat → Int32 → Int32 → Int32 → Int32 → Int32 → Int32 → Int32 → Option (Nat × Int32 × Int32 × Int32 × St)} (kX148 : ∀ {x0 : Nat} {x1 : Int32} {x4 : Int32} {x5 : Int32} {Z : St}, o = (x0, x1, x4, x5, Z) → ∀ ls : Array Slot, lv_has ls 11 [(0, va_rf (some x0)), (1, .int x1), (4, .int x4), (5, .int x5)] → V p l e (rmo 0 0 S0) s m args below meth c G S0 Z (QM below args s G S0 S' none) (F0 m 148 ls [])) (ihk : ∀ {S : St} {x0 : Nat} {x1 : Int32} {x2 : Int32} {x3 : Int32} {x4 : Int32} {x5 : Int32} {x6 : Int32} {x7 : Int32}, rec S x0 x1 x2 x3 x4 x5 x6 x7 = some o → ∀ ls : Array Slot, lv_has ls 11 [(0, va_rf (some x0)), (1, .int x1), (2, .int x2), (3, .int x3), (4, .int x4), (5, .int x5), (6, .int x6), (7, .int x7)] → V p l e (rmo 0 0 S0) s m args below meth c G S0 S (QM below args s G S0 S' none) (F0 m 23 ls [])) (hr : f_X5_part_125 rec S x0 x1 x2 x3 x4 x5 x6 x7 = some o) : ∀ ls : Array Slot, lv_has ls 11 [(0, va_rf (some x0)), (1, .int x1), (2, .int x2), (3, .int x3), (4, .int x4), (5, .int x5), (6, .int x6), (7, .int x7)] → V p l e (rmo 0 0 S0) s m args below meth c G S0 S (QM below args s G S0 S' none) (F0 m 125 ls []) := by
  intro ls hl
  unfold f_X5_part_125 at hr
  refine v_iload C (lv_at hl 6 rfl) dX5_part_125 ?_
  refine v_if_ne C 134 (by decide) dX5_part_127 (fun c127 => ?_) (fun c127 => ?_)
  · rw [if_neg c127] at hr
    refine v_iload C (lv_at hl 6 rfl) dX5_part_134 ?_
    refine v_iconst C 1 (by decide) dX5_part_136 ?_
    refine v_isub C dX5_part_137 ?_
    refine v_iload_n C (lv_at hl 3 rfl) rfl dX5_part_138 ?_
    refine v_iand C dX5_part_139 ?_
    refine v_istore C (i := 6) (lv' := [(6, .int ((x6 - 1) &&& x3)), (0, va_rf (some x0)), (1, .int x1), (2, .int x2), (3, .int x3), (4, .int x4), (5, .int x5), (7, .int x7)]) hl (by decide) rfl dX5_part_140 (fun ls hl => ?_)
    refine v_iinc C (x7 + 1) (k0 := 7) (lv' := [(7, .int (x7 + 1)), (6, .int ((x6 - 1) &&& x3)), (0, va_rf (some x0)), (1, .int x1), (2, .int x2), (3, .int x3), (4, .int x4), (5, .int x5)]) hl rfl rfl (by decide) rfl dX5_part_142 (fun ls hl => ?_)
    refine v_goto C 23 (by decide) dX5_part_145 ?_
    exact ihk hr _ (lv_sub hl [2, 3, 4, 5, 6, 7, 1, 0] rfl)
  · rw [if_pos c127] at hr
    refine v_iconst C (-1) (by decide) dX5_part_130 ?_
    refine v_goto C 140 (by decide) dX5_part_131 ?_
    refine v_istore C (i := 6) (lv' := [(6, .int (-1)), (0, va_rf (some x0)), (1, .int x1), (2, .int x2), (3, .int x3), (4, .int x4), (5, .int x5), (7, .int x7)]) hl (by decide) rfl dX5_part_140 (fun ls hl => ?_)
    refine v_iinc C (x7 + 1) (k0 := 7) (lv' := [(7, .int (x7 + 1)), (6, .int (-1)), (0, va_rf (some x0)), (1, .int x1), (2, .int x2), (3, .int x3), (4, .int x4), (5, .int x5)]) hl rfl rfl (by decide) rfl dX5_part_142 (fun ls hl => ?_)
    refine v_goto C 23 (by decide) dX5_part_145 ?_
    exact ihk hr _ (lv_sub hl [2, 3, 4, 5, 6, 7, 1, 0] rfl)
theorem b_X5_part_122  {S0 S S' : St} {x0 : Nat} {x1 : Int32} {x2 : Int32} {x3 : Int32} {x4 : Int32} {x6 : Int32} {x7 : Int32} {t0 : Int32} {t1 : Int32} (C : Cx p s m args meth c G S0 yX5_part cX5_part 11 (Option.none : Option Jvm.ClassFile.FieldType)) {o : (Nat × Int32 × Int32 × Int32 × St)} {rec : St → Nat → Int32 → Int32 → Int32 → Int32 → Int32 → Int32 → Int32 → Option (Nat × Int32 × Int32 × Int32 × St)} (kX148 : ∀ {x0 : Nat} {x1 : Int32} {x4 : Int32} {x5 : Int32} {Z : St}, o = (x0, x1, x4, x5, Z) → ∀ ls : Array Slot, lv_has ls 11 [(0, va_rf (some x0)), (1, .int x1), (4, .int x4), (5, .int x5)] → V p l e (rmo 0 0 S0) s m args below meth c G S0 Z (QM below args s G S0 S' none) (F0 m 148 ls [])) (ihk : ∀ {S : St} {x0 : Nat} {x1 : Int32} {x2 : Int32} {x3 : Int32} {x4 : Int32} {x5 : Int32} {x6 : Int32} {x7 : Int32}, rec S x0 x1 x2 x3 x4 x5 x6 x7 = some o → ∀ ls : Array Slot, lv_has ls 11 [(0, va_rf (some x0)), (1, .int x1), (2, .int x2), (3, .int x3), (4, .int x4), (5, .int x5), (6, .int x6), (7, .int x7)] → V p l e (rmo 0 0 S0) s m args below meth c G S0 S (QM below args s G S0 S' none) (F0 m 23 ls [])) (hr : f_X5_part_122 rec S x0 x1 x2 x3 x4 x6 x7 t0 t1 = some o) : ∀ ls : Array Slot, lv_has ls 11 [(0, va_rf (some x0)), (1, .int x1), (2, .int x2), (3, .int x3), (4, .int x4), (6, .int x6), (7, .int x7)] → V p l e (rmo 0 0 S0) s m args below meth c G S0 S (QM below args s G S0 S' none) (F0 m 122 ls [.int t0, .int t1]) := by
  intro ls hl
  unfold f_X5_part_122 at hr
  refine v_iadd C dX5_part_122 ?_
  refine v_istore C (i := 5) (lv' := [(5, .int (t1 + t0)), (0, va_rf (some x0)), (1, .int x1), (2, .int x2), (3, .int x3), (4, .int x4), (6, .int x6), (7, .int x7)]) hl (by decide) rfl dX5_part_123 (fun ls hl => ?_)
  exact b_X5_part_125 C (@kX148) (@ihk) hr _ (lv_sub hl [1, 2, 3, 4, 5, 0, 6, 7] rfl)
theorem b_X5_part_102  {S0 S S' : St} {x0 : Nat} {x1 : Int32} {x2 : Int32} {x3 : Int32} {x4 : Int32} {x5 : Int32} {x6 : Int32} {x7 : Int32} {x9 : Int32} {x10 : Int32} (C : Cx p s m args meth c G S0 yX5_part cX5_part 11 (Option.none : Option Jvm.ClassFile.FieldType)) {o : (Nat × Int32 × Int32 × Int32 × St)} {rec : St → Nat → Int32 → Int32 → Int32 → Int32 → Int32 → Int32 → Int32 → Option (Nat × Int32 × Int32 × Int32 × St)} (kX148 : ∀ {x0 : Nat} {x1 : Int32} {x4 : Int32} {x5 : Int32} {Z : St}, o = (x0, x1, x4, x5, Z) → ∀ ls : Array Slot, lv_has ls 11 [(0, va_rf (some x0)), (1, .int x1), (4, .int x4), (5, .int x5)] → V p l e (rmo 0 0 S0) s m args below meth c G S0 Z (QM below args s G S0 S' none) (F0 m 148 ls [])) (ihk : ∀ {S : St} {x0 : Nat} {x1 : Int32} {x2 : Int32} {x3 : Int32} {x4 : Int32} {x5 : Int32} {x6 : Int32} {x7 : Int32}, rec S x0 x1 x2 x3 x4 x5 x6 x7 = some o → ∀ ls : Array Slot, lv_has ls 11 [(0, va_rf (some x0)), (1, .int x1), (2, .int x2), (3, .int x3), (4, .int x4), (5, .int x5), (6, .int x6), (7, .int x7)] → V p l e (rmo 0 0 S0) s m args below meth c G S0 S (QM below args s G S0 S' none) (F0 m 23 ls [])) (hr : f_X5_part_102 rec S x0 x1 x2 x3 x4 x5 x6 x7 x9 x10 = some o) : ∀ ls : Array Slot, lv_has ls 11 [(0, va_rf (some x0)), (1, .int x1), (2, .int x2), (3, .int x3), (4, .int x4), (5, .int x5), (6, .int x6), (7, .int x7), (9, .int x9), (10, .int x10)] → V p l e (rmo 0 0 S0) s m args below meth c G S0 S (QM below args s G S0 S' none) (F0 m 102 ls []) := by
  intro ls hl
  unfold f_X5_part_102 at hr
  refine v_iload C (lv_at hl 5 rfl) dX5_part_102 ?_
  refine v_iload C (lv_at hl 9 rfl) dX5_part_104 ?_
  refine v_iload C (lv_at hl 4 rfl) dX5_part_106 ?_
  refine v_icmp_ne C 121 (by decide) dX5_part_108 (fun c108 => ?_) (fun c108 => ?_)
  · rw [if_neg c108] at hr
    refine v_iconst C 0 (by decide) dX5_part_121 ?_
    exact b_X5_part_122 C (@kX148) (@ihk) hr _ (lv_sub hl [0, 1, 2, 3, 4, 6, 7] rfl)
  · rw [if_pos c108] at hr
    refine v_aload_n C (lv_at hl 0 rfl) rfl dX5_part_111 ?_
    obtain ⟨v112, e112, hr⟩ := ob hr
    refine v_getR C fl_RX5_28 rfl e112 dX5_part_112 ?_
    refine v_iload C (lv_at hl 8 rfl) dX5_part_115 ?_
    obtain ⟨v117, e117, hr⟩ := ob hr
    refine v_ldI_i C e117 dX5_part_117 ?_
    refine v_goto C 122 (by decide) dX5_part_118 ?_
    exact b_X5_part_122 C (@kX148) (@ihk) hr _ (lv_sub hl [0, 1, 2, 3, 4, 6, 7] rfl)
theorem b_X5_part_23  {S0 S' : St} (C : Cx p s m args meth c G S0 yX5_part cX5_part 11 (Option.none : Option Jvm.ClassFile.FieldType)) {o : (Nat × Int32 × Int32 × Int32 × St)} (kX148 : ∀ {x0 : Nat} {x1 : Int32} {x4 : Int32} {x5 : Int32} {Z : St}, o = (x0, x1, x4, x5, Z) → ∀ ls : Array Slot, lv_has ls 11 [(0, va_rf (some x0)), (1, .int x1), (4, .int x4), (5, .int x5)] → V p l e (rmo 0 0 S0) s m args below meth c G S0 Z (QM below args s G S0 S' none) (F0 m 148 ls [])) : ∀ (n : Nat) {S : St} {x0 : Nat} {x1 : Int32} {x2 : Int32} {x3 : Int32} {x4 : Int32} {x5 : Int32} {x6 : Int32} {x7 : Int32}, f_X5_part_23 n S x0 x1 x2 x3 x4 x5 x6 x7 = some o → ∀ ls : Array Slot, lv_has ls 11 [(0, va_rf (some x0)), (1, .int x1), (2, .int x2), (3, .int x3), (4, .int x4), (5, .int x5), (6, .int x6), (7, .int x7)] → V p l e (rmo 0 0 S0) s m args below meth c G S0 S (QM below args s G S0 S' none) (F0 m 23 ls []) := by
  intro n
  induction n with
  | zero => intro S x0 x1 x2 x3 x4 x5 x6 x7 hr; cases hr
  | succ n ih =>
    intro S x0 x1 x2 x3 x4 x5 x6 x7 hr ls hl
    unfold f_X5_part_23 at hr
    refine v_iload C (lv_at hl 7 rfl) dX5_part_23 ?_
    refine v_sipush C 256 (by decide) dX5_part_25 ?_
    refine v_icmp_ge C 148 (by decide) dX5_part_28 (fun c28 => ?_) (fun c28 => ?_)
    · rw [if_pos c28] at hr
      obtain rfl := os hr
      exact kX148 rfl _ (lv_sub hl [0, 1, 4, 5] rfl)
    · rw [if_neg c28] at hr
      refine v_iload C (lv_at hl 6 rfl) dX5_part_31 ?_
      refine v_if_lt C 148 (by decide) dX5_part_33 (fun c33 => ?_) (fun c33 => ?_)
      · rw [if_pos c33] at hr
        obtain rfl := os hr
        exact kX148 rfl _ (lv_sub hl [0, 1, 4, 5] rfl)
      · rw [if_neg c33] at hr
        refine v_iload_n C (lv_at hl 2 rfl) rfl dX5_part_36 ?_
        refine v_iload C (lv_at hl 6 rfl) dX5_part_37 ?_
        refine v_ior C dX5_part_39 ?_
        refine v_sipush C 255 (by decide) dX5_part_40 ?_
        refine v_iand C dX5_part_43 ?_
        refine v_istore C (i := 8) (lv' := [(8, .int ((x2 ||| x6) &&& 255)), (0, va_rf (some x0)), (1, .int x1), (2, .int x2), (3, .int x3), (4, .int x4), (5, .int x5), (6, .int x6), (7, .int x7)]) hl (by decide) rfl dX5_part_44 (fun ls hl => ?_)
        refine v_iload_n C (lv_at hl 2 rfl) rfl dX5_part_46 ?_
        refine v_iload C (lv_at hl 0 rfl) dX5_part_47 ?_
        refine v_iconst C (-1) (by decide) dX5_part_49 ?_
        refine v_ixor C dX5_part_50 ?_
        refine v_iand C dX5_part_51 ?_
        refine v_sipush C 255 (by decide) dX5_part_52 ?_
        refine v_iand C dX5_part_55 ?_
        refine v_istore C (i := 9) (lv' := [(9, .int ((x1 &&& (((x2 ||| x6) &&& 255) ^^^ (-1))) &&& 255)), (8, .int ((x2 ||| x6) &&& 255)), (0, va_rf (some x0)), (1, .int x1), (2, .int x2), (3, .int x3), (4, .int x4), (5, .int x5), (6, .int x6), (7, .int x7)]) hl (by decide) rfl dX5_part_56 (fun ls hl => ?_)
        refine v_aload_n C (lv_at hl 2 rfl) rfl dX5_part_58 ?_
        obtain ⟨v59, e59, hr⟩ := ob hr
        refine v_getR C fl_RX5_21 rfl e59 dX5_part_59 ?_
        refine v_iload C (lv_at hl 1 rfl) dX5_part_62 ?_
        obtain ⟨v64, e64, hr⟩ := ob hr
        refine v_ldI_i C e64 dX5_part_64 ?_
        refine v_sipush C (-9999) (by decide) dX5_part_65 ?_
        refine v_icmp_eq C 125 (by decide) dX5_part_68 (fun c68 => ?_) (fun c68 => ?_)
        · rw [if_pos c68] at hr
          exact b_X5_part_125 C (@kX148) (@ih) hr _ (lv_sub hl [2, 3, 4, 5, 6, 7, 8, 9] rfl)
        · rw [if_neg c68] at hr
          refine v_aload_n C (lv_at hl 2 rfl) rfl dX5_part_71 ?_
          obtain ⟨v72, e72, hr⟩ := ob hr
          refine v_getR C fl_RX5_21 rfl e72 dX5_part_72 ?_
          refine v_iload C (lv_at hl 1 rfl) dX5_part_75 ?_
          obtain ⟨v77, e77, hr⟩ := ob hr
          refine v_ldI_i C e77 dX5_part_77 ?_
          refine v_aload_n C (lv_at hl 2 rfl) rfl dX5_part_78 ?_
          obtain ⟨v79, e79, hr⟩ := ob hr
          refine v_getR C fl_RX5_25 rfl e79 dX5_part_79 ?_
          refine v_iload C (lv_at hl 0 rfl) dX5_part_82 ?_
          obtain ⟨v84, e84, hr⟩ := ob hr
          refine v_ldI_i C e84 dX5_part_84 ?_
          refine v_iadd C dX5_part_85 ?_
          refine v_istore C (i := 10) (lv' := [(10, .int (v77 + v84)), (9, .int ((x1 &&& (((x2 ||| x6) &&& 255) ^^^ (-1))) &&& 255)), (8, .int ((x2 ||| x6) &&& 255)), (0, va_rf (some x0)), (1, .int x1), (2, .int x2), (3, .int x3), (4, .int x4), (5, .int x5), (6, .int x6), (7, .int x7)]) hl (by decide) rfl dX5_part_86 (fun ls hl => ?_)
          refine v_iload C (lv_at hl 0 rfl) dX5_part_88 ?_
          refine v_iload C (lv_at hl 7 rfl) dX5_part_90 ?_
          refine v_icmp_le C 102 (by decide) dX5_part_92 (fun c92 => ?_) (fun c92 => ?_)
          · rw [if_pos c92] at hr
            exact b_X5_part_102 C (@kX148) (@ih) hr _ (lv_sub hl [3, 4, 5, 6, 7, 8, 9, 10, 1, 0] rfl)
          · rw [if_neg c92] at hr
            refine v_iload C (lv_at hl 0 rfl) dX5_part_95 ?_
            refine v_istore C (i := 4) (lv' := [(4, .int (v77 + v84)), (10, .int (v77 + v84)), (9, .int ((x1 &&& (((x2 ||| x6) &&& 255) ^^^ (-1))) &&& 255)), (8, .int ((x2 ||| x6) &&& 255)), (0, va_rf (some x0)), (1, .int x1), (2, .int x2), (3, .int x3), (5, .int x5), (6, .int x6), (7, .int x7)]) hl (by decide) rfl dX5_part_97 (fun ls hl => ?_)
            refine v_iconst C 0 (by decide) dX5_part_99 ?_
            refine v_istore C (i := 5) (lv' := [(5, .int 0), (4, .int (v77 + v84)), (10, .int (v77 + v84)), (9, .int ((x1 &&& (((x2 ||| x6) &&& 255) ^^^ (-1))) &&& 255)), (8, .int ((x2 ||| x6) &&& 255)), (0, va_rf (some x0)), (1, .int x1), (2, .int x2), (3, .int x3), (6, .int x6), (7, .int x7)]) hl (by decide) rfl dX5_part_100 (fun ls hl => ?_)
            exact b_X5_part_102 C (@kX148) (@ih) hr _ (lv_sub hl [5, 6, 7, 8, 1, 0, 9, 10, 3, 2] rfl)
theorem b_X5_part_148  {S0 S S' : St} {x0 : Nat} {x1 : Int32} {x4 : Int32} {x5 : Int32} (C : Cx p s m args meth c G S0 yX5_part cX5_part 11 (Option.none : Option Jvm.ClassFile.FieldType)) (hr : f_X5_part_148 S x0 x1 x4 x5 = some S') : ∀ ls : Array Slot, lv_has ls 11 [(0, va_rf (some x0)), (1, .int x1), (4, .int x4), (5, .int x5)] → V p l e (rmo 0 0 S0) s m args below meth c G S0 S (QM below args s G S0 S' none) (F0 m 148 ls []) := by
  intro ls hl
  unfold f_X5_part_148 at hr
  refine v_aload_n C (lv_at hl 0 rfl) rfl dX5_part_148 ?_
  obtain ⟨v149, e149, hr⟩ := ob hr
  refine v_getR C fl_RX5_25 rfl e149 dX5_part_149 ?_
  refine v_iload_n C (lv_at hl 1 rfl) rfl dX5_part_152 ?_
  refine v_iload C (lv_at hl 2 rfl) dX5_part_153 ?_
  obtain ⟨S155, e155, hr⟩ := ob hr
  refine v_stI_i C e155 dX5_part_155 ?_
  refine v_aload_n C (lv_at hl 0 rfl) rfl dX5_part_156 ?_
  obtain ⟨v157, e157, hr⟩ := ob hr
  refine v_getR C fl_RX5_28 rfl e157 dX5_part_157 ?_
  refine v_iload_n C (lv_at hl 1 rfl) rfl dX5_part_160 ?_
  refine v_iload C (lv_at hl 3 rfl) dX5_part_161 ?_
  obtain ⟨S163, e163, hr⟩ := ob hr
  refine v_stI_i C e163 dX5_part_163 ?_
  obtain rfl := os hr
  exact v_vret C dX5_part_164
theorem k_X5_part {l : Launch} {G : Ge} {S S' : St} {x0 : Nat} {x1 : Int32} (hr : f_X5_part S x0 x1 = some S') : Ct l G yX5_part cX5_part 11 (Option.none : Option Jvm.ClassFile.FieldType) S [va_rf (some x0), .int x1] none S' 0 0 := by
  refine ct_of (by decide +kernel) (Nat.le_of_ble_eq_true rfl) ?_
  intro p e s m args below meth c C ls hl
  have hl : lv_has ls 11 [(0, va_rf (some x0)), (1, .int x1)] := hl
  unfold f_X5_part at hr
  refine v_iload_n C (lv_at hl 1 rfl) rfl dX5_part_0 ?_
  refine v_iload_n C (lv_at hl 1 rfl) rfl dX5_part_1 ?_
  refine v_ineg C dX5_part_2 ?_
  refine v_iand C dX5_part_3 ?_
  refine v_istore_n C (i := 2) (lv' := [(2, .int (x1 &&& (-x1))), (0, va_rf (some x0)), (1, .int x1)]) hl rfl (by decide) rfl dX5_part_4 (fun ls hl => ?_)
  refine v_iload_n C (lv_at hl 2 rfl) rfl dX5_part_5 ?_
  refine v_iload_n C (lv_at hl 0 rfl) rfl dX5_part_6 ?_
  refine v_ixor C dX5_part_7 ?_
  refine v_istore_n C (i := 3) (lv' := [(3, .int (x1 ^^^ (x1 &&& (-x1)))), (2, .int (x1 &&& (-x1))), (0, va_rf (some x0)), (1, .int x1)]) hl rfl (by decide) rfl dX5_part_8 (fun ls hl => ?_)
  refine v_sipush C (-9999) (by decide) dX5_part_9 ?_
  refine v_istore C (i := 4) (lv' := [(4, .int (-9999)), (3, .int (x1 ^^^ (x1 &&& (-x1)))), (2, .int (x1 &&& (-x1))), (0, va_rf (some x0)), (1, .int x1)]) hl (by decide) rfl dX5_part_12 (fun ls hl => ?_)
  refine v_iconst C 0 (by decide) dX5_part_14 ?_
  refine v_istore C (i := 5) (lv' := [(5, .int 0), (4, .int (-9999)), (3, .int (x1 ^^^ (x1 &&& (-x1)))), (2, .int (x1 &&& (-x1))), (0, va_rf (some x0)), (1, .int x1)]) hl (by decide) rfl dX5_part_15 (fun ls hl => ?_)
  refine v_iload_n C (lv_at hl 2 rfl) rfl dX5_part_17 ?_
  refine v_istore C (i := 6) (lv' := [(6, .int (x1 ^^^ (x1 &&& (-x1)))), (5, .int 0), (4, .int (-9999)), (3, .int (x1 ^^^ (x1 &&& (-x1)))), (2, .int (x1 &&& (-x1))), (0, va_rf (some x0)), (1, .int x1)]) hl (by decide) rfl dX5_part_18 (fun ls hl => ?_)
  refine v_iconst C 0 (by decide) dX5_part_20 ?_
  refine v_istore C (i := 7) (lv' := [(7, .int 0), (6, .int (x1 ^^^ (x1 &&& (-x1)))), (5, .int 0), (4, .int (-9999)), (3, .int (x1 ^^^ (x1 &&& (-x1)))), (2, .int (x1 &&& (-x1))), (0, va_rf (some x0)), (1, .int x1)]) hl (by decide) rfl dX5_part_21 (fun ls hl => ?_)
  obtain ⟨o23, e23, hr⟩ := ob hr
  refine b_X5_part_23 C ?_ FU e23 _ (lv_sub hl [6, 7, 5, 4, 3, 2, 1, 0] rfl)
  · intro x0 x1_23 x4_23 x5_23 S_23 q ls hl
    subst q
    (try dsimp only at hr)
    exact b_X5_part_148 C hr _ (lv_sub hl [0, 1, 2, 3] rfl)
-- X8_diedAheadOf
def f_X8_diedAheadOf (S : St) (x0 : Nat) (x1 : Option Nat) : Option Int32 :=
    (getI S (some x0) 9 6).bind fun v1 =>
    (if v1 = (-1) then
    some 0
    else
    (getI S x1 9 2).bind fun v9 =>
    (if v9 = (-1) then
    some 0
    else
    (getI S (some x0) 9 6).bind fun v17 =>
    (getI S x1 9 2).bind fun v21 =>
    (if v21 ≤ v17 then
    some 0
    else
    some 1)))
theorem k_X8_diedAheadOf {l : Launch} {G : Ge} {S : St} {x0 : Nat} {x1 : Option Nat} {rr : Int32} (hr : f_X8_diedAheadOf S x0 x1 = some rr) : Ct l G yX8_diedAheadOf cX8_diedAheadOf 2 (Option.some Jvm.ClassFile.FieldType.boolean) S [va_rf (some x0), va_rf x1] (some (.int rr)) S 0 0 := by
  refine ct_of (by decide +kernel) (by cases x1 <;> exact Nat.le_of_ble_eq_true rfl) ?_
  intro p e s m args below meth c C ls hl
  have hl : lv_has ls 2 [(0, va_rf (some x0)), (1, va_rf x1)] := by clear hr; cases x1 <;> exact hl
  unfold f_X8_diedAheadOf at hr
  refine v_aload_n C (lv_at hl 0 rfl) rfl dX8_diedAheadOf_0 ?_
  obtain ⟨v1, e1, hr⟩ := ob hr
  refine v_getI C fl_RX8_15 rfl e1 dX8_diedAheadOf_1 ?_
  refine v_iconst C (-1) (by decide) dX8_diedAheadOf_4 ?_
  refine v_icmp_eq C 31 (by decide) dX8_diedAheadOf_5 (fun c5 => ?_) (fun c5 => ?_)
  · rw [if_pos c5] at hr
    refine v_iconst C 0 (by decide) dX8_diedAheadOf_31 ?_
    obtain rfl := os hr
    exact v_zret C rfl dX8_diedAheadOf_32
  · rw [if_neg c5] at hr
    refine v_aload_n C (lv_at hl 1 rfl) rfl dX8_diedAheadOf_8 ?_
    obtain ⟨v9, e9, hr⟩ := ob hr
    refine v_getI C fl_RX8_27 rfl e9 dX8_diedAheadOf_9 ?_
    refine v_iconst C (-1) (by decide) dX8_diedAheadOf_12 ?_
    refine v_icmp_eq C 31 (by decide) dX8_diedAheadOf_13 (fun c13 => ?_) (fun c13 => ?_)
    · rw [if_pos c13] at hr
      refine v_iconst C 0 (by decide) dX8_diedAheadOf_31 ?_
      obtain rfl := os hr
      exact v_zret C rfl dX8_diedAheadOf_32
    · rw [if_neg c13] at hr
      refine v_aload_n C (lv_at hl 0 rfl) rfl dX8_diedAheadOf_16 ?_
      obtain ⟨v17, e17, hr⟩ := ob hr
      refine v_getI C fl_RX8_15 rfl e17 dX8_diedAheadOf_17 ?_
      refine v_aload_n C (lv_at hl 1 rfl) rfl dX8_diedAheadOf_20 ?_
      obtain ⟨v21, e21, hr⟩ := ob hr
      refine v_getI C fl_RX8_27 rfl e21 dX8_diedAheadOf_21 ?_
      refine v_icmp_ge C 31 (by decide) dX8_diedAheadOf_24 (fun c24 => ?_) (fun c24 => ?_)
      · rw [if_pos c24] at hr
        refine v_iconst C 0 (by decide) dX8_diedAheadOf_31 ?_
        obtain rfl := os hr
        exact v_zret C rfl dX8_diedAheadOf_32
      · rw [if_neg c24] at hr
        refine v_iconst C 1 (by decide) dX8_diedAheadOf_27 ?_
        refine v_goto C 32 (by decide) dX8_diedAheadOf_28 ?_
        obtain rfl := os hr
        exact v_zret C rfl dX8_diedAheadOf_32
-- X8_isKnownUnlike
def f_X8_isKnownUnlike (S : St) (x0 : Int32) (x1 : Int32) : Option Int32 :=
    (if x0 = (-1) then
    some 0
    else
    (if x1 = (-1) then
    some 0
    else
    (if x0 = x1 then
    some 0
    else
    some 1)))
theorem k_X8_isKnownUnlike {l : Launch} {G : Ge} {S : St} {x0 : Int32} {x1 : Int32} {rr : Int32} (hr : f_X8_isKnownUnlike S x0 x1 = some rr) : Ct l G yX8_isKnownUnlike cX8_isKnownUnlike 2 (Option.some Jvm.ClassFile.FieldType.boolean) S [.int x0, .int x1] (some (.int rr)) S 0 0 := by
  refine ct_of (by decide +kernel) (Nat.le_of_ble_eq_true rfl) ?_
  intro p e s m args below meth c C ls hl
  have hl : lv_has ls 2 [(0, .int x0), (1, .int x1)] := hl
  unfold f_X8_isKnownUnlike at hr
  refine v_iload_n C (lv_at hl 0 rfl) rfl dX8_isKnownUnlike_0 ?_
  refine v_iconst C (-1) (by decide) dX8_isKnownUnlike_1 ?_
  refine v_icmp_eq C 19 (by decide) dX8_isKnownUnlike_2 (fun c2 => ?_) (fun c2 => ?_)
  · rw [if_pos c2] at hr
    refine v_iconst C 0 (by decide) dX8_isKnownUnlike_19 ?_
    obtain rfl := os hr
    exact v_zret C rfl dX8_isKnownUnlike_20
  · rw [if_neg c2] at hr
    refine v_iload_n C (lv_at hl 1 rfl) rfl dX8_isKnownUnlike_5 ?_
    refine v_iconst C (-1) (by decide) dX8_isKnownUnlike_6 ?_
    refine v_icmp_eq C 19 (by decide) dX8_isKnownUnlike_7 (fun c7 => ?_) (fun c7 => ?_)
    · rw [if_pos c7] at hr
      refine v_iconst C 0 (by decide) dX8_isKnownUnlike_19 ?_
      obtain rfl := os hr
      exact v_zret C rfl dX8_isKnownUnlike_20
    · rw [if_neg c7] at hr
      refine v_iload_n C (lv_at hl 0 rfl) rfl dX8_isKnownUnlike_10 ?_
      refine v_iload_n C (lv_at hl 1 rfl) rfl dX8_isKnownUnlike_11 ?_
      refine v_icmp_eq C 19 (by decide) dX8_isKnownUnlike_12 (fun c12 => ?_) (fun c12 => ?_)
      · rw [if_pos c12] at hr
        refine v_iconst C 0 (by decide) dX8_isKnownUnlike_19 ?_
        obtain rfl := os hr
        exact v_zret C rfl dX8_isKnownUnlike_20
      · rw [if_neg c12] at hr
        refine v_iconst C 1 (by decide) dX8_isKnownUnlike_15 ?_
        refine v_goto C 20 (by decide) dX8_isKnownUnlike_16 ?_
        obtain rfl := os hr
        exact v_zret C rfl dX8_isKnownUnlike_20
-- X8_isBarredFrom
def f_X8_isBarredFrom (S : St) (x0 : Nat) (x1 : Option Nat) : Option Int32 :=
    (getI S (some x0) 9 2).bind fun v1 =>
    (getI S x1 9 2).bind fun v5 =>
    (f_X8_isKnownUnlike S v1 v5).bind fun v8 =>
    (if v8 = 0 then
    (getI S (some x0) 9 3).bind fun v15 =>
    (getI S x1 9 3).bind fun v19 =>
    (f_X8_isKnownUnlike S v15 v19).bind fun v22 =>
    (if v22 = 0 then
    (rcv S (some x0) 9).bind fun b30 =>
    (f_X8_diedAheadOf S b30 x1).bind fun v30 =>
    (if v30 = 0 then
    (rcv S x1 9).bind fun b38 =>
    (f_X8_diedAheadOf S b38 (some x0)).bind fun v38 =>
    (if v38 = 0 then
    some 0
    else
    some 1)
    else
    some 1)
    else
    some 1)
    else
    some 1)
theorem k_X8_isBarredFrom {l : Launch} {G : Ge} {S : St} {x0 : Nat} {x1 : Option Nat} {rr : Int32} (hr : f_X8_isBarredFrom S x0 x1 = some rr) : Ct l G yX8_isBarredFrom cX8_isBarredFrom 2 (Option.some Jvm.ClassFile.FieldType.boolean) S [va_rf (some x0), va_rf x1] (some (.int rr)) S 1 21 := by
  refine ct_of (by decide +kernel) (by cases x1 <;> exact Nat.le_of_ble_eq_true rfl) ?_
  intro p e s m args below meth c C ls hl
  have hl : lv_has ls 2 [(0, va_rf (some x0)), (1, va_rf x1)] := by clear hr; cases x1 <;> exact hl
  unfold f_X8_isBarredFrom at hr
  refine v_aload_n C (lv_at hl 0 rfl) rfl dX8_isBarredFrom_0 ?_
  obtain ⟨v1, e1, hr⟩ := ob hr
  refine v_getI C fl_RX8_27 rfl e1 dX8_isBarredFrom_1 ?_
  refine v_aload_n C (lv_at hl 1 rfl) rfl dX8_isBarredFrom_4 ?_
  obtain ⟨v5, e5, hr⟩ := ob hr
  refine v_getI C fl_RX8_27 rfl e5 dX8_isBarredFrom_5 ?_
  obtain ⟨v8, e8, hr⟩ := ob hr
  refine v_callS C (k_X8_isKnownUnlike e8) cw_X8_isKnownUnlike w_993 w_994 (show (parseMethodDescriptor (yX8_isKnownUnlike).desc).map (fun d => d.parameters.length) = some 2 by decide +kernel) ⟨by decide, by decide⟩ (rest := []) (stk2 := [.int v8]) rfl rfl (Nat.le_of_ble_eq_true rfl) hl dX8_isBarredFrom_8 ?_
  refine v_if_ne C 44 (by decide) dX8_isBarredFrom_11 (fun c11 => ?_) (fun c11 => ?_)
  · rw [if_neg c11] at hr
    refine v_iconst C 1 (by decide) dX8_isBarredFrom_44 ?_
    refine v_goto C 49 (by decide) dX8_isBarredFrom_45 ?_
    obtain rfl := os hr
    exact v_zret C rfl dX8_isBarredFrom_49
  · rw [if_pos c11] at hr
    refine v_aload_n C (lv_at hl 0 rfl) rfl dX8_isBarredFrom_14 ?_
    obtain ⟨v15, e15, hr⟩ := ob hr
    refine v_getI C fl_RX8_30 rfl e15 dX8_isBarredFrom_15 ?_
    refine v_aload_n C (lv_at hl 1 rfl) rfl dX8_isBarredFrom_18 ?_
    obtain ⟨v19, e19, hr⟩ := ob hr
    refine v_getI C fl_RX8_30 rfl e19 dX8_isBarredFrom_19 ?_
    obtain ⟨v22, e22, hr⟩ := ob hr
    refine v_callS C (k_X8_isKnownUnlike e22) cw_X8_isKnownUnlike w_993 w_994 (show (parseMethodDescriptor (yX8_isKnownUnlike).desc).map (fun d => d.parameters.length) = some 2 by decide +kernel) ⟨by decide, by decide⟩ (rest := []) (stk2 := [.int v22]) rfl rfl (Nat.le_of_ble_eq_true rfl) hl dX8_isBarredFrom_22 ?_
    refine v_if_ne C 44 (by decide) dX8_isBarredFrom_25 (fun c25 => ?_) (fun c25 => ?_)
    · rw [if_neg c25] at hr
      refine v_iconst C 1 (by decide) dX8_isBarredFrom_44 ?_
      refine v_goto C 49 (by decide) dX8_isBarredFrom_45 ?_
      obtain rfl := os hr
      exact v_zret C rfl dX8_isBarredFrom_49
    · rw [if_pos c25] at hr
      refine v_aload_n C (lv_at hl 0 rfl) rfl dX8_isBarredFrom_28 ?_
      refine v_aload_n C (lv_at hl 1 rfl) rfl dX8_isBarredFrom_29 ?_
      obtain ⟨b30, f30, hr⟩ := ob hr
      obtain ⟨g30, h30⟩ := rcv_n f30
      obtain ⟨v30, e30, hr⟩ := ob hr
      refine v_callV C (b := b30) h30 (by decide) rfl rfl (k_X8_diedAheadOf e30) cw_X8_diedAheadOf w_996 w_998 w_27 (show (parseMethodDescriptor (yX8_diedAheadOf).desc).map (fun d => d.parameters.length) = some 1 by decide +kernel) ⟨by decide, by decide⟩ (rest := []) (stk2 := [.int v30]) (by rw [g30]; rfl) rfl (Nat.le_of_ble_eq_true rfl) hl dX8_isBarredFrom_30 ?_
      refine v_if_ne C 44 (by decide) dX8_isBarredFrom_33 (fun c33 => ?_) (fun c33 => ?_)
      · rw [if_neg c33] at hr
        refine v_iconst C 1 (by decide) dX8_isBarredFrom_44 ?_
        refine v_goto C 49 (by decide) dX8_isBarredFrom_45 ?_
        obtain rfl := os hr
        exact v_zret C rfl dX8_isBarredFrom_49
      · rw [if_pos c33] at hr
        refine v_aload_n C (lv_at hl 1 rfl) rfl dX8_isBarredFrom_36 ?_
        refine v_aload_n C (lv_at hl 0 rfl) rfl dX8_isBarredFrom_37 ?_
        obtain ⟨b38, f38, hr⟩ := ob hr
        obtain ⟨g38, h38⟩ := rcv_n f38
        obtain ⟨v38, e38, hr⟩ := ob hr
        refine v_callV C (b := b38) h38 (by decide) rfl rfl (k_X8_diedAheadOf e38) cw_X8_diedAheadOf w_996 w_998 w_27 (show (parseMethodDescriptor (yX8_diedAheadOf).desc).map (fun d => d.parameters.length) = some 1 by decide +kernel) ⟨by decide, by decide⟩ (rest := []) (stk2 := [.int v38]) (by rw [g38]; rfl) rfl (Nat.le_of_ble_eq_true rfl) hl dX8_isBarredFrom_38 ?_
        refine v_if_eq C 48 (by decide) dX8_isBarredFrom_41 (fun c41 => ?_) (fun c41 => ?_)
        · rw [if_pos c41] at hr
          refine v_iconst C 0 (by decide) dX8_isBarredFrom_48 ?_
          obtain rfl := os hr
          exact v_zret C rfl dX8_isBarredFrom_49
        · rw [if_neg c41] at hr
          refine v_iconst C 1 (by decide) dX8_isBarredFrom_44 ?_
          refine v_goto C 49 (by decide) dX8_isBarredFrom_45 ?_
          obtain rfl := os hr
          exact v_zret C rfl dX8_isBarredFrom_49
end Mth
