section Mth
variable {p : Program} {l : Launch} {e : Env} {s : State} {m : MethodId} {args : Array Value} {below : List Frame} {meth : Method} {c : Code} {G : Ge}
-- X9_init
def f_X9_init (S : St) (x0 : Nat) : Option St :=
    (putI S (some x0) 10 0 0).bind fun S6 =>
    (putI S6 (some x0) 10 1 0).bind fun S11 =>
    (putI S11 (some x0) 10 2 0).bind fun S16 =>
    (putI S16 (some x0) 10 3 0).bind fun S21 =>
    (newA S21 15 32).bind fun (a27, S27) =>
    (putR S27 (some x0) 10 4 (some a27)).bind fun S29 =>
    (putI S29 (some x0) 10 5 0).bind fun S34 =>
    (putI S34 (some x0) 10 6 0).bind fun S39 =>
    some S39
theorem k_X9_init {l : Launch} {G : Ge} {S S' : St} {x0 : Nat} (hr : f_X9_init S x0 = some S') : Ct l G yX9_init cX9_init 1 (Option.none : Option Jvm.ClassFile.FieldType) S [va_rf (some x0)] none S' 1 36 := by
  refine ct_of (by decide +kernel) (Nat.le_of_ble_eq_true rfl) ?_
  intro p e s m args below meth c C ls hl
  have hl : lv_has ls 1 [(0, va_rf (some x0))] := hl
  unfold f_X9_init at hr
  refine v_aload_n C (lv_at hl 0 rfl) rfl dX9_init_0 ?_
  refine v_objInit C (b := x0) w_218 w_134 w_135 ⟨by decide, by decide⟩ (Nat.le_of_ble_eq_true rfl) hl dX9_init_1 ?_
  refine v_aload_n C (lv_at hl 0 rfl) rfl dX9_init_4 ?_
  refine v_iconst C 0 (by decide) dX9_init_5 ?_
  obtain ⟨S6, e6, hr⟩ := ob hr
  refine v_putI C fl_RX9_7 (Or.inl rfl) rfl e6 dX9_init_6 ?_
  refine v_aload_n C (lv_at hl 0 rfl) rfl dX9_init_9 ?_
  refine v_iconst C 0 (by decide) dX9_init_10 ?_
  obtain ⟨S11, e11, hr⟩ := ob hr
  refine v_putI C fl_RX9_13 (Or.inl rfl) rfl e11 dX9_init_11 ?_
  refine v_aload_n C (lv_at hl 0 rfl) rfl dX9_init_14 ?_
  refine v_iconst C 0 (by decide) dX9_init_15 ?_
  obtain ⟨S16, e16, hr⟩ := ob hr
  refine v_putI C fl_RX9_16 (Or.inl rfl) rfl e16 dX9_init_16 ?_
  refine v_aload_n C (lv_at hl 0 rfl) rfl dX9_init_19 ?_
  refine v_iconst C 0 (by decide) dX9_init_20 ?_
  obtain ⟨S21, e21, hr⟩ := ob hr
  refine v_putI C fl_RX9_19 (Or.inl rfl) rfl e21 dX9_init_21 ?_
  refine v_aload_n C (lv_at hl 0 rfl) rfl dX9_init_24 ?_
  refine v_bipush C 32 (by decide) dX9_init_25 ?_
  obtain ⟨⟨a27, S27⟩, e27, hr⟩ := ob hr
  (try dsimp only at hr)
  refine v_newA C (atype := .int) (t0 := 1) e27 (by decide) rfl (fun _ => ⟨rfl, rfl, rfl, by decide⟩) w_211 dX9_init_27 ?_
  obtain ⟨S29, e29, hr⟩ := ob hr
  refine v_putR C fl_RX9_22 (Or.inr ⟨rfl, rfl⟩) rfl e29 dX9_init_29 ?_
  refine v_aload_n C (lv_at hl 0 rfl) rfl dX9_init_32 ?_
  refine v_iconst C 0 (by decide) dX9_init_33 ?_
  obtain ⟨S34, e34, hr⟩ := ob hr
  refine v_putI C fl_RX9_26 (Or.inl rfl) rfl e34 dX9_init_34 ?_
  refine v_aload_n C (lv_at hl 0 rfl) rfl dX9_init_37 ?_
  refine v_iconst C 0 (by decide) dX9_init_38 ?_
  obtain ⟨S39, e39, hr⟩ := ob hr
  refine v_putI C fl_RX9_29 (Or.inl rfl) rfl e39 dX9_init_39 ?_
  obtain rfl := os hr
  exact v_vret C dX9_init_42
-- X11_init
def f_X11_init_173 : Nat → St → Nat → Int32 → Option (St)
  | 0, _, _, _ => none
  | n + 1, S, x0, x1 =>
    (getR S (some x0) 12 14).bind fun v175 =>
    (alen S v175).bind fun v178 =>
    (if v178 ≤ x1 then
    some S
    else
    (getR S (some x0) 12 14).bind fun v183 =>
    (stI S v183 15 x1 1).bind fun S188 =>
    f_X11_init_173 n S188 x0 (x1 + 1))
def f_X11_init (S : St) (x0 : Nat) : Option St :=
    (putI S (some x0) 12 0 0).bind fun S6 =>
    (newO S6 0).bind fun (a10, S10) =>
    (rcv S10 (some a10) 0).bind fun b14 =>
    (f_Jx4a65c_init_da8c8 S10 b14).bind fun S14 =>
    (putR S14 (some x0) 12 1 (some a10)).bind fun S17 =>
    (newO S17 0).bind fun (a21, S21) =>
    (rcv S21 (some a21) 0).bind fun b25 =>
    (f_Jx4a65c_init_da8c8 S21 b25).bind fun S25 =>
    (putR S25 (some x0) 12 2 (some a21)).bind fun S28 =>
    (newO S28 0).bind fun (a32, S32) =>
    (rcv S32 (some a32) 0).bind fun b36 =>
    (f_Jx4a65c_init_da8c8 S32 b36).bind fun S36 =>
    (putR S36 (some x0) 12 3 (some a32)).bind fun S39 =>
    (newO S39 0).bind fun (a43, S43) =>
    (rcv S43 (some a43) 0).bind fun b47 =>
    (f_Jx4a65c_init_da8c8 S43 b47).bind fun S47 =>
    (putR S47 (some x0) 12 4 (some a43)).bind fun S50 =>
    (putI S50 (some x0) 12 5 0).bind fun S55 =>
    (newA S55 14 600).bind fun (a62, S62) =>
    (putR S62 (some x0) 12 6 (some a62)).bind fun S64 =>
    (putI S64 (some x0) 12 7 0).bind fun S69 =>
    (newO S69 7).bind fun (a73, S73) =>
    (rcv S73 (some a73) 7).bind fun b78 =>
    (f_X6_init S73 b78 0).bind fun S78 =>
    (putR S78 (some x0) 12 8 (some a73)).bind fun S81 =>
    (newA S81 18 4).bind fun (a86, S86) =>
    (getR S86 (some x0) 12 8).bind fun v92 =>
    (stR S86 (some a86) 18 0 v92).bind fun S95 =>
    (getR S95 (some x0) 12 8).bind fun v99 =>
    (stR S95 (some a86) 18 1 v99).bind fun S102 =>
    (getR S102 (some x0) 12 8).bind fun v106 =>
    (stR S102 (some a86) 18 2 v106).bind fun S109 =>
    (getR S109 (some x0) 12 8).bind fun v113 =>
    (stR S109 (some a86) 18 3 v113).bind fun S116 =>
    (putR S116 (some x0) 12 9 (some a86)).bind fun S117 =>
    (putI S117 (some x0) 12 10 0).bind fun S122 =>
    (putI S122 (some x0) 12 11 (-1)).bind fun S127 =>
    (newO S127 10).bind fun (a131, S131) =>
    (rcv S131 (some a131) 10).bind fun b135 =>
    (f_X9_init S131 b135).bind fun S135 =>
    (putR S135 (some x0) 12 12 (some a131)).bind fun S138 =>
    (newO S138 6).bind fun (a142, S142) =>
    (rcv S142 (some a142) 6).bind fun b146 =>
    (f_X5_init S142 b146).bind fun S146 =>
    (putR S146 (some x0) 12 13 (some a142)).bind fun S149 =>
    (newA S149 15 20).bind fun (a155, S155) =>
    (putR S155 (some x0) 12 14 (some a155)).bind fun S157 =>
    (newO S157 2).bind fun (a161, S161) =>
    (rcv S161 (some a161) 2).bind fun b165 =>
    (f_X1_init S161 b165).bind fun S165 =>
    (putR S165 (some x0) 12 15 (some a161)).bind fun S168 =>
    f_X11_init_173 FU S168 x0 0
theorem b_X11_init_173  {S0 S' : St} (C : Cx p s m args meth c G S0 yX11_init cX11_init 2 (Option.none : Option Jvm.ClassFile.FieldType)) {o : (St)} (kR : ∀ (Z : St), o = Z → S' = Z) : ∀ (n : Nat) {S : St} {x0 : Nat} {x1 : Int32}, f_X11_init_173 n S x0 x1 = some o → ∀ ls : Array Slot, lv_has ls 2 [(0, va_rf (some x0)), (1, .int x1)] → V p l e (rmo 4 96 S0) s m args below meth c G S0 S (QM below args s G S0 S' none) (F0 m 173 ls []) := by
  intro n
  induction n with
  | zero => intro S x0 x1 hr; cases hr
  | succ n ih =>
    intro S x0 x1 hr ls hl
    unfold f_X11_init_173 at hr
    refine v_iload_n C (lv_at hl 1 rfl) rfl dX11_init_173 ?_
    refine v_aload_n C (lv_at hl 0 rfl) rfl dX11_init_174 ?_
    obtain ⟨v175, e175, hr⟩ := ob hr
    refine v_getR C fl_RX11_72 rfl e175 dX11_init_175 ?_
    obtain ⟨v178, e178, hr⟩ := ob hr
    refine v_alen C e178 dX11_init_178 ?_
    refine v_icmp_ge C 195 (by decide) dX11_init_179 (fun c179 => ?_) (fun c179 => ?_)
    · rw [if_pos c179] at hr
      obtain rfl := os hr
      obtain rfl := kR _ rfl
      exact v_vret C dX11_init_195
    · rw [if_neg c179] at hr
      refine v_aload_n C (lv_at hl 0 rfl) rfl dX11_init_182 ?_
      obtain ⟨v183, e183, hr⟩ := ob hr
      refine v_getR C fl_RX11_72 rfl e183 dX11_init_183 ?_
      refine v_iload_n C (lv_at hl 1 rfl) rfl dX11_init_186 ?_
      refine v_iconst C 1 (by decide) dX11_init_187 ?_
      obtain ⟨S188, e188, hr⟩ := ob hr
      refine v_stI_i C e188 dX11_init_188 ?_
      refine v_iinc C (x1 + 1) (k0 := 1) (lv' := [(1, .int (x1 + 1)), (0, va_rf (some x0))]) hl rfl rfl (by decide) rfl dX11_init_189 (fun ls hl => ?_)
      refine v_goto C 173 (by decide) dX11_init_192 ?_
      exact ih hr _ (lv_sub hl [1, 0] rfl)
theorem k_X11_init {l : Launch} {G : Ge} {S S' : St} {x0 : Nat} (hr : f_X11_init S x0 = some S') : Ct l G yX11_init cX11_init 2 (Option.none : Option Jvm.ClassFile.FieldType) S [va_rf (some x0)] none S' 4 96 := by
  refine ct_of (by decide +kernel) (Nat.le_of_ble_eq_true rfl) ?_
  intro p e s m args below meth c C ls hl
  have hl : lv_has ls 2 [(0, va_rf (some x0))] := hl
  unfold f_X11_init at hr
  refine v_aload_n C (lv_at hl 0 rfl) rfl dX11_init_0 ?_
  refine v_objInit C (b := x0) w_133 w_134 w_135 ⟨by decide, by decide⟩ (Nat.le_of_ble_eq_true rfl) hl dX11_init_1 ?_
  refine v_aload_n C (lv_at hl 0 rfl) rfl dX11_init_4 ?_
  refine v_iconst C 0 (by decide) dX11_init_5 ?_
  obtain ⟨S6, e6, hr⟩ := ob hr
  refine v_putI C fl_RX11_7 (Or.inl rfl) rfl e6 dX11_init_6 ?_
  refine v_aload_n C (lv_at hl 0 rfl) rfl dX11_init_9 ?_
  obtain ⟨⟨a10, S10⟩, e10, hr⟩ := ob hr
  (try dsimp only at hr)
  refine v_newO C e10 (by decide) rfl w_136 w_137 w_105 lay_0 tyo_0 dfo_0 dX11_init_10 ?_
  refine v_dup C (rf_cat _) dX11_init_13 ?_
  obtain ⟨b14, f14, hr⟩ := ob hr
  obtain ⟨g14, h14⟩ := rcv_n f14
  obtain ⟨S14, e14, hr⟩ := ob hr
  refine v_callI C (b := b14) (k_Jx4a65c_init_da8c8 e14) cw_Jx4a65c_init_da8c8 w_138 w_139 rfl (show (parseMethodDescriptor (yJx4a65c_init_da8c8).desc).map (fun d => d.parameters.length) = some 0 by decide +kernel) ⟨by decide, by decide⟩ (rest := [va_rf (some a10), va_rf (some x0)]) (stk2 := [va_rf (some a10), va_rf (some x0)]) (by rw [g14]; rfl) rfl (by simp [rf_cat, cat_i, cat_l]) hl dX11_init_14 ?_
  obtain ⟨S17, e17, hr⟩ := ob hr
  refine v_putR C fl_RX11_16 (Or.inr ⟨rfl, rfl⟩) rfl e17 dX11_init_17 ?_
  refine v_aload_n C (lv_at hl 0 rfl) rfl dX11_init_20 ?_
  obtain ⟨⟨a21, S21⟩, e21, hr⟩ := ob hr
  (try dsimp only at hr)
  refine v_newO C e21 (by decide) rfl w_136 w_137 w_105 lay_0 tyo_0 dfo_0 dX11_init_21 ?_
  refine v_dup C (rf_cat _) dX11_init_24 ?_
  obtain ⟨b25, f25, hr⟩ := ob hr
  obtain ⟨g25, h25⟩ := rcv_n f25
  obtain ⟨S25, e25, hr⟩ := ob hr
  refine v_callI C (b := b25) (k_Jx4a65c_init_da8c8 e25) cw_Jx4a65c_init_da8c8 w_138 w_139 rfl (show (parseMethodDescriptor (yJx4a65c_init_da8c8).desc).map (fun d => d.parameters.length) = some 0 by decide +kernel) ⟨by decide, by decide⟩ (rest := [va_rf (some a21), va_rf (some x0)]) (stk2 := [va_rf (some a21), va_rf (some x0)]) (by rw [g25]; rfl) rfl (by simp [rf_cat, cat_i, cat_l]) hl dX11_init_25 ?_
  obtain ⟨S28, e28, hr⟩ := ob hr
  refine v_putR C fl_RX11_20 (Or.inr ⟨rfl, rfl⟩) rfl e28 dX11_init_28 ?_
  refine v_aload_n C (lv_at hl 0 rfl) rfl dX11_init_31 ?_
  obtain ⟨⟨a32, S32⟩, e32, hr⟩ := ob hr
  (try dsimp only at hr)
  refine v_newO C e32 (by decide) rfl w_136 w_137 w_105 lay_0 tyo_0 dfo_0 dX11_init_32 ?_
  refine v_dup C (rf_cat _) dX11_init_35 ?_
  obtain ⟨b36, f36, hr⟩ := ob hr
  obtain ⟨g36, h36⟩ := rcv_n f36
  obtain ⟨S36, e36, hr⟩ := ob hr
  refine v_callI C (b := b36) (k_Jx4a65c_init_da8c8 e36) cw_Jx4a65c_init_da8c8 w_138 w_139 rfl (show (parseMethodDescriptor (yJx4a65c_init_da8c8).desc).map (fun d => d.parameters.length) = some 0 by decide +kernel) ⟨by decide, by decide⟩ (rest := [va_rf (some a32), va_rf (some x0)]) (stk2 := [va_rf (some a32), va_rf (some x0)]) (by rw [g36]; rfl) rfl (by simp [rf_cat, cat_i, cat_l]) hl dX11_init_36 ?_
  obtain ⟨S39, e39, hr⟩ := ob hr
  refine v_putR C fl_RX11_23 (Or.inr ⟨rfl, rfl⟩) rfl e39 dX11_init_39 ?_
  refine v_aload_n C (lv_at hl 0 rfl) rfl dX11_init_42 ?_
  obtain ⟨⟨a43, S43⟩, e43, hr⟩ := ob hr
  (try dsimp only at hr)
  refine v_newO C e43 (by decide) rfl w_136 w_137 w_105 lay_0 tyo_0 dfo_0 dX11_init_43 ?_
  refine v_dup C (rf_cat _) dX11_init_46 ?_
  obtain ⟨b47, f47, hr⟩ := ob hr
  obtain ⟨g47, h47⟩ := rcv_n f47
  obtain ⟨S47, e47, hr⟩ := ob hr
  refine v_callI C (b := b47) (k_Jx4a65c_init_da8c8 e47) cw_Jx4a65c_init_da8c8 w_138 w_139 rfl (show (parseMethodDescriptor (yJx4a65c_init_da8c8).desc).map (fun d => d.parameters.length) = some 0 by decide +kernel) ⟨by decide, by decide⟩ (rest := [va_rf (some a43), va_rf (some x0)]) (stk2 := [va_rf (some a43), va_rf (some x0)]) (by rw [g47]; rfl) rfl (by simp [rf_cat, cat_i, cat_l]) hl dX11_init_47 ?_
  obtain ⟨S50, e50, hr⟩ := ob hr
  refine v_putR C fl_RX11_26 (Or.inr ⟨rfl, rfl⟩) rfl e50 dX11_init_50 ?_
  refine v_aload_n C (lv_at hl 0 rfl) rfl dX11_init_53 ?_
  refine v_iconst C 0 (by decide) dX11_init_54 ?_
  obtain ⟨S55, e55, hr⟩ := ob hr
  refine v_putI C fl_RX11_29 (Or.inl rfl) rfl e55 dX11_init_55 ?_
  refine v_aload_n C (lv_at hl 0 rfl) rfl dX11_init_58 ?_
  refine v_sipush C 600 (by decide) dX11_init_59 ?_
  obtain ⟨⟨a62, S62⟩, e62, hr⟩ := ob hr
  (try dsimp only at hr)
  refine v_newA C (atype := .byte) (t0 := 0) e62 (by decide) rfl (fun _ => ⟨rfl, rfl, rfl, by decide⟩) w_210 dX11_init_62 ?_
  obtain ⟨S64, e64, hr⟩ := ob hr
  refine v_putR C fl_RX11_32 (Or.inr ⟨rfl, rfl⟩) rfl e64 dX11_init_64 ?_
  refine v_aload_n C (lv_at hl 0 rfl) rfl dX11_init_67 ?_
  refine v_iconst C 0 (by decide) dX11_init_68 ?_
  obtain ⟨S69, e69, hr⟩ := ob hr
  refine v_putI C fl_RX11_36 (Or.inl rfl) rfl e69 dX11_init_69 ?_
  refine v_aload_n C (lv_at hl 0 rfl) rfl dX11_init_72 ?_
  obtain ⟨⟨a73, S73⟩, e73, hr⟩ := ob hr
  (try dsimp only at hr)
  refine v_newO C e73 (by decide) rfl w_162 w_163 w_106 lay_7 tyo_7 dfo_7 dX11_init_73 ?_
  refine v_dup C (rf_cat _) dX11_init_76 ?_
  refine v_iconst C 0 (by decide) dX11_init_77 ?_
  obtain ⟨b78, f78, hr⟩ := ob hr
  obtain ⟨g78, h78⟩ := rcv_n f78
  obtain ⟨S78, e78, hr⟩ := ob hr
  refine v_callI C (b := b78) (k_X6_init e78) cw_X6_init w_164 w_165 rfl (show (parseMethodDescriptor (yX6_init).desc).map (fun d => d.parameters.length) = some 1 by decide +kernel) ⟨by decide, by decide⟩ (rest := [va_rf (some a73), va_rf (some x0)]) (stk2 := [va_rf (some a73), va_rf (some x0)]) (by rw [g78]; rfl) rfl (by simp [rf_cat, cat_i, cat_l]) hl dX11_init_78 ?_
  obtain ⟨S81, e81, hr⟩ := ob hr
  refine v_putR C fl_RX11_44 (Or.inr ⟨rfl, rfl⟩) rfl e81 dX11_init_81 ?_
  refine v_aload_n C (lv_at hl 0 rfl) rfl dX11_init_84 ?_
  refine v_iconst C 4 (by decide) dX11_init_85 ?_
  obtain ⟨⟨a86, S86⟩, e86, hr⟩ := ob hr
  (try dsimp only at hr)
  refine v_newR C (nm := RX6) e86 (by decide) w_162 dX11_init_86 ?_
  refine v_dup C (rf_cat _) dX11_init_89 ?_
  refine v_iconst C 0 (by decide) dX11_init_90 ?_
  refine v_aload_n C (lv_at hl 0 rfl) rfl dX11_init_91 ?_
  obtain ⟨v92, e92, hr⟩ := ob hr
  refine v_getR C fl_RX11_44 rfl e92 dX11_init_92 ?_
  obtain ⟨S95, e95, hr⟩ := ob hr
  refine v_stR C (t0 := 4) (nm := RX6) e95 (by decide) dX11_init_95 ?_
  refine v_dup C (rf_cat _) dX11_init_96 ?_
  refine v_iconst C 1 (by decide) dX11_init_97 ?_
  refine v_aload_n C (lv_at hl 0 rfl) rfl dX11_init_98 ?_
  obtain ⟨v99, e99, hr⟩ := ob hr
  refine v_getR C fl_RX11_44 rfl e99 dX11_init_99 ?_
  obtain ⟨S102, e102, hr⟩ := ob hr
  refine v_stR C (t0 := 4) (nm := RX6) e102 (by decide) dX11_init_102 ?_
  refine v_dup C (rf_cat _) dX11_init_103 ?_
  refine v_iconst C 2 (by decide) dX11_init_104 ?_
  refine v_aload_n C (lv_at hl 0 rfl) rfl dX11_init_105 ?_
  obtain ⟨v106, e106, hr⟩ := ob hr
  refine v_getR C fl_RX11_44 rfl e106 dX11_init_106 ?_
  obtain ⟨S109, e109, hr⟩ := ob hr
  refine v_stR C (t0 := 4) (nm := RX6) e109 (by decide) dX11_init_109 ?_
  refine v_dup C (rf_cat _) dX11_init_110 ?_
  refine v_iconst C 3 (by decide) dX11_init_111 ?_
  refine v_aload_n C (lv_at hl 0 rfl) rfl dX11_init_112 ?_
  obtain ⟨v113, e113, hr⟩ := ob hr
  refine v_getR C fl_RX11_44 rfl e113 dX11_init_113 ?_
  obtain ⟨S116, e116, hr⟩ := ob hr
  refine v_stR C (t0 := 4) (nm := RX6) e116 (by decide) dX11_init_116 ?_
  obtain ⟨S117, e117, hr⟩ := ob hr
  refine v_putR C fl_RX11_48 (Or.inr ⟨rfl, rfl⟩) rfl e117 dX11_init_117 ?_
  refine v_aload_n C (lv_at hl 0 rfl) rfl dX11_init_120 ?_
  refine v_iconst C 0 (by decide) dX11_init_121 ?_
  obtain ⟨S122, e122, hr⟩ := ob hr
  refine v_putI C fl_RX11_52 (Or.inl rfl) rfl e122 dX11_init_122 ?_
  refine v_aload_n C (lv_at hl 0 rfl) rfl dX11_init_125 ?_
  refine v_iconst C (-1) (by decide) dX11_init_126 ?_
  obtain ⟨S127, e127, hr⟩ := ob hr
  refine v_putI C fl_RX11_55 (Or.inl rfl) rfl e127 dX11_init_127 ?_
  refine v_aload_n C (lv_at hl 0 rfl) rfl dX11_init_130 ?_
  obtain ⟨⟨a131, S131⟩, e131, hr⟩ := ob hr
  (try dsimp only at hr)
  refine v_newO C e131 (by decide) rfl w_213 w_214 w_108 lay_10 tyo_10 dfo_10 dX11_init_131 ?_
  refine v_dup C (rf_cat _) dX11_init_134 ?_
  obtain ⟨b135, f135, hr⟩ := ob hr
  obtain ⟨g135, h135⟩ := rcv_n f135
  obtain ⟨S135, e135, hr⟩ := ob hr
  refine v_callIN C "SleepOffice" (b := b135) (k_X9_init e135) cw_X9_init (by decide +kernel) w_216 rfl (show (parseMethodDescriptor (yX9_init).desc).map (fun d => d.parameters.length) = some 0 by decide +kernel) ⟨by decide, by decide⟩ (rest := [va_rf (some a131), va_rf (some x0)]) (stk2 := [va_rf (some a131), va_rf (some x0)]) (by rw [g135]; rfl) rfl (by simp [rf_cat, cat_i, cat_l]) hl dX11_init_135 ?_
  obtain ⟨S138, e138, hr⟩ := ob hr
  refine v_putR C fl_RX11_61 (Or.inr ⟨rfl, rfl⟩) rfl e138 dX11_init_138 ?_
  refine v_aload_n C (lv_at hl 0 rfl) rfl dX11_init_141 ?_
  obtain ⟨⟨a142, S142⟩, e142, hr⟩ := ob hr
  (try dsimp only at hr)
  refine v_newO C e142 (by decide) rfl w_245 w_246 w_109 lay_6 tyo_6 dfo_6 dX11_init_142 ?_
  refine v_dup C (rf_cat _) dX11_init_145 ?_
  obtain ⟨b146, f146, hr⟩ := ob hr
  obtain ⟨g146, h146⟩ := rcv_n f146
  obtain ⟨S146, e146, hr⟩ := ob hr
  refine v_callIN C "SleepOffice" (b := b146) (k_X5_init e146) cw_X5_init (by decide +kernel) w_248 rfl (show (parseMethodDescriptor (yX5_init).desc).map (fun d => d.parameters.length) = some 0 by decide +kernel) ⟨by decide, by decide⟩ (rest := [va_rf (some a142), va_rf (some x0)]) (stk2 := [va_rf (some a142), va_rf (some x0)]) (by rw [g146]; rfl) rfl (by simp [rf_cat, cat_i, cat_l]) hl dX11_init_146 ?_
  obtain ⟨S149, e149, hr⟩ := ob hr
  refine v_putR C fl_RX11_68 (Or.inr ⟨rfl, rfl⟩) rfl e149 dX11_init_149 ?_
  refine v_aload_n C (lv_at hl 0 rfl) rfl dX11_init_152 ?_
  refine v_bipush C 20 (by decide) dX11_init_153 ?_
  obtain ⟨⟨a155, S155⟩, e155, hr⟩ := ob hr
  (try dsimp only at hr)
  refine v_newA C (atype := .int) (t0 := 1) e155 (by decide) rfl (fun _ => ⟨rfl, rfl, rfl, by decide⟩) w_211 dX11_init_155 ?_
  obtain ⟨S157, e157, hr⟩ := ob hr
  refine v_putR C fl_RX11_72 (Or.inr ⟨rfl, rfl⟩) rfl e157 dX11_init_157 ?_
  refine v_aload_n C (lv_at hl 0 rfl) rfl dX11_init_160 ?_
  obtain ⟨⟨a161, S161⟩, e161, hr⟩ := ob hr
  (try dsimp only at hr)
  refine v_newO C e161 (by decide) rfl w_269 w_270 w_110 lay_2 tyo_2 dfo_2 dX11_init_161 ?_
  refine v_dup C (rf_cat _) dX11_init_164 ?_
  obtain ⟨b165, f165, hr⟩ := ob hr
  obtain ⟨g165, h165⟩ := rcv_n f165
  obtain ⟨S165, e165, hr⟩ := ob hr
  refine v_callIN C "SleepOffice" (b := b165) (k_X1_init e165) cw_X1_init (by decide +kernel) w_272 rfl (show (parseMethodDescriptor (yX1_init).desc).map (fun d => d.parameters.length) = some 0 by decide +kernel) ⟨by decide, by decide⟩ (rest := [va_rf (some a161), va_rf (some x0)]) (stk2 := [va_rf (some a161), va_rf (some x0)]) (by rw [g165]; rfl) rfl (by simp [rf_cat, cat_i, cat_l]) hl dX11_init_165 ?_
  obtain ⟨S168, e168, hr⟩ := ob hr
  refine v_putR C fl_RX11_79 (Or.inr ⟨rfl, rfl⟩) rfl e168 dX11_init_168 ?_
  refine v_iconst C 0 (by decide) dX11_init_171 ?_
  refine v_istore_n C (i := 1) (lv' := [(1, .int 0), (0, va_rf (some x0))]) hl rfl (by decide) rfl dX11_init_172 (fun ls hl => ?_)
  exact b_X11_init_173 C (fun _ q => by cases q; rfl) FU hr _ (lv_sub hl [1, 0] rfl)
-- X11_isHome
def f_X11_isHome (S : St) (x0 : Int32) : Option Int32 :=
    (if x0 = (-1) then
    some 1
    else
    (f_X11_isWithin S x0 4).bind fun v7 =>
    (if v7 = 0 then
    some 0
    else
    some 1))
theorem k_X11_isHome {l : Launch} {G : Ge} {S : St} {x0 : Int32} {rr : Int32} (hr : f_X11_isHome S x0 = some rr) : Ct l G yX11_isHome cX11_isHome 1 (Option.some Jvm.ClassFile.FieldType.boolean) S [.int x0] (some (.int rr)) S 1 21 := by
  refine ct_of (by decide +kernel) (Nat.le_of_ble_eq_true rfl) ?_
  intro p e s m args below meth c C ls hl
  have hl : lv_has ls 1 [(0, .int x0)] := hl
  unfold f_X11_isHome at hr
  refine v_iload_n C (lv_at hl 0 rfl) rfl dX11_isHome_0 ?_
  refine v_iconst C (-1) (by decide) dX11_isHome_1 ?_
  refine v_icmp_eq C 13 (by decide) dX11_isHome_2 (fun c2 => ?_) (fun c2 => ?_)
  · rw [if_pos c2] at hr
    refine v_iconst C 1 (by decide) dX11_isHome_13 ?_
    refine v_goto C 18 (by decide) dX11_isHome_14 ?_
    obtain rfl := os hr
    exact v_zret C rfl dX11_isHome_18
  · rw [if_neg c2] at hr
    refine v_iload_n C (lv_at hl 0 rfl) rfl dX11_isHome_5 ?_
    refine v_iconst C 4 (by decide) dX11_isHome_6 ?_
    obtain ⟨v7, e7, hr⟩ := ob hr
    refine v_callS C (k_X11_isWithin e7) cw_X11_isWithin w_349 w_350 (show (parseMethodDescriptor (yX11_isWithin).desc).map (fun d => d.parameters.length) = some 2 by decide +kernel) ⟨by decide, by decide⟩ (rest := []) (stk2 := [.int v7]) rfl rfl (Nat.le_of_ble_eq_true rfl) hl dX11_isHome_7 ?_
    refine v_if_eq C 17 (by decide) dX11_isHome_10 (fun c10 => ?_) (fun c10 => ?_)
    · rw [if_pos c10] at hr
      refine v_iconst C 0 (by decide) dX11_isHome_17 ?_
      obtain rfl := os hr
      exact v_zret C rfl dX11_isHome_18
    · rw [if_neg c10] at hr
      refine v_iconst C 1 (by decide) dX11_isHome_13 ?_
      refine v_goto C 18 (by decide) dX11_isHome_14 ?_
      obtain rfl := os hr
      exact v_zret C rfl dX11_isHome_18
-- X5_countBest
def f_X5_countBest (S : St) (x0 : Nat) : Option Int32 :=
    (getR S (some x0) 6 4).bind fun v1 =>
    (rcv S (some x0) 6).bind fun b5 =>
    (f_X5_everybody S b5).bind fun v5 =>
    (ldI S v1 15 v5).bind fun v8 =>
    some v8
theorem k_X5_countBest {l : Launch} {G : Ge} {S : St} {x0 : Nat} {rr : Int32} (hr : f_X5_countBest S x0 = some rr) : Ct l G yX5_countBest cX5_countBest 1 (Option.some Jvm.ClassFile.FieldType.int) S [va_rf (some x0)] (some (.int rr)) S 1 20 := by
  refine ct_of (by decide +kernel) (Nat.le_of_ble_eq_true rfl) ?_
  intro p e s m args below meth c C ls hl
  have hl : lv_has ls 1 [(0, va_rf (some x0))] := hl
  unfold f_X5_countBest at hr
  refine v_aload_n C (lv_at hl 0 rfl) rfl dX5_countBest_0 ?_
  obtain ⟨v1, e1, hr⟩ := ob hr
  refine v_getR C fl_RX5_28 rfl e1 dX5_countBest_1 ?_
  refine v_aload_n C (lv_at hl 0 rfl) rfl dX5_countBest_4 ?_
  obtain ⟨b5, f5, hr⟩ := ob hr
  obtain ⟨g5, h5⟩ := rcv_n f5
  obtain ⟨v5, e5, hr⟩ := ob hr
  refine v_callV C (b := b5) h5 (by decide) rfl rfl (k_X5_everybody e5) cw_X5_everybody w_1028 w_1030 w_29 (show (parseMethodDescriptor (yX5_everybody).desc).map (fun d => d.parameters.length) = some 0 by decide +kernel) ⟨by decide, by decide⟩ (rest := [va_rf v1]) (stk2 := [.int v5, va_rf v1]) (by rw [g5]; rfl) rfl (by simp [rf_cat, cat_i, cat_l]) hl dX5_countBest_5 ?_
  obtain ⟨v8, e8, hr⟩ := ob hr
  refine v_ldI_i C e8 dX5_countBest_8 ?_
  obtain rfl := os hr
  exact v_iret C dX5_countBest_9
-- X5_greatestWorth
def f_X5_greatestWorth (S : St) (x0 : Nat) : Option Int32 :=
    (getR S (some x0) 6 3).bind fun v1 =>
    (rcv S (some x0) 6).bind fun b5 =>
    (f_X5_everybody S b5).bind fun v5 =>
    (ldI S v1 15 v5).bind fun v8 =>
    some v8
theorem k_X5_greatestWorth {l : Launch} {G : Ge} {S : St} {x0 : Nat} {rr : Int32} (hr : f_X5_greatestWorth S x0 = some rr) : Ct l G yX5_greatestWorth cX5_greatestWorth 1 (Option.some Jvm.ClassFile.FieldType.int) S [va_rf (some x0)] (some (.int rr)) S 1 20 := by
  refine ct_of (by decide +kernel) (Nat.le_of_ble_eq_true rfl) ?_
  intro p e s m args below meth c C ls hl
  have hl : lv_has ls 1 [(0, va_rf (some x0))] := hl
  unfold f_X5_greatestWorth at hr
  refine v_aload_n C (lv_at hl 0 rfl) rfl dX5_greatestWorth_0 ?_
  obtain ⟨v1, e1, hr⟩ := ob hr
  refine v_getR C fl_RX5_25 rfl e1 dX5_greatestWorth_1 ?_
  refine v_aload_n C (lv_at hl 0 rfl) rfl dX5_greatestWorth_4 ?_
  obtain ⟨b5, f5, hr⟩ := ob hr
  obtain ⟨g5, h5⟩ := rcv_n f5
  obtain ⟨v5, e5, hr⟩ := ob hr
  refine v_callV C (b := b5) h5 (by decide) rfl rfl (k_X5_everybody e5) cw_X5_everybody w_1028 w_1030 w_29 (show (parseMethodDescriptor (yX5_everybody).desc).map (fun d => d.parameters.length) = some 0 by decide +kernel) ⟨by decide, by decide⟩ (rest := [va_rf v1]) (stk2 := [.int v5, va_rf v1]) (by rw [g5]; rfl) rfl (by simp [rf_cat, cat_i, cat_l]) hl dX5_greatestWorth_5 ?_
  obtain ⟨v8, e8, hr⟩ := ob hr
  refine v_ldI_i C e8 dX5_greatestWorth_8 ?_
  obtain rfl := os hr
  exact v_iret C dX5_greatestWorth_9
-- X11_join
def f_X11_join (S : St) (x0 : Nat) (x1 : Int32) (x2 : Int32) : Option (Int32 × St) :=
    (if x2 < 0 then
    some ((-10000), S)
    else
    (if (1 : Int32) < x2 then
    some ((-10000), S)
    else
    (rcv S (some x0) 12).bind fun b11 =>
    (f_X11_gather S b11 x1).bind fun (v11, S11) =>
    (if v11 = 0 then
    some ((-10000), S11)
    else
    (if x2 = 0 then
    (getR S11 (some x0) 12 13).bind fun v26 =>
    (rcv S11 v26 6).bind fun b29 =>
    (f_X5_greatestWorth S11 b29).bind fun v29 =>
    some (v29, S11)
    else
    (getR S11 (some x0) 12 13).bind fun v36 =>
    (rcv S11 v36 6).bind fun b39 =>
    (f_X5_countBest S11 b39).bind fun v39 =>
    some (v39, S11)))))
theorem k_X11_join {l : Launch} {G : Ge} {S S' : St} {x0 : Nat} {x1 : Int32} {x2 : Int32} {rr : Int32} (hr : f_X11_join S x0 x1 x2 = some (rr, S')) : Ct l G yX11_join cX11_join 3 (Option.some Jvm.ClassFile.FieldType.int) S [va_rf (some x0), .int x1, .int x2] (some (.int rr)) S' 6 137 := by
  refine ct_of (by decide +kernel) (Nat.le_of_ble_eq_true rfl) ?_
  intro p e s m args below meth c C ls hl
  have hl : lv_has ls 3 [(0, va_rf (some x0)), (1, .int x1), (2, .int x2)] := hl
  unfold f_X11_join at hr
  refine v_iload_n C (lv_at hl 2 rfl) rfl dX11_join_0 ?_
  refine v_if_lt C 17 (by decide) dX11_join_1 (fun c1 => ?_) (fun c1 => ?_)
  · rw [if_pos c1] at hr
    refine v_sipush C (-10000) (by decide) dX11_join_17 ?_
    obtain ⟨rfl, rfl⟩ := Prod.mk.inj (os hr)
    exact v_iret C dX11_join_20
  · rw [if_neg c1] at hr
    refine v_iload_n C (lv_at hl 2 rfl) rfl dX11_join_4 ?_
    refine v_iconst C 1 (by decide) dX11_join_5 ?_
    refine v_icmp_gt C 17 (by decide) dX11_join_6 (fun c6 => ?_) (fun c6 => ?_)
    · rw [if_pos c6] at hr
      refine v_sipush C (-10000) (by decide) dX11_join_17 ?_
      obtain ⟨rfl, rfl⟩ := Prod.mk.inj (os hr)
      exact v_iret C dX11_join_20
    · rw [if_neg c6] at hr
      refine v_aload_n C (lv_at hl 0 rfl) rfl dX11_join_9 ?_
      refine v_iload_n C (lv_at hl 1 rfl) rfl dX11_join_10 ?_
      obtain ⟨b11, f11, hr⟩ := ob hr
      obtain ⟨g11, h11⟩ := rcv_n f11
      obtain ⟨⟨v11, S11⟩, e11, hr⟩ := ob hr
      (try dsimp only at hr)
      refine v_callV C (b := b11) h11 (by decide) rfl rfl (k_X11_gather e11) cw_X11_gather w_1011 w_1013 w_28 (show (parseMethodDescriptor (yX11_gather).desc).map (fun d => d.parameters.length) = some 1 by decide +kernel) ⟨by decide, by decide⟩ (rest := []) (stk2 := [.int v11]) (by rw [g11]; rfl) rfl (Nat.le_of_ble_eq_true rfl) hl dX11_join_11 ?_
      refine v_if_ne C 21 (by decide) dX11_join_14 (fun c14 => ?_) (fun c14 => ?_)
      · rw [if_neg c14] at hr
        refine v_iload_n C (lv_at hl 2 rfl) rfl dX11_join_21 ?_
        refine v_if_ne C 35 (by decide) dX11_join_22 (fun c22 => ?_) (fun c22 => ?_)
        · rw [if_neg c22] at hr
          refine v_aload_n C (lv_at hl 0 rfl) rfl dX11_join_35 ?_
          obtain ⟨v36, e36, hr⟩ := ob hr
          refine v_getR C fl_RX11_68 rfl e36 dX11_join_36 ?_
          obtain ⟨b39, f39, hr⟩ := ob hr
          obtain ⟨g39, h39⟩ := rcv_n f39
          obtain ⟨v39, e39, hr⟩ := ob hr
          refine v_callV C (b := b39) h39 (by decide) rfl rfl (k_X5_countBest e39) cw_X5_countBest w_1050 w_1051 w_1052 (show (parseMethodDescriptor (yX5_countBest).desc).map (fun d => d.parameters.length) = some 0 by decide +kernel) ⟨by decide, by decide⟩ (rest := []) (stk2 := [.int v39]) (by rw [g39]; rfl) rfl (Nat.le_of_ble_eq_true rfl) hl dX11_join_39 ?_
          obtain ⟨rfl, rfl⟩ := Prod.mk.inj (os hr)
          exact v_iret C dX11_join_42
        · rw [if_pos c22] at hr
          refine v_aload_n C (lv_at hl 0 rfl) rfl dX11_join_25 ?_
          obtain ⟨v26, e26, hr⟩ := ob hr
          refine v_getR C fl_RX11_68 rfl e26 dX11_join_26 ?_
          obtain ⟨b29, f29, hr⟩ := ob hr
          obtain ⟨g29, h29⟩ := rcv_n f29
          obtain ⟨v29, e29, hr⟩ := ob hr
          refine v_callV C (b := b29) h29 (by decide) rfl rfl (k_X5_greatestWorth e29) cw_X5_greatestWorth w_1046 w_1047 w_1048 (show (parseMethodDescriptor (yX5_greatestWorth).desc).map (fun d => d.parameters.length) = some 0 by decide +kernel) ⟨by decide, by decide⟩ (rest := []) (stk2 := [.int v29]) (by rw [g29]; rfl) rfl (Nat.le_of_ble_eq_true rfl) hl dX11_join_29 ?_
          refine v_goto C 42 (by decide) dX11_join_32 ?_
          obtain ⟨rfl, rfl⟩ := Prod.mk.inj (os hr)
          exact v_iret C dX11_join_42
      · rw [if_pos c14] at hr
        refine v_sipush C (-10000) (by decide) dX11_join_17 ?_
        obtain ⟨rfl, rfl⟩ := Prod.mk.inj (os hr)
        exact v_iret C dX11_join_20
-- X5_countBestWith
def f_X5_countBestWith_50 (rec : St → Nat → Int32 → Int32 → Int32 → Int32 → Option (Int32)) (S : St) (x0 : Nat) (x1 : Int32) (x2 : Int32) (x3 : Int32) (x4 : Int32) (t0 : Int32) : Option (Int32) :=
    (if t0 = 0 then
    rec S x0 x1 x2 x3 (x4 + 1)
    else
    (getR S (some x0) 6 2).bind fun v64 =>
    (ldI S v64 15 x4).bind fun v69 =>
    (getR S (some x0) 6 3).bind fun v71 =>
    (ldI S v71 15 (x2 ^^^ x4)).bind fun v76 =>
    (getR S (some x0) 6 3).bind fun v79 =>
    (ldI S v79 15 x2).bind fun v83 =>
    (if (v69 + v76) = v83 then
    (getR S (some x0) 6 4).bind fun v89 =>
    (ldI S v89 15 (x2 ^^^ x4)).bind fun v94 =>
    rec S x0 x1 x2 (x3 + v94) (x4 + 1)
    else
    rec S x0 x1 x2 x3 (x4 + 1)))
def f_X5_countBestWith_49 (rec : St → Nat → Int32 → Int32 → Int32 → Int32 → Option (Int32)) (S : St) (x0 : Nat) (x1 : Int32) (x2 : Int32) (x3 : Int32) (x4 : Int32) : Option (Int32) :=
    f_X5_countBestWith_50 (rec) S x0 x1 x2 x3 x4 0
def f_X5_countBestWith_10 : Nat → St → Nat → Int32 → Int32 → Int32 → Int32 → Option (Int32)
  | 0, _, _, _, _, _, _ => none
  | n + 1, S, x0, x1, x2, x3, x4 =>
    (if x2 < x4 then
    some x3
    else
    (if (256 : Int32) ≤ x4 then
    some x3
    else
    (if (x4 &&& x1) = x1 then
    (getR S (some x0) 6 2).bind fun v33 =>
    (ldI S v33 15 x4).bind fun v38 =>
    (if v38 = (-9999) then
    f_X5_countBestWith_49 (f_X5_countBestWith_10 n) S x0 x1 x2 x3 x4
    else
    f_X5_countBestWith_50 (f_X5_countBestWith_10 n) S x0 x1 x2 x3 x4 1)
    else
    f_X5_countBestWith_49 (f_X5_countBestWith_10 n) S x0 x1 x2 x3 x4)))
def f_X5_countBestWith (S : St) (x0 : Nat) (x1 : Int32) : Option Int32 :=
    (rcv S (some x0) 6).bind fun b1 =>
    (f_X5_everybody S b1).bind fun v1 =>
    f_X5_countBestWith_10 FU S x0 x1 v1 0 0
theorem b_X5_countBestWith_50  {S : St} {rr : Int32} {x0 : Nat} {x1 : Int32} {x2 : Int32} {x3 : Int32} {x4 : Int32} {t0 : Int32} (C : Cx p s m args meth c G S yX5_countBestWith cX5_countBestWith 7 (Option.some Jvm.ClassFile.FieldType.int)) {o : (Int32)} {rec : St → Nat → Int32 → Int32 → Int32 → Int32 → Option (Int32)} (kR : ∀ (v : Int32), o = v → rr = v) (ihk : ∀ {x0 : Nat} {x1 : Int32} {x2 : Int32} {x3 : Int32} {x4 : Int32}, rec S x0 x1 x2 x3 x4 = some o → ∀ ls : Array Slot, lv_has ls 7 [(0, va_rf (some x0)), (1, .int x1), (2, .int x2), (3, .int x3), (4, .int x4)] → V p l e (rmo 1 20 S) s m args below meth c G S S (QM below args s G S S (some (.int rr))) (F0 m 10 ls [])) (hr : f_X5_countBestWith_50 rec S x0 x1 x2 x3 x4 t0 = some o) : ∀ ls : Array Slot, lv_has ls 7 [(0, va_rf (some x0)), (1, .int x1), (2, .int x2), (3, .int x3), (4, .int x4)] → V p l e (rmo 1 20 S) s m args below meth c G S S (QM below args s G S S (some (.int rr))) (F0 m 50 ls [.int t0]) := by
  intro ls hl
  unfold f_X5_countBestWith_50 at hr
  refine v_istore C (i := 5) (lv' := [(5, .int t0), (0, va_rf (some x0)), (1, .int x1), (2, .int x2), (3, .int x3), (4, .int x4)]) hl (by decide) rfl dX5_countBestWith_50 (fun ls hl => ?_)
  refine v_iload_n C (lv_at hl 3 rfl) rfl dX5_countBestWith_52 ?_
  refine v_iload C (lv_at hl 5 rfl) dX5_countBestWith_53 ?_
  refine v_ixor C dX5_countBestWith_55 ?_
  refine v_istore C (i := 6) (lv' := [(6, .int (x2 ^^^ x4)), (5, .int t0), (0, va_rf (some x0)), (1, .int x1), (2, .int x2), (3, .int x3), (4, .int x4)]) hl (by decide) rfl dX5_countBestWith_56 (fun ls hl => ?_)
  refine v_iload C (lv_at hl 1 rfl) dX5_countBestWith_58 ?_
  refine v_if_eq C 97 (by decide) dX5_countBestWith_60 (fun c60 => ?_) (fun c60 => ?_)
  · rw [if_pos c60] at hr
    refine v_iinc C (x4 + 1) (k0 := 6) (lv' := [(4, .int (x4 + 1)), (6, .int (x2 ^^^ x4)), (5, .int t0), (0, va_rf (some x0)), (1, .int x1), (2, .int x2), (3, .int x3)]) hl rfl rfl (by decide) rfl dX5_countBestWith_97 (fun ls hl => ?_)
    refine v_goto C 10 (by decide) dX5_countBestWith_100 ?_
    exact ihk hr _ (lv_sub hl [3, 4, 5, 6, 0] rfl)
  · rw [if_neg c60] at hr
    refine v_aload_n C (lv_at hl 2 rfl) rfl dX5_countBestWith_63 ?_
    obtain ⟨v64, e64, hr⟩ := ob hr
    refine v_getR C fl_RX5_21 rfl e64 dX5_countBestWith_64 ?_
    refine v_iload C (lv_at hl 6 rfl) dX5_countBestWith_67 ?_
    obtain ⟨v69, e69, hr⟩ := ob hr
    refine v_ldI_i C e69 dX5_countBestWith_69 ?_
    refine v_aload_n C (lv_at hl 2 rfl) rfl dX5_countBestWith_70 ?_
    obtain ⟨v71, e71, hr⟩ := ob hr
    refine v_getR C fl_RX5_25 rfl e71 dX5_countBestWith_71 ?_
    refine v_iload C (lv_at hl 0 rfl) dX5_countBestWith_74 ?_
    obtain ⟨v76, e76, hr⟩ := ob hr
    refine v_ldI_i C e76 dX5_countBestWith_76 ?_
    refine v_iadd C dX5_countBestWith_77 ?_
    refine v_aload_n C (lv_at hl 2 rfl) rfl dX5_countBestWith_78 ?_
    obtain ⟨v79, e79, hr⟩ := ob hr
    refine v_getR C fl_RX5_25 rfl e79 dX5_countBestWith_79 ?_
    refine v_iload_n C (lv_at hl 4 rfl) rfl dX5_countBestWith_82 ?_
    obtain ⟨v83, e83, hr⟩ := ob hr
    refine v_ldI_i C e83 dX5_countBestWith_83 ?_
    refine v_icmp_ne C 97 (by decide) dX5_countBestWith_84 (fun c84 => ?_) (fun c84 => ?_)
    · rw [if_neg c84] at hr
      refine v_iinc C (x4 + 1) (k0 := 6) (lv' := [(4, .int (x4 + 1)), (6, .int (x2 ^^^ x4)), (5, .int t0), (0, va_rf (some x0)), (1, .int x1), (2, .int x2), (3, .int x3)]) hl rfl rfl (by decide) rfl dX5_countBestWith_97 (fun ls hl => ?_)
      refine v_goto C 10 (by decide) dX5_countBestWith_100 ?_
      exact ihk hr _ (lv_sub hl [3, 4, 5, 6, 0] rfl)
    · rw [if_pos c84] at hr
      refine v_iload_n C (lv_at hl 5 rfl) rfl dX5_countBestWith_87 ?_
      refine v_aload_n C (lv_at hl 2 rfl) rfl dX5_countBestWith_88 ?_
      obtain ⟨v89, e89, hr⟩ := ob hr
      refine v_getR C fl_RX5_28 rfl e89 dX5_countBestWith_89 ?_
      refine v_iload C (lv_at hl 0 rfl) dX5_countBestWith_92 ?_
      obtain ⟨v94, e94, hr⟩ := ob hr
      refine v_ldI_i C e94 dX5_countBestWith_94 ?_
      refine v_iadd C dX5_countBestWith_95 ?_
      refine v_istore_n C (i := 3) (lv' := [(3, .int (x3 + v94)), (6, .int (x2 ^^^ x4)), (5, .int t0), (0, va_rf (some x0)), (1, .int x1), (2, .int x2), (4, .int x4)]) hl rfl (by decide) rfl dX5_countBestWith_96 (fun ls hl => ?_)
      refine v_iinc C (x4 + 1) (k0 := 6) (lv' := [(4, .int (x4 + 1)), (3, .int (x3 + v94)), (6, .int (x2 ^^^ x4)), (5, .int t0), (0, va_rf (some x0)), (1, .int x1), (2, .int x2)]) hl rfl rfl (by decide) rfl dX5_countBestWith_97 (fun ls hl => ?_)
      refine v_goto C 10 (by decide) dX5_countBestWith_100 ?_
      exact ihk hr _ (lv_sub hl [4, 5, 6, 1, 0] rfl)
theorem b_X5_countBestWith_49  {S : St} {rr : Int32} {x0 : Nat} {x1 : Int32} {x2 : Int32} {x3 : Int32} {x4 : Int32} (C : Cx p s m args meth c G S yX5_countBestWith cX5_countBestWith 7 (Option.some Jvm.ClassFile.FieldType.int)) {o : (Int32)} {rec : St → Nat → Int32 → Int32 → Int32 → Int32 → Option (Int32)} (kR : ∀ (v : Int32), o = v → rr = v) (ihk : ∀ {x0 : Nat} {x1 : Int32} {x2 : Int32} {x3 : Int32} {x4 : Int32}, rec S x0 x1 x2 x3 x4 = some o → ∀ ls : Array Slot, lv_has ls 7 [(0, va_rf (some x0)), (1, .int x1), (2, .int x2), (3, .int x3), (4, .int x4)] → V p l e (rmo 1 20 S) s m args below meth c G S S (QM below args s G S S (some (.int rr))) (F0 m 10 ls [])) (hr : f_X5_countBestWith_49 rec S x0 x1 x2 x3 x4 = some o) : ∀ ls : Array Slot, lv_has ls 7 [(0, va_rf (some x0)), (1, .int x1), (2, .int x2), (3, .int x3), (4, .int x4)] → V p l e (rmo 1 20 S) s m args below meth c G S S (QM below args s G S S (some (.int rr))) (F0 m 49 ls []) := by
  intro ls hl
  unfold f_X5_countBestWith_49 at hr
  refine v_iconst C 0 (by decide) dX5_countBestWith_49 ?_
  exact b_X5_countBestWith_50 C kR (@ihk) hr _ (lv_sub hl [0, 1, 2, 3, 4] rfl)
theorem b_X5_countBestWith_10  {S : St} {rr : Int32} (C : Cx p s m args meth c G S yX5_countBestWith cX5_countBestWith 7 (Option.some Jvm.ClassFile.FieldType.int)) {o : (Int32)} (kR : ∀ (v : Int32), o = v → rr = v) : ∀ (n : Nat) {x0 : Nat} {x1 : Int32} {x2 : Int32} {x3 : Int32} {x4 : Int32}, f_X5_countBestWith_10 n S x0 x1 x2 x3 x4 = some o → ∀ ls : Array Slot, lv_has ls 7 [(0, va_rf (some x0)), (1, .int x1), (2, .int x2), (3, .int x3), (4, .int x4)] → V p l e (rmo 1 20 S) s m args below meth c G S S (QM below args s G S S (some (.int rr))) (F0 m 10 ls []) := by
  intro n
  induction n with
  | zero => intro x0 x1 x2 x3 x4 hr; cases hr
  | succ n ih =>
    intro x0 x1 x2 x3 x4 hr ls hl
    unfold f_X5_countBestWith_10 at hr
    refine v_iload C (lv_at hl 4 rfl) dX5_countBestWith_10 ?_
    refine v_iload_n C (lv_at hl 2 rfl) rfl dX5_countBestWith_12 ?_
    refine v_icmp_gt C 103 (by decide) dX5_countBestWith_13 (fun c13 => ?_) (fun c13 => ?_)
    · rw [if_pos c13] at hr
      refine v_iload_n C (lv_at hl 3 rfl) rfl dX5_countBestWith_103 ?_
      obtain rfl := os hr
      obtain rfl := kR _ rfl
      exact v_iret C dX5_countBestWith_104
    · rw [if_neg c13] at hr
      refine v_iload C (lv_at hl 4 rfl) dX5_countBestWith_16 ?_
      refine v_sipush C 256 (by decide) dX5_countBestWith_18 ?_
      refine v_icmp_ge C 103 (by decide) dX5_countBestWith_21 (fun c21 => ?_) (fun c21 => ?_)
      · rw [if_pos c21] at hr
        refine v_iload_n C (lv_at hl 3 rfl) rfl dX5_countBestWith_103 ?_
        obtain rfl := os hr
        obtain rfl := kR _ rfl
        exact v_iret C dX5_countBestWith_104
      · rw [if_neg c21] at hr
        refine v_iload C (lv_at hl 4 rfl) dX5_countBestWith_24 ?_
        refine v_iload_n C (lv_at hl 1 rfl) rfl dX5_countBestWith_26 ?_
        refine v_iand C dX5_countBestWith_27 ?_
        refine v_iload_n C (lv_at hl 1 rfl) rfl dX5_countBestWith_28 ?_
        refine v_icmp_ne C 49 (by decide) dX5_countBestWith_29 (fun c29 => ?_) (fun c29 => ?_)
        · rw [if_neg c29] at hr
          exact b_X5_countBestWith_49 C kR (@ih) hr _ (lv_sub hl [0, 1, 2, 3, 4] rfl)
        · rw [if_pos c29] at hr
          refine v_aload_n C (lv_at hl 0 rfl) rfl dX5_countBestWith_32 ?_
          obtain ⟨v33, e33, hr⟩ := ob hr
          refine v_getR C fl_RX5_21 rfl e33 dX5_countBestWith_33 ?_
          refine v_iload C (lv_at hl 4 rfl) dX5_countBestWith_36 ?_
          obtain ⟨v38, e38, hr⟩ := ob hr
          refine v_ldI_i C e38 dX5_countBestWith_38 ?_
          refine v_sipush C (-9999) (by decide) dX5_countBestWith_39 ?_
          refine v_icmp_eq C 49 (by decide) dX5_countBestWith_42 (fun c42 => ?_) (fun c42 => ?_)
          · rw [if_pos c42] at hr
            exact b_X5_countBestWith_49 C kR (@ih) hr _ (lv_sub hl [0, 1, 2, 3, 4] rfl)
          · rw [if_neg c42] at hr
            refine v_iconst C 1 (by decide) dX5_countBestWith_45 ?_
            refine v_goto C 50 (by decide) dX5_countBestWith_46 ?_
            exact b_X5_countBestWith_50 C kR (@ih) hr _ (lv_sub hl [0, 1, 2, 3, 4] rfl)
theorem k_X5_countBestWith {l : Launch} {G : Ge} {S : St} {x0 : Nat} {x1 : Int32} {rr : Int32} (hr : f_X5_countBestWith S x0 x1 = some rr) : Ct l G yX5_countBestWith cX5_countBestWith 7 (Option.some Jvm.ClassFile.FieldType.int) S [va_rf (some x0), .int x1] (some (.int rr)) S 1 20 := by
  refine ct_of (by decide +kernel) (Nat.le_of_ble_eq_true rfl) ?_
  intro p e s m args below meth c C ls hl
  have hl : lv_has ls 7 [(0, va_rf (some x0)), (1, .int x1)] := hl
  unfold f_X5_countBestWith at hr
  refine v_aload_n C (lv_at hl 0 rfl) rfl dX5_countBestWith_0 ?_
  obtain ⟨b1, f1, hr⟩ := ob hr
  obtain ⟨g1, h1⟩ := rcv_n f1
  obtain ⟨v1, e1, hr⟩ := ob hr
  refine v_callV C (b := b1) h1 (by decide) rfl rfl (k_X5_everybody e1) cw_X5_everybody w_1028 w_1030 w_29 (show (parseMethodDescriptor (yX5_everybody).desc).map (fun d => d.parameters.length) = some 0 by decide +kernel) ⟨by decide, by decide⟩ (rest := []) (stk2 := [.int v1]) (by rw [g1]; rfl) rfl (Nat.le_of_ble_eq_true rfl) hl dX5_countBestWith_1 ?_
  refine v_istore_n C (i := 2) (lv' := [(2, .int v1), (0, va_rf (some x0)), (1, .int x1)]) hl rfl (by decide) rfl dX5_countBestWith_4 (fun ls hl => ?_)
  refine v_iconst C 0 (by decide) dX5_countBestWith_5 ?_
  refine v_istore_n C (i := 3) (lv' := [(3, .int 0), (2, .int v1), (0, va_rf (some x0)), (1, .int x1)]) hl rfl (by decide) rfl dX5_countBestWith_6 (fun ls hl => ?_)
  refine v_iconst C 0 (by decide) dX5_countBestWith_7 ?_
  refine v_istore C (i := 4) (lv' := [(4, .int 0), (3, .int 0), (2, .int v1), (0, va_rf (some x0)), (1, .int x1)]) hl (by decide) rfl dX5_countBestWith_8 (fun ls hl => ?_)
  exact b_X5_countBestWith_10 C (fun _ q => by cases q; rfl) FU hr _ (lv_sub hl [3, 4, 2, 1, 0] rfl)
-- X5_seatBit
def f_X5_seatBit_2 : Nat → St → Nat → (Option Nat) → Int32 → Option (Int32)
  | 0, _, _, _, _ => none
  | n + 1, S, x0, x1, x2 =>
    (getI S (some x0) 6 1).bind fun v4 =>
    (if v4 ≤ x2 then
    some 0
    else
    (getR S (some x0) 6 0).bind fun v12 =>
    (alen S v12).bind fun v15 =>
    (if v15 ≤ x2 then
    some 0
    else
    (getR S (some x0) 6 0).bind fun v20 =>
    (ldR S v20 19 x2).bind fun v24 =>
    (if v24 = x1 then
    some (1 <<< (x2 &&& 31))
    else
    f_X5_seatBit_2 n S x0 x1 (x2 + 1))))
def f_X5_seatBit (S : St) (x0 : Nat) (x1 : Option Nat) : Option Int32 :=
    f_X5_seatBit_2 FU S x0 x1 0
theorem b_X5_seatBit_2  {S : St} {rr : Int32} (C : Cx p s m args meth c G S yX5_seatBit cX5_seatBit 3 (Option.some Jvm.ClassFile.FieldType.int)) {o : (Int32)} (kR : ∀ (v : Int32), o = v → rr = v) : ∀ (n : Nat) {x0 : Nat} {x1 : Option Nat} {x2 : Int32}, f_X5_seatBit_2 n S x0 x1 x2 = some o → ∀ ls : Array Slot, lv_has ls 3 [(0, va_rf (some x0)), (1, va_rf x1), (2, .int x2)] → V p l e (rmo 0 0 S) s m args below meth c G S S (QM below args s G S S (some (.int rr))) (F0 m 2 ls []) := by
  intro n
  induction n with
  | zero => intro x0 x1 x2 hr; cases hr
  | succ n ih =>
    intro x0 x1 x2 hr ls hl
    unfold f_X5_seatBit_2 at hr
    refine v_iload_n C (lv_at hl 2 rfl) rfl dX5_seatBit_2 ?_
    refine v_aload_n C (lv_at hl 0 rfl) rfl dX5_seatBit_3 ?_
    obtain ⟨v4, e4, hr⟩ := ob hr
    refine v_getI C fl_RX5_17 rfl e4 dX5_seatBit_4 ?_
    refine v_icmp_ge C 39 (by decide) dX5_seatBit_7 (fun c7 => ?_) (fun c7 => ?_)
    · rw [if_pos c7] at hr
      refine v_iconst C 0 (by decide) dX5_seatBit_39 ?_
      obtain rfl := os hr
      obtain rfl := kR _ rfl
      exact v_iret C dX5_seatBit_40
    · rw [if_neg c7] at hr
      refine v_iload_n C (lv_at hl 2 rfl) rfl dX5_seatBit_10 ?_
      refine v_aload_n C (lv_at hl 0 rfl) rfl dX5_seatBit_11 ?_
      obtain ⟨v12, e12, hr⟩ := ob hr
      refine v_getR C fl_RX5_11 rfl e12 dX5_seatBit_12 ?_
      obtain ⟨v15, e15, hr⟩ := ob hr
      refine v_alen C e15 dX5_seatBit_15 ?_
      refine v_icmp_ge C 39 (by decide) dX5_seatBit_16 (fun c16 => ?_) (fun c16 => ?_)
      · rw [if_pos c16] at hr
        refine v_iconst C 0 (by decide) dX5_seatBit_39 ?_
        obtain rfl := os hr
        obtain rfl := kR _ rfl
        exact v_iret C dX5_seatBit_40
      · rw [if_neg c16] at hr
        refine v_aload_n C (lv_at hl 0 rfl) rfl dX5_seatBit_19 ?_
        obtain ⟨v20, e20, hr⟩ := ob hr
        refine v_getR C fl_RX5_11 rfl e20 dX5_seatBit_20 ?_
        refine v_iload_n C (lv_at hl 2 rfl) rfl dX5_seatBit_23 ?_
        obtain ⟨v24, e24, hr⟩ := ob hr
        refine v_ldR C (t0 := 5) (nm := RX8) e24 (by decide) rfl (fun _ => rfl) dX5_seatBit_24 ?_
        refine v_aload_n C (lv_at hl 1 rfl) rfl dX5_seatBit_25 ?_
        refine v_acmp_ne C 33 (by decide) dX5_seatBit_26 (fun c26 => ?_) (fun c26 => ?_)
        · rw [if_neg c26] at hr
          refine v_iinc C (x2 + 1) (k0 := 2) (lv' := [(2, .int (x2 + 1)), (0, va_rf (some x0)), (1, va_rf x1)]) hl rfl rfl (by decide) (by simp [rf_n2]) dX5_seatBit_33 (fun ls hl => ?_)
          refine v_goto C 2 (by decide) dX5_seatBit_36 ?_
          exact ih hr _ (lv_sub hl [1, 2, 0] rfl)
        · rw [if_pos c26] at hr
          refine v_iconst C 1 (by decide) dX5_seatBit_29 ?_
          refine v_iload_n C (lv_at hl 2 rfl) rfl dX5_seatBit_30 ?_
          refine v_ishl C dX5_seatBit_31 ?_
          obtain rfl := os hr
          obtain rfl := kR _ rfl
          exact v_iret C dX5_seatBit_32
theorem k_X5_seatBit {l : Launch} {G : Ge} {S : St} {x0 : Nat} {x1 : Option Nat} {rr : Int32} (hr : f_X5_seatBit S x0 x1 = some rr) : Ct l G yX5_seatBit cX5_seatBit 3 (Option.some Jvm.ClassFile.FieldType.int) S [va_rf (some x0), va_rf x1] (some (.int rr)) S 0 0 := by
  refine ct_of (by decide +kernel) (by cases x1 <;> exact Nat.le_of_ble_eq_true rfl) ?_
  intro p e s m args below meth c C ls hl
  have hl : lv_has ls 3 [(0, va_rf (some x0)), (1, va_rf x1)] := by clear hr; cases x1 <;> exact hl
  unfold f_X5_seatBit at hr
  refine v_iconst C 0 (by decide) dX5_seatBit_0 ?_
  refine v_istore_n C (i := 2) (lv' := [(2, .int 0), (0, va_rf (some x0)), (1, va_rf x1)]) hl rfl (by decide) (by simp [rf_n2]) dX5_seatBit_1 (fun ls hl => ?_)
  exact b_X5_seatBit_2 C (fun _ q => by cases q; rfl) FU hr _ (lv_sub hl [1, 2, 0] rfl)
-- X11_joined
def f_X11_joined (S : St) (x0 : Nat) (x1 : Int32) (x2 : Int32) (x3 : Int32) : Option (Int32 × St) :=
    (rcv S (some x0) 12).bind fun b2 =>
    (f_X11_personAt S b2 x2).bind fun v2 =>
    (rcv S (some x0) 12).bind fun b9 =>
    (f_X11_personAt S b9 x3).bind fun v9 =>
    (if v2 = none then
    some ((-1), S)
    else
    (if v9 = none then
    some ((-1), S)
    else
    (if v2 = v9 then
    some ((-1), S)
    else
    (rcv S (some x0) 12).bind fun b33 =>
    (f_X11_gather S b33 x1).bind fun (v33, S33) =>
    (if v33 = 0 then
    some ((-1), S33)
    else
    (getR S33 (some x0) 12 13).bind fun v42 =>
    (rcv S33 v42 6).bind fun b47 =>
    (f_X5_seatBit S33 b47 v2).bind fun v47 =>
    (getR S33 (some x0) 12 13).bind fun v51 =>
    (rcv S33 v51 6).bind fun b56 =>
    (f_X5_seatBit S33 b56 v9).bind fun v56 =>
    (f_J6_bitCount_0f7a4 S33 (v47 ||| v56)).bind fun v64 =>
    (if v64 = 2 then
    (getR S33 (some x0) 12 13).bind fun v74 =>
    (rcv S33 v74 6).bind fun b79 =>
    (f_X5_countBestWith S33 b79 (v47 ||| v56)).bind fun v79 =>
    (if v79 = 0 then
    some (0, S33)
    else
    (getR S33 (some x0) 12 13).bind fun v94 =>
    (rcv S33 v94 6).bind fun b97 =>
    (f_X5_countBest S33 b97).bind fun v97 =>
    (if v79 = v97 then
    some (2, S33)
    else
    some (1, S33)))
    else
    some ((-1), S33))))))
theorem k_X11_joined {l : Launch} {G : Ge} {S S' : St} {x0 : Nat} {x1 : Int32} {x2 : Int32} {x3 : Int32} {rr : Int32} (hr : f_X11_joined S x0 x1 x2 x3 = some (rr, S')) : Ct l G yX11_joined cX11_joined 8 (Option.some Jvm.ClassFile.FieldType.int) S [va_rf (some x0), .int x1, .int x2, .int x3] (some (.int rr)) S' 6 137 := by
  refine ct_of (by decide +kernel) (Nat.le_of_ble_eq_true rfl) ?_
  intro p e s m args below meth c C ls hl
  have hl : lv_has ls 8 [(0, va_rf (some x0)), (1, .int x1), (2, .int x2), (3, .int x3)] := hl
  unfold f_X11_joined at hr
  refine v_aload_n C (lv_at hl 0 rfl) rfl dX11_joined_0 ?_
  refine v_iload_n C (lv_at hl 2 rfl) rfl dX11_joined_1 ?_
  obtain ⟨b2, f2, hr⟩ := ob hr
  obtain ⟨g2, h2⟩ := rcv_n f2
  obtain ⟨v2, e2, hr⟩ := ob hr
  refine v_callV C (b := b2) h2 (by decide) rfl rfl (k_X11_personAt e2) cw_X11_personAt w_486 w_488 w_6 (show (parseMethodDescriptor (yX11_personAt).desc).map (fun d => d.parameters.length) = some 1 by decide +kernel) ⟨by decide, by decide⟩ (rest := []) (stk2 := [va_rf v2]) (by rw [g2]; rfl) rfl (Nat.le_of_ble_eq_true rfl) hl dX11_joined_2 ?_
  refine v_astore C (i := 4) (lv' := [(4, va_rf v2), (0, va_rf (some x0)), (1, .int x1), (2, .int x2), (3, .int x3)]) hl (by decide) rfl dX11_joined_5 (fun ls hl => ?_)
  refine v_aload_n C (lv_at hl 1 rfl) rfl dX11_joined_7 ?_
  refine v_iload_n C (lv_at hl 4 rfl) rfl dX11_joined_8 ?_
  obtain ⟨b9, f9, hr⟩ := ob hr
  obtain ⟨g9, h9⟩ := rcv_n f9
  obtain ⟨v9, e9, hr⟩ := ob hr
  refine v_callV C (b := b9) h9 (by decide) rfl rfl (k_X11_personAt e9) cw_X11_personAt w_486 w_488 w_6 (show (parseMethodDescriptor (yX11_personAt).desc).map (fun d => d.parameters.length) = some 1 by decide +kernel) ⟨by decide, by decide⟩ (rest := []) (stk2 := [va_rf v9]) (by rw [g9]; rfl) rfl (Nat.le_of_ble_eq_true rfl) hl dX11_joined_9 ?_
  refine v_astore C (i := 5) (lv' := [(5, va_rf v9), (4, va_rf v2), (0, va_rf (some x0)), (1, .int x1), (2, .int x2), (3, .int x3)]) hl (by decide) (by simp [rf_n2]) dX11_joined_12 (fun ls hl => ?_)
  refine v_aload C (lv_at hl 1 rfl) dX11_joined_14 ?_
  refine v_ifnull C 39 (by decide) dX11_joined_16 (fun c16 => ?_) (fun c16 => ?_)
  · rw [if_pos c16] at hr
    refine v_iconst C (-1) (by decide) dX11_joined_39 ?_
    obtain ⟨rfl, rfl⟩ := Prod.mk.inj (os hr)
    exact v_iret C dX11_joined_40
  · rw [if_neg c16] at hr
    refine v_aload C (lv_at hl 0 rfl) dX11_joined_19 ?_
    refine v_ifnull C 39 (by decide) dX11_joined_21 (fun c21 => ?_) (fun c21 => ?_)
    · rw [if_pos c21] at hr
      refine v_iconst C (-1) (by decide) dX11_joined_39 ?_
      obtain ⟨rfl, rfl⟩ := Prod.mk.inj (os hr)
      exact v_iret C dX11_joined_40
    · rw [if_neg c21] at hr
      refine v_aload C (lv_at hl 1 rfl) dX11_joined_24 ?_
      refine v_aload C (lv_at hl 0 rfl) dX11_joined_26 ?_
      refine v_acmp_eq C 39 (by decide) dX11_joined_28 (fun c28 => ?_) (fun c28 => ?_)
      · rw [if_pos c28] at hr
        refine v_iconst C (-1) (by decide) dX11_joined_39 ?_
        obtain ⟨rfl, rfl⟩ := Prod.mk.inj (os hr)
        exact v_iret C dX11_joined_40
      · rw [if_neg c28] at hr
        refine v_aload_n C (lv_at hl 2 rfl) rfl dX11_joined_31 ?_
        refine v_iload_n C (lv_at hl 3 rfl) rfl dX11_joined_32 ?_
        obtain ⟨b33, f33, hr⟩ := ob hr
        obtain ⟨g33, h33⟩ := rcv_n f33
        obtain ⟨⟨v33, S33⟩, e33, hr⟩ := ob hr
        (try dsimp only at hr)
        refine v_callV C (b := b33) h33 (by decide) rfl rfl (k_X11_gather e33) cw_X11_gather w_1011 w_1013 w_28 (show (parseMethodDescriptor (yX11_gather).desc).map (fun d => d.parameters.length) = some 1 by decide +kernel) ⟨by decide, by decide⟩ (rest := []) (stk2 := [.int v33]) (by rw [g33]; rfl) rfl (Nat.le_of_ble_eq_true rfl) hl dX11_joined_33 ?_
        refine v_if_ne C 41 (by decide) dX11_joined_36 (fun c36 => ?_) (fun c36 => ?_)
        · rw [if_neg c36] at hr
          refine v_aload_n C (lv_at hl 2 rfl) rfl dX11_joined_41 ?_
          obtain ⟨v42, e42, hr⟩ := ob hr
          refine v_getR C fl_RX11_68 rfl e42 dX11_joined_42 ?_
          refine v_aload C (lv_at hl 1 rfl) dX11_joined_45 ?_
          obtain ⟨b47, f47, hr⟩ := ob hr
          obtain ⟨g47, h47⟩ := rcv_n f47
          obtain ⟨v47, e47, hr⟩ := ob hr
          refine v_callV C (b := b47) h47 (by decide) rfl rfl (k_X5_seatBit e47) cw_X5_seatBit w_1058 w_1059 w_1060 (show (parseMethodDescriptor (yX5_seatBit).desc).map (fun d => d.parameters.length) = some 1 by decide +kernel) ⟨by decide, by decide⟩ (rest := []) (stk2 := [.int v47]) (by rw [g47]; rfl) rfl (Nat.le_of_ble_eq_true rfl) hl dX11_joined_47 ?_
          refine v_aload_n C (lv_at hl 2 rfl) rfl dX11_joined_50 ?_
          obtain ⟨v51, e51, hr⟩ := ob hr
          refine v_getR C fl_RX11_68 rfl e51 dX11_joined_51 ?_
          refine v_aload C (lv_at hl 0 rfl) dX11_joined_54 ?_
          obtain ⟨b56, f56, hr⟩ := ob hr
          obtain ⟨g56, h56⟩ := rcv_n f56
          obtain ⟨v56, e56, hr⟩ := ob hr
          refine v_callV C (b := b56) h56 (by decide) rfl rfl (k_X5_seatBit e56) cw_X5_seatBit w_1058 w_1059 w_1060 (show (parseMethodDescriptor (yX5_seatBit).desc).map (fun d => d.parameters.length) = some 1 by decide +kernel) ⟨by decide, by decide⟩ (rest := [.int v47]) (stk2 := [.int v56, .int v47]) (by rw [g56]; rfl) rfl (Nat.le_of_ble_eq_true rfl) hl dX11_joined_56 ?_
          refine v_ior C dX11_joined_59 ?_
          refine v_istore C (i := 6) (lv' := [(6, .int (v47 ||| v56)), (5, va_rf v9), (4, va_rf v2), (0, va_rf (some x0)), (1, .int x1), (2, .int x2), (3, .int x3)]) hl (by decide) (by simp [rf_n2]) dX11_joined_60 (fun ls hl => ?_)
          refine v_iload C (lv_at hl 0 rfl) dX11_joined_62 ?_
          obtain ⟨v64, e64, hr⟩ := ob hr
          refine v_callS C (k_J6_bitCount_0f7a4 e64) cw_J6_bitCount_0f7a4 w_1062 w_1063 (show (parseMethodDescriptor (yJ6_bitCount_0f7a4).desc).map (fun d => d.parameters.length) = some 1 by decide +kernel) ⟨by decide, by decide⟩ (rest := []) (stk2 := [.int v64]) rfl rfl (Nat.le_of_ble_eq_true rfl) hl dX11_joined_64 ?_
          refine v_iconst C 2 (by decide) dX11_joined_67 ?_
          refine v_icmp_eq C 73 (by decide) dX11_joined_68 (fun c68 => ?_) (fun c68 => ?_)
          · rw [if_pos c68] at hr
            refine v_aload_n C (lv_at hl 3 rfl) rfl dX11_joined_73 ?_
            obtain ⟨v74, e74, hr⟩ := ob hr
            refine v_getR C fl_RX11_68 rfl e74 dX11_joined_74 ?_
            refine v_iload C (lv_at hl 0 rfl) dX11_joined_77 ?_
            obtain ⟨b79, f79, hr⟩ := ob hr
            obtain ⟨g79, h79⟩ := rcv_n f79
            obtain ⟨v79, e79, hr⟩ := ob hr
            refine v_callV C (b := b79) h79 (by decide) rfl rfl (k_X5_countBestWith e79) cw_X5_countBestWith w_1068 w_1069 w_1070 (show (parseMethodDescriptor (yX5_countBestWith).desc).map (fun d => d.parameters.length) = some 1 by decide +kernel) ⟨by decide, by decide⟩ (rest := []) (stk2 := [.int v79]) (by rw [g79]; rfl) rfl (Nat.le_of_ble_eq_true rfl) hl dX11_joined_79 ?_
            refine v_istore C (i := 7) (lv' := [(7, .int v79), (6, .int (v47 ||| v56)), (5, va_rf v9), (4, va_rf v2), (0, va_rf (some x0)), (1, .int x1), (2, .int x2), (3, .int x3)]) hl (by decide) rfl dX11_joined_82 (fun ls hl => ?_)
            refine v_iload C (lv_at hl 0 rfl) dX11_joined_84 ?_
            refine v_if_ne C 91 (by decide) dX11_joined_86 (fun c86 => ?_) (fun c86 => ?_)
            · rw [if_neg c86] at hr
              refine v_iload C (lv_at hl 0 rfl) dX11_joined_91 ?_
              refine v_aload_n C (lv_at hl 4 rfl) rfl dX11_joined_93 ?_
              obtain ⟨v94, e94, hr⟩ := ob hr
              refine v_getR C fl_RX11_68 rfl e94 dX11_joined_94 ?_
              obtain ⟨b97, f97, hr⟩ := ob hr
              obtain ⟨g97, h97⟩ := rcv_n f97
              obtain ⟨v97, e97, hr⟩ := ob hr
              refine v_callV C (b := b97) h97 (by decide) rfl rfl (k_X5_countBest e97) cw_X5_countBest w_1050 w_1051 w_1052 (show (parseMethodDescriptor (yX5_countBest).desc).map (fun d => d.parameters.length) = some 0 by decide +kernel) ⟨by decide, by decide⟩ (rest := [.int v79]) (stk2 := [.int v97, .int v79]) (by rw [g97]; rfl) rfl (Nat.le_of_ble_eq_true rfl) hl dX11_joined_97 ?_
              refine v_icmp_ne C 107 (by decide) dX11_joined_100 (fun c100 => ?_) (fun c100 => ?_)
              · rw [if_neg c100] at hr
                refine v_iconst C 1 (by decide) dX11_joined_107 ?_
                obtain ⟨rfl, rfl⟩ := Prod.mk.inj (os hr)
                exact v_iret C dX11_joined_108
              · rw [if_pos c100] at hr
                refine v_iconst C 2 (by decide) dX11_joined_103 ?_
                refine v_goto C 108 (by decide) dX11_joined_104 ?_
                obtain ⟨rfl, rfl⟩ := Prod.mk.inj (os hr)
                exact v_iret C dX11_joined_108
            · rw [if_pos c86] at hr
              refine v_iconst C 0 (by decide) dX11_joined_89 ?_
              obtain ⟨rfl, rfl⟩ := Prod.mk.inj (os hr)
              exact v_iret C dX11_joined_90
          · rw [if_neg c68] at hr
            refine v_iconst C (-1) (by decide) dX11_joined_71 ?_
            obtain ⟨rfl, rfl⟩ := Prod.mk.inj (os hr)
            exact v_iret C dX11_joined_72
        · rw [if_pos c36] at hr
          refine v_iconst C (-1) (by decide) dX11_joined_39 ?_
          obtain ⟨rfl, rfl⟩ := Prod.mk.inj (os hr)
          exact v_iret C dX11_joined_40
-- X11_sumHeld
def f_X11_sumHeld_4 : Nat → St → Nat → Int64 → Int32 → Option (Int64)
  | 0, _, _, _, _ => none
  | n + 1, S, x0, x1, x3 =>
    (getR S (some x0) 12 3).bind fun v6 =>
    (rcv S v6 0).bind fun b9 =>
    (f_Jx4a65c_size_8abf5 S b9).bind fun v9 =>
    (if v9 ≤ x3 then
    some x1
    else
    (getR S (some x0) 12 3).bind fun v17 =>
    (rcv S v17 0).bind fun b21 =>
    (f_Jx4a65c_get_915e3 S b21 x3).bind fun v21 =>
    (castO S v21 1).bind fun v24 =>
    (getL S v24 1 8).bind fun v27 =>
    f_X11_sumHeld_4 n S x0 (x1 + v27) (x3 + 1))
def f_X11_sumHeld (S : St) (x0 : Nat) : Option Int64 :=
    f_X11_sumHeld_4 FU S x0 0 0
theorem b_X11_sumHeld_4  {S : St} {rr : Int64} (C : Cx p s m args meth c G S yX11_sumHeld cX11_sumHeld 4 (Option.some Jvm.ClassFile.FieldType.long)) {o : (Int64)} (kR : ∀ (v : Int64), o = v → rr = v) : ∀ (n : Nat) {x0 : Nat} {x1 : Int64} {x3 : Int32}, f_X11_sumHeld_4 n S x0 x1 x3 = some o → ∀ ls : Array Slot, lv_has ls 4 [(0, va_rf (some x0)), (1, .long x1), (3, .int x3)] → V p l e (rmo 3 64 S) s m args below meth c G S S (QM below args s G S S (some (.long rr))) (F0 m 4 ls []) := by
  intro n
  induction n with
  | zero => intro x0 x1 x3 hr; cases hr
  | succ n ih =>
    intro x0 x1 x3 hr ls hl
    unfold f_X11_sumHeld_4 at hr
    refine v_iload_n C (lv_at hl 2 rfl) rfl dX11_sumHeld_4 ?_
    refine v_aload_n C (lv_at hl 0 rfl) rfl dX11_sumHeld_5 ?_
    obtain ⟨v6, e6, hr⟩ := ob hr
    refine v_getR C fl_RX11_23 rfl e6 dX11_sumHeld_6 ?_
    obtain ⟨b9, f9, hr⟩ := ob hr
    obtain ⟨g9, h9⟩ := rcv_n f9
    obtain ⟨v9, e9, hr⟩ := ob hr
    refine v_callV C (b := b9) h9 (by decide) rfl rfl (k_Jx4a65c_size_8abf5 e9) cw_Jx4a65c_size_8abf5 w_352 w_353 w_354 (show (parseMethodDescriptor (yJx4a65c_size_8abf5).desc).map (fun d => d.parameters.length) = some 0 by decide +kernel) ⟨by decide, by decide⟩ (rest := [.int x3]) (stk2 := [.int v9, .int x3]) (by rw [g9]; rfl) rfl (Nat.le_of_ble_eq_true rfl) hl dX11_sumHeld_9 ?_
    refine v_icmp_ge C 38 (by decide) dX11_sumHeld_12 (fun c12 => ?_) (fun c12 => ?_)
    · rw [if_pos c12] at hr
      refine v_lload_n C (lv_at hl 1 rfl) rfl dX11_sumHeld_38 ?_
      obtain rfl := os hr
      obtain rfl := kR _ rfl
      exact v_lret C dX11_sumHeld_39
    · rw [if_neg c12] at hr
      refine v_lload_n C (lv_at hl 1 rfl) rfl dX11_sumHeld_15 ?_
      refine v_aload_n C (lv_at hl 0 rfl) rfl dX11_sumHeld_16 ?_
      obtain ⟨v17, e17, hr⟩ := ob hr
      refine v_getR C fl_RX11_23 rfl e17 dX11_sumHeld_17 ?_
      refine v_iload_n C (lv_at hl 2 rfl) rfl dX11_sumHeld_20 ?_
      obtain ⟨b21, f21, hr⟩ := ob hr
      obtain ⟨g21, h21⟩ := rcv_n f21
      obtain ⟨v21, e21, hr⟩ := ob hr
      refine v_callV C (b := b21) h21 (by decide) rfl rfl (k_Jx4a65c_get_915e3 e21) cw_Jx4a65c_get_915e3 w_449 w_450 w_451 (show (parseMethodDescriptor (yJx4a65c_get_915e3).desc).map (fun d => d.parameters.length) = some 1 by decide +kernel) ⟨by decide, by decide⟩ (rest := [.long x1]) (stk2 := [va_rf v21, .long x1]) (by rw [g21]; rfl) rfl (Nat.le_of_ble_eq_true rfl) hl dX11_sumHeld_21 ?_
      obtain ⟨v24, e24, hr⟩ := ob hr
      refine v_cast C e24 (by decide) rfl w_550 dX11_sumHeld_24 ?_
      obtain ⟨v27, e27, hr⟩ := ob hr
      refine v_getL C fl_RX11_275 rfl e27 dX11_sumHeld_27 ?_
      refine v_ladd C dX11_sumHeld_30 ?_
      refine v_lstore_n C (i := 1) (lv' := [(1, .long (x1 + v27)), (0, va_rf (some x0)), (3, .int x3)]) hl rfl (by decide) rfl dX11_sumHeld_31 (fun ls hl => ?_)
      refine v_iinc C (x3 + 1) (k0 := 2) (lv' := [(3, .int (x3 + 1)), (1, .long (x1 + v27)), (0, va_rf (some x0))]) hl rfl rfl (by decide) rfl dX11_sumHeld_32 (fun ls hl => ?_)
      refine v_goto C 4 (by decide) dX11_sumHeld_35 ?_
      exact ih hr _ (lv_sub hl [2, 1, 0] rfl)
theorem k_X11_sumHeld {l : Launch} {G : Ge} {S : St} {x0 : Nat} {rr : Int64} (hr : f_X11_sumHeld S x0 = some rr) : Ct l G yX11_sumHeld cX11_sumHeld 4 (Option.some Jvm.ClassFile.FieldType.long) S [va_rf (some x0)] (some (.long rr)) S 3 64 := by
  refine ct_of (by decide +kernel) (Nat.le_of_ble_eq_true rfl) ?_
  intro p e s m args below meth c C ls hl
  have hl : lv_has ls 4 [(0, va_rf (some x0))] := hl
  unfold f_X11_sumHeld at hr
  refine v_lconst C 0 (by decide) dX11_sumHeld_0 ?_
  refine v_lstore_n C (i := 1) (lv' := [(1, .long 0), (0, va_rf (some x0))]) hl rfl (by decide) rfl dX11_sumHeld_1 (fun ls hl => ?_)
  refine v_iconst C 0 (by decide) dX11_sumHeld_2 ?_
  refine v_istore_n C (i := 3) (lv' := [(3, .int 0), (1, .long 0), (0, va_rf (some x0))]) hl rfl (by decide) rfl dX11_sumHeld_3 (fun ls hl => ?_)
  exact b_X11_sumHeld_4 C (fun _ q => by cases q; rfl) FU hr _ (lv_sub hl [2, 1, 0] rfl)
-- X11_sumPaid
def f_X11_sumPaid_4 : Nat → St → Nat → Int64 → Int32 → Option (Int64)
  | 0, _, _, _, _ => none
  | n + 1, S, x0, x1, x3 =>
    (getR S (some x0) 12 3).bind fun v6 =>
    (rcv S v6 0).bind fun b9 =>
    (f_Jx4a65c_size_8abf5 S b9).bind fun v9 =>
    (if v9 ≤ x3 then
    some x1
    else
    (getR S (some x0) 12 3).bind fun v18 =>
    (rcv S v18 0).bind fun b22 =>
    (f_Jx4a65c_get_915e3 S b22 x3).bind fun v22 =>
    (castO S v22 1).bind fun v25 =>
    (rcv S (some x0) 12).bind fun b28 =>
    (f_X11_paidOf S b28 v25).bind fun v28 =>
    f_X11_sumPaid_4 n S x0 (x1 + v28) (x3 + 1))
def f_X11_sumPaid (S : St) (x0 : Nat) : Option Int64 :=
    f_X11_sumPaid_4 FU S x0 0 0
theorem b_X11_sumPaid_4  {S : St} {rr : Int64} (C : Cx p s m args meth c G S yX11_sumPaid cX11_sumPaid 4 (Option.some Jvm.ClassFile.FieldType.long)) {o : (Int64)} (kR : ∀ (v : Int64), o = v → rr = v) : ∀ (n : Nat) {x0 : Nat} {x1 : Int64} {x3 : Int32}, f_X11_sumPaid_4 n S x0 x1 x3 = some o → ∀ ls : Array Slot, lv_has ls 4 [(0, va_rf (some x0)), (1, .long x1), (3, .int x3)] → V p l e (rmo 4 89 S) s m args below meth c G S S (QM below args s G S S (some (.long rr))) (F0 m 4 ls []) := by
  intro n
  induction n with
  | zero => intro x0 x1 x3 hr; cases hr
  | succ n ih =>
    intro x0 x1 x3 hr ls hl
    unfold f_X11_sumPaid_4 at hr
    refine v_iload_n C (lv_at hl 2 rfl) rfl dX11_sumPaid_4 ?_
    refine v_aload_n C (lv_at hl 0 rfl) rfl dX11_sumPaid_5 ?_
    obtain ⟨v6, e6, hr⟩ := ob hr
    refine v_getR C fl_RX11_23 rfl e6 dX11_sumPaid_6 ?_
    obtain ⟨b9, f9, hr⟩ := ob hr
    obtain ⟨g9, h9⟩ := rcv_n f9
    obtain ⟨v9, e9, hr⟩ := ob hr
    refine v_callV C (b := b9) h9 (by decide) rfl rfl (k_Jx4a65c_size_8abf5 e9) cw_Jx4a65c_size_8abf5 w_352 w_353 w_354 (show (parseMethodDescriptor (yJx4a65c_size_8abf5).desc).map (fun d => d.parameters.length) = some 0 by decide +kernel) ⟨by decide, by decide⟩ (rest := [.int x3]) (stk2 := [.int v9, .int x3]) (by rw [g9]; rfl) rfl (Nat.le_of_ble_eq_true rfl) hl dX11_sumPaid_9 ?_
    refine v_icmp_ge C 39 (by decide) dX11_sumPaid_12 (fun c12 => ?_) (fun c12 => ?_)
    · rw [if_pos c12] at hr
      refine v_lload_n C (lv_at hl 1 rfl) rfl dX11_sumPaid_39 ?_
      obtain rfl := os hr
      obtain rfl := kR _ rfl
      exact v_lret C dX11_sumPaid_40
    · rw [if_neg c12] at hr
      refine v_lload_n C (lv_at hl 1 rfl) rfl dX11_sumPaid_15 ?_
      refine v_aload_n C (lv_at hl 0 rfl) rfl dX11_sumPaid_16 ?_
      refine v_aload_n C (lv_at hl 0 rfl) rfl dX11_sumPaid_17 ?_
      obtain ⟨v18, e18, hr⟩ := ob hr
      refine v_getR C fl_RX11_23 rfl e18 dX11_sumPaid_18 ?_
      refine v_iload_n C (lv_at hl 2 rfl) rfl dX11_sumPaid_21 ?_
      obtain ⟨b22, f22, hr⟩ := ob hr
      obtain ⟨g22, h22⟩ := rcv_n f22
      obtain ⟨v22, e22, hr⟩ := ob hr
      refine v_callV C (b := b22) h22 (by decide) rfl rfl (k_Jx4a65c_get_915e3 e22) cw_Jx4a65c_get_915e3 w_449 w_450 w_451 (show (parseMethodDescriptor (yJx4a65c_get_915e3).desc).map (fun d => d.parameters.length) = some 1 by decide +kernel) ⟨by decide, by decide⟩ (rest := [va_rf (some x0), .long x1]) (stk2 := [va_rf v22, va_rf (some x0), .long x1]) (by rw [g22]; rfl) rfl (by simp [rf_cat, cat_i, cat_l]) hl dX11_sumPaid_22 ?_
      obtain ⟨v25, e25, hr⟩ := ob hr
      refine v_cast C e25 (by decide) rfl w_550 dX11_sumPaid_25 ?_
      obtain ⟨b28, f28, hr⟩ := ob hr
      obtain ⟨g28, h28⟩ := rcv_n f28
      obtain ⟨v28, e28, hr⟩ := ob hr
      refine v_callV C (b := b28) h28 (by decide) rfl rfl (k_X11_paidOf e28) cw_X11_paidOf w_980 w_982 w_26 (show (parseMethodDescriptor (yX11_paidOf).desc).map (fun d => d.parameters.length) = some 1 by decide +kernel) ⟨by decide, by decide⟩ (rest := [.long x1]) (stk2 := [.long v28, .long x1]) (by rw [g28]; rfl) rfl (Nat.le_of_ble_eq_true rfl) hl dX11_sumPaid_28 ?_
      refine v_ladd C dX11_sumPaid_31 ?_
      refine v_lstore_n C (i := 1) (lv' := [(1, .long (x1 + v28)), (0, va_rf (some x0)), (3, .int x3)]) hl rfl (by decide) rfl dX11_sumPaid_32 (fun ls hl => ?_)
      refine v_iinc C (x3 + 1) (k0 := 2) (lv' := [(3, .int (x3 + 1)), (1, .long (x1 + v28)), (0, va_rf (some x0))]) hl rfl rfl (by decide) rfl dX11_sumPaid_33 (fun ls hl => ?_)
      refine v_goto C 4 (by decide) dX11_sumPaid_36 ?_
      exact ih hr _ (lv_sub hl [2, 1, 0] rfl)
theorem k_X11_sumPaid {l : Launch} {G : Ge} {S : St} {x0 : Nat} {rr : Int64} (hr : f_X11_sumPaid S x0 = some rr) : Ct l G yX11_sumPaid cX11_sumPaid 4 (Option.some Jvm.ClassFile.FieldType.long) S [va_rf (some x0)] (some (.long rr)) S 4 89 := by
  refine ct_of (by decide +kernel) (Nat.le_of_ble_eq_true rfl) ?_
  intro p e s m args below meth c C ls hl
  have hl : lv_has ls 4 [(0, va_rf (some x0))] := hl
  unfold f_X11_sumPaid at hr
  refine v_lconst C 0 (by decide) dX11_sumPaid_0 ?_
  refine v_lstore_n C (i := 1) (lv' := [(1, .long 0), (0, va_rf (some x0))]) hl rfl (by decide) rfl dX11_sumPaid_1 (fun ls hl => ?_)
  refine v_iconst C 0 (by decide) dX11_sumPaid_2 ?_
  refine v_istore_n C (i := 3) (lv' := [(3, .int 0), (1, .long 0), (0, va_rf (some x0))]) hl rfl (by decide) rfl dX11_sumPaid_3 (fun ls hl => ?_)
  exact b_X11_sumPaid_4 C (fun _ q => by cases q; rfl) FU hr _ (lv_sub hl [2, 1, 0] rfl)
-- X11_look
def f_X11_look (S : St) (x0 : Nat) (x1 : Int32) : Option Int64 :=
    (if x1 = 0 then
    (getI S (some x0) 12 0).bind fun v53 =>
    some (Int32.toInt64 v53)
    else
    (if x1 = 1 then
    (getR S (some x0) 12 1).bind fun v59 =>
    (rcv S v59 0).bind fun b62 =>
    (f_Jx4a65c_size_8abf5 S b62).bind fun v62 =>
    some (Int32.toInt64 v62)
    else
    (if x1 = 2 then
    (getR S (some x0) 12 2).bind fun v68 =>
    (rcv S v68 0).bind fun b71 =>
    (f_Jx4a65c_size_8abf5 S b71).bind fun v71 =>
    some (Int32.toInt64 v71)
    else
    (if x1 = 3 then
    (getR S (some x0) 12 3).bind fun v77 =>
    (rcv S v77 0).bind fun b80 =>
    (f_Jx4a65c_size_8abf5 S b80).bind fun v80 =>
    some (Int32.toInt64 v80)
    else
    (if x1 = 4 then
    (getI S (some x0) 12 5).bind fun v86 =>
    some (Int32.toInt64 v86)
    else
    (if x1 = 5 then
    (rcv S (some x0) 12).bind fun b92 =>
    (f_X11_countHeld S b92).bind fun v92 =>
    some (Int32.toInt64 v92)
    else
    (if x1 = 6 then
    (rcv S (some x0) 12).bind fun b98 =>
    (f_X11_sumHeld S b98).bind fun v98 =>
    some v98
    else
    (if x1 = 7 then
    (rcv S (some x0) 12).bind fun b103 =>
    (f_X11_sumPaid S b103).bind fun v103 =>
    some v103
    else
    (if x1 = 8 then
    (getR S (some x0) 12 4).bind fun v108 =>
    (rcv S v108 0).bind fun b111 =>
    (f_Jx4a65c_size_8abf5 S b111).bind fun v111 =>
    some (Int32.toInt64 v111)
    else
    some (-1))))))))))
theorem k_X11_look {l : Launch} {G : Ge} {S : St} {x0 : Nat} {x1 : Int32} {rr : Int64} (hr : f_X11_look S x0 x1 = some rr) : Ct l G yX11_look cX11_look 2 (Option.some Jvm.ClassFile.FieldType.long) S [va_rf (some x0), .int x1] (some (.long rr)) S 5 112 := by
  refine ct_of (by decide +kernel) (Nat.le_of_ble_eq_true rfl) ?_
  intro p e s m args below meth c C ls hl
  have hl : lv_has ls 2 [(0, va_rf (some x0)), (1, .int x1)] := hl
  unfold f_X11_look at hr
  refine v_iload_n C (lv_at hl 1 rfl) rfl dX11_look_0 ?_
  by_cases q1_0 : x1 = 0
  · rw [if_pos q1_0] at hr
    refine v_tableIn C (off := 51) 52 (by rw [q1_0]; decide) (by rw [q1_0]; decide) (by rw [q1_0]; decide) (by decide) dX11_look_1 ?_
    refine v_aload_n C (lv_at hl 0 rfl) rfl dX11_look_52 ?_
    obtain ⟨v53, e53, hr⟩ := ob hr
    refine v_getI C fl_RX11_7 rfl e53 dX11_look_53 ?_
    refine v_i2l C dX11_look_56 ?_
    obtain rfl := os hr
    exact v_lret C dX11_look_57
  rw [if_neg q1_0] at hr
  by_cases q1_1 : x1 = 1
  · rw [if_pos q1_1] at hr
    refine v_tableIn C (off := 57) 58 (by rw [q1_1]; decide) (by rw [q1_1]; decide) (by rw [q1_1]; decide) (by decide) dX11_look_1 ?_
    refine v_aload_n C (lv_at hl 0 rfl) rfl dX11_look_58 ?_
    obtain ⟨v59, e59, hr⟩ := ob hr
    refine v_getR C fl_RX11_16 rfl e59 dX11_look_59 ?_
    obtain ⟨b62, f62, hr⟩ := ob hr
    obtain ⟨g62, h62⟩ := rcv_n f62
    obtain ⟨v62, e62, hr⟩ := ob hr
    refine v_callV C (b := b62) h62 (by decide) rfl rfl (k_Jx4a65c_size_8abf5 e62) cw_Jx4a65c_size_8abf5 w_352 w_353 w_354 (show (parseMethodDescriptor (yJx4a65c_size_8abf5).desc).map (fun d => d.parameters.length) = some 0 by decide +kernel) ⟨by decide, by decide⟩ (rest := []) (stk2 := [.int v62]) (by rw [g62]; rfl) rfl (Nat.le_of_ble_eq_true rfl) hl dX11_look_62 ?_
    refine v_i2l C dX11_look_65 ?_
    obtain rfl := os hr
    exact v_lret C dX11_look_66
  rw [if_neg q1_1] at hr
  by_cases q1_2 : x1 = 2
  · rw [if_pos q1_2] at hr
    refine v_tableIn C (off := 66) 67 (by rw [q1_2]; decide) (by rw [q1_2]; decide) (by rw [q1_2]; decide) (by decide) dX11_look_1 ?_
    refine v_aload_n C (lv_at hl 0 rfl) rfl dX11_look_67 ?_
    obtain ⟨v68, e68, hr⟩ := ob hr
    refine v_getR C fl_RX11_20 rfl e68 dX11_look_68 ?_
    obtain ⟨b71, f71, hr⟩ := ob hr
    obtain ⟨g71, h71⟩ := rcv_n f71
    obtain ⟨v71, e71, hr⟩ := ob hr
    refine v_callV C (b := b71) h71 (by decide) rfl rfl (k_Jx4a65c_size_8abf5 e71) cw_Jx4a65c_size_8abf5 w_352 w_353 w_354 (show (parseMethodDescriptor (yJx4a65c_size_8abf5).desc).map (fun d => d.parameters.length) = some 0 by decide +kernel) ⟨by decide, by decide⟩ (rest := []) (stk2 := [.int v71]) (by rw [g71]; rfl) rfl (Nat.le_of_ble_eq_true rfl) hl dX11_look_71 ?_
    refine v_i2l C dX11_look_74 ?_
    obtain rfl := os hr
    exact v_lret C dX11_look_75
  rw [if_neg q1_2] at hr
  by_cases q1_3 : x1 = 3
  · rw [if_pos q1_3] at hr
    refine v_tableIn C (off := 75) 76 (by rw [q1_3]; decide) (by rw [q1_3]; decide) (by rw [q1_3]; decide) (by decide) dX11_look_1 ?_
    refine v_aload_n C (lv_at hl 0 rfl) rfl dX11_look_76 ?_
    obtain ⟨v77, e77, hr⟩ := ob hr
    refine v_getR C fl_RX11_23 rfl e77 dX11_look_77 ?_
    obtain ⟨b80, f80, hr⟩ := ob hr
    obtain ⟨g80, h80⟩ := rcv_n f80
    obtain ⟨v80, e80, hr⟩ := ob hr
    refine v_callV C (b := b80) h80 (by decide) rfl rfl (k_Jx4a65c_size_8abf5 e80) cw_Jx4a65c_size_8abf5 w_352 w_353 w_354 (show (parseMethodDescriptor (yJx4a65c_size_8abf5).desc).map (fun d => d.parameters.length) = some 0 by decide +kernel) ⟨by decide, by decide⟩ (rest := []) (stk2 := [.int v80]) (by rw [g80]; rfl) rfl (Nat.le_of_ble_eq_true rfl) hl dX11_look_80 ?_
    refine v_i2l C dX11_look_83 ?_
    obtain rfl := os hr
    exact v_lret C dX11_look_84
  rw [if_neg q1_3] at hr
  by_cases q1_4 : x1 = 4
  · rw [if_pos q1_4] at hr
    refine v_tableIn C (off := 84) 85 (by rw [q1_4]; decide) (by rw [q1_4]; decide) (by rw [q1_4]; decide) (by decide) dX11_look_1 ?_
    refine v_aload_n C (lv_at hl 0 rfl) rfl dX11_look_85 ?_
    obtain ⟨v86, e86, hr⟩ := ob hr
    refine v_getI C fl_RX11_29 rfl e86 dX11_look_86 ?_
    refine v_i2l C dX11_look_89 ?_
    obtain rfl := os hr
    exact v_lret C dX11_look_90
  rw [if_neg q1_4] at hr
  by_cases q1_5 : x1 = 5
  · rw [if_pos q1_5] at hr
    refine v_tableIn C (off := 90) 91 (by rw [q1_5]; decide) (by rw [q1_5]; decide) (by rw [q1_5]; decide) (by decide) dX11_look_1 ?_
    refine v_aload_n C (lv_at hl 0 rfl) rfl dX11_look_91 ?_
    obtain ⟨b92, f92, hr⟩ := ob hr
    obtain ⟨g92, h92⟩ := rcv_n f92
    obtain ⟨v92, e92, hr⟩ := ob hr
    refine v_callV C (b := b92) h92 (by decide) rfl rfl (k_X11_countHeld e92) cw_X11_countHeld w_1284 w_1286 w_48 (show (parseMethodDescriptor (yX11_countHeld).desc).map (fun d => d.parameters.length) = some 0 by decide +kernel) ⟨by decide, by decide⟩ (rest := []) (stk2 := [.int v92]) (by rw [g92]; rfl) rfl (Nat.le_of_ble_eq_true rfl) hl dX11_look_92 ?_
    refine v_i2l C dX11_look_95 ?_
    obtain rfl := os hr
    exact v_lret C dX11_look_96
  rw [if_neg q1_5] at hr
  by_cases q1_6 : x1 = 6
  · rw [if_pos q1_6] at hr
    refine v_tableIn C (off := 96) 97 (by rw [q1_6]; decide) (by rw [q1_6]; decide) (by rw [q1_6]; decide) (by decide) dX11_look_1 ?_
    refine v_aload_n C (lv_at hl 0 rfl) rfl dX11_look_97 ?_
    obtain ⟨b98, f98, hr⟩ := ob hr
    obtain ⟨g98, h98⟩ := rcv_n f98
    obtain ⟨v98, e98, hr⟩ := ob hr
    refine v_callV C (b := b98) h98 (by decide) rfl rfl (k_X11_sumHeld e98) cw_X11_sumHeld w_1288 w_1290 w_49 (show (parseMethodDescriptor (yX11_sumHeld).desc).map (fun d => d.parameters.length) = some 0 by decide +kernel) ⟨by decide, by decide⟩ (rest := []) (stk2 := [.long v98]) (by rw [g98]; rfl) rfl (Nat.le_of_ble_eq_true rfl) hl dX11_look_98 ?_
    obtain rfl := os hr
    exact v_lret C dX11_look_101
  rw [if_neg q1_6] at hr
  by_cases q1_7 : x1 = 7
  · rw [if_pos q1_7] at hr
    refine v_tableIn C (off := 101) 102 (by rw [q1_7]; decide) (by rw [q1_7]; decide) (by rw [q1_7]; decide) (by decide) dX11_look_1 ?_
    refine v_aload_n C (lv_at hl 0 rfl) rfl dX11_look_102 ?_
    obtain ⟨b103, f103, hr⟩ := ob hr
    obtain ⟨g103, h103⟩ := rcv_n f103
    obtain ⟨v103, e103, hr⟩ := ob hr
    refine v_callV C (b := b103) h103 (by decide) rfl rfl (k_X11_sumPaid e103) cw_X11_sumPaid w_1292 w_1294 w_50 (show (parseMethodDescriptor (yX11_sumPaid).desc).map (fun d => d.parameters.length) = some 0 by decide +kernel) ⟨by decide, by decide⟩ (rest := []) (stk2 := [.long v103]) (by rw [g103]; rfl) rfl (Nat.le_of_ble_eq_true rfl) hl dX11_look_103 ?_
    obtain rfl := os hr
    exact v_lret C dX11_look_106
  rw [if_neg q1_7] at hr
  by_cases q1_8 : x1 = 8
  · rw [if_pos q1_8] at hr
    refine v_tableIn C (off := 106) 107 (by rw [q1_8]; decide) (by rw [q1_8]; decide) (by rw [q1_8]; decide) (by decide) dX11_look_1 ?_
    refine v_aload_n C (lv_at hl 0 rfl) rfl dX11_look_107 ?_
    obtain ⟨v108, e108, hr⟩ := ob hr
    refine v_getR C fl_RX11_26 rfl e108 dX11_look_108 ?_
    obtain ⟨b111, f111, hr⟩ := ob hr
    obtain ⟨g111, h111⟩ := rcv_n f111
    obtain ⟨v111, e111, hr⟩ := ob hr
    refine v_callV C (b := b111) h111 (by decide) rfl rfl (k_Jx4a65c_size_8abf5 e111) cw_Jx4a65c_size_8abf5 w_352 w_353 w_354 (show (parseMethodDescriptor (yJx4a65c_size_8abf5).desc).map (fun d => d.parameters.length) = some 0 by decide +kernel) ⟨by decide, by decide⟩ (rest := []) (stk2 := [.int v111]) (by rw [g111]; rfl) rfl (Nat.le_of_ble_eq_true rfl) hl dX11_look_111 ?_
    refine v_i2l C dX11_look_114 ?_
    obtain rfl := os hr
    exact v_lret C dX11_look_115
  rw [if_neg q1_8] at hr
  have kd1 : V p l e (rmo 5 112 S) s m args below meth c G S S (QM below args s G S S (some (.long rr))) (F0 m 116 ls []) := by
    refine v_ldc2 C w_676 dX11_look_116 ?_
    obtain rfl := os hr
    exact v_lret C dX11_look_119
  have z0 := lv_neT q1_0 (a := 0) (by decide)
  have z1 := lv_neT q1_1 (a := 1) (by decide)
  have z2 := lv_neT q1_2 (a := 2) (by decide)
  have z3 := lv_neT q1_3 (a := 3) (by decide)
  have z4 := lv_neT q1_4 (a := 4) (by decide)
  have z5 := lv_neT q1_5 (a := 5) (by decide)
  have z6 := lv_neT q1_6 (a := 6) (by decide)
  have z7 := lv_neT q1_7 (a := 7) (by decide)
  have z8 := lv_neT q1_8 (a := 8) (by decide)
  exact v_tableOut C 116 (by omega) (by decide) dX11_look_1 kd1
-- X1_addGap
def f_X1_addGap_23 : Nat → St → Nat → Int32 → Int32 → Int32 → Int32 → Int32 → Option (Nat × Int32 × Int32 × Int32 × Int32 × St)
  | 0, _, _, _, _, _, _, _ => none
  | n + 1, S, x0, x1, x2, x3, x4, x5 =>
    (if x5 ≤ x1 then
    some (x0, x2, x3, x4, x5, S)
    else
    (if x5 ≤ 0 then
    some (x0, x2, x3, x4, x5, S)
    else
    (getR S (some x0) 2 1).bind fun v35 =>
    (ldI S v35 15 (x5 - 1)).bind fun v42 =>
    (if v42 ≤ x4 then
    some (x0, x2, x3, x4, x5, S)
    else
    (getR S (some x0) 2 1).bind fun v49 =>
    (getR S (some x0) 2 1).bind fun v55 =>
    (ldI S v55 15 (x5 - 1)).bind fun v62 =>
    (stI S v49 15 x5 v62).bind fun S63 =>
    (getR S63 (some x0) 2 0).bind fun v65 =>
    (getR S63 (some x0) 2 0).bind fun v71 =>
    (ldL S63 v71 (x5 - 1)).bind fun v78 =>
    (stL S63 v65 x5 v78).bind fun S79 =>
    f_X1_addGap_23 n S79 x0 x1 x2 x3 x4 (x5 + (-1)))))
def f_X1_addGap_86 (S : St) (x0 : Nat) (x2 : Int32) (x3 : Int32) (x4 : Int32) (x5 : Int32) : Option St :=
    (getR S (some x0) 2 1).bind fun v87 =>
    (stI S v87 15 x5 x4).bind fun S94 =>
    (getR S94 (some x0) 2 0).bind fun v96 =>
    (stL S94 v96 x5 ((((Int32.toInt64 x3) <<< (Int32.toInt64 31 &&& 63)) - ((Int32.toInt64 x4) <<< (Int32.toInt64 20 &&& 63))) - (1 <<< (Int32.toInt64 x2 &&& 63)))).bind fun S117 =>
    (getI S117 (some x0) 2 3).bind fun v120 =>
    (putI S117 (some x0) 2 3 (v120 + 1)).bind fun S125 =>
    some S125
def f_X1_addGap (S : St) (x0 : Nat) (x1 : Int32) (x2 : Int32) (x3 : Int32) (x4 : Int32) : Option St :=
    (if x3 ≤ 0 then
    some S
    else
    (getI S (some x0) 2 3).bind fun v5 =>
    (f_X11_isWithin S v5 20).bind fun v10 =>
    (if v10 = 0 then
    some S
    else
    (getI S (some x0) 2 3).bind fun v18 =>
    (f_X1_addGap_23 FU S x0 x1 x2 x3 x4 v18).bind fun (x0, x2_23, x3_23, x4_23, x5_23, S_23) => f_X1_addGap_86 S_23 x0 x2_23 x3_23 x4_23 x5_23))
theorem b_X1_addGap_23  {S0 S' : St} (C : Cx p s m args meth c G S0 yX1_addGap cX1_addGap 6 (Option.none : Option Jvm.ClassFile.FieldType)) {o : (Nat × Int32 × Int32 × Int32 × Int32 × St)} (kX86 : ∀ {x0 : Nat} {x2 : Int32} {x3 : Int32} {x4 : Int32} {x5 : Int32} {Z : St}, o = (x0, x2, x3, x4, x5, Z) → ∀ ls : Array Slot, lv_has ls 6 [(0, va_rf (some x0)), (2, .int x2), (3, .int x3), (4, .int x4), (5, .int x5)] → V p l e (rmo 1 21 S0) s m args below meth c G S0 Z (QM below args s G S0 S' none) (F0 m 86 ls [])) : ∀ (n : Nat) {S : St} {x0 : Nat} {x1 : Int32} {x2 : Int32} {x3 : Int32} {x4 : Int32} {x5 : Int32}, f_X1_addGap_23 n S x0 x1 x2 x3 x4 x5 = some o → ∀ ls : Array Slot, lv_has ls 6 [(0, va_rf (some x0)), (1, .int x1), (2, .int x2), (3, .int x3), (4, .int x4), (5, .int x5)] → V p l e (rmo 1 21 S0) s m args below meth c G S0 S (QM below args s G S0 S' none) (F0 m 23 ls []) := by
  intro n
  induction n with
  | zero => intro S x0 x1 x2 x3 x4 x5 hr; cases hr
  | succ n ih =>
    intro S x0 x1 x2 x3 x4 x5 hr ls hl
    unfold f_X1_addGap_23 at hr
    refine v_iload C (lv_at hl 5 rfl) dX1_addGap_23 ?_
    refine v_iload_n C (lv_at hl 1 rfl) rfl dX1_addGap_25 ?_
    refine v_icmp_le C 86 (by decide) dX1_addGap_26 (fun c26 => ?_) (fun c26 => ?_)
    · rw [if_pos c26] at hr
      obtain rfl := os hr
      exact kX86 rfl _ (lv_sub hl [0, 2, 3, 4, 5] rfl)
    · rw [if_neg c26] at hr
      refine v_iload C (lv_at hl 5 rfl) dX1_addGap_29 ?_
      refine v_if_le C 86 (by decide) dX1_addGap_31 (fun c31 => ?_) (fun c31 => ?_)
      · rw [if_pos c31] at hr
        obtain rfl := os hr
        exact kX86 rfl _ (lv_sub hl [0, 2, 3, 4, 5] rfl)
      · rw [if_neg c31] at hr
        refine v_aload_n C (lv_at hl 0 rfl) rfl dX1_addGap_34 ?_
        obtain ⟨v35, e35, hr⟩ := ob hr
        refine v_getR C fl_RX1_15 rfl e35 dX1_addGap_35 ?_
        refine v_iload C (lv_at hl 5 rfl) dX1_addGap_38 ?_
        refine v_iconst C 1 (by decide) dX1_addGap_40 ?_
        refine v_isub C dX1_addGap_41 ?_
        obtain ⟨v42, e42, hr⟩ := ob hr
        refine v_ldI_i C e42 dX1_addGap_42 ?_
        refine v_iload C (lv_at hl 4 rfl) dX1_addGap_43 ?_
        refine v_icmp_le C 86 (by decide) dX1_addGap_45 (fun c45 => ?_) (fun c45 => ?_)
        · rw [if_pos c45] at hr
          obtain rfl := os hr
          exact kX86 rfl _ (lv_sub hl [0, 2, 3, 4, 5] rfl)
        · rw [if_neg c45] at hr
          refine v_aload_n C (lv_at hl 0 rfl) rfl dX1_addGap_48 ?_
          obtain ⟨v49, e49, hr⟩ := ob hr
          refine v_getR C fl_RX1_15 rfl e49 dX1_addGap_49 ?_
          refine v_iload C (lv_at hl 5 rfl) dX1_addGap_52 ?_
          refine v_aload_n C (lv_at hl 0 rfl) rfl dX1_addGap_54 ?_
          obtain ⟨v55, e55, hr⟩ := ob hr
          refine v_getR C fl_RX1_15 rfl e55 dX1_addGap_55 ?_
          refine v_iload C (lv_at hl 5 rfl) dX1_addGap_58 ?_
          refine v_iconst C 1 (by decide) dX1_addGap_60 ?_
          refine v_isub C dX1_addGap_61 ?_
          obtain ⟨v62, e62, hr⟩ := ob hr
          refine v_ldI_i C e62 dX1_addGap_62 ?_
          obtain ⟨S63, e63, hr⟩ := ob hr
          refine v_stI_i C e63 dX1_addGap_63 ?_
          refine v_aload_n C (lv_at hl 0 rfl) rfl dX1_addGap_64 ?_
          obtain ⟨v65, e65, hr⟩ := ob hr
          refine v_getR C fl_RX1_9 rfl e65 dX1_addGap_65 ?_
          refine v_iload C (lv_at hl 5 rfl) dX1_addGap_68 ?_
          refine v_aload_n C (lv_at hl 0 rfl) rfl dX1_addGap_70 ?_
          obtain ⟨v71, e71, hr⟩ := ob hr
          refine v_getR C fl_RX1_9 rfl e71 dX1_addGap_71 ?_
          refine v_iload C (lv_at hl 5 rfl) dX1_addGap_74 ?_
          refine v_iconst C 1 (by decide) dX1_addGap_76 ?_
          refine v_isub C dX1_addGap_77 ?_
          obtain ⟨v78, e78, hr⟩ := ob hr
          refine v_ldL C e78 dX1_addGap_78 ?_
          obtain ⟨S79, e79, hr⟩ := ob hr
          refine v_stL C e79 dX1_addGap_79 ?_
          refine v_iinc C (x5 + (-1)) (k0 := 5) (lv' := [(5, .int (x5 + (-1))), (0, va_rf (some x0)), (1, .int x1), (2, .int x2), (3, .int x3), (4, .int x4)]) hl rfl (congrArg (fun z => x5 + z) (show Int32.ofInt (-1) = (-1) by decide)) (by decide) rfl dX1_addGap_80 (fun ls hl => ?_)
          refine v_goto C 23 (by decide) dX1_addGap_83 ?_
          exact ih hr _ (lv_sub hl [1, 2, 3, 4, 5, 0] rfl)
theorem b_X1_addGap_86  {S0 S S' : St} {x0 : Nat} {x2 : Int32} {x3 : Int32} {x4 : Int32} {x5 : Int32} (C : Cx p s m args meth c G S0 yX1_addGap cX1_addGap 6 (Option.none : Option Jvm.ClassFile.FieldType)) (hr : f_X1_addGap_86 S x0 x2 x3 x4 x5 = some S') : ∀ ls : Array Slot, lv_has ls 6 [(0, va_rf (some x0)), (2, .int x2), (3, .int x3), (4, .int x4), (5, .int x5)] → V p l e (rmo 1 21 S0) s m args below meth c G S0 S (QM below args s G S0 S' none) (F0 m 86 ls []) := by
  intro ls hl
  unfold f_X1_addGap_86 at hr
  refine v_aload_n C (lv_at hl 0 rfl) rfl dX1_addGap_86 ?_
  obtain ⟨v87, e87, hr⟩ := ob hr
  refine v_getR C fl_RX1_15 rfl e87 dX1_addGap_87 ?_
  refine v_iload C (lv_at hl 4 rfl) dX1_addGap_90 ?_
  refine v_iload C (lv_at hl 3 rfl) dX1_addGap_92 ?_
  obtain ⟨S94, e94, hr⟩ := ob hr
  refine v_stI_i C e94 dX1_addGap_94 ?_
  refine v_aload_n C (lv_at hl 0 rfl) rfl dX1_addGap_95 ?_
  obtain ⟨v96, e96, hr⟩ := ob hr
  refine v_getR C fl_RX1_9 rfl e96 dX1_addGap_96 ?_
  refine v_iload C (lv_at hl 4 rfl) dX1_addGap_99 ?_
  refine v_iload_n C (lv_at hl 2 rfl) rfl dX1_addGap_101 ?_
  refine v_i2l C dX1_addGap_102 ?_
  refine v_bipush C 31 (by decide) dX1_addGap_103 ?_
  refine v_lshl C dX1_addGap_105 ?_
  refine v_iload C (lv_at hl 3 rfl) dX1_addGap_106 ?_
  refine v_i2l C dX1_addGap_108 ?_
  refine v_bipush C 20 (by decide) dX1_addGap_109 ?_
  refine v_lshl C dX1_addGap_111 ?_
  refine v_lsub C dX1_addGap_112 ?_
  refine v_lconst C 1 (by decide) dX1_addGap_113 ?_
  refine v_iload_n C (lv_at hl 1 rfl) rfl dX1_addGap_114 ?_
  refine v_lshl C dX1_addGap_115 ?_
  refine v_lsub C dX1_addGap_116 ?_
  obtain ⟨S117, e117, hr⟩ := ob hr
  refine v_stL C e117 dX1_addGap_117 ?_
  refine v_aload_n C (lv_at hl 0 rfl) rfl dX1_addGap_118 ?_
  refine v_dup C (rf_cat _) dX1_addGap_119 ?_
  obtain ⟨v120, e120, hr⟩ := ob hr
  refine v_getI C fl_RX1_22 rfl e120 dX1_addGap_120 ?_
  refine v_iconst C 1 (by decide) dX1_addGap_123 ?_
  refine v_iadd C dX1_addGap_124 ?_
  obtain ⟨S125, e125, hr⟩ := ob hr
  refine v_putI C fl_RX1_22 (Or.inl rfl) rfl e125 dX1_addGap_125 ?_
  obtain rfl := os hr
  exact v_vret C dX1_addGap_128
theorem k_X1_addGap {l : Launch} {G : Ge} {S S' : St} {x0 : Nat} {x1 : Int32} {x2 : Int32} {x3 : Int32} {x4 : Int32} (hr : f_X1_addGap S x0 x1 x2 x3 x4 = some S') : Ct l G yX1_addGap cX1_addGap 6 (Option.none : Option Jvm.ClassFile.FieldType) S [va_rf (some x0), .int x1, .int x2, .int x3, .int x4] none S' 1 21 := by
  refine ct_of (by decide +kernel) (Nat.le_of_ble_eq_true rfl) ?_
  intro p e s m args below meth c C ls hl
  have hl : lv_has ls 6 [(0, va_rf (some x0)), (1, .int x1), (2, .int x2), (3, .int x3), (4, .int x4)] := hl
  unfold f_X1_addGap at hr
  refine v_iload_n C (lv_at hl 3 rfl) rfl dX1_addGap_0 ?_
  refine v_if_le C 16 (by decide) dX1_addGap_1 (fun c1 => ?_) (fun c1 => ?_)
  · rw [if_pos c1] at hr
    obtain rfl := os hr
    exact v_vret C dX1_addGap_16
  · rw [if_neg c1] at hr
    refine v_aload_n C (lv_at hl 0 rfl) rfl dX1_addGap_4 ?_
    obtain ⟨v5, e5, hr⟩ := ob hr
    refine v_getI C fl_RX1_22 rfl e5 dX1_addGap_5 ?_
    refine v_bipush C 20 (by decide) dX1_addGap_8 ?_
    obtain ⟨v10, e10, hr⟩ := ob hr
    refine v_callSN C "SleepOffice" (k_X11_isWithin e10) cw_X11_isWithin (by decide +kernel) w_350 (show (parseMethodDescriptor (yX11_isWithin).desc).map (fun d => d.parameters.length) = some 2 by decide +kernel) ⟨by decide, by decide⟩ (rest := []) (stk2 := [.int v10]) rfl rfl (Nat.le_of_ble_eq_true rfl) hl dX1_addGap_10 ?_
    refine v_if_ne C 17 (by decide) dX1_addGap_13 (fun c13 => ?_) (fun c13 => ?_)
    · rw [if_neg c13] at hr
      refine v_aload_n C (lv_at hl 0 rfl) rfl dX1_addGap_17 ?_
      obtain ⟨v18, e18, hr⟩ := ob hr
      refine v_getI C fl_RX1_22 rfl e18 dX1_addGap_18 ?_
      refine v_istore C (i := 5) (lv' := [(5, .int v18), (0, va_rf (some x0)), (1, .int x1), (2, .int x2), (3, .int x3), (4, .int x4)]) hl (by decide) rfl dX1_addGap_21 (fun ls hl => ?_)
      obtain ⟨o23, e23, hr⟩ := ob hr
      refine b_X1_addGap_23 C ?_ FU e23 _ (lv_sub hl [1, 2, 3, 4, 5, 0] rfl)
      · intro x0 x2_23 x3_23 x4_23 x5_23 S_23 q ls hl
        subst q
        (try dsimp only at hr)
        exact b_X1_addGap_86 C hr _ (lv_sub hl [0, 1, 2, 3, 4] rfl)
    · rw [if_pos c13] at hr
      obtain rfl := os hr
      exact v_vret C dX1_addGap_16
-- X1_closeRun
def f_X1_closeRun_2 : Nat → St → Nat → Int32 → Option (St)
  | 0, _, _, _ => none
  | n + 1, S, x0, x2 =>
    (if x2 < 0 then
    some S
    else
    (getI S (some x0) 2 3).bind fun v8 =>
    (if v8 ≤ x2 then
    some S
    else
    (if (20 : Int32) ≤ x2 then
    some S
    else
    (getR S (some x0) 2 2).bind fun v21 =>
    (getI S (some x0) 2 3).bind fun v26 =>
    (stI S v21 15 x2 v26).bind fun S29 =>
    f_X1_closeRun_2 n S29 x0 (x2 + 1))))
def f_X1_closeRun (S : St) (x0 : Nat) (x1 : Int32) : Option St :=
    f_X1_closeRun_2 FU S x0 x1
theorem b_X1_closeRun_2  {S0 S' : St} (C : Cx p s m args meth c G S0 yX1_closeRun cX1_closeRun 3 (Option.none : Option Jvm.ClassFile.FieldType)) {o : (St)} (kR : ∀ (Z : St), o = Z → S' = Z) : ∀ (n : Nat) {S : St} {x0 : Nat} {x2 : Int32}, f_X1_closeRun_2 n S x0 x2 = some o → ∀ ls : Array Slot, lv_has ls 3 [(0, va_rf (some x0)), (2, .int x2)] → V p l e (rmo 0 0 S0) s m args below meth c G S0 S (QM below args s G S0 S' none) (F0 m 2 ls []) := by
  intro n
  induction n with
  | zero => intro S x0 x2 hr; cases hr
  | succ n ih =>
    intro S x0 x2 hr ls hl
    unfold f_X1_closeRun_2 at hr
    refine v_iload_n C (lv_at hl 1 rfl) rfl dX1_closeRun_2 ?_
    refine v_if_lt C 36 (by decide) dX1_closeRun_3 (fun c3 => ?_) (fun c3 => ?_)
    · rw [if_pos c3] at hr
      obtain rfl := os hr
      obtain rfl := kR _ rfl
      exact v_vret C dX1_closeRun_36
    · rw [if_neg c3] at hr
      refine v_iload_n C (lv_at hl 1 rfl) rfl dX1_closeRun_6 ?_
      refine v_aload_n C (lv_at hl 0 rfl) rfl dX1_closeRun_7 ?_
      obtain ⟨v8, e8, hr⟩ := ob hr
      refine v_getI C fl_RX1_22 rfl e8 dX1_closeRun_8 ?_
      refine v_icmp_ge C 36 (by decide) dX1_closeRun_11 (fun c11 => ?_) (fun c11 => ?_)
      · rw [if_pos c11] at hr
        obtain rfl := os hr
        obtain rfl := kR _ rfl
        exact v_vret C dX1_closeRun_36
      · rw [if_neg c11] at hr
        refine v_iload_n C (lv_at hl 1 rfl) rfl dX1_closeRun_14 ?_
        refine v_bipush C 20 (by decide) dX1_closeRun_15 ?_
        refine v_icmp_ge C 36 (by decide) dX1_closeRun_17 (fun c17 => ?_) (fun c17 => ?_)
        · rw [if_pos c17] at hr
          obtain rfl := os hr
          obtain rfl := kR _ rfl
          exact v_vret C dX1_closeRun_36
        · rw [if_neg c17] at hr
          refine v_aload_n C (lv_at hl 0 rfl) rfl dX1_closeRun_20 ?_
          obtain ⟨v21, e21, hr⟩ := ob hr
          refine v_getR C fl_RX1_19 rfl e21 dX1_closeRun_21 ?_
          refine v_iload_n C (lv_at hl 1 rfl) rfl dX1_closeRun_24 ?_
          refine v_aload_n C (lv_at hl 0 rfl) rfl dX1_closeRun_25 ?_
          obtain ⟨v26, e26, hr⟩ := ob hr
          refine v_getI C fl_RX1_22 rfl e26 dX1_closeRun_26 ?_
          obtain ⟨S29, e29, hr⟩ := ob hr
          refine v_stI_i C e29 dX1_closeRun_29 ?_
          refine v_iinc C (x2 + 1) (k0 := 1) (lv' := [(2, .int (x2 + 1)), (0, va_rf (some x0))]) hl rfl rfl (by decide) rfl dX1_closeRun_30 (fun ls hl => ?_)
          refine v_goto C 2 (by decide) dX1_closeRun_33 ?_
          exact ih hr _ (lv_sub hl [1, 0] rfl)
theorem k_X1_closeRun {l : Launch} {G : Ge} {S S' : St} {x0 : Nat} {x1 : Int32} (hr : f_X1_closeRun S x0 x1 = some S') : Ct l G yX1_closeRun cX1_closeRun 3 (Option.none : Option Jvm.ClassFile.FieldType) S [va_rf (some x0), .int x1] none S' 0 0 := by
  refine ct_of (by decide +kernel) (Nat.le_of_ble_eq_true rfl) ?_
  intro p e s m args below meth c C ls hl
  have hl : lv_has ls 3 [(0, va_rf (some x0)), (1, .int x1)] := hl
  unfold f_X1_closeRun at hr
  refine v_iload_n C (lv_at hl 1 rfl) rfl dX1_closeRun_0 ?_
  refine v_istore_n C (i := 2) (lv' := [(2, .int x1), (0, va_rf (some x0)), (1, .int x1)]) hl rfl (by decide) rfl dX1_closeRun_1 (fun ls hl => ?_)
  exact b_X1_closeRun_2 C (fun _ q => by cases q; rfl) FU hr _ (lv_sub hl [1, 0] rfl)
-- X1_search
def f_X1_search_73 (ru : St → Nat → Int32 → Int32 → Int32 → Int64 → Option St) (S : St) (x0 : Nat) (x1 : Int32) (x2 : Int32) (x3 : Int32) (x4 : Int64) : Option St :=
    (getR S (some x0) 2 2).bind fun v74 =>
    (ldI S v74 15 x1).bind fun v78 =>
    (if v78 ≤ x1 then
    some S
    else
    (getR S (some x0) 2 2).bind fun v85 =>
    (ldI S v85 15 x1).bind fun v89 =>
    (rcv S (some x0) 2).bind fun b94 =>
    (ru S b94 v89 x2 x3 x4).bind fun S94 =>
    some S94)
def f_X1_search (ru : St → Nat → Int32 → Int32 → Int32 → Int64 → Option St) (S : St) (x0 : Nat) (x1 : Int32) (x2 : Int32) (x3 : Int32) (x4 : Int64) : Option St :=
    (getL S (some x0) 2 4).bind fun v2 =>
    (f_J9_max_f86c9 S v2 x4).bind fun v7 =>
    (putL S (some x0) 2 4 v7).bind fun S10 =>
    (if x2 ≤ 0 then
    some S10
    else
    (if x1 < 0 then
    some S10
    else
    (getI S10 (some x0) 2 3).bind fun v23 =>
    (if v23 ≤ x1 then
    some S10
    else
    (if x1 < 20 then
    (getR S10 (some x0) 2 1).bind fun v37 =>
    (ldI S10 v37 15 x1).bind fun v41 =>
    (if x3 < v41 then
    f_X1_search_73 ru S10 x0 x1 x2 x3 x4
    else
    (getR S10 (some x0) 2 1).bind fun v55 =>
    (ldI S10 v55 15 x1).bind fun v59 =>
    (getR S10 (some x0) 2 0).bind fun v64 =>
    (ldL S10 v64 x1).bind fun v68 =>
    (rcv S10 (some x0) 2).bind fun b70 =>
    (ru S10 b70 (x1 + 1) (x2 - 1) (x3 - v59) (x4 + v68)).bind fun S70 =>
    f_X1_search_73 ru S70 x0 x1 x2 x3 x4)
    else
    some S10))))
def r_X1_search : Nat → St → Nat → Int32 → Int32 → Int32 → Int64 → Option St
  | 0, _, _, _, _, _, _ => none
  | d + 1, S, x0, x1, x2, x3, x4 => f_X1_search (r_X1_search d) S x0 x1 x2 x3 x4
def F_X1_search (S : St) (x0 : Nat) (x1 : Int32) (x2 : Int32) (x3 : Int32) (x4 : Int64) : Option St := r_X1_search 32 S x0 x1 x2 x3 x4
theorem b_X1_search_73 {ru : St → Nat → Int32 → Int32 → Int32 → Int64 → Option St} {fru lru : Nat} (hfe : 1 ≤ fru) (hle : 23 ≤ lru) (hru : ∀ {S S' : St} {x0 : Nat} {x1 : Int32} {x2 : Int32} {x3 : Int32} {x4 : Int64}, ru S x0 x1 x2 x3 x4 = some S' → Ct l G yX1_search cX1_search 6 (Option.none : Option Jvm.ClassFile.FieldType) S [va_rf (some x0), .int x1, .int x2, .int x3, .long x4] none S' fru lru)  {S0 S S' : St} {x0 : Nat} {x1 : Int32} {x2 : Int32} {x3 : Int32} {x4 : Int64} (C : Cx p s m args meth c G S0 yX1_search cX1_search 6 (Option.none : Option Jvm.ClassFile.FieldType)) (hr : f_X1_search_73 ru S x0 x1 x2 x3 x4 = some S') : ∀ ls : Array Slot, lv_has ls 6 [(0, va_rf (some x0)), (1, .int x1), (2, .int x2), (3, .int x3), (4, .long x4)] → V p l e (rmo (fru + 1) (lru + 25) S0) s m args below meth c G S0 S (QM below args s G S0 S' none) (F0 m 73 ls []) := by
  intro ls hl
  unfold f_X1_search_73 at hr
  refine v_aload_n C (lv_at hl 0 rfl) rfl dX1_search_73 ?_
  obtain ⟨v74, e74, hr⟩ := ob hr
  refine v_getR C fl_RX1_19 rfl e74 dX1_search_74 ?_
  refine v_iload_n C (lv_at hl 1 rfl) rfl dX1_search_77 ?_
  obtain ⟨v78, e78, hr⟩ := ob hr
  refine v_ldI_i C e78 dX1_search_78 ?_
  refine v_iload_n C (lv_at hl 1 rfl) rfl dX1_search_79 ?_
  refine v_icmp_le C 97 (by decide) dX1_search_80 (fun c80 => ?_) (fun c80 => ?_)
  · rw [if_pos c80] at hr
    obtain rfl := os hr
    exact v_vret C dX1_search_97
  · rw [if_neg c80] at hr
    refine v_aload_n C (lv_at hl 0 rfl) rfl dX1_search_83 ?_
    refine v_aload_n C (lv_at hl 0 rfl) rfl dX1_search_84 ?_
    obtain ⟨v85, e85, hr⟩ := ob hr
    refine v_getR C fl_RX1_19 rfl e85 dX1_search_85 ?_
    refine v_iload_n C (lv_at hl 1 rfl) rfl dX1_search_88 ?_
    obtain ⟨v89, e89, hr⟩ := ob hr
    refine v_ldI_i C e89 dX1_search_89 ?_
    refine v_iload_n C (lv_at hl 2 rfl) rfl dX1_search_90 ?_
    refine v_iload_n C (lv_at hl 3 rfl) rfl dX1_search_91 ?_
    refine v_lload C (lv_at hl 4 rfl) dX1_search_92 ?_
    obtain ⟨b94, f94, hr⟩ := ob hr
    obtain ⟨g94, h94⟩ := rcv_n f94
    obtain ⟨S94, e94, hr⟩ := ob hr
    refine v_callV C (b := b94) h94 (by decide) rfl rfl (hru e94) cw_X1_search w_1256 w_1258 w_46 (show (parseMethodDescriptor (yX1_search).desc).map (fun d => d.parameters.length) = some 4 by decide +kernel) ⟨by omega, by omega⟩ (rest := []) (stk2 := []) (by rw [g94]; rfl) rfl (Nat.le_of_ble_eq_true rfl) hl dX1_search_94 ?_
    obtain rfl := os hr
    exact v_vret C dX1_search_97
theorem k_X1_search {l : Launch} {G : Ge} {ru : St → Nat → Int32 → Int32 → Int32 → Int64 → Option St} {fru lru : Nat} (hfe : 1 ≤ fru) (hle : 23 ≤ lru) (hru : ∀ {S S' : St} {x0 : Nat} {x1 : Int32} {x2 : Int32} {x3 : Int32} {x4 : Int64}, ru S x0 x1 x2 x3 x4 = some S' → Ct l G yX1_search cX1_search 6 (Option.none : Option Jvm.ClassFile.FieldType) S [va_rf (some x0), .int x1, .int x2, .int x3, .long x4] none S' fru lru) {S S' : St} {x0 : Nat} {x1 : Int32} {x2 : Int32} {x3 : Int32} {x4 : Int64} (hr : f_X1_search ru S x0 x1 x2 x3 x4 = some S') : Ct l G yX1_search cX1_search 6 (Option.none : Option Jvm.ClassFile.FieldType) S [va_rf (some x0), .int x1, .int x2, .int x3, .long x4] none S' (fru + 1) (lru + 25) := by
  refine ct_of (by decide +kernel) (Nat.le_of_ble_eq_true rfl) ?_
  intro p e s m args below meth c C ls hl
  have hl : lv_has ls 6 [(0, va_rf (some x0)), (1, .int x1), (2, .int x2), (3, .int x3), (4, .long x4)] := hl
  unfold f_X1_search at hr
  refine v_aload_n C (lv_at hl 0 rfl) rfl dX1_search_0 ?_
  refine v_aload_n C (lv_at hl 0 rfl) rfl dX1_search_1 ?_
  obtain ⟨v2, e2, hr⟩ := ob hr
  refine v_getL C fl_RX1_26 rfl e2 dX1_search_2 ?_
  refine v_lload C (lv_at hl 4 rfl) dX1_search_5 ?_
  obtain ⟨v7, e7, hr⟩ := ob hr
  refine v_callS C (k_J9_max_f86c9 e7) cw_J9_max_f86c9 w_1260 w_689 (show (parseMethodDescriptor (yJ9_max_f86c9).desc).map (fun d => d.parameters.length) = some 2 by decide +kernel) ⟨by omega, by omega⟩ (rest := [va_rf (some x0)]) (stk2 := [.long v7, va_rf (some x0)]) rfl rfl (by simp [rf_cat, cat_i, cat_l]) hl dX1_search_7 ?_
  obtain ⟨S10, e10, hr⟩ := ob hr
  refine v_putL C fl_RX1_26 (Or.inl rfl) rfl e10 dX1_search_10 ?_
  refine v_iload_n C (lv_at hl 2 rfl) rfl dX1_search_13 ?_
  refine v_if_le C 35 (by decide) dX1_search_14 (fun c14 => ?_) (fun c14 => ?_)
  · rw [if_pos c14] at hr
    obtain rfl := os hr
    exact v_vret C dX1_search_35
  · rw [if_neg c14] at hr
    refine v_iload_n C (lv_at hl 1 rfl) rfl dX1_search_17 ?_
    refine v_if_lt C 35 (by decide) dX1_search_18 (fun c18 => ?_) (fun c18 => ?_)
    · rw [if_pos c18] at hr
      obtain rfl := os hr
      exact v_vret C dX1_search_35
    · rw [if_neg c18] at hr
      refine v_iload_n C (lv_at hl 1 rfl) rfl dX1_search_21 ?_
      refine v_aload_n C (lv_at hl 0 rfl) rfl dX1_search_22 ?_
      obtain ⟨v23, e23, hr⟩ := ob hr
      refine v_getI C fl_RX1_22 rfl e23 dX1_search_23 ?_
      refine v_icmp_ge C 35 (by decide) dX1_search_26 (fun c26 => ?_) (fun c26 => ?_)
      · rw [if_pos c26] at hr
        obtain rfl := os hr
        exact v_vret C dX1_search_35
      · rw [if_neg c26] at hr
        refine v_iload_n C (lv_at hl 1 rfl) rfl dX1_search_29 ?_
        refine v_bipush C 20 (by decide) dX1_search_30 ?_
        refine v_icmp_lt C 36 (by decide) dX1_search_32 (fun c32 => ?_) (fun c32 => ?_)
        · rw [if_pos c32] at hr
          refine v_aload_n C (lv_at hl 0 rfl) rfl dX1_search_36 ?_
          obtain ⟨v37, e37, hr⟩ := ob hr
          refine v_getR C fl_RX1_15 rfl e37 dX1_search_37 ?_
          refine v_iload_n C (lv_at hl 1 rfl) rfl dX1_search_40 ?_
          obtain ⟨v41, e41, hr⟩ := ob hr
          refine v_ldI_i C e41 dX1_search_41 ?_
          refine v_iload_n C (lv_at hl 3 rfl) rfl dX1_search_42 ?_
          refine v_icmp_gt C 73 (by decide) dX1_search_43 (fun c43 => ?_) (fun c43 => ?_)
          · rw [if_pos c43] at hr
            exact b_X1_search_73 hfe hle (@hru) C hr _ (lv_sub hl [0, 1, 2, 3, 4] rfl)
          · rw [if_neg c43] at hr
            refine v_aload_n C (lv_at hl 0 rfl) rfl dX1_search_46 ?_
            refine v_iload_n C (lv_at hl 1 rfl) rfl dX1_search_47 ?_
            refine v_iconst C 1 (by decide) dX1_search_48 ?_
            refine v_iadd C dX1_search_49 ?_
            refine v_iload_n C (lv_at hl 2 rfl) rfl dX1_search_50 ?_
            refine v_iconst C 1 (by decide) dX1_search_51 ?_
            refine v_isub C dX1_search_52 ?_
            refine v_iload_n C (lv_at hl 3 rfl) rfl dX1_search_53 ?_
            refine v_aload_n C (lv_at hl 0 rfl) rfl dX1_search_54 ?_
            obtain ⟨v55, e55, hr⟩ := ob hr
            refine v_getR C fl_RX1_15 rfl e55 dX1_search_55 ?_
            refine v_iload_n C (lv_at hl 1 rfl) rfl dX1_search_58 ?_
            obtain ⟨v59, e59, hr⟩ := ob hr
            refine v_ldI_i C e59 dX1_search_59 ?_
            refine v_isub C dX1_search_60 ?_
            refine v_lload C (lv_at hl 4 rfl) dX1_search_61 ?_
            refine v_aload_n C (lv_at hl 0 rfl) rfl dX1_search_63 ?_
            obtain ⟨v64, e64, hr⟩ := ob hr
            refine v_getR C fl_RX1_9 rfl e64 dX1_search_64 ?_
            refine v_iload_n C (lv_at hl 1 rfl) rfl dX1_search_67 ?_
            obtain ⟨v68, e68, hr⟩ := ob hr
            refine v_ldL C e68 dX1_search_68 ?_
            refine v_ladd C dX1_search_69 ?_
            obtain ⟨b70, f70, hr⟩ := ob hr
            obtain ⟨g70, h70⟩ := rcv_n f70
            obtain ⟨S70, e70, hr⟩ := ob hr
            refine v_callV C (b := b70) h70 (by decide) rfl rfl (hru e70) cw_X1_search w_1256 w_1258 w_46 (show (parseMethodDescriptor (yX1_search).desc).map (fun d => d.parameters.length) = some 4 by decide +kernel) ⟨by omega, by omega⟩ (rest := []) (stk2 := []) (by rw [g70]; rfl) rfl (Nat.le_of_ble_eq_true rfl) hl dX1_search_70 ?_
            exact b_X1_search_73 hfe hle (@hru) C hr _ (lv_sub hl [0, 1, 2, 3, 4] rfl)
        · rw [if_neg c32] at hr
          obtain rfl := os hr
          exact v_vret C dX1_search_35
theorem kr_X1_search {l : Launch} {G : Ge} : ∀ (d : Nat) {S S' : St} {x0 : Nat} {x1 : Int32} {x2 : Int32} {x3 : Int32} {x4 : Int64}, r_X1_search d S x0 x1 x2 x3 x4 = some S' → Ct l G yX1_search cX1_search 6 (Option.none : Option Jvm.ClassFile.FieldType) S [va_rf (some x0), .int x1, .int x2, .int x3, .long x4] none S' (1 + 1 * d) (23 + 25 * d) := by
  intro d
  induction d with
  | zero => intro S S' x0 x1 x2 x3 x4 hr; cases hr
  | succ d ih =>
    intro S S' x0 x1 x2 x3 x4 hr
    unfold r_X1_search at hr
    rw [Nat.mul_succ, Nat.mul_succ, ← Nat.add_assoc, ← Nat.add_assoc]
    exact k_X1_search (ru := r_X1_search d) (fru := 1 + 1 * d) (lru := 23 + 25 * d) (by omega) (by omega) (@ih) hr
theorem K_X1_search {l : Launch} {G : Ge} {S S' : St} {x0 : Nat} {x1 : Int32} {x2 : Int32} {x3 : Int32} {x4 : Int64} (hr : F_X1_search S x0 x1 x2 x3 x4 = some S') : Ct l G yX1_search cX1_search 6 (Option.none : Option Jvm.ClassFile.FieldType) S [va_rf (some x0), .int x1, .int x2, .int x3, .long x4] none S' 33 823 := kr_X1_search 32 hr
-- X4_isGap
def f_X4_isGap (S : St) (x0 : Nat) (x1 : Int32) : Option Int32 :=
    (getR S (some x0) 5 4).bind fun v2 =>
    (alen S v2).bind fun v5 =>
    (f_X11_isWithin S x1 v5).bind fun v6 =>
    (if v6 = 0 then
    some 0
    else
    (getR S (some x0) 5 4).bind fun v13 =>
    (ldI S v13 15 x1).bind fun v17 =>
    (if v17 = (-1) then
    some 1
    else
    some 0))
theorem k_X4_isGap {l : Launch} {G : Ge} {S : St} {x0 : Nat} {x1 : Int32} {rr : Int32} (hr : f_X4_isGap S x0 x1 = some rr) : Ct l G yX4_isGap cX4_isGap 2 (Option.some Jvm.ClassFile.FieldType.boolean) S [va_rf (some x0), .int x1] (some (.int rr)) S 1 21 := by
  refine ct_of (by decide +kernel) (Nat.le_of_ble_eq_true rfl) ?_
  intro p e s m args below meth c C ls hl
  have hl : lv_has ls 2 [(0, va_rf (some x0)), (1, .int x1)] := hl
  unfold f_X4_isGap at hr
  refine v_iload_n C (lv_at hl 1 rfl) rfl dX4_isGap_0 ?_
  refine v_aload_n C (lv_at hl 0 rfl) rfl dX4_isGap_1 ?_
  obtain ⟨v2, e2, hr⟩ := ob hr
  refine v_getR C fl_RX4_19 rfl e2 dX4_isGap_2 ?_
  obtain ⟨v5, e5, hr⟩ := ob hr
  refine v_alen C e5 dX4_isGap_5 ?_
  obtain ⟨v6, e6, hr⟩ := ob hr
  refine v_callSN C "SleepOffice" (k_X11_isWithin e6) cw_X11_isWithin (by decide +kernel) w_350 (show (parseMethodDescriptor (yX11_isWithin).desc).map (fun d => d.parameters.length) = some 2 by decide +kernel) ⟨by decide, by decide⟩ (rest := []) (stk2 := [.int v6]) rfl rfl (Nat.le_of_ble_eq_true rfl) hl dX4_isGap_6 ?_
  refine v_if_eq C 26 (by decide) dX4_isGap_9 (fun c9 => ?_) (fun c9 => ?_)
  · rw [if_pos c9] at hr
    refine v_iconst C 0 (by decide) dX4_isGap_26 ?_
    obtain rfl := os hr
    exact v_zret C rfl dX4_isGap_27
  · rw [if_neg c9] at hr
    refine v_aload_n C (lv_at hl 0 rfl) rfl dX4_isGap_12 ?_
    obtain ⟨v13, e13, hr⟩ := ob hr
    refine v_getR C fl_RX4_19 rfl e13 dX4_isGap_13 ?_
    refine v_iload_n C (lv_at hl 1 rfl) rfl dX4_isGap_16 ?_
    obtain ⟨v17, e17, hr⟩ := ob hr
    refine v_ldI_i C e17 dX4_isGap_17 ?_
    refine v_iconst C (-1) (by decide) dX4_isGap_18 ?_
    refine v_icmp_ne C 26 (by decide) dX4_isGap_19 (fun c19 => ?_) (fun c19 => ?_)
    · rw [if_neg c19] at hr
      refine v_iconst C 0 (by decide) dX4_isGap_26 ?_
      obtain rfl := os hr
      exact v_zret C rfl dX4_isGap_27
    · rw [if_pos c19] at hr
      refine v_iconst C 1 (by decide) dX4_isGap_22 ?_
      refine v_goto C 27 (by decide) dX4_isGap_23 ?_
      obtain rfl := os hr
      exact v_zret C rfl dX4_isGap_27
-- X1_choose
def f_X1_choose_11 : Nat → St → Nat → (Option Nat) → (Option Nat) → Int32 → Int32 → Int32 → Int32 → Option (Nat × Int32 × Int32 × Int32 × St)
  | 0, _, _, _, _, _, _, _, _ => none
  | n + 1, S, x0, x1, x2, x3, x4, x5, x6 =>
    (if (20 : Int32) ≤ x6 then
    some (x0, x3, x4, x5, S)
    else
    (alen S x2).bind fun v21 =>
    (if v21 ≤ x6 then
    some (x0, x3, x4, x5, S)
    else
    (rcv S x1 5).bind fun b28 =>
    (f_X4_isGap S b28 x6).bind fun v28 =>
    (if v28 = 0 then
    (rcv S (some x0) 2).bind fun b65 =>
    (f_X1_closeRun S b65 x5).bind fun S65 =>
    (getI S65 (some x0) 2 3).bind fun v69 =>
    f_X1_choose_11 n S65 x0 x1 x2 x3 x4 v69 (x6 + 1)
    else
    (rcv S x1 5).bind fun b42 =>
    (f_X4_greatestIn S b42 x6).bind fun v42 =>
    (rcv S x1 5).bind fun b48 =>
    (f_X4_leastIn S b48 x6).bind fun v48 =>
    (ldI S x2 15 x6).bind fun v55 =>
    (rcv S (some x0) 2).bind fun b56 =>
    (f_X1_addGap S b56 x5 x6 (v42 - v48) v55).bind fun S56 =>
    f_X1_choose_11 n S56 x0 x1 x2 x3 x4 x5 (x6 + 1))))
def f_X1_choose_80 (S : St) (x0 : Nat) (x3 : Int32) (x4 : Int32) (x5 : Int32) : Option St :=
    (rcv S (some x0) 2).bind fun b83 =>
    (f_X1_closeRun S b83 x5).bind fun S83 =>
    (putL S83 (some x0) 2 4 0).bind fun S88 =>
    (rcv S88 (some x0) 2).bind fun b97 =>
    (F_X1_search S88 b97 0 x3 x4 0).bind fun S97 =>
    some S97
def f_X1_choose (S : St) (x0 : Nat) (x1 : Option Nat) (x2 : Option Nat) (x3 : Int32) (x4 : Int32) : Option St :=
    (putI S (some x0) 2 3 0).bind fun S2 =>
    (f_X1_choose_11 FU S2 x0 x1 x2 x3 x4 0 0).bind fun (x0, x3_11, x4_11, x5_11, S_11) => f_X1_choose_80 S_11 x0 x3_11 x4_11 x5_11
theorem b_X1_choose_11  {S0 S' : St} (C : Cx p s m args meth c G S0 yX1_choose cX1_choose 7 (Option.none : Option Jvm.ClassFile.FieldType)) {o : (Nat × Int32 × Int32 × Int32 × St)} (kX80 : ∀ {x0 : Nat} {x3 : Int32} {x4 : Int32} {x5 : Int32} {Z : St}, o = (x0, x3, x4, x5, Z) → ∀ ls : Array Slot, lv_has ls 7 [(0, va_rf (some x0)), (3, .int x3), (4, .int x4), (5, .int x5)] → V p l e (rmo 34 848 S0) s m args below meth c G S0 Z (QM below args s G S0 S' none) (F0 m 80 ls [])) : ∀ (n : Nat) {S : St} {x0 : Nat} {x1 : Option Nat} {x2 : Option Nat} {x3 : Int32} {x4 : Int32} {x5 : Int32} {x6 : Int32}, f_X1_choose_11 n S x0 x1 x2 x3 x4 x5 x6 = some o → ∀ ls : Array Slot, lv_has ls 7 [(0, va_rf (some x0)), (1, va_rf x1), (2, va_rf x2), (3, .int x3), (4, .int x4), (5, .int x5), (6, .int x6)] → V p l e (rmo 34 848 S0) s m args below meth c G S0 S (QM below args s G S0 S' none) (F0 m 11 ls []) := by
  intro n
  induction n with
  | zero => intro S x0 x1 x2 x3 x4 x5 x6 hr; cases hr
  | succ n ih =>
    intro S x0 x1 x2 x3 x4 x5 x6 hr ls hl
    unfold f_X1_choose_11 at hr
    refine v_iload C (lv_at hl 6 rfl) dX1_choose_11 ?_
    refine v_bipush C 20 (by decide) dX1_choose_13 ?_
    refine v_icmp_ge C 80 (by decide) dX1_choose_15 (fun c15 => ?_) (fun c15 => ?_)
    · rw [if_pos c15] at hr
      obtain rfl := os hr
      exact kX80 rfl _ (lv_sub hl [0, 3, 4, 5] rfl)
    · rw [if_neg c15] at hr
      refine v_iload C (lv_at hl 6 rfl) dX1_choose_18 ?_
      refine v_aload_n C (lv_at hl 2 rfl) rfl dX1_choose_20 ?_
      obtain ⟨v21, e21, hr⟩ := ob hr
      refine v_alen C e21 dX1_choose_21 ?_
      refine v_icmp_ge C 80 (by decide) dX1_choose_22 (fun c22 => ?_) (fun c22 => ?_)
      · rw [if_pos c22] at hr
        obtain rfl := os hr
        exact kX80 rfl _ (lv_sub hl [0, 3, 4, 5] rfl)
      · rw [if_neg c22] at hr
        refine v_aload_n C (lv_at hl 1 rfl) rfl dX1_choose_25 ?_
        refine v_iload C (lv_at hl 6 rfl) dX1_choose_26 ?_
        obtain ⟨b28, f28, hr⟩ := ob hr
        obtain ⟨g28, h28⟩ := rcv_n f28
        obtain ⟨v28, e28, hr⟩ := ob hr
        refine v_callV C (b := b28) h28 (by decide) rfl rfl (k_X4_isGap e28) cw_X4_isGap w_1241 w_1242 w_1243 (show (parseMethodDescriptor (yX4_isGap).desc).map (fun d => d.parameters.length) = some 1 by decide +kernel) ⟨by decide, by decide⟩ (rest := []) (stk2 := [.int v28]) (by rw [g28]; rfl) rfl (Nat.le_of_ble_eq_true rfl) hl dX1_choose_28 ?_
        refine v_if_eq C 62 (by decide) dX1_choose_31 (fun c31 => ?_) (fun c31 => ?_)
        · rw [if_pos c31] at hr
          refine v_aload_n C (lv_at hl 0 rfl) rfl dX1_choose_62 ?_
          refine v_iload C (lv_at hl 5 rfl) dX1_choose_63 ?_
          obtain ⟨b65, f65, hr⟩ := ob hr
          obtain ⟨g65, h65⟩ := rcv_n f65
          obtain ⟨S65, e65, hr⟩ := ob hr
          refine v_callV C (b := b65) h65 (by decide) rfl rfl (k_X1_closeRun e65) cw_X1_closeRun w_1252 w_1254 w_45 (show (parseMethodDescriptor (yX1_closeRun).desc).map (fun d => d.parameters.length) = some 1 by decide +kernel) ⟨by decide, by decide⟩ (rest := []) (stk2 := []) (by rw [g65]; rfl) rfl (Nat.le_of_ble_eq_true rfl) hl dX1_choose_65 ?_
          refine v_aload_n C (lv_at hl 0 rfl) rfl dX1_choose_68 ?_
          obtain ⟨v69, e69, hr⟩ := ob hr
          refine v_getI C fl_RX1_22 rfl e69 dX1_choose_69 ?_
          refine v_istore C (i := 5) (lv' := [(5, .int v69), (0, va_rf (some x0)), (1, va_rf x1), (2, va_rf x2), (3, .int x3), (4, .int x4), (6, .int x6)]) hl (by decide) rfl dX1_choose_72 (fun ls hl => ?_)
          refine v_iinc C (x6 + 1) (k0 := 6) (lv' := [(6, .int (x6 + 1)), (5, .int v69), (0, va_rf (some x0)), (1, va_rf x1), (2, va_rf x2), (3, .int x3), (4, .int x4)]) hl rfl rfl (by decide) rfl dX1_choose_74 (fun ls hl => ?_)
          refine v_goto C 11 (by decide) dX1_choose_77 ?_
          exact ih hr _ (lv_sub hl [2, 3, 4, 5, 6, 1, 0] rfl)
        · rw [if_neg c31] at hr
          refine v_aload_n C (lv_at hl 0 rfl) rfl dX1_choose_34 ?_
          refine v_iload C (lv_at hl 5 rfl) dX1_choose_35 ?_
          refine v_iload C (lv_at hl 6 rfl) dX1_choose_37 ?_
          refine v_aload_n C (lv_at hl 1 rfl) rfl dX1_choose_39 ?_
          refine v_iload C (lv_at hl 6 rfl) dX1_choose_40 ?_
          obtain ⟨b42, f42, hr⟩ := ob hr
          obtain ⟨g42, h42⟩ := rcv_n f42
          obtain ⟨v42, e42, hr⟩ := ob hr
          refine v_callV C (b := b42) h42 (by decide) rfl rfl (k_X4_greatestIn e42) cw_X4_greatestIn w_1245 w_1216 w_1217 (show (parseMethodDescriptor (yX4_greatestIn).desc).map (fun d => d.parameters.length) = some 1 by decide +kernel) ⟨by decide, by decide⟩ (rest := [.int x6, .int x5, va_rf (some x0)]) (stk2 := [.int v42, .int x6, .int x5, va_rf (some x0)]) (by rw [g42]; rfl) rfl (by simp [rf_cat, cat_i, cat_l]) hl dX1_choose_42 ?_
          refine v_aload_n C (lv_at hl 1 rfl) rfl dX1_choose_45 ?_
          refine v_iload C (lv_at hl 6 rfl) dX1_choose_46 ?_
          obtain ⟨b48, f48, hr⟩ := ob hr
          obtain ⟨g48, h48⟩ := rcv_n f48
          obtain ⟨v48, e48, hr⟩ := ob hr
          refine v_callV C (b := b48) h48 (by decide) rfl rfl (k_X4_leastIn e48) cw_X4_leastIn w_1246 w_1229 w_1230 (show (parseMethodDescriptor (yX4_leastIn).desc).map (fun d => d.parameters.length) = some 1 by decide +kernel) ⟨by decide, by decide⟩ (rest := [.int v42, .int x6, .int x5, va_rf (some x0)]) (stk2 := [.int v48, .int v42, .int x6, .int x5, va_rf (some x0)]) (by rw [g48]; rfl) rfl (by simp [rf_cat, cat_i, cat_l]) hl dX1_choose_48 ?_
          refine v_isub C dX1_choose_51 ?_
          refine v_aload_n C (lv_at hl 2 rfl) rfl dX1_choose_52 ?_
          refine v_iload C (lv_at hl 6 rfl) dX1_choose_53 ?_
          obtain ⟨v55, e55, hr⟩ := ob hr
          refine v_ldI_i C e55 dX1_choose_55 ?_
          obtain ⟨b56, f56, hr⟩ := ob hr
          obtain ⟨g56, h56⟩ := rcv_n f56
          obtain ⟨S56, e56, hr⟩ := ob hr
          refine v_callV C (b := b56) h56 (by decide) rfl rfl (k_X1_addGap e56) cw_X1_addGap w_1247 w_1249 w_44 (show (parseMethodDescriptor (yX1_addGap).desc).map (fun d => d.parameters.length) = some 4 by decide +kernel) ⟨by decide, by decide⟩ (rest := []) (stk2 := []) (by rw [g56]; rfl) rfl (Nat.le_of_ble_eq_true rfl) hl dX1_choose_56 ?_
          refine v_goto C 74 (by decide) dX1_choose_59 ?_
          refine v_iinc C (x6 + 1) (k0 := 6) (lv' := [(6, .int (x6 + 1)), (0, va_rf (some x0)), (1, va_rf x1), (2, va_rf x2), (3, .int x3), (4, .int x4), (5, .int x5)]) hl rfl rfl (by decide) rfl dX1_choose_74 (fun ls hl => ?_)
          refine v_goto C 11 (by decide) dX1_choose_77 ?_
          exact ih hr _ (lv_sub hl [1, 2, 3, 4, 5, 6, 0] rfl)
theorem b_X1_choose_80  {S0 S S' : St} {x0 : Nat} {x3 : Int32} {x4 : Int32} {x5 : Int32} (C : Cx p s m args meth c G S0 yX1_choose cX1_choose 7 (Option.none : Option Jvm.ClassFile.FieldType)) (hr : f_X1_choose_80 S x0 x3 x4 x5 = some S') : ∀ ls : Array Slot, lv_has ls 7 [(0, va_rf (some x0)), (3, .int x3), (4, .int x4), (5, .int x5)] → V p l e (rmo 34 848 S0) s m args below meth c G S0 S (QM below args s G S0 S' none) (F0 m 80 ls []) := by
  intro ls hl
  unfold f_X1_choose_80 at hr
  refine v_aload_n C (lv_at hl 0 rfl) rfl dX1_choose_80 ?_
  refine v_iload C (lv_at hl 3 rfl) dX1_choose_81 ?_
  obtain ⟨b83, f83, hr⟩ := ob hr
  obtain ⟨g83, h83⟩ := rcv_n f83
  obtain ⟨S83, e83, hr⟩ := ob hr
  refine v_callV C (b := b83) h83 (by decide) rfl rfl (k_X1_closeRun e83) cw_X1_closeRun w_1252 w_1254 w_45 (show (parseMethodDescriptor (yX1_closeRun).desc).map (fun d => d.parameters.length) = some 1 by decide +kernel) ⟨by decide, by decide⟩ (rest := []) (stk2 := []) (by rw [g83]; rfl) rfl (Nat.le_of_ble_eq_true rfl) hl dX1_choose_83 ?_
  refine v_aload_n C (lv_at hl 0 rfl) rfl dX1_choose_86 ?_
  refine v_lconst C 0 (by decide) dX1_choose_87 ?_
  obtain ⟨S88, e88, hr⟩ := ob hr
  refine v_putL C fl_RX1_26 (Or.inl rfl) rfl e88 dX1_choose_88 ?_
  refine v_aload_n C (lv_at hl 0 rfl) rfl dX1_choose_91 ?_
  refine v_iconst C 0 (by decide) dX1_choose_92 ?_
  refine v_iload_n C (lv_at hl 1 rfl) rfl dX1_choose_93 ?_
  refine v_iload C (lv_at hl 2 rfl) dX1_choose_94 ?_
  refine v_lconst C 0 (by decide) dX1_choose_96 ?_
  obtain ⟨b97, f97, hr⟩ := ob hr
  obtain ⟨g97, h97⟩ := rcv_n f97
  obtain ⟨S97, e97, hr⟩ := ob hr
  refine v_callV C (b := b97) h97 (by decide) rfl rfl (K_X1_search e97) cw_X1_search w_1256 w_1258 w_46 (show (parseMethodDescriptor (yX1_search).desc).map (fun d => d.parameters.length) = some 4 by decide +kernel) ⟨by decide, by decide⟩ (rest := []) (stk2 := []) (by rw [g97]; rfl) rfl (Nat.le_of_ble_eq_true rfl) hl dX1_choose_97 ?_
  obtain rfl := os hr
  exact v_vret C dX1_choose_100
theorem k_X1_choose {l : Launch} {G : Ge} {S S' : St} {x0 : Nat} {x1 : Option Nat} {x2 : Option Nat} {x3 : Int32} {x4 : Int32} (hr : f_X1_choose S x0 x1 x2 x3 x4 = some S') : Ct l G yX1_choose cX1_choose 7 (Option.none : Option Jvm.ClassFile.FieldType) S [va_rf (some x0), va_rf x1, va_rf x2, .int x3, .int x4] none S' 34 848 := by
  refine ct_of (by decide +kernel) (by cases x1 <;> cases x2 <;> exact Nat.le_of_ble_eq_true rfl) ?_
  intro p e s m args below meth c C ls hl
  have hl : lv_has ls 7 [(0, va_rf (some x0)), (1, va_rf x1), (2, va_rf x2), (3, .int x3), (4, .int x4)] := by clear hr; cases x1 <;> cases x2 <;> exact hl
  unfold f_X1_choose at hr
  refine v_aload_n C (lv_at hl 0 rfl) rfl dX1_choose_0 ?_
  refine v_iconst C 0 (by decide) dX1_choose_1 ?_
  obtain ⟨S2, e2, hr⟩ := ob hr
  refine v_putI C fl_RX1_22 (Or.inl rfl) rfl e2 dX1_choose_2 ?_
  refine v_iconst C 0 (by decide) dX1_choose_5 ?_
  refine v_istore C (i := 5) (lv' := [(5, .int 0), (0, va_rf (some x0)), (1, va_rf x1), (2, va_rf x2), (3, .int x3), (4, .int x4)]) hl (by decide) rfl dX1_choose_6 (fun ls hl => ?_)
  refine v_iconst C 0 (by decide) dX1_choose_8 ?_
  refine v_istore C (i := 6) (lv' := [(6, .int 0), (5, .int 0), (0, va_rf (some x0)), (1, va_rf x1), (2, va_rf x2), (3, .int x3), (4, .int x4)]) hl (by decide) rfl dX1_choose_9 (fun ls hl => ?_)
  obtain ⟨o11, e11, hr⟩ := ob hr
  refine b_X1_choose_11 C ?_ FU e11 _ (lv_sub hl [2, 3, 4, 5, 6, 1, 0] rfl)
  · intro x0 x3_11 x4_11 x5_11 S_11 q ls hl
    subst q
    (try dsimp only at hr)
    exact b_X1_choose_80 C hr _ (lv_sub hl [0, 1, 2, 3] rfl)
-- X1_chosenGain
def f_X1_chosenGain (S : St) (x0 : Nat) : Option Int32 :=
    (getL S (some x0) 2 4).bind fun v1 =>
    some (Int64.toInt32 (((v1 + 2147483648) - 1) >>> (Int32.toInt64 31 &&& 63)))
theorem k_X1_chosenGain {l : Launch} {G : Ge} {S : St} {x0 : Nat} {rr : Int32} (hr : f_X1_chosenGain S x0 = some rr) : Ct l G yX1_chosenGain cX1_chosenGain 1 (Option.some Jvm.ClassFile.FieldType.int) S [va_rf (some x0)] (some (.int rr)) S 0 0 := by
  refine ct_of (by decide +kernel) (Nat.le_of_ble_eq_true rfl) ?_
  intro p e s m args below meth c C ls hl
  have hl : lv_has ls 1 [(0, va_rf (some x0))] := hl
  unfold f_X1_chosenGain at hr
  refine v_aload_n C (lv_at hl 0 rfl) rfl dX1_chosenGain_0 ?_
  obtain ⟨v1, e1, hr⟩ := ob hr
  refine v_getL C fl_RX1_26 rfl e1 dX1_chosenGain_1 ?_
  refine v_ldc2 C w_1273 dX1_chosenGain_4 ?_
  refine v_ladd C dX1_chosenGain_7 ?_
  refine v_lconst C 1 (by decide) dX1_chosenGain_8 ?_
  refine v_lsub C dX1_chosenGain_9 ?_
  refine v_bipush C 31 (by decide) dX1_chosenGain_10 ?_
  refine v_lshr C dX1_chosenGain_12 ?_
  refine v_l2i C dX1_chosenGain_13 ?_
  obtain rfl := os hr
  exact v_iret C dX1_chosenGain_14
-- X1_takenOff
def f_X1_takenOff (S : St) (x0 : Nat) : Option Int64 :=
    (rcv S (some x0) 2).bind fun b1 =>
    (f_X1_chosenGain S b1).bind fun v1 =>
    (getL S (some x0) 2 4).bind fun v9 =>
    some (((Int32.toInt64 v1) <<< (Int32.toInt64 31 &&& 63)) - v9)
theorem k_X1_takenOff {l : Launch} {G : Ge} {S : St} {x0 : Nat} {rr : Int64} (hr : f_X1_takenOff S x0 = some rr) : Ct l G yX1_takenOff cX1_takenOff 1 (Option.some Jvm.ClassFile.FieldType.long) S [va_rf (some x0)] (some (.long rr)) S 1 20 := by
  refine ct_of (by decide +kernel) (Nat.le_of_ble_eq_true rfl) ?_
  intro p e s m args below meth c C ls hl
  have hl : lv_has ls 1 [(0, va_rf (some x0))] := hl
  unfold f_X1_takenOff at hr
  refine v_aload_n C (lv_at hl 0 rfl) rfl dX1_takenOff_0 ?_
  obtain ⟨b1, f1, hr⟩ := ob hr
  obtain ⟨g1, h1⟩ := rcv_n f1
  obtain ⟨v1, e1, hr⟩ := ob hr
  refine v_callV C (b := b1) h1 (by decide) rfl rfl (k_X1_chosenGain e1) cw_X1_chosenGain w_1269 w_1270 w_1271 (show (parseMethodDescriptor (yX1_chosenGain).desc).map (fun d => d.parameters.length) = some 0 by decide +kernel) ⟨by decide, by decide⟩ (rest := []) (stk2 := [.int v1]) (by rw [g1]; rfl) rfl (Nat.le_of_ble_eq_true rfl) hl dX1_takenOff_1 ?_
  refine v_i2l C dX1_takenOff_4 ?_
  refine v_bipush C 31 (by decide) dX1_takenOff_5 ?_
  refine v_lshl C dX1_takenOff_7 ?_
  refine v_aload_n C (lv_at hl 0 rfl) rfl dX1_takenOff_8 ?_
  obtain ⟨v9, e9, hr⟩ := ob hr
  refine v_getL C fl_RX1_26 rfl e9 dX1_takenOff_9 ?_
  refine v_lsub C dX1_takenOff_12 ?_
  obtain rfl := os hr
  exact v_lret C dX1_takenOff_13
-- X1_chosenCost
def f_X1_chosenCost (S : St) (x0 : Nat) : Option Int32 :=
    (rcv S (some x0) 2).bind fun b1 =>
    (f_X1_takenOff S b1).bind fun v1 =>
    some (Int64.toInt32 (v1 >>> (Int32.toInt64 20 &&& 63)))
theorem k_X1_chosenCost {l : Launch} {G : Ge} {S : St} {x0 : Nat} {rr : Int32} (hr : f_X1_chosenCost S x0 = some rr) : Ct l G yX1_chosenCost cX1_chosenCost 1 (Option.some Jvm.ClassFile.FieldType.int) S [va_rf (some x0)] (some (.int rr)) S 2 40 := by
  refine ct_of (by decide +kernel) (Nat.le_of_ble_eq_true rfl) ?_
  intro p e s m args below meth c C ls hl
  have hl : lv_has ls 1 [(0, va_rf (some x0))] := hl
  unfold f_X1_chosenCost at hr
  refine v_aload_n C (lv_at hl 0 rfl) rfl dX1_chosenCost_0 ?_
  obtain ⟨b1, f1, hr⟩ := ob hr
  obtain ⟨g1, h1⟩ := rcv_n f1
  obtain ⟨v1, e1, hr⟩ := ob hr
  refine v_callV C (b := b1) h1 (by decide) rfl rfl (k_X1_takenOff e1) cw_X1_takenOff w_1265 w_1267 w_47 (show (parseMethodDescriptor (yX1_takenOff).desc).map (fun d => d.parameters.length) = some 0 by decide +kernel) ⟨by decide, by decide⟩ (rest := []) (stk2 := [.long v1]) (by rw [g1]; rfl) rfl (Nat.le_of_ble_eq_true rfl) hl dX1_chosenCost_1 ?_
  refine v_bipush C 20 (by decide) dX1_chosenCost_4 ?_
  refine v_lshr C dX1_chosenCost_6 ?_
  refine v_l2i C dX1_chosenCost_7 ?_
  obtain rfl := os hr
  exact v_iret C dX1_chosenCost_8
end Mth
