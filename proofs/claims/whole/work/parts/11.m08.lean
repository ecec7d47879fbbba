section Mth
variable {p : Program} {l : Launch} {e : Env} {s : State} {m : MethodId} {args : Array Value} {below : List Frame} {meth : Method} {c : Code} {G : Ge}
-- X6_setSleep
def f_X6_setSleep (S : St) (x0 : Nat) (x1 : Int32) (x2 : Int32) : Option St :=
    (getR S (some x0) 7 1).bind fun v2 =>
    (alen S v2).bind fun v5 =>
    (f_X11_isWithin S x1 v5).bind fun v6 =>
    (if v6 = 0 then
    some S
    else
    (getR S (some x0) 7 1).bind fun v13 =>
    (stI S v13 15 x1 x2).bind fun S18 =>
    some S18)
theorem k_X6_setSleep {l : Launch} {G : Ge} {S S' : St} {x0 : Nat} {x1 : Int32} {x2 : Int32} (hr : f_X6_setSleep S x0 x1 x2 = some S') : Ct l G yX6_setSleep cX6_setSleep 3 (Option.none : Option Jvm.ClassFile.FieldType) S [va_rf (some x0), .int x1, .int x2] none S' 1 21 := by
  refine ct_of (by decide +kernel) (Nat.le_of_ble_eq_true rfl) ?_
  intro p e s m args below meth c C ls hl
  have hl : lv_has ls 3 [(0, va_rf (some x0)), (1, .int x1), (2, .int x2)] := hl
  unfold f_X6_setSleep at hr
  refine v_iload_n C (lv_at hl 1 rfl) rfl dX6_setSleep_0 ?_
  refine v_aload_n C (lv_at hl 0 rfl) rfl dX6_setSleep_1 ?_
  obtain ⟨v2, e2, hr⟩ := ob hr
  refine v_getR C fl_RX6_15 rfl e2 dX6_setSleep_2 ?_
  obtain ⟨v5, e5, hr⟩ := ob hr
  refine v_alen C e5 dX6_setSleep_5 ?_
  obtain ⟨v6, e6, hr⟩ := ob hr
  refine v_callSN C "SleepOffice" (k_X11_isWithin e6) cw_X11_isWithin (by decide +kernel) w_350 (show (parseMethodDescriptor (yX11_isWithin).desc).map (fun d => d.parameters.length) = some 2 by decide +kernel) ⟨by decide, by decide⟩ (rest := []) (stk2 := [.int v6]) rfl rfl (Nat.le_of_ble_eq_true rfl) hl dX6_setSleep_6 ?_
  refine v_if_eq C 19 (by decide) dX6_setSleep_9 (fun c9 => ?_) (fun c9 => ?_)
  · rw [if_pos c9] at hr
    obtain rfl := os hr
    exact v_vret C dX6_setSleep_19
  · rw [if_neg c9] at hr
    refine v_aload_n C (lv_at hl 0 rfl) rfl dX6_setSleep_12 ?_
    obtain ⟨v13, e13, hr⟩ := ob hr
    refine v_getR C fl_RX6_15 rfl e13 dX6_setSleep_13 ?_
    refine v_iload_n C (lv_at hl 1 rfl) rfl dX6_setSleep_16 ?_
    refine v_iload_n C (lv_at hl 2 rfl) rfl dX6_setSleep_17 ?_
    obtain ⟨S18, e18, hr⟩ := ob hr
    refine v_stI_i C e18 dX6_setSleep_18 ?_
    obtain rfl := os hr
    exact v_vret C dX6_setSleep_19
-- X7_readNumbers
def f_X7_readNumbers (S : St) (x0 : Nat) (x1 : Int32) : Option St :=
    (if x1 = 3 then
    (rcv S (some x0) 8).bind fun b35 =>
    (f_X7_takeNumber S b35 0 3).bind fun (v35, S35) =>
    (getR S35 (some x0) 8 0).bind fun v40 =>
    (rcv S35 (some x0) 8).bind fun b48 =>
    (f_X7_takeNumber S35 b48 0 40).bind fun (v48, S48) =>
    (rcv S48 v40 7).bind fun b51 =>
    (f_X6_setSleep S48 b51 v35 v48).bind fun S51 =>
    some S51
    else
    (if x1 = 4 then
    (getR S (some x0) 8 0).bind fun v58 =>
    (getI S v58 7 2).bind fun v62 =>
    (rcv S (some x0) 8).bind fun b69 =>
    (f_X7_takeNumber S b69 0 5).bind fun (v69, S69) =>
    (putI S69 v58 7 2 (v62 ||| (1 <<< (v69 &&& 31)))).bind fun S74 =>
    some S74
    else
    (if x1 = 5 then
    (getR S (some x0) 8 0).bind fun v81 =>
    (rcv S (some x0) 8).bind fun b89 =>
    (f_X7_takeNumber S b89 0 999).bind fun (v89, S89) =>
    (putI S89 v81 7 3 v89).bind fun S92 =>
    some S92
    else
    (if x1 = 6 then
    (getR S (some x0) 8 0).bind fun v99 =>
    (rcv S (some x0) 8).bind fun b106 =>
    (f_X7_takeNumber S b106 0 100).bind fun (v106, S106) =>
    (putI S106 v99 7 4 v106).bind fun S109 =>
    some S109
    else
    (getR S (some x0) 8 0).bind fun v116 =>
    (rcv S (some x0) 8).bind fun b124 =>
    (f_X7_takeNumber S b124 0 200).bind fun (v124, S124) =>
    (putI S124 v116 7 5 v124).bind fun S127 =>
    (getR S127 (some x0) 8 0).bind fun v131 =>
    (rcv S127 (some x0) 8).bind fun b138 =>
    (f_X7_takeNumber S127 b138 0 40).bind fun (v138, S138) =>
    (putI S138 v131 7 6 v138).bind fun S141 =>
    some S141))))
theorem k_X7_readNumbers {l : Launch} {G : Ge} {S S' : St} {x0 : Nat} {x1 : Int32} (hr : f_X7_readNumbers S x0 x1 = some S') : Ct l G yX7_readNumbers cX7_readNumbers 3 (Option.none : Option Jvm.ClassFile.FieldType) S [va_rf (some x0), .int x1] none S' 5 108 := by
  refine ct_of (by decide +kernel) (Nat.le_of_ble_eq_true rfl) ?_
  intro p e s m args below meth c C ls hl
  have hl : lv_has ls 3 [(0, va_rf (some x0)), (1, .int x1)] := hl
  unfold f_X7_readNumbers at hr
  refine v_iload_n C (lv_at hl 1 rfl) rfl dX7_readNumbers_0 ?_
  by_cases q1_3 : x1 = 3
  · rw [if_pos q1_3] at hr
    refine v_tableIn C (off := 31) 32 (by rw [q1_3]; decide) (by rw [q1_3]; decide) (by rw [q1_3]; decide) (by decide) dX7_readNumbers_1 ?_
    refine v_aload_n C (lv_at hl 0 rfl) rfl dX7_readNumbers_32 ?_
    refine v_iconst C 0 (by decide) dX7_readNumbers_33 ?_
    refine v_iconst C 3 (by decide) dX7_readNumbers_34 ?_
    obtain ⟨b35, f35, hr⟩ := ob hr
    obtain ⟨g35, h35⟩ := rcv_n f35
    obtain ⟨⟨v35, S35⟩, e35, hr⟩ := ob hr
    (try dsimp only at hr)
    refine v_callV C (b := b35) h35 (by decide) rfl rfl (k_X7_takeNumber e35) cw_X7_takeNumber w_897 w_899 w_17 (show (parseMethodDescriptor (yX7_takeNumber).desc).map (fun d => d.parameters.length) = some 2 by decide +kernel) ⟨by decide, by decide⟩ (rest := []) (stk2 := [.int v35]) (by rw [g35]; rfl) rfl (Nat.le_of_ble_eq_true rfl) hl dX7_readNumbers_35 ?_
    refine v_istore_n C (i := 2) (lv' := [(2, .int v35), (0, va_rf (some x0)), (1, .int x1)]) hl rfl (by decide) rfl dX7_readNumbers_38 (fun ls hl => ?_)
    refine v_aload_n C (lv_at hl 1 rfl) rfl dX7_readNumbers_39 ?_
    obtain ⟨v40, e40, hr⟩ := ob hr
    refine v_getR C fl_RX7_50 rfl e40 dX7_readNumbers_40 ?_
    refine v_iload_n C (lv_at hl 0 rfl) rfl dX7_readNumbers_43 ?_
    refine v_aload_n C (lv_at hl 1 rfl) rfl dX7_readNumbers_44 ?_
    refine v_iconst C 0 (by decide) dX7_readNumbers_45 ?_
    refine v_bipush C 40 (by decide) dX7_readNumbers_46 ?_
    obtain ⟨b48, f48, hr⟩ := ob hr
    obtain ⟨g48, h48⟩ := rcv_n f48
    obtain ⟨⟨v48, S48⟩, e48, hr⟩ := ob hr
    (try dsimp only at hr)
    refine v_callV C (b := b48) h48 (by decide) rfl rfl (k_X7_takeNumber e48) cw_X7_takeNumber w_897 w_899 w_17 (show (parseMethodDescriptor (yX7_takeNumber).desc).map (fun d => d.parameters.length) = some 2 by decide +kernel) ⟨by decide, by decide⟩ (rest := [.int v35, va_rf v40]) (stk2 := [.int v48, .int v35, va_rf v40]) (by rw [g48]; rfl) rfl (by simp [rf_cat, cat_i, cat_l]) hl dX7_readNumbers_48 ?_
    obtain ⟨b51, f51, hr⟩ := ob hr
    obtain ⟨g51, h51⟩ := rcv_n f51
    obtain ⟨S51, e51, hr⟩ := ob hr
    refine v_callV C (b := b51) h51 (by decide) rfl rfl (k_X6_setSleep e51) cw_X6_setSleep w_913 w_914 w_915 (show (parseMethodDescriptor (yX6_setSleep).desc).map (fun d => d.parameters.length) = some 2 by decide +kernel) ⟨by decide, by decide⟩ (rest := []) (stk2 := []) (by rw [g51]; rfl) rfl (Nat.le_of_ble_eq_true rfl) hl dX7_readNumbers_51 ?_
    refine v_goto C 144 (by decide) dX7_readNumbers_54 ?_
    obtain rfl := os hr
    exact v_vret C dX7_readNumbers_144
  rw [if_neg q1_3] at hr
  by_cases q1_4 : x1 = 4
  · rw [if_pos q1_4] at hr
    refine v_tableIn C (off := 56) 57 (by rw [q1_4]; decide) (by rw [q1_4]; decide) (by rw [q1_4]; decide) (by decide) dX7_readNumbers_1 ?_
    refine v_aload_n C (lv_at hl 0 rfl) rfl dX7_readNumbers_57 ?_
    obtain ⟨v58, e58, hr⟩ := ob hr
    refine v_getR C fl_RX7_50 rfl e58 dX7_readNumbers_58 ?_
    refine v_dup C (rf_cat _) dX7_readNumbers_61 ?_
    obtain ⟨v62, e62, hr⟩ := ob hr
    refine v_getI C fl_RX7_83 rfl e62 dX7_readNumbers_62 ?_
    refine v_iconst C 1 (by decide) dX7_readNumbers_65 ?_
    refine v_aload_n C (lv_at hl 0 rfl) rfl dX7_readNumbers_66 ?_
    refine v_iconst C 0 (by decide) dX7_readNumbers_67 ?_
    refine v_iconst C 5 (by decide) dX7_readNumbers_68 ?_
    obtain ⟨b69, f69, hr⟩ := ob hr
    obtain ⟨g69, h69⟩ := rcv_n f69
    obtain ⟨⟨v69, S69⟩, e69, hr⟩ := ob hr
    (try dsimp only at hr)
    refine v_callV C (b := b69) h69 (by decide) rfl rfl (k_X7_takeNumber e69) cw_X7_takeNumber w_897 w_899 w_17 (show (parseMethodDescriptor (yX7_takeNumber).desc).map (fun d => d.parameters.length) = some 2 by decide +kernel) ⟨by decide, by decide⟩ (rest := [.int 1, .int v62, va_rf v58]) (stk2 := [.int v69, .int 1, .int v62, va_rf v58]) (by rw [g69]; rfl) rfl (by simp [rf_cat, cat_i, cat_l]) hl dX7_readNumbers_69 ?_
    refine v_ishl C dX7_readNumbers_72 ?_
    refine v_ior C dX7_readNumbers_73 ?_
    obtain ⟨S74, e74, hr⟩ := ob hr
    refine v_putI C fl_RX7_83 (Or.inl rfl) rfl e74 dX7_readNumbers_74 ?_
    refine v_goto C 144 (by decide) dX7_readNumbers_77 ?_
    obtain rfl := os hr
    exact v_vret C dX7_readNumbers_144
  rw [if_neg q1_4] at hr
  by_cases q1_5 : x1 = 5
  · rw [if_pos q1_5] at hr
    refine v_tableIn C (off := 79) 80 (by rw [q1_5]; decide) (by rw [q1_5]; decide) (by rw [q1_5]; decide) (by decide) dX7_readNumbers_1 ?_
    refine v_aload_n C (lv_at hl 0 rfl) rfl dX7_readNumbers_80 ?_
    obtain ⟨v81, e81, hr⟩ := ob hr
    refine v_getR C fl_RX7_50 rfl e81 dX7_readNumbers_81 ?_
    refine v_aload_n C (lv_at hl 0 rfl) rfl dX7_readNumbers_84 ?_
    refine v_iconst C 0 (by decide) dX7_readNumbers_85 ?_
    refine v_sipush C 999 (by decide) dX7_readNumbers_86 ?_
    obtain ⟨b89, f89, hr⟩ := ob hr
    obtain ⟨g89, h89⟩ := rcv_n f89
    obtain ⟨⟨v89, S89⟩, e89, hr⟩ := ob hr
    (try dsimp only at hr)
    refine v_callV C (b := b89) h89 (by decide) rfl rfl (k_X7_takeNumber e89) cw_X7_takeNumber w_897 w_899 w_17 (show (parseMethodDescriptor (yX7_takeNumber).desc).map (fun d => d.parameters.length) = some 2 by decide +kernel) ⟨by decide, by decide⟩ (rest := [va_rf v81]) (stk2 := [.int v89, va_rf v81]) (by rw [g89]; rfl) rfl (by simp [rf_cat, cat_i, cat_l]) hl dX7_readNumbers_89 ?_
    obtain ⟨S92, e92, hr⟩ := ob hr
    refine v_putI C fl_RX7_86 (Or.inl rfl) rfl e92 dX7_readNumbers_92 ?_
    refine v_goto C 144 (by decide) dX7_readNumbers_95 ?_
    obtain rfl := os hr
    exact v_vret C dX7_readNumbers_144
  rw [if_neg q1_5] at hr
  by_cases q1_6 : x1 = 6
  · rw [if_pos q1_6] at hr
    refine v_tableIn C (off := 97) 98 (by rw [q1_6]; decide) (by rw [q1_6]; decide) (by rw [q1_6]; decide) (by decide) dX7_readNumbers_1 ?_
    refine v_aload_n C (lv_at hl 0 rfl) rfl dX7_readNumbers_98 ?_
    obtain ⟨v99, e99, hr⟩ := ob hr
    refine v_getR C fl_RX7_50 rfl e99 dX7_readNumbers_99 ?_
    refine v_aload_n C (lv_at hl 0 rfl) rfl dX7_readNumbers_102 ?_
    refine v_iconst C 0 (by decide) dX7_readNumbers_103 ?_
    refine v_bipush C 100 (by decide) dX7_readNumbers_104 ?_
    obtain ⟨b106, f106, hr⟩ := ob hr
    obtain ⟨g106, h106⟩ := rcv_n f106
    obtain ⟨⟨v106, S106⟩, e106, hr⟩ := ob hr
    (try dsimp only at hr)
    refine v_callV C (b := b106) h106 (by decide) rfl rfl (k_X7_takeNumber e106) cw_X7_takeNumber w_897 w_899 w_17 (show (parseMethodDescriptor (yX7_takeNumber).desc).map (fun d => d.parameters.length) = some 2 by decide +kernel) ⟨by decide, by decide⟩ (rest := [va_rf v99]) (stk2 := [.int v106, va_rf v99]) (by rw [g106]; rfl) rfl (by simp [rf_cat, cat_i, cat_l]) hl dX7_readNumbers_106 ?_
    obtain ⟨S109, e109, hr⟩ := ob hr
    refine v_putI C fl_RX7_89 (Or.inl rfl) rfl e109 dX7_readNumbers_109 ?_
    refine v_goto C 144 (by decide) dX7_readNumbers_112 ?_
    obtain rfl := os hr
    exact v_vret C dX7_readNumbers_144
  rw [if_neg q1_6] at hr
  have kd1 : V p l e (rmo 5 108 S) s m args below meth c G S S (QM below args s G S S' none) (F0 m 115 ls []) := by
    refine v_aload_n C (lv_at hl 0 rfl) rfl dX7_readNumbers_115 ?_
    obtain ⟨v116, e116, hr⟩ := ob hr
    refine v_getR C fl_RX7_50 rfl e116 dX7_readNumbers_116 ?_
    refine v_aload_n C (lv_at hl 0 rfl) rfl dX7_readNumbers_119 ?_
    refine v_iconst C 0 (by decide) dX7_readNumbers_120 ?_
    refine v_sipush C 200 (by decide) dX7_readNumbers_121 ?_
    obtain ⟨b124, f124, hr⟩ := ob hr
    obtain ⟨g124, h124⟩ := rcv_n f124
    obtain ⟨⟨v124, S124⟩, e124, hr⟩ := ob hr
    (try dsimp only at hr)
    refine v_callV C (b := b124) h124 (by decide) rfl rfl (k_X7_takeNumber e124) cw_X7_takeNumber w_897 w_899 w_17 (show (parseMethodDescriptor (yX7_takeNumber).desc).map (fun d => d.parameters.length) = some 2 by decide +kernel) ⟨by decide, by decide⟩ (rest := [va_rf v116]) (stk2 := [.int v124, va_rf v116]) (by rw [g124]; rfl) rfl (by simp [rf_cat, cat_i, cat_l]) hl dX7_readNumbers_124 ?_
    obtain ⟨S127, e127, hr⟩ := ob hr
    refine v_putI C fl_RX7_92 (Or.inl rfl) rfl e127 dX7_readNumbers_127 ?_
    refine v_aload_n C (lv_at hl 0 rfl) rfl dX7_readNumbers_130 ?_
    obtain ⟨v131, e131, hr⟩ := ob hr
    refine v_getR C fl_RX7_50 rfl e131 dX7_readNumbers_131 ?_
    refine v_aload_n C (lv_at hl 0 rfl) rfl dX7_readNumbers_134 ?_
    refine v_iconst C 0 (by decide) dX7_readNumbers_135 ?_
    refine v_bipush C 40 (by decide) dX7_readNumbers_136 ?_
    obtain ⟨b138, f138, hr⟩ := ob hr
    obtain ⟨g138, h138⟩ := rcv_n f138
    obtain ⟨⟨v138, S138⟩, e138, hr⟩ := ob hr
    (try dsimp only at hr)
    refine v_callV C (b := b138) h138 (by decide) rfl rfl (k_X7_takeNumber e138) cw_X7_takeNumber w_897 w_899 w_17 (show (parseMethodDescriptor (yX7_takeNumber).desc).map (fun d => d.parameters.length) = some 2 by decide +kernel) ⟨by decide, by decide⟩ (rest := [va_rf v131]) (stk2 := [.int v138, va_rf v131]) (by rw [g138]; rfl) rfl (by simp [rf_cat, cat_i, cat_l]) hl dX7_readNumbers_138 ?_
    obtain ⟨S141, e141, hr⟩ := ob hr
    refine v_putI C fl_RX7_95 (Or.inl rfl) rfl e141 dX7_readNumbers_141 ?_
    obtain rfl := os hr
    exact v_vret C dX7_readNumbers_144
  have z0 := lv_neT q1_3 (a := 3) (by decide)
  have z1 := lv_neT q1_4 (a := 4) (by decide)
  have z2 := lv_neT q1_5 (a := 5) (by decide)
  have z3 := lv_neT q1_6 (a := 6) (by decide)
  exact v_tableOut C 115 (by omega) (by decide) dX7_readNumbers_1 kd1
-- X7_readLines
def f_X7_readLines_42 (rec : St → Nat → Int32 → Option (St)) (S : St) (x0 : Nat) (x1 : Int32) : Option (St) :=
    (rcv S (some x0) 8).bind fun b44 =>
    (f_X7_refuse S b44 1).bind fun S44 =>
    rec S44 x0 (x1 + 1)
def f_X7_readLines_96 (rec : St → Nat → Int32 → Option (St)) (S : St) (x0 : Nat) (x1 : Int32) : Option (St) :=
    (rcv S (some x0) 8).bind fun b97 =>
    (f_X7_closeLine S b97).bind fun S97 =>
    rec S97 x0 (x1 + 1)
def f_X7_readLines_6 : Nat → St → Nat → Int32 → Option (St)
  | 0, _, _, _ => none
  | n + 1, S, x0, x1 =>
    (if (24 : Int32) < x1 then
    some S
    else
    (getI S (some x0) 8 5).bind fun v13 =>
    (if v13 = 0 then
    some S
    else
    (getI S (some x0) 8 1).bind fun v20 =>
    (if v20 = 0 then
    (getI S (some x0) 8 5).bind fun v27 =>
    (if v27 < 3 then
    f_X7_readLines_42 (f_X7_readLines_6 n) S x0 x1
    else
    (if v27 ≤ 8 then
    (getR S (some x0) 8 0).bind fun v51 =>
    (getI S v51 7 0).bind fun v54 =>
    (if v54 < 24 then
    (rcv S (some x0) 8).bind fun b71 =>
    (f_X7_advance S b71).bind fun S71 =>
    (if v27 = 8 then
    (rcv S71 (some x0) 8).bind fun b81 =>
    (F_X7_readTerms S71 b81).bind fun S81 =>
    (rcv S81 (some x0) 8).bind fun b85 =>
    (f_X7_readCondition S81 b85).bind fun S85 =>
    f_X7_readLines_96 (f_X7_readLines_6 n) S85 x0 x1
    else
    (rcv S71 (some x0) 8).bind fun b93 =>
    (f_X7_readNumbers S71 b93 v27).bind fun S93 =>
    f_X7_readLines_96 (f_X7_readLines_6 n) S93 x0 x1)
    else
    (rcv S (some x0) 8).bind fun b64 =>
    (f_X7_refuse S b64 3).bind fun S64 =>
    f_X7_readLines_6 n S64 x0 (x1 + 1))
    else
    f_X7_readLines_42 (f_X7_readLines_6 n) S x0 x1))
    else
    some S)))
def f_X7_readLines (S : St) (x0 : Nat) : Option St :=
    (rcv S (some x0) 8).bind fun b1 =>
    (f_X7_advance S b1).bind fun S1 =>
    f_X7_readLines_6 FU S1 x0 0
theorem b_X7_readLines_42  {S0 S S' : St} {x0 : Nat} {x1 : Int32} (C : Cx p s m args meth c G S0 yX7_readLines cX7_readLines 3 (Option.none : Option Jvm.ClassFile.FieldType)) {o : (St)} {rec : St → Nat → Int32 → Option (St)} (kR : ∀ (Z : St), o = Z → S' = Z) (ihk : ∀ {S : St} {x0 : Nat} {x1 : Int32}, rec S x0 x1 = some o → ∀ ls : Array Slot, lv_has ls 3 [(0, va_rf (some x0)), (1, .int x1)] → V p l e (rmo 73 1605 S0) s m args below meth c G S0 S (QM below args s G S0 S' none) (F0 m 6 ls [])) (hr : f_X7_readLines_42 rec S x0 x1 = some o) : ∀ ls : Array Slot, lv_has ls 3 [(0, va_rf (some x0)), (1, .int x1)] → V p l e (rmo 73 1605 S0) s m args below meth c G S0 S (QM below args s G S0 S' none) (F0 m 42 ls []) := by
  intro ls hl
  unfold f_X7_readLines_42 at hr
  refine v_aload_n C (lv_at hl 0 rfl) rfl dX7_readLines_42 ?_
  refine v_iconst C 1 (by decide) dX7_readLines_43 ?_
  obtain ⟨b44, f44, hr⟩ := ob hr
  obtain ⟨g44, h44⟩ := rcv_n f44
  obtain ⟨S44, e44, hr⟩ := ob hr
  refine v_callV C (b := b44) h44 (by decide) rfl rfl (k_X7_refuse e44) cw_X7_refuse w_875 w_877 w_13 (show (parseMethodDescriptor (yX7_refuse).desc).map (fun d => d.parameters.length) = some 1 by decide +kernel) ⟨by decide, by decide⟩ (rest := []) (stk2 := []) (by rw [g44]; rfl) rfl (Nat.le_of_ble_eq_true rfl) hl dX7_readLines_44 ?_
  refine v_goto C 100 (by decide) dX7_readLines_47 ?_
  refine v_iinc C (x1 + 1) (k0 := 1) (lv' := [(1, .int (x1 + 1)), (0, va_rf (some x0))]) hl rfl rfl (by decide) rfl dX7_readLines_100 (fun ls hl => ?_)
  refine v_goto C 6 (by decide) dX7_readLines_103 ?_
  exact ihk hr _ (lv_sub hl [1, 0] rfl)
theorem b_X7_readLines_96  {S0 S S' : St} {x0 : Nat} {x1 : Int32} (C : Cx p s m args meth c G S0 yX7_readLines cX7_readLines 3 (Option.none : Option Jvm.ClassFile.FieldType)) {o : (St)} {rec : St → Nat → Int32 → Option (St)} (kR : ∀ (Z : St), o = Z → S' = Z) (ihk : ∀ {S : St} {x0 : Nat} {x1 : Int32}, rec S x0 x1 = some o → ∀ ls : Array Slot, lv_has ls 3 [(0, va_rf (some x0)), (1, .int x1)] → V p l e (rmo 73 1605 S0) s m args below meth c G S0 S (QM below args s G S0 S' none) (F0 m 6 ls [])) (hr : f_X7_readLines_96 rec S x0 x1 = some o) : ∀ ls : Array Slot, lv_has ls 3 [(0, va_rf (some x0)), (1, .int x1)] → V p l e (rmo 73 1605 S0) s m args below meth c G S0 S (QM below args s G S0 S' none) (F0 m 96 ls []) := by
  intro ls hl
  unfold f_X7_readLines_96 at hr
  refine v_aload_n C (lv_at hl 0 rfl) rfl dX7_readLines_96 ?_
  obtain ⟨b97, f97, hr⟩ := ob hr
  obtain ⟨g97, h97⟩ := rcv_n f97
  obtain ⟨S97, e97, hr⟩ := ob hr
  refine v_callV C (b := b97) h97 (by decide) rfl rfl (k_X7_closeLine e97) cw_X7_closeLine w_917 w_919 w_21 (show (parseMethodDescriptor (yX7_closeLine).desc).map (fun d => d.parameters.length) = some 0 by decide +kernel) ⟨by decide, by decide⟩ (rest := []) (stk2 := []) (by rw [g97]; rfl) rfl (Nat.le_of_ble_eq_true rfl) hl dX7_readLines_97 ?_
  refine v_iinc C (x1 + 1) (k0 := 1) (lv' := [(1, .int (x1 + 1)), (0, va_rf (some x0))]) hl rfl rfl (by decide) rfl dX7_readLines_100 (fun ls hl => ?_)
  refine v_goto C 6 (by decide) dX7_readLines_103 ?_
  exact ihk hr _ (lv_sub hl [1, 0] rfl)
theorem b_X7_readLines_6  {S0 S' : St} (C : Cx p s m args meth c G S0 yX7_readLines cX7_readLines 3 (Option.none : Option Jvm.ClassFile.FieldType)) {o : (St)} (kR : ∀ (Z : St), o = Z → S' = Z) : ∀ (n : Nat) {S : St} {x0 : Nat} {x1 : Int32}, f_X7_readLines_6 n S x0 x1 = some o → ∀ ls : Array Slot, lv_has ls 3 [(0, va_rf (some x0)), (1, .int x1)] → V p l e (rmo 73 1605 S0) s m args below meth c G S0 S (QM below args s G S0 S' none) (F0 m 6 ls []) := by
  intro n
  induction n with
  | zero => intro S x0 x1 hr; cases hr
  | succ n ih =>
    intro S x0 x1 hr ls hl
    unfold f_X7_readLines_6 at hr
    refine v_iload_n C (lv_at hl 1 rfl) rfl dX7_readLines_6 ?_
    refine v_bipush C 24 (by decide) dX7_readLines_7 ?_
    refine v_icmp_gt C 106 (by decide) dX7_readLines_9 (fun c9 => ?_) (fun c9 => ?_)
    · rw [if_pos c9] at hr
      obtain rfl := os hr
      obtain rfl := kR _ rfl
      exact v_vret C dX7_readLines_106
    · rw [if_neg c9] at hr
      refine v_aload_n C (lv_at hl 0 rfl) rfl dX7_readLines_12 ?_
      obtain ⟨v13, e13, hr⟩ := ob hr
      refine v_getI C fl_RX7_23 rfl e13 dX7_readLines_13 ?_
      refine v_if_eq C 106 (by decide) dX7_readLines_16 (fun c16 => ?_) (fun c16 => ?_)
      · rw [if_pos c16] at hr
        obtain rfl := os hr
        obtain rfl := kR _ rfl
        exact v_vret C dX7_readLines_106
      · rw [if_neg c16] at hr
        refine v_aload_n C (lv_at hl 0 rfl) rfl dX7_readLines_19 ?_
        obtain ⟨v20, e20, hr⟩ := ob hr
        refine v_getI C fl_RX7_9 rfl e20 dX7_readLines_20 ?_
        refine v_if_ne C 106 (by decide) dX7_readLines_23 (fun c23 => ?_) (fun c23 => ?_)
        · rw [if_neg c23] at hr
          obtain rfl := os hr
          obtain rfl := kR _ rfl
          exact v_vret C dX7_readLines_106
        · rw [if_pos c23] at hr
          refine v_aload_n C (lv_at hl 0 rfl) rfl dX7_readLines_26 ?_
          obtain ⟨v27, e27, hr⟩ := ob hr
          refine v_getI C fl_RX7_23 rfl e27 dX7_readLines_27 ?_
          refine v_istore_n C (i := 2) (lv' := [(2, .int v27), (0, va_rf (some x0)), (1, .int x1)]) hl rfl (by decide) rfl dX7_readLines_30 (fun ls hl => ?_)
          refine v_iload_n C (lv_at hl 0 rfl) rfl dX7_readLines_31 ?_
          refine v_iconst C 3 (by decide) dX7_readLines_32 ?_
          refine v_icmp_lt C 42 (by decide) dX7_readLines_33 (fun c33 => ?_) (fun c33 => ?_)
          · rw [if_pos c33] at hr
            exact b_X7_readLines_42 C kR (@ih) hr _ (lv_sub hl [1, 2] rfl)
          · rw [if_neg c33] at hr
            refine v_iload_n C (lv_at hl 0 rfl) rfl dX7_readLines_36 ?_
            refine v_bipush C 8 (by decide) dX7_readLines_37 ?_
            refine v_icmp_le C 50 (by decide) dX7_readLines_39 (fun c39 => ?_) (fun c39 => ?_)
            · rw [if_pos c39] at hr
              refine v_aload_n C (lv_at hl 1 rfl) rfl dX7_readLines_50 ?_
              obtain ⟨v51, e51, hr⟩ := ob hr
              refine v_getR C fl_RX7_50 rfl e51 dX7_readLines_51 ?_
              obtain ⟨v54, e54, hr⟩ := ob hr
              refine v_getI C fl_RX7_60 rfl e54 dX7_readLines_54 ?_
              refine v_bipush C 24 (by decide) dX7_readLines_57 ?_
              refine v_icmp_lt C 70 (by decide) dX7_readLines_59 (fun c59 => ?_) (fun c59 => ?_)
              · rw [if_pos c59] at hr
                refine v_aload_n C (lv_at hl 1 rfl) rfl dX7_readLines_70 ?_
                obtain ⟨b71, f71, hr⟩ := ob hr
                obtain ⟨g71, h71⟩ := rcv_n f71
                obtain ⟨S71, e71, hr⟩ := ob hr
                refine v_callV C (b := b71) h71 (by decide) rfl rfl (k_X7_advance e71) cw_X7_advance w_869 w_871 w_12 (show (parseMethodDescriptor (yX7_advance).desc).map (fun d => d.parameters.length) = some 0 by decide +kernel) ⟨by decide, by decide⟩ (rest := []) (stk2 := []) (by rw [g71]; rfl) rfl (Nat.le_of_ble_eq_true rfl) hl dX7_readLines_71 ?_
                refine v_iload_n C (lv_at hl 0 rfl) rfl dX7_readLines_74 ?_
                refine v_bipush C 8 (by decide) dX7_readLines_75 ?_
                refine v_icmp_ne C 91 (by decide) dX7_readLines_77 (fun c77 => ?_) (fun c77 => ?_)
                · rw [if_neg c77] at hr
                  refine v_aload_n C (lv_at hl 1 rfl) rfl dX7_readLines_91 ?_
                  refine v_iload_n C (lv_at hl 0 rfl) rfl dX7_readLines_92 ?_
                  obtain ⟨b93, f93, hr⟩ := ob hr
                  obtain ⟨g93, h93⟩ := rcv_n f93
                  obtain ⟨S93, e93, hr⟩ := ob hr
                  refine v_callV C (b := b93) h93 (by decide) rfl rfl (k_X7_readNumbers e93) cw_X7_readNumbers w_909 w_911 w_20 (show (parseMethodDescriptor (yX7_readNumbers).desc).map (fun d => d.parameters.length) = some 1 by decide +kernel) ⟨by decide, by decide⟩ (rest := []) (stk2 := []) (by rw [g93]; rfl) rfl (Nat.le_of_ble_eq_true rfl) hl dX7_readLines_93 ?_
                  exact b_X7_readLines_96 C kR (@ih) hr _ (lv_sub hl [1, 2] rfl)
                · rw [if_pos c77] at hr
                  refine v_aload_n C (lv_at hl 1 rfl) rfl dX7_readLines_80 ?_
                  obtain ⟨b81, f81, hr⟩ := ob hr
                  obtain ⟨g81, h81⟩ := rcv_n f81
                  obtain ⟨S81, e81, hr⟩ := ob hr
                  refine v_callV C (b := b81) h81 (by decide) rfl rfl (K_X7_readTerms e81) cw_X7_readTerms w_879 w_881 w_14 (show (parseMethodDescriptor (yX7_readTerms).desc).map (fun d => d.parameters.length) = some 0 by decide +kernel) ⟨by decide, by decide⟩ (rest := []) (stk2 := []) (by rw [g81]; rfl) rfl (Nat.le_of_ble_eq_true rfl) hl dX7_readLines_81 ?_
                  refine v_aload_n C (lv_at hl 1 rfl) rfl dX7_readLines_84 ?_
                  obtain ⟨b85, f85, hr⟩ := ob hr
                  obtain ⟨g85, h85⟩ := rcv_n f85
                  obtain ⟨S85, e85, hr⟩ := ob hr
                  refine v_callV C (b := b85) h85 (by decide) rfl rfl (k_X7_readCondition e85) cw_X7_readCondition w_901 w_903 w_18 (show (parseMethodDescriptor (yX7_readCondition).desc).map (fun d => d.parameters.length) = some 0 by decide +kernel) ⟨by decide, by decide⟩ (rest := []) (stk2 := []) (by rw [g85]; rfl) rfl (Nat.le_of_ble_eq_true rfl) hl dX7_readLines_85 ?_
                  refine v_goto C 96 (by decide) dX7_readLines_88 ?_
                  exact b_X7_readLines_96 C kR (@ih) hr _ (lv_sub hl [1, 2] rfl)
              · rw [if_neg c59] at hr
                refine v_aload_n C (lv_at hl 1 rfl) rfl dX7_readLines_62 ?_
                refine v_iconst C 3 (by decide) dX7_readLines_63 ?_
                obtain ⟨b64, f64, hr⟩ := ob hr
                obtain ⟨g64, h64⟩ := rcv_n f64
                obtain ⟨S64, e64, hr⟩ := ob hr
                refine v_callV C (b := b64) h64 (by decide) rfl rfl (k_X7_refuse e64) cw_X7_refuse w_875 w_877 w_13 (show (parseMethodDescriptor (yX7_refuse).desc).map (fun d => d.parameters.length) = some 1 by decide +kernel) ⟨by decide, by decide⟩ (rest := []) (stk2 := []) (by rw [g64]; rfl) rfl (Nat.le_of_ble_eq_true rfl) hl dX7_readLines_64 ?_
                refine v_goto C 100 (by decide) dX7_readLines_67 ?_
                refine v_iinc C (x1 + 1) (k0 := 2) (lv' := [(1, .int (x1 + 1)), (2, .int v27), (0, va_rf (some x0))]) hl rfl rfl (by decide) rfl dX7_readLines_100 (fun ls hl => ?_)
                refine v_goto C 6 (by decide) dX7_readLines_103 ?_
                exact ih hr _ (lv_sub hl [2, 0] rfl)
            · rw [if_neg c39] at hr
              exact b_X7_readLines_42 C kR (@ih) hr _ (lv_sub hl [1, 2] rfl)
theorem k_X7_readLines {l : Launch} {G : Ge} {S S' : St} {x0 : Nat} (hr : f_X7_readLines S x0 = some S') : Ct l G yX7_readLines cX7_readLines 3 (Option.none : Option Jvm.ClassFile.FieldType) S [va_rf (some x0)] none S' 73 1605 := by
  refine ct_of (by decide +kernel) (Nat.le_of_ble_eq_true rfl) ?_
  intro p e s m args below meth c C ls hl
  have hl : lv_has ls 3 [(0, va_rf (some x0))] := hl
  unfold f_X7_readLines at hr
  refine v_aload_n C (lv_at hl 0 rfl) rfl dX7_readLines_0 ?_
  obtain ⟨b1, f1, hr⟩ := ob hr
  obtain ⟨g1, h1⟩ := rcv_n f1
  obtain ⟨S1, e1, hr⟩ := ob hr
  refine v_callV C (b := b1) h1 (by decide) rfl rfl (k_X7_advance e1) cw_X7_advance w_869 w_871 w_12 (show (parseMethodDescriptor (yX7_advance).desc).map (fun d => d.parameters.length) = some 0 by decide +kernel) ⟨by decide, by decide⟩ (rest := []) (stk2 := []) (by rw [g1]; rfl) rfl (Nat.le_of_ble_eq_true rfl) hl dX7_readLines_1 ?_
  refine v_iconst C 0 (by decide) dX7_readLines_4 ?_
  refine v_istore_n C (i := 1) (lv' := [(1, .int 0), (0, va_rf (some x0))]) hl rfl (by decide) rfl dX7_readLines_5 (fun ls hl => ?_)
  exact b_X7_readLines_6 C (fun _ q => by cases q; rfl) FU hr _ (lv_sub hl [1, 0] rfl)
-- X11_reads
def f_X11_reads (S : St) (x0 : Nat) (x1 : Int32) : Option (Int32 × St) :=
    (getI S (some x0) 12 7).bind fun v1 =>
    (putI S (some x0) 12 7 0).bind fun S7 =>
    (getR S7 (some x0) 12 9).bind fun v12 =>
    (alen S7 v12).bind fun v15 =>
    (f_X11_isWithin S7 x1 v15).bind fun v16 =>
    (if v16 = 0 then
    some ((-1), S7)
    else
    (newO S7 8).bind fun (a24, S24) =>
    (getR S24 (some x0) 12 6).bind fun v29 =>
    (f_X10_split S24 v29 v1).bind fun (v33, S33) =>
    (rcv S33 (some a24) 8).bind fun b36 =>
    (f_X7_init S33 b36 v33).bind fun S36 =>
    (rcv S36 (some a24) 8).bind fun b41 =>
    (f_X7_readLines S36 b41).bind fun S41 =>
    (getI S41 (some a24) 8 1).bind fun v46 =>
    (putI S41 (some x0) 12 10 v46).bind fun S49 =>
    (getI S49 (some a24) 8 2).bind fun v54 =>
    (putI S49 (some x0) 12 11 v54).bind fun S57 =>
    (getI S57 (some x0) 12 10).bind fun v61 =>
    (if v61 = 0 then
    (getR S57 (some x0) 12 9).bind fun v70 =>
    (getR S57 (some a24) 8 0).bind fun v75 =>
    (stR S57 v70 18 x1 v75).bind fun S78 =>
    (getR S78 (some a24) 8 0).bind fun v80 =>
    (getI S78 v80 7 0).bind fun v83 =>
    some (v83, S78)
    else
    some ((-1), S57)))
theorem k_X11_reads {l : Launch} {G : Ge} {S S' : St} {x0 : Nat} {x1 : Int32} {rr : Int32} (hr : f_X11_reads S x0 x1 = some (rr, S')) : Ct l G yX11_reads cX11_reads 4 (Option.some Jvm.ClassFile.FieldType.int) S [va_rf (some x0), .int x1] (some (.int rr)) S' 74 1627 := by
  refine ct_of (by decide +kernel) (Nat.le_of_ble_eq_true rfl) ?_
  intro p e s m args below meth c C ls hl
  have hl : lv_has ls 4 [(0, va_rf (some x0)), (1, .int x1)] := hl
  unfold f_X11_reads at hr
  refine v_aload_n C (lv_at hl 0 rfl) rfl dX11_reads_0 ?_
  obtain ⟨v1, e1, hr⟩ := ob hr
  refine v_getI C fl_RX11_36 rfl e1 dX11_reads_1 ?_
  refine v_istore_n C (i := 2) (lv' := [(2, .int v1), (0, va_rf (some x0)), (1, .int x1)]) hl rfl (by decide) rfl dX11_reads_4 (fun ls hl => ?_)
  refine v_aload_n C (lv_at hl 1 rfl) rfl dX11_reads_5 ?_
  refine v_iconst C 0 (by decide) dX11_reads_6 ?_
  obtain ⟨S7, e7, hr⟩ := ob hr
  refine v_putI C fl_RX11_36 (Or.inl rfl) rfl e7 dX11_reads_7 ?_
  refine v_iload_n C (lv_at hl 2 rfl) rfl dX11_reads_10 ?_
  refine v_aload_n C (lv_at hl 1 rfl) rfl dX11_reads_11 ?_
  obtain ⟨v12, e12, hr⟩ := ob hr
  refine v_getR C fl_RX11_48 rfl e12 dX11_reads_12 ?_
  obtain ⟨v15, e15, hr⟩ := ob hr
  refine v_alen C e15 dX11_reads_15 ?_
  obtain ⟨v16, e16, hr⟩ := ob hr
  refine v_callS C (k_X11_isWithin e16) cw_X11_isWithin w_349 w_350 (show (parseMethodDescriptor (yX11_isWithin).desc).map (fun d => d.parameters.length) = some 2 by decide +kernel) ⟨by decide, by decide⟩ (rest := []) (stk2 := [.int v16]) rfl rfl (Nat.le_of_ble_eq_true rfl) hl dX11_reads_16 ?_
  refine v_if_ne C 24 (by decide) dX11_reads_19 (fun c19 => ?_) (fun c19 => ?_)
  · rw [if_neg c19] at hr
    obtain ⟨⟨a24, S24⟩, e24, hr⟩ := ob hr
    (try dsimp only at hr)
    refine v_newO C e24 (by decide) rfl w_707 w_708 w_121 lay_8 tyo_8 dfo_8 dX11_reads_24 ?_
    refine v_dup C (rf_cat _) dX11_reads_27 ?_
    refine v_aload_n C (lv_at hl 1 rfl) rfl dX11_reads_28 ?_
    obtain ⟨v29, e29, hr⟩ := ob hr
    refine v_getR C fl_RX11_32 rfl e29 dX11_reads_29 ?_
    refine v_iload_n C (lv_at hl 0 rfl) rfl dX11_reads_32 ?_
    obtain ⟨⟨v33, S33⟩, e33, hr⟩ := ob hr
    (try dsimp only at hr)
    refine v_callS C (k_X10_split e33) cw_X10_split w_709 w_710 (show (parseMethodDescriptor (yX10_split).desc).map (fun d => d.parameters.length) = some 2 by decide +kernel) ⟨by decide, by decide⟩ (rest := [va_rf (some a24), va_rf (some a24)]) (stk2 := [va_rf v33, va_rf (some a24), va_rf (some a24)]) rfl rfl (by simp [rf_cat, cat_i, cat_l]) hl dX11_reads_33 ?_
    obtain ⟨b36, f36, hr⟩ := ob hr
    obtain ⟨g36, h36⟩ := rcv_n f36
    obtain ⟨S36, e36, hr⟩ := ob hr
    refine v_callI C (b := b36) (k_X7_init e36) cw_X7_init w_827 w_828 rfl (show (parseMethodDescriptor (yX7_init).desc).map (fun d => d.parameters.length) = some 1 by decide +kernel) ⟨by decide, by decide⟩ (rest := [va_rf (some a24)]) (stk2 := [va_rf (some a24)]) (by rw [g36]; rfl) rfl (by simp [rf_cat, cat_i, cat_l]) hl dX11_reads_36 ?_
    refine v_astore_n C (i := 3) (lv' := [(3, va_rf (some a24)), (2, .int v1), (0, va_rf (some x0)), (1, .int x1)]) hl rfl (by decide) rfl dX11_reads_39 (fun ls hl => ?_)
    refine v_aload_n C (lv_at hl 0 rfl) rfl dX11_reads_40 ?_
    obtain ⟨b41, f41, hr⟩ := ob hr
    obtain ⟨g41, h41⟩ := rcv_n f41
    obtain ⟨S41, e41, hr⟩ := ob hr
    refine v_callV C (b := b41) h41 (by decide) rfl rfl (k_X7_readLines e41) cw_X7_readLines w_865 w_866 w_867 (show (parseMethodDescriptor (yX7_readLines).desc).map (fun d => d.parameters.length) = some 0 by decide +kernel) ⟨by decide, by decide⟩ (rest := []) (stk2 := []) (by rw [g41]; rfl) rfl (Nat.le_of_ble_eq_true rfl) hl dX11_reads_41 ?_
    refine v_aload_n C (lv_at hl 2 rfl) rfl dX11_reads_44 ?_
    refine v_aload_n C (lv_at hl 0 rfl) rfl dX11_reads_45 ?_
    obtain ⟨v46, e46, hr⟩ := ob hr
    refine v_getI C fl_RX11_219 rfl e46 dX11_reads_46 ?_
    obtain ⟨S49, e49, hr⟩ := ob hr
    refine v_putI C fl_RX11_52 (Or.inl rfl) rfl e49 dX11_reads_49 ?_
    refine v_aload_n C (lv_at hl 2 rfl) rfl dX11_reads_52 ?_
    refine v_aload_n C (lv_at hl 0 rfl) rfl dX11_reads_53 ?_
    obtain ⟨v54, e54, hr⟩ := ob hr
    refine v_getI C fl_RX11_222 rfl e54 dX11_reads_54 ?_
    obtain ⟨S57, e57, hr⟩ := ob hr
    refine v_putI C fl_RX11_55 (Or.inl rfl) rfl e57 dX11_reads_57 ?_
    refine v_aload_n C (lv_at hl 2 rfl) rfl dX11_reads_60 ?_
    obtain ⟨v61, e61, hr⟩ := ob hr
    refine v_getI C fl_RX11_52 rfl e61 dX11_reads_61 ?_
    refine v_if_eq C 69 (by decide) dX11_reads_64 (fun c64 => ?_) (fun c64 => ?_)
    · rw [if_pos c64] at hr
      refine v_aload_n C (lv_at hl 2 rfl) rfl dX11_reads_69 ?_
      obtain ⟨v70, e70, hr⟩ := ob hr
      refine v_getR C fl_RX11_48 rfl e70 dX11_reads_70 ?_
      refine v_iload_n C (lv_at hl 3 rfl) rfl dX11_reads_73 ?_
      refine v_aload_n C (lv_at hl 0 rfl) rfl dX11_reads_74 ?_
      obtain ⟨v75, e75, hr⟩ := ob hr
      refine v_getR C fl_RX11_225 rfl e75 dX11_reads_75 ?_
      obtain ⟨S78, e78, hr⟩ := ob hr
      refine v_stR C (t0 := 4) (nm := RX6) e78 (by decide) dX11_reads_78 ?_
      refine v_aload_n C (lv_at hl 0 rfl) rfl dX11_reads_79 ?_
      obtain ⟨v80, e80, hr⟩ := ob hr
      refine v_getR C fl_RX11_225 rfl e80 dX11_reads_80 ?_
      obtain ⟨v83, e83, hr⟩ := ob hr
      refine v_getI C fl_RX11_228 rfl e83 dX11_reads_83 ?_
      obtain ⟨rfl, rfl⟩ := Prod.mk.inj (os hr)
      exact v_iret C dX11_reads_86
    · rw [if_neg c64] at hr
      refine v_iconst C (-1) (by decide) dX11_reads_67 ?_
      obtain ⟨rfl, rfl⟩ := Prod.mk.inj (os hr)
      exact v_iret C dX11_reads_68
  · rw [if_pos c19] at hr
    refine v_iconst C (-1) (by decide) dX11_reads_22 ?_
    obtain ⟨rfl, rfl⟩ := Prod.mk.inj (os hr)
    exact v_iret C dX11_reads_23
-- X11_report
def f_X11_report_28 : Nat → St → Nat → (Option Nat) → Int32 → Int32 → Option ((Int32 × St))
  | 0, _, _, _, _, _ => none
  | n + 1, S, x0, x2, x3, x4 =>
    (getR S (some x0) 12 3).bind fun v31 =>
    (rcv S v31 0).bind fun b34 =>
    (f_Jx4a65c_size_8abf5 S b34).bind fun v34 =>
    (if v34 ≤ x4 then
    some (x3, S)
    else
    (getR S (some x0) 12 3).bind fun v41 =>
    (rcv S v41 0).bind fun b46 =>
    (f_Jx4a65c_get_915e3 S b46 x4).bind fun v46 =>
    (castO S v46 1).bind fun v49 =>
    (rcv S v49 1).bind fun b56 =>
    (f_X0_isHeld S b56).bind fun v56 =>
    (if v56 = 0 then
    (getR S v49 1 1).bind fun v64 =>
    (getI S (some x0) 12 0).bind fun v68 =>
    (f_X11_holderOn S v64 v68).bind fun v71 =>
    (if v71 = x2 then
    (getI S (some x0) 12 0).bind fun v82 =>
    (rcv S (some x0) 12).bind fun b85 =>
    (f_X11_sleepDay S b85 v49 v82).bind fun v85 =>
    (getI S (some x0) 12 0).bind fun v89 =>
    (if v89 < v85 then
    f_X11_report_28 n S x0 x2 x3 (x4 + 1)
    else
    (rcv S (some x0) 12).bind fun b98 =>
    (f_X11_hold S b98 v49).bind fun S98 =>
    f_X11_report_28 n S98 x0 x2 (x3 + 1) (x4 + 1))
    else
    f_X11_report_28 n S x0 x2 x3 (x4 + 1))
    else
    f_X11_report_28 n S x0 x2 x3 (x4 + 1)))
def f_X11_report (S : St) (x0 : Nat) (x1 : Int32) : Option (Int32 × St) :=
    (rcv S (some x0) 12).bind fun b2 =>
    (f_X11_firmAt S b2 x1).bind fun v2 =>
    (if v2 = none then
    some ((-1), S)
    else
    (getI S (some x0) 12 0).bind fun v12 =>
    (rcv S v2 5).bind fun b15 =>
    (f_X4_isMergedBy S b15 v12).bind fun v15 =>
    (if v15 = 0 then
    f_X11_report_28 FU S x0 v2 0 0
    else
    some ((-1), S)))
theorem b_X11_report_28  {S0 S' : St} {rr : Int32} (C : Cx p s m args meth c G S0 yX11_report cX11_report 6 (Option.some Jvm.ClassFile.FieldType.int)) {o : ((Int32 × St))} (kR : ∀ (v : Int32) (Z : St), o = (v, Z) → rr = v ∧ S' = Z) : ∀ (n : Nat) {S : St} {x0 : Nat} {x2 : Option Nat} {x3 : Int32} {x4 : Int32}, f_X11_report_28 n S x0 x2 x3 x4 = some o → ∀ ls : Array Slot, lv_has ls 6 [(0, va_rf (some x0)), (2, va_rf x2), (3, .int x3), (4, .int x4)] → V p l e (rmo 6 134 S0) s m args below meth c G S0 S (QM below args s G S0 S' (some (.int rr))) (F0 m 28 ls []) := by
  intro n
  induction n with
  | zero => intro S x0 x2 x3 x4 hr; cases hr
  | succ n ih =>
    intro S x0 x2 x3 x4 hr ls hl
    unfold f_X11_report_28 at hr
    refine v_iload C (lv_at hl 3 rfl) dX11_report_28 ?_
    refine v_aload_n C (lv_at hl 0 rfl) rfl dX11_report_30 ?_
    obtain ⟨v31, e31, hr⟩ := ob hr
    refine v_getR C fl_RX11_23 rfl e31 dX11_report_31 ?_
    obtain ⟨b34, f34, hr⟩ := ob hr
    obtain ⟨g34, h34⟩ := rcv_n f34
    obtain ⟨v34, e34, hr⟩ := ob hr
    refine v_callV C (b := b34) h34 (by decide) rfl rfl (k_Jx4a65c_size_8abf5 e34) cw_Jx4a65c_size_8abf5 w_352 w_353 w_354 (show (parseMethodDescriptor (yJx4a65c_size_8abf5).desc).map (fun d => d.parameters.length) = some 0 by decide +kernel) ⟨by decide, by decide⟩ (rest := [.int x4]) (stk2 := [.int v34, .int x4]) (by rw [g34]; rfl) rfl (Nat.le_of_ble_eq_true rfl) hl dX11_report_34 ?_
    refine v_icmp_ge C 110 (by decide) dX11_report_37 (fun c37 => ?_) (fun c37 => ?_)
    · rw [if_pos c37] at hr
      refine v_iload_n C (lv_at hl 2 rfl) rfl dX11_report_110 ?_
      obtain rfl := os hr
      obtain ⟨rfl, rfl⟩ := kR _ _ rfl
      exact v_iret C dX11_report_111
    · rw [if_neg c37] at hr
      refine v_aload_n C (lv_at hl 0 rfl) rfl dX11_report_40 ?_
      obtain ⟨v41, e41, hr⟩ := ob hr
      refine v_getR C fl_RX11_23 rfl e41 dX11_report_41 ?_
      refine v_iload C (lv_at hl 3 rfl) dX11_report_44 ?_
      obtain ⟨b46, f46, hr⟩ := ob hr
      obtain ⟨g46, h46⟩ := rcv_n f46
      obtain ⟨v46, e46, hr⟩ := ob hr
      refine v_callV C (b := b46) h46 (by decide) rfl rfl (k_Jx4a65c_get_915e3 e46) cw_Jx4a65c_get_915e3 w_449 w_450 w_451 (show (parseMethodDescriptor (yJx4a65c_get_915e3).desc).map (fun d => d.parameters.length) = some 1 by decide +kernel) ⟨by decide, by decide⟩ (rest := []) (stk2 := [va_rf v46]) (by rw [g46]; rfl) rfl (Nat.le_of_ble_eq_true rfl) hl dX11_report_46 ?_
      obtain ⟨v49, e49, hr⟩ := ob hr
      refine v_cast C e49 (by decide) rfl w_550 dX11_report_49 ?_
      refine v_astore C (i := 5) (lv' := [(5, va_rf v49), (0, va_rf (some x0)), (2, va_rf x2), (3, .int x3), (4, .int x4)]) hl (by decide) rfl dX11_report_52 (fun ls hl => ?_)
      refine v_aload C (lv_at hl 0 rfl) dX11_report_54 ?_
      obtain ⟨b56, f56, hr⟩ := ob hr
      obtain ⟨g56, h56⟩ := rcv_n f56
      obtain ⟨v56, e56, hr⟩ := ob hr
      refine v_callV C (b := b56) h56 (by decide) rfl rfl (k_X0_isHeld e56) cw_X0_isHeld w_962 w_963 w_964 (show (parseMethodDescriptor (yX0_isHeld).desc).map (fun d => d.parameters.length) = some 0 by decide +kernel) ⟨by decide, by decide⟩ (rest := []) (stk2 := [.int v56]) (by rw [g56]; rfl) rfl (Nat.le_of_ble_eq_true rfl) hl dX11_report_56 ?_
      refine v_if_ne C 104 (by decide) dX11_report_59 (fun c59 => ?_) (fun c59 => ?_)
      · rw [if_neg c59] at hr
        refine v_iinc C (x4 + 1) (k0 := 4) (lv' := [(4, .int (x4 + 1)), (5, va_rf v49), (0, va_rf (some x0)), (2, va_rf x2), (3, .int x3)]) hl rfl rfl (by decide) rfl dX11_report_104 (fun ls hl => ?_)
        refine v_goto C 28 (by decide) dX11_report_107 ?_
        exact ih hr _ (lv_sub hl [2, 3, 4, 0] rfl)
      · rw [if_pos c59] at hr
        refine v_aload C (lv_at hl 0 rfl) dX11_report_62 ?_
        obtain ⟨v64, e64, hr⟩ := ob hr
        refine v_getR C fl_RX11_265 rfl e64 dX11_report_64 ?_
        refine v_aload_n C (lv_at hl 1 rfl) rfl dX11_report_67 ?_
        obtain ⟨v68, e68, hr⟩ := ob hr
        refine v_getI C fl_RX11_7 rfl e68 dX11_report_68 ?_
        obtain ⟨v71, e71, hr⟩ := ob hr
        refine v_callS C (k_X11_holderOn e71) cw_X11_holderOn w_479 w_480 (show (parseMethodDescriptor (yX11_holderOn).desc).map (fun d => d.parameters.length) = some 2 by decide +kernel) ⟨by decide, by decide⟩ (rest := []) (stk2 := [va_rf v71]) rfl rfl (Nat.le_of_ble_eq_true rfl) hl dX11_report_71 ?_
        refine v_aload_n C (lv_at hl 2 rfl) rfl dX11_report_74 ?_
        refine v_acmp_ne C 104 (by decide) dX11_report_75 (fun c75 => ?_) (fun c75 => ?_)
        · rw [if_neg c75] at hr
          refine v_iinc C (x4 + 1) (k0 := 4) (lv' := [(4, .int (x4 + 1)), (5, va_rf v49), (0, va_rf (some x0)), (2, va_rf x2), (3, .int x3)]) hl rfl rfl (by decide) rfl dX11_report_104 (fun ls hl => ?_)
          refine v_goto C 28 (by decide) dX11_report_107 ?_
          exact ih hr _ (lv_sub hl [2, 3, 4, 0] rfl)
        · rw [if_pos c75] at hr
          refine v_aload_n C (lv_at hl 1 rfl) rfl dX11_report_78 ?_
          refine v_aload C (lv_at hl 0 rfl) dX11_report_79 ?_
          refine v_aload_n C (lv_at hl 1 rfl) rfl dX11_report_81 ?_
          obtain ⟨v82, e82, hr⟩ := ob hr
          refine v_getI C fl_RX11_7 rfl e82 dX11_report_82 ?_
          obtain ⟨b85, f85, hr⟩ := ob hr
          obtain ⟨g85, h85⟩ := rcv_n f85
          obtain ⟨v85, e85, hr⟩ := ob hr
          refine v_callV C (b := b85) h85 (by decide) rfl rfl (k_X11_sleepDay e85) cw_X11_sleepDay w_949 w_951 w_23 (show (parseMethodDescriptor (yX11_sleepDay).desc).map (fun d => d.parameters.length) = some 2 by decide +kernel) ⟨by decide, by decide⟩ (rest := []) (stk2 := [.int v85]) (by rw [g85]; rfl) rfl (Nat.le_of_ble_eq_true rfl) hl dX11_report_85 ?_
          refine v_aload_n C (lv_at hl 1 rfl) rfl dX11_report_88 ?_
          obtain ⟨v89, e89, hr⟩ := ob hr
          refine v_getI C fl_RX11_7 rfl e89 dX11_report_89 ?_
          refine v_icmp_gt C 104 (by decide) dX11_report_92 (fun c92 => ?_) (fun c92 => ?_)
          · rw [if_pos c92] at hr
            refine v_iinc C (x4 + 1) (k0 := 4) (lv' := [(4, .int (x4 + 1)), (5, va_rf v49), (0, va_rf (some x0)), (2, va_rf x2), (3, .int x3)]) hl rfl rfl (by decide) rfl dX11_report_104 (fun ls hl => ?_)
            refine v_goto C 28 (by decide) dX11_report_107 ?_
            exact ih hr _ (lv_sub hl [2, 3, 4, 0] rfl)
          · rw [if_neg c92] at hr
            refine v_aload_n C (lv_at hl 1 rfl) rfl dX11_report_95 ?_
            refine v_aload C (lv_at hl 0 rfl) dX11_report_96 ?_
            obtain ⟨b98, f98, hr⟩ := ob hr
            obtain ⟨g98, h98⟩ := rcv_n f98
            obtain ⟨S98, e98, hr⟩ := ob hr
            refine v_callV C (b := b98) h98 (by decide) rfl rfl (k_X11_hold e98) cw_X11_hold w_966 w_968 w_24 (show (parseMethodDescriptor (yX11_hold).desc).map (fun d => d.parameters.length) = some 1 by decide +kernel) ⟨by decide, by decide⟩ (rest := []) (stk2 := []) (by rw [g98]; rfl) rfl (Nat.le_of_ble_eq_true rfl) hl dX11_report_98 ?_
            refine v_iinc C (x3 + 1) (k0 := 3) (lv' := [(3, .int (x3 + 1)), (5, va_rf v49), (0, va_rf (some x0)), (2, va_rf x2), (4, .int x4)]) hl rfl rfl (by decide) (by simp [rf_n2]) dX11_report_101 (fun ls hl => ?_)
            refine v_iinc C (x4 + 1) (k0 := 4) (lv' := [(4, .int (x4 + 1)), (3, .int (x3 + 1)), (5, va_rf v49), (0, va_rf (some x0)), (2, va_rf x2)]) hl rfl rfl (by decide) rfl dX11_report_104 (fun ls hl => ?_)
            refine v_goto C 28 (by decide) dX11_report_107 ?_
            exact ih hr _ (lv_sub hl [3, 4, 1, 0] rfl)
theorem k_X11_report {l : Launch} {G : Ge} {S S' : St} {x0 : Nat} {x1 : Int32} {rr : Int32} (hr : f_X11_report S x0 x1 = some (rr, S')) : Ct l G yX11_report cX11_report 6 (Option.some Jvm.ClassFile.FieldType.int) S [va_rf (some x0), .int x1] (some (.int rr)) S' 6 134 := by
  refine ct_of (by decide +kernel) (Nat.le_of_ble_eq_true rfl) ?_
  intro p e s m args below meth c C ls hl
  have hl : lv_has ls 6 [(0, va_rf (some x0)), (1, .int x1)] := hl
  unfold f_X11_report at hr
  refine v_aload_n C (lv_at hl 0 rfl) rfl dX11_report_0 ?_
  refine v_iload_n C (lv_at hl 1 rfl) rfl dX11_report_1 ?_
  obtain ⟨b2, f2, hr⟩ := ob hr
  obtain ⟨g2, h2⟩ := rcv_n f2
  obtain ⟨v2, e2, hr⟩ := ob hr
  refine v_callV C (b := b2) h2 (by decide) rfl rfl (k_X11_firmAt e2) cw_X11_firmAt w_445 w_447 w_3 (show (parseMethodDescriptor (yX11_firmAt).desc).map (fun d => d.parameters.length) = some 1 by decide +kernel) ⟨by decide, by decide⟩ (rest := []) (stk2 := [va_rf v2]) (by rw [g2]; rfl) rfl (Nat.le_of_ble_eq_true rfl) hl dX11_report_2 ?_
  refine v_astore_n C (i := 2) (lv' := [(2, va_rf v2), (0, va_rf (some x0)), (1, .int x1)]) hl rfl (by decide) rfl dX11_report_5 (fun ls hl => ?_)
  refine v_aload_n C (lv_at hl 0 rfl) rfl dX11_report_6 ?_
  refine v_ifnull C 21 (by decide) dX11_report_7 (fun c7 => ?_) (fun c7 => ?_)
  · rw [if_pos c7] at hr
    refine v_iconst C (-1) (by decide) dX11_report_21 ?_
    obtain ⟨rfl, rfl⟩ := Prod.mk.inj (os hr)
    exact v_iret C dX11_report_22
  · rw [if_neg c7] at hr
    refine v_aload_n C (lv_at hl 0 rfl) rfl dX11_report_10 ?_
    refine v_aload_n C (lv_at hl 1 rfl) rfl dX11_report_11 ?_
    obtain ⟨v12, e12, hr⟩ := ob hr
    refine v_getI C fl_RX11_7 rfl e12 dX11_report_12 ?_
    obtain ⟨b15, f15, hr⟩ := ob hr
    obtain ⟨g15, h15⟩ := rcv_n f15
    obtain ⟨v15, e15, hr⟩ := ob hr
    refine v_callV C (b := b15) h15 (by decide) rfl rfl (k_X4_isMergedBy e15) cw_X4_isMergedBy w_467 w_468 w_469 (show (parseMethodDescriptor (yX4_isMergedBy).desc).map (fun d => d.parameters.length) = some 1 by decide +kernel) ⟨by decide, by decide⟩ (rest := []) (stk2 := [.int v15]) (by rw [g15]; rfl) rfl (Nat.le_of_ble_eq_true rfl) hl dX11_report_15 ?_
    refine v_if_eq C 23 (by decide) dX11_report_18 (fun c18 => ?_) (fun c18 => ?_)
    · rw [if_pos c18] at hr
      refine v_iconst C 0 (by decide) dX11_report_23 ?_
      refine v_istore_n C (i := 3) (lv' := [(3, .int 0), (2, va_rf v2), (0, va_rf (some x0)), (1, .int x1)]) hl rfl (by decide) (by simp [rf_n2]) dX11_report_24 (fun ls hl => ?_)
      refine v_iconst C 0 (by decide) dX11_report_25 ?_
      refine v_istore C (i := 4) (lv' := [(4, .int 0), (3, .int 0), (2, va_rf v2), (0, va_rf (some x0)), (1, .int x1)]) hl (by decide) rfl dX11_report_26 (fun ls hl => ?_)
      exact b_X11_report_28 C (fun _ _ q => by cases q; exact ⟨rfl, rfl⟩) FU hr _ (lv_sub hl [3, 2, 1, 0] rfl)
    · rw [if_neg c18] at hr
      refine v_iconst C (-1) (by decide) dX11_report_21 ?_
      obtain ⟨rfl, rfl⟩ := Prod.mk.inj (os hr)
      exact v_iret C dX11_report_22
-- X11_share
def f_X11_share (S : St) (x0 : Nat) (x1 : Int32) (x2 : Int32) (x3 : Int32) : Option Int64 :=
    (rcv S (some x0) 12).bind fun b2 =>
    (f_X11_personAt S b2 x1).bind fun v2 =>
    (rcv S (some x0) 12).bind fun b9 =>
    (f_X11_personAt S b9 x2).bind fun v9 =>
    (if v2 = none then
    some (-1)
    else
    (if v9 = none then
    some (-1)
    else
    (rcv S v2 9).bind fun b26 =>
    (f_X8_lives S b26).bind fun v26 =>
    (if v26 = 0 then
    (if x3 < 0 then
    some (-1)
    else
    (if x3 ≤ 1 then
    (f_X11_partsFor S v2 v9).bind fun v49 =>
    (if x3 = 0 then
    (if v49 = 0 then
    some 0
    else
    some 1)
    else
    (if v49 = 0 then
    some 1
    else
    some (Int32.toInt64 v49)))
    else
    some (-1)))
    else
    some (-1))))
theorem k_X11_share {l : Launch} {G : Ge} {S : St} {x0 : Nat} {x1 : Int32} {x2 : Int32} {x3 : Int32} {rr : Int64} (hr : f_X11_share S x0 x1 x2 x3 = some rr) : Ct l G yX11_share cX11_share 7 (Option.some Jvm.ClassFile.FieldType.long) S [va_rf (some x0), .int x1, .int x2, .int x3] (some (.long rr)) S 4 85 := by
  refine ct_of (by decide +kernel) (Nat.le_of_ble_eq_true rfl) ?_
  intro p e s m args below meth c C ls hl
  have hl : lv_has ls 7 [(0, va_rf (some x0)), (1, .int x1), (2, .int x2), (3, .int x3)] := hl
  unfold f_X11_share at hr
  refine v_aload_n C (lv_at hl 0 rfl) rfl dX11_share_0 ?_
  refine v_iload_n C (lv_at hl 1 rfl) rfl dX11_share_1 ?_
  obtain ⟨b2, f2, hr⟩ := ob hr
  obtain ⟨g2, h2⟩ := rcv_n f2
  obtain ⟨v2, e2, hr⟩ := ob hr
  refine v_callV C (b := b2) h2 (by decide) rfl rfl (k_X11_personAt e2) cw_X11_personAt w_486 w_488 w_6 (show (parseMethodDescriptor (yX11_personAt).desc).map (fun d => d.parameters.length) = some 1 by decide +kernel) ⟨by decide, by decide⟩ (rest := []) (stk2 := [va_rf v2]) (by rw [g2]; rfl) rfl (Nat.le_of_ble_eq_true rfl) hl dX11_share_2 ?_
  refine v_astore C (i := 4) (lv' := [(4, va_rf v2), (0, va_rf (some x0)), (1, .int x1), (2, .int x2), (3, .int x3)]) hl (by decide) rfl dX11_share_5 (fun ls hl => ?_)
  refine v_aload_n C (lv_at hl 1 rfl) rfl dX11_share_7 ?_
  refine v_iload_n C (lv_at hl 3 rfl) rfl dX11_share_8 ?_
  obtain ⟨b9, f9, hr⟩ := ob hr
  obtain ⟨g9, h9⟩ := rcv_n f9
  obtain ⟨v9, e9, hr⟩ := ob hr
  refine v_callV C (b := b9) h9 (by decide) rfl rfl (k_X11_personAt e9) cw_X11_personAt w_486 w_488 w_6 (show (parseMethodDescriptor (yX11_personAt).desc).map (fun d => d.parameters.length) = some 1 by decide +kernel) ⟨by decide, by decide⟩ (rest := []) (stk2 := [va_rf v9]) (by rw [g9]; rfl) rfl (Nat.le_of_ble_eq_true rfl) hl dX11_share_9 ?_
  refine v_astore C (i := 5) (lv' := [(5, va_rf v9), (4, va_rf v2), (0, va_rf (some x0)), (1, .int x1), (2, .int x2), (3, .int x3)]) hl (by decide) (by simp [rf_n2]) dX11_share_12 (fun ls hl => ?_)
  refine v_aload C (lv_at hl 1 rfl) dX11_share_14 ?_
  refine v_ifnull C 41 (by decide) dX11_share_16 (fun c16 => ?_) (fun c16 => ?_)
  · rw [if_pos c16] at hr
    refine v_ldc2 C w_676 dX11_share_41 ?_
    obtain rfl := os hr
    exact v_lret C dX11_share_44
  · rw [if_neg c16] at hr
    refine v_aload C (lv_at hl 0 rfl) dX11_share_19 ?_
    refine v_ifnull C 41 (by decide) dX11_share_21 (fun c21 => ?_) (fun c21 => ?_)
    · rw [if_pos c21] at hr
      refine v_ldc2 C w_676 dX11_share_41 ?_
      obtain rfl := os hr
      exact v_lret C dX11_share_44
    · rw [if_neg c21] at hr
      refine v_aload C (lv_at hl 1 rfl) dX11_share_24 ?_
      obtain ⟨b26, f26, hr⟩ := ob hr
      obtain ⟨g26, h26⟩ := rcv_n f26
      obtain ⟨v26, e26, hr⟩ := ob hr
      refine v_callV C (b := b26) h26 (by decide) rfl rfl (k_X8_lives e26) cw_X8_lives w_534 w_535 w_536 (show (parseMethodDescriptor (yX8_lives).desc).map (fun d => d.parameters.length) = some 0 by decide +kernel) ⟨by decide, by decide⟩ (rest := []) (stk2 := [.int v26]) (by rw [g26]; rfl) rfl (Nat.le_of_ble_eq_true rfl) hl dX11_share_26 ?_
      refine v_if_ne C 41 (by decide) dX11_share_29 (fun c29 => ?_) (fun c29 => ?_)
      · rw [if_neg c29] at hr
        refine v_ldc2 C w_676 dX11_share_41 ?_
        obtain rfl := os hr
        exact v_lret C dX11_share_44
      · rw [if_pos c29] at hr
        refine v_iload_n C (lv_at hl 5 rfl) rfl dX11_share_32 ?_
        refine v_if_lt C 41 (by decide) dX11_share_33 (fun c33 => ?_) (fun c33 => ?_)
        · rw [if_pos c33] at hr
          refine v_ldc2 C w_676 dX11_share_41 ?_
          obtain rfl := os hr
          exact v_lret C dX11_share_44
        · rw [if_neg c33] at hr
          refine v_iload_n C (lv_at hl 5 rfl) rfl dX11_share_36 ?_
          refine v_iconst C 1 (by decide) dX11_share_37 ?_
          refine v_icmp_le C 45 (by decide) dX11_share_38 (fun c38 => ?_) (fun c38 => ?_)
          · rw [if_pos c38] at hr
            refine v_aload C (lv_at hl 1 rfl) dX11_share_45 ?_
            refine v_aload C (lv_at hl 0 rfl) dX11_share_47 ?_
            obtain ⟨v49, e49, hr⟩ := ob hr
            refine v_callS C (k_X11_partsFor e49) cw_X11_partsFor w_1080 w_1081 (show (parseMethodDescriptor (yX11_partsFor).desc).map (fun d => d.parameters.length) = some 2 by decide +kernel) ⟨by decide, by decide⟩ (rest := []) (stk2 := [.int v49]) rfl rfl (Nat.le_of_ble_eq_true rfl) hl dX11_share_49 ?_
            refine v_istore C (i := 6) (lv' := [(6, .int v49), (5, va_rf v9), (4, va_rf v2), (0, va_rf (some x0)), (1, .int x1), (2, .int x2), (3, .int x3)]) hl (by decide) (by simp [rf_n2]) dX11_share_52 (fun ls hl => ?_)
            refine v_iload_n C (lv_at hl 6 rfl) rfl dX11_share_54 ?_
            refine v_if_ne C 69 (by decide) dX11_share_55 (fun c55 => ?_) (fun c55 => ?_)
            · rw [if_neg c55] at hr
              refine v_iload C (lv_at hl 0 rfl) dX11_share_69 ?_
              refine v_if_ne C 78 (by decide) dX11_share_71 (fun c71 => ?_) (fun c71 => ?_)
              · rw [if_neg c71] at hr
                refine v_iload C (lv_at hl 0 rfl) dX11_share_78 ?_
                refine v_i2l C dX11_share_80 ?_
                obtain rfl := os hr
                exact v_lret C dX11_share_81
              · rw [if_pos c71] at hr
                refine v_lconst C 1 (by decide) dX11_share_74 ?_
                refine v_goto C 81 (by decide) dX11_share_75 ?_
                obtain rfl := os hr
                exact v_lret C dX11_share_81
            · rw [if_pos c55] at hr
              refine v_iload C (lv_at hl 0 rfl) dX11_share_58 ?_
              refine v_if_ne C 67 (by decide) dX11_share_60 (fun c60 => ?_) (fun c60 => ?_)
              · rw [if_neg c60] at hr
                refine v_lconst C 1 (by decide) dX11_share_67 ?_
                obtain rfl := os hr
                exact v_lret C dX11_share_68
              · rw [if_pos c60] at hr
                refine v_lconst C 0 (by decide) dX11_share_63 ?_
                refine v_goto C 68 (by decide) dX11_share_64 ?_
                obtain rfl := os hr
                exact v_lret C dX11_share_68
          · rw [if_neg c38] at hr
            refine v_ldc2 C w_676 dX11_share_41 ?_
            obtain rfl := os hr
            exact v_lret C dX11_share_44
-- X11_sleep
def f_X11_sleep (S : St) (x0 : Nat) (x1 : Int32) (x2 : Int32) (x3 : Int32) : Option Int32 :=
    (rcv S (some x0) 12).bind fun b2 =>
    (f_X11_accountAt S b2 x1).bind fun v2 =>
    (if v2 = none then
    some (-100000)
    else
    (rcv S (some x0) 12).bind fun b14 =>
    (f_X11_isPast S b14 x2).bind fun v14 =>
    (if v14 = 0 then
    some (-100000)
    else
    (f_X11_owedOn S v2 x2).bind fun v26 =>
    (rcv S (some x0) 12).bind fun b35 =>
    (f_X11_sleepDay S b35 v2 x2).bind fun v35 =>
    (if x3 = 0 then
    some v35
    else
    (if x3 = 1 then
    (rcv S (some x0) 12).bind fun b80 =>
    (f_X11_lawOf S b80 v26).bind fun v80 =>
    (getI S v80 7 3).bind fun v83 =>
    some (v35 - v83)
    else
    (if x3 = 2 then
    (if x2 < v35 then
    some 0
    else
    some 1)
    else
    (if x3 = 3 then
    some v26
    else
    some (-100000)))))))
theorem k_X11_sleep {l : Launch} {G : Ge} {S : St} {x0 : Nat} {x1 : Int32} {x2 : Int32} {x3 : Int32} {rr : Int32} (hr : f_X11_sleep S x0 x1 x2 x3 = some rr) : Ct l G yX11_sleep cX11_sleep 7 (Option.some Jvm.ClassFile.FieldType.int) S [va_rf (some x0), .int x1, .int x2, .int x3] (some (.int rr)) S 5 113 := by
  refine ct_of (by decide +kernel) (Nat.le_of_ble_eq_true rfl) ?_
  intro p e s m args below meth c C ls hl
  have hl : lv_has ls 7 [(0, va_rf (some x0)), (1, .int x1), (2, .int x2), (3, .int x3)] := hl
  unfold f_X11_sleep at hr
  refine v_aload_n C (lv_at hl 0 rfl) rfl dX11_sleep_0 ?_
  refine v_iload_n C (lv_at hl 1 rfl) rfl dX11_sleep_1 ?_
  obtain ⟨b2, f2, hr⟩ := ob hr
  obtain ⟨g2, h2⟩ := rcv_n f2
  obtain ⟨v2, e2, hr⟩ := ob hr
  refine v_callV C (b := b2) h2 (by decide) rfl rfl (k_X11_accountAt e2) cw_X11_accountAt w_606 w_608 w_8 (show (parseMethodDescriptor (yX11_accountAt).desc).map (fun d => d.parameters.length) = some 1 by decide +kernel) ⟨by decide, by decide⟩ (rest := []) (stk2 := [va_rf v2]) (by rw [g2]; rfl) rfl (Nat.le_of_ble_eq_true rfl) hl dX11_sleep_2 ?_
  refine v_astore C (i := 4) (lv' := [(4, va_rf v2), (0, va_rf (some x0)), (1, .int x1), (2, .int x2), (3, .int x3)]) hl (by decide) rfl dX11_sleep_5 (fun ls hl => ?_)
  refine v_aload C (lv_at hl 0 rfl) dX11_sleep_7 ?_
  refine v_ifnull C 20 (by decide) dX11_sleep_9 (fun c9 => ?_) (fun c9 => ?_)
  · rw [if_pos c9] at hr
    refine v_ldc C w_945 dX11_sleep_20 ?_
    obtain rfl := os hr
    exact v_iret C dX11_sleep_22
  · rw [if_neg c9] at hr
    refine v_aload_n C (lv_at hl 1 rfl) rfl dX11_sleep_12 ?_
    refine v_iload_n C (lv_at hl 3 rfl) rfl dX11_sleep_13 ?_
    obtain ⟨b14, f14, hr⟩ := ob hr
    obtain ⟨g14, h14⟩ := rcv_n f14
    obtain ⟨v14, e14, hr⟩ := ob hr
    refine v_callV C (b := b14) h14 (by decide) rfl rfl (k_X11_isPast e14) cw_X11_isPast w_463 w_465 w_4 (show (parseMethodDescriptor (yX11_isPast).desc).map (fun d => d.parameters.length) = some 1 by decide +kernel) ⟨by decide, by decide⟩ (rest := []) (stk2 := [.int v14]) (by rw [g14]; rfl) rfl (Nat.le_of_ble_eq_true rfl) hl dX11_sleep_14 ?_
    refine v_if_ne C 23 (by decide) dX11_sleep_17 (fun c17 => ?_) (fun c17 => ?_)
    · rw [if_neg c17] at hr
      refine v_aload C (lv_at hl 0 rfl) dX11_sleep_23 ?_
      refine v_iload_n C (lv_at hl 3 rfl) rfl dX11_sleep_25 ?_
      obtain ⟨v26, e26, hr⟩ := ob hr
      refine v_callS C (k_X11_owedOn e26) cw_X11_owedOn w_946 w_947 (show (parseMethodDescriptor (yX11_owedOn).desc).map (fun d => d.parameters.length) = some 2 by decide +kernel) ⟨by decide, by decide⟩ (rest := []) (stk2 := [.int v26]) rfl rfl (Nat.le_of_ble_eq_true rfl) hl dX11_sleep_26 ?_
      refine v_istore C (i := 5) (lv' := [(5, .int v26), (4, va_rf v2), (0, va_rf (some x0)), (1, .int x1), (2, .int x2), (3, .int x3)]) hl (by decide) (by simp [rf_n2]) dX11_sleep_29 (fun ls hl => ?_)
      refine v_aload_n C (lv_at hl 2 rfl) rfl dX11_sleep_31 ?_
      refine v_aload C (lv_at hl 1 rfl) dX11_sleep_32 ?_
      refine v_iload_n C (lv_at hl 4 rfl) rfl dX11_sleep_34 ?_
      obtain ⟨b35, f35, hr⟩ := ob hr
      obtain ⟨g35, h35⟩ := rcv_n f35
      obtain ⟨v35, e35, hr⟩ := ob hr
      refine v_callV C (b := b35) h35 (by decide) rfl rfl (k_X11_sleepDay e35) cw_X11_sleepDay w_949 w_951 w_23 (show (parseMethodDescriptor (yX11_sleepDay).desc).map (fun d => d.parameters.length) = some 2 by decide +kernel) ⟨by decide, by decide⟩ (rest := []) (stk2 := [.int v35]) (by rw [g35]; rfl) rfl (Nat.le_of_ble_eq_true rfl) hl dX11_sleep_35 ?_
      refine v_istore C (i := 6) (lv' := [(6, .int v35), (5, .int v26), (4, va_rf v2), (0, va_rf (some x0)), (1, .int x1), (2, .int x2), (3, .int x3)]) hl (by decide) rfl dX11_sleep_38 (fun ls hl => ?_)
      refine v_iload_n C (lv_at hl 6 rfl) rfl dX11_sleep_40 ?_
      by_cases q41_0 : x3 = 0
      · rw [if_pos q41_0] at hr
        refine v_tableIn C (off := 31) 72 (by rw [q41_0]; decide) (by rw [q41_0]; decide) (by rw [q41_0]; decide) (by decide) dX11_sleep_41 ?_
        refine v_iload C (lv_at hl 0 rfl) dX11_sleep_72 ?_
        obtain rfl := os hr
        exact v_iret C dX11_sleep_74
      rw [if_neg q41_0] at hr
      by_cases q41_1 : x3 = 1
      · rw [if_pos q41_1] at hr
        refine v_tableIn C (off := 34) 75 (by rw [q41_1]; decide) (by rw [q41_1]; decide) (by rw [q41_1]; decide) (by decide) dX11_sleep_41 ?_
        refine v_iload C (lv_at hl 0 rfl) dX11_sleep_75 ?_
        refine v_aload_n C (lv_at hl 3 rfl) rfl dX11_sleep_77 ?_
        refine v_iload C (lv_at hl 1 rfl) dX11_sleep_78 ?_
        obtain ⟨b80, f80, hr⟩ := ob hr
        obtain ⟨g80, h80⟩ := rcv_n f80
        obtain ⟨v80, e80, hr⟩ := ob hr
        refine v_callV C (b := b80) h80 (by decide) rfl rfl (k_X11_lawOf e80) cw_X11_lawOf w_929 w_931 w_22 (show (parseMethodDescriptor (yX11_lawOf).desc).map (fun d => d.parameters.length) = some 1 by decide +kernel) ⟨by decide, by decide⟩ (rest := [.int v35]) (stk2 := [va_rf v80, .int v35]) (by rw [g80]; rfl) rfl (Nat.le_of_ble_eq_true rfl) hl dX11_sleep_80 ?_
        obtain ⟨v83, e83, hr⟩ := ob hr
        refine v_getI C fl_RX11_242 rfl e83 dX11_sleep_83 ?_
        refine v_isub C dX11_sleep_86 ?_
        obtain rfl := os hr
        exact v_iret C dX11_sleep_87
      rw [if_neg q41_1] at hr
      by_cases q41_2 : x3 = 2
      · rw [if_pos q41_2] at hr
        refine v_tableIn C (off := 47) 88 (by rw [q41_2]; decide) (by rw [q41_2]; decide) (by rw [q41_2]; decide) (by decide) dX11_sleep_41 ?_
        refine v_iload_n C (lv_at hl 5 rfl) rfl dX11_sleep_88 ?_
        refine v_iload C (lv_at hl 0 rfl) dX11_sleep_89 ?_
        refine v_icmp_lt C 98 (by decide) dX11_sleep_91 (fun c91 => ?_) (fun c91 => ?_)
        · rw [if_pos c91] at hr
          refine v_iconst C 0 (by decide) dX11_sleep_98 ?_
          obtain rfl := os hr
          exact v_iret C dX11_sleep_99
        · rw [if_neg c91] at hr
          refine v_iconst C 1 (by decide) dX11_sleep_94 ?_
          refine v_goto C 99 (by decide) dX11_sleep_95 ?_
          obtain rfl := os hr
          exact v_iret C dX11_sleep_99
      rw [if_neg q41_2] at hr
      by_cases q41_3 : x3 = 3
      · rw [if_pos q41_3] at hr
        refine v_tableIn C (off := 59) 100 (by rw [q41_3]; decide) (by rw [q41_3]; decide) (by rw [q41_3]; decide) (by decide) dX11_sleep_41 ?_
        refine v_iload C (lv_at hl 1 rfl) dX11_sleep_100 ?_
        obtain rfl := os hr
        exact v_iret C dX11_sleep_102
      rw [if_neg q41_3] at hr
      have kd41 : V p l e (rmo 5 113 S) s m args below meth c G S S (QM below args s G S S (some (.int rr))) (F0 m 103 ls []) := by
        refine v_ldc C w_945 dX11_sleep_103 ?_
        obtain rfl := os hr
        exact v_iret C dX11_sleep_105
      have z0 := lv_neT q41_0 (a := 0) (by decide)
      have z1 := lv_neT q41_1 (a := 1) (by decide)
      have z2 := lv_neT q41_2 (a := 2) (by decide)
      have z3 := lv_neT q41_3 (a := 3) (by decide)
      exact v_tableOut C 103 (by omega) (by decide) dX11_sleep_41 kd41
    · rw [if_pos c17] at hr
      refine v_ldc C w_945 dX11_sleep_20 ?_
      obtain rfl := os hr
      exact v_iret C dX11_sleep_22
-- X11_sum
def f_X11_sum (S : St) (x0 : Nat) (x1 : Int32) (x2 : Int32) (x3 : Int32) : Option Int64 :=
    (rcv S (some x0) 12).bind fun b2 =>
    (f_X11_accountAt S b2 x1).bind fun v2 =>
    (if v2 = none then
    some (-1)
    else
    (rcv S (some x0) 12).bind fun b14 =>
    (f_X11_isPast S b14 x2).bind fun v14 =>
    (if v14 = 0 then
    some (-1)
    else
    (rcv S (some x0) 12).bind fun b22 =>
    (f_X11_isPast S b22 x3).bind fun v22 =>
    (if v22 = 0 then
    some (-1)
    else
    (rcv S v2 1).bind fun b36 =>
    (f_X0_askedSum S b36 x2 x3).bind fun v36 =>
    some v36)))
theorem k_X11_sum {l : Launch} {G : Ge} {S : St} {x0 : Nat} {x1 : Int32} {x2 : Int32} {x3 : Int32} {rr : Int64} (hr : f_X11_sum S x0 x1 x2 x3 = some rr) : Ct l G yX11_sum cX11_sum 5 (Option.some Jvm.ClassFile.FieldType.long) S [va_rf (some x0), .int x1, .int x2, .int x3] (some (.long rr)) S 4 90 := by
  refine ct_of (by decide +kernel) (Nat.le_of_ble_eq_true rfl) ?_
  intro p e s m args below meth c C ls hl
  have hl : lv_has ls 5 [(0, va_rf (some x0)), (1, .int x1), (2, .int x2), (3, .int x3)] := hl
  unfold f_X11_sum at hr
  refine v_aload_n C (lv_at hl 0 rfl) rfl dX11_sum_0 ?_
  refine v_iload_n C (lv_at hl 1 rfl) rfl dX11_sum_1 ?_
  obtain ⟨b2, f2, hr⟩ := ob hr
  obtain ⟨g2, h2⟩ := rcv_n f2
  obtain ⟨v2, e2, hr⟩ := ob hr
  refine v_callV C (b := b2) h2 (by decide) rfl rfl (k_X11_accountAt e2) cw_X11_accountAt w_606 w_608 w_8 (show (parseMethodDescriptor (yX11_accountAt).desc).map (fun d => d.parameters.length) = some 1 by decide +kernel) ⟨by decide, by decide⟩ (rest := []) (stk2 := [va_rf v2]) (by rw [g2]; rfl) rfl (Nat.le_of_ble_eq_true rfl) hl dX11_sum_2 ?_
  refine v_astore C (i := 4) (lv' := [(4, va_rf v2), (0, va_rf (some x0)), (1, .int x1), (2, .int x2), (3, .int x3)]) hl (by decide) rfl dX11_sum_5 (fun ls hl => ?_)
  refine v_aload C (lv_at hl 0 rfl) dX11_sum_7 ?_
  refine v_ifnull C 28 (by decide) dX11_sum_9 (fun c9 => ?_) (fun c9 => ?_)
  · rw [if_pos c9] at hr
    refine v_ldc2 C w_676 dX11_sum_28 ?_
    obtain rfl := os hr
    exact v_lret C dX11_sum_31
  · rw [if_neg c9] at hr
    refine v_aload_n C (lv_at hl 1 rfl) rfl dX11_sum_12 ?_
    refine v_iload_n C (lv_at hl 3 rfl) rfl dX11_sum_13 ?_
    obtain ⟨b14, f14, hr⟩ := ob hr
    obtain ⟨g14, h14⟩ := rcv_n f14
    obtain ⟨v14, e14, hr⟩ := ob hr
    refine v_callV C (b := b14) h14 (by decide) rfl rfl (k_X11_isPast e14) cw_X11_isPast w_463 w_465 w_4 (show (parseMethodDescriptor (yX11_isPast).desc).map (fun d => d.parameters.length) = some 1 by decide +kernel) ⟨by decide, by decide⟩ (rest := []) (stk2 := [.int v14]) (by rw [g14]; rfl) rfl (Nat.le_of_ble_eq_true rfl) hl dX11_sum_14 ?_
    refine v_if_eq C 28 (by decide) dX11_sum_17 (fun c17 => ?_) (fun c17 => ?_)
    · rw [if_pos c17] at hr
      refine v_ldc2 C w_676 dX11_sum_28 ?_
      obtain rfl := os hr
      exact v_lret C dX11_sum_31
    · rw [if_neg c17] at hr
      refine v_aload_n C (lv_at hl 1 rfl) rfl dX11_sum_20 ?_
      refine v_iload_n C (lv_at hl 4 rfl) rfl dX11_sum_21 ?_
      obtain ⟨b22, f22, hr⟩ := ob hr
      obtain ⟨g22, h22⟩ := rcv_n f22
      obtain ⟨v22, e22, hr⟩ := ob hr
      refine v_callV C (b := b22) h22 (by decide) rfl rfl (k_X11_isPast e22) cw_X11_isPast w_463 w_465 w_4 (show (parseMethodDescriptor (yX11_isPast).desc).map (fun d => d.parameters.length) = some 1 by decide +kernel) ⟨by decide, by decide⟩ (rest := []) (stk2 := [.int v22]) (by rw [g22]; rfl) rfl (Nat.le_of_ble_eq_true rfl) hl dX11_sum_22 ?_
      refine v_if_ne C 32 (by decide) dX11_sum_25 (fun c25 => ?_) (fun c25 => ?_)
      · rw [if_neg c25] at hr
        refine v_aload C (lv_at hl 0 rfl) dX11_sum_32 ?_
        refine v_iload_n C (lv_at hl 3 rfl) rfl dX11_sum_34 ?_
        refine v_iload_n C (lv_at hl 4 rfl) rfl dX11_sum_35 ?_
        obtain ⟨b36, f36, hr⟩ := ob hr
        obtain ⟨g36, h36⟩ := rcv_n f36
        obtain ⟨v36, e36, hr⟩ := ob hr
        refine v_callV C (b := b36) h36 (by decide) rfl rfl (k_X0_askedSum e36) cw_X0_askedSum w_677 w_678 w_679 (show (parseMethodDescriptor (yX0_askedSum).desc).map (fun d => d.parameters.length) = some 2 by decide +kernel) ⟨by decide, by decide⟩ (rest := []) (stk2 := [.long v36]) (by rw [g36]; rfl) rfl (Nat.le_of_ble_eq_true rfl) hl dX11_sum_36 ?_
        obtain rfl := os hr
        exact v_lret C dX11_sum_39
      · rw [if_pos c25] at hr
        refine v_ldc2 C w_676 dX11_sum_28 ?_
        obtain rfl := os hr
        exact v_lret C dX11_sum_31
-- X11_told
def f_X11_told (S : St) (x0 : Nat) (x1 : Int32) (x2 : Int32) : Option Int32 :=
    (f_X11_isWithin S x1 4).bind fun v2 =>
    (if v2 = 0 then
    some (-1)
    else
    (rcv S (some x0) 12).bind fun b12 =>
    (f_X11_lawOf S b12 x1).bind fun v12 =>
    (f_X11_isWithin S x2 4).bind fun v18 =>
    (if v18 = 0 then
    (if x2 = 4 then
    (rcv S v12 7).bind fun b65 =>
    (f_X6_sortsThatCount S b65).bind fun v65 =>
    some v65
    else
    (if x2 = 5 then
    (getI S v12 7 3).bind fun v70 =>
    some v70
    else
    (if x2 = 6 then
    (getI S v12 7 4).bind fun v75 =>
    some v75
    else
    (if x2 = 7 then
    (getI S v12 7 5).bind fun v80 =>
    some v80
    else
    (if x2 = 8 then
    (getI S v12 7 6).bind fun v85 =>
    some v85
    else
    some (-1))))))
    else
    (rcv S v12 7).bind fun b26 =>
    (f_X6_yearsOfSleep S b26 x2).bind fun v26 =>
    some v26))
theorem k_X11_told {l : Launch} {G : Ge} {S : St} {x0 : Nat} {x1 : Int32} {x2 : Int32} {rr : Int32} (hr : f_X11_told S x0 x1 x2 = some rr) : Ct l G yX11_told cX11_told 4 (Option.some Jvm.ClassFile.FieldType.int) S [va_rf (some x0), .int x1, .int x2] (some (.int rr)) S 2 42 := by
  refine ct_of (by decide +kernel) (Nat.le_of_ble_eq_true rfl) ?_
  intro p e s m args below meth c C ls hl
  have hl : lv_has ls 4 [(0, va_rf (some x0)), (1, .int x1), (2, .int x2)] := hl
  unfold f_X11_told at hr
  refine v_iload_n C (lv_at hl 1 rfl) rfl dX11_told_0 ?_
  refine v_iconst C 4 (by decide) dX11_told_1 ?_
  obtain ⟨v2, e2, hr⟩ := ob hr
  refine v_callS C (k_X11_isWithin e2) cw_X11_isWithin w_349 w_350 (show (parseMethodDescriptor (yX11_isWithin).desc).map (fun d => d.parameters.length) = some 2 by decide +kernel) ⟨by decide, by decide⟩ (rest := []) (stk2 := [.int v2]) rfl rfl (Nat.le_of_ble_eq_true rfl) hl dX11_told_2 ?_
  refine v_if_ne C 10 (by decide) dX11_told_5 (fun c5 => ?_) (fun c5 => ?_)
  · rw [if_neg c5] at hr
    refine v_aload_n C (lv_at hl 0 rfl) rfl dX11_told_10 ?_
    refine v_iload_n C (lv_at hl 1 rfl) rfl dX11_told_11 ?_
    obtain ⟨b12, f12, hr⟩ := ob hr
    obtain ⟨g12, h12⟩ := rcv_n f12
    obtain ⟨v12, e12, hr⟩ := ob hr
    refine v_callV C (b := b12) h12 (by decide) rfl rfl (k_X11_lawOf e12) cw_X11_lawOf w_929 w_931 w_22 (show (parseMethodDescriptor (yX11_lawOf).desc).map (fun d => d.parameters.length) = some 1 by decide +kernel) ⟨by decide, by decide⟩ (rest := []) (stk2 := [va_rf v12]) (by rw [g12]; rfl) rfl (Nat.le_of_ble_eq_true rfl) hl dX11_told_12 ?_
    refine v_astore_n C (i := 3) (lv' := [(3, va_rf v12), (0, va_rf (some x0)), (1, .int x1), (2, .int x2)]) hl rfl (by decide) rfl dX11_told_15 (fun ls hl => ?_)
    refine v_iload_n C (lv_at hl 3 rfl) rfl dX11_told_16 ?_
    refine v_iconst C 4 (by decide) dX11_told_17 ?_
    obtain ⟨v18, e18, hr⟩ := ob hr
    refine v_callS C (k_X11_isWithin e18) cw_X11_isWithin w_349 w_350 (show (parseMethodDescriptor (yX11_isWithin).desc).map (fun d => d.parameters.length) = some 2 by decide +kernel) ⟨by decide, by decide⟩ (rest := []) (stk2 := [.int v18]) rfl rfl (Nat.le_of_ble_eq_true rfl) hl dX11_told_18 ?_
    refine v_if_eq C 30 (by decide) dX11_told_21 (fun c21 => ?_) (fun c21 => ?_)
    · rw [if_pos c21] at hr
      refine v_iload_n C (lv_at hl 3 rfl) rfl dX11_told_30 ?_
      by_cases q31_4 : x2 = 4
      · rw [if_pos q31_4] at hr
        refine v_tableIn C (off := 33) 64 (by rw [q31_4]; decide) (by rw [q31_4]; decide) (by rw [q31_4]; decide) (by decide) dX11_told_31 ?_
        refine v_aload_n C (lv_at hl 0 rfl) rfl dX11_told_64 ?_
        obtain ⟨b65, f65, hr⟩ := ob hr
        obtain ⟨g65, h65⟩ := rcv_n f65
        obtain ⟨v65, e65, hr⟩ := ob hr
        refine v_callV C (b := b65) h65 (by decide) rfl rfl (k_X6_sortsThatCount e65) cw_X6_sortsThatCount w_937 w_938 w_939 (show (parseMethodDescriptor (yX6_sortsThatCount).desc).map (fun d => d.parameters.length) = some 0 by decide +kernel) ⟨by decide, by decide⟩ (rest := []) (stk2 := [.int v65]) (by rw [g65]; rfl) rfl (Nat.le_of_ble_eq_true rfl) hl dX11_told_65 ?_
        obtain rfl := os hr
        exact v_iret C dX11_told_68
      rw [if_neg q31_4] at hr
      by_cases q31_5 : x2 = 5
      · rw [if_pos q31_5] at hr
        refine v_tableIn C (off := 38) 69 (by rw [q31_5]; decide) (by rw [q31_5]; decide) (by rw [q31_5]; decide) (by decide) dX11_told_31 ?_
        refine v_aload_n C (lv_at hl 0 rfl) rfl dX11_told_69 ?_
        obtain ⟨v70, e70, hr⟩ := ob hr
        refine v_getI C fl_RX11_242 rfl e70 dX11_told_70 ?_
        obtain rfl := os hr
        exact v_iret C dX11_told_73
      rw [if_neg q31_5] at hr
      by_cases q31_6 : x2 = 6
      · rw [if_pos q31_6] at hr
        refine v_tableIn C (off := 43) 74 (by rw [q31_6]; decide) (by rw [q31_6]; decide) (by rw [q31_6]; decide) (by decide) dX11_told_31 ?_
        refine v_aload_n C (lv_at hl 0 rfl) rfl dX11_told_74 ?_
        obtain ⟨v75, e75, hr⟩ := ob hr
        refine v_getI C fl_RX11_245 rfl e75 dX11_told_75 ?_
        obtain rfl := os hr
        exact v_iret C dX11_told_78
      rw [if_neg q31_6] at hr
      by_cases q31_7 : x2 = 7
      · rw [if_pos q31_7] at hr
        refine v_tableIn C (off := 48) 79 (by rw [q31_7]; decide) (by rw [q31_7]; decide) (by rw [q31_7]; decide) (by decide) dX11_told_31 ?_
        refine v_aload_n C (lv_at hl 0 rfl) rfl dX11_told_79 ?_
        obtain ⟨v80, e80, hr⟩ := ob hr
        refine v_getI C fl_RX11_248 rfl e80 dX11_told_80 ?_
        obtain rfl := os hr
        exact v_iret C dX11_told_83
      rw [if_neg q31_7] at hr
      by_cases q31_8 : x2 = 8
      · rw [if_pos q31_8] at hr
        refine v_tableIn C (off := 53) 84 (by rw [q31_8]; decide) (by rw [q31_8]; decide) (by rw [q31_8]; decide) (by decide) dX11_told_31 ?_
        refine v_aload_n C (lv_at hl 0 rfl) rfl dX11_told_84 ?_
        obtain ⟨v85, e85, hr⟩ := ob hr
        refine v_getI C fl_RX11_251 rfl e85 dX11_told_85 ?_
        obtain rfl := os hr
        exact v_iret C dX11_told_88
      rw [if_neg q31_8] at hr
      have kd31 : V p l e (rmo 2 42 S) s m args below meth c G S S (QM below args s G S S (some (.int rr))) (F0 m 89 ls []) := by
        refine v_iconst C (-1) (by decide) dX11_told_89 ?_
        obtain rfl := os hr
        exact v_iret C dX11_told_90
      have z0 := lv_neT q31_4 (a := 4) (by decide)
      have z1 := lv_neT q31_5 (a := 5) (by decide)
      have z2 := lv_neT q31_6 (a := 6) (by decide)
      have z3 := lv_neT q31_7 (a := 7) (by decide)
      have z4 := lv_neT q31_8 (a := 8) (by decide)
      exact v_tableOut C 89 (by omega) (by decide) dX11_told_31 kd31
    · rw [if_neg c21] at hr
      refine v_aload_n C (lv_at hl 0 rfl) rfl dX11_told_24 ?_
      refine v_iload_n C (lv_at hl 3 rfl) rfl dX11_told_25 ?_
      obtain ⟨b26, f26, hr⟩ := ob hr
      obtain ⟨g26, h26⟩ := rcv_n f26
      obtain ⟨v26, e26, hr⟩ := ob hr
      refine v_callV C (b := b26) h26 (by decide) rfl rfl (k_X6_yearsOfSleep e26) cw_X6_yearsOfSleep w_933 w_934 w_935 (show (parseMethodDescriptor (yX6_yearsOfSleep).desc).map (fun d => d.parameters.length) = some 1 by decide +kernel) ⟨by decide, by decide⟩ (rest := []) (stk2 := [.int v26]) (by rw [g26]; rfl) rfl (Nat.le_of_ble_eq_true rfl) hl dX11_told_26 ?_
      obtain rfl := os hr
      exact v_iret C dX11_told_29
  · rw [if_pos c5] at hr
    refine v_iconst C (-1) (by decide) dX11_told_8 ?_
    obtain rfl := os hr
    exact v_iret C dX11_told_9
-- X12_bad
def f_X12_bad (S : St) (x0 : Nat) (x1 : Int32) : Option (Int32 × St) :=
    (putI S (some x0) 13 49 x1).bind fun S2 =>
    (getI S2 (some x0) 13 47).bind fun v7 =>
    (putI S2 (some x0) 13 50 v7).bind fun S10 =>
    some (0, S10)
theorem k_X12_bad {l : Launch} {G : Ge} {S S' : St} {x0 : Nat} {x1 : Int32} {rr : Int32} (hr : f_X12_bad S x0 x1 = some (rr, S')) : Ct l G yX12_bad cX12_bad 2 (Option.some Jvm.ClassFile.FieldType.boolean) S [va_rf (some x0), .int x1] (some (.int rr)) S' 0 0 := by
  refine ct_of (by decide +kernel) (Nat.le_of_ble_eq_true rfl) ?_
  intro p e s m args below meth c C ls hl
  have hl : lv_has ls 2 [(0, va_rf (some x0)), (1, .int x1)] := hl
  unfold f_X12_bad at hr
  refine v_aload_n C (lv_at hl 0 rfl) rfl dX12_bad_0 ?_
  refine v_iload_n C (lv_at hl 1 rfl) rfl dX12_bad_1 ?_
  obtain ⟨S2, e2, hr⟩ := ob hr
  refine v_putI C fl_RX12_326 (Or.inl rfl) rfl e2 dX12_bad_2 ?_
  refine v_aload_n C (lv_at hl 0 rfl) rfl dX12_bad_5 ?_
  refine v_aload_n C (lv_at hl 0 rfl) rfl dX12_bad_6 ?_
  obtain ⟨v7, e7, hr⟩ := ob hr
  refine v_getI C fl_RX12_265 rfl e7 dX12_bad_7 ?_
  obtain ⟨S10, e10, hr⟩ := ob hr
  refine v_putI C fl_RX12_329 (Or.inl rfl) rfl e10 dX12_bad_10 ?_
  refine v_iconst C 0 (by decide) dX12_bad_13 ?_
  obtain ⟨rfl, rfl⟩ := Prod.mk.inj (os hr)
  exact v_zret C rfl dX12_bad_14
-- X12_lay
def f_X12_lay (S : St) (x0 : Nat) (x1 : Int32) (x2 : Int32) : Option St :=
    (getR S (some x0) 13 39).bind fun v1 =>
    (getI S (some x0) 13 43).bind fun v6 =>
    (stI S v1 15 (2 * v6) x1).bind fun S11 =>
    (getR S11 (some x0) 13 39).bind fun v13 =>
    (getI S11 (some x0) 13 43).bind fun v18 =>
    (stI S11 v13 15 ((2 * v18) + 1) x2).bind fun S25 =>
    (getI S25 (some x0) 13 43).bind fun v28 =>
    (putI S25 (some x0) 13 43 (v28 + 1)).bind fun S33 =>
    some S33
theorem k_X12_lay {l : Launch} {G : Ge} {S S' : St} {x0 : Nat} {x1 : Int32} {x2 : Int32} (hr : f_X12_lay S x0 x1 x2 = some S') : Ct l G yX12_lay cX12_lay 3 (Option.none : Option Jvm.ClassFile.FieldType) S [va_rf (some x0), .int x1, .int x2] none S' 0 0 := by
  refine ct_of (by decide +kernel) (Nat.le_of_ble_eq_true rfl) ?_
  intro p e s m args below meth c C ls hl
  have hl : lv_has ls 3 [(0, va_rf (some x0)), (1, .int x1), (2, .int x2)] := hl
  unfold f_X12_lay at hr
  refine v_aload_n C (lv_at hl 0 rfl) rfl dX12_lay_0 ?_
  obtain ⟨v1, e1, hr⟩ := ob hr
  refine v_getR C fl_RX12_112 rfl e1 dX12_lay_1 ?_
  refine v_iconst C 2 (by decide) dX12_lay_4 ?_
  refine v_aload_n C (lv_at hl 0 rfl) rfl dX12_lay_5 ?_
  obtain ⟨v6, e6, hr⟩ := ob hr
  refine v_getI C fl_RX12_341 rfl e6 dX12_lay_6 ?_
  refine v_imul C dX12_lay_9 ?_
  refine v_iload_n C (lv_at hl 1 rfl) rfl dX12_lay_10 ?_
  obtain ⟨S11, e11, hr⟩ := ob hr
  refine v_stI_i C e11 dX12_lay_11 ?_
  refine v_aload_n C (lv_at hl 0 rfl) rfl dX12_lay_12 ?_
  obtain ⟨v13, e13, hr⟩ := ob hr
  refine v_getR C fl_RX12_112 rfl e13 dX12_lay_13 ?_
  refine v_iconst C 2 (by decide) dX12_lay_16 ?_
  refine v_aload_n C (lv_at hl 0 rfl) rfl dX12_lay_17 ?_
  obtain ⟨v18, e18, hr⟩ := ob hr
  refine v_getI C fl_RX12_341 rfl e18 dX12_lay_18 ?_
  refine v_imul C dX12_lay_21 ?_
  refine v_iconst C 1 (by decide) dX12_lay_22 ?_
  refine v_iadd C dX12_lay_23 ?_
  refine v_iload_n C (lv_at hl 2 rfl) rfl dX12_lay_24 ?_
  obtain ⟨S25, e25, hr⟩ := ob hr
  refine v_stI_i C e25 dX12_lay_25 ?_
  refine v_aload_n C (lv_at hl 0 rfl) rfl dX12_lay_26 ?_
  refine v_dup C (rf_cat _) dX12_lay_27 ?_
  obtain ⟨v28, e28, hr⟩ := ob hr
  refine v_getI C fl_RX12_341 rfl e28 dX12_lay_28 ?_
  refine v_iconst C 1 (by decide) dX12_lay_31 ?_
  refine v_iadd C dX12_lay_32 ?_
  obtain ⟨S33, e33, hr⟩ := ob hr
  refine v_putI C fl_RX12_341 (Or.inl rfl) rfl e33 dX12_lay_33 ?_
  obtain rfl := os hr
  exact v_vret C dX12_lay_36
-- X12_isIn
def f_X12_isIn (S : St) (x0 : Int32) (x1 : Int32) (x2 : Int32) : Option Int32 :=
    (if x0 < x1 then
    some 0
    else
    (if x2 < x0 then
    some 0
    else
    some 1))
theorem k_X12_isIn {l : Launch} {G : Ge} {S : St} {x0 : Int32} {x1 : Int32} {x2 : Int32} {rr : Int32} (hr : f_X12_isIn S x0 x1 x2 = some rr) : Ct l G yX12_isIn cX12_isIn 3 (Option.some Jvm.ClassFile.FieldType.boolean) S [.int x0, .int x1, .int x2] (some (.int rr)) S 0 0 := by
  refine ct_of (by decide +kernel) (Nat.le_of_ble_eq_true rfl) ?_
  intro p e s m args below meth c C ls hl
  have hl : lv_has ls 3 [(0, .int x0), (1, .int x1), (2, .int x2)] := hl
  unfold f_X12_isIn at hr
  refine v_iload_n C (lv_at hl 0 rfl) rfl dX12_isIn_0 ?_
  refine v_iload_n C (lv_at hl 1 rfl) rfl dX12_isIn_1 ?_
  refine v_icmp_lt C 14 (by decide) dX12_isIn_2 (fun c2 => ?_) (fun c2 => ?_)
  · rw [if_pos c2] at hr
    refine v_iconst C 0 (by decide) dX12_isIn_14 ?_
    obtain rfl := os hr
    exact v_zret C rfl dX12_isIn_15
  · rw [if_neg c2] at hr
    refine v_iload_n C (lv_at hl 0 rfl) rfl dX12_isIn_5 ?_
    refine v_iload_n C (lv_at hl 2 rfl) rfl dX12_isIn_6 ?_
    refine v_icmp_gt C 14 (by decide) dX12_isIn_7 (fun c7 => ?_) (fun c7 => ?_)
    · rw [if_pos c7] at hr
      refine v_iconst C 0 (by decide) dX12_isIn_14 ?_
      obtain rfl := os hr
      exact v_zret C rfl dX12_isIn_15
    · rw [if_neg c7] at hr
      refine v_iconst C 1 (by decide) dX12_isIn_10 ?_
      refine v_goto C 15 (by decide) dX12_isIn_11 ?_
      obtain rfl := os hr
      exact v_zret C rfl dX12_isIn_15
-- X12_isDigit
def f_X12_isDigit (S : St) (x0 : Int32) : Option Int32 :=
    (f_X12_isIn S x0 48 57).bind fun v5 =>
    (zchk v5).bind fun z8 =>
    some z8
theorem k_X12_isDigit {l : Launch} {G : Ge} {S : St} {x0 : Int32} {rr : Int32} (hr : f_X12_isDigit S x0 = some rr) : Ct l G yX12_isDigit cX12_isDigit 1 (Option.some Jvm.ClassFile.FieldType.boolean) S [.int x0] (some (.int rr)) S 1 22 := by
  refine ct_of (by decide +kernel) (Nat.le_of_ble_eq_true rfl) ?_
  intro p e s m args below meth c C ls hl
  have hl : lv_has ls 1 [(0, .int x0)] := hl
  unfold f_X12_isDigit at hr
  refine v_iload_n C (lv_at hl 0 rfl) rfl dX12_isDigit_0 ?_
  refine v_bipush C 48 (by decide) dX12_isDigit_1 ?_
  refine v_bipush C 57 (by decide) dX12_isDigit_3 ?_
  obtain ⟨v5, e5, hr⟩ := ob hr
  refine v_callS C (k_X12_isIn e5) cw_X12_isIn w_1555 w_1556 (show (parseMethodDescriptor (yX12_isIn).desc).map (fun d => d.parameters.length) = some 3 by decide +kernel) ⟨by decide, by decide⟩ (rest := []) (stk2 := [.int v5]) rfl rfl (Nat.le_of_ble_eq_true rfl) hl dX12_isDigit_5 ?_
  obtain ⟨z8, e8, hr⟩ := ob hr
  obtain ⟨y8, n8⟩ := zchk_n e8
  obtain rfl := os hr
  rw [← y8]
  exact v_zret C n8 dX12_isDigit_8
-- X12_isLetter
def f_X12_isLetter (S : St) (x0 : Int32) : Option Int32 :=
    (f_X12_isIn S x0 97 122).bind fun v5 =>
    (if v5 = 0 then
    (f_X12_isIn S x0 65 90).bind fun v16 =>
    (if v16 = 0 then
    some 0
    else
    some 1)
    else
    some 1)
theorem k_X12_isLetter {l : Launch} {G : Ge} {S : St} {x0 : Int32} {rr : Int32} (hr : f_X12_isLetter S x0 = some rr) : Ct l G yX12_isLetter cX12_isLetter 1 (Option.some Jvm.ClassFile.FieldType.boolean) S [.int x0] (some (.int rr)) S 1 22 := by
  refine ct_of (by decide +kernel) (Nat.le_of_ble_eq_true rfl) ?_
  intro p e s m args below meth c C ls hl
  have hl : lv_has ls 1 [(0, .int x0)] := hl
  unfold f_X12_isLetter at hr
  refine v_iload_n C (lv_at hl 0 rfl) rfl dX12_isLetter_0 ?_
  refine v_bipush C 97 (by decide) dX12_isLetter_1 ?_
  refine v_bipush C 122 (by decide) dX12_isLetter_3 ?_
  obtain ⟨v5, e5, hr⟩ := ob hr
  refine v_callS C (k_X12_isIn e5) cw_X12_isIn w_1555 w_1556 (show (parseMethodDescriptor (yX12_isIn).desc).map (fun d => d.parameters.length) = some 3 by decide +kernel) ⟨by decide, by decide⟩ (rest := []) (stk2 := [.int v5]) rfl rfl (Nat.le_of_ble_eq_true rfl) hl dX12_isLetter_5 ?_
  refine v_if_ne C 22 (by decide) dX12_isLetter_8 (fun c8 => ?_) (fun c8 => ?_)
  · rw [if_neg c8] at hr
    refine v_iconst C 1 (by decide) dX12_isLetter_22 ?_
    refine v_goto C 27 (by decide) dX12_isLetter_23 ?_
    obtain rfl := os hr
    exact v_zret C rfl dX12_isLetter_27
  · rw [if_pos c8] at hr
    refine v_iload_n C (lv_at hl 0 rfl) rfl dX12_isLetter_11 ?_
    refine v_bipush C 65 (by decide) dX12_isLetter_12 ?_
    refine v_bipush C 90 (by decide) dX12_isLetter_14 ?_
    obtain ⟨v16, e16, hr⟩ := ob hr
    refine v_callS C (k_X12_isIn e16) cw_X12_isIn w_1555 w_1556 (show (parseMethodDescriptor (yX12_isIn).desc).map (fun d => d.parameters.length) = some 3 by decide +kernel) ⟨by decide, by decide⟩ (rest := []) (stk2 := [.int v16]) rfl rfl (Nat.le_of_ble_eq_true rfl) hl dX12_isLetter_16 ?_
    refine v_if_eq C 26 (by decide) dX12_isLetter_19 (fun c19 => ?_) (fun c19 => ?_)
    · rw [if_pos c19] at hr
      refine v_iconst C 0 (by decide) dX12_isLetter_26 ?_
      obtain rfl := os hr
      exact v_zret C rfl dX12_isLetter_27
    · rw [if_neg c19] at hr
      refine v_iconst C 1 (by decide) dX12_isLetter_22 ?_
      refine v_goto C 27 (by decide) dX12_isLetter_23 ?_
      obtain rfl := os hr
      exact v_zret C rfl dX12_isLetter_27
-- X12_see
def f_X12_see (S : St) (x0 : Nat) (x1 : Int32) : Option Int32 :=
    (getI S (some x0) 13 44).bind fun v2 =>
    (if v2 ≤ x1 then
    some (-1)
    else
    (getR S (some x0) 13 40).bind fun v9 =>
    (ldI S v9 15 x1).bind fun v13 =>
    some v13)
theorem k_X12_see {l : Launch} {G : Ge} {S : St} {x0 : Nat} {x1 : Int32} {rr : Int32} (hr : f_X12_see S x0 x1 = some rr) : Ct l G yX12_see cX12_see 2 (Option.some Jvm.ClassFile.FieldType.int) S [va_rf (some x0), .int x1] (some (.int rr)) S 0 0 := by
  refine ct_of (by decide +kernel) (Nat.le_of_ble_eq_true rfl) ?_
  intro p e s m args below meth c C ls hl
  have hl : lv_has ls 2 [(0, va_rf (some x0)), (1, .int x1)] := hl
  unfold f_X12_see at hr
  refine v_iload_n C (lv_at hl 1 rfl) rfl dX12_see_0 ?_
  refine v_aload_n C (lv_at hl 0 rfl) rfl dX12_see_1 ?_
  obtain ⟨v2, e2, hr⟩ := ob hr
  refine v_getI C fl_RX12_259 rfl e2 dX12_see_2 ?_
  refine v_icmp_ge C 17 (by decide) dX12_see_5 (fun c5 => ?_) (fun c5 => ?_)
  · rw [if_pos c5] at hr
    refine v_iconst C (-1) (by decide) dX12_see_17 ?_
    obtain rfl := os hr
    exact v_iret C dX12_see_18
  · rw [if_neg c5] at hr
    refine v_aload_n C (lv_at hl 0 rfl) rfl dX12_see_8 ?_
    obtain ⟨v9, e9, hr⟩ := ob hr
    refine v_getR C fl_RX12_115 rfl e9 dX12_see_9 ?_
    refine v_iload_n C (lv_at hl 1 rfl) rfl dX12_see_12 ?_
    obtain ⟨v13, e13, hr⟩ := ob hr
    refine v_ldI_i C e13 dX12_see_13 ?_
    refine v_goto C 18 (by decide) dX12_see_14 ?_
    obtain rfl := os hr
    exact v_iret C dX12_see_18
-- X12_is
def f_X12_is_24 : Nat → St → Nat → (Option Nat) → Int32 → Int32 → Option (Int32)
  | 0, _, _, _, _, _ => none
  | n + 1, S, x0, x1, x2, x3 =>
    (rcv S x1 22).bind fun b26 =>
    (stL0 S b26).bind fun v26 =>
    (if v26 ≤ x3 then
    (zchk x2).bind fun z68 =>
    some z68
    else
    (if x2 = 0 then
    (zchk x2).bind fun z68 =>
    some z68
    else
    (getR S (some x0) 13 40).bind fun v37 =>
    (getI S (some x0) 13 47).bind fun v41 =>
    (ldI S v37 15 (v41 + x3)).bind fun v46 =>
    (rcv S x1 22).bind fun b49 =>
    (stC0 S b49 x3).bind fun v49 =>
    (if v46 = v49 then
    f_X12_is_24 n S x0 x1 1 (x3 + 1)
    else
    f_X12_is_24 n S x0 x1 0 (x3 + 1))))
def f_X12_is (S : St) (x0 : Nat) (x1 : Option Nat) : Option Int32 :=
    (getI S (some x0) 13 45).bind fun v1 =>
    (getI S (some x0) 13 47).bind fun v5 =>
    (rcv S x1 22).bind fun b10 =>
    (stL0 S b10).bind fun v10 =>
    (if (v1 - v5) = v10 then
    f_X12_is_24 FU S x0 x1 1 0
    else
    f_X12_is_24 FU S x0 x1 0 0)
theorem b_X12_is_24  {S : St} {rr : Int32} (C : Cx p s m args meth c G S yX12_is cX12_is 4 (Option.some Jvm.ClassFile.FieldType.boolean)) {o : (Int32)} (kR : ∀ (v : Int32), o = v → rr = v) : ∀ (n : Nat) {x0 : Nat} {x1 : Option Nat} {x2 : Int32} {x3 : Int32}, f_X12_is_24 n S x0 x1 x2 x3 = some o → ∀ ls : Array Slot, lv_has ls 4 [(0, va_rf (some x0)), (1, va_rf x1), (2, .int x2), (3, .int x3)] → V p l e (rmo 6 221 S) s m args below meth c G S S (QM below args s G S S (some (.int rr))) (F0 m 24 ls []) := by
  intro n
  induction n with
  | zero => intro x0 x1 x2 x3 hr; cases hr
  | succ n ih =>
    intro x0 x1 x2 x3 hr ls hl
    unfold f_X12_is_24 at hr
    refine v_iload_n C (lv_at hl 3 rfl) rfl dX12_is_24 ?_
    refine v_aload_n C (lv_at hl 1 rfl) rfl dX12_is_25 ?_
    obtain ⟨b26, f26, hr⟩ := ob hr
    obtain ⟨g26, h26⟩ := rcv_n f26
    obtain ⟨v26, e26, hr⟩ := ob hr
    refine v_callT C (b := b26) h26 rfl (k_strL e26) cw_J0_length_8abf5 w_1676 w_754 w_755 (show (parseMethodDescriptor (yJ0_length_8abf5).desc).map (fun d => d.parameters.length) = some 0 by decide +kernel) ⟨by decide, by decide⟩ (rest := [.int x3]) (stk2 := [.int v26, .int x3]) (by rw [g26]; rfl) rfl (Nat.le_of_ble_eq_true rfl) hl dX12_is_26 ?_
    refine v_icmp_ge C 67 (by decide) dX12_is_29 (fun c29 => ?_) (fun c29 => ?_)
    · rw [if_pos c29] at hr
      refine v_iload_n C (lv_at hl 2 rfl) rfl dX12_is_67 ?_
      obtain ⟨z68, e68, hr⟩ := ob hr
      obtain ⟨y68, n68⟩ := zchk_n e68
      obtain rfl := os hr
      obtain rfl := kR _ rfl
      rw [← y68]
      exact v_zret C n68 dX12_is_68
    · rw [if_neg c29] at hr
      refine v_iload_n C (lv_at hl 2 rfl) rfl dX12_is_32 ?_
      refine v_if_eq C 67 (by decide) dX12_is_33 (fun c33 => ?_) (fun c33 => ?_)
      · rw [if_pos c33] at hr
        refine v_iload_n C (lv_at hl 2 rfl) rfl dX12_is_67 ?_
        obtain ⟨z68, e68, hr⟩ := ob hr
        obtain ⟨y68, n68⟩ := zchk_n e68
        obtain rfl := os hr
        obtain rfl := kR _ rfl
        rw [← y68]
        exact v_zret C n68 dX12_is_68
      · rw [if_neg c33] at hr
        refine v_aload_n C (lv_at hl 0 rfl) rfl dX12_is_36 ?_
        obtain ⟨v37, e37, hr⟩ := ob hr
        refine v_getR C fl_RX12_115 rfl e37 dX12_is_37 ?_
        refine v_aload_n C (lv_at hl 0 rfl) rfl dX12_is_40 ?_
        obtain ⟨v41, e41, hr⟩ := ob hr
        refine v_getI C fl_RX12_265 rfl e41 dX12_is_41 ?_
        refine v_iload_n C (lv_at hl 3 rfl) rfl dX12_is_44 ?_
        refine v_iadd C dX12_is_45 ?_
        obtain ⟨v46, e46, hr⟩ := ob hr
        refine v_ldI_i C e46 dX12_is_46 ?_
        refine v_aload_n C (lv_at hl 1 rfl) rfl dX12_is_47 ?_
        refine v_iload_n C (lv_at hl 3 rfl) rfl dX12_is_48 ?_
        obtain ⟨b49, f49, hr⟩ := ob hr
        obtain ⟨g49, h49⟩ := rcv_n f49
        obtain ⟨v49, e49, hr⟩ := ob hr
        refine v_callT C (b := b49) h49 rfl (k_strC e49) cw_J0_charAt_5068e w_1677 w_764 w_765 (show (parseMethodDescriptor (yJ0_charAt_5068e).desc).map (fun d => d.parameters.length) = some 1 by decide +kernel) ⟨by decide, by decide⟩ (rest := [.int v46]) (stk2 := [.int v49, .int v46]) (by rw [g49]; rfl) rfl (Nat.le_of_ble_eq_true rfl) hl dX12_is_49 ?_
        refine v_icmp_ne C 59 (by decide) dX12_is_52 (fun c52 => ?_) (fun c52 => ?_)
        · rw [if_neg c52] at hr
          refine v_iconst C 0 (by decide) dX12_is_59 ?_
          refine v_istore_n C (i := 2) (lv' := [(2, .int 0), (0, va_rf (some x0)), (1, va_rf x1), (3, .int x3)]) hl rfl (by decide) (by simp [rf_n2]) dX12_is_60 (fun ls hl => ?_)
          refine v_iinc C (x3 + 1) (k0 := 3) (lv' := [(3, .int (x3 + 1)), (2, .int 0), (0, va_rf (some x0)), (1, va_rf x1)]) hl rfl rfl (by decide) rfl dX12_is_61 (fun ls hl => ?_)
          refine v_goto C 24 (by decide) dX12_is_64 ?_
          exact ih hr _ (lv_sub hl [2, 3, 1, 0] rfl)
        · rw [if_pos c52] at hr
          refine v_iconst C 1 (by decide) dX12_is_55 ?_
          refine v_goto C 60 (by decide) dX12_is_56 ?_
          refine v_istore_n C (i := 2) (lv' := [(2, .int 1), (0, va_rf (some x0)), (1, va_rf x1), (3, .int x3)]) hl rfl (by decide) (by simp [rf_n2]) dX12_is_60 (fun ls hl => ?_)
          refine v_iinc C (x3 + 1) (k0 := 3) (lv' := [(3, .int (x3 + 1)), (2, .int 1), (0, va_rf (some x0)), (1, va_rf x1)]) hl rfl rfl (by decide) rfl dX12_is_61 (fun ls hl => ?_)
          refine v_goto C 24 (by decide) dX12_is_64 ?_
          exact ih hr _ (lv_sub hl [2, 3, 1, 0] rfl)
theorem k_X12_is {l : Launch} {G : Ge} {S : St} {x0 : Nat} {x1 : Option Nat} {rr : Int32} (hr : f_X12_is S x0 x1 = some rr) : Ct l G yX12_is cX12_is 4 (Option.some Jvm.ClassFile.FieldType.boolean) S [va_rf (some x0), va_rf x1] (some (.int rr)) S 6 221 := by
  refine ct_of (by decide +kernel) (by cases x1 <;> exact Nat.le_of_ble_eq_true rfl) ?_
  intro p e s m args below meth c C ls hl
  have hl : lv_has ls 4 [(0, va_rf (some x0)), (1, va_rf x1)] := by clear hr; cases x1 <;> exact hl
  unfold f_X12_is at hr
  refine v_aload_n C (lv_at hl 0 rfl) rfl dX12_is_0 ?_
  obtain ⟨v1, e1, hr⟩ := ob hr
  refine v_getI C fl_RX12_262 rfl e1 dX12_is_1 ?_
  refine v_aload_n C (lv_at hl 0 rfl) rfl dX12_is_4 ?_
  obtain ⟨v5, e5, hr⟩ := ob hr
  refine v_getI C fl_RX12_265 rfl e5 dX12_is_5 ?_
  refine v_isub C dX12_is_8 ?_
  refine v_aload_n C (lv_at hl 1 rfl) rfl dX12_is_9 ?_
  obtain ⟨b10, f10, hr⟩ := ob hr
  obtain ⟨g10, h10⟩ := rcv_n f10
  obtain ⟨v10, e10, hr⟩ := ob hr
  refine v_callT C (b := b10) h10 rfl (k_strL e10) cw_J0_length_8abf5 w_1676 w_754 w_755 (show (parseMethodDescriptor (yJ0_length_8abf5).desc).map (fun d => d.parameters.length) = some 0 by decide +kernel) ⟨by decide, by decide⟩ (rest := [.int (v1 - v5)]) (stk2 := [.int v10, .int (v1 - v5)]) (by rw [g10]; rfl) rfl (Nat.le_of_ble_eq_true rfl) hl dX12_is_10 ?_
  refine v_icmp_ne C 20 (by decide) dX12_is_13 (fun c13 => ?_) (fun c13 => ?_)
  · rw [if_neg c13] at hr
    refine v_iconst C 0 (by decide) dX12_is_20 ?_
    refine v_istore_n C (i := 2) (lv' := [(2, .int 0), (0, va_rf (some x0)), (1, va_rf x1)]) hl rfl (by decide) (by simp [rf_n2]) dX12_is_21 (fun ls hl => ?_)
    refine v_iconst C 0 (by decide) dX12_is_22 ?_
    refine v_istore_n C (i := 3) (lv' := [(3, .int 0), (2, .int 0), (0, va_rf (some x0)), (1, va_rf x1)]) hl rfl (by decide) rfl dX12_is_23 (fun ls hl => ?_)
    exact b_X12_is_24 C (fun _ q => by cases q; rfl) FU hr _ (lv_sub hl [2, 3, 1, 0] rfl)
  · rw [if_pos c13] at hr
    refine v_iconst C 1 (by decide) dX12_is_16 ?_
    refine v_goto C 21 (by decide) dX12_is_17 ?_
    refine v_istore_n C (i := 2) (lv' := [(2, .int 1), (0, va_rf (some x0)), (1, va_rf x1)]) hl rfl (by decide) (by simp [rf_n2]) dX12_is_21 (fun ls hl => ?_)
    refine v_iconst C 0 (by decide) dX12_is_22 ?_
    refine v_istore_n C (i := 3) (lv' := [(3, .int 0), (2, .int 1), (0, va_rf (some x0)), (1, va_rf x1)]) hl rfl (by decide) rfl dX12_is_23 (fun ls hl => ?_)
    exact b_X12_is_24 C (fun _ q => by cases q; rfl) FU hr _ (lv_sub hl [2, 3, 1, 0] rfl)
-- X12_word
def f_X12_word (S : St) (x0 : Nat) : Option Int32 :=
    (rcv S (some x0) 13).bind fun b4 =>
    (f_X12_is S b4 (some (lit S 0))).bind fun v4 =>
    (if v4 = 0 then
    (rcv S (some x0) 13).bind fun b16 =>
    (f_X12_is S b16 (some (lit S 1))).bind fun v16 =>
    (if v16 = 0 then
    (rcv S (some x0) 13).bind fun b28 =>
    (f_X12_is S b28 (some (lit S 2))).bind fun v28 =>
    (if v28 = 0 then
    (rcv S (some x0) 13).bind fun b40 =>
    (f_X12_is S b40 (some (lit S 3))).bind fun v40 =>
    (if v40 = 0 then
    (rcv S (some x0) 13).bind fun b53 =>
    (f_X12_is S b53 (some (lit S 4))).bind fun v53 =>
    (if v53 = 0 then
    (rcv S (some x0) 13).bind fun b66 =>
    (f_X12_is S b66 (some (lit S 5))).bind fun v66 =>
    (if v66 = 0 then
    (rcv S (some x0) 13).bind fun b79 =>
    (f_X12_is S b79 (some (lit S 6))).bind fun v79 =>
    (if v79 = 0 then
    (rcv S (some x0) 13).bind fun b92 =>
    (f_X12_is S b92 (some (lit S 11))).bind fun v92 =>
    (if v92 = 0 then
    (rcv S (some x0) 13).bind fun b105 =>
    (f_X12_is S b105 (some (lit S 12))).bind fun v105 =>
    (if v105 = 0 then
    (rcv S (some x0) 13).bind fun b118 =>
    (f_X12_is S b118 (some (lit S 13))).bind fun v118 =>
    (if v118 = 0 then
    (rcv S (some x0) 13).bind fun b131 =>
    (f_X12_is S b131 (some (lit S 7))).bind fun v131 =>
    (if v131 = 0 then
    (rcv S (some x0) 13).bind fun b145 =>
    (f_X12_is S b145 (some (lit S 8))).bind fun v145 =>
    (if v145 = 0 then
    (rcv S (some x0) 13).bind fun b159 =>
    (f_X12_is S b159 (some (lit S 9))).bind fun v159 =>
    (if v159 = 0 then
    (rcv S (some x0) 13).bind fun b173 =>
    (f_X12_is S b173 (some (lit S 10))).bind fun v173 =>
    (if v173 = 0 then
    some 1
    else
    some 204)
    else
    some 203)
    else
    some 202)
    else
    some 201)
    else
    some 12)
    else
    some 11)
    else
    some 10)
    else
    some 9)
    else
    some 8)
    else
    some 7)
    else
    some 6)
    else
    some 5)
    else
    some 4)
    else
    some 3)
theorem k_X12_word {l : Launch} {G : Ge} {S : St} {x0 : Nat} {rr : Int32} (hr : f_X12_word S x0 = some rr) : Ct l G yX12_word cX12_word 1 (Option.some Jvm.ClassFile.FieldType.int) S [va_rf (some x0)] (some (.int rr)) S 7 244 := by
  refine ct_of (by decide +kernel) (Nat.le_of_ble_eq_true rfl) ?_
  intro p e s m args below meth c C ls hl
  have hl : lv_has ls 1 [(0, va_rf (some x0))] := hl
  unfold f_X12_word at hr
  refine v_aload_n C (lv_at hl 0 rfl) rfl dX12_word_0 ?_
  refine v_ldcSw C (tx := "sleep") (i := 0) (by decide) dX12_word_1 ?_
  obtain ⟨b4, f4, hr⟩ := ob hr
  obtain ⟨g4, h4⟩ := rcv_n f4
  obtain ⟨v4, e4, hr⟩ := ob hr
  refine v_callV C (b := b4) h4 (by decide) rfl rfl (k_X12_is e4) cw_X12_is w_1672 w_1674 w_65 (show (parseMethodDescriptor (yX12_is).desc).map (fun d => d.parameters.length) = some 1 by decide +kernel) ⟨by decide, by decide⟩ (rest := []) (stk2 := [.int v4]) (by rw [g4]; rfl) rfl (Nat.le_of_ble_eq_true rfl) hl dX12_word_4 ?_
  refine v_if_eq C 12 (by decide) dX12_word_7 (fun c7 => ?_) (fun c7 => ?_)
  · rw [if_pos c7] at hr
    refine v_aload_n C (lv_at hl 0 rfl) rfl dX12_word_12 ?_
    refine v_ldcSw C (tx := "act") (i := 1) (by decide) dX12_word_13 ?_
    obtain ⟨b16, f16, hr⟩ := ob hr
    obtain ⟨g16, h16⟩ := rcv_n f16
    obtain ⟨v16, e16, hr⟩ := ob hr
    refine v_callV C (b := b16) h16 (by decide) rfl rfl (k_X12_is e16) cw_X12_is w_1672 w_1674 w_65 (show (parseMethodDescriptor (yX12_is).desc).map (fun d => d.parameters.length) = some 1 by decide +kernel) ⟨by decide, by decide⟩ (rest := []) (stk2 := [.int v16]) (by rw [g16]; rfl) rfl (Nat.le_of_ble_eq_true rfl) hl dX12_word_16 ?_
    refine v_if_eq C 24 (by decide) dX12_word_19 (fun c19 => ?_) (fun c19 => ?_)
    · rw [if_pos c19] at hr
      refine v_aload_n C (lv_at hl 0 rfl) rfl dX12_word_24 ?_
      refine v_ldcSw C (tx := "letter") (i := 2) (by decide) dX12_word_25 ?_
      obtain ⟨b28, f28, hr⟩ := ob hr
      obtain ⟨g28, h28⟩ := rcv_n f28
      obtain ⟨v28, e28, hr⟩ := ob hr
      refine v_callV C (b := b28) h28 (by decide) rfl rfl (k_X12_is e28) cw_X12_is w_1672 w_1674 w_65 (show (parseMethodDescriptor (yX12_is).desc).map (fun d => d.parameters.length) = some 1 by decide +kernel) ⟨by decide, by decide⟩ (rest := []) (stk2 := [.int v28]) (by rw [g28]; rfl) rfl (Nat.le_of_ble_eq_true rfl) hl dX12_word_28 ?_
      refine v_if_eq C 36 (by decide) dX12_word_31 (fun c31 => ?_) (fun c31 => ?_)
      · rw [if_pos c31] at hr
        refine v_aload_n C (lv_at hl 0 rfl) rfl dX12_word_36 ?_
        refine v_ldcSw C (tx := "fee") (i := 3) (by decide) dX12_word_37 ?_
        obtain ⟨b40, f40, hr⟩ := ob hr
        obtain ⟨g40, h40⟩ := rcv_n f40
        obtain ⟨v40, e40, hr⟩ := ob hr
        refine v_callV C (b := b40) h40 (by decide) rfl rfl (k_X12_is e40) cw_X12_is w_1672 w_1674 w_65 (show (parseMethodDescriptor (yX12_is).desc).map (fun d => d.parameters.length) = some 1 by decide +kernel) ⟨by decide, by decide⟩ (rest := []) (stk2 := [.int v40]) (by rw [g40]; rfl) rfl (Nat.le_of_ble_eq_true rfl) hl dX12_word_40 ?_
        refine v_if_eq C 49 (by decide) dX12_word_43 (fun c43 => ?_) (fun c43 => ?_)
        · rw [if_pos c43] at hr
          refine v_aload_n C (lv_at hl 0 rfl) rfl dX12_word_49 ?_
          refine v_ldcSw C (tx := "interest") (i := 4) (by decide) dX12_word_50 ?_
          obtain ⟨b53, f53, hr⟩ := ob hr
          obtain ⟨g53, h53⟩ := rcv_n f53
          obtain ⟨v53, e53, hr⟩ := ob hr
          refine v_callV C (b := b53) h53 (by decide) rfl rfl (k_X12_is e53) cw_X12_is w_1672 w_1674 w_65 (show (parseMethodDescriptor (yX12_is).desc).map (fun d => d.parameters.length) = some 1 by decide +kernel) ⟨by decide, by decide⟩ (rest := []) (stk2 := [.int v53]) (by rw [g53]; rfl) rfl (Nat.le_of_ble_eq_true rfl) hl dX12_word_53 ?_
          refine v_if_eq C 62 (by decide) dX12_word_56 (fun c56 => ?_) (fun c56 => ?_)
          · rw [if_pos c56] at hr
            refine v_aload_n C (lv_at hl 0 rfl) rfl dX12_word_62 ?_
            refine v_ldcSw C (tx := "proof") (i := 5) (by decide) dX12_word_63 ?_
            obtain ⟨b66, f66, hr⟩ := ob hr
            obtain ⟨g66, h66⟩ := rcv_n f66
            obtain ⟨v66, e66, hr⟩ := ob hr
            refine v_callV C (b := b66) h66 (by decide) rfl rfl (k_X12_is e66) cw_X12_is w_1672 w_1674 w_65 (show (parseMethodDescriptor (yX12_is).desc).map (fun d => d.parameters.length) = some 1 by decide +kernel) ⟨by decide, by decide⟩ (rest := []) (stk2 := [.int v66]) (by rw [g66]; rfl) rfl (Nat.le_of_ble_eq_true rfl) hl dX12_word_66 ?_
            refine v_if_eq C 75 (by decide) dX12_word_69 (fun c69 => ?_) (fun c69 => ?_)
            · rw [if_pos c69] at hr
              refine v_aload_n C (lv_at hl 0 rfl) rfl dX12_word_75 ?_
              refine v_ldcSw C (tx := "when") (i := 6) (by decide) dX12_word_76 ?_
              obtain ⟨b79, f79, hr⟩ := ob hr
              obtain ⟨g79, h79⟩ := rcv_n f79
              obtain ⟨v79, e79, hr⟩ := ob hr
              refine v_callV C (b := b79) h79 (by decide) rfl rfl (k_X12_is e79) cw_X12_is w_1672 w_1674 w_65 (show (parseMethodDescriptor (yX12_is).desc).map (fun d => d.parameters.length) = some 1 by decide +kernel) ⟨by decide, by decide⟩ (rest := []) (stk2 := [.int v79]) (by rw [g79]; rfl) rfl (Nat.le_of_ble_eq_true rfl) hl dX12_word_79 ?_
              refine v_if_eq C 88 (by decide) dX12_word_82 (fun c82 => ?_) (fun c82 => ?_)
              · rw [if_pos c82] at hr
                refine v_aload_n C (lv_at hl 0 rfl) rfl dX12_word_88 ?_
                refine v_ldcSw C (tx := "or") (i := 11) (by decide) dX12_word_89 ?_
                obtain ⟨b92, f92, hr⟩ := ob hr
                obtain ⟨g92, h92⟩ := rcv_n f92
                obtain ⟨v92, e92, hr⟩ := ob hr
                refine v_callV C (b := b92) h92 (by decide) rfl rfl (k_X12_is e92) cw_X12_is w_1672 w_1674 w_65 (show (parseMethodDescriptor (yX12_is).desc).map (fun d => d.parameters.length) = some 1 by decide +kernel) ⟨by decide, by decide⟩ (rest := []) (stk2 := [.int v92]) (by rw [g92]; rfl) rfl (Nat.le_of_ble_eq_true rfl) hl dX12_word_92 ?_
                refine v_if_eq C 101 (by decide) dX12_word_95 (fun c95 => ?_) (fun c95 => ?_)
                · rw [if_pos c95] at hr
                  refine v_aload_n C (lv_at hl 0 rfl) rfl dX12_word_101 ?_
                  refine v_ldcSw C (tx := "and") (i := 12) (by decide) dX12_word_102 ?_
                  obtain ⟨b105, f105, hr⟩ := ob hr
                  obtain ⟨g105, h105⟩ := rcv_n f105
                  obtain ⟨v105, e105, hr⟩ := ob hr
                  refine v_callV C (b := b105) h105 (by decide) rfl rfl (k_X12_is e105) cw_X12_is w_1672 w_1674 w_65 (show (parseMethodDescriptor (yX12_is).desc).map (fun d => d.parameters.length) = some 1 by decide +kernel) ⟨by decide, by decide⟩ (rest := []) (stk2 := [.int v105]) (by rw [g105]; rfl) rfl (Nat.le_of_ble_eq_true rfl) hl dX12_word_105 ?_
                  refine v_if_eq C 114 (by decide) dX12_word_108 (fun c108 => ?_) (fun c108 => ?_)
                  · rw [if_pos c108] at hr
                    refine v_aload_n C (lv_at hl 0 rfl) rfl dX12_word_114 ?_
                    refine v_ldcSw C (tx := "not") (i := 13) (by decide) dX12_word_115 ?_
                    obtain ⟨b118, f118, hr⟩ := ob hr
                    obtain ⟨g118, h118⟩ := rcv_n f118
                    obtain ⟨v118, e118, hr⟩ := ob hr
                    refine v_callV C (b := b118) h118 (by decide) rfl rfl (k_X12_is e118) cw_X12_is w_1672 w_1674 w_65 (show (parseMethodDescriptor (yX12_is).desc).map (fun d => d.parameters.length) = some 1 by decide +kernel) ⟨by decide, by decide⟩ (rest := []) (stk2 := [.int v118]) (by rw [g118]; rfl) rfl (Nat.le_of_ble_eq_true rfl) hl dX12_word_118 ?_
                    refine v_if_eq C 127 (by decide) dX12_word_121 (fun c121 => ?_) (fun c121 => ?_)
                    · rw [if_pos c121] at hr
                      refine v_aload_n C (lv_at hl 0 rfl) rfl dX12_word_127 ?_
                      refine v_ldcSw C (tx := "sum") (i := 7) (by decide) dX12_word_128 ?_
                      obtain ⟨b131, f131, hr⟩ := ob hr
                      obtain ⟨g131, h131⟩ := rcv_n f131
                      obtain ⟨v131, e131, hr⟩ := ob hr
                      refine v_callV C (b := b131) h131 (by decide) rfl rfl (k_X12_is e131) cw_X12_is w_1672 w_1674 w_65 (show (parseMethodDescriptor (yX12_is).desc).map (fun d => d.parameters.length) = some 1 by decide +kernel) ⟨by decide, by decide⟩ (rest := []) (stk2 := [.int v131]) (by rw [g131]; rfl) rfl (Nat.le_of_ble_eq_true rfl) hl dX12_word_131 ?_
                      refine v_if_eq C 141 (by decide) dX12_word_134 (fun c134 => ?_) (fun c134 => ?_)
                      · rw [if_pos c134] at hr
                        refine v_aload_n C (lv_at hl 0 rfl) rfl dX12_word_141 ?_
                        refine v_ldcSw C (tx := "years") (i := 8) (by decide) dX12_word_142 ?_
                        obtain ⟨b145, f145, hr⟩ := ob hr
                        obtain ⟨g145, h145⟩ := rcv_n f145
                        obtain ⟨v145, e145, hr⟩ := ob hr
                        refine v_callV C (b := b145) h145 (by decide) rfl rfl (k_X12_is e145) cw_X12_is w_1672 w_1674 w_65 (show (parseMethodDescriptor (yX12_is).desc).map (fun d => d.parameters.length) = some 1 by decide +kernel) ⟨by decide, by decide⟩ (rest := []) (stk2 := [.int v145]) (by rw [g145]; rfl) rfl (Nat.le_of_ble_eq_true rfl) hl dX12_word_145 ?_
                        refine v_if_eq C 155 (by decide) dX12_word_148 (fun c148 => ?_) (fun c148 => ?_)
                        · rw [if_pos c148] at hr
                          refine v_aload_n C (lv_at hl 0 rfl) rfl dX12_word_155 ?_
                          refine v_ldcSw C (tx := "kind") (i := 9) (by decide) dX12_word_156 ?_
                          obtain ⟨b159, f159, hr⟩ := ob hr
                          obtain ⟨g159, h159⟩ := rcv_n f159
                          obtain ⟨v159, e159, hr⟩ := ob hr
                          refine v_callV C (b := b159) h159 (by decide) rfl rfl (k_X12_is e159) cw_X12_is w_1672 w_1674 w_65 (show (parseMethodDescriptor (yX12_is).desc).map (fun d => d.parameters.length) = some 1 by decide +kernel) ⟨by decide, by decide⟩ (rest := []) (stk2 := [.int v159]) (by rw [g159]; rfl) rfl (Nat.le_of_ble_eq_true rfl) hl dX12_word_159 ?_
                          refine v_if_eq C 169 (by decide) dX12_word_162 (fun c162 => ?_) (fun c162 => ?_)
                          · rw [if_pos c162] at hr
                            refine v_aload_n C (lv_at hl 0 rfl) rfl dX12_word_169 ?_
                            refine v_ldcSw C (tx := "heirs") (i := 10) (by decide) dX12_word_170 ?_
                            obtain ⟨b173, f173, hr⟩ := ob hr
                            obtain ⟨g173, h173⟩ := rcv_n f173
                            obtain ⟨v173, e173, hr⟩ := ob hr
                            refine v_callV C (b := b173) h173 (by decide) rfl rfl (k_X12_is e173) cw_X12_is w_1672 w_1674 w_65 (show (parseMethodDescriptor (yX12_is).desc).map (fun d => d.parameters.length) = some 1 by decide +kernel) ⟨by decide, by decide⟩ (rest := []) (stk2 := [.int v173]) (by rw [g173]; rfl) rfl (Nat.le_of_ble_eq_true rfl) hl dX12_word_173 ?_
                            refine v_if_eq C 185 (by decide) dX12_word_176 (fun c176 => ?_) (fun c176 => ?_)
                            · rw [if_pos c176] at hr
                              refine v_iconst C 1 (by decide) dX12_word_185 ?_
                              obtain rfl := os hr
                              exact v_iret C dX12_word_186
                            · rw [if_neg c176] at hr
                              refine v_sipush C 204 (by decide) dX12_word_179 ?_
                              refine v_goto C 186 (by decide) dX12_word_182 ?_
                              obtain rfl := os hr
                              exact v_iret C dX12_word_186
                          · rw [if_neg c162] at hr
                            refine v_sipush C 203 (by decide) dX12_word_165 ?_
                            obtain rfl := os hr
                            exact v_iret C dX12_word_168
                        · rw [if_neg c148] at hr
                          refine v_sipush C 202 (by decide) dX12_word_151 ?_
                          obtain rfl := os hr
                          exact v_iret C dX12_word_154
                      · rw [if_neg c134] at hr
                        refine v_sipush C 201 (by decide) dX12_word_137 ?_
                        obtain rfl := os hr
                        exact v_iret C dX12_word_140
                    · rw [if_neg c121] at hr
                      refine v_bipush C 12 (by decide) dX12_word_124 ?_
                      obtain rfl := os hr
                      exact v_iret C dX12_word_126
                  · rw [if_neg c108] at hr
                    refine v_bipush C 11 (by decide) dX12_word_111 ?_
                    obtain rfl := os hr
                    exact v_iret C dX12_word_113
                · rw [if_neg c95] at hr
                  refine v_bipush C 10 (by decide) dX12_word_98 ?_
                  obtain rfl := os hr
                  exact v_iret C dX12_word_100
              · rw [if_neg c82] at hr
                refine v_bipush C 9 (by decide) dX12_word_85 ?_
                obtain rfl := os hr
                exact v_iret C dX12_word_87
            · rw [if_neg c69] at hr
              refine v_bipush C 8 (by decide) dX12_word_72 ?_
              obtain rfl := os hr
              exact v_iret C dX12_word_74
          · rw [if_neg c56] at hr
            refine v_bipush C 7 (by decide) dX12_word_59 ?_
            obtain rfl := os hr
            exact v_iret C dX12_word_61
        · rw [if_neg c43] at hr
          refine v_bipush C 6 (by decide) dX12_word_46 ?_
          obtain rfl := os hr
          exact v_iret C dX12_word_48
      · rw [if_neg c31] at hr
        refine v_iconst C 5 (by decide) dX12_word_34 ?_
        obtain rfl := os hr
        exact v_iret C dX12_word_35
    · rw [if_neg c19] at hr
      refine v_iconst C 4 (by decide) dX12_word_22 ?_
      obtain rfl := os hr
      exact v_iret C dX12_word_23
  · rw [if_neg c7] at hr
    refine v_iconst C 3 (by decide) dX12_word_10 ?_
    obtain rfl := os hr
    exact v_iret C dX12_word_11
-- X12_next0
def f_X12_next0_26 (rec : St → Nat → Option (Nat × St)) (S : St) (x0 : Nat) : Option (Nat × St) :=
    (getI S (some x0) 13 45).bind fun v28 =>
    (putI S (some x0) 13 45 (v28 + 1)).bind fun S33 =>
    rec S33 x0
def f_X12_next0_0 : Nat → St → Nat → Option (Nat × St)
  | 0, _, _ => none
  | n + 1, S, x0 =>
    (getI S (some x0) 13 45).bind fun v2 =>
    (rcv S (some x0) 13).bind fun b5 =>
    (f_X12_see S b5 v2).bind fun v5 =>
    (if v5 = 32 then
    f_X12_next0_26 (f_X12_next0_0 n) S x0
    else
    (getI S (some x0) 13 45).bind fun v15 =>
    (rcv S (some x0) 13).bind fun b18 =>
    (f_X12_see S b18 v15).bind fun v18 =>
    (if v18 = 10 then
    f_X12_next0_26 (f_X12_next0_0 n) S x0
    else
    some (x0, S)))
def f_X12_next0_301 (S : St) (t0 : Int32) (t1 : Option Nat) : Option St :=
    (putI S t1 13 46 t0).bind fun S301 =>
    some S301
def f_X12_next0_290 (S : St) (x0 : Nat) (x1 : Int32) (t0 : Int32) : Option St :=
    (if t0 = 0 then
    f_X12_next0_301 S 1 (some x0)
    else
    f_X12_next0_301 S x1 (some x0))
def f_X12_next0_285 (S : St) (x0 : Nat) (x1 : Int32) : Option St :=
    f_X12_next0_290 S x0 x1 1
def f_X12_next0_176 (rec : St → Nat → Option (Nat × St)) (S : St) (x0 : Nat) : Option (Nat × St) :=
    (getI S (some x0) 13 45).bind fun v178 =>
    (putI S (some x0) 13 45 (v178 + 1)).bind fun S183 =>
    rec S183 x0
def f_X12_next0_126 : Nat → St → Nat → Option (Nat × St)
  | 0, _, _ => none
  | n + 1, S, x0 =>
    (getI S (some x0) 13 45).bind fun v128 =>
    (rcv S (some x0) 13).bind fun b131 =>
    (f_X12_see S b131 v128).bind fun v131 =>
    (f_X12_isDigit S v131).bind fun v134 =>
    (if v134 = 0 then
    some (x0, S)
    else
    (getI S (some x0) 13 45).bind fun v141 =>
    (getI S (some x0) 13 47).bind fun v145 =>
    (if (v145 + 5) ≤ v141 then
    f_X12_next0_176 (f_X12_next0_126 n) S x0
    else
    (getI S (some x0) 13 48).bind fun v157 =>
    (getI S (some x0) 13 45).bind fun v163 =>
    (rcv S (some x0) 13).bind fun b166 =>
    (f_X12_see S b166 v163).bind fun v166 =>
    (putI S (some x0) 13 48 (((10 * v157) + v166) - 48)).bind fun S173 =>
    f_X12_next0_176 (f_X12_next0_126 n) S173 x0))
def f_X12_next0_209 (S : St) (t0 : Int32) (t1 : Option Nat) : Option St :=
    (putI S t1 13 46 t0).bind fun S209 =>
    some S209
def f_X12_next0_76 : Nat → St → Nat → Option (St)
  | 0, _, _ => none
  | n + 1, S, x0 =>
    (getI S (some x0) 13 45).bind fun v78 =>
    (rcv S (some x0) 13).bind fun b81 =>
    (f_X12_see S b81 v78).bind fun v81 =>
    (f_X12_isLetter S v81).bind fun v84 =>
    (if v84 = 0 then
    (rcv S (some x0) 13).bind fun b105 =>
    (f_X12_word S b105).bind fun v105 =>
    (putI S (some x0) 13 46 v105).bind fun S108 =>
    some S108
    else
    (getI S (some x0) 13 45).bind fun v92 =>
    (putI S (some x0) 13 45 (v92 + 1)).bind fun S97 =>
    f_X12_next0_76 n S97 x0)
def f_X12_next0 (S : St) (x0 : Nat) : Option St :=
    (f_X12_next0_0 FU S x0).bind fun (x0, S_0) => (getI S_0 (some x0) 13 45).bind fun v41 =>
    (putI S_0 (some x0) 13 47 v41).bind fun S44 =>
    (getI S44 (some x0) 13 45).bind fun v49 =>
    (rcv S44 (some x0) 13).bind fun b52 =>
    (f_X12_see S44 b52 v49).bind fun v52 =>
    (if v52 = (-1) then
    (putI S44 (some x0) 13 46 0).bind fun S63 =>
    some S63
    else
    (f_X12_isLetter S44 v52).bind fun v70 =>
    (if v70 = 0 then
    (f_X12_isDigit S44 v52).bind fun v115 =>
    (if v115 = 0 then
    (getI S44 (some x0) 13 45).bind fun v217 =>
    (putI S44 (some x0) 13 45 (v217 + 1)).bind fun S222 =>
    (if v52 = 59 then
    f_X12_next0_285 S222 x0 v52
    else
    (if v52 = 43 then
    f_X12_next0_285 S222 x0 v52
    else
    (if v52 = 45 then
    f_X12_next0_285 S222 x0 v52
    else
    (if v52 = 42 then
    f_X12_next0_285 S222 x0 v52
    else
    (if v52 = 47 then
    f_X12_next0_285 S222 x0 v52
    else
    (if v52 = 40 then
    f_X12_next0_285 S222 x0 v52
    else
    (if v52 = 41 then
    f_X12_next0_285 S222 x0 v52
    else
    (if v52 = 60 then
    f_X12_next0_285 S222 x0 v52
    else
    (if v52 = 61 then
    f_X12_next0_285 S222 x0 v52
    else
    (if v52 = 62 then
    f_X12_next0_285 S222 x0 v52
    else
    f_X12_next0_290 S222 x0 v52 0))))))))))
    else
    (putI S44 (some x0) 13 48 0).bind fun S123 =>
    (f_X12_next0_126 FU S123 x0).bind fun (x0, S_126) => (getI S_126 (some x0) 13 45).bind fun v191 =>
    (getI S_126 (some x0) 13 47).bind fun v195 =>
    (if (6 : Int32) ≤ (v191 - v195) then
    f_X12_next0_209 S_126 1 (some x0)
    else
    f_X12_next0_209 S_126 2 (some x0)))
    else
    f_X12_next0_76 FU S44 x0))
theorem b_X12_next0_26  {S0 S S' : St} {x0 : Nat} (C : Cx p s m args meth c G S0 yX12_next0 cX12_next0 3 (Option.none : Option Jvm.ClassFile.FieldType)) {o : (Nat × St)} {rec : St → Nat → Option (Nat × St)} (kX39 : ∀ {x0 : Nat} {Z : St}, o = (x0, Z) → ∀ ls : Array Slot, lv_has ls 3 [(0, va_rf (some x0))] → V p l e (rmo 8 264 S0) s m args below meth c G S0 Z (QM below args s G S0 S' none) (F0 m 39 ls [])) (ihk : ∀ {S : St} {x0 : Nat}, rec S x0 = some o → ∀ ls : Array Slot, lv_has ls 3 [(0, va_rf (some x0))] → V p l e (rmo 8 264 S0) s m args below meth c G S0 S (QM below args s G S0 S' none) (F0 m 0 ls [])) (hr : f_X12_next0_26 rec S x0 = some o) : ∀ ls : Array Slot, lv_has ls 3 [(0, va_rf (some x0))] → V p l e (rmo 8 264 S0) s m args below meth c G S0 S (QM below args s G S0 S' none) (F0 m 26 ls []) := by
  intro ls hl
  unfold f_X12_next0_26 at hr
  refine v_aload_n C (lv_at hl 0 rfl) rfl dX12_next0_26 ?_
  refine v_dup C (rf_cat _) dX12_next0_27 ?_
  obtain ⟨v28, e28, hr⟩ := ob hr
  refine v_getI C fl_RX12_262 rfl e28 dX12_next0_28 ?_
  refine v_iconst C 1 (by decide) dX12_next0_31 ?_
  refine v_iadd C dX12_next0_32 ?_
  obtain ⟨S33, e33, hr⟩ := ob hr
  refine v_putI C fl_RX12_262 (Or.inl rfl) rfl e33 dX12_next0_33 ?_
  refine v_goto C 0 (by decide) dX12_next0_36 ?_
  exact ihk hr _ (lv_sub hl [0] rfl)
theorem b_X12_next0_0  {S0 S' : St} (C : Cx p s m args meth c G S0 yX12_next0 cX12_next0 3 (Option.none : Option Jvm.ClassFile.FieldType)) {o : (Nat × St)} (kX39 : ∀ {x0 : Nat} {Z : St}, o = (x0, Z) → ∀ ls : Array Slot, lv_has ls 3 [(0, va_rf (some x0))] → V p l e (rmo 8 264 S0) s m args below meth c G S0 Z (QM below args s G S0 S' none) (F0 m 39 ls [])) : ∀ (n : Nat) {S : St} {x0 : Nat}, f_X12_next0_0 n S x0 = some o → ∀ ls : Array Slot, lv_has ls 3 [(0, va_rf (some x0))] → V p l e (rmo 8 264 S0) s m args below meth c G S0 S (QM below args s G S0 S' none) (F0 m 0 ls []) := by
  intro n
  induction n with
  | zero => intro S x0 hr; cases hr
  | succ n ih =>
    intro S x0 hr ls hl
    unfold f_X12_next0_0 at hr
    refine v_aload_n C (lv_at hl 0 rfl) rfl dX12_next0_0 ?_
    refine v_aload_n C (lv_at hl 0 rfl) rfl dX12_next0_1 ?_
    obtain ⟨v2, e2, hr⟩ := ob hr
    refine v_getI C fl_RX12_262 rfl e2 dX12_next0_2 ?_
    obtain ⟨b5, f5, hr⟩ := ob hr
    obtain ⟨g5, h5⟩ := rcv_n f5
    obtain ⟨v5, e5, hr⟩ := ob hr
    refine v_callV C (b := b5) h5 (by decide) rfl rfl (k_X12_see e5) cw_X12_see w_1660 w_1662 w_63 (show (parseMethodDescriptor (yX12_see).desc).map (fun d => d.parameters.length) = some 1 by decide +kernel) ⟨by decide, by decide⟩ (rest := []) (stk2 := [.int v5]) (by rw [g5]; rfl) rfl (Nat.le_of_ble_eq_true rfl) hl dX12_next0_5 ?_
    refine v_bipush C 32 (by decide) dX12_next0_8 ?_
    refine v_icmp_eq C 26 (by decide) dX12_next0_10 (fun c10 => ?_) (fun c10 => ?_)
    · rw [if_pos c10] at hr
      exact b_X12_next0_26 C (@kX39) (@ih) hr _ (lv_sub hl [0] rfl)
    · rw [if_neg c10] at hr
      refine v_aload_n C (lv_at hl 0 rfl) rfl dX12_next0_13 ?_
      refine v_aload_n C (lv_at hl 0 rfl) rfl dX12_next0_14 ?_
      obtain ⟨v15, e15, hr⟩ := ob hr
      refine v_getI C fl_RX12_262 rfl e15 dX12_next0_15 ?_
      obtain ⟨b18, f18, hr⟩ := ob hr
      obtain ⟨g18, h18⟩ := rcv_n f18
      obtain ⟨v18, e18, hr⟩ := ob hr
      refine v_callV C (b := b18) h18 (by decide) rfl rfl (k_X12_see e18) cw_X12_see w_1660 w_1662 w_63 (show (parseMethodDescriptor (yX12_see).desc).map (fun d => d.parameters.length) = some 1 by decide +kernel) ⟨by decide, by decide⟩ (rest := []) (stk2 := [.int v18]) (by rw [g18]; rfl) rfl (Nat.le_of_ble_eq_true rfl) hl dX12_next0_18 ?_
      refine v_bipush C 10 (by decide) dX12_next0_21 ?_
      refine v_icmp_ne C 39 (by decide) dX12_next0_23 (fun c23 => ?_) (fun c23 => ?_)
      · rw [if_neg c23] at hr
        obtain rfl := os hr
        exact kX39 rfl _ (lv_sub hl [0] rfl)
      · rw [if_pos c23] at hr
        exact b_X12_next0_26 C (@kX39) (@ih) hr _ (lv_sub hl [0] rfl)
theorem b_X12_next0_301  {S0 S S' : St} {t0 : Int32} {t1 : Option Nat} (C : Cx p s m args meth c G S0 yX12_next0 cX12_next0 3 (Option.none : Option Jvm.ClassFile.FieldType)) (hr : f_X12_next0_301 S t0 t1 = some S') : ∀ ls : Array Slot, lv_has ls 3 [] → V p l e (rmo 8 264 S0) s m args below meth c G S0 S (QM below args s G S0 S' none) (F0 m 301 ls [.int t0, va_rf t1]) := by
  intro ls hl
  unfold f_X12_next0_301 at hr
  obtain ⟨S301, e301, hr⟩ := ob hr
  refine v_putI C fl_RX12_311 (Or.inl rfl) rfl e301 dX12_next0_301 ?_
  obtain rfl := os hr
  exact v_vret C dX12_next0_304
theorem b_X12_next0_290  {S0 S S' : St} {x0 : Nat} {x1 : Int32} {t0 : Int32} (C : Cx p s m args meth c G S0 yX12_next0 cX12_next0 3 (Option.none : Option Jvm.ClassFile.FieldType)) (hr : f_X12_next0_290 S x0 x1 t0 = some S') : ∀ ls : Array Slot, lv_has ls 3 [(0, va_rf (some x0)), (1, .int x1)] → V p l e (rmo 8 264 S0) s m args below meth c G S0 S (QM below args s G S0 S' none) (F0 m 290 ls [.int t0]) := by
  intro ls hl
  unfold f_X12_next0_290 at hr
  refine v_istore_n C (i := 2) (lv' := [(2, .int t0), (0, va_rf (some x0)), (1, .int x1)]) hl rfl (by decide) rfl dX12_next0_290 (fun ls hl => ?_)
  refine v_aload_n C (lv_at hl 1 rfl) rfl dX12_next0_291 ?_
  refine v_iload_n C (lv_at hl 0 rfl) rfl dX12_next0_292 ?_
  refine v_if_eq C 300 (by decide) dX12_next0_293 (fun c293 => ?_) (fun c293 => ?_)
  · rw [if_pos c293] at hr
    refine v_iconst C 1 (by decide) dX12_next0_300 ?_
    exact b_X12_next0_301 C hr _ (lv_sub hl [] rfl)
  · rw [if_neg c293] at hr
    refine v_iload_n C (lv_at hl 2 rfl) rfl dX12_next0_296 ?_
    refine v_goto C 301 (by decide) dX12_next0_297 ?_
    exact b_X12_next0_301 C hr _ (lv_sub hl [] rfl)
theorem b_X12_next0_285  {S0 S S' : St} {x0 : Nat} {x1 : Int32} (C : Cx p s m args meth c G S0 yX12_next0 cX12_next0 3 (Option.none : Option Jvm.ClassFile.FieldType)) (hr : f_X12_next0_285 S x0 x1 = some S') : ∀ ls : Array Slot, lv_has ls 3 [(0, va_rf (some x0)), (1, .int x1)] → V p l e (rmo 8 264 S0) s m args below meth c G S0 S (QM below args s G S0 S' none) (F0 m 285 ls []) := by
  intro ls hl
  unfold f_X12_next0_285 at hr
  refine v_iconst C 1 (by decide) dX12_next0_285 ?_
  refine v_goto C 290 (by decide) dX12_next0_286 ?_
  exact b_X12_next0_290 C hr _ (lv_sub hl [0, 1] rfl)
theorem b_X12_next0_176  {S0 S S' : St} {x0 : Nat} (C : Cx p s m args meth c G S0 yX12_next0 cX12_next0 3 (Option.none : Option Jvm.ClassFile.FieldType)) {o : (Nat × St)} {rec : St → Nat → Option (Nat × St)} (kX189 : ∀ {x0 : Nat} {Z : St}, o = (x0, Z) → ∀ ls : Array Slot, lv_has ls 3 [(0, va_rf (some x0))] → V p l e (rmo 8 264 S0) s m args below meth c G S0 Z (QM below args s G S0 S' none) (F0 m 189 ls [])) (ihk : ∀ {S : St} {x0 : Nat}, rec S x0 = some o → ∀ ls : Array Slot, lv_has ls 3 [(0, va_rf (some x0))] → V p l e (rmo 8 264 S0) s m args below meth c G S0 S (QM below args s G S0 S' none) (F0 m 126 ls [])) (hr : f_X12_next0_176 rec S x0 = some o) : ∀ ls : Array Slot, lv_has ls 3 [(0, va_rf (some x0))] → V p l e (rmo 8 264 S0) s m args below meth c G S0 S (QM below args s G S0 S' none) (F0 m 176 ls []) := by
  intro ls hl
  unfold f_X12_next0_176 at hr
  refine v_aload_n C (lv_at hl 0 rfl) rfl dX12_next0_176 ?_
  refine v_dup C (rf_cat _) dX12_next0_177 ?_
  obtain ⟨v178, e178, hr⟩ := ob hr
  refine v_getI C fl_RX12_262 rfl e178 dX12_next0_178 ?_
  refine v_iconst C 1 (by decide) dX12_next0_181 ?_
  refine v_iadd C dX12_next0_182 ?_
  obtain ⟨S183, e183, hr⟩ := ob hr
  refine v_putI C fl_RX12_262 (Or.inl rfl) rfl e183 dX12_next0_183 ?_
  refine v_goto C 126 (by decide) dX12_next0_186 ?_
  exact ihk hr _ (lv_sub hl [0] rfl)
theorem b_X12_next0_126  {S0 S' : St} (C : Cx p s m args meth c G S0 yX12_next0 cX12_next0 3 (Option.none : Option Jvm.ClassFile.FieldType)) {o : (Nat × St)} (kX189 : ∀ {x0 : Nat} {Z : St}, o = (x0, Z) → ∀ ls : Array Slot, lv_has ls 3 [(0, va_rf (some x0))] → V p l e (rmo 8 264 S0) s m args below meth c G S0 Z (QM below args s G S0 S' none) (F0 m 189 ls [])) : ∀ (n : Nat) {S : St} {x0 : Nat}, f_X12_next0_126 n S x0 = some o → ∀ ls : Array Slot, lv_has ls 3 [(0, va_rf (some x0))] → V p l e (rmo 8 264 S0) s m args below meth c G S0 S (QM below args s G S0 S' none) (F0 m 126 ls []) := by
  intro n
  induction n with
  | zero => intro S x0 hr; cases hr
  | succ n ih =>
    intro S x0 hr ls hl
    unfold f_X12_next0_126 at hr
    refine v_aload_n C (lv_at hl 0 rfl) rfl dX12_next0_126 ?_
    refine v_aload_n C (lv_at hl 0 rfl) rfl dX12_next0_127 ?_
    obtain ⟨v128, e128, hr⟩ := ob hr
    refine v_getI C fl_RX12_262 rfl e128 dX12_next0_128 ?_
    obtain ⟨b131, f131, hr⟩ := ob hr
    obtain ⟨g131, h131⟩ := rcv_n f131
    obtain ⟨v131, e131, hr⟩ := ob hr
    refine v_callV C (b := b131) h131 (by decide) rfl rfl (k_X12_see e131) cw_X12_see w_1660 w_1662 w_63 (show (parseMethodDescriptor (yX12_see).desc).map (fun d => d.parameters.length) = some 1 by decide +kernel) ⟨by decide, by decide⟩ (rest := []) (stk2 := [.int v131]) (by rw [g131]; rfl) rfl (Nat.le_of_ble_eq_true rfl) hl dX12_next0_131 ?_
    obtain ⟨v134, e134, hr⟩ := ob hr
    refine v_callS C (k_X12_isDigit e134) cw_X12_isDigit w_1691 w_1692 (show (parseMethodDescriptor (yX12_isDigit).desc).map (fun d => d.parameters.length) = some 1 by decide +kernel) ⟨by decide, by decide⟩ (rest := []) (stk2 := [.int v134]) rfl rfl (Nat.le_of_ble_eq_true rfl) hl dX12_next0_134 ?_
    refine v_if_eq C 189 (by decide) dX12_next0_137 (fun c137 => ?_) (fun c137 => ?_)
    · rw [if_pos c137] at hr
      obtain rfl := os hr
      exact kX189 rfl _ (lv_sub hl [0] rfl)
    · rw [if_neg c137] at hr
      refine v_aload_n C (lv_at hl 0 rfl) rfl dX12_next0_140 ?_
      obtain ⟨v141, e141, hr⟩ := ob hr
      refine v_getI C fl_RX12_262 rfl e141 dX12_next0_141 ?_
      refine v_aload_n C (lv_at hl 0 rfl) rfl dX12_next0_144 ?_
      obtain ⟨v145, e145, hr⟩ := ob hr
      refine v_getI C fl_RX12_265 rfl e145 dX12_next0_145 ?_
      refine v_iconst C 5 (by decide) dX12_next0_148 ?_
      refine v_iadd C dX12_next0_149 ?_
      refine v_icmp_ge C 176 (by decide) dX12_next0_150 (fun c150 => ?_) (fun c150 => ?_)
      · rw [if_pos c150] at hr
        exact b_X12_next0_176 C (@kX189) (@ih) hr _ (lv_sub hl [0] rfl)
      · rw [if_neg c150] at hr
        refine v_aload_n C (lv_at hl 0 rfl) rfl dX12_next0_153 ?_
        refine v_bipush C 10 (by decide) dX12_next0_154 ?_
        refine v_aload_n C (lv_at hl 0 rfl) rfl dX12_next0_156 ?_
        obtain ⟨v157, e157, hr⟩ := ob hr
        refine v_getI C fl_RX12_323 rfl e157 dX12_next0_157 ?_
        refine v_imul C dX12_next0_160 ?_
        refine v_aload_n C (lv_at hl 0 rfl) rfl dX12_next0_161 ?_
        refine v_aload_n C (lv_at hl 0 rfl) rfl dX12_next0_162 ?_
        obtain ⟨v163, e163, hr⟩ := ob hr
        refine v_getI C fl_RX12_262 rfl e163 dX12_next0_163 ?_
        obtain ⟨b166, f166, hr⟩ := ob hr
        obtain ⟨g166, h166⟩ := rcv_n f166
        obtain ⟨v166, e166, hr⟩ := ob hr
        refine v_callV C (b := b166) h166 (by decide) rfl rfl (k_X12_see e166) cw_X12_see w_1660 w_1662 w_63 (show (parseMethodDescriptor (yX12_see).desc).map (fun d => d.parameters.length) = some 1 by decide +kernel) ⟨by decide, by decide⟩ (rest := [.int (10 * v157), va_rf (some x0)]) (stk2 := [.int v166, .int (10 * v157), va_rf (some x0)]) (by rw [g166]; rfl) rfl (by simp [rf_cat, cat_i, cat_l]) hl dX12_next0_166 ?_
        refine v_iadd C dX12_next0_169 ?_
        refine v_bipush C 48 (by decide) dX12_next0_170 ?_
        refine v_isub C dX12_next0_172 ?_
        obtain ⟨S173, e173, hr⟩ := ob hr
        refine v_putI C fl_RX12_323 (Or.inl rfl) rfl e173 dX12_next0_173 ?_
        exact b_X12_next0_176 C (@kX189) (@ih) hr _ (lv_sub hl [0] rfl)
theorem b_X12_next0_209  {S0 S S' : St} {t0 : Int32} {t1 : Option Nat} (C : Cx p s m args meth c G S0 yX12_next0 cX12_next0 3 (Option.none : Option Jvm.ClassFile.FieldType)) (hr : f_X12_next0_209 S t0 t1 = some S') : ∀ ls : Array Slot, lv_has ls 3 [] → V p l e (rmo 8 264 S0) s m args below meth c G S0 S (QM below args s G S0 S' none) (F0 m 209 ls [.int t0, va_rf t1]) := by
  intro ls hl
  unfold f_X12_next0_209 at hr
  obtain ⟨S209, e209, hr⟩ := ob hr
  refine v_putI C fl_RX12_311 (Or.inl rfl) rfl e209 dX12_next0_209 ?_
  refine v_goto C 304 (by decide) dX12_next0_212 ?_
  obtain rfl := os hr
  exact v_vret C dX12_next0_304
theorem b_X12_next0_76  {S0 S' : St} (C : Cx p s m args meth c G S0 yX12_next0 cX12_next0 3 (Option.none : Option Jvm.ClassFile.FieldType)) {o : (St)} (kR : ∀ (Z : St), o = Z → S' = Z) : ∀ (n : Nat) {S : St} {x0 : Nat}, f_X12_next0_76 n S x0 = some o → ∀ ls : Array Slot, lv_has ls 3 [(0, va_rf (some x0))] → V p l e (rmo 8 264 S0) s m args below meth c G S0 S (QM below args s G S0 S' none) (F0 m 76 ls []) := by
  intro n
  induction n with
  | zero => intro S x0 hr; cases hr
  | succ n ih =>
    intro S x0 hr ls hl
    unfold f_X12_next0_76 at hr
    refine v_aload_n C (lv_at hl 0 rfl) rfl dX12_next0_76 ?_
    refine v_aload_n C (lv_at hl 0 rfl) rfl dX12_next0_77 ?_
    obtain ⟨v78, e78, hr⟩ := ob hr
    refine v_getI C fl_RX12_262 rfl e78 dX12_next0_78 ?_
    obtain ⟨b81, f81, hr⟩ := ob hr
    obtain ⟨g81, h81⟩ := rcv_n f81
    obtain ⟨v81, e81, hr⟩ := ob hr
    refine v_callV C (b := b81) h81 (by decide) rfl rfl (k_X12_see e81) cw_X12_see w_1660 w_1662 w_63 (show (parseMethodDescriptor (yX12_see).desc).map (fun d => d.parameters.length) = some 1 by decide +kernel) ⟨by decide, by decide⟩ (rest := []) (stk2 := [.int v81]) (by rw [g81]; rfl) rfl (Nat.le_of_ble_eq_true rfl) hl dX12_next0_81 ?_
    obtain ⟨v84, e84, hr⟩ := ob hr
    refine v_callS C (k_X12_isLetter e84) cw_X12_isLetter w_1664 w_1665 (show (parseMethodDescriptor (yX12_isLetter).desc).map (fun d => d.parameters.length) = some 1 by decide +kernel) ⟨by decide, by decide⟩ (rest := []) (stk2 := [.int v84]) rfl rfl (Nat.le_of_ble_eq_true rfl) hl dX12_next0_84 ?_
    refine v_if_eq C 103 (by decide) dX12_next0_87 (fun c87 => ?_) (fun c87 => ?_)
    · rw [if_pos c87] at hr
      refine v_aload_n C (lv_at hl 0 rfl) rfl dX12_next0_103 ?_
      refine v_aload_n C (lv_at hl 0 rfl) rfl dX12_next0_104 ?_
      obtain ⟨b105, f105, hr⟩ := ob hr
      obtain ⟨g105, h105⟩ := rcv_n f105
      obtain ⟨v105, e105, hr⟩ := ob hr
      refine v_callV C (b := b105) h105 (by decide) rfl rfl (k_X12_word e105) cw_X12_word w_1667 w_1669 w_64 (show (parseMethodDescriptor (yX12_word).desc).map (fun d => d.parameters.length) = some 0 by decide +kernel) ⟨by decide, by decide⟩ (rest := [va_rf (some x0)]) (stk2 := [.int v105, va_rf (some x0)]) (by rw [g105]; rfl) rfl (by simp [rf_cat, cat_i, cat_l]) hl dX12_next0_105 ?_
      obtain ⟨S108, e108, hr⟩ := ob hr
      refine v_putI C fl_RX12_311 (Or.inl rfl) rfl e108 dX12_next0_108 ?_
      refine v_goto C 304 (by decide) dX12_next0_111 ?_
      obtain rfl := os hr
      obtain rfl := kR _ rfl
      exact v_vret C dX12_next0_304
    · rw [if_neg c87] at hr
      refine v_aload_n C (lv_at hl 0 rfl) rfl dX12_next0_90 ?_
      refine v_dup C (rf_cat _) dX12_next0_91 ?_
      obtain ⟨v92, e92, hr⟩ := ob hr
      refine v_getI C fl_RX12_262 rfl e92 dX12_next0_92 ?_
      refine v_iconst C 1 (by decide) dX12_next0_95 ?_
      refine v_iadd C dX12_next0_96 ?_
      obtain ⟨S97, e97, hr⟩ := ob hr
      refine v_putI C fl_RX12_262 (Or.inl rfl) rfl e97 dX12_next0_97 ?_
      refine v_goto C 76 (by decide) dX12_next0_100 ?_
      exact ih hr _ (lv_sub hl [0] rfl)
theorem k_X12_next0 {l : Launch} {G : Ge} {S S' : St} {x0 : Nat} (hr : f_X12_next0 S x0 = some S') : Ct l G yX12_next0 cX12_next0 3 (Option.none : Option Jvm.ClassFile.FieldType) S [va_rf (some x0)] none S' 8 264 := by
  refine ct_of (by decide +kernel) (Nat.le_of_ble_eq_true rfl) ?_
  intro p e s m args below meth c C ls hl
  have hl : lv_has ls 3 [(0, va_rf (some x0))] := hl
  unfold f_X12_next0 at hr
  obtain ⟨o0, e0, hr⟩ := ob hr
  refine b_X12_next0_0 C ?_ FU e0 _ (lv_sub hl [0] rfl)
  · intro x0 S_0 q ls hl
    subst q
    (try dsimp only at hr)
    refine v_aload_n C (lv_at hl 0 rfl) rfl dX12_next0_39 ?_
    refine v_aload_n C (lv_at hl 0 rfl) rfl dX12_next0_40 ?_
    obtain ⟨v41, e41, hr⟩ := ob hr
    refine v_getI C fl_RX12_262 rfl e41 dX12_next0_41 ?_
    obtain ⟨S44, e44, hr⟩ := ob hr
    refine v_putI C fl_RX12_265 (Or.inl rfl) rfl e44 dX12_next0_44 ?_
    refine v_aload_n C (lv_at hl 0 rfl) rfl dX12_next0_47 ?_
    refine v_aload_n C (lv_at hl 0 rfl) rfl dX12_next0_48 ?_
    obtain ⟨v49, e49, hr⟩ := ob hr
    refine v_getI C fl_RX12_262 rfl e49 dX12_next0_49 ?_
    obtain ⟨b52, f52, hr⟩ := ob hr
    obtain ⟨g52, h52⟩ := rcv_n f52
    obtain ⟨v52, e52, hr⟩ := ob hr
    refine v_callV C (b := b52) h52 (by decide) rfl rfl (k_X12_see e52) cw_X12_see w_1660 w_1662 w_63 (show (parseMethodDescriptor (yX12_see).desc).map (fun d => d.parameters.length) = some 1 by decide +kernel) ⟨by decide, by decide⟩ (rest := []) (stk2 := [.int v52]) (by rw [g52]; rfl) rfl (Nat.le_of_ble_eq_true rfl) hl dX12_next0_52 ?_
    refine v_istore_n C (i := 1) (lv' := [(1, .int v52), (0, va_rf (some x0))]) hl rfl (by decide) rfl dX12_next0_55 (fun ls hl => ?_)
    refine v_iload_n C (lv_at hl 0 rfl) rfl dX12_next0_56 ?_
    refine v_iconst C (-1) (by decide) dX12_next0_57 ?_
    refine v_icmp_ne C 69 (by decide) dX12_next0_58 (fun c58 => ?_) (fun c58 => ?_)
    · rw [if_neg c58] at hr
      refine v_iload_n C (lv_at hl 0 rfl) rfl dX12_next0_69 ?_
      obtain ⟨v70, e70, hr⟩ := ob hr
      refine v_callS C (k_X12_isLetter e70) cw_X12_isLetter w_1664 w_1665 (show (parseMethodDescriptor (yX12_isLetter).desc).map (fun d => d.parameters.length) = some 1 by decide +kernel) ⟨by decide, by decide⟩ (rest := []) (stk2 := [.int v70]) rfl rfl (Nat.le_of_ble_eq_true rfl) hl dX12_next0_70 ?_
      refine v_if_eq C 114 (by decide) dX12_next0_73 (fun c73 => ?_) (fun c73 => ?_)
      · rw [if_pos c73] at hr
        refine v_iload_n C (lv_at hl 0 rfl) rfl dX12_next0_114 ?_
        obtain ⟨v115, e115, hr⟩ := ob hr
        refine v_callS C (k_X12_isDigit e115) cw_X12_isDigit w_1691 w_1692 (show (parseMethodDescriptor (yX12_isDigit).desc).map (fun d => d.parameters.length) = some 1 by decide +kernel) ⟨by decide, by decide⟩ (rest := []) (stk2 := [.int v115]) rfl rfl (Nat.le_of_ble_eq_true rfl) hl dX12_next0_115 ?_
        refine v_if_eq C 215 (by decide) dX12_next0_118 (fun c118 => ?_) (fun c118 => ?_)
        · rw [if_pos c118] at hr
          refine v_aload_n C (lv_at hl 1 rfl) rfl dX12_next0_215 ?_
          refine v_dup C (rf_cat _) dX12_next0_216 ?_
          obtain ⟨v217, e217, hr⟩ := ob hr
          refine v_getI C fl_RX12_262 rfl e217 dX12_next0_217 ?_
          refine v_iconst C 1 (by decide) dX12_next0_220 ?_
          refine v_iadd C dX12_next0_221 ?_
          obtain ⟨S222, e222, hr⟩ := ob hr
          refine v_putI C fl_RX12_262 (Or.inl rfl) rfl e222 dX12_next0_222 ?_
          refine v_iload_n C (lv_at hl 0 rfl) rfl dX12_next0_225 ?_
          refine v_bipush C 59 (by decide) dX12_next0_226 ?_
          refine v_icmp_eq C 285 (by decide) dX12_next0_228 (fun c228 => ?_) (fun c228 => ?_)
          · rw [if_pos c228] at hr
            exact b_X12_next0_285 C hr _ (lv_sub hl [1, 0] rfl)
          · rw [if_neg c228] at hr
            refine v_iload_n C (lv_at hl 0 rfl) rfl dX12_next0_231 ?_
            refine v_bipush C 43 (by decide) dX12_next0_232 ?_
            refine v_icmp_eq C 285 (by decide) dX12_next0_234 (fun c234 => ?_) (fun c234 => ?_)
            · rw [if_pos c234] at hr
              exact b_X12_next0_285 C hr _ (lv_sub hl [1, 0] rfl)
            · rw [if_neg c234] at hr
              refine v_iload_n C (lv_at hl 0 rfl) rfl dX12_next0_237 ?_
              refine v_bipush C 45 (by decide) dX12_next0_238 ?_
              refine v_icmp_eq C 285 (by decide) dX12_next0_240 (fun c240 => ?_) (fun c240 => ?_)
              · rw [if_pos c240] at hr
                exact b_X12_next0_285 C hr _ (lv_sub hl [1, 0] rfl)
              · rw [if_neg c240] at hr
                refine v_iload_n C (lv_at hl 0 rfl) rfl dX12_next0_243 ?_
                refine v_bipush C 42 (by decide) dX12_next0_244 ?_
                refine v_icmp_eq C 285 (by decide) dX12_next0_246 (fun c246 => ?_) (fun c246 => ?_)
                · rw [if_pos c246] at hr
                  exact b_X12_next0_285 C hr _ (lv_sub hl [1, 0] rfl)
                · rw [if_neg c246] at hr
                  refine v_iload_n C (lv_at hl 0 rfl) rfl dX12_next0_249 ?_
                  refine v_bipush C 47 (by decide) dX12_next0_250 ?_
                  refine v_icmp_eq C 285 (by decide) dX12_next0_252 (fun c252 => ?_) (fun c252 => ?_)
                  · rw [if_pos c252] at hr
                    exact b_X12_next0_285 C hr _ (lv_sub hl [1, 0] rfl)
                  · rw [if_neg c252] at hr
                    refine v_iload_n C (lv_at hl 0 rfl) rfl dX12_next0_255 ?_
                    refine v_bipush C 40 (by decide) dX12_next0_256 ?_
                    refine v_icmp_eq C 285 (by decide) dX12_next0_258 (fun c258 => ?_) (fun c258 => ?_)
                    · rw [if_pos c258] at hr
                      exact b_X12_next0_285 C hr _ (lv_sub hl [1, 0] rfl)
                    · rw [if_neg c258] at hr
                      refine v_iload_n C (lv_at hl 0 rfl) rfl dX12_next0_261 ?_
                      refine v_bipush C 41 (by decide) dX12_next0_262 ?_
                      refine v_icmp_eq C 285 (by decide) dX12_next0_264 (fun c264 => ?_) (fun c264 => ?_)
                      · rw [if_pos c264] at hr
                        exact b_X12_next0_285 C hr _ (lv_sub hl [1, 0] rfl)
                      · rw [if_neg c264] at hr
                        refine v_iload_n C (lv_at hl 0 rfl) rfl dX12_next0_267 ?_
                        refine v_bipush C 60 (by decide) dX12_next0_268 ?_
                        refine v_icmp_eq C 285 (by decide) dX12_next0_270 (fun c270 => ?_) (fun c270 => ?_)
                        · rw [if_pos c270] at hr
                          exact b_X12_next0_285 C hr _ (lv_sub hl [1, 0] rfl)
                        · rw [if_neg c270] at hr
                          refine v_iload_n C (lv_at hl 0 rfl) rfl dX12_next0_273 ?_
                          refine v_bipush C 61 (by decide) dX12_next0_274 ?_
                          refine v_icmp_eq C 285 (by decide) dX12_next0_276 (fun c276 => ?_) (fun c276 => ?_)
                          · rw [if_pos c276] at hr
                            exact b_X12_next0_285 C hr _ (lv_sub hl [1, 0] rfl)
                          · rw [if_neg c276] at hr
                            refine v_iload_n C (lv_at hl 0 rfl) rfl dX12_next0_279 ?_
                            refine v_bipush C 62 (by decide) dX12_next0_280 ?_
                            refine v_icmp_ne C 289 (by decide) dX12_next0_282 (fun c282 => ?_) (fun c282 => ?_)
                            · rw [if_neg c282] at hr
                              refine v_iconst C 0 (by decide) dX12_next0_289 ?_
                              exact b_X12_next0_290 C hr _ (lv_sub hl [1, 0] rfl)
                            · rw [if_pos c282] at hr
                              exact b_X12_next0_285 C hr _ (lv_sub hl [1, 0] rfl)
        · rw [if_neg c118] at hr
          refine v_aload_n C (lv_at hl 1 rfl) rfl dX12_next0_121 ?_
          refine v_iconst C 0 (by decide) dX12_next0_122 ?_
          obtain ⟨S123, e123, hr⟩ := ob hr
          refine v_putI C fl_RX12_323 (Or.inl rfl) rfl e123 dX12_next0_123 ?_
          obtain ⟨o126, e126, hr⟩ := ob hr
          refine b_X12_next0_126 C ?_ FU e126 _ (lv_sub hl [1] rfl)
          · intro x0 S_126 q ls hl
            subst q
            (try dsimp only at hr)
            refine v_aload_n C (lv_at hl 0 rfl) rfl dX12_next0_189 ?_
            refine v_aload_n C (lv_at hl 0 rfl) rfl dX12_next0_190 ?_
            obtain ⟨v191, e191, hr⟩ := ob hr
            refine v_getI C fl_RX12_262 rfl e191 dX12_next0_191 ?_
            refine v_aload_n C (lv_at hl 0 rfl) rfl dX12_next0_194 ?_
            obtain ⟨v195, e195, hr⟩ := ob hr
            refine v_getI C fl_RX12_265 rfl e195 dX12_next0_195 ?_
            refine v_isub C dX12_next0_198 ?_
            refine v_bipush C 6 (by decide) dX12_next0_199 ?_
            refine v_icmp_ge C 208 (by decide) dX12_next0_201 (fun c201 => ?_) (fun c201 => ?_)
            · rw [if_pos c201] at hr
              refine v_iconst C 1 (by decide) dX12_next0_208 ?_
              exact b_X12_next0_209 C hr _ (lv_sub hl [] rfl)
            · rw [if_neg c201] at hr
              refine v_iconst C 2 (by decide) dX12_next0_204 ?_
              refine v_goto C 209 (by decide) dX12_next0_205 ?_
              exact b_X12_next0_209 C hr _ (lv_sub hl [] rfl)
      · rw [if_neg c73] at hr
        exact b_X12_next0_76 C (fun _ q => by cases q; rfl) FU hr _ (lv_sub hl [1] rfl)
    · rw [if_pos c58] at hr
      refine v_aload_n C (lv_at hl 1 rfl) rfl dX12_next0_61 ?_
      refine v_iconst C 0 (by decide) dX12_next0_62 ?_
      obtain ⟨S63, e63, hr⟩ := ob hr
      refine v_putI C fl_RX12_311 (Or.inl rfl) rfl e63 dX12_next0_63 ?_
      refine v_goto C 304 (by decide) dX12_next0_66 ?_
      obtain rfl := os hr
      exact v_vret C dX12_next0_304
-- X12_opens
def f_X12_opens (S : St) (x0 : Nat) : Option (Int32 × St) :=
    (getI S (some x0) 13 52).bind fun v1 =>
    (if v1 = 8 then
    (rcv S (some x0) 13).bind fun b11 =>
    (f_X12_bad S b11 3).bind fun (v11, S11) =>
    (zchk v11).bind fun z14 =>
    some (z14, S11)
    else
    (getI S (some x0) 13 52).bind fun v17 =>
    (putI S (some x0) 13 52 (v17 + 1)).bind fun S22 =>
    (rcv S22 (some x0) 13).bind fun b26 =>
    (f_X12_next0 S22 b26).bind fun S26 =>
    some (1, S26))
theorem k_X12_opens {l : Launch} {G : Ge} {S S' : St} {x0 : Nat} {rr : Int32} (hr : f_X12_opens S x0 = some (rr, S')) : Ct l G yX12_opens cX12_opens 1 (Option.some Jvm.ClassFile.FieldType.boolean) S [va_rf (some x0)] (some (.int rr)) S' 9 286 := by
  refine ct_of (by decide +kernel) (Nat.le_of_ble_eq_true rfl) ?_
  intro p e s m args below meth c C ls hl
  have hl : lv_has ls 1 [(0, va_rf (some x0))] := hl
  unfold f_X12_opens at hr
  refine v_aload_n C (lv_at hl 0 rfl) rfl dX12_opens_0 ?_
  obtain ⟨v1, e1, hr⟩ := ob hr
  refine v_getI C fl_RX12_344 rfl e1 dX12_opens_1 ?_
  refine v_bipush C 8 (by decide) dX12_opens_4 ?_
  refine v_icmp_ne C 15 (by decide) dX12_opens_6 (fun c6 => ?_) (fun c6 => ?_)
  · rw [if_neg c6] at hr
    refine v_aload_n C (lv_at hl 0 rfl) rfl dX12_opens_15 ?_
    refine v_dup C (rf_cat _) dX12_opens_16 ?_
    obtain ⟨v17, e17, hr⟩ := ob hr
    refine v_getI C fl_RX12_344 rfl e17 dX12_opens_17 ?_
    refine v_iconst C 1 (by decide) dX12_opens_20 ?_
    refine v_iadd C dX12_opens_21 ?_
    obtain ⟨S22, e22, hr⟩ := ob hr
    refine v_putI C fl_RX12_344 (Or.inl rfl) rfl e22 dX12_opens_22 ?_
    refine v_aload_n C (lv_at hl 0 rfl) rfl dX12_opens_25 ?_
    obtain ⟨b26, f26, hr⟩ := ob hr
    obtain ⟨g26, h26⟩ := rcv_n f26
    obtain ⟨S26, e26, hr⟩ := ob hr
    refine v_callV C (b := b26) h26 (by decide) rfl rfl (k_X12_next0 e26) cw_X12_next0 w_1656 w_1658 w_62 (show (parseMethodDescriptor (yX12_next0).desc).map (fun d => d.parameters.length) = some 0 by decide +kernel) ⟨by decide, by decide⟩ (rest := []) (stk2 := []) (by rw [g26]; rfl) rfl (Nat.le_of_ble_eq_true rfl) hl dX12_opens_26 ?_
    refine v_iconst C 1 (by decide) dX12_opens_29 ?_
    obtain ⟨rfl, rfl⟩ := Prod.mk.inj (os hr)
    exact v_zret C rfl dX12_opens_30
  · rw [if_pos c6] at hr
    refine v_aload_n C (lv_at hl 0 rfl) rfl dX12_opens_9 ?_
    refine v_iconst C 3 (by decide) dX12_opens_10 ?_
    obtain ⟨b11, f11, hr⟩ := ob hr
    obtain ⟨g11, h11⟩ := rcv_n f11
    obtain ⟨⟨v11, S11⟩, e11, hr⟩ := ob hr
    (try dsimp only at hr)
    refine v_callV C (b := b11) h11 (by decide) rfl rfl (k_X12_bad e11) cw_X12_bad w_1698 w_1700 w_67 (show (parseMethodDescriptor (yX12_bad).desc).map (fun d => d.parameters.length) = some 1 by decide +kernel) ⟨by decide, by decide⟩ (rest := []) (stk2 := [.int v11]) (by rw [g11]; rfl) rfl (Nat.le_of_ble_eq_true rfl) hl dX12_opens_11 ?_
    obtain ⟨z14, e14, hr⟩ := ob hr
    obtain ⟨y14, n14⟩ := zchk_n e14
    obtain ⟨rfl, rfl⟩ := Prod.mk.inj (os hr)
    rw [← y14]
    exact v_zret C n14 dX12_opens_14
-- X12_need
def f_X12_need (S : St) (x0 : Nat) (x1 : Int32) : Option (Int32 × St) :=
    (getI S (some x0) 13 46).bind fun v1 =>
    (if v1 = x1 then
    (rcv S (some x0) 13).bind fun b15 =>
    (f_X12_next0 S b15).bind fun S15 =>
    some (1, S15)
    else
    (rcv S (some x0) 13).bind fun b10 =>
    (f_X12_bad S b10 1).bind fun (v10, S10) =>
    (zchk v10).bind fun z13 =>
    some (z13, S10))
theorem k_X12_need {l : Launch} {G : Ge} {S S' : St} {x0 : Nat} {x1 : Int32} {rr : Int32} (hr : f_X12_need S x0 x1 = some (rr, S')) : Ct l G yX12_need cX12_need 2 (Option.some Jvm.ClassFile.FieldType.boolean) S [va_rf (some x0), .int x1] (some (.int rr)) S' 9 286 := by
  refine ct_of (by decide +kernel) (Nat.le_of_ble_eq_true rfl) ?_
  intro p e s m args below meth c C ls hl
  have hl : lv_has ls 2 [(0, va_rf (some x0)), (1, .int x1)] := hl
  unfold f_X12_need at hr
  refine v_aload_n C (lv_at hl 0 rfl) rfl dX12_need_0 ?_
  obtain ⟨v1, e1, hr⟩ := ob hr
  refine v_getI C fl_RX12_311 rfl e1 dX12_need_1 ?_
  refine v_iload_n C (lv_at hl 1 rfl) rfl dX12_need_4 ?_
  refine v_icmp_eq C 14 (by decide) dX12_need_5 (fun c5 => ?_) (fun c5 => ?_)
  · rw [if_pos c5] at hr
    refine v_aload_n C (lv_at hl 0 rfl) rfl dX12_need_14 ?_
    obtain ⟨b15, f15, hr⟩ := ob hr
    obtain ⟨g15, h15⟩ := rcv_n f15
    obtain ⟨S15, e15, hr⟩ := ob hr
    refine v_callV C (b := b15) h15 (by decide) rfl rfl (k_X12_next0 e15) cw_X12_next0 w_1656 w_1658 w_62 (show (parseMethodDescriptor (yX12_next0).desc).map (fun d => d.parameters.length) = some 0 by decide +kernel) ⟨by decide, by decide⟩ (rest := []) (stk2 := []) (by rw [g15]; rfl) rfl (Nat.le_of_ble_eq_true rfl) hl dX12_need_15 ?_
    refine v_iconst C 1 (by decide) dX12_need_18 ?_
    obtain ⟨rfl, rfl⟩ := Prod.mk.inj (os hr)
    exact v_zret C rfl dX12_need_19
  · rw [if_neg c5] at hr
    refine v_aload_n C (lv_at hl 0 rfl) rfl dX12_need_8 ?_
    refine v_iconst C 1 (by decide) dX12_need_9 ?_
    obtain ⟨b10, f10, hr⟩ := ob hr
    obtain ⟨g10, h10⟩ := rcv_n f10
    obtain ⟨⟨v10, S10⟩, e10, hr⟩ := ob hr
    (try dsimp only at hr)
    refine v_callV C (b := b10) h10 (by decide) rfl rfl (k_X12_bad e10) cw_X12_bad w_1698 w_1700 w_67 (show (parseMethodDescriptor (yX12_bad).desc).map (fun d => d.parameters.length) = some 1 by decide +kernel) ⟨by decide, by decide⟩ (rest := []) (stk2 := [.int v10]) (by rw [g10]; rfl) rfl (Nat.le_of_ble_eq_true rfl) hl dX12_need_10 ?_
    obtain ⟨z13, e13, hr⟩ := ob hr
    obtain ⟨y13, n13⟩ := zchk_n e13
    obtain ⟨rfl, rfl⟩ := Prod.mk.inj (os hr)
    rw [← y13]
    exact v_zret C n13 dX12_need_13
end Mth
