section Mth
variable {p : Program} {l : Launch} {e : Env} {s : State} {m : MethodId} {args : Array Value} {below : List Frame} {meth : Method} {c : Code} {G : Ge}
-- X10_number
def f_X10_number_23 : Nat → St → (Option Nat) → Int32 → Int32 → Int32 → Int32 → Option ((Option Nat × St))
  | 0, _, _, _, _, _, _ => none
  | n + 1, S, x0, x1, x2, x3, x4 =>
    (if x2 ≤ x4 then
    (newO S 11).bind fun (a50, S50) =>
    (rcv S50 (some a50) 11).bind fun b57 =>
    (f_X10_init S50 b57 2 x1 x3).bind fun S57 =>
    some ((some a50), S57)
    else
    (f_X10_byteAt S x0 x4).bind fun v36 =>
    f_X10_number_23 n S x0 x1 x2 (((x3 * 10) + v36) - 48) (x4 + 1))
def f_X10_number (S : St) (x0 : Option Nat) (x1 : Int32) (x2 : Int32) : Option (Option Nat × St) :=
    (if (x2 - x1) ≤ 5 then
    f_X10_number_23 FU S x0 x1 x2 0 x1
    else
    (newO S 11).bind fun (a7, S7) =>
    (rcv S7 (some a7) 11).bind fun b14 =>
    (f_X10_init S7 b14 1 x1 0).bind fun S14 =>
    some ((some a7), S14))
theorem b_X10_number_23  {S0 S' : St} {rr : Option Nat} (C : Cx p s m args meth c G S0 yX10_number cX10_number 5 (Option.some (Jvm.ClassFile.FieldType.object "SleepOffice$Token"))) {o : ((Option Nat × St))} (kR : ∀ (v : Option Nat) (Z : St), o = (v, Z) → rr = v ∧ S' = Z) : ∀ (n : Nat) {S : St} {x0 : Option Nat} {x1 : Int32} {x2 : Int32} {x3 : Int32} {x4 : Int32}, f_X10_number_23 n S x0 x1 x2 x3 x4 = some o → ∀ ls : Array Slot, lv_has ls 5 [(0, va_rf x0), (1, .int x1), (2, .int x2), (3, .int x3), (4, .int x4)] → V p l e (rmo 2 59 S0) s m args below meth c G S0 S (QM below args s G S0 S' (some (va_rf rr))) (F0 m 23 ls []) := by
  intro n
  induction n with
  | zero => intro S x0 x1 x2 x3 x4 hr; cases hr
  | succ n ih =>
    intro S x0 x1 x2 x3 x4 hr ls hl
    unfold f_X10_number_23 at hr
    refine v_iload C (lv_at hl 4 rfl) dX10_number_23 ?_
    refine v_iload_n C (lv_at hl 2 rfl) rfl dX10_number_25 ?_
    refine v_icmp_ge C 50 (by decide) dX10_number_26 (fun c26 => ?_) (fun c26 => ?_)
    · rw [if_pos c26] at hr
      obtain ⟨⟨a50, S50⟩, e50, hr⟩ := ob hr
      (try dsimp only at hr)
      refine v_newO C e50 (by decide) rfl w_727 w_728 w_122 lay_11 tyo_11 dfo_11 dX10_number_50 ?_
      refine v_dup C (rf_cat _) dX10_number_53 ?_
      refine v_iconst C 2 (by decide) dX10_number_54 ?_
      refine v_iload_n C (lv_at hl 1 rfl) rfl dX10_number_55 ?_
      refine v_iload_n C (lv_at hl 3 rfl) rfl dX10_number_56 ?_
      obtain ⟨b57, f57, hr⟩ := ob hr
      obtain ⟨g57, h57⟩ := rcv_n f57
      obtain ⟨S57, e57, hr⟩ := ob hr
      refine v_callI C (b := b57) (k_X10_init e57) cw_X10_init w_799 w_800 rfl (show (parseMethodDescriptor (yX10_init).desc).map (fun d => d.parameters.length) = some 3 by decide +kernel) ⟨by decide, by decide⟩ (rest := [va_rf (some a50)]) (stk2 := [va_rf (some a50)]) (by rw [g57]; rfl) rfl (by simp [rf_cat, cat_i, cat_l]) hl dX10_number_57 ?_
      obtain rfl := os hr
      obtain ⟨rfl, rfl⟩ := kR _ _ rfl
      exact v_aret C (Or.inl ⟨_, rfl⟩) dX10_number_60
    · rw [if_neg c26] at hr
      refine v_iload_n C (lv_at hl 3 rfl) rfl dX10_number_29 ?_
      refine v_bipush C 10 (by decide) dX10_number_30 ?_
      refine v_imul C dX10_number_32 ?_
      refine v_aload_n C (lv_at hl 0 rfl) rfl dX10_number_33 ?_
      refine v_iload C (lv_at hl 4 rfl) dX10_number_34 ?_
      obtain ⟨v36, e36, hr⟩ := ob hr
      refine v_callS C (k_X10_byteAt e36) cw_X10_byteAt w_714 w_715 (show (parseMethodDescriptor (yX10_byteAt).desc).map (fun d => d.parameters.length) = some 2 by decide +kernel) ⟨by decide, by decide⟩ (rest := [.int (x3 * 10)]) (stk2 := [.int v36, .int (x3 * 10)]) rfl rfl (Nat.le_of_ble_eq_true rfl) hl dX10_number_36 ?_
      refine v_iadd C dX10_number_39 ?_
      refine v_bipush C 48 (by decide) dX10_number_40 ?_
      refine v_isub C dX10_number_42 ?_
      refine v_istore_n C (i := 3) (lv' := [(3, .int (((x3 * 10) + v36) - 48)), (0, va_rf x0), (1, .int x1), (2, .int x2), (4, .int x4)]) hl rfl (by decide) rfl dX10_number_43 (fun ls hl => ?_)
      refine v_iinc C (x4 + 1) (k0 := 4) (lv' := [(4, .int (x4 + 1)), (3, .int (((x3 * 10) + v36) - 48)), (0, va_rf x0), (1, .int x1), (2, .int x2)]) hl rfl rfl (by decide) rfl dX10_number_44 (fun ls hl => ?_)
      refine v_goto C 23 (by decide) dX10_number_47 ?_
      exact ih hr _ (lv_sub hl [2, 3, 4, 1, 0] rfl)
theorem k_X10_number {l : Launch} {G : Ge} {S S' : St} {x0 : Option Nat} {x1 : Int32} {x2 : Int32} {rr : Option Nat} (hr : f_X10_number S x0 x1 x2 = some (rr, S')) : Ct l G yX10_number cX10_number 5 (Option.some (Jvm.ClassFile.FieldType.object "SleepOffice$Token")) S [va_rf x0, .int x1, .int x2] (some (va_rf rr)) S' 2 59 := by
  refine ct_of (by decide +kernel) (by cases x0 <;> exact Nat.le_of_ble_eq_true rfl) ?_
  intro p e s m args below meth c C ls hl
  have hl : lv_has ls 5 [(0, va_rf x0), (1, .int x1), (2, .int x2)] := by clear hr; cases x0 <;> exact hl
  unfold f_X10_number at hr
  refine v_iload_n C (lv_at hl 2 rfl) rfl dX10_number_0 ?_
  refine v_iload_n C (lv_at hl 1 rfl) rfl dX10_number_1 ?_
  refine v_isub C dX10_number_2 ?_
  refine v_iconst C 5 (by decide) dX10_number_3 ?_
  refine v_icmp_le C 18 (by decide) dX10_number_4 (fun c4 => ?_) (fun c4 => ?_)
  · rw [if_pos c4] at hr
    refine v_iconst C 0 (by decide) dX10_number_18 ?_
    refine v_istore_n C (i := 3) (lv' := [(3, .int 0), (0, va_rf x0), (1, .int x1), (2, .int x2)]) hl rfl (by decide) rfl dX10_number_19 (fun ls hl => ?_)
    refine v_iload_n C (lv_at hl 2 rfl) rfl dX10_number_20 ?_
    refine v_istore C (i := 4) (lv' := [(4, .int x1), (3, .int 0), (0, va_rf x0), (1, .int x1), (2, .int x2)]) hl (by decide) rfl dX10_number_21 (fun ls hl => ?_)
    exact b_X10_number_23 C (fun _ _ q => by cases q; exact ⟨rfl, rfl⟩) FU hr _ (lv_sub hl [2, 3, 4, 1, 0] rfl)
  · rw [if_neg c4] at hr
    obtain ⟨⟨a7, S7⟩, e7, hr⟩ := ob hr
    (try dsimp only at hr)
    refine v_newO C e7 (by decide) rfl w_727 w_728 w_122 lay_11 tyo_11 dfo_11 dX10_number_7 ?_
    refine v_dup C (rf_cat _) dX10_number_10 ?_
    refine v_iconst C 1 (by decide) dX10_number_11 ?_
    refine v_iload_n C (lv_at hl 1 rfl) rfl dX10_number_12 ?_
    refine v_iconst C 0 (by decide) dX10_number_13 ?_
    obtain ⟨b14, f14, hr⟩ := ob hr
    obtain ⟨g14, h14⟩ := rcv_n f14
    obtain ⟨S14, e14, hr⟩ := ob hr
    refine v_callI C (b := b14) (k_X10_init e14) cw_X10_init w_799 w_800 rfl (show (parseMethodDescriptor (yX10_init).desc).map (fun d => d.parameters.length) = some 3 by decide +kernel) ⟨by decide, by decide⟩ (rest := [va_rf (some a7)]) (stk2 := [va_rf (some a7)]) (by rw [g14]; rfl) rfl (by simp [rf_cat, cat_i, cat_l]) hl dX10_number_14 ?_
    obtain ⟨rfl, rfl⟩ := Prod.mk.inj (os hr)
    exact v_aret C (Or.inl ⟨_, rfl⟩) dX10_number_17
-- X10_signOf
def f_X10_signOf (S : St) (x0 : Int32) : Option Int32 :=
    (if x0 = 40 then
    some 22
    else
    (if x0 = 41 then
    some 23
    else
    (if x0 = 42 then
    some 20
    else
    (if x0 = 43 then
    some 18
    else
    (if x0 = 45 then
    some 19
    else
    (if x0 = 47 then
    some 21
    else
    (if x0 = 59 then
    some 17
    else
    (if x0 = 60 then
    some 24
    else
    (if x0 = 61 then
    some 25
    else
    (if x0 = 62 then
    some 26
    else
    some 1))))))))))
theorem k_X10_signOf {l : Launch} {G : Ge} {S : St} {x0 : Int32} {rr : Int32} (hr : f_X10_signOf S x0 = some rr) : Ct l G yX10_signOf cX10_signOf 1 (Option.some Jvm.ClassFile.FieldType.int) S [.int x0] (some (.int rr)) S 0 0 := by
  refine ct_of (by decide +kernel) (Nat.le_of_ble_eq_true rfl) ?_
  intro p e s m args below meth c C ls hl
  have hl : lv_has ls 1 [(0, .int x0)] := hl
  unfold f_X10_signOf at hr
  refine v_iload_n C (lv_at hl 0 rfl) rfl dX10_signOf_0 ?_
  by_cases q1_40 : x0 = 40
  · rw [if_pos q1_40] at hr
    refine v_tableIn C (off := 122) 123 (by rw [q1_40]; decide) (by rw [q1_40]; decide) (by rw [q1_40]; decide) (by decide) dX10_signOf_1 ?_
    refine v_bipush C 22 (by decide) dX10_signOf_123 ?_
    obtain rfl := os hr
    exact v_iret C dX10_signOf_125
  rw [if_neg q1_40] at hr
  by_cases q1_41 : x0 = 41
  · rw [if_pos q1_41] at hr
    refine v_tableIn C (off := 125) 126 (by rw [q1_41]; decide) (by rw [q1_41]; decide) (by rw [q1_41]; decide) (by decide) dX10_signOf_1 ?_
    refine v_bipush C 23 (by decide) dX10_signOf_126 ?_
    obtain rfl := os hr
    exact v_iret C dX10_signOf_128
  rw [if_neg q1_41] at hr
  by_cases q1_42 : x0 = 42
  · rw [if_pos q1_42] at hr
    refine v_tableIn C (off := 116) 117 (by rw [q1_42]; decide) (by rw [q1_42]; decide) (by rw [q1_42]; decide) (by decide) dX10_signOf_1 ?_
    refine v_bipush C 20 (by decide) dX10_signOf_117 ?_
    obtain rfl := os hr
    exact v_iret C dX10_signOf_119
  rw [if_neg q1_42] at hr
  by_cases q1_43 : x0 = 43
  · rw [if_pos q1_43] at hr
    refine v_tableIn C (off := 110) 111 (by rw [q1_43]; decide) (by rw [q1_43]; decide) (by rw [q1_43]; decide) (by decide) dX10_signOf_1 ?_
    refine v_bipush C 18 (by decide) dX10_signOf_111 ?_
    obtain rfl := os hr
    exact v_iret C dX10_signOf_113
  rw [if_neg q1_43] at hr
  by_cases q1_45 : x0 = 45
  · rw [if_pos q1_45] at hr
    refine v_tableIn C (off := 113) 114 (by rw [q1_45]; decide) (by rw [q1_45]; decide) (by rw [q1_45]; decide) (by decide) dX10_signOf_1 ?_
    refine v_bipush C 19 (by decide) dX10_signOf_114 ?_
    obtain rfl := os hr
    exact v_iret C dX10_signOf_116
  rw [if_neg q1_45] at hr
  by_cases q1_47 : x0 = 47
  · rw [if_pos q1_47] at hr
    refine v_tableIn C (off := 119) 120 (by rw [q1_47]; decide) (by rw [q1_47]; decide) (by rw [q1_47]; decide) (by decide) dX10_signOf_1 ?_
    refine v_bipush C 21 (by decide) dX10_signOf_120 ?_
    obtain rfl := os hr
    exact v_iret C dX10_signOf_122
  rw [if_neg q1_47] at hr
  by_cases q1_59 : x0 = 59
  · rw [if_pos q1_59] at hr
    refine v_tableIn C (off := 107) 108 (by rw [q1_59]; decide) (by rw [q1_59]; decide) (by rw [q1_59]; decide) (by decide) dX10_signOf_1 ?_
    refine v_bipush C 17 (by decide) dX10_signOf_108 ?_
    obtain rfl := os hr
    exact v_iret C dX10_signOf_110
  rw [if_neg q1_59] at hr
  by_cases q1_60 : x0 = 60
  · rw [if_pos q1_60] at hr
    refine v_tableIn C (off := 128) 129 (by rw [q1_60]; decide) (by rw [q1_60]; decide) (by rw [q1_60]; decide) (by decide) dX10_signOf_1 ?_
    refine v_bipush C 24 (by decide) dX10_signOf_129 ?_
    obtain rfl := os hr
    exact v_iret C dX10_signOf_131
  rw [if_neg q1_60] at hr
  by_cases q1_61 : x0 = 61
  · rw [if_pos q1_61] at hr
    refine v_tableIn C (off := 131) 132 (by rw [q1_61]; decide) (by rw [q1_61]; decide) (by rw [q1_61]; decide) (by decide) dX10_signOf_1 ?_
    refine v_bipush C 25 (by decide) dX10_signOf_132 ?_
    obtain rfl := os hr
    exact v_iret C dX10_signOf_134
  rw [if_neg q1_61] at hr
  by_cases q1_62 : x0 = 62
  · rw [if_pos q1_62] at hr
    refine v_tableIn C (off := 134) 135 (by rw [q1_62]; decide) (by rw [q1_62]; decide) (by rw [q1_62]; decide) (by decide) dX10_signOf_1 ?_
    refine v_bipush C 26 (by decide) dX10_signOf_135 ?_
    obtain rfl := os hr
    exact v_iret C dX10_signOf_137
  rw [if_neg q1_62] at hr
  have kd1 : V p l e (rmo 0 0 S) s m args below meth c G S S (QM below args s G S S (some (.int rr))) (F0 m 138 ls []) := by
    refine v_iconst C 1 (by decide) dX10_signOf_138 ?_
    obtain rfl := os hr
    exact v_iret C dX10_signOf_139
  by_cases q1_44 : x0 = 44
  · exact v_tableIn C (off := 137) 138 (by rw [q1_44]; decide) (by rw [q1_44]; decide) (by rw [q1_44]; decide) (by decide) dX10_signOf_1 kd1
  by_cases q1_46 : x0 = 46
  · exact v_tableIn C (off := 137) 138 (by rw [q1_46]; decide) (by rw [q1_46]; decide) (by rw [q1_46]; decide) (by decide) dX10_signOf_1 kd1
  by_cases q1_48 : x0 = 48
  · exact v_tableIn C (off := 137) 138 (by rw [q1_48]; decide) (by rw [q1_48]; decide) (by rw [q1_48]; decide) (by decide) dX10_signOf_1 kd1
  by_cases q1_49 : x0 = 49
  · exact v_tableIn C (off := 137) 138 (by rw [q1_49]; decide) (by rw [q1_49]; decide) (by rw [q1_49]; decide) (by decide) dX10_signOf_1 kd1
  by_cases q1_50 : x0 = 50
  · exact v_tableIn C (off := 137) 138 (by rw [q1_50]; decide) (by rw [q1_50]; decide) (by rw [q1_50]; decide) (by decide) dX10_signOf_1 kd1
  by_cases q1_51 : x0 = 51
  · exact v_tableIn C (off := 137) 138 (by rw [q1_51]; decide) (by rw [q1_51]; decide) (by rw [q1_51]; decide) (by decide) dX10_signOf_1 kd1
  by_cases q1_52 : x0 = 52
  · exact v_tableIn C (off := 137) 138 (by rw [q1_52]; decide) (by rw [q1_52]; decide) (by rw [q1_52]; decide) (by decide) dX10_signOf_1 kd1
  by_cases q1_53 : x0 = 53
  · exact v_tableIn C (off := 137) 138 (by rw [q1_53]; decide) (by rw [q1_53]; decide) (by rw [q1_53]; decide) (by decide) dX10_signOf_1 kd1
  by_cases q1_54 : x0 = 54
  · exact v_tableIn C (off := 137) 138 (by rw [q1_54]; decide) (by rw [q1_54]; decide) (by rw [q1_54]; decide) (by decide) dX10_signOf_1 kd1
  by_cases q1_55 : x0 = 55
  · exact v_tableIn C (off := 137) 138 (by rw [q1_55]; decide) (by rw [q1_55]; decide) (by rw [q1_55]; decide) (by decide) dX10_signOf_1 kd1
  by_cases q1_56 : x0 = 56
  · exact v_tableIn C (off := 137) 138 (by rw [q1_56]; decide) (by rw [q1_56]; decide) (by rw [q1_56]; decide) (by decide) dX10_signOf_1 kd1
  by_cases q1_57 : x0 = 57
  · exact v_tableIn C (off := 137) 138 (by rw [q1_57]; decide) (by rw [q1_57]; decide) (by rw [q1_57]; decide) (by decide) dX10_signOf_1 kd1
  by_cases q1_58 : x0 = 58
  · exact v_tableIn C (off := 137) 138 (by rw [q1_58]; decide) (by rw [q1_58]; decide) (by rw [q1_58]; decide) (by decide) dX10_signOf_1 kd1
  have z0 := lv_neT q1_40 (a := 40) (by decide)
  have z1 := lv_neT q1_41 (a := 41) (by decide)
  have z2 := lv_neT q1_42 (a := 42) (by decide)
  have z3 := lv_neT q1_43 (a := 43) (by decide)
  have z4 := lv_neT q1_44 (a := 44) (by decide)
  have z5 := lv_neT q1_45 (a := 45) (by decide)
  have z6 := lv_neT q1_46 (a := 46) (by decide)
  have z7 := lv_neT q1_47 (a := 47) (by decide)
  have z8 := lv_neT q1_48 (a := 48) (by decide)
  have z9 := lv_neT q1_49 (a := 49) (by decide)
  have z10 := lv_neT q1_50 (a := 50) (by decide)
  have z11 := lv_neT q1_51 (a := 51) (by decide)
  have z12 := lv_neT q1_52 (a := 52) (by decide)
  have z13 := lv_neT q1_53 (a := 53) (by decide)
  have z14 := lv_neT q1_54 (a := 54) (by decide)
  have z15 := lv_neT q1_55 (a := 55) (by decide)
  have z16 := lv_neT q1_56 (a := 56) (by decide)
  have z17 := lv_neT q1_57 (a := 57) (by decide)
  have z18 := lv_neT q1_58 (a := 58) (by decide)
  have z19 := lv_neT q1_59 (a := 59) (by decide)
  have z20 := lv_neT q1_60 (a := 60) (by decide)
  have z21 := lv_neT q1_61 (a := 61) (by decide)
  have z22 := lv_neT q1_62 (a := 62) (by decide)
  exact v_tableOut C 138 (by omega) (by decide) dX10_signOf_1 kd1
-- X10_wordEnd
def f_X10_wordEnd_12 : Nat → St → (Option Nat) → Int32 → Int32 → Int32 → Option (Int32)
  | 0, _, _, _, _, _ => none
  | n + 1, S, x0, x2, x3, x4 =>
    (if x2 ≤ x4 then
    some x4
    else
    (if x3 = 0 then
    (f_X10_byteAt S x0 x4).bind fun v40 =>
    (f_X10_isDigit S v40).bind fun v43 =>
    (if v43 = 0 then
    some x4
    else
    f_X10_wordEnd_12 n S x0 x2 x3 (x4 + 1))
    else
    (f_X10_byteAt S x0 x4).bind fun v25 =>
    (f_X10_isLetter S v25).bind fun v28 =>
    (if v28 = 0 then
    some x4
    else
    f_X10_wordEnd_12 n S x0 x2 x3 (x4 + 1))))
def f_X10_wordEnd (S : St) (x0 : Option Nat) (x1 : Int32) (x2 : Int32) : Option Int32 :=
    (f_X10_byteAt S x0 x1).bind fun v2 =>
    (f_X10_isLetter S v2).bind fun v5 =>
    f_X10_wordEnd_12 FU S x0 x2 v5 x1
theorem b_X10_wordEnd_12  {S : St} {rr : Int32} (C : Cx p s m args meth c G S yX10_wordEnd cX10_wordEnd 5 (Option.some Jvm.ClassFile.FieldType.int)) {o : (Int32)} (kR : ∀ (v : Int32), o = v → rr = v) : ∀ (n : Nat) {x0 : Option Nat} {x2 : Int32} {x3 : Int32} {x4 : Int32}, f_X10_wordEnd_12 n S x0 x2 x3 x4 = some o → ∀ ls : Array Slot, lv_has ls 5 [(0, va_rf x0), (2, .int x2), (3, .int x3), (4, .int x4)] → V p l e (rmo 2 42 S) s m args below meth c G S S (QM below args s G S S (some (.int rr))) (F0 m 12 ls []) := by
  intro n
  induction n with
  | zero => intro x0 x2 x3 x4 hr; cases hr
  | succ n ih =>
    intro x0 x2 x3 x4 hr ls hl
    unfold f_X10_wordEnd_12 at hr
    refine v_iload C (lv_at hl 3 rfl) dX10_wordEnd_12 ?_
    refine v_iload_n C (lv_at hl 1 rfl) rfl dX10_wordEnd_14 ?_
    refine v_icmp_ge C 55 (by decide) dX10_wordEnd_15 (fun c15 => ?_) (fun c15 => ?_)
    · rw [if_pos c15] at hr
      refine v_iload C (lv_at hl 3 rfl) dX10_wordEnd_55 ?_
      obtain rfl := os hr
      obtain rfl := kR _ rfl
      exact v_iret C dX10_wordEnd_57
    · rw [if_neg c15] at hr
      refine v_iload_n C (lv_at hl 2 rfl) rfl dX10_wordEnd_18 ?_
      refine v_if_eq C 37 (by decide) dX10_wordEnd_19 (fun c19 => ?_) (fun c19 => ?_)
      · rw [if_pos c19] at hr
        refine v_aload_n C (lv_at hl 0 rfl) rfl dX10_wordEnd_37 ?_
        refine v_iload C (lv_at hl 3 rfl) dX10_wordEnd_38 ?_
        obtain ⟨v40, e40, hr⟩ := ob hr
        refine v_callS C (k_X10_byteAt e40) cw_X10_byteAt w_714 w_715 (show (parseMethodDescriptor (yX10_byteAt).desc).map (fun d => d.parameters.length) = some 2 by decide +kernel) ⟨by decide, by decide⟩ (rest := []) (stk2 := [.int v40]) rfl rfl (Nat.le_of_ble_eq_true rfl) hl dX10_wordEnd_40 ?_
        obtain ⟨v43, e43, hr⟩ := ob hr
        refine v_callS C (k_X10_isDigit e43) cw_X10_isDigit w_724 w_725 (show (parseMethodDescriptor (yX10_isDigit).desc).map (fun d => d.parameters.length) = some 1 by decide +kernel) ⟨by decide, by decide⟩ (rest := []) (stk2 := [.int v43]) rfl rfl (Nat.le_of_ble_eq_true rfl) hl dX10_wordEnd_43 ?_
        refine v_if_eq C 55 (by decide) dX10_wordEnd_46 (fun c46 => ?_) (fun c46 => ?_)
        · rw [if_pos c46] at hr
          refine v_iload C (lv_at hl 3 rfl) dX10_wordEnd_55 ?_
          obtain rfl := os hr
          obtain rfl := kR _ rfl
          exact v_iret C dX10_wordEnd_57
        · rw [if_neg c46] at hr
          refine v_iinc C (x4 + 1) (k0 := 3) (lv' := [(4, .int (x4 + 1)), (0, va_rf x0), (2, .int x2), (3, .int x3)]) hl rfl rfl (by decide) rfl dX10_wordEnd_49 (fun ls hl => ?_)
          refine v_goto C 12 (by decide) dX10_wordEnd_52 ?_
          exact ih hr _ (lv_sub hl [1, 2, 3, 0] rfl)
      · rw [if_neg c19] at hr
        refine v_aload_n C (lv_at hl 0 rfl) rfl dX10_wordEnd_22 ?_
        refine v_iload C (lv_at hl 3 rfl) dX10_wordEnd_23 ?_
        obtain ⟨v25, e25, hr⟩ := ob hr
        refine v_callS C (k_X10_byteAt e25) cw_X10_byteAt w_714 w_715 (show (parseMethodDescriptor (yX10_byteAt).desc).map (fun d => d.parameters.length) = some 2 by decide +kernel) ⟨by decide, by decide⟩ (rest := []) (stk2 := [.int v25]) rfl rfl (Nat.le_of_ble_eq_true rfl) hl dX10_wordEnd_25 ?_
        obtain ⟨v28, e28, hr⟩ := ob hr
        refine v_callS C (k_X10_isLetter e28) cw_X10_isLetter w_721 w_722 (show (parseMethodDescriptor (yX10_isLetter).desc).map (fun d => d.parameters.length) = some 1 by decide +kernel) ⟨by decide, by decide⟩ (rest := []) (stk2 := [.int v28]) rfl rfl (Nat.le_of_ble_eq_true rfl) hl dX10_wordEnd_28 ?_
        refine v_if_eq C 55 (by decide) dX10_wordEnd_31 (fun c31 => ?_) (fun c31 => ?_)
        · rw [if_pos c31] at hr
          refine v_iload C (lv_at hl 3 rfl) dX10_wordEnd_55 ?_
          obtain rfl := os hr
          obtain rfl := kR _ rfl
          exact v_iret C dX10_wordEnd_57
        · rw [if_neg c31] at hr
          refine v_goto C 49 (by decide) dX10_wordEnd_34 ?_
          refine v_iinc C (x4 + 1) (k0 := 3) (lv' := [(4, .int (x4 + 1)), (0, va_rf x0), (2, .int x2), (3, .int x3)]) hl rfl rfl (by decide) rfl dX10_wordEnd_49 (fun ls hl => ?_)
          refine v_goto C 12 (by decide) dX10_wordEnd_52 ?_
          exact ih hr _ (lv_sub hl [1, 2, 3, 0] rfl)
theorem k_X10_wordEnd {l : Launch} {G : Ge} {S : St} {x0 : Option Nat} {x1 : Int32} {x2 : Int32} {rr : Int32} (hr : f_X10_wordEnd S x0 x1 x2 = some rr) : Ct l G yX10_wordEnd cX10_wordEnd 5 (Option.some Jvm.ClassFile.FieldType.int) S [va_rf x0, .int x1, .int x2] (some (.int rr)) S 2 42 := by
  refine ct_of (by decide +kernel) (by cases x0 <;> exact Nat.le_of_ble_eq_true rfl) ?_
  intro p e s m args below meth c C ls hl
  have hl : lv_has ls 5 [(0, va_rf x0), (1, .int x1), (2, .int x2)] := by clear hr; cases x0 <;> exact hl
  unfold f_X10_wordEnd at hr
  refine v_aload_n C (lv_at hl 0 rfl) rfl dX10_wordEnd_0 ?_
  refine v_iload_n C (lv_at hl 1 rfl) rfl dX10_wordEnd_1 ?_
  obtain ⟨v2, e2, hr⟩ := ob hr
  refine v_callS C (k_X10_byteAt e2) cw_X10_byteAt w_714 w_715 (show (parseMethodDescriptor (yX10_byteAt).desc).map (fun d => d.parameters.length) = some 2 by decide +kernel) ⟨by decide, by decide⟩ (rest := []) (stk2 := [.int v2]) rfl rfl (Nat.le_of_ble_eq_true rfl) hl dX10_wordEnd_2 ?_
  obtain ⟨v5, e5, hr⟩ := ob hr
  refine v_callS C (k_X10_isLetter e5) cw_X10_isLetter w_721 w_722 (show (parseMethodDescriptor (yX10_isLetter).desc).map (fun d => d.parameters.length) = some 1 by decide +kernel) ⟨by decide, by decide⟩ (rest := []) (stk2 := [.int v5]) rfl rfl (Nat.le_of_ble_eq_true rfl) hl dX10_wordEnd_5 ?_
  refine v_istore_n C (i := 3) (lv' := [(3, .int v5), (0, va_rf x0), (1, .int x1), (2, .int x2)]) hl rfl (by decide) rfl dX10_wordEnd_8 (fun ls hl => ?_)
  refine v_iload_n C (lv_at hl 2 rfl) rfl dX10_wordEnd_9 ?_
  refine v_istore C (i := 4) (lv' := [(4, .int x1), (3, .int v5), (0, va_rf x0), (1, .int x1), (2, .int x2)]) hl (by decide) rfl dX10_wordEnd_10 (fun ls hl => ?_)
  exact b_X10_wordEnd_12 C (fun _ q => by cases q; rfl) FU hr _ (lv_sub hl [2, 4, 1, 0] rfl)
-- X10_split
def f_X10_split_112 (rec : St → (Option Nat) → Int32 → (Option Nat) → Int32 → Option ((Option Nat × St))) (S : St) (x0 : Option Nat) (x1 : Int32) (x2 : Option Nat) (x3 : Int32) (x5 : Int32) : Option ((Option Nat × St)) :=
    (f_J9_max_7cf53 S (x3 + 1) x5).bind fun v117 =>
    rec S x0 x1 x2 v117
def f_X10_split_10 : Nat → St → (Option Nat) → Int32 → (Option Nat) → Int32 → Option ((Option Nat × St))
  | 0, _, _, _, _, _ => none
  | n + 1, S, x0, x1, x2, x3 =>
    (if x1 ≤ x3 then
    (newO S 11).bind fun (a125, S125) =>
    (rcv S125 (some a125) 11).bind fun b132 =>
    (f_X10_init S125 b132 0 x1 0).bind fun S132 =>
    (rcv S132 x2 0).bind fun b135 =>
    (f_Jx4a65c_add_9ea2d S132 b135 (some a125)).bind fun (v135, S135) =>
    some (x2, S135)
    else
    (f_X10_byteAt S x0 x3).bind fun v17 =>
    (f_X10_wordEnd S x0 x3 x1).bind fun v25 =>
    (f_X10_isLetter S v17).bind fun v32 =>
    (if v32 = 0 then
    (f_X10_isDigit S v17).bind fun v64 =>
    (if v64 = 0 then
    (f_X10_isBlank S v17).bind fun v87 =>
    (if v87 = 0 then
    (newO S 11).bind fun (a94, S94) =>
    (f_X10_signOf S94 v17).bind fun v100 =>
    (rcv S94 (some a94) 11).bind fun b105 =>
    (f_X10_init S94 b105 v100 x3 0).bind fun S105 =>
    (rcv S105 x2 0).bind fun b108 =>
    (f_Jx4a65c_add_9ea2d S105 b108 (some a94)).bind fun (v108, S108) =>
    f_X10_split_112 (f_X10_split_10 n) S108 x0 x1 x2 x3 v25
    else
    f_X10_split_112 (f_X10_split_10 n) S x0 x1 x2 x3 v25)
    else
    (f_X10_number S x0 x3 v25).bind fun (v75, S75) =>
    (rcv S75 x2 0).bind fun b78 =>
    (f_Jx4a65c_add_9ea2d S75 b78 v75).bind fun (v78, S78) =>
    f_X10_split_112 (f_X10_split_10 n) S78 x0 x1 x2 x3 v25)
    else
    (newO S 11).bind fun (a39, S39) =>
    (f_X10_keyword S39 x0 x3 v25).bind fun v47 =>
    (rcv S39 (some a39) 11).bind fun b52 =>
    (f_X10_init S39 b52 v47 x3 0).bind fun S52 =>
    (rcv S52 x2 0).bind fun b55 =>
    (f_Jx4a65c_add_9ea2d S52 b55 (some a39)).bind fun (v55, S55) =>
    f_X10_split_112 (f_X10_split_10 n) S55 x0 x1 x2 x3 v25))
def f_X10_split (S : St) (x0 : Option Nat) (x1 : Int32) : Option (Option Nat × St) :=
    (newO S 0).bind fun (a0, S0) =>
    (rcv S0 (some a0) 0).bind fun b4 =>
    (f_Jx4a65c_init_da8c8 S0 b4).bind fun S4 =>
    f_X10_split_10 FU S4 x0 x1 (some a0) 0
theorem b_X10_split_112  {S0 S S' : St} {rr : Option Nat} {x0 : Option Nat} {x1 : Int32} {x2 : Option Nat} {x3 : Int32} {x5 : Int32} (C : Cx p s m args meth c G S0 yX10_split cX10_split 6 (Option.some (Jvm.ClassFile.FieldType.object "java/util/ArrayList"))) {o : ((Option Nat × St))} {rec : St → (Option Nat) → Int32 → (Option Nat) → Int32 → Option ((Option Nat × St))} (kR : ∀ (v : Option Nat) (Z : St), o = (v, Z) → rr = v ∧ S' = Z) (ihk : ∀ {S : St} {x0 : Option Nat} {x1 : Int32} {x2 : Option Nat} {x3 : Int32}, rec S x0 x1 x2 x3 = some o → ∀ ls : Array Slot, lv_has ls 6 [(0, va_rf x0), (1, .int x1), (2, va_rf x2), (3, .int x3)] → V p l e (rmo 8 268 S0) s m args below meth c G S0 S (QM below args s G S0 S' (some (va_rf rr))) (F0 m 10 ls [])) (hr : f_X10_split_112 rec S x0 x1 x2 x3 x5 = some o) : ∀ ls : Array Slot, lv_has ls 6 [(0, va_rf x0), (1, .int x1), (2, va_rf x2), (3, .int x3), (5, .int x5)] → V p l e (rmo 8 268 S0) s m args below meth c G S0 S (QM below args s G S0 S' (some (va_rf rr))) (F0 m 112 ls []) := by
  intro ls hl
  unfold f_X10_split_112 at hr
  refine v_iload_n C (lv_at hl 3 rfl) rfl dX10_split_112 ?_
  refine v_iconst C 1 (by decide) dX10_split_113 ?_
  refine v_iadd C dX10_split_114 ?_
  refine v_iload C (lv_at hl 4 rfl) dX10_split_115 ?_
  obtain ⟨v117, e117, hr⟩ := ob hr
  refine v_callS C (k_J9_max_7cf53 e117) cw_J9_max_7cf53 w_826 w_169 (show (parseMethodDescriptor (yJ9_max_7cf53).desc).map (fun d => d.parameters.length) = some 2 by decide +kernel) ⟨by decide, by decide⟩ (rest := []) (stk2 := [.int v117]) rfl rfl (Nat.le_of_ble_eq_true rfl) hl dX10_split_117 ?_
  refine v_istore_n C (i := 3) (lv' := [(3, .int v117), (0, va_rf x0), (1, .int x1), (2, va_rf x2), (5, .int x5)]) hl rfl (by decide) (by simp [rf_n2]) dX10_split_120 (fun ls hl => ?_)
  refine v_goto C 10 (by decide) dX10_split_121 ?_
  exact ihk hr _ (lv_sub hl [1, 2, 3, 0] rfl)
theorem b_X10_split_10  {S0 S' : St} {rr : Option Nat} (C : Cx p s m args meth c G S0 yX10_split cX10_split 6 (Option.some (Jvm.ClassFile.FieldType.object "java/util/ArrayList"))) {o : ((Option Nat × St))} (kR : ∀ (v : Option Nat) (Z : St), o = (v, Z) → rr = v ∧ S' = Z) : ∀ (n : Nat) {S : St} {x0 : Option Nat} {x1 : Int32} {x2 : Option Nat} {x3 : Int32}, f_X10_split_10 n S x0 x1 x2 x3 = some o → ∀ ls : Array Slot, lv_has ls 6 [(0, va_rf x0), (1, .int x1), (2, va_rf x2), (3, .int x3)] → V p l e (rmo 8 268 S0) s m args below meth c G S0 S (QM below args s G S0 S' (some (va_rf rr))) (F0 m 10 ls []) := by
  intro n
  induction n with
  | zero => intro S x0 x1 x2 x3 hr; cases hr
  | succ n ih =>
    intro S x0 x1 x2 x3 hr ls hl
    unfold f_X10_split_10 at hr
    refine v_iload_n C (lv_at hl 3 rfl) rfl dX10_split_10 ?_
    refine v_iload_n C (lv_at hl 1 rfl) rfl dX10_split_11 ?_
    refine v_icmp_ge C 124 (by decide) dX10_split_12 (fun c12 => ?_) (fun c12 => ?_)
    · rw [if_pos c12] at hr
      refine v_aload_n C (lv_at hl 2 rfl) rfl dX10_split_124 ?_
      obtain ⟨⟨a125, S125⟩, e125, hr⟩ := ob hr
      (try dsimp only at hr)
      refine v_newO C e125 (by decide) rfl w_727 w_728 w_122 lay_11 tyo_11 dfo_11 dX10_split_125 ?_
      refine v_dup C (rf_cat _) dX10_split_128 ?_
      refine v_iconst C 0 (by decide) dX10_split_129 ?_
      refine v_iload_n C (lv_at hl 1 rfl) rfl dX10_split_130 ?_
      refine v_iconst C 0 (by decide) dX10_split_131 ?_
      obtain ⟨b132, f132, hr⟩ := ob hr
      obtain ⟨g132, h132⟩ := rcv_n f132
      obtain ⟨S132, e132, hr⟩ := ob hr
      refine v_callI C (b := b132) (k_X10_init e132) cw_X10_init w_799 w_800 rfl (show (parseMethodDescriptor (yX10_init).desc).map (fun d => d.parameters.length) = some 3 by decide +kernel) ⟨by decide, by decide⟩ (rest := [va_rf (some a125), va_rf x2]) (stk2 := [va_rf (some a125), va_rf x2]) (by rw [g132]; rfl) rfl (by simp [rf_cat, cat_i, cat_l]) hl dX10_split_132 ?_
      obtain ⟨b135, f135, hr⟩ := ob hr
      obtain ⟨g135, h135⟩ := rcv_n f135
      obtain ⟨⟨v135, S135⟩, e135, hr⟩ := ob hr
      (try dsimp only at hr)
      refine v_callV C (b := b135) h135 (by decide) rfl rfl (k_Jx4a65c_add_9ea2d e135) cw_Jx4a65c_add_9ea2d w_816 w_383 w_384 (show (parseMethodDescriptor (yJx4a65c_add_9ea2d).desc).map (fun d => d.parameters.length) = some 1 by decide +kernel) ⟨by decide, by decide⟩ (rest := []) (stk2 := [.int v135]) (by rw [g135]; rfl) rfl (Nat.le_of_ble_eq_true rfl) hl dX10_split_135 ?_
      refine v_pop C rfl dX10_split_138 ?_
      refine v_aload_n C (lv_at hl 2 rfl) rfl dX10_split_139 ?_
      obtain rfl := os hr
      obtain ⟨rfl, rfl⟩ := kR _ _ rfl
      exact v_aret C (Or.inl ⟨_, rfl⟩) dX10_split_140
    · rw [if_neg c12] at hr
      refine v_aload_n C (lv_at hl 0 rfl) rfl dX10_split_15 ?_
      refine v_iload_n C (lv_at hl 3 rfl) rfl dX10_split_16 ?_
      obtain ⟨v17, e17, hr⟩ := ob hr
      refine v_callS C (k_X10_byteAt e17) cw_X10_byteAt w_714 w_715 (show (parseMethodDescriptor (yX10_byteAt).desc).map (fun d => d.parameters.length) = some 2 by decide +kernel) ⟨by decide, by decide⟩ (rest := []) (stk2 := [.int v17]) rfl rfl (Nat.le_of_ble_eq_true rfl) hl dX10_split_17 ?_
      refine v_istore C (i := 4) (lv' := [(4, .int v17), (0, va_rf x0), (1, .int x1), (2, va_rf x2), (3, .int x3)]) hl (by decide) rfl dX10_split_20 (fun ls hl => ?_)
      refine v_aload_n C (lv_at hl 1 rfl) rfl dX10_split_22 ?_
      refine v_iload_n C (lv_at hl 4 rfl) rfl dX10_split_23 ?_
      refine v_iload_n C (lv_at hl 2 rfl) rfl dX10_split_24 ?_
      obtain ⟨v25, e25, hr⟩ := ob hr
      refine v_callS C (k_X10_wordEnd e25) cw_X10_wordEnd w_718 w_719 (show (parseMethodDescriptor (yX10_wordEnd).desc).map (fun d => d.parameters.length) = some 3 by decide +kernel) ⟨by decide, by decide⟩ (rest := []) (stk2 := [.int v25]) rfl rfl (Nat.le_of_ble_eq_true rfl) hl dX10_split_25 ?_
      refine v_istore C (i := 5) (lv' := [(5, .int v25), (4, .int v17), (0, va_rf x0), (1, .int x1), (2, va_rf x2), (3, .int x3)]) hl (by decide) rfl dX10_split_28 (fun ls hl => ?_)
      refine v_iload C (lv_at hl 1 rfl) dX10_split_30 ?_
      obtain ⟨v32, e32, hr⟩ := ob hr
      refine v_callS C (k_X10_isLetter e32) cw_X10_isLetter w_721 w_722 (show (parseMethodDescriptor (yX10_isLetter).desc).map (fun d => d.parameters.length) = some 1 by decide +kernel) ⟨by decide, by decide⟩ (rest := []) (stk2 := [.int v32]) rfl rfl (Nat.le_of_ble_eq_true rfl) hl dX10_split_32 ?_
      refine v_if_eq C 62 (by decide) dX10_split_35 (fun c35 => ?_) (fun c35 => ?_)
      · rw [if_pos c35] at hr
        refine v_iload C (lv_at hl 1 rfl) dX10_split_62 ?_
        obtain ⟨v64, e64, hr⟩ := ob hr
        refine v_callS C (k_X10_isDigit e64) cw_X10_isDigit w_724 w_725 (show (parseMethodDescriptor (yX10_isDigit).desc).map (fun d => d.parameters.length) = some 1 by decide +kernel) ⟨by decide, by decide⟩ (rest := []) (stk2 := [.int v64]) rfl rfl (Nat.le_of_ble_eq_true rfl) hl dX10_split_64 ?_
        refine v_if_eq C 85 (by decide) dX10_split_67 (fun c67 => ?_) (fun c67 => ?_)
        · rw [if_pos c67] at hr
          refine v_iload C (lv_at hl 1 rfl) dX10_split_85 ?_
          obtain ⟨v87, e87, hr⟩ := ob hr
          refine v_callS C (k_X10_isBlank e87) cw_X10_isBlank w_820 w_821 (show (parseMethodDescriptor (yX10_isBlank).desc).map (fun d => d.parameters.length) = some 1 by decide +kernel) ⟨by decide, by decide⟩ (rest := []) (stk2 := [.int v87]) rfl rfl (Nat.le_of_ble_eq_true rfl) hl dX10_split_87 ?_
          refine v_if_ne C 112 (by decide) dX10_split_90 (fun c90 => ?_) (fun c90 => ?_)
          · rw [if_neg c90] at hr
            exact b_X10_split_112 C kR (@ih) hr _ (lv_sub hl [2, 3, 4, 5, 0] rfl)
          · rw [if_pos c90] at hr
            refine v_aload_n C (lv_at hl 4 rfl) rfl dX10_split_93 ?_
            obtain ⟨⟨a94, S94⟩, e94, hr⟩ := ob hr
            (try dsimp only at hr)
            refine v_newO C e94 (by decide) rfl w_727 w_728 w_122 lay_11 tyo_11 dfo_11 dX10_split_94 ?_
            refine v_dup C (rf_cat _) dX10_split_97 ?_
            refine v_iload C (lv_at hl 1 rfl) dX10_split_98 ?_
            obtain ⟨v100, e100, hr⟩ := ob hr
            refine v_callS C (k_X10_signOf e100) cw_X10_signOf w_823 w_824 (show (parseMethodDescriptor (yX10_signOf).desc).map (fun d => d.parameters.length) = some 1 by decide +kernel) ⟨by decide, by decide⟩ (rest := [va_rf (some a94), va_rf (some a94), va_rf x2]) (stk2 := [.int v100, va_rf (some a94), va_rf (some a94), va_rf x2]) rfl rfl (by simp [rf_cat, cat_i, cat_l]) hl dX10_split_100 ?_
            refine v_iload_n C (lv_at hl 5 rfl) rfl dX10_split_103 ?_
            refine v_iconst C 0 (by decide) dX10_split_104 ?_
            obtain ⟨b105, f105, hr⟩ := ob hr
            obtain ⟨g105, h105⟩ := rcv_n f105
            obtain ⟨S105, e105, hr⟩ := ob hr
            refine v_callI C (b := b105) (k_X10_init e105) cw_X10_init w_799 w_800 rfl (show (parseMethodDescriptor (yX10_init).desc).map (fun d => d.parameters.length) = some 3 by decide +kernel) ⟨by decide, by decide⟩ (rest := [va_rf (some a94), va_rf x2]) (stk2 := [va_rf (some a94), va_rf x2]) (by rw [g105]; rfl) rfl (by simp [rf_cat, cat_i, cat_l]) hl dX10_split_105 ?_
            obtain ⟨b108, f108, hr⟩ := ob hr
            obtain ⟨g108, h108⟩ := rcv_n f108
            obtain ⟨⟨v108, S108⟩, e108, hr⟩ := ob hr
            (try dsimp only at hr)
            refine v_callV C (b := b108) h108 (by decide) rfl rfl (k_Jx4a65c_add_9ea2d e108) cw_Jx4a65c_add_9ea2d w_816 w_383 w_384 (show (parseMethodDescriptor (yJx4a65c_add_9ea2d).desc).map (fun d => d.parameters.length) = some 1 by decide +kernel) ⟨by decide, by decide⟩ (rest := []) (stk2 := [.int v108]) (by rw [g108]; rfl) rfl (Nat.le_of_ble_eq_true rfl) hl dX10_split_108 ?_
            refine v_pop C rfl dX10_split_111 ?_
            exact b_X10_split_112 C kR (@ih) hr _ (lv_sub hl [2, 3, 4, 5, 0] rfl)
        · rw [if_neg c67] at hr
          refine v_aload_n C (lv_at hl 4 rfl) rfl dX10_split_70 ?_
          refine v_aload_n C (lv_at hl 2 rfl) rfl dX10_split_71 ?_
          refine v_iload_n C (lv_at hl 5 rfl) rfl dX10_split_72 ?_
          refine v_iload C (lv_at hl 0 rfl) dX10_split_73 ?_
          obtain ⟨⟨v75, S75⟩, e75, hr⟩ := ob hr
          (try dsimp only at hr)
          refine v_callS C (k_X10_number e75) cw_X10_number w_817 w_818 (show (parseMethodDescriptor (yX10_number).desc).map (fun d => d.parameters.length) = some 3 by decide +kernel) ⟨by decide, by decide⟩ (rest := [va_rf x2]) (stk2 := [va_rf v75, va_rf x2]) rfl rfl (by simp [rf_cat, cat_i, cat_l]) hl dX10_split_75 ?_
          obtain ⟨b78, f78, hr⟩ := ob hr
          obtain ⟨g78, h78⟩ := rcv_n f78
          obtain ⟨⟨v78, S78⟩, e78, hr⟩ := ob hr
          (try dsimp only at hr)
          refine v_callV C (b := b78) h78 (by decide) rfl rfl (k_Jx4a65c_add_9ea2d e78) cw_Jx4a65c_add_9ea2d w_816 w_383 w_384 (show (parseMethodDescriptor (yJx4a65c_add_9ea2d).desc).map (fun d => d.parameters.length) = some 1 by decide +kernel) ⟨by decide, by decide⟩ (rest := []) (stk2 := [.int v78]) (by rw [g78]; rfl) rfl (Nat.le_of_ble_eq_true rfl) hl dX10_split_78 ?_
          refine v_pop C rfl dX10_split_81 ?_
          refine v_goto C 112 (by decide) dX10_split_82 ?_
          exact b_X10_split_112 C kR (@ih) hr _ (lv_sub hl [2, 3, 4, 5, 0] rfl)
      · rw [if_neg c35] at hr
        refine v_aload_n C (lv_at hl 4 rfl) rfl dX10_split_38 ?_
        obtain ⟨⟨a39, S39⟩, e39, hr⟩ := ob hr
        (try dsimp only at hr)
        refine v_newO C e39 (by decide) rfl w_727 w_728 w_122 lay_11 tyo_11 dfo_11 dX10_split_39 ?_
        refine v_dup C (rf_cat _) dX10_split_42 ?_
        refine v_aload_n C (lv_at hl 2 rfl) rfl dX10_split_43 ?_
        refine v_iload_n C (lv_at hl 5 rfl) rfl dX10_split_44 ?_
        refine v_iload C (lv_at hl 0 rfl) dX10_split_45 ?_
        obtain ⟨v47, e47, hr⟩ := ob hr
        refine v_callS C (k_X10_keyword e47) cw_X10_keyword w_729 w_730 (show (parseMethodDescriptor (yX10_keyword).desc).map (fun d => d.parameters.length) = some 3 by decide +kernel) ⟨by decide, by decide⟩ (rest := [va_rf (some a39), va_rf (some a39), va_rf x2]) (stk2 := [.int v47, va_rf (some a39), va_rf (some a39), va_rf x2]) rfl rfl (by simp [rf_cat, cat_i, cat_l]) hl dX10_split_47 ?_
        refine v_iload_n C (lv_at hl 5 rfl) rfl dX10_split_50 ?_
        refine v_iconst C 0 (by decide) dX10_split_51 ?_
        obtain ⟨b52, f52, hr⟩ := ob hr
        obtain ⟨g52, h52⟩ := rcv_n f52
        obtain ⟨S52, e52, hr⟩ := ob hr
        refine v_callI C (b := b52) (k_X10_init e52) cw_X10_init w_799 w_800 rfl (show (parseMethodDescriptor (yX10_init).desc).map (fun d => d.parameters.length) = some 3 by decide +kernel) ⟨by decide, by decide⟩ (rest := [va_rf (some a39), va_rf x2]) (stk2 := [va_rf (some a39), va_rf x2]) (by rw [g52]; rfl) rfl (by simp [rf_cat, cat_i, cat_l]) hl dX10_split_52 ?_
        obtain ⟨b55, f55, hr⟩ := ob hr
        obtain ⟨g55, h55⟩ := rcv_n f55
        obtain ⟨⟨v55, S55⟩, e55, hr⟩ := ob hr
        (try dsimp only at hr)
        refine v_callV C (b := b55) h55 (by decide) rfl rfl (k_Jx4a65c_add_9ea2d e55) cw_Jx4a65c_add_9ea2d w_816 w_383 w_384 (show (parseMethodDescriptor (yJx4a65c_add_9ea2d).desc).map (fun d => d.parameters.length) = some 1 by decide +kernel) ⟨by decide, by decide⟩ (rest := []) (stk2 := [.int v55]) (by rw [g55]; rfl) rfl (Nat.le_of_ble_eq_true rfl) hl dX10_split_55 ?_
        refine v_pop C rfl dX10_split_58 ?_
        refine v_goto C 112 (by decide) dX10_split_59 ?_
        exact b_X10_split_112 C kR (@ih) hr _ (lv_sub hl [2, 3, 4, 5, 0] rfl)
theorem k_X10_split {l : Launch} {G : Ge} {S S' : St} {x0 : Option Nat} {x1 : Int32} {rr : Option Nat} (hr : f_X10_split S x0 x1 = some (rr, S')) : Ct l G yX10_split cX10_split 6 (Option.some (Jvm.ClassFile.FieldType.object "java/util/ArrayList")) S [va_rf x0, .int x1] (some (va_rf rr)) S' 8 268 := by
  refine ct_of (by decide +kernel) (by cases x0 <;> exact Nat.le_of_ble_eq_true rfl) ?_
  intro p e s m args below meth c C ls hl
  have hl : lv_has ls 6 [(0, va_rf x0), (1, .int x1)] := by clear hr; cases x0 <;> exact hl
  unfold f_X10_split at hr
  obtain ⟨⟨a0, S0⟩, e0, hr⟩ := ob hr
  (try dsimp only at hr)
  refine v_newO C e0 (by decide) rfl w_712 w_137 w_105 lay_0 tyo_0 dfo_0 dX10_split_0 ?_
  refine v_dup C (rf_cat _) dX10_split_3 ?_
  obtain ⟨b4, f4, hr⟩ := ob hr
  obtain ⟨g4, h4⟩ := rcv_n f4
  obtain ⟨S4, e4, hr⟩ := ob hr
  refine v_callI C (b := b4) (k_Jx4a65c_init_da8c8 e4) cw_Jx4a65c_init_da8c8 w_713 w_139 rfl (show (parseMethodDescriptor (yJx4a65c_init_da8c8).desc).map (fun d => d.parameters.length) = some 0 by decide +kernel) ⟨by decide, by decide⟩ (rest := [va_rf (some a0)]) (stk2 := [va_rf (some a0)]) (by rw [g4]; rfl) rfl (by simp [rf_cat, cat_i, cat_l]) hl dX10_split_4 ?_
  refine v_astore_n C (i := 2) (lv' := [(2, va_rf (some a0)), (0, va_rf x0), (1, .int x1)]) hl rfl (by decide) rfl dX10_split_7 (fun ls hl => ?_)
  refine v_iconst C 0 (by decide) dX10_split_8 ?_
  refine v_istore_n C (i := 3) (lv' := [(3, .int 0), (2, va_rf (some a0)), (0, va_rf x0), (1, .int x1)]) hl rfl (by decide) rfl dX10_split_9 (fun ls hl => ?_)
  exact b_X10_split_10 C (fun _ _ q => by cases q; exact ⟨rfl, rfl⟩) FU hr _ (lv_sub hl [2, 3, 1, 0] rfl)
-- X11_firmAt
def f_X11_firmAt (S : St) (x0 : Nat) (x1 : Int32) : Option (Option Nat) :=
    (if x1 < 0 then
    some none
    else
    (getR S (some x0) 12 1).bind fun v6 =>
    (rcv S v6 0).bind fun b9 =>
    (f_Jx4a65c_size_8abf5 S b9).bind fun v9 =>
    (if x1 < v9 then
    (getR S (some x0) 12 1).bind fun v20 =>
    (rcv S v20 0).bind fun b24 =>
    (f_Jx4a65c_get_915e3 S b24 x1).bind fun v24 =>
    (castO S v24 5).bind fun v27 =>
    some v27
    else
    some none))
theorem k_X11_firmAt {l : Launch} {G : Ge} {S : St} {x0 : Nat} {x1 : Int32} {rr : Option Nat} (hr : f_X11_firmAt S x0 x1 = some rr) : Ct l G yX11_firmAt cX11_firmAt 2 (Option.some (Jvm.ClassFile.FieldType.object "SleepOffice$Firm")) S [va_rf (some x0), .int x1] (some (va_rf rr)) S 3 64 := by
  refine ct_of (by decide +kernel) (Nat.le_of_ble_eq_true rfl) ?_
  intro p e s m args below meth c C ls hl
  have hl : lv_has ls 2 [(0, va_rf (some x0)), (1, .int x1)] := hl
  unfold f_X11_firmAt at hr
  refine v_iload_n C (lv_at hl 1 rfl) rfl dX11_firmAt_0 ?_
  refine v_if_lt C 15 (by decide) dX11_firmAt_1 (fun c1 => ?_) (fun c1 => ?_)
  · rw [if_pos c1] at hr
    refine v_null C dX11_firmAt_15 ?_
    refine v_goto C 30 (by decide) dX11_firmAt_16 ?_
    obtain rfl := os hr
    exact v_aret C (Or.inl ⟨_, rfl⟩) dX11_firmAt_30
  · rw [if_neg c1] at hr
    refine v_iload_n C (lv_at hl 1 rfl) rfl dX11_firmAt_4 ?_
    refine v_aload_n C (lv_at hl 0 rfl) rfl dX11_firmAt_5 ?_
    obtain ⟨v6, e6, hr⟩ := ob hr
    refine v_getR C fl_RX11_16 rfl e6 dX11_firmAt_6 ?_
    obtain ⟨b9, f9, hr⟩ := ob hr
    obtain ⟨g9, h9⟩ := rcv_n f9
    obtain ⟨v9, e9, hr⟩ := ob hr
    refine v_callV C (b := b9) h9 (by decide) rfl rfl (k_Jx4a65c_size_8abf5 e9) cw_Jx4a65c_size_8abf5 w_352 w_353 w_354 (show (parseMethodDescriptor (yJx4a65c_size_8abf5).desc).map (fun d => d.parameters.length) = some 0 by decide +kernel) ⟨by decide, by decide⟩ (rest := [.int x1]) (stk2 := [.int v9, .int x1]) (by rw [g9]; rfl) rfl (Nat.le_of_ble_eq_true rfl) hl dX11_firmAt_9 ?_
    refine v_icmp_lt C 19 (by decide) dX11_firmAt_12 (fun c12 => ?_) (fun c12 => ?_)
    · rw [if_pos c12] at hr
      refine v_aload_n C (lv_at hl 0 rfl) rfl dX11_firmAt_19 ?_
      obtain ⟨v20, e20, hr⟩ := ob hr
      refine v_getR C fl_RX11_16 rfl e20 dX11_firmAt_20 ?_
      refine v_iload_n C (lv_at hl 1 rfl) rfl dX11_firmAt_23 ?_
      obtain ⟨b24, f24, hr⟩ := ob hr
      obtain ⟨g24, h24⟩ := rcv_n f24
      obtain ⟨v24, e24, hr⟩ := ob hr
      refine v_callV C (b := b24) h24 (by decide) rfl rfl (k_Jx4a65c_get_915e3 e24) cw_Jx4a65c_get_915e3 w_449 w_450 w_451 (show (parseMethodDescriptor (yJx4a65c_get_915e3).desc).map (fun d => d.parameters.length) = some 1 by decide +kernel) ⟨by decide, by decide⟩ (rest := []) (stk2 := [va_rf v24]) (by rw [g24]; rfl) rfl (Nat.le_of_ble_eq_true rfl) hl dX11_firmAt_24 ?_
      obtain ⟨v27, e27, hr⟩ := ob hr
      refine v_cast C e27 (by decide) rfl w_356 dX11_firmAt_27 ?_
      obtain rfl := os hr
      exact v_aret C (Or.inl ⟨_, rfl⟩) dX11_firmAt_30
    · rw [if_neg c12] at hr
      refine v_null C dX11_firmAt_15 ?_
      refine v_goto C 30 (by decide) dX11_firmAt_16 ?_
      obtain rfl := os hr
      exact v_aret C (Or.inl ⟨_, rfl⟩) dX11_firmAt_30
-- X11_isPast
def f_X11_isPast (S : St) (x0 : Nat) (x1 : Int32) : Option Int32 :=
    (if x1 < 0 then
    some 0
    else
    (getI S (some x0) 12 0).bind fun v6 =>
    (if v6 < x1 then
    some 0
    else
    some 1))
theorem k_X11_isPast {l : Launch} {G : Ge} {S : St} {x0 : Nat} {x1 : Int32} {rr : Int32} (hr : f_X11_isPast S x0 x1 = some rr) : Ct l G yX11_isPast cX11_isPast 2 (Option.some Jvm.ClassFile.FieldType.boolean) S [va_rf (some x0), .int x1] (some (.int rr)) S 0 0 := by
  refine ct_of (by decide +kernel) (Nat.le_of_ble_eq_true rfl) ?_
  intro p e s m args below meth c C ls hl
  have hl : lv_has ls 2 [(0, va_rf (some x0)), (1, .int x1)] := hl
  unfold f_X11_isPast at hr
  refine v_iload_n C (lv_at hl 1 rfl) rfl dX11_isPast_0 ?_
  refine v_if_lt C 16 (by decide) dX11_isPast_1 (fun c1 => ?_) (fun c1 => ?_)
  · rw [if_pos c1] at hr
    refine v_iconst C 0 (by decide) dX11_isPast_16 ?_
    obtain rfl := os hr
    exact v_zret C rfl dX11_isPast_17
  · rw [if_neg c1] at hr
    refine v_iload_n C (lv_at hl 1 rfl) rfl dX11_isPast_4 ?_
    refine v_aload_n C (lv_at hl 0 rfl) rfl dX11_isPast_5 ?_
    obtain ⟨v6, e6, hr⟩ := ob hr
    refine v_getI C fl_RX11_7 rfl e6 dX11_isPast_6 ?_
    refine v_icmp_gt C 16 (by decide) dX11_isPast_9 (fun c9 => ?_) (fun c9 => ?_)
    · rw [if_pos c9] at hr
      refine v_iconst C 0 (by decide) dX11_isPast_16 ?_
      obtain rfl := os hr
      exact v_zret C rfl dX11_isPast_17
    · rw [if_neg c9] at hr
      refine v_iconst C 1 (by decide) dX11_isPast_12 ?_
      refine v_goto C 17 (by decide) dX11_isPast_13 ?_
      obtain rfl := os hr
      exact v_zret C rfl dX11_isPast_17
-- X11_personAt
def f_X11_personAt (S : St) (x0 : Nat) (x1 : Int32) : Option (Option Nat) :=
    (if x1 < 0 then
    some none
    else
    (getR S (some x0) 12 2).bind fun v6 =>
    (rcv S v6 0).bind fun b9 =>
    (f_Jx4a65c_size_8abf5 S b9).bind fun v9 =>
    (if x1 < v9 then
    (getR S (some x0) 12 2).bind fun v20 =>
    (rcv S v20 0).bind fun b24 =>
    (f_Jx4a65c_get_915e3 S b24 x1).bind fun v24 =>
    (castO S v24 9).bind fun v27 =>
    some v27
    else
    some none))
theorem k_X11_personAt {l : Launch} {G : Ge} {S : St} {x0 : Nat} {x1 : Int32} {rr : Option Nat} (hr : f_X11_personAt S x0 x1 = some rr) : Ct l G yX11_personAt cX11_personAt 2 (Option.some (Jvm.ClassFile.FieldType.object "SleepOffice$Person")) S [va_rf (some x0), .int x1] (some (va_rf rr)) S 3 64 := by
  refine ct_of (by decide +kernel) (Nat.le_of_ble_eq_true rfl) ?_
  intro p e s m args below meth c C ls hl
  have hl : lv_has ls 2 [(0, va_rf (some x0)), (1, .int x1)] := hl
  unfold f_X11_personAt at hr
  refine v_iload_n C (lv_at hl 1 rfl) rfl dX11_personAt_0 ?_
  refine v_if_lt C 15 (by decide) dX11_personAt_1 (fun c1 => ?_) (fun c1 => ?_)
  · rw [if_pos c1] at hr
    refine v_null C dX11_personAt_15 ?_
    refine v_goto C 30 (by decide) dX11_personAt_16 ?_
    obtain rfl := os hr
    exact v_aret C (Or.inl ⟨_, rfl⟩) dX11_personAt_30
  · rw [if_neg c1] at hr
    refine v_iload_n C (lv_at hl 1 rfl) rfl dX11_personAt_4 ?_
    refine v_aload_n C (lv_at hl 0 rfl) rfl dX11_personAt_5 ?_
    obtain ⟨v6, e6, hr⟩ := ob hr
    refine v_getR C fl_RX11_20 rfl e6 dX11_personAt_6 ?_
    obtain ⟨b9, f9, hr⟩ := ob hr
    obtain ⟨g9, h9⟩ := rcv_n f9
    obtain ⟨v9, e9, hr⟩ := ob hr
    refine v_callV C (b := b9) h9 (by decide) rfl rfl (k_Jx4a65c_size_8abf5 e9) cw_Jx4a65c_size_8abf5 w_352 w_353 w_354 (show (parseMethodDescriptor (yJx4a65c_size_8abf5).desc).map (fun d => d.parameters.length) = some 0 by decide +kernel) ⟨by decide, by decide⟩ (rest := [.int x1]) (stk2 := [.int v9, .int x1]) (by rw [g9]; rfl) rfl (Nat.le_of_ble_eq_true rfl) hl dX11_personAt_9 ?_
    refine v_icmp_lt C 19 (by decide) dX11_personAt_12 (fun c12 => ?_) (fun c12 => ?_)
    · rw [if_pos c12] at hr
      refine v_aload_n C (lv_at hl 0 rfl) rfl dX11_personAt_19 ?_
      obtain ⟨v20, e20, hr⟩ := ob hr
      refine v_getR C fl_RX11_20 rfl e20 dX11_personAt_20 ?_
      refine v_iload_n C (lv_at hl 1 rfl) rfl dX11_personAt_23 ?_
      obtain ⟨b24, f24, hr⟩ := ob hr
      obtain ⟨g24, h24⟩ := rcv_n f24
      obtain ⟨v24, e24, hr⟩ := ob hr
      refine v_callV C (b := b24) h24 (by decide) rfl rfl (k_Jx4a65c_get_915e3 e24) cw_Jx4a65c_get_915e3 w_449 w_450 w_451 (show (parseMethodDescriptor (yJx4a65c_get_915e3).desc).map (fun d => d.parameters.length) = some 1 by decide +kernel) ⟨by decide, by decide⟩ (rest := []) (stk2 := [va_rf v24]) (by rw [g24]; rfl) rfl (Nat.le_of_ble_eq_true rfl) hl dX11_personAt_24 ?_
      obtain ⟨v27, e27, hr⟩ := ob hr
      refine v_cast C e27 (by decide) rfl w_490 dX11_personAt_27 ?_
      obtain rfl := os hr
      exact v_aret C (Or.inl ⟨_, rfl⟩) dX11_personAt_30
    · rw [if_neg c12] at hr
      refine v_null C dX11_personAt_15 ?_
      refine v_goto C 30 (by decide) dX11_personAt_16 ?_
      obtain rfl := os hr
      exact v_aret C (Or.inl ⟨_, rfl⟩) dX11_personAt_30
-- X4_isMergedBy
def f_X4_isMergedBy (S : St) (x0 : Nat) (x1 : Int32) : Option Int32 :=
    (getR S (some x0) 5 2).bind fun v1 =>
    (if v1 = none then
    some 0
    else
    (getI S (some x0) 5 3).bind fun v8 =>
    (if x1 < v8 then
    some 0
    else
    some 1))
theorem k_X4_isMergedBy {l : Launch} {G : Ge} {S : St} {x0 : Nat} {x1 : Int32} {rr : Int32} (hr : f_X4_isMergedBy S x0 x1 = some rr) : Ct l G yX4_isMergedBy cX4_isMergedBy 2 (Option.some Jvm.ClassFile.FieldType.boolean) S [va_rf (some x0), .int x1] (some (.int rr)) S 0 0 := by
  refine ct_of (by decide +kernel) (Nat.le_of_ble_eq_true rfl) ?_
  intro p e s m args below meth c C ls hl
  have hl : lv_has ls 2 [(0, va_rf (some x0)), (1, .int x1)] := hl
  unfold f_X4_isMergedBy at hr
  refine v_aload_n C (lv_at hl 0 rfl) rfl dX4_isMergedBy_0 ?_
  obtain ⟨v1, e1, hr⟩ := ob hr
  refine v_getR C fl_RX4_9 rfl e1 dX4_isMergedBy_1 ?_
  refine v_ifnull C 19 (by decide) dX4_isMergedBy_4 (fun c4 => ?_) (fun c4 => ?_)
  · rw [if_pos c4] at hr
    refine v_iconst C 0 (by decide) dX4_isMergedBy_19 ?_
    obtain rfl := os hr
    exact v_zret C rfl dX4_isMergedBy_20
  · rw [if_neg c4] at hr
    refine v_aload_n C (lv_at hl 0 rfl) rfl dX4_isMergedBy_7 ?_
    obtain ⟨v8, e8, hr⟩ := ob hr
    refine v_getI C fl_RX4_15 rfl e8 dX4_isMergedBy_8 ?_
    refine v_iload_n C (lv_at hl 1 rfl) rfl dX4_isMergedBy_11 ?_
    refine v_icmp_gt C 19 (by decide) dX4_isMergedBy_12 (fun c12 => ?_) (fun c12 => ?_)
    · rw [if_pos c12] at hr
      refine v_iconst C 0 (by decide) dX4_isMergedBy_19 ?_
      obtain rfl := os hr
      exact v_zret C rfl dX4_isMergedBy_20
    · rw [if_neg c12] at hr
      refine v_iconst C 1 (by decide) dX4_isMergedBy_15 ?_
      refine v_goto C 20 (by decide) dX4_isMergedBy_16 ?_
      obtain rfl := os hr
      exact v_zret C rfl dX4_isMergedBy_20
-- X11_account
def f_X11_account (S : St) (x0 : Nat) (x1 : Int32) (x2 : Int32) (x3 : Int32) (x4 : Int32) : Option (Int32 × St) :=
    (rcv S (some x0) 12).bind fun b2 =>
    (f_X11_firmAt S b2 x1).bind fun v2 =>
    (rcv S (some x0) 12).bind fun b9 =>
    (f_X11_personAt S b9 x3).bind fun v9 =>
    (if v2 = none then
    some ((-1), S)
    else
    (if v9 = none then
    some ((-1), S)
    else
    (f_X11_isWithin S x2 4).bind fun v26 =>
    (if v26 = 0 then
    some ((-1), S)
    else
    (rcv S (some x0) 12).bind fun b35 =>
    (f_X11_isPast S b35 x4).bind fun v35 =>
    (if v35 = 0 then
    some ((-1), S)
    else
    (rcv S v2 5).bind fun b47 =>
    (f_X4_isMergedBy S b47 x4).bind fun v47 =>
    (if v47 = 0 then
    (getR S (some x0) 12 3).bind fun v54 =>
    (rcv S v54 0).bind fun b57 =>
    (f_Jx4a65c_size_8abf5 S b57).bind fun v57 =>
    (if v57 < 40 then
    (newO S 1).bind fun (a67, S67) =>
    (getR S67 (some x0) 12 3).bind fun v72 =>
    (rcv S67 v72 0).bind fun b75 =>
    (f_Jx4a65c_size_8abf5 S67 b75).bind fun v75 =>
    (rcv S67 (some a67) 1).bind fun b85 =>
    (f_X0_init S67 b85 v75 v2 x2 v9 x4).bind fun S85 =>
    (getR S85 (some x0) 12 3).bind fun v91 =>
    (rcv S85 v91 0).bind fun b96 =>
    (f_Jx4a65c_add_9ea2d S85 b96 (some a67)).bind fun (v96, S96) =>
    (getI S96 (some a67) 1 0).bind fun v102 =>
    some (v102, S96)
    else
    some ((-1), S))
    else
    some ((-1), S))))))
theorem k_X11_account {l : Launch} {G : Ge} {S S' : St} {x0 : Nat} {x1 : Int32} {x2 : Int32} {x3 : Int32} {x4 : Int32} {rr : Int32} (hr : f_X11_account S x0 x1 x2 x3 x4 = some (rr, S')) : Ct l G yX11_account cX11_account 8 (Option.some Jvm.ClassFile.FieldType.int) S [va_rf (some x0), .int x1, .int x2, .int x3, .int x4] (some (.int rr)) S' 7 167 := by
  refine ct_of (by decide +kernel) (Nat.le_of_ble_eq_true rfl) ?_
  intro p e s m args below meth c C ls hl
  have hl : lv_has ls 8 [(0, va_rf (some x0)), (1, .int x1), (2, .int x2), (3, .int x3), (4, .int x4)] := hl
  unfold f_X11_account at hr
  refine v_aload_n C (lv_at hl 0 rfl) rfl dX11_account_0 ?_
  refine v_iload_n C (lv_at hl 1 rfl) rfl dX11_account_1 ?_
  obtain ⟨b2, f2, hr⟩ := ob hr
  obtain ⟨g2, h2⟩ := rcv_n f2
  obtain ⟨v2, e2, hr⟩ := ob hr
  refine v_callV C (b := b2) h2 (by decide) rfl rfl (k_X11_firmAt e2) cw_X11_firmAt w_445 w_447 w_3 (show (parseMethodDescriptor (yX11_firmAt).desc).map (fun d => d.parameters.length) = some 1 by decide +kernel) ⟨by decide, by decide⟩ (rest := []) (stk2 := [va_rf v2]) (by rw [g2]; rfl) rfl (Nat.le_of_ble_eq_true rfl) hl dX11_account_2 ?_
  refine v_astore C (i := 5) (lv' := [(5, va_rf v2), (0, va_rf (some x0)), (1, .int x1), (2, .int x2), (3, .int x3), (4, .int x4)]) hl (by decide) rfl dX11_account_5 (fun ls hl => ?_)
  refine v_aload_n C (lv_at hl 1 rfl) rfl dX11_account_7 ?_
  refine v_iload_n C (lv_at hl 4 rfl) rfl dX11_account_8 ?_
  obtain ⟨b9, f9, hr⟩ := ob hr
  obtain ⟨g9, h9⟩ := rcv_n f9
  obtain ⟨v9, e9, hr⟩ := ob hr
  refine v_callV C (b := b9) h9 (by decide) rfl rfl (k_X11_personAt e9) cw_X11_personAt w_486 w_488 w_6 (show (parseMethodDescriptor (yX11_personAt).desc).map (fun d => d.parameters.length) = some 1 by decide +kernel) ⟨by decide, by decide⟩ (rest := []) (stk2 := [va_rf v9]) (by rw [g9]; rfl) rfl (Nat.le_of_ble_eq_true rfl) hl dX11_account_9 ?_
  refine v_astore C (i := 6) (lv' := [(6, va_rf v9), (5, va_rf v2), (0, va_rf (some x0)), (1, .int x1), (2, .int x2), (3, .int x3), (4, .int x4)]) hl (by decide) (by simp [rf_n2]) dX11_account_12 (fun ls hl => ?_)
  refine v_aload C (lv_at hl 1 rfl) dX11_account_14 ?_
  refine v_ifnull C 41 (by decide) dX11_account_16 (fun c16 => ?_) (fun c16 => ?_)
  · rw [if_pos c16] at hr
    refine v_iconst C (-1) (by decide) dX11_account_41 ?_
    obtain ⟨rfl, rfl⟩ := Prod.mk.inj (os hr)
    exact v_iret C dX11_account_42
  · rw [if_neg c16] at hr
    refine v_aload C (lv_at hl 0 rfl) dX11_account_19 ?_
    refine v_ifnull C 41 (by decide) dX11_account_21 (fun c21 => ?_) (fun c21 => ?_)
    · rw [if_pos c21] at hr
      refine v_iconst C (-1) (by decide) dX11_account_41 ?_
      obtain ⟨rfl, rfl⟩ := Prod.mk.inj (os hr)
      exact v_iret C dX11_account_42
    · rw [if_neg c21] at hr
      refine v_iload_n C (lv_at hl 4 rfl) rfl dX11_account_24 ?_
      refine v_iconst C 4 (by decide) dX11_account_25 ?_
      obtain ⟨v26, e26, hr⟩ := ob hr
      refine v_callS C (k_X11_isWithin e26) cw_X11_isWithin w_349 w_350 (show (parseMethodDescriptor (yX11_isWithin).desc).map (fun d => d.parameters.length) = some 2 by decide +kernel) ⟨by decide, by decide⟩ (rest := []) (stk2 := [.int v26]) rfl rfl (Nat.le_of_ble_eq_true rfl) hl dX11_account_26 ?_
      refine v_if_eq C 41 (by decide) dX11_account_29 (fun c29 => ?_) (fun c29 => ?_)
      · rw [if_pos c29] at hr
        refine v_iconst C (-1) (by decide) dX11_account_41 ?_
        obtain ⟨rfl, rfl⟩ := Prod.mk.inj (os hr)
        exact v_iret C dX11_account_42
      · rw [if_neg c29] at hr
        refine v_aload_n C (lv_at hl 2 rfl) rfl dX11_account_32 ?_
        refine v_iload C (lv_at hl 6 rfl) dX11_account_33 ?_
        obtain ⟨b35, f35, hr⟩ := ob hr
        obtain ⟨g35, h35⟩ := rcv_n f35
        obtain ⟨v35, e35, hr⟩ := ob hr
        refine v_callV C (b := b35) h35 (by decide) rfl rfl (k_X11_isPast e35) cw_X11_isPast w_463 w_465 w_4 (show (parseMethodDescriptor (yX11_isPast).desc).map (fun d => d.parameters.length) = some 1 by decide +kernel) ⟨by decide, by decide⟩ (rest := []) (stk2 := [.int v35]) (by rw [g35]; rfl) rfl (Nat.le_of_ble_eq_true rfl) hl dX11_account_35 ?_
        refine v_if_ne C 43 (by decide) dX11_account_38 (fun c38 => ?_) (fun c38 => ?_)
        · rw [if_neg c38] at hr
          refine v_aload C (lv_at hl 1 rfl) dX11_account_43 ?_
          refine v_iload C (lv_at hl 6 rfl) dX11_account_45 ?_
          obtain ⟨b47, f47, hr⟩ := ob hr
          obtain ⟨g47, h47⟩ := rcv_n f47
          obtain ⟨v47, e47, hr⟩ := ob hr
          refine v_callV C (b := b47) h47 (by decide) rfl rfl (k_X4_isMergedBy e47) cw_X4_isMergedBy w_467 w_468 w_469 (show (parseMethodDescriptor (yX4_isMergedBy).desc).map (fun d => d.parameters.length) = some 1 by decide +kernel) ⟨by decide, by decide⟩ (rest := []) (stk2 := [.int v47]) (by rw [g47]; rfl) rfl (Nat.le_of_ble_eq_true rfl) hl dX11_account_47 ?_
          refine v_if_ne C 65 (by decide) dX11_account_50 (fun c50 => ?_) (fun c50 => ?_)
          · rw [if_neg c50] at hr
            refine v_iconst C (-1) (by decide) dX11_account_65 ?_
            obtain ⟨rfl, rfl⟩ := Prod.mk.inj (os hr)
            exact v_iret C dX11_account_66
          · rw [if_pos c50] at hr
            refine v_aload_n C (lv_at hl 2 rfl) rfl dX11_account_53 ?_
            obtain ⟨v54, e54, hr⟩ := ob hr
            refine v_getR C fl_RX11_23 rfl e54 dX11_account_54 ?_
            obtain ⟨b57, f57, hr⟩ := ob hr
            obtain ⟨g57, h57⟩ := rcv_n f57
            obtain ⟨v57, e57, hr⟩ := ob hr
            refine v_callV C (b := b57) h57 (by decide) rfl rfl (k_Jx4a65c_size_8abf5 e57) cw_Jx4a65c_size_8abf5 w_352 w_353 w_354 (show (parseMethodDescriptor (yJx4a65c_size_8abf5).desc).map (fun d => d.parameters.length) = some 0 by decide +kernel) ⟨by decide, by decide⟩ (rest := []) (stk2 := [.int v57]) (by rw [g57]; rfl) rfl (Nat.le_of_ble_eq_true rfl) hl dX11_account_57 ?_
            refine v_bipush C 40 (by decide) dX11_account_60 ?_
            refine v_icmp_lt C 67 (by decide) dX11_account_62 (fun c62 => ?_) (fun c62 => ?_)
            · rw [if_pos c62] at hr
              obtain ⟨⟨a67, S67⟩, e67, hr⟩ := ob hr
              (try dsimp only at hr)
              refine v_newO C e67 (by decide) rfl w_550 w_551 w_119 lay_1 tyo_1 dfo_1 dX11_account_67 ?_
              refine v_dup C (rf_cat _) dX11_account_70 ?_
              refine v_aload_n C (lv_at hl 2 rfl) rfl dX11_account_71 ?_
              obtain ⟨v72, e72, hr⟩ := ob hr
              refine v_getR C fl_RX11_23 rfl e72 dX11_account_72 ?_
              obtain ⟨b75, f75, hr⟩ := ob hr
              obtain ⟨g75, h75⟩ := rcv_n f75
              obtain ⟨v75, e75, hr⟩ := ob hr
              refine v_callV C (b := b75) h75 (by decide) rfl rfl (k_Jx4a65c_size_8abf5 e75) cw_Jx4a65c_size_8abf5 w_352 w_353 w_354 (show (parseMethodDescriptor (yJx4a65c_size_8abf5).desc).map (fun d => d.parameters.length) = some 0 by decide +kernel) ⟨by decide, by decide⟩ (rest := [va_rf (some a67), va_rf (some a67)]) (stk2 := [.int v75, va_rf (some a67), va_rf (some a67)]) (by rw [g75]; rfl) rfl (by simp [rf_cat, cat_i, cat_l]) hl dX11_account_75 ?_
              refine v_aload C (lv_at hl 1 rfl) dX11_account_78 ?_
              refine v_iload_n C (lv_at hl 4 rfl) rfl dX11_account_80 ?_
              refine v_aload C (lv_at hl 0 rfl) dX11_account_81 ?_
              refine v_iload C (lv_at hl 6 rfl) dX11_account_83 ?_
              obtain ⟨b85, f85, hr⟩ := ob hr
              obtain ⟨g85, h85⟩ := rcv_n f85
              obtain ⟨S85, e85, hr⟩ := ob hr
              refine v_callI C (b := b85) (k_X0_init e85) cw_X0_init w_552 w_553 rfl (show (parseMethodDescriptor (yX0_init).desc).map (fun d => d.parameters.length) = some 5 by decide +kernel) ⟨by decide, by decide⟩ (rest := [va_rf (some a67)]) (stk2 := [va_rf (some a67)]) (by rw [g85]; rfl) rfl (by simp [rf_cat, cat_i, cat_l]) hl dX11_account_85 ?_
              refine v_astore C (i := 7) (lv' := [(7, va_rf (some a67)), (6, va_rf v9), (5, va_rf v2), (0, va_rf (some x0)), (1, .int x1), (2, .int x2), (3, .int x3), (4, .int x4)]) hl (by decide) (by simp [rf_n2]) dX11_account_88 (fun ls hl => ?_)
              refine v_aload_n C (lv_at hl 3 rfl) rfl dX11_account_90 ?_
              obtain ⟨v91, e91, hr⟩ := ob hr
              refine v_getR C fl_RX11_23 rfl e91 dX11_account_91 ?_
              refine v_aload C (lv_at hl 0 rfl) dX11_account_94 ?_
              obtain ⟨b96, f96, hr⟩ := ob hr
              obtain ⟨g96, h96⟩ := rcv_n f96
              obtain ⟨⟨v96, S96⟩, e96, hr⟩ := ob hr
              (try dsimp only at hr)
              refine v_callV C (b := b96) h96 (by decide) rfl rfl (k_Jx4a65c_add_9ea2d e96) cw_Jx4a65c_add_9ea2d w_382 w_383 w_384 (show (parseMethodDescriptor (yJx4a65c_add_9ea2d).desc).map (fun d => d.parameters.length) = some 1 by decide +kernel) ⟨by decide, by decide⟩ (rest := []) (stk2 := [.int v96]) (by rw [g96]; rfl) rfl (Nat.le_of_ble_eq_true rfl) hl dX11_account_96 ?_
              refine v_pop C rfl dX11_account_99 ?_
              refine v_aload C (lv_at hl 0 rfl) dX11_account_100 ?_
              obtain ⟨v102, e102, hr⟩ := ob hr
              refine v_getI C fl_RX11_167 rfl e102 dX11_account_102 ?_
              obtain ⟨rfl, rfl⟩ := Prod.mk.inj (os hr)
              exact v_iret C dX11_account_105
            · rw [if_neg c62] at hr
              refine v_iconst C (-1) (by decide) dX11_account_65 ?_
              obtain ⟨rfl, rfl⟩ := Prod.mk.inj (os hr)
              exact v_iret C dX11_account_66
        · rw [if_pos c38] at hr
          refine v_iconst C (-1) (by decide) dX11_account_41 ?_
          obtain ⟨rfl, rfl⟩ := Prod.mk.inj (os hr)
          exact v_iret C dX11_account_42
-- X11_accountAt
def f_X11_accountAt (S : St) (x0 : Nat) (x1 : Int32) : Option (Option Nat) :=
    (if x1 < 0 then
    some none
    else
    (getR S (some x0) 12 3).bind fun v6 =>
    (rcv S v6 0).bind fun b9 =>
    (f_Jx4a65c_size_8abf5 S b9).bind fun v9 =>
    (if x1 < v9 then
    (getR S (some x0) 12 3).bind fun v20 =>
    (rcv S v20 0).bind fun b24 =>
    (f_Jx4a65c_get_915e3 S b24 x1).bind fun v24 =>
    (castO S v24 1).bind fun v27 =>
    some v27
    else
    some none))
theorem k_X11_accountAt {l : Launch} {G : Ge} {S : St} {x0 : Nat} {x1 : Int32} {rr : Option Nat} (hr : f_X11_accountAt S x0 x1 = some rr) : Ct l G yX11_accountAt cX11_accountAt 2 (Option.some (Jvm.ClassFile.FieldType.object "SleepOffice$Account")) S [va_rf (some x0), .int x1] (some (va_rf rr)) S 3 64 := by
  refine ct_of (by decide +kernel) (Nat.le_of_ble_eq_true rfl) ?_
  intro p e s m args below meth c C ls hl
  have hl : lv_has ls 2 [(0, va_rf (some x0)), (1, .int x1)] := hl
  unfold f_X11_accountAt at hr
  refine v_iload_n C (lv_at hl 1 rfl) rfl dX11_accountAt_0 ?_
  refine v_if_lt C 15 (by decide) dX11_accountAt_1 (fun c1 => ?_) (fun c1 => ?_)
  · rw [if_pos c1] at hr
    refine v_null C dX11_accountAt_15 ?_
    refine v_goto C 30 (by decide) dX11_accountAt_16 ?_
    obtain rfl := os hr
    exact v_aret C (Or.inl ⟨_, rfl⟩) dX11_accountAt_30
  · rw [if_neg c1] at hr
    refine v_iload_n C (lv_at hl 1 rfl) rfl dX11_accountAt_4 ?_
    refine v_aload_n C (lv_at hl 0 rfl) rfl dX11_accountAt_5 ?_
    obtain ⟨v6, e6, hr⟩ := ob hr
    refine v_getR C fl_RX11_23 rfl e6 dX11_accountAt_6 ?_
    obtain ⟨b9, f9, hr⟩ := ob hr
    obtain ⟨g9, h9⟩ := rcv_n f9
    obtain ⟨v9, e9, hr⟩ := ob hr
    refine v_callV C (b := b9) h9 (by decide) rfl rfl (k_Jx4a65c_size_8abf5 e9) cw_Jx4a65c_size_8abf5 w_352 w_353 w_354 (show (parseMethodDescriptor (yJx4a65c_size_8abf5).desc).map (fun d => d.parameters.length) = some 0 by decide +kernel) ⟨by decide, by decide⟩ (rest := [.int x1]) (stk2 := [.int v9, .int x1]) (by rw [g9]; rfl) rfl (Nat.le_of_ble_eq_true rfl) hl dX11_accountAt_9 ?_
    refine v_icmp_lt C 19 (by decide) dX11_accountAt_12 (fun c12 => ?_) (fun c12 => ?_)
    · rw [if_pos c12] at hr
      refine v_aload_n C (lv_at hl 0 rfl) rfl dX11_accountAt_19 ?_
      obtain ⟨v20, e20, hr⟩ := ob hr
      refine v_getR C fl_RX11_23 rfl e20 dX11_accountAt_20 ?_
      refine v_iload_n C (lv_at hl 1 rfl) rfl dX11_accountAt_23 ?_
      obtain ⟨b24, f24, hr⟩ := ob hr
      obtain ⟨g24, h24⟩ := rcv_n f24
      obtain ⟨v24, e24, hr⟩ := ob hr
      refine v_callV C (b := b24) h24 (by decide) rfl rfl (k_Jx4a65c_get_915e3 e24) cw_Jx4a65c_get_915e3 w_449 w_450 w_451 (show (parseMethodDescriptor (yJx4a65c_get_915e3).desc).map (fun d => d.parameters.length) = some 1 by decide +kernel) ⟨by decide, by decide⟩ (rest := []) (stk2 := [va_rf v24]) (by rw [g24]; rfl) rfl (Nat.le_of_ble_eq_true rfl) hl dX11_accountAt_24 ?_
      obtain ⟨v27, e27, hr⟩ := ob hr
      refine v_cast C e27 (by decide) rfl w_550 dX11_accountAt_27 ?_
      obtain rfl := os hr
      exact v_aret C (Or.inl ⟨_, rfl⟩) dX11_accountAt_30
    · rw [if_neg c12] at hr
      refine v_null C dX11_accountAt_15 ?_
      refine v_goto C 30 (by decide) dX11_accountAt_16 ?_
      obtain rfl := os hr
      exact v_aret C (Or.inl ⟨_, rfl⟩) dX11_accountAt_30
-- X11_takesEntry
def f_X11_takesEntry (S : St) (x0 : Nat) (x1 : Option Nat) (x2 : Int32) : Option Int32 :=
    (getI S x1 1 4).bind fun v2 =>
    (if x2 < v2 then
    some 0
    else
    (getI S (some x0) 12 0).bind fun v10 =>
    (if v10 < x2 then
    some 0
    else
    (getI S (some x0) 12 5).bind fun v17 =>
    (if (600 : Int32) ≤ v17 then
    some 0
    else
    some 1)))
theorem k_X11_takesEntry {l : Launch} {G : Ge} {S : St} {x0 : Nat} {x1 : Option Nat} {x2 : Int32} {rr : Int32} (hr : f_X11_takesEntry S x0 x1 x2 = some rr) : Ct l G yX11_takesEntry cX11_takesEntry 3 (Option.some Jvm.ClassFile.FieldType.boolean) S [va_rf (some x0), va_rf x1, .int x2] (some (.int rr)) S 0 0 := by
  refine ct_of (by decide +kernel) (by cases x1 <;> exact Nat.le_of_ble_eq_true rfl) ?_
  intro p e s m args below meth c C ls hl
  have hl : lv_has ls 3 [(0, va_rf (some x0)), (1, va_rf x1), (2, .int x2)] := by clear hr; cases x1 <;> exact hl
  unfold f_X11_takesEntry at hr
  refine v_iload_n C (lv_at hl 2 rfl) rfl dX11_takesEntry_0 ?_
  refine v_aload_n C (lv_at hl 1 rfl) rfl dX11_takesEntry_1 ?_
  obtain ⟨v2, e2, hr⟩ := ob hr
  refine v_getI C fl_RX11_199 rfl e2 dX11_takesEntry_2 ?_
  refine v_icmp_lt C 30 (by decide) dX11_takesEntry_5 (fun c5 => ?_) (fun c5 => ?_)
  · rw [if_pos c5] at hr
    refine v_iconst C 0 (by decide) dX11_takesEntry_30 ?_
    obtain rfl := os hr
    exact v_zret C rfl dX11_takesEntry_31
  · rw [if_neg c5] at hr
    refine v_iload_n C (lv_at hl 2 rfl) rfl dX11_takesEntry_8 ?_
    refine v_aload_n C (lv_at hl 0 rfl) rfl dX11_takesEntry_9 ?_
    obtain ⟨v10, e10, hr⟩ := ob hr
    refine v_getI C fl_RX11_7 rfl e10 dX11_takesEntry_10 ?_
    refine v_icmp_gt C 30 (by decide) dX11_takesEntry_13 (fun c13 => ?_) (fun c13 => ?_)
    · rw [if_pos c13] at hr
      refine v_iconst C 0 (by decide) dX11_takesEntry_30 ?_
      obtain rfl := os hr
      exact v_zret C rfl dX11_takesEntry_31
    · rw [if_neg c13] at hr
      refine v_aload_n C (lv_at hl 0 rfl) rfl dX11_takesEntry_16 ?_
      obtain ⟨v17, e17, hr⟩ := ob hr
      refine v_getI C fl_RX11_29 rfl e17 dX11_takesEntry_17 ?_
      refine v_sipush C 600 (by decide) dX11_takesEntry_20 ?_
      refine v_icmp_ge C 30 (by decide) dX11_takesEntry_23 (fun c23 => ?_) (fun c23 => ?_)
      · rw [if_pos c23] at hr
        refine v_iconst C 0 (by decide) dX11_takesEntry_30 ?_
        obtain rfl := os hr
        exact v_zret C rfl dX11_takesEntry_31
      · rw [if_neg c23] at hr
        refine v_iconst C 1 (by decide) dX11_takesEntry_26 ?_
        refine v_goto C 31 (by decide) dX11_takesEntry_27 ?_
        obtain rfl := os hr
        exact v_zret C rfl dX11_takesEntry_31
-- X3_init
def f_X3_init (S : St) (x0 : Nat) (x1 : Int32) (x2 : Int32) (x3 : Int32) (x4 : Int32) (x5 : Int32) (x6 : Int32) : Option St :=
    (putI S (some x0) 4 0 x1).bind fun S6 =>
    (putI S6 (some x0) 4 1 x2).bind fun S11 =>
    (putI S11 (some x0) 4 2 x3).bind fun S16 =>
    (putI S16 (some x0) 4 3 x4).bind fun S22 =>
    (putI S22 (some x0) 4 4 x5).bind fun S28 =>
    (putI S28 (some x0) 4 5 x6).bind fun S34 =>
    some S34
theorem k_X3_init {l : Launch} {G : Ge} {S S' : St} {x0 : Nat} {x1 : Int32} {x2 : Int32} {x3 : Int32} {x4 : Int32} {x5 : Int32} {x6 : Int32} (hr : f_X3_init S x0 x1 x2 x3 x4 x5 x6 = some S') : Ct l G yX3_init cX3_init 7 (Option.none : Option Jvm.ClassFile.FieldType) S [va_rf (some x0), .int x1, .int x2, .int x3, .int x4, .int x5, .int x6] none S' 1 36 := by
  refine ct_of (by decide +kernel) (Nat.le_of_ble_eq_true rfl) ?_
  intro p e s m args below meth c C ls hl
  have hl : lv_has ls 7 [(0, va_rf (some x0)), (1, .int x1), (2, .int x2), (3, .int x3), (4, .int x4), (5, .int x5), (6, .int x6)] := hl
  unfold f_X3_init at hr
  refine v_aload_n C (lv_at hl 0 rfl) rfl dX3_init_0 ?_
  refine v_objInit C (b := x0) w_621 w_134 w_135 ⟨by decide, by decide⟩ (Nat.le_of_ble_eq_true rfl) hl dX3_init_1 ?_
  refine v_aload_n C (lv_at hl 0 rfl) rfl dX3_init_4 ?_
  refine v_iload_n C (lv_at hl 1 rfl) rfl dX3_init_5 ?_
  obtain ⟨S6, e6, hr⟩ := ob hr
  refine v_putI C fl_RX3_7 (Or.inr ⟨rfl, rfl⟩) rfl e6 dX3_init_6 ?_
  refine v_aload_n C (lv_at hl 0 rfl) rfl dX3_init_9 ?_
  refine v_iload_n C (lv_at hl 2 rfl) rfl dX3_init_10 ?_
  obtain ⟨S11, e11, hr⟩ := ob hr
  refine v_putI C fl_RX3_13 (Or.inr ⟨rfl, rfl⟩) rfl e11 dX3_init_11 ?_
  refine v_aload_n C (lv_at hl 0 rfl) rfl dX3_init_14 ?_
  refine v_iload_n C (lv_at hl 3 rfl) rfl dX3_init_15 ?_
  obtain ⟨S16, e16, hr⟩ := ob hr
  refine v_putI C fl_RX3_16 (Or.inr ⟨rfl, rfl⟩) rfl e16 dX3_init_16 ?_
  refine v_aload_n C (lv_at hl 0 rfl) rfl dX3_init_19 ?_
  refine v_iload C (lv_at hl 4 rfl) dX3_init_20 ?_
  obtain ⟨S22, e22, hr⟩ := ob hr
  refine v_putI C fl_RX3_19 (Or.inr ⟨rfl, rfl⟩) rfl e22 dX3_init_22 ?_
  refine v_aload_n C (lv_at hl 0 rfl) rfl dX3_init_25 ?_
  refine v_iload C (lv_at hl 5 rfl) dX3_init_26 ?_
  obtain ⟨S28, e28, hr⟩ := ob hr
  refine v_putI C fl_RX3_22 (Or.inr ⟨rfl, rfl⟩) rfl e28 dX3_init_28 ?_
  refine v_aload_n C (lv_at hl 0 rfl) rfl dX3_init_31 ?_
  refine v_iload C (lv_at hl 6 rfl) dX3_init_32 ?_
  obtain ⟨S34, e34, hr⟩ := ob hr
  refine v_putI C fl_RX3_25 (Or.inr ⟨rfl, rfl⟩) rfl e34 dX3_init_34 ?_
  obtain rfl := os hr
  exact v_vret C dX3_init_37
-- X11_act
def f_X11_act (S : St) (x0 : Nat) (x1 : Int32) (x2 : Int32) (x3 : Int32) (x4 : Int32) : Option (Int32 × St) :=
    (rcv S (some x0) 12).bind fun b2 =>
    (f_X11_accountAt S b2 x1).bind fun v2 =>
    (if v2 = none then
    some (0, S)
    else
    (rcv S (some x0) 12).bind fun b16 =>
    (f_X11_takesEntry S b16 v2 x3).bind fun v16 =>
    (if v16 = 0 then
    some (0, S)
    else
    (f_X11_isWithin S x2 6).bind fun v25 =>
    (if v25 = 0 then
    some (0, S)
    else
    (if x4 < (-9999999) then
    some (0, S)
    else
    (if x4 ≤ 9999999 then
    (newO S 4).bind fun (a51, S51) =>
    (getI S51 (some x0) 12 0).bind fun v58 =>
    (rcv S51 (some a51) 4).bind fun b65 =>
    (f_X3_init S51 b65 x2 x3 v58 1 1 x4).bind fun S65 =>
    (rcv S65 v2 1).bind fun b68 =>
    (f_X0_tell S65 b68 (some a51)).bind fun S68 =>
    (getI S68 (some x0) 12 5).bind fun v73 =>
    (putI S68 (some x0) 12 5 (v73 + 1)).bind fun S78 =>
    some (1, S78)
    else
    some (0, S))))))
theorem k_X11_act {l : Launch} {G : Ge} {S S' : St} {x0 : Nat} {x1 : Int32} {x2 : Int32} {x3 : Int32} {x4 : Int32} {rr : Int32} (hr : f_X11_act S x0 x1 x2 x3 x4 = some (rr, S')) : Ct l G yX11_act cX11_act 6 (Option.some Jvm.ClassFile.FieldType.boolean) S [va_rf (some x0), .int x1, .int x2, .int x3, .int x4] (some (.int rr)) S' 7 169 := by
  refine ct_of (by decide +kernel) (Nat.le_of_ble_eq_true rfl) ?_
  intro p e s m args below meth c C ls hl
  have hl : lv_has ls 6 [(0, va_rf (some x0)), (1, .int x1), (2, .int x2), (3, .int x3), (4, .int x4)] := hl
  unfold f_X11_act at hr
  refine v_aload_n C (lv_at hl 0 rfl) rfl dX11_act_0 ?_
  refine v_iload_n C (lv_at hl 1 rfl) rfl dX11_act_1 ?_
  obtain ⟨b2, f2, hr⟩ := ob hr
  obtain ⟨g2, h2⟩ := rcv_n f2
  obtain ⟨v2, e2, hr⟩ := ob hr
  refine v_callV C (b := b2) h2 (by decide) rfl rfl (k_X11_accountAt e2) cw_X11_accountAt w_606 w_608 w_8 (show (parseMethodDescriptor (yX11_accountAt).desc).map (fun d => d.parameters.length) = some 1 by decide +kernel) ⟨by decide, by decide⟩ (rest := []) (stk2 := [va_rf v2]) (by rw [g2]; rfl) rfl (Nat.le_of_ble_eq_true rfl) hl dX11_act_2 ?_
  refine v_astore C (i := 5) (lv' := [(5, va_rf v2), (0, va_rf (some x0)), (1, .int x1), (2, .int x2), (3, .int x3), (4, .int x4)]) hl (by decide) rfl dX11_act_5 (fun ls hl => ?_)
  refine v_aload C (lv_at hl 0 rfl) dX11_act_7 ?_
  refine v_ifnull C 31 (by decide) dX11_act_9 (fun c9 => ?_) (fun c9 => ?_)
  · rw [if_pos c9] at hr
    refine v_iconst C 0 (by decide) dX11_act_31 ?_
    obtain ⟨rfl, rfl⟩ := Prod.mk.inj (os hr)
    exact v_zret C rfl dX11_act_32
  · rw [if_neg c9] at hr
    refine v_aload_n C (lv_at hl 1 rfl) rfl dX11_act_12 ?_
    refine v_aload C (lv_at hl 0 rfl) dX11_act_13 ?_
    refine v_iload_n C (lv_at hl 4 rfl) rfl dX11_act_15 ?_
    obtain ⟨b16, f16, hr⟩ := ob hr
    obtain ⟨g16, h16⟩ := rcv_n f16
    obtain ⟨v16, e16, hr⟩ := ob hr
    refine v_callV C (b := b16) h16 (by decide) rfl rfl (k_X11_takesEntry e16) cw_X11_takesEntry w_610 w_612 w_9 (show (parseMethodDescriptor (yX11_takesEntry).desc).map (fun d => d.parameters.length) = some 2 by decide +kernel) ⟨by decide, by decide⟩ (rest := []) (stk2 := [.int v16]) (by rw [g16]; rfl) rfl (Nat.le_of_ble_eq_true rfl) hl dX11_act_16 ?_
    refine v_if_eq C 31 (by decide) dX11_act_19 (fun c19 => ?_) (fun c19 => ?_)
    · rw [if_pos c19] at hr
      refine v_iconst C 0 (by decide) dX11_act_31 ?_
      obtain ⟨rfl, rfl⟩ := Prod.mk.inj (os hr)
      exact v_zret C rfl dX11_act_32
    · rw [if_neg c19] at hr
      refine v_iload_n C (lv_at hl 3 rfl) rfl dX11_act_22 ?_
      refine v_bipush C 6 (by decide) dX11_act_23 ?_
      obtain ⟨v25, e25, hr⟩ := ob hr
      refine v_callS C (k_X11_isWithin e25) cw_X11_isWithin w_349 w_350 (show (parseMethodDescriptor (yX11_isWithin).desc).map (fun d => d.parameters.length) = some 2 by decide +kernel) ⟨by decide, by decide⟩ (rest := []) (stk2 := [.int v25]) rfl rfl (Nat.le_of_ble_eq_true rfl) hl dX11_act_25 ?_
      refine v_if_ne C 33 (by decide) dX11_act_28 (fun c28 => ?_) (fun c28 => ?_)
      · rw [if_neg c28] at hr
        refine v_iload C (lv_at hl 5 rfl) dX11_act_33 ?_
        refine v_ldc C w_614 dX11_act_35 ?_
        refine v_icmp_lt C 47 (by decide) dX11_act_37 (fun c37 => ?_) (fun c37 => ?_)
        · rw [if_pos c37] at hr
          refine v_iconst C 0 (by decide) dX11_act_47 ?_
          obtain ⟨rfl, rfl⟩ := Prod.mk.inj (os hr)
          exact v_zret C rfl dX11_act_48
        · rw [if_neg c37] at hr
          refine v_iload C (lv_at hl 5 rfl) dX11_act_40 ?_
          refine v_ldc C w_615 dX11_act_42 ?_
          refine v_icmp_le C 49 (by decide) dX11_act_44 (fun c44 => ?_) (fun c44 => ?_)
          · rw [if_pos c44] at hr
            refine v_aload C (lv_at hl 0 rfl) dX11_act_49 ?_
            obtain ⟨⟨a51, S51⟩, e51, hr⟩ := ob hr
            (try dsimp only at hr)
            refine v_newO C e51 (by decide) rfl w_616 w_617 w_120 lay_4 tyo_4 dfo_4 dX11_act_51 ?_
            refine v_dup C (rf_cat _) dX11_act_54 ?_
            refine v_iload_n C (lv_at hl 3 rfl) rfl dX11_act_55 ?_
            refine v_iload_n C (lv_at hl 4 rfl) rfl dX11_act_56 ?_
            refine v_aload_n C (lv_at hl 1 rfl) rfl dX11_act_57 ?_
            obtain ⟨v58, e58, hr⟩ := ob hr
            refine v_getI C fl_RX11_7 rfl e58 dX11_act_58 ?_
            refine v_iconst C 1 (by decide) dX11_act_61 ?_
            refine v_iconst C 1 (by decide) dX11_act_62 ?_
            refine v_iload C (lv_at hl 5 rfl) dX11_act_63 ?_
            obtain ⟨b65, f65, hr⟩ := ob hr
            obtain ⟨g65, h65⟩ := rcv_n f65
            obtain ⟨S65, e65, hr⟩ := ob hr
            refine v_callI C (b := b65) (k_X3_init e65) cw_X3_init w_618 w_619 rfl (show (parseMethodDescriptor (yX3_init).desc).map (fun d => d.parameters.length) = some 6 by decide +kernel) ⟨by decide, by decide⟩ (rest := [va_rf (some a51), va_rf v2]) (stk2 := [va_rf (some a51), va_rf v2]) (by rw [g65]; rfl) rfl (by simp [rf_cat, cat_i, cat_l]) hl dX11_act_65 ?_
            obtain ⟨b68, f68, hr⟩ := ob hr
            obtain ⟨g68, h68⟩ := rcv_n f68
            obtain ⟨S68, e68, hr⟩ := ob hr
            refine v_callV C (b := b68) h68 (by decide) rfl rfl (k_X0_tell e68) cw_X0_tell w_644 w_645 w_646 (show (parseMethodDescriptor (yX0_tell).desc).map (fun d => d.parameters.length) = some 1 by decide +kernel) ⟨by decide, by decide⟩ (rest := []) (stk2 := []) (by rw [g68]; rfl) rfl (Nat.le_of_ble_eq_true rfl) hl dX11_act_68 ?_
            refine v_aload_n C (lv_at hl 1 rfl) rfl dX11_act_71 ?_
            refine v_dup C (rf_cat _) dX11_act_72 ?_
            obtain ⟨v73, e73, hr⟩ := ob hr
            refine v_getI C fl_RX11_29 rfl e73 dX11_act_73 ?_
            refine v_iconst C 1 (by decide) dX11_act_76 ?_
            refine v_iadd C dX11_act_77 ?_
            obtain ⟨S78, e78, hr⟩ := ob hr
            refine v_putI C fl_RX11_29 (Or.inl rfl) rfl e78 dX11_act_78 ?_
            refine v_iconst C 1 (by decide) dX11_act_81 ?_
            obtain ⟨rfl, rfl⟩ := Prod.mk.inj (os hr)
            exact v_zret C rfl dX11_act_82
          · rw [if_neg c44] at hr
            refine v_iconst C 0 (by decide) dX11_act_47 ?_
            obtain ⟨rfl, rfl⟩ := Prod.mk.inj (os hr)
            exact v_zret C rfl dX11_act_48
      · rw [if_pos c28] at hr
        refine v_iconst C 0 (by decide) dX11_act_31 ?_
        obtain ⟨rfl, rfl⟩ := Prod.mk.inj (os hr)
        exact v_zret C rfl dX11_act_32
-- X4_figureAhead
def f_X4_figureAhead_2 : Nat → St → Nat → Int32 → Option (Int32)
  | 0, _, _, _ => none
  | n + 1, S, x0, x2 =>
    (if x2 < 0 then
    some (-1)
    else
    (getR S (some x0) 5 4).bind fun v8 =>
    (alen S v8).bind fun v11 =>
    (if v11 ≤ x2 then
    some (-1)
    else
    (getR S (some x0) 5 4).bind fun v16 =>
    (ldI S v16 15 x2).bind fun v20 =>
    (if v20 = (-1) then
    f_X4_figureAhead_2 n S x0 (x2 + (-1))
    else
    (getR S (some x0) 5 4).bind fun v26 =>
    (ldI S v26 15 x2).bind fun v30 =>
    some v30)))
def f_X4_figureAhead (S : St) (x0 : Nat) (x1 : Int32) : Option Int32 :=
    f_X4_figureAhead_2 FU S x0 x1
theorem b_X4_figureAhead_2  {S : St} {rr : Int32} (C : Cx p s m args meth c G S yX4_figureAhead cX4_figureAhead 3 (Option.some Jvm.ClassFile.FieldType.int)) {o : (Int32)} (kR : ∀ (v : Int32), o = v → rr = v) : ∀ (n : Nat) {x0 : Nat} {x2 : Int32}, f_X4_figureAhead_2 n S x0 x2 = some o → ∀ ls : Array Slot, lv_has ls 3 [(0, va_rf (some x0)), (2, .int x2)] → V p l e (rmo 0 0 S) s m args below meth c G S S (QM below args s G S S (some (.int rr))) (F0 m 2 ls []) := by
  intro n
  induction n with
  | zero => intro x0 x2 hr; cases hr
  | succ n ih =>
    intro x0 x2 hr ls hl
    unfold f_X4_figureAhead_2 at hr
    refine v_iload_n C (lv_at hl 1 rfl) rfl dX4_figureAhead_2 ?_
    refine v_if_lt C 38 (by decide) dX4_figureAhead_3 (fun c3 => ?_) (fun c3 => ?_)
    · rw [if_pos c3] at hr
      refine v_iconst C (-1) (by decide) dX4_figureAhead_38 ?_
      obtain rfl := os hr
      obtain rfl := kR _ rfl
      exact v_iret C dX4_figureAhead_39
    · rw [if_neg c3] at hr
      refine v_iload_n C (lv_at hl 1 rfl) rfl dX4_figureAhead_6 ?_
      refine v_aload_n C (lv_at hl 0 rfl) rfl dX4_figureAhead_7 ?_
      obtain ⟨v8, e8, hr⟩ := ob hr
      refine v_getR C fl_RX4_19 rfl e8 dX4_figureAhead_8 ?_
      obtain ⟨v11, e11, hr⟩ := ob hr
      refine v_alen C e11 dX4_figureAhead_11 ?_
      refine v_icmp_ge C 38 (by decide) dX4_figureAhead_12 (fun c12 => ?_) (fun c12 => ?_)
      · rw [if_pos c12] at hr
        refine v_iconst C (-1) (by decide) dX4_figureAhead_38 ?_
        obtain rfl := os hr
        obtain rfl := kR _ rfl
        exact v_iret C dX4_figureAhead_39
      · rw [if_neg c12] at hr
        refine v_aload_n C (lv_at hl 0 rfl) rfl dX4_figureAhead_15 ?_
        obtain ⟨v16, e16, hr⟩ := ob hr
        refine v_getR C fl_RX4_19 rfl e16 dX4_figureAhead_16 ?_
        refine v_iload_n C (lv_at hl 1 rfl) rfl dX4_figureAhead_19 ?_
        obtain ⟨v20, e20, hr⟩ := ob hr
        refine v_ldI_i C e20 dX4_figureAhead_20 ?_
        refine v_iconst C (-1) (by decide) dX4_figureAhead_21 ?_
        refine v_icmp_eq C 32 (by decide) dX4_figureAhead_22 (fun c22 => ?_) (fun c22 => ?_)
        · rw [if_pos c22] at hr
          refine v_iinc C (x2 + (-1)) (k0 := 1) (lv' := [(2, .int (x2 + (-1))), (0, va_rf (some x0))]) hl rfl (congrArg (fun z => x2 + z) (show Int32.ofInt (-1) = (-1) by decide)) (by decide) rfl dX4_figureAhead_32 (fun ls hl => ?_)
          refine v_goto C 2 (by decide) dX4_figureAhead_35 ?_
          exact ih hr _ (lv_sub hl [1, 0] rfl)
        · rw [if_neg c22] at hr
          refine v_aload_n C (lv_at hl 0 rfl) rfl dX4_figureAhead_25 ?_
          obtain ⟨v26, e26, hr⟩ := ob hr
          refine v_getR C fl_RX4_19 rfl e26 dX4_figureAhead_26 ?_
          refine v_iload_n C (lv_at hl 1 rfl) rfl dX4_figureAhead_29 ?_
          obtain ⟨v30, e30, hr⟩ := ob hr
          refine v_ldI_i C e30 dX4_figureAhead_30 ?_
          obtain rfl := os hr
          obtain rfl := kR _ rfl
          exact v_iret C dX4_figureAhead_31
theorem k_X4_figureAhead {l : Launch} {G : Ge} {S : St} {x0 : Nat} {x1 : Int32} {rr : Int32} (hr : f_X4_figureAhead S x0 x1 = some rr) : Ct l G yX4_figureAhead cX4_figureAhead 3 (Option.some Jvm.ClassFile.FieldType.int) S [va_rf (some x0), .int x1] (some (.int rr)) S 0 0 := by
  refine ct_of (by decide +kernel) (Nat.le_of_ble_eq_true rfl) ?_
  intro p e s m args below meth c C ls hl
  have hl : lv_has ls 3 [(0, va_rf (some x0)), (1, .int x1)] := hl
  unfold f_X4_figureAhead at hr
  refine v_iload_n C (lv_at hl 1 rfl) rfl dX4_figureAhead_0 ?_
  refine v_istore_n C (i := 2) (lv' := [(2, .int x1), (0, va_rf (some x0)), (1, .int x1)]) hl rfl (by decide) rfl dX4_figureAhead_1 (fun ls hl => ?_)
  exact b_X4_figureAhead_2 C (fun _ q => by cases q; rfl) FU hr _ (lv_sub hl [1, 0] rfl)
-- X4_figureBehind
def f_X4_figureBehind_2 : Nat → St → Nat → Int32 → Option (Int32)
  | 0, _, _, _ => none
  | n + 1, S, x0, x2 =>
    (if x2 < 0 then
    some (-1)
    else
    (getR S (some x0) 5 4).bind fun v8 =>
    (alen S v8).bind fun v11 =>
    (if v11 ≤ x2 then
    some (-1)
    else
    (getR S (some x0) 5 4).bind fun v16 =>
    (ldI S v16 15 x2).bind fun v20 =>
    (if v20 = (-1) then
    f_X4_figureBehind_2 n S x0 (x2 + 1)
    else
    (getR S (some x0) 5 4).bind fun v26 =>
    (ldI S v26 15 x2).bind fun v30 =>
    some v30)))
def f_X4_figureBehind (S : St) (x0 : Nat) (x1 : Int32) : Option Int32 :=
    f_X4_figureBehind_2 FU S x0 x1
theorem b_X4_figureBehind_2  {S : St} {rr : Int32} (C : Cx p s m args meth c G S yX4_figureBehind cX4_figureBehind 3 (Option.some Jvm.ClassFile.FieldType.int)) {o : (Int32)} (kR : ∀ (v : Int32), o = v → rr = v) : ∀ (n : Nat) {x0 : Nat} {x2 : Int32}, f_X4_figureBehind_2 n S x0 x2 = some o → ∀ ls : Array Slot, lv_has ls 3 [(0, va_rf (some x0)), (2, .int x2)] → V p l e (rmo 0 0 S) s m args below meth c G S S (QM below args s G S S (some (.int rr))) (F0 m 2 ls []) := by
  intro n
  induction n with
  | zero => intro x0 x2 hr; cases hr
  | succ n ih =>
    intro x0 x2 hr ls hl
    unfold f_X4_figureBehind_2 at hr
    refine v_iload_n C (lv_at hl 1 rfl) rfl dX4_figureBehind_2 ?_
    refine v_if_lt C 38 (by decide) dX4_figureBehind_3 (fun c3 => ?_) (fun c3 => ?_)
    · rw [if_pos c3] at hr
      refine v_iconst C (-1) (by decide) dX4_figureBehind_38 ?_
      obtain rfl := os hr
      obtain rfl := kR _ rfl
      exact v_iret C dX4_figureBehind_39
    · rw [if_neg c3] at hr
      refine v_iload_n C (lv_at hl 1 rfl) rfl dX4_figureBehind_6 ?_
      refine v_aload_n C (lv_at hl 0 rfl) rfl dX4_figureBehind_7 ?_
      obtain ⟨v8, e8, hr⟩ := ob hr
      refine v_getR C fl_RX4_19 rfl e8 dX4_figureBehind_8 ?_
      obtain ⟨v11, e11, hr⟩ := ob hr
      refine v_alen C e11 dX4_figureBehind_11 ?_
      refine v_icmp_ge C 38 (by decide) dX4_figureBehind_12 (fun c12 => ?_) (fun c12 => ?_)
      · rw [if_pos c12] at hr
        refine v_iconst C (-1) (by decide) dX4_figureBehind_38 ?_
        obtain rfl := os hr
        obtain rfl := kR _ rfl
        exact v_iret C dX4_figureBehind_39
      · rw [if_neg c12] at hr
        refine v_aload_n C (lv_at hl 0 rfl) rfl dX4_figureBehind_15 ?_
        obtain ⟨v16, e16, hr⟩ := ob hr
        refine v_getR C fl_RX4_19 rfl e16 dX4_figureBehind_16 ?_
        refine v_iload_n C (lv_at hl 1 rfl) rfl dX4_figureBehind_19 ?_
        obtain ⟨v20, e20, hr⟩ := ob hr
        refine v_ldI_i C e20 dX4_figureBehind_20 ?_
        refine v_iconst C (-1) (by decide) dX4_figureBehind_21 ?_
        refine v_icmp_eq C 32 (by decide) dX4_figureBehind_22 (fun c22 => ?_) (fun c22 => ?_)
        · rw [if_pos c22] at hr
          refine v_iinc C (x2 + 1) (k0 := 1) (lv' := [(2, .int (x2 + 1)), (0, va_rf (some x0))]) hl rfl rfl (by decide) rfl dX4_figureBehind_32 (fun ls hl => ?_)
          refine v_goto C 2 (by decide) dX4_figureBehind_35 ?_
          exact ih hr _ (lv_sub hl [1, 0] rfl)
        · rw [if_neg c22] at hr
          refine v_aload_n C (lv_at hl 0 rfl) rfl dX4_figureBehind_25 ?_
          obtain ⟨v26, e26, hr⟩ := ob hr
          refine v_getR C fl_RX4_19 rfl e26 dX4_figureBehind_26 ?_
          refine v_iload_n C (lv_at hl 1 rfl) rfl dX4_figureBehind_29 ?_
          obtain ⟨v30, e30, hr⟩ := ob hr
          refine v_ldI_i C e30 dX4_figureBehind_30 ?_
          obtain rfl := os hr
          obtain rfl := kR _ rfl
          exact v_iret C dX4_figureBehind_31
theorem k_X4_figureBehind {l : Launch} {G : Ge} {S : St} {x0 : Nat} {x1 : Int32} {rr : Int32} (hr : f_X4_figureBehind S x0 x1 = some rr) : Ct l G yX4_figureBehind cX4_figureBehind 3 (Option.some Jvm.ClassFile.FieldType.int) S [va_rf (some x0), .int x1] (some (.int rr)) S 0 0 := by
  refine ct_of (by decide +kernel) (Nat.le_of_ble_eq_true rfl) ?_
  intro p e s m args below meth c C ls hl
  have hl : lv_has ls 3 [(0, va_rf (some x0)), (1, .int x1)] := hl
  unfold f_X4_figureBehind at hr
  refine v_iload_n C (lv_at hl 1 rfl) rfl dX4_figureBehind_0 ?_
  refine v_istore_n C (i := 2) (lv' := [(2, .int x1), (0, va_rf (some x0)), (1, .int x1)]) hl rfl (by decide) rfl dX4_figureBehind_1 (fun ls hl => ?_)
  exact b_X4_figureBehind_2 C (fun _ q => by cases q; rfl) FU hr _ (lv_sub hl [1, 0] rfl)
-- X4_greatestIn
def f_X4_greatestIn (S : St) (x0 : Nat) (x1 : Int32) : Option Int32 :=
    (rcv S (some x0) 5).bind fun b3 =>
    (f_X4_figureAhead S b3 x1).bind fun v3 =>
    (rcv S (some x0) 5).bind fun b8 =>
    (f_X4_figureBehind S b8 x1).bind fun v8 =>
    (f_J9_max_7cf53 S v3 v8).bind fun v11 =>
    (f_J9_max_7cf53 S 0 v11).bind fun v14 =>
    some v14
theorem k_X4_greatestIn {l : Launch} {G : Ge} {S : St} {x0 : Nat} {x1 : Int32} {rr : Int32} (hr : f_X4_greatestIn S x0 x1 = some rr) : Ct l G yX4_greatestIn cX4_greatestIn 2 (Option.some Jvm.ClassFile.FieldType.int) S [va_rf (some x0), .int x1] (some (.int rr)) S 1 22 := by
  refine ct_of (by decide +kernel) (Nat.le_of_ble_eq_true rfl) ?_
  intro p e s m args below meth c C ls hl
  have hl : lv_has ls 2 [(0, va_rf (some x0)), (1, .int x1)] := hl
  unfold f_X4_greatestIn at hr
  refine v_iconst C 0 (by decide) dX4_greatestIn_0 ?_
  refine v_aload_n C (lv_at hl 0 rfl) rfl dX4_greatestIn_1 ?_
  refine v_iload_n C (lv_at hl 1 rfl) rfl dX4_greatestIn_2 ?_
  obtain ⟨b3, f3, hr⟩ := ob hr
  obtain ⟨g3, h3⟩ := rcv_n f3
  obtain ⟨v3, e3, hr⟩ := ob hr
  refine v_callV C (b := b3) h3 (by decide) rfl rfl (k_X4_figureAhead e3) cw_X4_figureAhead w_1219 w_1221 w_42 (show (parseMethodDescriptor (yX4_figureAhead).desc).map (fun d => d.parameters.length) = some 1 by decide +kernel) ⟨by decide, by decide⟩ (rest := [.int 0]) (stk2 := [.int v3, .int 0]) (by rw [g3]; rfl) rfl (Nat.le_of_ble_eq_true rfl) hl dX4_greatestIn_3 ?_
  refine v_aload_n C (lv_at hl 0 rfl) rfl dX4_greatestIn_6 ?_
  refine v_iload_n C (lv_at hl 1 rfl) rfl dX4_greatestIn_7 ?_
  obtain ⟨b8, f8, hr⟩ := ob hr
  obtain ⟨g8, h8⟩ := rcv_n f8
  obtain ⟨v8, e8, hr⟩ := ob hr
  refine v_callV C (b := b8) h8 (by decide) rfl rfl (k_X4_figureBehind e8) cw_X4_figureBehind w_1223 w_1225 w_43 (show (parseMethodDescriptor (yX4_figureBehind).desc).map (fun d => d.parameters.length) = some 1 by decide +kernel) ⟨by decide, by decide⟩ (rest := [.int v3, .int 0]) (stk2 := [.int v8, .int v3, .int 0]) (by rw [g8]; rfl) rfl (Nat.le_of_ble_eq_true rfl) hl dX4_greatestIn_8 ?_
  obtain ⟨v11, e11, hr⟩ := ob hr
  refine v_callS C (k_J9_max_7cf53 e11) cw_J9_max_7cf53 w_1227 w_169 (show (parseMethodDescriptor (yJ9_max_7cf53).desc).map (fun d => d.parameters.length) = some 2 by decide +kernel) ⟨by decide, by decide⟩ (rest := [.int 0]) (stk2 := [.int v11, .int 0]) rfl rfl (Nat.le_of_ble_eq_true rfl) hl dX4_greatestIn_11 ?_
  obtain ⟨v14, e14, hr⟩ := ob hr
  refine v_callS C (k_J9_max_7cf53 e14) cw_J9_max_7cf53 w_1227 w_169 (show (parseMethodDescriptor (yJ9_max_7cf53).desc).map (fun d => d.parameters.length) = some 2 by decide +kernel) ⟨by decide, by decide⟩ (rest := []) (stk2 := [.int v14]) rfl rfl (Nat.le_of_ble_eq_true rfl) hl dX4_greatestIn_14 ?_
  obtain rfl := os hr
  exact v_iret C dX4_greatestIn_17
-- X4_leastIn
def f_X4_leastIn (S : St) (x0 : Nat) (x1 : Int32) : Option Int32 :=
    (rcv S (some x0) 5).bind fun b2 =>
    (f_X4_figureAhead S b2 x1).bind fun v2 =>
    (rcv S (some x0) 5).bind fun b8 =>
    (f_X4_figureBehind S b8 x1).bind fun v8 =>
    (if v2 = (-1) then
    some 0
    else
    (if v8 = (-1) then
    some 0
    else
    (f_J9_min_7cf53 S v2 v8).bind fun v28 =>
    some v28))
theorem k_X4_leastIn {l : Launch} {G : Ge} {S : St} {x0 : Nat} {x1 : Int32} {rr : Int32} (hr : f_X4_leastIn S x0 x1 = some rr) : Ct l G yX4_leastIn cX4_leastIn 4 (Option.some Jvm.ClassFile.FieldType.int) S [va_rf (some x0), .int x1] (some (.int rr)) S 1 22 := by
  refine ct_of (by decide +kernel) (Nat.le_of_ble_eq_true rfl) ?_
  intro p e s m args below meth c C ls hl
  have hl : lv_has ls 4 [(0, va_rf (some x0)), (1, .int x1)] := hl
  unfold f_X4_leastIn at hr
  refine v_aload_n C (lv_at hl 0 rfl) rfl dX4_leastIn_0 ?_
  refine v_iload_n C (lv_at hl 1 rfl) rfl dX4_leastIn_1 ?_
  obtain ⟨b2, f2, hr⟩ := ob hr
  obtain ⟨g2, h2⟩ := rcv_n f2
  obtain ⟨v2, e2, hr⟩ := ob hr
  refine v_callV C (b := b2) h2 (by decide) rfl rfl (k_X4_figureAhead e2) cw_X4_figureAhead w_1219 w_1221 w_42 (show (parseMethodDescriptor (yX4_figureAhead).desc).map (fun d => d.parameters.length) = some 1 by decide +kernel) ⟨by decide, by decide⟩ (rest := []) (stk2 := [.int v2]) (by rw [g2]; rfl) rfl (Nat.le_of_ble_eq_true rfl) hl dX4_leastIn_2 ?_
  refine v_istore_n C (i := 2) (lv' := [(2, .int v2), (0, va_rf (some x0)), (1, .int x1)]) hl rfl (by decide) rfl dX4_leastIn_5 (fun ls hl => ?_)
  refine v_aload_n C (lv_at hl 1 rfl) rfl dX4_leastIn_6 ?_
  refine v_iload_n C (lv_at hl 2 rfl) rfl dX4_leastIn_7 ?_
  obtain ⟨b8, f8, hr⟩ := ob hr
  obtain ⟨g8, h8⟩ := rcv_n f8
  obtain ⟨v8, e8, hr⟩ := ob hr
  refine v_callV C (b := b8) h8 (by decide) rfl rfl (k_X4_figureBehind e8) cw_X4_figureBehind w_1223 w_1225 w_43 (show (parseMethodDescriptor (yX4_figureBehind).desc).map (fun d => d.parameters.length) = some 1 by decide +kernel) ⟨by decide, by decide⟩ (rest := []) (stk2 := [.int v8]) (by rw [g8]; rfl) rfl (Nat.le_of_ble_eq_true rfl) hl dX4_leastIn_8 ?_
  refine v_istore_n C (i := 3) (lv' := [(3, .int v8), (2, .int v2), (0, va_rf (some x0)), (1, .int x1)]) hl rfl (by decide) rfl dX4_leastIn_11 (fun ls hl => ?_)
  refine v_iload_n C (lv_at hl 1 rfl) rfl dX4_leastIn_12 ?_
  refine v_iconst C (-1) (by decide) dX4_leastIn_13 ?_
  refine v_icmp_eq C 22 (by decide) dX4_leastIn_14 (fun c14 => ?_) (fun c14 => ?_)
  · rw [if_pos c14] at hr
    refine v_iconst C 0 (by decide) dX4_leastIn_22 ?_
    refine v_goto C 31 (by decide) dX4_leastIn_23 ?_
    obtain rfl := os hr
    exact v_iret C dX4_leastIn_31
  · rw [if_neg c14] at hr
    refine v_iload_n C (lv_at hl 0 rfl) rfl dX4_leastIn_17 ?_
    refine v_iconst C (-1) (by decide) dX4_leastIn_18 ?_
    refine v_icmp_ne C 26 (by decide) dX4_leastIn_19 (fun c19 => ?_) (fun c19 => ?_)
    · rw [if_neg c19] at hr
      refine v_iload_n C (lv_at hl 1 rfl) rfl dX4_leastIn_26 ?_
      refine v_iload_n C (lv_at hl 0 rfl) rfl dX4_leastIn_27 ?_
      obtain ⟨v28, e28, hr⟩ := ob hr
      refine v_callS C (k_J9_min_7cf53 e28) cw_J9_min_7cf53 w_1232 w_434 (show (parseMethodDescriptor (yJ9_min_7cf53).desc).map (fun d => d.parameters.length) = some 2 by decide +kernel) ⟨by decide, by decide⟩ (rest := []) (stk2 := [.int v28]) rfl rfl (Nat.le_of_ble_eq_true rfl) hl dX4_leastIn_28 ?_
      obtain rfl := os hr
      exact v_iret C dX4_leastIn_31
    · rw [if_pos c19] at hr
      refine v_iconst C 0 (by decide) dX4_leastIn_22 ?_
      refine v_goto C 31 (by decide) dX4_leastIn_23 ?_
      obtain rfl := os hr
      exact v_iret C dX4_leastIn_31
-- X11_spanEnd
def f_X11_spanEnd_4 : Nat → St → (Option Nat) → Int32 → Int32 → Int32 → Option (Int32)
  | 0, _, _, _, _, _ => none
  | n + 1, S, x0, x1, x2, x3 =>
    (if (20 : Int32) ≤ x3 then
    some x2
    else
    (if x1 = 0 then
    (rcv S x0 5).bind fun b25 =>
    (f_X4_leastIn S b25 x3).bind fun v25 =>
    f_X11_spanEnd_4 n S x0 x1 (x2 + v25) (x3 + 1)
    else
    (rcv S x0 5).bind fun b17 =>
    (f_X4_greatestIn S b17 x3).bind fun v17 =>
    f_X11_spanEnd_4 n S x0 x1 (x2 + v17) (x3 + 1)))
def f_X11_spanEnd (S : St) (x0 : Option Nat) (x1 : Int32) : Option Int32 :=
    f_X11_spanEnd_4 FU S x0 x1 0 0
theorem b_X11_spanEnd_4  {S : St} {rr : Int32} (C : Cx p s m args meth c G S yX11_spanEnd cX11_spanEnd 4 (Option.some Jvm.ClassFile.FieldType.int)) {o : (Int32)} (kR : ∀ (v : Int32), o = v → rr = v) : ∀ (n : Nat) {x0 : Option Nat} {x1 : Int32} {x2 : Int32} {x3 : Int32}, f_X11_spanEnd_4 n S x0 x1 x2 x3 = some o → ∀ ls : Array Slot, lv_has ls 4 [(0, va_rf x0), (1, .int x1), (2, .int x2), (3, .int x3)] → V p l e (rmo 2 45 S) s m args below meth c G S S (QM below args s G S S (some (.int rr))) (F0 m 4 ls []) := by
  intro n
  induction n with
  | zero => intro x0 x1 x2 x3 hr; cases hr
  | succ n ih =>
    intro x0 x1 x2 x3 hr ls hl
    unfold f_X11_spanEnd_4 at hr
    refine v_iload_n C (lv_at hl 3 rfl) rfl dX11_spanEnd_4 ?_
    refine v_bipush C 20 (by decide) dX11_spanEnd_5 ?_
    refine v_icmp_ge C 36 (by decide) dX11_spanEnd_7 (fun c7 => ?_) (fun c7 => ?_)
    · rw [if_pos c7] at hr
      refine v_iload_n C (lv_at hl 2 rfl) rfl dX11_spanEnd_36 ?_
      obtain rfl := os hr
      obtain rfl := kR _ rfl
      exact v_iret C dX11_spanEnd_37
    · rw [if_neg c7] at hr
      refine v_iload_n C (lv_at hl 2 rfl) rfl dX11_spanEnd_10 ?_
      refine v_iload_n C (lv_at hl 1 rfl) rfl dX11_spanEnd_11 ?_
      refine v_if_eq C 23 (by decide) dX11_spanEnd_12 (fun c12 => ?_) (fun c12 => ?_)
      · rw [if_pos c12] at hr
        refine v_aload_n C (lv_at hl 0 rfl) rfl dX11_spanEnd_23 ?_
        refine v_iload_n C (lv_at hl 3 rfl) rfl dX11_spanEnd_24 ?_
        obtain ⟨b25, f25, hr⟩ := ob hr
        obtain ⟨g25, h25⟩ := rcv_n f25
        obtain ⟨v25, e25, hr⟩ := ob hr
        refine v_callV C (b := b25) h25 (by decide) rfl rfl (k_X4_leastIn e25) cw_X4_leastIn w_1228 w_1229 w_1230 (show (parseMethodDescriptor (yX4_leastIn).desc).map (fun d => d.parameters.length) = some 1 by decide +kernel) ⟨by decide, by decide⟩ (rest := [.int x2]) (stk2 := [.int v25, .int x2]) (by rw [g25]; rfl) rfl (Nat.le_of_ble_eq_true rfl) hl dX11_spanEnd_25 ?_
        refine v_iadd C dX11_spanEnd_28 ?_
        refine v_istore_n C (i := 2) (lv' := [(2, .int (x2 + v25)), (0, va_rf x0), (1, .int x1), (3, .int x3)]) hl rfl (by decide) rfl dX11_spanEnd_29 (fun ls hl => ?_)
        refine v_iinc C (x3 + 1) (k0 := 3) (lv' := [(3, .int (x3 + 1)), (2, .int (x2 + v25)), (0, va_rf x0), (1, .int x1)]) hl rfl rfl (by decide) rfl dX11_spanEnd_30 (fun ls hl => ?_)
        refine v_goto C 4 (by decide) dX11_spanEnd_33 ?_
        exact ih hr _ (lv_sub hl [2, 3, 1, 0] rfl)
      · rw [if_neg c12] at hr
        refine v_aload_n C (lv_at hl 0 rfl) rfl dX11_spanEnd_15 ?_
        refine v_iload_n C (lv_at hl 3 rfl) rfl dX11_spanEnd_16 ?_
        obtain ⟨b17, f17, hr⟩ := ob hr
        obtain ⟨g17, h17⟩ := rcv_n f17
        obtain ⟨v17, e17, hr⟩ := ob hr
        refine v_callV C (b := b17) h17 (by decide) rfl rfl (k_X4_greatestIn e17) cw_X4_greatestIn w_1215 w_1216 w_1217 (show (parseMethodDescriptor (yX4_greatestIn).desc).map (fun d => d.parameters.length) = some 1 by decide +kernel) ⟨by decide, by decide⟩ (rest := [.int x2]) (stk2 := [.int v17, .int x2]) (by rw [g17]; rfl) rfl (Nat.le_of_ble_eq_true rfl) hl dX11_spanEnd_17 ?_
        refine v_goto C 28 (by decide) dX11_spanEnd_20 ?_
        refine v_iadd C dX11_spanEnd_28 ?_
        refine v_istore_n C (i := 2) (lv' := [(2, .int (x2 + v17)), (0, va_rf x0), (1, .int x1), (3, .int x3)]) hl rfl (by decide) rfl dX11_spanEnd_29 (fun ls hl => ?_)
        refine v_iinc C (x3 + 1) (k0 := 3) (lv' := [(3, .int (x3 + 1)), (2, .int (x2 + v17)), (0, va_rf x0), (1, .int x1)]) hl rfl rfl (by decide) rfl dX11_spanEnd_30 (fun ls hl => ?_)
        refine v_goto C 4 (by decide) dX11_spanEnd_33 ?_
        exact ih hr _ (lv_sub hl [2, 3, 1, 0] rfl)
theorem k_X11_spanEnd {l : Launch} {G : Ge} {S : St} {x0 : Option Nat} {x1 : Int32} {rr : Int32} (hr : f_X11_spanEnd S x0 x1 = some rr) : Ct l G yX11_spanEnd cX11_spanEnd 4 (Option.some Jvm.ClassFile.FieldType.int) S [va_rf x0, .int x1] (some (.int rr)) S 2 45 := by
  refine ct_of (by decide +kernel) (by cases x0 <;> exact Nat.le_of_ble_eq_true rfl) ?_
  intro p e s m args below meth c C ls hl
  have hl : lv_has ls 4 [(0, va_rf x0), (1, .int x1)] := by clear hr; cases x0 <;> exact hl
  unfold f_X11_spanEnd at hr
  refine v_iconst C 0 (by decide) dX11_spanEnd_0 ?_
  refine v_istore_n C (i := 2) (lv' := [(2, .int 0), (0, va_rf x0), (1, .int x1)]) hl rfl (by decide) rfl dX11_spanEnd_1 (fun ls hl => ?_)
  refine v_iconst C 0 (by decide) dX11_spanEnd_2 ?_
  refine v_istore_n C (i := 3) (lv' := [(3, .int 0), (2, .int 0), (0, va_rf x0), (1, .int x1)]) hl rfl (by decide) rfl dX11_spanEnd_3 (fun ls hl => ?_)
  exact b_X11_spanEnd_4 C (fun _ q => by cases q; rfl) FU hr _ (lv_sub hl [2, 3, 1, 0] rfl)
-- X11_audit
def f_X11_audit_32 (S : St) (t0 : Int32) (t1 : Option Nat) : Option Int32 :=
    (f_X11_spanEnd S t1 t0).bind fun v32 =>
    some v32
def f_X11_audit_21 (S : St) (x2 : Int32) (x3 : Option Nat) : Option Int32 :=
    (if x2 = 1 then
    f_X11_audit_32 S 1 x3
    else
    f_X11_audit_32 S 0 x3)
def f_X11_audit_57 (S : St) (x2 : Int32) (x3 : Option Nat) : Option Int32 :=
    (if x2 < 40 then
    some (-1)
    else
    (if (60 : Int32) ≤ x2 then
    some (-1)
    else
    (rcv S x3 5).bind fun b74 =>
    (f_X4_greatestIn S b74 (x2 - 40)).bind fun v74 =>
    some v74))
def f_X11_audit (S : St) (x0 : Nat) (x1 : Int32) (x2 : Int32) : Option Int32 :=
    (rcv S (some x0) 12).bind fun b2 =>
    (f_X11_firmAt S b2 x1).bind fun v2 =>
    (if v2 = none then
    some (-1)
    else
    (if x2 = 0 then
    f_X11_audit_21 S x2 v2
    else
    (if x2 = 1 then
    f_X11_audit_21 S x2 v2
    else
    (if x2 < 10 then
    f_X11_audit_57 S x2 v2
    else
    (if (30 : Int32) ≤ x2 then
    f_X11_audit_57 S x2 v2
    else
    (rcv S v2 5).bind fun b53 =>
    (f_X4_leastIn S b53 (x2 - 10)).bind fun v53 =>
    some v53)))))
theorem b_X11_audit_32  {S : St} {rr : Int32} {t0 : Int32} {t1 : Option Nat} (C : Cx p s m args meth c G S yX11_audit cX11_audit 4 (Option.some Jvm.ClassFile.FieldType.int)) (hr : f_X11_audit_32 S t0 t1 = some rr) : ∀ ls : Array Slot, lv_has ls 4 [] → V p l e (rmo 4 85 S) s m args below meth c G S S (QM below args s G S S (some (.int rr))) (F0 m 32 ls [.int t0, va_rf t1]) := by
  intro ls hl
  unfold f_X11_audit_32 at hr
  obtain ⟨v32, e32, hr⟩ := ob hr
  refine v_callS C (k_X11_spanEnd e32) cw_X11_spanEnd w_1212 w_1213 (show (parseMethodDescriptor (yX11_spanEnd).desc).map (fun d => d.parameters.length) = some 2 by decide +kernel) ⟨by decide, by decide⟩ (rest := []) (stk2 := [.int v32]) rfl rfl (Nat.le_of_ble_eq_true rfl) hl dX11_audit_32 ?_
  obtain rfl := os hr
  exact v_iret C dX11_audit_35
theorem b_X11_audit_21  {S : St} {rr : Int32} {x2 : Int32} {x3 : Option Nat} (C : Cx p s m args meth c G S yX11_audit cX11_audit 4 (Option.some Jvm.ClassFile.FieldType.int)) (hr : f_X11_audit_21 S x2 x3 = some rr) : ∀ ls : Array Slot, lv_has ls 4 [(2, .int x2), (3, va_rf x3)] → V p l e (rmo 4 85 S) s m args below meth c G S S (QM below args s G S S (some (.int rr))) (F0 m 21 ls []) := by
  intro ls hl
  unfold f_X11_audit_21 at hr
  refine v_aload_n C (lv_at hl 1 rfl) rfl dX11_audit_21 ?_
  refine v_iload_n C (lv_at hl 0 rfl) rfl dX11_audit_22 ?_
  refine v_iconst C 1 (by decide) dX11_audit_23 ?_
  refine v_icmp_ne C 31 (by decide) dX11_audit_24 (fun c24 => ?_) (fun c24 => ?_)
  · rw [if_neg c24] at hr
    refine v_iconst C 0 (by decide) dX11_audit_31 ?_
    exact b_X11_audit_32 C hr _ (lv_sub hl [] rfl)
  · rw [if_pos c24] at hr
    refine v_iconst C 1 (by decide) dX11_audit_27 ?_
    refine v_goto C 32 (by decide) dX11_audit_28 ?_
    exact b_X11_audit_32 C hr _ (lv_sub hl [] rfl)
theorem b_X11_audit_57  {S : St} {rr : Int32} {x2 : Int32} {x3 : Option Nat} (C : Cx p s m args meth c G S yX11_audit cX11_audit 4 (Option.some Jvm.ClassFile.FieldType.int)) (hr : f_X11_audit_57 S x2 x3 = some rr) : ∀ ls : Array Slot, lv_has ls 4 [(2, .int x2), (3, va_rf x3)] → V p l e (rmo 4 85 S) s m args below meth c G S S (QM below args s G S S (some (.int rr))) (F0 m 57 ls []) := by
  intro ls hl
  unfold f_X11_audit_57 at hr
  refine v_iload_n C (lv_at hl 0 rfl) rfl dX11_audit_57 ?_
  refine v_bipush C 40 (by decide) dX11_audit_58 ?_
  refine v_icmp_lt C 78 (by decide) dX11_audit_60 (fun c60 => ?_) (fun c60 => ?_)
  · rw [if_pos c60] at hr
    refine v_iconst C (-1) (by decide) dX11_audit_78 ?_
    obtain rfl := os hr
    exact v_iret C dX11_audit_79
  · rw [if_neg c60] at hr
    refine v_iload_n C (lv_at hl 0 rfl) rfl dX11_audit_63 ?_
    refine v_bipush C 60 (by decide) dX11_audit_64 ?_
    refine v_icmp_ge C 78 (by decide) dX11_audit_66 (fun c66 => ?_) (fun c66 => ?_)
    · rw [if_pos c66] at hr
      refine v_iconst C (-1) (by decide) dX11_audit_78 ?_
      obtain rfl := os hr
      exact v_iret C dX11_audit_79
    · rw [if_neg c66] at hr
      refine v_aload_n C (lv_at hl 1 rfl) rfl dX11_audit_69 ?_
      refine v_iload_n C (lv_at hl 0 rfl) rfl dX11_audit_70 ?_
      refine v_bipush C 40 (by decide) dX11_audit_71 ?_
      refine v_isub C dX11_audit_73 ?_
      obtain ⟨b74, f74, hr⟩ := ob hr
      obtain ⟨g74, h74⟩ := rcv_n f74
      obtain ⟨v74, e74, hr⟩ := ob hr
      refine v_callV C (b := b74) h74 (by decide) rfl rfl (k_X4_greatestIn e74) cw_X4_greatestIn w_1215 w_1216 w_1217 (show (parseMethodDescriptor (yX4_greatestIn).desc).map (fun d => d.parameters.length) = some 1 by decide +kernel) ⟨by decide, by decide⟩ (rest := []) (stk2 := [.int v74]) (by rw [g74]; rfl) rfl (Nat.le_of_ble_eq_true rfl) hl dX11_audit_74 ?_
      obtain rfl := os hr
      exact v_iret C dX11_audit_77
theorem k_X11_audit {l : Launch} {G : Ge} {S : St} {x0 : Nat} {x1 : Int32} {x2 : Int32} {rr : Int32} (hr : f_X11_audit S x0 x1 x2 = some rr) : Ct l G yX11_audit cX11_audit 4 (Option.some Jvm.ClassFile.FieldType.int) S [va_rf (some x0), .int x1, .int x2] (some (.int rr)) S 4 85 := by
  refine ct_of (by decide +kernel) (Nat.le_of_ble_eq_true rfl) ?_
  intro p e s m args below meth c C ls hl
  have hl : lv_has ls 4 [(0, va_rf (some x0)), (1, .int x1), (2, .int x2)] := hl
  unfold f_X11_audit at hr
  refine v_aload_n C (lv_at hl 0 rfl) rfl dX11_audit_0 ?_
  refine v_iload_n C (lv_at hl 1 rfl) rfl dX11_audit_1 ?_
  obtain ⟨b2, f2, hr⟩ := ob hr
  obtain ⟨g2, h2⟩ := rcv_n f2
  obtain ⟨v2, e2, hr⟩ := ob hr
  refine v_callV C (b := b2) h2 (by decide) rfl rfl (k_X11_firmAt e2) cw_X11_firmAt w_445 w_447 w_3 (show (parseMethodDescriptor (yX11_firmAt).desc).map (fun d => d.parameters.length) = some 1 by decide +kernel) ⟨by decide, by decide⟩ (rest := []) (stk2 := [va_rf v2]) (by rw [g2]; rfl) rfl (Nat.le_of_ble_eq_true rfl) hl dX11_audit_2 ?_
  refine v_astore_n C (i := 3) (lv' := [(3, va_rf v2), (0, va_rf (some x0)), (1, .int x1), (2, .int x2)]) hl rfl (by decide) rfl dX11_audit_5 (fun ls hl => ?_)
  refine v_aload_n C (lv_at hl 0 rfl) rfl dX11_audit_6 ?_
  refine v_ifnonnull C 12 (by decide) dX11_audit_7 (fun c7 => ?_) (fun c7 => ?_)
  · rw [if_neg c7] at hr
    refine v_iload_n C (lv_at hl 3 rfl) rfl dX11_audit_12 ?_
    refine v_if_eq C 21 (by decide) dX11_audit_13 (fun c13 => ?_) (fun c13 => ?_)
    · rw [if_pos c13] at hr
      exact b_X11_audit_21 C hr _ (lv_sub hl [3, 0] rfl)
    · rw [if_neg c13] at hr
      refine v_iload_n C (lv_at hl 3 rfl) rfl dX11_audit_16 ?_
      refine v_iconst C 1 (by decide) dX11_audit_17 ?_
      refine v_icmp_ne C 36 (by decide) dX11_audit_18 (fun c18 => ?_) (fun c18 => ?_)
      · rw [if_neg c18] at hr
        refine v_iload_n C (lv_at hl 3 rfl) rfl dX11_audit_36 ?_
        refine v_bipush C 10 (by decide) dX11_audit_37 ?_
        refine v_icmp_lt C 57 (by decide) dX11_audit_39 (fun c39 => ?_) (fun c39 => ?_)
        · rw [if_pos c39] at hr
          exact b_X11_audit_57 C hr _ (lv_sub hl [3, 0] rfl)
        · rw [if_neg c39] at hr
          refine v_iload_n C (lv_at hl 3 rfl) rfl dX11_audit_42 ?_
          refine v_bipush C 30 (by decide) dX11_audit_43 ?_
          refine v_icmp_ge C 57 (by decide) dX11_audit_45 (fun c45 => ?_) (fun c45 => ?_)
          · rw [if_pos c45] at hr
            exact b_X11_audit_57 C hr _ (lv_sub hl [3, 0] rfl)
          · rw [if_neg c45] at hr
            refine v_aload_n C (lv_at hl 0 rfl) rfl dX11_audit_48 ?_
            refine v_iload_n C (lv_at hl 3 rfl) rfl dX11_audit_49 ?_
            refine v_bipush C 10 (by decide) dX11_audit_50 ?_
            refine v_isub C dX11_audit_52 ?_
            obtain ⟨b53, f53, hr⟩ := ob hr
            obtain ⟨g53, h53⟩ := rcv_n f53
            obtain ⟨v53, e53, hr⟩ := ob hr
            refine v_callV C (b := b53) h53 (by decide) rfl rfl (k_X4_leastIn e53) cw_X4_leastIn w_1228 w_1229 w_1230 (show (parseMethodDescriptor (yX4_leastIn).desc).map (fun d => d.parameters.length) = some 1 by decide +kernel) ⟨by decide, by decide⟩ (rest := []) (stk2 := [.int v53]) (by rw [g53]; rfl) rfl (Nat.le_of_ble_eq_true rfl) hl dX11_audit_53 ?_
            obtain rfl := os hr
            exact v_iret C dX11_audit_56
      · rw [if_pos c18] at hr
        exact b_X11_audit_21 C hr _ (lv_sub hl [3, 0] rfl)
  · rw [if_pos c7] at hr
    refine v_iconst C (-1) (by decide) dX11_audit_10 ?_
    obtain rfl := os hr
    exact v_iret C dX11_audit_11
-- X11_claimAt
def f_X11_claimAt (S : St) (x0 : Nat) (x1 : Int32) : Option (Option Nat) :=
    (if x1 < 0 then
    some none
    else
    (getR S (some x0) 12 4).bind fun v6 =>
    (rcv S v6 0).bind fun b9 =>
    (f_Jx4a65c_size_8abf5 S b9).bind fun v9 =>
    (if x1 < v9 then
    (getR S (some x0) 12 4).bind fun v20 =>
    (rcv S v20 0).bind fun b24 =>
    (f_Jx4a65c_get_915e3 S b24 x1).bind fun v24 =>
    (castO S v24 3).bind fun v27 =>
    some v27
    else
    some none))
theorem k_X11_claimAt {l : Launch} {G : Ge} {S : St} {x0 : Nat} {x1 : Int32} {rr : Option Nat} (hr : f_X11_claimAt S x0 x1 = some rr) : Ct l G yX11_claimAt cX11_claimAt 2 (Option.some (Jvm.ClassFile.FieldType.object "SleepOffice$Claim")) S [va_rf (some x0), .int x1] (some (va_rf rr)) S 3 64 := by
  refine ct_of (by decide +kernel) (Nat.le_of_ble_eq_true rfl) ?_
  intro p e s m args below meth c C ls hl
  have hl : lv_has ls 2 [(0, va_rf (some x0)), (1, .int x1)] := hl
  unfold f_X11_claimAt at hr
  refine v_iload_n C (lv_at hl 1 rfl) rfl dX11_claimAt_0 ?_
  refine v_if_lt C 15 (by decide) dX11_claimAt_1 (fun c1 => ?_) (fun c1 => ?_)
  · rw [if_pos c1] at hr
    refine v_null C dX11_claimAt_15 ?_
    refine v_goto C 30 (by decide) dX11_claimAt_16 ?_
    obtain rfl := os hr
    exact v_aret C (Or.inl ⟨_, rfl⟩) dX11_claimAt_30
  · rw [if_neg c1] at hr
    refine v_iload_n C (lv_at hl 1 rfl) rfl dX11_claimAt_4 ?_
    refine v_aload_n C (lv_at hl 0 rfl) rfl dX11_claimAt_5 ?_
    obtain ⟨v6, e6, hr⟩ := ob hr
    refine v_getR C fl_RX11_26 rfl e6 dX11_claimAt_6 ?_
    obtain ⟨b9, f9, hr⟩ := ob hr
    obtain ⟨g9, h9⟩ := rcv_n f9
    obtain ⟨v9, e9, hr⟩ := ob hr
    refine v_callV C (b := b9) h9 (by decide) rfl rfl (k_Jx4a65c_size_8abf5 e9) cw_Jx4a65c_size_8abf5 w_352 w_353 w_354 (show (parseMethodDescriptor (yJx4a65c_size_8abf5).desc).map (fun d => d.parameters.length) = some 0 by decide +kernel) ⟨by decide, by decide⟩ (rest := [.int x1]) (stk2 := [.int v9, .int x1]) (by rw [g9]; rfl) rfl (Nat.le_of_ble_eq_true rfl) hl dX11_claimAt_9 ?_
    refine v_icmp_lt C 19 (by decide) dX11_claimAt_12 (fun c12 => ?_) (fun c12 => ?_)
    · rw [if_pos c12] at hr
      refine v_aload_n C (lv_at hl 0 rfl) rfl dX11_claimAt_19 ?_
      obtain ⟨v20, e20, hr⟩ := ob hr
      refine v_getR C fl_RX11_26 rfl e20 dX11_claimAt_20 ?_
      refine v_iload_n C (lv_at hl 1 rfl) rfl dX11_claimAt_23 ?_
      obtain ⟨b24, f24, hr⟩ := ob hr
      obtain ⟨g24, h24⟩ := rcv_n f24
      obtain ⟨v24, e24, hr⟩ := ob hr
      refine v_callV C (b := b24) h24 (by decide) rfl rfl (k_Jx4a65c_get_915e3 e24) cw_Jx4a65c_get_915e3 w_449 w_450 w_451 (show (parseMethodDescriptor (yJx4a65c_get_915e3).desc).map (fun d => d.parameters.length) = some 1 by decide +kernel) ⟨by decide, by decide⟩ (rest := []) (stk2 := [va_rf v24]) (by rw [g24]; rfl) rfl (Nat.le_of_ble_eq_true rfl) hl dX11_claimAt_24 ?_
      obtain ⟨v27, e27, hr⟩ := ob hr
      refine v_cast C e27 (by decide) rfl w_984 dX11_claimAt_27 ?_
      obtain rfl := os hr
      exact v_aret C (Or.inl ⟨_, rfl⟩) dX11_claimAt_30
    · rw [if_neg c12] at hr
      refine v_null C dX11_claimAt_15 ?_
      refine v_goto C 30 (by decide) dX11_claimAt_16 ?_
      obtain rfl := os hr
      exact v_aret C (Or.inl ⟨_, rfl⟩) dX11_claimAt_30
end Mth
