section Mth
variable {p : Program} {l : Launch} {e : Env} {s : State} {m : MethodId} {args : Array Value} {below : List Frame} {meth : Method} {c : Code} {G : Ge}
-- X12_heirsOf
def f_X12_heirsOf_9 : Nat → St → Nat → Int32 → Int32 → Option ((Int32 × St))
  | 0, _, _, _, _ => none
  | n + 1, S, x0, x2, x3 =>
    (getI S (some x0) 13 2).bind fun v11 =>
    (if v11 ≤ x3 then
    some (x2, S)
    else
    (getR S (some x0) 13 67).bind fun v19 =>
    (ldL S v19 x3).bind fun v23 =>
    (if (lg_cmp v23 0) ≤ 0 then
    f_X12_heirsOf_9 n S x0 (x2 + 0) (x3 + 1)
    else
    f_X12_heirsOf_9 n S x0 (x2 + 1) (x3 + 1)))
def f_X12_heirsOf (S : St) (x0 : Nat) (x1 : Int32) : Option (Int32 × St) :=
    (rcv S (some x0) 13).bind fun b2 =>
    (f_X12_shares S b2 x1).bind fun S2 =>
    f_X12_heirsOf_9 FU S2 x0 0 0
theorem b_X12_heirsOf_9  {S0 S' : St} {rr : Int32} (C : Cx p s m args meth c G S0 yX12_heirsOf cX12_heirsOf 4 (Option.some Jvm.ClassFile.FieldType.int)) {o : ((Int32 × St))} (kR : ∀ (v : Int32) (Z : St), o = (v, Z) → rr = v ∧ S' = Z) : ∀ (n : Nat) {S : St} {x0 : Nat} {x2 : Int32} {x3 : Int32}, f_X12_heirsOf_9 n S x0 x2 x3 = some o → ∀ ls : Array Slot, lv_has ls 4 [(0, va_rf (some x0)), (2, .int x2), (3, .int x3)] → V p l e (rmo 2 47 S0) s m args below meth c G S0 S (QM below args s G S0 S' (some (.int rr))) (F0 m 9 ls []) := by
  intro n
  induction n with
  | zero => intro S x0 x2 x3 hr; cases hr
  | succ n ih =>
    intro S x0 x2 x3 hr ls hl
    unfold f_X12_heirsOf_9 at hr
    refine v_iload_n C (lv_at hl 2 rfl) rfl dX12_heirsOf_9 ?_
    refine v_aload_n C (lv_at hl 0 rfl) rfl dX12_heirsOf_10 ?_
    obtain ⟨v11, e11, hr⟩ := ob hr
    refine v_getI C fl_RX12_207 rfl e11 dX12_heirsOf_11 ?_
    refine v_icmp_ge C 42 (by decide) dX12_heirsOf_14 (fun c14 => ?_) (fun c14 => ?_)
    · rw [if_pos c14] at hr
      refine v_iload_n C (lv_at hl 1 rfl) rfl dX12_heirsOf_42 ?_
      obtain rfl := os hr
      obtain ⟨rfl, rfl⟩ := kR _ _ rfl
      exact v_iret C dX12_heirsOf_43
    · rw [if_neg c14] at hr
      refine v_iload_n C (lv_at hl 1 rfl) rfl dX12_heirsOf_17 ?_
      refine v_aload_n C (lv_at hl 0 rfl) rfl dX12_heirsOf_18 ?_
      obtain ⟨v19, e19, hr⟩ := ob hr
      refine v_getR C fl_RX12_154 rfl e19 dX12_heirsOf_19 ?_
      refine v_iload_n C (lv_at hl 2 rfl) rfl dX12_heirsOf_22 ?_
      obtain ⟨v23, e23, hr⟩ := ob hr
      refine v_ldL C e23 dX12_heirsOf_23 ?_
      refine v_lconst C 0 (by decide) dX12_heirsOf_24 ?_
      refine v_lcmp C dX12_heirsOf_25 ?_
      refine v_if_le C 33 (by decide) dX12_heirsOf_26 (fun c26 => ?_) (fun c26 => ?_)
      · rw [if_pos c26] at hr
        refine v_iconst C 0 (by decide) dX12_heirsOf_33 ?_
        refine v_iadd C dX12_heirsOf_34 ?_
        refine v_istore_n C (i := 2) (lv' := [(2, .int (x2 + 0)), (0, va_rf (some x0)), (3, .int x3)]) hl rfl (by decide) rfl dX12_heirsOf_35 (fun ls hl => ?_)
        refine v_iinc C (x3 + 1) (k0 := 2) (lv' := [(3, .int (x3 + 1)), (2, .int (x2 + 0)), (0, va_rf (some x0))]) hl rfl rfl (by decide) rfl dX12_heirsOf_36 (fun ls hl => ?_)
        refine v_goto C 9 (by decide) dX12_heirsOf_39 ?_
        exact ih hr _ (lv_sub hl [2, 1, 0] rfl)
      · rw [if_neg c26] at hr
        refine v_iconst C 1 (by decide) dX12_heirsOf_29 ?_
        refine v_goto C 34 (by decide) dX12_heirsOf_30 ?_
        refine v_iadd C dX12_heirsOf_34 ?_
        refine v_istore_n C (i := 2) (lv' := [(2, .int (x2 + 1)), (0, va_rf (some x0)), (3, .int x3)]) hl rfl (by decide) rfl dX12_heirsOf_35 (fun ls hl => ?_)
        refine v_iinc C (x3 + 1) (k0 := 2) (lv' := [(3, .int (x3 + 1)), (2, .int (x2 + 1)), (0, va_rf (some x0))]) hl rfl rfl (by decide) rfl dX12_heirsOf_36 (fun ls hl => ?_)
        refine v_goto C 9 (by decide) dX12_heirsOf_39 ?_
        exact ih hr _ (lv_sub hl [2, 1, 0] rfl)
theorem k_X12_heirsOf {l : Launch} {G : Ge} {S S' : St} {x0 : Nat} {x1 : Int32} {rr : Int32} (hr : f_X12_heirsOf S x0 x1 = some (rr, S')) : Ct l G yX12_heirsOf cX12_heirsOf 4 (Option.some Jvm.ClassFile.FieldType.int) S [va_rf (some x0), .int x1] (some (.int rr)) S' 2 47 := by
  refine ct_of (by decide +kernel) (Nat.le_of_ble_eq_true rfl) ?_
  intro p e s m args below meth c C ls hl
  have hl : lv_has ls 4 [(0, va_rf (some x0)), (1, .int x1)] := hl
  unfold f_X12_heirsOf at hr
  refine v_aload_n C (lv_at hl 0 rfl) rfl dX12_heirsOf_0 ?_
  refine v_iload_n C (lv_at hl 1 rfl) rfl dX12_heirsOf_1 ?_
  obtain ⟨b2, f2, hr⟩ := ob hr
  obtain ⟨g2, h2⟩ := rcv_n f2
  obtain ⟨S2, e2, hr⟩ := ob hr
  refine v_callV C (b := b2) h2 (by decide) rfl rfl (k_X12_shares e2) cw_X12_shares w_1849 w_1851 w_95 (show (parseMethodDescriptor (yX12_shares).desc).map (fun d => d.parameters.length) = some 1 by decide +kernel) ⟨by decide, by decide⟩ (rest := []) (stk2 := []) (by rw [g2]; rfl) rfl (Nat.le_of_ble_eq_true rfl) hl dX12_heirsOf_2 ?_
  refine v_iconst C 0 (by decide) dX12_heirsOf_5 ?_
  refine v_istore_n C (i := 2) (lv' := [(2, .int 0), (0, va_rf (some x0)), (1, .int x1)]) hl rfl (by decide) rfl dX12_heirsOf_6 (fun ls hl => ?_)
  refine v_iconst C 0 (by decide) dX12_heirsOf_7 ?_
  refine v_istore_n C (i := 3) (lv' := [(3, .int 0), (2, .int 0), (0, va_rf (some x0)), (1, .int x1)]) hl rfl (by decide) rfl dX12_heirsOf_8 (fun ls hl => ?_)
  exact b_X12_heirsOf_9 C (fun _ _ q => by cases q; exact ⟨rfl, rfl⟩) FU hr _ (lv_sub hl [2, 1, 0] rfl)
-- X12_asked
def f_X12_asked_176 (rec : St → Nat → Int32 → Int32 → Int32 → Option ((Int32 × St))) (S : St) (x0 : Nat) (x2 : Int32) (x3 : Int32) (x4 : Int32) (x5 : Int32) : Option ((Int32 × St)) :=
    (getR S (some x0) 13 31).bind fun v179 =>
    (ldI S v179 15 ((25 * x2) + x4)).bind fun v189 =>
    (rcv S (some x0) 13).bind fun b192 =>
    (f_X12_comesTo S b192 x2 v189 x5).bind fun (v192, S192) =>
    (if v192 ≤ x3 then
    rec S192 x0 x2 x3 (x4 + 1)
    else
    rec S192 x0 x2 v192 (x4 + 1))
def f_X12_asked_112 : Nat → St → Nat → Int32 → Int32 → Int32 → Option ((Int32 × St))
  | 0, _, _, _, _, _ => none
  | n + 1, S, x0, x2, x3, x4 =>
    (getR S (some x0) 13 30).bind fun v115 =>
    (ldI S v115 15 x2).bind fun v119 =>
    (if v119 ≤ x4 then
    some (x3, S)
    else
    (getR S (some x0) 13 32).bind fun v124 =>
    (ldI S v124 15 ((24 * x2) + x4)).bind fun v134 =>
    (getR S (some x0) 13 31).bind fun v138 =>
    (ldI S v138 15 (((25 * x2) + x4) + 1)).bind fun v150 =>
    (if v150 ≤ v134 then
    f_X12_asked_176 (f_X12_asked_112 n) S x0 x2 x3 x4 v134
    else
    (rcv S (some x0) 13).bind fun b166 =>
    (f_X12_comesTo S b166 x2 v134 v150).bind fun (v166, S166) =>
    (if v166 = 1 then
    f_X12_asked_176 (f_X12_asked_112 n) S166 x0 x2 x3 x4 v134
    else
    f_X12_asked_112 n S166 x0 x2 x3 (x4 + 1))))
def f_X12_asked_106 (S : St) (x0 : Nat) (x2 : Int32) (t0 : Int32) (t1 : Int32) (t2 : Option Nat) : Option (Int32 × St) :=
    (stI S t2 15 t1 t0).bind fun S106 =>
    f_X12_asked_112 FU S106 x0 x2 0 0
def f_X12_asked_38 (S : St) (x0 : Nat) (x1 : Int32) (x2 : Int32) (t0 : Int32) (t1 : Int32) (t2 : Option Nat) : Option (Int32 × St) :=
    (stI S t2 15 t1 t0).bind fun S38 =>
    (getR S38 (some x0) 13 55).bind fun v40 =>
    (getI S38 (some x0) 13 0).bind fun v45 =>
    (getR S38 (some x0) 13 57).bind fun v49 =>
    (ldI S38 v49 15 x1).bind fun v53 =>
    (divI (v45 - v53) 360).bind fun v58 =>
    (stI S38 v40 15 2 v58).bind fun S59 =>
    (getR S59 (some x0) 13 55).bind fun v61 =>
    (getR S59 (some x0) 13 15).bind fun v66 =>
    (ldI S59 v66 15 x1).bind fun v70 =>
    (stI S59 v61 15 3 v70).bind fun S71 =>
    (getR S71 (some x0) 13 55).bind fun v73 =>
    (getR S71 (some x0) 13 13).bind fun v78 =>
    (getR S71 (some x0) 13 16).bind fun v82 =>
    (ldI S71 v82 15 x1).bind fun v86 =>
    (ldI S71 v78 15 v86).bind fun v87 =>
    (if v87 = (-1) then
    f_X12_asked_106 S71 x0 x2 0 4 v73
    else
    (getR S71 (some x0) 13 16).bind fun v98 =>
    (ldI S71 v98 15 x1).bind fun v102 =>
    (rcv S71 (some x0) 13).bind fun b103 =>
    (f_X12_heirsOf S71 b103 v102).bind fun (v103, S103) =>
    f_X12_asked_106 S103 x0 x2 v103 4 v73)
def f_X12_asked (S : St) (x0 : Nat) (x1 : Int32) : Option (Int32 × St) :=
    (getR S (some x0) 13 56).bind fun v1 =>
    (ldI S v1 15 x1).bind fun v5 =>
    (getR S (some x0) 13 55).bind fun v8 =>
    (getR S (some x0) 13 59).bind fun v13 =>
    (ldL S v13 x1).bind fun v17 =>
    (if (lg_cmp v17 2147483647) ≤ 0 then
    (getR S (some x0) 13 59).bind fun v32 =>
    (ldL S v32 x1).bind fun v36 =>
    f_X12_asked_38 S x0 x1 v5 (Int64.toInt32 v36) 1 v8
    else
    f_X12_asked_38 S x0 x1 v5 2147483647 1 v8)
theorem b_X12_asked_176  {S0 S S' : St} {rr : Int32} {x0 : Nat} {x2 : Int32} {x3 : Int32} {x4 : Int32} {x5 : Int32} (C : Cx p s m args meth c G S0 yX12_asked cX12_asked 8 (Option.some Jvm.ClassFile.FieldType.int)) {o : ((Int32 × St))} {rec : St → Nat → Int32 → Int32 → Int32 → Option ((Int32 × St))} (kR : ∀ (v : Int32) (Z : St), o = (v, Z) → rr = v ∧ S' = Z) (ihk : ∀ {S : St} {x0 : Nat} {x2 : Int32} {x3 : Int32} {x4 : Int32}, rec S x0 x2 x3 x4 = some o → ∀ ls : Array Slot, lv_has ls 8 [(0, va_rf (some x0)), (2, .int x2), (3, .int x3), (4, .int x4)] → V p l e (rmo 3 70 S0) s m args below meth c G S0 S (QM below args s G S0 S' (some (.int rr))) (F0 m 112 ls [])) (hr : f_X12_asked_176 rec S x0 x2 x3 x4 x5 = some o) : ∀ ls : Array Slot, lv_has ls 8 [(0, va_rf (some x0)), (2, .int x2), (3, .int x3), (4, .int x4), (5, .int x5)] → V p l e (rmo 3 70 S0) s m args below meth c G S0 S (QM below args s G S0 S' (some (.int rr))) (F0 m 176 ls []) := by
  intro ls hl
  unfold f_X12_asked_176 at hr
  refine v_aload_n C (lv_at hl 0 rfl) rfl dX12_asked_176 ?_
  refine v_iload_n C (lv_at hl 1 rfl) rfl dX12_asked_177 ?_
  refine v_aload_n C (lv_at hl 0 rfl) rfl dX12_asked_178 ?_
  obtain ⟨v179, e179, hr⟩ := ob hr
  refine v_getR C fl_RX12_88 rfl e179 dX12_asked_179 ?_
  refine v_bipush C 25 (by decide) dX12_asked_182 ?_
  refine v_iload_n C (lv_at hl 1 rfl) rfl dX12_asked_184 ?_
  refine v_imul C dX12_asked_185 ?_
  refine v_iload C (lv_at hl 3 rfl) dX12_asked_186 ?_
  refine v_iadd C dX12_asked_188 ?_
  obtain ⟨v189, e189, hr⟩ := ob hr
  refine v_ldI_i C e189 dX12_asked_189 ?_
  refine v_iload C (lv_at hl 4 rfl) dX12_asked_190 ?_
  obtain ⟨b192, f192, hr⟩ := ob hr
  obtain ⟨g192, h192⟩ := rcv_n f192
  obtain ⟨⟨v192, S192⟩, e192, hr⟩ := ob hr
  (try dsimp only at hr)
  refine v_callV C (b := b192) h192 (by decide) rfl rfl (k_X12_comesTo e192) cw_X12_comesTo w_1878 w_1880 w_98 (show (parseMethodDescriptor (yX12_comesTo).desc).map (fun d => d.parameters.length) = some 3 by decide +kernel) ⟨by decide, by decide⟩ (rest := []) (stk2 := [.int v192]) (by rw [g192]; rfl) rfl (Nat.le_of_ble_eq_true rfl) hl dX12_asked_192 ?_
  refine v_istore C (i := 7) (lv' := [(7, .int v192), (0, va_rf (some x0)), (2, .int x2), (3, .int x3), (4, .int x4), (5, .int x5)]) hl (by decide) rfl dX12_asked_195 (fun ls hl => ?_)
  refine v_iload C (lv_at hl 0 rfl) dX12_asked_197 ?_
  refine v_iload_n C (lv_at hl 3 rfl) rfl dX12_asked_199 ?_
  refine v_icmp_le C 208 (by decide) dX12_asked_200 (fun c200 => ?_) (fun c200 => ?_)
  · rw [if_pos c200] at hr
    refine v_iload_n C (lv_at hl 3 rfl) rfl dX12_asked_208 ?_
    refine v_istore_n C (i := 3) (lv' := [(3, .int x3), (7, .int v192), (0, va_rf (some x0)), (2, .int x2), (4, .int x4), (5, .int x5)]) hl rfl (by decide) rfl dX12_asked_209 (fun ls hl => ?_)
    refine v_iinc C (x4 + 1) (k0 := 4) (lv' := [(4, .int (x4 + 1)), (3, .int x3), (7, .int v192), (0, va_rf (some x0)), (2, .int x2), (5, .int x5)]) hl rfl rfl (by decide) rfl dX12_asked_210 (fun ls hl => ?_)
    refine v_goto C 112 (by decide) dX12_asked_213 ?_
    exact ihk hr _ (lv_sub hl [3, 4, 1, 0] rfl)
  · rw [if_neg c200] at hr
    refine v_iload C (lv_at hl 0 rfl) dX12_asked_203 ?_
    refine v_goto C 209 (by decide) dX12_asked_205 ?_
    refine v_istore_n C (i := 3) (lv' := [(3, .int v192), (7, .int v192), (0, va_rf (some x0)), (2, .int x2), (4, .int x4), (5, .int x5)]) hl rfl (by decide) rfl dX12_asked_209 (fun ls hl => ?_)
    refine v_iinc C (x4 + 1) (k0 := 4) (lv' := [(4, .int (x4 + 1)), (3, .int v192), (7, .int v192), (0, va_rf (some x0)), (2, .int x2), (5, .int x5)]) hl rfl rfl (by decide) rfl dX12_asked_210 (fun ls hl => ?_)
    refine v_goto C 112 (by decide) dX12_asked_213 ?_
    exact ihk hr _ (lv_sub hl [3, 4, 1, 0] rfl)
theorem b_X12_asked_112  {S0 S' : St} {rr : Int32} (C : Cx p s m args meth c G S0 yX12_asked cX12_asked 8 (Option.some Jvm.ClassFile.FieldType.int)) {o : ((Int32 × St))} (kR : ∀ (v : Int32) (Z : St), o = (v, Z) → rr = v ∧ S' = Z) : ∀ (n : Nat) {S : St} {x0 : Nat} {x2 : Int32} {x3 : Int32} {x4 : Int32}, f_X12_asked_112 n S x0 x2 x3 x4 = some o → ∀ ls : Array Slot, lv_has ls 8 [(0, va_rf (some x0)), (2, .int x2), (3, .int x3), (4, .int x4)] → V p l e (rmo 3 70 S0) s m args below meth c G S0 S (QM below args s G S0 S' (some (.int rr))) (F0 m 112 ls []) := by
  intro n
  induction n with
  | zero => intro S x0 x2 x3 x4 hr; cases hr
  | succ n ih =>
    intro S x0 x2 x3 x4 hr ls hl
    unfold f_X12_asked_112 at hr
    refine v_iload C (lv_at hl 3 rfl) dX12_asked_112 ?_
    refine v_aload_n C (lv_at hl 0 rfl) rfl dX12_asked_114 ?_
    obtain ⟨v115, e115, hr⟩ := ob hr
    refine v_getR C fl_RX12_85 rfl e115 dX12_asked_115 ?_
    refine v_iload_n C (lv_at hl 1 rfl) rfl dX12_asked_118 ?_
    obtain ⟨v119, e119, hr⟩ := ob hr
    refine v_ldI_i C e119 dX12_asked_119 ?_
    refine v_icmp_ge C 216 (by decide) dX12_asked_120 (fun c120 => ?_) (fun c120 => ?_)
    · rw [if_pos c120] at hr
      refine v_iload_n C (lv_at hl 2 rfl) rfl dX12_asked_216 ?_
      obtain rfl := os hr
      obtain ⟨rfl, rfl⟩ := kR _ _ rfl
      exact v_iret C dX12_asked_217
    · rw [if_neg c120] at hr
      refine v_aload_n C (lv_at hl 0 rfl) rfl dX12_asked_123 ?_
      obtain ⟨v124, e124, hr⟩ := ob hr
      refine v_getR C fl_RX12_91 rfl e124 dX12_asked_124 ?_
      refine v_bipush C 24 (by decide) dX12_asked_127 ?_
      refine v_iload_n C (lv_at hl 1 rfl) rfl dX12_asked_129 ?_
      refine v_imul C dX12_asked_130 ?_
      refine v_iload C (lv_at hl 3 rfl) dX12_asked_131 ?_
      refine v_iadd C dX12_asked_133 ?_
      obtain ⟨v134, e134, hr⟩ := ob hr
      refine v_ldI_i C e134 dX12_asked_134 ?_
      refine v_istore C (i := 5) (lv' := [(5, .int v134), (0, va_rf (some x0)), (2, .int x2), (3, .int x3), (4, .int x4)]) hl (by decide) rfl dX12_asked_135 (fun ls hl => ?_)
      refine v_aload_n C (lv_at hl 1 rfl) rfl dX12_asked_137 ?_
      obtain ⟨v138, e138, hr⟩ := ob hr
      refine v_getR C fl_RX12_88 rfl e138 dX12_asked_138 ?_
      refine v_bipush C 25 (by decide) dX12_asked_141 ?_
      refine v_iload_n C (lv_at hl 2 rfl) rfl dX12_asked_143 ?_
      refine v_imul C dX12_asked_144 ?_
      refine v_iload C (lv_at hl 4 rfl) dX12_asked_145 ?_
      refine v_iadd C dX12_asked_147 ?_
      refine v_iconst C 1 (by decide) dX12_asked_148 ?_
      refine v_iadd C dX12_asked_149 ?_
      obtain ⟨v150, e150, hr⟩ := ob hr
      refine v_ldI_i C e150 dX12_asked_150 ?_
      refine v_istore C (i := 6) (lv' := [(6, .int v150), (5, .int v134), (0, va_rf (some x0)), (2, .int x2), (3, .int x3), (4, .int x4)]) hl (by decide) rfl dX12_asked_151 (fun ls hl => ?_)
      refine v_iload C (lv_at hl 1 rfl) dX12_asked_153 ?_
      refine v_iload C (lv_at hl 0 rfl) dX12_asked_155 ?_
      refine v_icmp_ge C 176 (by decide) dX12_asked_157 (fun c157 => ?_) (fun c157 => ?_)
      · rw [if_pos c157] at hr
        exact b_X12_asked_176 C kR (@ih) hr _ (lv_sub hl [2, 3, 4, 5, 1] rfl)
      · rw [if_neg c157] at hr
        refine v_aload_n C (lv_at hl 2 rfl) rfl dX12_asked_160 ?_
        refine v_iload_n C (lv_at hl 3 rfl) rfl dX12_asked_161 ?_
        refine v_iload C (lv_at hl 1 rfl) dX12_asked_162 ?_
        refine v_iload C (lv_at hl 0 rfl) dX12_asked_164 ?_
        obtain ⟨b166, f166, hr⟩ := ob hr
        obtain ⟨g166, h166⟩ := rcv_n f166
        obtain ⟨⟨v166, S166⟩, e166, hr⟩ := ob hr
        (try dsimp only at hr)
        refine v_callV C (b := b166) h166 (by decide) rfl rfl (k_X12_comesTo e166) cw_X12_comesTo w_1878 w_1880 w_98 (show (parseMethodDescriptor (yX12_comesTo).desc).map (fun d => d.parameters.length) = some 3 by decide +kernel) ⟨by decide, by decide⟩ (rest := []) (stk2 := [.int v166]) (by rw [g166]; rfl) rfl (Nat.le_of_ble_eq_true rfl) hl dX12_asked_166 ?_
        refine v_iconst C 1 (by decide) dX12_asked_169 ?_
        refine v_icmp_eq C 176 (by decide) dX12_asked_170 (fun c170 => ?_) (fun c170 => ?_)
        · rw [if_pos c170] at hr
          exact b_X12_asked_176 C kR (@ih) hr _ (lv_sub hl [2, 3, 4, 5, 1] rfl)
        · rw [if_neg c170] at hr
          refine v_goto C 210 (by decide) dX12_asked_173 ?_
          refine v_iinc C (x4 + 1) (k0 := 5) (lv' := [(4, .int (x4 + 1)), (6, .int v150), (5, .int v134), (0, va_rf (some x0)), (2, .int x2), (3, .int x3)]) hl rfl rfl (by decide) rfl dX12_asked_210 (fun ls hl => ?_)
          refine v_goto C 112 (by decide) dX12_asked_213 ?_
          exact ih hr _ (lv_sub hl [3, 4, 5, 0] rfl)
theorem b_X12_asked_106  {S0 S S' : St} {rr : Int32} {x0 : Nat} {x2 : Int32} {t0 : Int32} {t1 : Int32} {t2 : Option Nat} (C : Cx p s m args meth c G S0 yX12_asked cX12_asked 8 (Option.some Jvm.ClassFile.FieldType.int)) (hr : f_X12_asked_106 S x0 x2 t0 t1 t2 = some (rr, S')) : ∀ ls : Array Slot, lv_has ls 8 [(0, va_rf (some x0)), (2, .int x2)] → V p l e (rmo 3 70 S0) s m args below meth c G S0 S (QM below args s G S0 S' (some (.int rr))) (F0 m 106 ls [.int t0, .int t1, va_rf t2]) := by
  intro ls hl
  unfold f_X12_asked_106 at hr
  obtain ⟨S106, e106, hr⟩ := ob hr
  refine v_stI_i C e106 dX12_asked_106 ?_
  refine v_iconst C 0 (by decide) dX12_asked_107 ?_
  refine v_istore_n C (i := 3) (lv' := [(3, .int 0), (0, va_rf (some x0)), (2, .int x2)]) hl rfl (by decide) rfl dX12_asked_108 (fun ls hl => ?_)
  refine v_iconst C 0 (by decide) dX12_asked_109 ?_
  refine v_istore C (i := 4) (lv' := [(4, .int 0), (3, .int 0), (0, va_rf (some x0)), (2, .int x2)]) hl (by decide) rfl dX12_asked_110 (fun ls hl => ?_)
  exact b_X12_asked_112 C (fun _ _ q => by cases q; exact ⟨rfl, rfl⟩) FU hr _ (lv_sub hl [2, 3, 1, 0] rfl)
theorem b_X12_asked_38  {S0 S S' : St} {rr : Int32} {x0 : Nat} {x1 : Int32} {x2 : Int32} {t0 : Int32} {t1 : Int32} {t2 : Option Nat} (C : Cx p s m args meth c G S0 yX12_asked cX12_asked 8 (Option.some Jvm.ClassFile.FieldType.int)) (hr : f_X12_asked_38 S x0 x1 x2 t0 t1 t2 = some (rr, S')) : ∀ ls : Array Slot, lv_has ls 8 [(0, va_rf (some x0)), (1, .int x1), (2, .int x2)] → V p l e (rmo 3 70 S0) s m args below meth c G S0 S (QM below args s G S0 S' (some (.int rr))) (F0 m 38 ls [.int t0, .int t1, va_rf t2]) := by
  intro ls hl
  unfold f_X12_asked_38 at hr
  obtain ⟨S38, e38, hr⟩ := ob hr
  refine v_stI_i C e38 dX12_asked_38 ?_
  refine v_aload_n C (lv_at hl 0 rfl) rfl dX12_asked_39 ?_
  obtain ⟨v40, e40, hr⟩ := ob hr
  refine v_getR C fl_RX12_125 rfl e40 dX12_asked_40 ?_
  refine v_iconst C 2 (by decide) dX12_asked_43 ?_
  refine v_aload_n C (lv_at hl 0 rfl) rfl dX12_asked_44 ?_
  obtain ⟨v45, e45, hr⟩ := ob hr
  refine v_getI C fl_RX12_197 rfl e45 dX12_asked_45 ?_
  refine v_aload_n C (lv_at hl 0 rfl) rfl dX12_asked_48 ?_
  obtain ⟨v49, e49, hr⟩ := ob hr
  refine v_getR C fl_RX12_131 rfl e49 dX12_asked_49 ?_
  refine v_iload_n C (lv_at hl 1 rfl) rfl dX12_asked_52 ?_
  obtain ⟨v53, e53, hr⟩ := ob hr
  refine v_ldI_i C e53 dX12_asked_53 ?_
  refine v_isub C dX12_asked_54 ?_
  refine v_sipush C 360 (by decide) dX12_asked_55 ?_
  obtain ⟨v58, e58, hr⟩ := ob hr
  refine v_idiv C e58 dX12_asked_58 ?_
  obtain ⟨S59, e59, hr⟩ := ob hr
  refine v_stI_i C e59 dX12_asked_59 ?_
  refine v_aload_n C (lv_at hl 0 rfl) rfl dX12_asked_60 ?_
  obtain ⟨v61, e61, hr⟩ := ob hr
  refine v_getR C fl_RX12_125 rfl e61 dX12_asked_61 ?_
  refine v_iconst C 3 (by decide) dX12_asked_64 ?_
  refine v_aload_n C (lv_at hl 0 rfl) rfl dX12_asked_65 ?_
  obtain ⟨v66, e66, hr⟩ := ob hr
  refine v_getR C fl_RX12_40 rfl e66 dX12_asked_66 ?_
  refine v_iload_n C (lv_at hl 1 rfl) rfl dX12_asked_69 ?_
  obtain ⟨v70, e70, hr⟩ := ob hr
  refine v_ldI_i C e70 dX12_asked_70 ?_
  obtain ⟨S71, e71, hr⟩ := ob hr
  refine v_stI_i C e71 dX12_asked_71 ?_
  refine v_aload_n C (lv_at hl 0 rfl) rfl dX12_asked_72 ?_
  obtain ⟨v73, e73, hr⟩ := ob hr
  refine v_getR C fl_RX12_125 rfl e73 dX12_asked_73 ?_
  refine v_iconst C 4 (by decide) dX12_asked_76 ?_
  refine v_aload_n C (lv_at hl 0 rfl) rfl dX12_asked_77 ?_
  obtain ⟨v78, e78, hr⟩ := ob hr
  refine v_getR C fl_RX12_34 rfl e78 dX12_asked_78 ?_
  refine v_aload_n C (lv_at hl 0 rfl) rfl dX12_asked_81 ?_
  obtain ⟨v82, e82, hr⟩ := ob hr
  refine v_getR C fl_RX12_43 rfl e82 dX12_asked_82 ?_
  refine v_iload_n C (lv_at hl 1 rfl) rfl dX12_asked_85 ?_
  obtain ⟨v86, e86, hr⟩ := ob hr
  refine v_ldI_i C e86 dX12_asked_86 ?_
  obtain ⟨v87, e87, hr⟩ := ob hr
  refine v_ldI_i C e87 dX12_asked_87 ?_
  refine v_iconst C (-1) (by decide) dX12_asked_88 ?_
  refine v_icmp_ne C 96 (by decide) dX12_asked_89 (fun c89 => ?_) (fun c89 => ?_)
  · rw [if_neg c89] at hr
    refine v_aload_n C (lv_at hl 0 rfl) rfl dX12_asked_96 ?_
    refine v_aload_n C (lv_at hl 0 rfl) rfl dX12_asked_97 ?_
    obtain ⟨v98, e98, hr⟩ := ob hr
    refine v_getR C fl_RX12_43 rfl e98 dX12_asked_98 ?_
    refine v_iload_n C (lv_at hl 1 rfl) rfl dX12_asked_101 ?_
    obtain ⟨v102, e102, hr⟩ := ob hr
    refine v_ldI_i C e102 dX12_asked_102 ?_
    obtain ⟨b103, f103, hr⟩ := ob hr
    obtain ⟨g103, h103⟩ := rcv_n f103
    obtain ⟨⟨v103, S103⟩, e103, hr⟩ := ob hr
    (try dsimp only at hr)
    refine v_callV C (b := b103) h103 (by decide) rfl rfl (k_X12_heirsOf e103) cw_X12_heirsOf w_1845 w_1847 w_94 (show (parseMethodDescriptor (yX12_heirsOf).desc).map (fun d => d.parameters.length) = some 1 by decide +kernel) ⟨by decide, by decide⟩ (rest := [.int 4, va_rf v73]) (stk2 := [.int v103, .int 4, va_rf v73]) (by rw [g103]; rfl) rfl (by simp [rf_cat, cat_i, cat_l]) hl dX12_asked_103 ?_
    exact b_X12_asked_106 C hr _ (lv_sub hl [0, 2] rfl)
  · rw [if_pos c89] at hr
    refine v_iconst C 0 (by decide) dX12_asked_92 ?_
    refine v_goto C 106 (by decide) dX12_asked_93 ?_
    exact b_X12_asked_106 C hr _ (lv_sub hl [0, 2] rfl)
theorem k_X12_asked {l : Launch} {G : Ge} {S S' : St} {x0 : Nat} {x1 : Int32} {rr : Int32} (hr : f_X12_asked S x0 x1 = some (rr, S')) : Ct l G yX12_asked cX12_asked 8 (Option.some Jvm.ClassFile.FieldType.int) S [va_rf (some x0), .int x1] (some (.int rr)) S' 3 70 := by
  refine ct_of (by decide +kernel) (Nat.le_of_ble_eq_true rfl) ?_
  intro p e s m args below meth c C ls hl
  have hl : lv_has ls 8 [(0, va_rf (some x0)), (1, .int x1)] := hl
  unfold f_X12_asked at hr
  refine v_aload_n C (lv_at hl 0 rfl) rfl dX12_asked_0 ?_
  obtain ⟨v1, e1, hr⟩ := ob hr
  refine v_getR C fl_RX12_128 rfl e1 dX12_asked_1 ?_
  refine v_iload_n C (lv_at hl 1 rfl) rfl dX12_asked_4 ?_
  obtain ⟨v5, e5, hr⟩ := ob hr
  refine v_ldI_i C e5 dX12_asked_5 ?_
  refine v_istore_n C (i := 2) (lv' := [(2, .int v5), (0, va_rf (some x0)), (1, .int x1)]) hl rfl (by decide) rfl dX12_asked_6 (fun ls hl => ?_)
  refine v_aload_n C (lv_at hl 1 rfl) rfl dX12_asked_7 ?_
  obtain ⟨v8, e8, hr⟩ := ob hr
  refine v_getR C fl_RX12_125 rfl e8 dX12_asked_8 ?_
  refine v_iconst C 1 (by decide) dX12_asked_11 ?_
  refine v_aload_n C (lv_at hl 1 rfl) rfl dX12_asked_12 ?_
  obtain ⟨v13, e13, hr⟩ := ob hr
  refine v_getR C fl_RX12_137 rfl e13 dX12_asked_13 ?_
  refine v_iload_n C (lv_at hl 2 rfl) rfl dX12_asked_16 ?_
  obtain ⟨v17, e17, hr⟩ := ob hr
  refine v_ldL C e17 dX12_asked_17 ?_
  refine v_ldc2 C w_1876 dX12_asked_18 ?_
  refine v_lcmp C dX12_asked_21 ?_
  refine v_if_le C 31 (by decide) dX12_asked_22 (fun c22 => ?_) (fun c22 => ?_)
  · rw [if_pos c22] at hr
    refine v_aload_n C (lv_at hl 1 rfl) rfl dX12_asked_31 ?_
    obtain ⟨v32, e32, hr⟩ := ob hr
    refine v_getR C fl_RX12_137 rfl e32 dX12_asked_32 ?_
    refine v_iload_n C (lv_at hl 2 rfl) rfl dX12_asked_35 ?_
    obtain ⟨v36, e36, hr⟩ := ob hr
    refine v_ldL C e36 dX12_asked_36 ?_
    refine v_l2i C dX12_asked_37 ?_
    exact b_X12_asked_38 C hr _ (lv_sub hl [1, 2, 0] rfl)
  · rw [if_neg c22] at hr
    refine v_ldcw C w_1877 dX12_asked_25 ?_
    refine v_goto C 38 (by decide) dX12_asked_28 ?_
    exact b_X12_asked_38 C hr _ (lv_sub hl [1, 2, 0] rfl)
-- X12_bound
def f_X12_bound_30 : Nat → St → Nat → Int32 → Int32 → Int32 → Int32 → Option (Nat × Int32 × Int32 × Int32 × Int32)
  | 0, _, _, _, _, _, _ => none
  | n + 1, S, x0, x1, x2, x3, x4 =>
    (if x4 < 0 then
    some (x0, x1, x2, x3, x4)
    else
    (getR S (some x0) 13 77).bind fun v36 =>
    (ldI S v36 15 ((20 * x1) + x4)).bind fun v46 =>
    (if v46 = (-1) then
    f_X12_bound_30 n S x0 x1 x2 x3 (x4 + (-1))
    else
    some (x0, x1, x2, x3, x4)))
def f_X12_bound_60 : Nat → St → Nat → Int32 → Int32 → Int32 → Int32 → Option (Nat × Int32 × Int32 × Int32 × Int32)
  | 0, _, _, _, _, _, _ => none
  | n + 1, S, x0, x1, x3, x4, x5 =>
    (if (20 : Int32) ≤ x5 then
    some (x0, x1, x3, x4, x5)
    else
    (getR S (some x0) 13 77).bind fun v68 =>
    (ldI S v68 15 ((20 * x1) + x5)).bind fun v78 =>
    (if v78 = (-1) then
    f_X12_bound_60 n S x0 x1 x3 x4 (x5 + 1)
    else
    some (x0, x1, x3, x4, x5)))
def f_X12_bound_135 (S : St) (x3 : Int32) (x6 : Int32) (t0 : Int32) : Option Int32 :=
    (if x3 = 0 then
    (if t0 ≤ x6 then
    some t0
    else
    some x6)
    else
    (if x6 ≤ t0 then
    some t0
    else
    some x6))
def f_X12_bound_110 (S : St) (x0 : Nat) (x1 : Int32) (x3 : Int32) (x5 : Int32) (t0 : Int32) : Option Int32 :=
    (if x5 = 20 then
    f_X12_bound_135 S x3 t0 0
    else
    (getR S (some x0) 13 77).bind fun v124 =>
    (ldI S v124 15 ((20 * x1) + x5)).bind fun v134 =>
    f_X12_bound_135 S x3 t0 v134)
def f_X12_bound_89 (S : St) (x0 : Nat) (x1 : Int32) (x3 : Int32) (x4 : Int32) (x5 : Int32) : Option Int32 :=
    (if (0 : Int32) ≤ x4 then
    (getR S (some x0) 13 77).bind fun v99 =>
    (ldI S v99 15 ((20 * x1) + x4)).bind fun v109 =>
    f_X12_bound_110 S x0 x1 x3 x5 v109
    else
    f_X12_bound_110 S x0 x1 x3 x5 0)
def f_X12_bound (S : St) (x0 : Nat) (x1 : Int32) (x2 : Int32) (x3 : Int32) : Option Int32 :=
    (getR S (some x0) 13 77).bind fun v1 =>
    (ldI S v1 15 ((20 * x1) + x2)).bind fun v10 =>
    (if v10 = (-1) then
    (f_X12_bound_30 FU S x0 x1 x2 x3 x2).bind fun (x0, x1_30, x2_30, x3_30, x4_30) => (f_X12_bound_60 FU S x0 x1_30 x3_30 x4_30 x2_30).bind fun (x0, x1_60, x3_60, x4_60, x5_60) => f_X12_bound_89 S x0 x1_60 x3_60 x4_60 x5_60
    else
    (getR S (some x0) 13 77).bind fun v16 =>
    (ldI S v16 15 ((20 * x1) + x2)).bind fun v25 =>
    some v25)
theorem b_X12_bound_30  {S : St} {rr : Int32} (C : Cx p s m args meth c G S yX12_bound cX12_bound 8 (Option.some Jvm.ClassFile.FieldType.int)) {o : (Nat × Int32 × Int32 × Int32 × Int32)} (kX57 : ∀ {x0 : Nat} {x1 : Int32} {x2 : Int32} {x3 : Int32} {x4 : Int32}, o = (x0, x1, x2, x3, x4) → ∀ ls : Array Slot, lv_has ls 8 [(0, va_rf (some x0)), (1, .int x1), (2, .int x2), (3, .int x3), (4, .int x4)] → V p l e (rmo 0 0 S) s m args below meth c G S S (QM below args s G S S (some (.int rr))) (F0 m 57 ls [])) : ∀ (n : Nat) {x0 : Nat} {x1 : Int32} {x2 : Int32} {x3 : Int32} {x4 : Int32}, f_X12_bound_30 n S x0 x1 x2 x3 x4 = some o → ∀ ls : Array Slot, lv_has ls 8 [(0, va_rf (some x0)), (1, .int x1), (2, .int x2), (3, .int x3), (4, .int x4)] → V p l e (rmo 0 0 S) s m args below meth c G S S (QM below args s G S S (some (.int rr))) (F0 m 30 ls []) := by
  intro n
  induction n with
  | zero => intro x0 x1 x2 x3 x4 hr; cases hr
  | succ n ih =>
    intro x0 x1 x2 x3 x4 hr ls hl
    unfold f_X12_bound_30 at hr
    refine v_iload C (lv_at hl 4 rfl) dX12_bound_30 ?_
    refine v_if_lt C 57 (by decide) dX12_bound_32 (fun c32 => ?_) (fun c32 => ?_)
    · rw [if_pos c32] at hr
      obtain rfl := os hr
      exact kX57 rfl _ (lv_sub hl [0, 1, 2, 3, 4] rfl)
    · rw [if_neg c32] at hr
      refine v_aload_n C (lv_at hl 0 rfl) rfl dX12_bound_35 ?_
      obtain ⟨v36, e36, hr⟩ := ob hr
      refine v_getR C fl_RX12_181 rfl e36 dX12_bound_36 ?_
      refine v_bipush C 20 (by decide) dX12_bound_39 ?_
      refine v_iload_n C (lv_at hl 1 rfl) rfl dX12_bound_41 ?_
      refine v_imul C dX12_bound_42 ?_
      refine v_iload C (lv_at hl 4 rfl) dX12_bound_43 ?_
      refine v_iadd C dX12_bound_45 ?_
      obtain ⟨v46, e46, hr⟩ := ob hr
      refine v_ldI_i C e46 dX12_bound_46 ?_
      refine v_iconst C (-1) (by decide) dX12_bound_47 ?_
      refine v_icmp_ne C 57 (by decide) dX12_bound_48 (fun c48 => ?_) (fun c48 => ?_)
      · rw [if_neg c48] at hr
        obtain rfl := os hr
        exact kX57 rfl _ (lv_sub hl [0, 1, 2, 3, 4] rfl)
      · rw [if_pos c48] at hr
        refine v_iinc C (x4 + (-1)) (k0 := 4) (lv' := [(4, .int (x4 + (-1))), (0, va_rf (some x0)), (1, .int x1), (2, .int x2), (3, .int x3)]) hl rfl (congrArg (fun z => x4 + z) (show Int32.ofInt (-1) = (-1) by decide)) (by decide) rfl dX12_bound_51 (fun ls hl => ?_)
        refine v_goto C 30 (by decide) dX12_bound_54 ?_
        exact ih hr _ (lv_sub hl [1, 2, 3, 4, 0] rfl)
theorem b_X12_bound_60  {S : St} {rr : Int32} (C : Cx p s m args meth c G S yX12_bound cX12_bound 8 (Option.some Jvm.ClassFile.FieldType.int)) {o : (Nat × Int32 × Int32 × Int32 × Int32)} (kX89 : ∀ {x0 : Nat} {x1 : Int32} {x3 : Int32} {x4 : Int32} {x5 : Int32}, o = (x0, x1, x3, x4, x5) → ∀ ls : Array Slot, lv_has ls 8 [(0, va_rf (some x0)), (1, .int x1), (3, .int x3), (4, .int x4), (5, .int x5)] → V p l e (rmo 0 0 S) s m args below meth c G S S (QM below args s G S S (some (.int rr))) (F0 m 89 ls [])) : ∀ (n : Nat) {x0 : Nat} {x1 : Int32} {x3 : Int32} {x4 : Int32} {x5 : Int32}, f_X12_bound_60 n S x0 x1 x3 x4 x5 = some o → ∀ ls : Array Slot, lv_has ls 8 [(0, va_rf (some x0)), (1, .int x1), (3, .int x3), (4, .int x4), (5, .int x5)] → V p l e (rmo 0 0 S) s m args below meth c G S S (QM below args s G S S (some (.int rr))) (F0 m 60 ls []) := by
  intro n
  induction n with
  | zero => intro x0 x1 x3 x4 x5 hr; cases hr
  | succ n ih =>
    intro x0 x1 x3 x4 x5 hr ls hl
    unfold f_X12_bound_60 at hr
    refine v_iload C (lv_at hl 4 rfl) dX12_bound_60 ?_
    refine v_bipush C 20 (by decide) dX12_bound_62 ?_
    refine v_icmp_ge C 89 (by decide) dX12_bound_64 (fun c64 => ?_) (fun c64 => ?_)
    · rw [if_pos c64] at hr
      obtain rfl := os hr
      exact kX89 rfl _ (lv_sub hl [0, 1, 2, 3, 4] rfl)
    · rw [if_neg c64] at hr
      refine v_aload_n C (lv_at hl 0 rfl) rfl dX12_bound_67 ?_
      obtain ⟨v68, e68, hr⟩ := ob hr
      refine v_getR C fl_RX12_181 rfl e68 dX12_bound_68 ?_
      refine v_bipush C 20 (by decide) dX12_bound_71 ?_
      refine v_iload_n C (lv_at hl 1 rfl) rfl dX12_bound_73 ?_
      refine v_imul C dX12_bound_74 ?_
      refine v_iload C (lv_at hl 4 rfl) dX12_bound_75 ?_
      refine v_iadd C dX12_bound_77 ?_
      obtain ⟨v78, e78, hr⟩ := ob hr
      refine v_ldI_i C e78 dX12_bound_78 ?_
      refine v_iconst C (-1) (by decide) dX12_bound_79 ?_
      refine v_icmp_ne C 89 (by decide) dX12_bound_80 (fun c80 => ?_) (fun c80 => ?_)
      · rw [if_neg c80] at hr
        obtain rfl := os hr
        exact kX89 rfl _ (lv_sub hl [0, 1, 2, 3, 4] rfl)
      · rw [if_pos c80] at hr
        refine v_iinc C (x5 + 1) (k0 := 4) (lv' := [(5, .int (x5 + 1)), (0, va_rf (some x0)), (1, .int x1), (3, .int x3), (4, .int x4)]) hl rfl rfl (by decide) rfl dX12_bound_83 (fun ls hl => ?_)
        refine v_goto C 60 (by decide) dX12_bound_86 ?_
        exact ih hr _ (lv_sub hl [1, 2, 3, 4, 0] rfl)
theorem b_X12_bound_135  {S : St} {rr : Int32} {x3 : Int32} {x6 : Int32} {t0 : Int32} (C : Cx p s m args meth c G S yX12_bound cX12_bound 8 (Option.some Jvm.ClassFile.FieldType.int)) (hr : f_X12_bound_135 S x3 x6 t0 = some rr) : ∀ ls : Array Slot, lv_has ls 8 [(3, .int x3), (6, .int x6)] → V p l e (rmo 0 0 S) s m args below meth c G S S (QM below args s G S S (some (.int rr))) (F0 m 135 ls [.int t0]) := by
  intro ls hl
  unfold f_X12_bound_135 at hr
  refine v_istore C (i := 7) (lv' := [(7, .int t0), (3, .int x3), (6, .int x6)]) hl (by decide) rfl dX12_bound_135 (fun ls hl => ?_)
  refine v_iload_n C (lv_at hl 1 rfl) rfl dX12_bound_137 ?_
  refine v_if_eq C 158 (by decide) dX12_bound_138 (fun c138 => ?_) (fun c138 => ?_)
  · rw [if_pos c138] at hr
    refine v_iload C (lv_at hl 2 rfl) dX12_bound_158 ?_
    refine v_iload C (lv_at hl 0 rfl) dX12_bound_160 ?_
    refine v_icmp_ge C 170 (by decide) dX12_bound_162 (fun c162 => ?_) (fun c162 => ?_)
    · rw [if_pos c162] at hr
      refine v_iload C (lv_at hl 0 rfl) dX12_bound_170 ?_
      obtain rfl := os hr
      exact v_iret C dX12_bound_172
    · rw [if_neg c162] at hr
      refine v_iload C (lv_at hl 2 rfl) dX12_bound_165 ?_
      refine v_goto C 172 (by decide) dX12_bound_167 ?_
      obtain rfl := os hr
      exact v_iret C dX12_bound_172
  · rw [if_neg c138] at hr
    refine v_iload C (lv_at hl 2 rfl) dX12_bound_141 ?_
    refine v_iload C (lv_at hl 0 rfl) dX12_bound_143 ?_
    refine v_icmp_le C 153 (by decide) dX12_bound_145 (fun c145 => ?_) (fun c145 => ?_)
    · rw [if_pos c145] at hr
      refine v_iload C (lv_at hl 0 rfl) dX12_bound_153 ?_
      refine v_goto C 172 (by decide) dX12_bound_155 ?_
      obtain rfl := os hr
      exact v_iret C dX12_bound_172
    · rw [if_neg c145] at hr
      refine v_iload C (lv_at hl 2 rfl) dX12_bound_148 ?_
      refine v_goto C 172 (by decide) dX12_bound_150 ?_
      obtain rfl := os hr
      exact v_iret C dX12_bound_172
theorem b_X12_bound_110  {S : St} {rr : Int32} {x0 : Nat} {x1 : Int32} {x3 : Int32} {x5 : Int32} {t0 : Int32} (C : Cx p s m args meth c G S yX12_bound cX12_bound 8 (Option.some Jvm.ClassFile.FieldType.int)) (hr : f_X12_bound_110 S x0 x1 x3 x5 t0 = some rr) : ∀ ls : Array Slot, lv_has ls 8 [(0, va_rf (some x0)), (1, .int x1), (3, .int x3), (5, .int x5)] → V p l e (rmo 0 0 S) s m args below meth c G S S (QM below args s G S S (some (.int rr))) (F0 m 110 ls [.int t0]) := by
  intro ls hl
  unfold f_X12_bound_110 at hr
  refine v_istore C (i := 6) (lv' := [(6, .int t0), (0, va_rf (some x0)), (1, .int x1), (3, .int x3), (5, .int x5)]) hl (by decide) rfl dX12_bound_110 (fun ls hl => ?_)
  refine v_iload C (lv_at hl 4 rfl) dX12_bound_112 ?_
  refine v_bipush C 20 (by decide) dX12_bound_114 ?_
  refine v_icmp_ne C 123 (by decide) dX12_bound_116 (fun c116 => ?_) (fun c116 => ?_)
  · rw [if_neg c116] at hr
    refine v_aload_n C (lv_at hl 1 rfl) rfl dX12_bound_123 ?_
    obtain ⟨v124, e124, hr⟩ := ob hr
    refine v_getR C fl_RX12_181 rfl e124 dX12_bound_124 ?_
    refine v_bipush C 20 (by decide) dX12_bound_127 ?_
    refine v_iload_n C (lv_at hl 2 rfl) rfl dX12_bound_129 ?_
    refine v_imul C dX12_bound_130 ?_
    refine v_iload C (lv_at hl 4 rfl) dX12_bound_131 ?_
    refine v_iadd C dX12_bound_133 ?_
    obtain ⟨v134, e134, hr⟩ := ob hr
    refine v_ldI_i C e134 dX12_bound_134 ?_
    exact b_X12_bound_135 C hr _ (lv_sub hl [3, 0] rfl)
  · rw [if_pos c116] at hr
    refine v_iconst C 0 (by decide) dX12_bound_119 ?_
    refine v_goto C 135 (by decide) dX12_bound_120 ?_
    exact b_X12_bound_135 C hr _ (lv_sub hl [3, 0] rfl)
theorem b_X12_bound_89  {S : St} {rr : Int32} {x0 : Nat} {x1 : Int32} {x3 : Int32} {x4 : Int32} {x5 : Int32} (C : Cx p s m args meth c G S yX12_bound cX12_bound 8 (Option.some Jvm.ClassFile.FieldType.int)) (hr : f_X12_bound_89 S x0 x1 x3 x4 x5 = some rr) : ∀ ls : Array Slot, lv_has ls 8 [(0, va_rf (some x0)), (1, .int x1), (3, .int x3), (4, .int x4), (5, .int x5)] → V p l e (rmo 0 0 S) s m args below meth c G S S (QM below args s G S S (some (.int rr))) (F0 m 89 ls []) := by
  intro ls hl
  unfold f_X12_bound_89 at hr
  refine v_iload C (lv_at hl 3 rfl) dX12_bound_89 ?_
  refine v_if_ge C 98 (by decide) dX12_bound_91 (fun c91 => ?_) (fun c91 => ?_)
  · rw [if_pos c91] at hr
    refine v_aload_n C (lv_at hl 0 rfl) rfl dX12_bound_98 ?_
    obtain ⟨v99, e99, hr⟩ := ob hr
    refine v_getR C fl_RX12_181 rfl e99 dX12_bound_99 ?_
    refine v_bipush C 20 (by decide) dX12_bound_102 ?_
    refine v_iload_n C (lv_at hl 1 rfl) rfl dX12_bound_104 ?_
    refine v_imul C dX12_bound_105 ?_
    refine v_iload C (lv_at hl 3 rfl) dX12_bound_106 ?_
    refine v_iadd C dX12_bound_108 ?_
    obtain ⟨v109, e109, hr⟩ := ob hr
    refine v_ldI_i C e109 dX12_bound_109 ?_
    exact b_X12_bound_110 C hr _ (lv_sub hl [0, 1, 2, 4] rfl)
  · rw [if_neg c91] at hr
    refine v_iconst C 0 (by decide) dX12_bound_94 ?_
    refine v_goto C 110 (by decide) dX12_bound_95 ?_
    exact b_X12_bound_110 C hr _ (lv_sub hl [0, 1, 2, 4] rfl)
theorem k_X12_bound {l : Launch} {G : Ge} {S : St} {x0 : Nat} {x1 : Int32} {x2 : Int32} {x3 : Int32} {rr : Int32} (hr : f_X12_bound S x0 x1 x2 x3 = some rr) : Ct l G yX12_bound cX12_bound 8 (Option.some Jvm.ClassFile.FieldType.int) S [va_rf (some x0), .int x1, .int x2, .int x3] (some (.int rr)) S 0 0 := by
  refine ct_of (by decide +kernel) (Nat.le_of_ble_eq_true rfl) ?_
  intro p e s m args below meth c C ls hl
  have hl : lv_has ls 8 [(0, va_rf (some x0)), (1, .int x1), (2, .int x2), (3, .int x3)] := hl
  unfold f_X12_bound at hr
  refine v_aload_n C (lv_at hl 0 rfl) rfl dX12_bound_0 ?_
  obtain ⟨v1, e1, hr⟩ := ob hr
  refine v_getR C fl_RX12_181 rfl e1 dX12_bound_1 ?_
  refine v_bipush C 20 (by decide) dX12_bound_4 ?_
  refine v_iload_n C (lv_at hl 1 rfl) rfl dX12_bound_6 ?_
  refine v_imul C dX12_bound_7 ?_
  refine v_iload_n C (lv_at hl 2 rfl) rfl dX12_bound_8 ?_
  refine v_iadd C dX12_bound_9 ?_
  obtain ⟨v10, e10, hr⟩ := ob hr
  refine v_ldI_i C e10 dX12_bound_10 ?_
  refine v_iconst C (-1) (by decide) dX12_bound_11 ?_
  refine v_icmp_eq C 27 (by decide) dX12_bound_12 (fun c12 => ?_) (fun c12 => ?_)
  · rw [if_pos c12] at hr
    refine v_iload_n C (lv_at hl 2 rfl) rfl dX12_bound_27 ?_
    refine v_istore C (i := 4) (lv' := [(4, .int x2), (0, va_rf (some x0)), (1, .int x1), (2, .int x2), (3, .int x3)]) hl (by decide) rfl dX12_bound_28 (fun ls hl => ?_)
    obtain ⟨o30, e30, hr⟩ := ob hr
    refine b_X12_bound_30 C ?_ FU e30 _ (lv_sub hl [1, 2, 3, 4, 0] rfl)
    · intro x0 x1_30 x2_30 x3_30 x4_30 q ls hl
      subst q
      (try dsimp only at hr)
      refine v_iload_n C (lv_at hl 2 rfl) rfl dX12_bound_57 ?_
      refine v_istore C (i := 5) (lv' := [(5, .int x2_30), (0, va_rf (some x0)), (1, .int x1_30), (2, .int x2_30), (3, .int x3_30), (4, .int x4_30)]) hl (by decide) rfl dX12_bound_58 (fun ls hl => ?_)
      obtain ⟨o60, e60, hr⟩ := ob hr
      refine b_X12_bound_60 C ?_ FU e60 _ (lv_sub hl [1, 2, 4, 5, 0] rfl)
      · intro x0 x1_60 x3_60 x4_60 x5_60 q ls hl
        subst q
        (try dsimp only at hr)
        exact b_X12_bound_89 C hr _ (lv_sub hl [0, 1, 2, 3, 4] rfl)
  · rw [if_neg c12] at hr
    refine v_aload_n C (lv_at hl 0 rfl) rfl dX12_bound_15 ?_
    obtain ⟨v16, e16, hr⟩ := ob hr
    refine v_getR C fl_RX12_181 rfl e16 dX12_bound_16 ?_
    refine v_bipush C 20 (by decide) dX12_bound_19 ?_
    refine v_iload_n C (lv_at hl 1 rfl) rfl dX12_bound_21 ?_
    refine v_imul C dX12_bound_22 ?_
    refine v_iload_n C (lv_at hl 2 rfl) rfl dX12_bound_23 ?_
    refine v_iadd C dX12_bound_24 ?_
    obtain ⟨v25, e25, hr⟩ := ob hr
    refine v_ldI_i C e25 dX12_bound_25 ?_
    obtain rfl := os hr
    exact v_iret C dX12_bound_26
-- X12_audit
def f_X12_audit_46 (rec : St → Nat → Int32 → Int32 → Int32 → Int32 → Option (Int32)) (S : St) (x0 : Nat) (x1 : Int32) (x2 : Int32) (x4 : Int32) (t0 : Int32) (t1 : Int32) (t2 : Int32) (t3 : Option Nat) (t4 : Int32) : Option (Int32) :=
    (rcv S t3 13).bind fun b46 =>
    (f_X12_bound S b46 t2 t1 t0).bind fun v46 =>
    rec S x0 x1 x2 (t4 + v46) (x4 + 1)
def f_X12_audit_24 : Nat → St → Nat → Int32 → Int32 → Int32 → Int32 → Option (Int32)
  | 0, _, _, _, _, _, _ => none
  | n + 1, S, x0, x1, x2, x3, x4 =>
    (if (20 : Int32) ≤ x4 then
    some x3
    else
    (if x2 = 1 then
    f_X12_audit_46 (f_X12_audit_24 n) S x0 x1 x2 x4 1 x4 x1 (some x0) x3
    else
    f_X12_audit_46 (f_X12_audit_24 n) S x0 x1 x2 x4 0 x4 x1 (some x0) x3))
def f_X12_audit (S : St) (x0 : Nat) (x1 : Int32) (x2 : Int32) : Option Int32 :=
    (rcv S (some x0) 13).bind fun b2 =>
    (f_X12_isFirm S b2 x1).bind fun v2 =>
    (if v2 = 0 then
    some (-1)
    else
    (f_X12_isIn S x2 0 1).bind fun v15 =>
    (if v15 = 0 then
    (f_X12_isIn S x2 10 29).bind fun v64 =>
    (if v64 = 0 then
    (f_X12_isIn S x2 40 59).bind fun v86 =>
    (if v86 = 0 then
    some (-1)
    else
    (rcv S (some x0) 13).bind fun b99 =>
    (f_X12_bound S b99 x1 (x2 - 40) 1).bind fun v99 =>
    some v99)
    else
    (rcv S (some x0) 13).bind fun b77 =>
    (f_X12_bound S b77 x1 (x2 - 10) 0).bind fun v77 =>
    some v77)
    else
    f_X12_audit_24 FU S x0 x1 x2 0 0))
theorem b_X12_audit_46  {S : St} {rr : Int32} {x0 : Nat} {x1 : Int32} {x2 : Int32} {x4 : Int32} {t0 : Int32} {t1 : Int32} {t2 : Int32} {t3 : Option Nat} {t4 : Int32} (C : Cx p s m args meth c G S yX12_audit cX12_audit 5 (Option.some Jvm.ClassFile.FieldType.int)) {o : (Int32)} {rec : St → Nat → Int32 → Int32 → Int32 → Int32 → Option (Int32)} (kR : ∀ (v : Int32), o = v → rr = v) (ihk : ∀ {x0 : Nat} {x1 : Int32} {x2 : Int32} {x3 : Int32} {x4 : Int32}, rec S x0 x1 x2 x3 x4 = some o → ∀ ls : Array Slot, lv_has ls 5 [(0, va_rf (some x0)), (1, .int x1), (2, .int x2), (3, .int x3), (4, .int x4)] → V p l e (rmo 2 43 S) s m args below meth c G S S (QM below args s G S S (some (.int rr))) (F0 m 24 ls [])) (hr : f_X12_audit_46 rec S x0 x1 x2 x4 t0 t1 t2 t3 t4 = some o) : ∀ ls : Array Slot, lv_has ls 5 [(0, va_rf (some x0)), (1, .int x1), (2, .int x2), (4, .int x4)] → V p l e (rmo 2 43 S) s m args below meth c G S S (QM below args s G S S (some (.int rr))) (F0 m 46 ls [.int t0, .int t1, .int t2, va_rf t3, .int t4]) := by
  intro ls hl
  unfold f_X12_audit_46 at hr
  obtain ⟨b46, f46, hr⟩ := ob hr
  obtain ⟨g46, h46⟩ := rcv_n f46
  obtain ⟨v46, e46, hr⟩ := ob hr
  refine v_callV C (b := b46) h46 (by decide) rfl rfl (k_X12_bound e46) cw_X12_bound w_1911 w_1913 w_100 (show (parseMethodDescriptor (yX12_bound).desc).map (fun d => d.parameters.length) = some 3 by decide +kernel) ⟨by decide, by decide⟩ (rest := [.int t4]) (stk2 := [.int v46, .int t4]) (by rw [g46]; rfl) rfl (Nat.le_of_ble_eq_true rfl) hl dX12_audit_46 ?_
  refine v_iadd C dX12_audit_49 ?_
  refine v_istore_n C (i := 3) (lv' := [(3, .int (t4 + v46)), (0, va_rf (some x0)), (1, .int x1), (2, .int x2), (4, .int x4)]) hl rfl (by decide) rfl dX12_audit_50 (fun ls hl => ?_)
  refine v_iinc C (x4 + 1) (k0 := 4) (lv' := [(4, .int (x4 + 1)), (3, .int (t4 + v46)), (0, va_rf (some x0)), (1, .int x1), (2, .int x2)]) hl rfl rfl (by decide) rfl dX12_audit_51 (fun ls hl => ?_)
  refine v_goto C 24 (by decide) dX12_audit_54 ?_
  exact ihk hr _ (lv_sub hl [2, 3, 4, 1, 0] rfl)
theorem b_X12_audit_24  {S : St} {rr : Int32} (C : Cx p s m args meth c G S yX12_audit cX12_audit 5 (Option.some Jvm.ClassFile.FieldType.int)) {o : (Int32)} (kR : ∀ (v : Int32), o = v → rr = v) : ∀ (n : Nat) {x0 : Nat} {x1 : Int32} {x2 : Int32} {x3 : Int32} {x4 : Int32}, f_X12_audit_24 n S x0 x1 x2 x3 x4 = some o → ∀ ls : Array Slot, lv_has ls 5 [(0, va_rf (some x0)), (1, .int x1), (2, .int x2), (3, .int x3), (4, .int x4)] → V p l e (rmo 2 43 S) s m args below meth c G S S (QM below args s G S S (some (.int rr))) (F0 m 24 ls []) := by
  intro n
  induction n with
  | zero => intro x0 x1 x2 x3 x4 hr; cases hr
  | succ n ih =>
    intro x0 x1 x2 x3 x4 hr ls hl
    unfold f_X12_audit_24 at hr
    refine v_iload C (lv_at hl 4 rfl) dX12_audit_24 ?_
    refine v_bipush C 20 (by decide) dX12_audit_26 ?_
    refine v_icmp_ge C 57 (by decide) dX12_audit_28 (fun c28 => ?_) (fun c28 => ?_)
    · rw [if_pos c28] at hr
      refine v_iload_n C (lv_at hl 3 rfl) rfl dX12_audit_57 ?_
      obtain rfl := os hr
      obtain rfl := kR _ rfl
      exact v_iret C dX12_audit_58
    · rw [if_neg c28] at hr
      refine v_iload_n C (lv_at hl 3 rfl) rfl dX12_audit_31 ?_
      refine v_aload_n C (lv_at hl 0 rfl) rfl dX12_audit_32 ?_
      refine v_iload_n C (lv_at hl 1 rfl) rfl dX12_audit_33 ?_
      refine v_iload C (lv_at hl 4 rfl) dX12_audit_34 ?_
      refine v_iload_n C (lv_at hl 2 rfl) rfl dX12_audit_36 ?_
      refine v_iconst C 1 (by decide) dX12_audit_37 ?_
      refine v_icmp_ne C 45 (by decide) dX12_audit_38 (fun c38 => ?_) (fun c38 => ?_)
      · rw [if_neg c38] at hr
        refine v_iconst C 0 (by decide) dX12_audit_45 ?_
        exact b_X12_audit_46 C kR (@ih) hr _ (lv_sub hl [0, 1, 2, 4] rfl)
      · rw [if_pos c38] at hr
        refine v_iconst C 1 (by decide) dX12_audit_41 ?_
        refine v_goto C 46 (by decide) dX12_audit_42 ?_
        exact b_X12_audit_46 C kR (@ih) hr _ (lv_sub hl [0, 1, 2, 4] rfl)
theorem k_X12_audit {l : Launch} {G : Ge} {S : St} {x0 : Nat} {x1 : Int32} {x2 : Int32} {rr : Int32} (hr : f_X12_audit S x0 x1 x2 = some rr) : Ct l G yX12_audit cX12_audit 5 (Option.some Jvm.ClassFile.FieldType.int) S [va_rf (some x0), .int x1, .int x2] (some (.int rr)) S 2 43 := by
  refine ct_of (by decide +kernel) (Nat.le_of_ble_eq_true rfl) ?_
  intro p e s m args below meth c C ls hl
  have hl : lv_has ls 5 [(0, va_rf (some x0)), (1, .int x1), (2, .int x2)] := hl
  unfold f_X12_audit at hr
  refine v_aload_n C (lv_at hl 0 rfl) rfl dX12_audit_0 ?_
  refine v_iload_n C (lv_at hl 1 rfl) rfl dX12_audit_1 ?_
  obtain ⟨b2, f2, hr⟩ := ob hr
  obtain ⟨g2, h2⟩ := rcv_n f2
  obtain ⟨v2, e2, hr⟩ := ob hr
  refine v_callV C (b := b2) h2 (by decide) rfl rfl (k_X12_isFirm e2) cw_X12_isFirm w_1569 w_1571 w_52 (show (parseMethodDescriptor (yX12_isFirm).desc).map (fun d => d.parameters.length) = some 1 by decide +kernel) ⟨by decide, by decide⟩ (rest := []) (stk2 := [.int v2]) (by rw [g2]; rfl) rfl (Nat.le_of_ble_eq_true rfl) hl dX12_audit_2 ?_
  refine v_if_ne C 10 (by decide) dX12_audit_5 (fun c5 => ?_) (fun c5 => ?_)
  · rw [if_neg c5] at hr
    refine v_iconst C 0 (by decide) dX12_audit_10 ?_
    refine v_istore_n C (i := 3) (lv' := [(3, .int 0), (0, va_rf (some x0)), (1, .int x1), (2, .int x2)]) hl rfl (by decide) rfl dX12_audit_11 (fun ls hl => ?_)
    refine v_iload_n C (lv_at hl 3 rfl) rfl dX12_audit_12 ?_
    refine v_iconst C 0 (by decide) dX12_audit_13 ?_
    refine v_iconst C 1 (by decide) dX12_audit_14 ?_
    obtain ⟨v15, e15, hr⟩ := ob hr
    refine v_callS C (k_X12_isIn e15) cw_X12_isIn w_1555 w_1556 (show (parseMethodDescriptor (yX12_isIn).desc).map (fun d => d.parameters.length) = some 3 by decide +kernel) ⟨by decide, by decide⟩ (rest := []) (stk2 := [.int v15]) rfl rfl (Nat.le_of_ble_eq_true rfl) hl dX12_audit_15 ?_
    refine v_if_eq C 59 (by decide) dX12_audit_18 (fun c18 => ?_) (fun c18 => ?_)
    · rw [if_pos c18] at hr
      refine v_iload_n C (lv_at hl 3 rfl) rfl dX12_audit_59 ?_
      refine v_bipush C 10 (by decide) dX12_audit_60 ?_
      refine v_bipush C 29 (by decide) dX12_audit_62 ?_
      obtain ⟨v64, e64, hr⟩ := ob hr
      refine v_callS C (k_X12_isIn e64) cw_X12_isIn w_1555 w_1556 (show (parseMethodDescriptor (yX12_isIn).desc).map (fun d => d.parameters.length) = some 3 by decide +kernel) ⟨by decide, by decide⟩ (rest := []) (stk2 := [.int v64]) rfl rfl (Nat.le_of_ble_eq_true rfl) hl dX12_audit_64 ?_
      refine v_if_eq C 81 (by decide) dX12_audit_67 (fun c67 => ?_) (fun c67 => ?_)
      · rw [if_pos c67] at hr
        refine v_iload_n C (lv_at hl 3 rfl) rfl dX12_audit_81 ?_
        refine v_bipush C 40 (by decide) dX12_audit_82 ?_
        refine v_bipush C 59 (by decide) dX12_audit_84 ?_
        obtain ⟨v86, e86, hr⟩ := ob hr
        refine v_callS C (k_X12_isIn e86) cw_X12_isIn w_1555 w_1556 (show (parseMethodDescriptor (yX12_isIn).desc).map (fun d => d.parameters.length) = some 3 by decide +kernel) ⟨by decide, by decide⟩ (rest := []) (stk2 := [.int v86]) rfl rfl (Nat.le_of_ble_eq_true rfl) hl dX12_audit_86 ?_
        refine v_if_eq C 105 (by decide) dX12_audit_89 (fun c89 => ?_) (fun c89 => ?_)
        · rw [if_pos c89] at hr
          refine v_iconst C (-1) (by decide) dX12_audit_105 ?_
          obtain rfl := os hr
          exact v_iret C dX12_audit_106
        · rw [if_neg c89] at hr
          refine v_aload_n C (lv_at hl 1 rfl) rfl dX12_audit_92 ?_
          refine v_iload_n C (lv_at hl 2 rfl) rfl dX12_audit_93 ?_
          refine v_iload_n C (lv_at hl 3 rfl) rfl dX12_audit_94 ?_
          refine v_bipush C 40 (by decide) dX12_audit_95 ?_
          refine v_isub C dX12_audit_97 ?_
          refine v_iconst C 1 (by decide) dX12_audit_98 ?_
          obtain ⟨b99, f99, hr⟩ := ob hr
          obtain ⟨g99, h99⟩ := rcv_n f99
          obtain ⟨v99, e99, hr⟩ := ob hr
          refine v_callV C (b := b99) h99 (by decide) rfl rfl (k_X12_bound e99) cw_X12_bound w_1911 w_1913 w_100 (show (parseMethodDescriptor (yX12_bound).desc).map (fun d => d.parameters.length) = some 3 by decide +kernel) ⟨by decide, by decide⟩ (rest := []) (stk2 := [.int v99]) (by rw [g99]; rfl) rfl (Nat.le_of_ble_eq_true rfl) hl dX12_audit_99 ?_
          refine v_goto C 106 (by decide) dX12_audit_102 ?_
          obtain rfl := os hr
          exact v_iret C dX12_audit_106
      · rw [if_neg c67] at hr
        refine v_aload_n C (lv_at hl 1 rfl) rfl dX12_audit_70 ?_
        refine v_iload_n C (lv_at hl 2 rfl) rfl dX12_audit_71 ?_
        refine v_iload_n C (lv_at hl 3 rfl) rfl dX12_audit_72 ?_
        refine v_bipush C 10 (by decide) dX12_audit_73 ?_
        refine v_isub C dX12_audit_75 ?_
        refine v_iconst C 0 (by decide) dX12_audit_76 ?_
        obtain ⟨b77, f77, hr⟩ := ob hr
        obtain ⟨g77, h77⟩ := rcv_n f77
        obtain ⟨v77, e77, hr⟩ := ob hr
        refine v_callV C (b := b77) h77 (by decide) rfl rfl (k_X12_bound e77) cw_X12_bound w_1911 w_1913 w_100 (show (parseMethodDescriptor (yX12_bound).desc).map (fun d => d.parameters.length) = some 3 by decide +kernel) ⟨by decide, by decide⟩ (rest := []) (stk2 := [.int v77]) (by rw [g77]; rfl) rfl (Nat.le_of_ble_eq_true rfl) hl dX12_audit_77 ?_
        obtain rfl := os hr
        exact v_iret C dX12_audit_80
    · rw [if_neg c18] at hr
      refine v_iconst C 0 (by decide) dX12_audit_21 ?_
      refine v_istore C (i := 4) (lv' := [(4, .int 0), (3, .int 0), (0, va_rf (some x0)), (1, .int x1), (2, .int x2)]) hl (by decide) rfl dX12_audit_22 (fun ls hl => ?_)
      exact b_X12_audit_24 C (fun _ q => by cases q; rfl) FU hr _ (lv_sub hl [2, 3, 4, 1, 0] rfl)
  · rw [if_pos c5] at hr
    refine v_iconst C (-1) (by decide) dX12_audit_8 ?_
    obtain rfl := os hr
    exact v_iret C dX12_audit_9
-- X12_isGood
def f_X12_isGood (S : St) (x0 : Nat) (x1 : Int32) : Option (Int32 × St) :=
    (getR S (some x0) 13 71).bind fun v1 =>
    (ldI S v1 15 x1).bind fun v5 =>
    (getR S (some x0) 13 16).bind fun v8 =>
    (ldI S v8 15 v5).bind fun v12 =>
    (getR S (some x0) 13 72).bind fun v15 =>
    (ldI S v15 15 x1).bind fun v19 =>
    (rcv S (some x0) 13).bind fun b22 =>
    (f_X12_asked S b22 v5).bind fun (v22, S22) =>
    (if v22 ≤ v19 then
    (getR S22 (some x0) 13 13).bind fun v31 =>
    (ldI S22 v31 15 v12).bind fun v35 =>
    (if v35 = (-1) then
    (getR S22 (some x0) 13 70).bind fun v41 =>
    (ldI S22 v41 15 x1).bind fun v45 =>
    (if v45 = v12 then
    some (1, S22)
    else
    some (0, S22))
    else
    (rcv S22 (some x0) 13).bind fun b58 =>
    (f_X12_shares S22 b58 v12).bind fun S58 =>
    (getR S58 (some x0) 13 67).bind fun v62 =>
    (getR S58 (some x0) 13 70).bind fun v66 =>
    (ldI S58 v66 15 x1).bind fun v70 =>
    (ldL S58 v62 v70).bind fun v71 =>
    (if (lg_cmp v71 0) ≤ 0 then
    some (0, S58)
    else
    some (1, S58)))
    else
    some (0, S22))
theorem k_X12_isGood {l : Launch} {G : Ge} {S S' : St} {x0 : Nat} {x1 : Int32} {rr : Int32} (hr : f_X12_isGood S x0 x1 = some (rr, S')) : Ct l G yX12_isGood cX12_isGood 4 (Option.some Jvm.ClassFile.FieldType.boolean) S [va_rf (some x0), .int x1] (some (.int rr)) S' 4 97 := by
  refine ct_of (by decide +kernel) (Nat.le_of_ble_eq_true rfl) ?_
  intro p e s m args below meth c C ls hl
  have hl : lv_has ls 4 [(0, va_rf (some x0)), (1, .int x1)] := hl
  unfold f_X12_isGood at hr
  refine v_aload_n C (lv_at hl 0 rfl) rfl dX12_isGood_0 ?_
  obtain ⟨v1, e1, hr⟩ := ob hr
  refine v_getR C fl_RX12_163 rfl e1 dX12_isGood_1 ?_
  refine v_iload_n C (lv_at hl 1 rfl) rfl dX12_isGood_4 ?_
  obtain ⟨v5, e5, hr⟩ := ob hr
  refine v_ldI_i C e5 dX12_isGood_5 ?_
  refine v_istore_n C (i := 2) (lv' := [(2, .int v5), (0, va_rf (some x0)), (1, .int x1)]) hl rfl (by decide) rfl dX12_isGood_6 (fun ls hl => ?_)
  refine v_aload_n C (lv_at hl 1 rfl) rfl dX12_isGood_7 ?_
  obtain ⟨v8, e8, hr⟩ := ob hr
  refine v_getR C fl_RX12_43 rfl e8 dX12_isGood_8 ?_
  refine v_iload_n C (lv_at hl 0 rfl) rfl dX12_isGood_11 ?_
  obtain ⟨v12, e12, hr⟩ := ob hr
  refine v_ldI_i C e12 dX12_isGood_12 ?_
  refine v_istore_n C (i := 3) (lv' := [(3, .int v12), (2, .int v5), (0, va_rf (some x0)), (1, .int x1)]) hl rfl (by decide) rfl dX12_isGood_13 (fun ls hl => ?_)
  refine v_aload_n C (lv_at hl 2 rfl) rfl dX12_isGood_14 ?_
  obtain ⟨v15, e15, hr⟩ := ob hr
  refine v_getR C fl_RX12_166 rfl e15 dX12_isGood_15 ?_
  refine v_iload_n C (lv_at hl 3 rfl) rfl dX12_isGood_18 ?_
  obtain ⟨v19, e19, hr⟩ := ob hr
  refine v_ldI_i C e19 dX12_isGood_19 ?_
  refine v_aload_n C (lv_at hl 2 rfl) rfl dX12_isGood_20 ?_
  refine v_iload_n C (lv_at hl 1 rfl) rfl dX12_isGood_21 ?_
  obtain ⟨b22, f22, hr⟩ := ob hr
  obtain ⟨g22, h22⟩ := rcv_n f22
  obtain ⟨⟨v22, S22⟩, e22, hr⟩ := ob hr
  (try dsimp only at hr)
  refine v_callV C (b := b22) h22 (by decide) rfl rfl (k_X12_asked e22) cw_X12_asked w_1872 w_1874 w_97 (show (parseMethodDescriptor (yX12_asked).desc).map (fun d => d.parameters.length) = some 1 by decide +kernel) ⟨by decide, by decide⟩ (rest := [.int v19]) (stk2 := [.int v22, .int v19]) (by rw [g22]; rfl) rfl (Nat.le_of_ble_eq_true rfl) hl dX12_isGood_22 ?_
  refine v_icmp_ge C 30 (by decide) dX12_isGood_25 (fun c25 => ?_) (fun c25 => ?_)
  · rw [if_pos c25] at hr
    refine v_aload_n C (lv_at hl 2 rfl) rfl dX12_isGood_30 ?_
    obtain ⟨v31, e31, hr⟩ := ob hr
    refine v_getR C fl_RX12_34 rfl e31 dX12_isGood_31 ?_
    refine v_iload_n C (lv_at hl 0 rfl) rfl dX12_isGood_34 ?_
    obtain ⟨v35, e35, hr⟩ := ob hr
    refine v_ldI_i C e35 dX12_isGood_35 ?_
    refine v_iconst C (-1) (by decide) dX12_isGood_36 ?_
    refine v_icmp_ne C 56 (by decide) dX12_isGood_37 (fun c37 => ?_) (fun c37 => ?_)
    · rw [if_neg c37] at hr
      refine v_aload_n C (lv_at hl 2 rfl) rfl dX12_isGood_56 ?_
      refine v_iload_n C (lv_at hl 0 rfl) rfl dX12_isGood_57 ?_
      obtain ⟨b58, f58, hr⟩ := ob hr
      obtain ⟨g58, h58⟩ := rcv_n f58
      obtain ⟨S58, e58, hr⟩ := ob hr
      refine v_callV C (b := b58) h58 (by decide) rfl rfl (k_X12_shares e58) cw_X12_shares w_1849 w_1851 w_95 (show (parseMethodDescriptor (yX12_shares).desc).map (fun d => d.parameters.length) = some 1 by decide +kernel) ⟨by decide, by decide⟩ (rest := []) (stk2 := []) (by rw [g58]; rfl) rfl (Nat.le_of_ble_eq_true rfl) hl dX12_isGood_58 ?_
      refine v_aload_n C (lv_at hl 2 rfl) rfl dX12_isGood_61 ?_
      obtain ⟨v62, e62, hr⟩ := ob hr
      refine v_getR C fl_RX12_154 rfl e62 dX12_isGood_62 ?_
      refine v_aload_n C (lv_at hl 2 rfl) rfl dX12_isGood_65 ?_
      obtain ⟨v66, e66, hr⟩ := ob hr
      refine v_getR C fl_RX12_160 rfl e66 dX12_isGood_66 ?_
      refine v_iload_n C (lv_at hl 3 rfl) rfl dX12_isGood_69 ?_
      obtain ⟨v70, e70, hr⟩ := ob hr
      refine v_ldI_i C e70 dX12_isGood_70 ?_
      obtain ⟨v71, e71, hr⟩ := ob hr
      refine v_ldL C e71 dX12_isGood_71 ?_
      refine v_lconst C 0 (by decide) dX12_isGood_72 ?_
      refine v_lcmp C dX12_isGood_73 ?_
      refine v_if_le C 81 (by decide) dX12_isGood_74 (fun c74 => ?_) (fun c74 => ?_)
      · rw [if_pos c74] at hr
        refine v_iconst C 0 (by decide) dX12_isGood_81 ?_
        obtain ⟨rfl, rfl⟩ := Prod.mk.inj (os hr)
        exact v_zret C rfl dX12_isGood_82
      · rw [if_neg c74] at hr
        refine v_iconst C 1 (by decide) dX12_isGood_77 ?_
        refine v_goto C 82 (by decide) dX12_isGood_78 ?_
        obtain ⟨rfl, rfl⟩ := Prod.mk.inj (os hr)
        exact v_zret C rfl dX12_isGood_82
    · rw [if_pos c37] at hr
      refine v_aload_n C (lv_at hl 2 rfl) rfl dX12_isGood_40 ?_
      obtain ⟨v41, e41, hr⟩ := ob hr
      refine v_getR C fl_RX12_160 rfl e41 dX12_isGood_41 ?_
      refine v_iload_n C (lv_at hl 3 rfl) rfl dX12_isGood_44 ?_
      obtain ⟨v45, e45, hr⟩ := ob hr
      refine v_ldI_i C e45 dX12_isGood_45 ?_
      refine v_iload_n C (lv_at hl 0 rfl) rfl dX12_isGood_46 ?_
      refine v_icmp_ne C 54 (by decide) dX12_isGood_47 (fun c47 => ?_) (fun c47 => ?_)
      · rw [if_neg c47] at hr
        refine v_iconst C 0 (by decide) dX12_isGood_54 ?_
        obtain ⟨rfl, rfl⟩ := Prod.mk.inj (os hr)
        exact v_zret C rfl dX12_isGood_55
      · rw [if_pos c47] at hr
        refine v_iconst C 1 (by decide) dX12_isGood_50 ?_
        refine v_goto C 55 (by decide) dX12_isGood_51 ?_
        obtain ⟨rfl, rfl⟩ := Prod.mk.inj (os hr)
        exact v_zret C rfl dX12_isGood_55
  · rw [if_neg c25] at hr
    refine v_iconst C 0 (by decide) dX12_isGood_28 ?_
    obtain ⟨rfl, rfl⟩ := Prod.mk.inj (os hr)
    exact v_zret C rfl dX12_isGood_29
-- X12_back
def f_X12_back (S : St) (x0 : Nat) (x1 : Int32) : Option (Int64 × St) :=
    (getI S (some x0) 13 69).bind fun v3 =>
    (f_X12_isIn S x1 0 (v3 - 1)).bind fun v8 =>
    (if v8 = 0 then
    some ((-1), S)
    else
    (getR S (some x0) 13 74).bind fun v15 =>
    (ldI S v15 15 x1).bind fun v19 =>
    (if v19 = 1 then
    (rcv S (some x0) 13).bind fun b26 =>
    (f_X12_isGood S b26 x1).bind fun (v26, S26) =>
    (if v26 = 0 then
    (getR S26 (some x0) 13 74).bind fun v37 =>
    (stI S26 v37 15 x1 2).bind fun S42 =>
    (getR S42 (some x0) 13 75).bind fun v44 =>
    (ldL S42 v44 x1).bind fun v48 =>
    some (v48, S42)
    else
    some ((-1), S26))
    else
    some ((-1), S)))
theorem k_X12_back {l : Launch} {G : Ge} {S S' : St} {x0 : Nat} {x1 : Int32} {rr : Int64} (hr : f_X12_back S x0 x1 = some (rr, S')) : Ct l G yX12_back cX12_back 2 (Option.some Jvm.ClassFile.FieldType.long) S [va_rf (some x0), .int x1] (some (.long rr)) S' 5 120 := by
  refine ct_of (by decide +kernel) (Nat.le_of_ble_eq_true rfl) ?_
  intro p e s m args below meth c C ls hl
  have hl : lv_has ls 2 [(0, va_rf (some x0)), (1, .int x1)] := hl
  unfold f_X12_back at hr
  refine v_iload_n C (lv_at hl 1 rfl) rfl dX12_back_0 ?_
  refine v_iconst C 0 (by decide) dX12_back_1 ?_
  refine v_aload_n C (lv_at hl 0 rfl) rfl dX12_back_2 ?_
  obtain ⟨v3, e3, hr⟩ := ob hr
  refine v_getI C fl_RX12_411 rfl e3 dX12_back_3 ?_
  refine v_iconst C 1 (by decide) dX12_back_6 ?_
  refine v_isub C dX12_back_7 ?_
  obtain ⟨v8, e8, hr⟩ := ob hr
  refine v_callS C (k_X12_isIn e8) cw_X12_isIn w_1555 w_1556 (show (parseMethodDescriptor (yX12_isIn).desc).map (fun d => d.parameters.length) = some 3 by decide +kernel) ⟨by decide, by decide⟩ (rest := []) (stk2 := [.int v8]) rfl rfl (Nat.le_of_ble_eq_true rfl) hl dX12_back_8 ?_
  refine v_if_eq C 32 (by decide) dX12_back_11 (fun c11 => ?_) (fun c11 => ?_)
  · rw [if_pos c11] at hr
    refine v_ldc2 C w_1643 dX12_back_32 ?_
    obtain ⟨rfl, rfl⟩ := Prod.mk.inj (os hr)
    exact v_lret C dX12_back_35
  · rw [if_neg c11] at hr
    refine v_aload_n C (lv_at hl 0 rfl) rfl dX12_back_14 ?_
    obtain ⟨v15, e15, hr⟩ := ob hr
    refine v_getR C fl_RX12_172 rfl e15 dX12_back_15 ?_
    refine v_iload_n C (lv_at hl 1 rfl) rfl dX12_back_18 ?_
    obtain ⟨v19, e19, hr⟩ := ob hr
    refine v_ldI_i C e19 dX12_back_19 ?_
    refine v_iconst C 1 (by decide) dX12_back_20 ?_
    refine v_icmp_ne C 32 (by decide) dX12_back_21 (fun c21 => ?_) (fun c21 => ?_)
    · rw [if_neg c21] at hr
      refine v_ldc2 C w_1643 dX12_back_32 ?_
      obtain ⟨rfl, rfl⟩ := Prod.mk.inj (os hr)
      exact v_lret C dX12_back_35
    · rw [if_pos c21] at hr
      refine v_aload_n C (lv_at hl 0 rfl) rfl dX12_back_24 ?_
      refine v_iload_n C (lv_at hl 1 rfl) rfl dX12_back_25 ?_
      obtain ⟨b26, f26, hr⟩ := ob hr
      obtain ⟨g26, h26⟩ := rcv_n f26
      obtain ⟨⟨v26, S26⟩, e26, hr⟩ := ob hr
      (try dsimp only at hr)
      refine v_callV C (b := b26) h26 (by decide) rfl rfl (k_X12_isGood e26) cw_X12_isGood w_1885 w_1887 w_99 (show (parseMethodDescriptor (yX12_isGood).desc).map (fun d => d.parameters.length) = some 1 by decide +kernel) ⟨by decide, by decide⟩ (rest := []) (stk2 := [.int v26]) (by rw [g26]; rfl) rfl (Nat.le_of_ble_eq_true rfl) hl dX12_back_26 ?_
      refine v_if_eq C 36 (by decide) dX12_back_29 (fun c29 => ?_) (fun c29 => ?_)
      · rw [if_pos c29] at hr
        refine v_aload_n C (lv_at hl 0 rfl) rfl dX12_back_36 ?_
        obtain ⟨v37, e37, hr⟩ := ob hr
        refine v_getR C fl_RX12_172 rfl e37 dX12_back_37 ?_
        refine v_iload_n C (lv_at hl 1 rfl) rfl dX12_back_40 ?_
        refine v_iconst C 2 (by decide) dX12_back_41 ?_
        obtain ⟨S42, e42, hr⟩ := ob hr
        refine v_stI_i C e42 dX12_back_42 ?_
        refine v_aload_n C (lv_at hl 0 rfl) rfl dX12_back_43 ?_
        obtain ⟨v44, e44, hr⟩ := ob hr
        refine v_getR C fl_RX12_175 rfl e44 dX12_back_44 ?_
        refine v_iload_n C (lv_at hl 1 rfl) rfl dX12_back_47 ?_
        obtain ⟨v48, e48, hr⟩ := ob hr
        refine v_ldL C e48 dX12_back_48 ?_
        obtain ⟨rfl, rfl⟩ := Prod.mk.inj (os hr)
        exact v_lret C dX12_back_49
      · rw [if_neg c29] at hr
        refine v_ldc2 C w_1643 dX12_back_32 ?_
        obtain ⟨rfl, rfl⟩ := Prod.mk.inj (os hr)
        exact v_lret C dX12_back_35
-- X12_isHeld
def f_X12_isHeld (S : St) (x0 : Nat) (x1 : Int32) : Option Int32 :=
    (rcv S (some x0) 13).bind fun b2 =>
    (f_X12_isAccount S b2 x1).bind fun v2 =>
    (if v2 = 0 then
    some 0
    else
    (getR S (some x0) 13 56).bind fun v9 =>
    (ldI S v9 15 x1).bind fun v13 =>
    (if v13 = (-1) then
    some 0
    else
    some 1))
theorem k_X12_isHeld {l : Launch} {G : Ge} {S : St} {x0 : Nat} {x1 : Int32} {rr : Int32} (hr : f_X12_isHeld S x0 x1 = some rr) : Ct l G yX12_isHeld cX12_isHeld 2 (Option.some Jvm.ClassFile.FieldType.boolean) S [va_rf (some x0), .int x1] (some (.int rr)) S 2 43 := by
  refine ct_of (by decide +kernel) (Nat.le_of_ble_eq_true rfl) ?_
  intro p e s m args below meth c C ls hl
  have hl : lv_has ls 2 [(0, va_rf (some x0)), (1, .int x1)] := hl
  unfold f_X12_isHeld at hr
  refine v_aload_n C (lv_at hl 0 rfl) rfl dX12_isHeld_0 ?_
  refine v_iload_n C (lv_at hl 1 rfl) rfl dX12_isHeld_1 ?_
  obtain ⟨b2, f2, hr⟩ := ob hr
  obtain ⟨g2, h2⟩ := rcv_n f2
  obtain ⟨v2, e2, hr⟩ := ob hr
  refine v_callV C (b := b2) h2 (by decide) rfl rfl (k_X12_isAccount e2) cw_X12_isAccount w_1613 w_1615 w_57 (show (parseMethodDescriptor (yX12_isAccount).desc).map (fun d => d.parameters.length) = some 1 by decide +kernel) ⟨by decide, by decide⟩ (rest := []) (stk2 := [.int v2]) (by rw [g2]; rfl) rfl (Nat.le_of_ble_eq_true rfl) hl dX12_isHeld_2 ?_
  refine v_if_eq C 22 (by decide) dX12_isHeld_5 (fun c5 => ?_) (fun c5 => ?_)
  · rw [if_pos c5] at hr
    refine v_iconst C 0 (by decide) dX12_isHeld_22 ?_
    obtain rfl := os hr
    exact v_zret C rfl dX12_isHeld_23
  · rw [if_neg c5] at hr
    refine v_aload_n C (lv_at hl 0 rfl) rfl dX12_isHeld_8 ?_
    obtain ⟨v9, e9, hr⟩ := ob hr
    refine v_getR C fl_RX12_128 rfl e9 dX12_isHeld_9 ?_
    refine v_iload_n C (lv_at hl 1 rfl) rfl dX12_isHeld_12 ?_
    obtain ⟨v13, e13, hr⟩ := ob hr
    refine v_ldI_i C e13 dX12_isHeld_13 ?_
    refine v_iconst C (-1) (by decide) dX12_isHeld_14 ?_
    refine v_icmp_eq C 22 (by decide) dX12_isHeld_15 (fun c15 => ?_) (fun c15 => ?_)
    · rw [if_pos c15] at hr
      refine v_iconst C 0 (by decide) dX12_isHeld_22 ?_
      obtain rfl := os hr
      exact v_zret C rfl dX12_isHeld_23
    · rw [if_neg c15] at hr
      refine v_iconst C 1 (by decide) dX12_isHeld_18 ?_
      refine v_goto C 23 (by decide) dX12_isHeld_19 ?_
      obtain rfl := os hr
      exact v_zret C rfl dX12_isHeld_23
-- X12_claim
def f_X12_claim (S : St) (x0 : Nat) (x1 : Int32) (x2 : Int32) (x3 : Int32) (x4 : Int32) : Option (Int32 × St) :=
    (rcv S (some x0) 13).bind fun b2 =>
    (f_X12_isPerson S b2 x1).bind fun v2 =>
    (if v2 = 0 then
    some ((-1), S)
    else
    (rcv S (some x0) 13).bind fun b10 =>
    (f_X12_isHeld S b10 x2).bind fun v10 =>
    (if v10 = 0 then
    some ((-1), S)
    else
    (f_X12_isIn S x3 0 99).bind fun v20 =>
    (if v20 = 0 then
    some ((-1), S)
    else
    (f_X12_isIn S x4 0 100).bind fun v31 =>
    (if v31 = 0 then
    some ((-1), S)
    else
    (getI S (some x0) 13 69).bind fun v38 =>
    (if v38 = 60 then
    some ((-1), S)
    else
    (getR S (some x0) 13 70).bind fun v49 =>
    (getI S (some x0) 13 69).bind fun v53 =>
    (stI S v49 15 v53 x1).bind fun S57 =>
    (getR S57 (some x0) 13 71).bind fun v59 =>
    (getI S57 (some x0) 13 69).bind fun v63 =>
    (stI S57 v59 15 v63 x2).bind fun S67 =>
    (getR S67 (some x0) 13 72).bind fun v69 =>
    (getI S67 (some x0) 13 69).bind fun v73 =>
    (stI S67 v69 15 v73 x3).bind fun S77 =>
    (getR S77 (some x0) 13 73).bind fun v79 =>
    (getI S77 (some x0) 13 69).bind fun v83 =>
    (stI S77 v79 15 v83 x4).bind fun S88 =>
    (getI S88 (some x0) 13 69).bind fun v91 =>
    (putI S88 (some x0) 13 69 (v91 + 1)).bind fun S96 =>
    (getI S96 (some x0) 13 69).bind fun v100 =>
    some ((v100 - 1), S96))))))
theorem k_X12_claim {l : Launch} {G : Ge} {S S' : St} {x0 : Nat} {x1 : Int32} {x2 : Int32} {x3 : Int32} {x4 : Int32} {rr : Int32} (hr : f_X12_claim S x0 x1 x2 x3 x4 = some (rr, S')) : Ct l G yX12_claim cX12_claim 5 (Option.some Jvm.ClassFile.FieldType.int) S [va_rf (some x0), .int x1, .int x2, .int x3, .int x4] (some (.int rr)) S' 3 64 := by
  refine ct_of (by decide +kernel) (Nat.le_of_ble_eq_true rfl) ?_
  intro p e s m args below meth c C ls hl
  have hl : lv_has ls 5 [(0, va_rf (some x0)), (1, .int x1), (2, .int x2), (3, .int x3), (4, .int x4)] := hl
  unfold f_X12_claim at hr
  refine v_aload_n C (lv_at hl 0 rfl) rfl dX12_claim_0 ?_
  refine v_iload_n C (lv_at hl 1 rfl) rfl dX12_claim_1 ?_
  obtain ⟨b2, f2, hr⟩ := ob hr
  obtain ⟨g2, h2⟩ := rcv_n f2
  obtain ⟨v2, e2, hr⟩ := ob hr
  refine v_callV C (b := b2) h2 (by decide) rfl rfl (k_X12_isPerson e2) cw_X12_isPerson w_1593 w_1595 w_56 (show (parseMethodDescriptor (yX12_isPerson).desc).map (fun d => d.parameters.length) = some 1 by decide +kernel) ⟨by decide, by decide⟩ (rest := []) (stk2 := [.int v2]) (by rw [g2]; rfl) rfl (Nat.le_of_ble_eq_true rfl) hl dX12_claim_2 ?_
  refine v_if_eq C 46 (by decide) dX12_claim_5 (fun c5 => ?_) (fun c5 => ?_)
  · rw [if_pos c5] at hr
    refine v_iconst C (-1) (by decide) dX12_claim_46 ?_
    obtain ⟨rfl, rfl⟩ := Prod.mk.inj (os hr)
    exact v_iret C dX12_claim_47
  · rw [if_neg c5] at hr
    refine v_aload_n C (lv_at hl 0 rfl) rfl dX12_claim_8 ?_
    refine v_iload_n C (lv_at hl 2 rfl) rfl dX12_claim_9 ?_
    obtain ⟨b10, f10, hr⟩ := ob hr
    obtain ⟨g10, h10⟩ := rcv_n f10
    obtain ⟨v10, e10, hr⟩ := ob hr
    refine v_callV C (b := b10) h10 (by decide) rfl rfl (k_X12_isHeld e10) cw_X12_isHeld w_1783 w_1785 w_83 (show (parseMethodDescriptor (yX12_isHeld).desc).map (fun d => d.parameters.length) = some 1 by decide +kernel) ⟨by decide, by decide⟩ (rest := []) (stk2 := [.int v10]) (by rw [g10]; rfl) rfl (Nat.le_of_ble_eq_true rfl) hl dX12_claim_10 ?_
    refine v_if_eq C 46 (by decide) dX12_claim_13 (fun c13 => ?_) (fun c13 => ?_)
    · rw [if_pos c13] at hr
      refine v_iconst C (-1) (by decide) dX12_claim_46 ?_
      obtain ⟨rfl, rfl⟩ := Prod.mk.inj (os hr)
      exact v_iret C dX12_claim_47
    · rw [if_neg c13] at hr
      refine v_iload_n C (lv_at hl 3 rfl) rfl dX12_claim_16 ?_
      refine v_iconst C 0 (by decide) dX12_claim_17 ?_
      refine v_bipush C 99 (by decide) dX12_claim_18 ?_
      obtain ⟨v20, e20, hr⟩ := ob hr
      refine v_callS C (k_X12_isIn e20) cw_X12_isIn w_1555 w_1556 (show (parseMethodDescriptor (yX12_isIn).desc).map (fun d => d.parameters.length) = some 3 by decide +kernel) ⟨by decide, by decide⟩ (rest := []) (stk2 := [.int v20]) rfl rfl (Nat.le_of_ble_eq_true rfl) hl dX12_claim_20 ?_
      refine v_if_eq C 46 (by decide) dX12_claim_23 (fun c23 => ?_) (fun c23 => ?_)
      · rw [if_pos c23] at hr
        refine v_iconst C (-1) (by decide) dX12_claim_46 ?_
        obtain ⟨rfl, rfl⟩ := Prod.mk.inj (os hr)
        exact v_iret C dX12_claim_47
      · rw [if_neg c23] at hr
        refine v_iload C (lv_at hl 4 rfl) dX12_claim_26 ?_
        refine v_iconst C 0 (by decide) dX12_claim_28 ?_
        refine v_bipush C 100 (by decide) dX12_claim_29 ?_
        obtain ⟨v31, e31, hr⟩ := ob hr
        refine v_callS C (k_X12_isIn e31) cw_X12_isIn w_1555 w_1556 (show (parseMethodDescriptor (yX12_isIn).desc).map (fun d => d.parameters.length) = some 3 by decide +kernel) ⟨by decide, by decide⟩ (rest := []) (stk2 := [.int v31]) rfl rfl (Nat.le_of_ble_eq_true rfl) hl dX12_claim_31 ?_
        refine v_if_eq C 46 (by decide) dX12_claim_34 (fun c34 => ?_) (fun c34 => ?_)
        · rw [if_pos c34] at hr
          refine v_iconst C (-1) (by decide) dX12_claim_46 ?_
          obtain ⟨rfl, rfl⟩ := Prod.mk.inj (os hr)
          exact v_iret C dX12_claim_47
        · rw [if_neg c34] at hr
          refine v_aload_n C (lv_at hl 0 rfl) rfl dX12_claim_37 ?_
          obtain ⟨v38, e38, hr⟩ := ob hr
          refine v_getI C fl_RX12_411 rfl e38 dX12_claim_38 ?_
          refine v_bipush C 60 (by decide) dX12_claim_41 ?_
          refine v_icmp_ne C 48 (by decide) dX12_claim_43 (fun c43 => ?_) (fun c43 => ?_)
          · rw [if_neg c43] at hr
            refine v_aload_n C (lv_at hl 0 rfl) rfl dX12_claim_48 ?_
            obtain ⟨v49, e49, hr⟩ := ob hr
            refine v_getR C fl_RX12_160 rfl e49 dX12_claim_49 ?_
            refine v_aload_n C (lv_at hl 0 rfl) rfl dX12_claim_52 ?_
            obtain ⟨v53, e53, hr⟩ := ob hr
            refine v_getI C fl_RX12_411 rfl e53 dX12_claim_53 ?_
            refine v_iload_n C (lv_at hl 1 rfl) rfl dX12_claim_56 ?_
            obtain ⟨S57, e57, hr⟩ := ob hr
            refine v_stI_i C e57 dX12_claim_57 ?_
            refine v_aload_n C (lv_at hl 0 rfl) rfl dX12_claim_58 ?_
            obtain ⟨v59, e59, hr⟩ := ob hr
            refine v_getR C fl_RX12_163 rfl e59 dX12_claim_59 ?_
            refine v_aload_n C (lv_at hl 0 rfl) rfl dX12_claim_62 ?_
            obtain ⟨v63, e63, hr⟩ := ob hr
            refine v_getI C fl_RX12_411 rfl e63 dX12_claim_63 ?_
            refine v_iload_n C (lv_at hl 2 rfl) rfl dX12_claim_66 ?_
            obtain ⟨S67, e67, hr⟩ := ob hr
            refine v_stI_i C e67 dX12_claim_67 ?_
            refine v_aload_n C (lv_at hl 0 rfl) rfl dX12_claim_68 ?_
            obtain ⟨v69, e69, hr⟩ := ob hr
            refine v_getR C fl_RX12_166 rfl e69 dX12_claim_69 ?_
            refine v_aload_n C (lv_at hl 0 rfl) rfl dX12_claim_72 ?_
            obtain ⟨v73, e73, hr⟩ := ob hr
            refine v_getI C fl_RX12_411 rfl e73 dX12_claim_73 ?_
            refine v_iload_n C (lv_at hl 3 rfl) rfl dX12_claim_76 ?_
            obtain ⟨S77, e77, hr⟩ := ob hr
            refine v_stI_i C e77 dX12_claim_77 ?_
            refine v_aload_n C (lv_at hl 0 rfl) rfl dX12_claim_78 ?_
            obtain ⟨v79, e79, hr⟩ := ob hr
            refine v_getR C fl_RX12_169 rfl e79 dX12_claim_79 ?_
            refine v_aload_n C (lv_at hl 0 rfl) rfl dX12_claim_82 ?_
            obtain ⟨v83, e83, hr⟩ := ob hr
            refine v_getI C fl_RX12_411 rfl e83 dX12_claim_83 ?_
            refine v_iload C (lv_at hl 4 rfl) dX12_claim_86 ?_
            obtain ⟨S88, e88, hr⟩ := ob hr
            refine v_stI_i C e88 dX12_claim_88 ?_
            refine v_aload_n C (lv_at hl 0 rfl) rfl dX12_claim_89 ?_
            refine v_dup C (rf_cat _) dX12_claim_90 ?_
            obtain ⟨v91, e91, hr⟩ := ob hr
            refine v_getI C fl_RX12_411 rfl e91 dX12_claim_91 ?_
            refine v_iconst C 1 (by decide) dX12_claim_94 ?_
            refine v_iadd C dX12_claim_95 ?_
            obtain ⟨S96, e96, hr⟩ := ob hr
            refine v_putI C fl_RX12_411 (Or.inl rfl) rfl e96 dX12_claim_96 ?_
            refine v_aload_n C (lv_at hl 0 rfl) rfl dX12_claim_99 ?_
            obtain ⟨v100, e100, hr⟩ := ob hr
            refine v_getI C fl_RX12_411 rfl e100 dX12_claim_100 ?_
            refine v_iconst C 1 (by decide) dX12_claim_103 ?_
            refine v_isub C dX12_claim_104 ?_
            obtain ⟨rfl, rfl⟩ := Prod.mk.inj (os hr)
            exact v_iret C dX12_claim_105
          · rw [if_pos c43] at hr
            refine v_iconst C (-1) (by decide) dX12_claim_46 ?_
            obtain ⟨rfl, rfl⟩ := Prod.mk.inj (os hr)
            exact v_iret C dX12_claim_47
-- X12_claimOf
def f_X12_claimOf (S : St) (x0 : Nat) (x1 : Int32) (x2 : Int32) : Option (Int64 × St) :=
    (getI S (some x0) 13 69).bind fun v3 =>
    (f_X12_isIn S x1 0 (v3 - 1)).bind fun v8 =>
    (if v8 = 0 then
    some ((-1), S)
    else
    (if x2 = 0 then
    (getR S (some x0) 13 70).bind fun v61 =>
    (ldI S v61 15 x1).bind fun v65 =>
    some ((Int32.toInt64 v65), S)
    else
    (if x2 = 1 then
    (getR S (some x0) 13 71).bind fun v69 =>
    (ldI S v69 15 x1).bind fun v73 =>
    some ((Int32.toInt64 v73), S)
    else
    (if x2 = 2 then
    (getR S (some x0) 13 71).bind fun v78 =>
    (ldI S v78 15 x1).bind fun v82 =>
    (rcv S (some x0) 13).bind fun b83 =>
    (f_X12_asked S b83 v82).bind fun (v83, S83) =>
    some ((Int32.toInt64 v83), S83)
    else
    (if x2 = 3 then
    (rcv S (some x0) 13).bind fun b90 =>
    (f_X12_isGood S b90 x1).bind fun (v90, S90) =>
    (if v90 = 0 then
    some (0, S90)
    else
    some (1, S90))
    else
    (if x2 = 4 then
    (getR S (some x0) 13 75).bind fun v103 =>
    (ldL S v103 x1).bind fun v107 =>
    some (v107, S)
    else
    (if x2 = 5 then
    (getR S (some x0) 13 76).bind fun v110 =>
    (ldL S v110 x1).bind fun v114 =>
    some (v114, S)
    else
    (if x2 = 6 then
    (getR S (some x0) 13 74).bind fun v117 =>
    (ldI S v117 15 x1).bind fun v121 =>
    some ((Int32.toInt64 v121), S)
    else
    some ((-1), S)))))))))
theorem k_X12_claimOf {l : Launch} {G : Ge} {S S' : St} {x0 : Nat} {x1 : Int32} {x2 : Int32} {rr : Int64} (hr : f_X12_claimOf S x0 x1 x2 = some (rr, S')) : Ct l G yX12_claimOf cX12_claimOf 3 (Option.some Jvm.ClassFile.FieldType.long) S [va_rf (some x0), .int x1, .int x2] (some (.long rr)) S' 5 120 := by
  refine ct_of (by decide +kernel) (Nat.le_of_ble_eq_true rfl) ?_
  intro p e s m args below meth c C ls hl
  have hl : lv_has ls 3 [(0, va_rf (some x0)), (1, .int x1), (2, .int x2)] := hl
  unfold f_X12_claimOf at hr
  refine v_iload_n C (lv_at hl 1 rfl) rfl dX12_claimOf_0 ?_
  refine v_iconst C 0 (by decide) dX12_claimOf_1 ?_
  refine v_aload_n C (lv_at hl 0 rfl) rfl dX12_claimOf_2 ?_
  obtain ⟨v3, e3, hr⟩ := ob hr
  refine v_getI C fl_RX12_411 rfl e3 dX12_claimOf_3 ?_
  refine v_iconst C 1 (by decide) dX12_claimOf_6 ?_
  refine v_isub C dX12_claimOf_7 ?_
  obtain ⟨v8, e8, hr⟩ := ob hr
  refine v_callS C (k_X12_isIn e8) cw_X12_isIn w_1555 w_1556 (show (parseMethodDescriptor (yX12_isIn).desc).map (fun d => d.parameters.length) = some 3 by decide +kernel) ⟨by decide, by decide⟩ (rest := []) (stk2 := [.int v8]) rfl rfl (Nat.le_of_ble_eq_true rfl) hl dX12_claimOf_8 ?_
  refine v_if_ne C 18 (by decide) dX12_claimOf_11 (fun c11 => ?_) (fun c11 => ?_)
  · rw [if_neg c11] at hr
    refine v_iload_n C (lv_at hl 2 rfl) rfl dX12_claimOf_18 ?_
    by_cases q19_0 : x2 = 0
    · rw [if_pos q19_0] at hr
      refine v_tableIn C (off := 41) 60 (by rw [q19_0]; decide) (by rw [q19_0]; decide) (by rw [q19_0]; decide) (by decide) dX12_claimOf_19 ?_
      refine v_aload_n C (lv_at hl 0 rfl) rfl dX12_claimOf_60 ?_
      obtain ⟨v61, e61, hr⟩ := ob hr
      refine v_getR C fl_RX12_160 rfl e61 dX12_claimOf_61 ?_
      refine v_iload_n C (lv_at hl 1 rfl) rfl dX12_claimOf_64 ?_
      obtain ⟨v65, e65, hr⟩ := ob hr
      refine v_ldI_i C e65 dX12_claimOf_65 ?_
      refine v_i2l C dX12_claimOf_66 ?_
      obtain ⟨rfl, rfl⟩ := Prod.mk.inj (os hr)
      exact v_lret C dX12_claimOf_67
    rw [if_neg q19_0] at hr
    by_cases q19_1 : x2 = 1
    · rw [if_pos q19_1] at hr
      refine v_tableIn C (off := 49) 68 (by rw [q19_1]; decide) (by rw [q19_1]; decide) (by rw [q19_1]; decide) (by decide) dX12_claimOf_19 ?_
      refine v_aload_n C (lv_at hl 0 rfl) rfl dX12_claimOf_68 ?_
      obtain ⟨v69, e69, hr⟩ := ob hr
      refine v_getR C fl_RX12_163 rfl e69 dX12_claimOf_69 ?_
      refine v_iload_n C (lv_at hl 1 rfl) rfl dX12_claimOf_72 ?_
      obtain ⟨v73, e73, hr⟩ := ob hr
      refine v_ldI_i C e73 dX12_claimOf_73 ?_
      refine v_i2l C dX12_claimOf_74 ?_
      obtain ⟨rfl, rfl⟩ := Prod.mk.inj (os hr)
      exact v_lret C dX12_claimOf_75
    rw [if_neg q19_1] at hr
    by_cases q19_2 : x2 = 2
    · rw [if_pos q19_2] at hr
      refine v_tableIn C (off := 57) 76 (by rw [q19_2]; decide) (by rw [q19_2]; decide) (by rw [q19_2]; decide) (by decide) dX12_claimOf_19 ?_
      refine v_aload_n C (lv_at hl 0 rfl) rfl dX12_claimOf_76 ?_
      refine v_aload_n C (lv_at hl 0 rfl) rfl dX12_claimOf_77 ?_
      obtain ⟨v78, e78, hr⟩ := ob hr
      refine v_getR C fl_RX12_163 rfl e78 dX12_claimOf_78 ?_
      refine v_iload_n C (lv_at hl 1 rfl) rfl dX12_claimOf_81 ?_
      obtain ⟨v82, e82, hr⟩ := ob hr
      refine v_ldI_i C e82 dX12_claimOf_82 ?_
      obtain ⟨b83, f83, hr⟩ := ob hr
      obtain ⟨g83, h83⟩ := rcv_n f83
      obtain ⟨⟨v83, S83⟩, e83, hr⟩ := ob hr
      (try dsimp only at hr)
      refine v_callV C (b := b83) h83 (by decide) rfl rfl (k_X12_asked e83) cw_X12_asked w_1872 w_1874 w_97 (show (parseMethodDescriptor (yX12_asked).desc).map (fun d => d.parameters.length) = some 1 by decide +kernel) ⟨by decide, by decide⟩ (rest := []) (stk2 := [.int v83]) (by rw [g83]; rfl) rfl (Nat.le_of_ble_eq_true rfl) hl dX12_claimOf_83 ?_
      refine v_i2l C dX12_claimOf_86 ?_
      obtain ⟨rfl, rfl⟩ := Prod.mk.inj (os hr)
      exact v_lret C dX12_claimOf_87
    rw [if_neg q19_2] at hr
    by_cases q19_3 : x2 = 3
    · rw [if_pos q19_3] at hr
      refine v_tableIn C (off := 69) 88 (by rw [q19_3]; decide) (by rw [q19_3]; decide) (by rw [q19_3]; decide) (by decide) dX12_claimOf_19 ?_
      refine v_aload_n C (lv_at hl 0 rfl) rfl dX12_claimOf_88 ?_
      refine v_iload_n C (lv_at hl 1 rfl) rfl dX12_claimOf_89 ?_
      obtain ⟨b90, f90, hr⟩ := ob hr
      obtain ⟨g90, h90⟩ := rcv_n f90
      obtain ⟨⟨v90, S90⟩, e90, hr⟩ := ob hr
      (try dsimp only at hr)
      refine v_callV C (b := b90) h90 (by decide) rfl rfl (k_X12_isGood e90) cw_X12_isGood w_1885 w_1887 w_99 (show (parseMethodDescriptor (yX12_isGood).desc).map (fun d => d.parameters.length) = some 1 by decide +kernel) ⟨by decide, by decide⟩ (rest := []) (stk2 := [.int v90]) (by rw [g90]; rfl) rfl (Nat.le_of_ble_eq_true rfl) hl dX12_claimOf_90 ?_
      refine v_if_eq C 100 (by decide) dX12_claimOf_93 (fun c93 => ?_) (fun c93 => ?_)
      · rw [if_pos c93] at hr
        refine v_lconst C 0 (by decide) dX12_claimOf_100 ?_
        obtain ⟨rfl, rfl⟩ := Prod.mk.inj (os hr)
        exact v_lret C dX12_claimOf_101
      · rw [if_neg c93] at hr
        refine v_lconst C 1 (by decide) dX12_claimOf_96 ?_
        refine v_goto C 101 (by decide) dX12_claimOf_97 ?_
        obtain ⟨rfl, rfl⟩ := Prod.mk.inj (os hr)
        exact v_lret C dX12_claimOf_101
    rw [if_neg q19_3] at hr
    by_cases q19_4 : x2 = 4
    · rw [if_pos q19_4] at hr
      refine v_tableIn C (off := 83) 102 (by rw [q19_4]; decide) (by rw [q19_4]; decide) (by rw [q19_4]; decide) (by decide) dX12_claimOf_19 ?_
      refine v_aload_n C (lv_at hl 0 rfl) rfl dX12_claimOf_102 ?_
      obtain ⟨v103, e103, hr⟩ := ob hr
      refine v_getR C fl_RX12_175 rfl e103 dX12_claimOf_103 ?_
      refine v_iload_n C (lv_at hl 1 rfl) rfl dX12_claimOf_106 ?_
      obtain ⟨v107, e107, hr⟩ := ob hr
      refine v_ldL C e107 dX12_claimOf_107 ?_
      obtain ⟨rfl, rfl⟩ := Prod.mk.inj (os hr)
      exact v_lret C dX12_claimOf_108
    rw [if_neg q19_4] at hr
    by_cases q19_5 : x2 = 5
    · rw [if_pos q19_5] at hr
      refine v_tableIn C (off := 90) 109 (by rw [q19_5]; decide) (by rw [q19_5]; decide) (by rw [q19_5]; decide) (by decide) dX12_claimOf_19 ?_
      refine v_aload_n C (lv_at hl 0 rfl) rfl dX12_claimOf_109 ?_
      obtain ⟨v110, e110, hr⟩ := ob hr
      refine v_getR C fl_RX12_178 rfl e110 dX12_claimOf_110 ?_
      refine v_iload_n C (lv_at hl 1 rfl) rfl dX12_claimOf_113 ?_
      obtain ⟨v114, e114, hr⟩ := ob hr
      refine v_ldL C e114 dX12_claimOf_114 ?_
      obtain ⟨rfl, rfl⟩ := Prod.mk.inj (os hr)
      exact v_lret C dX12_claimOf_115
    rw [if_neg q19_5] at hr
    by_cases q19_6 : x2 = 6
    · rw [if_pos q19_6] at hr
      refine v_tableIn C (off := 97) 116 (by rw [q19_6]; decide) (by rw [q19_6]; decide) (by rw [q19_6]; decide) (by decide) dX12_claimOf_19 ?_
      refine v_aload_n C (lv_at hl 0 rfl) rfl dX12_claimOf_116 ?_
      obtain ⟨v117, e117, hr⟩ := ob hr
      refine v_getR C fl_RX12_172 rfl e117 dX12_claimOf_117 ?_
      refine v_iload_n C (lv_at hl 1 rfl) rfl dX12_claimOf_120 ?_
      obtain ⟨v121, e121, hr⟩ := ob hr
      refine v_ldI_i C e121 dX12_claimOf_121 ?_
      refine v_i2l C dX12_claimOf_122 ?_
      obtain ⟨rfl, rfl⟩ := Prod.mk.inj (os hr)
      exact v_lret C dX12_claimOf_123
    rw [if_neg q19_6] at hr
    have kd19 : V p l e (rmo 5 120 S) s m args below meth c G S S (QM below args s G S S' (some (.long rr))) (F0 m 124 ls []) := by
      refine v_ldc2 C w_1643 dX12_claimOf_124 ?_
      obtain ⟨rfl, rfl⟩ := Prod.mk.inj (os hr)
      exact v_lret C dX12_claimOf_127
    have z0 := lv_neT q19_0 (a := 0) (by decide)
    have z1 := lv_neT q19_1 (a := 1) (by decide)
    have z2 := lv_neT q19_2 (a := 2) (by decide)
    have z3 := lv_neT q19_3 (a := 3) (by decide)
    have z4 := lv_neT q19_4 (a := 4) (by decide)
    have z5 := lv_neT q19_5 (a := 5) (by decide)
    have z6 := lv_neT q19_6 (a := 6) (by decide)
    exact v_tableOut C 124 (by omega) (by decide) dX12_claimOf_19 kd19
  · rw [if_pos c11] at hr
    refine v_ldc2 C w_1643 dX12_claimOf_14 ?_
    obtain ⟨rfl, rfl⟩ := Prod.mk.inj (os hr)
    exact v_lret C dX12_claimOf_17
-- X12_clears
def f_X12_clears_2 : Nat → St → Nat → Int32 → Int32 → Option (Nat × Int32 × St)
  | 0, _, _, _, _ => none
  | n + 1, S, x0, x1, x2 =>
    (if (4 : Int32) ≤ x2 then
    some (x0, x1, S)
    else
    (getR S (some x0) 13 24).bind fun v8 =>
    (stI S v8 15 ((4 * x1) + x2) 5).bind fun S17 =>
    f_X12_clears_2 n S17 x0 x1 (x2 + 1))
def f_X12_clears (S : St) (x0 : Nat) (x1 : Int32) : Option St :=
    (f_X12_clears_2 FU S x0 x1 0).bind fun (x0, x1_2, S_2) => (getR S_2 (some x0) 13 25).bind fun v25 =>
    (stI S_2 v25 15 x1_2 63).bind fun S31 =>
    (getR S31 (some x0) 13 26).bind fun v33 =>
    (stI S31 v33 15 x1_2 30).bind fun S39 =>
    (getR S39 (some x0) 13 27).bind fun v41 =>
    (stI S39 v41 15 x1_2 10).bind fun S47 =>
    (getR S47 (some x0) 13 28).bind fun v49 =>
    (stI S47 v49 15 x1_2 0).bind fun S54 =>
    (getR S54 (some x0) 13 29).bind fun v56 =>
    (stI S54 v56 15 x1_2 0).bind fun S61 =>
    (getR S61 (some x0) 13 30).bind fun v63 =>
    (stI S61 v63 15 x1_2 0).bind fun S68 =>
    some S68
theorem b_X12_clears_2  {S0 S' : St} (C : Cx p s m args meth c G S0 yX12_clears cX12_clears 3 (Option.none : Option Jvm.ClassFile.FieldType)) {o : (Nat × Int32 × St)} (kX24 : ∀ {x0 : Nat} {x1 : Int32} {Z : St}, o = (x0, x1, Z) → ∀ ls : Array Slot, lv_has ls 3 [(0, va_rf (some x0)), (1, .int x1)] → V p l e (rmo 0 0 S0) s m args below meth c G S0 Z (QM below args s G S0 S' none) (F0 m 24 ls [])) : ∀ (n : Nat) {S : St} {x0 : Nat} {x1 : Int32} {x2 : Int32}, f_X12_clears_2 n S x0 x1 x2 = some o → ∀ ls : Array Slot, lv_has ls 3 [(0, va_rf (some x0)), (1, .int x1), (2, .int x2)] → V p l e (rmo 0 0 S0) s m args below meth c G S0 S (QM below args s G S0 S' none) (F0 m 2 ls []) := by
  intro n
  induction n with
  | zero => intro S x0 x1 x2 hr; cases hr
  | succ n ih =>
    intro S x0 x1 x2 hr ls hl
    unfold f_X12_clears_2 at hr
    refine v_iload_n C (lv_at hl 2 rfl) rfl dX12_clears_2 ?_
    refine v_iconst C 4 (by decide) dX12_clears_3 ?_
    refine v_icmp_ge C 24 (by decide) dX12_clears_4 (fun c4 => ?_) (fun c4 => ?_)
    · rw [if_pos c4] at hr
      obtain rfl := os hr
      exact kX24 rfl _ (lv_sub hl [0, 1] rfl)
    · rw [if_neg c4] at hr
      refine v_aload_n C (lv_at hl 0 rfl) rfl dX12_clears_7 ?_
      obtain ⟨v8, e8, hr⟩ := ob hr
      refine v_getR C fl_RX12_67 rfl e8 dX12_clears_8 ?_
      refine v_iconst C 4 (by decide) dX12_clears_11 ?_
      refine v_iload_n C (lv_at hl 1 rfl) rfl dX12_clears_12 ?_
      refine v_imul C dX12_clears_13 ?_
      refine v_iload_n C (lv_at hl 2 rfl) rfl dX12_clears_14 ?_
      refine v_iadd C dX12_clears_15 ?_
      refine v_iconst C 5 (by decide) dX12_clears_16 ?_
      obtain ⟨S17, e17, hr⟩ := ob hr
      refine v_stI_i C e17 dX12_clears_17 ?_
      refine v_iinc C (x2 + 1) (k0 := 2) (lv' := [(2, .int (x2 + 1)), (0, va_rf (some x0)), (1, .int x1)]) hl rfl rfl (by decide) rfl dX12_clears_18 (fun ls hl => ?_)
      refine v_goto C 2 (by decide) dX12_clears_21 ?_
      exact ih hr _ (lv_sub hl [1, 2, 0] rfl)
theorem k_X12_clears {l : Launch} {G : Ge} {S S' : St} {x0 : Nat} {x1 : Int32} (hr : f_X12_clears S x0 x1 = some S') : Ct l G yX12_clears cX12_clears 3 (Option.none : Option Jvm.ClassFile.FieldType) S [va_rf (some x0), .int x1] none S' 0 0 := by
  refine ct_of (by decide +kernel) (Nat.le_of_ble_eq_true rfl) ?_
  intro p e s m args below meth c C ls hl
  have hl : lv_has ls 3 [(0, va_rf (some x0)), (1, .int x1)] := hl
  unfold f_X12_clears at hr
  refine v_iconst C 0 (by decide) dX12_clears_0 ?_
  refine v_istore_n C (i := 2) (lv' := [(2, .int 0), (0, va_rf (some x0)), (1, .int x1)]) hl rfl (by decide) rfl dX12_clears_1 (fun ls hl => ?_)
  obtain ⟨o2, e2, hr⟩ := ob hr
  refine b_X12_clears_2 C ?_ FU e2 _ (lv_sub hl [1, 2, 0] rfl)
  · intro x0 x1_2 S_2 q ls hl
    subst q
    (try dsimp only at hr)
    refine v_aload_n C (lv_at hl 0 rfl) rfl dX12_clears_24 ?_
    obtain ⟨v25, e25, hr⟩ := ob hr
    refine v_getR C fl_RX12_70 rfl e25 dX12_clears_25 ?_
    refine v_iload_n C (lv_at hl 1 rfl) rfl dX12_clears_28 ?_
    refine v_bipush C 63 (by decide) dX12_clears_29 ?_
    obtain ⟨S31, e31, hr⟩ := ob hr
    refine v_stI_i C e31 dX12_clears_31 ?_
    refine v_aload_n C (lv_at hl 0 rfl) rfl dX12_clears_32 ?_
    obtain ⟨v33, e33, hr⟩ := ob hr
    refine v_getR C fl_RX12_73 rfl e33 dX12_clears_33 ?_
    refine v_iload_n C (lv_at hl 1 rfl) rfl dX12_clears_36 ?_
    refine v_bipush C 30 (by decide) dX12_clears_37 ?_
    obtain ⟨S39, e39, hr⟩ := ob hr
    refine v_stI_i C e39 dX12_clears_39 ?_
    refine v_aload_n C (lv_at hl 0 rfl) rfl dX12_clears_40 ?_
    obtain ⟨v41, e41, hr⟩ := ob hr
    refine v_getR C fl_RX12_76 rfl e41 dX12_clears_41 ?_
    refine v_iload_n C (lv_at hl 1 rfl) rfl dX12_clears_44 ?_
    refine v_bipush C 10 (by decide) dX12_clears_45 ?_
    obtain ⟨S47, e47, hr⟩ := ob hr
    refine v_stI_i C e47 dX12_clears_47 ?_
    refine v_aload_n C (lv_at hl 0 rfl) rfl dX12_clears_48 ?_
    obtain ⟨v49, e49, hr⟩ := ob hr
    refine v_getR C fl_RX12_79 rfl e49 dX12_clears_49 ?_
    refine v_iload_n C (lv_at hl 1 rfl) rfl dX12_clears_52 ?_
    refine v_iconst C 0 (by decide) dX12_clears_53 ?_
    obtain ⟨S54, e54, hr⟩ := ob hr
    refine v_stI_i C e54 dX12_clears_54 ?_
    refine v_aload_n C (lv_at hl 0 rfl) rfl dX12_clears_55 ?_
    obtain ⟨v56, e56, hr⟩ := ob hr
    refine v_getR C fl_RX12_82 rfl e56 dX12_clears_56 ?_
    refine v_iload_n C (lv_at hl 1 rfl) rfl dX12_clears_59 ?_
    refine v_iconst C 0 (by decide) dX12_clears_60 ?_
    obtain ⟨S61, e61, hr⟩ := ob hr
    refine v_stI_i C e61 dX12_clears_61 ?_
    refine v_aload_n C (lv_at hl 0 rfl) rfl dX12_clears_62 ?_
    obtain ⟨v63, e63, hr⟩ := ob hr
    refine v_getR C fl_RX12_85 rfl e63 dX12_clears_63 ?_
    refine v_iload_n C (lv_at hl 1 rfl) rfl dX12_clears_66 ?_
    refine v_iconst C 0 (by decide) dX12_clears_67 ?_
    obtain ⟨S68, e68, hr⟩ := ob hr
    refine v_stI_i C e68 dX12_clears_68 ?_
    obtain rfl := os hr
    exact v_vret C dX12_clears_69
-- X12_common
def f_X12_common_6 : Nat → St → Int64 → Int64 → Option (Int64)
  | 0, _, _, _ => none
  | n + 1, S, x4, x6 =>
    (if (lg_cmp x6 0) = 0 then
    some x4
    else
    (remL x4 x6).bind fun v17 =>
    f_X12_common_6 n S x6 v17)
def f_X12_common (S : St) (x0 : Int64) (x2 : Int64) : Option Int64 :=
    f_X12_common_6 FU S x0 x2
theorem b_X12_common_6  {S : St} {rr : Int64} (C : Cx p s m args meth c G S yX12_common cX12_common 10 (Option.some Jvm.ClassFile.FieldType.long)) {o : (Int64)} (kR : ∀ (v : Int64), o = v → rr = v) : ∀ (n : Nat) {x4 : Int64} {x6 : Int64}, f_X12_common_6 n S x4 x6 = some o → ∀ ls : Array Slot, lv_has ls 10 [(4, .long x4), (6, .long x6)] → V p l e (rmo 0 0 S) s m args below meth c G S S (QM below args s G S S (some (.long rr))) (F0 m 6 ls []) := by
  intro n
  induction n with
  | zero => intro x4 x6 hr; cases hr
  | succ n ih =>
    intro x4 x6 hr ls hl
    unfold f_X12_common_6 at hr
    refine v_lload C (lv_at hl 1 rfl) dX12_common_6 ?_
    refine v_lconst C 0 (by decide) dX12_common_8 ?_
    refine v_lcmp C dX12_common_9 ?_
    refine v_if_eq C 31 (by decide) dX12_common_10 (fun c10 => ?_) (fun c10 => ?_)
    · rw [if_pos c10] at hr
      refine v_lload C (lv_at hl 0 rfl) dX12_common_31 ?_
      obtain rfl := os hr
      obtain rfl := kR _ rfl
      exact v_lret C dX12_common_33
    · rw [if_neg c10] at hr
      refine v_lload C (lv_at hl 0 rfl) dX12_common_13 ?_
      refine v_lload C (lv_at hl 1 rfl) dX12_common_15 ?_
      obtain ⟨v17, e17, hr⟩ := ob hr
      refine v_lrem C e17 dX12_common_17 ?_
      refine v_lstore C (i := 8) (lv' := [(8, .long v17), (4, .long x4), (6, .long x6)]) hl (by decide) rfl dX12_common_18 (fun ls hl => ?_)
      refine v_lload C (lv_at hl 2 rfl) dX12_common_20 ?_
      refine v_lstore C (i := 4) (lv' := [(4, .long x6), (8, .long v17), (6, .long x6)]) hl (by decide) rfl dX12_common_22 (fun ls hl => ?_)
      refine v_lload C (lv_at hl 1 rfl) dX12_common_24 ?_
      refine v_lstore C (i := 6) (lv' := [(6, .long v17), (4, .long x6), (8, .long v17)]) hl (by decide) rfl dX12_common_26 (fun ls hl => ?_)
      refine v_goto C 6 (by decide) dX12_common_28 ?_
      exact ih hr _ (lv_sub hl [1, 0] rfl)
theorem k_X12_common {l : Launch} {G : Ge} {S : St} {x0 : Int64} {x2 : Int64} {rr : Int64} (hr : f_X12_common S x0 x2 = some rr) : Ct l G yX12_common cX12_common 10 (Option.some Jvm.ClassFile.FieldType.long) S [.long x0, .long x2] (some (.long rr)) S 0 0 := by
  refine ct_of (by decide +kernel) (Nat.le_of_ble_eq_true rfl) ?_
  intro p e s m args below meth c C ls hl
  have hl : lv_has ls 10 [(0, .long x0), (2, .long x2)] := hl
  unfold f_X12_common at hr
  refine v_lload_n C (lv_at hl 0 rfl) rfl dX12_common_0 ?_
  refine v_lstore C (i := 4) (lv' := [(4, .long x0), (0, .long x0), (2, .long x2)]) hl (by decide) rfl dX12_common_1 (fun ls hl => ?_)
  refine v_lload_n C (lv_at hl 2 rfl) rfl dX12_common_3 ?_
  refine v_lstore C (i := 6) (lv' := [(6, .long x2), (4, .long x0), (0, .long x0), (2, .long x2)]) hl (by decide) rfl dX12_common_4 (fun ls hl => ?_)
  exact b_X12_common_6 C (fun _ q => by cases q; rfl) FU hr _ (lv_sub hl [1, 0] rfl)
-- X12_costs
def f_X12_costs (S : St) (x0 : Nat) (x1 : Int32) (x2 : Int32) : Option (Int32 × St) :=
    (f_X12_isIn S x1 0 19).bind fun v4 =>
    (if v4 = 0 then
    some (0, S)
    else
    (f_X12_isIn S x2 1 99).bind fun v14 =>
    (if v14 = 0 then
    some (0, S)
    else
    (getR S (some x0) 13 78).bind fun v23 =>
    (stI S v23 15 x1 x2).bind fun S28 =>
    some (1, S28)))
theorem k_X12_costs {l : Launch} {G : Ge} {S S' : St} {x0 : Nat} {x1 : Int32} {x2 : Int32} {rr : Int32} (hr : f_X12_costs S x0 x1 x2 = some (rr, S')) : Ct l G yX12_costs cX12_costs 3 (Option.some Jvm.ClassFile.FieldType.boolean) S [va_rf (some x0), .int x1, .int x2] (some (.int rr)) S' 1 22 := by
  refine ct_of (by decide +kernel) (Nat.le_of_ble_eq_true rfl) ?_
  intro p e s m args below meth c C ls hl
  have hl : lv_has ls 3 [(0, va_rf (some x0)), (1, .int x1), (2, .int x2)] := hl
  unfold f_X12_costs at hr
  refine v_iload_n C (lv_at hl 1 rfl) rfl dX12_costs_0 ?_
  refine v_iconst C 0 (by decide) dX12_costs_1 ?_
  refine v_bipush C 19 (by decide) dX12_costs_2 ?_
  obtain ⟨v4, e4, hr⟩ := ob hr
  refine v_callS C (k_X12_isIn e4) cw_X12_isIn w_1555 w_1556 (show (parseMethodDescriptor (yX12_isIn).desc).map (fun d => d.parameters.length) = some 3 by decide +kernel) ⟨by decide, by decide⟩ (rest := []) (stk2 := [.int v4]) rfl rfl (Nat.le_of_ble_eq_true rfl) hl dX12_costs_4 ?_
  refine v_if_eq C 20 (by decide) dX12_costs_7 (fun c7 => ?_) (fun c7 => ?_)
  · rw [if_pos c7] at hr
    refine v_iconst C 0 (by decide) dX12_costs_20 ?_
    obtain ⟨rfl, rfl⟩ := Prod.mk.inj (os hr)
    exact v_zret C rfl dX12_costs_21
  · rw [if_neg c7] at hr
    refine v_iload_n C (lv_at hl 2 rfl) rfl dX12_costs_10 ?_
    refine v_iconst C 1 (by decide) dX12_costs_11 ?_
    refine v_bipush C 99 (by decide) dX12_costs_12 ?_
    obtain ⟨v14, e14, hr⟩ := ob hr
    refine v_callS C (k_X12_isIn e14) cw_X12_isIn w_1555 w_1556 (show (parseMethodDescriptor (yX12_isIn).desc).map (fun d => d.parameters.length) = some 3 by decide +kernel) ⟨by decide, by decide⟩ (rest := []) (stk2 := [.int v14]) rfl rfl (Nat.le_of_ble_eq_true rfl) hl dX12_costs_14 ?_
    refine v_if_ne C 22 (by decide) dX12_costs_17 (fun c17 => ?_) (fun c17 => ?_)
    · rw [if_neg c17] at hr
      refine v_aload_n C (lv_at hl 0 rfl) rfl dX12_costs_22 ?_
      obtain ⟨v23, e23, hr⟩ := ob hr
      refine v_getR C fl_RX12_184 rfl e23 dX12_costs_23 ?_
      refine v_iload_n C (lv_at hl 1 rfl) rfl dX12_costs_26 ?_
      refine v_iload_n C (lv_at hl 2 rfl) rfl dX12_costs_27 ?_
      obtain ⟨S28, e28, hr⟩ := ob hr
      refine v_stI_i C e28 dX12_costs_28 ?_
      refine v_iconst C 1 (by decide) dX12_costs_29 ?_
      obtain ⟨rfl, rfl⟩ := Prod.mk.inj (os hr)
      exact v_zret C rfl dX12_costs_30
    · rw [if_pos c17] at hr
      refine v_iconst C 0 (by decide) dX12_costs_20 ?_
      obtain ⟨rfl, rfl⟩ := Prod.mk.inj (os hr)
      exact v_zret C rfl dX12_costs_21
-- X12_counts
def f_X12_counts_43 : Nat → St → Nat → Int32 → Option (Nat × St)
  | 0, _, _, _ => none
  | n + 1, S, x0, x2 =>
    (if (64 : Int32) ≤ x2 then
    some (x0, S)
    else
    (getR S (some x0) 13 62).bind fun v50 =>
    (stI S v50 15 x2 0).bind fun S55 =>
    f_X12_counts_43 n S55 x0 (x2 + 1))
def f_X12_counts_124 (rec : St → Nat → Int32 → Int32 → Option (Nat × Int32 × St)) (S : St) (x0 : Nat) (x2 : Int32) (x3 : Int32) (t0 : Int32) (t1 : Int32) (t2 : Int32) (t3 : Option Nat) : Option (Nat × Int32 × St) :=
    (stI S t3 15 t2 (t1 + t0)).bind fun S125 =>
    rec S125 x0 x2 (x3 + 1)
def f_X12_counts_84 : Nat → St → Nat → Int32 → Int32 → Option (Nat × Int32 × St)
  | 0, _, _, _, _ => none
  | n + 1, S, x0, x2, x3 =>
    (getI S (some x0) 13 63).bind fun v86 =>
    (if v86 ≤ x3 then
    some (x0, x2, S)
    else
    (getR S (some x0) 13 62).bind fun v93 =>
    (ldI S v93 15 ((8 * x2) + x3)).bind fun v103 =>
    (getR S (some x0) 13 61).bind fun v105 =>
    (ldI S v105 15 x2).bind fun v109 =>
    (getR S (some x0) 13 61).bind fun v111 =>
    (ldI S v111 15 x3).bind fun v115 =>
    (if v109 = v115 then
    f_X12_counts_124 (f_X12_counts_84 n) S x0 x2 x3 1 v103 ((8 * x2) + x3) v93
    else
    f_X12_counts_124 (f_X12_counts_84 n) S x0 x2 x3 0 v103 ((8 * x2) + x3) v93))
def f_X12_counts_74 : Nat → St → Nat → Int32 → Option (St)
  | 0, _, _, _ => none
  | n + 1, S, x0, x2 =>
    (getI S (some x0) 13 63).bind fun v76 =>
    (if v76 ≤ x2 then
    some S
    else
    (f_X12_counts_84 FU S x0 x2 0).bind fun (x0, x2_84, S_84) => f_X12_counts_74 n S_84 x0 (x2_84 + 1))
def f_X12_counts_62 (S : St) (x0 : Nat) : Option St :=
    (getI S (some x0) 13 65).bind fun v64 =>
    (putI S (some x0) 13 65 (v64 + 1)).bind fun S69 =>
    f_X12_counts_74 FU S69 x0 0
def f_X12_counts_31 (S : St) (x0 : Nat) (x1 : Int32) : Option St :=
    (putI S (some x0) 13 64 x1).bind fun S33 =>
    (putI S33 (some x0) 13 65 0).bind fun S38 =>
    (f_X12_counts_43 FU S38 x0 0).bind fun (x0, S_43) => f_X12_counts_62 S_43 x0
def f_X12_counts_16 (S : St) (x0 : Nat) (x1 : Int32) : Option St :=
    (getI S (some x0) 13 65).bind fun v17 =>
    (if v17 = 0 then
    f_X12_counts_31 S x0 x1
    else
    (getI S (some x0) 13 64).bind fun v25 =>
    (if x1 ≤ v25 then
    f_X12_counts_62 S x0
    else
    f_X12_counts_31 S x0 x1))
def f_X12_counts (S : St) (x0 : Nat) (x1 : Int32) : Option St :=
    (getI S (some x0) 13 65).bind fun v1 =>
    (if v1 ≤ 0 then
    f_X12_counts_16 S x0 x1
    else
    (getI S (some x0) 13 64).bind fun v9 =>
    (if v9 ≤ x1 then
    f_X12_counts_16 S x0 x1
    else
    some S))
theorem b_X12_counts_43  {S0 S' : St} (C : Cx p s m args meth c G S0 yX12_counts cX12_counts 4 (Option.none : Option Jvm.ClassFile.FieldType)) {o : (Nat × St)} (kX62 : ∀ {x0 : Nat} {Z : St}, o = (x0, Z) → ∀ ls : Array Slot, lv_has ls 4 [(0, va_rf (some x0))] → V p l e (rmo 0 0 S0) s m args below meth c G S0 Z (QM below args s G S0 S' none) (F0 m 62 ls [])) : ∀ (n : Nat) {S : St} {x0 : Nat} {x2 : Int32}, f_X12_counts_43 n S x0 x2 = some o → ∀ ls : Array Slot, lv_has ls 4 [(0, va_rf (some x0)), (2, .int x2)] → V p l e (rmo 0 0 S0) s m args below meth c G S0 S (QM below args s G S0 S' none) (F0 m 43 ls []) := by
  intro n
  induction n with
  | zero => intro S x0 x2 hr; cases hr
  | succ n ih =>
    intro S x0 x2 hr ls hl
    unfold f_X12_counts_43 at hr
    refine v_iload_n C (lv_at hl 1 rfl) rfl dX12_counts_43 ?_
    refine v_bipush C 64 (by decide) dX12_counts_44 ?_
    refine v_icmp_ge C 62 (by decide) dX12_counts_46 (fun c46 => ?_) (fun c46 => ?_)
    · rw [if_pos c46] at hr
      obtain rfl := os hr
      exact kX62 rfl _ (lv_sub hl [0] rfl)
    · rw [if_neg c46] at hr
      refine v_aload_n C (lv_at hl 0 rfl) rfl dX12_counts_49 ?_
      obtain ⟨v50, e50, hr⟩ := ob hr
      refine v_getR C fl_RX12_147 rfl e50 dX12_counts_50 ?_
      refine v_iload_n C (lv_at hl 1 rfl) rfl dX12_counts_53 ?_
      refine v_iconst C 0 (by decide) dX12_counts_54 ?_
      obtain ⟨S55, e55, hr⟩ := ob hr
      refine v_stI_i C e55 dX12_counts_55 ?_
      refine v_iinc C (x2 + 1) (k0 := 1) (lv' := [(2, .int (x2 + 1)), (0, va_rf (some x0))]) hl rfl rfl (by decide) rfl dX12_counts_56 (fun ls hl => ?_)
      refine v_goto C 43 (by decide) dX12_counts_59 ?_
      exact ih hr _ (lv_sub hl [1, 0] rfl)
theorem b_X12_counts_124  {S0 S S' : St} {x0 : Nat} {x2 : Int32} {x3 : Int32} {t0 : Int32} {t1 : Int32} {t2 : Int32} {t3 : Option Nat} (C : Cx p s m args meth c G S0 yX12_counts cX12_counts 4 (Option.none : Option Jvm.ClassFile.FieldType)) {o : (Nat × Int32 × St)} {rec : St → Nat → Int32 → Int32 → Option (Nat × Int32 × St)} (kX132 : ∀ {x0 : Nat} {x2 : Int32} {Z : St}, o = (x0, x2, Z) → ∀ ls : Array Slot, lv_has ls 4 [(0, va_rf (some x0)), (2, .int x2)] → V p l e (rmo 0 0 S0) s m args below meth c G S0 Z (QM below args s G S0 S' none) (F0 m 132 ls [])) (ihk : ∀ {S : St} {x0 : Nat} {x2 : Int32} {x3 : Int32}, rec S x0 x2 x3 = some o → ∀ ls : Array Slot, lv_has ls 4 [(0, va_rf (some x0)), (2, .int x2), (3, .int x3)] → V p l e (rmo 0 0 S0) s m args below meth c G S0 S (QM below args s G S0 S' none) (F0 m 84 ls [])) (hr : f_X12_counts_124 rec S x0 x2 x3 t0 t1 t2 t3 = some o) : ∀ ls : Array Slot, lv_has ls 4 [(0, va_rf (some x0)), (2, .int x2), (3, .int x3)] → V p l e (rmo 0 0 S0) s m args below meth c G S0 S (QM below args s G S0 S' none) (F0 m 124 ls [.int t0, .int t1, .int t2, va_rf t3]) := by
  intro ls hl
  unfold f_X12_counts_124 at hr
  refine v_iadd C dX12_counts_124 ?_
  obtain ⟨S125, e125, hr⟩ := ob hr
  refine v_stI_i C e125 dX12_counts_125 ?_
  refine v_iinc C (x3 + 1) (k0 := 2) (lv' := [(3, .int (x3 + 1)), (0, va_rf (some x0)), (2, .int x2)]) hl rfl rfl (by decide) rfl dX12_counts_126 (fun ls hl => ?_)
  refine v_goto C 84 (by decide) dX12_counts_129 ?_
  exact ihk hr _ (lv_sub hl [1, 2, 0] rfl)
theorem b_X12_counts_84  {S0 S' : St} (C : Cx p s m args meth c G S0 yX12_counts cX12_counts 4 (Option.none : Option Jvm.ClassFile.FieldType)) {o : (Nat × Int32 × St)} (kX132 : ∀ {x0 : Nat} {x2 : Int32} {Z : St}, o = (x0, x2, Z) → ∀ ls : Array Slot, lv_has ls 4 [(0, va_rf (some x0)), (2, .int x2)] → V p l e (rmo 0 0 S0) s m args below meth c G S0 Z (QM below args s G S0 S' none) (F0 m 132 ls [])) : ∀ (n : Nat) {S : St} {x0 : Nat} {x2 : Int32} {x3 : Int32}, f_X12_counts_84 n S x0 x2 x3 = some o → ∀ ls : Array Slot, lv_has ls 4 [(0, va_rf (some x0)), (2, .int x2), (3, .int x3)] → V p l e (rmo 0 0 S0) s m args below meth c G S0 S (QM below args s G S0 S' none) (F0 m 84 ls []) := by
  intro n
  induction n with
  | zero => intro S x0 x2 x3 hr; cases hr
  | succ n ih =>
    intro S x0 x2 x3 hr ls hl
    unfold f_X12_counts_84 at hr
    refine v_iload_n C (lv_at hl 2 rfl) rfl dX12_counts_84 ?_
    refine v_aload_n C (lv_at hl 0 rfl) rfl dX12_counts_85 ?_
    obtain ⟨v86, e86, hr⟩ := ob hr
    refine v_getI C fl_RX12_435 rfl e86 dX12_counts_86 ?_
    refine v_icmp_ge C 132 (by decide) dX12_counts_89 (fun c89 => ?_) (fun c89 => ?_)
    · rw [if_pos c89] at hr
      obtain rfl := os hr
      exact kX132 rfl _ (lv_sub hl [0, 1] rfl)
    · rw [if_neg c89] at hr
      refine v_aload_n C (lv_at hl 0 rfl) rfl dX12_counts_92 ?_
      obtain ⟨v93, e93, hr⟩ := ob hr
      refine v_getR C fl_RX12_147 rfl e93 dX12_counts_93 ?_
      refine v_bipush C 8 (by decide) dX12_counts_96 ?_
      refine v_iload_n C (lv_at hl 1 rfl) rfl dX12_counts_98 ?_
      refine v_imul C dX12_counts_99 ?_
      refine v_iload_n C (lv_at hl 2 rfl) rfl dX12_counts_100 ?_
      refine v_iadd C dX12_counts_101 ?_
      refine v_dup2 C rfl (rf_cat _) dX12_counts_102 ?_
      obtain ⟨v103, e103, hr⟩ := ob hr
      refine v_ldI_i C e103 dX12_counts_103 ?_
      refine v_aload_n C (lv_at hl 0 rfl) rfl dX12_counts_104 ?_
      obtain ⟨v105, e105, hr⟩ := ob hr
      refine v_getR C fl_RX12_144 rfl e105 dX12_counts_105 ?_
      refine v_iload_n C (lv_at hl 1 rfl) rfl dX12_counts_108 ?_
      obtain ⟨v109, e109, hr⟩ := ob hr
      refine v_ldI_i C e109 dX12_counts_109 ?_
      refine v_aload_n C (lv_at hl 0 rfl) rfl dX12_counts_110 ?_
      obtain ⟨v111, e111, hr⟩ := ob hr
      refine v_getR C fl_RX12_144 rfl e111 dX12_counts_111 ?_
      refine v_iload_n C (lv_at hl 2 rfl) rfl dX12_counts_114 ?_
      obtain ⟨v115, e115, hr⟩ := ob hr
      refine v_ldI_i C e115 dX12_counts_115 ?_
      refine v_icmp_ne C 123 (by decide) dX12_counts_116 (fun c116 => ?_) (fun c116 => ?_)
      · rw [if_neg c116] at hr
        refine v_iconst C 0 (by decide) dX12_counts_123 ?_
        exact b_X12_counts_124 C (@kX132) (@ih) hr _ (lv_sub hl [0, 1, 2] rfl)
      · rw [if_pos c116] at hr
        refine v_iconst C 1 (by decide) dX12_counts_119 ?_
        refine v_goto C 124 (by decide) dX12_counts_120 ?_
        exact b_X12_counts_124 C (@kX132) (@ih) hr _ (lv_sub hl [0, 1, 2] rfl)
theorem b_X12_counts_74  {S0 S' : St} (C : Cx p s m args meth c G S0 yX12_counts cX12_counts 4 (Option.none : Option Jvm.ClassFile.FieldType)) {o : (St)} (kR : ∀ (Z : St), o = Z → S' = Z) : ∀ (n : Nat) {S : St} {x0 : Nat} {x2 : Int32}, f_X12_counts_74 n S x0 x2 = some o → ∀ ls : Array Slot, lv_has ls 4 [(0, va_rf (some x0)), (2, .int x2)] → V p l e (rmo 0 0 S0) s m args below meth c G S0 S (QM below args s G S0 S' none) (F0 m 74 ls []) := by
  intro n
  induction n with
  | zero => intro S x0 x2 hr; cases hr
  | succ n ih =>
    intro S x0 x2 hr ls hl
    unfold f_X12_counts_74 at hr
    refine v_iload_n C (lv_at hl 1 rfl) rfl dX12_counts_74 ?_
    refine v_aload_n C (lv_at hl 0 rfl) rfl dX12_counts_75 ?_
    obtain ⟨v76, e76, hr⟩ := ob hr
    refine v_getI C fl_RX12_435 rfl e76 dX12_counts_76 ?_
    refine v_icmp_ge C 138 (by decide) dX12_counts_79 (fun c79 => ?_) (fun c79 => ?_)
    · rw [if_pos c79] at hr
      obtain rfl := os hr
      obtain rfl := kR _ rfl
      exact v_vret C dX12_counts_138
    · rw [if_neg c79] at hr
      refine v_iconst C 0 (by decide) dX12_counts_82 ?_
      refine v_istore_n C (i := 3) (lv' := [(3, .int 0), (0, va_rf (some x0)), (2, .int x2)]) hl rfl (by decide) rfl dX12_counts_83 (fun ls hl => ?_)
      obtain ⟨o84, e84, hr⟩ := ob hr
      refine b_X12_counts_84 C ?_ FU e84 _ (lv_sub hl [1, 2, 0] rfl)
      · intro x0 x2_84 S_84 q ls hl
        subst q
        (try dsimp only at hr)
        refine v_iinc C (x2_84 + 1) (k0 := 1) (lv' := [(2, .int (x2_84 + 1)), (0, va_rf (some x0))]) hl rfl rfl (by decide) rfl dX12_counts_132 (fun ls hl => ?_)
        refine v_goto C 74 (by decide) dX12_counts_135 ?_
        exact ih hr _ (lv_sub hl [1, 0] rfl)
theorem b_X12_counts_62  {S0 S S' : St} {x0 : Nat} (C : Cx p s m args meth c G S0 yX12_counts cX12_counts 4 (Option.none : Option Jvm.ClassFile.FieldType)) (hr : f_X12_counts_62 S x0 = some S') : ∀ ls : Array Slot, lv_has ls 4 [(0, va_rf (some x0))] → V p l e (rmo 0 0 S0) s m args below meth c G S0 S (QM below args s G S0 S' none) (F0 m 62 ls []) := by
  intro ls hl
  unfold f_X12_counts_62 at hr
  refine v_aload_n C (lv_at hl 0 rfl) rfl dX12_counts_62 ?_
  refine v_dup C (rf_cat _) dX12_counts_63 ?_
  obtain ⟨v64, e64, hr⟩ := ob hr
  refine v_getI C fl_RX12_445 rfl e64 dX12_counts_64 ?_
  refine v_iconst C 1 (by decide) dX12_counts_67 ?_
  refine v_iadd C dX12_counts_68 ?_
  obtain ⟨S69, e69, hr⟩ := ob hr
  refine v_putI C fl_RX12_445 (Or.inl rfl) rfl e69 dX12_counts_69 ?_
  refine v_iconst C 0 (by decide) dX12_counts_72 ?_
  refine v_istore_n C (i := 2) (lv' := [(2, .int 0), (0, va_rf (some x0))]) hl rfl (by decide) rfl dX12_counts_73 (fun ls hl => ?_)
  exact b_X12_counts_74 C (fun _ q => by cases q; rfl) FU hr _ (lv_sub hl [1, 0] rfl)
theorem b_X12_counts_31  {S0 S S' : St} {x0 : Nat} {x1 : Int32} (C : Cx p s m args meth c G S0 yX12_counts cX12_counts 4 (Option.none : Option Jvm.ClassFile.FieldType)) (hr : f_X12_counts_31 S x0 x1 = some S') : ∀ ls : Array Slot, lv_has ls 4 [(0, va_rf (some x0)), (1, .int x1)] → V p l e (rmo 0 0 S0) s m args below meth c G S0 S (QM below args s G S0 S' none) (F0 m 31 ls []) := by
  intro ls hl
  unfold f_X12_counts_31 at hr
  refine v_aload_n C (lv_at hl 0 rfl) rfl dX12_counts_31 ?_
  refine v_iload_n C (lv_at hl 1 rfl) rfl dX12_counts_32 ?_
  obtain ⟨S33, e33, hr⟩ := ob hr
  refine v_putI C fl_RX12_448 (Or.inl rfl) rfl e33 dX12_counts_33 ?_
  refine v_aload_n C (lv_at hl 0 rfl) rfl dX12_counts_36 ?_
  refine v_iconst C 0 (by decide) dX12_counts_37 ?_
  obtain ⟨S38, e38, hr⟩ := ob hr
  refine v_putI C fl_RX12_445 (Or.inl rfl) rfl e38 dX12_counts_38 ?_
  refine v_iconst C 0 (by decide) dX12_counts_41 ?_
  refine v_istore_n C (i := 2) (lv' := [(2, .int 0), (0, va_rf (some x0)), (1, .int x1)]) hl rfl (by decide) rfl dX12_counts_42 (fun ls hl => ?_)
  obtain ⟨o43, e43, hr⟩ := ob hr
  refine b_X12_counts_43 C ?_ FU e43 _ (lv_sub hl [1, 0] rfl)
  · intro x0 S_43 q ls hl
    subst q
    (try dsimp only at hr)
    exact b_X12_counts_62 C hr _ (lv_sub hl [0] rfl)
theorem b_X12_counts_16  {S0 S S' : St} {x0 : Nat} {x1 : Int32} (C : Cx p s m args meth c G S0 yX12_counts cX12_counts 4 (Option.none : Option Jvm.ClassFile.FieldType)) (hr : f_X12_counts_16 S x0 x1 = some S') : ∀ ls : Array Slot, lv_has ls 4 [(0, va_rf (some x0)), (1, .int x1)] → V p l e (rmo 0 0 S0) s m args below meth c G S0 S (QM below args s G S0 S' none) (F0 m 16 ls []) := by
  intro ls hl
  unfold f_X12_counts_16 at hr
  refine v_aload_n C (lv_at hl 0 rfl) rfl dX12_counts_16 ?_
  obtain ⟨v17, e17, hr⟩ := ob hr
  refine v_getI C fl_RX12_445 rfl e17 dX12_counts_17 ?_
  refine v_if_eq C 31 (by decide) dX12_counts_20 (fun c20 => ?_) (fun c20 => ?_)
  · rw [if_pos c20] at hr
    exact b_X12_counts_31 C hr _ (lv_sub hl [0, 1] rfl)
  · rw [if_neg c20] at hr
    refine v_iload_n C (lv_at hl 1 rfl) rfl dX12_counts_23 ?_
    refine v_aload_n C (lv_at hl 0 rfl) rfl dX12_counts_24 ?_
    obtain ⟨v25, e25, hr⟩ := ob hr
    refine v_getI C fl_RX12_448 rfl e25 dX12_counts_25 ?_
    refine v_icmp_le C 62 (by decide) dX12_counts_28 (fun c28 => ?_) (fun c28 => ?_)
    · rw [if_pos c28] at hr
      exact b_X12_counts_62 C hr _ (lv_sub hl [0] rfl)
    · rw [if_neg c28] at hr
      exact b_X12_counts_31 C hr _ (lv_sub hl [0, 1] rfl)
theorem k_X12_counts {l : Launch} {G : Ge} {S S' : St} {x0 : Nat} {x1 : Int32} (hr : f_X12_counts S x0 x1 = some S') : Ct l G yX12_counts cX12_counts 4 (Option.none : Option Jvm.ClassFile.FieldType) S [va_rf (some x0), .int x1] none S' 0 0 := by
  refine ct_of (by decide +kernel) (Nat.le_of_ble_eq_true rfl) ?_
  intro p e s m args below meth c C ls hl
  have hl : lv_has ls 4 [(0, va_rf (some x0)), (1, .int x1)] := hl
  unfold f_X12_counts at hr
  refine v_aload_n C (lv_at hl 0 rfl) rfl dX12_counts_0 ?_
  obtain ⟨v1, e1, hr⟩ := ob hr
  refine v_getI C fl_RX12_445 rfl e1 dX12_counts_1 ?_
  refine v_if_le C 16 (by decide) dX12_counts_4 (fun c4 => ?_) (fun c4 => ?_)
  · rw [if_pos c4] at hr
    exact b_X12_counts_16 C hr _ (lv_sub hl [0, 1] rfl)
  · rw [if_neg c4] at hr
    refine v_iload_n C (lv_at hl 1 rfl) rfl dX12_counts_7 ?_
    refine v_aload_n C (lv_at hl 0 rfl) rfl dX12_counts_8 ?_
    obtain ⟨v9, e9, hr⟩ := ob hr
    refine v_getI C fl_RX12_448 rfl e9 dX12_counts_9 ?_
    refine v_icmp_ge C 16 (by decide) dX12_counts_12 (fun c12 => ?_) (fun c12 => ?_)
    · rw [if_pos c12] at hr
      exact b_X12_counts_16 C hr _ (lv_sub hl [0, 1] rfl)
    · rw [if_neg c12] at hr
      obtain rfl := os hr
      exact v_vret C dX12_counts_15
-- X12_days
def f_X12_days (S : St) (x0 : Nat) (x1 : Int32) : Option (Int32 × St) :=
    (f_X12_isIn S x1 1 9999).bind fun v5 =>
    (if v5 = 0 then
    some ((-1), S)
    else
    (getI S (some x0) 13 0).bind fun v12 =>
    (if v12 ≤ (19999 - x1) then
    (getI S (some x0) 13 0).bind fun v27 =>
    (putI S (some x0) 13 0 (v27 + x1)).bind fun S32 =>
    (getI S32 (some x0) 13 0).bind fun v36 =>
    some (v36, S32)
    else
    some ((-1), S)))
theorem k_X12_days {l : Launch} {G : Ge} {S S' : St} {x0 : Nat} {x1 : Int32} {rr : Int32} (hr : f_X12_days S x0 x1 = some (rr, S')) : Ct l G yX12_days cX12_days 2 (Option.some Jvm.ClassFile.FieldType.int) S [va_rf (some x0), .int x1] (some (.int rr)) S' 1 22 := by
  refine ct_of (by decide +kernel) (Nat.le_of_ble_eq_true rfl) ?_
  intro p e s m args below meth c C ls hl
  have hl : lv_has ls 2 [(0, va_rf (some x0)), (1, .int x1)] := hl
  unfold f_X12_days at hr
  refine v_iload_n C (lv_at hl 1 rfl) rfl dX12_days_0 ?_
  refine v_iconst C 1 (by decide) dX12_days_1 ?_
  refine v_sipush C 9999 (by decide) dX12_days_2 ?_
  obtain ⟨v5, e5, hr⟩ := ob hr
  refine v_callS C (k_X12_isIn e5) cw_X12_isIn w_1555 w_1556 (show (parseMethodDescriptor (yX12_isIn).desc).map (fun d => d.parameters.length) = some 3 by decide +kernel) ⟨by decide, by decide⟩ (rest := []) (stk2 := [.int v5]) rfl rfl (Nat.le_of_ble_eq_true rfl) hl dX12_days_5 ?_
  refine v_if_eq C 23 (by decide) dX12_days_8 (fun c8 => ?_) (fun c8 => ?_)
  · rw [if_pos c8] at hr
    refine v_iconst C (-1) (by decide) dX12_days_23 ?_
    obtain ⟨rfl, rfl⟩ := Prod.mk.inj (os hr)
    exact v_iret C dX12_days_24
  · rw [if_neg c8] at hr
    refine v_aload_n C (lv_at hl 0 rfl) rfl dX12_days_11 ?_
    obtain ⟨v12, e12, hr⟩ := ob hr
    refine v_getI C fl_RX12_197 rfl e12 dX12_days_12 ?_
    refine v_sipush C 19999 (by decide) dX12_days_15 ?_
    refine v_iload_n C (lv_at hl 1 rfl) rfl dX12_days_18 ?_
    refine v_isub C dX12_days_19 ?_
    refine v_icmp_le C 25 (by decide) dX12_days_20 (fun c20 => ?_) (fun c20 => ?_)
    · rw [if_pos c20] at hr
      refine v_aload_n C (lv_at hl 0 rfl) rfl dX12_days_25 ?_
      refine v_dup C (rf_cat _) dX12_days_26 ?_
      obtain ⟨v27, e27, hr⟩ := ob hr
      refine v_getI C fl_RX12_197 rfl e27 dX12_days_27 ?_
      refine v_iload_n C (lv_at hl 1 rfl) rfl dX12_days_30 ?_
      refine v_iadd C dX12_days_31 ?_
      obtain ⟨S32, e32, hr⟩ := ob hr
      refine v_putI C fl_RX12_197 (Or.inl rfl) rfl e32 dX12_days_32 ?_
      refine v_aload_n C (lv_at hl 0 rfl) rfl dX12_days_35 ?_
      obtain ⟨v36, e36, hr⟩ := ob hr
      refine v_getI C fl_RX12_197 rfl e36 dX12_days_36 ?_
      obtain ⟨rfl, rfl⟩ := Prod.mk.inj (os hr)
      exact v_iret C dX12_days_39
    · rw [if_neg c20] at hr
      refine v_iconst C (-1) (by decide) dX12_days_23 ?_
      obtain ⟨rfl, rfl⟩ := Prod.mk.inj (os hr)
      exact v_iret C dX12_days_24
-- X12_dies
def f_X12_dies_39 (S : St) (x0 : Nat) (x1 : Int32) (x2 : Int32) (t0 : Int32) (t1 : Int32) : Option (Int32 × St) :=
    (getI S (some x0) 13 0).bind fun v40 =>
    (f_X12_isIn S t1 t0 v40).bind fun v43 =>
    (if v43 = 0 then
    some (0, S)
    else
    (getR S (some x0) 13 13).bind fun v52 =>
    (stI S v52 15 x1 x2).bind fun S57 =>
    some (1, S57))
def f_X12_dies (S : St) (x0 : Nat) (x1 : Int32) (x2 : Int32) : Option (Int32 × St) :=
    (rcv S (some x0) 13).bind fun b2 =>
    (f_X12_isPerson S b2 x1).bind fun v2 =>
    (if v2 = 0 then
    some (0, S)
    else
    (getR S (some x0) 13 13).bind fun v9 =>
    (ldI S v9 15 x1).bind fun v13 =>
    (if v13 = (-1) then
    (getR S (some x0) 13 9).bind fun v20 =>
    (ldI S v20 15 x1).bind fun v24 =>
    (if v24 = (-1) then
    f_X12_dies_39 S x0 x1 x2 0 x2
    else
    (getR S (some x0) 13 9).bind fun v34 =>
    (ldI S v34 15 x1).bind fun v38 =>
    f_X12_dies_39 S x0 x1 x2 v38 x2)
    else
    some (0, S)))
theorem b_X12_dies_39  {S0 S S' : St} {rr : Int32} {x0 : Nat} {x1 : Int32} {x2 : Int32} {t0 : Int32} {t1 : Int32} (C : Cx p s m args meth c G S0 yX12_dies cX12_dies 3 (Option.some Jvm.ClassFile.FieldType.boolean)) (hr : f_X12_dies_39 S x0 x1 x2 t0 t1 = some (rr, S')) : ∀ ls : Array Slot, lv_has ls 3 [(0, va_rf (some x0)), (1, .int x1), (2, .int x2)] → V p l e (rmo 2 43 S0) s m args below meth c G S0 S (QM below args s G S0 S' (some (.int rr))) (F0 m 39 ls [.int t0, .int t1]) := by
  intro ls hl
  unfold f_X12_dies_39 at hr
  refine v_aload_n C (lv_at hl 0 rfl) rfl dX12_dies_39 ?_
  obtain ⟨v40, e40, hr⟩ := ob hr
  refine v_getI C fl_RX12_197 rfl e40 dX12_dies_40 ?_
  obtain ⟨v43, e43, hr⟩ := ob hr
  refine v_callS C (k_X12_isIn e43) cw_X12_isIn w_1555 w_1556 (show (parseMethodDescriptor (yX12_isIn).desc).map (fun d => d.parameters.length) = some 3 by decide +kernel) ⟨by decide, by decide⟩ (rest := []) (stk2 := [.int v43]) rfl rfl (Nat.le_of_ble_eq_true rfl) hl dX12_dies_43 ?_
  refine v_if_ne C 51 (by decide) dX12_dies_46 (fun c46 => ?_) (fun c46 => ?_)
  · rw [if_neg c46] at hr
    refine v_aload_n C (lv_at hl 0 rfl) rfl dX12_dies_51 ?_
    obtain ⟨v52, e52, hr⟩ := ob hr
    refine v_getR C fl_RX12_34 rfl e52 dX12_dies_52 ?_
    refine v_iload_n C (lv_at hl 1 rfl) rfl dX12_dies_55 ?_
    refine v_iload_n C (lv_at hl 2 rfl) rfl dX12_dies_56 ?_
    obtain ⟨S57, e57, hr⟩ := ob hr
    refine v_stI_i C e57 dX12_dies_57 ?_
    refine v_iconst C 1 (by decide) dX12_dies_58 ?_
    obtain ⟨rfl, rfl⟩ := Prod.mk.inj (os hr)
    exact v_zret C rfl dX12_dies_59
  · rw [if_pos c46] at hr
    refine v_iconst C 0 (by decide) dX12_dies_49 ?_
    obtain ⟨rfl, rfl⟩ := Prod.mk.inj (os hr)
    exact v_zret C rfl dX12_dies_50
theorem k_X12_dies {l : Launch} {G : Ge} {S S' : St} {x0 : Nat} {x1 : Int32} {x2 : Int32} {rr : Int32} (hr : f_X12_dies S x0 x1 x2 = some (rr, S')) : Ct l G yX12_dies cX12_dies 3 (Option.some Jvm.ClassFile.FieldType.boolean) S [va_rf (some x0), .int x1, .int x2] (some (.int rr)) S' 2 43 := by
  refine ct_of (by decide +kernel) (Nat.le_of_ble_eq_true rfl) ?_
  intro p e s m args below meth c C ls hl
  have hl : lv_has ls 3 [(0, va_rf (some x0)), (1, .int x1), (2, .int x2)] := hl
  unfold f_X12_dies at hr
  refine v_aload_n C (lv_at hl 0 rfl) rfl dX12_dies_0 ?_
  refine v_iload_n C (lv_at hl 1 rfl) rfl dX12_dies_1 ?_
  obtain ⟨b2, f2, hr⟩ := ob hr
  obtain ⟨g2, h2⟩ := rcv_n f2
  obtain ⟨v2, e2, hr⟩ := ob hr
  refine v_callV C (b := b2) h2 (by decide) rfl rfl (k_X12_isPerson e2) cw_X12_isPerson w_1593 w_1595 w_56 (show (parseMethodDescriptor (yX12_isPerson).desc).map (fun d => d.parameters.length) = some 1 by decide +kernel) ⟨by decide, by decide⟩ (rest := []) (stk2 := [.int v2]) (by rw [g2]; rfl) rfl (Nat.le_of_ble_eq_true rfl) hl dX12_dies_2 ?_
  refine v_if_eq C 49 (by decide) dX12_dies_5 (fun c5 => ?_) (fun c5 => ?_)
  · rw [if_pos c5] at hr
    refine v_iconst C 0 (by decide) dX12_dies_49 ?_
    obtain ⟨rfl, rfl⟩ := Prod.mk.inj (os hr)
    exact v_zret C rfl dX12_dies_50
  · rw [if_neg c5] at hr
    refine v_aload_n C (lv_at hl 0 rfl) rfl dX12_dies_8 ?_
    obtain ⟨v9, e9, hr⟩ := ob hr
    refine v_getR C fl_RX12_34 rfl e9 dX12_dies_9 ?_
    refine v_iload_n C (lv_at hl 1 rfl) rfl dX12_dies_12 ?_
    obtain ⟨v13, e13, hr⟩ := ob hr
    refine v_ldI_i C e13 dX12_dies_13 ?_
    refine v_iconst C (-1) (by decide) dX12_dies_14 ?_
    refine v_icmp_ne C 49 (by decide) dX12_dies_15 (fun c15 => ?_) (fun c15 => ?_)
    · rw [if_neg c15] at hr
      refine v_iconst C 0 (by decide) dX12_dies_49 ?_
      obtain ⟨rfl, rfl⟩ := Prod.mk.inj (os hr)
      exact v_zret C rfl dX12_dies_50
    · rw [if_pos c15] at hr
      refine v_iload_n C (lv_at hl 2 rfl) rfl dX12_dies_18 ?_
      refine v_aload_n C (lv_at hl 0 rfl) rfl dX12_dies_19 ?_
      obtain ⟨v20, e20, hr⟩ := ob hr
      refine v_getR C fl_RX12_22 rfl e20 dX12_dies_20 ?_
      refine v_iload_n C (lv_at hl 1 rfl) rfl dX12_dies_23 ?_
      obtain ⟨v24, e24, hr⟩ := ob hr
      refine v_ldI_i C e24 dX12_dies_24 ?_
      refine v_iconst C (-1) (by decide) dX12_dies_25 ?_
      refine v_icmp_ne C 33 (by decide) dX12_dies_26 (fun c26 => ?_) (fun c26 => ?_)
      · rw [if_neg c26] at hr
        refine v_aload_n C (lv_at hl 0 rfl) rfl dX12_dies_33 ?_
        obtain ⟨v34, e34, hr⟩ := ob hr
        refine v_getR C fl_RX12_22 rfl e34 dX12_dies_34 ?_
        refine v_iload_n C (lv_at hl 1 rfl) rfl dX12_dies_37 ?_
        obtain ⟨v38, e38, hr⟩ := ob hr
        refine v_ldI_i C e38 dX12_dies_38 ?_
        exact b_X12_dies_39 C hr _ (lv_sub hl [0, 1, 2] rfl)
      · rw [if_pos c26] at hr
        refine v_iconst C 0 (by decide) dX12_dies_29 ?_
        refine v_goto C 39 (by decide) dX12_dies_30 ?_
        exact b_X12_dies_39 C hr _ (lv_sub hl [0, 1, 2] rfl)
-- X12_end
def f_X12_end (S : St) (x0 : Nat) (x1 : Int32) : Option (Int32 × St) :=
    (getI S (some x0) 13 44).bind fun v3 =>
    (f_X12_isIn S x1 0 v3).bind fun v6 =>
    (if v6 = 0 then
    some (0, S)
    else
    (putI S (some x0) 13 44 x1).bind fun S16 =>
    some (1, S16))
theorem k_X12_end {l : Launch} {G : Ge} {S S' : St} {x0 : Nat} {x1 : Int32} {rr : Int32} (hr : f_X12_end S x0 x1 = some (rr, S')) : Ct l G yX12_end cX12_end 2 (Option.some Jvm.ClassFile.FieldType.boolean) S [va_rf (some x0), .int x1] (some (.int rr)) S' 1 22 := by
  refine ct_of (by decide +kernel) (Nat.le_of_ble_eq_true rfl) ?_
  intro p e s m args below meth c C ls hl
  have hl : lv_has ls 2 [(0, va_rf (some x0)), (1, .int x1)] := hl
  unfold f_X12_end at hr
  refine v_iload_n C (lv_at hl 1 rfl) rfl dX12_end_0 ?_
  refine v_iconst C 0 (by decide) dX12_end_1 ?_
  refine v_aload_n C (lv_at hl 0 rfl) rfl dX12_end_2 ?_
  obtain ⟨v3, e3, hr⟩ := ob hr
  refine v_getI C fl_RX12_259 rfl e3 dX12_end_3 ?_
  obtain ⟨v6, e6, hr⟩ := ob hr
  refine v_callS C (k_X12_isIn e6) cw_X12_isIn w_1555 w_1556 (show (parseMethodDescriptor (yX12_isIn).desc).map (fun d => d.parameters.length) = some 3 by decide +kernel) ⟨by decide, by decide⟩ (rest := []) (stk2 := [.int v6]) rfl rfl (Nat.le_of_ble_eq_true rfl) hl dX12_end_6 ?_
  refine v_if_ne C 14 (by decide) dX12_end_9 (fun c9 => ?_) (fun c9 => ?_)
  · rw [if_neg c9] at hr
    refine v_aload_n C (lv_at hl 0 rfl) rfl dX12_end_14 ?_
    refine v_iload_n C (lv_at hl 1 rfl) rfl dX12_end_15 ?_
    obtain ⟨S16, e16, hr⟩ := ob hr
    refine v_putI C fl_RX12_259 (Or.inl rfl) rfl e16 dX12_end_16 ?_
    refine v_iconst C 1 (by decide) dX12_end_19 ?_
    obtain ⟨rfl, rfl⟩ := Prod.mk.inj (os hr)
    exact v_zret C rfl dX12_end_20
  · rw [if_pos c9] at hr
    refine v_iconst C 0 (by decide) dX12_end_12 ?_
    obtain ⟨rfl, rfl⟩ := Prod.mk.inj (os hr)
    exact v_zret C rfl dX12_end_13
-- X12_fault
def f_X12_fault (S : St) (x0 : Nat) (x1 : Int32) : Option Int32 :=
    (if x1 = 0 then
    (getI S (some x0) 13 51).bind fun v5 =>
    some v5
    else
    (if x1 = 1 then
    (getI S (some x0) 13 54).bind fun v17 =>
    some v17
    else
    some (-1)))
theorem k_X12_fault {l : Launch} {G : Ge} {S : St} {x0 : Nat} {x1 : Int32} {rr : Int32} (hr : f_X12_fault S x0 x1 = some rr) : Ct l G yX12_fault cX12_fault 2 (Option.some Jvm.ClassFile.FieldType.int) S [va_rf (some x0), .int x1] (some (.int rr)) S 0 0 := by
  refine ct_of (by decide +kernel) (Nat.le_of_ble_eq_true rfl) ?_
  intro p e s m args below meth c C ls hl
  have hl : lv_has ls 2 [(0, va_rf (some x0)), (1, .int x1)] := hl
  unfold f_X12_fault at hr
  refine v_iload_n C (lv_at hl 1 rfl) rfl dX12_fault_0 ?_
  refine v_if_ne C 11 (by decide) dX12_fault_1 (fun c1 => ?_) (fun c1 => ?_)
  · rw [if_neg c1] at hr
    refine v_iload_n C (lv_at hl 1 rfl) rfl dX12_fault_11 ?_
    refine v_iconst C 1 (by decide) dX12_fault_12 ?_
    refine v_icmp_ne C 23 (by decide) dX12_fault_13 (fun c13 => ?_) (fun c13 => ?_)
    · rw [if_neg c13] at hr
      refine v_iconst C (-1) (by decide) dX12_fault_23 ?_
      obtain rfl := os hr
      exact v_iret C dX12_fault_24
    · rw [if_pos c13] at hr
      refine v_aload_n C (lv_at hl 0 rfl) rfl dX12_fault_16 ?_
      obtain ⟨v17, e17, hr⟩ := ob hr
      refine v_getI C fl_RX12_121 rfl e17 dX12_fault_17 ?_
      refine v_goto C 24 (by decide) dX12_fault_20 ?_
      obtain rfl := os hr
      exact v_iret C dX12_fault_24
  · rw [if_pos c1] at hr
    refine v_aload_n C (lv_at hl 0 rfl) rfl dX12_fault_4 ?_
    obtain ⟨v5, e5, hr⟩ := ob hr
    refine v_getI C fl_RX12_391 rfl e5 dX12_fault_5 ?_
    refine v_goto C 24 (by decide) dX12_fault_8 ?_
    obtain rfl := os hr
    exact v_iret C dX12_fault_24
-- X12_feed
def f_X12_feed_71 (rec : St → Nat → Int32 → Int32 → Int32 → Int32 → Int32 → Int32 → Option ((Int32 × St))) (S : St) (x0 : Nat) (x1 : Int32) (x2 : Int32) (x3 : Int32) (x4 : Int32) (x5 : Int32) (x6 : Int32) (t0 : Int32) : Option ((Int32 × St)) :=
    (getR S (some x0) 13 40).bind fun v74 =>
    (getI S (some x0) 13 44).bind fun v78 =>
    (remI x6 4).bind fun v90 =>
    (stI S v74 15 v78 ((t0 >>> ((24 - (8 * v90)) &&& 31)) &&& 255)).bind fun S98 =>
    (getI S98 (some x0) 13 44).bind fun v101 =>
    (putI S98 (some x0) 13 44 (v101 + 1)).bind fun S106 =>
    rec S106 x0 x1 x2 x3 x4 x5 (x6 + 1)
def f_X12_feed_18 : Nat → St → Nat → Int32 → Int32 → Int32 → Int32 → Int32 → Int32 → Option ((Int32 × St))
  | 0, _, _, _, _, _, _, _, _ => none
  | n + 1, S, x0, x1, x2, x3, x4, x5, x6 =>
    (if (20 : Int32) ≤ x6 then
    (getI S (some x0) 13 44).bind fun v116 =>
    some (v116, S)
    else
    (if (4 : Int32) ≤ x6 then
    (if (8 : Int32) ≤ x6 then
    (if (12 : Int32) ≤ x6 then
    (if (16 : Int32) ≤ x6 then
    f_X12_feed_71 (f_X12_feed_18 n) S x0 x1 x2 x3 x4 x5 x6 x5
    else
    f_X12_feed_71 (f_X12_feed_18 n) S x0 x1 x2 x3 x4 x5 x6 x4)
    else
    f_X12_feed_71 (f_X12_feed_18 n) S x0 x1 x2 x3 x4 x5 x6 x3)
    else
    f_X12_feed_71 (f_X12_feed_18 n) S x0 x1 x2 x3 x4 x5 x6 x2)
    else
    f_X12_feed_71 (f_X12_feed_18 n) S x0 x1 x2 x3 x4 x5 x6 x1))
def f_X12_feed (S : St) (x0 : Nat) (x1 : Int32) (x2 : Int32) (x3 : Int32) (x4 : Int32) (x5 : Int32) : Option (Int32 × St) :=
    (getI S (some x0) 13 44).bind fun v1 =>
    (if (v1 + 20) ≤ 600 then
    f_X12_feed_18 FU S x0 x1 x2 x3 x4 x5 0
    else
    some ((-1), S))
theorem b_X12_feed_71  {S0 S S' : St} {rr : Int32} {x0 : Nat} {x1 : Int32} {x2 : Int32} {x3 : Int32} {x4 : Int32} {x5 : Int32} {x6 : Int32} {t0 : Int32} (C : Cx p s m args meth c G S0 yX12_feed cX12_feed 8 (Option.some Jvm.ClassFile.FieldType.int)) {o : ((Int32 × St))} {rec : St → Nat → Int32 → Int32 → Int32 → Int32 → Int32 → Int32 → Option ((Int32 × St))} (kR : ∀ (v : Int32) (Z : St), o = (v, Z) → rr = v ∧ S' = Z) (ihk : ∀ {S : St} {x0 : Nat} {x1 : Int32} {x2 : Int32} {x3 : Int32} {x4 : Int32} {x5 : Int32} {x6 : Int32}, rec S x0 x1 x2 x3 x4 x5 x6 = some o → ∀ ls : Array Slot, lv_has ls 8 [(0, va_rf (some x0)), (1, .int x1), (2, .int x2), (3, .int x3), (4, .int x4), (5, .int x5), (6, .int x6)] → V p l e (rmo 0 0 S0) s m args below meth c G S0 S (QM below args s G S0 S' (some (.int rr))) (F0 m 18 ls [])) (hr : f_X12_feed_71 rec S x0 x1 x2 x3 x4 x5 x6 t0 = some o) : ∀ ls : Array Slot, lv_has ls 8 [(0, va_rf (some x0)), (1, .int x1), (2, .int x2), (3, .int x3), (4, .int x4), (5, .int x5), (6, .int x6)] → V p l e (rmo 0 0 S0) s m args below meth c G S0 S (QM below args s G S0 S' (some (.int rr))) (F0 m 71 ls [.int t0]) := by
  intro ls hl
  unfold f_X12_feed_71 at hr
  refine v_istore C (i := 7) (lv' := [(7, .int t0), (0, va_rf (some x0)), (1, .int x1), (2, .int x2), (3, .int x3), (4, .int x4), (5, .int x5), (6, .int x6)]) hl (by decide) rfl dX12_feed_71 (fun ls hl => ?_)
  refine v_aload_n C (lv_at hl 1 rfl) rfl dX12_feed_73 ?_
  obtain ⟨v74, e74, hr⟩ := ob hr
  refine v_getR C fl_RX12_115 rfl e74 dX12_feed_74 ?_
  refine v_aload_n C (lv_at hl 1 rfl) rfl dX12_feed_77 ?_
  obtain ⟨v78, e78, hr⟩ := ob hr
  refine v_getI C fl_RX12_259 rfl e78 dX12_feed_78 ?_
  refine v_iload C (lv_at hl 0 rfl) dX12_feed_81 ?_
  refine v_bipush C 24 (by decide) dX12_feed_83 ?_
  refine v_bipush C 8 (by decide) dX12_feed_85 ?_
  refine v_iload C (lv_at hl 7 rfl) dX12_feed_87 ?_
  refine v_iconst C 4 (by decide) dX12_feed_89 ?_
  obtain ⟨v90, e90, hr⟩ := ob hr
  refine v_irem C e90 dX12_feed_90 ?_
  refine v_imul C dX12_feed_91 ?_
  refine v_isub C dX12_feed_92 ?_
  refine v_ishr C dX12_feed_93 ?_
  refine v_sipush C 255 (by decide) dX12_feed_94 ?_
  refine v_iand C dX12_feed_97 ?_
  obtain ⟨S98, e98, hr⟩ := ob hr
  refine v_stI_i C e98 dX12_feed_98 ?_
  refine v_aload_n C (lv_at hl 1 rfl) rfl dX12_feed_99 ?_
  refine v_dup C (rf_cat _) dX12_feed_100 ?_
  obtain ⟨v101, e101, hr⟩ := ob hr
  refine v_getI C fl_RX12_259 rfl e101 dX12_feed_101 ?_
  refine v_iconst C 1 (by decide) dX12_feed_104 ?_
  refine v_iadd C dX12_feed_105 ?_
  obtain ⟨S106, e106, hr⟩ := ob hr
  refine v_putI C fl_RX12_259 (Or.inl rfl) rfl e106 dX12_feed_106 ?_
  refine v_iinc C (x6 + 1) (k0 := 7) (lv' := [(6, .int (x6 + 1)), (7, .int t0), (0, va_rf (some x0)), (1, .int x1), (2, .int x2), (3, .int x3), (4, .int x4), (5, .int x5)]) hl rfl rfl (by decide) rfl dX12_feed_109 (fun ls hl => ?_)
  refine v_goto C 18 (by decide) dX12_feed_112 ?_
  exact ihk hr _ (lv_sub hl [2, 3, 4, 5, 6, 7, 0] rfl)
theorem b_X12_feed_18  {S0 S' : St} {rr : Int32} (C : Cx p s m args meth c G S0 yX12_feed cX12_feed 8 (Option.some Jvm.ClassFile.FieldType.int)) {o : ((Int32 × St))} (kR : ∀ (v : Int32) (Z : St), o = (v, Z) → rr = v ∧ S' = Z) : ∀ (n : Nat) {S : St} {x0 : Nat} {x1 : Int32} {x2 : Int32} {x3 : Int32} {x4 : Int32} {x5 : Int32} {x6 : Int32}, f_X12_feed_18 n S x0 x1 x2 x3 x4 x5 x6 = some o → ∀ ls : Array Slot, lv_has ls 8 [(0, va_rf (some x0)), (1, .int x1), (2, .int x2), (3, .int x3), (4, .int x4), (5, .int x5), (6, .int x6)] → V p l e (rmo 0 0 S0) s m args below meth c G S0 S (QM below args s G S0 S' (some (.int rr))) (F0 m 18 ls []) := by
  intro n
  induction n with
  | zero => intro S x0 x1 x2 x3 x4 x5 x6 hr; cases hr
  | succ n ih =>
    intro S x0 x1 x2 x3 x4 x5 x6 hr ls hl
    unfold f_X12_feed_18 at hr
    refine v_iload C (lv_at hl 6 rfl) dX12_feed_18 ?_
    refine v_bipush C 20 (by decide) dX12_feed_20 ?_
    refine v_icmp_ge C 115 (by decide) dX12_feed_22 (fun c22 => ?_) (fun c22 => ?_)
    · rw [if_pos c22] at hr
      refine v_aload_n C (lv_at hl 0 rfl) rfl dX12_feed_115 ?_
      obtain ⟨v116, e116, hr⟩ := ob hr
      refine v_getI C fl_RX12_259 rfl e116 dX12_feed_116 ?_
      obtain rfl := os hr
      obtain ⟨rfl, rfl⟩ := kR _ _ rfl
      exact v_iret C dX12_feed_119
    · rw [if_neg c22] at hr
      refine v_iload C (lv_at hl 6 rfl) dX12_feed_25 ?_
      refine v_iconst C 4 (by decide) dX12_feed_27 ?_
      refine v_icmp_ge C 35 (by decide) dX12_feed_28 (fun c28 => ?_) (fun c28 => ?_)
      · rw [if_pos c28] at hr
        refine v_iload C (lv_at hl 6 rfl) dX12_feed_35 ?_
        refine v_bipush C 8 (by decide) dX12_feed_37 ?_
        refine v_icmp_ge C 46 (by decide) dX12_feed_39 (fun c39 => ?_) (fun c39 => ?_)
        · rw [if_pos c39] at hr
          refine v_iload C (lv_at hl 6 rfl) dX12_feed_46 ?_
          refine v_bipush C 12 (by decide) dX12_feed_48 ?_
          refine v_icmp_ge C 57 (by decide) dX12_feed_50 (fun c50 => ?_) (fun c50 => ?_)
          · rw [if_pos c50] at hr
            refine v_iload C (lv_at hl 6 rfl) dX12_feed_57 ?_
            refine v_bipush C 16 (by decide) dX12_feed_59 ?_
            refine v_icmp_ge C 69 (by decide) dX12_feed_61 (fun c61 => ?_) (fun c61 => ?_)
            · rw [if_pos c61] at hr
              refine v_iload C (lv_at hl 5 rfl) dX12_feed_69 ?_
              exact b_X12_feed_71 C kR (@ih) hr _ (lv_sub hl [0, 1, 2, 3, 4, 5, 6] rfl)
            · rw [if_neg c61] at hr
              refine v_iload C (lv_at hl 4 rfl) dX12_feed_64 ?_
              refine v_goto C 71 (by decide) dX12_feed_66 ?_
              exact b_X12_feed_71 C kR (@ih) hr _ (lv_sub hl [0, 1, 2, 3, 4, 5, 6] rfl)
          · rw [if_neg c50] at hr
            refine v_iload_n C (lv_at hl 3 rfl) rfl dX12_feed_53 ?_
            refine v_goto C 71 (by decide) dX12_feed_54 ?_
            exact b_X12_feed_71 C kR (@ih) hr _ (lv_sub hl [0, 1, 2, 3, 4, 5, 6] rfl)
        · rw [if_neg c39] at hr
          refine v_iload_n C (lv_at hl 2 rfl) rfl dX12_feed_42 ?_
          refine v_goto C 71 (by decide) dX12_feed_43 ?_
          exact b_X12_feed_71 C kR (@ih) hr _ (lv_sub hl [0, 1, 2, 3, 4, 5, 6] rfl)
      · rw [if_neg c28] at hr
        refine v_iload_n C (lv_at hl 1 rfl) rfl dX12_feed_31 ?_
        refine v_goto C 71 (by decide) dX12_feed_32 ?_
        exact b_X12_feed_71 C kR (@ih) hr _ (lv_sub hl [0, 1, 2, 3, 4, 5, 6] rfl)
theorem k_X12_feed {l : Launch} {G : Ge} {S S' : St} {x0 : Nat} {x1 : Int32} {x2 : Int32} {x3 : Int32} {x4 : Int32} {x5 : Int32} {rr : Int32} (hr : f_X12_feed S x0 x1 x2 x3 x4 x5 = some (rr, S')) : Ct l G yX12_feed cX12_feed 8 (Option.some Jvm.ClassFile.FieldType.int) S [va_rf (some x0), .int x1, .int x2, .int x3, .int x4, .int x5] (some (.int rr)) S' 0 0 := by
  refine ct_of (by decide +kernel) (Nat.le_of_ble_eq_true rfl) ?_
  intro p e s m args below meth c C ls hl
  have hl : lv_has ls 8 [(0, va_rf (some x0)), (1, .int x1), (2, .int x2), (3, .int x3), (4, .int x4), (5, .int x5)] := hl
  unfold f_X12_feed at hr
  refine v_aload_n C (lv_at hl 0 rfl) rfl dX12_feed_0 ?_
  obtain ⟨v1, e1, hr⟩ := ob hr
  refine v_getI C fl_RX12_259 rfl e1 dX12_feed_1 ?_
  refine v_bipush C 20 (by decide) dX12_feed_4 ?_
  refine v_iadd C dX12_feed_6 ?_
  refine v_sipush C 600 (by decide) dX12_feed_7 ?_
  refine v_icmp_le C 15 (by decide) dX12_feed_10 (fun c10 => ?_) (fun c10 => ?_)
  · rw [if_pos c10] at hr
    refine v_iconst C 0 (by decide) dX12_feed_15 ?_
    refine v_istore C (i := 6) (lv' := [(6, .int 0), (0, va_rf (some x0)), (1, .int x1), (2, .int x2), (3, .int x3), (4, .int x4), (5, .int x5)]) hl (by decide) rfl dX12_feed_16 (fun ls hl => ?_)
    exact b_X12_feed_18 C (fun _ _ q => by cases q; exact ⟨rfl, rfl⟩) FU hr _ (lv_sub hl [1, 2, 3, 4, 5, 6, 0] rfl)
  · rw [if_neg c10] at hr
    refine v_iconst C (-1) (by decide) dX12_feed_13 ?_
    obtain ⟨rfl, rfl⟩ := Prod.mk.inj (os hr)
    exact v_iret C dX12_feed_14
-- X12_figure
def f_X12_figure (S : St) (x0 : Nat) (x1 : Int32) (x2 : Int32) (x3 : Int32) : Option (Int32 × St) :=
    (rcv S (some x0) 13).bind fun b2 =>
    (f_X12_isFirm S b2 x1).bind fun v2 =>
    (if v2 = 0 then
    some (0, S)
    else
    (f_X12_isIn S x2 0 19).bind fun v12 =>
    (if v12 = 0 then
    some (0, S)
    else
    (f_X12_isIn S x3 (-1) 999999).bind fun v23 =>
    (if v23 = 0 then
    some (0, S)
    else
    (getR S (some x0) 13 77).bind fun v32 =>
    (stI S v32 15 ((20 * x1) + x2) x3).bind fun S42 =>
    some (1, S42))))
theorem k_X12_figure {l : Launch} {G : Ge} {S S' : St} {x0 : Nat} {x1 : Int32} {x2 : Int32} {x3 : Int32} {rr : Int32} (hr : f_X12_figure S x0 x1 x2 x3 = some (rr, S')) : Ct l G yX12_figure cX12_figure 4 (Option.some Jvm.ClassFile.FieldType.boolean) S [va_rf (some x0), .int x1, .int x2, .int x3] (some (.int rr)) S' 2 43 := by
  refine ct_of (by decide +kernel) (Nat.le_of_ble_eq_true rfl) ?_
  intro p e s m args below meth c C ls hl
  have hl : lv_has ls 4 [(0, va_rf (some x0)), (1, .int x1), (2, .int x2), (3, .int x3)] := hl
  unfold f_X12_figure at hr
  refine v_aload_n C (lv_at hl 0 rfl) rfl dX12_figure_0 ?_
  refine v_iload_n C (lv_at hl 1 rfl) rfl dX12_figure_1 ?_
  obtain ⟨b2, f2, hr⟩ := ob hr
  obtain ⟨g2, h2⟩ := rcv_n f2
  obtain ⟨v2, e2, hr⟩ := ob hr
  refine v_callV C (b := b2) h2 (by decide) rfl rfl (k_X12_isFirm e2) cw_X12_isFirm w_1569 w_1571 w_52 (show (parseMethodDescriptor (yX12_isFirm).desc).map (fun d => d.parameters.length) = some 1 by decide +kernel) ⟨by decide, by decide⟩ (rest := []) (stk2 := [.int v2]) (by rw [g2]; rfl) rfl (Nat.le_of_ble_eq_true rfl) hl dX12_figure_2 ?_
  refine v_if_eq C 29 (by decide) dX12_figure_5 (fun c5 => ?_) (fun c5 => ?_)
  · rw [if_pos c5] at hr
    refine v_iconst C 0 (by decide) dX12_figure_29 ?_
    obtain ⟨rfl, rfl⟩ := Prod.mk.inj (os hr)
    exact v_zret C rfl dX12_figure_30
  · rw [if_neg c5] at hr
    refine v_iload_n C (lv_at hl 2 rfl) rfl dX12_figure_8 ?_
    refine v_iconst C 0 (by decide) dX12_figure_9 ?_
    refine v_bipush C 19 (by decide) dX12_figure_10 ?_
    obtain ⟨v12, e12, hr⟩ := ob hr
    refine v_callS C (k_X12_isIn e12) cw_X12_isIn w_1555 w_1556 (show (parseMethodDescriptor (yX12_isIn).desc).map (fun d => d.parameters.length) = some 3 by decide +kernel) ⟨by decide, by decide⟩ (rest := []) (stk2 := [.int v12]) rfl rfl (Nat.le_of_ble_eq_true rfl) hl dX12_figure_12 ?_
    refine v_if_eq C 29 (by decide) dX12_figure_15 (fun c15 => ?_) (fun c15 => ?_)
    · rw [if_pos c15] at hr
      refine v_iconst C 0 (by decide) dX12_figure_29 ?_
      obtain ⟨rfl, rfl⟩ := Prod.mk.inj (os hr)
      exact v_zret C rfl dX12_figure_30
    · rw [if_neg c15] at hr
      refine v_iload_n C (lv_at hl 3 rfl) rfl dX12_figure_18 ?_
      refine v_iconst C (-1) (by decide) dX12_figure_19 ?_
      refine v_ldcw C w_1902 dX12_figure_20 ?_
      obtain ⟨v23, e23, hr⟩ := ob hr
      refine v_callS C (k_X12_isIn e23) cw_X12_isIn w_1555 w_1556 (show (parseMethodDescriptor (yX12_isIn).desc).map (fun d => d.parameters.length) = some 3 by decide +kernel) ⟨by decide, by decide⟩ (rest := []) (stk2 := [.int v23]) rfl rfl (Nat.le_of_ble_eq_true rfl) hl dX12_figure_23 ?_
      refine v_if_ne C 31 (by decide) dX12_figure_26 (fun c26 => ?_) (fun c26 => ?_)
      · rw [if_neg c26] at hr
        refine v_aload_n C (lv_at hl 0 rfl) rfl dX12_figure_31 ?_
        obtain ⟨v32, e32, hr⟩ := ob hr
        refine v_getR C fl_RX12_181 rfl e32 dX12_figure_32 ?_
        refine v_bipush C 20 (by decide) dX12_figure_35 ?_
        refine v_iload_n C (lv_at hl 1 rfl) rfl dX12_figure_37 ?_
        refine v_imul C dX12_figure_38 ?_
        refine v_iload_n C (lv_at hl 2 rfl) rfl dX12_figure_39 ?_
        refine v_iadd C dX12_figure_40 ?_
        refine v_iload_n C (lv_at hl 3 rfl) rfl dX12_figure_41 ?_
        obtain ⟨S42, e42, hr⟩ := ob hr
        refine v_stI_i C e42 dX12_figure_42 ?_
        refine v_iconst C 1 (by decide) dX12_figure_43 ?_
        obtain ⟨rfl, rfl⟩ := Prod.mk.inj (os hr)
        exact v_zret C rfl dX12_figure_44
      · rw [if_pos c26] at hr
        refine v_iconst C 0 (by decide) dX12_figure_29 ?_
        obtain ⟨rfl, rfl⟩ := Prod.mk.inj (os hr)
        exact v_zret C rfl dX12_figure_30
-- X12_isState
def f_X12_isState (S : St) (x0 : Int32) : Option Int32 :=
    (f_X12_isIn S x0 0 3).bind fun v3 =>
    (zchk v3).bind fun z6 =>
    some z6
theorem k_X12_isState {l : Launch} {G : Ge} {S : St} {x0 : Int32} {rr : Int32} (hr : f_X12_isState S x0 = some rr) : Ct l G yX12_isState cX12_isState 1 (Option.some Jvm.ClassFile.FieldType.boolean) S [.int x0] (some (.int rr)) S 1 22 := by
  refine ct_of (by decide +kernel) (Nat.le_of_ble_eq_true rfl) ?_
  intro p e s m args below meth c C ls hl
  have hl : lv_has ls 1 [(0, .int x0)] := hl
  unfold f_X12_isState at hr
  refine v_iload_n C (lv_at hl 0 rfl) rfl dX12_isState_0 ?_
  refine v_iconst C 0 (by decide) dX12_isState_1 ?_
  refine v_iconst C 3 (by decide) dX12_isState_2 ?_
  obtain ⟨v3, e3, hr⟩ := ob hr
  refine v_callS C (k_X12_isIn e3) cw_X12_isIn w_1555 w_1556 (show (parseMethodDescriptor (yX12_isIn).desc).map (fun d => d.parameters.length) = some 3 by decide +kernel) ⟨by decide, by decide⟩ (rest := []) (stk2 := [.int v3]) rfl rfl (Nat.le_of_ble_eq_true rfl) hl dX12_isState_3 ?_
  obtain ⟨z6, e6, hr⟩ := ob hr
  obtain ⟨y6, n6⟩ := zchk_n e6
  obtain rfl := os hr
  rw [← y6]
  exact v_zret C n6 dX12_isState_6
end Mth
