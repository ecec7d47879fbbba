section Mth
variable {p : Program} {l : Launch} {e : Env} {s : State} {m : MethodId} {args : Array Value} {below : List Frame} {meth : Method} {c : Code} {G : Ge}
-- X1_chosenSet
def f_X1_chosenSet (S : St) (x0 : Nat) : Option Int32 :=
    (rcv S (some x0) 2).bind fun b1 =>
    (f_X1_takenOff S b1).bind fun v1 =>
    some (Int64.toInt32 (v1 &&& 1048575))
theorem k_X1_chosenSet {l : Launch} {G : Ge} {S : St} {x0 : Nat} {rr : Int32} (hr : f_X1_chosenSet S x0 = some rr) : Ct l G yX1_chosenSet cX1_chosenSet 1 (Option.some Jvm.ClassFile.FieldType.int) S [va_rf (some x0)] (some (.int rr)) S 2 40 := by
  refine ct_of (by decide +kernel) (Nat.le_of_ble_eq_true rfl) ?_
  intro p e s m args below meth c C ls hl
  have hl : lv_has ls 1 [(0, va_rf (some x0))] := hl
  unfold f_X1_chosenSet at hr
  refine v_aload_n C (lv_at hl 0 rfl) rfl dX1_chosenSet_0 ?_
  obtain ⟨b1, f1, hr⟩ := ob hr
  obtain ⟨g1, h1⟩ := rcv_n f1
  obtain ⟨v1, e1, hr⟩ := ob hr
  refine v_callV C (b := b1) h1 (by decide) rfl rfl (k_X1_takenOff e1) cw_X1_takenOff w_1265 w_1267 w_47 (show (parseMethodDescriptor (yX1_takenOff).desc).map (fun d => d.parameters.length) = some 0 by decide +kernel) ⟨by decide, by decide⟩ (rest := []) (stk2 := [.long v1]) (by rw [g1]; rfl) rfl (Nat.le_of_ble_eq_true rfl) hl dX1_chosenSet_1 ?_
  refine v_ldc2 C w_1274 dX1_chosenSet_4 ?_
  refine v_land C dX1_chosenSet_7 ?_
  refine v_l2i C dX1_chosenSet_8 ?_
  obtain rfl := os hr
  exact v_iret C dX1_chosenSet_9
-- X11_looks
def f_X11_looks (S : St) (x0 : Nat) (x1 : Int32) (x2 : Int32) (x3 : Int32) (x4 : Int32) : Option (Int32 × St) :=
    (rcv S (some x0) 12).bind fun b2 =>
    (f_X11_firmAt S b2 x1).bind fun v2 =>
    (if v2 = none then
    some ((-1), S)
    else
    (f_X11_isWithin S x2 21).bind fun v15 =>
    (if v15 = 0 then
    some ((-1), S)
    else
    (f_X11_isWithin S x3 1000).bind fun v25 =>
    (if v25 = 0 then
    some ((-1), S)
    else
    (getR S (some x0) 12 15).bind fun v34 =>
    (getR S (some x0) 12 14).bind fun v40 =>
    (rcv S v34 2).bind fun b45 =>
    (f_X1_choose S b45 v2 v40 x2 x3).bind fun S45 =>
    (if x4 = 0 then
    (getR S45 (some x0) 12 15).bind fun v77 =>
    (rcv S45 v77 2).bind fun b80 =>
    (f_X1_chosenSet S45 b80).bind fun v80 =>
    some (v80, S45)
    else
    (if x4 = 1 then
    (getR S45 (some x0) 12 15).bind fun v85 =>
    (rcv S45 v85 2).bind fun b88 =>
    (f_X1_chosenGain S45 b88).bind fun v88 =>
    some (v88, S45)
    else
    (if x4 = 2 then
    (getR S45 (some x0) 12 15).bind fun v93 =>
    (rcv S45 v93 2).bind fun b96 =>
    (f_X1_chosenCost S45 b96).bind fun v96 =>
    some (v96, S45)
    else
    some ((-1), S45)))))))
theorem k_X11_looks {l : Launch} {G : Ge} {S S' : St} {x0 : Nat} {x1 : Int32} {x2 : Int32} {x3 : Int32} {x4 : Int32} {rr : Int32} (hr : f_X11_looks S x0 x1 x2 x3 x4 = some (rr, S')) : Ct l G yX11_looks cX11_looks 6 (Option.some Jvm.ClassFile.FieldType.int) S [va_rf (some x0), .int x1, .int x2, .int x3, .int x4] (some (.int rr)) S' 35 874 := by
  refine ct_of (by decide +kernel) (Nat.le_of_ble_eq_true rfl) ?_
  intro p e s m args below meth c C ls hl
  have hl : lv_has ls 6 [(0, va_rf (some x0)), (1, .int x1), (2, .int x2), (3, .int x3), (4, .int x4)] := hl
  unfold f_X11_looks at hr
  refine v_aload_n C (lv_at hl 0 rfl) rfl dX11_looks_0 ?_
  refine v_iload_n C (lv_at hl 1 rfl) rfl dX11_looks_1 ?_
  obtain ⟨b2, f2, hr⟩ := ob hr
  obtain ⟨g2, h2⟩ := rcv_n f2
  obtain ⟨v2, e2, hr⟩ := ob hr
  refine v_callV C (b := b2) h2 (by decide) rfl rfl (k_X11_firmAt e2) cw_X11_firmAt w_445 w_447 w_3 (show (parseMethodDescriptor (yX11_firmAt).desc).map (fun d => d.parameters.length) = some 1 by decide +kernel) ⟨by decide, by decide⟩ (rest := []) (stk2 := [va_rf v2]) (by rw [g2]; rfl) rfl (Nat.le_of_ble_eq_true rfl) hl dX11_looks_2 ?_
  refine v_astore C (i := 5) (lv' := [(5, va_rf v2), (0, va_rf (some x0)), (1, .int x1), (2, .int x2), (3, .int x3), (4, .int x4)]) hl (by decide) rfl dX11_looks_5 (fun ls hl => ?_)
  refine v_aload C (lv_at hl 0 rfl) dX11_looks_7 ?_
  refine v_ifnull C 31 (by decide) dX11_looks_9 (fun c9 => ?_) (fun c9 => ?_)
  · rw [if_pos c9] at hr
    refine v_iconst C (-1) (by decide) dX11_looks_31 ?_
    obtain ⟨rfl, rfl⟩ := Prod.mk.inj (os hr)
    exact v_iret C dX11_looks_32
  · rw [if_neg c9] at hr
    refine v_iload_n C (lv_at hl 3 rfl) rfl dX11_looks_12 ?_
    refine v_bipush C 21 (by decide) dX11_looks_13 ?_
    obtain ⟨v15, e15, hr⟩ := ob hr
    refine v_callS C (k_X11_isWithin e15) cw_X11_isWithin w_349 w_350 (show (parseMethodDescriptor (yX11_isWithin).desc).map (fun d => d.parameters.length) = some 2 by decide +kernel) ⟨by decide, by decide⟩ (rest := []) (stk2 := [.int v15]) rfl rfl (Nat.le_of_ble_eq_true rfl) hl dX11_looks_15 ?_
    refine v_if_eq C 31 (by decide) dX11_looks_18 (fun c18 => ?_) (fun c18 => ?_)
    · rw [if_pos c18] at hr
      refine v_iconst C (-1) (by decide) dX11_looks_31 ?_
      obtain ⟨rfl, rfl⟩ := Prod.mk.inj (os hr)
      exact v_iret C dX11_looks_32
    · rw [if_neg c18] at hr
      refine v_iload_n C (lv_at hl 4 rfl) rfl dX11_looks_21 ?_
      refine v_sipush C 1000 (by decide) dX11_looks_22 ?_
      obtain ⟨v25, e25, hr⟩ := ob hr
      refine v_callS C (k_X11_isWithin e25) cw_X11_isWithin w_349 w_350 (show (parseMethodDescriptor (yX11_isWithin).desc).map (fun d => d.parameters.length) = some 2 by decide +kernel) ⟨by decide, by decide⟩ (rest := []) (stk2 := [.int v25]) rfl rfl (Nat.le_of_ble_eq_true rfl) hl dX11_looks_25 ?_
      refine v_if_ne C 33 (by decide) dX11_looks_28 (fun c28 => ?_) (fun c28 => ?_)
      · rw [if_neg c28] at hr
        refine v_aload_n C (lv_at hl 1 rfl) rfl dX11_looks_33 ?_
        obtain ⟨v34, e34, hr⟩ := ob hr
        refine v_getR C fl_RX11_79 rfl e34 dX11_looks_34 ?_
        refine v_aload C (lv_at hl 0 rfl) dX11_looks_37 ?_
        refine v_aload_n C (lv_at hl 1 rfl) rfl dX11_looks_39 ?_
        obtain ⟨v40, e40, hr⟩ := ob hr
        refine v_getR C fl_RX11_72 rfl e40 dX11_looks_40 ?_
        refine v_iload_n C (lv_at hl 3 rfl) rfl dX11_looks_43 ?_
        refine v_iload_n C (lv_at hl 4 rfl) rfl dX11_looks_44 ?_
        obtain ⟨b45, f45, hr⟩ := ob hr
        obtain ⟨g45, h45⟩ := rcv_n f45
        obtain ⟨S45, e45, hr⟩ := ob hr
        refine v_callV C (b := b45) h45 (by decide) rfl rfl (k_X1_choose e45) cw_X1_choose w_1237 w_1238 w_1239 (show (parseMethodDescriptor (yX1_choose).desc).map (fun d => d.parameters.length) = some 4 by decide +kernel) ⟨by decide, by decide⟩ (rest := []) (stk2 := []) (by rw [g45]; rfl) rfl (Nat.le_of_ble_eq_true rfl) hl dX11_looks_45 ?_
        refine v_iload C (lv_at hl 5 rfl) dX11_looks_48 ?_
        by_cases q50_0 : x4 = 0
        · rw [if_pos q50_0] at hr
          refine v_tableIn C (off := 26) 76 (by rw [q50_0]; decide) (by rw [q50_0]; decide) (by rw [q50_0]; decide) (by decide) dX11_looks_50 ?_
          refine v_aload_n C (lv_at hl 1 rfl) rfl dX11_looks_76 ?_
          obtain ⟨v77, e77, hr⟩ := ob hr
          refine v_getR C fl_RX11_79 rfl e77 dX11_looks_77 ?_
          obtain ⟨b80, f80, hr⟩ := ob hr
          obtain ⟨g80, h80⟩ := rcv_n f80
          obtain ⟨v80, e80, hr⟩ := ob hr
          refine v_callV C (b := b80) h80 (by decide) rfl rfl (k_X1_chosenSet e80) cw_X1_chosenSet w_1261 w_1262 w_1263 (show (parseMethodDescriptor (yX1_chosenSet).desc).map (fun d => d.parameters.length) = some 0 by decide +kernel) ⟨by decide, by decide⟩ (rest := []) (stk2 := [.int v80]) (by rw [g80]; rfl) rfl (Nat.le_of_ble_eq_true rfl) hl dX11_looks_80 ?_
          obtain ⟨rfl, rfl⟩ := Prod.mk.inj (os hr)
          exact v_iret C dX11_looks_83
        rw [if_neg q50_0] at hr
        by_cases q50_1 : x4 = 1
        · rw [if_pos q50_1] at hr
          refine v_tableIn C (off := 34) 84 (by rw [q50_1]; decide) (by rw [q50_1]; decide) (by rw [q50_1]; decide) (by decide) dX11_looks_50 ?_
          refine v_aload_n C (lv_at hl 1 rfl) rfl dX11_looks_84 ?_
          obtain ⟨v85, e85, hr⟩ := ob hr
          refine v_getR C fl_RX11_79 rfl e85 dX11_looks_85 ?_
          obtain ⟨b88, f88, hr⟩ := ob hr
          obtain ⟨g88, h88⟩ := rcv_n f88
          obtain ⟨v88, e88, hr⟩ := ob hr
          refine v_callV C (b := b88) h88 (by decide) rfl rfl (k_X1_chosenGain e88) cw_X1_chosenGain w_1275 w_1270 w_1271 (show (parseMethodDescriptor (yX1_chosenGain).desc).map (fun d => d.parameters.length) = some 0 by decide +kernel) ⟨by decide, by decide⟩ (rest := []) (stk2 := [.int v88]) (by rw [g88]; rfl) rfl (Nat.le_of_ble_eq_true rfl) hl dX11_looks_88 ?_
          obtain ⟨rfl, rfl⟩ := Prod.mk.inj (os hr)
          exact v_iret C dX11_looks_91
        rw [if_neg q50_1] at hr
        by_cases q50_2 : x4 = 2
        · rw [if_pos q50_2] at hr
          refine v_tableIn C (off := 42) 92 (by rw [q50_2]; decide) (by rw [q50_2]; decide) (by rw [q50_2]; decide) (by decide) dX11_looks_50 ?_
          refine v_aload_n C (lv_at hl 1 rfl) rfl dX11_looks_92 ?_
          obtain ⟨v93, e93, hr⟩ := ob hr
          refine v_getR C fl_RX11_79 rfl e93 dX11_looks_93 ?_
          obtain ⟨b96, f96, hr⟩ := ob hr
          obtain ⟨g96, h96⟩ := rcv_n f96
          obtain ⟨v96, e96, hr⟩ := ob hr
          refine v_callV C (b := b96) h96 (by decide) rfl rfl (k_X1_chosenCost e96) cw_X1_chosenCost w_1276 w_1277 w_1278 (show (parseMethodDescriptor (yX1_chosenCost).desc).map (fun d => d.parameters.length) = some 0 by decide +kernel) ⟨by decide, by decide⟩ (rest := []) (stk2 := [.int v96]) (by rw [g96]; rfl) rfl (Nat.le_of_ble_eq_true rfl) hl dX11_looks_96 ?_
          obtain ⟨rfl, rfl⟩ := Prod.mk.inj (os hr)
          exact v_iret C dX11_looks_99
        rw [if_neg q50_2] at hr
        have kd50 : V p l e (rmo 35 874 S) s m args below meth c G S S45 (QM below args s G S S' (some (.int rr))) (F0 m 100 ls []) := by
          refine v_iconst C (-1) (by decide) dX11_looks_100 ?_
          obtain ⟨rfl, rfl⟩ := Prod.mk.inj (os hr)
          exact v_iret C dX11_looks_101
        have z0 := lv_neT q50_0 (a := 0) (by decide)
        have z1 := lv_neT q50_1 (a := 1) (by decide)
        have z2 := lv_neT q50_2 (a := 2) (by decide)
        exact v_tableOut C 100 (by omega) (by decide) dX11_looks_50 kd50
      · rw [if_pos c28] at hr
        refine v_iconst C (-1) (by decide) dX11_looks_31 ?_
        obtain ⟨rfl, rfl⟩ := Prod.mk.inj (os hr)
        exact v_iret C dX11_looks_32
-- X11_tookOneSince
def f_X11_tookOneSince_2 : Nat → St → Nat → (Option Nat) → Int32 → Int32 → Option (Int32)
  | 0, _, _, _, _, _ => none
  | n + 1, S, x0, x1, x2, x3 =>
    (getR S (some x0) 12 1).bind fun v4 =>
    (rcv S v4 0).bind fun b7 =>
    (f_Jx4a65c_size_8abf5 S b7).bind fun v7 =>
    (if v7 ≤ x3 then
    some 0
    else
    (getR S (some x0) 12 1).bind fun v14 =>
    (rcv S v14 0).bind fun b18 =>
    (f_Jx4a65c_get_915e3 S b18 x3).bind fun v18 =>
    (castO S v18 5).bind fun v21 =>
    (getR S v21 5 2).bind fun v28 =>
    (if v28 = x1 then
    (getI S v21 5 3).bind fun v37 =>
    (if v37 < x2 then
    f_X11_tookOneSince_2 n S x0 x1 x2 (x3 + 1)
    else
    some 1)
    else
    f_X11_tookOneSince_2 n S x0 x1 x2 (x3 + 1)))
def f_X11_tookOneSince (S : St) (x0 : Nat) (x1 : Option Nat) (x2 : Int32) : Option Int32 :=
    f_X11_tookOneSince_2 FU S x0 x1 x2 0
theorem b_X11_tookOneSince_2  {S : St} {rr : Int32} (C : Cx p s m args meth c G S yX11_tookOneSince cX11_tookOneSince 5 (Option.some Jvm.ClassFile.FieldType.boolean)) {o : (Int32)} (kR : ∀ (v : Int32), o = v → rr = v) : ∀ (n : Nat) {x0 : Nat} {x1 : Option Nat} {x2 : Int32} {x3 : Int32}, f_X11_tookOneSince_2 n S x0 x1 x2 x3 = some o → ∀ ls : Array Slot, lv_has ls 5 [(0, va_rf (some x0)), (1, va_rf x1), (2, .int x2), (3, .int x3)] → V p l e (rmo 3 64 S) s m args below meth c G S S (QM below args s G S S (some (.int rr))) (F0 m 2 ls []) := by
  intro n
  induction n with
  | zero => intro x0 x1 x2 x3 hr; cases hr
  | succ n ih =>
    intro x0 x1 x2 x3 hr ls hl
    unfold f_X11_tookOneSince_2 at hr
    refine v_iload_n C (lv_at hl 3 rfl) rfl dX11_tookOneSince_2 ?_
    refine v_aload_n C (lv_at hl 0 rfl) rfl dX11_tookOneSince_3 ?_
    obtain ⟨v4, e4, hr⟩ := ob hr
    refine v_getR C fl_RX11_16 rfl e4 dX11_tookOneSince_4 ?_
    obtain ⟨b7, f7, hr⟩ := ob hr
    obtain ⟨g7, h7⟩ := rcv_n f7
    obtain ⟨v7, e7, hr⟩ := ob hr
    refine v_callV C (b := b7) h7 (by decide) rfl rfl (k_Jx4a65c_size_8abf5 e7) cw_Jx4a65c_size_8abf5 w_352 w_353 w_354 (show (parseMethodDescriptor (yJx4a65c_size_8abf5).desc).map (fun d => d.parameters.length) = some 0 by decide +kernel) ⟨by decide, by decide⟩ (rest := [.int x3]) (stk2 := [.int v7, .int x3]) (by rw [g7]; rfl) rfl (Nat.le_of_ble_eq_true rfl) hl dX11_tookOneSince_7 ?_
    refine v_icmp_ge C 52 (by decide) dX11_tookOneSince_10 (fun c10 => ?_) (fun c10 => ?_)
    · rw [if_pos c10] at hr
      refine v_iconst C 0 (by decide) dX11_tookOneSince_52 ?_
      obtain rfl := os hr
      obtain rfl := kR _ rfl
      exact v_zret C rfl dX11_tookOneSince_53
    · rw [if_neg c10] at hr
      refine v_aload_n C (lv_at hl 0 rfl) rfl dX11_tookOneSince_13 ?_
      obtain ⟨v14, e14, hr⟩ := ob hr
      refine v_getR C fl_RX11_16 rfl e14 dX11_tookOneSince_14 ?_
      refine v_iload_n C (lv_at hl 3 rfl) rfl dX11_tookOneSince_17 ?_
      obtain ⟨b18, f18, hr⟩ := ob hr
      obtain ⟨g18, h18⟩ := rcv_n f18
      obtain ⟨v18, e18, hr⟩ := ob hr
      refine v_callV C (b := b18) h18 (by decide) rfl rfl (k_Jx4a65c_get_915e3 e18) cw_Jx4a65c_get_915e3 w_449 w_450 w_451 (show (parseMethodDescriptor (yJx4a65c_get_915e3).desc).map (fun d => d.parameters.length) = some 1 by decide +kernel) ⟨by decide, by decide⟩ (rest := []) (stk2 := [va_rf v18]) (by rw [g18]; rfl) rfl (Nat.le_of_ble_eq_true rfl) hl dX11_tookOneSince_18 ?_
      obtain ⟨v21, e21, hr⟩ := ob hr
      refine v_cast C e21 (by decide) rfl w_356 dX11_tookOneSince_21 ?_
      refine v_astore C (i := 4) (lv' := [(4, va_rf v21), (0, va_rf (some x0)), (1, va_rf x1), (2, .int x2), (3, .int x3)]) hl (by decide) rfl dX11_tookOneSince_24 (fun ls hl => ?_)
      refine v_aload C (lv_at hl 0 rfl) dX11_tookOneSince_26 ?_
      obtain ⟨v28, e28, hr⟩ := ob hr
      refine v_getR C fl_RX11_111 rfl e28 dX11_tookOneSince_28 ?_
      refine v_aload_n C (lv_at hl 2 rfl) rfl dX11_tookOneSince_31 ?_
      refine v_acmp_ne C 46 (by decide) dX11_tookOneSince_32 (fun c32 => ?_) (fun c32 => ?_)
      · rw [if_neg c32] at hr
        refine v_iinc C (x3 + 1) (k0 := 4) (lv' := [(3, .int (x3 + 1)), (4, va_rf v21), (0, va_rf (some x0)), (1, va_rf x1), (2, .int x2)]) hl rfl rfl (by decide) rfl dX11_tookOneSince_46 (fun ls hl => ?_)
        refine v_goto C 2 (by decide) dX11_tookOneSince_49 ?_
        exact ih hr _ (lv_sub hl [2, 3, 4, 0] rfl)
      · rw [if_pos c32] at hr
        refine v_aload C (lv_at hl 0 rfl) dX11_tookOneSince_35 ?_
        obtain ⟨v37, e37, hr⟩ := ob hr
        refine v_getI C fl_RX11_122 rfl e37 dX11_tookOneSince_37 ?_
        refine v_iload_n C (lv_at hl 3 rfl) rfl dX11_tookOneSince_40 ?_
        refine v_icmp_lt C 46 (by decide) dX11_tookOneSince_41 (fun c41 => ?_) (fun c41 => ?_)
        · rw [if_pos c41] at hr
          refine v_iinc C (x3 + 1) (k0 := 4) (lv' := [(3, .int (x3 + 1)), (4, va_rf v21), (0, va_rf (some x0)), (1, va_rf x1), (2, .int x2)]) hl rfl rfl (by decide) rfl dX11_tookOneSince_46 (fun ls hl => ?_)
          refine v_goto C 2 (by decide) dX11_tookOneSince_49 ?_
          exact ih hr _ (lv_sub hl [2, 3, 4, 0] rfl)
        · rw [if_neg c41] at hr
          refine v_iconst C 1 (by decide) dX11_tookOneSince_44 ?_
          obtain rfl := os hr
          obtain rfl := kR _ rfl
          exact v_zret C rfl dX11_tookOneSince_45
theorem k_X11_tookOneSince {l : Launch} {G : Ge} {S : St} {x0 : Nat} {x1 : Option Nat} {x2 : Int32} {rr : Int32} (hr : f_X11_tookOneSince S x0 x1 x2 = some rr) : Ct l G yX11_tookOneSince cX11_tookOneSince 5 (Option.some Jvm.ClassFile.FieldType.boolean) S [va_rf (some x0), va_rf x1, .int x2] (some (.int rr)) S 3 64 := by
  refine ct_of (by decide +kernel) (by cases x1 <;> exact Nat.le_of_ble_eq_true rfl) ?_
  intro p e s m args below meth c C ls hl
  have hl : lv_has ls 5 [(0, va_rf (some x0)), (1, va_rf x1), (2, .int x2)] := by clear hr; cases x1 <;> exact hl
  unfold f_X11_tookOneSince at hr
  refine v_iconst C 0 (by decide) dX11_tookOneSince_0 ?_
  refine v_istore_n C (i := 3) (lv' := [(3, .int 0), (0, va_rf (some x0)), (1, va_rf x1), (2, .int x2)]) hl rfl (by decide) rfl dX11_tookOneSince_1 (fun ls hl => ?_)
  exact b_X11_tookOneSince_2 C (fun _ q => by cases q; rfl) FU hr _ (lv_sub hl [1, 2, 3, 0] rfl)
-- X11_merge
def f_X11_merge (S : St) (x0 : Nat) (x1 : Int32) (x2 : Int32) (x3 : Int32) : Option (Int32 × St) :=
    (rcv S (some x0) 12).bind fun b2 =>
    (f_X11_firmAt S b2 x1).bind fun v2 =>
    (rcv S (some x0) 12).bind fun b9 =>
    (f_X11_firmAt S b9 x2).bind fun v9 =>
    (if v2 = none then
    some (0, S)
    else
    (if v9 = none then
    some (0, S)
    else
    (if v2 = v9 then
    some (0, S)
    else
    (rcv S (some x0) 12).bind fun b33 =>
    (f_X11_isPast S b33 x3).bind fun v33 =>
    (if v33 = 0 then
    some (0, S)
    else
    (getR S v2 5 2).bind fun v43 =>
    (if v43 = none then
    (rcv S v9 5).bind fun b52 =>
    (f_X4_isMergedBy S b52 x3).bind fun v52 =>
    (if v52 = 0 then
    (rcv S (some x0) 12).bind fun b62 =>
    (f_X11_tookOneSince S b62 v2 x3).bind fun v62 =>
    (if v62 = 0 then
    (putR S v2 5 2 v9).bind fun S74 =>
    (putI S74 v2 5 3 x3).bind fun S80 =>
    some (1, S80)
    else
    some (0, S))
    else
    some (0, S))
    else
    some (0, S))))))
theorem k_X11_merge {l : Launch} {G : Ge} {S S' : St} {x0 : Nat} {x1 : Int32} {x2 : Int32} {x3 : Int32} {rr : Int32} (hr : f_X11_merge S x0 x1 x2 x3 = some (rr, S')) : Ct l G yX11_merge cX11_merge 6 (Option.some Jvm.ClassFile.FieldType.boolean) S [va_rf (some x0), .int x1, .int x2, .int x3] (some (.int rr)) S' 4 88 := by
  refine ct_of (by decide +kernel) (Nat.le_of_ble_eq_true rfl) ?_
  intro p e s m args below meth c C ls hl
  have hl : lv_has ls 6 [(0, va_rf (some x0)), (1, .int x1), (2, .int x2), (3, .int x3)] := hl
  unfold f_X11_merge at hr
  refine v_aload_n C (lv_at hl 0 rfl) rfl dX11_merge_0 ?_
  refine v_iload_n C (lv_at hl 1 rfl) rfl dX11_merge_1 ?_
  obtain ⟨b2, f2, hr⟩ := ob hr
  obtain ⟨g2, h2⟩ := rcv_n f2
  obtain ⟨v2, e2, hr⟩ := ob hr
  refine v_callV C (b := b2) h2 (by decide) rfl rfl (k_X11_firmAt e2) cw_X11_firmAt w_445 w_447 w_3 (show (parseMethodDescriptor (yX11_firmAt).desc).map (fun d => d.parameters.length) = some 1 by decide +kernel) ⟨by decide, by decide⟩ (rest := []) (stk2 := [va_rf v2]) (by rw [g2]; rfl) rfl (Nat.le_of_ble_eq_true rfl) hl dX11_merge_2 ?_
  refine v_astore C (i := 4) (lv' := [(4, va_rf v2), (0, va_rf (some x0)), (1, .int x1), (2, .int x2), (3, .int x3)]) hl (by decide) rfl dX11_merge_5 (fun ls hl => ?_)
  refine v_aload_n C (lv_at hl 1 rfl) rfl dX11_merge_7 ?_
  refine v_iload_n C (lv_at hl 3 rfl) rfl dX11_merge_8 ?_
  obtain ⟨b9, f9, hr⟩ := ob hr
  obtain ⟨g9, h9⟩ := rcv_n f9
  obtain ⟨v9, e9, hr⟩ := ob hr
  refine v_callV C (b := b9) h9 (by decide) rfl rfl (k_X11_firmAt e9) cw_X11_firmAt w_445 w_447 w_3 (show (parseMethodDescriptor (yX11_firmAt).desc).map (fun d => d.parameters.length) = some 1 by decide +kernel) ⟨by decide, by decide⟩ (rest := []) (stk2 := [va_rf v9]) (by rw [g9]; rfl) rfl (Nat.le_of_ble_eq_true rfl) hl dX11_merge_9 ?_
  refine v_astore C (i := 5) (lv' := [(5, va_rf v9), (4, va_rf v2), (0, va_rf (some x0)), (1, .int x1), (2, .int x2), (3, .int x3)]) hl (by decide) (by simp [rf_n2]) dX11_merge_12 (fun ls hl => ?_)
  refine v_aload C (lv_at hl 1 rfl) dX11_merge_14 ?_
  refine v_ifnull C 39 (by decide) dX11_merge_16 (fun c16 => ?_) (fun c16 => ?_)
  · rw [if_pos c16] at hr
    refine v_iconst C 0 (by decide) dX11_merge_39 ?_
    obtain ⟨rfl, rfl⟩ := Prod.mk.inj (os hr)
    exact v_zret C rfl dX11_merge_40
  · rw [if_neg c16] at hr
    refine v_aload C (lv_at hl 0 rfl) dX11_merge_19 ?_
    refine v_ifnull C 39 (by decide) dX11_merge_21 (fun c21 => ?_) (fun c21 => ?_)
    · rw [if_pos c21] at hr
      refine v_iconst C 0 (by decide) dX11_merge_39 ?_
      obtain ⟨rfl, rfl⟩ := Prod.mk.inj (os hr)
      exact v_zret C rfl dX11_merge_40
    · rw [if_neg c21] at hr
      refine v_aload C (lv_at hl 1 rfl) dX11_merge_24 ?_
      refine v_aload C (lv_at hl 0 rfl) dX11_merge_26 ?_
      refine v_acmp_eq C 39 (by decide) dX11_merge_28 (fun c28 => ?_) (fun c28 => ?_)
      · rw [if_pos c28] at hr
        refine v_iconst C 0 (by decide) dX11_merge_39 ?_
        obtain ⟨rfl, rfl⟩ := Prod.mk.inj (os hr)
        exact v_zret C rfl dX11_merge_40
      · rw [if_neg c28] at hr
        refine v_aload_n C (lv_at hl 2 rfl) rfl dX11_merge_31 ?_
        refine v_iload_n C (lv_at hl 5 rfl) rfl dX11_merge_32 ?_
        obtain ⟨b33, f33, hr⟩ := ob hr
        obtain ⟨g33, h33⟩ := rcv_n f33
        obtain ⟨v33, e33, hr⟩ := ob hr
        refine v_callV C (b := b33) h33 (by decide) rfl rfl (k_X11_isPast e33) cw_X11_isPast w_463 w_465 w_4 (show (parseMethodDescriptor (yX11_isPast).desc).map (fun d => d.parameters.length) = some 1 by decide +kernel) ⟨by decide, by decide⟩ (rest := []) (stk2 := [.int v33]) (by rw [g33]; rfl) rfl (Nat.le_of_ble_eq_true rfl) hl dX11_merge_33 ?_
        refine v_if_ne C 41 (by decide) dX11_merge_36 (fun c36 => ?_) (fun c36 => ?_)
        · rw [if_neg c36] at hr
          refine v_aload C (lv_at hl 1 rfl) dX11_merge_41 ?_
          obtain ⟨v43, e43, hr⟩ := ob hr
          refine v_getR C fl_RX11_111 rfl e43 dX11_merge_43 ?_
          refine v_ifnonnull C 68 (by decide) dX11_merge_46 (fun c46 => ?_) (fun c46 => ?_)
          · rw [if_neg c46] at hr
            refine v_iconst C 0 (by decide) dX11_merge_68 ?_
            obtain ⟨rfl, rfl⟩ := Prod.mk.inj (os hr)
            exact v_zret C rfl dX11_merge_69
          · rw [if_pos c46] at hr
            refine v_aload C (lv_at hl 0 rfl) dX11_merge_49 ?_
            refine v_iload_n C (lv_at hl 5 rfl) rfl dX11_merge_51 ?_
            obtain ⟨b52, f52, hr⟩ := ob hr
            obtain ⟨g52, h52⟩ := rcv_n f52
            obtain ⟨v52, e52, hr⟩ := ob hr
            refine v_callV C (b := b52) h52 (by decide) rfl rfl (k_X4_isMergedBy e52) cw_X4_isMergedBy w_467 w_468 w_469 (show (parseMethodDescriptor (yX4_isMergedBy).desc).map (fun d => d.parameters.length) = some 1 by decide +kernel) ⟨by decide, by decide⟩ (rest := []) (stk2 := [.int v52]) (by rw [g52]; rfl) rfl (Nat.le_of_ble_eq_true rfl) hl dX11_merge_52 ?_
            refine v_if_ne C 68 (by decide) dX11_merge_55 (fun c55 => ?_) (fun c55 => ?_)
            · rw [if_neg c55] at hr
              refine v_iconst C 0 (by decide) dX11_merge_68 ?_
              obtain ⟨rfl, rfl⟩ := Prod.mk.inj (os hr)
              exact v_zret C rfl dX11_merge_69
            · rw [if_pos c55] at hr
              refine v_aload_n C (lv_at hl 2 rfl) rfl dX11_merge_58 ?_
              refine v_aload C (lv_at hl 1 rfl) dX11_merge_59 ?_
              refine v_iload_n C (lv_at hl 5 rfl) rfl dX11_merge_61 ?_
              obtain ⟨b62, f62, hr⟩ := ob hr
              obtain ⟨g62, h62⟩ := rcv_n f62
              obtain ⟨v62, e62, hr⟩ := ob hr
              refine v_callV C (b := b62) h62 (by decide) rfl rfl (k_X11_tookOneSince e62) cw_X11_tookOneSince w_471 w_473 w_5 (show (parseMethodDescriptor (yX11_tookOneSince).desc).map (fun d => d.parameters.length) = some 2 by decide +kernel) ⟨by decide, by decide⟩ (rest := []) (stk2 := [.int v62]) (by rw [g62]; rfl) rfl (Nat.le_of_ble_eq_true rfl) hl dX11_merge_62 ?_
              refine v_if_eq C 70 (by decide) dX11_merge_65 (fun c65 => ?_) (fun c65 => ?_)
              · rw [if_pos c65] at hr
                refine v_aload C (lv_at hl 1 rfl) dX11_merge_70 ?_
                refine v_aload C (lv_at hl 0 rfl) dX11_merge_72 ?_
                obtain ⟨S74, e74, hr⟩ := ob hr
                refine v_putR C fl_RX11_111 (Or.inl rfl) rfl e74 dX11_merge_74 ?_
                refine v_aload C (lv_at hl 1 rfl) dX11_merge_77 ?_
                refine v_iload_n C (lv_at hl 5 rfl) rfl dX11_merge_79 ?_
                obtain ⟨S80, e80, hr⟩ := ob hr
                refine v_putI C fl_RX11_122 (Or.inl rfl) rfl e80 dX11_merge_80 ?_
                refine v_iconst C 1 (by decide) dX11_merge_83 ?_
                obtain ⟨rfl, rfl⟩ := Prod.mk.inj (os hr)
                exact v_zret C rfl dX11_merge_84
              · rw [if_neg c65] at hr
                refine v_iconst C 0 (by decide) dX11_merge_68 ?_
                obtain ⟨rfl, rfl⟩ := Prod.mk.inj (os hr)
                exact v_zret C rfl dX11_merge_69
        · rw [if_pos c36] at hr
          refine v_iconst C 0 (by decide) dX11_merge_39 ?_
          obtain ⟨rfl, rfl⟩ := Prod.mk.inj (os hr)
          exact v_zret C rfl dX11_merge_40
-- X11_moves
def f_X11_moves (S : St) (x0 : Nat) (x1 : Int32) (x2 : Int32) : Option (Int32 × St) :=
    (rcv S (some x0) 12).bind fun b2 =>
    (f_X11_personAt S b2 x1).bind fun v2 =>
    (if v2 = none then
    some (0, S)
    else
    (f_X11_isHome S x2).bind fun v11 =>
    (if v11 = 0 then
    some (0, S)
    else
    (putI S v2 9 5 x2).bind fun S21 =>
    some (1, S21)))
theorem k_X11_moves {l : Launch} {G : Ge} {S S' : St} {x0 : Nat} {x1 : Int32} {x2 : Int32} {rr : Int32} (hr : f_X11_moves S x0 x1 x2 = some (rr, S')) : Ct l G yX11_moves cX11_moves 4 (Option.some Jvm.ClassFile.FieldType.boolean) S [va_rf (some x0), .int x1, .int x2] (some (.int rr)) S' 4 85 := by
  refine ct_of (by decide +kernel) (Nat.le_of_ble_eq_true rfl) ?_
  intro p e s m args below meth c C ls hl
  have hl : lv_has ls 4 [(0, va_rf (some x0)), (1, .int x1), (2, .int x2)] := hl
  unfold f_X11_moves at hr
  refine v_aload_n C (lv_at hl 0 rfl) rfl dX11_moves_0 ?_
  refine v_iload_n C (lv_at hl 1 rfl) rfl dX11_moves_1 ?_
  obtain ⟨b2, f2, hr⟩ := ob hr
  obtain ⟨g2, h2⟩ := rcv_n f2
  obtain ⟨v2, e2, hr⟩ := ob hr
  refine v_callV C (b := b2) h2 (by decide) rfl rfl (k_X11_personAt e2) cw_X11_personAt w_486 w_488 w_6 (show (parseMethodDescriptor (yX11_personAt).desc).map (fun d => d.parameters.length) = some 1 by decide +kernel) ⟨by decide, by decide⟩ (rest := []) (stk2 := [va_rf v2]) (by rw [g2]; rfl) rfl (Nat.le_of_ble_eq_true rfl) hl dX11_moves_2 ?_
  refine v_astore_n C (i := 3) (lv' := [(3, va_rf v2), (0, va_rf (some x0)), (1, .int x1), (2, .int x2)]) hl rfl (by decide) rfl dX11_moves_5 (fun ls hl => ?_)
  refine v_aload_n C (lv_at hl 0 rfl) rfl dX11_moves_6 ?_
  refine v_ifnull C 17 (by decide) dX11_moves_7 (fun c7 => ?_) (fun c7 => ?_)
  · rw [if_pos c7] at hr
    refine v_iconst C 0 (by decide) dX11_moves_17 ?_
    obtain ⟨rfl, rfl⟩ := Prod.mk.inj (os hr)
    exact v_zret C rfl dX11_moves_18
  · rw [if_neg c7] at hr
    refine v_iload_n C (lv_at hl 3 rfl) rfl dX11_moves_10 ?_
    obtain ⟨v11, e11, hr⟩ := ob hr
    refine v_callS C (k_X11_isHome e11) cw_X11_isHome w_491 w_492 (show (parseMethodDescriptor (yX11_isHome).desc).map (fun d => d.parameters.length) = some 1 by decide +kernel) ⟨by decide, by decide⟩ (rest := []) (stk2 := [.int v11]) rfl rfl (Nat.le_of_ble_eq_true rfl) hl dX11_moves_11 ?_
    refine v_if_ne C 19 (by decide) dX11_moves_14 (fun c14 => ?_) (fun c14 => ?_)
    · rw [if_neg c14] at hr
      refine v_aload_n C (lv_at hl 0 rfl) rfl dX11_moves_19 ?_
      refine v_iload_n C (lv_at hl 3 rfl) rfl dX11_moves_20 ?_
      obtain ⟨S21, e21, hr⟩ := ob hr
      refine v_putI C fl_RX11_145 (Or.inl rfl) rfl e21 dX11_moves_21 ?_
      refine v_iconst C 1 (by decide) dX11_moves_24 ?_
      obtain ⟨rfl, rfl⟩ := Prod.mk.inj (os hr)
      exact v_zret C rfl dX11_moves_25
    · rw [if_pos c14] at hr
      refine v_iconst C 0 (by decide) dX11_moves_17 ?_
      obtain ⟨rfl, rfl⟩ := Prod.mk.inj (os hr)
      exact v_zret C rfl dX11_moves_18
-- X11_wasPaidBefore
def f_X11_wasPaidBefore_2 : Nat → St → Nat → (Option Nat) → Int32 → Option (Int32)
  | 0, _, _, _, _ => none
  | n + 1, S, x0, x1, x2 =>
    (getR S (some x0) 12 4).bind fun v4 =>
    (rcv S v4 0).bind fun b7 =>
    (f_Jx4a65c_size_8abf5 S b7).bind fun v7 =>
    (if v7 ≤ x2 then
    some 0
    else
    (getR S (some x0) 12 4).bind fun v14 =>
    (rcv S v14 0).bind fun b18 =>
    (f_Jx4a65c_get_915e3 S b18 x2).bind fun v18 =>
    (castO S v18 3).bind fun v21 =>
    (getI S v21 3 4).bind fun v26 =>
    (if v26 = 1 then
    (getR S v21 3 0).bind fun v34 =>
    (getR S x1 3 0).bind fun v38 =>
    (if v34 = v38 then
    (getR S v21 3 1).bind fun v45 =>
    (getR S x1 3 1).bind fun v49 =>
    (if v45 = v49 then
    some 1
    else
    f_X11_wasPaidBefore_2 n S x0 x1 (x2 + 1))
    else
    f_X11_wasPaidBefore_2 n S x0 x1 (x2 + 1))
    else
    f_X11_wasPaidBefore_2 n S x0 x1 (x2 + 1)))
def f_X11_wasPaidBefore (S : St) (x0 : Nat) (x1 : Option Nat) : Option Int32 :=
    f_X11_wasPaidBefore_2 FU S x0 x1 0
theorem b_X11_wasPaidBefore_2  {S : St} {rr : Int32} (C : Cx p s m args meth c G S yX11_wasPaidBefore cX11_wasPaidBefore 4 (Option.some Jvm.ClassFile.FieldType.boolean)) {o : (Int32)} (kR : ∀ (v : Int32), o = v → rr = v) : ∀ (n : Nat) {x0 : Nat} {x1 : Option Nat} {x2 : Int32}, f_X11_wasPaidBefore_2 n S x0 x1 x2 = some o → ∀ ls : Array Slot, lv_has ls 4 [(0, va_rf (some x0)), (1, va_rf x1), (2, .int x2)] → V p l e (rmo 3 64 S) s m args below meth c G S S (QM below args s G S S (some (.int rr))) (F0 m 2 ls []) := by
  intro n
  induction n with
  | zero => intro x0 x1 x2 hr; cases hr
  | succ n ih =>
    intro x0 x1 x2 hr ls hl
    unfold f_X11_wasPaidBefore_2 at hr
    refine v_iload_n C (lv_at hl 2 rfl) rfl dX11_wasPaidBefore_2 ?_
    refine v_aload_n C (lv_at hl 0 rfl) rfl dX11_wasPaidBefore_3 ?_
    obtain ⟨v4, e4, hr⟩ := ob hr
    refine v_getR C fl_RX11_26 rfl e4 dX11_wasPaidBefore_4 ?_
    obtain ⟨b7, f7, hr⟩ := ob hr
    obtain ⟨g7, h7⟩ := rcv_n f7
    obtain ⟨v7, e7, hr⟩ := ob hr
    refine v_callV C (b := b7) h7 (by decide) rfl rfl (k_Jx4a65c_size_8abf5 e7) cw_Jx4a65c_size_8abf5 w_352 w_353 w_354 (show (parseMethodDescriptor (yJx4a65c_size_8abf5).desc).map (fun d => d.parameters.length) = some 0 by decide +kernel) ⟨by decide, by decide⟩ (rest := [.int x2]) (stk2 := [.int v7, .int x2]) (by rw [g7]; rfl) rfl (Nat.le_of_ble_eq_true rfl) hl dX11_wasPaidBefore_7 ?_
    refine v_icmp_ge C 63 (by decide) dX11_wasPaidBefore_10 (fun c10 => ?_) (fun c10 => ?_)
    · rw [if_pos c10] at hr
      refine v_iconst C 0 (by decide) dX11_wasPaidBefore_63 ?_
      obtain rfl := os hr
      obtain rfl := kR _ rfl
      exact v_zret C rfl dX11_wasPaidBefore_64
    · rw [if_neg c10] at hr
      refine v_aload_n C (lv_at hl 0 rfl) rfl dX11_wasPaidBefore_13 ?_
      obtain ⟨v14, e14, hr⟩ := ob hr
      refine v_getR C fl_RX11_26 rfl e14 dX11_wasPaidBefore_14 ?_
      refine v_iload_n C (lv_at hl 2 rfl) rfl dX11_wasPaidBefore_17 ?_
      obtain ⟨b18, f18, hr⟩ := ob hr
      obtain ⟨g18, h18⟩ := rcv_n f18
      obtain ⟨v18, e18, hr⟩ := ob hr
      refine v_callV C (b := b18) h18 (by decide) rfl rfl (k_Jx4a65c_get_915e3 e18) cw_Jx4a65c_get_915e3 w_449 w_450 w_451 (show (parseMethodDescriptor (yJx4a65c_get_915e3).desc).map (fun d => d.parameters.length) = some 1 by decide +kernel) ⟨by decide, by decide⟩ (rest := []) (stk2 := [va_rf v18]) (by rw [g18]; rfl) rfl (Nat.le_of_ble_eq_true rfl) hl dX11_wasPaidBefore_18 ?_
      obtain ⟨v21, e21, hr⟩ := ob hr
      refine v_cast C e21 (by decide) rfl w_984 dX11_wasPaidBefore_21 ?_
      refine v_astore_n C (i := 3) (lv' := [(3, va_rf v21), (0, va_rf (some x0)), (1, va_rf x1), (2, .int x2)]) hl rfl (by decide) rfl dX11_wasPaidBefore_24 (fun ls hl => ?_)
      refine v_aload_n C (lv_at hl 0 rfl) rfl dX11_wasPaidBefore_25 ?_
      obtain ⟨v26, e26, hr⟩ := ob hr
      refine v_getI C fl_RX11_319 rfl e26 dX11_wasPaidBefore_26 ?_
      refine v_iconst C 1 (by decide) dX11_wasPaidBefore_29 ?_
      refine v_icmp_ne C 57 (by decide) dX11_wasPaidBefore_30 (fun c30 => ?_) (fun c30 => ?_)
      · rw [if_neg c30] at hr
        refine v_iinc C (x2 + 1) (k0 := 3) (lv' := [(2, .int (x2 + 1)), (3, va_rf v21), (0, va_rf (some x0)), (1, va_rf x1)]) hl rfl rfl (by decide) (by simp [rf_n2]) dX11_wasPaidBefore_57 (fun ls hl => ?_)
        refine v_goto C 2 (by decide) dX11_wasPaidBefore_60 ?_
        exact ih hr _ (lv_sub hl [2, 3, 0] rfl)
      · rw [if_pos c30] at hr
        refine v_aload_n C (lv_at hl 0 rfl) rfl dX11_wasPaidBefore_33 ?_
        obtain ⟨v34, e34, hr⟩ := ob hr
        refine v_getR C fl_RX11_380 rfl e34 dX11_wasPaidBefore_34 ?_
        refine v_aload_n C (lv_at hl 2 rfl) rfl dX11_wasPaidBefore_37 ?_
        obtain ⟨v38, e38, hr⟩ := ob hr
        refine v_getR C fl_RX11_380 rfl e38 dX11_wasPaidBefore_38 ?_
        refine v_acmp_ne C 57 (by decide) dX11_wasPaidBefore_41 (fun c41 => ?_) (fun c41 => ?_)
        · rw [if_neg c41] at hr
          refine v_iinc C (x2 + 1) (k0 := 3) (lv' := [(2, .int (x2 + 1)), (3, va_rf v21), (0, va_rf (some x0)), (1, va_rf x1)]) hl rfl rfl (by decide) (by simp [rf_n2]) dX11_wasPaidBefore_57 (fun ls hl => ?_)
          refine v_goto C 2 (by decide) dX11_wasPaidBefore_60 ?_
          exact ih hr _ (lv_sub hl [2, 3, 0] rfl)
        · rw [if_pos c41] at hr
          refine v_aload_n C (lv_at hl 0 rfl) rfl dX11_wasPaidBefore_44 ?_
          obtain ⟨v45, e45, hr⟩ := ob hr
          refine v_getR C fl_RX11_315 rfl e45 dX11_wasPaidBefore_45 ?_
          refine v_aload_n C (lv_at hl 2 rfl) rfl dX11_wasPaidBefore_48 ?_
          obtain ⟨v49, e49, hr⟩ := ob hr
          refine v_getR C fl_RX11_315 rfl e49 dX11_wasPaidBefore_49 ?_
          refine v_acmp_ne C 57 (by decide) dX11_wasPaidBefore_52 (fun c52 => ?_) (fun c52 => ?_)
          · rw [if_neg c52] at hr
            refine v_iinc C (x2 + 1) (k0 := 3) (lv' := [(2, .int (x2 + 1)), (3, va_rf v21), (0, va_rf (some x0)), (1, va_rf x1)]) hl rfl rfl (by decide) (by simp [rf_n2]) dX11_wasPaidBefore_57 (fun ls hl => ?_)
            refine v_goto C 2 (by decide) dX11_wasPaidBefore_60 ?_
            exact ih hr _ (lv_sub hl [2, 3, 0] rfl)
          · rw [if_pos c52] at hr
            refine v_iconst C 1 (by decide) dX11_wasPaidBefore_55 ?_
            obtain rfl := os hr
            obtain rfl := kR _ rfl
            exact v_zret C rfl dX11_wasPaidBefore_56
theorem k_X11_wasPaidBefore {l : Launch} {G : Ge} {S : St} {x0 : Nat} {x1 : Option Nat} {rr : Int32} (hr : f_X11_wasPaidBefore S x0 x1 = some rr) : Ct l G yX11_wasPaidBefore cX11_wasPaidBefore 4 (Option.some Jvm.ClassFile.FieldType.boolean) S [va_rf (some x0), va_rf x1] (some (.int rr)) S 3 64 := by
  refine ct_of (by decide +kernel) (by cases x1 <;> exact Nat.le_of_ble_eq_true rfl) ?_
  intro p e s m args below meth c C ls hl
  have hl : lv_has ls 4 [(0, va_rf (some x0)), (1, va_rf x1)] := by clear hr; cases x1 <;> exact hl
  unfold f_X11_wasPaidBefore at hr
  refine v_iconst C 0 (by decide) dX11_wasPaidBefore_0 ?_
  refine v_istore_n C (i := 2) (lv' := [(2, .int 0), (0, va_rf (some x0)), (1, va_rf x1)]) hl rfl (by decide) (by simp [rf_n2]) dX11_wasPaidBefore_1 (fun ls hl => ?_)
  exact b_X11_wasPaidBefore_2 C (fun _ q => by cases q; rfl) FU hr _ (lv_sub hl [1, 2, 0] rfl)
-- X11_pay
def f_X11_pay (S : St) (x0 : Nat) (x1 : Int32) : Option (Int64 × St) :=
    (rcv S (some x0) 12).bind fun b2 =>
    (f_X11_claimAt S b2 x1).bind fun v2 =>
    (if v2 = none then
    some ((-1), S)
    else
    (getI S v2 3 4).bind fun v11 =>
    (if v11 = 0 then
    (rcv S (some x0) 12).bind fun b19 =>
    (f_X11_isGood S b19 v2).bind fun (v19, S19) =>
    (if v19 = 0 then
    some ((-1), S19)
    else
    (rcv S19 (some x0) 12).bind fun b27 =>
    (f_X11_wasPaidBefore S19 b27 v2).bind fun v27 =>
    (if v27 = 0 then
    (f_X11_partsOf S19 v2).bind fun v38 =>
    (if (0 : Int32) < v38 then
    (getR S19 v2 3 1).bind fun v51 =>
    (getL S19 v51 1 8).bind fun v54 =>
    (getR S19 v2 3 1).bind fun v59 =>
    (rcv S19 (some x0) 12).bind fun b62 =>
    (f_X11_interestOf S19 b62 v59).bind fun v62 =>
    (divL (v54 + v62) (Int32.toInt64 v38)).bind fun v72 =>
    (getR S19 v2 3 1).bind fun v77 =>
    (rcv S19 (some x0) 12).bind fun b80 =>
    (f_X11_paidOf S19 b80 v77).bind fun v80 =>
    (if (lg_cmp (v80 + v72) (v54 + v62)) ≤ 0 then
    (putI S19 v2 3 4 1).bind fun S98 =>
    (putL S98 v2 3 5 v72).bind fun S104 =>
    (getI S104 v2 3 3).bind fun v111 =>
    (getR S104 v2 3 1).bind fun v116 =>
    (getI S104 v116 1 7).bind fun v119 =>
    (rcv S104 (some x0) 12).bind fun b122 =>
    (f_X11_lawOf S104 b122 v119).bind fun v122 =>
    (getI S104 v122 7 4).bind fun v125 =>
    (f_J9_min_7cf53 S104 v111 v125).bind fun v128 =>
    (divL (v72 * (Int32.toInt64 v128)) 100).bind fun v136 =>
    (putL S104 v2 3 6 v136).bind fun S137 =>
    some (v72, S137)
    else
    some ((-1), S19))
    else
    some ((-1), S19))
    else
    some ((-1), S19)))
    else
    some ((-1), S)))
theorem k_X11_pay {l : Launch} {G : Ge} {S S' : St} {x0 : Nat} {x1 : Int32} {rr : Int64} (hr : f_X11_pay S x0 x1 = some (rr, S')) : Ct l G yX11_pay cX11_pay 8 (Option.some Jvm.ClassFile.FieldType.long) S [va_rf (some x0), .int x1] (some (.long rr)) S' 6 132 := by
  refine ct_of (by decide +kernel) (Nat.le_of_ble_eq_true rfl) ?_
  intro p e s m args below meth c C ls hl
  have hl : lv_has ls 8 [(0, va_rf (some x0)), (1, .int x1)] := hl
  unfold f_X11_pay at hr
  refine v_aload_n C (lv_at hl 0 rfl) rfl dX11_pay_0 ?_
  refine v_iload_n C (lv_at hl 1 rfl) rfl dX11_pay_1 ?_
  obtain ⟨b2, f2, hr⟩ := ob hr
  obtain ⟨g2, h2⟩ := rcv_n f2
  obtain ⟨v2, e2, hr⟩ := ob hr
  refine v_callV C (b := b2) h2 (by decide) rfl rfl (k_X11_claimAt e2) cw_X11_claimAt w_1129 w_1131 w_34 (show (parseMethodDescriptor (yX11_claimAt).desc).map (fun d => d.parameters.length) = some 1 by decide +kernel) ⟨by decide, by decide⟩ (rest := []) (stk2 := [va_rf v2]) (by rw [g2]; rfl) rfl (Nat.le_of_ble_eq_true rfl) hl dX11_pay_2 ?_
  refine v_astore_n C (i := 2) (lv' := [(2, va_rf v2), (0, va_rf (some x0)), (1, .int x1)]) hl rfl (by decide) rfl dX11_pay_5 (fun ls hl => ?_)
  refine v_aload_n C (lv_at hl 0 rfl) rfl dX11_pay_6 ?_
  refine v_ifnull C 33 (by decide) dX11_pay_7 (fun c7 => ?_) (fun c7 => ?_)
  · rw [if_pos c7] at hr
    refine v_ldc2 C w_676 dX11_pay_33 ?_
    obtain ⟨rfl, rfl⟩ := Prod.mk.inj (os hr)
    exact v_lret C dX11_pay_36
  · rw [if_neg c7] at hr
    refine v_aload_n C (lv_at hl 0 rfl) rfl dX11_pay_10 ?_
    obtain ⟨v11, e11, hr⟩ := ob hr
    refine v_getI C fl_RX11_319 rfl e11 dX11_pay_11 ?_
    refine v_if_ne C 33 (by decide) dX11_pay_14 (fun c14 => ?_) (fun c14 => ?_)
    · rw [if_neg c14] at hr
      refine v_ldc2 C w_676 dX11_pay_33 ?_
      obtain ⟨rfl, rfl⟩ := Prod.mk.inj (os hr)
      exact v_lret C dX11_pay_36
    · rw [if_pos c14] at hr
      refine v_aload_n C (lv_at hl 1 rfl) rfl dX11_pay_17 ?_
      refine v_aload_n C (lv_at hl 0 rfl) rfl dX11_pay_18 ?_
      obtain ⟨b19, f19, hr⟩ := ob hr
      obtain ⟨g19, h19⟩ := rcv_n f19
      obtain ⟨⟨v19, S19⟩, e19, hr⟩ := ob hr
      (try dsimp only at hr)
      refine v_callV C (b := b19) h19 (by decide) rfl rfl (k_X11_isGood e19) cw_X11_isGood w_1174 w_1176 w_40 (show (parseMethodDescriptor (yX11_isGood).desc).map (fun d => d.parameters.length) = some 1 by decide +kernel) ⟨by decide, by decide⟩ (rest := []) (stk2 := [.int v19]) (by rw [g19]; rfl) rfl (Nat.le_of_ble_eq_true rfl) hl dX11_pay_19 ?_
      refine v_if_eq C 33 (by decide) dX11_pay_22 (fun c22 => ?_) (fun c22 => ?_)
      · rw [if_pos c22] at hr
        refine v_ldc2 C w_676 dX11_pay_33 ?_
        obtain ⟨rfl, rfl⟩ := Prod.mk.inj (os hr)
        exact v_lret C dX11_pay_36
      · rw [if_neg c22] at hr
        refine v_aload_n C (lv_at hl 1 rfl) rfl dX11_pay_25 ?_
        refine v_aload_n C (lv_at hl 0 rfl) rfl dX11_pay_26 ?_
        obtain ⟨b27, f27, hr⟩ := ob hr
        obtain ⟨g27, h27⟩ := rcv_n f27
        obtain ⟨v27, e27, hr⟩ := ob hr
        refine v_callV C (b := b27) h27 (by decide) rfl rfl (k_X11_wasPaidBefore e27) cw_X11_wasPaidBefore w_1185 w_1187 w_41 (show (parseMethodDescriptor (yX11_wasPaidBefore).desc).map (fun d => d.parameters.length) = some 1 by decide +kernel) ⟨by decide, by decide⟩ (rest := []) (stk2 := [.int v27]) (by rw [g27]; rfl) rfl (Nat.le_of_ble_eq_true rfl) hl dX11_pay_27 ?_
        refine v_if_eq C 37 (by decide) dX11_pay_30 (fun c30 => ?_) (fun c30 => ?_)
        · rw [if_pos c30] at hr
          refine v_aload_n C (lv_at hl 0 rfl) rfl dX11_pay_37 ?_
          obtain ⟨v38, e38, hr⟩ := ob hr
          refine v_callS C (k_X11_partsOf e38) cw_X11_partsOf w_1178 w_1179 (show (parseMethodDescriptor (yX11_partsOf).desc).map (fun d => d.parameters.length) = some 1 by decide +kernel) ⟨by decide, by decide⟩ (rest := []) (stk2 := [.int v38]) rfl rfl (Nat.le_of_ble_eq_true rfl) hl dX11_pay_38 ?_
          refine v_istore_n C (i := 3) (lv' := [(3, .int v38), (2, va_rf v2), (0, va_rf (some x0)), (1, .int x1)]) hl rfl (by decide) (by simp [rf_n2]) dX11_pay_41 (fun ls hl => ?_)
          refine v_iload_n C (lv_at hl 0 rfl) rfl dX11_pay_42 ?_
          refine v_if_gt C 50 (by decide) dX11_pay_43 (fun c43 => ?_) (fun c43 => ?_)
          · rw [if_pos c43] at hr
            refine v_aload_n C (lv_at hl 1 rfl) rfl dX11_pay_50 ?_
            obtain ⟨v51, e51, hr⟩ := ob hr
            refine v_getR C fl_RX11_315 rfl e51 dX11_pay_51 ?_
            obtain ⟨v54, e54, hr⟩ := ob hr
            refine v_getL C fl_RX11_275 rfl e54 dX11_pay_54 ?_
            refine v_aload_n C (lv_at hl 2 rfl) rfl dX11_pay_57 ?_
            refine v_aload_n C (lv_at hl 1 rfl) rfl dX11_pay_58 ?_
            obtain ⟨v59, e59, hr⟩ := ob hr
            refine v_getR C fl_RX11_315 rfl e59 dX11_pay_59 ?_
            obtain ⟨b62, f62, hr⟩ := ob hr
            obtain ⟨g62, h62⟩ := rcv_n f62
            obtain ⟨v62, e62, hr⟩ := ob hr
            refine v_callV C (b := b62) h62 (by decide) rfl rfl (k_X11_interestOf e62) cw_X11_interestOf w_974 w_976 w_25 (show (parseMethodDescriptor (yX11_interestOf).desc).map (fun d => d.parameters.length) = some 1 by decide +kernel) ⟨by decide, by decide⟩ (rest := [.long v54]) (stk2 := [.long v62, .long v54]) (by rw [g62]; rfl) rfl (Nat.le_of_ble_eq_true rfl) hl dX11_pay_62 ?_
            refine v_ladd C dX11_pay_65 ?_
            refine v_lstore C (i := 4) (lv' := [(4, .long (v54 + v62)), (3, .int v38), (2, va_rf v2), (0, va_rf (some x0)), (1, .int x1)]) hl (by decide) rfl dX11_pay_66 (fun ls hl => ?_)
            refine v_lload C (lv_at hl 0 rfl) dX11_pay_68 ?_
            refine v_iload_n C (lv_at hl 1 rfl) rfl dX11_pay_70 ?_
            refine v_i2l C dX11_pay_71 ?_
            obtain ⟨v72, e72, hr⟩ := ob hr
            refine v_ldiv C e72 dX11_pay_72 ?_
            refine v_lstore C (i := 6) (lv' := [(6, .long v72), (4, .long (v54 + v62)), (3, .int v38), (2, va_rf v2), (0, va_rf (some x0)), (1, .int x1)]) hl (by decide) rfl dX11_pay_73 (fun ls hl => ?_)
            refine v_aload_n C (lv_at hl 4 rfl) rfl dX11_pay_75 ?_
            refine v_aload_n C (lv_at hl 3 rfl) rfl dX11_pay_76 ?_
            obtain ⟨v77, e77, hr⟩ := ob hr
            refine v_getR C fl_RX11_315 rfl e77 dX11_pay_77 ?_
            obtain ⟨b80, f80, hr⟩ := ob hr
            obtain ⟨g80, h80⟩ := rcv_n f80
            obtain ⟨v80, e80, hr⟩ := ob hr
            refine v_callV C (b := b80) h80 (by decide) rfl rfl (k_X11_paidOf e80) cw_X11_paidOf w_980 w_982 w_26 (show (parseMethodDescriptor (yX11_paidOf).desc).map (fun d => d.parameters.length) = some 1 by decide +kernel) ⟨by decide, by decide⟩ (rest := []) (stk2 := [.long v80]) (by rw [g80]; rfl) rfl (Nat.le_of_ble_eq_true rfl) hl dX11_pay_80 ?_
            refine v_lload C (lv_at hl 0 rfl) dX11_pay_83 ?_
            refine v_ladd C dX11_pay_85 ?_
            refine v_lload C (lv_at hl 1 rfl) dX11_pay_86 ?_
            refine v_lcmp C dX11_pay_88 ?_
            refine v_if_le C 96 (by decide) dX11_pay_89 (fun c89 => ?_) (fun c89 => ?_)
            · rw [if_pos c89] at hr
              refine v_aload_n C (lv_at hl 3 rfl) rfl dX11_pay_96 ?_
              refine v_iconst C 1 (by decide) dX11_pay_97 ?_
              obtain ⟨S98, e98, hr⟩ := ob hr
              refine v_putI C fl_RX11_319 (Or.inl rfl) rfl e98 dX11_pay_98 ?_
              refine v_aload_n C (lv_at hl 3 rfl) rfl dX11_pay_101 ?_
              refine v_lload C (lv_at hl 0 rfl) dX11_pay_102 ?_
              obtain ⟨S104, e104, hr⟩ := ob hr
              refine v_putL C fl_RX11_322 (Or.inl rfl) rfl e104 dX11_pay_104 ?_
              refine v_aload_n C (lv_at hl 3 rfl) rfl dX11_pay_107 ?_
              refine v_lload C (lv_at hl 0 rfl) dX11_pay_108 ?_
              refine v_aload_n C (lv_at hl 3 rfl) rfl dX11_pay_110 ?_
              obtain ⟨v111, e111, hr⟩ := ob hr
              refine v_getI C fl_RX11_401 rfl e111 dX11_pay_111 ?_
              refine v_aload_n C (lv_at hl 4 rfl) rfl dX11_pay_114 ?_
              refine v_aload_n C (lv_at hl 3 rfl) rfl dX11_pay_115 ?_
              obtain ⟨v116, e116, hr⟩ := ob hr
              refine v_getR C fl_RX11_315 rfl e116 dX11_pay_116 ?_
              obtain ⟨v119, e119, hr⟩ := ob hr
              refine v_getI C fl_RX11_272 rfl e119 dX11_pay_119 ?_
              obtain ⟨b122, f122, hr⟩ := ob hr
              obtain ⟨g122, h122⟩ := rcv_n f122
              obtain ⟨v122, e122, hr⟩ := ob hr
              refine v_callV C (b := b122) h122 (by decide) rfl rfl (k_X11_lawOf e122) cw_X11_lawOf w_929 w_931 w_22 (show (parseMethodDescriptor (yX11_lawOf).desc).map (fun d => d.parameters.length) = some 1 by decide +kernel) ⟨by decide, by decide⟩ (rest := [.int v111, .long v72, va_rf v2]) (stk2 := [va_rf v122, .int v111, .long v72, va_rf v2]) (by rw [g122]; rfl) rfl (by simp [rf_cat, cat_i, cat_l]) hl dX11_pay_122 ?_
              obtain ⟨v125, e125, hr⟩ := ob hr
              refine v_getI C fl_RX11_245 rfl e125 dX11_pay_125 ?_
              obtain ⟨v128, e128, hr⟩ := ob hr
              refine v_callS C (k_J9_min_7cf53 e128) cw_J9_min_7cf53 w_978 w_434 (show (parseMethodDescriptor (yJ9_min_7cf53).desc).map (fun d => d.parameters.length) = some 2 by decide +kernel) ⟨by decide, by decide⟩ (rest := [.long v72, va_rf v2]) (stk2 := [.int v128, .long v72, va_rf v2]) rfl rfl (by simp [rf_cat, cat_i, cat_l]) hl dX11_pay_128 ?_
              refine v_i2l C dX11_pay_131 ?_
              refine v_lmul C dX11_pay_132 ?_
              refine v_ldc2 C w_1189 dX11_pay_133 ?_
              obtain ⟨v136, e136, hr⟩ := ob hr
              refine v_ldiv C e136 dX11_pay_136 ?_
              obtain ⟨S137, e137, hr⟩ := ob hr
              refine v_putL C fl_RX11_391 (Or.inl rfl) rfl e137 dX11_pay_137 ?_
              refine v_lload C (lv_at hl 0 rfl) dX11_pay_140 ?_
              obtain ⟨rfl, rfl⟩ := Prod.mk.inj (os hr)
              exact v_lret C dX11_pay_142
            · rw [if_neg c89] at hr
              refine v_ldc2 C w_676 dX11_pay_92 ?_
              obtain ⟨rfl, rfl⟩ := Prod.mk.inj (os hr)
              exact v_lret C dX11_pay_95
          · rw [if_neg c43] at hr
            refine v_ldc2 C w_676 dX11_pay_46 ?_
            obtain ⟨rfl, rfl⟩ := Prod.mk.inj (os hr)
            exact v_lret C dX11_pay_49
        · rw [if_neg c30] at hr
          refine v_ldc2 C w_676 dX11_pay_33 ?_
          obtain ⟨rfl, rfl⟩ := Prod.mk.inj (os hr)
          exact v_lret C dX11_pay_36
-- X8_init
def f_X8_init (S : St) (x0 : Nat) (x1 : Int32) (x2 : Int32) (x3 : Int32) (x4 : Int32) (x5 : Option Nat) : Option St :=
    (putI S (some x0) 9 5 (-1)).bind fun S6 =>
    (putI S6 (some x0) 9 6 (-1)).bind fun S11 =>
    (putI S11 (some x0) 9 7 0).bind fun S16 =>
    (putI S16 (some x0) 9 0 x1).bind fun S21 =>
    (putI S21 (some x0) 9 1 x2).bind fun S26 =>
    (putI S26 (some x0) 9 2 x3).bind fun S31 =>
    (putI S31 (some x0) 9 3 x4).bind fun S37 =>
    (putR S37 (some x0) 9 4 x5).bind fun S43 =>
    some S43
theorem k_X8_init {l : Launch} {G : Ge} {S S' : St} {x0 : Nat} {x1 : Int32} {x2 : Int32} {x3 : Int32} {x4 : Int32} {x5 : Option Nat} (hr : f_X8_init S x0 x1 x2 x3 x4 x5 = some S') : Ct l G yX8_init cX8_init 6 (Option.none : Option Jvm.ClassFile.FieldType) S [va_rf (some x0), .int x1, .int x2, .int x3, .int x4, va_rf x5] none S' 1 36 := by
  refine ct_of (by decide +kernel) (by cases x5 <;> exact Nat.le_of_ble_eq_true rfl) ?_
  intro p e s m args below meth c C ls hl
  have hl : lv_has ls 6 [(0, va_rf (some x0)), (1, .int x1), (2, .int x2), (3, .int x3), (4, .int x4), (5, va_rf x5)] := by clear hr; cases x5 <;> exact hl
  unfold f_X8_init at hr
  refine v_aload_n C (lv_at hl 0 rfl) rfl dX8_init_0 ?_
  refine v_objInit C (b := x0) w_498 w_134 w_135 ⟨by decide, by decide⟩ (Nat.le_of_ble_eq_true rfl) hl dX8_init_1 ?_
  refine v_aload_n C (lv_at hl 0 rfl) rfl dX8_init_4 ?_
  refine v_iconst C (-1) (by decide) dX8_init_5 ?_
  obtain ⟨S6, e6, hr⟩ := ob hr
  refine v_putI C fl_RX8_9 (Or.inl rfl) rfl e6 dX8_init_6 ?_
  refine v_aload_n C (lv_at hl 0 rfl) rfl dX8_init_9 ?_
  refine v_iconst C (-1) (by decide) dX8_init_10 ?_
  obtain ⟨S11, e11, hr⟩ := ob hr
  refine v_putI C fl_RX8_15 (Or.inl rfl) rfl e11 dX8_init_11 ?_
  refine v_aload_n C (lv_at hl 0 rfl) rfl dX8_init_14 ?_
  refine v_iconst C 0 (by decide) dX8_init_15 ?_
  obtain ⟨S16, e16, hr⟩ := ob hr
  refine v_putI C fl_RX8_18 (Or.inl rfl) rfl e16 dX8_init_16 ?_
  refine v_aload_n C (lv_at hl 0 rfl) rfl dX8_init_19 ?_
  refine v_iload_n C (lv_at hl 1 rfl) rfl dX8_init_20 ?_
  obtain ⟨S21, e21, hr⟩ := ob hr
  refine v_putI C fl_RX8_21 (Or.inr ⟨rfl, rfl⟩) rfl e21 dX8_init_21 ?_
  refine v_aload_n C (lv_at hl 0 rfl) rfl dX8_init_24 ?_
  refine v_iload_n C (lv_at hl 2 rfl) rfl dX8_init_25 ?_
  obtain ⟨S26, e26, hr⟩ := ob hr
  refine v_putI C fl_RX8_24 (Or.inr ⟨rfl, rfl⟩) rfl e26 dX8_init_26 ?_
  refine v_aload_n C (lv_at hl 0 rfl) rfl dX8_init_29 ?_
  refine v_iload_n C (lv_at hl 3 rfl) rfl dX8_init_30 ?_
  obtain ⟨S31, e31, hr⟩ := ob hr
  refine v_putI C fl_RX8_27 (Or.inr ⟨rfl, rfl⟩) rfl e31 dX8_init_31 ?_
  refine v_aload_n C (lv_at hl 0 rfl) rfl dX8_init_34 ?_
  refine v_iload C (lv_at hl 4 rfl) dX8_init_35 ?_
  obtain ⟨S37, e37, hr⟩ := ob hr
  refine v_putI C fl_RX8_30 (Or.inr ⟨rfl, rfl⟩) rfl e37 dX8_init_37 ?_
  refine v_aload_n C (lv_at hl 0 rfl) rfl dX8_init_40 ?_
  refine v_aload C (lv_at hl 5 rfl) dX8_init_41 ?_
  obtain ⟨S43, e43, hr⟩ := ob hr
  refine v_putR C fl_RX8_33 (Or.inr ⟨rfl, rfl⟩) rfl e43 dX8_init_43 ?_
  obtain rfl := os hr
  exact v_vret C dX8_init_46
-- X11_person
def f_X11_person_91 (S : St) (x0 : Nat) (x1 : Int32) (x2 : Int32) (x3 : Int32) (x4 : Int32) (x6 : Int32) (x7 : Int32) (x8 : Option Nat) (t0 : Int32) : Option (Int32 × St) :=
    (if x6 = 0 then
    some ((-1), S)
    else
    (f_X11_isHome S x3).bind fun v99 =>
    (if v99 = 0 then
    some ((-1), S)
    else
    (if x7 = 0 then
    some ((-1), S)
    else
    (if t0 = 0 then
    some ((-1), S)
    else
    (newO S 9).bind fun (a117, S117) =>
    (getR S117 (some x0) 12 2).bind fun v122 =>
    (rcv S117 v122 0).bind fun b125 =>
    (f_Jx4a65c_size_8abf5 S117 b125).bind fun v125 =>
    (rcv S117 (some a117) 9).bind fun b134 =>
    (f_X8_init S117 b134 v125 x1 x2 x4 x8).bind fun S134 =>
    (putI S134 (some a117) 9 5 x3).bind fun S142 =>
    (getR S142 (some x0) 12 2).bind fun v146 =>
    (rcv S142 v146 0).bind fun b151 =>
    (f_Jx4a65c_add_9ea2d S142 b151 (some a117)).bind fun (v151, S151) =>
    (rcv S151 (some x0) 12).bind fun b156 =>
    (f_X11_countLines S151 b156).bind fun S156 =>
    (getI S156 (some a117) 9 0).bind fun v161 =>
    some (v161, S156)))))
def f_X11_person_86 (S : St) (x0 : Nat) (x1 : Int32) (x2 : Int32) (x3 : Int32) (x4 : Int32) (x6 : Int32) (x7 : Int32) (x8 : Option Nat) : Option (Int32 × St) :=
    f_X11_person_91 S x0 x1 x2 x3 x4 x6 x7 x8 1
def f_X11_person_65 (S : St) (x0 : Nat) (x1 : Int32) (x2 : Int32) (x3 : Int32) (x4 : Int32) (x5 : Int32) (x6 : Int32) (t0 : Int32) : Option (Int32 × St) :=
    (rcv S (some x0) 12).bind fun b70 =>
    (f_X11_personAt S b70 x5).bind fun v70 =>
    (if x5 = (-1) then
    f_X11_person_86 S x0 x1 x2 x3 x4 x6 t0 v70
    else
    (if v70 = none then
    f_X11_person_91 S x0 x1 x2 x3 x4 x6 t0 v70 0
    else
    f_X11_person_86 S x0 x1 x2 x3 x4 x6 t0 v70))
def f_X11_person_60 (S : St) (x0 : Nat) (x1 : Int32) (x2 : Int32) (x3 : Int32) (x4 : Int32) (x5 : Int32) (x6 : Int32) : Option (Int32 × St) :=
    f_X11_person_65 S x0 x1 x2 x3 x4 x5 x6 1
def f_X11_person_41 (S : St) (x0 : Nat) (x1 : Int32) (x2 : Int32) (x3 : Int32) (x4 : Int32) (x5 : Int32) (t0 : Int32) : Option (Int32 × St) :=
    (if x4 = (-1) then
    f_X11_person_60 S x0 x1 x2 x3 x4 x5 t0
    else
    (f_X11_isWithin S x4 10000).bind fun v54 =>
    (if v54 = 0 then
    f_X11_person_65 S x0 x1 x2 x3 x4 x5 t0 0
    else
    f_X11_person_60 S x0 x1 x2 x3 x4 x5 t0))
def f_X11_person_36 (S : St) (x0 : Nat) (x1 : Int32) (x2 : Int32) (x3 : Int32) (x4 : Int32) (x5 : Int32) : Option (Int32 × St) :=
    f_X11_person_41 S x0 x1 x2 x3 x4 x5 1
def f_X11_person (S : St) (x0 : Nat) (x1 : Int32) (x2 : Int32) (x3 : Int32) (x4 : Int32) (x5 : Int32) : Option (Int32 × St) :=
    (getR S (some x0) 12 2).bind fun v1 =>
    (rcv S v1 0).bind fun b4 =>
    (f_Jx4a65c_size_8abf5 S b4).bind fun v4 =>
    (if (24 : Int32) ≤ v4 then
    some ((-1), S)
    else
    (f_X11_isWithin S x1 100).bind fun v15 =>
    (if v15 = 0 then
    some ((-1), S)
    else
    (if x2 = (-1) then
    f_X11_person_36 S x0 x1 x2 x3 x4 x5
    else
    (rcv S (some x0) 12).bind fun b30 =>
    (f_X11_isPast S b30 x2).bind fun v30 =>
    (if v30 = 0 then
    f_X11_person_41 S x0 x1 x2 x3 x4 x5 0
    else
    f_X11_person_36 S x0 x1 x2 x3 x4 x5))))
theorem b_X11_person_91  {S0 S S' : St} {rr : Int32} {x0 : Nat} {x1 : Int32} {x2 : Int32} {x3 : Int32} {x4 : Int32} {x6 : Int32} {x7 : Int32} {x8 : Option Nat} {t0 : Int32} (C : Cx p s m args meth c G S0 yX11_person cX11_person 11 (Option.some Jvm.ClassFile.FieldType.int)) (hr : f_X11_person_91 S x0 x1 x2 x3 x4 x6 x7 x8 t0 = some (rr, S')) : ∀ ls : Array Slot, lv_has ls 11 [(0, va_rf (some x0)), (1, .int x1), (2, .int x2), (3, .int x3), (4, .int x4), (6, .int x6), (7, .int x7), (8, va_rf x8)] → V p l e (rmo 7 167 S0) s m args below meth c G S0 S (QM below args s G S0 S' (some (.int rr))) (F0 m 91 ls [.int t0]) := by
  intro ls hl
  unfold f_X11_person_91 at hr
  refine v_istore C (i := 9) (lv' := [(9, .int t0), (0, va_rf (some x0)), (1, .int x1), (2, .int x2), (3, .int x3), (4, .int x4), (6, .int x6), (7, .int x7), (8, va_rf x8)]) hl (by decide) (by simp [rf_n2]) dX11_person_91 (fun ls hl => ?_)
  refine v_iload C (lv_at hl 6 rfl) dX11_person_93 ?_
  refine v_if_eq C 115 (by decide) dX11_person_95 (fun c95 => ?_) (fun c95 => ?_)
  · rw [if_pos c95] at hr
    refine v_iconst C (-1) (by decide) dX11_person_115 ?_
    obtain ⟨rfl, rfl⟩ := Prod.mk.inj (os hr)
    exact v_iret C dX11_person_116
  · rw [if_neg c95] at hr
    refine v_iload_n C (lv_at hl 4 rfl) rfl dX11_person_98 ?_
    obtain ⟨v99, e99, hr⟩ := ob hr
    refine v_callS C (k_X11_isHome e99) cw_X11_isHome w_491 w_492 (show (parseMethodDescriptor (yX11_isHome).desc).map (fun d => d.parameters.length) = some 1 by decide +kernel) ⟨by decide, by decide⟩ (rest := []) (stk2 := [.int v99]) rfl rfl (Nat.le_of_ble_eq_true rfl) hl dX11_person_99 ?_
    refine v_if_eq C 115 (by decide) dX11_person_102 (fun c102 => ?_) (fun c102 => ?_)
    · rw [if_pos c102] at hr
      refine v_iconst C (-1) (by decide) dX11_person_115 ?_
      obtain ⟨rfl, rfl⟩ := Prod.mk.inj (os hr)
      exact v_iret C dX11_person_116
    · rw [if_neg c102] at hr
      refine v_iload C (lv_at hl 7 rfl) dX11_person_105 ?_
      refine v_if_eq C 115 (by decide) dX11_person_107 (fun c107 => ?_) (fun c107 => ?_)
      · rw [if_pos c107] at hr
        refine v_iconst C (-1) (by decide) dX11_person_115 ?_
        obtain ⟨rfl, rfl⟩ := Prod.mk.inj (os hr)
        exact v_iret C dX11_person_116
      · rw [if_neg c107] at hr
        refine v_iload C (lv_at hl 0 rfl) dX11_person_110 ?_
        refine v_if_ne C 117 (by decide) dX11_person_112 (fun c112 => ?_) (fun c112 => ?_)
        · rw [if_neg c112] at hr
          obtain ⟨⟨a117, S117⟩, e117, hr⟩ := ob hr
          (try dsimp only at hr)
          refine v_newO C e117 (by decide) rfl w_490 w_494 w_118 lay_9 tyo_9 dfo_9 dX11_person_117 ?_
          refine v_dup C (rf_cat _) dX11_person_120 ?_
          refine v_aload_n C (lv_at hl 1 rfl) rfl dX11_person_121 ?_
          obtain ⟨v122, e122, hr⟩ := ob hr
          refine v_getR C fl_RX11_20 rfl e122 dX11_person_122 ?_
          obtain ⟨b125, f125, hr⟩ := ob hr
          obtain ⟨g125, h125⟩ := rcv_n f125
          obtain ⟨v125, e125, hr⟩ := ob hr
          refine v_callV C (b := b125) h125 (by decide) rfl rfl (k_Jx4a65c_size_8abf5 e125) cw_Jx4a65c_size_8abf5 w_352 w_353 w_354 (show (parseMethodDescriptor (yJx4a65c_size_8abf5).desc).map (fun d => d.parameters.length) = some 0 by decide +kernel) ⟨by decide, by decide⟩ (rest := [va_rf (some a117), va_rf (some a117)]) (stk2 := [.int v125, va_rf (some a117), va_rf (some a117)]) (by rw [g125]; rfl) rfl (by simp [rf_cat, cat_i, cat_l]) hl dX11_person_125 ?_
          refine v_iload_n C (lv_at hl 2 rfl) rfl dX11_person_128 ?_
          refine v_iload_n C (lv_at hl 3 rfl) rfl dX11_person_129 ?_
          refine v_iload C (lv_at hl 5 rfl) dX11_person_130 ?_
          refine v_aload C (lv_at hl 8 rfl) dX11_person_132 ?_
          obtain ⟨b134, f134, hr⟩ := ob hr
          obtain ⟨g134, h134⟩ := rcv_n f134
          obtain ⟨S134, e134, hr⟩ := ob hr
          refine v_callI C (b := b134) (k_X8_init e134) cw_X8_init w_495 w_496 rfl (show (parseMethodDescriptor (yX8_init).desc).map (fun d => d.parameters.length) = some 5 by decide +kernel) ⟨by decide, by decide⟩ (rest := [va_rf (some a117)]) (stk2 := [va_rf (some a117)]) (by rw [g134]; rfl) rfl (by simp [rf_cat, cat_i, cat_l]) hl dX11_person_134 ?_
          refine v_astore C (i := 10) (lv' := [(10, va_rf (some a117)), (9, .int t0), (0, va_rf (some x0)), (1, .int x1), (2, .int x2), (3, .int x3), (4, .int x4), (6, .int x6), (7, .int x7), (8, va_rf x8)]) hl (by decide) rfl dX11_person_137 (fun ls hl => ?_)
          refine v_aload C (lv_at hl 0 rfl) dX11_person_139 ?_
          refine v_iload_n C (lv_at hl 5 rfl) rfl dX11_person_141 ?_
          obtain ⟨S142, e142, hr⟩ := ob hr
          refine v_putI C fl_RX11_145 (Or.inl rfl) rfl e142 dX11_person_142 ?_
          refine v_aload_n C (lv_at hl 2 rfl) rfl dX11_person_145 ?_
          obtain ⟨v146, e146, hr⟩ := ob hr
          refine v_getR C fl_RX11_20 rfl e146 dX11_person_146 ?_
          refine v_aload C (lv_at hl 0 rfl) dX11_person_149 ?_
          obtain ⟨b151, f151, hr⟩ := ob hr
          obtain ⟨g151, h151⟩ := rcv_n f151
          obtain ⟨⟨v151, S151⟩, e151, hr⟩ := ob hr
          (try dsimp only at hr)
          refine v_callV C (b := b151) h151 (by decide) rfl rfl (k_Jx4a65c_add_9ea2d e151) cw_Jx4a65c_add_9ea2d w_382 w_383 w_384 (show (parseMethodDescriptor (yJx4a65c_add_9ea2d).desc).map (fun d => d.parameters.length) = some 1 by decide +kernel) ⟨by decide, by decide⟩ (rest := []) (stk2 := [.int v151]) (by rw [g151]; rfl) rfl (Nat.le_of_ble_eq_true rfl) hl dX11_person_151 ?_
          refine v_pop C rfl dX11_person_154 ?_
          refine v_aload_n C (lv_at hl 2 rfl) rfl dX11_person_155 ?_
          obtain ⟨b156, f156, hr⟩ := ob hr
          obtain ⟨g156, h156⟩ := rcv_n f156
          obtain ⟨S156, e156, hr⟩ := ob hr
          refine v_callV C (b := b156) h156 (by decide) rfl rfl (k_X11_countLines e156) cw_X11_countLines w_530 w_532 w_7 (show (parseMethodDescriptor (yX11_countLines).desc).map (fun d => d.parameters.length) = some 0 by decide +kernel) ⟨by decide, by decide⟩ (rest := []) (stk2 := []) (by rw [g156]; rfl) rfl (Nat.le_of_ble_eq_true rfl) hl dX11_person_156 ?_
          refine v_aload C (lv_at hl 0 rfl) dX11_person_159 ?_
          obtain ⟨v161, e161, hr⟩ := ob hr
          refine v_getI C fl_RX11_151 rfl e161 dX11_person_161 ?_
          obtain ⟨rfl, rfl⟩ := Prod.mk.inj (os hr)
          exact v_iret C dX11_person_164
        · rw [if_pos c112] at hr
          refine v_iconst C (-1) (by decide) dX11_person_115 ?_
          obtain ⟨rfl, rfl⟩ := Prod.mk.inj (os hr)
          exact v_iret C dX11_person_116
theorem b_X11_person_86  {S0 S S' : St} {rr : Int32} {x0 : Nat} {x1 : Int32} {x2 : Int32} {x3 : Int32} {x4 : Int32} {x6 : Int32} {x7 : Int32} {x8 : Option Nat} (C : Cx p s m args meth c G S0 yX11_person cX11_person 11 (Option.some Jvm.ClassFile.FieldType.int)) (hr : f_X11_person_86 S x0 x1 x2 x3 x4 x6 x7 x8 = some (rr, S')) : ∀ ls : Array Slot, lv_has ls 11 [(0, va_rf (some x0)), (1, .int x1), (2, .int x2), (3, .int x3), (4, .int x4), (6, .int x6), (7, .int x7), (8, va_rf x8)] → V p l e (rmo 7 167 S0) s m args below meth c G S0 S (QM below args s G S0 S' (some (.int rr))) (F0 m 86 ls []) := by
  intro ls hl
  unfold f_X11_person_86 at hr
  refine v_iconst C 1 (by decide) dX11_person_86 ?_
  refine v_goto C 91 (by decide) dX11_person_87 ?_
  exact b_X11_person_91 C hr _ (lv_sub hl [0, 1, 2, 3, 4, 5, 6, 7] rfl)
theorem b_X11_person_65  {S0 S S' : St} {rr : Int32} {x0 : Nat} {x1 : Int32} {x2 : Int32} {x3 : Int32} {x4 : Int32} {x5 : Int32} {x6 : Int32} {t0 : Int32} (C : Cx p s m args meth c G S0 yX11_person cX11_person 11 (Option.some Jvm.ClassFile.FieldType.int)) (hr : f_X11_person_65 S x0 x1 x2 x3 x4 x5 x6 t0 = some (rr, S')) : ∀ ls : Array Slot, lv_has ls 11 [(0, va_rf (some x0)), (1, .int x1), (2, .int x2), (3, .int x3), (4, .int x4), (5, .int x5), (6, .int x6)] → V p l e (rmo 7 167 S0) s m args below meth c G S0 S (QM below args s G S0 S' (some (.int rr))) (F0 m 65 ls [.int t0]) := by
  intro ls hl
  unfold f_X11_person_65 at hr
  refine v_istore C (i := 7) (lv' := [(7, .int t0), (0, va_rf (some x0)), (1, .int x1), (2, .int x2), (3, .int x3), (4, .int x4), (5, .int x5), (6, .int x6)]) hl (by decide) rfl dX11_person_65 (fun ls hl => ?_)
  refine v_aload_n C (lv_at hl 1 rfl) rfl dX11_person_67 ?_
  refine v_iload C (lv_at hl 6 rfl) dX11_person_68 ?_
  obtain ⟨b70, f70, hr⟩ := ob hr
  obtain ⟨g70, h70⟩ := rcv_n f70
  obtain ⟨v70, e70, hr⟩ := ob hr
  refine v_callV C (b := b70) h70 (by decide) rfl rfl (k_X11_personAt e70) cw_X11_personAt w_486 w_488 w_6 (show (parseMethodDescriptor (yX11_personAt).desc).map (fun d => d.parameters.length) = some 1 by decide +kernel) ⟨by decide, by decide⟩ (rest := []) (stk2 := [va_rf v70]) (by rw [g70]; rfl) rfl (Nat.le_of_ble_eq_true rfl) hl dX11_person_70 ?_
  refine v_astore C (i := 8) (lv' := [(8, va_rf v70), (7, .int t0), (0, va_rf (some x0)), (1, .int x1), (2, .int x2), (3, .int x3), (4, .int x4), (5, .int x5), (6, .int x6)]) hl (by decide) rfl dX11_person_73 (fun ls hl => ?_)
  refine v_iload C (lv_at hl 7 rfl) dX11_person_75 ?_
  refine v_iconst C (-1) (by decide) dX11_person_77 ?_
  refine v_icmp_eq C 86 (by decide) dX11_person_78 (fun c78 => ?_) (fun c78 => ?_)
  · rw [if_pos c78] at hr
    exact b_X11_person_86 C hr _ (lv_sub hl [2, 3, 4, 5, 6, 8, 1, 0] rfl)
  · rw [if_neg c78] at hr
    refine v_aload C (lv_at hl 0 rfl) dX11_person_81 ?_
    refine v_ifnull C 90 (by decide) dX11_person_83 (fun c83 => ?_) (fun c83 => ?_)
    · rw [if_pos c83] at hr
      refine v_iconst C 0 (by decide) dX11_person_90 ?_
      exact b_X11_person_91 C hr _ (lv_sub hl [2, 3, 4, 5, 6, 8, 1, 0] rfl)
    · rw [if_neg c83] at hr
      exact b_X11_person_86 C hr _ (lv_sub hl [2, 3, 4, 5, 6, 8, 1, 0] rfl)
theorem b_X11_person_60  {S0 S S' : St} {rr : Int32} {x0 : Nat} {x1 : Int32} {x2 : Int32} {x3 : Int32} {x4 : Int32} {x5 : Int32} {x6 : Int32} (C : Cx p s m args meth c G S0 yX11_person cX11_person 11 (Option.some Jvm.ClassFile.FieldType.int)) (hr : f_X11_person_60 S x0 x1 x2 x3 x4 x5 x6 = some (rr, S')) : ∀ ls : Array Slot, lv_has ls 11 [(0, va_rf (some x0)), (1, .int x1), (2, .int x2), (3, .int x3), (4, .int x4), (5, .int x5), (6, .int x6)] → V p l e (rmo 7 167 S0) s m args below meth c G S0 S (QM below args s G S0 S' (some (.int rr))) (F0 m 60 ls []) := by
  intro ls hl
  unfold f_X11_person_60 at hr
  refine v_iconst C 1 (by decide) dX11_person_60 ?_
  refine v_goto C 65 (by decide) dX11_person_61 ?_
  exact b_X11_person_65 C hr _ (lv_sub hl [0, 1, 2, 3, 4, 5, 6] rfl)
theorem b_X11_person_41  {S0 S S' : St} {rr : Int32} {x0 : Nat} {x1 : Int32} {x2 : Int32} {x3 : Int32} {x4 : Int32} {x5 : Int32} {t0 : Int32} (C : Cx p s m args meth c G S0 yX11_person cX11_person 11 (Option.some Jvm.ClassFile.FieldType.int)) (hr : f_X11_person_41 S x0 x1 x2 x3 x4 x5 t0 = some (rr, S')) : ∀ ls : Array Slot, lv_has ls 11 [(0, va_rf (some x0)), (1, .int x1), (2, .int x2), (3, .int x3), (4, .int x4), (5, .int x5)] → V p l e (rmo 7 167 S0) s m args below meth c G S0 S (QM below args s G S0 S' (some (.int rr))) (F0 m 41 ls [.int t0]) := by
  intro ls hl
  unfold f_X11_person_41 at hr
  refine v_istore C (i := 6) (lv' := [(6, .int t0), (0, va_rf (some x0)), (1, .int x1), (2, .int x2), (3, .int x3), (4, .int x4), (5, .int x5)]) hl (by decide) rfl dX11_person_41 (fun ls hl => ?_)
  refine v_iload C (lv_at hl 5 rfl) dX11_person_43 ?_
  refine v_iconst C (-1) (by decide) dX11_person_45 ?_
  refine v_icmp_eq C 60 (by decide) dX11_person_46 (fun c46 => ?_) (fun c46 => ?_)
  · rw [if_pos c46] at hr
    exact b_X11_person_60 C hr _ (lv_sub hl [1, 2, 3, 4, 5, 6, 0] rfl)
  · rw [if_neg c46] at hr
    refine v_iload C (lv_at hl 5 rfl) dX11_person_49 ?_
    refine v_sipush C 10000 (by decide) dX11_person_51 ?_
    obtain ⟨v54, e54, hr⟩ := ob hr
    refine v_callS C (k_X11_isWithin e54) cw_X11_isWithin w_349 w_350 (show (parseMethodDescriptor (yX11_isWithin).desc).map (fun d => d.parameters.length) = some 2 by decide +kernel) ⟨by decide, by decide⟩ (rest := []) (stk2 := [.int v54]) rfl rfl (Nat.le_of_ble_eq_true rfl) hl dX11_person_54 ?_
    refine v_if_eq C 64 (by decide) dX11_person_57 (fun c57 => ?_) (fun c57 => ?_)
    · rw [if_pos c57] at hr
      refine v_iconst C 0 (by decide) dX11_person_64 ?_
      exact b_X11_person_65 C hr _ (lv_sub hl [1, 2, 3, 4, 5, 6, 0] rfl)
    · rw [if_neg c57] at hr
      exact b_X11_person_60 C hr _ (lv_sub hl [1, 2, 3, 4, 5, 6, 0] rfl)
theorem b_X11_person_36  {S0 S S' : St} {rr : Int32} {x0 : Nat} {x1 : Int32} {x2 : Int32} {x3 : Int32} {x4 : Int32} {x5 : Int32} (C : Cx p s m args meth c G S0 yX11_person cX11_person 11 (Option.some Jvm.ClassFile.FieldType.int)) (hr : f_X11_person_36 S x0 x1 x2 x3 x4 x5 = some (rr, S')) : ∀ ls : Array Slot, lv_has ls 11 [(0, va_rf (some x0)), (1, .int x1), (2, .int x2), (3, .int x3), (4, .int x4), (5, .int x5)] → V p l e (rmo 7 167 S0) s m args below meth c G S0 S (QM below args s G S0 S' (some (.int rr))) (F0 m 36 ls []) := by
  intro ls hl
  unfold f_X11_person_36 at hr
  refine v_iconst C 1 (by decide) dX11_person_36 ?_
  refine v_goto C 41 (by decide) dX11_person_37 ?_
  exact b_X11_person_41 C hr _ (lv_sub hl [0, 1, 2, 3, 4, 5] rfl)
theorem k_X11_person {l : Launch} {G : Ge} {S S' : St} {x0 : Nat} {x1 : Int32} {x2 : Int32} {x3 : Int32} {x4 : Int32} {x5 : Int32} {rr : Int32} (hr : f_X11_person S x0 x1 x2 x3 x4 x5 = some (rr, S')) : Ct l G yX11_person cX11_person 11 (Option.some Jvm.ClassFile.FieldType.int) S [va_rf (some x0), .int x1, .int x2, .int x3, .int x4, .int x5] (some (.int rr)) S' 7 167 := by
  refine ct_of (by decide +kernel) (Nat.le_of_ble_eq_true rfl) ?_
  intro p e s m args below meth c C ls hl
  have hl : lv_has ls 11 [(0, va_rf (some x0)), (1, .int x1), (2, .int x2), (3, .int x3), (4, .int x4), (5, .int x5)] := hl
  unfold f_X11_person at hr
  refine v_aload_n C (lv_at hl 0 rfl) rfl dX11_person_0 ?_
  obtain ⟨v1, e1, hr⟩ := ob hr
  refine v_getR C fl_RX11_20 rfl e1 dX11_person_1 ?_
  obtain ⟨b4, f4, hr⟩ := ob hr
  obtain ⟨g4, h4⟩ := rcv_n f4
  obtain ⟨v4, e4, hr⟩ := ob hr
  refine v_callV C (b := b4) h4 (by decide) rfl rfl (k_Jx4a65c_size_8abf5 e4) cw_Jx4a65c_size_8abf5 w_352 w_353 w_354 (show (parseMethodDescriptor (yJx4a65c_size_8abf5).desc).map (fun d => d.parameters.length) = some 0 by decide +kernel) ⟨by decide, by decide⟩ (rest := []) (stk2 := [.int v4]) (by rw [g4]; rfl) rfl (Nat.le_of_ble_eq_true rfl) hl dX11_person_4 ?_
  refine v_bipush C 24 (by decide) dX11_person_7 ?_
  refine v_icmp_ge C 21 (by decide) dX11_person_9 (fun c9 => ?_) (fun c9 => ?_)
  · rw [if_pos c9] at hr
    refine v_iconst C (-1) (by decide) dX11_person_21 ?_
    obtain ⟨rfl, rfl⟩ := Prod.mk.inj (os hr)
    exact v_iret C dX11_person_22
  · rw [if_neg c9] at hr
    refine v_iload_n C (lv_at hl 1 rfl) rfl dX11_person_12 ?_
    refine v_bipush C 100 (by decide) dX11_person_13 ?_
    obtain ⟨v15, e15, hr⟩ := ob hr
    refine v_callS C (k_X11_isWithin e15) cw_X11_isWithin w_349 w_350 (show (parseMethodDescriptor (yX11_isWithin).desc).map (fun d => d.parameters.length) = some 2 by decide +kernel) ⟨by decide, by decide⟩ (rest := []) (stk2 := [.int v15]) rfl rfl (Nat.le_of_ble_eq_true rfl) hl dX11_person_15 ?_
    refine v_if_ne C 23 (by decide) dX11_person_18 (fun c18 => ?_) (fun c18 => ?_)
    · rw [if_neg c18] at hr
      refine v_iload_n C (lv_at hl 2 rfl) rfl dX11_person_23 ?_
      refine v_iconst C (-1) (by decide) dX11_person_24 ?_
      refine v_icmp_eq C 36 (by decide) dX11_person_25 (fun c25 => ?_) (fun c25 => ?_)
      · rw [if_pos c25] at hr
        exact b_X11_person_36 C hr _ (lv_sub hl [0, 1, 2, 3, 4, 5] rfl)
      · rw [if_neg c25] at hr
        refine v_aload_n C (lv_at hl 0 rfl) rfl dX11_person_28 ?_
        refine v_iload_n C (lv_at hl 2 rfl) rfl dX11_person_29 ?_
        obtain ⟨b30, f30, hr⟩ := ob hr
        obtain ⟨g30, h30⟩ := rcv_n f30
        obtain ⟨v30, e30, hr⟩ := ob hr
        refine v_callV C (b := b30) h30 (by decide) rfl rfl (k_X11_isPast e30) cw_X11_isPast w_463 w_465 w_4 (show (parseMethodDescriptor (yX11_isPast).desc).map (fun d => d.parameters.length) = some 1 by decide +kernel) ⟨by decide, by decide⟩ (rest := []) (stk2 := [.int v30]) (by rw [g30]; rfl) rfl (Nat.le_of_ble_eq_true rfl) hl dX11_person_30 ?_
        refine v_if_eq C 40 (by decide) dX11_person_33 (fun c33 => ?_) (fun c33 => ?_)
        · rw [if_pos c33] at hr
          refine v_iconst C 0 (by decide) dX11_person_40 ?_
          exact b_X11_person_41 C hr _ (lv_sub hl [0, 1, 2, 3, 4, 5] rfl)
        · rw [if_neg c33] at hr
          exact b_X11_person_36 C hr _ (lv_sub hl [0, 1, 2, 3, 4, 5] rfl)
    · rw [if_pos c18] at hr
      refine v_iconst C (-1) (by decide) dX11_person_21 ?_
      obtain ⟨rfl, rfl⟩ := Prod.mk.inj (os hr)
      exact v_iret C dX11_person_22
-- X11_points
def f_X11_points (S : St) (x0 : Nat) (x1 : Int32) (x2 : Int32) : Option Int32 :=
    (rcv S (some x0) 12).bind fun b2 =>
    (f_X11_personAt S b2 x1).bind fun v2 =>
    (rcv S (some x0) 12).bind fun b8 =>
    (f_X11_personAt S b8 x2).bind fun v8 =>
    (if v2 = none then
    some (-2)
    else
    (if v8 = none then
    some (-2)
    else
    (if v2 = v8 then
    some (-2)
    else
    (rcv S v2 9).bind fun b34 =>
    (f_X8_isBarredFrom S b34 v8).bind fun v34 =>
    (if v34 = 0 then
    (rcv S v2 9).bind fun b47 =>
    (f_X8_pointsWith S b47 v8).bind fun v47 =>
    some v47
    else
    some (-1)))))
theorem k_X11_points {l : Launch} {G : Ge} {S : St} {x0 : Nat} {x1 : Int32} {x2 : Int32} {rr : Int32} (hr : f_X11_points S x0 x1 x2 = some rr) : Ct l G yX11_points cX11_points 5 (Option.some Jvm.ClassFile.FieldType.int) S [va_rf (some x0), .int x1, .int x2] (some (.int rr)) S 4 85 := by
  refine ct_of (by decide +kernel) (Nat.le_of_ble_eq_true rfl) ?_
  intro p e s m args below meth c C ls hl
  have hl : lv_has ls 5 [(0, va_rf (some x0)), (1, .int x1), (2, .int x2)] := hl
  unfold f_X11_points at hr
  refine v_aload_n C (lv_at hl 0 rfl) rfl dX11_points_0 ?_
  refine v_iload_n C (lv_at hl 1 rfl) rfl dX11_points_1 ?_
  obtain ⟨b2, f2, hr⟩ := ob hr
  obtain ⟨g2, h2⟩ := rcv_n f2
  obtain ⟨v2, e2, hr⟩ := ob hr
  refine v_callV C (b := b2) h2 (by decide) rfl rfl (k_X11_personAt e2) cw_X11_personAt w_486 w_488 w_6 (show (parseMethodDescriptor (yX11_personAt).desc).map (fun d => d.parameters.length) = some 1 by decide +kernel) ⟨by decide, by decide⟩ (rest := []) (stk2 := [va_rf v2]) (by rw [g2]; rfl) rfl (Nat.le_of_ble_eq_true rfl) hl dX11_points_2 ?_
  refine v_astore_n C (i := 3) (lv' := [(3, va_rf v2), (0, va_rf (some x0)), (1, .int x1), (2, .int x2)]) hl rfl (by decide) rfl dX11_points_5 (fun ls hl => ?_)
  refine v_aload_n C (lv_at hl 1 rfl) rfl dX11_points_6 ?_
  refine v_iload_n C (lv_at hl 3 rfl) rfl dX11_points_7 ?_
  obtain ⟨b8, f8, hr⟩ := ob hr
  obtain ⟨g8, h8⟩ := rcv_n f8
  obtain ⟨v8, e8, hr⟩ := ob hr
  refine v_callV C (b := b8) h8 (by decide) rfl rfl (k_X11_personAt e8) cw_X11_personAt w_486 w_488 w_6 (show (parseMethodDescriptor (yX11_personAt).desc).map (fun d => d.parameters.length) = some 1 by decide +kernel) ⟨by decide, by decide⟩ (rest := []) (stk2 := [va_rf v8]) (by rw [g8]; rfl) rfl (Nat.le_of_ble_eq_true rfl) hl dX11_points_8 ?_
  refine v_astore C (i := 4) (lv' := [(4, va_rf v8), (3, va_rf v2), (0, va_rf (some x0)), (1, .int x1), (2, .int x2)]) hl (by decide) (by simp [rf_n2]) dX11_points_11 (fun ls hl => ?_)
  refine v_aload_n C (lv_at hl 1 rfl) rfl dX11_points_13 ?_
  refine v_ifnull C 28 (by decide) dX11_points_14 (fun c14 => ?_) (fun c14 => ?_)
  · rw [if_pos c14] at hr
    refine v_bipush C (-2) (by decide) dX11_points_28 ?_
    obtain rfl := os hr
    exact v_iret C dX11_points_30
  · rw [if_neg c14] at hr
    refine v_aload C (lv_at hl 0 rfl) dX11_points_17 ?_
    refine v_ifnull C 28 (by decide) dX11_points_19 (fun c19 => ?_) (fun c19 => ?_)
    · rw [if_pos c19] at hr
      refine v_bipush C (-2) (by decide) dX11_points_28 ?_
      obtain rfl := os hr
      exact v_iret C dX11_points_30
    · rw [if_neg c19] at hr
      refine v_aload_n C (lv_at hl 1 rfl) rfl dX11_points_22 ?_
      refine v_aload C (lv_at hl 0 rfl) dX11_points_23 ?_
      refine v_acmp_ne C 31 (by decide) dX11_points_25 (fun c25 => ?_) (fun c25 => ?_)
      · rw [if_neg c25] at hr
        refine v_aload_n C (lv_at hl 1 rfl) rfl dX11_points_31 ?_
        refine v_aload C (lv_at hl 0 rfl) dX11_points_32 ?_
        obtain ⟨b34, f34, hr⟩ := ob hr
        obtain ⟨g34, h34⟩ := rcv_n f34
        obtain ⟨v34, e34, hr⟩ := ob hr
        refine v_callV C (b := b34) h34 (by decide) rfl rfl (k_X8_isBarredFrom e34) cw_X8_isBarredFrom w_989 w_990 w_991 (show (parseMethodDescriptor (yX8_isBarredFrom).desc).map (fun d => d.parameters.length) = some 1 by decide +kernel) ⟨by decide, by decide⟩ (rest := []) (stk2 := [.int v34]) (by rw [g34]; rfl) rfl (Nat.le_of_ble_eq_true rfl) hl dX11_points_34 ?_
        refine v_if_eq C 44 (by decide) dX11_points_37 (fun c37 => ?_) (fun c37 => ?_)
        · rw [if_pos c37] at hr
          refine v_aload_n C (lv_at hl 1 rfl) rfl dX11_points_44 ?_
          refine v_aload C (lv_at hl 0 rfl) dX11_points_45 ?_
          obtain ⟨b47, f47, hr⟩ := ob hr
          obtain ⟨g47, h47⟩ := rcv_n f47
          obtain ⟨v47, e47, hr⟩ := ob hr
          refine v_callV C (b := b47) h47 (by decide) rfl rfl (k_X8_pointsWith e47) cw_X8_pointsWith w_1000 w_1001 w_1002 (show (parseMethodDescriptor (yX8_pointsWith).desc).map (fun d => d.parameters.length) = some 1 by decide +kernel) ⟨by decide, by decide⟩ (rest := []) (stk2 := [.int v47]) (by rw [g47]; rfl) rfl (Nat.le_of_ble_eq_true rfl) hl dX11_points_47 ?_
          obtain rfl := os hr
          exact v_iret C dX11_points_50
        · rw [if_neg c37] at hr
          refine v_iconst C (-1) (by decide) dX11_points_40 ?_
          refine v_goto C 50 (by decide) dX11_points_41 ?_
          obtain rfl := os hr
          exact v_iret C dX11_points_50
      · rw [if_pos c25] at hr
        refine v_bipush C (-2) (by decide) dX11_points_28 ?_
        obtain rfl := os hr
        exact v_iret C dX11_points_30
-- X7_init
def f_X7_init (S : St) (x0 : Nat) (x1 : Option Nat) : Option St :=
    (putI S (some x0) 8 1 0).bind fun S6 =>
    (putI S6 (some x0) 8 2 (-1)).bind fun S11 =>
    (putI S11 (some x0) 8 4 0).bind fun S16 =>
    (putI S16 (some x0) 8 5 0).bind fun S21 =>
    (putI S21 (some x0) 8 6 0).bind fun S26 =>
    (putI S26 (some x0) 8 7 0).bind fun S31 =>
    (putI S31 (some x0) 8 8 0).bind fun S36 =>
    (putR S36 (some x0) 8 3 x1).bind fun S41 =>
    (newO S41 7).bind fun (a45, S45) =>
    (rcv S45 x1 0).bind fun b50 =>
    (f_Jx4a65c_size_8abf5 S45 b50).bind fun v50 =>
    (rcv S45 (some a45) 7).bind fun b53 =>
    (f_X6_init S45 b53 v50).bind fun S53 =>
    (putR S53 (some x0) 8 0 (some a45)).bind fun S56 =>
    some S56
theorem k_X7_init {l : Launch} {G : Ge} {S S' : St} {x0 : Nat} {x1 : Option Nat} (hr : f_X7_init S x0 x1 = some S') : Ct l G yX7_init cX7_init 2 (Option.none : Option Jvm.ClassFile.FieldType) S [va_rf (some x0), va_rf x1] none S' 2 57 := by
  refine ct_of (by decide +kernel) (by cases x1 <;> exact Nat.le_of_ble_eq_true rfl) ?_
  intro p e s m args below meth c C ls hl
  have hl : lv_has ls 2 [(0, va_rf (some x0)), (1, va_rf x1)] := by clear hr; cases x1 <;> exact hl
  unfold f_X7_init at hr
  refine v_aload_n C (lv_at hl 0 rfl) rfl dX7_init_0 ?_
  refine v_objInit C (b := x0) w_830 w_134 w_135 ⟨by decide, by decide⟩ (Nat.le_of_ble_eq_true rfl) hl dX7_init_1 ?_
  refine v_aload_n C (lv_at hl 0 rfl) rfl dX7_init_4 ?_
  refine v_iconst C 0 (by decide) dX7_init_5 ?_
  obtain ⟨S6, e6, hr⟩ := ob hr
  refine v_putI C fl_RX7_9 (Or.inl rfl) rfl e6 dX7_init_6 ?_
  refine v_aload_n C (lv_at hl 0 rfl) rfl dX7_init_9 ?_
  refine v_iconst C (-1) (by decide) dX7_init_10 ?_
  obtain ⟨S11, e11, hr⟩ := ob hr
  refine v_putI C fl_RX7_15 (Or.inl rfl) rfl e11 dX7_init_11 ?_
  refine v_aload_n C (lv_at hl 0 rfl) rfl dX7_init_14 ?_
  refine v_iconst C 0 (by decide) dX7_init_15 ?_
  obtain ⟨S16, e16, hr⟩ := ob hr
  refine v_putI C fl_RX7_18 (Or.inl rfl) rfl e16 dX7_init_16 ?_
  refine v_aload_n C (lv_at hl 0 rfl) rfl dX7_init_19 ?_
  refine v_iconst C 0 (by decide) dX7_init_20 ?_
  obtain ⟨S21, e21, hr⟩ := ob hr
  refine v_putI C fl_RX7_23 (Or.inl rfl) rfl e21 dX7_init_21 ?_
  refine v_aload_n C (lv_at hl 0 rfl) rfl dX7_init_24 ?_
  refine v_iconst C 0 (by decide) dX7_init_25 ?_
  obtain ⟨S26, e26, hr⟩ := ob hr
  refine v_putI C fl_RX7_26 (Or.inl rfl) rfl e26 dX7_init_26 ?_
  refine v_aload_n C (lv_at hl 0 rfl) rfl dX7_init_29 ?_
  refine v_iconst C 0 (by decide) dX7_init_30 ?_
  obtain ⟨S31, e31, hr⟩ := ob hr
  refine v_putI C fl_RX7_29 (Or.inl rfl) rfl e31 dX7_init_31 ?_
  refine v_aload_n C (lv_at hl 0 rfl) rfl dX7_init_34 ?_
  refine v_iconst C 0 (by decide) dX7_init_35 ?_
  obtain ⟨S36, e36, hr⟩ := ob hr
  refine v_putI C fl_RX7_32 (Or.inl rfl) rfl e36 dX7_init_36 ?_
  refine v_aload_n C (lv_at hl 0 rfl) rfl dX7_init_39 ?_
  refine v_aload_n C (lv_at hl 1 rfl) rfl dX7_init_40 ?_
  obtain ⟨S41, e41, hr⟩ := ob hr
  refine v_putR C fl_RX7_35 (Or.inr ⟨rfl, rfl⟩) rfl e41 dX7_init_41 ?_
  refine v_aload_n C (lv_at hl 0 rfl) rfl dX7_init_44 ?_
  obtain ⟨⟨a45, S45⟩, e45, hr⟩ := ob hr
  (try dsimp only at hr)
  refine v_newO C e45 (by decide) rfl w_831 w_163 w_106 lay_7 tyo_7 dfo_7 dX7_init_45 ?_
  refine v_dup C (rf_cat _) dX7_init_48 ?_
  refine v_aload_n C (lv_at hl 1 rfl) rfl dX7_init_49 ?_
  obtain ⟨b50, f50, hr⟩ := ob hr
  obtain ⟨g50, h50⟩ := rcv_n f50
  obtain ⟨v50, e50, hr⟩ := ob hr
  refine v_callV C (b := b50) h50 (by decide) rfl rfl (k_Jx4a65c_size_8abf5 e50) cw_Jx4a65c_size_8abf5 w_832 w_353 w_354 (show (parseMethodDescriptor (yJx4a65c_size_8abf5).desc).map (fun d => d.parameters.length) = some 0 by decide +kernel) ⟨by decide, by decide⟩ (rest := [va_rf (some a45), va_rf (some a45), va_rf (some x0)]) (stk2 := [.int v50, va_rf (some a45), va_rf (some a45), va_rf (some x0)]) (by rw [g50]; rfl) rfl (by simp [rf_cat, cat_i, cat_l]) hl dX7_init_50 ?_
  obtain ⟨b53, f53, hr⟩ := ob hr
  obtain ⟨g53, h53⟩ := rcv_n f53
  obtain ⟨S53, e53, hr⟩ := ob hr
  refine v_callI C (b := b53) (k_X6_init e53) cw_X6_init w_833 w_165 rfl (show (parseMethodDescriptor (yX6_init).desc).map (fun d => d.parameters.length) = some 1 by decide +kernel) ⟨by decide, by decide⟩ (rest := [va_rf (some a45), va_rf (some x0)]) (stk2 := [va_rf (some a45), va_rf (some x0)]) (by rw [g53]; rfl) rfl (by simp [rf_cat, cat_i, cat_l]) hl dX7_init_53 ?_
  obtain ⟨S56, e56, hr⟩ := ob hr
  refine v_putR C fl_RX7_50 (Or.inr ⟨rfl, rfl⟩) rfl e56 dX7_init_56 ?_
  obtain rfl := os hr
  exact v_vret C dX7_init_59
-- X7_advance
def f_X7_advance (S : St) (x0 : Nat) : Option St :=
    (getI S (some x0) 8 1).bind fun v1 =>
    (if v1 = 0 then
    (getI S (some x0) 8 4).bind fun v8 =>
    (if v8 < 0 then
    some S
    else
    (getI S (some x0) 8 4).bind fun v15 =>
    (getR S (some x0) 8 3).bind fun v19 =>
    (rcv S v19 0).bind fun b22 =>
    (f_Jx4a65c_size_8abf5 S b22).bind fun v22 =>
    (if v15 < v22 then
    (getR S (some x0) 8 3).bind fun v30 =>
    (getI S (some x0) 8 4).bind fun v34 =>
    (rcv S v30 0).bind fun b37 =>
    (f_Jx4a65c_get_915e3 S b37 v34).bind fun v37 =>
    (castO S v37 11).bind fun v40 =>
    (getI S (some x0) 8 4).bind fun v46 =>
    (putI S (some x0) 8 4 (v46 + 1)).bind fun S51 =>
    (getI S51 v40 11 0).bind fun v56 =>
    (putI S51 (some x0) 8 5 v56).bind fun S59 =>
    (getI S59 v40 11 1).bind fun v64 =>
    (putI S59 (some x0) 8 6 v64).bind fun S67 =>
    (getI S67 v40 11 2).bind fun v72 =>
    (putI S67 (some x0) 8 7 v72).bind fun S75 =>
    some S75
    else
    some S))
    else
    some S)
theorem k_X7_advance {l : Launch} {G : Ge} {S S' : St} {x0 : Nat} (hr : f_X7_advance S x0 = some S') : Ct l G yX7_advance cX7_advance 2 (Option.none : Option Jvm.ClassFile.FieldType) S [va_rf (some x0)] none S' 3 64 := by
  refine ct_of (by decide +kernel) (Nat.le_of_ble_eq_true rfl) ?_
  intro p e s m args below meth c C ls hl
  have hl : lv_has ls 2 [(0, va_rf (some x0))] := hl
  unfold f_X7_advance at hr
  refine v_aload_n C (lv_at hl 0 rfl) rfl dX7_advance_0 ?_
  obtain ⟨v1, e1, hr⟩ := ob hr
  refine v_getI C fl_RX7_9 rfl e1 dX7_advance_1 ?_
  refine v_if_ne C 28 (by decide) dX7_advance_4 (fun c4 => ?_) (fun c4 => ?_)
  · rw [if_neg c4] at hr
    obtain rfl := os hr
    exact v_vret C dX7_advance_28
  · rw [if_pos c4] at hr
    refine v_aload_n C (lv_at hl 0 rfl) rfl dX7_advance_7 ?_
    obtain ⟨v8, e8, hr⟩ := ob hr
    refine v_getI C fl_RX7_18 rfl e8 dX7_advance_8 ?_
    refine v_if_lt C 28 (by decide) dX7_advance_11 (fun c11 => ?_) (fun c11 => ?_)
    · rw [if_pos c11] at hr
      obtain rfl := os hr
      exact v_vret C dX7_advance_28
    · rw [if_neg c11] at hr
      refine v_aload_n C (lv_at hl 0 rfl) rfl dX7_advance_14 ?_
      obtain ⟨v15, e15, hr⟩ := ob hr
      refine v_getI C fl_RX7_18 rfl e15 dX7_advance_15 ?_
      refine v_aload_n C (lv_at hl 0 rfl) rfl dX7_advance_18 ?_
      obtain ⟨v19, e19, hr⟩ := ob hr
      refine v_getR C fl_RX7_35 rfl e19 dX7_advance_19 ?_
      obtain ⟨b22, f22, hr⟩ := ob hr
      obtain ⟨g22, h22⟩ := rcv_n f22
      obtain ⟨v22, e22, hr⟩ := ob hr
      refine v_callV C (b := b22) h22 (by decide) rfl rfl (k_Jx4a65c_size_8abf5 e22) cw_Jx4a65c_size_8abf5 w_832 w_353 w_354 (show (parseMethodDescriptor (yJx4a65c_size_8abf5).desc).map (fun d => d.parameters.length) = some 0 by decide +kernel) ⟨by decide, by decide⟩ (rest := [.int v15]) (stk2 := [.int v22, .int v15]) (by rw [g22]; rfl) rfl (Nat.le_of_ble_eq_true rfl) hl dX7_advance_22 ?_
      refine v_icmp_lt C 29 (by decide) dX7_advance_25 (fun c25 => ?_) (fun c25 => ?_)
      · rw [if_pos c25] at hr
        refine v_aload_n C (lv_at hl 0 rfl) rfl dX7_advance_29 ?_
        obtain ⟨v30, e30, hr⟩ := ob hr
        refine v_getR C fl_RX7_35 rfl e30 dX7_advance_30 ?_
        refine v_aload_n C (lv_at hl 0 rfl) rfl dX7_advance_33 ?_
        obtain ⟨v34, e34, hr⟩ := ob hr
        refine v_getI C fl_RX7_18 rfl e34 dX7_advance_34 ?_
        obtain ⟨b37, f37, hr⟩ := ob hr
        obtain ⟨g37, h37⟩ := rcv_n f37
        obtain ⟨v37, e37, hr⟩ := ob hr
        refine v_callV C (b := b37) h37 (by decide) rfl rfl (k_Jx4a65c_get_915e3 e37) cw_Jx4a65c_get_915e3 w_873 w_450 w_451 (show (parseMethodDescriptor (yJx4a65c_get_915e3).desc).map (fun d => d.parameters.length) = some 1 by decide +kernel) ⟨by decide, by decide⟩ (rest := []) (stk2 := [va_rf v37]) (by rw [g37]; rfl) rfl (Nat.le_of_ble_eq_true rfl) hl dX7_advance_37 ?_
        obtain ⟨v40, e40, hr⟩ := ob hr
        refine v_cast C e40 (by decide) rfl w_874 dX7_advance_40 ?_
        refine v_astore_n C (i := 1) (lv' := [(1, va_rf v40), (0, va_rf (some x0))]) hl rfl (by decide) rfl dX7_advance_43 (fun ls hl => ?_)
        refine v_aload_n C (lv_at hl 1 rfl) rfl dX7_advance_44 ?_
        refine v_dup C (rf_cat _) dX7_advance_45 ?_
        obtain ⟨v46, e46, hr⟩ := ob hr
        refine v_getI C fl_RX7_18 rfl e46 dX7_advance_46 ?_
        refine v_iconst C 1 (by decide) dX7_advance_49 ?_
        refine v_iadd C dX7_advance_50 ?_
        obtain ⟨S51, e51, hr⟩ := ob hr
        refine v_putI C fl_RX7_18 (Or.inl rfl) rfl e51 dX7_advance_51 ?_
        refine v_aload_n C (lv_at hl 1 rfl) rfl dX7_advance_54 ?_
        refine v_aload_n C (lv_at hl 0 rfl) rfl dX7_advance_55 ?_
        obtain ⟨v56, e56, hr⟩ := ob hr
        refine v_getI C fl_RX7_116 rfl e56 dX7_advance_56 ?_
        obtain ⟨S59, e59, hr⟩ := ob hr
        refine v_putI C fl_RX7_23 (Or.inl rfl) rfl e59 dX7_advance_59 ?_
        refine v_aload_n C (lv_at hl 1 rfl) rfl dX7_advance_62 ?_
        refine v_aload_n C (lv_at hl 0 rfl) rfl dX7_advance_63 ?_
        obtain ⟨v64, e64, hr⟩ := ob hr
        refine v_getI C fl_RX7_117 rfl e64 dX7_advance_64 ?_
        obtain ⟨S67, e67, hr⟩ := ob hr
        refine v_putI C fl_RX7_26 (Or.inl rfl) rfl e67 dX7_advance_67 ?_
        refine v_aload_n C (lv_at hl 1 rfl) rfl dX7_advance_70 ?_
        refine v_aload_n C (lv_at hl 0 rfl) rfl dX7_advance_71 ?_
        obtain ⟨v72, e72, hr⟩ := ob hr
        refine v_getI C fl_RX7_118 rfl e72 dX7_advance_72 ?_
        obtain ⟨S75, e75, hr⟩ := ob hr
        refine v_putI C fl_RX7_29 (Or.inl rfl) rfl e75 dX7_advance_75 ?_
        obtain rfl := os hr
        exact v_vret C dX7_advance_78
      · rw [if_neg c25] at hr
        obtain rfl := os hr
        exact v_vret C dX7_advance_28
-- X7_refuse
def f_X7_refuse_20 (S : St) (x0 : Nat) : Option St :=
    (putI S (some x0) 8 5 1).bind fun S22 =>
    some S22
def f_X7_refuse (S : St) (x0 : Nat) (x1 : Int32) : Option St :=
    (getI S (some x0) 8 1).bind fun v1 =>
    (if v1 = 0 then
    (putI S (some x0) 8 1 x1).bind fun S9 =>
    (getI S9 (some x0) 8 6).bind fun v14 =>
    (putI S9 (some x0) 8 2 v14).bind fun S17 =>
    f_X7_refuse_20 S17 x0
    else
    f_X7_refuse_20 S x0)
theorem b_X7_refuse_20  {S0 S S' : St} {x0 : Nat} (C : Cx p s m args meth c G S0 yX7_refuse cX7_refuse 2 (Option.none : Option Jvm.ClassFile.FieldType)) (hr : f_X7_refuse_20 S x0 = some S') : ∀ ls : Array Slot, lv_has ls 2 [(0, va_rf (some x0))] → V p l e (rmo 0 0 S0) s m args below meth c G S0 S (QM below args s G S0 S' none) (F0 m 20 ls []) := by
  intro ls hl
  unfold f_X7_refuse_20 at hr
  refine v_aload_n C (lv_at hl 0 rfl) rfl dX7_refuse_20 ?_
  refine v_iconst C 1 (by decide) dX7_refuse_21 ?_
  obtain ⟨S22, e22, hr⟩ := ob hr
  refine v_putI C fl_RX7_23 (Or.inl rfl) rfl e22 dX7_refuse_22 ?_
  obtain rfl := os hr
  exact v_vret C dX7_refuse_25
theorem k_X7_refuse {l : Launch} {G : Ge} {S S' : St} {x0 : Nat} {x1 : Int32} (hr : f_X7_refuse S x0 x1 = some S') : Ct l G yX7_refuse cX7_refuse 2 (Option.none : Option Jvm.ClassFile.FieldType) S [va_rf (some x0), .int x1] none S' 0 0 := by
  refine ct_of (by decide +kernel) (Nat.le_of_ble_eq_true rfl) ?_
  intro p e s m args below meth c C ls hl
  have hl : lv_has ls 2 [(0, va_rf (some x0)), (1, .int x1)] := hl
  unfold f_X7_refuse at hr
  refine v_aload_n C (lv_at hl 0 rfl) rfl dX7_refuse_0 ?_
  obtain ⟨v1, e1, hr⟩ := ob hr
  refine v_getI C fl_RX7_9 rfl e1 dX7_refuse_1 ?_
  refine v_if_ne C 20 (by decide) dX7_refuse_4 (fun c4 => ?_) (fun c4 => ?_)
  · rw [if_neg c4] at hr
    exact b_X7_refuse_20 C hr _ (lv_sub hl [0] rfl)
  · rw [if_pos c4] at hr
    refine v_aload_n C (lv_at hl 0 rfl) rfl dX7_refuse_7 ?_
    refine v_iload_n C (lv_at hl 1 rfl) rfl dX7_refuse_8 ?_
    obtain ⟨S9, e9, hr⟩ := ob hr
    refine v_putI C fl_RX7_9 (Or.inl rfl) rfl e9 dX7_refuse_9 ?_
    refine v_aload_n C (lv_at hl 0 rfl) rfl dX7_refuse_12 ?_
    refine v_aload_n C (lv_at hl 0 rfl) rfl dX7_refuse_13 ?_
    obtain ⟨v14, e14, hr⟩ := ob hr
    refine v_getI C fl_RX7_26 rfl e14 dX7_refuse_14 ?_
    obtain ⟨S17, e17, hr⟩ := ob hr
    refine v_putI C fl_RX7_15 (Or.inl rfl) rfl e17 dX7_refuse_17 ?_
    exact b_X7_refuse_20 C hr _ (lv_sub hl [0] rfl)
-- X7_closeLine
def f_X7_closeLine (S : St) (x0 : Nat) : Option St :=
    (getI S (some x0) 8 5).bind fun v1 =>
    (if v1 = 17 then
    (getR S (some x0) 8 0).bind fun v10 =>
    (getI S v10 7 0).bind fun v14 =>
    (putI S v10 7 0 (v14 + 1)).bind fun S19 =>
    (rcv S19 (some x0) 8).bind fun b23 =>
    (f_X7_advance S19 b23).bind fun S23 =>
    some S23
    else
    (rcv S (some x0) 8).bind fun b31 =>
    (f_X7_refuse S b31 1).bind fun S31 =>
    some S31)
theorem k_X7_closeLine {l : Launch} {G : Ge} {S S' : St} {x0 : Nat} (hr : f_X7_closeLine S x0 = some S') : Ct l G yX7_closeLine cX7_closeLine 1 (Option.none : Option Jvm.ClassFile.FieldType) S [va_rf (some x0)] none S' 4 85 := by
  refine ct_of (by decide +kernel) (Nat.le_of_ble_eq_true rfl) ?_
  intro p e s m args below meth c C ls hl
  have hl : lv_has ls 1 [(0, va_rf (some x0))] := hl
  unfold f_X7_closeLine at hr
  refine v_aload_n C (lv_at hl 0 rfl) rfl dX7_closeLine_0 ?_
  obtain ⟨v1, e1, hr⟩ := ob hr
  refine v_getI C fl_RX7_23 rfl e1 dX7_closeLine_1 ?_
  refine v_bipush C 17 (by decide) dX7_closeLine_4 ?_
  refine v_icmp_ne C 29 (by decide) dX7_closeLine_6 (fun c6 => ?_) (fun c6 => ?_)
  · rw [if_neg c6] at hr
    refine v_aload_n C (lv_at hl 0 rfl) rfl dX7_closeLine_29 ?_
    refine v_iconst C 1 (by decide) dX7_closeLine_30 ?_
    obtain ⟨b31, f31, hr⟩ := ob hr
    obtain ⟨g31, h31⟩ := rcv_n f31
    obtain ⟨S31, e31, hr⟩ := ob hr
    refine v_callV C (b := b31) h31 (by decide) rfl rfl (k_X7_refuse e31) cw_X7_refuse w_875 w_877 w_13 (show (parseMethodDescriptor (yX7_refuse).desc).map (fun d => d.parameters.length) = some 1 by decide +kernel) ⟨by decide, by decide⟩ (rest := []) (stk2 := []) (by rw [g31]; rfl) rfl (Nat.le_of_ble_eq_true rfl) hl dX7_closeLine_31 ?_
    obtain rfl := os hr
    exact v_vret C dX7_closeLine_34
  · rw [if_pos c6] at hr
    refine v_aload_n C (lv_at hl 0 rfl) rfl dX7_closeLine_9 ?_
    obtain ⟨v10, e10, hr⟩ := ob hr
    refine v_getR C fl_RX7_50 rfl e10 dX7_closeLine_10 ?_
    refine v_dup C (rf_cat _) dX7_closeLine_13 ?_
    obtain ⟨v14, e14, hr⟩ := ob hr
    refine v_getI C fl_RX7_60 rfl e14 dX7_closeLine_14 ?_
    refine v_iconst C 1 (by decide) dX7_closeLine_17 ?_
    refine v_iadd C dX7_closeLine_18 ?_
    obtain ⟨S19, e19, hr⟩ := ob hr
    refine v_putI C fl_RX7_60 (Or.inl rfl) rfl e19 dX7_closeLine_19 ?_
    refine v_aload_n C (lv_at hl 0 rfl) rfl dX7_closeLine_22 ?_
    obtain ⟨b23, f23, hr⟩ := ob hr
    obtain ⟨g23, h23⟩ := rcv_n f23
    obtain ⟨S23, e23, hr⟩ := ob hr
    refine v_callV C (b := b23) h23 (by decide) rfl rfl (k_X7_advance e23) cw_X7_advance w_869 w_871 w_12 (show (parseMethodDescriptor (yX7_advance).desc).map (fun d => d.parameters.length) = some 0 by decide +kernel) ⟨by decide, by decide⟩ (rest := []) (stk2 := []) (by rw [g23]; rfl) rfl (Nat.le_of_ble_eq_true rfl) hl dX7_closeLine_23 ?_
    refine v_goto C 34 (by decide) dX7_closeLine_26 ?_
    obtain rfl := os hr
    exact v_vret C dX7_closeLine_34
-- X6_addCode
def f_X6_addCode (S : St) (x0 : Nat) (x1 : Int32) : Option St :=
    (getI S (some x0) 7 8).bind fun v1 =>
    (getR S (some x0) 7 7).bind fun v5 =>
    (alen S v5).bind fun v8 =>
    (f_X11_isWithin S v1 v8).bind fun v9 =>
    (if v9 = 0 then
    some S
    else
    (getR S (some x0) 7 7).bind fun v16 =>
    (getI S (some x0) 7 8).bind fun v20 =>
    (stI S v16 15 v20 x1).bind fun S24 =>
    (getI S24 (some x0) 7 8).bind fun v27 =>
    (putI S24 (some x0) 7 8 (v27 + 1)).bind fun S32 =>
    some S32)
theorem k_X6_addCode {l : Launch} {G : Ge} {S S' : St} {x0 : Nat} {x1 : Int32} (hr : f_X6_addCode S x0 x1 = some S') : Ct l G yX6_addCode cX6_addCode 2 (Option.none : Option Jvm.ClassFile.FieldType) S [va_rf (some x0), .int x1] none S' 1 21 := by
  refine ct_of (by decide +kernel) (Nat.le_of_ble_eq_true rfl) ?_
  intro p e s m args below meth c C ls hl
  have hl : lv_has ls 2 [(0, va_rf (some x0)), (1, .int x1)] := hl
  unfold f_X6_addCode at hr
  refine v_aload_n C (lv_at hl 0 rfl) rfl dX6_addCode_0 ?_
  obtain ⟨v1, e1, hr⟩ := ob hr
  refine v_getI C fl_RX6_34 rfl e1 dX6_addCode_1 ?_
  refine v_aload_n C (lv_at hl 0 rfl) rfl dX6_addCode_4 ?_
  obtain ⟨v5, e5, hr⟩ := ob hr
  refine v_getR C fl_RX6_43 rfl e5 dX6_addCode_5 ?_
  obtain ⟨v8, e8, hr⟩ := ob hr
  refine v_alen C e8 dX6_addCode_8 ?_
  obtain ⟨v9, e9, hr⟩ := ob hr
  refine v_callSN C "SleepOffice" (k_X11_isWithin e9) cw_X11_isWithin (by decide +kernel) w_350 (show (parseMethodDescriptor (yX11_isWithin).desc).map (fun d => d.parameters.length) = some 2 by decide +kernel) ⟨by decide, by decide⟩ (rest := []) (stk2 := [.int v9]) rfl rfl (Nat.le_of_ble_eq_true rfl) hl dX6_addCode_9 ?_
  refine v_if_eq C 35 (by decide) dX6_addCode_12 (fun c12 => ?_) (fun c12 => ?_)
  · rw [if_pos c12] at hr
    obtain rfl := os hr
    exact v_vret C dX6_addCode_35
  · rw [if_neg c12] at hr
    refine v_aload_n C (lv_at hl 0 rfl) rfl dX6_addCode_15 ?_
    obtain ⟨v16, e16, hr⟩ := ob hr
    refine v_getR C fl_RX6_43 rfl e16 dX6_addCode_16 ?_
    refine v_aload_n C (lv_at hl 0 rfl) rfl dX6_addCode_19 ?_
    obtain ⟨v20, e20, hr⟩ := ob hr
    refine v_getI C fl_RX6_34 rfl e20 dX6_addCode_20 ?_
    refine v_iload_n C (lv_at hl 1 rfl) rfl dX6_addCode_23 ?_
    obtain ⟨S24, e24, hr⟩ := ob hr
    refine v_stI_i C e24 dX6_addCode_24 ?_
    refine v_aload_n C (lv_at hl 0 rfl) rfl dX6_addCode_25 ?_
    refine v_dup C (rf_cat _) dX6_addCode_26 ?_
    obtain ⟨v27, e27, hr⟩ := ob hr
    refine v_getI C fl_RX6_34 rfl e27 dX6_addCode_27 ?_
    refine v_iconst C 1 (by decide) dX6_addCode_30 ?_
    refine v_iadd C dX6_addCode_31 ?_
    obtain ⟨S32, e32, hr⟩ := ob hr
    refine v_putI C fl_RX6_34 (Or.inl rfl) rfl e32 dX6_addCode_32 ?_
    obtain rfl := os hr
    exact v_vret C dX6_addCode_35
-- X7_opens
def f_X7_opens (S : St) (x0 : Nat) : Option (Int32 × St) :=
    (getI S (some x0) 8 8).bind fun v1 =>
    (if v1 < 8 then
    (getI S (some x0) 8 8).bind fun v18 =>
    (putI S (some x0) 8 8 (v18 + 1)).bind fun S23 =>
    some (1, S23)
    else
    (rcv S (some x0) 8).bind fun b11 =>
    (f_X7_refuse S b11 3).bind fun S11 =>
    some (0, S11))
theorem k_X7_opens {l : Launch} {G : Ge} {S S' : St} {x0 : Nat} {rr : Int32} (hr : f_X7_opens S x0 = some (rr, S')) : Ct l G yX7_opens cX7_opens 1 (Option.some Jvm.ClassFile.FieldType.boolean) S [va_rf (some x0)] (some (.int rr)) S' 1 21 := by
  refine ct_of (by decide +kernel) (Nat.le_of_ble_eq_true rfl) ?_
  intro p e s m args below meth c C ls hl
  have hl : lv_has ls 1 [(0, va_rf (some x0))] := hl
  unfold f_X7_opens at hr
  refine v_aload_n C (lv_at hl 0 rfl) rfl dX7_opens_0 ?_
  obtain ⟨v1, e1, hr⟩ := ob hr
  refine v_getI C fl_RX7_32 rfl e1 dX7_opens_1 ?_
  refine v_bipush C 8 (by decide) dX7_opens_4 ?_
  refine v_icmp_lt C 16 (by decide) dX7_opens_6 (fun c6 => ?_) (fun c6 => ?_)
  · rw [if_pos c6] at hr
    refine v_aload_n C (lv_at hl 0 rfl) rfl dX7_opens_16 ?_
    refine v_dup C (rf_cat _) dX7_opens_17 ?_
    obtain ⟨v18, e18, hr⟩ := ob hr
    refine v_getI C fl_RX7_32 rfl e18 dX7_opens_18 ?_
    refine v_iconst C 1 (by decide) dX7_opens_21 ?_
    refine v_iadd C dX7_opens_22 ?_
    obtain ⟨S23, e23, hr⟩ := ob hr
    refine v_putI C fl_RX7_32 (Or.inl rfl) rfl e23 dX7_opens_23 ?_
    refine v_iconst C 1 (by decide) dX7_opens_26 ?_
    obtain ⟨rfl, rfl⟩ := Prod.mk.inj (os hr)
    exact v_zret C rfl dX7_opens_27
  · rw [if_neg c6] at hr
    refine v_aload_n C (lv_at hl 0 rfl) rfl dX7_opens_9 ?_
    refine v_iconst C 3 (by decide) dX7_opens_10 ?_
    obtain ⟨b11, f11, hr⟩ := ob hr
    obtain ⟨g11, h11⟩ := rcv_n f11
    obtain ⟨S11, e11, hr⟩ := ob hr
    refine v_callV C (b := b11) h11 (by decide) rfl rfl (k_X7_refuse e11) cw_X7_refuse w_875 w_877 w_13 (show (parseMethodDescriptor (yX7_refuse).desc).map (fun d => d.parameters.length) = some 1 by decide +kernel) ⟨by decide, by decide⟩ (rest := []) (stk2 := []) (by rw [g11]; rfl) rfl (Nat.le_of_ble_eq_true rfl) hl dX7_opens_11 ?_
    refine v_iconst C 0 (by decide) dX7_opens_14 ?_
    obtain ⟨rfl, rfl⟩ := Prod.mk.inj (os hr)
    exact v_zret C rfl dX7_opens_15
-- X7_takeNumber
def f_X7_takeNumber_30 (S : St) (x0 : Nat) (x1 : Int32) : Option (Int32 × St) :=
    (rcv S (some x0) 8).bind fun b32 =>
    (f_X7_refuse S b32 2).bind fun S32 =>
    some (x1, S32)
def f_X7_takeNumber (S : St) (x0 : Nat) (x1 : Int32) (x2 : Int32) : Option (Int32 × St) :=
    (getI S (some x0) 8 7).bind fun v1 =>
    (getI S (some x0) 8 5).bind fun v6 =>
    (if v6 = 2 then
    (if v1 < x1 then
    f_X7_takeNumber_30 S x0 x1
    else
    (if v1 ≤ x2 then
    (rcv S (some x0) 8).bind fun b38 =>
    (f_X7_advance S b38).bind fun S38 =>
    some (v1, S38)
    else
    f_X7_takeNumber_30 S x0 x1))
    else
    (rcv S (some x0) 8).bind fun b15 =>
    (f_X7_refuse S b15 1).bind fun S15 =>
    some (x1, S15))
theorem b_X7_takeNumber_30  {S0 S S' : St} {rr : Int32} {x0 : Nat} {x1 : Int32} (C : Cx p s m args meth c G S0 yX7_takeNumber cX7_takeNumber 4 (Option.some Jvm.ClassFile.FieldType.int)) (hr : f_X7_takeNumber_30 S x0 x1 = some (rr, S')) : ∀ ls : Array Slot, lv_has ls 4 [(0, va_rf (some x0)), (1, .int x1)] → V p l e (rmo 4 85 S0) s m args below meth c G S0 S (QM below args s G S0 S' (some (.int rr))) (F0 m 30 ls []) := by
  intro ls hl
  unfold f_X7_takeNumber_30 at hr
  refine v_aload_n C (lv_at hl 0 rfl) rfl dX7_takeNumber_30 ?_
  refine v_iconst C 2 (by decide) dX7_takeNumber_31 ?_
  obtain ⟨b32, f32, hr⟩ := ob hr
  obtain ⟨g32, h32⟩ := rcv_n f32
  obtain ⟨S32, e32, hr⟩ := ob hr
  refine v_callV C (b := b32) h32 (by decide) rfl rfl (k_X7_refuse e32) cw_X7_refuse w_875 w_877 w_13 (show (parseMethodDescriptor (yX7_refuse).desc).map (fun d => d.parameters.length) = some 1 by decide +kernel) ⟨by decide, by decide⟩ (rest := []) (stk2 := []) (by rw [g32]; rfl) rfl (Nat.le_of_ble_eq_true rfl) hl dX7_takeNumber_32 ?_
  refine v_iload_n C (lv_at hl 1 rfl) rfl dX7_takeNumber_35 ?_
  obtain ⟨rfl, rfl⟩ := Prod.mk.inj (os hr)
  exact v_iret C dX7_takeNumber_36
theorem k_X7_takeNumber {l : Launch} {G : Ge} {S S' : St} {x0 : Nat} {x1 : Int32} {x2 : Int32} {rr : Int32} (hr : f_X7_takeNumber S x0 x1 x2 = some (rr, S')) : Ct l G yX7_takeNumber cX7_takeNumber 4 (Option.some Jvm.ClassFile.FieldType.int) S [va_rf (some x0), .int x1, .int x2] (some (.int rr)) S' 4 85 := by
  refine ct_of (by decide +kernel) (Nat.le_of_ble_eq_true rfl) ?_
  intro p e s m args below meth c C ls hl
  have hl : lv_has ls 4 [(0, va_rf (some x0)), (1, .int x1), (2, .int x2)] := hl
  unfold f_X7_takeNumber at hr
  refine v_aload_n C (lv_at hl 0 rfl) rfl dX7_takeNumber_0 ?_
  obtain ⟨v1, e1, hr⟩ := ob hr
  refine v_getI C fl_RX7_29 rfl e1 dX7_takeNumber_1 ?_
  refine v_istore_n C (i := 3) (lv' := [(3, .int v1), (0, va_rf (some x0)), (1, .int x1), (2, .int x2)]) hl rfl (by decide) rfl dX7_takeNumber_4 (fun ls hl => ?_)
  refine v_aload_n C (lv_at hl 1 rfl) rfl dX7_takeNumber_5 ?_
  obtain ⟨v6, e6, hr⟩ := ob hr
  refine v_getI C fl_RX7_23 rfl e6 dX7_takeNumber_6 ?_
  refine v_iconst C 2 (by decide) dX7_takeNumber_9 ?_
  refine v_icmp_eq C 20 (by decide) dX7_takeNumber_10 (fun c10 => ?_) (fun c10 => ?_)
  · rw [if_pos c10] at hr
    refine v_iload_n C (lv_at hl 0 rfl) rfl dX7_takeNumber_20 ?_
    refine v_iload_n C (lv_at hl 2 rfl) rfl dX7_takeNumber_21 ?_
    refine v_icmp_lt C 30 (by decide) dX7_takeNumber_22 (fun c22 => ?_) (fun c22 => ?_)
    · rw [if_pos c22] at hr
      exact b_X7_takeNumber_30 C hr _ (lv_sub hl [1, 2] rfl)
    · rw [if_neg c22] at hr
      refine v_iload_n C (lv_at hl 0 rfl) rfl dX7_takeNumber_25 ?_
      refine v_iload_n C (lv_at hl 3 rfl) rfl dX7_takeNumber_26 ?_
      refine v_icmp_le C 37 (by decide) dX7_takeNumber_27 (fun c27 => ?_) (fun c27 => ?_)
      · rw [if_pos c27] at hr
        refine v_aload_n C (lv_at hl 1 rfl) rfl dX7_takeNumber_37 ?_
        obtain ⟨b38, f38, hr⟩ := ob hr
        obtain ⟨g38, h38⟩ := rcv_n f38
        obtain ⟨S38, e38, hr⟩ := ob hr
        refine v_callV C (b := b38) h38 (by decide) rfl rfl (k_X7_advance e38) cw_X7_advance w_869 w_871 w_12 (show (parseMethodDescriptor (yX7_advance).desc).map (fun d => d.parameters.length) = some 0 by decide +kernel) ⟨by decide, by decide⟩ (rest := []) (stk2 := []) (by rw [g38]; rfl) rfl (Nat.le_of_ble_eq_true rfl) hl dX7_takeNumber_38 ?_
        refine v_iload_n C (lv_at hl 0 rfl) rfl dX7_takeNumber_41 ?_
        obtain ⟨rfl, rfl⟩ := Prod.mk.inj (os hr)
        exact v_iret C dX7_takeNumber_42
      · rw [if_neg c27] at hr
        exact b_X7_takeNumber_30 C hr _ (lv_sub hl [1, 2] rfl)
  · rw [if_neg c10] at hr
    refine v_aload_n C (lv_at hl 1 rfl) rfl dX7_takeNumber_13 ?_
    refine v_iconst C 1 (by decide) dX7_takeNumber_14 ?_
    obtain ⟨b15, f15, hr⟩ := ob hr
    obtain ⟨g15, h15⟩ := rcv_n f15
    obtain ⟨S15, e15, hr⟩ := ob hr
    refine v_callV C (b := b15) h15 (by decide) rfl rfl (k_X7_refuse e15) cw_X7_refuse w_875 w_877 w_13 (show (parseMethodDescriptor (yX7_refuse).desc).map (fun d => d.parameters.length) = some 1 by decide +kernel) ⟨by decide, by decide⟩ (rest := []) (stk2 := []) (by rw [g15]; rfl) rfl (Nat.le_of_ble_eq_true rfl) hl dX7_takeNumber_15 ?_
    refine v_iload_n C (lv_at hl 2 rfl) rfl dX7_takeNumber_18 ?_
    obtain ⟨rfl, rfl⟩ := Prod.mk.inj (os hr)
    exact v_iret C dX7_takeNumber_19
-- X7_readUnit
def f_X7_readTerms_121 (ru : St → Nat → Option St) (rec : St → Nat → Int32 → Int32 → Option (Nat × Int32 × St)) (S : St) (x0 : Nat) (x1 : Int32) (x2 : Int32) (x3 : Int32) (x4 : Int32) : Option (Nat × Int32 × St) :=
    (if x4 = 0 then
    (getR S (some x0) 8 0).bind fun v127 =>
    (rcv S v127 7).bind fun b132 =>
    (f_X6_addCode S b132 (-x3)).bind fun S132 =>
    rec S132 x0 x1 (x2 + 1)
    else
    rec S x0 x1 (x2 + 1))
def f_X7_readTerms_89 (ru : St → Nat → Option St) (rec : St → Nat → Int32 → Int32 → Option (Nat × Int32 × St)) (S : St) (x0 : Nat) (x2 : Int32) (x3 : Int32) (x4 : Int32) (t0 : Int32) : Option (Nat × Int32 × St) :=
    (rcv S (some x0) 8).bind fun b91 =>
    (f_X7_advance S b91).bind fun S91 =>
    (if x3 = 21 then
    (getR S91 (some x0) 8 0).bind fun v101 =>
    (rcv S91 (some x0) 8).bind fun b108 =>
    (f_X7_takeNumber S91 b108 1 99999).bind fun (v108, S108) =>
    (rcv S108 v101 7).bind fun b111 =>
    (f_X6_addCode S108 b111 v108).bind fun S111 =>
    f_X7_readTerms_121 ru (rec) S111 x0 t0 x2 x3 x4
    else
    (rcv S91 (some x0) 8).bind fun b118 =>
    (ru S91 b118).bind fun S118 =>
    f_X7_readTerms_121 ru (rec) S118 x0 t0 x2 x3 x4)
def f_X7_readTerms_79 (ru : St → Nat → Option St) (rec : St → Nat → Int32 → Int32 → Option (Nat × Int32 × St)) (S : St) (x0 : Nat) (x1 : Int32) (x2 : Int32) (x3 : Int32) (x4 : Int32) : Option (Nat × Int32 × St) :=
    (if x4 = 0 then
    f_X7_readTerms_89 ru (rec) S x0 x2 x3 x4 x1
    else
    f_X7_readTerms_89 ru (rec) S x0 x2 x3 x4 x3)
def f_X7_readTerms_59 (ru : St → Nat → Option St) (rec : St → Nat → Int32 → Int32 → Option (Nat × Int32 × St)) (S : St) (x0 : Nat) (x1 : Int32) (x2 : Int32) (x3 : Int32) (t0 : Int32) : Option (Nat × Int32 × St) :=
    (if t0 = 0 then
    f_X7_readTerms_79 ru (rec) S x0 x1 x2 x3 t0
    else
    (if x1 = 0 then
    f_X7_readTerms_79 ru (rec) S x0 x1 x2 x3 t0
    else
    (getR S (some x0) 8 0).bind fun v71 =>
    (rcv S v71 7).bind fun b76 =>
    (f_X6_addCode S b76 (-x1)).bind fun S76 =>
    f_X7_readTerms_79 ru (rec) S76 x0 x1 x2 x3 t0))
def f_X7_readTerms_54 (ru : St → Nat → Option St) (rec : St → Nat → Int32 → Int32 → Option (Nat × Int32 × St)) (S : St) (x0 : Nat) (x1 : Int32) (x2 : Int32) (x3 : Int32) : Option (Nat × Int32 × St) :=
    f_X7_readTerms_59 ru (rec) S x0 x1 x2 x3 1
def f_X7_readTerms_8 (ru : St → Nat → Option St) : Nat → St → Nat → Int32 → Int32 → Option (Nat × Int32 × St)
  | 0, _, _, _, _ => none
  | n + 1, S, x0, x1, x2 =>
    (getR S (some x0) 8 3).bind fun v10 =>
    (rcv S v10 0).bind fun b13 =>
    (f_Jx4a65c_size_8abf5 S b13).bind fun v13 =>
    (if v13 ≤ x2 then
    some (x0, x1, S)
    else
    (getI S (some x0) 8 5).bind fun v20 =>
    (if v20 < 18 then
    some (x0, x1, S)
    else
    (getI S (some x0) 8 5).bind fun v29 =>
    (if (21 : Int32) < v29 then
    some (x0, x1, S)
    else
    (getI S (some x0) 8 5).bind fun v38 =>
    (if v38 = 18 then
    f_X7_readTerms_54 ru (f_X7_readTerms_8 ru n) S x0 x1 x2 v38
    else
    (if v38 = 19 then
    f_X7_readTerms_54 ru (f_X7_readTerms_8 ru n) S x0 x1 x2 v38
    else
    f_X7_readTerms_59 ru (f_X7_readTerms_8 ru n) S x0 x1 x2 v38 0)))))
def f_X7_readTerms_141 (ru : St → Nat → Option St) (S : St) (x0 : Nat) (x1 : Int32) : Option St :=
    (if x1 = 0 then
    some S
    else
    (getR S (some x0) 8 0).bind fun v146 =>
    (rcv S v146 7).bind fun b151 =>
    (f_X6_addCode S b151 (-x1)).bind fun S151 =>
    some S151)
def f_X7_readTerms (ru : St → Nat → Option St) (S : St) (x0 : Nat) : Option St :=
    (rcv S (some x0) 8).bind fun b3 =>
    (ru S b3).bind fun S3 =>
    (f_X7_readTerms_8 ru FU S3 x0 0 0).bind fun (x0, x1_8, S_8) => f_X7_readTerms_141 ru S_8 x0 x1_8
def f_X7_readUnit_63 (ru : St → Nat → Option St) (S : St) (x0 : Nat) : Option St :=
    (getI S (some x0) 8 5).bind fun v64 =>
    (if v64 = 22 then
    (rcv S (some x0) 8).bind fun b81 =>
    (f_X7_opens S b81).bind fun (v81, S81) =>
    (if v81 = 0 then
    some S81
    else
    (rcv S81 (some x0) 8).bind fun b88 =>
    (f_X7_advance S81 b88).bind fun S88 =>
    (rcv S88 (some x0) 8).bind fun b92 =>
    (f_X7_readTerms ru S88 b92).bind fun S92 =>
    (getI S92 (some x0) 8 8).bind fun v97 =>
    (putI S92 (some x0) 8 8 (v97 - 1)).bind fun S102 =>
    (getI S102 (some x0) 8 5).bind fun v106 =>
    (if v106 = 23 then
    (rcv S102 (some x0) 8).bind fun b115 =>
    (f_X7_advance S102 b115).bind fun S115 =>
    some S115
    else
    (rcv S102 (some x0) 8).bind fun b123 =>
    (f_X7_refuse S102 b123 1).bind fun S123 =>
    some S123))
    else
    (rcv S (some x0) 8).bind fun b74 =>
    (f_X7_refuse S b74 1).bind fun S74 =>
    some S74)
def f_X7_readUnit (ru : St → Nat → Option St) (S : St) (x0 : Nat) : Option St :=
    (getI S (some x0) 8 5).bind fun v1 =>
    (if v1 = 2 then
    (getR S (some x0) 8 0).bind fun v9 =>
    (getI S (some x0) 8 7).bind fun v13 =>
    (rcv S v9 7).bind fun b16 =>
    (f_X6_addCode S b16 v13).bind fun S16 =>
    (rcv S16 (some x0) 8).bind fun b20 =>
    (f_X7_advance S16 b20).bind fun S20 =>
    some S20
    else
    (getI S (some x0) 8 5).bind fun v27 =>
    (if v27 < 10 then
    f_X7_readUnit_63 ru S x0
    else
    (getI S (some x0) 8 5).bind fun v36 =>
    (if (13 : Int32) < v36 then
    f_X7_readUnit_63 ru S x0
    else
    (getR S (some x0) 8 0).bind fun v45 =>
    (getI S (some x0) 8 5).bind fun v49 =>
    (rcv S v45 7).bind fun b53 =>
    (f_X6_addCode S b53 (-v49)).bind fun S53 =>
    (rcv S53 (some x0) 8).bind fun b57 =>
    (f_X7_advance S53 b57).bind fun S57 =>
    some S57)))
def r_X7_readUnit : Nat → St → Nat → Option St
  | 0, _, _ => none
  | d + 1, S, x0 => f_X7_readUnit (r_X7_readUnit d) S x0
def F_X7_readTerms (S : St) (x0 : Nat) : Option St := f_X7_readTerms (r_X7_readUnit 32) S x0
def F_X7_readUnit (S : St) (x0 : Nat) : Option St := r_X7_readUnit 32 S x0
theorem b_X7_readTerms_121 {ru : St → Nat → Option St} {fru lru : Nat} (hfe : 5 ≤ fru) (hle : 108 ≤ lru) (hru : ∀ {S S' : St} {x0 : Nat}, ru S x0 = some S' → Ct l G yX7_readUnit cX7_readUnit 1 (Option.none : Option Jvm.ClassFile.FieldType) S [va_rf (some x0)] none S' fru lru)  {S0 S S' : St} {x0 : Nat} {x1 : Int32} {x2 : Int32} {x3 : Int32} {x4 : Int32} (C : Cx p s m args meth c G S0 yX7_readTerms cX7_readTerms 5 (Option.none : Option Jvm.ClassFile.FieldType)) {o : (Nat × Int32 × St)} {rec : St → Nat → Int32 → Int32 → Option (Nat × Int32 × St)} (kX141 : ∀ {x0 : Nat} {x1 : Int32} {Z : St}, o = (x0, x1, Z) → ∀ ls : Array Slot, lv_has ls 5 [(0, va_rf (some x0)), (1, .int x1)] → V p l e (rmo (fru + 1) (lru + 20) S0) s m args below meth c G S0 Z (QM below args s G S0 S' none) (F0 m 141 ls [])) (ihk : ∀ {S : St} {x0 : Nat} {x1 : Int32} {x2 : Int32}, rec S x0 x1 x2 = some o → ∀ ls : Array Slot, lv_has ls 5 [(0, va_rf (some x0)), (1, .int x1), (2, .int x2)] → V p l e (rmo (fru + 1) (lru + 20) S0) s m args below meth c G S0 S (QM below args s G S0 S' none) (F0 m 8 ls [])) (hr : f_X7_readTerms_121 ru rec S x0 x1 x2 x3 x4 = some o) : ∀ ls : Array Slot, lv_has ls 5 [(0, va_rf (some x0)), (1, .int x1), (2, .int x2), (3, .int x3), (4, .int x4)] → V p l e (rmo (fru + 1) (lru + 20) S0) s m args below meth c G S0 S (QM below args s G S0 S' none) (F0 m 121 ls []) := by
  intro ls hl
  unfold f_X7_readTerms_121 at hr
  refine v_iload C (lv_at hl 4 rfl) dX7_readTerms_121 ?_
  refine v_if_ne C 135 (by decide) dX7_readTerms_123 (fun c123 => ?_) (fun c123 => ?_)
  · rw [if_neg c123] at hr
    refine v_iinc C (x2 + 1) (k0 := 2) (lv' := [(2, .int (x2 + 1)), (0, va_rf (some x0)), (1, .int x1), (3, .int x3), (4, .int x4)]) hl rfl rfl (by decide) rfl dX7_readTerms_135 (fun ls hl => ?_)
    refine v_goto C 8 (by decide) dX7_readTerms_138 ?_
    exact ihk hr _ (lv_sub hl [1, 2, 0] rfl)
  · rw [if_pos c123] at hr
    refine v_aload_n C (lv_at hl 0 rfl) rfl dX7_readTerms_126 ?_
    obtain ⟨v127, e127, hr⟩ := ob hr
    refine v_getR C fl_RX7_50 rfl e127 dX7_readTerms_127 ?_
    refine v_iload_n C (lv_at hl 3 rfl) rfl dX7_readTerms_130 ?_
    refine v_ineg C dX7_readTerms_131 ?_
    obtain ⟨b132, f132, hr⟩ := ob hr
    obtain ⟨g132, h132⟩ := rcv_n f132
    obtain ⟨S132, e132, hr⟩ := ob hr
    refine v_callV C (b := b132) h132 (by decide) rfl rfl (k_X6_addCode e132) cw_X6_addCode w_887 w_888 w_889 (show (parseMethodDescriptor (yX6_addCode).desc).map (fun d => d.parameters.length) = some 1 by decide +kernel) ⟨by omega, by omega⟩ (rest := []) (stk2 := []) (by rw [g132]; rfl) rfl (Nat.le_of_ble_eq_true rfl) hl dX7_readTerms_132 ?_
    refine v_iinc C (x2 + 1) (k0 := 2) (lv' := [(2, .int (x2 + 1)), (0, va_rf (some x0)), (1, .int x1), (3, .int x3), (4, .int x4)]) hl rfl rfl (by decide) rfl dX7_readTerms_135 (fun ls hl => ?_)
    refine v_goto C 8 (by decide) dX7_readTerms_138 ?_
    exact ihk hr _ (lv_sub hl [1, 2, 0] rfl)
theorem b_X7_readTerms_89 {ru : St → Nat → Option St} {fru lru : Nat} (hfe : 5 ≤ fru) (hle : 108 ≤ lru) (hru : ∀ {S S' : St} {x0 : Nat}, ru S x0 = some S' → Ct l G yX7_readUnit cX7_readUnit 1 (Option.none : Option Jvm.ClassFile.FieldType) S [va_rf (some x0)] none S' fru lru)  {S0 S S' : St} {x0 : Nat} {x2 : Int32} {x3 : Int32} {x4 : Int32} {t0 : Int32} (C : Cx p s m args meth c G S0 yX7_readTerms cX7_readTerms 5 (Option.none : Option Jvm.ClassFile.FieldType)) {o : (Nat × Int32 × St)} {rec : St → Nat → Int32 → Int32 → Option (Nat × Int32 × St)} (kX141 : ∀ {x0 : Nat} {x1 : Int32} {Z : St}, o = (x0, x1, Z) → ∀ ls : Array Slot, lv_has ls 5 [(0, va_rf (some x0)), (1, .int x1)] → V p l e (rmo (fru + 1) (lru + 20) S0) s m args below meth c G S0 Z (QM below args s G S0 S' none) (F0 m 141 ls [])) (ihk : ∀ {S : St} {x0 : Nat} {x1 : Int32} {x2 : Int32}, rec S x0 x1 x2 = some o → ∀ ls : Array Slot, lv_has ls 5 [(0, va_rf (some x0)), (1, .int x1), (2, .int x2)] → V p l e (rmo (fru + 1) (lru + 20) S0) s m args below meth c G S0 S (QM below args s G S0 S' none) (F0 m 8 ls [])) (hr : f_X7_readTerms_89 ru rec S x0 x2 x3 x4 t0 = some o) : ∀ ls : Array Slot, lv_has ls 5 [(0, va_rf (some x0)), (2, .int x2), (3, .int x3), (4, .int x4)] → V p l e (rmo (fru + 1) (lru + 20) S0) s m args below meth c G S0 S (QM below args s G S0 S' none) (F0 m 89 ls [.int t0]) := by
  intro ls hl
  unfold f_X7_readTerms_89 at hr
  refine v_istore_n C (i := 1) (lv' := [(1, .int t0), (0, va_rf (some x0)), (2, .int x2), (3, .int x3), (4, .int x4)]) hl rfl (by decide) rfl dX7_readTerms_89 (fun ls hl => ?_)
  refine v_aload_n C (lv_at hl 1 rfl) rfl dX7_readTerms_90 ?_
  obtain ⟨b91, f91, hr⟩ := ob hr
  obtain ⟨g91, h91⟩ := rcv_n f91
  obtain ⟨S91, e91, hr⟩ := ob hr
  refine v_callV C (b := b91) h91 (by decide) rfl rfl (k_X7_advance e91) cw_X7_advance w_869 w_871 w_12 (show (parseMethodDescriptor (yX7_advance).desc).map (fun d => d.parameters.length) = some 0 by decide +kernel) ⟨by omega, by omega⟩ (rest := []) (stk2 := []) (by rw [g91]; rfl) rfl (Nat.le_of_ble_eq_true rfl) hl dX7_readTerms_91 ?_
  refine v_iload_n C (lv_at hl 3 rfl) rfl dX7_readTerms_94 ?_
  refine v_bipush C 21 (by decide) dX7_readTerms_95 ?_
  refine v_icmp_ne C 117 (by decide) dX7_readTerms_97 (fun c97 => ?_) (fun c97 => ?_)
  · rw [if_neg c97] at hr
    refine v_aload_n C (lv_at hl 1 rfl) rfl dX7_readTerms_117 ?_
    obtain ⟨b118, f118, hr⟩ := ob hr
    obtain ⟨g118, h118⟩ := rcv_n f118
    obtain ⟨S118, e118, hr⟩ := ob hr
    refine v_callV C (b := b118) h118 (by decide) rfl rfl (hru e118) cw_X7_readUnit w_883 w_885 w_15 (show (parseMethodDescriptor (yX7_readUnit).desc).map (fun d => d.parameters.length) = some 0 by decide +kernel) ⟨by omega, by omega⟩ (rest := []) (stk2 := []) (by rw [g118]; rfl) rfl (Nat.le_of_ble_eq_true rfl) hl dX7_readTerms_118 ?_
    exact b_X7_readTerms_121 hfe hle (@hru) C (@kX141) (@ihk) hr _ (lv_sub hl [1, 0, 2, 3, 4] rfl)
  · rw [if_pos c97] at hr
    refine v_aload_n C (lv_at hl 1 rfl) rfl dX7_readTerms_100 ?_
    obtain ⟨v101, e101, hr⟩ := ob hr
    refine v_getR C fl_RX7_50 rfl e101 dX7_readTerms_101 ?_
    refine v_aload_n C (lv_at hl 1 rfl) rfl dX7_readTerms_104 ?_
    refine v_iconst C 1 (by decide) dX7_readTerms_105 ?_
    refine v_ldc C w_896 dX7_readTerms_106 ?_
    obtain ⟨b108, f108, hr⟩ := ob hr
    obtain ⟨g108, h108⟩ := rcv_n f108
    obtain ⟨⟨v108, S108⟩, e108, hr⟩ := ob hr
    (try dsimp only at hr)
    refine v_callV C (b := b108) h108 (by decide) rfl rfl (k_X7_takeNumber e108) cw_X7_takeNumber w_897 w_899 w_17 (show (parseMethodDescriptor (yX7_takeNumber).desc).map (fun d => d.parameters.length) = some 2 by decide +kernel) ⟨by omega, by omega⟩ (rest := [va_rf v101]) (stk2 := [.int v108, va_rf v101]) (by rw [g108]; rfl) rfl (by simp [rf_cat, cat_i, cat_l]) hl dX7_readTerms_108 ?_
    obtain ⟨b111, f111, hr⟩ := ob hr
    obtain ⟨g111, h111⟩ := rcv_n f111
    obtain ⟨S111, e111, hr⟩ := ob hr
    refine v_callV C (b := b111) h111 (by decide) rfl rfl (k_X6_addCode e111) cw_X6_addCode w_887 w_888 w_889 (show (parseMethodDescriptor (yX6_addCode).desc).map (fun d => d.parameters.length) = some 1 by decide +kernel) ⟨by omega, by omega⟩ (rest := []) (stk2 := []) (by rw [g111]; rfl) rfl (Nat.le_of_ble_eq_true rfl) hl dX7_readTerms_111 ?_
    refine v_goto C 121 (by decide) dX7_readTerms_114 ?_
    exact b_X7_readTerms_121 hfe hle (@hru) C (@kX141) (@ihk) hr _ (lv_sub hl [1, 0, 2, 3, 4] rfl)
theorem b_X7_readTerms_79 {ru : St → Nat → Option St} {fru lru : Nat} (hfe : 5 ≤ fru) (hle : 108 ≤ lru) (hru : ∀ {S S' : St} {x0 : Nat}, ru S x0 = some S' → Ct l G yX7_readUnit cX7_readUnit 1 (Option.none : Option Jvm.ClassFile.FieldType) S [va_rf (some x0)] none S' fru lru)  {S0 S S' : St} {x0 : Nat} {x1 : Int32} {x2 : Int32} {x3 : Int32} {x4 : Int32} (C : Cx p s m args meth c G S0 yX7_readTerms cX7_readTerms 5 (Option.none : Option Jvm.ClassFile.FieldType)) {o : (Nat × Int32 × St)} {rec : St → Nat → Int32 → Int32 → Option (Nat × Int32 × St)} (kX141 : ∀ {x0 : Nat} {x1 : Int32} {Z : St}, o = (x0, x1, Z) → ∀ ls : Array Slot, lv_has ls 5 [(0, va_rf (some x0)), (1, .int x1)] → V p l e (rmo (fru + 1) (lru + 20) S0) s m args below meth c G S0 Z (QM below args s G S0 S' none) (F0 m 141 ls [])) (ihk : ∀ {S : St} {x0 : Nat} {x1 : Int32} {x2 : Int32}, rec S x0 x1 x2 = some o → ∀ ls : Array Slot, lv_has ls 5 [(0, va_rf (some x0)), (1, .int x1), (2, .int x2)] → V p l e (rmo (fru + 1) (lru + 20) S0) s m args below meth c G S0 S (QM below args s G S0 S' none) (F0 m 8 ls [])) (hr : f_X7_readTerms_79 ru rec S x0 x1 x2 x3 x4 = some o) : ∀ ls : Array Slot, lv_has ls 5 [(0, va_rf (some x0)), (1, .int x1), (2, .int x2), (3, .int x3), (4, .int x4)] → V p l e (rmo (fru + 1) (lru + 20) S0) s m args below meth c G S0 S (QM below args s G S0 S' none) (F0 m 79 ls []) := by
  intro ls hl
  unfold f_X7_readTerms_79 at hr
  refine v_iload C (lv_at hl 4 rfl) dX7_readTerms_79 ?_
  refine v_if_eq C 88 (by decide) dX7_readTerms_81 (fun c81 => ?_) (fun c81 => ?_)
  · rw [if_pos c81] at hr
    refine v_iload_n C (lv_at hl 1 rfl) rfl dX7_readTerms_88 ?_
    exact b_X7_readTerms_89 hfe hle (@hru) C (@kX141) (@ihk) hr _ (lv_sub hl [0, 2, 3, 4] rfl)
  · rw [if_neg c81] at hr
    refine v_iload_n C (lv_at hl 3 rfl) rfl dX7_readTerms_84 ?_
    refine v_goto C 89 (by decide) dX7_readTerms_85 ?_
    exact b_X7_readTerms_89 hfe hle (@hru) C (@kX141) (@ihk) hr _ (lv_sub hl [0, 2, 3, 4] rfl)
theorem b_X7_readTerms_59 {ru : St → Nat → Option St} {fru lru : Nat} (hfe : 5 ≤ fru) (hle : 108 ≤ lru) (hru : ∀ {S S' : St} {x0 : Nat}, ru S x0 = some S' → Ct l G yX7_readUnit cX7_readUnit 1 (Option.none : Option Jvm.ClassFile.FieldType) S [va_rf (some x0)] none S' fru lru)  {S0 S S' : St} {x0 : Nat} {x1 : Int32} {x2 : Int32} {x3 : Int32} {t0 : Int32} (C : Cx p s m args meth c G S0 yX7_readTerms cX7_readTerms 5 (Option.none : Option Jvm.ClassFile.FieldType)) {o : (Nat × Int32 × St)} {rec : St → Nat → Int32 → Int32 → Option (Nat × Int32 × St)} (kX141 : ∀ {x0 : Nat} {x1 : Int32} {Z : St}, o = (x0, x1, Z) → ∀ ls : Array Slot, lv_has ls 5 [(0, va_rf (some x0)), (1, .int x1)] → V p l e (rmo (fru + 1) (lru + 20) S0) s m args below meth c G S0 Z (QM below args s G S0 S' none) (F0 m 141 ls [])) (ihk : ∀ {S : St} {x0 : Nat} {x1 : Int32} {x2 : Int32}, rec S x0 x1 x2 = some o → ∀ ls : Array Slot, lv_has ls 5 [(0, va_rf (some x0)), (1, .int x1), (2, .int x2)] → V p l e (rmo (fru + 1) (lru + 20) S0) s m args below meth c G S0 S (QM below args s G S0 S' none) (F0 m 8 ls [])) (hr : f_X7_readTerms_59 ru rec S x0 x1 x2 x3 t0 = some o) : ∀ ls : Array Slot, lv_has ls 5 [(0, va_rf (some x0)), (1, .int x1), (2, .int x2), (3, .int x3)] → V p l e (rmo (fru + 1) (lru + 20) S0) s m args below meth c G S0 S (QM below args s G S0 S' none) (F0 m 59 ls [.int t0]) := by
  intro ls hl
  unfold f_X7_readTerms_59 at hr
  refine v_istore C (i := 4) (lv' := [(4, .int t0), (0, va_rf (some x0)), (1, .int x1), (2, .int x2), (3, .int x3)]) hl (by decide) rfl dX7_readTerms_59 (fun ls hl => ?_)
  refine v_iload C (lv_at hl 0 rfl) dX7_readTerms_61 ?_
  refine v_if_eq C 79 (by decide) dX7_readTerms_63 (fun c63 => ?_) (fun c63 => ?_)
  · rw [if_pos c63] at hr
    exact b_X7_readTerms_79 hfe hle (@hru) C (@kX141) (@ihk) hr _ (lv_sub hl [1, 2, 3, 4, 0] rfl)
  · rw [if_neg c63] at hr
    refine v_iload_n C (lv_at hl 2 rfl) rfl dX7_readTerms_66 ?_
    refine v_if_eq C 79 (by decide) dX7_readTerms_67 (fun c67 => ?_) (fun c67 => ?_)
    · rw [if_pos c67] at hr
      exact b_X7_readTerms_79 hfe hle (@hru) C (@kX141) (@ihk) hr _ (lv_sub hl [1, 2, 3, 4, 0] rfl)
    · rw [if_neg c67] at hr
      refine v_aload_n C (lv_at hl 1 rfl) rfl dX7_readTerms_70 ?_
      obtain ⟨v71, e71, hr⟩ := ob hr
      refine v_getR C fl_RX7_50 rfl e71 dX7_readTerms_71 ?_
      refine v_iload_n C (lv_at hl 2 rfl) rfl dX7_readTerms_74 ?_
      refine v_ineg C dX7_readTerms_75 ?_
      obtain ⟨b76, f76, hr⟩ := ob hr
      obtain ⟨g76, h76⟩ := rcv_n f76
      obtain ⟨S76, e76, hr⟩ := ob hr
      refine v_callV C (b := b76) h76 (by decide) rfl rfl (k_X6_addCode e76) cw_X6_addCode w_887 w_888 w_889 (show (parseMethodDescriptor (yX6_addCode).desc).map (fun d => d.parameters.length) = some 1 by decide +kernel) ⟨by omega, by omega⟩ (rest := []) (stk2 := []) (by rw [g76]; rfl) rfl (Nat.le_of_ble_eq_true rfl) hl dX7_readTerms_76 ?_
      exact b_X7_readTerms_79 hfe hle (@hru) C (@kX141) (@ihk) hr _ (lv_sub hl [1, 2, 3, 4, 0] rfl)
theorem b_X7_readTerms_54 {ru : St → Nat → Option St} {fru lru : Nat} (hfe : 5 ≤ fru) (hle : 108 ≤ lru) (hru : ∀ {S S' : St} {x0 : Nat}, ru S x0 = some S' → Ct l G yX7_readUnit cX7_readUnit 1 (Option.none : Option Jvm.ClassFile.FieldType) S [va_rf (some x0)] none S' fru lru)  {S0 S S' : St} {x0 : Nat} {x1 : Int32} {x2 : Int32} {x3 : Int32} (C : Cx p s m args meth c G S0 yX7_readTerms cX7_readTerms 5 (Option.none : Option Jvm.ClassFile.FieldType)) {o : (Nat × Int32 × St)} {rec : St → Nat → Int32 → Int32 → Option (Nat × Int32 × St)} (kX141 : ∀ {x0 : Nat} {x1 : Int32} {Z : St}, o = (x0, x1, Z) → ∀ ls : Array Slot, lv_has ls 5 [(0, va_rf (some x0)), (1, .int x1)] → V p l e (rmo (fru + 1) (lru + 20) S0) s m args below meth c G S0 Z (QM below args s G S0 S' none) (F0 m 141 ls [])) (ihk : ∀ {S : St} {x0 : Nat} {x1 : Int32} {x2 : Int32}, rec S x0 x1 x2 = some o → ∀ ls : Array Slot, lv_has ls 5 [(0, va_rf (some x0)), (1, .int x1), (2, .int x2)] → V p l e (rmo (fru + 1) (lru + 20) S0) s m args below meth c G S0 S (QM below args s G S0 S' none) (F0 m 8 ls [])) (hr : f_X7_readTerms_54 ru rec S x0 x1 x2 x3 = some o) : ∀ ls : Array Slot, lv_has ls 5 [(0, va_rf (some x0)), (1, .int x1), (2, .int x2), (3, .int x3)] → V p l e (rmo (fru + 1) (lru + 20) S0) s m args below meth c G S0 S (QM below args s G S0 S' none) (F0 m 54 ls []) := by
  intro ls hl
  unfold f_X7_readTerms_54 at hr
  refine v_iconst C 1 (by decide) dX7_readTerms_54 ?_
  refine v_goto C 59 (by decide) dX7_readTerms_55 ?_
  exact b_X7_readTerms_59 hfe hle (@hru) C (@kX141) (@ihk) hr _ (lv_sub hl [0, 1, 2, 3] rfl)
theorem b_X7_readTerms_8 {ru : St → Nat → Option St} {fru lru : Nat} (hfe : 5 ≤ fru) (hle : 108 ≤ lru) (hru : ∀ {S S' : St} {x0 : Nat}, ru S x0 = some S' → Ct l G yX7_readUnit cX7_readUnit 1 (Option.none : Option Jvm.ClassFile.FieldType) S [va_rf (some x0)] none S' fru lru)  {S0 S' : St} (C : Cx p s m args meth c G S0 yX7_readTerms cX7_readTerms 5 (Option.none : Option Jvm.ClassFile.FieldType)) {o : (Nat × Int32 × St)} (kX141 : ∀ {x0 : Nat} {x1 : Int32} {Z : St}, o = (x0, x1, Z) → ∀ ls : Array Slot, lv_has ls 5 [(0, va_rf (some x0)), (1, .int x1)] → V p l e (rmo (fru + 1) (lru + 20) S0) s m args below meth c G S0 Z (QM below args s G S0 S' none) (F0 m 141 ls [])) : ∀ (n : Nat) {S : St} {x0 : Nat} {x1 : Int32} {x2 : Int32}, f_X7_readTerms_8 ru n S x0 x1 x2 = some o → ∀ ls : Array Slot, lv_has ls 5 [(0, va_rf (some x0)), (1, .int x1), (2, .int x2)] → V p l e (rmo (fru + 1) (lru + 20) S0) s m args below meth c G S0 S (QM below args s G S0 S' none) (F0 m 8 ls []) := by
  intro n
  induction n with
  | zero => intro S x0 x1 x2 hr; cases hr
  | succ n ih =>
    intro S x0 x1 x2 hr ls hl
    unfold f_X7_readTerms_8 at hr
    refine v_iload_n C (lv_at hl 2 rfl) rfl dX7_readTerms_8 ?_
    refine v_aload_n C (lv_at hl 0 rfl) rfl dX7_readTerms_9 ?_
    obtain ⟨v10, e10, hr⟩ := ob hr
    refine v_getR C fl_RX7_35 rfl e10 dX7_readTerms_10 ?_
    obtain ⟨b13, f13, hr⟩ := ob hr
    obtain ⟨g13, h13⟩ := rcv_n f13
    obtain ⟨v13, e13, hr⟩ := ob hr
    refine v_callV C (b := b13) h13 (by decide) rfl rfl (k_Jx4a65c_size_8abf5 e13) cw_Jx4a65c_size_8abf5 w_832 w_353 w_354 (show (parseMethodDescriptor (yJx4a65c_size_8abf5).desc).map (fun d => d.parameters.length) = some 0 by decide +kernel) ⟨by omega, by omega⟩ (rest := [.int x2]) (stk2 := [.int v13, .int x2]) (by rw [g13]; rfl) rfl (Nat.le_of_ble_eq_true rfl) hl dX7_readTerms_13 ?_
    refine v_icmp_ge C 141 (by decide) dX7_readTerms_16 (fun c16 => ?_) (fun c16 => ?_)
    · rw [if_pos c16] at hr
      obtain rfl := os hr
      exact kX141 rfl _ (lv_sub hl [0, 1] rfl)
    · rw [if_neg c16] at hr
      refine v_aload_n C (lv_at hl 0 rfl) rfl dX7_readTerms_19 ?_
      obtain ⟨v20, e20, hr⟩ := ob hr
      refine v_getI C fl_RX7_23 rfl e20 dX7_readTerms_20 ?_
      refine v_bipush C 18 (by decide) dX7_readTerms_23 ?_
      refine v_icmp_lt C 141 (by decide) dX7_readTerms_25 (fun c25 => ?_) (fun c25 => ?_)
      · rw [if_pos c25] at hr
        obtain rfl := os hr
        exact kX141 rfl _ (lv_sub hl [0, 1] rfl)
      · rw [if_neg c25] at hr
        refine v_aload_n C (lv_at hl 0 rfl) rfl dX7_readTerms_28 ?_
        obtain ⟨v29, e29, hr⟩ := ob hr
        refine v_getI C fl_RX7_23 rfl e29 dX7_readTerms_29 ?_
        refine v_bipush C 21 (by decide) dX7_readTerms_32 ?_
        refine v_icmp_gt C 141 (by decide) dX7_readTerms_34 (fun c34 => ?_) (fun c34 => ?_)
        · rw [if_pos c34] at hr
          obtain rfl := os hr
          exact kX141 rfl _ (lv_sub hl [0, 1] rfl)
        · rw [if_neg c34] at hr
          refine v_aload_n C (lv_at hl 0 rfl) rfl dX7_readTerms_37 ?_
          obtain ⟨v38, e38, hr⟩ := ob hr
          refine v_getI C fl_RX7_23 rfl e38 dX7_readTerms_38 ?_
          refine v_istore_n C (i := 3) (lv' := [(3, .int v38), (0, va_rf (some x0)), (1, .int x1), (2, .int x2)]) hl rfl (by decide) rfl dX7_readTerms_41 (fun ls hl => ?_)
          refine v_iload_n C (lv_at hl 0 rfl) rfl dX7_readTerms_42 ?_
          refine v_bipush C 18 (by decide) dX7_readTerms_43 ?_
          refine v_icmp_eq C 54 (by decide) dX7_readTerms_45 (fun c45 => ?_) (fun c45 => ?_)
          · rw [if_pos c45] at hr
            exact b_X7_readTerms_54 hfe hle (@hru) C (@kX141) (@ih) hr _ (lv_sub hl [1, 2, 3, 0] rfl)
          · rw [if_neg c45] at hr
            refine v_iload_n C (lv_at hl 0 rfl) rfl dX7_readTerms_48 ?_
            refine v_bipush C 19 (by decide) dX7_readTerms_49 ?_
            refine v_icmp_ne C 58 (by decide) dX7_readTerms_51 (fun c51 => ?_) (fun c51 => ?_)
            · rw [if_neg c51] at hr
              refine v_iconst C 0 (by decide) dX7_readTerms_58 ?_
              exact b_X7_readTerms_59 hfe hle (@hru) C (@kX141) (@ih) hr _ (lv_sub hl [1, 2, 3, 0] rfl)
            · rw [if_pos c51] at hr
              exact b_X7_readTerms_54 hfe hle (@hru) C (@kX141) (@ih) hr _ (lv_sub hl [1, 2, 3, 0] rfl)
theorem b_X7_readTerms_141 {ru : St → Nat → Option St} {fru lru : Nat} (hfe : 5 ≤ fru) (hle : 108 ≤ lru) (hru : ∀ {S S' : St} {x0 : Nat}, ru S x0 = some S' → Ct l G yX7_readUnit cX7_readUnit 1 (Option.none : Option Jvm.ClassFile.FieldType) S [va_rf (some x0)] none S' fru lru)  {S0 S S' : St} {x0 : Nat} {x1 : Int32} (C : Cx p s m args meth c G S0 yX7_readTerms cX7_readTerms 5 (Option.none : Option Jvm.ClassFile.FieldType)) (hr : f_X7_readTerms_141 ru S x0 x1 = some S') : ∀ ls : Array Slot, lv_has ls 5 [(0, va_rf (some x0)), (1, .int x1)] → V p l e (rmo (fru + 1) (lru + 20) S0) s m args below meth c G S0 S (QM below args s G S0 S' none) (F0 m 141 ls []) := by
  intro ls hl
  unfold f_X7_readTerms_141 at hr
  refine v_iload_n C (lv_at hl 1 rfl) rfl dX7_readTerms_141 ?_
  refine v_if_eq C 154 (by decide) dX7_readTerms_142 (fun c142 => ?_) (fun c142 => ?_)
  · rw [if_pos c142] at hr
    obtain rfl := os hr
    exact v_vret C dX7_readTerms_154
  · rw [if_neg c142] at hr
    refine v_aload_n C (lv_at hl 0 rfl) rfl dX7_readTerms_145 ?_
    obtain ⟨v146, e146, hr⟩ := ob hr
    refine v_getR C fl_RX7_50 rfl e146 dX7_readTerms_146 ?_
    refine v_iload_n C (lv_at hl 1 rfl) rfl dX7_readTerms_149 ?_
    refine v_ineg C dX7_readTerms_150 ?_
    obtain ⟨b151, f151, hr⟩ := ob hr
    obtain ⟨g151, h151⟩ := rcv_n f151
    obtain ⟨S151, e151, hr⟩ := ob hr
    refine v_callV C (b := b151) h151 (by decide) rfl rfl (k_X6_addCode e151) cw_X6_addCode w_887 w_888 w_889 (show (parseMethodDescriptor (yX6_addCode).desc).map (fun d => d.parameters.length) = some 1 by decide +kernel) ⟨by omega, by omega⟩ (rest := []) (stk2 := []) (by rw [g151]; rfl) rfl (Nat.le_of_ble_eq_true rfl) hl dX7_readTerms_151 ?_
    obtain rfl := os hr
    exact v_vret C dX7_readTerms_154
theorem k_X7_readTerms {l : Launch} {G : Ge} {ru : St → Nat → Option St} {fru lru : Nat} (hfe : 5 ≤ fru) (hle : 108 ≤ lru) (hru : ∀ {S S' : St} {x0 : Nat}, ru S x0 = some S' → Ct l G yX7_readUnit cX7_readUnit 1 (Option.none : Option Jvm.ClassFile.FieldType) S [va_rf (some x0)] none S' fru lru) {S S' : St} {x0 : Nat} (hr : f_X7_readTerms ru S x0 = some S') : Ct l G yX7_readTerms cX7_readTerms 5 (Option.none : Option Jvm.ClassFile.FieldType) S [va_rf (some x0)] none S' (fru + 1) (lru + 20) := by
  refine ct_of (by decide +kernel) (Nat.le_of_ble_eq_true rfl) ?_
  intro p e s m args below meth c C ls hl
  have hl : lv_has ls 5 [(0, va_rf (some x0))] := hl
  unfold f_X7_readTerms at hr
  refine v_iconst C 0 (by decide) dX7_readTerms_0 ?_
  refine v_istore_n C (i := 1) (lv' := [(1, .int 0), (0, va_rf (some x0))]) hl rfl (by decide) rfl dX7_readTerms_1 (fun ls hl => ?_)
  refine v_aload_n C (lv_at hl 1 rfl) rfl dX7_readTerms_2 ?_
  obtain ⟨b3, f3, hr⟩ := ob hr
  obtain ⟨g3, h3⟩ := rcv_n f3
  obtain ⟨S3, e3, hr⟩ := ob hr
  refine v_callV C (b := b3) h3 (by decide) rfl rfl (hru e3) cw_X7_readUnit w_883 w_885 w_15 (show (parseMethodDescriptor (yX7_readUnit).desc).map (fun d => d.parameters.length) = some 0 by decide +kernel) ⟨by omega, by omega⟩ (rest := []) (stk2 := []) (by rw [g3]; rfl) rfl (Nat.le_of_ble_eq_true rfl) hl dX7_readTerms_3 ?_
  refine v_iconst C 0 (by decide) dX7_readTerms_6 ?_
  refine v_istore_n C (i := 2) (lv' := [(2, .int 0), (1, .int 0), (0, va_rf (some x0))]) hl rfl (by decide) rfl dX7_readTerms_7 (fun ls hl => ?_)
  obtain ⟨o8, e8, hr⟩ := ob hr
  refine b_X7_readTerms_8 hfe hle (@hru) C ?_ FU e8 _ (lv_sub hl [2, 1, 0] rfl)
  · intro x0 x1_8 S_8 q ls hl
    subst q
    (try dsimp only at hr)
    exact b_X7_readTerms_141 hfe hle (@hru) C hr _ (lv_sub hl [0, 1] rfl)
theorem b_X7_readUnit_63 {ru : St → Nat → Option St} {fru lru : Nat} (hfe : 5 ≤ fru) (hle : 108 ≤ lru) (hru : ∀ {S S' : St} {x0 : Nat}, ru S x0 = some S' → Ct l G yX7_readUnit cX7_readUnit 1 (Option.none : Option Jvm.ClassFile.FieldType) S [va_rf (some x0)] none S' fru lru)  {S0 S S' : St} {x0 : Nat} (C : Cx p s m args meth c G S0 yX7_readUnit cX7_readUnit 1 (Option.none : Option Jvm.ClassFile.FieldType)) (hr : f_X7_readUnit_63 ru S x0 = some S') : ∀ ls : Array Slot, lv_has ls 1 [(0, va_rf (some x0))] → V p l e (rmo (fru + 2) (lru + 44) S0) s m args below meth c G S0 S (QM below args s G S0 S' none) (F0 m 63 ls []) := by
  intro ls hl
  unfold f_X7_readUnit_63 at hr
  refine v_aload_n C (lv_at hl 0 rfl) rfl dX7_readUnit_63 ?_
  obtain ⟨v64, e64, hr⟩ := ob hr
  refine v_getI C fl_RX7_23 rfl e64 dX7_readUnit_64 ?_
  refine v_bipush C 22 (by decide) dX7_readUnit_67 ?_
  refine v_icmp_eq C 80 (by decide) dX7_readUnit_69 (fun c69 => ?_) (fun c69 => ?_)
  · rw [if_pos c69] at hr
    refine v_aload_n C (lv_at hl 0 rfl) rfl dX7_readUnit_80 ?_
    obtain ⟨b81, f81, hr⟩ := ob hr
    obtain ⟨g81, h81⟩ := rcv_n f81
    obtain ⟨⟨v81, S81⟩, e81, hr⟩ := ob hr
    (try dsimp only at hr)
    refine v_callV C (b := b81) h81 (by decide) rfl rfl (k_X7_opens e81) cw_X7_opens w_892 w_894 w_16 (show (parseMethodDescriptor (yX7_opens).desc).map (fun d => d.parameters.length) = some 0 by decide +kernel) ⟨by omega, by omega⟩ (rest := []) (stk2 := [.int v81]) (by rw [g81]; rfl) rfl (Nat.le_of_ble_eq_true rfl) hl dX7_readUnit_81 ?_
    refine v_if_eq C 126 (by decide) dX7_readUnit_84 (fun c84 => ?_) (fun c84 => ?_)
    · rw [if_pos c84] at hr
      obtain rfl := os hr
      exact v_vret C dX7_readUnit_126
    · rw [if_neg c84] at hr
      refine v_aload_n C (lv_at hl 0 rfl) rfl dX7_readUnit_87 ?_
      obtain ⟨b88, f88, hr⟩ := ob hr
      obtain ⟨g88, h88⟩ := rcv_n f88
      obtain ⟨S88, e88, hr⟩ := ob hr
      refine v_callV C (b := b88) h88 (by decide) rfl rfl (k_X7_advance e88) cw_X7_advance w_869 w_871 w_12 (show (parseMethodDescriptor (yX7_advance).desc).map (fun d => d.parameters.length) = some 0 by decide +kernel) ⟨by omega, by omega⟩ (rest := []) (stk2 := []) (by rw [g88]; rfl) rfl (Nat.le_of_ble_eq_true rfl) hl dX7_readUnit_88 ?_
      refine v_aload_n C (lv_at hl 0 rfl) rfl dX7_readUnit_91 ?_
      obtain ⟨b92, f92, hr⟩ := ob hr
      obtain ⟨g92, h92⟩ := rcv_n f92
      obtain ⟨S92, e92, hr⟩ := ob hr
      refine v_callV C (b := b92) h92 (by decide) rfl rfl (k_X7_readTerms hfe hle (@hru) e92) cw_X7_readTerms w_879 w_881 w_14 (show (parseMethodDescriptor (yX7_readTerms).desc).map (fun d => d.parameters.length) = some 0 by decide +kernel) ⟨by omega, by omega⟩ (rest := []) (stk2 := []) (by rw [g92]; rfl) rfl (Nat.le_of_ble_eq_true rfl) hl dX7_readUnit_92 ?_
      refine v_aload_n C (lv_at hl 0 rfl) rfl dX7_readUnit_95 ?_
      refine v_dup C (rf_cat _) dX7_readUnit_96 ?_
      obtain ⟨v97, e97, hr⟩ := ob hr
      refine v_getI C fl_RX7_32 rfl e97 dX7_readUnit_97 ?_
      refine v_iconst C 1 (by decide) dX7_readUnit_100 ?_
      refine v_isub C dX7_readUnit_101 ?_
      obtain ⟨S102, e102, hr⟩ := ob hr
      refine v_putI C fl_RX7_32 (Or.inl rfl) rfl e102 dX7_readUnit_102 ?_
      refine v_aload_n C (lv_at hl 0 rfl) rfl dX7_readUnit_105 ?_
      obtain ⟨v106, e106, hr⟩ := ob hr
      refine v_getI C fl_RX7_23 rfl e106 dX7_readUnit_106 ?_
      refine v_bipush C 23 (by decide) dX7_readUnit_109 ?_
      refine v_icmp_ne C 121 (by decide) dX7_readUnit_111 (fun c111 => ?_) (fun c111 => ?_)
      · rw [if_neg c111] at hr
        refine v_aload_n C (lv_at hl 0 rfl) rfl dX7_readUnit_121 ?_
        refine v_iconst C 1 (by decide) dX7_readUnit_122 ?_
        obtain ⟨b123, f123, hr⟩ := ob hr
        obtain ⟨g123, h123⟩ := rcv_n f123
        obtain ⟨S123, e123, hr⟩ := ob hr
        refine v_callV C (b := b123) h123 (by decide) rfl rfl (k_X7_refuse e123) cw_X7_refuse w_875 w_877 w_13 (show (parseMethodDescriptor (yX7_refuse).desc).map (fun d => d.parameters.length) = some 1 by decide +kernel) ⟨by omega, by omega⟩ (rest := []) (stk2 := []) (by rw [g123]; rfl) rfl (Nat.le_of_ble_eq_true rfl) hl dX7_readUnit_123 ?_
        obtain rfl := os hr
        exact v_vret C dX7_readUnit_126
      · rw [if_pos c111] at hr
        refine v_aload_n C (lv_at hl 0 rfl) rfl dX7_readUnit_114 ?_
        obtain ⟨b115, f115, hr⟩ := ob hr
        obtain ⟨g115, h115⟩ := rcv_n f115
        obtain ⟨S115, e115, hr⟩ := ob hr
        refine v_callV C (b := b115) h115 (by decide) rfl rfl (k_X7_advance e115) cw_X7_advance w_869 w_871 w_12 (show (parseMethodDescriptor (yX7_advance).desc).map (fun d => d.parameters.length) = some 0 by decide +kernel) ⟨by omega, by omega⟩ (rest := []) (stk2 := []) (by rw [g115]; rfl) rfl (Nat.le_of_ble_eq_true rfl) hl dX7_readUnit_115 ?_
        refine v_goto C 126 (by decide) dX7_readUnit_118 ?_
        obtain rfl := os hr
        exact v_vret C dX7_readUnit_126
  · rw [if_neg c69] at hr
    refine v_aload_n C (lv_at hl 0 rfl) rfl dX7_readUnit_72 ?_
    refine v_iconst C 1 (by decide) dX7_readUnit_73 ?_
    obtain ⟨b74, f74, hr⟩ := ob hr
    obtain ⟨g74, h74⟩ := rcv_n f74
    obtain ⟨S74, e74, hr⟩ := ob hr
    refine v_callV C (b := b74) h74 (by decide) rfl rfl (k_X7_refuse e74) cw_X7_refuse w_875 w_877 w_13 (show (parseMethodDescriptor (yX7_refuse).desc).map (fun d => d.parameters.length) = some 1 by decide +kernel) ⟨by omega, by omega⟩ (rest := []) (stk2 := []) (by rw [g74]; rfl) rfl (Nat.le_of_ble_eq_true rfl) hl dX7_readUnit_74 ?_
    refine v_goto C 126 (by decide) dX7_readUnit_77 ?_
    obtain rfl := os hr
    exact v_vret C dX7_readUnit_126
theorem k_X7_readUnit {l : Launch} {G : Ge} {ru : St → Nat → Option St} {fru lru : Nat} (hfe : 5 ≤ fru) (hle : 108 ≤ lru) (hru : ∀ {S S' : St} {x0 : Nat}, ru S x0 = some S' → Ct l G yX7_readUnit cX7_readUnit 1 (Option.none : Option Jvm.ClassFile.FieldType) S [va_rf (some x0)] none S' fru lru) {S S' : St} {x0 : Nat} (hr : f_X7_readUnit ru S x0 = some S') : Ct l G yX7_readUnit cX7_readUnit 1 (Option.none : Option Jvm.ClassFile.FieldType) S [va_rf (some x0)] none S' (fru + 2) (lru + 44) := by
  refine ct_of (by decide +kernel) (Nat.le_of_ble_eq_true rfl) ?_
  intro p e s m args below meth c C ls hl
  have hl : lv_has ls 1 [(0, va_rf (some x0))] := hl
  unfold f_X7_readUnit at hr
  refine v_aload_n C (lv_at hl 0 rfl) rfl dX7_readUnit_0 ?_
  obtain ⟨v1, e1, hr⟩ := ob hr
  refine v_getI C fl_RX7_23 rfl e1 dX7_readUnit_1 ?_
  refine v_iconst C 2 (by decide) dX7_readUnit_4 ?_
  refine v_icmp_ne C 26 (by decide) dX7_readUnit_5 (fun c5 => ?_) (fun c5 => ?_)
  · rw [if_neg c5] at hr
    refine v_aload_n C (lv_at hl 0 rfl) rfl dX7_readUnit_26 ?_
    obtain ⟨v27, e27, hr⟩ := ob hr
    refine v_getI C fl_RX7_23 rfl e27 dX7_readUnit_27 ?_
    refine v_bipush C 10 (by decide) dX7_readUnit_30 ?_
    refine v_icmp_lt C 63 (by decide) dX7_readUnit_32 (fun c32 => ?_) (fun c32 => ?_)
    · rw [if_pos c32] at hr
      exact b_X7_readUnit_63 hfe hle (@hru) C hr _ (lv_sub hl [0] rfl)
    · rw [if_neg c32] at hr
      refine v_aload_n C (lv_at hl 0 rfl) rfl dX7_readUnit_35 ?_
      obtain ⟨v36, e36, hr⟩ := ob hr
      refine v_getI C fl_RX7_23 rfl e36 dX7_readUnit_36 ?_
      refine v_bipush C 13 (by decide) dX7_readUnit_39 ?_
      refine v_icmp_gt C 63 (by decide) dX7_readUnit_41 (fun c41 => ?_) (fun c41 => ?_)
      · rw [if_pos c41] at hr
        exact b_X7_readUnit_63 hfe hle (@hru) C hr _ (lv_sub hl [0] rfl)
      · rw [if_neg c41] at hr
        refine v_aload_n C (lv_at hl 0 rfl) rfl dX7_readUnit_44 ?_
        obtain ⟨v45, e45, hr⟩ := ob hr
        refine v_getR C fl_RX7_50 rfl e45 dX7_readUnit_45 ?_
        refine v_aload_n C (lv_at hl 0 rfl) rfl dX7_readUnit_48 ?_
        obtain ⟨v49, e49, hr⟩ := ob hr
        refine v_getI C fl_RX7_23 rfl e49 dX7_readUnit_49 ?_
        refine v_ineg C dX7_readUnit_52 ?_
        obtain ⟨b53, f53, hr⟩ := ob hr
        obtain ⟨g53, h53⟩ := rcv_n f53
        obtain ⟨S53, e53, hr⟩ := ob hr
        refine v_callV C (b := b53) h53 (by decide) rfl rfl (k_X6_addCode e53) cw_X6_addCode w_887 w_888 w_889 (show (parseMethodDescriptor (yX6_addCode).desc).map (fun d => d.parameters.length) = some 1 by decide +kernel) ⟨by omega, by omega⟩ (rest := []) (stk2 := []) (by rw [g53]; rfl) rfl (Nat.le_of_ble_eq_true rfl) hl dX7_readUnit_53 ?_
        refine v_aload_n C (lv_at hl 0 rfl) rfl dX7_readUnit_56 ?_
        obtain ⟨b57, f57, hr⟩ := ob hr
        obtain ⟨g57, h57⟩ := rcv_n f57
        obtain ⟨S57, e57, hr⟩ := ob hr
        refine v_callV C (b := b57) h57 (by decide) rfl rfl (k_X7_advance e57) cw_X7_advance w_869 w_871 w_12 (show (parseMethodDescriptor (yX7_advance).desc).map (fun d => d.parameters.length) = some 0 by decide +kernel) ⟨by omega, by omega⟩ (rest := []) (stk2 := []) (by rw [g57]; rfl) rfl (Nat.le_of_ble_eq_true rfl) hl dX7_readUnit_57 ?_
        refine v_goto C 126 (by decide) dX7_readUnit_60 ?_
        obtain rfl := os hr
        exact v_vret C dX7_readUnit_126
  · rw [if_pos c5] at hr
    refine v_aload_n C (lv_at hl 0 rfl) rfl dX7_readUnit_8 ?_
    obtain ⟨v9, e9, hr⟩ := ob hr
    refine v_getR C fl_RX7_50 rfl e9 dX7_readUnit_9 ?_
    refine v_aload_n C (lv_at hl 0 rfl) rfl dX7_readUnit_12 ?_
    obtain ⟨v13, e13, hr⟩ := ob hr
    refine v_getI C fl_RX7_29 rfl e13 dX7_readUnit_13 ?_
    obtain ⟨b16, f16, hr⟩ := ob hr
    obtain ⟨g16, h16⟩ := rcv_n f16
    obtain ⟨S16, e16, hr⟩ := ob hr
    refine v_callV C (b := b16) h16 (by decide) rfl rfl (k_X6_addCode e16) cw_X6_addCode w_887 w_888 w_889 (show (parseMethodDescriptor (yX6_addCode).desc).map (fun d => d.parameters.length) = some 1 by decide +kernel) ⟨by omega, by omega⟩ (rest := []) (stk2 := []) (by rw [g16]; rfl) rfl (Nat.le_of_ble_eq_true rfl) hl dX7_readUnit_16 ?_
    refine v_aload_n C (lv_at hl 0 rfl) rfl dX7_readUnit_19 ?_
    obtain ⟨b20, f20, hr⟩ := ob hr
    obtain ⟨g20, h20⟩ := rcv_n f20
    obtain ⟨S20, e20, hr⟩ := ob hr
    refine v_callV C (b := b20) h20 (by decide) rfl rfl (k_X7_advance e20) cw_X7_advance w_869 w_871 w_12 (show (parseMethodDescriptor (yX7_advance).desc).map (fun d => d.parameters.length) = some 0 by decide +kernel) ⟨by omega, by omega⟩ (rest := []) (stk2 := []) (by rw [g20]; rfl) rfl (Nat.le_of_ble_eq_true rfl) hl dX7_readUnit_20 ?_
    refine v_goto C 126 (by decide) dX7_readUnit_23 ?_
    obtain rfl := os hr
    exact v_vret C dX7_readUnit_126
theorem kr_X7_readUnit {l : Launch} {G : Ge} : ∀ (d : Nat) {S S' : St} {x0 : Nat}, r_X7_readUnit d S x0 = some S' → Ct l G yX7_readUnit cX7_readUnit 1 (Option.none : Option Jvm.ClassFile.FieldType) S [va_rf (some x0)] none S' (5 + 2 * d) (108 + 44 * d) := by
  intro d
  induction d with
  | zero => intro S S' x0 hr; cases hr
  | succ d ih =>
    intro S S' x0 hr
    unfold r_X7_readUnit at hr
    rw [Nat.mul_succ, Nat.mul_succ, ← Nat.add_assoc, ← Nat.add_assoc]
    exact k_X7_readUnit (ru := r_X7_readUnit d) (fru := 5 + 2 * d) (lru := 108 + 44 * d) (by omega) (by omega) (@ih) hr
theorem K_X7_readTerms {l : Launch} {G : Ge} {S S' : St} {x0 : Nat} (hr : F_X7_readTerms S x0 = some S') : Ct l G yX7_readTerms cX7_readTerms 5 (Option.none : Option Jvm.ClassFile.FieldType) S [va_rf (some x0)] none S' 70 1536 := k_X7_readTerms (by decide) (by decide) (@kr_X7_readUnit l G 32) hr
theorem K_X7_readUnit {l : Launch} {G : Ge} {S S' : St} {x0 : Nat} (hr : F_X7_readUnit S x0 = some S') : Ct l G yX7_readUnit cX7_readUnit 1 (Option.none : Option Jvm.ClassFile.FieldType) S [va_rf (some x0)] none S' 69 1516 := kr_X7_readUnit 32 hr
-- X7_readTest
def f_X7_readTest_2 : Nat → St → Nat → Int32 → Option (Nat × Int32 × St)
  | 0, _, _, _ => none
  | n + 1, S, x0, x1 =>
    (if (8 : Int32) < x1 then
    some (x0, x1, S)
    else
    (getI S (some x0) 8 5).bind fun v9 =>
    (if v9 = 16 then
    (rcv S (some x0) 8).bind fun b18 =>
    (f_X7_opens S b18).bind fun (v18, S18) =>
    (if v18 = 0 then
    some (x0, x1, S18)
    else
    (rcv S18 (some x0) 8).bind fun b25 =>
    (f_X7_advance S18 b25).bind fun S25 =>
    f_X7_readTest_2 n S25 x0 (x1 + 1))
    else
    some (x0, x1, S)))
def f_X7_readTest_55 (S : St) (x0 : Nat) : Option St :=
    (rcv S (some x0) 8).bind fun b57 =>
    (f_X7_refuse S b57 1).bind fun S57 =>
    some S57
def f_X7_readTest_94 (S : St) (x0 : Nat) (x1 : Int32) : Option St :=
    (getI S (some x0) 8 8).bind fun v96 =>
    (putI S (some x0) 8 8 (v96 - x1)).bind fun S101 =>
    some S101
def f_X7_readTest_34 (S : St) (x0 : Nat) (x1 : Int32) : Option St :=
    (rcv S (some x0) 8).bind fun b35 =>
    (F_X7_readTerms S b35).bind fun S35 =>
    (getI S35 (some x0) 8 5).bind fun v39 =>
    (if v39 < 24 then
    f_X7_readTest_55 S35 x0
    else
    (if v39 ≤ 26 then
    (rcv S35 (some x0) 8).bind fun b62 =>
    (f_X7_advance S35 b62).bind fun S62 =>
    (rcv S62 (some x0) 8).bind fun b66 =>
    (F_X7_readTerms S62 b66).bind fun S66 =>
    (getR S66 (some x0) 8 0).bind fun v70 =>
    (rcv S66 v70 7).bind fun b75 =>
    (f_X6_addCode S66 b75 (-v39)).bind fun S75 =>
    (remI x1 2).bind fun v80 =>
    (if v80 = 1 then
    (getR S75 (some x0) 8 0).bind fun v86 =>
    (rcv S75 v86 7).bind fun b91 =>
    (f_X6_addCode S75 b91 (-16)).bind fun S91 =>
    f_X7_readTest_94 S91 x0 x1
    else
    f_X7_readTest_94 S75 x0 x1)
    else
    f_X7_readTest_55 S35 x0))
def f_X7_readTest (S : St) (x0 : Nat) : Option St :=
    (f_X7_readTest_2 FU S x0 0).bind fun (x0, x1_2, S_2) => f_X7_readTest_34 S_2 x0 x1_2
theorem b_X7_readTest_2  {S0 S' : St} (C : Cx p s m args meth c G S0 yX7_readTest cX7_readTest 3 (Option.none : Option Jvm.ClassFile.FieldType)) {o : (Nat × Int32 × St)} (kX34 : ∀ {x0 : Nat} {x1 : Int32} {Z : St}, o = (x0, x1, Z) → ∀ ls : Array Slot, lv_has ls 3 [(0, va_rf (some x0)), (1, .int x1)] → V p l e (rmo 71 1560 S0) s m args below meth c G S0 Z (QM below args s G S0 S' none) (F0 m 34 ls [])) : ∀ (n : Nat) {S : St} {x0 : Nat} {x1 : Int32}, f_X7_readTest_2 n S x0 x1 = some o → ∀ ls : Array Slot, lv_has ls 3 [(0, va_rf (some x0)), (1, .int x1)] → V p l e (rmo 71 1560 S0) s m args below meth c G S0 S (QM below args s G S0 S' none) (F0 m 2 ls []) := by
  intro n
  induction n with
  | zero => intro S x0 x1 hr; cases hr
  | succ n ih =>
    intro S x0 x1 hr ls hl
    unfold f_X7_readTest_2 at hr
    refine v_iload_n C (lv_at hl 1 rfl) rfl dX7_readTest_2 ?_
    refine v_bipush C 8 (by decide) dX7_readTest_3 ?_
    refine v_icmp_gt C 34 (by decide) dX7_readTest_5 (fun c5 => ?_) (fun c5 => ?_)
    · rw [if_pos c5] at hr
      obtain rfl := os hr
      exact kX34 rfl _ (lv_sub hl [0, 1] rfl)
    · rw [if_neg c5] at hr
      refine v_aload_n C (lv_at hl 0 rfl) rfl dX7_readTest_8 ?_
      obtain ⟨v9, e9, hr⟩ := ob hr
      refine v_getI C fl_RX7_23 rfl e9 dX7_readTest_9 ?_
      refine v_bipush C 16 (by decide) dX7_readTest_12 ?_
      refine v_icmp_ne C 34 (by decide) dX7_readTest_14 (fun c14 => ?_) (fun c14 => ?_)
      · rw [if_neg c14] at hr
        obtain rfl := os hr
        exact kX34 rfl _ (lv_sub hl [0, 1] rfl)
      · rw [if_pos c14] at hr
        refine v_aload_n C (lv_at hl 0 rfl) rfl dX7_readTest_17 ?_
        obtain ⟨b18, f18, hr⟩ := ob hr
        obtain ⟨g18, h18⟩ := rcv_n f18
        obtain ⟨⟨v18, S18⟩, e18, hr⟩ := ob hr
        (try dsimp only at hr)
        refine v_callV C (b := b18) h18 (by decide) rfl rfl (k_X7_opens e18) cw_X7_opens w_892 w_894 w_16 (show (parseMethodDescriptor (yX7_opens).desc).map (fun d => d.parameters.length) = some 0 by decide +kernel) ⟨by decide, by decide⟩ (rest := []) (stk2 := [.int v18]) (by rw [g18]; rfl) rfl (Nat.le_of_ble_eq_true rfl) hl dX7_readTest_18 ?_
        refine v_if_eq C 34 (by decide) dX7_readTest_21 (fun c21 => ?_) (fun c21 => ?_)
        · rw [if_pos c21] at hr
          obtain rfl := os hr
          exact kX34 rfl _ (lv_sub hl [0, 1] rfl)
        · rw [if_neg c21] at hr
          refine v_aload_n C (lv_at hl 0 rfl) rfl dX7_readTest_24 ?_
          obtain ⟨b25, f25, hr⟩ := ob hr
          obtain ⟨g25, h25⟩ := rcv_n f25
          obtain ⟨S25, e25, hr⟩ := ob hr
          refine v_callV C (b := b25) h25 (by decide) rfl rfl (k_X7_advance e25) cw_X7_advance w_869 w_871 w_12 (show (parseMethodDescriptor (yX7_advance).desc).map (fun d => d.parameters.length) = some 0 by decide +kernel) ⟨by decide, by decide⟩ (rest := []) (stk2 := []) (by rw [g25]; rfl) rfl (Nat.le_of_ble_eq_true rfl) hl dX7_readTest_25 ?_
          refine v_iinc C (x1 + 1) (k0 := 1) (lv' := [(1, .int (x1 + 1)), (0, va_rf (some x0))]) hl rfl rfl (by decide) rfl dX7_readTest_28 (fun ls hl => ?_)
          refine v_goto C 2 (by decide) dX7_readTest_31 ?_
          exact ih hr _ (lv_sub hl [1, 0] rfl)
theorem b_X7_readTest_55  {S0 S S' : St} {x0 : Nat} (C : Cx p s m args meth c G S0 yX7_readTest cX7_readTest 3 (Option.none : Option Jvm.ClassFile.FieldType)) (hr : f_X7_readTest_55 S x0 = some S') : ∀ ls : Array Slot, lv_has ls 3 [(0, va_rf (some x0))] → V p l e (rmo 71 1560 S0) s m args below meth c G S0 S (QM below args s G S0 S' none) (F0 m 55 ls []) := by
  intro ls hl
  unfold f_X7_readTest_55 at hr
  refine v_aload_n C (lv_at hl 0 rfl) rfl dX7_readTest_55 ?_
  refine v_iconst C 1 (by decide) dX7_readTest_56 ?_
  obtain ⟨b57, f57, hr⟩ := ob hr
  obtain ⟨g57, h57⟩ := rcv_n f57
  obtain ⟨S57, e57, hr⟩ := ob hr
  refine v_callV C (b := b57) h57 (by decide) rfl rfl (k_X7_refuse e57) cw_X7_refuse w_875 w_877 w_13 (show (parseMethodDescriptor (yX7_refuse).desc).map (fun d => d.parameters.length) = some 1 by decide +kernel) ⟨by decide, by decide⟩ (rest := []) (stk2 := []) (by rw [g57]; rfl) rfl (Nat.le_of_ble_eq_true rfl) hl dX7_readTest_57 ?_
  obtain rfl := os hr
  exact v_vret C dX7_readTest_60
theorem b_X7_readTest_94  {S0 S S' : St} {x0 : Nat} {x1 : Int32} (C : Cx p s m args meth c G S0 yX7_readTest cX7_readTest 3 (Option.none : Option Jvm.ClassFile.FieldType)) (hr : f_X7_readTest_94 S x0 x1 = some S') : ∀ ls : Array Slot, lv_has ls 3 [(0, va_rf (some x0)), (1, .int x1)] → V p l e (rmo 71 1560 S0) s m args below meth c G S0 S (QM below args s G S0 S' none) (F0 m 94 ls []) := by
  intro ls hl
  unfold f_X7_readTest_94 at hr
  refine v_aload_n C (lv_at hl 0 rfl) rfl dX7_readTest_94 ?_
  refine v_dup C (rf_cat _) dX7_readTest_95 ?_
  obtain ⟨v96, e96, hr⟩ := ob hr
  refine v_getI C fl_RX7_32 rfl e96 dX7_readTest_96 ?_
  refine v_iload_n C (lv_at hl 1 rfl) rfl dX7_readTest_99 ?_
  refine v_isub C dX7_readTest_100 ?_
  obtain ⟨S101, e101, hr⟩ := ob hr
  refine v_putI C fl_RX7_32 (Or.inl rfl) rfl e101 dX7_readTest_101 ?_
  obtain rfl := os hr
  exact v_vret C dX7_readTest_104
theorem b_X7_readTest_34  {S0 S S' : St} {x0 : Nat} {x1 : Int32} (C : Cx p s m args meth c G S0 yX7_readTest cX7_readTest 3 (Option.none : Option Jvm.ClassFile.FieldType)) (hr : f_X7_readTest_34 S x0 x1 = some S') : ∀ ls : Array Slot, lv_has ls 3 [(0, va_rf (some x0)), (1, .int x1)] → V p l e (rmo 71 1560 S0) s m args below meth c G S0 S (QM below args s G S0 S' none) (F0 m 34 ls []) := by
  intro ls hl
  unfold f_X7_readTest_34 at hr
  refine v_aload_n C (lv_at hl 0 rfl) rfl dX7_readTest_34 ?_
  obtain ⟨b35, f35, hr⟩ := ob hr
  obtain ⟨g35, h35⟩ := rcv_n f35
  obtain ⟨S35, e35, hr⟩ := ob hr
  refine v_callV C (b := b35) h35 (by decide) rfl rfl (K_X7_readTerms e35) cw_X7_readTerms w_879 w_881 w_14 (show (parseMethodDescriptor (yX7_readTerms).desc).map (fun d => d.parameters.length) = some 0 by decide +kernel) ⟨by decide, by decide⟩ (rest := []) (stk2 := []) (by rw [g35]; rfl) rfl (Nat.le_of_ble_eq_true rfl) hl dX7_readTest_35 ?_
  refine v_aload_n C (lv_at hl 0 rfl) rfl dX7_readTest_38 ?_
  obtain ⟨v39, e39, hr⟩ := ob hr
  refine v_getI C fl_RX7_23 rfl e39 dX7_readTest_39 ?_
  refine v_istore_n C (i := 2) (lv' := [(2, .int v39), (0, va_rf (some x0)), (1, .int x1)]) hl rfl (by decide) rfl dX7_readTest_42 (fun ls hl => ?_)
  refine v_iload_n C (lv_at hl 0 rfl) rfl dX7_readTest_43 ?_
  refine v_bipush C 24 (by decide) dX7_readTest_44 ?_
  refine v_icmp_lt C 55 (by decide) dX7_readTest_46 (fun c46 => ?_) (fun c46 => ?_)
  · rw [if_pos c46] at hr
    exact b_X7_readTest_55 C hr _ (lv_sub hl [1] rfl)
  · rw [if_neg c46] at hr
    refine v_iload_n C (lv_at hl 0 rfl) rfl dX7_readTest_49 ?_
    refine v_bipush C 26 (by decide) dX7_readTest_50 ?_
    refine v_icmp_le C 61 (by decide) dX7_readTest_52 (fun c52 => ?_) (fun c52 => ?_)
    · rw [if_pos c52] at hr
      refine v_aload_n C (lv_at hl 1 rfl) rfl dX7_readTest_61 ?_
      obtain ⟨b62, f62, hr⟩ := ob hr
      obtain ⟨g62, h62⟩ := rcv_n f62
      obtain ⟨S62, e62, hr⟩ := ob hr
      refine v_callV C (b := b62) h62 (by decide) rfl rfl (k_X7_advance e62) cw_X7_advance w_869 w_871 w_12 (show (parseMethodDescriptor (yX7_advance).desc).map (fun d => d.parameters.length) = some 0 by decide +kernel) ⟨by decide, by decide⟩ (rest := []) (stk2 := []) (by rw [g62]; rfl) rfl (Nat.le_of_ble_eq_true rfl) hl dX7_readTest_62 ?_
      refine v_aload_n C (lv_at hl 1 rfl) rfl dX7_readTest_65 ?_
      obtain ⟨b66, f66, hr⟩ := ob hr
      obtain ⟨g66, h66⟩ := rcv_n f66
      obtain ⟨S66, e66, hr⟩ := ob hr
      refine v_callV C (b := b66) h66 (by decide) rfl rfl (K_X7_readTerms e66) cw_X7_readTerms w_879 w_881 w_14 (show (parseMethodDescriptor (yX7_readTerms).desc).map (fun d => d.parameters.length) = some 0 by decide +kernel) ⟨by decide, by decide⟩ (rest := []) (stk2 := []) (by rw [g66]; rfl) rfl (Nat.le_of_ble_eq_true rfl) hl dX7_readTest_66 ?_
      refine v_aload_n C (lv_at hl 1 rfl) rfl dX7_readTest_69 ?_
      obtain ⟨v70, e70, hr⟩ := ob hr
      refine v_getR C fl_RX7_50 rfl e70 dX7_readTest_70 ?_
      refine v_iload_n C (lv_at hl 0 rfl) rfl dX7_readTest_73 ?_
      refine v_ineg C dX7_readTest_74 ?_
      obtain ⟨b75, f75, hr⟩ := ob hr
      obtain ⟨g75, h75⟩ := rcv_n f75
      obtain ⟨S75, e75, hr⟩ := ob hr
      refine v_callV C (b := b75) h75 (by decide) rfl rfl (k_X6_addCode e75) cw_X6_addCode w_887 w_888 w_889 (show (parseMethodDescriptor (yX6_addCode).desc).map (fun d => d.parameters.length) = some 1 by decide +kernel) ⟨by decide, by decide⟩ (rest := []) (stk2 := []) (by rw [g75]; rfl) rfl (Nat.le_of_ble_eq_true rfl) hl dX7_readTest_75 ?_
      refine v_iload_n C (lv_at hl 2 rfl) rfl dX7_readTest_78 ?_
      refine v_iconst C 2 (by decide) dX7_readTest_79 ?_
      obtain ⟨v80, e80, hr⟩ := ob hr
      refine v_irem C e80 dX7_readTest_80 ?_
      refine v_iconst C 1 (by decide) dX7_readTest_81 ?_
      refine v_icmp_ne C 94 (by decide) dX7_readTest_82 (fun c82 => ?_) (fun c82 => ?_)
      · rw [if_neg c82] at hr
        exact b_X7_readTest_94 C hr _ (lv_sub hl [1, 2] rfl)
      · rw [if_pos c82] at hr
        refine v_aload_n C (lv_at hl 1 rfl) rfl dX7_readTest_85 ?_
        obtain ⟨v86, e86, hr⟩ := ob hr
        refine v_getR C fl_RX7_50 rfl e86 dX7_readTest_86 ?_
        refine v_bipush C (-16) (by decide) dX7_readTest_89 ?_
        obtain ⟨b91, f91, hr⟩ := ob hr
        obtain ⟨g91, h91⟩ := rcv_n f91
        obtain ⟨S91, e91, hr⟩ := ob hr
        refine v_callV C (b := b91) h91 (by decide) rfl rfl (k_X6_addCode e91) cw_X6_addCode w_887 w_888 w_889 (show (parseMethodDescriptor (yX6_addCode).desc).map (fun d => d.parameters.length) = some 1 by decide +kernel) ⟨by decide, by decide⟩ (rest := []) (stk2 := []) (by rw [g91]; rfl) rfl (Nat.le_of_ble_eq_true rfl) hl dX7_readTest_91 ?_
        exact b_X7_readTest_94 C hr _ (lv_sub hl [1, 2] rfl)
    · rw [if_neg c52] at hr
      exact b_X7_readTest_55 C hr _ (lv_sub hl [1] rfl)
theorem k_X7_readTest {l : Launch} {G : Ge} {S S' : St} {x0 : Nat} (hr : f_X7_readTest S x0 = some S') : Ct l G yX7_readTest cX7_readTest 3 (Option.none : Option Jvm.ClassFile.FieldType) S [va_rf (some x0)] none S' 71 1560 := by
  refine ct_of (by decide +kernel) (Nat.le_of_ble_eq_true rfl) ?_
  intro p e s m args below meth c C ls hl
  have hl : lv_has ls 3 [(0, va_rf (some x0))] := hl
  unfold f_X7_readTest at hr
  refine v_iconst C 0 (by decide) dX7_readTest_0 ?_
  refine v_istore_n C (i := 1) (lv' := [(1, .int 0), (0, va_rf (some x0))]) hl rfl (by decide) rfl dX7_readTest_1 (fun ls hl => ?_)
  obtain ⟨o2, e2, hr⟩ := ob hr
  refine b_X7_readTest_2 C ?_ FU e2 _ (lv_sub hl [1, 0] rfl)
  · intro x0 x1_2 S_2 q ls hl
    subst q
    (try dsimp only at hr)
    exact b_X7_readTest_34 C hr _ (lv_sub hl [0, 1] rfl)
-- X7_readCondition
def f_X7_readCondition_105 (rec : St → Nat → Int32 → Int32 → Option (Nat × Int32 × St)) (S : St) (x0 : Nat) (x2 : Int32) (x3 : Int32) (t0 : Int32) : Option (Nat × Int32 × St) :=
    (rcv S (some x0) 8).bind fun b107 =>
    (f_X7_advance S b107).bind fun S107 =>
    (rcv S107 (some x0) 8).bind fun b111 =>
    (f_X7_readTest S107 b111).bind fun S111 =>
    (if x3 = 0 then
    (getR S111 (some x0) 8 0).bind fun v119 =>
    (rcv S111 v119 7).bind fun b124 =>
    (f_X6_addCode S111 b124 (-15)).bind fun S124 =>
    rec S124 x0 t0 (x2 + 1)
    else
    rec S111 x0 t0 (x2 + 1))
def f_X7_readCondition_100 (rec : St → Nat → Int32 → Int32 → Option (Nat × Int32 × St)) (S : St) (x0 : Nat) (x2 : Int32) (x3 : Int32) : Option (Nat × Int32 × St) :=
    f_X7_readCondition_105 (rec) S x0 x2 x3 1
def f_X7_readCondition_92 (rec : St → Nat → Int32 → Int32 → Option (Nat × Int32 × St)) (S : St) (x0 : Nat) (x1 : Int32) (x2 : Int32) (x3 : Int32) : Option (Nat × Int32 × St) :=
    (if x1 = 0 then
    (if x3 = 0 then
    f_X7_readCondition_105 (rec) S x0 x2 x3 0
    else
    f_X7_readCondition_100 (rec) S x0 x2 x3)
    else
    f_X7_readCondition_100 (rec) S x0 x2 x3)
def f_X7_readCondition_74 (rec : St → Nat → Int32 → Int32 → Option (Nat × Int32 × St)) (S : St) (x0 : Nat) (x1 : Int32) (x2 : Int32) (t0 : Int32) : Option (Nat × Int32 × St) :=
    (if t0 = 0 then
    f_X7_readCondition_92 (rec) S x0 x1 x2 t0
    else
    (if x1 = 0 then
    f_X7_readCondition_92 (rec) S x0 x1 x2 t0
    else
    (getR S (some x0) 8 0).bind fun v84 =>
    (rcv S v84 7).bind fun b89 =>
    (f_X6_addCode S b89 (-14)).bind fun S89 =>
    f_X7_readCondition_92 (rec) S89 x0 x1 x2 t0))
def f_X7_readCondition_60 (rec : St → Nat → Int32 → Int32 → Option (Nat × Int32 × St)) (S : St) (x0 : Nat) (x1 : Int32) (x2 : Int32) : Option (Nat × Int32 × St) :=
    (getI S (some x0) 8 5).bind fun v61 =>
    (if v61 = 14 then
    f_X7_readCondition_74 (rec) S x0 x1 x2 1
    else
    f_X7_readCondition_74 (rec) S x0 x1 x2 0)
def f_X7_readCondition_31 : Nat → St → Nat → Int32 → Int32 → Option (Nat × Int32 × St)
  | 0, _, _, _, _ => none
  | n + 1, S, x0, x1, x2 =>
    (getR S (some x0) 8 3).bind fun v33 =>
    (rcv S v33 0).bind fun b36 =>
    (f_Jx4a65c_size_8abf5 S b36).bind fun v36 =>
    (if v36 ≤ x2 then
    some (x0, x1, S)
    else
    (getI S (some x0) 8 5).bind fun v43 =>
    (if v43 = 14 then
    f_X7_readCondition_60 (f_X7_readCondition_31 n) S x0 x1 x2
    else
    (getI S (some x0) 8 5).bind fun v52 =>
    (if v52 = 15 then
    f_X7_readCondition_60 (f_X7_readCondition_31 n) S x0 x1 x2
    else
    some (x0, x1, S))))
def f_X7_readCondition_146 (S : St) (x0 : Nat) : Option St :=
    (getR S (some x0) 8 0).bind fun v147 =>
    (rcv S v147 7).bind fun b152 =>
    (f_X6_addCode S b152 (-9)).bind fun S152 =>
    some S152
def f_X7_readCondition_133 (S : St) (x0 : Nat) (x1 : Int32) : Option St :=
    (if x1 = 0 then
    f_X7_readCondition_146 S x0
    else
    (getR S (some x0) 8 0).bind fun v138 =>
    (rcv S v138 7).bind fun b143 =>
    (f_X6_addCode S b143 (-14)).bind fun S143 =>
    f_X7_readCondition_146 S143 x0)
def f_X7_readCondition (S : St) (x0 : Nat) : Option St :=
    (getI S (some x0) 8 5).bind fun v1 =>
    (if v1 = 9 then
    (rcv S (some x0) 8).bind fun b20 =>
    (f_X7_advance S b20).bind fun S20 =>
    (rcv S20 (some x0) 8).bind fun b26 =>
    (f_X7_readTest S20 b26).bind fun S26 =>
    (f_X7_readCondition_31 FU S26 x0 0 0).bind fun (x0, x1_31, S_31) => f_X7_readCondition_133 S_31 x0 x1_31
    else
    (getR S (some x0) 8 0).bind fun v10 =>
    (rcv S v10 7).bind fun b15 =>
    (f_X6_addCode S b15 (-8)).bind fun S15 =>
    some S15)
theorem b_X7_readCondition_105  {S0 S S' : St} {x0 : Nat} {x2 : Int32} {x3 : Int32} {t0 : Int32} (C : Cx p s m args meth c G S0 yX7_readCondition cX7_readCondition 4 (Option.none : Option Jvm.ClassFile.FieldType)) {o : (Nat × Int32 × St)} {rec : St → Nat → Int32 → Int32 → Option (Nat × Int32 × St)} (kX133 : ∀ {x0 : Nat} {x1 : Int32} {Z : St}, o = (x0, x1, Z) → ∀ ls : Array Slot, lv_has ls 4 [(0, va_rf (some x0)), (1, .int x1)] → V p l e (rmo 72 1582 S0) s m args below meth c G S0 Z (QM below args s G S0 S' none) (F0 m 133 ls [])) (ihk : ∀ {S : St} {x0 : Nat} {x1 : Int32} {x2 : Int32}, rec S x0 x1 x2 = some o → ∀ ls : Array Slot, lv_has ls 4 [(0, va_rf (some x0)), (1, .int x1), (2, .int x2)] → V p l e (rmo 72 1582 S0) s m args below meth c G S0 S (QM below args s G S0 S' none) (F0 m 31 ls [])) (hr : f_X7_readCondition_105 rec S x0 x2 x3 t0 = some o) : ∀ ls : Array Slot, lv_has ls 4 [(0, va_rf (some x0)), (2, .int x2), (3, .int x3)] → V p l e (rmo 72 1582 S0) s m args below meth c G S0 S (QM below args s G S0 S' none) (F0 m 105 ls [.int t0]) := by
  intro ls hl
  unfold f_X7_readCondition_105 at hr
  refine v_istore_n C (i := 1) (lv' := [(1, .int t0), (0, va_rf (some x0)), (2, .int x2), (3, .int x3)]) hl rfl (by decide) rfl dX7_readCondition_105 (fun ls hl => ?_)
  refine v_aload_n C (lv_at hl 1 rfl) rfl dX7_readCondition_106 ?_
  obtain ⟨b107, f107, hr⟩ := ob hr
  obtain ⟨g107, h107⟩ := rcv_n f107
  obtain ⟨S107, e107, hr⟩ := ob hr
  refine v_callV C (b := b107) h107 (by decide) rfl rfl (k_X7_advance e107) cw_X7_advance w_869 w_871 w_12 (show (parseMethodDescriptor (yX7_advance).desc).map (fun d => d.parameters.length) = some 0 by decide +kernel) ⟨by decide, by decide⟩ (rest := []) (stk2 := []) (by rw [g107]; rfl) rfl (Nat.le_of_ble_eq_true rfl) hl dX7_readCondition_107 ?_
  refine v_aload_n C (lv_at hl 1 rfl) rfl dX7_readCondition_110 ?_
  obtain ⟨b111, f111, hr⟩ := ob hr
  obtain ⟨g111, h111⟩ := rcv_n f111
  obtain ⟨S111, e111, hr⟩ := ob hr
  refine v_callV C (b := b111) h111 (by decide) rfl rfl (k_X7_readTest e111) cw_X7_readTest w_905 w_907 w_19 (show (parseMethodDescriptor (yX7_readTest).desc).map (fun d => d.parameters.length) = some 0 by decide +kernel) ⟨by decide, by decide⟩ (rest := []) (stk2 := []) (by rw [g111]; rfl) rfl (Nat.le_of_ble_eq_true rfl) hl dX7_readCondition_111 ?_
  refine v_iload_n C (lv_at hl 3 rfl) rfl dX7_readCondition_114 ?_
  refine v_if_ne C 127 (by decide) dX7_readCondition_115 (fun c115 => ?_) (fun c115 => ?_)
  · rw [if_neg c115] at hr
    refine v_iinc C (x2 + 1) (k0 := 2) (lv' := [(2, .int (x2 + 1)), (1, .int t0), (0, va_rf (some x0)), (3, .int x3)]) hl rfl rfl (by decide) rfl dX7_readCondition_127 (fun ls hl => ?_)
    refine v_goto C 31 (by decide) dX7_readCondition_130 ?_
    exact ihk hr _ (lv_sub hl [2, 1, 0] rfl)
  · rw [if_pos c115] at hr
    refine v_aload_n C (lv_at hl 1 rfl) rfl dX7_readCondition_118 ?_
    obtain ⟨v119, e119, hr⟩ := ob hr
    refine v_getR C fl_RX7_50 rfl e119 dX7_readCondition_119 ?_
    refine v_bipush C (-15) (by decide) dX7_readCondition_122 ?_
    obtain ⟨b124, f124, hr⟩ := ob hr
    obtain ⟨g124, h124⟩ := rcv_n f124
    obtain ⟨S124, e124, hr⟩ := ob hr
    refine v_callV C (b := b124) h124 (by decide) rfl rfl (k_X6_addCode e124) cw_X6_addCode w_887 w_888 w_889 (show (parseMethodDescriptor (yX6_addCode).desc).map (fun d => d.parameters.length) = some 1 by decide +kernel) ⟨by decide, by decide⟩ (rest := []) (stk2 := []) (by rw [g124]; rfl) rfl (Nat.le_of_ble_eq_true rfl) hl dX7_readCondition_124 ?_
    refine v_iinc C (x2 + 1) (k0 := 2) (lv' := [(2, .int (x2 + 1)), (1, .int t0), (0, va_rf (some x0)), (3, .int x3)]) hl rfl rfl (by decide) rfl dX7_readCondition_127 (fun ls hl => ?_)
    refine v_goto C 31 (by decide) dX7_readCondition_130 ?_
    exact ihk hr _ (lv_sub hl [2, 1, 0] rfl)
theorem b_X7_readCondition_100  {S0 S S' : St} {x0 : Nat} {x2 : Int32} {x3 : Int32} (C : Cx p s m args meth c G S0 yX7_readCondition cX7_readCondition 4 (Option.none : Option Jvm.ClassFile.FieldType)) {o : (Nat × Int32 × St)} {rec : St → Nat → Int32 → Int32 → Option (Nat × Int32 × St)} (kX133 : ∀ {x0 : Nat} {x1 : Int32} {Z : St}, o = (x0, x1, Z) → ∀ ls : Array Slot, lv_has ls 4 [(0, va_rf (some x0)), (1, .int x1)] → V p l e (rmo 72 1582 S0) s m args below meth c G S0 Z (QM below args s G S0 S' none) (F0 m 133 ls [])) (ihk : ∀ {S : St} {x0 : Nat} {x1 : Int32} {x2 : Int32}, rec S x0 x1 x2 = some o → ∀ ls : Array Slot, lv_has ls 4 [(0, va_rf (some x0)), (1, .int x1), (2, .int x2)] → V p l e (rmo 72 1582 S0) s m args below meth c G S0 S (QM below args s G S0 S' none) (F0 m 31 ls [])) (hr : f_X7_readCondition_100 rec S x0 x2 x3 = some o) : ∀ ls : Array Slot, lv_has ls 4 [(0, va_rf (some x0)), (2, .int x2), (3, .int x3)] → V p l e (rmo 72 1582 S0) s m args below meth c G S0 S (QM below args s G S0 S' none) (F0 m 100 ls []) := by
  intro ls hl
  unfold f_X7_readCondition_100 at hr
  refine v_iconst C 1 (by decide) dX7_readCondition_100 ?_
  refine v_goto C 105 (by decide) dX7_readCondition_101 ?_
  exact b_X7_readCondition_105 C (@kX133) (@ihk) hr _ (lv_sub hl [0, 1, 2] rfl)
theorem b_X7_readCondition_92  {S0 S S' : St} {x0 : Nat} {x1 : Int32} {x2 : Int32} {x3 : Int32} (C : Cx p s m args meth c G S0 yX7_readCondition cX7_readCondition 4 (Option.none : Option Jvm.ClassFile.FieldType)) {o : (Nat × Int32 × St)} {rec : St → Nat → Int32 → Int32 → Option (Nat × Int32 × St)} (kX133 : ∀ {x0 : Nat} {x1 : Int32} {Z : St}, o = (x0, x1, Z) → ∀ ls : Array Slot, lv_has ls 4 [(0, va_rf (some x0)), (1, .int x1)] → V p l e (rmo 72 1582 S0) s m args below meth c G S0 Z (QM below args s G S0 S' none) (F0 m 133 ls [])) (ihk : ∀ {S : St} {x0 : Nat} {x1 : Int32} {x2 : Int32}, rec S x0 x1 x2 = some o → ∀ ls : Array Slot, lv_has ls 4 [(0, va_rf (some x0)), (1, .int x1), (2, .int x2)] → V p l e (rmo 72 1582 S0) s m args below meth c G S0 S (QM below args s G S0 S' none) (F0 m 31 ls [])) (hr : f_X7_readCondition_92 rec S x0 x1 x2 x3 = some o) : ∀ ls : Array Slot, lv_has ls 4 [(0, va_rf (some x0)), (1, .int x1), (2, .int x2), (3, .int x3)] → V p l e (rmo 72 1582 S0) s m args below meth c G S0 S (QM below args s G S0 S' none) (F0 m 92 ls []) := by
  intro ls hl
  unfold f_X7_readCondition_92 at hr
  refine v_iload_n C (lv_at hl 1 rfl) rfl dX7_readCondition_92 ?_
  refine v_if_ne C 100 (by decide) dX7_readCondition_93 (fun c93 => ?_) (fun c93 => ?_)
  · rw [if_neg c93] at hr
    exact b_X7_readCondition_100 C (@kX133) (@ihk) hr _ (lv_sub hl [0, 2, 3] rfl)
  · rw [if_pos c93] at hr
    refine v_iload_n C (lv_at hl 3 rfl) rfl dX7_readCondition_96 ?_
    refine v_if_eq C 104 (by decide) dX7_readCondition_97 (fun c97 => ?_) (fun c97 => ?_)
    · rw [if_pos c97] at hr
      refine v_iconst C 0 (by decide) dX7_readCondition_104 ?_
      exact b_X7_readCondition_105 C (@kX133) (@ihk) hr _ (lv_sub hl [0, 2, 3] rfl)
    · rw [if_neg c97] at hr
      exact b_X7_readCondition_100 C (@kX133) (@ihk) hr _ (lv_sub hl [0, 2, 3] rfl)
theorem b_X7_readCondition_74  {S0 S S' : St} {x0 : Nat} {x1 : Int32} {x2 : Int32} {t0 : Int32} (C : Cx p s m args meth c G S0 yX7_readCondition cX7_readCondition 4 (Option.none : Option Jvm.ClassFile.FieldType)) {o : (Nat × Int32 × St)} {rec : St → Nat → Int32 → Int32 → Option (Nat × Int32 × St)} (kX133 : ∀ {x0 : Nat} {x1 : Int32} {Z : St}, o = (x0, x1, Z) → ∀ ls : Array Slot, lv_has ls 4 [(0, va_rf (some x0)), (1, .int x1)] → V p l e (rmo 72 1582 S0) s m args below meth c G S0 Z (QM below args s G S0 S' none) (F0 m 133 ls [])) (ihk : ∀ {S : St} {x0 : Nat} {x1 : Int32} {x2 : Int32}, rec S x0 x1 x2 = some o → ∀ ls : Array Slot, lv_has ls 4 [(0, va_rf (some x0)), (1, .int x1), (2, .int x2)] → V p l e (rmo 72 1582 S0) s m args below meth c G S0 S (QM below args s G S0 S' none) (F0 m 31 ls [])) (hr : f_X7_readCondition_74 rec S x0 x1 x2 t0 = some o) : ∀ ls : Array Slot, lv_has ls 4 [(0, va_rf (some x0)), (1, .int x1), (2, .int x2)] → V p l e (rmo 72 1582 S0) s m args below meth c G S0 S (QM below args s G S0 S' none) (F0 m 74 ls [.int t0]) := by
  intro ls hl
  unfold f_X7_readCondition_74 at hr
  refine v_istore_n C (i := 3) (lv' := [(3, .int t0), (0, va_rf (some x0)), (1, .int x1), (2, .int x2)]) hl rfl (by decide) rfl dX7_readCondition_74 (fun ls hl => ?_)
  refine v_iload_n C (lv_at hl 0 rfl) rfl dX7_readCondition_75 ?_
  refine v_if_eq C 92 (by decide) dX7_readCondition_76 (fun c76 => ?_) (fun c76 => ?_)
  · rw [if_pos c76] at hr
    exact b_X7_readCondition_92 C (@kX133) (@ihk) hr _ (lv_sub hl [1, 2, 3, 0] rfl)
  · rw [if_neg c76] at hr
    refine v_iload_n C (lv_at hl 2 rfl) rfl dX7_readCondition_79 ?_
    refine v_if_eq C 92 (by decide) dX7_readCondition_80 (fun c80 => ?_) (fun c80 => ?_)
    · rw [if_pos c80] at hr
      exact b_X7_readCondition_92 C (@kX133) (@ihk) hr _ (lv_sub hl [1, 2, 3, 0] rfl)
    · rw [if_neg c80] at hr
      refine v_aload_n C (lv_at hl 1 rfl) rfl dX7_readCondition_83 ?_
      obtain ⟨v84, e84, hr⟩ := ob hr
      refine v_getR C fl_RX7_50 rfl e84 dX7_readCondition_84 ?_
      refine v_bipush C (-14) (by decide) dX7_readCondition_87 ?_
      obtain ⟨b89, f89, hr⟩ := ob hr
      obtain ⟨g89, h89⟩ := rcv_n f89
      obtain ⟨S89, e89, hr⟩ := ob hr
      refine v_callV C (b := b89) h89 (by decide) rfl rfl (k_X6_addCode e89) cw_X6_addCode w_887 w_888 w_889 (show (parseMethodDescriptor (yX6_addCode).desc).map (fun d => d.parameters.length) = some 1 by decide +kernel) ⟨by decide, by decide⟩ (rest := []) (stk2 := []) (by rw [g89]; rfl) rfl (Nat.le_of_ble_eq_true rfl) hl dX7_readCondition_89 ?_
      exact b_X7_readCondition_92 C (@kX133) (@ihk) hr _ (lv_sub hl [1, 2, 3, 0] rfl)
theorem b_X7_readCondition_60  {S0 S S' : St} {x0 : Nat} {x1 : Int32} {x2 : Int32} (C : Cx p s m args meth c G S0 yX7_readCondition cX7_readCondition 4 (Option.none : Option Jvm.ClassFile.FieldType)) {o : (Nat × Int32 × St)} {rec : St → Nat → Int32 → Int32 → Option (Nat × Int32 × St)} (kX133 : ∀ {x0 : Nat} {x1 : Int32} {Z : St}, o = (x0, x1, Z) → ∀ ls : Array Slot, lv_has ls 4 [(0, va_rf (some x0)), (1, .int x1)] → V p l e (rmo 72 1582 S0) s m args below meth c G S0 Z (QM below args s G S0 S' none) (F0 m 133 ls [])) (ihk : ∀ {S : St} {x0 : Nat} {x1 : Int32} {x2 : Int32}, rec S x0 x1 x2 = some o → ∀ ls : Array Slot, lv_has ls 4 [(0, va_rf (some x0)), (1, .int x1), (2, .int x2)] → V p l e (rmo 72 1582 S0) s m args below meth c G S0 S (QM below args s G S0 S' none) (F0 m 31 ls [])) (hr : f_X7_readCondition_60 rec S x0 x1 x2 = some o) : ∀ ls : Array Slot, lv_has ls 4 [(0, va_rf (some x0)), (1, .int x1), (2, .int x2)] → V p l e (rmo 72 1582 S0) s m args below meth c G S0 S (QM below args s G S0 S' none) (F0 m 60 ls []) := by
  intro ls hl
  unfold f_X7_readCondition_60 at hr
  refine v_aload_n C (lv_at hl 0 rfl) rfl dX7_readCondition_60 ?_
  obtain ⟨v61, e61, hr⟩ := ob hr
  refine v_getI C fl_RX7_23 rfl e61 dX7_readCondition_61 ?_
  refine v_bipush C 14 (by decide) dX7_readCondition_64 ?_
  refine v_icmp_ne C 73 (by decide) dX7_readCondition_66 (fun c66 => ?_) (fun c66 => ?_)
  · rw [if_neg c66] at hr
    refine v_iconst C 0 (by decide) dX7_readCondition_73 ?_
    exact b_X7_readCondition_74 C (@kX133) (@ihk) hr _ (lv_sub hl [0, 1, 2] rfl)
  · rw [if_pos c66] at hr
    refine v_iconst C 1 (by decide) dX7_readCondition_69 ?_
    refine v_goto C 74 (by decide) dX7_readCondition_70 ?_
    exact b_X7_readCondition_74 C (@kX133) (@ihk) hr _ (lv_sub hl [0, 1, 2] rfl)
theorem b_X7_readCondition_31  {S0 S' : St} (C : Cx p s m args meth c G S0 yX7_readCondition cX7_readCondition 4 (Option.none : Option Jvm.ClassFile.FieldType)) {o : (Nat × Int32 × St)} (kX133 : ∀ {x0 : Nat} {x1 : Int32} {Z : St}, o = (x0, x1, Z) → ∀ ls : Array Slot, lv_has ls 4 [(0, va_rf (some x0)), (1, .int x1)] → V p l e (rmo 72 1582 S0) s m args below meth c G S0 Z (QM below args s G S0 S' none) (F0 m 133 ls [])) : ∀ (n : Nat) {S : St} {x0 : Nat} {x1 : Int32} {x2 : Int32}, f_X7_readCondition_31 n S x0 x1 x2 = some o → ∀ ls : Array Slot, lv_has ls 4 [(0, va_rf (some x0)), (1, .int x1), (2, .int x2)] → V p l e (rmo 72 1582 S0) s m args below meth c G S0 S (QM below args s G S0 S' none) (F0 m 31 ls []) := by
  intro n
  induction n with
  | zero => intro S x0 x1 x2 hr; cases hr
  | succ n ih =>
    intro S x0 x1 x2 hr ls hl
    unfold f_X7_readCondition_31 at hr
    refine v_iload_n C (lv_at hl 2 rfl) rfl dX7_readCondition_31 ?_
    refine v_aload_n C (lv_at hl 0 rfl) rfl dX7_readCondition_32 ?_
    obtain ⟨v33, e33, hr⟩ := ob hr
    refine v_getR C fl_RX7_35 rfl e33 dX7_readCondition_33 ?_
    obtain ⟨b36, f36, hr⟩ := ob hr
    obtain ⟨g36, h36⟩ := rcv_n f36
    obtain ⟨v36, e36, hr⟩ := ob hr
    refine v_callV C (b := b36) h36 (by decide) rfl rfl (k_Jx4a65c_size_8abf5 e36) cw_Jx4a65c_size_8abf5 w_832 w_353 w_354 (show (parseMethodDescriptor (yJx4a65c_size_8abf5).desc).map (fun d => d.parameters.length) = some 0 by decide +kernel) ⟨by decide, by decide⟩ (rest := [.int x2]) (stk2 := [.int v36, .int x2]) (by rw [g36]; rfl) rfl (Nat.le_of_ble_eq_true rfl) hl dX7_readCondition_36 ?_
    refine v_icmp_ge C 133 (by decide) dX7_readCondition_39 (fun c39 => ?_) (fun c39 => ?_)
    · rw [if_pos c39] at hr
      obtain rfl := os hr
      exact kX133 rfl _ (lv_sub hl [0, 1] rfl)
    · rw [if_neg c39] at hr
      refine v_aload_n C (lv_at hl 0 rfl) rfl dX7_readCondition_42 ?_
      obtain ⟨v43, e43, hr⟩ := ob hr
      refine v_getI C fl_RX7_23 rfl e43 dX7_readCondition_43 ?_
      refine v_bipush C 14 (by decide) dX7_readCondition_46 ?_
      refine v_icmp_eq C 60 (by decide) dX7_readCondition_48 (fun c48 => ?_) (fun c48 => ?_)
      · rw [if_pos c48] at hr
        exact b_X7_readCondition_60 C (@kX133) (@ih) hr _ (lv_sub hl [0, 1, 2] rfl)
      · rw [if_neg c48] at hr
        refine v_aload_n C (lv_at hl 0 rfl) rfl dX7_readCondition_51 ?_
        obtain ⟨v52, e52, hr⟩ := ob hr
        refine v_getI C fl_RX7_23 rfl e52 dX7_readCondition_52 ?_
        refine v_bipush C 15 (by decide) dX7_readCondition_55 ?_
        refine v_icmp_ne C 133 (by decide) dX7_readCondition_57 (fun c57 => ?_) (fun c57 => ?_)
        · rw [if_neg c57] at hr
          obtain rfl := os hr
          exact kX133 rfl _ (lv_sub hl [0, 1] rfl)
        · rw [if_pos c57] at hr
          exact b_X7_readCondition_60 C (@kX133) (@ih) hr _ (lv_sub hl [0, 1, 2] rfl)
theorem b_X7_readCondition_146  {S0 S S' : St} {x0 : Nat} (C : Cx p s m args meth c G S0 yX7_readCondition cX7_readCondition 4 (Option.none : Option Jvm.ClassFile.FieldType)) (hr : f_X7_readCondition_146 S x0 = some S') : ∀ ls : Array Slot, lv_has ls 4 [(0, va_rf (some x0))] → V p l e (rmo 72 1582 S0) s m args below meth c G S0 S (QM below args s G S0 S' none) (F0 m 146 ls []) := by
  intro ls hl
  unfold f_X7_readCondition_146 at hr
  refine v_aload_n C (lv_at hl 0 rfl) rfl dX7_readCondition_146 ?_
  obtain ⟨v147, e147, hr⟩ := ob hr
  refine v_getR C fl_RX7_50 rfl e147 dX7_readCondition_147 ?_
  refine v_bipush C (-9) (by decide) dX7_readCondition_150 ?_
  obtain ⟨b152, f152, hr⟩ := ob hr
  obtain ⟨g152, h152⟩ := rcv_n f152
  obtain ⟨S152, e152, hr⟩ := ob hr
  refine v_callV C (b := b152) h152 (by decide) rfl rfl (k_X6_addCode e152) cw_X6_addCode w_887 w_888 w_889 (show (parseMethodDescriptor (yX6_addCode).desc).map (fun d => d.parameters.length) = some 1 by decide +kernel) ⟨by decide, by decide⟩ (rest := []) (stk2 := []) (by rw [g152]; rfl) rfl (Nat.le_of_ble_eq_true rfl) hl dX7_readCondition_152 ?_
  obtain rfl := os hr
  exact v_vret C dX7_readCondition_155
theorem b_X7_readCondition_133  {S0 S S' : St} {x0 : Nat} {x1 : Int32} (C : Cx p s m args meth c G S0 yX7_readCondition cX7_readCondition 4 (Option.none : Option Jvm.ClassFile.FieldType)) (hr : f_X7_readCondition_133 S x0 x1 = some S') : ∀ ls : Array Slot, lv_has ls 4 [(0, va_rf (some x0)), (1, .int x1)] → V p l e (rmo 72 1582 S0) s m args below meth c G S0 S (QM below args s G S0 S' none) (F0 m 133 ls []) := by
  intro ls hl
  unfold f_X7_readCondition_133 at hr
  refine v_iload_n C (lv_at hl 1 rfl) rfl dX7_readCondition_133 ?_
  refine v_if_eq C 146 (by decide) dX7_readCondition_134 (fun c134 => ?_) (fun c134 => ?_)
  · rw [if_pos c134] at hr
    exact b_X7_readCondition_146 C hr _ (lv_sub hl [0] rfl)
  · rw [if_neg c134] at hr
    refine v_aload_n C (lv_at hl 0 rfl) rfl dX7_readCondition_137 ?_
    obtain ⟨v138, e138, hr⟩ := ob hr
    refine v_getR C fl_RX7_50 rfl e138 dX7_readCondition_138 ?_
    refine v_bipush C (-14) (by decide) dX7_readCondition_141 ?_
    obtain ⟨b143, f143, hr⟩ := ob hr
    obtain ⟨g143, h143⟩ := rcv_n f143
    obtain ⟨S143, e143, hr⟩ := ob hr
    refine v_callV C (b := b143) h143 (by decide) rfl rfl (k_X6_addCode e143) cw_X6_addCode w_887 w_888 w_889 (show (parseMethodDescriptor (yX6_addCode).desc).map (fun d => d.parameters.length) = some 1 by decide +kernel) ⟨by decide, by decide⟩ (rest := []) (stk2 := []) (by rw [g143]; rfl) rfl (Nat.le_of_ble_eq_true rfl) hl dX7_readCondition_143 ?_
    exact b_X7_readCondition_146 C hr _ (lv_sub hl [0] rfl)
theorem k_X7_readCondition {l : Launch} {G : Ge} {S S' : St} {x0 : Nat} (hr : f_X7_readCondition S x0 = some S') : Ct l G yX7_readCondition cX7_readCondition 4 (Option.none : Option Jvm.ClassFile.FieldType) S [va_rf (some x0)] none S' 72 1582 := by
  refine ct_of (by decide +kernel) (Nat.le_of_ble_eq_true rfl) ?_
  intro p e s m args below meth c C ls hl
  have hl : lv_has ls 4 [(0, va_rf (some x0))] := hl
  unfold f_X7_readCondition at hr
  refine v_aload_n C (lv_at hl 0 rfl) rfl dX7_readCondition_0 ?_
  obtain ⟨v1, e1, hr⟩ := ob hr
  refine v_getI C fl_RX7_23 rfl e1 dX7_readCondition_1 ?_
  refine v_bipush C 9 (by decide) dX7_readCondition_4 ?_
  refine v_icmp_eq C 19 (by decide) dX7_readCondition_6 (fun c6 => ?_) (fun c6 => ?_)
  · rw [if_pos c6] at hr
    refine v_aload_n C (lv_at hl 0 rfl) rfl dX7_readCondition_19 ?_
    obtain ⟨b20, f20, hr⟩ := ob hr
    obtain ⟨g20, h20⟩ := rcv_n f20
    obtain ⟨S20, e20, hr⟩ := ob hr
    refine v_callV C (b := b20) h20 (by decide) rfl rfl (k_X7_advance e20) cw_X7_advance w_869 w_871 w_12 (show (parseMethodDescriptor (yX7_advance).desc).map (fun d => d.parameters.length) = some 0 by decide +kernel) ⟨by decide, by decide⟩ (rest := []) (stk2 := []) (by rw [g20]; rfl) rfl (Nat.le_of_ble_eq_true rfl) hl dX7_readCondition_20 ?_
    refine v_iconst C 0 (by decide) dX7_readCondition_23 ?_
    refine v_istore_n C (i := 1) (lv' := [(1, .int 0), (0, va_rf (some x0))]) hl rfl (by decide) rfl dX7_readCondition_24 (fun ls hl => ?_)
    refine v_aload_n C (lv_at hl 1 rfl) rfl dX7_readCondition_25 ?_
    obtain ⟨b26, f26, hr⟩ := ob hr
    obtain ⟨g26, h26⟩ := rcv_n f26
    obtain ⟨S26, e26, hr⟩ := ob hr
    refine v_callV C (b := b26) h26 (by decide) rfl rfl (k_X7_readTest e26) cw_X7_readTest w_905 w_907 w_19 (show (parseMethodDescriptor (yX7_readTest).desc).map (fun d => d.parameters.length) = some 0 by decide +kernel) ⟨by decide, by decide⟩ (rest := []) (stk2 := []) (by rw [g26]; rfl) rfl (Nat.le_of_ble_eq_true rfl) hl dX7_readCondition_26 ?_
    refine v_iconst C 0 (by decide) dX7_readCondition_29 ?_
    refine v_istore_n C (i := 2) (lv' := [(2, .int 0), (1, .int 0), (0, va_rf (some x0))]) hl rfl (by decide) rfl dX7_readCondition_30 (fun ls hl => ?_)
    obtain ⟨o31, e31, hr⟩ := ob hr
    refine b_X7_readCondition_31 C ?_ FU e31 _ (lv_sub hl [2, 1, 0] rfl)
    · intro x0 x1_31 S_31 q ls hl
      subst q
      (try dsimp only at hr)
      exact b_X7_readCondition_133 C hr _ (lv_sub hl [0, 1] rfl)
  · rw [if_neg c6] at hr
    refine v_aload_n C (lv_at hl 0 rfl) rfl dX7_readCondition_9 ?_
    obtain ⟨v10, e10, hr⟩ := ob hr
    refine v_getR C fl_RX7_50 rfl e10 dX7_readCondition_10 ?_
    refine v_bipush C (-8) (by decide) dX7_readCondition_13 ?_
    obtain ⟨b15, f15, hr⟩ := ob hr
    obtain ⟨g15, h15⟩ := rcv_n f15
    obtain ⟨S15, e15, hr⟩ := ob hr
    refine v_callV C (b := b15) h15 (by decide) rfl rfl (k_X6_addCode e15) cw_X6_addCode w_887 w_888 w_889 (show (parseMethodDescriptor (yX6_addCode).desc).map (fun d => d.parameters.length) = some 1 by decide +kernel) ⟨by decide, by decide⟩ (rest := []) (stk2 := []) (by rw [g15]; rfl) rfl (Nat.le_of_ble_eq_true rfl) hl dX7_readCondition_15 ?_
    obtain rfl := os hr
    exact v_vret C dX7_readCondition_18
end Mth
