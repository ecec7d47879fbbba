section Mth
variable {p : Program} {l : Launch} {e : Env} {s : State} {m : MethodId} {args : Array Value} {below : List Frame} {meth : Method} {c : Code} {G : Ge}
-- X12_merge
def f_X12_merge_53 : Nat → St → Nat → Int32 → Int32 → Int32 → Int32 → Option ((Int32 × St))
  | 0, _, _, _, _, _, _ => none
  | n + 1, S, x0, x1, x2, x3, x4 =>
    (getI S (some x0) 13 1).bind fun v56 =>
    (if v56 ≤ x4 then
    (getR S (some x0) 13 6).bind fun v93 =>
    (stI S v93 15 x1 x2).bind fun S98 =>
    (getR S98 (some x0) 13 7).bind fun v100 =>
    (stI S98 v100 15 x1 x3).bind fun S105 =>
    some (1, S105)
    else
    (getR S (some x0) 13 6).bind fun v63 =>
    (ldI S v63 15 x4).bind fun v68 =>
    (if v68 = x1 then
    (getR S (some x0) 13 7).bind fun v74 =>
    (ldI S v74 15 x4).bind fun v79 =>
    (if v79 < x3 then
    f_X12_merge_53 n S x0 x1 x2 x3 (x4 + 1)
    else
    some (0, S))
    else
    f_X12_merge_53 n S x0 x1 x2 x3 (x4 + 1)))
def f_X12_merge (S : St) (x0 : Nat) (x1 : Int32) (x2 : Int32) (x3 : Int32) : Option (Int32 × St) :=
    (rcv S (some x0) 13).bind fun b2 =>
    (f_X12_isFirm S b2 x1).bind fun v2 =>
    (if v2 = 0 then
    some (0, S)
    else
    (rcv S (some x0) 13).bind fun b10 =>
    (f_X12_isFirm S b10 x2).bind fun v10 =>
    (if v10 = 0 then
    some (0, S)
    else
    (if x1 = x2 then
    some (0, S)
    else
    (rcv S (some x0) 13).bind fun b23 =>
    (f_X12_isPast S b23 x3).bind fun v23 =>
    (if v23 = 0 then
    some (0, S)
    else
    (getR S (some x0) 13 6).bind fun v30 =>
    (ldI S v30 15 x1).bind fun v34 =>
    (if v34 = (-1) then
    (rcv S (some x0) 13).bind fun b42 =>
    (f_X12_isMerged S b42 x2 x3).bind fun v42 =>
    (if v42 = 0 then
    f_X12_merge_53 FU S x0 x1 x2 x3 0
    else
    some (0, S))
    else
    some (0, S))))))
theorem b_X12_merge_53  {S0 S' : St} {rr : Int32} (C : Cx p s m args meth c G S0 yX12_merge cX12_merge 5 (Option.some Jvm.ClassFile.FieldType.boolean)) {o : ((Int32 × St))} (kR : ∀ (v : Int32) (Z : St), o = (v, Z) → rr = v ∧ S' = Z) : ∀ (n : Nat) {S : St} {x0 : Nat} {x1 : Int32} {x2 : Int32} {x3 : Int32} {x4 : Int32}, f_X12_merge_53 n S x0 x1 x2 x3 x4 = some o → ∀ ls : Array Slot, lv_has ls 5 [(0, va_rf (some x0)), (1, .int x1), (2, .int x2), (3, .int x3), (4, .int x4)] → V p l e (rmo 2 43 S0) s m args below meth c G S0 S (QM below args s G S0 S' (some (.int rr))) (F0 m 53 ls []) := by
  intro n
  induction n with
  | zero => intro S x0 x1 x2 x3 x4 hr; cases hr
  | succ n ih =>
    intro S x0 x1 x2 x3 x4 hr ls hl
    unfold f_X12_merge_53 at hr
    refine v_iload C (lv_at hl 4 rfl) dX12_merge_53 ?_
    refine v_aload_n C (lv_at hl 0 rfl) rfl dX12_merge_55 ?_
    obtain ⟨v56, e56, hr⟩ := ob hr
    refine v_getI C fl_RX12_204 rfl e56 dX12_merge_56 ?_
    refine v_icmp_ge C 92 (by decide) dX12_merge_59 (fun c59 => ?_) (fun c59 => ?_)
    · rw [if_pos c59] at hr
      refine v_aload_n C (lv_at hl 0 rfl) rfl dX12_merge_92 ?_
      obtain ⟨v93, e93, hr⟩ := ob hr
      refine v_getR C fl_RX12_13 rfl e93 dX12_merge_93 ?_
      refine v_iload_n C (lv_at hl 1 rfl) rfl dX12_merge_96 ?_
      refine v_iload_n C (lv_at hl 2 rfl) rfl dX12_merge_97 ?_
      obtain ⟨S98, e98, hr⟩ := ob hr
      refine v_stI_i C e98 dX12_merge_98 ?_
      refine v_aload_n C (lv_at hl 0 rfl) rfl dX12_merge_99 ?_
      obtain ⟨v100, e100, hr⟩ := ob hr
      refine v_getR C fl_RX12_16 rfl e100 dX12_merge_100 ?_
      refine v_iload_n C (lv_at hl 1 rfl) rfl dX12_merge_103 ?_
      refine v_iload_n C (lv_at hl 3 rfl) rfl dX12_merge_104 ?_
      obtain ⟨S105, e105, hr⟩ := ob hr
      refine v_stI_i C e105 dX12_merge_105 ?_
      refine v_iconst C 1 (by decide) dX12_merge_106 ?_
      obtain rfl := os hr
      obtain ⟨rfl, rfl⟩ := kR _ _ rfl
      exact v_zret C rfl dX12_merge_107
    · rw [if_neg c59] at hr
      refine v_aload_n C (lv_at hl 0 rfl) rfl dX12_merge_62 ?_
      obtain ⟨v63, e63, hr⟩ := ob hr
      refine v_getR C fl_RX12_13 rfl e63 dX12_merge_63 ?_
      refine v_iload C (lv_at hl 4 rfl) dX12_merge_66 ?_
      obtain ⟨v68, e68, hr⟩ := ob hr
      refine v_ldI_i C e68 dX12_merge_68 ?_
      refine v_iload_n C (lv_at hl 1 rfl) rfl dX12_merge_69 ?_
      refine v_icmp_ne C 86 (by decide) dX12_merge_70 (fun c70 => ?_) (fun c70 => ?_)
      · rw [if_neg c70] at hr
        refine v_iinc C (x4 + 1) (k0 := 4) (lv' := [(4, .int (x4 + 1)), (0, va_rf (some x0)), (1, .int x1), (2, .int x2), (3, .int x3)]) hl rfl rfl (by decide) rfl dX12_merge_86 (fun ls hl => ?_)
        refine v_goto C 53 (by decide) dX12_merge_89 ?_
        exact ih hr _ (lv_sub hl [1, 2, 3, 4, 0] rfl)
      · rw [if_pos c70] at hr
        refine v_aload_n C (lv_at hl 0 rfl) rfl dX12_merge_73 ?_
        obtain ⟨v74, e74, hr⟩ := ob hr
        refine v_getR C fl_RX12_16 rfl e74 dX12_merge_74 ?_
        refine v_iload C (lv_at hl 4 rfl) dX12_merge_77 ?_
        obtain ⟨v79, e79, hr⟩ := ob hr
        refine v_ldI_i C e79 dX12_merge_79 ?_
        refine v_iload_n C (lv_at hl 3 rfl) rfl dX12_merge_80 ?_
        refine v_icmp_lt C 86 (by decide) dX12_merge_81 (fun c81 => ?_) (fun c81 => ?_)
        · rw [if_pos c81] at hr
          refine v_iinc C (x4 + 1) (k0 := 4) (lv' := [(4, .int (x4 + 1)), (0, va_rf (some x0)), (1, .int x1), (2, .int x2), (3, .int x3)]) hl rfl rfl (by decide) rfl dX12_merge_86 (fun ls hl => ?_)
          refine v_goto C 53 (by decide) dX12_merge_89 ?_
          exact ih hr _ (lv_sub hl [1, 2, 3, 4, 0] rfl)
        · rw [if_neg c81] at hr
          refine v_iconst C 0 (by decide) dX12_merge_84 ?_
          obtain rfl := os hr
          obtain ⟨rfl, rfl⟩ := kR _ _ rfl
          exact v_zret C rfl dX12_merge_85
theorem k_X12_merge {l : Launch} {G : Ge} {S S' : St} {x0 : Nat} {x1 : Int32} {x2 : Int32} {x3 : Int32} {rr : Int32} (hr : f_X12_merge S x0 x1 x2 x3 = some (rr, S')) : Ct l G yX12_merge cX12_merge 5 (Option.some Jvm.ClassFile.FieldType.boolean) S [va_rf (some x0), .int x1, .int x2, .int x3] (some (.int rr)) S' 2 43 := by
  refine ct_of (by decide +kernel) (Nat.le_of_ble_eq_true rfl) ?_
  intro p e s m args below meth c C ls hl
  have hl : lv_has ls 5 [(0, va_rf (some x0)), (1, .int x1), (2, .int x2), (3, .int x3)] := hl
  unfold f_X12_merge at hr
  refine v_aload_n C (lv_at hl 0 rfl) rfl dX12_merge_0 ?_
  refine v_iload_n C (lv_at hl 1 rfl) rfl dX12_merge_1 ?_
  obtain ⟨b2, f2, hr⟩ := ob hr
  obtain ⟨g2, h2⟩ := rcv_n f2
  obtain ⟨v2, e2, hr⟩ := ob hr
  refine v_callV C (b := b2) h2 (by decide) rfl rfl (k_X12_isFirm e2) cw_X12_isFirm w_1569 w_1571 w_52 (show (parseMethodDescriptor (yX12_isFirm).desc).map (fun d => d.parameters.length) = some 1 by decide +kernel) ⟨by decide, by decide⟩ (rest := []) (stk2 := [.int v2]) (by rw [g2]; rfl) rfl (Nat.le_of_ble_eq_true rfl) hl dX12_merge_2 ?_
  refine v_if_eq C 48 (by decide) dX12_merge_5 (fun c5 => ?_) (fun c5 => ?_)
  · rw [if_pos c5] at hr
    refine v_iconst C 0 (by decide) dX12_merge_48 ?_
    obtain ⟨rfl, rfl⟩ := Prod.mk.inj (os hr)
    exact v_zret C rfl dX12_merge_49
  · rw [if_neg c5] at hr
    refine v_aload_n C (lv_at hl 0 rfl) rfl dX12_merge_8 ?_
    refine v_iload_n C (lv_at hl 2 rfl) rfl dX12_merge_9 ?_
    obtain ⟨b10, f10, hr⟩ := ob hr
    obtain ⟨g10, h10⟩ := rcv_n f10
    obtain ⟨v10, e10, hr⟩ := ob hr
    refine v_callV C (b := b10) h10 (by decide) rfl rfl (k_X12_isFirm e10) cw_X12_isFirm w_1569 w_1571 w_52 (show (parseMethodDescriptor (yX12_isFirm).desc).map (fun d => d.parameters.length) = some 1 by decide +kernel) ⟨by decide, by decide⟩ (rest := []) (stk2 := [.int v10]) (by rw [g10]; rfl) rfl (Nat.le_of_ble_eq_true rfl) hl dX12_merge_10 ?_
    refine v_if_eq C 48 (by decide) dX12_merge_13 (fun c13 => ?_) (fun c13 => ?_)
    · rw [if_pos c13] at hr
      refine v_iconst C 0 (by decide) dX12_merge_48 ?_
      obtain ⟨rfl, rfl⟩ := Prod.mk.inj (os hr)
      exact v_zret C rfl dX12_merge_49
    · rw [if_neg c13] at hr
      refine v_iload_n C (lv_at hl 1 rfl) rfl dX12_merge_16 ?_
      refine v_iload_n C (lv_at hl 2 rfl) rfl dX12_merge_17 ?_
      refine v_icmp_eq C 48 (by decide) dX12_merge_18 (fun c18 => ?_) (fun c18 => ?_)
      · rw [if_pos c18] at hr
        refine v_iconst C 0 (by decide) dX12_merge_48 ?_
        obtain ⟨rfl, rfl⟩ := Prod.mk.inj (os hr)
        exact v_zret C rfl dX12_merge_49
      · rw [if_neg c18] at hr
        refine v_aload_n C (lv_at hl 0 rfl) rfl dX12_merge_21 ?_
        refine v_iload_n C (lv_at hl 3 rfl) rfl dX12_merge_22 ?_
        obtain ⟨b23, f23, hr⟩ := ob hr
        obtain ⟨g23, h23⟩ := rcv_n f23
        obtain ⟨v23, e23, hr⟩ := ob hr
        refine v_callV C (b := b23) h23 (by decide) rfl rfl (k_X12_isPast e23) cw_X12_isPast w_1573 w_1575 w_53 (show (parseMethodDescriptor (yX12_isPast).desc).map (fun d => d.parameters.length) = some 1 by decide +kernel) ⟨by decide, by decide⟩ (rest := []) (stk2 := [.int v23]) (by rw [g23]; rfl) rfl (Nat.le_of_ble_eq_true rfl) hl dX12_merge_23 ?_
        refine v_if_eq C 48 (by decide) dX12_merge_26 (fun c26 => ?_) (fun c26 => ?_)
        · rw [if_pos c26] at hr
          refine v_iconst C 0 (by decide) dX12_merge_48 ?_
          obtain ⟨rfl, rfl⟩ := Prod.mk.inj (os hr)
          exact v_zret C rfl dX12_merge_49
        · rw [if_neg c26] at hr
          refine v_aload_n C (lv_at hl 0 rfl) rfl dX12_merge_29 ?_
          obtain ⟨v30, e30, hr⟩ := ob hr
          refine v_getR C fl_RX12_13 rfl e30 dX12_merge_30 ?_
          refine v_iload_n C (lv_at hl 1 rfl) rfl dX12_merge_33 ?_
          obtain ⟨v34, e34, hr⟩ := ob hr
          refine v_ldI_i C e34 dX12_merge_34 ?_
          refine v_iconst C (-1) (by decide) dX12_merge_35 ?_
          refine v_icmp_ne C 48 (by decide) dX12_merge_36 (fun c36 => ?_) (fun c36 => ?_)
          · rw [if_neg c36] at hr
            refine v_iconst C 0 (by decide) dX12_merge_48 ?_
            obtain ⟨rfl, rfl⟩ := Prod.mk.inj (os hr)
            exact v_zret C rfl dX12_merge_49
          · rw [if_pos c36] at hr
            refine v_aload_n C (lv_at hl 0 rfl) rfl dX12_merge_39 ?_
            refine v_iload_n C (lv_at hl 2 rfl) rfl dX12_merge_40 ?_
            refine v_iload_n C (lv_at hl 3 rfl) rfl dX12_merge_41 ?_
            obtain ⟨b42, f42, hr⟩ := ob hr
            obtain ⟨g42, h42⟩ := rcv_n f42
            obtain ⟨v42, e42, hr⟩ := ob hr
            refine v_callV C (b := b42) h42 (by decide) rfl rfl (k_X12_isMerged e42) cw_X12_isMerged w_1577 w_1579 w_54 (show (parseMethodDescriptor (yX12_isMerged).desc).map (fun d => d.parameters.length) = some 2 by decide +kernel) ⟨by decide, by decide⟩ (rest := []) (stk2 := [.int v42]) (by rw [g42]; rfl) rfl (Nat.le_of_ble_eq_true rfl) hl dX12_merge_42 ?_
            refine v_if_eq C 50 (by decide) dX12_merge_45 (fun c45 => ?_) (fun c45 => ?_)
            · rw [if_pos c45] at hr
              refine v_iconst C 0 (by decide) dX12_merge_50 ?_
              refine v_istore C (i := 4) (lv' := [(4, .int 0), (0, va_rf (some x0)), (1, .int x1), (2, .int x2), (3, .int x3)]) hl (by decide) rfl dX12_merge_51 (fun ls hl => ?_)
              exact b_X12_merge_53 C (fun _ _ q => by cases q; exact ⟨rfl, rfl⟩) FU hr _ (lv_sub hl [1, 2, 3, 4, 0] rfl)
            · rw [if_neg c45] at hr
              refine v_iconst C 0 (by decide) dX12_merge_48 ?_
              obtain ⟨rfl, rfl⟩ := Prod.mk.inj (os hr)
              exact v_zret C rfl dX12_merge_49
-- X12_moves
def f_X12_moves (S : St) (x0 : Nat) (x1 : Int32) (x2 : Int32) : Option (Int32 × St) :=
    (rcv S (some x0) 13).bind fun b2 =>
    (f_X12_isPerson S b2 x1).bind fun v2 =>
    (if v2 = 0 then
    some (0, S)
    else
    (f_X12_isIn S x2 (-1) 3).bind fun v11 =>
    (if v11 = 0 then
    some (0, S)
    else
    (getR S (some x0) 13 10).bind fun v20 =>
    (stI S v20 15 x1 x2).bind fun S25 =>
    some (1, S25)))
theorem k_X12_moves {l : Launch} {G : Ge} {S S' : St} {x0 : Nat} {x1 : Int32} {x2 : Int32} {rr : Int32} (hr : f_X12_moves S x0 x1 x2 = some (rr, S')) : Ct l G yX12_moves cX12_moves 3 (Option.some Jvm.ClassFile.FieldType.boolean) S [va_rf (some x0), .int x1, .int x2] (some (.int rr)) S' 2 43 := by
  refine ct_of (by decide +kernel) (Nat.le_of_ble_eq_true rfl) ?_
  intro p e s m args below meth c C ls hl
  have hl : lv_has ls 3 [(0, va_rf (some x0)), (1, .int x1), (2, .int x2)] := hl
  unfold f_X12_moves at hr
  refine v_aload_n C (lv_at hl 0 rfl) rfl dX12_moves_0 ?_
  refine v_iload_n C (lv_at hl 1 rfl) rfl dX12_moves_1 ?_
  obtain ⟨b2, f2, hr⟩ := ob hr
  obtain ⟨g2, h2⟩ := rcv_n f2
  obtain ⟨v2, e2, hr⟩ := ob hr
  refine v_callV C (b := b2) h2 (by decide) rfl rfl (k_X12_isPerson e2) cw_X12_isPerson w_1593 w_1595 w_56 (show (parseMethodDescriptor (yX12_isPerson).desc).map (fun d => d.parameters.length) = some 1 by decide +kernel) ⟨by decide, by decide⟩ (rest := []) (stk2 := [.int v2]) (by rw [g2]; rfl) rfl (Nat.le_of_ble_eq_true rfl) hl dX12_moves_2 ?_
  refine v_if_eq C 17 (by decide) dX12_moves_5 (fun c5 => ?_) (fun c5 => ?_)
  · rw [if_pos c5] at hr
    refine v_iconst C 0 (by decide) dX12_moves_17 ?_
    obtain ⟨rfl, rfl⟩ := Prod.mk.inj (os hr)
    exact v_zret C rfl dX12_moves_18
  · rw [if_neg c5] at hr
    refine v_iload_n C (lv_at hl 2 rfl) rfl dX12_moves_8 ?_
    refine v_iconst C (-1) (by decide) dX12_moves_9 ?_
    refine v_iconst C 3 (by decide) dX12_moves_10 ?_
    obtain ⟨v11, e11, hr⟩ := ob hr
    refine v_callS C (k_X12_isIn e11) cw_X12_isIn w_1555 w_1556 (show (parseMethodDescriptor (yX12_isIn).desc).map (fun d => d.parameters.length) = some 3 by decide +kernel) ⟨by decide, by decide⟩ (rest := []) (stk2 := [.int v11]) rfl rfl (Nat.le_of_ble_eq_true rfl) hl dX12_moves_11 ?_
    refine v_if_ne C 19 (by decide) dX12_moves_14 (fun c14 => ?_) (fun c14 => ?_)
    · rw [if_neg c14] at hr
      refine v_aload_n C (lv_at hl 0 rfl) rfl dX12_moves_19 ?_
      obtain ⟨v20, e20, hr⟩ := ob hr
      refine v_getR C fl_RX12_25 rfl e20 dX12_moves_20 ?_
      refine v_iload_n C (lv_at hl 1 rfl) rfl dX12_moves_23 ?_
      refine v_iload_n C (lv_at hl 2 rfl) rfl dX12_moves_24 ?_
      obtain ⟨S25, e25, hr⟩ := ob hr
      refine v_stI_i C e25 dX12_moves_25 ?_
      refine v_iconst C 1 (by decide) dX12_moves_26 ?_
      obtain ⟨rfl, rfl⟩ := Prod.mk.inj (os hr)
      exact v_zret C rfl dX12_moves_27
    · rw [if_pos c14] at hr
      refine v_iconst C 0 (by decide) dX12_moves_17 ?_
      obtain ⟨rfl, rfl⟩ := Prod.mk.inj (os hr)
      exact v_zret C rfl dX12_moves_18
-- X12_nextDay
def f_X12_nextDay_66 (rec : St → Nat → Int32 → Int32 → Int32 → Int32 → Int32 → Option (Int32)) (S : St) (x0 : Nat) (x1 : Int32) (x2 : Int32) (x3 : Int32) (x5 : Int32) : Option (Int32) :=
    (getR S (some x0) 13 20).bind fun v67 =>
    (ldI S v67 15 x5).bind fun v72 =>
    rec S x0 x1 x2 x3 v72 (x5 + 1)
def f_X12_nextDay_6 : Nat → St → Nat → Int32 → Int32 → Int32 → Int32 → Int32 → Option (Int32)
  | 0, _, _, _, _, _, _, _ => none
  | n + 1, S, x0, x1, x2, x3, x4, x5 =>
    (getI S (some x0) 13 4).bind fun v9 =>
    (if v9 ≤ x5 then
    some x4
    else
    (getR S (some x0) 13 18).bind fun v16 =>
    (ldI S v16 15 x5).bind fun v21 =>
    (if v21 = x1 then
    (getR S (some x0) 13 23).bind fun v27 =>
    (ldI S v27 15 x5).bind fun v32 =>
    (if x3 < v32 then
    f_X12_nextDay_6 n S x0 x1 x2 x3 x4 (x5 + 1)
    else
    (getR S (some x0) 13 20).bind fun v38 =>
    (ldI S v38 15 x5).bind fun v43 =>
    (if v43 < x2 then
    f_X12_nextDay_6 n S x0 x1 x2 x3 x4 (x5 + 1)
    else
    (if x4 = (-1) then
    f_X12_nextDay_66 (f_X12_nextDay_6 n) S x0 x1 x2 x3 x5
    else
    (getR S (some x0) 13 20).bind fun v55 =>
    (ldI S v55 15 x5).bind fun v60 =>
    (if x4 ≤ v60 then
    f_X12_nextDay_6 n S x0 x1 x2 x3 x4 (x5 + 1)
    else
    f_X12_nextDay_66 (f_X12_nextDay_6 n) S x0 x1 x2 x3 x5))))
    else
    f_X12_nextDay_6 n S x0 x1 x2 x3 x4 (x5 + 1)))
def f_X12_nextDay (S : St) (x0 : Nat) (x1 : Int32) (x2 : Int32) (x3 : Int32) : Option Int32 :=
    f_X12_nextDay_6 FU S x0 x1 x2 x3 (-1) 0
theorem b_X12_nextDay_66  {S : St} {rr : Int32} {x0 : Nat} {x1 : Int32} {x2 : Int32} {x3 : Int32} {x5 : Int32} (C : Cx p s m args meth c G S yX12_nextDay cX12_nextDay 6 (Option.some Jvm.ClassFile.FieldType.int)) {o : (Int32)} {rec : St → Nat → Int32 → Int32 → Int32 → Int32 → Int32 → Option (Int32)} (kR : ∀ (v : Int32), o = v → rr = v) (ihk : ∀ {x0 : Nat} {x1 : Int32} {x2 : Int32} {x3 : Int32} {x4 : Int32} {x5 : Int32}, rec S x0 x1 x2 x3 x4 x5 = some o → ∀ ls : Array Slot, lv_has ls 6 [(0, va_rf (some x0)), (1, .int x1), (2, .int x2), (3, .int x3), (4, .int x4), (5, .int x5)] → V p l e (rmo 0 0 S) s m args below meth c G S S (QM below args s G S S (some (.int rr))) (F0 m 6 ls [])) (hr : f_X12_nextDay_66 rec S x0 x1 x2 x3 x5 = some o) : ∀ ls : Array Slot, lv_has ls 6 [(0, va_rf (some x0)), (1, .int x1), (2, .int x2), (3, .int x3), (5, .int x5)] → V p l e (rmo 0 0 S) s m args below meth c G S S (QM below args s G S S (some (.int rr))) (F0 m 66 ls []) := by
  intro ls hl
  unfold f_X12_nextDay_66 at hr
  refine v_aload_n C (lv_at hl 0 rfl) rfl dX12_nextDay_66 ?_
  obtain ⟨v67, e67, hr⟩ := ob hr
  refine v_getR C fl_RX12_55 rfl e67 dX12_nextDay_67 ?_
  refine v_iload C (lv_at hl 4 rfl) dX12_nextDay_70 ?_
  obtain ⟨v72, e72, hr⟩ := ob hr
  refine v_ldI_i C e72 dX12_nextDay_72 ?_
  refine v_istore C (i := 4) (lv' := [(4, .int v72), (0, va_rf (some x0)), (1, .int x1), (2, .int x2), (3, .int x3), (5, .int x5)]) hl (by decide) rfl dX12_nextDay_73 (fun ls hl => ?_)
  refine v_iinc C (x5 + 1) (k0 := 5) (lv' := [(5, .int (x5 + 1)), (4, .int v72), (0, va_rf (some x0)), (1, .int x1), (2, .int x2), (3, .int x3)]) hl rfl rfl (by decide) rfl dX12_nextDay_75 (fun ls hl => ?_)
  refine v_goto C 6 (by decide) dX12_nextDay_78 ?_
  exact ihk hr _ (lv_sub hl [2, 3, 4, 5, 1, 0] rfl)
theorem b_X12_nextDay_6  {S : St} {rr : Int32} (C : Cx p s m args meth c G S yX12_nextDay cX12_nextDay 6 (Option.some Jvm.ClassFile.FieldType.int)) {o : (Int32)} (kR : ∀ (v : Int32), o = v → rr = v) : ∀ (n : Nat) {x0 : Nat} {x1 : Int32} {x2 : Int32} {x3 : Int32} {x4 : Int32} {x5 : Int32}, f_X12_nextDay_6 n S x0 x1 x2 x3 x4 x5 = some o → ∀ ls : Array Slot, lv_has ls 6 [(0, va_rf (some x0)), (1, .int x1), (2, .int x2), (3, .int x3), (4, .int x4), (5, .int x5)] → V p l e (rmo 0 0 S) s m args below meth c G S S (QM below args s G S S (some (.int rr))) (F0 m 6 ls []) := by
  intro n
  induction n with
  | zero => intro x0 x1 x2 x3 x4 x5 hr; cases hr
  | succ n ih =>
    intro x0 x1 x2 x3 x4 x5 hr ls hl
    unfold f_X12_nextDay_6 at hr
    refine v_iload C (lv_at hl 5 rfl) dX12_nextDay_6 ?_
    refine v_aload_n C (lv_at hl 0 rfl) rfl dX12_nextDay_8 ?_
    obtain ⟨v9, e9, hr⟩ := ob hr
    refine v_getI C fl_RX12_234 rfl e9 dX12_nextDay_9 ?_
    refine v_icmp_ge C 81 (by decide) dX12_nextDay_12 (fun c12 => ?_) (fun c12 => ?_)
    · rw [if_pos c12] at hr
      refine v_iload C (lv_at hl 4 rfl) dX12_nextDay_81 ?_
      obtain rfl := os hr
      obtain rfl := kR _ rfl
      exact v_iret C dX12_nextDay_83
    · rw [if_neg c12] at hr
      refine v_aload_n C (lv_at hl 0 rfl) rfl dX12_nextDay_15 ?_
      obtain ⟨v16, e16, hr⟩ := ob hr
      refine v_getR C fl_RX12_49 rfl e16 dX12_nextDay_16 ?_
      refine v_iload C (lv_at hl 5 rfl) dX12_nextDay_19 ?_
      obtain ⟨v21, e21, hr⟩ := ob hr
      refine v_ldI_i C e21 dX12_nextDay_21 ?_
      refine v_iload_n C (lv_at hl 1 rfl) rfl dX12_nextDay_22 ?_
      refine v_icmp_ne C 75 (by decide) dX12_nextDay_23 (fun c23 => ?_) (fun c23 => ?_)
      · rw [if_neg c23] at hr
        refine v_iinc C (x5 + 1) (k0 := 5) (lv' := [(5, .int (x5 + 1)), (0, va_rf (some x0)), (1, .int x1), (2, .int x2), (3, .int x3), (4, .int x4)]) hl rfl rfl (by decide) rfl dX12_nextDay_75 (fun ls hl => ?_)
        refine v_goto C 6 (by decide) dX12_nextDay_78 ?_
        exact ih hr _ (lv_sub hl [1, 2, 3, 4, 5, 0] rfl)
      · rw [if_pos c23] at hr
        refine v_aload_n C (lv_at hl 0 rfl) rfl dX12_nextDay_26 ?_
        obtain ⟨v27, e27, hr⟩ := ob hr
        refine v_getR C fl_RX12_64 rfl e27 dX12_nextDay_27 ?_
        refine v_iload C (lv_at hl 5 rfl) dX12_nextDay_30 ?_
        obtain ⟨v32, e32, hr⟩ := ob hr
        refine v_ldI_i C e32 dX12_nextDay_32 ?_
        refine v_iload_n C (lv_at hl 3 rfl) rfl dX12_nextDay_33 ?_
        refine v_icmp_gt C 75 (by decide) dX12_nextDay_34 (fun c34 => ?_) (fun c34 => ?_)
        · rw [if_pos c34] at hr
          refine v_iinc C (x5 + 1) (k0 := 5) (lv' := [(5, .int (x5 + 1)), (0, va_rf (some x0)), (1, .int x1), (2, .int x2), (3, .int x3), (4, .int x4)]) hl rfl rfl (by decide) rfl dX12_nextDay_75 (fun ls hl => ?_)
          refine v_goto C 6 (by decide) dX12_nextDay_78 ?_
          exact ih hr _ (lv_sub hl [1, 2, 3, 4, 5, 0] rfl)
        · rw [if_neg c34] at hr
          refine v_aload_n C (lv_at hl 0 rfl) rfl dX12_nextDay_37 ?_
          obtain ⟨v38, e38, hr⟩ := ob hr
          refine v_getR C fl_RX12_55 rfl e38 dX12_nextDay_38 ?_
          refine v_iload C (lv_at hl 5 rfl) dX12_nextDay_41 ?_
          obtain ⟨v43, e43, hr⟩ := ob hr
          refine v_ldI_i C e43 dX12_nextDay_43 ?_
          refine v_iload_n C (lv_at hl 2 rfl) rfl dX12_nextDay_44 ?_
          refine v_icmp_lt C 75 (by decide) dX12_nextDay_45 (fun c45 => ?_) (fun c45 => ?_)
          · rw [if_pos c45] at hr
            refine v_iinc C (x5 + 1) (k0 := 5) (lv' := [(5, .int (x5 + 1)), (0, va_rf (some x0)), (1, .int x1), (2, .int x2), (3, .int x3), (4, .int x4)]) hl rfl rfl (by decide) rfl dX12_nextDay_75 (fun ls hl => ?_)
            refine v_goto C 6 (by decide) dX12_nextDay_78 ?_
            exact ih hr _ (lv_sub hl [1, 2, 3, 4, 5, 0] rfl)
          · rw [if_neg c45] at hr
            refine v_iload C (lv_at hl 4 rfl) dX12_nextDay_48 ?_
            refine v_iconst C (-1) (by decide) dX12_nextDay_50 ?_
            refine v_icmp_eq C 66 (by decide) dX12_nextDay_51 (fun c51 => ?_) (fun c51 => ?_)
            · rw [if_pos c51] at hr
              exact b_X12_nextDay_66 C kR (@ih) hr _ (lv_sub hl [0, 1, 2, 3, 5] rfl)
            · rw [if_neg c51] at hr
              refine v_aload_n C (lv_at hl 0 rfl) rfl dX12_nextDay_54 ?_
              obtain ⟨v55, e55, hr⟩ := ob hr
              refine v_getR C fl_RX12_55 rfl e55 dX12_nextDay_55 ?_
              refine v_iload C (lv_at hl 5 rfl) dX12_nextDay_58 ?_
              obtain ⟨v60, e60, hr⟩ := ob hr
              refine v_ldI_i C e60 dX12_nextDay_60 ?_
              refine v_iload C (lv_at hl 4 rfl) dX12_nextDay_61 ?_
              refine v_icmp_ge C 75 (by decide) dX12_nextDay_63 (fun c63 => ?_) (fun c63 => ?_)
              · rw [if_pos c63] at hr
                refine v_iinc C (x5 + 1) (k0 := 5) (lv' := [(5, .int (x5 + 1)), (0, va_rf (some x0)), (1, .int x1), (2, .int x2), (3, .int x3), (4, .int x4)]) hl rfl rfl (by decide) rfl dX12_nextDay_75 (fun ls hl => ?_)
                refine v_goto C 6 (by decide) dX12_nextDay_78 ?_
                exact ih hr _ (lv_sub hl [1, 2, 3, 4, 5, 0] rfl)
              · rw [if_neg c63] at hr
                exact b_X12_nextDay_66 C kR (@ih) hr _ (lv_sub hl [0, 1, 2, 3, 5] rfl)
theorem k_X12_nextDay {l : Launch} {G : Ge} {S : St} {x0 : Nat} {x1 : Int32} {x2 : Int32} {x3 : Int32} {rr : Int32} (hr : f_X12_nextDay S x0 x1 x2 x3 = some rr) : Ct l G yX12_nextDay cX12_nextDay 6 (Option.some Jvm.ClassFile.FieldType.int) S [va_rf (some x0), .int x1, .int x2, .int x3] (some (.int rr)) S 0 0 := by
  refine ct_of (by decide +kernel) (Nat.le_of_ble_eq_true rfl) ?_
  intro p e s m args below meth c C ls hl
  have hl : lv_has ls 6 [(0, va_rf (some x0)), (1, .int x1), (2, .int x2), (3, .int x3)] := hl
  unfold f_X12_nextDay at hr
  refine v_iconst C (-1) (by decide) dX12_nextDay_0 ?_
  refine v_istore C (i := 4) (lv' := [(4, .int (-1)), (0, va_rf (some x0)), (1, .int x1), (2, .int x2), (3, .int x3)]) hl (by decide) rfl dX12_nextDay_1 (fun ls hl => ?_)
  refine v_iconst C 0 (by decide) dX12_nextDay_3 ?_
  refine v_istore C (i := 5) (lv' := [(5, .int 0), (4, .int (-1)), (0, va_rf (some x0)), (1, .int x1), (2, .int x2), (3, .int x3)]) hl (by decide) rfl dX12_nextDay_4 (fun ls hl => ?_)
  exact b_X12_nextDay_6 C (fun _ q => by cases q; rfl) FU hr _ (lv_sub hl [2, 3, 4, 5, 1, 0] rfl)
-- X12_owedTo
def f_X12_owedTo (S : St) (x0 : Nat) (x1 : Int32) (x2 : Int32) : Option Int32 :=
    (getR S (some x0) 13 10).bind fun v1 =>
    (getR S (some x0) 13 16).bind fun v5 =>
    (ldI S v5 15 x1).bind fun v9 =>
    (ldI S v1 15 v9).bind fun v10 =>
    (if v10 = (-1) then
    (getR S (some x0) 13 5).bind fun v30 =>
    (getR S (some x0) 13 14).bind fun v35 =>
    (ldI S v35 15 x1).bind fun v39 =>
    (rcv S (some x0) 13).bind fun b41 =>
    (f_X12_firmOf S b41 v39 x2).bind fun v41 =>
    (ldI S v30 15 v41).bind fun v44 =>
    some v44
    else
    (getR S (some x0) 13 10).bind fun v16 =>
    (getR S (some x0) 13 16).bind fun v20 =>
    (ldI S v20 15 x1).bind fun v24 =>
    (ldI S v16 15 v24).bind fun v25 =>
    some v25)
theorem k_X12_owedTo {l : Launch} {G : Ge} {S : St} {x0 : Nat} {x1 : Int32} {x2 : Int32} {rr : Int32} (hr : f_X12_owedTo S x0 x1 x2 = some rr) : Ct l G yX12_owedTo cX12_owedTo 3 (Option.some Jvm.ClassFile.FieldType.int) S [va_rf (some x0), .int x1, .int x2] (some (.int rr)) S 2 45 := by
  refine ct_of (by decide +kernel) (Nat.le_of_ble_eq_true rfl) ?_
  intro p e s m args below meth c C ls hl
  have hl : lv_has ls 3 [(0, va_rf (some x0)), (1, .int x1), (2, .int x2)] := hl
  unfold f_X12_owedTo at hr
  refine v_aload_n C (lv_at hl 0 rfl) rfl dX12_owedTo_0 ?_
  obtain ⟨v1, e1, hr⟩ := ob hr
  refine v_getR C fl_RX12_25 rfl e1 dX12_owedTo_1 ?_
  refine v_aload_n C (lv_at hl 0 rfl) rfl dX12_owedTo_4 ?_
  obtain ⟨v5, e5, hr⟩ := ob hr
  refine v_getR C fl_RX12_43 rfl e5 dX12_owedTo_5 ?_
  refine v_iload_n C (lv_at hl 1 rfl) rfl dX12_owedTo_8 ?_
  obtain ⟨v9, e9, hr⟩ := ob hr
  refine v_ldI_i C e9 dX12_owedTo_9 ?_
  obtain ⟨v10, e10, hr⟩ := ob hr
  refine v_ldI_i C e10 dX12_owedTo_10 ?_
  refine v_iconst C (-1) (by decide) dX12_owedTo_11 ?_
  refine v_icmp_eq C 29 (by decide) dX12_owedTo_12 (fun c12 => ?_) (fun c12 => ?_)
  · rw [if_pos c12] at hr
    refine v_aload_n C (lv_at hl 0 rfl) rfl dX12_owedTo_29 ?_
    obtain ⟨v30, e30, hr⟩ := ob hr
    refine v_getR C fl_RX12_7 rfl e30 dX12_owedTo_30 ?_
    refine v_aload_n C (lv_at hl 0 rfl) rfl dX12_owedTo_33 ?_
    refine v_aload_n C (lv_at hl 0 rfl) rfl dX12_owedTo_34 ?_
    obtain ⟨v35, e35, hr⟩ := ob hr
    refine v_getR C fl_RX12_37 rfl e35 dX12_owedTo_35 ?_
    refine v_iload_n C (lv_at hl 1 rfl) rfl dX12_owedTo_38 ?_
    obtain ⟨v39, e39, hr⟩ := ob hr
    refine v_ldI_i C e39 dX12_owedTo_39 ?_
    refine v_iload_n C (lv_at hl 2 rfl) rfl dX12_owedTo_40 ?_
    obtain ⟨b41, f41, hr⟩ := ob hr
    obtain ⟨g41, h41⟩ := rcv_n f41
    obtain ⟨v41, e41, hr⟩ := ob hr
    refine v_callV C (b := b41) h41 (by decide) rfl rfl (k_X12_firmOf e41) cw_X12_firmOf w_1585 w_1587 w_55 (show (parseMethodDescriptor (yX12_firmOf).desc).map (fun d => d.parameters.length) = some 2 by decide +kernel) ⟨by decide, by decide⟩ (rest := [va_rf v30]) (stk2 := [.int v41, va_rf v30]) (by rw [g41]; rfl) rfl (by simp [rf_cat, cat_i, cat_l]) hl dX12_owedTo_41 ?_
    obtain ⟨v44, e44, hr⟩ := ob hr
    refine v_ldI_i C e44 dX12_owedTo_44 ?_
    obtain rfl := os hr
    exact v_iret C dX12_owedTo_45
  · rw [if_neg c12] at hr
    refine v_aload_n C (lv_at hl 0 rfl) rfl dX12_owedTo_15 ?_
    obtain ⟨v16, e16, hr⟩ := ob hr
    refine v_getR C fl_RX12_25 rfl e16 dX12_owedTo_16 ?_
    refine v_aload_n C (lv_at hl 0 rfl) rfl dX12_owedTo_19 ?_
    obtain ⟨v20, e20, hr⟩ := ob hr
    refine v_getR C fl_RX12_43 rfl e20 dX12_owedTo_20 ?_
    refine v_iload_n C (lv_at hl 1 rfl) rfl dX12_owedTo_23 ?_
    obtain ⟨v24, e24, hr⟩ := ob hr
    refine v_ldI_i C e24 dX12_owedTo_24 ?_
    obtain ⟨v25, e25, hr⟩ := ob hr
    refine v_ldI_i C e25 dX12_owedTo_25 ?_
    refine v_goto C 45 (by decide) dX12_owedTo_26 ?_
    obtain rfl := os hr
    exact v_iret C dX12_owedTo_45
-- X12_pay
def f_X12_pay_44 : Nat → St → Nat → Int32 → Int32 → Int32 → Option (((Int64 × St)) ⊕ (Nat × Int32 × Int32 × St))
  | 0, _, _, _, _, _ => none
  | n + 1, S, x0, x1, x2, x3 =>
    (getI S (some x0) 13 69).bind fun v46 =>
    (if v46 ≤ x3 then
    some (.inr (x0, x1, x2, S))
    else
    (getR S (some x0) 13 71).bind fun v53 =>
    (ldI S v53 15 x3).bind fun v57 =>
    (if v57 = x2 then
    (getR S (some x0) 13 70).bind fun v63 =>
    (ldI S v63 15 x3).bind fun v67 =>
    (getR S (some x0) 13 70).bind fun v69 =>
    (ldI S v69 15 x1).bind fun v73 =>
    (if v67 = v73 then
    (getR S (some x0) 13 74).bind fun v78 =>
    (ldI S v78 15 x3).bind fun v82 =>
    (if v82 = 1 then
    some (.inl ((-1), S))
    else
    f_X12_pay_44 n S x0 x1 x2 (x3 + 1))
    else
    f_X12_pay_44 n S x0 x1 x2 (x3 + 1))
    else
    f_X12_pay_44 n S x0 x1 x2 (x3 + 1)))
def f_X12_pay_255 (S : St) (x0 : Nat) (x1 : Int32) (x5 : Int64) (t0 : Int32) : Option (Int64 × St) :=
    (getR S (some x0) 13 74).bind fun v258 =>
    (stI S v258 15 x1 1).bind fun S263 =>
    (getR S263 (some x0) 13 75).bind fun v265 =>
    (stL S263 v265 x1 x5).bind fun S271 =>
    (getR S271 (some x0) 13 76).bind fun v273 =>
    (divL (x5 * (Int32.toInt64 t0)) 100).bind fun v286 =>
    (stL S271 v273 x1 v286).bind fun S287 =>
    some (x5, S287)
def f_X12_pay_198 (S : St) (x0 : Nat) (x1 : Int32) (x2 : Int32) (x3 : Int64) (x5 : Int64) : Option (Int64 × St) :=
    (rcv S (some x0) 13).bind fun b200 =>
    (f_X12_paidOf S b200 x2).bind fun v200 =>
    (if (lg_cmp (v200 + x5) x3) ≤ 0 then
    (getR S (some x0) 13 73).bind fun v216 =>
    (ldI S v216 15 x1).bind fun v220 =>
    (getR S (some x0) 13 27).bind fun v222 =>
    (getR S (some x0) 13 56).bind fun v226 =>
    (ldI S v226 15 x2).bind fun v230 =>
    (ldI S v222 15 v230).bind fun v231 =>
    (if v231 ≤ v220 then
    (getR S (some x0) 13 27).bind fun v245 =>
    (getR S (some x0) 13 56).bind fun v249 =>
    (ldI S v249 15 x2).bind fun v253 =>
    (ldI S v245 15 v253).bind fun v254 =>
    f_X12_pay_255 S x0 x1 x5 v254
    else
    (getR S (some x0) 13 73).bind fun v236 =>
    (ldI S v236 15 x1).bind fun v240 =>
    f_X12_pay_255 S x0 x1 x5 v240)
    else
    some ((-1), S))
def f_X12_pay (S : St) (x0 : Nat) (x1 : Int32) : Option (Int64 × St) :=
    (getI S (some x0) 13 69).bind fun v3 =>
    (f_X12_isIn S x1 0 (v3 - 1)).bind fun v8 =>
    (if v8 = 0 then
    some ((-1), S)
    else
    (getR S (some x0) 13 74).bind fun v15 =>
    (ldI S v15 15 x1).bind fun v19 =>
    (if v19 = 0 then
    (rcv S (some x0) 13).bind fun b25 =>
    (f_X12_isGood S b25 x1).bind fun (v25, S25) =>
    (if v25 = 0 then
    some ((-1), S25)
    else
    (getR S25 (some x0) 13 71).bind fun v36 =>
    (ldI S25 v36 15 x1).bind fun v40 =>
    ((f_X12_pay_44 FU S25 x0 x1 v40 0).bind fun o => match o with
    | (.inl (v, Z)) => some (v, Z)
    | (.inr (x0, x1_44, x2_44, S_44)) => (getR S_44 (some x0) 13 59).bind fun v98 =>
    (ldL S_44 v98 x2_44).bind fun v102 =>
    (rcv S_44 (some x0) 13).bind fun b105 =>
    (f_X12_interest S_44 b105 x2_44).bind fun v105 =>
    (getR S_44 (some x0) 13 13).bind fun v114 =>
    (getR S_44 (some x0) 13 16).bind fun v118 =>
    (ldI S_44 v118 15 x2_44).bind fun v122 =>
    (ldI S_44 v114 15 v122).bind fun v123 =>
    (if v123 = (-1) then
    f_X12_pay_198 S_44 x0 x1_44 x2_44 (v102 + v105) (v102 + v105)
    else
    (getR S_44 (some x0) 13 16).bind fun v130 =>
    (ldI S_44 v130 15 x2_44).bind fun v134 =>
    (rcv S_44 (some x0) 13).bind fun b135 =>
    (f_X12_shares S_44 b135 v134).bind fun S135 =>
    (getR S135 (some x0) 13 67).bind fun v139 =>
    (getR S135 (some x0) 13 70).bind fun v143 =>
    (ldI S135 v143 15 x1_44).bind fun v147 =>
    (ldL S135 v139 v147).bind fun v148 =>
    (getR S135 (some x0) 13 68).bind fun v150 =>
    (getR S135 (some x0) 13 70).bind fun v154 =>
    (ldI S135 v154 15 x1_44).bind fun v158 =>
    (ldL S135 v150 v158).bind fun v159 =>
    (f_X12_common S135 v148 v159).bind fun v160 =>
    (getR S135 (some x0) 13 67).bind fun v167 =>
    (getR S135 (some x0) 13 70).bind fun v171 =>
    (ldI S135 v171 15 x1_44).bind fun v175 =>
    (ldL S135 v167 v175).bind fun v176 =>
    (divL v176 v160).bind fun v179 =>
    (getR S135 (some x0) 13 68).bind fun v182 =>
    (getR S135 (some x0) 13 70).bind fun v186 =>
    (ldI S135 v186 15 x1_44).bind fun v190 =>
    (ldL S135 v182 v190).bind fun v191 =>
    (divL v191 v160).bind fun v194 =>
    (divL ((v102 + v105) * v179) v194).bind fun v195 =>
    f_X12_pay_198 S135 x0 x1_44 x2_44 (v102 + v105) v195)))
    else
    some ((-1), S)))
theorem b_X12_pay_44  {S0 S' : St} {rr : Int64} (C : Cx p s m args meth c G S0 yX12_pay cX12_pay 9 (Option.some Jvm.ClassFile.FieldType.long)) {o : (((Int64 × St)) ⊕ (Nat × Int32 × Int32 × St))} (kR : ∀ (v : Int64) (Z : St), o = (.inl (v, Z)) → rr = v ∧ S' = Z) (kX97 : ∀ {x0 : Nat} {x1 : Int32} {x2 : Int32} {Z : St}, o = (.inr (x0, x1, x2, Z)) → ∀ ls : Array Slot, lv_has ls 9 [(0, va_rf (some x0)), (1, .int x1), (2, .int x2)] → V p l e (rmo 5 120 S0) s m args below meth c G S0 Z (QM below args s G S0 S' (some (.long rr))) (F0 m 97 ls [])) : ∀ (n : Nat) {S : St} {x0 : Nat} {x1 : Int32} {x2 : Int32} {x3 : Int32}, f_X12_pay_44 n S x0 x1 x2 x3 = some o → ∀ ls : Array Slot, lv_has ls 9 [(0, va_rf (some x0)), (1, .int x1), (2, .int x2), (3, .int x3)] → V p l e (rmo 5 120 S0) s m args below meth c G S0 S (QM below args s G S0 S' (some (.long rr))) (F0 m 44 ls []) := by
  intro n
  induction n with
  | zero => intro S x0 x1 x2 x3 hr; cases hr
  | succ n ih =>
    intro S x0 x1 x2 x3 hr ls hl
    unfold f_X12_pay_44 at hr
    refine v_iload_n C (lv_at hl 3 rfl) rfl dX12_pay_44 ?_
    refine v_aload_n C (lv_at hl 0 rfl) rfl dX12_pay_45 ?_
    obtain ⟨v46, e46, hr⟩ := ob hr
    refine v_getI C fl_RX12_411 rfl e46 dX12_pay_46 ?_
    refine v_icmp_ge C 97 (by decide) dX12_pay_49 (fun c49 => ?_) (fun c49 => ?_)
    · rw [if_pos c49] at hr
      obtain rfl := os hr
      exact kX97 rfl _ (lv_sub hl [0, 1, 2] rfl)
    · rw [if_neg c49] at hr
      refine v_aload_n C (lv_at hl 0 rfl) rfl dX12_pay_52 ?_
      obtain ⟨v53, e53, hr⟩ := ob hr
      refine v_getR C fl_RX12_163 rfl e53 dX12_pay_53 ?_
      refine v_iload_n C (lv_at hl 3 rfl) rfl dX12_pay_56 ?_
      obtain ⟨v57, e57, hr⟩ := ob hr
      refine v_ldI_i C e57 dX12_pay_57 ?_
      refine v_iload_n C (lv_at hl 2 rfl) rfl dX12_pay_58 ?_
      refine v_icmp_ne C 91 (by decide) dX12_pay_59 (fun c59 => ?_) (fun c59 => ?_)
      · rw [if_neg c59] at hr
        refine v_iinc C (x3 + 1) (k0 := 3) (lv' := [(3, .int (x3 + 1)), (0, va_rf (some x0)), (1, .int x1), (2, .int x2)]) hl rfl rfl (by decide) rfl dX12_pay_91 (fun ls hl => ?_)
        refine v_goto C 44 (by decide) dX12_pay_94 ?_
        exact ih hr _ (lv_sub hl [1, 2, 3, 0] rfl)
      · rw [if_pos c59] at hr
        refine v_aload_n C (lv_at hl 0 rfl) rfl dX12_pay_62 ?_
        obtain ⟨v63, e63, hr⟩ := ob hr
        refine v_getR C fl_RX12_160 rfl e63 dX12_pay_63 ?_
        refine v_iload_n C (lv_at hl 3 rfl) rfl dX12_pay_66 ?_
        obtain ⟨v67, e67, hr⟩ := ob hr
        refine v_ldI_i C e67 dX12_pay_67 ?_
        refine v_aload_n C (lv_at hl 0 rfl) rfl dX12_pay_68 ?_
        obtain ⟨v69, e69, hr⟩ := ob hr
        refine v_getR C fl_RX12_160 rfl e69 dX12_pay_69 ?_
        refine v_iload_n C (lv_at hl 1 rfl) rfl dX12_pay_72 ?_
        obtain ⟨v73, e73, hr⟩ := ob hr
        refine v_ldI_i C e73 dX12_pay_73 ?_
        refine v_icmp_ne C 91 (by decide) dX12_pay_74 (fun c74 => ?_) (fun c74 => ?_)
        · rw [if_neg c74] at hr
          refine v_iinc C (x3 + 1) (k0 := 3) (lv' := [(3, .int (x3 + 1)), (0, va_rf (some x0)), (1, .int x1), (2, .int x2)]) hl rfl rfl (by decide) rfl dX12_pay_91 (fun ls hl => ?_)
          refine v_goto C 44 (by decide) dX12_pay_94 ?_
          exact ih hr _ (lv_sub hl [1, 2, 3, 0] rfl)
        · rw [if_pos c74] at hr
          refine v_aload_n C (lv_at hl 0 rfl) rfl dX12_pay_77 ?_
          obtain ⟨v78, e78, hr⟩ := ob hr
          refine v_getR C fl_RX12_172 rfl e78 dX12_pay_78 ?_
          refine v_iload_n C (lv_at hl 3 rfl) rfl dX12_pay_81 ?_
          obtain ⟨v82, e82, hr⟩ := ob hr
          refine v_ldI_i C e82 dX12_pay_82 ?_
          refine v_iconst C 1 (by decide) dX12_pay_83 ?_
          refine v_icmp_ne C 91 (by decide) dX12_pay_84 (fun c84 => ?_) (fun c84 => ?_)
          · rw [if_neg c84] at hr
            refine v_iinc C (x3 + 1) (k0 := 3) (lv' := [(3, .int (x3 + 1)), (0, va_rf (some x0)), (1, .int x1), (2, .int x2)]) hl rfl rfl (by decide) rfl dX12_pay_91 (fun ls hl => ?_)
            refine v_goto C 44 (by decide) dX12_pay_94 ?_
            exact ih hr _ (lv_sub hl [1, 2, 3, 0] rfl)
          · rw [if_pos c84] at hr
            refine v_ldc2 C w_1643 dX12_pay_87 ?_
            obtain rfl := os hr
            obtain ⟨rfl, rfl⟩ := kR _ _ rfl
            exact v_lret C dX12_pay_90
theorem b_X12_pay_255  {S0 S S' : St} {rr : Int64} {x0 : Nat} {x1 : Int32} {x5 : Int64} {t0 : Int32} (C : Cx p s m args meth c G S0 yX12_pay cX12_pay 9 (Option.some Jvm.ClassFile.FieldType.long)) (hr : f_X12_pay_255 S x0 x1 x5 t0 = some (rr, S')) : ∀ ls : Array Slot, lv_has ls 9 [(0, va_rf (some x0)), (1, .int x1), (5, .long x5)] → V p l e (rmo 5 120 S0) s m args below meth c G S0 S (QM below args s G S0 S' (some (.long rr))) (F0 m 255 ls [.int t0]) := by
  intro ls hl
  unfold f_X12_pay_255 at hr
  refine v_istore C (i := 7) (lv' := [(7, .int t0), (0, va_rf (some x0)), (1, .int x1), (5, .long x5)]) hl (by decide) rfl dX12_pay_255 (fun ls hl => ?_)
  refine v_aload_n C (lv_at hl 1 rfl) rfl dX12_pay_257 ?_
  obtain ⟨v258, e258, hr⟩ := ob hr
  refine v_getR C fl_RX12_172 rfl e258 dX12_pay_258 ?_
  refine v_iload_n C (lv_at hl 2 rfl) rfl dX12_pay_261 ?_
  refine v_iconst C 1 (by decide) dX12_pay_262 ?_
  obtain ⟨S263, e263, hr⟩ := ob hr
  refine v_stI_i C e263 dX12_pay_263 ?_
  refine v_aload_n C (lv_at hl 1 rfl) rfl dX12_pay_264 ?_
  obtain ⟨v265, e265, hr⟩ := ob hr
  refine v_getR C fl_RX12_175 rfl e265 dX12_pay_265 ?_
  refine v_iload_n C (lv_at hl 2 rfl) rfl dX12_pay_268 ?_
  refine v_lload C (lv_at hl 3 rfl) dX12_pay_269 ?_
  obtain ⟨S271, e271, hr⟩ := ob hr
  refine v_stL C e271 dX12_pay_271 ?_
  refine v_aload_n C (lv_at hl 1 rfl) rfl dX12_pay_272 ?_
  obtain ⟨v273, e273, hr⟩ := ob hr
  refine v_getR C fl_RX12_178 rfl e273 dX12_pay_273 ?_
  refine v_iload_n C (lv_at hl 2 rfl) rfl dX12_pay_276 ?_
  refine v_lload C (lv_at hl 3 rfl) dX12_pay_277 ?_
  refine v_iload C (lv_at hl 0 rfl) dX12_pay_279 ?_
  refine v_i2l C dX12_pay_281 ?_
  refine v_lmul C dX12_pay_282 ?_
  refine v_ldc2 C w_1893 dX12_pay_283 ?_
  obtain ⟨v286, e286, hr⟩ := ob hr
  refine v_ldiv C e286 dX12_pay_286 ?_
  obtain ⟨S287, e287, hr⟩ := ob hr
  refine v_stL C e287 dX12_pay_287 ?_
  refine v_lload C (lv_at hl 3 rfl) dX12_pay_288 ?_
  obtain ⟨rfl, rfl⟩ := Prod.mk.inj (os hr)
  exact v_lret C dX12_pay_290
theorem b_X12_pay_198  {S0 S S' : St} {rr : Int64} {x0 : Nat} {x1 : Int32} {x2 : Int32} {x3 : Int64} {x5 : Int64} (C : Cx p s m args meth c G S0 yX12_pay cX12_pay 9 (Option.some Jvm.ClassFile.FieldType.long)) (hr : f_X12_pay_198 S x0 x1 x2 x3 x5 = some (rr, S')) : ∀ ls : Array Slot, lv_has ls 9 [(0, va_rf (some x0)), (1, .int x1), (2, .int x2), (3, .long x3), (5, .long x5)] → V p l e (rmo 5 120 S0) s m args below meth c G S0 S (QM below args s G S0 S' (some (.long rr))) (F0 m 198 ls []) := by
  intro ls hl
  unfold f_X12_pay_198 at hr
  refine v_aload_n C (lv_at hl 0 rfl) rfl dX12_pay_198 ?_
  refine v_iload_n C (lv_at hl 2 rfl) rfl dX12_pay_199 ?_
  obtain ⟨b200, f200, hr⟩ := ob hr
  obtain ⟨g200, h200⟩ := rcv_n f200
  obtain ⟨v200, e200, hr⟩ := ob hr
  refine v_callV C (b := b200) h200 (by decide) rfl rfl (k_X12_paidOf e200) cw_X12_paidOf w_1793 w_1795 w_85 (show (parseMethodDescriptor (yX12_paidOf).desc).map (fun d => d.parameters.length) = some 1 by decide +kernel) ⟨by decide, by decide⟩ (rest := []) (stk2 := [.long v200]) (by rw [g200]; rfl) rfl (Nat.le_of_ble_eq_true rfl) hl dX12_pay_200 ?_
  refine v_lload C (lv_at hl 4 rfl) dX12_pay_203 ?_
  refine v_ladd C dX12_pay_205 ?_
  refine v_lload_n C (lv_at hl 3 rfl) rfl dX12_pay_206 ?_
  refine v_lcmp C dX12_pay_207 ?_
  refine v_if_le C 215 (by decide) dX12_pay_208 (fun c208 => ?_) (fun c208 => ?_)
  · rw [if_pos c208] at hr
    refine v_aload_n C (lv_at hl 0 rfl) rfl dX12_pay_215 ?_
    obtain ⟨v216, e216, hr⟩ := ob hr
    refine v_getR C fl_RX12_169 rfl e216 dX12_pay_216 ?_
    refine v_iload_n C (lv_at hl 1 rfl) rfl dX12_pay_219 ?_
    obtain ⟨v220, e220, hr⟩ := ob hr
    refine v_ldI_i C e220 dX12_pay_220 ?_
    refine v_aload_n C (lv_at hl 0 rfl) rfl dX12_pay_221 ?_
    obtain ⟨v222, e222, hr⟩ := ob hr
    refine v_getR C fl_RX12_76 rfl e222 dX12_pay_222 ?_
    refine v_aload_n C (lv_at hl 0 rfl) rfl dX12_pay_225 ?_
    obtain ⟨v226, e226, hr⟩ := ob hr
    refine v_getR C fl_RX12_128 rfl e226 dX12_pay_226 ?_
    refine v_iload_n C (lv_at hl 2 rfl) rfl dX12_pay_229 ?_
    obtain ⟨v230, e230, hr⟩ := ob hr
    refine v_ldI_i C e230 dX12_pay_230 ?_
    obtain ⟨v231, e231, hr⟩ := ob hr
    refine v_ldI_i C e231 dX12_pay_231 ?_
    refine v_icmp_ge C 244 (by decide) dX12_pay_232 (fun c232 => ?_) (fun c232 => ?_)
    · rw [if_pos c232] at hr
      refine v_aload_n C (lv_at hl 0 rfl) rfl dX12_pay_244 ?_
      obtain ⟨v245, e245, hr⟩ := ob hr
      refine v_getR C fl_RX12_76 rfl e245 dX12_pay_245 ?_
      refine v_aload_n C (lv_at hl 0 rfl) rfl dX12_pay_248 ?_
      obtain ⟨v249, e249, hr⟩ := ob hr
      refine v_getR C fl_RX12_128 rfl e249 dX12_pay_249 ?_
      refine v_iload_n C (lv_at hl 2 rfl) rfl dX12_pay_252 ?_
      obtain ⟨v253, e253, hr⟩ := ob hr
      refine v_ldI_i C e253 dX12_pay_253 ?_
      obtain ⟨v254, e254, hr⟩ := ob hr
      refine v_ldI_i C e254 dX12_pay_254 ?_
      exact b_X12_pay_255 C hr _ (lv_sub hl [0, 1, 4] rfl)
    · rw [if_neg c232] at hr
      refine v_aload_n C (lv_at hl 0 rfl) rfl dX12_pay_235 ?_
      obtain ⟨v236, e236, hr⟩ := ob hr
      refine v_getR C fl_RX12_169 rfl e236 dX12_pay_236 ?_
      refine v_iload_n C (lv_at hl 1 rfl) rfl dX12_pay_239 ?_
      obtain ⟨v240, e240, hr⟩ := ob hr
      refine v_ldI_i C e240 dX12_pay_240 ?_
      refine v_goto C 255 (by decide) dX12_pay_241 ?_
      exact b_X12_pay_255 C hr _ (lv_sub hl [0, 1, 4] rfl)
  · rw [if_neg c208] at hr
    refine v_ldc2 C w_1643 dX12_pay_211 ?_
    obtain ⟨rfl, rfl⟩ := Prod.mk.inj (os hr)
    exact v_lret C dX12_pay_214
theorem k_X12_pay {l : Launch} {G : Ge} {S S' : St} {x0 : Nat} {x1 : Int32} {rr : Int64} (hr : f_X12_pay S x0 x1 = some (rr, S')) : Ct l G yX12_pay cX12_pay 9 (Option.some Jvm.ClassFile.FieldType.long) S [va_rf (some x0), .int x1] (some (.long rr)) S' 5 120 := by
  refine ct_of (by decide +kernel) (Nat.le_of_ble_eq_true rfl) ?_
  intro p e s m args below meth c C ls hl
  have hl : lv_has ls 9 [(0, va_rf (some x0)), (1, .int x1)] := hl
  unfold f_X12_pay at hr
  refine v_iload_n C (lv_at hl 1 rfl) rfl dX12_pay_0 ?_
  refine v_iconst C 0 (by decide) dX12_pay_1 ?_
  refine v_aload_n C (lv_at hl 0 rfl) rfl dX12_pay_2 ?_
  obtain ⟨v3, e3, hr⟩ := ob hr
  refine v_getI C fl_RX12_411 rfl e3 dX12_pay_3 ?_
  refine v_iconst C 1 (by decide) dX12_pay_6 ?_
  refine v_isub C dX12_pay_7 ?_
  obtain ⟨v8, e8, hr⟩ := ob hr
  refine v_callS C (k_X12_isIn e8) cw_X12_isIn w_1555 w_1556 (show (parseMethodDescriptor (yX12_isIn).desc).map (fun d => d.parameters.length) = some 3 by decide +kernel) ⟨by decide, by decide⟩ (rest := []) (stk2 := [.int v8]) rfl rfl (Nat.le_of_ble_eq_true rfl) hl dX12_pay_8 ?_
  refine v_if_eq C 31 (by decide) dX12_pay_11 (fun c11 => ?_) (fun c11 => ?_)
  · rw [if_pos c11] at hr
    refine v_ldc2 C w_1643 dX12_pay_31 ?_
    obtain ⟨rfl, rfl⟩ := Prod.mk.inj (os hr)
    exact v_lret C dX12_pay_34
  · rw [if_neg c11] at hr
    refine v_aload_n C (lv_at hl 0 rfl) rfl dX12_pay_14 ?_
    obtain ⟨v15, e15, hr⟩ := ob hr
    refine v_getR C fl_RX12_172 rfl e15 dX12_pay_15 ?_
    refine v_iload_n C (lv_at hl 1 rfl) rfl dX12_pay_18 ?_
    obtain ⟨v19, e19, hr⟩ := ob hr
    refine v_ldI_i C e19 dX12_pay_19 ?_
    refine v_if_ne C 31 (by decide) dX12_pay_20 (fun c20 => ?_) (fun c20 => ?_)
    · rw [if_neg c20] at hr
      refine v_ldc2 C w_1643 dX12_pay_31 ?_
      obtain ⟨rfl, rfl⟩ := Prod.mk.inj (os hr)
      exact v_lret C dX12_pay_34
    · rw [if_pos c20] at hr
      refine v_aload_n C (lv_at hl 0 rfl) rfl dX12_pay_23 ?_
      refine v_iload_n C (lv_at hl 1 rfl) rfl dX12_pay_24 ?_
      obtain ⟨b25, f25, hr⟩ := ob hr
      obtain ⟨g25, h25⟩ := rcv_n f25
      obtain ⟨⟨v25, S25⟩, e25, hr⟩ := ob hr
      (try dsimp only at hr)
      refine v_callV C (b := b25) h25 (by decide) rfl rfl (k_X12_isGood e25) cw_X12_isGood w_1885 w_1887 w_99 (show (parseMethodDescriptor (yX12_isGood).desc).map (fun d => d.parameters.length) = some 1 by decide +kernel) ⟨by decide, by decide⟩ (rest := []) (stk2 := [.int v25]) (by rw [g25]; rfl) rfl (Nat.le_of_ble_eq_true rfl) hl dX12_pay_25 ?_
      refine v_if_ne C 35 (by decide) dX12_pay_28 (fun c28 => ?_) (fun c28 => ?_)
      · rw [if_neg c28] at hr
        refine v_aload_n C (lv_at hl 0 rfl) rfl dX12_pay_35 ?_
        obtain ⟨v36, e36, hr⟩ := ob hr
        refine v_getR C fl_RX12_163 rfl e36 dX12_pay_36 ?_
        refine v_iload_n C (lv_at hl 1 rfl) rfl dX12_pay_39 ?_
        obtain ⟨v40, e40, hr⟩ := ob hr
        refine v_ldI_i C e40 dX12_pay_40 ?_
        refine v_istore_n C (i := 2) (lv' := [(2, .int v40), (0, va_rf (some x0)), (1, .int x1)]) hl rfl (by decide) rfl dX12_pay_41 (fun ls hl => ?_)
        refine v_iconst C 0 (by decide) dX12_pay_42 ?_
        refine v_istore_n C (i := 3) (lv' := [(3, .int 0), (2, .int v40), (0, va_rf (some x0)), (1, .int x1)]) hl rfl (by decide) rfl dX12_pay_43 (fun ls hl => ?_)
        obtain ⟨o44, e44, hr⟩ := ob hr
        refine b_X12_pay_44 C ?_ ?_ FU e44 _ (lv_sub hl [2, 3, 1, 0] rfl)
        · intro v Z q
          subst q
          (try dsimp only at hr)
          exact ⟨(Prod.mk.inj (os hr)).1.symm, (Prod.mk.inj (os hr)).2.symm⟩
        · intro x0 x1_44 x2_44 S_44 q ls hl
          subst q
          (try dsimp only at hr)
          refine v_aload_n C (lv_at hl 0 rfl) rfl dX12_pay_97 ?_
          obtain ⟨v98, e98, hr⟩ := ob hr
          refine v_getR C fl_RX12_137 rfl e98 dX12_pay_98 ?_
          refine v_iload_n C (lv_at hl 2 rfl) rfl dX12_pay_101 ?_
          obtain ⟨v102, e102, hr⟩ := ob hr
          refine v_ldL C e102 dX12_pay_102 ?_
          refine v_aload_n C (lv_at hl 0 rfl) rfl dX12_pay_103 ?_
          refine v_iload_n C (lv_at hl 2 rfl) rfl dX12_pay_104 ?_
          obtain ⟨b105, f105, hr⟩ := ob hr
          obtain ⟨g105, h105⟩ := rcv_n f105
          obtain ⟨v105, e105, hr⟩ := ob hr
          refine v_callV C (b := b105) h105 (by decide) rfl rfl (k_X12_interest e105) cw_X12_interest w_1787 w_1789 w_84 (show (parseMethodDescriptor (yX12_interest).desc).map (fun d => d.parameters.length) = some 1 by decide +kernel) ⟨by decide, by decide⟩ (rest := [.long v102]) (stk2 := [.long v105, .long v102]) (by rw [g105]; rfl) rfl (Nat.le_of_ble_eq_true rfl) hl dX12_pay_105 ?_
          refine v_ladd C dX12_pay_108 ?_
          refine v_lstore_n C (i := 3) (lv' := [(3, .long (v102 + v105)), (0, va_rf (some x0)), (1, .int x1_44), (2, .int x2_44)]) hl rfl (by decide) rfl dX12_pay_109 (fun ls hl => ?_)
          refine v_lload_n C (lv_at hl 0 rfl) rfl dX12_pay_110 ?_
          refine v_lstore C (i := 5) (lv' := [(5, .long (v102 + v105)), (3, .long (v102 + v105)), (0, va_rf (some x0)), (1, .int x1_44), (2, .int x2_44)]) hl (by decide) rfl dX12_pay_111 (fun ls hl => ?_)
          refine v_aload_n C (lv_at hl 2 rfl) rfl dX12_pay_113 ?_
          obtain ⟨v114, e114, hr⟩ := ob hr
          refine v_getR C fl_RX12_34 rfl e114 dX12_pay_114 ?_
          refine v_aload_n C (lv_at hl 2 rfl) rfl dX12_pay_117 ?_
          obtain ⟨v118, e118, hr⟩ := ob hr
          refine v_getR C fl_RX12_43 rfl e118 dX12_pay_118 ?_
          refine v_iload_n C (lv_at hl 4 rfl) rfl dX12_pay_121 ?_
          obtain ⟨v122, e122, hr⟩ := ob hr
          refine v_ldI_i C e122 dX12_pay_122 ?_
          obtain ⟨v123, e123, hr⟩ := ob hr
          refine v_ldI_i C e123 dX12_pay_123 ?_
          refine v_iconst C (-1) (by decide) dX12_pay_124 ?_
          refine v_icmp_eq C 198 (by decide) dX12_pay_125 (fun c125 => ?_) (fun c125 => ?_)
          · rw [if_pos c125] at hr
            exact b_X12_pay_198 C hr _ (lv_sub hl [2, 3, 4, 1, 0] rfl)
          · rw [if_neg c125] at hr
            refine v_aload_n C (lv_at hl 2 rfl) rfl dX12_pay_128 ?_
            refine v_aload_n C (lv_at hl 2 rfl) rfl dX12_pay_129 ?_
            obtain ⟨v130, e130, hr⟩ := ob hr
            refine v_getR C fl_RX12_43 rfl e130 dX12_pay_130 ?_
            refine v_iload_n C (lv_at hl 4 rfl) rfl dX12_pay_133 ?_
            obtain ⟨v134, e134, hr⟩ := ob hr
            refine v_ldI_i C e134 dX12_pay_134 ?_
            obtain ⟨b135, f135, hr⟩ := ob hr
            obtain ⟨g135, h135⟩ := rcv_n f135
            obtain ⟨S135, e135, hr⟩ := ob hr
            refine v_callV C (b := b135) h135 (by decide) rfl rfl (k_X12_shares e135) cw_X12_shares w_1849 w_1851 w_95 (show (parseMethodDescriptor (yX12_shares).desc).map (fun d => d.parameters.length) = some 1 by decide +kernel) ⟨by decide, by decide⟩ (rest := []) (stk2 := []) (by rw [g135]; rfl) rfl (Nat.le_of_ble_eq_true rfl) hl dX12_pay_135 ?_
            refine v_aload_n C (lv_at hl 2 rfl) rfl dX12_pay_138 ?_
            obtain ⟨v139, e139, hr⟩ := ob hr
            refine v_getR C fl_RX12_154 rfl e139 dX12_pay_139 ?_
            refine v_aload_n C (lv_at hl 2 rfl) rfl dX12_pay_142 ?_
            obtain ⟨v143, e143, hr⟩ := ob hr
            refine v_getR C fl_RX12_160 rfl e143 dX12_pay_143 ?_
            refine v_iload_n C (lv_at hl 3 rfl) rfl dX12_pay_146 ?_
            obtain ⟨v147, e147, hr⟩ := ob hr
            refine v_ldI_i C e147 dX12_pay_147 ?_
            obtain ⟨v148, e148, hr⟩ := ob hr
            refine v_ldL C e148 dX12_pay_148 ?_
            refine v_aload_n C (lv_at hl 2 rfl) rfl dX12_pay_149 ?_
            obtain ⟨v150, e150, hr⟩ := ob hr
            refine v_getR C fl_RX12_157 rfl e150 dX12_pay_150 ?_
            refine v_aload_n C (lv_at hl 2 rfl) rfl dX12_pay_153 ?_
            obtain ⟨v154, e154, hr⟩ := ob hr
            refine v_getR C fl_RX12_160 rfl e154 dX12_pay_154 ?_
            refine v_iload_n C (lv_at hl 3 rfl) rfl dX12_pay_157 ?_
            obtain ⟨v158, e158, hr⟩ := ob hr
            refine v_ldI_i C e158 dX12_pay_158 ?_
            obtain ⟨v159, e159, hr⟩ := ob hr
            refine v_ldL C e159 dX12_pay_159 ?_
            obtain ⟨v160, e160, hr⟩ := ob hr
            refine v_callS C (k_X12_common e160) cw_X12_common w_1861 w_1862 (show (parseMethodDescriptor (yX12_common).desc).map (fun d => d.parameters.length) = some 2 by decide +kernel) ⟨by decide, by decide⟩ (rest := []) (stk2 := [.long v160]) rfl rfl (Nat.le_of_ble_eq_true rfl) hl dX12_pay_160 ?_
            refine v_lstore C (i := 7) (lv' := [(7, .long v160), (5, .long (v102 + v105)), (3, .long (v102 + v105)), (0, va_rf (some x0)), (1, .int x1_44), (2, .int x2_44)]) hl (by decide) rfl dX12_pay_163 (fun ls hl => ?_)
            refine v_lload_n C (lv_at hl 2 rfl) rfl dX12_pay_165 ?_
            refine v_aload_n C (lv_at hl 3 rfl) rfl dX12_pay_166 ?_
            obtain ⟨v167, e167, hr⟩ := ob hr
            refine v_getR C fl_RX12_154 rfl e167 dX12_pay_167 ?_
            refine v_aload_n C (lv_at hl 3 rfl) rfl dX12_pay_170 ?_
            obtain ⟨v171, e171, hr⟩ := ob hr
            refine v_getR C fl_RX12_160 rfl e171 dX12_pay_171 ?_
            refine v_iload_n C (lv_at hl 4 rfl) rfl dX12_pay_174 ?_
            obtain ⟨v175, e175, hr⟩ := ob hr
            refine v_ldI_i C e175 dX12_pay_175 ?_
            obtain ⟨v176, e176, hr⟩ := ob hr
            refine v_ldL C e176 dX12_pay_176 ?_
            refine v_lload C (lv_at hl 0 rfl) dX12_pay_177 ?_
            obtain ⟨v179, e179, hr⟩ := ob hr
            refine v_ldiv C e179 dX12_pay_179 ?_
            refine v_lmul C dX12_pay_180 ?_
            refine v_aload_n C (lv_at hl 3 rfl) rfl dX12_pay_181 ?_
            obtain ⟨v182, e182, hr⟩ := ob hr
            refine v_getR C fl_RX12_157 rfl e182 dX12_pay_182 ?_
            refine v_aload_n C (lv_at hl 3 rfl) rfl dX12_pay_185 ?_
            obtain ⟨v186, e186, hr⟩ := ob hr
            refine v_getR C fl_RX12_160 rfl e186 dX12_pay_186 ?_
            refine v_iload_n C (lv_at hl 4 rfl) rfl dX12_pay_189 ?_
            obtain ⟨v190, e190, hr⟩ := ob hr
            refine v_ldI_i C e190 dX12_pay_190 ?_
            obtain ⟨v191, e191, hr⟩ := ob hr
            refine v_ldL C e191 dX12_pay_191 ?_
            refine v_lload C (lv_at hl 0 rfl) dX12_pay_192 ?_
            obtain ⟨v194, e194, hr⟩ := ob hr
            refine v_ldiv C e194 dX12_pay_194 ?_
            obtain ⟨v195, e195, hr⟩ := ob hr
            refine v_ldiv C e195 dX12_pay_195 ?_
            refine v_lstore C (i := 5) (lv' := [(5, .long v195), (7, .long v160), (3, .long (v102 + v105)), (0, va_rf (some x0)), (1, .int x1_44), (2, .int x2_44)]) hl (by decide) rfl dX12_pay_196 (fun ls hl => ?_)
            exact b_X12_pay_198 C hr _ (lv_sub hl [3, 4, 5, 2, 0] rfl)
      · rw [if_pos c28] at hr
        refine v_ldc2 C w_1643 dX12_pay_31 ?_
        obtain ⟨rfl, rfl⟩ := Prod.mk.inj (os hr)
        exact v_lret C dX12_pay_34
-- X12_person
def f_X12_person_58 (S : St) (x0 : Nat) (x1 : Int32) (x2 : Int32) (x3 : Int32) (x4 : Int32) (x5 : Int32) : Option (Int32 × St) :=
    (getI S (some x0) 13 2).bind fun v59 =>
    (if v59 = 24 then
    some ((-1), S)
    else
    (getR S (some x0) 13 8).bind fun v70 =>
    (getI S (some x0) 13 2).bind fun v74 =>
    (stI S v70 15 v74 x1).bind fun S78 =>
    (getR S78 (some x0) 13 9).bind fun v80 =>
    (getI S78 (some x0) 13 2).bind fun v84 =>
    (stI S78 v80 15 v84 x2).bind fun S88 =>
    (getR S88 (some x0) 13 10).bind fun v90 =>
    (getI S88 (some x0) 13 2).bind fun v94 =>
    (stI S88 v90 15 v94 x3).bind fun S98 =>
    (getR S98 (some x0) 13 11).bind fun v100 =>
    (getI S98 (some x0) 13 2).bind fun v104 =>
    (stI S98 v100 15 v104 x4).bind fun S109 =>
    (getR S109 (some x0) 13 12).bind fun v111 =>
    (getI S109 (some x0) 13 2).bind fun v115 =>
    (stI S109 v111 15 v115 x5).bind fun S120 =>
    (getR S120 (some x0) 13 13).bind fun v122 =>
    (getI S120 (some x0) 13 2).bind fun v126 =>
    (stI S120 v122 15 v126 (-1)).bind fun S130 =>
    (getI S130 (some x0) 13 2).bind fun v133 =>
    (putI S130 (some x0) 13 2 (v133 + 1)).bind fun S138 =>
    (getI S138 (some x0) 13 2).bind fun v142 =>
    some ((v142 - 1), S138))
def f_X12_person (S : St) (x0 : Nat) (x1 : Int32) (x2 : Int32) (x3 : Int32) (x4 : Int32) (x5 : Int32) : Option (Int32 × St) :=
    (f_X12_isIn S x1 0 99).bind fun v4 =>
    (if v4 = 0 then
    some ((-1), S)
    else
    (getI S (some x0) 13 0).bind fun v13 =>
    (f_X12_isIn S x2 (-1) v13).bind fun v16 =>
    (if v16 = 0 then
    some ((-1), S)
    else
    (f_X12_isIn S x3 (-1) 3).bind fun v25 =>
    (if v25 = 0 then
    some ((-1), S)
    else
    (f_X12_isIn S x4 (-1) 9999).bind fun v37 =>
    (if v37 = 0 then
    some ((-1), S)
    else
    (if x5 = (-1) then
    f_X12_person_58 S x0 x1 x2 x3 x4 x5
    else
    (rcv S (some x0) 13).bind fun b52 =>
    (f_X12_isPerson S b52 x5).bind fun v52 =>
    (if v52 = 0 then
    some ((-1), S)
    else
    f_X12_person_58 S x0 x1 x2 x3 x4 x5))))))
theorem b_X12_person_58  {S0 S S' : St} {rr : Int32} {x0 : Nat} {x1 : Int32} {x2 : Int32} {x3 : Int32} {x4 : Int32} {x5 : Int32} (C : Cx p s m args meth c G S0 yX12_person cX12_person 6 (Option.some Jvm.ClassFile.FieldType.int)) (hr : f_X12_person_58 S x0 x1 x2 x3 x4 x5 = some (rr, S')) : ∀ ls : Array Slot, lv_has ls 6 [(0, va_rf (some x0)), (1, .int x1), (2, .int x2), (3, .int x3), (4, .int x4), (5, .int x5)] → V p l e (rmo 2 43 S0) s m args below meth c G S0 S (QM below args s G S0 S' (some (.int rr))) (F0 m 58 ls []) := by
  intro ls hl
  unfold f_X12_person_58 at hr
  refine v_aload_n C (lv_at hl 0 rfl) rfl dX12_person_58 ?_
  obtain ⟨v59, e59, hr⟩ := ob hr
  refine v_getI C fl_RX12_207 rfl e59 dX12_person_59 ?_
  refine v_bipush C 24 (by decide) dX12_person_62 ?_
  refine v_icmp_ne C 69 (by decide) dX12_person_64 (fun c64 => ?_) (fun c64 => ?_)
  · rw [if_neg c64] at hr
    refine v_aload_n C (lv_at hl 0 rfl) rfl dX12_person_69 ?_
    obtain ⟨v70, e70, hr⟩ := ob hr
    refine v_getR C fl_RX12_19 rfl e70 dX12_person_70 ?_
    refine v_aload_n C (lv_at hl 0 rfl) rfl dX12_person_73 ?_
    obtain ⟨v74, e74, hr⟩ := ob hr
    refine v_getI C fl_RX12_207 rfl e74 dX12_person_74 ?_
    refine v_iload_n C (lv_at hl 1 rfl) rfl dX12_person_77 ?_
    obtain ⟨S78, e78, hr⟩ := ob hr
    refine v_stI_i C e78 dX12_person_78 ?_
    refine v_aload_n C (lv_at hl 0 rfl) rfl dX12_person_79 ?_
    obtain ⟨v80, e80, hr⟩ := ob hr
    refine v_getR C fl_RX12_22 rfl e80 dX12_person_80 ?_
    refine v_aload_n C (lv_at hl 0 rfl) rfl dX12_person_83 ?_
    obtain ⟨v84, e84, hr⟩ := ob hr
    refine v_getI C fl_RX12_207 rfl e84 dX12_person_84 ?_
    refine v_iload_n C (lv_at hl 2 rfl) rfl dX12_person_87 ?_
    obtain ⟨S88, e88, hr⟩ := ob hr
    refine v_stI_i C e88 dX12_person_88 ?_
    refine v_aload_n C (lv_at hl 0 rfl) rfl dX12_person_89 ?_
    obtain ⟨v90, e90, hr⟩ := ob hr
    refine v_getR C fl_RX12_25 rfl e90 dX12_person_90 ?_
    refine v_aload_n C (lv_at hl 0 rfl) rfl dX12_person_93 ?_
    obtain ⟨v94, e94, hr⟩ := ob hr
    refine v_getI C fl_RX12_207 rfl e94 dX12_person_94 ?_
    refine v_iload_n C (lv_at hl 3 rfl) rfl dX12_person_97 ?_
    obtain ⟨S98, e98, hr⟩ := ob hr
    refine v_stI_i C e98 dX12_person_98 ?_
    refine v_aload_n C (lv_at hl 0 rfl) rfl dX12_person_99 ?_
    obtain ⟨v100, e100, hr⟩ := ob hr
    refine v_getR C fl_RX12_28 rfl e100 dX12_person_100 ?_
    refine v_aload_n C (lv_at hl 0 rfl) rfl dX12_person_103 ?_
    obtain ⟨v104, e104, hr⟩ := ob hr
    refine v_getI C fl_RX12_207 rfl e104 dX12_person_104 ?_
    refine v_iload C (lv_at hl 4 rfl) dX12_person_107 ?_
    obtain ⟨S109, e109, hr⟩ := ob hr
    refine v_stI_i C e109 dX12_person_109 ?_
    refine v_aload_n C (lv_at hl 0 rfl) rfl dX12_person_110 ?_
    obtain ⟨v111, e111, hr⟩ := ob hr
    refine v_getR C fl_RX12_31 rfl e111 dX12_person_111 ?_
    refine v_aload_n C (lv_at hl 0 rfl) rfl dX12_person_114 ?_
    obtain ⟨v115, e115, hr⟩ := ob hr
    refine v_getI C fl_RX12_207 rfl e115 dX12_person_115 ?_
    refine v_iload C (lv_at hl 5 rfl) dX12_person_118 ?_
    obtain ⟨S120, e120, hr⟩ := ob hr
    refine v_stI_i C e120 dX12_person_120 ?_
    refine v_aload_n C (lv_at hl 0 rfl) rfl dX12_person_121 ?_
    obtain ⟨v122, e122, hr⟩ := ob hr
    refine v_getR C fl_RX12_34 rfl e122 dX12_person_122 ?_
    refine v_aload_n C (lv_at hl 0 rfl) rfl dX12_person_125 ?_
    obtain ⟨v126, e126, hr⟩ := ob hr
    refine v_getI C fl_RX12_207 rfl e126 dX12_person_126 ?_
    refine v_iconst C (-1) (by decide) dX12_person_129 ?_
    obtain ⟨S130, e130, hr⟩ := ob hr
    refine v_stI_i C e130 dX12_person_130 ?_
    refine v_aload_n C (lv_at hl 0 rfl) rfl dX12_person_131 ?_
    refine v_dup C (rf_cat _) dX12_person_132 ?_
    obtain ⟨v133, e133, hr⟩ := ob hr
    refine v_getI C fl_RX12_207 rfl e133 dX12_person_133 ?_
    refine v_iconst C 1 (by decide) dX12_person_136 ?_
    refine v_iadd C dX12_person_137 ?_
    obtain ⟨S138, e138, hr⟩ := ob hr
    refine v_putI C fl_RX12_207 (Or.inl rfl) rfl e138 dX12_person_138 ?_
    refine v_aload_n C (lv_at hl 0 rfl) rfl dX12_person_141 ?_
    obtain ⟨v142, e142, hr⟩ := ob hr
    refine v_getI C fl_RX12_207 rfl e142 dX12_person_142 ?_
    refine v_iconst C 1 (by decide) dX12_person_145 ?_
    refine v_isub C dX12_person_146 ?_
    obtain ⟨rfl, rfl⟩ := Prod.mk.inj (os hr)
    exact v_iret C dX12_person_147
  · rw [if_pos c64] at hr
    refine v_iconst C (-1) (by decide) dX12_person_67 ?_
    obtain ⟨rfl, rfl⟩ := Prod.mk.inj (os hr)
    exact v_iret C dX12_person_68
theorem k_X12_person {l : Launch} {G : Ge} {S S' : St} {x0 : Nat} {x1 : Int32} {x2 : Int32} {x3 : Int32} {x4 : Int32} {x5 : Int32} {rr : Int32} (hr : f_X12_person S x0 x1 x2 x3 x4 x5 = some (rr, S')) : Ct l G yX12_person cX12_person 6 (Option.some Jvm.ClassFile.FieldType.int) S [va_rf (some x0), .int x1, .int x2, .int x3, .int x4, .int x5] (some (.int rr)) S' 2 43 := by
  refine ct_of (by decide +kernel) (Nat.le_of_ble_eq_true rfl) ?_
  intro p e s m args below meth c C ls hl
  have hl : lv_has ls 6 [(0, va_rf (some x0)), (1, .int x1), (2, .int x2), (3, .int x3), (4, .int x4), (5, .int x5)] := hl
  unfold f_X12_person at hr
  refine v_iload_n C (lv_at hl 1 rfl) rfl dX12_person_0 ?_
  refine v_iconst C 0 (by decide) dX12_person_1 ?_
  refine v_bipush C 99 (by decide) dX12_person_2 ?_
  obtain ⟨v4, e4, hr⟩ := ob hr
  refine v_callS C (k_X12_isIn e4) cw_X12_isIn w_1555 w_1556 (show (parseMethodDescriptor (yX12_isIn).desc).map (fun d => d.parameters.length) = some 3 by decide +kernel) ⟨by decide, by decide⟩ (rest := []) (stk2 := [.int v4]) rfl rfl (Nat.le_of_ble_eq_true rfl) hl dX12_person_4 ?_
  refine v_if_eq C 67 (by decide) dX12_person_7 (fun c7 => ?_) (fun c7 => ?_)
  · rw [if_pos c7] at hr
    refine v_iconst C (-1) (by decide) dX12_person_67 ?_
    obtain ⟨rfl, rfl⟩ := Prod.mk.inj (os hr)
    exact v_iret C dX12_person_68
  · rw [if_neg c7] at hr
    refine v_iload_n C (lv_at hl 2 rfl) rfl dX12_person_10 ?_
    refine v_iconst C (-1) (by decide) dX12_person_11 ?_
    refine v_aload_n C (lv_at hl 0 rfl) rfl dX12_person_12 ?_
    obtain ⟨v13, e13, hr⟩ := ob hr
    refine v_getI C fl_RX12_197 rfl e13 dX12_person_13 ?_
    obtain ⟨v16, e16, hr⟩ := ob hr
    refine v_callS C (k_X12_isIn e16) cw_X12_isIn w_1555 w_1556 (show (parseMethodDescriptor (yX12_isIn).desc).map (fun d => d.parameters.length) = some 3 by decide +kernel) ⟨by decide, by decide⟩ (rest := []) (stk2 := [.int v16]) rfl rfl (Nat.le_of_ble_eq_true rfl) hl dX12_person_16 ?_
    refine v_if_eq C 67 (by decide) dX12_person_19 (fun c19 => ?_) (fun c19 => ?_)
    · rw [if_pos c19] at hr
      refine v_iconst C (-1) (by decide) dX12_person_67 ?_
      obtain ⟨rfl, rfl⟩ := Prod.mk.inj (os hr)
      exact v_iret C dX12_person_68
    · rw [if_neg c19] at hr
      refine v_iload_n C (lv_at hl 3 rfl) rfl dX12_person_22 ?_
      refine v_iconst C (-1) (by decide) dX12_person_23 ?_
      refine v_iconst C 3 (by decide) dX12_person_24 ?_
      obtain ⟨v25, e25, hr⟩ := ob hr
      refine v_callS C (k_X12_isIn e25) cw_X12_isIn w_1555 w_1556 (show (parseMethodDescriptor (yX12_isIn).desc).map (fun d => d.parameters.length) = some 3 by decide +kernel) ⟨by decide, by decide⟩ (rest := []) (stk2 := [.int v25]) rfl rfl (Nat.le_of_ble_eq_true rfl) hl dX12_person_25 ?_
      refine v_if_eq C 67 (by decide) dX12_person_28 (fun c28 => ?_) (fun c28 => ?_)
      · rw [if_pos c28] at hr
        refine v_iconst C (-1) (by decide) dX12_person_67 ?_
        obtain ⟨rfl, rfl⟩ := Prod.mk.inj (os hr)
        exact v_iret C dX12_person_68
      · rw [if_neg c28] at hr
        refine v_iload C (lv_at hl 4 rfl) dX12_person_31 ?_
        refine v_iconst C (-1) (by decide) dX12_person_33 ?_
        refine v_sipush C 9999 (by decide) dX12_person_34 ?_
        obtain ⟨v37, e37, hr⟩ := ob hr
        refine v_callS C (k_X12_isIn e37) cw_X12_isIn w_1555 w_1556 (show (parseMethodDescriptor (yX12_isIn).desc).map (fun d => d.parameters.length) = some 3 by decide +kernel) ⟨by decide, by decide⟩ (rest := []) (stk2 := [.int v37]) rfl rfl (Nat.le_of_ble_eq_true rfl) hl dX12_person_37 ?_
        refine v_if_eq C 67 (by decide) dX12_person_40 (fun c40 => ?_) (fun c40 => ?_)
        · rw [if_pos c40] at hr
          refine v_iconst C (-1) (by decide) dX12_person_67 ?_
          obtain ⟨rfl, rfl⟩ := Prod.mk.inj (os hr)
          exact v_iret C dX12_person_68
        · rw [if_neg c40] at hr
          refine v_iload C (lv_at hl 5 rfl) dX12_person_43 ?_
          refine v_iconst C (-1) (by decide) dX12_person_45 ?_
          refine v_icmp_eq C 58 (by decide) dX12_person_46 (fun c46 => ?_) (fun c46 => ?_)
          · rw [if_pos c46] at hr
            exact b_X12_person_58 C hr _ (lv_sub hl [0, 1, 2, 3, 4, 5] rfl)
          · rw [if_neg c46] at hr
            refine v_aload_n C (lv_at hl 0 rfl) rfl dX12_person_49 ?_
            refine v_iload C (lv_at hl 5 rfl) dX12_person_50 ?_
            obtain ⟨b52, f52, hr⟩ := ob hr
            obtain ⟨g52, h52⟩ := rcv_n f52
            obtain ⟨v52, e52, hr⟩ := ob hr
            refine v_callV C (b := b52) h52 (by decide) rfl rfl (k_X12_isPerson e52) cw_X12_isPerson w_1593 w_1595 w_56 (show (parseMethodDescriptor (yX12_isPerson).desc).map (fun d => d.parameters.length) = some 1 by decide +kernel) ⟨by decide, by decide⟩ (rest := []) (stk2 := [.int v52]) (by rw [g52]; rfl) rfl (Nat.le_of_ble_eq_true rfl) hl dX12_person_52 ?_
            refine v_if_eq C 67 (by decide) dX12_person_55 (fun c55 => ?_) (fun c55 => ?_)
            · rw [if_pos c55] at hr
              refine v_iconst C (-1) (by decide) dX12_person_67 ?_
              obtain ⟨rfl, rfl⟩ := Prod.mk.inj (os hr)
              exact v_iret C dX12_person_68
            · rw [if_neg c55] at hr
              exact b_X12_person_58 C hr _ (lv_sub hl [0, 1, 2, 3, 4, 5] rfl)
-- X12_points
def f_X12_points (S : St) (x0 : Nat) (x1 : Int32) (x2 : Int32) : Option Int32 :=
    (rcv S (some x0) 13).bind fun b2 =>
    (f_X12_isPerson S b2 x1).bind fun v2 =>
    (if v2 = 0 then
    some (-2)
    else
    (rcv S (some x0) 13).bind fun b10 =>
    (f_X12_isPerson S b10 x2).bind fun v10 =>
    (if v10 = 0 then
    some (-2)
    else
    (if x1 = x2 then
    some (-2)
    else
    (rcv S (some x0) 13).bind fun b27 =>
    (f_X12_isBarred S b27 x1 x2).bind fun v27 =>
    (if v27 = 0 then
    (rcv S (some x0) 13).bind fun b40 =>
    (f_X12_pointsOf S b40 x1 x2).bind fun v40 =>
    some v40
    else
    some (-1)))))
theorem k_X12_points {l : Launch} {G : Ge} {S : St} {x0 : Nat} {x1 : Int32} {x2 : Int32} {rr : Int32} (hr : f_X12_points S x0 x1 x2 = some rr) : Ct l G yX12_points cX12_points 3 (Option.some Jvm.ClassFile.FieldType.int) S [va_rf (some x0), .int x1, .int x2] (some (.int rr)) S 2 44 := by
  refine ct_of (by decide +kernel) (Nat.le_of_ble_eq_true rfl) ?_
  intro p e s m args below meth c C ls hl
  have hl : lv_has ls 3 [(0, va_rf (some x0)), (1, .int x1), (2, .int x2)] := hl
  unfold f_X12_points at hr
  refine v_aload_n C (lv_at hl 0 rfl) rfl dX12_points_0 ?_
  refine v_iload_n C (lv_at hl 1 rfl) rfl dX12_points_1 ?_
  obtain ⟨b2, f2, hr⟩ := ob hr
  obtain ⟨g2, h2⟩ := rcv_n f2
  obtain ⟨v2, e2, hr⟩ := ob hr
  refine v_callV C (b := b2) h2 (by decide) rfl rfl (k_X12_isPerson e2) cw_X12_isPerson w_1593 w_1595 w_56 (show (parseMethodDescriptor (yX12_isPerson).desc).map (fun d => d.parameters.length) = some 1 by decide +kernel) ⟨by decide, by decide⟩ (rest := []) (stk2 := [.int v2]) (by rw [g2]; rfl) rfl (Nat.le_of_ble_eq_true rfl) hl dX12_points_2 ?_
  refine v_if_eq C 21 (by decide) dX12_points_5 (fun c5 => ?_) (fun c5 => ?_)
  · rw [if_pos c5] at hr
    refine v_bipush C (-2) (by decide) dX12_points_21 ?_
    obtain rfl := os hr
    exact v_iret C dX12_points_23
  · rw [if_neg c5] at hr
    refine v_aload_n C (lv_at hl 0 rfl) rfl dX12_points_8 ?_
    refine v_iload_n C (lv_at hl 2 rfl) rfl dX12_points_9 ?_
    obtain ⟨b10, f10, hr⟩ := ob hr
    obtain ⟨g10, h10⟩ := rcv_n f10
    obtain ⟨v10, e10, hr⟩ := ob hr
    refine v_callV C (b := b10) h10 (by decide) rfl rfl (k_X12_isPerson e10) cw_X12_isPerson w_1593 w_1595 w_56 (show (parseMethodDescriptor (yX12_isPerson).desc).map (fun d => d.parameters.length) = some 1 by decide +kernel) ⟨by decide, by decide⟩ (rest := []) (stk2 := [.int v10]) (by rw [g10]; rfl) rfl (Nat.le_of_ble_eq_true rfl) hl dX12_points_10 ?_
    refine v_if_eq C 21 (by decide) dX12_points_13 (fun c13 => ?_) (fun c13 => ?_)
    · rw [if_pos c13] at hr
      refine v_bipush C (-2) (by decide) dX12_points_21 ?_
      obtain rfl := os hr
      exact v_iret C dX12_points_23
    · rw [if_neg c13] at hr
      refine v_iload_n C (lv_at hl 1 rfl) rfl dX12_points_16 ?_
      refine v_iload_n C (lv_at hl 2 rfl) rfl dX12_points_17 ?_
      refine v_icmp_ne C 24 (by decide) dX12_points_18 (fun c18 => ?_) (fun c18 => ?_)
      · rw [if_neg c18] at hr
        refine v_aload_n C (lv_at hl 0 rfl) rfl dX12_points_24 ?_
        refine v_iload_n C (lv_at hl 1 rfl) rfl dX12_points_25 ?_
        refine v_iload_n C (lv_at hl 2 rfl) rfl dX12_points_26 ?_
        obtain ⟨b27, f27, hr⟩ := ob hr
        obtain ⟨g27, h27⟩ := rcv_n f27
        obtain ⟨v27, e27, hr⟩ := ob hr
        refine v_callV C (b := b27) h27 (by decide) rfl rfl (k_X12_isBarred e27) cw_X12_isBarred w_1801 w_1803 w_86 (show (parseMethodDescriptor (yX12_isBarred).desc).map (fun d => d.parameters.length) = some 2 by decide +kernel) ⟨by decide, by decide⟩ (rest := []) (stk2 := [.int v27]) (by rw [g27]; rfl) rfl (Nat.le_of_ble_eq_true rfl) hl dX12_points_27 ?_
        refine v_if_eq C 37 (by decide) dX12_points_30 (fun c30 => ?_) (fun c30 => ?_)
        · rw [if_pos c30] at hr
          refine v_aload_n C (lv_at hl 0 rfl) rfl dX12_points_37 ?_
          refine v_iload_n C (lv_at hl 1 rfl) rfl dX12_points_38 ?_
          refine v_iload_n C (lv_at hl 2 rfl) rfl dX12_points_39 ?_
          obtain ⟨b40, f40, hr⟩ := ob hr
          obtain ⟨g40, h40⟩ := rcv_n f40
          obtain ⟨v40, e40, hr⟩ := ob hr
          refine v_callV C (b := b40) h40 (by decide) rfl rfl (k_X12_pointsOf e40) cw_X12_pointsOf w_1809 w_1811 w_88 (show (parseMethodDescriptor (yX12_pointsOf).desc).map (fun d => d.parameters.length) = some 2 by decide +kernel) ⟨by decide, by decide⟩ (rest := []) (stk2 := [.int v40]) (by rw [g40]; rfl) rfl (Nat.le_of_ble_eq_true rfl) hl dX12_points_40 ?_
          obtain rfl := os hr
          exact v_iret C dX12_points_43
        · rw [if_neg c30] at hr
          refine v_iconst C (-1) (by decide) dX12_points_33 ?_
          refine v_goto C 43 (by decide) dX12_points_34 ?_
          obtain rfl := os hr
          exact v_iret C dX12_points_43
      · rw [if_pos c18] at hr
        refine v_bipush C (-2) (by decide) dX12_points_21 ?_
        obtain rfl := os hr
        exact v_iret C dX12_points_23
-- X12_takes
def f_X12_takes (S : St) (x0 : Nat) (x1 : Int32) (x2 : Int32) : Option St :=
    (getR S (some x0) 13 34).bind fun v1 =>
    (ldI S v1 15 x2).bind fun v5 =>
    (if v5 = 3 then
    (getR S (some x0) 13 24).bind fun v41 =>
    (getR S (some x0) 13 35).bind fun v48 =>
    (ldI S v48 15 x2).bind fun v52 =>
    (getR S (some x0) 13 36).bind fun v55 =>
    (ldI S v55 15 x2).bind fun v59 =>
    (stI S v41 15 ((4 * x1) + v52) v59).bind fun S60 =>
    some S60
    else
    (if v5 = 5 then
    (getR S (some x0) 13 26).bind fun v65 =>
    (getR S (some x0) 13 35).bind fun v70 =>
    (ldI S v70 15 x2).bind fun v74 =>
    (stI S v65 15 x1 v74).bind fun S75 =>
    some S75
    else
    (if v5 = 6 then
    (getR S (some x0) 13 27).bind fun v80 =>
    (getR S (some x0) 13 35).bind fun v85 =>
    (ldI S v85 15 x2).bind fun v89 =>
    (stI S v80 15 x1 v89).bind fun S90 =>
    some S90
    else
    (if v5 = 7 then
    (getR S (some x0) 13 28).bind fun v95 =>
    (getR S (some x0) 13 35).bind fun v100 =>
    (ldI S v100 15 x2).bind fun v104 =>
    (stI S v95 15 x1 v104).bind fun S105 =>
    (getR S105 (some x0) 13 29).bind fun v107 =>
    (getR S105 (some x0) 13 36).bind fun v112 =>
    (ldI S105 v112 15 x2).bind fun v116 =>
    (stI S105 v107 15 x1 v116).bind fun S117 =>
    some S117
    else
    (getR S (some x0) 13 31).bind fun v122 =>
    (getR S (some x0) 13 30).bind fun v130 =>
    (ldI S v130 15 x1).bind fun v134 =>
    (getR S (some x0) 13 37).bind fun v137 =>
    (ldI S v137 15 x2).bind fun v141 =>
    (stI S v122 15 ((25 * x1) + v134) v141).bind fun S142 =>
    (getR S142 (some x0) 13 32).bind fun v144 =>
    (getR S142 (some x0) 13 30).bind fun v152 =>
    (ldI S142 v152 15 x1).bind fun v156 =>
    (getR S142 (some x0) 13 38).bind fun v159 =>
    (ldI S142 v159 15 x2).bind fun v163 =>
    (stI S142 v144 15 ((24 * x1) + v156) v163).bind fun S164 =>
    (getR S164 (some x0) 13 30).bind fun v166 =>
    (ldI S164 v166 15 x1).bind fun v171 =>
    (stI S164 v166 15 x1 (v171 + 1)).bind fun S174 =>
    some S174))))
theorem k_X12_takes {l : Launch} {G : Ge} {S S' : St} {x0 : Nat} {x1 : Int32} {x2 : Int32} (hr : f_X12_takes S x0 x1 x2 = some S') : Ct l G yX12_takes cX12_takes 3 (Option.none : Option Jvm.ClassFile.FieldType) S [va_rf (some x0), .int x1, .int x2] none S' 0 0 := by
  refine ct_of (by decide +kernel) (Nat.le_of_ble_eq_true rfl) ?_
  intro p e s m args below meth c C ls hl
  have hl : lv_has ls 3 [(0, va_rf (some x0)), (1, .int x1), (2, .int x2)] := hl
  unfold f_X12_takes at hr
  refine v_aload_n C (lv_at hl 0 rfl) rfl dX12_takes_0 ?_
  obtain ⟨v1, e1, hr⟩ := ob hr
  refine v_getR C fl_RX12_97 rfl e1 dX12_takes_1 ?_
  refine v_iload_n C (lv_at hl 2 rfl) rfl dX12_takes_4 ?_
  obtain ⟨v5, e5, hr⟩ := ob hr
  refine v_ldI_i C e5 dX12_takes_5 ?_
  by_cases q6_3 : v5 = 3
  · rw [if_pos q6_3] at hr
    refine v_tableIn C (off := 34) 40 (by rw [q6_3]; decide) (by rw [q6_3]; decide) (by rw [q6_3]; decide) (by decide) dX12_takes_6 ?_
    refine v_aload_n C (lv_at hl 0 rfl) rfl dX12_takes_40 ?_
    obtain ⟨v41, e41, hr⟩ := ob hr
    refine v_getR C fl_RX12_67 rfl e41 dX12_takes_41 ?_
    refine v_iconst C 4 (by decide) dX12_takes_44 ?_
    refine v_iload_n C (lv_at hl 1 rfl) rfl dX12_takes_45 ?_
    refine v_imul C dX12_takes_46 ?_
    refine v_aload_n C (lv_at hl 0 rfl) rfl dX12_takes_47 ?_
    obtain ⟨v48, e48, hr⟩ := ob hr
    refine v_getR C fl_RX12_100 rfl e48 dX12_takes_48 ?_
    refine v_iload_n C (lv_at hl 2 rfl) rfl dX12_takes_51 ?_
    obtain ⟨v52, e52, hr⟩ := ob hr
    refine v_ldI_i C e52 dX12_takes_52 ?_
    refine v_iadd C dX12_takes_53 ?_
    refine v_aload_n C (lv_at hl 0 rfl) rfl dX12_takes_54 ?_
    obtain ⟨v55, e55, hr⟩ := ob hr
    refine v_getR C fl_RX12_103 rfl e55 dX12_takes_55 ?_
    refine v_iload_n C (lv_at hl 2 rfl) rfl dX12_takes_58 ?_
    obtain ⟨v59, e59, hr⟩ := ob hr
    refine v_ldI_i C e59 dX12_takes_59 ?_
    obtain ⟨S60, e60, hr⟩ := ob hr
    refine v_stI_i C e60 dX12_takes_60 ?_
    refine v_goto C 175 (by decide) dX12_takes_61 ?_
    obtain rfl := os hr
    exact v_vret C dX12_takes_175
  rw [if_neg q6_3] at hr
  by_cases q6_5 : v5 = 5
  · rw [if_pos q6_5] at hr
    refine v_tableIn C (off := 58) 64 (by rw [q6_5]; decide) (by rw [q6_5]; decide) (by rw [q6_5]; decide) (by decide) dX12_takes_6 ?_
    refine v_aload_n C (lv_at hl 0 rfl) rfl dX12_takes_64 ?_
    obtain ⟨v65, e65, hr⟩ := ob hr
    refine v_getR C fl_RX12_73 rfl e65 dX12_takes_65 ?_
    refine v_iload_n C (lv_at hl 1 rfl) rfl dX12_takes_68 ?_
    refine v_aload_n C (lv_at hl 0 rfl) rfl dX12_takes_69 ?_
    obtain ⟨v70, e70, hr⟩ := ob hr
    refine v_getR C fl_RX12_100 rfl e70 dX12_takes_70 ?_
    refine v_iload_n C (lv_at hl 2 rfl) rfl dX12_takes_73 ?_
    obtain ⟨v74, e74, hr⟩ := ob hr
    refine v_ldI_i C e74 dX12_takes_74 ?_
    obtain ⟨S75, e75, hr⟩ := ob hr
    refine v_stI_i C e75 dX12_takes_75 ?_
    refine v_goto C 175 (by decide) dX12_takes_76 ?_
    obtain rfl := os hr
    exact v_vret C dX12_takes_175
  rw [if_neg q6_5] at hr
  by_cases q6_6 : v5 = 6
  · rw [if_pos q6_6] at hr
    refine v_tableIn C (off := 73) 79 (by rw [q6_6]; decide) (by rw [q6_6]; decide) (by rw [q6_6]; decide) (by decide) dX12_takes_6 ?_
    refine v_aload_n C (lv_at hl 0 rfl) rfl dX12_takes_79 ?_
    obtain ⟨v80, e80, hr⟩ := ob hr
    refine v_getR C fl_RX12_76 rfl e80 dX12_takes_80 ?_
    refine v_iload_n C (lv_at hl 1 rfl) rfl dX12_takes_83 ?_
    refine v_aload_n C (lv_at hl 0 rfl) rfl dX12_takes_84 ?_
    obtain ⟨v85, e85, hr⟩ := ob hr
    refine v_getR C fl_RX12_100 rfl e85 dX12_takes_85 ?_
    refine v_iload_n C (lv_at hl 2 rfl) rfl dX12_takes_88 ?_
    obtain ⟨v89, e89, hr⟩ := ob hr
    refine v_ldI_i C e89 dX12_takes_89 ?_
    obtain ⟨S90, e90, hr⟩ := ob hr
    refine v_stI_i C e90 dX12_takes_90 ?_
    refine v_goto C 175 (by decide) dX12_takes_91 ?_
    obtain rfl := os hr
    exact v_vret C dX12_takes_175
  rw [if_neg q6_6] at hr
  by_cases q6_7 : v5 = 7
  · rw [if_pos q6_7] at hr
    refine v_tableIn C (off := 88) 94 (by rw [q6_7]; decide) (by rw [q6_7]; decide) (by rw [q6_7]; decide) (by decide) dX12_takes_6 ?_
    refine v_aload_n C (lv_at hl 0 rfl) rfl dX12_takes_94 ?_
    obtain ⟨v95, e95, hr⟩ := ob hr
    refine v_getR C fl_RX12_79 rfl e95 dX12_takes_95 ?_
    refine v_iload_n C (lv_at hl 1 rfl) rfl dX12_takes_98 ?_
    refine v_aload_n C (lv_at hl 0 rfl) rfl dX12_takes_99 ?_
    obtain ⟨v100, e100, hr⟩ := ob hr
    refine v_getR C fl_RX12_100 rfl e100 dX12_takes_100 ?_
    refine v_iload_n C (lv_at hl 2 rfl) rfl dX12_takes_103 ?_
    obtain ⟨v104, e104, hr⟩ := ob hr
    refine v_ldI_i C e104 dX12_takes_104 ?_
    obtain ⟨S105, e105, hr⟩ := ob hr
    refine v_stI_i C e105 dX12_takes_105 ?_
    refine v_aload_n C (lv_at hl 0 rfl) rfl dX12_takes_106 ?_
    obtain ⟨v107, e107, hr⟩ := ob hr
    refine v_getR C fl_RX12_82 rfl e107 dX12_takes_107 ?_
    refine v_iload_n C (lv_at hl 1 rfl) rfl dX12_takes_110 ?_
    refine v_aload_n C (lv_at hl 0 rfl) rfl dX12_takes_111 ?_
    obtain ⟨v112, e112, hr⟩ := ob hr
    refine v_getR C fl_RX12_103 rfl e112 dX12_takes_112 ?_
    refine v_iload_n C (lv_at hl 2 rfl) rfl dX12_takes_115 ?_
    obtain ⟨v116, e116, hr⟩ := ob hr
    refine v_ldI_i C e116 dX12_takes_116 ?_
    obtain ⟨S117, e117, hr⟩ := ob hr
    refine v_stI_i C e117 dX12_takes_117 ?_
    refine v_goto C 175 (by decide) dX12_takes_118 ?_
    obtain rfl := os hr
    exact v_vret C dX12_takes_175
  rw [if_neg q6_7] at hr
  have kd6 : V p l e (rmo 0 0 S) s m args below meth c G S S (QM below args s G S S' none) (F0 m 121 ls []) := by
    refine v_aload_n C (lv_at hl 0 rfl) rfl dX12_takes_121 ?_
    obtain ⟨v122, e122, hr⟩ := ob hr
    refine v_getR C fl_RX12_88 rfl e122 dX12_takes_122 ?_
    refine v_bipush C 25 (by decide) dX12_takes_125 ?_
    refine v_iload_n C (lv_at hl 1 rfl) rfl dX12_takes_127 ?_
    refine v_imul C dX12_takes_128 ?_
    refine v_aload_n C (lv_at hl 0 rfl) rfl dX12_takes_129 ?_
    obtain ⟨v130, e130, hr⟩ := ob hr
    refine v_getR C fl_RX12_85 rfl e130 dX12_takes_130 ?_
    refine v_iload_n C (lv_at hl 1 rfl) rfl dX12_takes_133 ?_
    obtain ⟨v134, e134, hr⟩ := ob hr
    refine v_ldI_i C e134 dX12_takes_134 ?_
    refine v_iadd C dX12_takes_135 ?_
    refine v_aload_n C (lv_at hl 0 rfl) rfl dX12_takes_136 ?_
    obtain ⟨v137, e137, hr⟩ := ob hr
    refine v_getR C fl_RX12_106 rfl e137 dX12_takes_137 ?_
    refine v_iload_n C (lv_at hl 2 rfl) rfl dX12_takes_140 ?_
    obtain ⟨v141, e141, hr⟩ := ob hr
    refine v_ldI_i C e141 dX12_takes_141 ?_
    obtain ⟨S142, e142, hr⟩ := ob hr
    refine v_stI_i C e142 dX12_takes_142 ?_
    refine v_aload_n C (lv_at hl 0 rfl) rfl dX12_takes_143 ?_
    obtain ⟨v144, e144, hr⟩ := ob hr
    refine v_getR C fl_RX12_91 rfl e144 dX12_takes_144 ?_
    refine v_bipush C 24 (by decide) dX12_takes_147 ?_
    refine v_iload_n C (lv_at hl 1 rfl) rfl dX12_takes_149 ?_
    refine v_imul C dX12_takes_150 ?_
    refine v_aload_n C (lv_at hl 0 rfl) rfl dX12_takes_151 ?_
    obtain ⟨v152, e152, hr⟩ := ob hr
    refine v_getR C fl_RX12_85 rfl e152 dX12_takes_152 ?_
    refine v_iload_n C (lv_at hl 1 rfl) rfl dX12_takes_155 ?_
    obtain ⟨v156, e156, hr⟩ := ob hr
    refine v_ldI_i C e156 dX12_takes_156 ?_
    refine v_iadd C dX12_takes_157 ?_
    refine v_aload_n C (lv_at hl 0 rfl) rfl dX12_takes_158 ?_
    obtain ⟨v159, e159, hr⟩ := ob hr
    refine v_getR C fl_RX12_109 rfl e159 dX12_takes_159 ?_
    refine v_iload_n C (lv_at hl 2 rfl) rfl dX12_takes_162 ?_
    obtain ⟨v163, e163, hr⟩ := ob hr
    refine v_ldI_i C e163 dX12_takes_163 ?_
    obtain ⟨S164, e164, hr⟩ := ob hr
    refine v_stI_i C e164 dX12_takes_164 ?_
    refine v_aload_n C (lv_at hl 0 rfl) rfl dX12_takes_165 ?_
    obtain ⟨v166, e166, hr⟩ := ob hr
    refine v_getR C fl_RX12_85 rfl e166 dX12_takes_166 ?_
    refine v_iload_n C (lv_at hl 1 rfl) rfl dX12_takes_169 ?_
    refine v_dup2 C rfl (rf_cat _) dX12_takes_170 ?_
    obtain ⟨v171, e171, hr⟩ := ob hr
    refine v_ldI_i C e171 dX12_takes_171 ?_
    refine v_iconst C 1 (by decide) dX12_takes_172 ?_
    refine v_iadd C dX12_takes_173 ?_
    obtain ⟨S174, e174, hr⟩ := ob hr
    refine v_stI_i C e174 dX12_takes_174 ?_
    obtain rfl := os hr
    exact v_vret C dX12_takes_175
  by_cases q6_4 : v5 = 4
  · exact v_tableIn C (off := 115) 121 (by rw [q6_4]; decide) (by rw [q6_4]; decide) (by rw [q6_4]; decide) (by decide) dX12_takes_6 kd6
  have z0 := lv_neT q6_3 (a := 3) (by decide)
  have z1 := lv_neT q6_4 (a := 4) (by decide)
  have z2 := lv_neT q6_5 (a := 5) (by decide)
  have z3 := lv_neT q6_6 (a := 6) (by decide)
  have z4 := lv_neT q6_7 (a := 7) (by decide)
  exact v_tableOut C 121 (by omega) (by decide) dX12_takes_6 kd6
-- X12_reads
def f_X12_reads_40 : Nat → St → Nat → Int32 → Int32 → Option (Nat × Int32 × Int32 × St)
  | 0, _, _, _, _ => none
  | n + 1, S, x0, x1, x2 =>
    (if x2 = 0 then
    some (x0, x1, x2, S)
    else
    (getI S (some x0) 13 46).bind fun v45 =>
    (if v45 = 0 then
    some (x0, x1, x2, S)
    else
    (rcv S (some x0) 13).bind fun b52 =>
    (f_X12_aLine S b52).bind fun (v52, S52) =>
    f_X12_reads_40 n S52 x0 x1 v52))
def f_X12_reads_143 (rec : St → Nat → Int32 → Int32 → Int32 → Option (Nat × Int32 × St)) (S : St) (x0 : Nat) (x1 : Int32) (x4 : Int32) (t0 : Int32) (t1 : Int32) (t2 : Option Nat) : Option (Nat × Int32 × St) :=
    (getR S (some x0) 13 35).bind fun v145 =>
    (ldI S v145 15 x4).bind fun v150 =>
    (stI S t2 15 t1 (t0 ||| (1 <<< (v150 &&& 31)))).bind fun S153 =>
    rec S153 x0 x1 0 (x4 + 1)
def f_X12_reads_104 : Nat → St → Nat → Int32 → Int32 → Int32 → Option (Nat × Int32 × St)
  | 0, _, _, _, _, _ => none
  | n + 1, S, x0, x1, x3, x4 =>
    (getI S (some x0) 13 42).bind fun v107 =>
    (if v107 ≤ x4 then
    some (x0, x1, S)
    else
    (getR S (some x0) 13 34).bind fun v114 =>
    (ldI S v114 15 x4).bind fun v119 =>
    (if v119 = 4 then
    (getR S (some x0) 13 25).bind fun v125 =>
    (if x3 = 0 then
    (getR S (some x0) 13 25).bind fun v138 =>
    (ldI S v138 15 x1).bind fun v142 =>
    f_X12_reads_143 (f_X12_reads_104 n) S x0 x1 x4 v142 x1 v125
    else
    f_X12_reads_143 (f_X12_reads_104 n) S x0 x1 x4 0 x1 v125)
    else
    (rcv S (some x0) 13).bind fun b163 =>
    (f_X12_takes S b163 x1 x4).bind fun S163 =>
    f_X12_reads_104 n S163 x0 x1 x3 (x4 + 1)))
def f_X12_reads_195 : Nat → St → Nat → Int32 → Int32 → Option ((Int32 × St))
  | 0, _, _, _, _ => none
  | n + 1, S, x0, x1, x4 =>
    (getI S (some x0) 13 43).bind fun v199 =>
    (if (2 * v199) ≤ x4 then
    (getI S (some x0) 13 42).bind fun v233 =>
    some (v233, S)
    else
    (getR S (some x0) 13 33).bind fun v207 =>
    (getR S (some x0) 13 39).bind fun v219 =>
    (ldI S v219 15 x4).bind fun v224 =>
    (stI S v207 15 ((1220 * x1) + x4) v224).bind fun S225 =>
    f_X12_reads_195 n S225 x0 x1 (x4 + 1))
def f_X12_reads_85 (S : St) (x0 : Nat) (x1 : Int32) (x2 : Int32) (t0 : Int32) (t1 : Option Nat) : Option (Int32 × St) :=
    (putI S t1 13 54 t0).bind fun S85 =>
    (if x2 = 0 then
    some ((-1), S85)
    else
    (rcv S85 (some x0) 13).bind fun b96 =>
    (f_X12_clears S85 b96 x1).bind fun S96 =>
    (f_X12_reads_104 FU S96 x0 x1 1 0).bind fun (x0, x1_104, S_104) => (getR S_104 (some x0) 13 31).bind fun v173 =>
    (getR S_104 (some x0) 13 30).bind fun v181 =>
    (ldI S_104 v181 15 x1_104).bind fun v185 =>
    (getI S_104 (some x0) 13 43).bind fun v188 =>
    (stI S_104 v173 15 ((25 * x1_104) + v185) v188).bind fun S191 =>
    f_X12_reads_195 FU S191 x0 x1_104 0)
def f_X12_reads_59 (S : St) (x0 : Nat) (x1 : Int32) (x2 : Int32) : Option (Int32 × St) :=
    (putI S (some x0) 13 44 0).bind fun S61 =>
    (getI S61 (some x0) 13 49).bind fun v66 =>
    (putI S61 (some x0) 13 51 v66).bind fun S69 =>
    (if x2 = 0 then
    (getI S69 (some x0) 13 50).bind fun v82 =>
    f_X12_reads_85 S69 x0 x1 x2 v82 (some x0)
    else
    f_X12_reads_85 S69 x0 x1 x2 (-1) (some x0))
def f_X12_reads (S : St) (x0 : Nat) (x1 : Int32) : Option (Int32 × St) :=
    (f_X12_isState S x1).bind fun v1 =>
    (if v1 = 0 then
    (putI S (some x0) 13 44 0).bind fun S9 =>
    some ((-1), S9)
    else
    (putI S (some x0) 13 49 0).bind fun S16 =>
    (putI S16 (some x0) 13 45 0).bind fun S21 =>
    (putI S21 (some x0) 13 42 0).bind fun S26 =>
    (putI S26 (some x0) 13 43 0).bind fun S31 =>
    (rcv S31 (some x0) 13).bind fun b35 =>
    (f_X12_next0 S31 b35).bind fun S35 =>
    (f_X12_reads_40 FU S35 x0 x1 1).bind fun (x0, x1_40, x2_40, S_40) => f_X12_reads_59 S_40 x0 x1_40 x2_40)
theorem b_X12_reads_40  {S0 S' : St} {rr : Int32} (C : Cx p s m args meth c G S0 yX12_reads cX12_reads 5 (Option.some Jvm.ClassFile.FieldType.int)) {o : (Nat × Int32 × Int32 × St)} (kX59 : ∀ {x0 : Nat} {x1 : Int32} {x2 : Int32} {Z : St}, o = (x0, x1, x2, Z) → ∀ ls : Array Slot, lv_has ls 5 [(0, va_rf (some x0)), (1, .int x1), (2, .int x2)] → V p l e (rmo 146 3128 S0) s m args below meth c G S0 Z (QM below args s G S0 S' (some (.int rr))) (F0 m 59 ls [])) : ∀ (n : Nat) {S : St} {x0 : Nat} {x1 : Int32} {x2 : Int32}, f_X12_reads_40 n S x0 x1 x2 = some o → ∀ ls : Array Slot, lv_has ls 5 [(0, va_rf (some x0)), (1, .int x1), (2, .int x2)] → V p l e (rmo 146 3128 S0) s m args below meth c G S0 S (QM below args s G S0 S' (some (.int rr))) (F0 m 40 ls []) := by
  intro n
  induction n with
  | zero => intro S x0 x1 x2 hr; cases hr
  | succ n ih =>
    intro S x0 x1 x2 hr ls hl
    unfold f_X12_reads_40 at hr
    refine v_iload_n C (lv_at hl 2 rfl) rfl dX12_reads_40 ?_
    refine v_if_eq C 59 (by decide) dX12_reads_41 (fun c41 => ?_) (fun c41 => ?_)
    · rw [if_pos c41] at hr
      obtain rfl := os hr
      exact kX59 rfl _ (lv_sub hl [0, 1, 2] rfl)
    · rw [if_neg c41] at hr
      refine v_aload_n C (lv_at hl 0 rfl) rfl dX12_reads_44 ?_
      obtain ⟨v45, e45, hr⟩ := ob hr
      refine v_getI C fl_RX12_311 rfl e45 dX12_reads_45 ?_
      refine v_if_eq C 59 (by decide) dX12_reads_48 (fun c48 => ?_) (fun c48 => ?_)
      · rw [if_pos c48] at hr
        obtain rfl := os hr
        exact kX59 rfl _ (lv_sub hl [0, 1, 2] rfl)
      · rw [if_neg c48] at hr
        refine v_aload_n C (lv_at hl 0 rfl) rfl dX12_reads_51 ?_
        obtain ⟨b52, f52, hr⟩ := ob hr
        obtain ⟨g52, h52⟩ := rcv_n f52
        obtain ⟨⟨v52, S52⟩, e52, hr⟩ := ob hr
        (try dsimp only at hr)
        refine v_callV C (b := b52) h52 (by decide) rfl rfl (k_X12_aLine e52) cw_X12_aLine w_1694 w_1696 w_66 (show (parseMethodDescriptor (yX12_aLine).desc).map (fun d => d.parameters.length) = some 0 by decide +kernel) ⟨by decide, by decide⟩ (rest := []) (stk2 := [.int v52]) (by rw [g52]; rfl) rfl (Nat.le_of_ble_eq_true rfl) hl dX12_reads_52 ?_
        refine v_istore_n C (i := 2) (lv' := [(2, .int v52), (0, va_rf (some x0)), (1, .int x1)]) hl rfl (by decide) rfl dX12_reads_55 (fun ls hl => ?_)
        refine v_goto C 40 (by decide) dX12_reads_56 ?_
        exact ih hr _ (lv_sub hl [1, 2, 0] rfl)
theorem b_X12_reads_143  {S0 S S' : St} {rr : Int32} {x0 : Nat} {x1 : Int32} {x4 : Int32} {t0 : Int32} {t1 : Int32} {t2 : Option Nat} (C : Cx p s m args meth c G S0 yX12_reads cX12_reads 5 (Option.some Jvm.ClassFile.FieldType.int)) {o : (Nat × Int32 × St)} {rec : St → Nat → Int32 → Int32 → Int32 → Option (Nat × Int32 × St)} (kX172 : ∀ {x0 : Nat} {x1 : Int32} {Z : St}, o = (x0, x1, Z) → ∀ ls : Array Slot, lv_has ls 5 [(0, va_rf (some x0)), (1, .int x1)] → V p l e (rmo 146 3128 S0) s m args below meth c G S0 Z (QM below args s G S0 S' (some (.int rr))) (F0 m 172 ls [])) (ihk : ∀ {S : St} {x0 : Nat} {x1 : Int32} {x3 : Int32} {x4 : Int32}, rec S x0 x1 x3 x4 = some o → ∀ ls : Array Slot, lv_has ls 5 [(0, va_rf (some x0)), (1, .int x1), (3, .int x3), (4, .int x4)] → V p l e (rmo 146 3128 S0) s m args below meth c G S0 S (QM below args s G S0 S' (some (.int rr))) (F0 m 104 ls [])) (hr : f_X12_reads_143 rec S x0 x1 x4 t0 t1 t2 = some o) : ∀ ls : Array Slot, lv_has ls 5 [(0, va_rf (some x0)), (1, .int x1), (4, .int x4)] → V p l e (rmo 146 3128 S0) s m args below meth c G S0 S (QM below args s G S0 S' (some (.int rr))) (F0 m 143 ls [.int t0, .int t1, va_rf t2]) := by
  intro ls hl
  unfold f_X12_reads_143 at hr
  refine v_iconst C 1 (by decide) dX12_reads_143 ?_
  refine v_aload_n C (lv_at hl 0 rfl) rfl dX12_reads_144 ?_
  obtain ⟨v145, e145, hr⟩ := ob hr
  refine v_getR C fl_RX12_100 rfl e145 dX12_reads_145 ?_
  refine v_iload C (lv_at hl 2 rfl) dX12_reads_148 ?_
  obtain ⟨v150, e150, hr⟩ := ob hr
  refine v_ldI_i C e150 dX12_reads_150 ?_
  refine v_ishl C dX12_reads_151 ?_
  refine v_ior C dX12_reads_152 ?_
  obtain ⟨S153, e153, hr⟩ := ob hr
  refine v_stI_i C e153 dX12_reads_153 ?_
  refine v_iconst C 0 (by decide) dX12_reads_154 ?_
  refine v_istore_n C (i := 3) (lv' := [(3, .int 0), (0, va_rf (some x0)), (1, .int x1), (4, .int x4)]) hl rfl (by decide) rfl dX12_reads_155 (fun ls hl => ?_)
  refine v_goto C 166 (by decide) dX12_reads_156 ?_
  refine v_iinc C (x4 + 1) (k0 := 3) (lv' := [(4, .int (x4 + 1)), (3, .int 0), (0, va_rf (some x0)), (1, .int x1)]) hl rfl rfl (by decide) rfl dX12_reads_166 (fun ls hl => ?_)
  refine v_goto C 104 (by decide) dX12_reads_169 ?_
  exact ihk hr _ (lv_sub hl [2, 3, 1, 0] rfl)
theorem b_X12_reads_104  {S0 S' : St} {rr : Int32} (C : Cx p s m args meth c G S0 yX12_reads cX12_reads 5 (Option.some Jvm.ClassFile.FieldType.int)) {o : (Nat × Int32 × St)} (kX172 : ∀ {x0 : Nat} {x1 : Int32} {Z : St}, o = (x0, x1, Z) → ∀ ls : Array Slot, lv_has ls 5 [(0, va_rf (some x0)), (1, .int x1)] → V p l e (rmo 146 3128 S0) s m args below meth c G S0 Z (QM below args s G S0 S' (some (.int rr))) (F0 m 172 ls [])) : ∀ (n : Nat) {S : St} {x0 : Nat} {x1 : Int32} {x3 : Int32} {x4 : Int32}, f_X12_reads_104 n S x0 x1 x3 x4 = some o → ∀ ls : Array Slot, lv_has ls 5 [(0, va_rf (some x0)), (1, .int x1), (3, .int x3), (4, .int x4)] → V p l e (rmo 146 3128 S0) s m args below meth c G S0 S (QM below args s G S0 S' (some (.int rr))) (F0 m 104 ls []) := by
  intro n
  induction n with
  | zero => intro S x0 x1 x3 x4 hr; cases hr
  | succ n ih =>
    intro S x0 x1 x3 x4 hr ls hl
    unfold f_X12_reads_104 at hr
    refine v_iload C (lv_at hl 3 rfl) dX12_reads_104 ?_
    refine v_aload_n C (lv_at hl 0 rfl) rfl dX12_reads_106 ?_
    obtain ⟨v107, e107, hr⟩ := ob hr
    refine v_getI C fl_RX12_382 rfl e107 dX12_reads_107 ?_
    refine v_icmp_ge C 172 (by decide) dX12_reads_110 (fun c110 => ?_) (fun c110 => ?_)
    · rw [if_pos c110] at hr
      obtain rfl := os hr
      exact kX172 rfl _ (lv_sub hl [0, 1] rfl)
    · rw [if_neg c110] at hr
      refine v_aload_n C (lv_at hl 0 rfl) rfl dX12_reads_113 ?_
      obtain ⟨v114, e114, hr⟩ := ob hr
      refine v_getR C fl_RX12_97 rfl e114 dX12_reads_114 ?_
      refine v_iload C (lv_at hl 3 rfl) dX12_reads_117 ?_
      obtain ⟨v119, e119, hr⟩ := ob hr
      refine v_ldI_i C e119 dX12_reads_119 ?_
      refine v_iconst C 4 (by decide) dX12_reads_120 ?_
      refine v_icmp_ne C 159 (by decide) dX12_reads_121 (fun c121 => ?_) (fun c121 => ?_)
      · rw [if_neg c121] at hr
        refine v_aload_n C (lv_at hl 0 rfl) rfl dX12_reads_159 ?_
        refine v_iload_n C (lv_at hl 1 rfl) rfl dX12_reads_160 ?_
        refine v_iload C (lv_at hl 3 rfl) dX12_reads_161 ?_
        obtain ⟨b163, f163, hr⟩ := ob hr
        obtain ⟨g163, h163⟩ := rcv_n f163
        obtain ⟨S163, e163, hr⟩ := ob hr
        refine v_callV C (b := b163) h163 (by decide) rfl rfl (k_X12_takes e163) cw_X12_takes w_1750 w_1752 w_80 (show (parseMethodDescriptor (yX12_takes).desc).map (fun d => d.parameters.length) = some 2 by decide +kernel) ⟨by decide, by decide⟩ (rest := []) (stk2 := []) (by rw [g163]; rfl) rfl (Nat.le_of_ble_eq_true rfl) hl dX12_reads_163 ?_
        refine v_iinc C (x4 + 1) (k0 := 3) (lv' := [(4, .int (x4 + 1)), (0, va_rf (some x0)), (1, .int x1), (3, .int x3)]) hl rfl rfl (by decide) rfl dX12_reads_166 (fun ls hl => ?_)
        refine v_goto C 104 (by decide) dX12_reads_169 ?_
        exact ih hr _ (lv_sub hl [1, 2, 3, 0] rfl)
      · rw [if_pos c121] at hr
        refine v_aload_n C (lv_at hl 0 rfl) rfl dX12_reads_124 ?_
        obtain ⟨v125, e125, hr⟩ := ob hr
        refine v_getR C fl_RX12_70 rfl e125 dX12_reads_125 ?_
        refine v_iload_n C (lv_at hl 1 rfl) rfl dX12_reads_128 ?_
        refine v_iload_n C (lv_at hl 2 rfl) rfl dX12_reads_129 ?_
        refine v_if_eq C 137 (by decide) dX12_reads_130 (fun c130 => ?_) (fun c130 => ?_)
        · rw [if_pos c130] at hr
          refine v_aload_n C (lv_at hl 0 rfl) rfl dX12_reads_137 ?_
          obtain ⟨v138, e138, hr⟩ := ob hr
          refine v_getR C fl_RX12_70 rfl e138 dX12_reads_138 ?_
          refine v_iload_n C (lv_at hl 1 rfl) rfl dX12_reads_141 ?_
          obtain ⟨v142, e142, hr⟩ := ob hr
          refine v_ldI_i C e142 dX12_reads_142 ?_
          exact b_X12_reads_143 C (@kX172) (@ih) hr _ (lv_sub hl [0, 1, 3] rfl)
        · rw [if_neg c130] at hr
          refine v_iconst C 0 (by decide) dX12_reads_133 ?_
          refine v_goto C 143 (by decide) dX12_reads_134 ?_
          exact b_X12_reads_143 C (@kX172) (@ih) hr _ (lv_sub hl [0, 1, 3] rfl)
theorem b_X12_reads_195  {S0 S' : St} {rr : Int32} (C : Cx p s m args meth c G S0 yX12_reads cX12_reads 5 (Option.some Jvm.ClassFile.FieldType.int)) {o : ((Int32 × St))} (kR : ∀ (v : Int32) (Z : St), o = (v, Z) → rr = v ∧ S' = Z) : ∀ (n : Nat) {S : St} {x0 : Nat} {x1 : Int32} {x4 : Int32}, f_X12_reads_195 n S x0 x1 x4 = some o → ∀ ls : Array Slot, lv_has ls 5 [(0, va_rf (some x0)), (1, .int x1), (4, .int x4)] → V p l e (rmo 146 3128 S0) s m args below meth c G S0 S (QM below args s G S0 S' (some (.int rr))) (F0 m 195 ls []) := by
  intro n
  induction n with
  | zero => intro S x0 x1 x4 hr; cases hr
  | succ n ih =>
    intro S x0 x1 x4 hr ls hl
    unfold f_X12_reads_195 at hr
    refine v_iload C (lv_at hl 2 rfl) dX12_reads_195 ?_
    refine v_iconst C 2 (by decide) dX12_reads_197 ?_
    refine v_aload_n C (lv_at hl 0 rfl) rfl dX12_reads_198 ?_
    obtain ⟨v199, e199, hr⟩ := ob hr
    refine v_getI C fl_RX12_341 rfl e199 dX12_reads_199 ?_
    refine v_imul C dX12_reads_202 ?_
    refine v_icmp_ge C 232 (by decide) dX12_reads_203 (fun c203 => ?_) (fun c203 => ?_)
    · rw [if_pos c203] at hr
      refine v_aload_n C (lv_at hl 0 rfl) rfl dX12_reads_232 ?_
      obtain ⟨v233, e233, hr⟩ := ob hr
      refine v_getI C fl_RX12_382 rfl e233 dX12_reads_233 ?_
      obtain rfl := os hr
      obtain ⟨rfl, rfl⟩ := kR _ _ rfl
      exact v_iret C dX12_reads_236
    · rw [if_neg c203] at hr
      refine v_aload_n C (lv_at hl 0 rfl) rfl dX12_reads_206 ?_
      obtain ⟨v207, e207, hr⟩ := ob hr
      refine v_getR C fl_RX12_94 rfl e207 dX12_reads_207 ?_
      refine v_sipush C 1220 (by decide) dX12_reads_210 ?_
      refine v_iload_n C (lv_at hl 1 rfl) rfl dX12_reads_213 ?_
      refine v_imul C dX12_reads_214 ?_
      refine v_iload C (lv_at hl 2 rfl) dX12_reads_215 ?_
      refine v_iadd C dX12_reads_217 ?_
      refine v_aload_n C (lv_at hl 0 rfl) rfl dX12_reads_218 ?_
      obtain ⟨v219, e219, hr⟩ := ob hr
      refine v_getR C fl_RX12_112 rfl e219 dX12_reads_219 ?_
      refine v_iload C (lv_at hl 2 rfl) dX12_reads_222 ?_
      obtain ⟨v224, e224, hr⟩ := ob hr
      refine v_ldI_i C e224 dX12_reads_224 ?_
      obtain ⟨S225, e225, hr⟩ := ob hr
      refine v_stI_i C e225 dX12_reads_225 ?_
      refine v_iinc C (x4 + 1) (k0 := 2) (lv' := [(4, .int (x4 + 1)), (0, va_rf (some x0)), (1, .int x1)]) hl rfl rfl (by decide) rfl dX12_reads_226 (fun ls hl => ?_)
      refine v_goto C 195 (by decide) dX12_reads_229 ?_
      exact ih hr _ (lv_sub hl [1, 2, 0] rfl)
theorem b_X12_reads_85  {S0 S S' : St} {rr : Int32} {x0 : Nat} {x1 : Int32} {x2 : Int32} {t0 : Int32} {t1 : Option Nat} (C : Cx p s m args meth c G S0 yX12_reads cX12_reads 5 (Option.some Jvm.ClassFile.FieldType.int)) (hr : f_X12_reads_85 S x0 x1 x2 t0 t1 = some (rr, S')) : ∀ ls : Array Slot, lv_has ls 5 [(0, va_rf (some x0)), (1, .int x1), (2, .int x2)] → V p l e (rmo 146 3128 S0) s m args below meth c G S0 S (QM below args s G S0 S' (some (.int rr))) (F0 m 85 ls [.int t0, va_rf t1]) := by
  intro ls hl
  unfold f_X12_reads_85 at hr
  obtain ⟨S85, e85, hr⟩ := ob hr
  refine v_putI C fl_RX12_121 (Or.inl rfl) rfl e85 dX12_reads_85 ?_
  refine v_iload_n C (lv_at hl 2 rfl) rfl dX12_reads_88 ?_
  refine v_if_ne C 94 (by decide) dX12_reads_89 (fun c89 => ?_) (fun c89 => ?_)
  · rw [if_neg c89] at hr
    refine v_aload_n C (lv_at hl 0 rfl) rfl dX12_reads_94 ?_
    refine v_iload_n C (lv_at hl 1 rfl) rfl dX12_reads_95 ?_
    obtain ⟨b96, f96, hr⟩ := ob hr
    obtain ⟨g96, h96⟩ := rcv_n f96
    obtain ⟨S96, e96, hr⟩ := ob hr
    refine v_callV C (b := b96) h96 (by decide) rfl rfl (k_X12_clears e96) cw_X12_clears w_1302 w_1304 w_51 (show (parseMethodDescriptor (yX12_clears).desc).map (fun d => d.parameters.length) = some 1 by decide +kernel) ⟨by decide, by decide⟩ (rest := []) (stk2 := []) (by rw [g96]; rfl) rfl (Nat.le_of_ble_eq_true rfl) hl dX12_reads_96 ?_
    refine v_iconst C 1 (by decide) dX12_reads_99 ?_
    refine v_istore_n C (i := 3) (lv' := [(3, .int 1), (0, va_rf (some x0)), (1, .int x1), (2, .int x2)]) hl rfl (by decide) rfl dX12_reads_100 (fun ls hl => ?_)
    refine v_iconst C 0 (by decide) dX12_reads_101 ?_
    refine v_istore C (i := 4) (lv' := [(4, .int 0), (3, .int 1), (0, va_rf (some x0)), (1, .int x1), (2, .int x2)]) hl (by decide) rfl dX12_reads_102 (fun ls hl => ?_)
    obtain ⟨o104, e104, hr⟩ := ob hr
    refine b_X12_reads_104 C ?_ FU e104 _ (lv_sub hl [2, 3, 1, 0] rfl)
    · intro x0 x1_104 S_104 q ls hl
      subst q
      (try dsimp only at hr)
      refine v_aload_n C (lv_at hl 0 rfl) rfl dX12_reads_172 ?_
      obtain ⟨v173, e173, hr⟩ := ob hr
      refine v_getR C fl_RX12_88 rfl e173 dX12_reads_173 ?_
      refine v_bipush C 25 (by decide) dX12_reads_176 ?_
      refine v_iload_n C (lv_at hl 1 rfl) rfl dX12_reads_178 ?_
      refine v_imul C dX12_reads_179 ?_
      refine v_aload_n C (lv_at hl 0 rfl) rfl dX12_reads_180 ?_
      obtain ⟨v181, e181, hr⟩ := ob hr
      refine v_getR C fl_RX12_85 rfl e181 dX12_reads_181 ?_
      refine v_iload_n C (lv_at hl 1 rfl) rfl dX12_reads_184 ?_
      obtain ⟨v185, e185, hr⟩ := ob hr
      refine v_ldI_i C e185 dX12_reads_185 ?_
      refine v_iadd C dX12_reads_186 ?_
      refine v_aload_n C (lv_at hl 0 rfl) rfl dX12_reads_187 ?_
      obtain ⟨v188, e188, hr⟩ := ob hr
      refine v_getI C fl_RX12_341 rfl e188 dX12_reads_188 ?_
      obtain ⟨S191, e191, hr⟩ := ob hr
      refine v_stI_i C e191 dX12_reads_191 ?_
      refine v_iconst C 0 (by decide) dX12_reads_192 ?_
      refine v_istore C (i := 4) (lv' := [(4, .int 0), (0, va_rf (some x0)), (1, .int x1_104)]) hl (by decide) rfl dX12_reads_193 (fun ls hl => ?_)
      exact b_X12_reads_195 C (fun _ _ q => by cases q; exact ⟨rfl, rfl⟩) FU hr _ (lv_sub hl [1, 2, 0] rfl)
  · rw [if_pos c89] at hr
    refine v_iconst C (-1) (by decide) dX12_reads_92 ?_
    obtain ⟨rfl, rfl⟩ := Prod.mk.inj (os hr)
    exact v_iret C dX12_reads_93
theorem b_X12_reads_59  {S0 S S' : St} {rr : Int32} {x0 : Nat} {x1 : Int32} {x2 : Int32} (C : Cx p s m args meth c G S0 yX12_reads cX12_reads 5 (Option.some Jvm.ClassFile.FieldType.int)) (hr : f_X12_reads_59 S x0 x1 x2 = some (rr, S')) : ∀ ls : Array Slot, lv_has ls 5 [(0, va_rf (some x0)), (1, .int x1), (2, .int x2)] → V p l e (rmo 146 3128 S0) s m args below meth c G S0 S (QM below args s G S0 S' (some (.int rr))) (F0 m 59 ls []) := by
  intro ls hl
  unfold f_X12_reads_59 at hr
  refine v_aload_n C (lv_at hl 0 rfl) rfl dX12_reads_59 ?_
  refine v_iconst C 0 (by decide) dX12_reads_60 ?_
  obtain ⟨S61, e61, hr⟩ := ob hr
  refine v_putI C fl_RX12_259 (Or.inl rfl) rfl e61 dX12_reads_61 ?_
  refine v_aload_n C (lv_at hl 0 rfl) rfl dX12_reads_64 ?_
  refine v_aload_n C (lv_at hl 0 rfl) rfl dX12_reads_65 ?_
  obtain ⟨v66, e66, hr⟩ := ob hr
  refine v_getI C fl_RX12_326 rfl e66 dX12_reads_66 ?_
  obtain ⟨S69, e69, hr⟩ := ob hr
  refine v_putI C fl_RX12_391 (Or.inl rfl) rfl e69 dX12_reads_69 ?_
  refine v_aload_n C (lv_at hl 0 rfl) rfl dX12_reads_72 ?_
  refine v_iload_n C (lv_at hl 2 rfl) rfl dX12_reads_73 ?_
  refine v_if_eq C 81 (by decide) dX12_reads_74 (fun c74 => ?_) (fun c74 => ?_)
  · rw [if_pos c74] at hr
    refine v_aload_n C (lv_at hl 0 rfl) rfl dX12_reads_81 ?_
    obtain ⟨v82, e82, hr⟩ := ob hr
    refine v_getI C fl_RX12_329 rfl e82 dX12_reads_82 ?_
    exact b_X12_reads_85 C hr _ (lv_sub hl [0, 1, 2] rfl)
  · rw [if_neg c74] at hr
    refine v_iconst C (-1) (by decide) dX12_reads_77 ?_
    refine v_goto C 85 (by decide) dX12_reads_78 ?_
    exact b_X12_reads_85 C hr _ (lv_sub hl [0, 1, 2] rfl)
theorem k_X12_reads {l : Launch} {G : Ge} {S S' : St} {x0 : Nat} {x1 : Int32} {rr : Int32} (hr : f_X12_reads S x0 x1 = some (rr, S')) : Ct l G yX12_reads cX12_reads 5 (Option.some Jvm.ClassFile.FieldType.int) S [va_rf (some x0), .int x1] (some (.int rr)) S' 146 3128 := by
  refine ct_of (by decide +kernel) (Nat.le_of_ble_eq_true rfl) ?_
  intro p e s m args below meth c C ls hl
  have hl : lv_has ls 5 [(0, va_rf (some x0)), (1, .int x1)] := hl
  unfold f_X12_reads at hr
  refine v_iload_n C (lv_at hl 1 rfl) rfl dX12_reads_0 ?_
  obtain ⟨v1, e1, hr⟩ := ob hr
  refine v_callS C (k_X12_isState e1) cw_X12_isState w_1562 w_1563 (show (parseMethodDescriptor (yX12_isState).desc).map (fun d => d.parameters.length) = some 1 by decide +kernel) ⟨by decide, by decide⟩ (rest := []) (stk2 := [.int v1]) rfl rfl (Nat.le_of_ble_eq_true rfl) hl dX12_reads_1 ?_
  refine v_if_ne C 14 (by decide) dX12_reads_4 (fun c4 => ?_) (fun c4 => ?_)
  · rw [if_neg c4] at hr
    refine v_aload_n C (lv_at hl 0 rfl) rfl dX12_reads_14 ?_
    refine v_iconst C 0 (by decide) dX12_reads_15 ?_
    obtain ⟨S16, e16, hr⟩ := ob hr
    refine v_putI C fl_RX12_326 (Or.inl rfl) rfl e16 dX12_reads_16 ?_
    refine v_aload_n C (lv_at hl 0 rfl) rfl dX12_reads_19 ?_
    refine v_iconst C 0 (by decide) dX12_reads_20 ?_
    obtain ⟨S21, e21, hr⟩ := ob hr
    refine v_putI C fl_RX12_262 (Or.inl rfl) rfl e21 dX12_reads_21 ?_
    refine v_aload_n C (lv_at hl 0 rfl) rfl dX12_reads_24 ?_
    refine v_iconst C 0 (by decide) dX12_reads_25 ?_
    obtain ⟨S26, e26, hr⟩ := ob hr
    refine v_putI C fl_RX12_382 (Or.inl rfl) rfl e26 dX12_reads_26 ?_
    refine v_aload_n C (lv_at hl 0 rfl) rfl dX12_reads_29 ?_
    refine v_iconst C 0 (by decide) dX12_reads_30 ?_
    obtain ⟨S31, e31, hr⟩ := ob hr
    refine v_putI C fl_RX12_341 (Or.inl rfl) rfl e31 dX12_reads_31 ?_
    refine v_aload_n C (lv_at hl 0 rfl) rfl dX12_reads_34 ?_
    obtain ⟨b35, f35, hr⟩ := ob hr
    obtain ⟨g35, h35⟩ := rcv_n f35
    obtain ⟨S35, e35, hr⟩ := ob hr
    refine v_callV C (b := b35) h35 (by decide) rfl rfl (k_X12_next0 e35) cw_X12_next0 w_1656 w_1658 w_62 (show (parseMethodDescriptor (yX12_next0).desc).map (fun d => d.parameters.length) = some 0 by decide +kernel) ⟨by decide, by decide⟩ (rest := []) (stk2 := []) (by rw [g35]; rfl) rfl (Nat.le_of_ble_eq_true rfl) hl dX12_reads_35 ?_
    refine v_iconst C 1 (by decide) dX12_reads_38 ?_
    refine v_istore_n C (i := 2) (lv' := [(2, .int 1), (0, va_rf (some x0)), (1, .int x1)]) hl rfl (by decide) rfl dX12_reads_39 (fun ls hl => ?_)
    obtain ⟨o40, e40, hr⟩ := ob hr
    refine b_X12_reads_40 C ?_ FU e40 _ (lv_sub hl [1, 2, 0] rfl)
    · intro x0 x1_40 x2_40 S_40 q ls hl
      subst q
      (try dsimp only at hr)
      exact b_X12_reads_59 C hr _ (lv_sub hl [0, 1, 2] rfl)
  · rw [if_pos c4] at hr
    refine v_aload_n C (lv_at hl 0 rfl) rfl dX12_reads_7 ?_
    refine v_iconst C 0 (by decide) dX12_reads_8 ?_
    obtain ⟨S9, e9, hr⟩ := ob hr
    refine v_putI C fl_RX12_259 (Or.inl rfl) rfl e9 dX12_reads_9 ?_
    refine v_iconst C (-1) (by decide) dX12_reads_12 ?_
    obtain ⟨rfl, rfl⟩ := Prod.mk.inj (os hr)
    exact v_iret C dX12_reads_13
-- X12_sleepOf
def f_X12_sleepOf_18 : Nat → St → Nat → Int32 → Int32 → Int32 → Int32 → Int32 → Option (Nat × Int32 × Int32 × Int32)
  | 0, _, _, _, _, _, _, _ => none
  | n + 1, S, x0, x1, x2, x3, x4, x5 =>
    (getI S (some x0) 13 4).bind fun v21 =>
    (if v21 ≤ x5 then
    some (x0, x1, x3, x4)
    else
    (getR S (some x0) 13 18).bind fun v28 =>
    (ldI S v28 15 x5).bind fun v33 =>
    (if v33 = x1 then
    (getR S (some x0) 13 23).bind fun v39 =>
    (ldI S v39 15 x5).bind fun v44 =>
    (if x2 < v44 then
    f_X12_sleepOf_18 n S x0 x1 x2 x3 x4 (x5 + 1)
    else
    (getR S (some x0) 13 19).bind fun v50 =>
    (ldI S v50 15 x5).bind fun v55 =>
    (if v55 = 6 then
    f_X12_sleepOf_18 n S x0 x1 x2 x3 x4 (x5 + 1)
    else
    (getR S (some x0) 13 25).bind fun v62 =>
    (ldI S v62 15 x3).bind fun v66 =>
    (getR S (some x0) 13 19).bind fun v68 =>
    (ldI S v68 15 x5).bind fun v73 =>
    (if ((v66 >>> (v73 &&& 31)) &&& 1) = 1 then
    (getR S (some x0) 13 20).bind fun v82 =>
    (ldI S v82 15 x5).bind fun v87 =>
    (if v87 ≤ x4 then
    f_X12_sleepOf_18 n S x0 x1 x2 x3 x4 (x5 + 1)
    else
    (getR S (some x0) 13 20).bind fun v94 =>
    (ldI S v94 15 x5).bind fun v99 =>
    f_X12_sleepOf_18 n S x0 x1 x2 x3 v99 (x5 + 1))
    else
    f_X12_sleepOf_18 n S x0 x1 x2 x3 x4 (x5 + 1))))
    else
    f_X12_sleepOf_18 n S x0 x1 x2 x3 x4 (x5 + 1)))
def f_X12_sleepOf (S : St) (x0 : Nat) (x1 : Int32) (x2 : Int32) : Option Int32 :=
    (rcv S (some x0) 13).bind fun b3 =>
    (f_X12_owedTo S b3 x1 x2).bind fun v3 =>
    (getR S (some x0) 13 17).bind fun v8 =>
    (ldI S v8 15 x1).bind fun v12 =>
    (f_X12_sleepOf_18 FU S x0 x1 x2 v3 v12 0).bind fun (x0, x1_18, x3_18, x4_18) => (getR S (some x0) 13 24).bind fun v114 =>
    (getR S (some x0) 13 15).bind fun v121 =>
    (ldI S v121 15 x1_18).bind fun v125 =>
    (ldI S v114 15 ((4 * x3_18) + v125)).bind fun v127 =>
    some (x4_18 + (360 * v127))
theorem b_X12_sleepOf_18  {S : St} {rr : Int32} (C : Cx p s m args meth c G S yX12_sleepOf cX12_sleepOf 6 (Option.some Jvm.ClassFile.FieldType.int)) {o : (Nat × Int32 × Int32 × Int32)} (kX108 : ∀ {x0 : Nat} {x1 : Int32} {x3 : Int32} {x4 : Int32}, o = (x0, x1, x3, x4) → ∀ ls : Array Slot, lv_has ls 6 [(0, va_rf (some x0)), (1, .int x1), (3, .int x3), (4, .int x4)] → V p l e (rmo 3 67 S) s m args below meth c G S S (QM below args s G S S (some (.int rr))) (F0 m 108 ls [])) : ∀ (n : Nat) {x0 : Nat} {x1 : Int32} {x2 : Int32} {x3 : Int32} {x4 : Int32} {x5 : Int32}, f_X12_sleepOf_18 n S x0 x1 x2 x3 x4 x5 = some o → ∀ ls : Array Slot, lv_has ls 6 [(0, va_rf (some x0)), (1, .int x1), (2, .int x2), (3, .int x3), (4, .int x4), (5, .int x5)] → V p l e (rmo 3 67 S) s m args below meth c G S S (QM below args s G S S (some (.int rr))) (F0 m 18 ls []) := by
  intro n
  induction n with
  | zero => intro x0 x1 x2 x3 x4 x5 hr; cases hr
  | succ n ih =>
    intro x0 x1 x2 x3 x4 x5 hr ls hl
    unfold f_X12_sleepOf_18 at hr
    refine v_iload C (lv_at hl 5 rfl) dX12_sleepOf_18 ?_
    refine v_aload_n C (lv_at hl 0 rfl) rfl dX12_sleepOf_20 ?_
    obtain ⟨v21, e21, hr⟩ := ob hr
    refine v_getI C fl_RX12_234 rfl e21 dX12_sleepOf_21 ?_
    refine v_icmp_ge C 108 (by decide) dX12_sleepOf_24 (fun c24 => ?_) (fun c24 => ?_)
    · rw [if_pos c24] at hr
      obtain rfl := os hr
      exact kX108 rfl _ (lv_sub hl [0, 1, 3, 4] rfl)
    · rw [if_neg c24] at hr
      refine v_aload_n C (lv_at hl 0 rfl) rfl dX12_sleepOf_27 ?_
      obtain ⟨v28, e28, hr⟩ := ob hr
      refine v_getR C fl_RX12_49 rfl e28 dX12_sleepOf_28 ?_
      refine v_iload C (lv_at hl 5 rfl) dX12_sleepOf_31 ?_
      obtain ⟨v33, e33, hr⟩ := ob hr
      refine v_ldI_i C e33 dX12_sleepOf_33 ?_
      refine v_iload_n C (lv_at hl 1 rfl) rfl dX12_sleepOf_34 ?_
      refine v_icmp_ne C 102 (by decide) dX12_sleepOf_35 (fun c35 => ?_) (fun c35 => ?_)
      · rw [if_neg c35] at hr
        refine v_iinc C (x5 + 1) (k0 := 5) (lv' := [(5, .int (x5 + 1)), (0, va_rf (some x0)), (1, .int x1), (2, .int x2), (3, .int x3), (4, .int x4)]) hl rfl rfl (by decide) rfl dX12_sleepOf_102 (fun ls hl => ?_)
        refine v_goto C 18 (by decide) dX12_sleepOf_105 ?_
        exact ih hr _ (lv_sub hl [1, 2, 3, 4, 5, 0] rfl)
      · rw [if_pos c35] at hr
        refine v_aload_n C (lv_at hl 0 rfl) rfl dX12_sleepOf_38 ?_
        obtain ⟨v39, e39, hr⟩ := ob hr
        refine v_getR C fl_RX12_64 rfl e39 dX12_sleepOf_39 ?_
        refine v_iload C (lv_at hl 5 rfl) dX12_sleepOf_42 ?_
        obtain ⟨v44, e44, hr⟩ := ob hr
        refine v_ldI_i C e44 dX12_sleepOf_44 ?_
        refine v_iload_n C (lv_at hl 2 rfl) rfl dX12_sleepOf_45 ?_
        refine v_icmp_gt C 102 (by decide) dX12_sleepOf_46 (fun c46 => ?_) (fun c46 => ?_)
        · rw [if_pos c46] at hr
          refine v_iinc C (x5 + 1) (k0 := 5) (lv' := [(5, .int (x5 + 1)), (0, va_rf (some x0)), (1, .int x1), (2, .int x2), (3, .int x3), (4, .int x4)]) hl rfl rfl (by decide) rfl dX12_sleepOf_102 (fun ls hl => ?_)
          refine v_goto C 18 (by decide) dX12_sleepOf_105 ?_
          exact ih hr _ (lv_sub hl [1, 2, 3, 4, 5, 0] rfl)
        · rw [if_neg c46] at hr
          refine v_aload_n C (lv_at hl 0 rfl) rfl dX12_sleepOf_49 ?_
          obtain ⟨v50, e50, hr⟩ := ob hr
          refine v_getR C fl_RX12_52 rfl e50 dX12_sleepOf_50 ?_
          refine v_iload C (lv_at hl 5 rfl) dX12_sleepOf_53 ?_
          obtain ⟨v55, e55, hr⟩ := ob hr
          refine v_ldI_i C e55 dX12_sleepOf_55 ?_
          refine v_bipush C 6 (by decide) dX12_sleepOf_56 ?_
          refine v_icmp_eq C 102 (by decide) dX12_sleepOf_58 (fun c58 => ?_) (fun c58 => ?_)
          · rw [if_pos c58] at hr
            refine v_iinc C (x5 + 1) (k0 := 5) (lv' := [(5, .int (x5 + 1)), (0, va_rf (some x0)), (1, .int x1), (2, .int x2), (3, .int x3), (4, .int x4)]) hl rfl rfl (by decide) rfl dX12_sleepOf_102 (fun ls hl => ?_)
            refine v_goto C 18 (by decide) dX12_sleepOf_105 ?_
            exact ih hr _ (lv_sub hl [1, 2, 3, 4, 5, 0] rfl)
          · rw [if_neg c58] at hr
            refine v_aload_n C (lv_at hl 0 rfl) rfl dX12_sleepOf_61 ?_
            obtain ⟨v62, e62, hr⟩ := ob hr
            refine v_getR C fl_RX12_70 rfl e62 dX12_sleepOf_62 ?_
            refine v_iload_n C (lv_at hl 3 rfl) rfl dX12_sleepOf_65 ?_
            obtain ⟨v66, e66, hr⟩ := ob hr
            refine v_ldI_i C e66 dX12_sleepOf_66 ?_
            refine v_aload_n C (lv_at hl 0 rfl) rfl dX12_sleepOf_67 ?_
            obtain ⟨v68, e68, hr⟩ := ob hr
            refine v_getR C fl_RX12_52 rfl e68 dX12_sleepOf_68 ?_
            refine v_iload C (lv_at hl 5 rfl) dX12_sleepOf_71 ?_
            obtain ⟨v73, e73, hr⟩ := ob hr
            refine v_ldI_i C e73 dX12_sleepOf_73 ?_
            refine v_ishr C dX12_sleepOf_74 ?_
            refine v_iconst C 1 (by decide) dX12_sleepOf_75 ?_
            refine v_iand C dX12_sleepOf_76 ?_
            refine v_iconst C 1 (by decide) dX12_sleepOf_77 ?_
            refine v_icmp_ne C 102 (by decide) dX12_sleepOf_78 (fun c78 => ?_) (fun c78 => ?_)
            · rw [if_neg c78] at hr
              refine v_iinc C (x5 + 1) (k0 := 5) (lv' := [(5, .int (x5 + 1)), (0, va_rf (some x0)), (1, .int x1), (2, .int x2), (3, .int x3), (4, .int x4)]) hl rfl rfl (by decide) rfl dX12_sleepOf_102 (fun ls hl => ?_)
              refine v_goto C 18 (by decide) dX12_sleepOf_105 ?_
              exact ih hr _ (lv_sub hl [1, 2, 3, 4, 5, 0] rfl)
            · rw [if_pos c78] at hr
              refine v_aload_n C (lv_at hl 0 rfl) rfl dX12_sleepOf_81 ?_
              obtain ⟨v82, e82, hr⟩ := ob hr
              refine v_getR C fl_RX12_55 rfl e82 dX12_sleepOf_82 ?_
              refine v_iload C (lv_at hl 5 rfl) dX12_sleepOf_85 ?_
              obtain ⟨v87, e87, hr⟩ := ob hr
              refine v_ldI_i C e87 dX12_sleepOf_87 ?_
              refine v_iload C (lv_at hl 4 rfl) dX12_sleepOf_88 ?_
              refine v_icmp_le C 102 (by decide) dX12_sleepOf_90 (fun c90 => ?_) (fun c90 => ?_)
              · rw [if_pos c90] at hr
                refine v_iinc C (x5 + 1) (k0 := 5) (lv' := [(5, .int (x5 + 1)), (0, va_rf (some x0)), (1, .int x1), (2, .int x2), (3, .int x3), (4, .int x4)]) hl rfl rfl (by decide) rfl dX12_sleepOf_102 (fun ls hl => ?_)
                refine v_goto C 18 (by decide) dX12_sleepOf_105 ?_
                exact ih hr _ (lv_sub hl [1, 2, 3, 4, 5, 0] rfl)
              · rw [if_neg c90] at hr
                refine v_aload_n C (lv_at hl 0 rfl) rfl dX12_sleepOf_93 ?_
                obtain ⟨v94, e94, hr⟩ := ob hr
                refine v_getR C fl_RX12_55 rfl e94 dX12_sleepOf_94 ?_
                refine v_iload C (lv_at hl 5 rfl) dX12_sleepOf_97 ?_
                obtain ⟨v99, e99, hr⟩ := ob hr
                refine v_ldI_i C e99 dX12_sleepOf_99 ?_
                refine v_istore C (i := 4) (lv' := [(4, .int v99), (0, va_rf (some x0)), (1, .int x1), (2, .int x2), (3, .int x3), (5, .int x5)]) hl (by decide) rfl dX12_sleepOf_100 (fun ls hl => ?_)
                refine v_iinc C (x5 + 1) (k0 := 5) (lv' := [(5, .int (x5 + 1)), (4, .int v99), (0, va_rf (some x0)), (1, .int x1), (2, .int x2), (3, .int x3)]) hl rfl rfl (by decide) rfl dX12_sleepOf_102 (fun ls hl => ?_)
                refine v_goto C 18 (by decide) dX12_sleepOf_105 ?_
                exact ih hr _ (lv_sub hl [2, 3, 4, 5, 1, 0] rfl)
theorem k_X12_sleepOf {l : Launch} {G : Ge} {S : St} {x0 : Nat} {x1 : Int32} {x2 : Int32} {rr : Int32} (hr : f_X12_sleepOf S x0 x1 x2 = some rr) : Ct l G yX12_sleepOf cX12_sleepOf 6 (Option.some Jvm.ClassFile.FieldType.int) S [va_rf (some x0), .int x1, .int x2] (some (.int rr)) S 3 67 := by
  refine ct_of (by decide +kernel) (Nat.le_of_ble_eq_true rfl) ?_
  intro p e s m args below meth c C ls hl
  have hl : lv_has ls 6 [(0, va_rf (some x0)), (1, .int x1), (2, .int x2)] := hl
  unfold f_X12_sleepOf at hr
  refine v_aload_n C (lv_at hl 0 rfl) rfl dX12_sleepOf_0 ?_
  refine v_iload_n C (lv_at hl 1 rfl) rfl dX12_sleepOf_1 ?_
  refine v_iload_n C (lv_at hl 2 rfl) rfl dX12_sleepOf_2 ?_
  obtain ⟨b3, f3, hr⟩ := ob hr
  obtain ⟨g3, h3⟩ := rcv_n f3
  obtain ⟨v3, e3, hr⟩ := ob hr
  refine v_callV C (b := b3) h3 (by decide) rfl rfl (k_X12_owedTo e3) cw_X12_owedTo w_1767 w_1769 w_81 (show (parseMethodDescriptor (yX12_owedTo).desc).map (fun d => d.parameters.length) = some 2 by decide +kernel) ⟨by decide, by decide⟩ (rest := []) (stk2 := [.int v3]) (by rw [g3]; rfl) rfl (Nat.le_of_ble_eq_true rfl) hl dX12_sleepOf_3 ?_
  refine v_istore_n C (i := 3) (lv' := [(3, .int v3), (0, va_rf (some x0)), (1, .int x1), (2, .int x2)]) hl rfl (by decide) rfl dX12_sleepOf_6 (fun ls hl => ?_)
  refine v_aload_n C (lv_at hl 1 rfl) rfl dX12_sleepOf_7 ?_
  obtain ⟨v8, e8, hr⟩ := ob hr
  refine v_getR C fl_RX12_46 rfl e8 dX12_sleepOf_8 ?_
  refine v_iload_n C (lv_at hl 2 rfl) rfl dX12_sleepOf_11 ?_
  obtain ⟨v12, e12, hr⟩ := ob hr
  refine v_ldI_i C e12 dX12_sleepOf_12 ?_
  refine v_istore C (i := 4) (lv' := [(4, .int v12), (3, .int v3), (0, va_rf (some x0)), (1, .int x1), (2, .int x2)]) hl (by decide) rfl dX12_sleepOf_13 (fun ls hl => ?_)
  refine v_iconst C 0 (by decide) dX12_sleepOf_15 ?_
  refine v_istore C (i := 5) (lv' := [(5, .int 0), (4, .int v12), (3, .int v3), (0, va_rf (some x0)), (1, .int x1), (2, .int x2)]) hl (by decide) rfl dX12_sleepOf_16 (fun ls hl => ?_)
  obtain ⟨o18, e18, hr⟩ := ob hr
  refine b_X12_sleepOf_18 C ?_ FU e18 _ (lv_sub hl [3, 4, 5, 2, 1, 0] rfl)
  · intro x0 x1_18 x3_18 x4_18 q ls hl
    subst q
    (try dsimp only at hr)
    refine v_iload C (lv_at hl 3 rfl) dX12_sleepOf_108 ?_
    refine v_sipush C 360 (by decide) dX12_sleepOf_110 ?_
    refine v_aload_n C (lv_at hl 0 rfl) rfl dX12_sleepOf_113 ?_
    obtain ⟨v114, e114, hr⟩ := ob hr
    refine v_getR C fl_RX12_67 rfl e114 dX12_sleepOf_114 ?_
    refine v_iconst C 4 (by decide) dX12_sleepOf_117 ?_
    refine v_iload_n C (lv_at hl 2 rfl) rfl dX12_sleepOf_118 ?_
    refine v_imul C dX12_sleepOf_119 ?_
    refine v_aload_n C (lv_at hl 0 rfl) rfl dX12_sleepOf_120 ?_
    obtain ⟨v121, e121, hr⟩ := ob hr
    refine v_getR C fl_RX12_40 rfl e121 dX12_sleepOf_121 ?_
    refine v_iload_n C (lv_at hl 1 rfl) rfl dX12_sleepOf_124 ?_
    obtain ⟨v125, e125, hr⟩ := ob hr
    refine v_ldI_i C e125 dX12_sleepOf_125 ?_
    refine v_iadd C dX12_sleepOf_126 ?_
    obtain ⟨v127, e127, hr⟩ := ob hr
    refine v_ldI_i C e127 dX12_sleepOf_127 ?_
    refine v_imul C dX12_sleepOf_128 ?_
    refine v_iadd C dX12_sleepOf_129 ?_
    obtain rfl := os hr
    exact v_iret C dX12_sleepOf_130
-- X12_sumOf
def f_X12_sumOf_27 : Nat → St → Nat → Int32 → Int32 → Int32 → Int64 → Int32 → Int32 → Option (Nat × Int32 × Int32 × Int32 × Int64 × Int32)
  | 0, _, _, _, _, _, _, _, _ => none
  | n + 1, S, x0, x1, x2, x3, x4, x6, x7 =>
    (getI S (some x0) 13 4).bind fun v30 =>
    (if v30 ≤ x7 then
    some (x0, x1, x2, x3, x4, x6)
    else
    (getR S (some x0) 13 18).bind fun v37 =>
    (ldI S v37 15 x7).bind fun v42 =>
    (if v42 = x1 then
    (getR S (some x0) 13 20).bind fun v48 =>
    (ldI S v48 15 x7).bind fun v53 =>
    (if v53 = x6 then
    (getR S (some x0) 13 23).bind fun v60 =>
    (ldI S v60 15 x7).bind fun v65 =>
    (if x3 < v65 then
    f_X12_sumOf_27 n S x0 x1 x2 x3 x4 x6 (x7 + 1)
    else
    (getR S (some x0) 13 19).bind fun v71 =>
    (ldI S v71 15 x7).bind fun v76 =>
    (if v76 = 6 then
    (getR S (some x0) 13 21).bind fun v88 =>
    (ldI S v88 15 x7).bind fun v93 =>
    (getR S (some x0) 13 22).bind fun v101 =>
    (ldI S v101 15 x7).bind fun v106 =>
    (divL (x4 * (Int32.toInt64 v93)) (Int32.toInt64 v106)).bind fun v108 =>
    (if (0 : Int32) ≤ (lg_cmp (x4 * (Int32.toInt64 v93)) 0) then
    f_X12_sumOf_27 n S x0 x1 x2 x3 v108 x6 (x7 + 1)
    else
    (getR S (some x0) 13 22).bind fun v121 =>
    (ldI S v121 15 x7).bind fun v126 =>
    (if (lg_cmp (v108 * (Int32.toInt64 v126)) (x4 * (Int32.toInt64 v93))) = 0 then
    f_X12_sumOf_27 n S x0 x1 x2 x3 v108 x6 (x7 + 1)
    else
    f_X12_sumOf_27 n S x0 x1 x2 x3 (v108 - 1) x6 (x7 + 1)))
    else
    f_X12_sumOf_27 n S x0 x1 x2 x3 x4 x6 (x7 + 1)))
    else
    f_X12_sumOf_27 n S x0 x1 x2 x3 x4 x6 (x7 + 1))
    else
    f_X12_sumOf_27 n S x0 x1 x2 x3 x4 x6 (x7 + 1)))
def f_X12_sumOf_155 : Nat → St → Nat → Int32 → Int32 → Int32 → Int64 → Int32 → Int32 → Option (Nat × Int32 × Int32 × Int32 × Int64 × Int32)
  | 0, _, _, _, _, _, _, _, _ => none
  | n + 1, S, x0, x1, x2, x3, x4, x6, x7 =>
    (getI S (some x0) 13 4).bind fun v158 =>
    (if v158 ≤ x7 then
    some (x0, x1, x2, x3, x4, x6)
    else
    (getR S (some x0) 13 18).bind fun v165 =>
    (ldI S v165 15 x7).bind fun v170 =>
    (if v170 = x1 then
    (getR S (some x0) 13 20).bind fun v176 =>
    (ldI S v176 15 x7).bind fun v181 =>
    (if v181 = x6 then
    (getR S (some x0) 13 23).bind fun v188 =>
    (ldI S v188 15 x7).bind fun v193 =>
    (if x3 < v193 then
    f_X12_sumOf_155 n S x0 x1 x2 x3 x4 x6 (x7 + 1)
    else
    (getR S (some x0) 13 19).bind fun v199 =>
    (ldI S v199 15 x7).bind fun v204 =>
    (if v204 = 6 then
    f_X12_sumOf_155 n S x0 x1 x2 x3 x4 x6 (x7 + 1)
    else
    (getR S (some x0) 13 21).bind fun v213 =>
    (ldI S v213 15 x7).bind fun v218 =>
    f_X12_sumOf_155 n S x0 x1 x2 x3 (x4 + (Int32.toInt64 v218)) x6 (x7 + 1)))
    else
    f_X12_sumOf_155 n S x0 x1 x2 x3 x4 x6 (x7 + 1))
    else
    f_X12_sumOf_155 n S x0 x1 x2 x3 x4 x6 (x7 + 1)))
def f_X12_sumOf_12 : Nat → St → Nat → Int32 → Int32 → Int32 → Int64 → Int32 → Option (Int64)
  | 0, _, _, _, _, _, _, _ => none
  | n + 1, S, x0, x1, x2, x3, x4, x6 =>
    (if x6 = (-1) then
    some x4
    else
    (if x2 < x6 then
    some x4
    else
    (f_X12_sumOf_27 FU S x0 x1 x2 x3 x4 x6 0).bind fun (x0, x1_27, x2_27, x3_27, x4_27, x6_27) => (f_X12_sumOf_155 FU S x0 x1_27 x2_27 x3_27 x4_27 x6_27 0).bind fun (x0, x1_155, x2_155, x3_155, x4_155, x6_155) => (rcv S (some x0) 13).bind fun b236 =>
    (f_X12_nextDay S b236 x1_155 (x6_155 + 1) x3_155).bind fun v236 =>
    f_X12_sumOf_12 n S x0 x1_155 x2_155 x3_155 x4_155 v236))
def f_X12_sumOf (S : St) (x0 : Nat) (x1 : Int32) (x2 : Int32) (x3 : Int32) : Option Int64 :=
    (rcv S (some x0) 13).bind fun b7 =>
    (f_X12_nextDay S b7 x1 0 x3).bind fun v7 =>
    f_X12_sumOf_12 FU S x0 x1 x2 x3 0 v7
theorem b_X12_sumOf_27  {S : St} {rr : Int64} (C : Cx p s m args meth c G S yX12_sumOf cX12_sumOf 12 (Option.some Jvm.ClassFile.FieldType.long)) {o : (Nat × Int32 × Int32 × Int32 × Int64 × Int32)} (kX152 : ∀ {x0 : Nat} {x1 : Int32} {x2 : Int32} {x3 : Int32} {x4 : Int64} {x6 : Int32}, o = (x0, x1, x2, x3, x4, x6) → ∀ ls : Array Slot, lv_has ls 12 [(0, va_rf (some x0)), (1, .int x1), (2, .int x2), (3, .int x3), (4, .long x4), (6, .int x6)] → V p l e (rmo 1 25 S) s m args below meth c G S S (QM below args s G S S (some (.long rr))) (F0 m 152 ls [])) : ∀ (n : Nat) {x0 : Nat} {x1 : Int32} {x2 : Int32} {x3 : Int32} {x4 : Int64} {x6 : Int32} {x7 : Int32}, f_X12_sumOf_27 n S x0 x1 x2 x3 x4 x6 x7 = some o → ∀ ls : Array Slot, lv_has ls 12 [(0, va_rf (some x0)), (1, .int x1), (2, .int x2), (3, .int x3), (4, .long x4), (6, .int x6), (7, .int x7)] → V p l e (rmo 1 25 S) s m args below meth c G S S (QM below args s G S S (some (.long rr))) (F0 m 27 ls []) := by
  intro n
  induction n with
  | zero => intro x0 x1 x2 x3 x4 x6 x7 hr; cases hr
  | succ n ih =>
    intro x0 x1 x2 x3 x4 x6 x7 hr ls hl
    unfold f_X12_sumOf_27 at hr
    refine v_iload C (lv_at hl 6 rfl) dX12_sumOf_27 ?_
    refine v_aload_n C (lv_at hl 0 rfl) rfl dX12_sumOf_29 ?_
    obtain ⟨v30, e30, hr⟩ := ob hr
    refine v_getI C fl_RX12_234 rfl e30 dX12_sumOf_30 ?_
    refine v_icmp_ge C 152 (by decide) dX12_sumOf_33 (fun c33 => ?_) (fun c33 => ?_)
    · rw [if_pos c33] at hr
      obtain rfl := os hr
      exact kX152 rfl _ (lv_sub hl [0, 1, 2, 3, 4, 5] rfl)
    · rw [if_neg c33] at hr
      refine v_aload_n C (lv_at hl 0 rfl) rfl dX12_sumOf_36 ?_
      obtain ⟨v37, e37, hr⟩ := ob hr
      refine v_getR C fl_RX12_49 rfl e37 dX12_sumOf_37 ?_
      refine v_iload C (lv_at hl 6 rfl) dX12_sumOf_40 ?_
      obtain ⟨v42, e42, hr⟩ := ob hr
      refine v_ldI_i C e42 dX12_sumOf_42 ?_
      refine v_iload_n C (lv_at hl 1 rfl) rfl dX12_sumOf_43 ?_
      refine v_icmp_ne C 146 (by decide) dX12_sumOf_44 (fun c44 => ?_) (fun c44 => ?_)
      · rw [if_neg c44] at hr
        refine v_iinc C (x7 + 1) (k0 := 6) (lv' := [(7, .int (x7 + 1)), (0, va_rf (some x0)), (1, .int x1), (2, .int x2), (3, .int x3), (4, .long x4), (6, .int x6)]) hl rfl rfl (by decide) rfl dX12_sumOf_146 (fun ls hl => ?_)
        refine v_goto C 27 (by decide) dX12_sumOf_149 ?_
        exact ih hr _ (lv_sub hl [1, 2, 3, 4, 5, 6, 0] rfl)
      · rw [if_pos c44] at hr
        refine v_aload_n C (lv_at hl 0 rfl) rfl dX12_sumOf_47 ?_
        obtain ⟨v48, e48, hr⟩ := ob hr
        refine v_getR C fl_RX12_55 rfl e48 dX12_sumOf_48 ?_
        refine v_iload C (lv_at hl 6 rfl) dX12_sumOf_51 ?_
        obtain ⟨v53, e53, hr⟩ := ob hr
        refine v_ldI_i C e53 dX12_sumOf_53 ?_
        refine v_iload C (lv_at hl 5 rfl) dX12_sumOf_54 ?_
        refine v_icmp_ne C 146 (by decide) dX12_sumOf_56 (fun c56 => ?_) (fun c56 => ?_)
        · rw [if_neg c56] at hr
          refine v_iinc C (x7 + 1) (k0 := 6) (lv' := [(7, .int (x7 + 1)), (0, va_rf (some x0)), (1, .int x1), (2, .int x2), (3, .int x3), (4, .long x4), (6, .int x6)]) hl rfl rfl (by decide) rfl dX12_sumOf_146 (fun ls hl => ?_)
          refine v_goto C 27 (by decide) dX12_sumOf_149 ?_
          exact ih hr _ (lv_sub hl [1, 2, 3, 4, 5, 6, 0] rfl)
        · rw [if_pos c56] at hr
          refine v_aload_n C (lv_at hl 0 rfl) rfl dX12_sumOf_59 ?_
          obtain ⟨v60, e60, hr⟩ := ob hr
          refine v_getR C fl_RX12_64 rfl e60 dX12_sumOf_60 ?_
          refine v_iload C (lv_at hl 6 rfl) dX12_sumOf_63 ?_
          obtain ⟨v65, e65, hr⟩ := ob hr
          refine v_ldI_i C e65 dX12_sumOf_65 ?_
          refine v_iload_n C (lv_at hl 3 rfl) rfl dX12_sumOf_66 ?_
          refine v_icmp_gt C 146 (by decide) dX12_sumOf_67 (fun c67 => ?_) (fun c67 => ?_)
          · rw [if_pos c67] at hr
            refine v_iinc C (x7 + 1) (k0 := 6) (lv' := [(7, .int (x7 + 1)), (0, va_rf (some x0)), (1, .int x1), (2, .int x2), (3, .int x3), (4, .long x4), (6, .int x6)]) hl rfl rfl (by decide) rfl dX12_sumOf_146 (fun ls hl => ?_)
            refine v_goto C 27 (by decide) dX12_sumOf_149 ?_
            exact ih hr _ (lv_sub hl [1, 2, 3, 4, 5, 6, 0] rfl)
          · rw [if_neg c67] at hr
            refine v_aload_n C (lv_at hl 0 rfl) rfl dX12_sumOf_70 ?_
            obtain ⟨v71, e71, hr⟩ := ob hr
            refine v_getR C fl_RX12_52 rfl e71 dX12_sumOf_71 ?_
            refine v_iload C (lv_at hl 6 rfl) dX12_sumOf_74 ?_
            obtain ⟨v76, e76, hr⟩ := ob hr
            refine v_ldI_i C e76 dX12_sumOf_76 ?_
            refine v_bipush C 6 (by decide) dX12_sumOf_77 ?_
            refine v_icmp_eq C 85 (by decide) dX12_sumOf_79 (fun c79 => ?_) (fun c79 => ?_)
            · rw [if_pos c79] at hr
              refine v_lload C (lv_at hl 4 rfl) dX12_sumOf_85 ?_
              refine v_aload_n C (lv_at hl 0 rfl) rfl dX12_sumOf_87 ?_
              obtain ⟨v88, e88, hr⟩ := ob hr
              refine v_getR C fl_RX12_58 rfl e88 dX12_sumOf_88 ?_
              refine v_iload C (lv_at hl 6 rfl) dX12_sumOf_91 ?_
              obtain ⟨v93, e93, hr⟩ := ob hr
              refine v_ldI_i C e93 dX12_sumOf_93 ?_
              refine v_i2l C dX12_sumOf_94 ?_
              refine v_lmul C dX12_sumOf_95 ?_
              refine v_lstore C (i := 8) (lv' := [(8, .long (x4 * (Int32.toInt64 v93))), (0, va_rf (some x0)), (1, .int x1), (2, .int x2), (3, .int x3), (4, .long x4), (6, .int x6), (7, .int x7)]) hl (by decide) rfl dX12_sumOf_96 (fun ls hl => ?_)
              refine v_lload C (lv_at hl 0 rfl) dX12_sumOf_98 ?_
              refine v_aload_n C (lv_at hl 1 rfl) rfl dX12_sumOf_100 ?_
              obtain ⟨v101, e101, hr⟩ := ob hr
              refine v_getR C fl_RX12_61 rfl e101 dX12_sumOf_101 ?_
              refine v_iload C (lv_at hl 7 rfl) dX12_sumOf_104 ?_
              obtain ⟨v106, e106, hr⟩ := ob hr
              refine v_ldI_i C e106 dX12_sumOf_106 ?_
              refine v_i2l C dX12_sumOf_107 ?_
              obtain ⟨v108, e108, hr⟩ := ob hr
              refine v_ldiv C e108 dX12_sumOf_108 ?_
              refine v_lstore C (i := 10) (lv' := [(10, .long v108), (8, .long (x4 * (Int32.toInt64 v93))), (0, va_rf (some x0)), (1, .int x1), (2, .int x2), (3, .int x3), (4, .long x4), (6, .int x6), (7, .int x7)]) hl (by decide) rfl dX12_sumOf_109 (fun ls hl => ?_)
              refine v_lload C (lv_at hl 1 rfl) dX12_sumOf_111 ?_
              refine v_lconst C 0 (by decide) dX12_sumOf_113 ?_
              refine v_lcmp C dX12_sumOf_114 ?_
              refine v_if_ge C 142 (by decide) dX12_sumOf_115 (fun c115 => ?_) (fun c115 => ?_)
              · rw [if_pos c115] at hr
                refine v_lload C (lv_at hl 0 rfl) dX12_sumOf_142 ?_
                refine v_lstore C (i := 4) (lv' := [(4, .long v108), (10, .long v108), (8, .long (x4 * (Int32.toInt64 v93))), (0, va_rf (some x0)), (1, .int x1), (2, .int x2), (3, .int x3), (6, .int x6), (7, .int x7)]) hl (by decide) rfl dX12_sumOf_144 (fun ls hl => ?_)
                refine v_iinc C (x7 + 1) (k0 := 8) (lv' := [(7, .int (x7 + 1)), (4, .long v108), (10, .long v108), (8, .long (x4 * (Int32.toInt64 v93))), (0, va_rf (some x0)), (1, .int x1), (2, .int x2), (3, .int x3), (6, .int x6)]) hl rfl rfl (by decide) rfl dX12_sumOf_146 (fun ls hl => ?_)
                refine v_goto C 27 (by decide) dX12_sumOf_149 ?_
                exact ih hr _ (lv_sub hl [4, 5, 6, 7, 1, 8, 0] rfl)
              · rw [if_neg c115] at hr
                refine v_lload C (lv_at hl 0 rfl) dX12_sumOf_118 ?_
                refine v_aload_n C (lv_at hl 2 rfl) rfl dX12_sumOf_120 ?_
                obtain ⟨v121, e121, hr⟩ := ob hr
                refine v_getR C fl_RX12_61 rfl e121 dX12_sumOf_121 ?_
                refine v_iload C (lv_at hl 8 rfl) dX12_sumOf_124 ?_
                obtain ⟨v126, e126, hr⟩ := ob hr
                refine v_ldI_i C e126 dX12_sumOf_126 ?_
                refine v_i2l C dX12_sumOf_127 ?_
                refine v_lmul C dX12_sumOf_128 ?_
                refine v_lload C (lv_at hl 1 rfl) dX12_sumOf_129 ?_
                refine v_lcmp C dX12_sumOf_131 ?_
                refine v_if_eq C 142 (by decide) dX12_sumOf_132 (fun c132 => ?_) (fun c132 => ?_)
                · rw [if_pos c132] at hr
                  refine v_lload C (lv_at hl 0 rfl) dX12_sumOf_142 ?_
                  refine v_lstore C (i := 4) (lv' := [(4, .long v108), (10, .long v108), (8, .long (x4 * (Int32.toInt64 v93))), (0, va_rf (some x0)), (1, .int x1), (2, .int x2), (3, .int x3), (6, .int x6), (7, .int x7)]) hl (by decide) rfl dX12_sumOf_144 (fun ls hl => ?_)
                  refine v_iinc C (x7 + 1) (k0 := 8) (lv' := [(7, .int (x7 + 1)), (4, .long v108), (10, .long v108), (8, .long (x4 * (Int32.toInt64 v93))), (0, va_rf (some x0)), (1, .int x1), (2, .int x2), (3, .int x3), (6, .int x6)]) hl rfl rfl (by decide) rfl dX12_sumOf_146 (fun ls hl => ?_)
                  refine v_goto C 27 (by decide) dX12_sumOf_149 ?_
                  exact ih hr _ (lv_sub hl [4, 5, 6, 7, 1, 8, 0] rfl)
                · rw [if_neg c132] at hr
                  refine v_lload C (lv_at hl 0 rfl) dX12_sumOf_135 ?_
                  refine v_lconst C 1 (by decide) dX12_sumOf_137 ?_
                  refine v_lsub C dX12_sumOf_138 ?_
                  refine v_goto C 144 (by decide) dX12_sumOf_139 ?_
                  refine v_lstore C (i := 4) (lv' := [(4, .long (v108 - 1)), (10, .long v108), (8, .long (x4 * (Int32.toInt64 v93))), (0, va_rf (some x0)), (1, .int x1), (2, .int x2), (3, .int x3), (6, .int x6), (7, .int x7)]) hl (by decide) rfl dX12_sumOf_144 (fun ls hl => ?_)
                  refine v_iinc C (x7 + 1) (k0 := 8) (lv' := [(7, .int (x7 + 1)), (4, .long (v108 - 1)), (10, .long v108), (8, .long (x4 * (Int32.toInt64 v93))), (0, va_rf (some x0)), (1, .int x1), (2, .int x2), (3, .int x3), (6, .int x6)]) hl rfl rfl (by decide) rfl dX12_sumOf_146 (fun ls hl => ?_)
                  refine v_goto C 27 (by decide) dX12_sumOf_149 ?_
                  exact ih hr _ (lv_sub hl [4, 5, 6, 7, 1, 8, 0] rfl)
            · rw [if_neg c79] at hr
              refine v_goto C 146 (by decide) dX12_sumOf_82 ?_
              refine v_iinc C (x7 + 1) (k0 := 6) (lv' := [(7, .int (x7 + 1)), (0, va_rf (some x0)), (1, .int x1), (2, .int x2), (3, .int x3), (4, .long x4), (6, .int x6)]) hl rfl rfl (by decide) rfl dX12_sumOf_146 (fun ls hl => ?_)
              refine v_goto C 27 (by decide) dX12_sumOf_149 ?_
              exact ih hr _ (lv_sub hl [1, 2, 3, 4, 5, 6, 0] rfl)
theorem b_X12_sumOf_155  {S : St} {rr : Int64} (C : Cx p s m args meth c G S yX12_sumOf cX12_sumOf 12 (Option.some Jvm.ClassFile.FieldType.long)) {o : (Nat × Int32 × Int32 × Int32 × Int64 × Int32)} (kX229 : ∀ {x0 : Nat} {x1 : Int32} {x2 : Int32} {x3 : Int32} {x4 : Int64} {x6 : Int32}, o = (x0, x1, x2, x3, x4, x6) → ∀ ls : Array Slot, lv_has ls 12 [(0, va_rf (some x0)), (1, .int x1), (2, .int x2), (3, .int x3), (4, .long x4), (6, .int x6)] → V p l e (rmo 1 25 S) s m args below meth c G S S (QM below args s G S S (some (.long rr))) (F0 m 229 ls [])) : ∀ (n : Nat) {x0 : Nat} {x1 : Int32} {x2 : Int32} {x3 : Int32} {x4 : Int64} {x6 : Int32} {x7 : Int32}, f_X12_sumOf_155 n S x0 x1 x2 x3 x4 x6 x7 = some o → ∀ ls : Array Slot, lv_has ls 12 [(0, va_rf (some x0)), (1, .int x1), (2, .int x2), (3, .int x3), (4, .long x4), (6, .int x6), (7, .int x7)] → V p l e (rmo 1 25 S) s m args below meth c G S S (QM below args s G S S (some (.long rr))) (F0 m 155 ls []) := by
  intro n
  induction n with
  | zero => intro x0 x1 x2 x3 x4 x6 x7 hr; cases hr
  | succ n ih =>
    intro x0 x1 x2 x3 x4 x6 x7 hr ls hl
    unfold f_X12_sumOf_155 at hr
    refine v_iload C (lv_at hl 6 rfl) dX12_sumOf_155 ?_
    refine v_aload_n C (lv_at hl 0 rfl) rfl dX12_sumOf_157 ?_
    obtain ⟨v158, e158, hr⟩ := ob hr
    refine v_getI C fl_RX12_234 rfl e158 dX12_sumOf_158 ?_
    refine v_icmp_ge C 229 (by decide) dX12_sumOf_161 (fun c161 => ?_) (fun c161 => ?_)
    · rw [if_pos c161] at hr
      obtain rfl := os hr
      exact kX229 rfl _ (lv_sub hl [0, 1, 2, 3, 4, 5] rfl)
    · rw [if_neg c161] at hr
      refine v_aload_n C (lv_at hl 0 rfl) rfl dX12_sumOf_164 ?_
      obtain ⟨v165, e165, hr⟩ := ob hr
      refine v_getR C fl_RX12_49 rfl e165 dX12_sumOf_165 ?_
      refine v_iload C (lv_at hl 6 rfl) dX12_sumOf_168 ?_
      obtain ⟨v170, e170, hr⟩ := ob hr
      refine v_ldI_i C e170 dX12_sumOf_170 ?_
      refine v_iload_n C (lv_at hl 1 rfl) rfl dX12_sumOf_171 ?_
      refine v_icmp_ne C 223 (by decide) dX12_sumOf_172 (fun c172 => ?_) (fun c172 => ?_)
      · rw [if_neg c172] at hr
        refine v_iinc C (x7 + 1) (k0 := 6) (lv' := [(7, .int (x7 + 1)), (0, va_rf (some x0)), (1, .int x1), (2, .int x2), (3, .int x3), (4, .long x4), (6, .int x6)]) hl rfl rfl (by decide) rfl dX12_sumOf_223 (fun ls hl => ?_)
        refine v_goto C 155 (by decide) dX12_sumOf_226 ?_
        exact ih hr _ (lv_sub hl [1, 2, 3, 4, 5, 6, 0] rfl)
      · rw [if_pos c172] at hr
        refine v_aload_n C (lv_at hl 0 rfl) rfl dX12_sumOf_175 ?_
        obtain ⟨v176, e176, hr⟩ := ob hr
        refine v_getR C fl_RX12_55 rfl e176 dX12_sumOf_176 ?_
        refine v_iload C (lv_at hl 6 rfl) dX12_sumOf_179 ?_
        obtain ⟨v181, e181, hr⟩ := ob hr
        refine v_ldI_i C e181 dX12_sumOf_181 ?_
        refine v_iload C (lv_at hl 5 rfl) dX12_sumOf_182 ?_
        refine v_icmp_ne C 223 (by decide) dX12_sumOf_184 (fun c184 => ?_) (fun c184 => ?_)
        · rw [if_neg c184] at hr
          refine v_iinc C (x7 + 1) (k0 := 6) (lv' := [(7, .int (x7 + 1)), (0, va_rf (some x0)), (1, .int x1), (2, .int x2), (3, .int x3), (4, .long x4), (6, .int x6)]) hl rfl rfl (by decide) rfl dX12_sumOf_223 (fun ls hl => ?_)
          refine v_goto C 155 (by decide) dX12_sumOf_226 ?_
          exact ih hr _ (lv_sub hl [1, 2, 3, 4, 5, 6, 0] rfl)
        · rw [if_pos c184] at hr
          refine v_aload_n C (lv_at hl 0 rfl) rfl dX12_sumOf_187 ?_
          obtain ⟨v188, e188, hr⟩ := ob hr
          refine v_getR C fl_RX12_64 rfl e188 dX12_sumOf_188 ?_
          refine v_iload C (lv_at hl 6 rfl) dX12_sumOf_191 ?_
          obtain ⟨v193, e193, hr⟩ := ob hr
          refine v_ldI_i C e193 dX12_sumOf_193 ?_
          refine v_iload_n C (lv_at hl 3 rfl) rfl dX12_sumOf_194 ?_
          refine v_icmp_gt C 223 (by decide) dX12_sumOf_195 (fun c195 => ?_) (fun c195 => ?_)
          · rw [if_pos c195] at hr
            refine v_iinc C (x7 + 1) (k0 := 6) (lv' := [(7, .int (x7 + 1)), (0, va_rf (some x0)), (1, .int x1), (2, .int x2), (3, .int x3), (4, .long x4), (6, .int x6)]) hl rfl rfl (by decide) rfl dX12_sumOf_223 (fun ls hl => ?_)
            refine v_goto C 155 (by decide) dX12_sumOf_226 ?_
            exact ih hr _ (lv_sub hl [1, 2, 3, 4, 5, 6, 0] rfl)
          · rw [if_neg c195] at hr
            refine v_aload_n C (lv_at hl 0 rfl) rfl dX12_sumOf_198 ?_
            obtain ⟨v199, e199, hr⟩ := ob hr
            refine v_getR C fl_RX12_52 rfl e199 dX12_sumOf_199 ?_
            refine v_iload C (lv_at hl 6 rfl) dX12_sumOf_202 ?_
            obtain ⟨v204, e204, hr⟩ := ob hr
            refine v_ldI_i C e204 dX12_sumOf_204 ?_
            refine v_bipush C 6 (by decide) dX12_sumOf_205 ?_
            refine v_icmp_eq C 223 (by decide) dX12_sumOf_207 (fun c207 => ?_) (fun c207 => ?_)
            · rw [if_pos c207] at hr
              refine v_iinc C (x7 + 1) (k0 := 6) (lv' := [(7, .int (x7 + 1)), (0, va_rf (some x0)), (1, .int x1), (2, .int x2), (3, .int x3), (4, .long x4), (6, .int x6)]) hl rfl rfl (by decide) rfl dX12_sumOf_223 (fun ls hl => ?_)
              refine v_goto C 155 (by decide) dX12_sumOf_226 ?_
              exact ih hr _ (lv_sub hl [1, 2, 3, 4, 5, 6, 0] rfl)
            · rw [if_neg c207] at hr
              refine v_lload C (lv_at hl 4 rfl) dX12_sumOf_210 ?_
              refine v_aload_n C (lv_at hl 0 rfl) rfl dX12_sumOf_212 ?_
              obtain ⟨v213, e213, hr⟩ := ob hr
              refine v_getR C fl_RX12_58 rfl e213 dX12_sumOf_213 ?_
              refine v_iload C (lv_at hl 6 rfl) dX12_sumOf_216 ?_
              obtain ⟨v218, e218, hr⟩ := ob hr
              refine v_ldI_i C e218 dX12_sumOf_218 ?_
              refine v_i2l C dX12_sumOf_219 ?_
              refine v_ladd C dX12_sumOf_220 ?_
              refine v_lstore C (i := 4) (lv' := [(4, .long (x4 + (Int32.toInt64 v218))), (0, va_rf (some x0)), (1, .int x1), (2, .int x2), (3, .int x3), (6, .int x6), (7, .int x7)]) hl (by decide) rfl dX12_sumOf_221 (fun ls hl => ?_)
              refine v_iinc C (x7 + 1) (k0 := 6) (lv' := [(7, .int (x7 + 1)), (4, .long (x4 + (Int32.toInt64 v218))), (0, va_rf (some x0)), (1, .int x1), (2, .int x2), (3, .int x3), (6, .int x6)]) hl rfl rfl (by decide) rfl dX12_sumOf_223 (fun ls hl => ?_)
              refine v_goto C 155 (by decide) dX12_sumOf_226 ?_
              exact ih hr _ (lv_sub hl [2, 3, 4, 5, 1, 6, 0] rfl)
theorem b_X12_sumOf_12  {S : St} {rr : Int64} (C : Cx p s m args meth c G S yX12_sumOf cX12_sumOf 12 (Option.some Jvm.ClassFile.FieldType.long)) {o : (Int64)} (kR : ∀ (v : Int64), o = v → rr = v) : ∀ (n : Nat) {x0 : Nat} {x1 : Int32} {x2 : Int32} {x3 : Int32} {x4 : Int64} {x6 : Int32}, f_X12_sumOf_12 n S x0 x1 x2 x3 x4 x6 = some o → ∀ ls : Array Slot, lv_has ls 12 [(0, va_rf (some x0)), (1, .int x1), (2, .int x2), (3, .int x3), (4, .long x4), (6, .int x6)] → V p l e (rmo 1 25 S) s m args below meth c G S S (QM below args s G S S (some (.long rr))) (F0 m 12 ls []) := by
  intro n
  induction n with
  | zero => intro x0 x1 x2 x3 x4 x6 hr; cases hr
  | succ n ih =>
    intro x0 x1 x2 x3 x4 x6 hr ls hl
    unfold f_X12_sumOf_12 at hr
    refine v_iload C (lv_at hl 5 rfl) dX12_sumOf_12 ?_
    refine v_iconst C (-1) (by decide) dX12_sumOf_14 ?_
    refine v_icmp_eq C 244 (by decide) dX12_sumOf_15 (fun c15 => ?_) (fun c15 => ?_)
    · rw [if_pos c15] at hr
      refine v_lload C (lv_at hl 4 rfl) dX12_sumOf_244 ?_
      obtain rfl := os hr
      obtain rfl := kR _ rfl
      exact v_lret C dX12_sumOf_246
    · rw [if_neg c15] at hr
      refine v_iload C (lv_at hl 5 rfl) dX12_sumOf_18 ?_
      refine v_iload_n C (lv_at hl 2 rfl) rfl dX12_sumOf_20 ?_
      refine v_icmp_gt C 244 (by decide) dX12_sumOf_21 (fun c21 => ?_) (fun c21 => ?_)
      · rw [if_pos c21] at hr
        refine v_lload C (lv_at hl 4 rfl) dX12_sumOf_244 ?_
        obtain rfl := os hr
        obtain rfl := kR _ rfl
        exact v_lret C dX12_sumOf_246
      · rw [if_neg c21] at hr
        refine v_iconst C 0 (by decide) dX12_sumOf_24 ?_
        refine v_istore C (i := 7) (lv' := [(7, .int 0), (0, va_rf (some x0)), (1, .int x1), (2, .int x2), (3, .int x3), (4, .long x4), (6, .int x6)]) hl (by decide) rfl dX12_sumOf_25 (fun ls hl => ?_)
        obtain ⟨o27, e27, hr⟩ := ob hr
        refine b_X12_sumOf_27 C ?_ FU e27 _ (lv_sub hl [1, 2, 3, 4, 5, 6, 0] rfl)
        · intro x0 x1_27 x2_27 x3_27 x4_27 x6_27 q ls hl
          subst q
          (try dsimp only at hr)
          refine v_iconst C 0 (by decide) dX12_sumOf_152 ?_
          refine v_istore C (i := 7) (lv' := [(7, .int 0), (0, va_rf (some x0)), (1, .int x1_27), (2, .int x2_27), (3, .int x3_27), (4, .long x4_27), (6, .int x6_27)]) hl (by decide) rfl dX12_sumOf_153 (fun ls hl => ?_)
          obtain ⟨o155, e155, hr⟩ := ob hr
          refine b_X12_sumOf_155 C ?_ FU e155 _ (lv_sub hl [1, 2, 3, 4, 5, 6, 0] rfl)
          · intro x0 x1_155 x2_155 x3_155 x4_155 x6_155 q ls hl
            subst q
            (try dsimp only at hr)
            refine v_aload_n C (lv_at hl 0 rfl) rfl dX12_sumOf_229 ?_
            refine v_iload_n C (lv_at hl 1 rfl) rfl dX12_sumOf_230 ?_
            refine v_iload C (lv_at hl 5 rfl) dX12_sumOf_231 ?_
            refine v_iconst C 1 (by decide) dX12_sumOf_233 ?_
            refine v_iadd C dX12_sumOf_234 ?_
            refine v_iload_n C (lv_at hl 3 rfl) rfl dX12_sumOf_235 ?_
            obtain ⟨b236, f236, hr⟩ := ob hr
            obtain ⟨g236, h236⟩ := rcv_n f236
            obtain ⟨v236, e236, hr⟩ := ob hr
            refine v_callV C (b := b236) h236 (by decide) rfl rfl (k_X12_nextDay e236) cw_X12_nextDay w_1639 w_1641 w_61 (show (parseMethodDescriptor (yX12_nextDay).desc).map (fun d => d.parameters.length) = some 3 by decide +kernel) ⟨by decide, by decide⟩ (rest := []) (stk2 := [.int v236]) (by rw [g236]; rfl) rfl (Nat.le_of_ble_eq_true rfl) hl dX12_sumOf_236 ?_
            refine v_istore C (i := 6) (lv' := [(6, .int v236), (0, va_rf (some x0)), (1, .int x1_155), (2, .int x2_155), (3, .int x3_155), (4, .long x4_155)]) hl (by decide) rfl dX12_sumOf_239 (fun ls hl => ?_)
            refine v_goto C 12 (by decide) dX12_sumOf_241 ?_
            exact ih hr _ (lv_sub hl [1, 2, 3, 4, 5, 0] rfl)
theorem k_X12_sumOf {l : Launch} {G : Ge} {S : St} {x0 : Nat} {x1 : Int32} {x2 : Int32} {x3 : Int32} {rr : Int64} (hr : f_X12_sumOf S x0 x1 x2 x3 = some rr) : Ct l G yX12_sumOf cX12_sumOf 12 (Option.some Jvm.ClassFile.FieldType.long) S [va_rf (some x0), .int x1, .int x2, .int x3] (some (.long rr)) S 1 25 := by
  refine ct_of (by decide +kernel) (Nat.le_of_ble_eq_true rfl) ?_
  intro p e s m args below meth c C ls hl
  have hl : lv_has ls 12 [(0, va_rf (some x0)), (1, .int x1), (2, .int x2), (3, .int x3)] := hl
  unfold f_X12_sumOf at hr
  refine v_lconst C 0 (by decide) dX12_sumOf_0 ?_
  refine v_lstore C (i := 4) (lv' := [(4, .long 0), (0, va_rf (some x0)), (1, .int x1), (2, .int x2), (3, .int x3)]) hl (by decide) rfl dX12_sumOf_1 (fun ls hl => ?_)
  refine v_aload_n C (lv_at hl 1 rfl) rfl dX12_sumOf_3 ?_
  refine v_iload_n C (lv_at hl 2 rfl) rfl dX12_sumOf_4 ?_
  refine v_iconst C 0 (by decide) dX12_sumOf_5 ?_
  refine v_iload_n C (lv_at hl 4 rfl) rfl dX12_sumOf_6 ?_
  obtain ⟨b7, f7, hr⟩ := ob hr
  obtain ⟨g7, h7⟩ := rcv_n f7
  obtain ⟨v7, e7, hr⟩ := ob hr
  refine v_callV C (b := b7) h7 (by decide) rfl rfl (k_X12_nextDay e7) cw_X12_nextDay w_1639 w_1641 w_61 (show (parseMethodDescriptor (yX12_nextDay).desc).map (fun d => d.parameters.length) = some 3 by decide +kernel) ⟨by decide, by decide⟩ (rest := []) (stk2 := [.int v7]) (by rw [g7]; rfl) rfl (Nat.le_of_ble_eq_true rfl) hl dX12_sumOf_7 ?_
  refine v_istore C (i := 6) (lv' := [(6, .int v7), (4, .long 0), (0, va_rf (some x0)), (1, .int x1), (2, .int x2), (3, .int x3)]) hl (by decide) rfl dX12_sumOf_10 (fun ls hl => ?_)
  exact b_X12_sumOf_12 C (fun _ q => by cases q; rfl) FU hr _ (lv_sub hl [2, 3, 4, 5, 1, 0] rfl)
-- X12_sumNow
def f_X12_sumNow (S : St) (x0 : Nat) (x1 : Int32) (x2 : Int32) (x3 : Int32) : Option Int64 :=
    (rcv S (some x0) 13).bind fun b4 =>
    (f_X12_sumOf S b4 x1 x2 x3).bind fun v4 =>
    (if (0 : Int32) ≤ (lg_cmp v4 0) then
    some v4
    else
    some 0)
theorem k_X12_sumNow {l : Launch} {G : Ge} {S : St} {x0 : Nat} {x1 : Int32} {x2 : Int32} {x3 : Int32} {rr : Int64} (hr : f_X12_sumNow S x0 x1 x2 x3 = some rr) : Ct l G yX12_sumNow cX12_sumNow 6 (Option.some Jvm.ClassFile.FieldType.long) S [va_rf (some x0), .int x1, .int x2, .int x3] (some (.long rr)) S 2 56 := by
  refine ct_of (by decide +kernel) (Nat.le_of_ble_eq_true rfl) ?_
  intro p e s m args below meth c C ls hl
  have hl : lv_has ls 6 [(0, va_rf (some x0)), (1, .int x1), (2, .int x2), (3, .int x3)] := hl
  unfold f_X12_sumNow at hr
  refine v_aload_n C (lv_at hl 0 rfl) rfl dX12_sumNow_0 ?_
  refine v_iload_n C (lv_at hl 1 rfl) rfl dX12_sumNow_1 ?_
  refine v_iload_n C (lv_at hl 2 rfl) rfl dX12_sumNow_2 ?_
  refine v_iload_n C (lv_at hl 3 rfl) rfl dX12_sumNow_3 ?_
  obtain ⟨b4, f4, hr⟩ := ob hr
  obtain ⟨g4, h4⟩ := rcv_n f4
  obtain ⟨v4, e4, hr⟩ := ob hr
  refine v_callV C (b := b4) h4 (by decide) rfl rfl (k_X12_sumOf e4) cw_X12_sumOf w_1635 w_1637 w_60 (show (parseMethodDescriptor (yX12_sumOf).desc).map (fun d => d.parameters.length) = some 3 by decide +kernel) ⟨by decide, by decide⟩ (rest := []) (stk2 := [.long v4]) (by rw [g4]; rfl) rfl (Nat.le_of_ble_eq_true rfl) hl dX12_sumNow_4 ?_
  refine v_lstore C (i := 4) (lv' := [(4, .long v4), (0, va_rf (some x0)), (1, .int x1), (2, .int x2), (3, .int x3)]) hl (by decide) rfl dX12_sumNow_7 (fun ls hl => ?_)
  refine v_lload C (lv_at hl 0 rfl) dX12_sumNow_9 ?_
  refine v_lconst C 0 (by decide) dX12_sumNow_11 ?_
  refine v_lcmp C dX12_sumNow_12 ?_
  refine v_if_ge C 20 (by decide) dX12_sumNow_13 (fun c13 => ?_) (fun c13 => ?_)
  · rw [if_pos c13] at hr
    refine v_lload C (lv_at hl 0 rfl) dX12_sumNow_20 ?_
    obtain rfl := os hr
    exact v_lret C dX12_sumNow_22
  · rw [if_neg c13] at hr
    refine v_lconst C 0 (by decide) dX12_sumNow_16 ?_
    refine v_goto C 22 (by decide) dX12_sumNow_17 ?_
    obtain rfl := os hr
    exact v_lret C dX12_sumNow_22
-- X12_report
def f_X12_report_26 : Nat → St → Nat → Int32 → Int32 → Int32 → Option ((Int32 × St))
  | 0, _, _, _, _, _ => none
  | n + 1, S, x0, x1, x2, x3 =>
    (getI S (some x0) 13 3).bind fun v28 =>
    (if v28 ≤ x3 then
    some (x2, S)
    else
    (getR S (some x0) 13 56).bind fun v35 =>
    (ldI S v35 15 x3).bind fun v39 =>
    (if v39 = (-1) then
    (getR S (some x0) 13 14).bind fun v46 =>
    (ldI S v46 15 x3).bind fun v50 =>
    (getI S (some x0) 13 0).bind fun v52 =>
    (rcv S (some x0) 13).bind fun b55 =>
    (f_X12_firmOf S b55 v50 v52).bind fun v55 =>
    (if v55 = x1 then
    (getI S (some x0) 13 0).bind fun v65 =>
    (rcv S (some x0) 13).bind fun b68 =>
    (f_X12_sleepOf S b68 x3 v65).bind fun v68 =>
    (getI S (some x0) 13 0).bind fun v72 =>
    (if v68 ≤ v72 then
    (getR S (some x0) 13 56).bind fun v82 =>
    (getI S (some x0) 13 0).bind fun v89 =>
    (rcv S (some x0) 13).bind fun b92 =>
    (f_X12_owedTo S b92 x3 v89).bind fun v92 =>
    (stI S v82 15 x3 v92).bind fun S95 =>
    (getR S95 (some x0) 13 57).bind fun v97 =>
    (getI S95 (some x0) 13 0).bind fun v102 =>
    (stI S95 v97 15 x3 v102).bind fun S105 =>
    (getR S105 (some x0) 13 58).bind fun v107 =>
    (getI S105 (some x0) 13 0).bind fun v112 =>
    (getI S105 (some x0) 13 0).bind fun v118 =>
    (rcv S105 (some x0) 13).bind fun b121 =>
    (f_X12_sleepOf S105 b121 x3 v118).bind fun v121 =>
    (stI S105 v107 15 x3 (v112 - v121)).bind fun S125 =>
    (getR S125 (some x0) 13 59).bind fun v127 =>
    (getI S125 (some x0) 13 0).bind fun v134 =>
    (getI S125 (some x0) 13 0).bind fun v138 =>
    (rcv S125 (some x0) 13).bind fun b141 =>
    (f_X12_sumNow S125 b141 x3 v134 v138).bind fun v141 =>
    (stL S125 v127 x3 v141).bind fun S144 =>
    f_X12_report_26 n S144 x0 x1 (x2 + 1) (x3 + 1)
    else
    f_X12_report_26 n S x0 x1 x2 (x3 + 1))
    else
    f_X12_report_26 n S x0 x1 x2 (x3 + 1))
    else
    f_X12_report_26 n S x0 x1 x2 (x3 + 1)))
def f_X12_report (S : St) (x0 : Nat) (x1 : Int32) : Option (Int32 × St) :=
    (rcv S (some x0) 13).bind fun b2 =>
    (f_X12_isFirm S b2 x1).bind fun v2 =>
    (if v2 = 0 then
    some ((-1), S)
    else
    (getI S (some x0) 13 0).bind fun v11 =>
    (rcv S (some x0) 13).bind fun b14 =>
    (f_X12_isMerged S b14 x1 v11).bind fun v14 =>
    (if v14 = 0 then
    f_X12_report_26 FU S x0 x1 0 0
    else
    some ((-1), S)))
theorem b_X12_report_26  {S0 S' : St} {rr : Int32} (C : Cx p s m args meth c G S0 yX12_report cX12_report 4 (Option.some Jvm.ClassFile.FieldType.int)) {o : ((Int32 × St))} (kR : ∀ (v : Int32) (Z : St), o = (v, Z) → rr = v ∧ S' = Z) : ∀ (n : Nat) {S : St} {x0 : Nat} {x1 : Int32} {x2 : Int32} {x3 : Int32}, f_X12_report_26 n S x0 x1 x2 x3 = some o → ∀ ls : Array Slot, lv_has ls 4 [(0, va_rf (some x0)), (1, .int x1), (2, .int x2), (3, .int x3)] → V p l e (rmo 4 92 S0) s m args below meth c G S0 S (QM below args s G S0 S' (some (.int rr))) (F0 m 26 ls []) := by
  intro n
  induction n with
  | zero => intro S x0 x1 x2 x3 hr; cases hr
  | succ n ih =>
    intro S x0 x1 x2 x3 hr ls hl
    unfold f_X12_report_26 at hr
    refine v_iload_n C (lv_at hl 3 rfl) rfl dX12_report_26 ?_
    refine v_aload_n C (lv_at hl 0 rfl) rfl dX12_report_27 ?_
    obtain ⟨v28, e28, hr⟩ := ob hr
    refine v_getI C fl_RX12_210 rfl e28 dX12_report_28 ?_
    refine v_icmp_ge C 154 (by decide) dX12_report_31 (fun c31 => ?_) (fun c31 => ?_)
    · rw [if_pos c31] at hr
      refine v_iload_n C (lv_at hl 2 rfl) rfl dX12_report_154 ?_
      obtain rfl := os hr
      obtain ⟨rfl, rfl⟩ := kR _ _ rfl
      exact v_iret C dX12_report_155
    · rw [if_neg c31] at hr
      refine v_aload_n C (lv_at hl 0 rfl) rfl dX12_report_34 ?_
      obtain ⟨v35, e35, hr⟩ := ob hr
      refine v_getR C fl_RX12_128 rfl e35 dX12_report_35 ?_
      refine v_iload_n C (lv_at hl 3 rfl) rfl dX12_report_38 ?_
      obtain ⟨v39, e39, hr⟩ := ob hr
      refine v_ldI_i C e39 dX12_report_39 ?_
      refine v_iconst C (-1) (by decide) dX12_report_40 ?_
      refine v_icmp_ne C 148 (by decide) dX12_report_41 (fun c41 => ?_) (fun c41 => ?_)
      · rw [if_neg c41] at hr
        refine v_iinc C (x3 + 1) (k0 := 3) (lv' := [(3, .int (x3 + 1)), (0, va_rf (some x0)), (1, .int x1), (2, .int x2)]) hl rfl rfl (by decide) rfl dX12_report_148 (fun ls hl => ?_)
        refine v_goto C 26 (by decide) dX12_report_151 ?_
        exact ih hr _ (lv_sub hl [1, 2, 3, 0] rfl)
      · rw [if_pos c41] at hr
        refine v_aload_n C (lv_at hl 0 rfl) rfl dX12_report_44 ?_
        refine v_aload_n C (lv_at hl 0 rfl) rfl dX12_report_45 ?_
        obtain ⟨v46, e46, hr⟩ := ob hr
        refine v_getR C fl_RX12_37 rfl e46 dX12_report_46 ?_
        refine v_iload_n C (lv_at hl 3 rfl) rfl dX12_report_49 ?_
        obtain ⟨v50, e50, hr⟩ := ob hr
        refine v_ldI_i C e50 dX12_report_50 ?_
        refine v_aload_n C (lv_at hl 0 rfl) rfl dX12_report_51 ?_
        obtain ⟨v52, e52, hr⟩ := ob hr
        refine v_getI C fl_RX12_197 rfl e52 dX12_report_52 ?_
        obtain ⟨b55, f55, hr⟩ := ob hr
        obtain ⟨g55, h55⟩ := rcv_n f55
        obtain ⟨v55, e55, hr⟩ := ob hr
        refine v_callV C (b := b55) h55 (by decide) rfl rfl (k_X12_firmOf e55) cw_X12_firmOf w_1585 w_1587 w_55 (show (parseMethodDescriptor (yX12_firmOf).desc).map (fun d => d.parameters.length) = some 2 by decide +kernel) ⟨by decide, by decide⟩ (rest := []) (stk2 := [.int v55]) (by rw [g55]; rfl) rfl (Nat.le_of_ble_eq_true rfl) hl dX12_report_55 ?_
        refine v_iload_n C (lv_at hl 1 rfl) rfl dX12_report_58 ?_
        refine v_icmp_ne C 148 (by decide) dX12_report_59 (fun c59 => ?_) (fun c59 => ?_)
        · rw [if_neg c59] at hr
          refine v_iinc C (x3 + 1) (k0 := 3) (lv' := [(3, .int (x3 + 1)), (0, va_rf (some x0)), (1, .int x1), (2, .int x2)]) hl rfl rfl (by decide) rfl dX12_report_148 (fun ls hl => ?_)
          refine v_goto C 26 (by decide) dX12_report_151 ?_
          exact ih hr _ (lv_sub hl [1, 2, 3, 0] rfl)
        · rw [if_pos c59] at hr
          refine v_aload_n C (lv_at hl 0 rfl) rfl dX12_report_62 ?_
          refine v_iload_n C (lv_at hl 3 rfl) rfl dX12_report_63 ?_
          refine v_aload_n C (lv_at hl 0 rfl) rfl dX12_report_64 ?_
          obtain ⟨v65, e65, hr⟩ := ob hr
          refine v_getI C fl_RX12_197 rfl e65 dX12_report_65 ?_
          obtain ⟨b68, f68, hr⟩ := ob hr
          obtain ⟨g68, h68⟩ := rcv_n f68
          obtain ⟨v68, e68, hr⟩ := ob hr
          refine v_callV C (b := b68) h68 (by decide) rfl rfl (k_X12_sleepOf e68) cw_X12_sleepOf w_1771 w_1773 w_82 (show (parseMethodDescriptor (yX12_sleepOf).desc).map (fun d => d.parameters.length) = some 2 by decide +kernel) ⟨by decide, by decide⟩ (rest := []) (stk2 := [.int v68]) (by rw [g68]; rfl) rfl (Nat.le_of_ble_eq_true rfl) hl dX12_report_68 ?_
          refine v_aload_n C (lv_at hl 0 rfl) rfl dX12_report_71 ?_
          obtain ⟨v72, e72, hr⟩ := ob hr
          refine v_getI C fl_RX12_197 rfl e72 dX12_report_72 ?_
          refine v_icmp_le C 81 (by decide) dX12_report_75 (fun c75 => ?_) (fun c75 => ?_)
          · rw [if_pos c75] at hr
            refine v_aload_n C (lv_at hl 0 rfl) rfl dX12_report_81 ?_
            obtain ⟨v82, e82, hr⟩ := ob hr
            refine v_getR C fl_RX12_128 rfl e82 dX12_report_82 ?_
            refine v_iload_n C (lv_at hl 3 rfl) rfl dX12_report_85 ?_
            refine v_aload_n C (lv_at hl 0 rfl) rfl dX12_report_86 ?_
            refine v_iload_n C (lv_at hl 3 rfl) rfl dX12_report_87 ?_
            refine v_aload_n C (lv_at hl 0 rfl) rfl dX12_report_88 ?_
            obtain ⟨v89, e89, hr⟩ := ob hr
            refine v_getI C fl_RX12_197 rfl e89 dX12_report_89 ?_
            obtain ⟨b92, f92, hr⟩ := ob hr
            obtain ⟨g92, h92⟩ := rcv_n f92
            obtain ⟨v92, e92, hr⟩ := ob hr
            refine v_callV C (b := b92) h92 (by decide) rfl rfl (k_X12_owedTo e92) cw_X12_owedTo w_1767 w_1769 w_81 (show (parseMethodDescriptor (yX12_owedTo).desc).map (fun d => d.parameters.length) = some 2 by decide +kernel) ⟨by decide, by decide⟩ (rest := [.int x3, va_rf v82]) (stk2 := [.int v92, .int x3, va_rf v82]) (by rw [g92]; rfl) rfl (by simp [rf_cat, cat_i, cat_l]) hl dX12_report_92 ?_
            obtain ⟨S95, e95, hr⟩ := ob hr
            refine v_stI_i C e95 dX12_report_95 ?_
            refine v_aload_n C (lv_at hl 0 rfl) rfl dX12_report_96 ?_
            obtain ⟨v97, e97, hr⟩ := ob hr
            refine v_getR C fl_RX12_131 rfl e97 dX12_report_97 ?_
            refine v_iload_n C (lv_at hl 3 rfl) rfl dX12_report_100 ?_
            refine v_aload_n C (lv_at hl 0 rfl) rfl dX12_report_101 ?_
            obtain ⟨v102, e102, hr⟩ := ob hr
            refine v_getI C fl_RX12_197 rfl e102 dX12_report_102 ?_
            obtain ⟨S105, e105, hr⟩ := ob hr
            refine v_stI_i C e105 dX12_report_105 ?_
            refine v_aload_n C (lv_at hl 0 rfl) rfl dX12_report_106 ?_
            obtain ⟨v107, e107, hr⟩ := ob hr
            refine v_getR C fl_RX12_134 rfl e107 dX12_report_107 ?_
            refine v_iload_n C (lv_at hl 3 rfl) rfl dX12_report_110 ?_
            refine v_aload_n C (lv_at hl 0 rfl) rfl dX12_report_111 ?_
            obtain ⟨v112, e112, hr⟩ := ob hr
            refine v_getI C fl_RX12_197 rfl e112 dX12_report_112 ?_
            refine v_aload_n C (lv_at hl 0 rfl) rfl dX12_report_115 ?_
            refine v_iload_n C (lv_at hl 3 rfl) rfl dX12_report_116 ?_
            refine v_aload_n C (lv_at hl 0 rfl) rfl dX12_report_117 ?_
            obtain ⟨v118, e118, hr⟩ := ob hr
            refine v_getI C fl_RX12_197 rfl e118 dX12_report_118 ?_
            obtain ⟨b121, f121, hr⟩ := ob hr
            obtain ⟨g121, h121⟩ := rcv_n f121
            obtain ⟨v121, e121, hr⟩ := ob hr
            refine v_callV C (b := b121) h121 (by decide) rfl rfl (k_X12_sleepOf e121) cw_X12_sleepOf w_1771 w_1773 w_82 (show (parseMethodDescriptor (yX12_sleepOf).desc).map (fun d => d.parameters.length) = some 2 by decide +kernel) ⟨by decide, by decide⟩ (rest := [.int v112, .int x3, va_rf v107]) (stk2 := [.int v121, .int v112, .int x3, va_rf v107]) (by rw [g121]; rfl) rfl (by simp [rf_cat, cat_i, cat_l]) hl dX12_report_121 ?_
            refine v_isub C dX12_report_124 ?_
            obtain ⟨S125, e125, hr⟩ := ob hr
            refine v_stI_i C e125 dX12_report_125 ?_
            refine v_aload_n C (lv_at hl 0 rfl) rfl dX12_report_126 ?_
            obtain ⟨v127, e127, hr⟩ := ob hr
            refine v_getR C fl_RX12_137 rfl e127 dX12_report_127 ?_
            refine v_iload_n C (lv_at hl 3 rfl) rfl dX12_report_130 ?_
            refine v_aload_n C (lv_at hl 0 rfl) rfl dX12_report_131 ?_
            refine v_iload_n C (lv_at hl 3 rfl) rfl dX12_report_132 ?_
            refine v_aload_n C (lv_at hl 0 rfl) rfl dX12_report_133 ?_
            obtain ⟨v134, e134, hr⟩ := ob hr
            refine v_getI C fl_RX12_197 rfl e134 dX12_report_134 ?_
            refine v_aload_n C (lv_at hl 0 rfl) rfl dX12_report_137 ?_
            obtain ⟨v138, e138, hr⟩ := ob hr
            refine v_getI C fl_RX12_197 rfl e138 dX12_report_138 ?_
            obtain ⟨b141, f141, hr⟩ := ob hr
            obtain ⟨g141, h141⟩ := rcv_n f141
            obtain ⟨v141, e141, hr⟩ := ob hr
            refine v_callV C (b := b141) h141 (by decide) rfl rfl (k_X12_sumNow e141) cw_X12_sumNow w_1631 w_1633 w_59 (show (parseMethodDescriptor (yX12_sumNow).desc).map (fun d => d.parameters.length) = some 3 by decide +kernel) ⟨by decide, by decide⟩ (rest := [.int x3, va_rf v127]) (stk2 := [.long v141, .int x3, va_rf v127]) (by rw [g141]; rfl) rfl (by simp [rf_cat, cat_i, cat_l]) hl dX12_report_141 ?_
            obtain ⟨S144, e144, hr⟩ := ob hr
            refine v_stL C e144 dX12_report_144 ?_
            refine v_iinc C (x2 + 1) (k0 := 2) (lv' := [(2, .int (x2 + 1)), (0, va_rf (some x0)), (1, .int x1), (3, .int x3)]) hl rfl rfl (by decide) rfl dX12_report_145 (fun ls hl => ?_)
            refine v_iinc C (x3 + 1) (k0 := 3) (lv' := [(3, .int (x3 + 1)), (2, .int (x2 + 1)), (0, va_rf (some x0)), (1, .int x1)]) hl rfl rfl (by decide) rfl dX12_report_148 (fun ls hl => ?_)
            refine v_goto C 26 (by decide) dX12_report_151 ?_
            exact ih hr _ (lv_sub hl [2, 3, 1, 0] rfl)
          · rw [if_neg c75] at hr
            refine v_goto C 148 (by decide) dX12_report_78 ?_
            refine v_iinc C (x3 + 1) (k0 := 3) (lv' := [(3, .int (x3 + 1)), (0, va_rf (some x0)), (1, .int x1), (2, .int x2)]) hl rfl rfl (by decide) rfl dX12_report_148 (fun ls hl => ?_)
            refine v_goto C 26 (by decide) dX12_report_151 ?_
            exact ih hr _ (lv_sub hl [1, 2, 3, 0] rfl)
theorem k_X12_report {l : Launch} {G : Ge} {S S' : St} {x0 : Nat} {x1 : Int32} {rr : Int32} (hr : f_X12_report S x0 x1 = some (rr, S')) : Ct l G yX12_report cX12_report 4 (Option.some Jvm.ClassFile.FieldType.int) S [va_rf (some x0), .int x1] (some (.int rr)) S' 4 92 := by
  refine ct_of (by decide +kernel) (Nat.le_of_ble_eq_true rfl) ?_
  intro p e s m args below meth c C ls hl
  have hl : lv_has ls 4 [(0, va_rf (some x0)), (1, .int x1)] := hl
  unfold f_X12_report at hr
  refine v_aload_n C (lv_at hl 0 rfl) rfl dX12_report_0 ?_
  refine v_iload_n C (lv_at hl 1 rfl) rfl dX12_report_1 ?_
  obtain ⟨b2, f2, hr⟩ := ob hr
  obtain ⟨g2, h2⟩ := rcv_n f2
  obtain ⟨v2, e2, hr⟩ := ob hr
  refine v_callV C (b := b2) h2 (by decide) rfl rfl (k_X12_isFirm e2) cw_X12_isFirm w_1569 w_1571 w_52 (show (parseMethodDescriptor (yX12_isFirm).desc).map (fun d => d.parameters.length) = some 1 by decide +kernel) ⟨by decide, by decide⟩ (rest := []) (stk2 := [.int v2]) (by rw [g2]; rfl) rfl (Nat.le_of_ble_eq_true rfl) hl dX12_report_2 ?_
  refine v_if_eq C 20 (by decide) dX12_report_5 (fun c5 => ?_) (fun c5 => ?_)
  · rw [if_pos c5] at hr
    refine v_iconst C (-1) (by decide) dX12_report_20 ?_
    obtain ⟨rfl, rfl⟩ := Prod.mk.inj (os hr)
    exact v_iret C dX12_report_21
  · rw [if_neg c5] at hr
    refine v_aload_n C (lv_at hl 0 rfl) rfl dX12_report_8 ?_
    refine v_iload_n C (lv_at hl 1 rfl) rfl dX12_report_9 ?_
    refine v_aload_n C (lv_at hl 0 rfl) rfl dX12_report_10 ?_
    obtain ⟨v11, e11, hr⟩ := ob hr
    refine v_getI C fl_RX12_197 rfl e11 dX12_report_11 ?_
    obtain ⟨b14, f14, hr⟩ := ob hr
    obtain ⟨g14, h14⟩ := rcv_n f14
    obtain ⟨v14, e14, hr⟩ := ob hr
    refine v_callV C (b := b14) h14 (by decide) rfl rfl (k_X12_isMerged e14) cw_X12_isMerged w_1577 w_1579 w_54 (show (parseMethodDescriptor (yX12_isMerged).desc).map (fun d => d.parameters.length) = some 2 by decide +kernel) ⟨by decide, by decide⟩ (rest := []) (stk2 := [.int v14]) (by rw [g14]; rfl) rfl (Nat.le_of_ble_eq_true rfl) hl dX12_report_14 ?_
    refine v_if_eq C 22 (by decide) dX12_report_17 (fun c17 => ?_) (fun c17 => ?_)
    · rw [if_pos c17] at hr
      refine v_iconst C 0 (by decide) dX12_report_22 ?_
      refine v_istore_n C (i := 2) (lv' := [(2, .int 0), (0, va_rf (some x0)), (1, .int x1)]) hl rfl (by decide) rfl dX12_report_23 (fun ls hl => ?_)
      refine v_iconst C 0 (by decide) dX12_report_24 ?_
      refine v_istore_n C (i := 3) (lv' := [(3, .int 0), (2, .int 0), (0, va_rf (some x0)), (1, .int x1)]) hl rfl (by decide) rfl dX12_report_25 (fun ls hl => ?_)
      exact b_X12_report_26 C (fun _ _ q => by cases q; exact ⟨rfl, rfl⟩) FU hr _ (lv_sub hl [2, 3, 1, 0] rfl)
    · rw [if_neg c17] at hr
      refine v_iconst C (-1) (by decide) dX12_report_20 ?_
      obtain ⟨rfl, rfl⟩ := Prod.mk.inj (os hr)
      exact v_iret C dX12_report_21
-- X12_share
def f_X12_share (S : St) (x0 : Nat) (x1 : Int32) (x2 : Int32) (x3 : Int32) : Option (Int64 × St) :=
    (rcv S (some x0) 13).bind fun b2 =>
    (f_X12_isPerson S b2 x1).bind fun v2 =>
    (if v2 = 0 then
    some ((-1), S)
    else
    (getR S (some x0) 13 13).bind fun v9 =>
    (ldI S v9 15 x1).bind fun v13 =>
    (if v13 = (-1) then
    some ((-1), S)
    else
    (rcv S (some x0) 13).bind fun b20 =>
    (f_X12_isPerson S b20 x2).bind fun v20 =>
    (if v20 = 0 then
    some ((-1), S)
    else
    (f_X12_isIn S x3 0 1).bind fun v29 =>
    (if v29 = 0 then
    some ((-1), S)
    else
    (rcv S (some x0) 13).bind fun b41 =>
    (f_X12_shares S b41 x1).bind fun S41 =>
    (getR S41 (some x0) 13 67).bind fun v45 =>
    (ldL S41 v45 x2).bind fun v49 =>
    (getR S41 (some x0) 13 68).bind fun v51 =>
    (ldL S41 v51 x2).bind fun v55 =>
    (f_X12_common S41 v49 v55).bind fun v56 =>
    (if x3 = 0 then
    (getR S41 (some x0) 13 67).bind fun v66 =>
    (ldL S41 v66 x2).bind fun v70 =>
    (divL v70 v56).bind fun v73 =>
    some (v73, S41)
    else
    (getR S41 (some x0) 13 68).bind fun v78 =>
    (ldL S41 v78 x2).bind fun v82 =>
    (divL v82 v56).bind fun v85 =>
    some (v85, S41))))))
theorem k_X12_share {l : Launch} {G : Ge} {S S' : St} {x0 : Nat} {x1 : Int32} {x2 : Int32} {x3 : Int32} {rr : Int64} (hr : f_X12_share S x0 x1 x2 x3 = some (rr, S')) : Ct l G yX12_share cX12_share 6 (Option.some Jvm.ClassFile.FieldType.long) S [va_rf (some x0), .int x1, .int x2, .int x3] (some (.long rr)) S' 2 47 := by
  refine ct_of (by decide +kernel) (Nat.le_of_ble_eq_true rfl) ?_
  intro p e s m args below meth c C ls hl
  have hl : lv_has ls 6 [(0, va_rf (some x0)), (1, .int x1), (2, .int x2), (3, .int x3)] := hl
  unfold f_X12_share at hr
  refine v_aload_n C (lv_at hl 0 rfl) rfl dX12_share_0 ?_
  refine v_iload_n C (lv_at hl 1 rfl) rfl dX12_share_1 ?_
  obtain ⟨b2, f2, hr⟩ := ob hr
  obtain ⟨g2, h2⟩ := rcv_n f2
  obtain ⟨v2, e2, hr⟩ := ob hr
  refine v_callV C (b := b2) h2 (by decide) rfl rfl (k_X12_isPerson e2) cw_X12_isPerson w_1593 w_1595 w_56 (show (parseMethodDescriptor (yX12_isPerson).desc).map (fun d => d.parameters.length) = some 1 by decide +kernel) ⟨by decide, by decide⟩ (rest := []) (stk2 := [.int v2]) (by rw [g2]; rfl) rfl (Nat.le_of_ble_eq_true rfl) hl dX12_share_2 ?_
  refine v_if_eq C 35 (by decide) dX12_share_5 (fun c5 => ?_) (fun c5 => ?_)
  · rw [if_pos c5] at hr
    refine v_ldc2 C w_1643 dX12_share_35 ?_
    obtain ⟨rfl, rfl⟩ := Prod.mk.inj (os hr)
    exact v_lret C dX12_share_38
  · rw [if_neg c5] at hr
    refine v_aload_n C (lv_at hl 0 rfl) rfl dX12_share_8 ?_
    obtain ⟨v9, e9, hr⟩ := ob hr
    refine v_getR C fl_RX12_34 rfl e9 dX12_share_9 ?_
    refine v_iload_n C (lv_at hl 1 rfl) rfl dX12_share_12 ?_
    obtain ⟨v13, e13, hr⟩ := ob hr
    refine v_ldI_i C e13 dX12_share_13 ?_
    refine v_iconst C (-1) (by decide) dX12_share_14 ?_
    refine v_icmp_eq C 35 (by decide) dX12_share_15 (fun c15 => ?_) (fun c15 => ?_)
    · rw [if_pos c15] at hr
      refine v_ldc2 C w_1643 dX12_share_35 ?_
      obtain ⟨rfl, rfl⟩ := Prod.mk.inj (os hr)
      exact v_lret C dX12_share_38
    · rw [if_neg c15] at hr
      refine v_aload_n C (lv_at hl 0 rfl) rfl dX12_share_18 ?_
      refine v_iload_n C (lv_at hl 2 rfl) rfl dX12_share_19 ?_
      obtain ⟨b20, f20, hr⟩ := ob hr
      obtain ⟨g20, h20⟩ := rcv_n f20
      obtain ⟨v20, e20, hr⟩ := ob hr
      refine v_callV C (b := b20) h20 (by decide) rfl rfl (k_X12_isPerson e20) cw_X12_isPerson w_1593 w_1595 w_56 (show (parseMethodDescriptor (yX12_isPerson).desc).map (fun d => d.parameters.length) = some 1 by decide +kernel) ⟨by decide, by decide⟩ (rest := []) (stk2 := [.int v20]) (by rw [g20]; rfl) rfl (Nat.le_of_ble_eq_true rfl) hl dX12_share_20 ?_
      refine v_if_eq C 35 (by decide) dX12_share_23 (fun c23 => ?_) (fun c23 => ?_)
      · rw [if_pos c23] at hr
        refine v_ldc2 C w_1643 dX12_share_35 ?_
        obtain ⟨rfl, rfl⟩ := Prod.mk.inj (os hr)
        exact v_lret C dX12_share_38
      · rw [if_neg c23] at hr
        refine v_iload_n C (lv_at hl 3 rfl) rfl dX12_share_26 ?_
        refine v_iconst C 0 (by decide) dX12_share_27 ?_
        refine v_iconst C 1 (by decide) dX12_share_28 ?_
        obtain ⟨v29, e29, hr⟩ := ob hr
        refine v_callS C (k_X12_isIn e29) cw_X12_isIn w_1555 w_1556 (show (parseMethodDescriptor (yX12_isIn).desc).map (fun d => d.parameters.length) = some 3 by decide +kernel) ⟨by decide, by decide⟩ (rest := []) (stk2 := [.int v29]) rfl rfl (Nat.le_of_ble_eq_true rfl) hl dX12_share_29 ?_
        refine v_if_ne C 39 (by decide) dX12_share_32 (fun c32 => ?_) (fun c32 => ?_)
        · rw [if_neg c32] at hr
          refine v_aload_n C (lv_at hl 0 rfl) rfl dX12_share_39 ?_
          refine v_iload_n C (lv_at hl 1 rfl) rfl dX12_share_40 ?_
          obtain ⟨b41, f41, hr⟩ := ob hr
          obtain ⟨g41, h41⟩ := rcv_n f41
          obtain ⟨S41, e41, hr⟩ := ob hr
          refine v_callV C (b := b41) h41 (by decide) rfl rfl (k_X12_shares e41) cw_X12_shares w_1849 w_1851 w_95 (show (parseMethodDescriptor (yX12_shares).desc).map (fun d => d.parameters.length) = some 1 by decide +kernel) ⟨by decide, by decide⟩ (rest := []) (stk2 := []) (by rw [g41]; rfl) rfl (Nat.le_of_ble_eq_true rfl) hl dX12_share_41 ?_
          refine v_aload_n C (lv_at hl 0 rfl) rfl dX12_share_44 ?_
          obtain ⟨v45, e45, hr⟩ := ob hr
          refine v_getR C fl_RX12_154 rfl e45 dX12_share_45 ?_
          refine v_iload_n C (lv_at hl 2 rfl) rfl dX12_share_48 ?_
          obtain ⟨v49, e49, hr⟩ := ob hr
          refine v_ldL C e49 dX12_share_49 ?_
          refine v_aload_n C (lv_at hl 0 rfl) rfl dX12_share_50 ?_
          obtain ⟨v51, e51, hr⟩ := ob hr
          refine v_getR C fl_RX12_157 rfl e51 dX12_share_51 ?_
          refine v_iload_n C (lv_at hl 2 rfl) rfl dX12_share_54 ?_
          obtain ⟨v55, e55, hr⟩ := ob hr
          refine v_ldL C e55 dX12_share_55 ?_
          obtain ⟨v56, e56, hr⟩ := ob hr
          refine v_callS C (k_X12_common e56) cw_X12_common w_1861 w_1862 (show (parseMethodDescriptor (yX12_common).desc).map (fun d => d.parameters.length) = some 2 by decide +kernel) ⟨by decide, by decide⟩ (rest := []) (stk2 := [.long v56]) rfl rfl (Nat.le_of_ble_eq_true rfl) hl dX12_share_56 ?_
          refine v_lstore C (i := 4) (lv' := [(4, .long v56), (0, va_rf (some x0)), (1, .int x1), (2, .int x2), (3, .int x3)]) hl (by decide) rfl dX12_share_59 (fun ls hl => ?_)
          refine v_iload_n C (lv_at hl 4 rfl) rfl dX12_share_61 ?_
          refine v_if_ne C 77 (by decide) dX12_share_62 (fun c62 => ?_) (fun c62 => ?_)
          · rw [if_neg c62] at hr
            refine v_aload_n C (lv_at hl 1 rfl) rfl dX12_share_77 ?_
            obtain ⟨v78, e78, hr⟩ := ob hr
            refine v_getR C fl_RX12_157 rfl e78 dX12_share_78 ?_
            refine v_iload_n C (lv_at hl 3 rfl) rfl dX12_share_81 ?_
            obtain ⟨v82, e82, hr⟩ := ob hr
            refine v_ldL C e82 dX12_share_82 ?_
            refine v_lload C (lv_at hl 0 rfl) dX12_share_83 ?_
            obtain ⟨v85, e85, hr⟩ := ob hr
            refine v_ldiv C e85 dX12_share_85 ?_
            obtain ⟨rfl, rfl⟩ := Prod.mk.inj (os hr)
            exact v_lret C dX12_share_86
          · rw [if_pos c62] at hr
            refine v_aload_n C (lv_at hl 1 rfl) rfl dX12_share_65 ?_
            obtain ⟨v66, e66, hr⟩ := ob hr
            refine v_getR C fl_RX12_154 rfl e66 dX12_share_66 ?_
            refine v_iload_n C (lv_at hl 3 rfl) rfl dX12_share_69 ?_
            obtain ⟨v70, e70, hr⟩ := ob hr
            refine v_ldL C e70 dX12_share_70 ?_
            refine v_lload C (lv_at hl 0 rfl) dX12_share_71 ?_
            obtain ⟨v73, e73, hr⟩ := ob hr
            refine v_ldiv C e73 dX12_share_73 ?_
            refine v_goto C 86 (by decide) dX12_share_74 ?_
            obtain ⟨rfl, rfl⟩ := Prod.mk.inj (os hr)
            exact v_lret C dX12_share_86
        · rw [if_pos c32] at hr
          refine v_ldc2 C w_1643 dX12_share_35 ?_
          obtain ⟨rfl, rfl⟩ := Prod.mk.inj (os hr)
          exact v_lret C dX12_share_38
-- X12_sleep
def f_X12_sleep_25 (S : St)  : Option Int32 :=
    some (-100000)
def f_X12_sleep (S : St) (x0 : Nat) (x1 : Int32) (x2 : Int32) (x3 : Int32) : Option Int32 :=
    (rcv S (some x0) 13).bind fun b2 =>
    (f_X12_isAccount S b2 x1).bind fun v2 =>
    (if v2 = 0 then
    f_X12_sleep_25 S
    else
    (rcv S (some x0) 13).bind fun b10 =>
    (f_X12_isPast S b10 x2).bind fun v10 =>
    (if v10 = 0 then
    f_X12_sleep_25 S
    else
    (f_X12_isIn S x3 0 3).bind fun v19 =>
    (if v19 = 0 then
    f_X12_sleep_25 S
    else
    (rcv S (some x0) 13).bind fun b32 =>
    (f_X12_owedTo S b32 x1 x2).bind fun v32 =>
    (rcv S (some x0) 13).bind fun b40 =>
    (f_X12_sleepOf S b40 x1 x2).bind fun v40 =>
    (if x3 = 0 then
    some v40
    else
    (if x3 = 1 then
    (getR S (some x0) 13 26).bind fun v62 =>
    (ldI S v62 15 v32).bind fun v67 =>
    some (v40 - v67)
    else
    (if x3 = 2 then
    (if x2 < v40 then
    some 0
    else
    some 1)
    else
    some v32))))))
theorem b_X12_sleep_25  {S : St} {rr : Int32}  (C : Cx p s m args meth c G S yX12_sleep cX12_sleep 6 (Option.some Jvm.ClassFile.FieldType.int)) (hr : f_X12_sleep_25 S = some rr) : ∀ ls : Array Slot, lv_has ls 6 [] → V p l e (rmo 4 92 S) s m args below meth c G S S (QM below args s G S S (some (.int rr))) (F0 m 25 ls []) := by
  intro ls hl
  unfold f_X12_sleep_25 at hr
  refine v_ldcw C w_1766 dX12_sleep_25 ?_
  obtain rfl := os hr
  exact v_iret C dX12_sleep_28
theorem k_X12_sleep {l : Launch} {G : Ge} {S : St} {x0 : Nat} {x1 : Int32} {x2 : Int32} {x3 : Int32} {rr : Int32} (hr : f_X12_sleep S x0 x1 x2 x3 = some rr) : Ct l G yX12_sleep cX12_sleep 6 (Option.some Jvm.ClassFile.FieldType.int) S [va_rf (some x0), .int x1, .int x2, .int x3] (some (.int rr)) S 4 92 := by
  refine ct_of (by decide +kernel) (Nat.le_of_ble_eq_true rfl) ?_
  intro p e s m args below meth c C ls hl
  have hl : lv_has ls 6 [(0, va_rf (some x0)), (1, .int x1), (2, .int x2), (3, .int x3)] := hl
  unfold f_X12_sleep at hr
  refine v_aload_n C (lv_at hl 0 rfl) rfl dX12_sleep_0 ?_
  refine v_iload_n C (lv_at hl 1 rfl) rfl dX12_sleep_1 ?_
  obtain ⟨b2, f2, hr⟩ := ob hr
  obtain ⟨g2, h2⟩ := rcv_n f2
  obtain ⟨v2, e2, hr⟩ := ob hr
  refine v_callV C (b := b2) h2 (by decide) rfl rfl (k_X12_isAccount e2) cw_X12_isAccount w_1613 w_1615 w_57 (show (parseMethodDescriptor (yX12_isAccount).desc).map (fun d => d.parameters.length) = some 1 by decide +kernel) ⟨by decide, by decide⟩ (rest := []) (stk2 := [.int v2]) (by rw [g2]; rfl) rfl (Nat.le_of_ble_eq_true rfl) hl dX12_sleep_2 ?_
  refine v_if_eq C 25 (by decide) dX12_sleep_5 (fun c5 => ?_) (fun c5 => ?_)
  · rw [if_pos c5] at hr
    exact b_X12_sleep_25 C hr _ (lv_sub hl [] rfl)
  · rw [if_neg c5] at hr
    refine v_aload_n C (lv_at hl 0 rfl) rfl dX12_sleep_8 ?_
    refine v_iload_n C (lv_at hl 2 rfl) rfl dX12_sleep_9 ?_
    obtain ⟨b10, f10, hr⟩ := ob hr
    obtain ⟨g10, h10⟩ := rcv_n f10
    obtain ⟨v10, e10, hr⟩ := ob hr
    refine v_callV C (b := b10) h10 (by decide) rfl rfl (k_X12_isPast e10) cw_X12_isPast w_1573 w_1575 w_53 (show (parseMethodDescriptor (yX12_isPast).desc).map (fun d => d.parameters.length) = some 1 by decide +kernel) ⟨by decide, by decide⟩ (rest := []) (stk2 := [.int v10]) (by rw [g10]; rfl) rfl (Nat.le_of_ble_eq_true rfl) hl dX12_sleep_10 ?_
    refine v_if_eq C 25 (by decide) dX12_sleep_13 (fun c13 => ?_) (fun c13 => ?_)
    · rw [if_pos c13] at hr
      exact b_X12_sleep_25 C hr _ (lv_sub hl [] rfl)
    · rw [if_neg c13] at hr
      refine v_iload_n C (lv_at hl 3 rfl) rfl dX12_sleep_16 ?_
      refine v_iconst C 0 (by decide) dX12_sleep_17 ?_
      refine v_iconst C 3 (by decide) dX12_sleep_18 ?_
      obtain ⟨v19, e19, hr⟩ := ob hr
      refine v_callS C (k_X12_isIn e19) cw_X12_isIn w_1555 w_1556 (show (parseMethodDescriptor (yX12_isIn).desc).map (fun d => d.parameters.length) = some 3 by decide +kernel) ⟨by decide, by decide⟩ (rest := []) (stk2 := [.int v19]) rfl rfl (Nat.le_of_ble_eq_true rfl) hl dX12_sleep_19 ?_
      refine v_if_ne C 29 (by decide) dX12_sleep_22 (fun c22 => ?_) (fun c22 => ?_)
      · rw [if_neg c22] at hr
        refine v_aload_n C (lv_at hl 0 rfl) rfl dX12_sleep_29 ?_
        refine v_iload_n C (lv_at hl 1 rfl) rfl dX12_sleep_30 ?_
        refine v_iload_n C (lv_at hl 2 rfl) rfl dX12_sleep_31 ?_
        obtain ⟨b32, f32, hr⟩ := ob hr
        obtain ⟨g32, h32⟩ := rcv_n f32
        obtain ⟨v32, e32, hr⟩ := ob hr
        refine v_callV C (b := b32) h32 (by decide) rfl rfl (k_X12_owedTo e32) cw_X12_owedTo w_1767 w_1769 w_81 (show (parseMethodDescriptor (yX12_owedTo).desc).map (fun d => d.parameters.length) = some 2 by decide +kernel) ⟨by decide, by decide⟩ (rest := []) (stk2 := [.int v32]) (by rw [g32]; rfl) rfl (Nat.le_of_ble_eq_true rfl) hl dX12_sleep_32 ?_
        refine v_istore C (i := 4) (lv' := [(4, .int v32), (0, va_rf (some x0)), (1, .int x1), (2, .int x2), (3, .int x3)]) hl (by decide) rfl dX12_sleep_35 (fun ls hl => ?_)
        refine v_aload_n C (lv_at hl 1 rfl) rfl dX12_sleep_37 ?_
        refine v_iload_n C (lv_at hl 2 rfl) rfl dX12_sleep_38 ?_
        refine v_iload_n C (lv_at hl 3 rfl) rfl dX12_sleep_39 ?_
        obtain ⟨b40, f40, hr⟩ := ob hr
        obtain ⟨g40, h40⟩ := rcv_n f40
        obtain ⟨v40, e40, hr⟩ := ob hr
        refine v_callV C (b := b40) h40 (by decide) rfl rfl (k_X12_sleepOf e40) cw_X12_sleepOf w_1771 w_1773 w_82 (show (parseMethodDescriptor (yX12_sleepOf).desc).map (fun d => d.parameters.length) = some 2 by decide +kernel) ⟨by decide, by decide⟩ (rest := []) (stk2 := [.int v40]) (by rw [g40]; rfl) rfl (Nat.le_of_ble_eq_true rfl) hl dX12_sleep_40 ?_
        refine v_istore C (i := 5) (lv' := [(5, .int v40), (4, .int v32), (0, va_rf (some x0)), (1, .int x1), (2, .int x2), (3, .int x3)]) hl (by decide) rfl dX12_sleep_43 (fun ls hl => ?_)
        refine v_iload_n C (lv_at hl 5 rfl) rfl dX12_sleep_45 ?_
        refine v_if_ne C 54 (by decide) dX12_sleep_46 (fun c46 => ?_) (fun c46 => ?_)
        · rw [if_neg c46] at hr
          refine v_iload_n C (lv_at hl 5 rfl) rfl dX12_sleep_54 ?_
          refine v_iconst C 1 (by decide) dX12_sleep_55 ?_
          refine v_icmp_ne C 72 (by decide) dX12_sleep_56 (fun c56 => ?_) (fun c56 => ?_)
          · rw [if_neg c56] at hr
            refine v_iload_n C (lv_at hl 5 rfl) rfl dX12_sleep_72 ?_
            refine v_iconst C 2 (by decide) dX12_sleep_73 ?_
            refine v_icmp_ne C 91 (by decide) dX12_sleep_74 (fun c74 => ?_) (fun c74 => ?_)
            · rw [if_neg c74] at hr
              refine v_iload C (lv_at hl 1 rfl) dX12_sleep_91 ?_
              obtain rfl := os hr
              exact v_iret C dX12_sleep_93
            · rw [if_pos c74] at hr
              refine v_iload_n C (lv_at hl 4 rfl) rfl dX12_sleep_77 ?_
              refine v_iload C (lv_at hl 0 rfl) dX12_sleep_78 ?_
              refine v_icmp_lt C 87 (by decide) dX12_sleep_80 (fun c80 => ?_) (fun c80 => ?_)
              · rw [if_pos c80] at hr
                refine v_iconst C 0 (by decide) dX12_sleep_87 ?_
                refine v_goto C 93 (by decide) dX12_sleep_88 ?_
                obtain rfl := os hr
                exact v_iret C dX12_sleep_93
              · rw [if_neg c80] at hr
                refine v_iconst C 1 (by decide) dX12_sleep_83 ?_
                refine v_goto C 93 (by decide) dX12_sleep_84 ?_
                obtain rfl := os hr
                exact v_iret C dX12_sleep_93
          · rw [if_pos c56] at hr
            refine v_iload C (lv_at hl 0 rfl) dX12_sleep_59 ?_
            refine v_aload_n C (lv_at hl 2 rfl) rfl dX12_sleep_61 ?_
            obtain ⟨v62, e62, hr⟩ := ob hr
            refine v_getR C fl_RX12_73 rfl e62 dX12_sleep_62 ?_
            refine v_iload C (lv_at hl 1 rfl) dX12_sleep_65 ?_
            obtain ⟨v67, e67, hr⟩ := ob hr
            refine v_ldI_i C e67 dX12_sleep_67 ?_
            refine v_isub C dX12_sleep_68 ?_
            refine v_goto C 93 (by decide) dX12_sleep_69 ?_
            obtain rfl := os hr
            exact v_iret C dX12_sleep_93
        · rw [if_pos c46] at hr
          refine v_iload C (lv_at hl 0 rfl) dX12_sleep_49 ?_
          refine v_goto C 93 (by decide) dX12_sleep_51 ?_
          obtain rfl := os hr
          exact v_iret C dX12_sleep_93
      · rw [if_pos c22] at hr
        exact b_X12_sleep_25 C hr _ (lv_sub hl [] rfl)
-- X12_sum
def f_X12_sum (S : St) (x0 : Nat) (x1 : Int32) (x2 : Int32) (x3 : Int32) : Option Int64 :=
    (rcv S (some x0) 13).bind fun b2 =>
    (f_X12_isAccount S b2 x1).bind fun v2 =>
    (if v2 = 0 then
    some (-1)
    else
    (rcv S (some x0) 13).bind fun b10 =>
    (f_X12_isPast S b10 x2).bind fun v10 =>
    (if v10 = 0 then
    some (-1)
    else
    (rcv S (some x0) 13).bind fun b18 =>
    (f_X12_isPast S b18 x3).bind fun v18 =>
    (if v18 = 0 then
    some (-1)
    else
    (rcv S (some x0) 13).bind fun b28 =>
    (f_X12_sumNow S b28 x1 x2 x3).bind fun v28 =>
    some v28)))
theorem k_X12_sum {l : Launch} {G : Ge} {S : St} {x0 : Nat} {x1 : Int32} {x2 : Int32} {x3 : Int32} {rr : Int64} (hr : f_X12_sum S x0 x1 x2 x3 = some rr) : Ct l G yX12_sum cX12_sum 4 (Option.some Jvm.ClassFile.FieldType.long) S [va_rf (some x0), .int x1, .int x2, .int x3] (some (.long rr)) S 3 81 := by
  refine ct_of (by decide +kernel) (Nat.le_of_ble_eq_true rfl) ?_
  intro p e s m args below meth c C ls hl
  have hl : lv_has ls 4 [(0, va_rf (some x0)), (1, .int x1), (2, .int x2), (3, .int x3)] := hl
  unfold f_X12_sum at hr
  refine v_aload_n C (lv_at hl 0 rfl) rfl dX12_sum_0 ?_
  refine v_iload_n C (lv_at hl 1 rfl) rfl dX12_sum_1 ?_
  obtain ⟨b2, f2, hr⟩ := ob hr
  obtain ⟨g2, h2⟩ := rcv_n f2
  obtain ⟨v2, e2, hr⟩ := ob hr
  refine v_callV C (b := b2) h2 (by decide) rfl rfl (k_X12_isAccount e2) cw_X12_isAccount w_1613 w_1615 w_57 (show (parseMethodDescriptor (yX12_isAccount).desc).map (fun d => d.parameters.length) = some 1 by decide +kernel) ⟨by decide, by decide⟩ (rest := []) (stk2 := [.int v2]) (by rw [g2]; rfl) rfl (Nat.le_of_ble_eq_true rfl) hl dX12_sum_2 ?_
  refine v_if_eq C 34 (by decide) dX12_sum_5 (fun c5 => ?_) (fun c5 => ?_)
  · rw [if_pos c5] at hr
    refine v_ldc2 C w_1643 dX12_sum_34 ?_
    obtain rfl := os hr
    exact v_lret C dX12_sum_37
  · rw [if_neg c5] at hr
    refine v_aload_n C (lv_at hl 0 rfl) rfl dX12_sum_8 ?_
    refine v_iload_n C (lv_at hl 2 rfl) rfl dX12_sum_9 ?_
    obtain ⟨b10, f10, hr⟩ := ob hr
    obtain ⟨g10, h10⟩ := rcv_n f10
    obtain ⟨v10, e10, hr⟩ := ob hr
    refine v_callV C (b := b10) h10 (by decide) rfl rfl (k_X12_isPast e10) cw_X12_isPast w_1573 w_1575 w_53 (show (parseMethodDescriptor (yX12_isPast).desc).map (fun d => d.parameters.length) = some 1 by decide +kernel) ⟨by decide, by decide⟩ (rest := []) (stk2 := [.int v10]) (by rw [g10]; rfl) rfl (Nat.le_of_ble_eq_true rfl) hl dX12_sum_10 ?_
    refine v_if_eq C 34 (by decide) dX12_sum_13 (fun c13 => ?_) (fun c13 => ?_)
    · rw [if_pos c13] at hr
      refine v_ldc2 C w_1643 dX12_sum_34 ?_
      obtain rfl := os hr
      exact v_lret C dX12_sum_37
    · rw [if_neg c13] at hr
      refine v_aload_n C (lv_at hl 0 rfl) rfl dX12_sum_16 ?_
      refine v_iload_n C (lv_at hl 3 rfl) rfl dX12_sum_17 ?_
      obtain ⟨b18, f18, hr⟩ := ob hr
      obtain ⟨g18, h18⟩ := rcv_n f18
      obtain ⟨v18, e18, hr⟩ := ob hr
      refine v_callV C (b := b18) h18 (by decide) rfl rfl (k_X12_isPast e18) cw_X12_isPast w_1573 w_1575 w_53 (show (parseMethodDescriptor (yX12_isPast).desc).map (fun d => d.parameters.length) = some 1 by decide +kernel) ⟨by decide, by decide⟩ (rest := []) (stk2 := [.int v18]) (by rw [g18]; rfl) rfl (Nat.le_of_ble_eq_true rfl) hl dX12_sum_18 ?_
      refine v_if_eq C 34 (by decide) dX12_sum_21 (fun c21 => ?_) (fun c21 => ?_)
      · rw [if_pos c21] at hr
        refine v_ldc2 C w_1643 dX12_sum_34 ?_
        obtain rfl := os hr
        exact v_lret C dX12_sum_37
      · rw [if_neg c21] at hr
        refine v_aload_n C (lv_at hl 0 rfl) rfl dX12_sum_24 ?_
        refine v_iload_n C (lv_at hl 1 rfl) rfl dX12_sum_25 ?_
        refine v_iload_n C (lv_at hl 2 rfl) rfl dX12_sum_26 ?_
        refine v_iload_n C (lv_at hl 3 rfl) rfl dX12_sum_27 ?_
        obtain ⟨b28, f28, hr⟩ := ob hr
        obtain ⟨g28, h28⟩ := rcv_n f28
        obtain ⟨v28, e28, hr⟩ := ob hr
        refine v_callV C (b := b28) h28 (by decide) rfl rfl (k_X12_sumNow e28) cw_X12_sumNow w_1631 w_1633 w_59 (show (parseMethodDescriptor (yX12_sumNow).desc).map (fun d => d.parameters.length) = some 3 by decide +kernel) ⟨by decide, by decide⟩ (rest := []) (stk2 := [.long v28]) (by rw [g28]; rfl) rfl (Nat.le_of_ble_eq_true rfl) hl dX12_sum_28 ?_
        refine v_goto C 37 (by decide) dX12_sum_31 ?_
        obtain rfl := os hr
        exact v_lret C dX12_sum_37
-- X12_told
def f_X12_told (S : St) (x0 : Nat) (x1 : Int32) (x2 : Int32) : Option Int32 :=
    (f_X12_isState S x1).bind fun v1 =>
    (if v1 = 0 then
    some (-1)
    else
    (if x2 = 0 then
    (getR S (some x0) 13 24).bind fun v61 =>
    (ldI S v61 15 ((4 * x1) + x2)).bind fun v69 =>
    some v69
    else
    (if x2 = 1 then
    (getR S (some x0) 13 24).bind fun v61 =>
    (ldI S v61 15 ((4 * x1) + x2)).bind fun v69 =>
    some v69
    else
    (if x2 = 2 then
    (getR S (some x0) 13 24).bind fun v61 =>
    (ldI S v61 15 ((4 * x1) + x2)).bind fun v69 =>
    some v69
    else
    (if x2 = 3 then
    (getR S (some x0) 13 24).bind fun v61 =>
    (ldI S v61 15 ((4 * x1) + x2)).bind fun v69 =>
    some v69
    else
    (if x2 = 4 then
    (getR S (some x0) 13 25).bind fun v72 =>
    (ldI S v72 15 x1).bind fun v76 =>
    some v76
    else
    (if x2 = 5 then
    (getR S (some x0) 13 26).bind fun v79 =>
    (ldI S v79 15 x1).bind fun v83 =>
    some v83
    else
    (if x2 = 6 then
    (getR S (some x0) 13 27).bind fun v86 =>
    (ldI S v86 15 x1).bind fun v90 =>
    some v90
    else
    (if x2 = 7 then
    (getR S (some x0) 13 28).bind fun v93 =>
    (ldI S v93 15 x1).bind fun v97 =>
    some v97
    else
    (if x2 = 8 then
    (getR S (some x0) 13 29).bind fun v100 =>
    (ldI S v100 15 x1).bind fun v104 =>
    some v104
    else
    some (-1)))))))))))
theorem k_X12_told {l : Launch} {G : Ge} {S : St} {x0 : Nat} {x1 : Int32} {x2 : Int32} {rr : Int32} (hr : f_X12_told S x0 x1 x2 = some rr) : Ct l G yX12_told cX12_told 3 (Option.some Jvm.ClassFile.FieldType.int) S [va_rf (some x0), .int x1, .int x2] (some (.int rr)) S 2 42 := by
  refine ct_of (by decide +kernel) (Nat.le_of_ble_eq_true rfl) ?_
  intro p e s m args below meth c C ls hl
  have hl : lv_has ls 3 [(0, va_rf (some x0)), (1, .int x1), (2, .int x2)] := hl
  unfold f_X12_told at hr
  refine v_iload_n C (lv_at hl 1 rfl) rfl dX12_told_0 ?_
  obtain ⟨v1, e1, hr⟩ := ob hr
  refine v_callS C (k_X12_isState e1) cw_X12_isState w_1562 w_1563 (show (parseMethodDescriptor (yX12_isState).desc).map (fun d => d.parameters.length) = some 1 by decide +kernel) ⟨by decide, by decide⟩ (rest := []) (stk2 := [.int v1]) rfl rfl (Nat.le_of_ble_eq_true rfl) hl dX12_told_1 ?_
  refine v_if_ne C 9 (by decide) dX12_told_4 (fun c4 => ?_) (fun c4 => ?_)
  · rw [if_neg c4] at hr
    refine v_iload_n C (lv_at hl 2 rfl) rfl dX12_told_9 ?_
    by_cases q10_0 : x2 = 0
    · rw [if_pos q10_0] at hr
      refine v_tableIn C (off := 50) 60 (by rw [q10_0]; decide) (by rw [q10_0]; decide) (by rw [q10_0]; decide) (by decide) dX12_told_10 ?_
      refine v_aload_n C (lv_at hl 0 rfl) rfl dX12_told_60 ?_
      obtain ⟨v61, e61, hr⟩ := ob hr
      refine v_getR C fl_RX12_67 rfl e61 dX12_told_61 ?_
      refine v_iconst C 4 (by decide) dX12_told_64 ?_
      refine v_iload_n C (lv_at hl 1 rfl) rfl dX12_told_65 ?_
      refine v_imul C dX12_told_66 ?_
      refine v_iload_n C (lv_at hl 2 rfl) rfl dX12_told_67 ?_
      refine v_iadd C dX12_told_68 ?_
      obtain ⟨v69, e69, hr⟩ := ob hr
      refine v_ldI_i C e69 dX12_told_69 ?_
      obtain rfl := os hr
      exact v_iret C dX12_told_70
    rw [if_neg q10_0] at hr
    by_cases q10_1 : x2 = 1
    · rw [if_pos q10_1] at hr
      refine v_tableIn C (off := 50) 60 (by rw [q10_1]; decide) (by rw [q10_1]; decide) (by rw [q10_1]; decide) (by decide) dX12_told_10 ?_
      refine v_aload_n C (lv_at hl 0 rfl) rfl dX12_told_60 ?_
      obtain ⟨v61, e61, hr⟩ := ob hr
      refine v_getR C fl_RX12_67 rfl e61 dX12_told_61 ?_
      refine v_iconst C 4 (by decide) dX12_told_64 ?_
      refine v_iload_n C (lv_at hl 1 rfl) rfl dX12_told_65 ?_
      refine v_imul C dX12_told_66 ?_
      refine v_iload_n C (lv_at hl 2 rfl) rfl dX12_told_67 ?_
      refine v_iadd C dX12_told_68 ?_
      obtain ⟨v69, e69, hr⟩ := ob hr
      refine v_ldI_i C e69 dX12_told_69 ?_
      obtain rfl := os hr
      exact v_iret C dX12_told_70
    rw [if_neg q10_1] at hr
    by_cases q10_2 : x2 = 2
    · rw [if_pos q10_2] at hr
      refine v_tableIn C (off := 50) 60 (by rw [q10_2]; decide) (by rw [q10_2]; decide) (by rw [q10_2]; decide) (by decide) dX12_told_10 ?_
      refine v_aload_n C (lv_at hl 0 rfl) rfl dX12_told_60 ?_
      obtain ⟨v61, e61, hr⟩ := ob hr
      refine v_getR C fl_RX12_67 rfl e61 dX12_told_61 ?_
      refine v_iconst C 4 (by decide) dX12_told_64 ?_
      refine v_iload_n C (lv_at hl 1 rfl) rfl dX12_told_65 ?_
      refine v_imul C dX12_told_66 ?_
      refine v_iload_n C (lv_at hl 2 rfl) rfl dX12_told_67 ?_
      refine v_iadd C dX12_told_68 ?_
      obtain ⟨v69, e69, hr⟩ := ob hr
      refine v_ldI_i C e69 dX12_told_69 ?_
      obtain rfl := os hr
      exact v_iret C dX12_told_70
    rw [if_neg q10_2] at hr
    by_cases q10_3 : x2 = 3
    · rw [if_pos q10_3] at hr
      refine v_tableIn C (off := 50) 60 (by rw [q10_3]; decide) (by rw [q10_3]; decide) (by rw [q10_3]; decide) (by decide) dX12_told_10 ?_
      refine v_aload_n C (lv_at hl 0 rfl) rfl dX12_told_60 ?_
      obtain ⟨v61, e61, hr⟩ := ob hr
      refine v_getR C fl_RX12_67 rfl e61 dX12_told_61 ?_
      refine v_iconst C 4 (by decide) dX12_told_64 ?_
      refine v_iload_n C (lv_at hl 1 rfl) rfl dX12_told_65 ?_
      refine v_imul C dX12_told_66 ?_
      refine v_iload_n C (lv_at hl 2 rfl) rfl dX12_told_67 ?_
      refine v_iadd C dX12_told_68 ?_
      obtain ⟨v69, e69, hr⟩ := ob hr
      refine v_ldI_i C e69 dX12_told_69 ?_
      obtain rfl := os hr
      exact v_iret C dX12_told_70
    rw [if_neg q10_3] at hr
    by_cases q10_4 : x2 = 4
    · rw [if_pos q10_4] at hr
      refine v_tableIn C (off := 61) 71 (by rw [q10_4]; decide) (by rw [q10_4]; decide) (by rw [q10_4]; decide) (by decide) dX12_told_10 ?_
      refine v_aload_n C (lv_at hl 0 rfl) rfl dX12_told_71 ?_
      obtain ⟨v72, e72, hr⟩ := ob hr
      refine v_getR C fl_RX12_70 rfl e72 dX12_told_72 ?_
      refine v_iload_n C (lv_at hl 1 rfl) rfl dX12_told_75 ?_
      obtain ⟨v76, e76, hr⟩ := ob hr
      refine v_ldI_i C e76 dX12_told_76 ?_
      obtain rfl := os hr
      exact v_iret C dX12_told_77
    rw [if_neg q10_4] at hr
    by_cases q10_5 : x2 = 5
    · rw [if_pos q10_5] at hr
      refine v_tableIn C (off := 68) 78 (by rw [q10_5]; decide) (by rw [q10_5]; decide) (by rw [q10_5]; decide) (by decide) dX12_told_10 ?_
      refine v_aload_n C (lv_at hl 0 rfl) rfl dX12_told_78 ?_
      obtain ⟨v79, e79, hr⟩ := ob hr
      refine v_getR C fl_RX12_73 rfl e79 dX12_told_79 ?_
      refine v_iload_n C (lv_at hl 1 rfl) rfl dX12_told_82 ?_
      obtain ⟨v83, e83, hr⟩ := ob hr
      refine v_ldI_i C e83 dX12_told_83 ?_
      obtain rfl := os hr
      exact v_iret C dX12_told_84
    rw [if_neg q10_5] at hr
    by_cases q10_6 : x2 = 6
    · rw [if_pos q10_6] at hr
      refine v_tableIn C (off := 75) 85 (by rw [q10_6]; decide) (by rw [q10_6]; decide) (by rw [q10_6]; decide) (by decide) dX12_told_10 ?_
      refine v_aload_n C (lv_at hl 0 rfl) rfl dX12_told_85 ?_
      obtain ⟨v86, e86, hr⟩ := ob hr
      refine v_getR C fl_RX12_76 rfl e86 dX12_told_86 ?_
      refine v_iload_n C (lv_at hl 1 rfl) rfl dX12_told_89 ?_
      obtain ⟨v90, e90, hr⟩ := ob hr
      refine v_ldI_i C e90 dX12_told_90 ?_
      obtain rfl := os hr
      exact v_iret C dX12_told_91
    rw [if_neg q10_6] at hr
    by_cases q10_7 : x2 = 7
    · rw [if_pos q10_7] at hr
      refine v_tableIn C (off := 82) 92 (by rw [q10_7]; decide) (by rw [q10_7]; decide) (by rw [q10_7]; decide) (by decide) dX12_told_10 ?_
      refine v_aload_n C (lv_at hl 0 rfl) rfl dX12_told_92 ?_
      obtain ⟨v93, e93, hr⟩ := ob hr
      refine v_getR C fl_RX12_79 rfl e93 dX12_told_93 ?_
      refine v_iload_n C (lv_at hl 1 rfl) rfl dX12_told_96 ?_
      obtain ⟨v97, e97, hr⟩ := ob hr
      refine v_ldI_i C e97 dX12_told_97 ?_
      obtain rfl := os hr
      exact v_iret C dX12_told_98
    rw [if_neg q10_7] at hr
    by_cases q10_8 : x2 = 8
    · rw [if_pos q10_8] at hr
      refine v_tableIn C (off := 89) 99 (by rw [q10_8]; decide) (by rw [q10_8]; decide) (by rw [q10_8]; decide) (by decide) dX12_told_10 ?_
      refine v_aload_n C (lv_at hl 0 rfl) rfl dX12_told_99 ?_
      obtain ⟨v100, e100, hr⟩ := ob hr
      refine v_getR C fl_RX12_82 rfl e100 dX12_told_100 ?_
      refine v_iload_n C (lv_at hl 1 rfl) rfl dX12_told_103 ?_
      obtain ⟨v104, e104, hr⟩ := ob hr
      refine v_ldI_i C e104 dX12_told_104 ?_
      obtain rfl := os hr
      exact v_iret C dX12_told_105
    rw [if_neg q10_8] at hr
    have kd10 : V p l e (rmo 2 42 S) s m args below meth c G S S (QM below args s G S S (some (.int rr))) (F0 m 106 ls []) := by
      refine v_iconst C (-1) (by decide) dX12_told_106 ?_
      obtain rfl := os hr
      exact v_iret C dX12_told_107
    have z0 := lv_neT q10_0 (a := 0) (by decide)
    have z1 := lv_neT q10_1 (a := 1) (by decide)
    have z2 := lv_neT q10_2 (a := 2) (by decide)
    have z3 := lv_neT q10_3 (a := 3) (by decide)
    have z4 := lv_neT q10_4 (a := 4) (by decide)
    have z5 := lv_neT q10_5 (a := 5) (by decide)
    have z6 := lv_neT q10_6 (a := 6) (by decide)
    have z7 := lv_neT q10_7 (a := 7) (by decide)
    have z8 := lv_neT q10_8 (a := 8) (by decide)
    exact v_tableOut C 106 (by omega) (by decide) dX12_told_10 kd10
  · rw [if_pos c4] at hr
    refine v_iconst C (-1) (by decide) dX12_told_7 ?_
    obtain rfl := os hr
    exact v_iret C dX12_told_8
end Mth
