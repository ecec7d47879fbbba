section Mth
variable {p : Program} {l : Launch} {e : Env} {s : State} {m : MethodId} {args : Array Value} {below : List Frame} {meth : Method} {c : Code} {G : Ge}
-- X12_unit
def f_X12_product_41 (ru : St → Nat → Option (Int32 × St)) (rec : St → Nat → Option ((Int32 × St))) (S : St) (x0 : Nat) (t0 : Int32) : Option ((Int32 × St)) :=
    (rcv S (some x0) 13).bind fun b43 =>
    (f_X12_next0 S b43).bind fun S43 =>
    (if t0 = 0 then
    (rcv S43 (some x0) 13).bind fun b95 =>
    (ru S43 b95).bind fun (v95, S95) =>
    (if v95 = 0 then
    some (0, S95)
    else
    (rcv S95 (some x0) 13).bind fun b107 =>
    (f_X12_lay S95 b107 7 0).bind fun S107 =>
    rec S107 x0)
    else
    (getI S43 (some x0) 13 46).bind fun v51 =>
    (if v51 = 2 then
    (getI S43 (some x0) 13 48).bind fun v65 =>
    (if v65 = 0 then
    (rcv S43 (some x0) 13).bind fun b73 =>
    (f_X12_bad S43 b73 2).bind fun (v73, S73) =>
    (zchk v73).bind fun z76 =>
    some (z76, S73)
    else
    (getI S43 (some x0) 13 48).bind fun v81 =>
    (rcv S43 (some x0) 13).bind fun b84 =>
    (f_X12_lay S43 b84 8 v81).bind fun S84 =>
    (rcv S84 (some x0) 13).bind fun b88 =>
    (f_X12_next0 S84 b88).bind fun S88 =>
    rec S88 x0)
    else
    (rcv S43 (some x0) 13).bind fun b60 =>
    (f_X12_bad S43 b60 1).bind fun (v60, S60) =>
    (zchk v60).bind fun z63 =>
    some (z63, S60)))
def f_X12_product_27 (ru : St → Nat → Option (Int32 × St)) (rec : St → Nat → Option ((Int32 × St))) (S : St) (x0 : Nat) : Option ((Int32 × St)) :=
    (getI S (some x0) 13 46).bind fun v28 =>
    (if v28 = 47 then
    f_X12_product_41 ru (rec) S x0 1
    else
    f_X12_product_41 ru (rec) S x0 0)
def f_X12_product_9 (ru : St → Nat → Option (Int32 × St)) : Nat → St → Nat → Option ((Int32 × St))
  | 0, _, _ => none
  | n + 1, S, x0 =>
    (getI S (some x0) 13 46).bind fun v10 =>
    (if v10 = 42 then
    f_X12_product_27 ru (f_X12_product_9 ru n) S x0
    else
    (getI S (some x0) 13 46).bind fun v19 =>
    (if v19 = 47 then
    f_X12_product_27 ru (f_X12_product_9 ru n) S x0
    else
    some (1, S)))
def f_X12_product (ru : St → Nat → Option (Int32 × St)) (S : St) (x0 : Nat) : Option (Int32 × St) :=
    (rcv S (some x0) 13).bind fun b1 =>
    (ru S b1).bind fun (v1, S1) =>
    (if v1 = 0 then
    some (0, S1)
    else
    f_X12_product_9 ru FU S1 x0)
def f_X12_sumUp_42 (ru : St → Nat → Option (Int32 × St)) (rec : St → Nat → Option ((Int32 × St))) (S : St) (x0 : Nat) (t0 : Int32) : Option ((Int32 × St)) :=
    (rcv S (some x0) 13).bind fun b44 =>
    (f_X12_next0 S b44).bind fun S44 =>
    (rcv S44 (some x0) 13).bind fun b48 =>
    (f_X12_product ru S44 b48).bind fun (v48, S48) =>
    (if v48 = 0 then
    some (0, S48)
    else
    (rcv S48 (some x0) 13).bind fun b59 =>
    (f_X12_lay S48 b59 t0 0).bind fun S59 =>
    rec S59 x0)
def f_X12_sumUp_27 (ru : St → Nat → Option (Int32 × St)) (rec : St → Nat → Option ((Int32 × St))) (S : St) (x0 : Nat) : Option ((Int32 × St)) :=
    (getI S (some x0) 13 46).bind fun v28 =>
    (if v28 = 43 then
    f_X12_sumUp_42 ru (rec) S x0 5
    else
    f_X12_sumUp_42 ru (rec) S x0 6)
def f_X12_sumUp_9 (ru : St → Nat → Option (Int32 × St)) : Nat → St → Nat → Option ((Int32 × St))
  | 0, _, _ => none
  | n + 1, S, x0 =>
    (getI S (some x0) 13 46).bind fun v10 =>
    (if v10 = 43 then
    f_X12_sumUp_27 ru (f_X12_sumUp_9 ru n) S x0
    else
    (getI S (some x0) 13 46).bind fun v19 =>
    (if v19 = 45 then
    f_X12_sumUp_27 ru (f_X12_sumUp_9 ru n) S x0
    else
    some (1, S)))
def f_X12_sumUp (ru : St → Nat → Option (Int32 × St)) (S : St) (x0 : Nat) : Option (Int32 × St) :=
    (rcv S (some x0) 13).bind fun b1 =>
    (f_X12_product ru S b1).bind fun (v1, S1) =>
    (if v1 = 0 then
    some (0, S1)
    else
    f_X12_sumUp_9 ru FU S1 x0)
def f_X12_unit_93 (ru : St → Nat → Option (Int32 × St)) (S : St) (x0 : Nat) (t0 : Int32) (t1 : Option Nat) : Option (Int32 × St) :=
    (getI S (some x0) 13 48).bind fun v94 =>
    (rcv S t1 13).bind fun b97 =>
    (f_X12_lay S b97 t0 v94).bind fun S97 =>
    (rcv S97 (some x0) 13).bind fun b101 =>
    (f_X12_next0 S97 b101).bind fun S101 =>
    some (1, S101)
def f_X12_unit_70 (ru : St → Nat → Option (Int32 × St)) (S : St) (x0 : Nat) : Option (Int32 × St) :=
    (getI S (some x0) 13 46).bind fun v72 =>
    (if v72 = 2 then
    f_X12_unit_93 ru S x0 0 (some x0)
    else
    (getI S (some x0) 13 46).bind fun v85 =>
    f_X12_unit_93 ru S x0 ((1 + v85) - 201) (some x0))
def f_X12_unit (ru : St → Nat → Option (Int32 × St)) (S : St) (x0 : Nat) : Option (Int32 × St) :=
    (getI S (some x0) 13 46).bind fun v1 =>
    (if v1 = 40 then
    (rcv S (some x0) 13).bind fun b10 =>
    (f_X12_opens S b10).bind fun (v10, S10) =>
    (if v10 = 0 then
    some (0, S10)
    else
    (rcv S10 (some x0) 13).bind fun b17 =>
    (f_X12_sumUp ru S10 b17).bind fun (v17, S17) =>
    (if v17 = 0 then
    some (0, S17)
    else
    (rcv S17 (some x0) 13).bind fun b26 =>
    (f_X12_need S17 b26 41).bind fun (v26, S26) =>
    (if v26 = 0 then
    some (0, S26)
    else
    (getI S26 (some x0) 13 52).bind fun v36 =>
    (putI S26 (some x0) 13 52 (v36 - 1)).bind fun S41 =>
    some (1, S41))))
    else
    (getI S (some x0) 13 46).bind fun v47 =>
    (if v47 = 2 then
    f_X12_unit_70 ru S x0
    else
    (getI S (some x0) 13 46).bind fun v55 =>
    (if (201 : Int32) ≤ v55 then
    f_X12_unit_70 ru S x0
    else
    (rcv S (some x0) 13).bind fun b66 =>
    (f_X12_bad S b66 1).bind fun (v66, S66) =>
    (zchk v66).bind fun z69 =>
    some (z69, S66))))
def r_X12_unit : Nat → St → Nat → Option (Int32 × St)
  | 0, _, _ => none
  | d + 1, S, x0 => f_X12_unit (r_X12_unit d) S x0
def F_X12_product (S : St) (x0 : Nat) : Option (Int32 × St) := f_X12_product (r_X12_unit 32) S x0
def F_X12_sumUp (S : St) (x0 : Nat) : Option (Int32 × St) := f_X12_sumUp (r_X12_unit 32) S x0
def F_X12_unit (S : St) (x0 : Nat) : Option (Int32 × St) := r_X12_unit 32 S x0
theorem b_X12_product_41 {ru : St → Nat → Option (Int32 × St)} {fru lru : Nat} (hfe : 10 ≤ fru) (hle : 307 ≤ lru) (hru : ∀ {S S' : St} {x0 : Nat} {rr : Int32}, ru S x0 = some (rr, S') → Ct l G yX12_unit cX12_unit 1 (Option.some Jvm.ClassFile.FieldType.boolean) S [va_rf (some x0)] (some (.int rr)) S' fru lru)  {S0 S S' : St} {rr : Int32} {x0 : Nat} {t0 : Int32} (C : Cx p s m args meth c G S0 yX12_product cX12_product 2 (Option.some Jvm.ClassFile.FieldType.boolean)) {o : ((Int32 × St))} {rec : St → Nat → Option ((Int32 × St))} (kR : ∀ (v : Int32) (Z : St), o = (v, Z) → rr = v ∧ S' = Z) (ihk : ∀ {S : St} {x0 : Nat}, rec S x0 = some o → ∀ ls : Array Slot, lv_has ls 2 [(0, va_rf (some x0))] → V p l e (rmo (fru + 1) (lru + 20) S0) s m args below meth c G S0 S (QM below args s G S0 S' (some (.int rr))) (F0 m 9 ls [])) (hr : f_X12_product_41 ru rec S x0 t0 = some o) : ∀ ls : Array Slot, lv_has ls 2 [(0, va_rf (some x0))] → V p l e (rmo (fru + 1) (lru + 20) S0) s m args below meth c G S0 S (QM below args s G S0 S' (some (.int rr))) (F0 m 41 ls [.int t0]) := by
  intro ls hl
  unfold f_X12_product_41 at hr
  refine v_istore_n C (i := 1) (lv' := [(1, .int t0), (0, va_rf (some x0))]) hl rfl (by decide) rfl dX12_product_41 (fun ls hl => ?_)
  refine v_aload_n C (lv_at hl 1 rfl) rfl dX12_product_42 ?_
  obtain ⟨b43, f43, hr⟩ := ob hr
  obtain ⟨g43, h43⟩ := rcv_n f43
  obtain ⟨S43, e43, hr⟩ := ob hr
  refine v_callV C (b := b43) h43 (by decide) rfl rfl (k_X12_next0 e43) cw_X12_next0 w_1656 w_1658 w_62 (show (parseMethodDescriptor (yX12_next0).desc).map (fun d => d.parameters.length) = some 0 by decide +kernel) ⟨by omega, by omega⟩ (rest := []) (stk2 := []) (by rw [g43]; rfl) rfl (Nat.le_of_ble_eq_true rfl) hl dX12_product_43 ?_
  refine v_iload_n C (lv_at hl 0 rfl) rfl dX12_product_46 ?_
  refine v_if_eq C 94 (by decide) dX12_product_47 (fun c47 => ?_) (fun c47 => ?_)
  · rw [if_pos c47] at hr
    refine v_aload_n C (lv_at hl 1 rfl) rfl dX12_product_94 ?_
    obtain ⟨b95, f95, hr⟩ := ob hr
    obtain ⟨g95, h95⟩ := rcv_n f95
    obtain ⟨⟨v95, S95⟩, e95, hr⟩ := ob hr
    (try dsimp only at hr)
    refine v_callV C (b := b95) h95 (by decide) rfl rfl (hru e95) cw_X12_unit w_1722 w_1724 w_73 (show (parseMethodDescriptor (yX12_unit).desc).map (fun d => d.parameters.length) = some 0 by decide +kernel) ⟨by omega, by omega⟩ (rest := []) (stk2 := [.int v95]) (by rw [g95]; rfl) rfl (Nat.le_of_ble_eq_true rfl) hl dX12_product_95 ?_
    refine v_if_ne C 103 (by decide) dX12_product_98 (fun c98 => ?_) (fun c98 => ?_)
    · rw [if_neg c98] at hr
      refine v_aload_n C (lv_at hl 1 rfl) rfl dX12_product_103 ?_
      refine v_bipush C 7 (by decide) dX12_product_104 ?_
      refine v_iconst C 0 (by decide) dX12_product_106 ?_
      obtain ⟨b107, f107, hr⟩ := ob hr
      obtain ⟨g107, h107⟩ := rcv_n f107
      obtain ⟨S107, e107, hr⟩ := ob hr
      refine v_callV C (b := b107) h107 (by decide) rfl rfl (k_X12_lay e107) cw_X12_lay w_1734 w_1736 w_76 (show (parseMethodDescriptor (yX12_lay).desc).map (fun d => d.parameters.length) = some 2 by decide +kernel) ⟨by omega, by omega⟩ (rest := []) (stk2 := []) (by rw [g107]; rfl) rfl (Nat.le_of_ble_eq_true rfl) hl dX12_product_107 ?_
      refine v_goto C 9 (by decide) dX12_product_110 ?_
      exact ihk hr _ (lv_sub hl [1] rfl)
    · rw [if_pos c98] at hr
      refine v_iconst C 0 (by decide) dX12_product_101 ?_
      obtain rfl := os hr
      obtain ⟨rfl, rfl⟩ := kR _ _ rfl
      exact v_zret C rfl dX12_product_102
  · rw [if_neg c47] at hr
    refine v_aload_n C (lv_at hl 1 rfl) rfl dX12_product_50 ?_
    obtain ⟨v51, e51, hr⟩ := ob hr
    refine v_getI C fl_RX12_311 rfl e51 dX12_product_51 ?_
    refine v_iconst C 2 (by decide) dX12_product_54 ?_
    refine v_icmp_eq C 64 (by decide) dX12_product_55 (fun c55 => ?_) (fun c55 => ?_)
    · rw [if_pos c55] at hr
      refine v_aload_n C (lv_at hl 1 rfl) rfl dX12_product_64 ?_
      obtain ⟨v65, e65, hr⟩ := ob hr
      refine v_getI C fl_RX12_323 rfl e65 dX12_product_65 ?_
      refine v_if_ne C 77 (by decide) dX12_product_68 (fun c68 => ?_) (fun c68 => ?_)
      · rw [if_neg c68] at hr
        refine v_aload_n C (lv_at hl 1 rfl) rfl dX12_product_77 ?_
        refine v_bipush C 8 (by decide) dX12_product_78 ?_
        refine v_aload_n C (lv_at hl 1 rfl) rfl dX12_product_80 ?_
        obtain ⟨v81, e81, hr⟩ := ob hr
        refine v_getI C fl_RX12_323 rfl e81 dX12_product_81 ?_
        obtain ⟨b84, f84, hr⟩ := ob hr
        obtain ⟨g84, h84⟩ := rcv_n f84
        obtain ⟨S84, e84, hr⟩ := ob hr
        refine v_callV C (b := b84) h84 (by decide) rfl rfl (k_X12_lay e84) cw_X12_lay w_1734 w_1736 w_76 (show (parseMethodDescriptor (yX12_lay).desc).map (fun d => d.parameters.length) = some 2 by decide +kernel) ⟨by omega, by omega⟩ (rest := []) (stk2 := []) (by rw [g84]; rfl) rfl (Nat.le_of_ble_eq_true rfl) hl dX12_product_84 ?_
        refine v_aload_n C (lv_at hl 1 rfl) rfl dX12_product_87 ?_
        obtain ⟨b88, f88, hr⟩ := ob hr
        obtain ⟨g88, h88⟩ := rcv_n f88
        obtain ⟨S88, e88, hr⟩ := ob hr
        refine v_callV C (b := b88) h88 (by decide) rfl rfl (k_X12_next0 e88) cw_X12_next0 w_1656 w_1658 w_62 (show (parseMethodDescriptor (yX12_next0).desc).map (fun d => d.parameters.length) = some 0 by decide +kernel) ⟨by omega, by omega⟩ (rest := []) (stk2 := []) (by rw [g88]; rfl) rfl (Nat.le_of_ble_eq_true rfl) hl dX12_product_88 ?_
        refine v_goto C 110 (by decide) dX12_product_91 ?_
        refine v_goto C 9 (by decide) dX12_product_110 ?_
        exact ihk hr _ (lv_sub hl [1] rfl)
      · rw [if_pos c68] at hr
        refine v_aload_n C (lv_at hl 1 rfl) rfl dX12_product_71 ?_
        refine v_iconst C 2 (by decide) dX12_product_72 ?_
        obtain ⟨b73, f73, hr⟩ := ob hr
        obtain ⟨g73, h73⟩ := rcv_n f73
        obtain ⟨⟨v73, S73⟩, e73, hr⟩ := ob hr
        (try dsimp only at hr)
        refine v_callV C (b := b73) h73 (by decide) rfl rfl (k_X12_bad e73) cw_X12_bad w_1698 w_1700 w_67 (show (parseMethodDescriptor (yX12_bad).desc).map (fun d => d.parameters.length) = some 1 by decide +kernel) ⟨by omega, by omega⟩ (rest := []) (stk2 := [.int v73]) (by rw [g73]; rfl) rfl (Nat.le_of_ble_eq_true rfl) hl dX12_product_73 ?_
        obtain ⟨z76, e76, hr⟩ := ob hr
        obtain ⟨y76, n76⟩ := zchk_n e76
        obtain rfl := os hr
        obtain ⟨rfl, rfl⟩ := kR _ _ rfl
        rw [← y76]
        exact v_zret C n76 dX12_product_76
    · rw [if_neg c55] at hr
      refine v_aload_n C (lv_at hl 1 rfl) rfl dX12_product_58 ?_
      refine v_iconst C 1 (by decide) dX12_product_59 ?_
      obtain ⟨b60, f60, hr⟩ := ob hr
      obtain ⟨g60, h60⟩ := rcv_n f60
      obtain ⟨⟨v60, S60⟩, e60, hr⟩ := ob hr
      (try dsimp only at hr)
      refine v_callV C (b := b60) h60 (by decide) rfl rfl (k_X12_bad e60) cw_X12_bad w_1698 w_1700 w_67 (show (parseMethodDescriptor (yX12_bad).desc).map (fun d => d.parameters.length) = some 1 by decide +kernel) ⟨by omega, by omega⟩ (rest := []) (stk2 := [.int v60]) (by rw [g60]; rfl) rfl (Nat.le_of_ble_eq_true rfl) hl dX12_product_60 ?_
      obtain ⟨z63, e63, hr⟩ := ob hr
      obtain ⟨y63, n63⟩ := zchk_n e63
      obtain rfl := os hr
      obtain ⟨rfl, rfl⟩ := kR _ _ rfl
      rw [← y63]
      exact v_zret C n63 dX12_product_63
theorem b_X12_product_27 {ru : St → Nat → Option (Int32 × St)} {fru lru : Nat} (hfe : 10 ≤ fru) (hle : 307 ≤ lru) (hru : ∀ {S S' : St} {x0 : Nat} {rr : Int32}, ru S x0 = some (rr, S') → Ct l G yX12_unit cX12_unit 1 (Option.some Jvm.ClassFile.FieldType.boolean) S [va_rf (some x0)] (some (.int rr)) S' fru lru)  {S0 S S' : St} {rr : Int32} {x0 : Nat} (C : Cx p s m args meth c G S0 yX12_product cX12_product 2 (Option.some Jvm.ClassFile.FieldType.boolean)) {o : ((Int32 × St))} {rec : St → Nat → Option ((Int32 × St))} (kR : ∀ (v : Int32) (Z : St), o = (v, Z) → rr = v ∧ S' = Z) (ihk : ∀ {S : St} {x0 : Nat}, rec S x0 = some o → ∀ ls : Array Slot, lv_has ls 2 [(0, va_rf (some x0))] → V p l e (rmo (fru + 1) (lru + 20) S0) s m args below meth c G S0 S (QM below args s G S0 S' (some (.int rr))) (F0 m 9 ls [])) (hr : f_X12_product_27 ru rec S x0 = some o) : ∀ ls : Array Slot, lv_has ls 2 [(0, va_rf (some x0))] → V p l e (rmo (fru + 1) (lru + 20) S0) s m args below meth c G S0 S (QM below args s G S0 S' (some (.int rr))) (F0 m 27 ls []) := by
  intro ls hl
  unfold f_X12_product_27 at hr
  refine v_aload_n C (lv_at hl 0 rfl) rfl dX12_product_27 ?_
  obtain ⟨v28, e28, hr⟩ := ob hr
  refine v_getI C fl_RX12_311 rfl e28 dX12_product_28 ?_
  refine v_bipush C 47 (by decide) dX12_product_31 ?_
  refine v_icmp_ne C 40 (by decide) dX12_product_33 (fun c33 => ?_) (fun c33 => ?_)
  · rw [if_neg c33] at hr
    refine v_iconst C 0 (by decide) dX12_product_40 ?_
    exact b_X12_product_41 hfe hle (@hru) C kR (@ihk) hr _ (lv_sub hl [0] rfl)
  · rw [if_pos c33] at hr
    refine v_iconst C 1 (by decide) dX12_product_36 ?_
    refine v_goto C 41 (by decide) dX12_product_37 ?_
    exact b_X12_product_41 hfe hle (@hru) C kR (@ihk) hr _ (lv_sub hl [0] rfl)
theorem b_X12_product_9 {ru : St → Nat → Option (Int32 × St)} {fru lru : Nat} (hfe : 10 ≤ fru) (hle : 307 ≤ lru) (hru : ∀ {S S' : St} {x0 : Nat} {rr : Int32}, ru S x0 = some (rr, S') → Ct l G yX12_unit cX12_unit 1 (Option.some Jvm.ClassFile.FieldType.boolean) S [va_rf (some x0)] (some (.int rr)) S' fru lru)  {S0 S' : St} {rr : Int32} (C : Cx p s m args meth c G S0 yX12_product cX12_product 2 (Option.some Jvm.ClassFile.FieldType.boolean)) {o : ((Int32 × St))} (kR : ∀ (v : Int32) (Z : St), o = (v, Z) → rr = v ∧ S' = Z) : ∀ (n : Nat) {S : St} {x0 : Nat}, f_X12_product_9 ru n S x0 = some o → ∀ ls : Array Slot, lv_has ls 2 [(0, va_rf (some x0))] → V p l e (rmo (fru + 1) (lru + 20) S0) s m args below meth c G S0 S (QM below args s G S0 S' (some (.int rr))) (F0 m 9 ls []) := by
  intro n
  induction n with
  | zero => intro S x0 hr; cases hr
  | succ n ih =>
    intro S x0 hr ls hl
    unfold f_X12_product_9 at hr
    refine v_aload_n C (lv_at hl 0 rfl) rfl dX12_product_9 ?_
    obtain ⟨v10, e10, hr⟩ := ob hr
    refine v_getI C fl_RX12_311 rfl e10 dX12_product_10 ?_
    refine v_bipush C 42 (by decide) dX12_product_13 ?_
    refine v_icmp_eq C 27 (by decide) dX12_product_15 (fun c15 => ?_) (fun c15 => ?_)
    · rw [if_pos c15] at hr
      exact b_X12_product_27 hfe hle (@hru) C kR (@ih) hr _ (lv_sub hl [0] rfl)
    · rw [if_neg c15] at hr
      refine v_aload_n C (lv_at hl 0 rfl) rfl dX12_product_18 ?_
      obtain ⟨v19, e19, hr⟩ := ob hr
      refine v_getI C fl_RX12_311 rfl e19 dX12_product_19 ?_
      refine v_bipush C 47 (by decide) dX12_product_22 ?_
      refine v_icmp_ne C 113 (by decide) dX12_product_24 (fun c24 => ?_) (fun c24 => ?_)
      · rw [if_neg c24] at hr
        refine v_iconst C 1 (by decide) dX12_product_113 ?_
        obtain rfl := os hr
        obtain ⟨rfl, rfl⟩ := kR _ _ rfl
        exact v_zret C rfl dX12_product_114
      · rw [if_pos c24] at hr
        exact b_X12_product_27 hfe hle (@hru) C kR (@ih) hr _ (lv_sub hl [0] rfl)
theorem k_X12_product {l : Launch} {G : Ge} {ru : St → Nat → Option (Int32 × St)} {fru lru : Nat} (hfe : 10 ≤ fru) (hle : 307 ≤ lru) (hru : ∀ {S S' : St} {x0 : Nat} {rr : Int32}, ru S x0 = some (rr, S') → Ct l G yX12_unit cX12_unit 1 (Option.some Jvm.ClassFile.FieldType.boolean) S [va_rf (some x0)] (some (.int rr)) S' fru lru) {S S' : St} {x0 : Nat} {rr : Int32} (hr : f_X12_product ru S x0 = some (rr, S')) : Ct l G yX12_product cX12_product 2 (Option.some Jvm.ClassFile.FieldType.boolean) S [va_rf (some x0)] (some (.int rr)) S' (fru + 1) (lru + 20) := by
  refine ct_of (by decide +kernel) (Nat.le_of_ble_eq_true rfl) ?_
  intro p e s m args below meth c C ls hl
  have hl : lv_has ls 2 [(0, va_rf (some x0))] := hl
  unfold f_X12_product at hr
  refine v_aload_n C (lv_at hl 0 rfl) rfl dX12_product_0 ?_
  obtain ⟨b1, f1, hr⟩ := ob hr
  obtain ⟨g1, h1⟩ := rcv_n f1
  obtain ⟨⟨v1, S1⟩, e1, hr⟩ := ob hr
  (try dsimp only at hr)
  refine v_callV C (b := b1) h1 (by decide) rfl rfl (hru e1) cw_X12_unit w_1722 w_1724 w_73 (show (parseMethodDescriptor (yX12_unit).desc).map (fun d => d.parameters.length) = some 0 by decide +kernel) ⟨by omega, by omega⟩ (rest := []) (stk2 := [.int v1]) (by rw [g1]; rfl) rfl (Nat.le_of_ble_eq_true rfl) hl dX12_product_1 ?_
  refine v_if_ne C 9 (by decide) dX12_product_4 (fun c4 => ?_) (fun c4 => ?_)
  · rw [if_neg c4] at hr
    exact b_X12_product_9 hfe hle (@hru) C (fun _ _ q => by cases q; exact ⟨rfl, rfl⟩) FU hr _ (lv_sub hl [0] rfl)
  · rw [if_pos c4] at hr
    refine v_iconst C 0 (by decide) dX12_product_7 ?_
    obtain ⟨rfl, rfl⟩ := Prod.mk.inj (os hr)
    exact v_zret C rfl dX12_product_8
theorem b_X12_sumUp_42 {ru : St → Nat → Option (Int32 × St)} {fru lru : Nat} (hfe : 10 ≤ fru) (hle : 307 ≤ lru) (hru : ∀ {S S' : St} {x0 : Nat} {rr : Int32}, ru S x0 = some (rr, S') → Ct l G yX12_unit cX12_unit 1 (Option.some Jvm.ClassFile.FieldType.boolean) S [va_rf (some x0)] (some (.int rr)) S' fru lru)  {S0 S S' : St} {rr : Int32} {x0 : Nat} {t0 : Int32} (C : Cx p s m args meth c G S0 yX12_sumUp cX12_sumUp 2 (Option.some Jvm.ClassFile.FieldType.boolean)) {o : ((Int32 × St))} {rec : St → Nat → Option ((Int32 × St))} (kR : ∀ (v : Int32) (Z : St), o = (v, Z) → rr = v ∧ S' = Z) (ihk : ∀ {S : St} {x0 : Nat}, rec S x0 = some o → ∀ ls : Array Slot, lv_has ls 2 [(0, va_rf (some x0))] → V p l e (rmo (fru + 2) (lru + 41) S0) s m args below meth c G S0 S (QM below args s G S0 S' (some (.int rr))) (F0 m 9 ls [])) (hr : f_X12_sumUp_42 ru rec S x0 t0 = some o) : ∀ ls : Array Slot, lv_has ls 2 [(0, va_rf (some x0))] → V p l e (rmo (fru + 2) (lru + 41) S0) s m args below meth c G S0 S (QM below args s G S0 S' (some (.int rr))) (F0 m 42 ls [.int t0]) := by
  intro ls hl
  unfold f_X12_sumUp_42 at hr
  refine v_istore_n C (i := 1) (lv' := [(1, .int t0), (0, va_rf (some x0))]) hl rfl (by decide) rfl dX12_sumUp_42 (fun ls hl => ?_)
  refine v_aload_n C (lv_at hl 1 rfl) rfl dX12_sumUp_43 ?_
  obtain ⟨b44, f44, hr⟩ := ob hr
  obtain ⟨g44, h44⟩ := rcv_n f44
  obtain ⟨S44, e44, hr⟩ := ob hr
  refine v_callV C (b := b44) h44 (by decide) rfl rfl (k_X12_next0 e44) cw_X12_next0 w_1656 w_1658 w_62 (show (parseMethodDescriptor (yX12_next0).desc).map (fun d => d.parameters.length) = some 0 by decide +kernel) ⟨by omega, by omega⟩ (rest := []) (stk2 := []) (by rw [g44]; rfl) rfl (Nat.le_of_ble_eq_true rfl) hl dX12_sumUp_44 ?_
  refine v_aload_n C (lv_at hl 1 rfl) rfl dX12_sumUp_47 ?_
  obtain ⟨b48, f48, hr⟩ := ob hr
  obtain ⟨g48, h48⟩ := rcv_n f48
  obtain ⟨⟨v48, S48⟩, e48, hr⟩ := ob hr
  (try dsimp only at hr)
  refine v_callV C (b := b48) h48 (by decide) rfl rfl (k_X12_product hfe hle (@hru) e48) cw_X12_product w_1718 w_1720 w_72 (show (parseMethodDescriptor (yX12_product).desc).map (fun d => d.parameters.length) = some 0 by decide +kernel) ⟨by omega, by omega⟩ (rest := []) (stk2 := [.int v48]) (by rw [g48]; rfl) rfl (Nat.le_of_ble_eq_true rfl) hl dX12_sumUp_48 ?_
  refine v_if_ne C 56 (by decide) dX12_sumUp_51 (fun c51 => ?_) (fun c51 => ?_)
  · rw [if_neg c51] at hr
    refine v_aload_n C (lv_at hl 1 rfl) rfl dX12_sumUp_56 ?_
    refine v_iload_n C (lv_at hl 0 rfl) rfl dX12_sumUp_57 ?_
    refine v_iconst C 0 (by decide) dX12_sumUp_58 ?_
    obtain ⟨b59, f59, hr⟩ := ob hr
    obtain ⟨g59, h59⟩ := rcv_n f59
    obtain ⟨S59, e59, hr⟩ := ob hr
    refine v_callV C (b := b59) h59 (by decide) rfl rfl (k_X12_lay e59) cw_X12_lay w_1734 w_1736 w_76 (show (parseMethodDescriptor (yX12_lay).desc).map (fun d => d.parameters.length) = some 2 by decide +kernel) ⟨by omega, by omega⟩ (rest := []) (stk2 := []) (by rw [g59]; rfl) rfl (Nat.le_of_ble_eq_true rfl) hl dX12_sumUp_59 ?_
    refine v_goto C 9 (by decide) dX12_sumUp_62 ?_
    exact ihk hr _ (lv_sub hl [1] rfl)
  · rw [if_pos c51] at hr
    refine v_iconst C 0 (by decide) dX12_sumUp_54 ?_
    obtain rfl := os hr
    obtain ⟨rfl, rfl⟩ := kR _ _ rfl
    exact v_zret C rfl dX12_sumUp_55
theorem b_X12_sumUp_27 {ru : St → Nat → Option (Int32 × St)} {fru lru : Nat} (hfe : 10 ≤ fru) (hle : 307 ≤ lru) (hru : ∀ {S S' : St} {x0 : Nat} {rr : Int32}, ru S x0 = some (rr, S') → Ct l G yX12_unit cX12_unit 1 (Option.some Jvm.ClassFile.FieldType.boolean) S [va_rf (some x0)] (some (.int rr)) S' fru lru)  {S0 S S' : St} {rr : Int32} {x0 : Nat} (C : Cx p s m args meth c G S0 yX12_sumUp cX12_sumUp 2 (Option.some Jvm.ClassFile.FieldType.boolean)) {o : ((Int32 × St))} {rec : St → Nat → Option ((Int32 × St))} (kR : ∀ (v : Int32) (Z : St), o = (v, Z) → rr = v ∧ S' = Z) (ihk : ∀ {S : St} {x0 : Nat}, rec S x0 = some o → ∀ ls : Array Slot, lv_has ls 2 [(0, va_rf (some x0))] → V p l e (rmo (fru + 2) (lru + 41) S0) s m args below meth c G S0 S (QM below args s G S0 S' (some (.int rr))) (F0 m 9 ls [])) (hr : f_X12_sumUp_27 ru rec S x0 = some o) : ∀ ls : Array Slot, lv_has ls 2 [(0, va_rf (some x0))] → V p l e (rmo (fru + 2) (lru + 41) S0) s m args below meth c G S0 S (QM below args s G S0 S' (some (.int rr))) (F0 m 27 ls []) := by
  intro ls hl
  unfold f_X12_sumUp_27 at hr
  refine v_aload_n C (lv_at hl 0 rfl) rfl dX12_sumUp_27 ?_
  obtain ⟨v28, e28, hr⟩ := ob hr
  refine v_getI C fl_RX12_311 rfl e28 dX12_sumUp_28 ?_
  refine v_bipush C 43 (by decide) dX12_sumUp_31 ?_
  refine v_icmp_ne C 40 (by decide) dX12_sumUp_33 (fun c33 => ?_) (fun c33 => ?_)
  · rw [if_neg c33] at hr
    refine v_bipush C 6 (by decide) dX12_sumUp_40 ?_
    exact b_X12_sumUp_42 hfe hle (@hru) C kR (@ihk) hr _ (lv_sub hl [0] rfl)
  · rw [if_pos c33] at hr
    refine v_iconst C 5 (by decide) dX12_sumUp_36 ?_
    refine v_goto C 42 (by decide) dX12_sumUp_37 ?_
    exact b_X12_sumUp_42 hfe hle (@hru) C kR (@ihk) hr _ (lv_sub hl [0] rfl)
theorem b_X12_sumUp_9 {ru : St → Nat → Option (Int32 × St)} {fru lru : Nat} (hfe : 10 ≤ fru) (hle : 307 ≤ lru) (hru : ∀ {S S' : St} {x0 : Nat} {rr : Int32}, ru S x0 = some (rr, S') → Ct l G yX12_unit cX12_unit 1 (Option.some Jvm.ClassFile.FieldType.boolean) S [va_rf (some x0)] (some (.int rr)) S' fru lru)  {S0 S' : St} {rr : Int32} (C : Cx p s m args meth c G S0 yX12_sumUp cX12_sumUp 2 (Option.some Jvm.ClassFile.FieldType.boolean)) {o : ((Int32 × St))} (kR : ∀ (v : Int32) (Z : St), o = (v, Z) → rr = v ∧ S' = Z) : ∀ (n : Nat) {S : St} {x0 : Nat}, f_X12_sumUp_9 ru n S x0 = some o → ∀ ls : Array Slot, lv_has ls 2 [(0, va_rf (some x0))] → V p l e (rmo (fru + 2) (lru + 41) S0) s m args below meth c G S0 S (QM below args s G S0 S' (some (.int rr))) (F0 m 9 ls []) := by
  intro n
  induction n with
  | zero => intro S x0 hr; cases hr
  | succ n ih =>
    intro S x0 hr ls hl
    unfold f_X12_sumUp_9 at hr
    refine v_aload_n C (lv_at hl 0 rfl) rfl dX12_sumUp_9 ?_
    obtain ⟨v10, e10, hr⟩ := ob hr
    refine v_getI C fl_RX12_311 rfl e10 dX12_sumUp_10 ?_
    refine v_bipush C 43 (by decide) dX12_sumUp_13 ?_
    refine v_icmp_eq C 27 (by decide) dX12_sumUp_15 (fun c15 => ?_) (fun c15 => ?_)
    · rw [if_pos c15] at hr
      exact b_X12_sumUp_27 hfe hle (@hru) C kR (@ih) hr _ (lv_sub hl [0] rfl)
    · rw [if_neg c15] at hr
      refine v_aload_n C (lv_at hl 0 rfl) rfl dX12_sumUp_18 ?_
      obtain ⟨v19, e19, hr⟩ := ob hr
      refine v_getI C fl_RX12_311 rfl e19 dX12_sumUp_19 ?_
      refine v_bipush C 45 (by decide) dX12_sumUp_22 ?_
      refine v_icmp_ne C 65 (by decide) dX12_sumUp_24 (fun c24 => ?_) (fun c24 => ?_)
      · rw [if_neg c24] at hr
        refine v_iconst C 1 (by decide) dX12_sumUp_65 ?_
        obtain rfl := os hr
        obtain ⟨rfl, rfl⟩ := kR _ _ rfl
        exact v_zret C rfl dX12_sumUp_66
      · rw [if_pos c24] at hr
        exact b_X12_sumUp_27 hfe hle (@hru) C kR (@ih) hr _ (lv_sub hl [0] rfl)
theorem k_X12_sumUp {l : Launch} {G : Ge} {ru : St → Nat → Option (Int32 × St)} {fru lru : Nat} (hfe : 10 ≤ fru) (hle : 307 ≤ lru) (hru : ∀ {S S' : St} {x0 : Nat} {rr : Int32}, ru S x0 = some (rr, S') → Ct l G yX12_unit cX12_unit 1 (Option.some Jvm.ClassFile.FieldType.boolean) S [va_rf (some x0)] (some (.int rr)) S' fru lru) {S S' : St} {x0 : Nat} {rr : Int32} (hr : f_X12_sumUp ru S x0 = some (rr, S')) : Ct l G yX12_sumUp cX12_sumUp 2 (Option.some Jvm.ClassFile.FieldType.boolean) S [va_rf (some x0)] (some (.int rr)) S' (fru + 2) (lru + 41) := by
  refine ct_of (by decide +kernel) (Nat.le_of_ble_eq_true rfl) ?_
  intro p e s m args below meth c C ls hl
  have hl : lv_has ls 2 [(0, va_rf (some x0))] := hl
  unfold f_X12_sumUp at hr
  refine v_aload_n C (lv_at hl 0 rfl) rfl dX12_sumUp_0 ?_
  obtain ⟨b1, f1, hr⟩ := ob hr
  obtain ⟨g1, h1⟩ := rcv_n f1
  obtain ⟨⟨v1, S1⟩, e1, hr⟩ := ob hr
  (try dsimp only at hr)
  refine v_callV C (b := b1) h1 (by decide) rfl rfl (k_X12_product hfe hle (@hru) e1) cw_X12_product w_1718 w_1720 w_72 (show (parseMethodDescriptor (yX12_product).desc).map (fun d => d.parameters.length) = some 0 by decide +kernel) ⟨by omega, by omega⟩ (rest := []) (stk2 := [.int v1]) (by rw [g1]; rfl) rfl (Nat.le_of_ble_eq_true rfl) hl dX12_sumUp_1 ?_
  refine v_if_ne C 9 (by decide) dX12_sumUp_4 (fun c4 => ?_) (fun c4 => ?_)
  · rw [if_neg c4] at hr
    exact b_X12_sumUp_9 hfe hle (@hru) C (fun _ _ q => by cases q; exact ⟨rfl, rfl⟩) FU hr _ (lv_sub hl [0] rfl)
  · rw [if_pos c4] at hr
    refine v_iconst C 0 (by decide) dX12_sumUp_7 ?_
    obtain ⟨rfl, rfl⟩ := Prod.mk.inj (os hr)
    exact v_zret C rfl dX12_sumUp_8
theorem b_X12_unit_93 {ru : St → Nat → Option (Int32 × St)} {fru lru : Nat} (hfe : 10 ≤ fru) (hle : 307 ≤ lru) (hru : ∀ {S S' : St} {x0 : Nat} {rr : Int32}, ru S x0 = some (rr, S') → Ct l G yX12_unit cX12_unit 1 (Option.some Jvm.ClassFile.FieldType.boolean) S [va_rf (some x0)] (some (.int rr)) S' fru lru)  {S0 S S' : St} {rr : Int32} {x0 : Nat} {t0 : Int32} {t1 : Option Nat} (C : Cx p s m args meth c G S0 yX12_unit cX12_unit 1 (Option.some Jvm.ClassFile.FieldType.boolean)) (hr : f_X12_unit_93 ru S x0 t0 t1 = some (rr, S')) : ∀ ls : Array Slot, lv_has ls 1 [(0, va_rf (some x0))] → V p l e (rmo (fru + 3) (lru + 62) S0) s m args below meth c G S0 S (QM below args s G S0 S' (some (.int rr))) (F0 m 93 ls [.int t0, va_rf t1]) := by
  intro ls hl
  unfold f_X12_unit_93 at hr
  refine v_aload_n C (lv_at hl 0 rfl) rfl dX12_unit_93 ?_
  obtain ⟨v94, e94, hr⟩ := ob hr
  refine v_getI C fl_RX12_323 rfl e94 dX12_unit_94 ?_
  obtain ⟨b97, f97, hr⟩ := ob hr
  obtain ⟨g97, h97⟩ := rcv_n f97
  obtain ⟨S97, e97, hr⟩ := ob hr
  refine v_callV C (b := b97) h97 (by decide) rfl rfl (k_X12_lay e97) cw_X12_lay w_1734 w_1736 w_76 (show (parseMethodDescriptor (yX12_lay).desc).map (fun d => d.parameters.length) = some 2 by decide +kernel) ⟨by omega, by omega⟩ (rest := []) (stk2 := []) (by rw [g97]; rfl) rfl (Nat.le_of_ble_eq_true rfl) hl dX12_unit_97 ?_
  refine v_aload_n C (lv_at hl 0 rfl) rfl dX12_unit_100 ?_
  obtain ⟨b101, f101, hr⟩ := ob hr
  obtain ⟨g101, h101⟩ := rcv_n f101
  obtain ⟨S101, e101, hr⟩ := ob hr
  refine v_callV C (b := b101) h101 (by decide) rfl rfl (k_X12_next0 e101) cw_X12_next0 w_1656 w_1658 w_62 (show (parseMethodDescriptor (yX12_next0).desc).map (fun d => d.parameters.length) = some 0 by decide +kernel) ⟨by omega, by omega⟩ (rest := []) (stk2 := []) (by rw [g101]; rfl) rfl (Nat.le_of_ble_eq_true rfl) hl dX12_unit_101 ?_
  refine v_iconst C 1 (by decide) dX12_unit_104 ?_
  obtain ⟨rfl, rfl⟩ := Prod.mk.inj (os hr)
  exact v_zret C rfl dX12_unit_105
theorem b_X12_unit_70 {ru : St → Nat → Option (Int32 × St)} {fru lru : Nat} (hfe : 10 ≤ fru) (hle : 307 ≤ lru) (hru : ∀ {S S' : St} {x0 : Nat} {rr : Int32}, ru S x0 = some (rr, S') → Ct l G yX12_unit cX12_unit 1 (Option.some Jvm.ClassFile.FieldType.boolean) S [va_rf (some x0)] (some (.int rr)) S' fru lru)  {S0 S S' : St} {rr : Int32} {x0 : Nat} (C : Cx p s m args meth c G S0 yX12_unit cX12_unit 1 (Option.some Jvm.ClassFile.FieldType.boolean)) (hr : f_X12_unit_70 ru S x0 = some (rr, S')) : ∀ ls : Array Slot, lv_has ls 1 [(0, va_rf (some x0))] → V p l e (rmo (fru + 3) (lru + 62) S0) s m args below meth c G S0 S (QM below args s G S0 S' (some (.int rr))) (F0 m 70 ls []) := by
  intro ls hl
  unfold f_X12_unit_70 at hr
  refine v_aload_n C (lv_at hl 0 rfl) rfl dX12_unit_70 ?_
  refine v_aload_n C (lv_at hl 0 rfl) rfl dX12_unit_71 ?_
  obtain ⟨v72, e72, hr⟩ := ob hr
  refine v_getI C fl_RX12_311 rfl e72 dX12_unit_72 ?_
  refine v_iconst C 2 (by decide) dX12_unit_75 ?_
  refine v_icmp_ne C 83 (by decide) dX12_unit_76 (fun c76 => ?_) (fun c76 => ?_)
  · rw [if_neg c76] at hr
    refine v_iconst C 1 (by decide) dX12_unit_83 ?_
    refine v_aload_n C (lv_at hl 0 rfl) rfl dX12_unit_84 ?_
    obtain ⟨v85, e85, hr⟩ := ob hr
    refine v_getI C fl_RX12_311 rfl e85 dX12_unit_85 ?_
    refine v_iadd C dX12_unit_88 ?_
    refine v_sipush C 201 (by decide) dX12_unit_89 ?_
    refine v_isub C dX12_unit_92 ?_
    exact b_X12_unit_93 hfe hle (@hru) C hr _ (lv_sub hl [0] rfl)
  · rw [if_pos c76] at hr
    refine v_iconst C 0 (by decide) dX12_unit_79 ?_
    refine v_goto C 93 (by decide) dX12_unit_80 ?_
    exact b_X12_unit_93 hfe hle (@hru) C hr _ (lv_sub hl [0] rfl)
theorem k_X12_unit {l : Launch} {G : Ge} {ru : St → Nat → Option (Int32 × St)} {fru lru : Nat} (hfe : 10 ≤ fru) (hle : 307 ≤ lru) (hru : ∀ {S S' : St} {x0 : Nat} {rr : Int32}, ru S x0 = some (rr, S') → Ct l G yX12_unit cX12_unit 1 (Option.some Jvm.ClassFile.FieldType.boolean) S [va_rf (some x0)] (some (.int rr)) S' fru lru) {S S' : St} {x0 : Nat} {rr : Int32} (hr : f_X12_unit ru S x0 = some (rr, S')) : Ct l G yX12_unit cX12_unit 1 (Option.some Jvm.ClassFile.FieldType.boolean) S [va_rf (some x0)] (some (.int rr)) S' (fru + 3) (lru + 62) := by
  refine ct_of (by decide +kernel) (Nat.le_of_ble_eq_true rfl) ?_
  intro p e s m args below meth c C ls hl
  have hl : lv_has ls 1 [(0, va_rf (some x0))] := hl
  unfold f_X12_unit at hr
  refine v_aload_n C (lv_at hl 0 rfl) rfl dX12_unit_0 ?_
  obtain ⟨v1, e1, hr⟩ := ob hr
  refine v_getI C fl_RX12_311 rfl e1 dX12_unit_1 ?_
  refine v_bipush C 40 (by decide) dX12_unit_4 ?_
  refine v_icmp_ne C 46 (by decide) dX12_unit_6 (fun c6 => ?_) (fun c6 => ?_)
  · rw [if_neg c6] at hr
    refine v_aload_n C (lv_at hl 0 rfl) rfl dX12_unit_46 ?_
    obtain ⟨v47, e47, hr⟩ := ob hr
    refine v_getI C fl_RX12_311 rfl e47 dX12_unit_47 ?_
    refine v_iconst C 2 (by decide) dX12_unit_50 ?_
    refine v_icmp_eq C 70 (by decide) dX12_unit_51 (fun c51 => ?_) (fun c51 => ?_)
    · rw [if_pos c51] at hr
      exact b_X12_unit_70 hfe hle (@hru) C hr _ (lv_sub hl [0] rfl)
    · rw [if_neg c51] at hr
      refine v_aload_n C (lv_at hl 0 rfl) rfl dX12_unit_54 ?_
      obtain ⟨v55, e55, hr⟩ := ob hr
      refine v_getI C fl_RX12_311 rfl e55 dX12_unit_55 ?_
      refine v_sipush C 201 (by decide) dX12_unit_58 ?_
      refine v_icmp_ge C 70 (by decide) dX12_unit_61 (fun c61 => ?_) (fun c61 => ?_)
      · rw [if_pos c61] at hr
        exact b_X12_unit_70 hfe hle (@hru) C hr _ (lv_sub hl [0] rfl)
      · rw [if_neg c61] at hr
        refine v_aload_n C (lv_at hl 0 rfl) rfl dX12_unit_64 ?_
        refine v_iconst C 1 (by decide) dX12_unit_65 ?_
        obtain ⟨b66, f66, hr⟩ := ob hr
        obtain ⟨g66, h66⟩ := rcv_n f66
        obtain ⟨⟨v66, S66⟩, e66, hr⟩ := ob hr
        (try dsimp only at hr)
        refine v_callV C (b := b66) h66 (by decide) rfl rfl (k_X12_bad e66) cw_X12_bad w_1698 w_1700 w_67 (show (parseMethodDescriptor (yX12_bad).desc).map (fun d => d.parameters.length) = some 1 by decide +kernel) ⟨by omega, by omega⟩ (rest := []) (stk2 := [.int v66]) (by rw [g66]; rfl) rfl (Nat.le_of_ble_eq_true rfl) hl dX12_unit_66 ?_
        obtain ⟨z69, e69, hr⟩ := ob hr
        obtain ⟨y69, n69⟩ := zchk_n e69
        obtain ⟨rfl, rfl⟩ := Prod.mk.inj (os hr)
        rw [← y69]
        exact v_zret C n69 dX12_unit_69
  · rw [if_pos c6] at hr
    refine v_aload_n C (lv_at hl 0 rfl) rfl dX12_unit_9 ?_
    obtain ⟨b10, f10, hr⟩ := ob hr
    obtain ⟨g10, h10⟩ := rcv_n f10
    obtain ⟨⟨v10, S10⟩, e10, hr⟩ := ob hr
    (try dsimp only at hr)
    refine v_callV C (b := b10) h10 (by decide) rfl rfl (k_X12_opens e10) cw_X12_opens w_1726 w_1728 w_74 (show (parseMethodDescriptor (yX12_opens).desc).map (fun d => d.parameters.length) = some 0 by decide +kernel) ⟨by omega, by omega⟩ (rest := []) (stk2 := [.int v10]) (by rw [g10]; rfl) rfl (Nat.le_of_ble_eq_true rfl) hl dX12_unit_10 ?_
    refine v_if_eq C 32 (by decide) dX12_unit_13 (fun c13 => ?_) (fun c13 => ?_)
    · rw [if_pos c13] at hr
      refine v_iconst C 0 (by decide) dX12_unit_32 ?_
      obtain ⟨rfl, rfl⟩ := Prod.mk.inj (os hr)
      exact v_zret C rfl dX12_unit_33
    · rw [if_neg c13] at hr
      refine v_aload_n C (lv_at hl 0 rfl) rfl dX12_unit_16 ?_
      obtain ⟨b17, f17, hr⟩ := ob hr
      obtain ⟨g17, h17⟩ := rcv_n f17
      obtain ⟨⟨v17, S17⟩, e17, hr⟩ := ob hr
      (try dsimp only at hr)
      refine v_callV C (b := b17) h17 (by decide) rfl rfl (k_X12_sumUp hfe hle (@hru) e17) cw_X12_sumUp w_1714 w_1716 w_71 (show (parseMethodDescriptor (yX12_sumUp).desc).map (fun d => d.parameters.length) = some 0 by decide +kernel) ⟨by omega, by omega⟩ (rest := []) (stk2 := [.int v17]) (by rw [g17]; rfl) rfl (Nat.le_of_ble_eq_true rfl) hl dX12_unit_17 ?_
      refine v_if_eq C 32 (by decide) dX12_unit_20 (fun c20 => ?_) (fun c20 => ?_)
      · rw [if_pos c20] at hr
        refine v_iconst C 0 (by decide) dX12_unit_32 ?_
        obtain ⟨rfl, rfl⟩ := Prod.mk.inj (os hr)
        exact v_zret C rfl dX12_unit_33
      · rw [if_neg c20] at hr
        refine v_aload_n C (lv_at hl 0 rfl) rfl dX12_unit_23 ?_
        refine v_bipush C 41 (by decide) dX12_unit_24 ?_
        obtain ⟨b26, f26, hr⟩ := ob hr
        obtain ⟨g26, h26⟩ := rcv_n f26
        obtain ⟨⟨v26, S26⟩, e26, hr⟩ := ob hr
        (try dsimp only at hr)
        refine v_callV C (b := b26) h26 (by decide) rfl rfl (k_X12_need e26) cw_X12_need w_1730 w_1732 w_75 (show (parseMethodDescriptor (yX12_need).desc).map (fun d => d.parameters.length) = some 1 by decide +kernel) ⟨by omega, by omega⟩ (rest := []) (stk2 := [.int v26]) (by rw [g26]; rfl) rfl (Nat.le_of_ble_eq_true rfl) hl dX12_unit_26 ?_
        refine v_if_ne C 34 (by decide) dX12_unit_29 (fun c29 => ?_) (fun c29 => ?_)
        · rw [if_neg c29] at hr
          refine v_aload_n C (lv_at hl 0 rfl) rfl dX12_unit_34 ?_
          refine v_dup C (rf_cat _) dX12_unit_35 ?_
          obtain ⟨v36, e36, hr⟩ := ob hr
          refine v_getI C fl_RX12_344 rfl e36 dX12_unit_36 ?_
          refine v_iconst C 1 (by decide) dX12_unit_39 ?_
          refine v_isub C dX12_unit_40 ?_
          obtain ⟨S41, e41, hr⟩ := ob hr
          refine v_putI C fl_RX12_344 (Or.inl rfl) rfl e41 dX12_unit_41 ?_
          refine v_iconst C 1 (by decide) dX12_unit_44 ?_
          obtain ⟨rfl, rfl⟩ := Prod.mk.inj (os hr)
          exact v_zret C rfl dX12_unit_45
        · rw [if_pos c29] at hr
          refine v_iconst C 0 (by decide) dX12_unit_32 ?_
          obtain ⟨rfl, rfl⟩ := Prod.mk.inj (os hr)
          exact v_zret C rfl dX12_unit_33
theorem kr_X12_unit {l : Launch} {G : Ge} : ∀ (d : Nat) {S S' : St} {x0 : Nat} {rr : Int32}, r_X12_unit d S x0 = some (rr, S') → Ct l G yX12_unit cX12_unit 1 (Option.some Jvm.ClassFile.FieldType.boolean) S [va_rf (some x0)] (some (.int rr)) S' (10 + 3 * d) (307 + 62 * d) := by
  intro d
  induction d with
  | zero => intro S S' x0 rr hr; cases hr
  | succ d ih =>
    intro S S' x0 rr hr
    unfold r_X12_unit at hr
    rw [Nat.mul_succ, Nat.mul_succ, ← Nat.add_assoc, ← Nat.add_assoc]
    exact k_X12_unit (ru := r_X12_unit d) (fru := 10 + 3 * d) (lru := 307 + 62 * d) (by omega) (by omega) (@ih) hr
theorem K_X12_product {l : Launch} {G : Ge} {S S' : St} {x0 : Nat} {rr : Int32} (hr : F_X12_product S x0 = some (rr, S')) : Ct l G yX12_product cX12_product 2 (Option.some Jvm.ClassFile.FieldType.boolean) S [va_rf (some x0)] (some (.int rr)) S' 107 2311 := k_X12_product (by decide) (by decide) (@kr_X12_unit l G 32) hr
theorem K_X12_sumUp {l : Launch} {G : Ge} {S S' : St} {x0 : Nat} {rr : Int32} (hr : F_X12_sumUp S x0 = some (rr, S')) : Ct l G yX12_sumUp cX12_sumUp 2 (Option.some Jvm.ClassFile.FieldType.boolean) S [va_rf (some x0)] (some (.int rr)) S' 108 2332 := k_X12_sumUp (by decide) (by decide) (@kr_X12_unit l G 32) hr
theorem K_X12_unit {l : Launch} {G : Ge} {S S' : St} {x0 : Nat} {rr : Int32} (hr : F_X12_unit S x0 = some (rr, S')) : Ct l G yX12_unit cX12_unit 1 (Option.some Jvm.ClassFile.FieldType.boolean) S [va_rf (some x0)] (some (.int rr)) S' 106 2291 := kr_X12_unit 32 hr
-- X12_one
def f_X12_one_96 (ru : St → Nat → Option (Int32 × St)) (S : St) (x0 : Nat) (t0 : Int32) : Option (Int32 × St) :=
    (if t0 = (-1) then
    (rcv S (some x0) 13).bind fun b104 =>
    (f_X12_bad S b104 1).bind fun (v104, S104) =>
    (zchk v104).bind fun z107 =>
    some (z107, S104)
    else
    (rcv S (some x0) 13).bind fun b109 =>
    (f_X12_next0 S b109).bind fun S109 =>
    (rcv S109 (some x0) 13).bind fun b113 =>
    (F_X12_sumUp S109 b113).bind fun (v113, S113) =>
    (if v113 = 0 then
    some (0, S113)
    else
    (rcv S113 (some x0) 13).bind fun b124 =>
    (f_X12_lay S113 b124 t0 0).bind fun S124 =>
    some (1, S124)))
def f_X12_one (ru : St → Nat → Option (Int32 × St)) (S : St) (x0 : Nat) : Option (Int32 × St) :=
    (getI S (some x0) 13 46).bind fun v1 =>
    (if v1 = 12 then
    (rcv S (some x0) 13).bind fun b10 =>
    (f_X12_opens S b10).bind fun (v10, S10) =>
    (if v10 = 0 then
    some (0, S10)
    else
    (rcv S10 (some x0) 13).bind fun b17 =>
    (ru S10 b17).bind fun (v17, S17) =>
    (if v17 = 0 then
    some (0, S17)
    else
    (getI S17 (some x0) 13 52).bind fun v27 =>
    (putI S17 (some x0) 13 52 (v27 - 1)).bind fun S32 =>
    (rcv S32 (some x0) 13).bind fun b39 =>
    (f_X12_lay S32 b39 12 0).bind fun S39 =>
    some (1, S39)))
    else
    (rcv S (some x0) 13).bind fun b45 =>
    (F_X12_sumUp S b45).bind fun (v45, S45) =>
    (if v45 = 0 then
    some (0, S45)
    else
    (getI S45 (some x0) 13 46).bind fun v54 =>
    (if v54 = 60 then
    f_X12_one_96 ru S45 x0 9
    else
    (getI S45 (some x0) 13 46).bind fun v68 =>
    (if v68 = 61 then
    f_X12_one_96 ru S45 x0 10
    else
    (getI S45 (some x0) 13 46).bind fun v82 =>
    (if v82 = 62 then
    f_X12_one_96 ru S45 x0 11
    else
    f_X12_one_96 ru S45 x0 (-1))))))
def r_X12_one : Nat → St → Nat → Option (Int32 × St)
  | 0, _, _ => none
  | d + 1, S, x0 => f_X12_one (r_X12_one d) S x0
def F_X12_one (S : St) (x0 : Nat) : Option (Int32 × St) := r_X12_one 32 S x0
theorem b_X12_one_96 {ru : St → Nat → Option (Int32 × St)} {fru lru : Nat} (hfe : 109 ≤ fru) (hle : 2353 ≤ lru) (hru : ∀ {S S' : St} {x0 : Nat} {rr : Int32}, ru S x0 = some (rr, S') → Ct l G yX12_one cX12_one 2 (Option.some Jvm.ClassFile.FieldType.boolean) S [va_rf (some x0)] (some (.int rr)) S' fru lru)  {S0 S S' : St} {rr : Int32} {x0 : Nat} {t0 : Int32} (C : Cx p s m args meth c G S0 yX12_one cX12_one 2 (Option.some Jvm.ClassFile.FieldType.boolean)) (hr : f_X12_one_96 ru S x0 t0 = some (rr, S')) : ∀ ls : Array Slot, lv_has ls 2 [(0, va_rf (some x0))] → V p l e (rmo (fru + 1) (lru + 21) S0) s m args below meth c G S0 S (QM below args s G S0 S' (some (.int rr))) (F0 m 96 ls [.int t0]) := by
  intro ls hl
  unfold f_X12_one_96 at hr
  refine v_istore_n C (i := 1) (lv' := [(1, .int t0), (0, va_rf (some x0))]) hl rfl (by decide) rfl dX12_one_96 (fun ls hl => ?_)
  refine v_iload_n C (lv_at hl 0 rfl) rfl dX12_one_97 ?_
  refine v_iconst C (-1) (by decide) dX12_one_98 ?_
  refine v_icmp_ne C 108 (by decide) dX12_one_99 (fun c99 => ?_) (fun c99 => ?_)
  · rw [if_neg c99] at hr
    refine v_aload_n C (lv_at hl 1 rfl) rfl dX12_one_108 ?_
    obtain ⟨b109, f109, hr⟩ := ob hr
    obtain ⟨g109, h109⟩ := rcv_n f109
    obtain ⟨S109, e109, hr⟩ := ob hr
    refine v_callV C (b := b109) h109 (by decide) rfl rfl (k_X12_next0 e109) cw_X12_next0 w_1656 w_1658 w_62 (show (parseMethodDescriptor (yX12_next0).desc).map (fun d => d.parameters.length) = some 0 by decide +kernel) ⟨by omega, by omega⟩ (rest := []) (stk2 := []) (by rw [g109]; rfl) rfl (Nat.le_of_ble_eq_true rfl) hl dX12_one_109 ?_
    refine v_aload_n C (lv_at hl 1 rfl) rfl dX12_one_112 ?_
    obtain ⟨b113, f113, hr⟩ := ob hr
    obtain ⟨g113, h113⟩ := rcv_n f113
    obtain ⟨⟨v113, S113⟩, e113, hr⟩ := ob hr
    (try dsimp only at hr)
    refine v_callV C (b := b113) h113 (by decide) rfl rfl (K_X12_sumUp e113) cw_X12_sumUp w_1714 w_1716 w_71 (show (parseMethodDescriptor (yX12_sumUp).desc).map (fun d => d.parameters.length) = some 0 by decide +kernel) ⟨by omega, by omega⟩ (rest := []) (stk2 := [.int v113]) (by rw [g113]; rfl) rfl (Nat.le_of_ble_eq_true rfl) hl dX12_one_113 ?_
    refine v_if_ne C 121 (by decide) dX12_one_116 (fun c116 => ?_) (fun c116 => ?_)
    · rw [if_neg c116] at hr
      refine v_aload_n C (lv_at hl 1 rfl) rfl dX12_one_121 ?_
      refine v_iload_n C (lv_at hl 0 rfl) rfl dX12_one_122 ?_
      refine v_iconst C 0 (by decide) dX12_one_123 ?_
      obtain ⟨b124, f124, hr⟩ := ob hr
      obtain ⟨g124, h124⟩ := rcv_n f124
      obtain ⟨S124, e124, hr⟩ := ob hr
      refine v_callV C (b := b124) h124 (by decide) rfl rfl (k_X12_lay e124) cw_X12_lay w_1734 w_1736 w_76 (show (parseMethodDescriptor (yX12_lay).desc).map (fun d => d.parameters.length) = some 2 by decide +kernel) ⟨by omega, by omega⟩ (rest := []) (stk2 := []) (by rw [g124]; rfl) rfl (Nat.le_of_ble_eq_true rfl) hl dX12_one_124 ?_
      refine v_iconst C 1 (by decide) dX12_one_127 ?_
      obtain ⟨rfl, rfl⟩ := Prod.mk.inj (os hr)
      exact v_zret C rfl dX12_one_128
    · rw [if_pos c116] at hr
      refine v_iconst C 0 (by decide) dX12_one_119 ?_
      obtain ⟨rfl, rfl⟩ := Prod.mk.inj (os hr)
      exact v_zret C rfl dX12_one_120
  · rw [if_pos c99] at hr
    refine v_aload_n C (lv_at hl 1 rfl) rfl dX12_one_102 ?_
    refine v_iconst C 1 (by decide) dX12_one_103 ?_
    obtain ⟨b104, f104, hr⟩ := ob hr
    obtain ⟨g104, h104⟩ := rcv_n f104
    obtain ⟨⟨v104, S104⟩, e104, hr⟩ := ob hr
    (try dsimp only at hr)
    refine v_callV C (b := b104) h104 (by decide) rfl rfl (k_X12_bad e104) cw_X12_bad w_1698 w_1700 w_67 (show (parseMethodDescriptor (yX12_bad).desc).map (fun d => d.parameters.length) = some 1 by decide +kernel) ⟨by omega, by omega⟩ (rest := []) (stk2 := [.int v104]) (by rw [g104]; rfl) rfl (Nat.le_of_ble_eq_true rfl) hl dX12_one_104 ?_
    obtain ⟨z107, e107, hr⟩ := ob hr
    obtain ⟨y107, n107⟩ := zchk_n e107
    obtain ⟨rfl, rfl⟩ := Prod.mk.inj (os hr)
    rw [← y107]
    exact v_zret C n107 dX12_one_107
theorem k_X12_one {l : Launch} {G : Ge} {ru : St → Nat → Option (Int32 × St)} {fru lru : Nat} (hfe : 109 ≤ fru) (hle : 2353 ≤ lru) (hru : ∀ {S S' : St} {x0 : Nat} {rr : Int32}, ru S x0 = some (rr, S') → Ct l G yX12_one cX12_one 2 (Option.some Jvm.ClassFile.FieldType.boolean) S [va_rf (some x0)] (some (.int rr)) S' fru lru) {S S' : St} {x0 : Nat} {rr : Int32} (hr : f_X12_one ru S x0 = some (rr, S')) : Ct l G yX12_one cX12_one 2 (Option.some Jvm.ClassFile.FieldType.boolean) S [va_rf (some x0)] (some (.int rr)) S' (fru + 1) (lru + 21) := by
  refine ct_of (by decide +kernel) (Nat.le_of_ble_eq_true rfl) ?_
  intro p e s m args below meth c C ls hl
  have hl : lv_has ls 2 [(0, va_rf (some x0))] := hl
  unfold f_X12_one at hr
  refine v_aload_n C (lv_at hl 0 rfl) rfl dX12_one_0 ?_
  obtain ⟨v1, e1, hr⟩ := ob hr
  refine v_getI C fl_RX12_311 rfl e1 dX12_one_1 ?_
  refine v_bipush C 12 (by decide) dX12_one_4 ?_
  refine v_icmp_ne C 44 (by decide) dX12_one_6 (fun c6 => ?_) (fun c6 => ?_)
  · rw [if_neg c6] at hr
    refine v_aload_n C (lv_at hl 0 rfl) rfl dX12_one_44 ?_
    obtain ⟨b45, f45, hr⟩ := ob hr
    obtain ⟨g45, h45⟩ := rcv_n f45
    obtain ⟨⟨v45, S45⟩, e45, hr⟩ := ob hr
    (try dsimp only at hr)
    refine v_callV C (b := b45) h45 (by decide) rfl rfl (K_X12_sumUp e45) cw_X12_sumUp w_1714 w_1716 w_71 (show (parseMethodDescriptor (yX12_sumUp).desc).map (fun d => d.parameters.length) = some 0 by decide +kernel) ⟨by omega, by omega⟩ (rest := []) (stk2 := [.int v45]) (by rw [g45]; rfl) rfl (Nat.le_of_ble_eq_true rfl) hl dX12_one_45 ?_
    refine v_if_ne C 53 (by decide) dX12_one_48 (fun c48 => ?_) (fun c48 => ?_)
    · rw [if_neg c48] at hr
      refine v_aload_n C (lv_at hl 0 rfl) rfl dX12_one_53 ?_
      obtain ⟨v54, e54, hr⟩ := ob hr
      refine v_getI C fl_RX12_311 rfl e54 dX12_one_54 ?_
      refine v_bipush C 60 (by decide) dX12_one_57 ?_
      refine v_icmp_ne C 67 (by decide) dX12_one_59 (fun c59 => ?_) (fun c59 => ?_)
      · rw [if_neg c59] at hr
        refine v_aload_n C (lv_at hl 0 rfl) rfl dX12_one_67 ?_
        obtain ⟨v68, e68, hr⟩ := ob hr
        refine v_getI C fl_RX12_311 rfl e68 dX12_one_68 ?_
        refine v_bipush C 61 (by decide) dX12_one_71 ?_
        refine v_icmp_ne C 81 (by decide) dX12_one_73 (fun c73 => ?_) (fun c73 => ?_)
        · rw [if_neg c73] at hr
          refine v_aload_n C (lv_at hl 0 rfl) rfl dX12_one_81 ?_
          obtain ⟨v82, e82, hr⟩ := ob hr
          refine v_getI C fl_RX12_311 rfl e82 dX12_one_82 ?_
          refine v_bipush C 62 (by decide) dX12_one_85 ?_
          refine v_icmp_ne C 95 (by decide) dX12_one_87 (fun c87 => ?_) (fun c87 => ?_)
          · rw [if_neg c87] at hr
            refine v_iconst C (-1) (by decide) dX12_one_95 ?_
            exact b_X12_one_96 hfe hle (@hru) C hr _ (lv_sub hl [0] rfl)
          · rw [if_pos c87] at hr
            refine v_bipush C 11 (by decide) dX12_one_90 ?_
            refine v_goto C 96 (by decide) dX12_one_92 ?_
            exact b_X12_one_96 hfe hle (@hru) C hr _ (lv_sub hl [0] rfl)
        · rw [if_pos c73] at hr
          refine v_bipush C 10 (by decide) dX12_one_76 ?_
          refine v_goto C 96 (by decide) dX12_one_78 ?_
          exact b_X12_one_96 hfe hle (@hru) C hr _ (lv_sub hl [0] rfl)
      · rw [if_pos c59] at hr
        refine v_bipush C 9 (by decide) dX12_one_62 ?_
        refine v_goto C 96 (by decide) dX12_one_64 ?_
        exact b_X12_one_96 hfe hle (@hru) C hr _ (lv_sub hl [0] rfl)
    · rw [if_pos c48] at hr
      refine v_iconst C 0 (by decide) dX12_one_51 ?_
      obtain ⟨rfl, rfl⟩ := Prod.mk.inj (os hr)
      exact v_zret C rfl dX12_one_52
  · rw [if_pos c6] at hr
    refine v_aload_n C (lv_at hl 0 rfl) rfl dX12_one_9 ?_
    obtain ⟨b10, f10, hr⟩ := ob hr
    obtain ⟨g10, h10⟩ := rcv_n f10
    obtain ⟨⟨v10, S10⟩, e10, hr⟩ := ob hr
    (try dsimp only at hr)
    refine v_callV C (b := b10) h10 (by decide) rfl rfl (k_X12_opens e10) cw_X12_opens w_1726 w_1728 w_74 (show (parseMethodDescriptor (yX12_opens).desc).map (fun d => d.parameters.length) = some 0 by decide +kernel) ⟨by omega, by omega⟩ (rest := []) (stk2 := [.int v10]) (by rw [g10]; rfl) rfl (Nat.le_of_ble_eq_true rfl) hl dX12_one_10 ?_
    refine v_if_eq C 23 (by decide) dX12_one_13 (fun c13 => ?_) (fun c13 => ?_)
    · rw [if_pos c13] at hr
      refine v_iconst C 0 (by decide) dX12_one_23 ?_
      obtain ⟨rfl, rfl⟩ := Prod.mk.inj (os hr)
      exact v_zret C rfl dX12_one_24
    · rw [if_neg c13] at hr
      refine v_aload_n C (lv_at hl 0 rfl) rfl dX12_one_16 ?_
      obtain ⟨b17, f17, hr⟩ := ob hr
      obtain ⟨g17, h17⟩ := rcv_n f17
      obtain ⟨⟨v17, S17⟩, e17, hr⟩ := ob hr
      (try dsimp only at hr)
      refine v_callV C (b := b17) h17 (by decide) rfl rfl (hru e17) cw_X12_one w_1746 w_1748 w_79 (show (parseMethodDescriptor (yX12_one).desc).map (fun d => d.parameters.length) = some 0 by decide +kernel) ⟨by omega, by omega⟩ (rest := []) (stk2 := [.int v17]) (by rw [g17]; rfl) rfl (Nat.le_of_ble_eq_true rfl) hl dX12_one_17 ?_
      refine v_if_ne C 25 (by decide) dX12_one_20 (fun c20 => ?_) (fun c20 => ?_)
      · rw [if_neg c20] at hr
        refine v_aload_n C (lv_at hl 0 rfl) rfl dX12_one_25 ?_
        refine v_dup C (rf_cat _) dX12_one_26 ?_
        obtain ⟨v27, e27, hr⟩ := ob hr
        refine v_getI C fl_RX12_344 rfl e27 dX12_one_27 ?_
        refine v_iconst C 1 (by decide) dX12_one_30 ?_
        refine v_isub C dX12_one_31 ?_
        obtain ⟨S32, e32, hr⟩ := ob hr
        refine v_putI C fl_RX12_344 (Or.inl rfl) rfl e32 dX12_one_32 ?_
        refine v_aload_n C (lv_at hl 0 rfl) rfl dX12_one_35 ?_
        refine v_bipush C 12 (by decide) dX12_one_36 ?_
        refine v_iconst C 0 (by decide) dX12_one_38 ?_
        obtain ⟨b39, f39, hr⟩ := ob hr
        obtain ⟨g39, h39⟩ := rcv_n f39
        obtain ⟨S39, e39, hr⟩ := ob hr
        refine v_callV C (b := b39) h39 (by decide) rfl rfl (k_X12_lay e39) cw_X12_lay w_1734 w_1736 w_76 (show (parseMethodDescriptor (yX12_lay).desc).map (fun d => d.parameters.length) = some 2 by decide +kernel) ⟨by omega, by omega⟩ (rest := []) (stk2 := []) (by rw [g39]; rfl) rfl (Nat.le_of_ble_eq_true rfl) hl dX12_one_39 ?_
        refine v_iconst C 1 (by decide) dX12_one_42 ?_
        obtain ⟨rfl, rfl⟩ := Prod.mk.inj (os hr)
        exact v_zret C rfl dX12_one_43
      · rw [if_pos c20] at hr
        refine v_iconst C 0 (by decide) dX12_one_23 ?_
        obtain ⟨rfl, rfl⟩ := Prod.mk.inj (os hr)
        exact v_zret C rfl dX12_one_24
theorem kr_X12_one {l : Launch} {G : Ge} : ∀ (d : Nat) {S S' : St} {x0 : Nat} {rr : Int32}, r_X12_one d S x0 = some (rr, S') → Ct l G yX12_one cX12_one 2 (Option.some Jvm.ClassFile.FieldType.boolean) S [va_rf (some x0)] (some (.int rr)) S' (109 + 1 * d) (2353 + 21 * d) := by
  intro d
  induction d with
  | zero => intro S S' x0 rr hr; cases hr
  | succ d ih =>
    intro S S' x0 rr hr
    unfold r_X12_one at hr
    rw [Nat.mul_succ, Nat.mul_succ, ← Nat.add_assoc, ← Nat.add_assoc]
    exact k_X12_one (ru := r_X12_one d) (fru := 109 + 1 * d) (lru := 2353 + 21 * d) (by omega) (by omega) (@ih) hr
theorem K_X12_one {l : Launch} {G : Ge} {S S' : St} {x0 : Nat} {rr : Int32} (hr : F_X12_one S x0 = some (rr, S')) : Ct l G yX12_one cX12_one 2 (Option.some Jvm.ClassFile.FieldType.boolean) S [va_rf (some x0)] (some (.int rr)) S' 141 3025 := kr_X12_one 32 hr
-- X12_all
def f_X12_all_9 : Nat → St → Nat → Option ((Int32 × St))
  | 0, _, _ => none
  | n + 1, S, x0 =>
    (getI S (some x0) 13 46).bind fun v10 =>
    (if v10 = 11 then
    (rcv S (some x0) 13).bind fun b19 =>
    (f_X12_next0 S b19).bind fun S19 =>
    (rcv S19 (some x0) 13).bind fun b23 =>
    (F_X12_one S19 b23).bind fun (v23, S23) =>
    (if v23 = 0 then
    some (0, S23)
    else
    (rcv S23 (some x0) 13).bind fun b35 =>
    (f_X12_lay S23 b35 13 0).bind fun S35 =>
    f_X12_all_9 n S35 x0)
    else
    some (1, S))
def f_X12_all (S : St) (x0 : Nat) : Option (Int32 × St) :=
    (rcv S (some x0) 13).bind fun b1 =>
    (F_X12_one S b1).bind fun (v1, S1) =>
    (if v1 = 0 then
    some (0, S1)
    else
    f_X12_all_9 FU S1 x0)
theorem b_X12_all_9  {S0 S' : St} {rr : Int32} (C : Cx p s m args meth c G S0 yX12_all cX12_all 1 (Option.some Jvm.ClassFile.FieldType.boolean)) {o : ((Int32 × St))} (kR : ∀ (v : Int32) (Z : St), o = (v, Z) → rr = v ∧ S' = Z) : ∀ (n : Nat) {S : St} {x0 : Nat}, f_X12_all_9 n S x0 = some o → ∀ ls : Array Slot, lv_has ls 1 [(0, va_rf (some x0))] → V p l e (rmo 142 3046 S0) s m args below meth c G S0 S (QM below args s G S0 S' (some (.int rr))) (F0 m 9 ls []) := by
  intro n
  induction n with
  | zero => intro S x0 hr; cases hr
  | succ n ih =>
    intro S x0 hr ls hl
    unfold f_X12_all_9 at hr
    refine v_aload_n C (lv_at hl 0 rfl) rfl dX12_all_9 ?_
    obtain ⟨v10, e10, hr⟩ := ob hr
    refine v_getI C fl_RX12_311 rfl e10 dX12_all_10 ?_
    refine v_bipush C 11 (by decide) dX12_all_13 ?_
    refine v_icmp_ne C 41 (by decide) dX12_all_15 (fun c15 => ?_) (fun c15 => ?_)
    · rw [if_neg c15] at hr
      refine v_iconst C 1 (by decide) dX12_all_41 ?_
      obtain rfl := os hr
      obtain ⟨rfl, rfl⟩ := kR _ _ rfl
      exact v_zret C rfl dX12_all_42
    · rw [if_pos c15] at hr
      refine v_aload_n C (lv_at hl 0 rfl) rfl dX12_all_18 ?_
      obtain ⟨b19, f19, hr⟩ := ob hr
      obtain ⟨g19, h19⟩ := rcv_n f19
      obtain ⟨S19, e19, hr⟩ := ob hr
      refine v_callV C (b := b19) h19 (by decide) rfl rfl (k_X12_next0 e19) cw_X12_next0 w_1656 w_1658 w_62 (show (parseMethodDescriptor (yX12_next0).desc).map (fun d => d.parameters.length) = some 0 by decide +kernel) ⟨by decide, by decide⟩ (rest := []) (stk2 := []) (by rw [g19]; rfl) rfl (Nat.le_of_ble_eq_true rfl) hl dX12_all_19 ?_
      refine v_aload_n C (lv_at hl 0 rfl) rfl dX12_all_22 ?_
      obtain ⟨b23, f23, hr⟩ := ob hr
      obtain ⟨g23, h23⟩ := rcv_n f23
      obtain ⟨⟨v23, S23⟩, e23, hr⟩ := ob hr
      (try dsimp only at hr)
      refine v_callV C (b := b23) h23 (by decide) rfl rfl (K_X12_one e23) cw_X12_one w_1746 w_1748 w_79 (show (parseMethodDescriptor (yX12_one).desc).map (fun d => d.parameters.length) = some 0 by decide +kernel) ⟨by decide, by decide⟩ (rest := []) (stk2 := [.int v23]) (by rw [g23]; rfl) rfl (Nat.le_of_ble_eq_true rfl) hl dX12_all_23 ?_
      refine v_if_ne C 31 (by decide) dX12_all_26 (fun c26 => ?_) (fun c26 => ?_)
      · rw [if_neg c26] at hr
        refine v_aload_n C (lv_at hl 0 rfl) rfl dX12_all_31 ?_
        refine v_bipush C 13 (by decide) dX12_all_32 ?_
        refine v_iconst C 0 (by decide) dX12_all_34 ?_
        obtain ⟨b35, f35, hr⟩ := ob hr
        obtain ⟨g35, h35⟩ := rcv_n f35
        obtain ⟨S35, e35, hr⟩ := ob hr
        refine v_callV C (b := b35) h35 (by decide) rfl rfl (k_X12_lay e35) cw_X12_lay w_1734 w_1736 w_76 (show (parseMethodDescriptor (yX12_lay).desc).map (fun d => d.parameters.length) = some 2 by decide +kernel) ⟨by decide, by decide⟩ (rest := []) (stk2 := []) (by rw [g35]; rfl) rfl (Nat.le_of_ble_eq_true rfl) hl dX12_all_35 ?_
        refine v_goto C 9 (by decide) dX12_all_38 ?_
        exact ih hr _ (lv_sub hl [0] rfl)
      · rw [if_pos c26] at hr
        refine v_iconst C 0 (by decide) dX12_all_29 ?_
        obtain rfl := os hr
        obtain ⟨rfl, rfl⟩ := kR _ _ rfl
        exact v_zret C rfl dX12_all_30
theorem k_X12_all {l : Launch} {G : Ge} {S S' : St} {x0 : Nat} {rr : Int32} (hr : f_X12_all S x0 = some (rr, S')) : Ct l G yX12_all cX12_all 1 (Option.some Jvm.ClassFile.FieldType.boolean) S [va_rf (some x0)] (some (.int rr)) S' 142 3046 := by
  refine ct_of (by decide +kernel) (Nat.le_of_ble_eq_true rfl) ?_
  intro p e s m args below meth c C ls hl
  have hl : lv_has ls 1 [(0, va_rf (some x0))] := hl
  unfold f_X12_all at hr
  refine v_aload_n C (lv_at hl 0 rfl) rfl dX12_all_0 ?_
  obtain ⟨b1, f1, hr⟩ := ob hr
  obtain ⟨g1, h1⟩ := rcv_n f1
  obtain ⟨⟨v1, S1⟩, e1, hr⟩ := ob hr
  (try dsimp only at hr)
  refine v_callV C (b := b1) h1 (by decide) rfl rfl (K_X12_one e1) cw_X12_one w_1746 w_1748 w_79 (show (parseMethodDescriptor (yX12_one).desc).map (fun d => d.parameters.length) = some 0 by decide +kernel) ⟨by decide, by decide⟩ (rest := []) (stk2 := [.int v1]) (by rw [g1]; rfl) rfl (Nat.le_of_ble_eq_true rfl) hl dX12_all_1 ?_
  refine v_if_ne C 9 (by decide) dX12_all_4 (fun c4 => ?_) (fun c4 => ?_)
  · rw [if_neg c4] at hr
    exact b_X12_all_9 C (fun _ _ q => by cases q; exact ⟨rfl, rfl⟩) FU hr _ (lv_sub hl [0] rfl)
  · rw [if_pos c4] at hr
    refine v_iconst C 0 (by decide) dX12_all_7 ?_
    obtain ⟨rfl, rfl⟩ := Prod.mk.inj (os hr)
    exact v_zret C rfl dX12_all_8
-- X12_any
def f_X12_any_9 : Nat → St → Nat → Option ((Int32 × St))
  | 0, _, _ => none
  | n + 1, S, x0 =>
    (getI S (some x0) 13 46).bind fun v10 =>
    (if v10 = 10 then
    (rcv S (some x0) 13).bind fun b19 =>
    (f_X12_next0 S b19).bind fun S19 =>
    (rcv S19 (some x0) 13).bind fun b23 =>
    (f_X12_all S19 b23).bind fun (v23, S23) =>
    (if v23 = 0 then
    some (0, S23)
    else
    (rcv S23 (some x0) 13).bind fun b35 =>
    (f_X12_lay S23 b35 14 0).bind fun S35 =>
    f_X12_any_9 n S35 x0)
    else
    some (1, S))
def f_X12_any (S : St) (x0 : Nat) : Option (Int32 × St) :=
    (rcv S (some x0) 13).bind fun b1 =>
    (f_X12_all S b1).bind fun (v1, S1) =>
    (if v1 = 0 then
    some (0, S1)
    else
    f_X12_any_9 FU S1 x0)
theorem b_X12_any_9  {S0 S' : St} {rr : Int32} (C : Cx p s m args meth c G S0 yX12_any cX12_any 1 (Option.some Jvm.ClassFile.FieldType.boolean)) {o : ((Int32 × St))} (kR : ∀ (v : Int32) (Z : St), o = (v, Z) → rr = v ∧ S' = Z) : ∀ (n : Nat) {S : St} {x0 : Nat}, f_X12_any_9 n S x0 = some o → ∀ ls : Array Slot, lv_has ls 1 [(0, va_rf (some x0))] → V p l e (rmo 143 3066 S0) s m args below meth c G S0 S (QM below args s G S0 S' (some (.int rr))) (F0 m 9 ls []) := by
  intro n
  induction n with
  | zero => intro S x0 hr; cases hr
  | succ n ih =>
    intro S x0 hr ls hl
    unfold f_X12_any_9 at hr
    refine v_aload_n C (lv_at hl 0 rfl) rfl dX12_any_9 ?_
    obtain ⟨v10, e10, hr⟩ := ob hr
    refine v_getI C fl_RX12_311 rfl e10 dX12_any_10 ?_
    refine v_bipush C 10 (by decide) dX12_any_13 ?_
    refine v_icmp_ne C 41 (by decide) dX12_any_15 (fun c15 => ?_) (fun c15 => ?_)
    · rw [if_neg c15] at hr
      refine v_iconst C 1 (by decide) dX12_any_41 ?_
      obtain rfl := os hr
      obtain ⟨rfl, rfl⟩ := kR _ _ rfl
      exact v_zret C rfl dX12_any_42
    · rw [if_pos c15] at hr
      refine v_aload_n C (lv_at hl 0 rfl) rfl dX12_any_18 ?_
      obtain ⟨b19, f19, hr⟩ := ob hr
      obtain ⟨g19, h19⟩ := rcv_n f19
      obtain ⟨S19, e19, hr⟩ := ob hr
      refine v_callV C (b := b19) h19 (by decide) rfl rfl (k_X12_next0 e19) cw_X12_next0 w_1656 w_1658 w_62 (show (parseMethodDescriptor (yX12_next0).desc).map (fun d => d.parameters.length) = some 0 by decide +kernel) ⟨by decide, by decide⟩ (rest := []) (stk2 := []) (by rw [g19]; rfl) rfl (Nat.le_of_ble_eq_true rfl) hl dX12_any_19 ?_
      refine v_aload_n C (lv_at hl 0 rfl) rfl dX12_any_22 ?_
      obtain ⟨b23, f23, hr⟩ := ob hr
      obtain ⟨g23, h23⟩ := rcv_n f23
      obtain ⟨⟨v23, S23⟩, e23, hr⟩ := ob hr
      (try dsimp only at hr)
      refine v_callV C (b := b23) h23 (by decide) rfl rfl (k_X12_all e23) cw_X12_all w_1742 w_1744 w_78 (show (parseMethodDescriptor (yX12_all).desc).map (fun d => d.parameters.length) = some 0 by decide +kernel) ⟨by decide, by decide⟩ (rest := []) (stk2 := [.int v23]) (by rw [g23]; rfl) rfl (Nat.le_of_ble_eq_true rfl) hl dX12_any_23 ?_
      refine v_if_ne C 31 (by decide) dX12_any_26 (fun c26 => ?_) (fun c26 => ?_)
      · rw [if_neg c26] at hr
        refine v_aload_n C (lv_at hl 0 rfl) rfl dX12_any_31 ?_
        refine v_bipush C 14 (by decide) dX12_any_32 ?_
        refine v_iconst C 0 (by decide) dX12_any_34 ?_
        obtain ⟨b35, f35, hr⟩ := ob hr
        obtain ⟨g35, h35⟩ := rcv_n f35
        obtain ⟨S35, e35, hr⟩ := ob hr
        refine v_callV C (b := b35) h35 (by decide) rfl rfl (k_X12_lay e35) cw_X12_lay w_1734 w_1736 w_76 (show (parseMethodDescriptor (yX12_lay).desc).map (fun d => d.parameters.length) = some 2 by decide +kernel) ⟨by decide, by decide⟩ (rest := []) (stk2 := []) (by rw [g35]; rfl) rfl (Nat.le_of_ble_eq_true rfl) hl dX12_any_35 ?_
        refine v_goto C 9 (by decide) dX12_any_38 ?_
        exact ih hr _ (lv_sub hl [0] rfl)
      · rw [if_pos c26] at hr
        refine v_iconst C 0 (by decide) dX12_any_29 ?_
        obtain rfl := os hr
        obtain ⟨rfl, rfl⟩ := kR _ _ rfl
        exact v_zret C rfl dX12_any_30
theorem k_X12_any {l : Launch} {G : Ge} {S S' : St} {x0 : Nat} {rr : Int32} (hr : f_X12_any S x0 = some (rr, S')) : Ct l G yX12_any cX12_any 1 (Option.some Jvm.ClassFile.FieldType.boolean) S [va_rf (some x0)] (some (.int rr)) S' 143 3066 := by
  refine ct_of (by decide +kernel) (Nat.le_of_ble_eq_true rfl) ?_
  intro p e s m args below meth c C ls hl
  have hl : lv_has ls 1 [(0, va_rf (some x0))] := hl
  unfold f_X12_any at hr
  refine v_aload_n C (lv_at hl 0 rfl) rfl dX12_any_0 ?_
  obtain ⟨b1, f1, hr⟩ := ob hr
  obtain ⟨g1, h1⟩ := rcv_n f1
  obtain ⟨⟨v1, S1⟩, e1, hr⟩ := ob hr
  (try dsimp only at hr)
  refine v_callV C (b := b1) h1 (by decide) rfl rfl (k_X12_all e1) cw_X12_all w_1742 w_1744 w_78 (show (parseMethodDescriptor (yX12_all).desc).map (fun d => d.parameters.length) = some 0 by decide +kernel) ⟨by decide, by decide⟩ (rest := []) (stk2 := [.int v1]) (by rw [g1]; rfl) rfl (Nat.le_of_ble_eq_true rfl) hl dX12_any_1 ?_
  refine v_if_ne C 9 (by decide) dX12_any_4 (fun c4 => ?_) (fun c4 => ?_)
  · rw [if_neg c4] at hr
    exact b_X12_any_9 C (fun _ _ q => by cases q; exact ⟨rfl, rfl⟩) FU hr _ (lv_sub hl [0] rfl)
  · rw [if_pos c4] at hr
    refine v_iconst C 0 (by decide) dX12_any_7 ?_
    obtain ⟨rfl, rfl⟩ := Prod.mk.inj (os hr)
    exact v_zret C rfl dX12_any_8
-- X12_aNumber
def f_X12_aNumber (S : St) (x0 : Nat) (x1 : Int32) : Option (Int32 × St) :=
    (getI S (some x0) 13 46).bind fun v1 =>
    (if v1 = 2 then
    (getI S (some x0) 13 48).bind fun v15 =>
    (if v15 ≤ x1 then
    (getI S (some x0) 13 48).bind fun v30 =>
    (putI S (some x0) 13 53 v30).bind fun S33 =>
    (rcv S33 (some x0) 13).bind fun b37 =>
    (f_X12_next0 S33 b37).bind fun S37 =>
    some (1, S37)
    else
    (rcv S (some x0) 13).bind fun b24 =>
    (f_X12_bad S b24 2).bind fun (v24, S24) =>
    (zchk v24).bind fun z27 =>
    some (z27, S24))
    else
    (rcv S (some x0) 13).bind fun b10 =>
    (f_X12_bad S b10 1).bind fun (v10, S10) =>
    (zchk v10).bind fun z13 =>
    some (z13, S10))
theorem k_X12_aNumber {l : Launch} {G : Ge} {S S' : St} {x0 : Nat} {x1 : Int32} {rr : Int32} (hr : f_X12_aNumber S x0 x1 = some (rr, S')) : Ct l G yX12_aNumber cX12_aNumber 2 (Option.some Jvm.ClassFile.FieldType.boolean) S [va_rf (some x0), .int x1] (some (.int rr)) S' 9 286 := by
  refine ct_of (by decide +kernel) (Nat.le_of_ble_eq_true rfl) ?_
  intro p e s m args below meth c C ls hl
  have hl : lv_has ls 2 [(0, va_rf (some x0)), (1, .int x1)] := hl
  unfold f_X12_aNumber at hr
  refine v_aload_n C (lv_at hl 0 rfl) rfl dX12_aNumber_0 ?_
  obtain ⟨v1, e1, hr⟩ := ob hr
  refine v_getI C fl_RX12_311 rfl e1 dX12_aNumber_1 ?_
  refine v_iconst C 2 (by decide) dX12_aNumber_4 ?_
  refine v_icmp_eq C 14 (by decide) dX12_aNumber_5 (fun c5 => ?_) (fun c5 => ?_)
  · rw [if_pos c5] at hr
    refine v_aload_n C (lv_at hl 0 rfl) rfl dX12_aNumber_14 ?_
    obtain ⟨v15, e15, hr⟩ := ob hr
    refine v_getI C fl_RX12_323 rfl e15 dX12_aNumber_15 ?_
    refine v_iload_n C (lv_at hl 1 rfl) rfl dX12_aNumber_18 ?_
    refine v_icmp_le C 28 (by decide) dX12_aNumber_19 (fun c19 => ?_) (fun c19 => ?_)
    · rw [if_pos c19] at hr
      refine v_aload_n C (lv_at hl 0 rfl) rfl dX12_aNumber_28 ?_
      refine v_aload_n C (lv_at hl 0 rfl) rfl dX12_aNumber_29 ?_
      obtain ⟨v30, e30, hr⟩ := ob hr
      refine v_getI C fl_RX12_323 rfl e30 dX12_aNumber_30 ?_
      obtain ⟨S33, e33, hr⟩ := ob hr
      refine v_putI C fl_RX12_338 (Or.inl rfl) rfl e33 dX12_aNumber_33 ?_
      refine v_aload_n C (lv_at hl 0 rfl) rfl dX12_aNumber_36 ?_
      obtain ⟨b37, f37, hr⟩ := ob hr
      obtain ⟨g37, h37⟩ := rcv_n f37
      obtain ⟨S37, e37, hr⟩ := ob hr
      refine v_callV C (b := b37) h37 (by decide) rfl rfl (k_X12_next0 e37) cw_X12_next0 w_1656 w_1658 w_62 (show (parseMethodDescriptor (yX12_next0).desc).map (fun d => d.parameters.length) = some 0 by decide +kernel) ⟨by decide, by decide⟩ (rest := []) (stk2 := []) (by rw [g37]; rfl) rfl (Nat.le_of_ble_eq_true rfl) hl dX12_aNumber_37 ?_
      refine v_iconst C 1 (by decide) dX12_aNumber_40 ?_
      obtain ⟨rfl, rfl⟩ := Prod.mk.inj (os hr)
      exact v_zret C rfl dX12_aNumber_41
    · rw [if_neg c19] at hr
      refine v_aload_n C (lv_at hl 0 rfl) rfl dX12_aNumber_22 ?_
      refine v_iconst C 2 (by decide) dX12_aNumber_23 ?_
      obtain ⟨b24, f24, hr⟩ := ob hr
      obtain ⟨g24, h24⟩ := rcv_n f24
      obtain ⟨⟨v24, S24⟩, e24, hr⟩ := ob hr
      (try dsimp only at hr)
      refine v_callV C (b := b24) h24 (by decide) rfl rfl (k_X12_bad e24) cw_X12_bad w_1698 w_1700 w_67 (show (parseMethodDescriptor (yX12_bad).desc).map (fun d => d.parameters.length) = some 1 by decide +kernel) ⟨by decide, by decide⟩ (rest := []) (stk2 := [.int v24]) (by rw [g24]; rfl) rfl (Nat.le_of_ble_eq_true rfl) hl dX12_aNumber_24 ?_
      obtain ⟨z27, e27, hr⟩ := ob hr
      obtain ⟨y27, n27⟩ := zchk_n e27
      obtain ⟨rfl, rfl⟩ := Prod.mk.inj (os hr)
      rw [← y27]
      exact v_zret C n27 dX12_aNumber_27
  · rw [if_neg c5] at hr
    refine v_aload_n C (lv_at hl 0 rfl) rfl dX12_aNumber_8 ?_
    refine v_iconst C 1 (by decide) dX12_aNumber_9 ?_
    obtain ⟨b10, f10, hr⟩ := ob hr
    obtain ⟨g10, h10⟩ := rcv_n f10
    obtain ⟨⟨v10, S10⟩, e10, hr⟩ := ob hr
    (try dsimp only at hr)
    refine v_callV C (b := b10) h10 (by decide) rfl rfl (k_X12_bad e10) cw_X12_bad w_1698 w_1700 w_67 (show (parseMethodDescriptor (yX12_bad).desc).map (fun d => d.parameters.length) = some 1 by decide +kernel) ⟨by decide, by decide⟩ (rest := []) (stk2 := [.int v10]) (by rw [g10]; rfl) rfl (Nat.le_of_ble_eq_true rfl) hl dX12_aNumber_10 ?_
    obtain ⟨z13, e13, hr⟩ := ob hr
    obtain ⟨y13, n13⟩ := zchk_n e13
    obtain ⟨rfl, rfl⟩ := Prod.mk.inj (os hr)
    rw [← y13]
    exact v_zret C n13 dX12_aNumber_13
-- X12_two
def f_X12_two (S : St) (x0 : Nat) (x1 : Int32) (x2 : Int32) (x3 : Int32) : Option (Int32 × St) :=
    (rcv S (some x0) 13).bind fun b2 =>
    (f_X12_aNumber S b2 x2).bind fun (v2, S2) =>
    (if v2 = 0 then
    some (0, S2)
    else
    (getR S2 (some x0) 13 35).bind fun v11 =>
    (getI S2 (some x0) 13 53).bind fun v16 =>
    (stI S2 v11 15 x1 v16).bind fun S19 =>
    (if x3 = (-1) then
    some (1, S19)
    else
    (rcv S19 (some x0) 13).bind fun b29 =>
    (f_X12_aNumber S19 b29 x3).bind fun (v29, S29) =>
    (if v29 = 0 then
    some (0, S29)
    else
    (getR S29 (some x0) 13 36).bind fun v38 =>
    (getI S29 (some x0) 13 53).bind fun v43 =>
    (stI S29 v38 15 x1 v43).bind fun S46 =>
    some (1, S46))))
theorem k_X12_two {l : Launch} {G : Ge} {S S' : St} {x0 : Nat} {x1 : Int32} {x2 : Int32} {x3 : Int32} {rr : Int32} (hr : f_X12_two S x0 x1 x2 x3 = some (rr, S')) : Ct l G yX12_two cX12_two 4 (Option.some Jvm.ClassFile.FieldType.boolean) S [va_rf (some x0), .int x1, .int x2, .int x3] (some (.int rr)) S' 10 307 := by
  refine ct_of (by decide +kernel) (Nat.le_of_ble_eq_true rfl) ?_
  intro p e s m args below meth c C ls hl
  have hl : lv_has ls 4 [(0, va_rf (some x0)), (1, .int x1), (2, .int x2), (3, .int x3)] := hl
  unfold f_X12_two at hr
  refine v_aload_n C (lv_at hl 0 rfl) rfl dX12_two_0 ?_
  refine v_iload_n C (lv_at hl 2 rfl) rfl dX12_two_1 ?_
  obtain ⟨b2, f2, hr⟩ := ob hr
  obtain ⟨g2, h2⟩ := rcv_n f2
  obtain ⟨⟨v2, S2⟩, e2, hr⟩ := ob hr
  (try dsimp only at hr)
  refine v_callV C (b := b2) h2 (by decide) rfl rfl (k_X12_aNumber e2) cw_X12_aNumber w_1710 w_1712 w_70 (show (parseMethodDescriptor (yX12_aNumber).desc).map (fun d => d.parameters.length) = some 1 by decide +kernel) ⟨by decide, by decide⟩ (rest := []) (stk2 := [.int v2]) (by rw [g2]; rfl) rfl (Nat.le_of_ble_eq_true rfl) hl dX12_two_2 ?_
  refine v_if_ne C 10 (by decide) dX12_two_5 (fun c5 => ?_) (fun c5 => ?_)
  · rw [if_neg c5] at hr
    refine v_aload_n C (lv_at hl 0 rfl) rfl dX12_two_10 ?_
    obtain ⟨v11, e11, hr⟩ := ob hr
    refine v_getR C fl_RX12_100 rfl e11 dX12_two_11 ?_
    refine v_iload_n C (lv_at hl 1 rfl) rfl dX12_two_14 ?_
    refine v_aload_n C (lv_at hl 0 rfl) rfl dX12_two_15 ?_
    obtain ⟨v16, e16, hr⟩ := ob hr
    refine v_getI C fl_RX12_338 rfl e16 dX12_two_16 ?_
    obtain ⟨S19, e19, hr⟩ := ob hr
    refine v_stI_i C e19 dX12_two_19 ?_
    refine v_iload_n C (lv_at hl 3 rfl) rfl dX12_two_20 ?_
    refine v_iconst C (-1) (by decide) dX12_two_21 ?_
    refine v_icmp_ne C 27 (by decide) dX12_two_22 (fun c22 => ?_) (fun c22 => ?_)
    · rw [if_neg c22] at hr
      refine v_aload_n C (lv_at hl 0 rfl) rfl dX12_two_27 ?_
      refine v_iload_n C (lv_at hl 3 rfl) rfl dX12_two_28 ?_
      obtain ⟨b29, f29, hr⟩ := ob hr
      obtain ⟨g29, h29⟩ := rcv_n f29
      obtain ⟨⟨v29, S29⟩, e29, hr⟩ := ob hr
      (try dsimp only at hr)
      refine v_callV C (b := b29) h29 (by decide) rfl rfl (k_X12_aNumber e29) cw_X12_aNumber w_1710 w_1712 w_70 (show (parseMethodDescriptor (yX12_aNumber).desc).map (fun d => d.parameters.length) = some 1 by decide +kernel) ⟨by decide, by decide⟩ (rest := []) (stk2 := [.int v29]) (by rw [g29]; rfl) rfl (Nat.le_of_ble_eq_true rfl) hl dX12_two_29 ?_
      refine v_if_ne C 37 (by decide) dX12_two_32 (fun c32 => ?_) (fun c32 => ?_)
      · rw [if_neg c32] at hr
        refine v_aload_n C (lv_at hl 0 rfl) rfl dX12_two_37 ?_
        obtain ⟨v38, e38, hr⟩ := ob hr
        refine v_getR C fl_RX12_103 rfl e38 dX12_two_38 ?_
        refine v_iload_n C (lv_at hl 1 rfl) rfl dX12_two_41 ?_
        refine v_aload_n C (lv_at hl 0 rfl) rfl dX12_two_42 ?_
        obtain ⟨v43, e43, hr⟩ := ob hr
        refine v_getI C fl_RX12_338 rfl e43 dX12_two_43 ?_
        obtain ⟨S46, e46, hr⟩ := ob hr
        refine v_stI_i C e46 dX12_two_46 ?_
        refine v_iconst C 1 (by decide) dX12_two_47 ?_
        obtain ⟨rfl, rfl⟩ := Prod.mk.inj (os hr)
        exact v_zret C rfl dX12_two_48
      · rw [if_pos c32] at hr
        refine v_iconst C 0 (by decide) dX12_two_35 ?_
        obtain ⟨rfl, rfl⟩ := Prod.mk.inj (os hr)
        exact v_zret C rfl dX12_two_36
    · rw [if_pos c22] at hr
      refine v_iconst C 1 (by decide) dX12_two_25 ?_
      obtain ⟨rfl, rfl⟩ := Prod.mk.inj (os hr)
      exact v_zret C rfl dX12_two_26
  · rw [if_pos c5] at hr
    refine v_iconst C 0 (by decide) dX12_two_8 ?_
    obtain ⟨rfl, rfl⟩ := Prod.mk.inj (os hr)
    exact v_zret C rfl dX12_two_9
-- X12_inner
def f_X12_inner (S : St) (x0 : Nat) (x1 : Int32) : Option (Int32 × St) :=
    (getR S (some x0) 13 34).bind fun v1 =>
    (ldI S v1 15 x1).bind fun v5 =>
    (if v5 = 3 then
    (rcv S (some x0) 13).bind fun b45 =>
    (f_X12_two S b45 x1 3 40).bind fun (v45, S45) =>
    (zchk v45).bind fun z48 =>
    some (z48, S45)
    else
    (if v5 = 4 then
    (rcv S (some x0) 13).bind fun b53 =>
    (f_X12_two S b53 x1 5 (-1)).bind fun (v53, S53) =>
    (zchk v53).bind fun z56 =>
    some (z56, S53)
    else
    (if v5 = 5 then
    (rcv S (some x0) 13).bind fun b63 =>
    (f_X12_two S b63 x1 999 (-1)).bind fun (v63, S63) =>
    (zchk v63).bind fun z66 =>
    some (z66, S63)
    else
    (if v5 = 6 then
    (rcv S (some x0) 13).bind fun b72 =>
    (f_X12_two S b72 x1 100 (-1)).bind fun (v72, S72) =>
    (zchk v72).bind fun z75 =>
    some (z75, S72)
    else
    (if v5 = 7 then
    (rcv S (some x0) 13).bind fun b83 =>
    (f_X12_two S b83 x1 200 40).bind fun (v83, S83) =>
    (zchk v83).bind fun z86 =>
    some (z86, S83)
    else
    (rcv S (some x0) 13).bind fun b88 =>
    (F_X12_sumUp S b88).bind fun (v88, S88) =>
    (if v88 = 0 then
    some (0, S88)
    else
    (getR S88 (some x0) 13 38).bind fun v97 =>
    (getI S88 (some x0) 13 43).bind fun v102 =>
    (stI S88 v97 15 x1 v102).bind fun S105 =>
    (getI S105 (some x0) 13 46).bind fun v107 =>
    (if v107 = 9 then
    (rcv S105 (some x0) 13).bind fun b118 =>
    (f_X12_next0 S105 b118).bind fun S118 =>
    (rcv S118 (some x0) 13).bind fun b122 =>
    (f_X12_any S118 b122).bind fun (v122, S122) =>
    (zchk v122).bind fun z125 =>
    some (z125, S122)
    else
    some (1, S105))))))))
theorem k_X12_inner {l : Launch} {G : Ge} {S S' : St} {x0 : Nat} {x1 : Int32} {rr : Int32} (hr : f_X12_inner S x0 x1 = some (rr, S')) : Ct l G yX12_inner cX12_inner 2 (Option.some Jvm.ClassFile.FieldType.boolean) S [va_rf (some x0), .int x1] (some (.int rr)) S' 144 3086 := by
  refine ct_of (by decide +kernel) (Nat.le_of_ble_eq_true rfl) ?_
  intro p e s m args below meth c C ls hl
  have hl : lv_has ls 2 [(0, va_rf (some x0)), (1, .int x1)] := hl
  unfold f_X12_inner at hr
  refine v_aload_n C (lv_at hl 0 rfl) rfl dX12_inner_0 ?_
  obtain ⟨v1, e1, hr⟩ := ob hr
  refine v_getR C fl_RX12_97 rfl e1 dX12_inner_1 ?_
  refine v_iload_n C (lv_at hl 1 rfl) rfl dX12_inner_4 ?_
  obtain ⟨v5, e5, hr⟩ := ob hr
  refine v_ldI_i C e5 dX12_inner_5 ?_
  by_cases q6_3 : v5 = 3
  · rw [if_pos q6_3] at hr
    refine v_tableIn C (off := 34) 40 (by rw [q6_3]; decide) (by rw [q6_3]; decide) (by rw [q6_3]; decide) (by decide) dX12_inner_6 ?_
    refine v_aload_n C (lv_at hl 0 rfl) rfl dX12_inner_40 ?_
    refine v_iload_n C (lv_at hl 1 rfl) rfl dX12_inner_41 ?_
    refine v_iconst C 3 (by decide) dX12_inner_42 ?_
    refine v_bipush C 40 (by decide) dX12_inner_43 ?_
    obtain ⟨b45, f45, hr⟩ := ob hr
    obtain ⟨g45, h45⟩ := rcv_n f45
    obtain ⟨⟨v45, S45⟩, e45, hr⟩ := ob hr
    (try dsimp only at hr)
    refine v_callV C (b := b45) h45 (by decide) rfl rfl (k_X12_two e45) cw_X12_two w_1706 w_1708 w_69 (show (parseMethodDescriptor (yX12_two).desc).map (fun d => d.parameters.length) = some 3 by decide +kernel) ⟨by decide, by decide⟩ (rest := []) (stk2 := [.int v45]) (by rw [g45]; rfl) rfl (Nat.le_of_ble_eq_true rfl) hl dX12_inner_45 ?_
    obtain ⟨z48, e48, hr⟩ := ob hr
    obtain ⟨y48, n48⟩ := zchk_n e48
    obtain ⟨rfl, rfl⟩ := Prod.mk.inj (os hr)
    rw [← y48]
    exact v_zret C n48 dX12_inner_48
  rw [if_neg q6_3] at hr
  by_cases q6_4 : v5 = 4
  · rw [if_pos q6_4] at hr
    refine v_tableIn C (off := 43) 49 (by rw [q6_4]; decide) (by rw [q6_4]; decide) (by rw [q6_4]; decide) (by decide) dX12_inner_6 ?_
    refine v_aload_n C (lv_at hl 0 rfl) rfl dX12_inner_49 ?_
    refine v_iload_n C (lv_at hl 1 rfl) rfl dX12_inner_50 ?_
    refine v_iconst C 5 (by decide) dX12_inner_51 ?_
    refine v_iconst C (-1) (by decide) dX12_inner_52 ?_
    obtain ⟨b53, f53, hr⟩ := ob hr
    obtain ⟨g53, h53⟩ := rcv_n f53
    obtain ⟨⟨v53, S53⟩, e53, hr⟩ := ob hr
    (try dsimp only at hr)
    refine v_callV C (b := b53) h53 (by decide) rfl rfl (k_X12_two e53) cw_X12_two w_1706 w_1708 w_69 (show (parseMethodDescriptor (yX12_two).desc).map (fun d => d.parameters.length) = some 3 by decide +kernel) ⟨by decide, by decide⟩ (rest := []) (stk2 := [.int v53]) (by rw [g53]; rfl) rfl (Nat.le_of_ble_eq_true rfl) hl dX12_inner_53 ?_
    obtain ⟨z56, e56, hr⟩ := ob hr
    obtain ⟨y56, n56⟩ := zchk_n e56
    obtain ⟨rfl, rfl⟩ := Prod.mk.inj (os hr)
    rw [← y56]
    exact v_zret C n56 dX12_inner_56
  rw [if_neg q6_4] at hr
  by_cases q6_5 : v5 = 5
  · rw [if_pos q6_5] at hr
    refine v_tableIn C (off := 51) 57 (by rw [q6_5]; decide) (by rw [q6_5]; decide) (by rw [q6_5]; decide) (by decide) dX12_inner_6 ?_
    refine v_aload_n C (lv_at hl 0 rfl) rfl dX12_inner_57 ?_
    refine v_iload_n C (lv_at hl 1 rfl) rfl dX12_inner_58 ?_
    refine v_sipush C 999 (by decide) dX12_inner_59 ?_
    refine v_iconst C (-1) (by decide) dX12_inner_62 ?_
    obtain ⟨b63, f63, hr⟩ := ob hr
    obtain ⟨g63, h63⟩ := rcv_n f63
    obtain ⟨⟨v63, S63⟩, e63, hr⟩ := ob hr
    (try dsimp only at hr)
    refine v_callV C (b := b63) h63 (by decide) rfl rfl (k_X12_two e63) cw_X12_two w_1706 w_1708 w_69 (show (parseMethodDescriptor (yX12_two).desc).map (fun d => d.parameters.length) = some 3 by decide +kernel) ⟨by decide, by decide⟩ (rest := []) (stk2 := [.int v63]) (by rw [g63]; rfl) rfl (Nat.le_of_ble_eq_true rfl) hl dX12_inner_63 ?_
    obtain ⟨z66, e66, hr⟩ := ob hr
    obtain ⟨y66, n66⟩ := zchk_n e66
    obtain ⟨rfl, rfl⟩ := Prod.mk.inj (os hr)
    rw [← y66]
    exact v_zret C n66 dX12_inner_66
  rw [if_neg q6_5] at hr
  by_cases q6_6 : v5 = 6
  · rw [if_pos q6_6] at hr
    refine v_tableIn C (off := 61) 67 (by rw [q6_6]; decide) (by rw [q6_6]; decide) (by rw [q6_6]; decide) (by decide) dX12_inner_6 ?_
    refine v_aload_n C (lv_at hl 0 rfl) rfl dX12_inner_67 ?_
    refine v_iload_n C (lv_at hl 1 rfl) rfl dX12_inner_68 ?_
    refine v_bipush C 100 (by decide) dX12_inner_69 ?_
    refine v_iconst C (-1) (by decide) dX12_inner_71 ?_
    obtain ⟨b72, f72, hr⟩ := ob hr
    obtain ⟨g72, h72⟩ := rcv_n f72
    obtain ⟨⟨v72, S72⟩, e72, hr⟩ := ob hr
    (try dsimp only at hr)
    refine v_callV C (b := b72) h72 (by decide) rfl rfl (k_X12_two e72) cw_X12_two w_1706 w_1708 w_69 (show (parseMethodDescriptor (yX12_two).desc).map (fun d => d.parameters.length) = some 3 by decide +kernel) ⟨by decide, by decide⟩ (rest := []) (stk2 := [.int v72]) (by rw [g72]; rfl) rfl (Nat.le_of_ble_eq_true rfl) hl dX12_inner_72 ?_
    obtain ⟨z75, e75, hr⟩ := ob hr
    obtain ⟨y75, n75⟩ := zchk_n e75
    obtain ⟨rfl, rfl⟩ := Prod.mk.inj (os hr)
    rw [← y75]
    exact v_zret C n75 dX12_inner_75
  rw [if_neg q6_6] at hr
  by_cases q6_7 : v5 = 7
  · rw [if_pos q6_7] at hr
    refine v_tableIn C (off := 70) 76 (by rw [q6_7]; decide) (by rw [q6_7]; decide) (by rw [q6_7]; decide) (by decide) dX12_inner_6 ?_
    refine v_aload_n C (lv_at hl 0 rfl) rfl dX12_inner_76 ?_
    refine v_iload_n C (lv_at hl 1 rfl) rfl dX12_inner_77 ?_
    refine v_sipush C 200 (by decide) dX12_inner_78 ?_
    refine v_bipush C 40 (by decide) dX12_inner_81 ?_
    obtain ⟨b83, f83, hr⟩ := ob hr
    obtain ⟨g83, h83⟩ := rcv_n f83
    obtain ⟨⟨v83, S83⟩, e83, hr⟩ := ob hr
    (try dsimp only at hr)
    refine v_callV C (b := b83) h83 (by decide) rfl rfl (k_X12_two e83) cw_X12_two w_1706 w_1708 w_69 (show (parseMethodDescriptor (yX12_two).desc).map (fun d => d.parameters.length) = some 3 by decide +kernel) ⟨by decide, by decide⟩ (rest := []) (stk2 := [.int v83]) (by rw [g83]; rfl) rfl (Nat.le_of_ble_eq_true rfl) hl dX12_inner_83 ?_
    obtain ⟨z86, e86, hr⟩ := ob hr
    obtain ⟨y86, n86⟩ := zchk_n e86
    obtain ⟨rfl, rfl⟩ := Prod.mk.inj (os hr)
    rw [← y86]
    exact v_zret C n86 dX12_inner_86
  rw [if_neg q6_7] at hr
  have kd6 : V p l e (rmo 144 3086 S) s m args below meth c G S S (QM below args s G S S' (some (.int rr))) (F0 m 87 ls []) := by
    refine v_aload_n C (lv_at hl 0 rfl) rfl dX12_inner_87 ?_
    obtain ⟨b88, f88, hr⟩ := ob hr
    obtain ⟨g88, h88⟩ := rcv_n f88
    obtain ⟨⟨v88, S88⟩, e88, hr⟩ := ob hr
    (try dsimp only at hr)
    refine v_callV C (b := b88) h88 (by decide) rfl rfl (K_X12_sumUp e88) cw_X12_sumUp w_1714 w_1716 w_71 (show (parseMethodDescriptor (yX12_sumUp).desc).map (fun d => d.parameters.length) = some 0 by decide +kernel) ⟨by decide, by decide⟩ (rest := []) (stk2 := [.int v88]) (by rw [g88]; rfl) rfl (Nat.le_of_ble_eq_true rfl) hl dX12_inner_88 ?_
    refine v_if_ne C 96 (by decide) dX12_inner_91 (fun c91 => ?_) (fun c91 => ?_)
    · rw [if_neg c91] at hr
      refine v_aload_n C (lv_at hl 0 rfl) rfl dX12_inner_96 ?_
      obtain ⟨v97, e97, hr⟩ := ob hr
      refine v_getR C fl_RX12_109 rfl e97 dX12_inner_97 ?_
      refine v_iload_n C (lv_at hl 1 rfl) rfl dX12_inner_100 ?_
      refine v_aload_n C (lv_at hl 0 rfl) rfl dX12_inner_101 ?_
      obtain ⟨v102, e102, hr⟩ := ob hr
      refine v_getI C fl_RX12_341 rfl e102 dX12_inner_102 ?_
      obtain ⟨S105, e105, hr⟩ := ob hr
      refine v_stI_i C e105 dX12_inner_105 ?_
      refine v_aload_n C (lv_at hl 0 rfl) rfl dX12_inner_106 ?_
      obtain ⟨v107, e107, hr⟩ := ob hr
      refine v_getI C fl_RX12_311 rfl e107 dX12_inner_107 ?_
      refine v_bipush C 9 (by decide) dX12_inner_110 ?_
      refine v_icmp_eq C 117 (by decide) dX12_inner_112 (fun c112 => ?_) (fun c112 => ?_)
      · rw [if_pos c112] at hr
        refine v_aload_n C (lv_at hl 0 rfl) rfl dX12_inner_117 ?_
        obtain ⟨b118, f118, hr⟩ := ob hr
        obtain ⟨g118, h118⟩ := rcv_n f118
        obtain ⟨S118, e118, hr⟩ := ob hr
        refine v_callV C (b := b118) h118 (by decide) rfl rfl (k_X12_next0 e118) cw_X12_next0 w_1656 w_1658 w_62 (show (parseMethodDescriptor (yX12_next0).desc).map (fun d => d.parameters.length) = some 0 by decide +kernel) ⟨by decide, by decide⟩ (rest := []) (stk2 := []) (by rw [g118]; rfl) rfl (Nat.le_of_ble_eq_true rfl) hl dX12_inner_118 ?_
        refine v_aload_n C (lv_at hl 0 rfl) rfl dX12_inner_121 ?_
        obtain ⟨b122, f122, hr⟩ := ob hr
        obtain ⟨g122, h122⟩ := rcv_n f122
        obtain ⟨⟨v122, S122⟩, e122, hr⟩ := ob hr
        (try dsimp only at hr)
        refine v_callV C (b := b122) h122 (by decide) rfl rfl (k_X12_any e122) cw_X12_any w_1738 w_1740 w_77 (show (parseMethodDescriptor (yX12_any).desc).map (fun d => d.parameters.length) = some 0 by decide +kernel) ⟨by decide, by decide⟩ (rest := []) (stk2 := [.int v122]) (by rw [g122]; rfl) rfl (Nat.le_of_ble_eq_true rfl) hl dX12_inner_122 ?_
        obtain ⟨z125, e125, hr⟩ := ob hr
        obtain ⟨y125, n125⟩ := zchk_n e125
        obtain ⟨rfl, rfl⟩ := Prod.mk.inj (os hr)
        rw [← y125]
        exact v_zret C n125 dX12_inner_125
      · rw [if_neg c112] at hr
        refine v_iconst C 1 (by decide) dX12_inner_115 ?_
        obtain ⟨rfl, rfl⟩ := Prod.mk.inj (os hr)
        exact v_zret C rfl dX12_inner_116
    · rw [if_pos c91] at hr
      refine v_iconst C 0 (by decide) dX12_inner_94 ?_
      obtain ⟨rfl, rfl⟩ := Prod.mk.inj (os hr)
      exact v_zret C rfl dX12_inner_95
  have z0 := lv_neT q6_3 (a := 3) (by decide)
  have z1 := lv_neT q6_4 (a := 4) (by decide)
  have z2 := lv_neT q6_5 (a := 5) (by decide)
  have z3 := lv_neT q6_6 (a := 6) (by decide)
  have z4 := lv_neT q6_7 (a := 7) (by decide)
  exact v_tableOut C 87 (by omega) (by decide) dX12_inner_6 kd6
-- X12_aLine
def f_X12_aLine (S : St) (x0 : Nat) : Option (Int32 × St) :=
    (getI S (some x0) 13 46).bind fun v1 =>
    (f_X12_isIn S v1 3 8).bind fun v7 =>
    (if v7 = 0 then
    (rcv S (some x0) 13).bind fun b15 =>
    (f_X12_bad S b15 1).bind fun (v15, S15) =>
    (zchk v15).bind fun z18 =>
    some (z18, S15)
    else
    (getI S (some x0) 13 42).bind fun v20 =>
    (if v20 = 24 then
    (rcv S (some x0) 13).bind fun b30 =>
    (f_X12_bad S b30 3).bind fun (v30, S30) =>
    (zchk v30).bind fun z33 =>
    some (z33, S30)
    else
    (getI S (some x0) 13 42).bind fun v35 =>
    (getR S (some x0) 13 34).bind fun v40 =>
    (getI S (some x0) 13 46).bind fun v45 =>
    (stI S v40 15 v35 v45).bind fun S48 =>
    (getR S48 (some x0) 13 37).bind fun v50 =>
    (getI S48 (some x0) 13 43).bind fun v55 =>
    (stI S48 v50 15 v35 v55).bind fun S58 =>
    (getR S58 (some x0) 13 38).bind fun v60 =>
    (getI S58 (some x0) 13 43).bind fun v65 =>
    (stI S58 v60 15 v35 v65).bind fun S68 =>
    (putI S68 (some x0) 13 52 0).bind fun S71 =>
    (rcv S71 (some x0) 13).bind fun b75 =>
    (f_X12_next0 S71 b75).bind fun S75 =>
    (rcv S75 (some x0) 13).bind fun b80 =>
    (f_X12_inner S75 b80 v35).bind fun (v80, S80) =>
    (if v80 = 0 then
    some (0, S80)
    else
    (getI S80 (some x0) 13 42).bind fun v90 =>
    (putI S80 (some x0) 13 42 (v90 + 1)).bind fun S95 =>
    (rcv S95 (some x0) 13).bind fun b101 =>
    (f_X12_need S95 b101 59).bind fun (v101, S101) =>
    (zchk v101).bind fun z104 =>
    some (z104, S101))))
theorem k_X12_aLine {l : Launch} {G : Ge} {S S' : St} {x0 : Nat} {rr : Int32} (hr : f_X12_aLine S x0 = some (rr, S')) : Ct l G yX12_aLine cX12_aLine 2 (Option.some Jvm.ClassFile.FieldType.boolean) S [va_rf (some x0)] (some (.int rr)) S' 145 3107 := by
  refine ct_of (by decide +kernel) (Nat.le_of_ble_eq_true rfl) ?_
  intro p e s m args below meth c C ls hl
  have hl : lv_has ls 2 [(0, va_rf (some x0))] := hl
  unfold f_X12_aLine at hr
  refine v_aload_n C (lv_at hl 0 rfl) rfl dX12_aLine_0 ?_
  obtain ⟨v1, e1, hr⟩ := ob hr
  refine v_getI C fl_RX12_311 rfl e1 dX12_aLine_1 ?_
  refine v_iconst C 3 (by decide) dX12_aLine_4 ?_
  refine v_bipush C 8 (by decide) dX12_aLine_5 ?_
  obtain ⟨v7, e7, hr⟩ := ob hr
  refine v_callS C (k_X12_isIn e7) cw_X12_isIn w_1555 w_1556 (show (parseMethodDescriptor (yX12_isIn).desc).map (fun d => d.parameters.length) = some 3 by decide +kernel) ⟨by decide, by decide⟩ (rest := []) (stk2 := [.int v7]) rfl rfl (Nat.le_of_ble_eq_true rfl) hl dX12_aLine_7 ?_
  refine v_if_ne C 19 (by decide) dX12_aLine_10 (fun c10 => ?_) (fun c10 => ?_)
  · rw [if_neg c10] at hr
    refine v_aload_n C (lv_at hl 0 rfl) rfl dX12_aLine_19 ?_
    obtain ⟨v20, e20, hr⟩ := ob hr
    refine v_getI C fl_RX12_382 rfl e20 dX12_aLine_20 ?_
    refine v_bipush C 24 (by decide) dX12_aLine_23 ?_
    refine v_icmp_ne C 34 (by decide) dX12_aLine_25 (fun c25 => ?_) (fun c25 => ?_)
    · rw [if_neg c25] at hr
      refine v_aload_n C (lv_at hl 0 rfl) rfl dX12_aLine_34 ?_
      obtain ⟨v35, e35, hr⟩ := ob hr
      refine v_getI C fl_RX12_382 rfl e35 dX12_aLine_35 ?_
      refine v_istore_n C (i := 1) (lv' := [(1, .int v35), (0, va_rf (some x0))]) hl rfl (by decide) rfl dX12_aLine_38 (fun ls hl => ?_)
      refine v_aload_n C (lv_at hl 1 rfl) rfl dX12_aLine_39 ?_
      obtain ⟨v40, e40, hr⟩ := ob hr
      refine v_getR C fl_RX12_97 rfl e40 dX12_aLine_40 ?_
      refine v_iload_n C (lv_at hl 0 rfl) rfl dX12_aLine_43 ?_
      refine v_aload_n C (lv_at hl 1 rfl) rfl dX12_aLine_44 ?_
      obtain ⟨v45, e45, hr⟩ := ob hr
      refine v_getI C fl_RX12_311 rfl e45 dX12_aLine_45 ?_
      obtain ⟨S48, e48, hr⟩ := ob hr
      refine v_stI_i C e48 dX12_aLine_48 ?_
      refine v_aload_n C (lv_at hl 1 rfl) rfl dX12_aLine_49 ?_
      obtain ⟨v50, e50, hr⟩ := ob hr
      refine v_getR C fl_RX12_106 rfl e50 dX12_aLine_50 ?_
      refine v_iload_n C (lv_at hl 0 rfl) rfl dX12_aLine_53 ?_
      refine v_aload_n C (lv_at hl 1 rfl) rfl dX12_aLine_54 ?_
      obtain ⟨v55, e55, hr⟩ := ob hr
      refine v_getI C fl_RX12_341 rfl e55 dX12_aLine_55 ?_
      obtain ⟨S58, e58, hr⟩ := ob hr
      refine v_stI_i C e58 dX12_aLine_58 ?_
      refine v_aload_n C (lv_at hl 1 rfl) rfl dX12_aLine_59 ?_
      obtain ⟨v60, e60, hr⟩ := ob hr
      refine v_getR C fl_RX12_109 rfl e60 dX12_aLine_60 ?_
      refine v_iload_n C (lv_at hl 0 rfl) rfl dX12_aLine_63 ?_
      refine v_aload_n C (lv_at hl 1 rfl) rfl dX12_aLine_64 ?_
      obtain ⟨v65, e65, hr⟩ := ob hr
      refine v_getI C fl_RX12_341 rfl e65 dX12_aLine_65 ?_
      obtain ⟨S68, e68, hr⟩ := ob hr
      refine v_stI_i C e68 dX12_aLine_68 ?_
      refine v_aload_n C (lv_at hl 1 rfl) rfl dX12_aLine_69 ?_
      refine v_iconst C 0 (by decide) dX12_aLine_70 ?_
      obtain ⟨S71, e71, hr⟩ := ob hr
      refine v_putI C fl_RX12_344 (Or.inl rfl) rfl e71 dX12_aLine_71 ?_
      refine v_aload_n C (lv_at hl 1 rfl) rfl dX12_aLine_74 ?_
      obtain ⟨b75, f75, hr⟩ := ob hr
      obtain ⟨g75, h75⟩ := rcv_n f75
      obtain ⟨S75, e75, hr⟩ := ob hr
      refine v_callV C (b := b75) h75 (by decide) rfl rfl (k_X12_next0 e75) cw_X12_next0 w_1656 w_1658 w_62 (show (parseMethodDescriptor (yX12_next0).desc).map (fun d => d.parameters.length) = some 0 by decide +kernel) ⟨by decide, by decide⟩ (rest := []) (stk2 := []) (by rw [g75]; rfl) rfl (Nat.le_of_ble_eq_true rfl) hl dX12_aLine_75 ?_
      refine v_aload_n C (lv_at hl 1 rfl) rfl dX12_aLine_78 ?_
      refine v_iload_n C (lv_at hl 0 rfl) rfl dX12_aLine_79 ?_
      obtain ⟨b80, f80, hr⟩ := ob hr
      obtain ⟨g80, h80⟩ := rcv_n f80
      obtain ⟨⟨v80, S80⟩, e80, hr⟩ := ob hr
      (try dsimp only at hr)
      refine v_callV C (b := b80) h80 (by decide) rfl rfl (k_X12_inner e80) cw_X12_inner w_1702 w_1704 w_68 (show (parseMethodDescriptor (yX12_inner).desc).map (fun d => d.parameters.length) = some 1 by decide +kernel) ⟨by decide, by decide⟩ (rest := []) (stk2 := [.int v80]) (by rw [g80]; rfl) rfl (Nat.le_of_ble_eq_true rfl) hl dX12_aLine_80 ?_
      refine v_if_ne C 88 (by decide) dX12_aLine_83 (fun c83 => ?_) (fun c83 => ?_)
      · rw [if_neg c83] at hr
        refine v_aload_n C (lv_at hl 1 rfl) rfl dX12_aLine_88 ?_
        refine v_dup C (rf_cat _) dX12_aLine_89 ?_
        obtain ⟨v90, e90, hr⟩ := ob hr
        refine v_getI C fl_RX12_382 rfl e90 dX12_aLine_90 ?_
        refine v_iconst C 1 (by decide) dX12_aLine_93 ?_
        refine v_iadd C dX12_aLine_94 ?_
        obtain ⟨S95, e95, hr⟩ := ob hr
        refine v_putI C fl_RX12_382 (Or.inl rfl) rfl e95 dX12_aLine_95 ?_
        refine v_aload_n C (lv_at hl 1 rfl) rfl dX12_aLine_98 ?_
        refine v_bipush C 59 (by decide) dX12_aLine_99 ?_
        obtain ⟨b101, f101, hr⟩ := ob hr
        obtain ⟨g101, h101⟩ := rcv_n f101
        obtain ⟨⟨v101, S101⟩, e101, hr⟩ := ob hr
        (try dsimp only at hr)
        refine v_callV C (b := b101) h101 (by decide) rfl rfl (k_X12_need e101) cw_X12_need w_1730 w_1732 w_75 (show (parseMethodDescriptor (yX12_need).desc).map (fun d => d.parameters.length) = some 1 by decide +kernel) ⟨by decide, by decide⟩ (rest := []) (stk2 := [.int v101]) (by rw [g101]; rfl) rfl (Nat.le_of_ble_eq_true rfl) hl dX12_aLine_101 ?_
        obtain ⟨z104, e104, hr⟩ := ob hr
        obtain ⟨y104, n104⟩ := zchk_n e104
        obtain ⟨rfl, rfl⟩ := Prod.mk.inj (os hr)
        rw [← y104]
        exact v_zret C n104 dX12_aLine_104
      · rw [if_pos c83] at hr
        refine v_iconst C 0 (by decide) dX12_aLine_86 ?_
        obtain ⟨rfl, rfl⟩ := Prod.mk.inj (os hr)
        exact v_zret C rfl dX12_aLine_87
    · rw [if_pos c25] at hr
      refine v_aload_n C (lv_at hl 0 rfl) rfl dX12_aLine_28 ?_
      refine v_iconst C 3 (by decide) dX12_aLine_29 ?_
      obtain ⟨b30, f30, hr⟩ := ob hr
      obtain ⟨g30, h30⟩ := rcv_n f30
      obtain ⟨⟨v30, S30⟩, e30, hr⟩ := ob hr
      (try dsimp only at hr)
      refine v_callV C (b := b30) h30 (by decide) rfl rfl (k_X12_bad e30) cw_X12_bad w_1698 w_1700 w_67 (show (parseMethodDescriptor (yX12_bad).desc).map (fun d => d.parameters.length) = some 1 by decide +kernel) ⟨by decide, by decide⟩ (rest := []) (stk2 := [.int v30]) (by rw [g30]; rfl) rfl (Nat.le_of_ble_eq_true rfl) hl dX12_aLine_30 ?_
      obtain ⟨z33, e33, hr⟩ := ob hr
      obtain ⟨y33, n33⟩ := zchk_n e33
      obtain ⟨rfl, rfl⟩ := Prod.mk.inj (os hr)
      rw [← y33]
      exact v_zret C n33 dX12_aLine_33
  · rw [if_pos c10] at hr
    refine v_aload_n C (lv_at hl 0 rfl) rfl dX12_aLine_13 ?_
    refine v_iconst C 1 (by decide) dX12_aLine_14 ?_
    obtain ⟨b15, f15, hr⟩ := ob hr
    obtain ⟨g15, h15⟩ := rcv_n f15
    obtain ⟨⟨v15, S15⟩, e15, hr⟩ := ob hr
    (try dsimp only at hr)
    refine v_callV C (b := b15) h15 (by decide) rfl rfl (k_X12_bad e15) cw_X12_bad w_1698 w_1700 w_67 (show (parseMethodDescriptor (yX12_bad).desc).map (fun d => d.parameters.length) = some 1 by decide +kernel) ⟨by decide, by decide⟩ (rest := []) (stk2 := [.int v15]) (by rw [g15]; rfl) rfl (Nat.le_of_ble_eq_true rfl) hl dX12_aLine_15 ?_
    obtain ⟨z18, e18, hr⟩ := ob hr
    obtain ⟨y18, n18⟩ := zchk_n e18
    obtain ⟨rfl, rfl⟩ := Prod.mk.inj (os hr)
    rw [← y18]
    exact v_zret C n18 dX12_aLine_18
-- X12_isFirm
def f_X12_isFirm (S : St) (x0 : Nat) (x1 : Int32) : Option Int32 :=
    (getI S (some x0) 13 1).bind fun v3 =>
    (f_X12_isIn S x1 0 (v3 - 1)).bind fun v8 =>
    (zchk v8).bind fun z11 =>
    some z11
theorem k_X12_isFirm {l : Launch} {G : Ge} {S : St} {x0 : Nat} {x1 : Int32} {rr : Int32} (hr : f_X12_isFirm S x0 x1 = some rr) : Ct l G yX12_isFirm cX12_isFirm 2 (Option.some Jvm.ClassFile.FieldType.boolean) S [va_rf (some x0), .int x1] (some (.int rr)) S 1 22 := by
  refine ct_of (by decide +kernel) (Nat.le_of_ble_eq_true rfl) ?_
  intro p e s m args below meth c C ls hl
  have hl : lv_has ls 2 [(0, va_rf (some x0)), (1, .int x1)] := hl
  unfold f_X12_isFirm at hr
  refine v_iload_n C (lv_at hl 1 rfl) rfl dX12_isFirm_0 ?_
  refine v_iconst C 0 (by decide) dX12_isFirm_1 ?_
  refine v_aload_n C (lv_at hl 0 rfl) rfl dX12_isFirm_2 ?_
  obtain ⟨v3, e3, hr⟩ := ob hr
  refine v_getI C fl_RX12_204 rfl e3 dX12_isFirm_3 ?_
  refine v_iconst C 1 (by decide) dX12_isFirm_6 ?_
  refine v_isub C dX12_isFirm_7 ?_
  obtain ⟨v8, e8, hr⟩ := ob hr
  refine v_callS C (k_X12_isIn e8) cw_X12_isIn w_1555 w_1556 (show (parseMethodDescriptor (yX12_isIn).desc).map (fun d => d.parameters.length) = some 3 by decide +kernel) ⟨by decide, by decide⟩ (rest := []) (stk2 := [.int v8]) rfl rfl (Nat.le_of_ble_eq_true rfl) hl dX12_isFirm_8 ?_
  obtain ⟨z11, e11, hr⟩ := ob hr
  obtain ⟨y11, n11⟩ := zchk_n e11
  obtain rfl := os hr
  rw [← y11]
  exact v_zret C n11 dX12_isFirm_11
-- X12_isMerged
def f_X12_isMerged (S : St) (x0 : Nat) (x1 : Int32) (x2 : Int32) : Option Int32 :=
    (getR S (some x0) 13 6).bind fun v1 =>
    (ldI S v1 15 x1).bind fun v5 =>
    (if v5 = (-1) then
    some 0
    else
    (getR S (some x0) 13 7).bind fun v11 =>
    (ldI S v11 15 x1).bind fun v15 =>
    (if x2 < v15 then
    some 0
    else
    some 1))
theorem k_X12_isMerged {l : Launch} {G : Ge} {S : St} {x0 : Nat} {x1 : Int32} {x2 : Int32} {rr : Int32} (hr : f_X12_isMerged S x0 x1 x2 = some rr) : Ct l G yX12_isMerged cX12_isMerged 3 (Option.some Jvm.ClassFile.FieldType.boolean) S [va_rf (some x0), .int x1, .int x2] (some (.int rr)) S 0 0 := by
  refine ct_of (by decide +kernel) (Nat.le_of_ble_eq_true rfl) ?_
  intro p e s m args below meth c C ls hl
  have hl : lv_has ls 3 [(0, va_rf (some x0)), (1, .int x1), (2, .int x2)] := hl
  unfold f_X12_isMerged at hr
  refine v_aload_n C (lv_at hl 0 rfl) rfl dX12_isMerged_0 ?_
  obtain ⟨v1, e1, hr⟩ := ob hr
  refine v_getR C fl_RX12_13 rfl e1 dX12_isMerged_1 ?_
  refine v_iload_n C (lv_at hl 1 rfl) rfl dX12_isMerged_4 ?_
  obtain ⟨v5, e5, hr⟩ := ob hr
  refine v_ldI_i C e5 dX12_isMerged_5 ?_
  refine v_iconst C (-1) (by decide) dX12_isMerged_6 ?_
  refine v_icmp_eq C 24 (by decide) dX12_isMerged_7 (fun c7 => ?_) (fun c7 => ?_)
  · rw [if_pos c7] at hr
    refine v_iconst C 0 (by decide) dX12_isMerged_24 ?_
    obtain rfl := os hr
    exact v_zret C rfl dX12_isMerged_25
  · rw [if_neg c7] at hr
    refine v_aload_n C (lv_at hl 0 rfl) rfl dX12_isMerged_10 ?_
    obtain ⟨v11, e11, hr⟩ := ob hr
    refine v_getR C fl_RX12_16 rfl e11 dX12_isMerged_11 ?_
    refine v_iload_n C (lv_at hl 1 rfl) rfl dX12_isMerged_14 ?_
    obtain ⟨v15, e15, hr⟩ := ob hr
    refine v_ldI_i C e15 dX12_isMerged_15 ?_
    refine v_iload_n C (lv_at hl 2 rfl) rfl dX12_isMerged_16 ?_
    refine v_icmp_gt C 24 (by decide) dX12_isMerged_17 (fun c17 => ?_) (fun c17 => ?_)
    · rw [if_pos c17] at hr
      refine v_iconst C 0 (by decide) dX12_isMerged_24 ?_
      obtain rfl := os hr
      exact v_zret C rfl dX12_isMerged_25
    · rw [if_neg c17] at hr
      refine v_iconst C 1 (by decide) dX12_isMerged_20 ?_
      refine v_goto C 25 (by decide) dX12_isMerged_21 ?_
      obtain rfl := os hr
      exact v_zret C rfl dX12_isMerged_25
-- X12_isPast
def f_X12_isPast (S : St) (x0 : Nat) (x1 : Int32) : Option Int32 :=
    (getI S (some x0) 13 0).bind fun v3 =>
    (f_X12_isIn S x1 0 v3).bind fun v6 =>
    (zchk v6).bind fun z9 =>
    some z9
theorem k_X12_isPast {l : Launch} {G : Ge} {S : St} {x0 : Nat} {x1 : Int32} {rr : Int32} (hr : f_X12_isPast S x0 x1 = some rr) : Ct l G yX12_isPast cX12_isPast 2 (Option.some Jvm.ClassFile.FieldType.boolean) S [va_rf (some x0), .int x1] (some (.int rr)) S 1 22 := by
  refine ct_of (by decide +kernel) (Nat.le_of_ble_eq_true rfl) ?_
  intro p e s m args below meth c C ls hl
  have hl : lv_has ls 2 [(0, va_rf (some x0)), (1, .int x1)] := hl
  unfold f_X12_isPast at hr
  refine v_iload_n C (lv_at hl 1 rfl) rfl dX12_isPast_0 ?_
  refine v_iconst C 0 (by decide) dX12_isPast_1 ?_
  refine v_aload_n C (lv_at hl 0 rfl) rfl dX12_isPast_2 ?_
  obtain ⟨v3, e3, hr⟩ := ob hr
  refine v_getI C fl_RX12_197 rfl e3 dX12_isPast_3 ?_
  obtain ⟨v6, e6, hr⟩ := ob hr
  refine v_callS C (k_X12_isIn e6) cw_X12_isIn w_1555 w_1556 (show (parseMethodDescriptor (yX12_isIn).desc).map (fun d => d.parameters.length) = some 3 by decide +kernel) ⟨by decide, by decide⟩ (rest := []) (stk2 := [.int v6]) rfl rfl (Nat.le_of_ble_eq_true rfl) hl dX12_isPast_6 ?_
  obtain ⟨z9, e9, hr⟩ := ob hr
  obtain ⟨y9, n9⟩ := zchk_n e9
  obtain rfl := os hr
  rw [← y9]
  exact v_zret C n9 dX12_isPast_9
-- X12_isPerson
def f_X12_isPerson (S : St) (x0 : Nat) (x1 : Int32) : Option Int32 :=
    (getI S (some x0) 13 2).bind fun v3 =>
    (f_X12_isIn S x1 0 (v3 - 1)).bind fun v8 =>
    (zchk v8).bind fun z11 =>
    some z11
theorem k_X12_isPerson {l : Launch} {G : Ge} {S : St} {x0 : Nat} {x1 : Int32} {rr : Int32} (hr : f_X12_isPerson S x0 x1 = some rr) : Ct l G yX12_isPerson cX12_isPerson 2 (Option.some Jvm.ClassFile.FieldType.boolean) S [va_rf (some x0), .int x1] (some (.int rr)) S 1 22 := by
  refine ct_of (by decide +kernel) (Nat.le_of_ble_eq_true rfl) ?_
  intro p e s m args below meth c C ls hl
  have hl : lv_has ls 2 [(0, va_rf (some x0)), (1, .int x1)] := hl
  unfold f_X12_isPerson at hr
  refine v_iload_n C (lv_at hl 1 rfl) rfl dX12_isPerson_0 ?_
  refine v_iconst C 0 (by decide) dX12_isPerson_1 ?_
  refine v_aload_n C (lv_at hl 0 rfl) rfl dX12_isPerson_2 ?_
  obtain ⟨v3, e3, hr⟩ := ob hr
  refine v_getI C fl_RX12_207 rfl e3 dX12_isPerson_3 ?_
  refine v_iconst C 1 (by decide) dX12_isPerson_6 ?_
  refine v_isub C dX12_isPerson_7 ?_
  obtain ⟨v8, e8, hr⟩ := ob hr
  refine v_callS C (k_X12_isIn e8) cw_X12_isIn w_1555 w_1556 (show (parseMethodDescriptor (yX12_isIn).desc).map (fun d => d.parameters.length) = some 3 by decide +kernel) ⟨by decide, by decide⟩ (rest := []) (stk2 := [.int v8]) rfl rfl (Nat.le_of_ble_eq_true rfl) hl dX12_isPerson_8 ?_
  obtain ⟨z11, e11, hr⟩ := ob hr
  obtain ⟨y11, n11⟩ := zchk_n e11
  obtain rfl := os hr
  rw [← y11]
  exact v_zret C n11 dX12_isPerson_11
-- X12_account
def f_X12_account (S : St) (x0 : Nat) (x1 : Int32) (x2 : Int32) (x3 : Int32) (x4 : Int32) : Option (Int32 × St) :=
    (rcv S (some x0) 13).bind fun b2 =>
    (f_X12_isFirm S b2 x1).bind fun v2 =>
    (if v2 = 0 then
    some ((-1), S)
    else
    (f_X12_isIn S x2 0 3).bind fun v11 =>
    (if v11 = 0 then
    some ((-1), S)
    else
    (rcv S (some x0) 13).bind fun b19 =>
    (f_X12_isPerson S b19 x3).bind fun v19 =>
    (if v19 = 0 then
    some ((-1), S)
    else
    (rcv S (some x0) 13).bind fun b28 =>
    (f_X12_isPast S b28 x4).bind fun v28 =>
    (if v28 = 0 then
    some ((-1), S)
    else
    (rcv S (some x0) 13).bind fun b38 =>
    (f_X12_isMerged S b38 x1 x4).bind fun v38 =>
    (if v38 = 0 then
    (getI S (some x0) 13 3).bind fun v45 =>
    (if v45 = 40 then
    some ((-1), S)
    else
    (getR S (some x0) 13 14).bind fun v56 =>
    (getI S (some x0) 13 3).bind fun v60 =>
    (stI S v56 15 v60 x1).bind fun S64 =>
    (getR S64 (some x0) 13 15).bind fun v66 =>
    (getI S64 (some x0) 13 3).bind fun v70 =>
    (stI S64 v66 15 v70 x2).bind fun S74 =>
    (getR S74 (some x0) 13 16).bind fun v76 =>
    (getI S74 (some x0) 13 3).bind fun v80 =>
    (stI S74 v76 15 v80 x3).bind fun S84 =>
    (getR S84 (some x0) 13 17).bind fun v86 =>
    (getI S84 (some x0) 13 3).bind fun v90 =>
    (stI S84 v86 15 v90 x4).bind fun S95 =>
    (getR S95 (some x0) 13 56).bind fun v97 =>
    (getI S95 (some x0) 13 3).bind fun v101 =>
    (stI S95 v97 15 v101 (-1)).bind fun S105 =>
    (getI S105 (some x0) 13 3).bind fun v108 =>
    (putI S105 (some x0) 13 3 (v108 + 1)).bind fun S113 =>
    (getI S113 (some x0) 13 3).bind fun v117 =>
    some ((v117 - 1), S113))
    else
    some ((-1), S))))))
theorem k_X12_account {l : Launch} {G : Ge} {S S' : St} {x0 : Nat} {x1 : Int32} {x2 : Int32} {x3 : Int32} {x4 : Int32} {rr : Int32} (hr : f_X12_account S x0 x1 x2 x3 x4 = some (rr, S')) : Ct l G yX12_account cX12_account 5 (Option.some Jvm.ClassFile.FieldType.int) S [va_rf (some x0), .int x1, .int x2, .int x3, .int x4] (some (.int rr)) S' 2 43 := by
  refine ct_of (by decide +kernel) (Nat.le_of_ble_eq_true rfl) ?_
  intro p e s m args below meth c C ls hl
  have hl : lv_has ls 5 [(0, va_rf (some x0)), (1, .int x1), (2, .int x2), (3, .int x3), (4, .int x4)] := hl
  unfold f_X12_account at hr
  refine v_aload_n C (lv_at hl 0 rfl) rfl dX12_account_0 ?_
  refine v_iload_n C (lv_at hl 1 rfl) rfl dX12_account_1 ?_
  obtain ⟨b2, f2, hr⟩ := ob hr
  obtain ⟨g2, h2⟩ := rcv_n f2
  obtain ⟨v2, e2, hr⟩ := ob hr
  refine v_callV C (b := b2) h2 (by decide) rfl rfl (k_X12_isFirm e2) cw_X12_isFirm w_1569 w_1571 w_52 (show (parseMethodDescriptor (yX12_isFirm).desc).map (fun d => d.parameters.length) = some 1 by decide +kernel) ⟨by decide, by decide⟩ (rest := []) (stk2 := [.int v2]) (by rw [g2]; rfl) rfl (Nat.le_of_ble_eq_true rfl) hl dX12_account_2 ?_
  refine v_if_eq C 53 (by decide) dX12_account_5 (fun c5 => ?_) (fun c5 => ?_)
  · rw [if_pos c5] at hr
    refine v_iconst C (-1) (by decide) dX12_account_53 ?_
    obtain ⟨rfl, rfl⟩ := Prod.mk.inj (os hr)
    exact v_iret C dX12_account_54
  · rw [if_neg c5] at hr
    refine v_iload_n C (lv_at hl 2 rfl) rfl dX12_account_8 ?_
    refine v_iconst C 0 (by decide) dX12_account_9 ?_
    refine v_iconst C 3 (by decide) dX12_account_10 ?_
    obtain ⟨v11, e11, hr⟩ := ob hr
    refine v_callS C (k_X12_isIn e11) cw_X12_isIn w_1555 w_1556 (show (parseMethodDescriptor (yX12_isIn).desc).map (fun d => d.parameters.length) = some 3 by decide +kernel) ⟨by decide, by decide⟩ (rest := []) (stk2 := [.int v11]) rfl rfl (Nat.le_of_ble_eq_true rfl) hl dX12_account_11 ?_
    refine v_if_eq C 53 (by decide) dX12_account_14 (fun c14 => ?_) (fun c14 => ?_)
    · rw [if_pos c14] at hr
      refine v_iconst C (-1) (by decide) dX12_account_53 ?_
      obtain ⟨rfl, rfl⟩ := Prod.mk.inj (os hr)
      exact v_iret C dX12_account_54
    · rw [if_neg c14] at hr
      refine v_aload_n C (lv_at hl 0 rfl) rfl dX12_account_17 ?_
      refine v_iload_n C (lv_at hl 3 rfl) rfl dX12_account_18 ?_
      obtain ⟨b19, f19, hr⟩ := ob hr
      obtain ⟨g19, h19⟩ := rcv_n f19
      obtain ⟨v19, e19, hr⟩ := ob hr
      refine v_callV C (b := b19) h19 (by decide) rfl rfl (k_X12_isPerson e19) cw_X12_isPerson w_1593 w_1595 w_56 (show (parseMethodDescriptor (yX12_isPerson).desc).map (fun d => d.parameters.length) = some 1 by decide +kernel) ⟨by decide, by decide⟩ (rest := []) (stk2 := [.int v19]) (by rw [g19]; rfl) rfl (Nat.le_of_ble_eq_true rfl) hl dX12_account_19 ?_
      refine v_if_eq C 53 (by decide) dX12_account_22 (fun c22 => ?_) (fun c22 => ?_)
      · rw [if_pos c22] at hr
        refine v_iconst C (-1) (by decide) dX12_account_53 ?_
        obtain ⟨rfl, rfl⟩ := Prod.mk.inj (os hr)
        exact v_iret C dX12_account_54
      · rw [if_neg c22] at hr
        refine v_aload_n C (lv_at hl 0 rfl) rfl dX12_account_25 ?_
        refine v_iload C (lv_at hl 4 rfl) dX12_account_26 ?_
        obtain ⟨b28, f28, hr⟩ := ob hr
        obtain ⟨g28, h28⟩ := rcv_n f28
        obtain ⟨v28, e28, hr⟩ := ob hr
        refine v_callV C (b := b28) h28 (by decide) rfl rfl (k_X12_isPast e28) cw_X12_isPast w_1573 w_1575 w_53 (show (parseMethodDescriptor (yX12_isPast).desc).map (fun d => d.parameters.length) = some 1 by decide +kernel) ⟨by decide, by decide⟩ (rest := []) (stk2 := [.int v28]) (by rw [g28]; rfl) rfl (Nat.le_of_ble_eq_true rfl) hl dX12_account_28 ?_
        refine v_if_eq C 53 (by decide) dX12_account_31 (fun c31 => ?_) (fun c31 => ?_)
        · rw [if_pos c31] at hr
          refine v_iconst C (-1) (by decide) dX12_account_53 ?_
          obtain ⟨rfl, rfl⟩ := Prod.mk.inj (os hr)
          exact v_iret C dX12_account_54
        · rw [if_neg c31] at hr
          refine v_aload_n C (lv_at hl 0 rfl) rfl dX12_account_34 ?_
          refine v_iload_n C (lv_at hl 1 rfl) rfl dX12_account_35 ?_
          refine v_iload C (lv_at hl 4 rfl) dX12_account_36 ?_
          obtain ⟨b38, f38, hr⟩ := ob hr
          obtain ⟨g38, h38⟩ := rcv_n f38
          obtain ⟨v38, e38, hr⟩ := ob hr
          refine v_callV C (b := b38) h38 (by decide) rfl rfl (k_X12_isMerged e38) cw_X12_isMerged w_1577 w_1579 w_54 (show (parseMethodDescriptor (yX12_isMerged).desc).map (fun d => d.parameters.length) = some 2 by decide +kernel) ⟨by decide, by decide⟩ (rest := []) (stk2 := [.int v38]) (by rw [g38]; rfl) rfl (Nat.le_of_ble_eq_true rfl) hl dX12_account_38 ?_
          refine v_if_ne C 53 (by decide) dX12_account_41 (fun c41 => ?_) (fun c41 => ?_)
          · rw [if_neg c41] at hr
            refine v_iconst C (-1) (by decide) dX12_account_53 ?_
            obtain ⟨rfl, rfl⟩ := Prod.mk.inj (os hr)
            exact v_iret C dX12_account_54
          · rw [if_pos c41] at hr
            refine v_aload_n C (lv_at hl 0 rfl) rfl dX12_account_44 ?_
            obtain ⟨v45, e45, hr⟩ := ob hr
            refine v_getI C fl_RX12_210 rfl e45 dX12_account_45 ?_
            refine v_bipush C 40 (by decide) dX12_account_48 ?_
            refine v_icmp_ne C 55 (by decide) dX12_account_50 (fun c50 => ?_) (fun c50 => ?_)
            · rw [if_neg c50] at hr
              refine v_aload_n C (lv_at hl 0 rfl) rfl dX12_account_55 ?_
              obtain ⟨v56, e56, hr⟩ := ob hr
              refine v_getR C fl_RX12_37 rfl e56 dX12_account_56 ?_
              refine v_aload_n C (lv_at hl 0 rfl) rfl dX12_account_59 ?_
              obtain ⟨v60, e60, hr⟩ := ob hr
              refine v_getI C fl_RX12_210 rfl e60 dX12_account_60 ?_
              refine v_iload_n C (lv_at hl 1 rfl) rfl dX12_account_63 ?_
              obtain ⟨S64, e64, hr⟩ := ob hr
              refine v_stI_i C e64 dX12_account_64 ?_
              refine v_aload_n C (lv_at hl 0 rfl) rfl dX12_account_65 ?_
              obtain ⟨v66, e66, hr⟩ := ob hr
              refine v_getR C fl_RX12_40 rfl e66 dX12_account_66 ?_
              refine v_aload_n C (lv_at hl 0 rfl) rfl dX12_account_69 ?_
              obtain ⟨v70, e70, hr⟩ := ob hr
              refine v_getI C fl_RX12_210 rfl e70 dX12_account_70 ?_
              refine v_iload_n C (lv_at hl 2 rfl) rfl dX12_account_73 ?_
              obtain ⟨S74, e74, hr⟩ := ob hr
              refine v_stI_i C e74 dX12_account_74 ?_
              refine v_aload_n C (lv_at hl 0 rfl) rfl dX12_account_75 ?_
              obtain ⟨v76, e76, hr⟩ := ob hr
              refine v_getR C fl_RX12_43 rfl e76 dX12_account_76 ?_
              refine v_aload_n C (lv_at hl 0 rfl) rfl dX12_account_79 ?_
              obtain ⟨v80, e80, hr⟩ := ob hr
              refine v_getI C fl_RX12_210 rfl e80 dX12_account_80 ?_
              refine v_iload_n C (lv_at hl 3 rfl) rfl dX12_account_83 ?_
              obtain ⟨S84, e84, hr⟩ := ob hr
              refine v_stI_i C e84 dX12_account_84 ?_
              refine v_aload_n C (lv_at hl 0 rfl) rfl dX12_account_85 ?_
              obtain ⟨v86, e86, hr⟩ := ob hr
              refine v_getR C fl_RX12_46 rfl e86 dX12_account_86 ?_
              refine v_aload_n C (lv_at hl 0 rfl) rfl dX12_account_89 ?_
              obtain ⟨v90, e90, hr⟩ := ob hr
              refine v_getI C fl_RX12_210 rfl e90 dX12_account_90 ?_
              refine v_iload C (lv_at hl 4 rfl) dX12_account_93 ?_
              obtain ⟨S95, e95, hr⟩ := ob hr
              refine v_stI_i C e95 dX12_account_95 ?_
              refine v_aload_n C (lv_at hl 0 rfl) rfl dX12_account_96 ?_
              obtain ⟨v97, e97, hr⟩ := ob hr
              refine v_getR C fl_RX12_128 rfl e97 dX12_account_97 ?_
              refine v_aload_n C (lv_at hl 0 rfl) rfl dX12_account_100 ?_
              obtain ⟨v101, e101, hr⟩ := ob hr
              refine v_getI C fl_RX12_210 rfl e101 dX12_account_101 ?_
              refine v_iconst C (-1) (by decide) dX12_account_104 ?_
              obtain ⟨S105, e105, hr⟩ := ob hr
              refine v_stI_i C e105 dX12_account_105 ?_
              refine v_aload_n C (lv_at hl 0 rfl) rfl dX12_account_106 ?_
              refine v_dup C (rf_cat _) dX12_account_107 ?_
              obtain ⟨v108, e108, hr⟩ := ob hr
              refine v_getI C fl_RX12_210 rfl e108 dX12_account_108 ?_
              refine v_iconst C 1 (by decide) dX12_account_111 ?_
              refine v_iadd C dX12_account_112 ?_
              obtain ⟨S113, e113, hr⟩ := ob hr
              refine v_putI C fl_RX12_210 (Or.inl rfl) rfl e113 dX12_account_113 ?_
              refine v_aload_n C (lv_at hl 0 rfl) rfl dX12_account_116 ?_
              obtain ⟨v117, e117, hr⟩ := ob hr
              refine v_getI C fl_RX12_210 rfl e117 dX12_account_117 ?_
              refine v_iconst C 1 (by decide) dX12_account_120 ?_
              refine v_isub C dX12_account_121 ?_
              obtain ⟨rfl, rfl⟩ := Prod.mk.inj (os hr)
              exact v_iret C dX12_account_122
            · rw [if_pos c50] at hr
              refine v_iconst C (-1) (by decide) dX12_account_53 ?_
              obtain ⟨rfl, rfl⟩ := Prod.mk.inj (os hr)
              exact v_iret C dX12_account_54
-- X12_isAccount
def f_X12_isAccount (S : St) (x0 : Nat) (x1 : Int32) : Option Int32 :=
    (getI S (some x0) 13 3).bind fun v3 =>
    (f_X12_isIn S x1 0 (v3 - 1)).bind fun v8 =>
    (zchk v8).bind fun z11 =>
    some z11
theorem k_X12_isAccount {l : Launch} {G : Ge} {S : St} {x0 : Nat} {x1 : Int32} {rr : Int32} (hr : f_X12_isAccount S x0 x1 = some rr) : Ct l G yX12_isAccount cX12_isAccount 2 (Option.some Jvm.ClassFile.FieldType.boolean) S [va_rf (some x0), .int x1] (some (.int rr)) S 1 22 := by
  refine ct_of (by decide +kernel) (Nat.le_of_ble_eq_true rfl) ?_
  intro p e s m args below meth c C ls hl
  have hl : lv_has ls 2 [(0, va_rf (some x0)), (1, .int x1)] := hl
  unfold f_X12_isAccount at hr
  refine v_iload_n C (lv_at hl 1 rfl) rfl dX12_isAccount_0 ?_
  refine v_iconst C 0 (by decide) dX12_isAccount_1 ?_
  refine v_aload_n C (lv_at hl 0 rfl) rfl dX12_isAccount_2 ?_
  obtain ⟨v3, e3, hr⟩ := ob hr
  refine v_getI C fl_RX12_210 rfl e3 dX12_isAccount_3 ?_
  refine v_iconst C 1 (by decide) dX12_isAccount_6 ?_
  refine v_isub C dX12_isAccount_7 ?_
  obtain ⟨v8, e8, hr⟩ := ob hr
  refine v_callS C (k_X12_isIn e8) cw_X12_isIn w_1555 w_1556 (show (parseMethodDescriptor (yX12_isIn).desc).map (fun d => d.parameters.length) = some 3 by decide +kernel) ⟨by decide, by decide⟩ (rest := []) (stk2 := [.int v8]) rfl rfl (Nat.le_of_ble_eq_true rfl) hl dX12_isAccount_8 ?_
  obtain ⟨z11, e11, hr⟩ := ob hr
  obtain ⟨y11, n11⟩ := zchk_n e11
  obtain rfl := os hr
  rw [← y11]
  exact v_zret C n11 dX12_isAccount_11
-- X12_tells
def f_X12_tells (S : St) (x0 : Nat) (x1 : Int32) (x2 : Int32) (x3 : Int32) (x4 : Int32) (x5 : Int32) : Option St :=
    (getR S (some x0) 13 18).bind fun v1 =>
    (getI S (some x0) 13 4).bind fun v5 =>
    (stI S v1 15 v5 x1).bind fun S9 =>
    (getR S9 (some x0) 13 19).bind fun v11 =>
    (getI S9 (some x0) 13 4).bind fun v15 =>
    (stI S9 v11 15 v15 x2).bind fun S19 =>
    (getR S19 (some x0) 13 20).bind fun v21 =>
    (getI S19 (some x0) 13 4).bind fun v25 =>
    (stI S19 v21 15 v25 x3).bind fun S29 =>
    (getR S29 (some x0) 13 21).bind fun v31 =>
    (getI S29 (some x0) 13 4).bind fun v35 =>
    (stI S29 v31 15 v35 x4).bind fun S40 =>
    (getR S40 (some x0) 13 22).bind fun v42 =>
    (getI S40 (some x0) 13 4).bind fun v46 =>
    (stI S40 v42 15 v46 x5).bind fun S51 =>
    (getR S51 (some x0) 13 23).bind fun v53 =>
    (getI S51 (some x0) 13 4).bind fun v57 =>
    (getI S51 (some x0) 13 0).bind fun v61 =>
    (stI S51 v53 15 v57 v61).bind fun S64 =>
    (getI S64 (some x0) 13 4).bind fun v67 =>
    (putI S64 (some x0) 13 4 (v67 + 1)).bind fun S72 =>
    some S72
theorem k_X12_tells {l : Launch} {G : Ge} {S S' : St} {x0 : Nat} {x1 : Int32} {x2 : Int32} {x3 : Int32} {x4 : Int32} {x5 : Int32} (hr : f_X12_tells S x0 x1 x2 x3 x4 x5 = some S') : Ct l G yX12_tells cX12_tells 6 (Option.none : Option Jvm.ClassFile.FieldType) S [va_rf (some x0), .int x1, .int x2, .int x3, .int x4, .int x5] none S' 0 0 := by
  refine ct_of (by decide +kernel) (Nat.le_of_ble_eq_true rfl) ?_
  intro p e s m args below meth c C ls hl
  have hl : lv_has ls 6 [(0, va_rf (some x0)), (1, .int x1), (2, .int x2), (3, .int x3), (4, .int x4), (5, .int x5)] := hl
  unfold f_X12_tells at hr
  refine v_aload_n C (lv_at hl 0 rfl) rfl dX12_tells_0 ?_
  obtain ⟨v1, e1, hr⟩ := ob hr
  refine v_getR C fl_RX12_49 rfl e1 dX12_tells_1 ?_
  refine v_aload_n C (lv_at hl 0 rfl) rfl dX12_tells_4 ?_
  obtain ⟨v5, e5, hr⟩ := ob hr
  refine v_getI C fl_RX12_234 rfl e5 dX12_tells_5 ?_
  refine v_iload_n C (lv_at hl 1 rfl) rfl dX12_tells_8 ?_
  obtain ⟨S9, e9, hr⟩ := ob hr
  refine v_stI_i C e9 dX12_tells_9 ?_
  refine v_aload_n C (lv_at hl 0 rfl) rfl dX12_tells_10 ?_
  obtain ⟨v11, e11, hr⟩ := ob hr
  refine v_getR C fl_RX12_52 rfl e11 dX12_tells_11 ?_
  refine v_aload_n C (lv_at hl 0 rfl) rfl dX12_tells_14 ?_
  obtain ⟨v15, e15, hr⟩ := ob hr
  refine v_getI C fl_RX12_234 rfl e15 dX12_tells_15 ?_
  refine v_iload_n C (lv_at hl 2 rfl) rfl dX12_tells_18 ?_
  obtain ⟨S19, e19, hr⟩ := ob hr
  refine v_stI_i C e19 dX12_tells_19 ?_
  refine v_aload_n C (lv_at hl 0 rfl) rfl dX12_tells_20 ?_
  obtain ⟨v21, e21, hr⟩ := ob hr
  refine v_getR C fl_RX12_55 rfl e21 dX12_tells_21 ?_
  refine v_aload_n C (lv_at hl 0 rfl) rfl dX12_tells_24 ?_
  obtain ⟨v25, e25, hr⟩ := ob hr
  refine v_getI C fl_RX12_234 rfl e25 dX12_tells_25 ?_
  refine v_iload_n C (lv_at hl 3 rfl) rfl dX12_tells_28 ?_
  obtain ⟨S29, e29, hr⟩ := ob hr
  refine v_stI_i C e29 dX12_tells_29 ?_
  refine v_aload_n C (lv_at hl 0 rfl) rfl dX12_tells_30 ?_
  obtain ⟨v31, e31, hr⟩ := ob hr
  refine v_getR C fl_RX12_58 rfl e31 dX12_tells_31 ?_
  refine v_aload_n C (lv_at hl 0 rfl) rfl dX12_tells_34 ?_
  obtain ⟨v35, e35, hr⟩ := ob hr
  refine v_getI C fl_RX12_234 rfl e35 dX12_tells_35 ?_
  refine v_iload C (lv_at hl 4 rfl) dX12_tells_38 ?_
  obtain ⟨S40, e40, hr⟩ := ob hr
  refine v_stI_i C e40 dX12_tells_40 ?_
  refine v_aload_n C (lv_at hl 0 rfl) rfl dX12_tells_41 ?_
  obtain ⟨v42, e42, hr⟩ := ob hr
  refine v_getR C fl_RX12_61 rfl e42 dX12_tells_42 ?_
  refine v_aload_n C (lv_at hl 0 rfl) rfl dX12_tells_45 ?_
  obtain ⟨v46, e46, hr⟩ := ob hr
  refine v_getI C fl_RX12_234 rfl e46 dX12_tells_46 ?_
  refine v_iload C (lv_at hl 5 rfl) dX12_tells_49 ?_
  obtain ⟨S51, e51, hr⟩ := ob hr
  refine v_stI_i C e51 dX12_tells_51 ?_
  refine v_aload_n C (lv_at hl 0 rfl) rfl dX12_tells_52 ?_
  obtain ⟨v53, e53, hr⟩ := ob hr
  refine v_getR C fl_RX12_64 rfl e53 dX12_tells_53 ?_
  refine v_aload_n C (lv_at hl 0 rfl) rfl dX12_tells_56 ?_
  obtain ⟨v57, e57, hr⟩ := ob hr
  refine v_getI C fl_RX12_234 rfl e57 dX12_tells_57 ?_
  refine v_aload_n C (lv_at hl 0 rfl) rfl dX12_tells_60 ?_
  obtain ⟨v61, e61, hr⟩ := ob hr
  refine v_getI C fl_RX12_197 rfl e61 dX12_tells_61 ?_
  obtain ⟨S64, e64, hr⟩ := ob hr
  refine v_stI_i C e64 dX12_tells_64 ?_
  refine v_aload_n C (lv_at hl 0 rfl) rfl dX12_tells_65 ?_
  refine v_dup C (rf_cat _) dX12_tells_66 ?_
  obtain ⟨v67, e67, hr⟩ := ob hr
  refine v_getI C fl_RX12_234 rfl e67 dX12_tells_67 ?_
  refine v_iconst C 1 (by decide) dX12_tells_70 ?_
  refine v_iadd C dX12_tells_71 ?_
  obtain ⟨S72, e72, hr⟩ := ob hr
  refine v_putI C fl_RX12_234 (Or.inl rfl) rfl e72 dX12_tells_72 ?_
  obtain rfl := os hr
  exact v_vret C dX12_tells_75
-- X12_act
def f_X12_act (S : St) (x0 : Nat) (x1 : Int32) (x2 : Int32) (x3 : Int32) (x4 : Int32) : Option (Int32 × St) :=
    (rcv S (some x0) 13).bind fun b2 =>
    (f_X12_isAccount S b2 x1).bind fun v2 =>
    (if v2 = 0 then
    some (0, S)
    else
    (f_X12_isIn S x2 0 5).bind fun v11 =>
    (if v11 = 0 then
    some (0, S)
    else
    (getR S (some x0) 13 17).bind fun v19 =>
    (ldI S v19 15 x1).bind fun v23 =>
    (getI S (some x0) 13 0).bind fun v25 =>
    (f_X12_isIn S x3 v23 v25).bind fun v28 =>
    (if v28 = 0 then
    some (0, S)
    else
    (f_X12_isIn S x4 (-9999999) 9999999).bind fun v40 =>
    (if v40 = 0 then
    some (0, S)
    else
    (getI S (some x0) 13 4).bind fun v47 =>
    (if v47 = 600 then
    some (0, S)
    else
    (rcv S (some x0) 13).bind fun b65 =>
    (f_X12_tells S b65 x1 x2 x3 x4 1).bind fun S65 =>
    some (1, S65))))))
theorem k_X12_act {l : Launch} {G : Ge} {S S' : St} {x0 : Nat} {x1 : Int32} {x2 : Int32} {x3 : Int32} {x4 : Int32} {rr : Int32} (hr : f_X12_act S x0 x1 x2 x3 x4 = some (rr, S')) : Ct l G yX12_act cX12_act 5 (Option.some Jvm.ClassFile.FieldType.boolean) S [va_rf (some x0), .int x1, .int x2, .int x3, .int x4] (some (.int rr)) S' 2 43 := by
  refine ct_of (by decide +kernel) (Nat.le_of_ble_eq_true rfl) ?_
  intro p e s m args below meth c C ls hl
  have hl : lv_has ls 5 [(0, va_rf (some x0)), (1, .int x1), (2, .int x2), (3, .int x3), (4, .int x4)] := hl
  unfold f_X12_act at hr
  refine v_aload_n C (lv_at hl 0 rfl) rfl dX12_act_0 ?_
  refine v_iload_n C (lv_at hl 1 rfl) rfl dX12_act_1 ?_
  obtain ⟨b2, f2, hr⟩ := ob hr
  obtain ⟨g2, h2⟩ := rcv_n f2
  obtain ⟨v2, e2, hr⟩ := ob hr
  refine v_callV C (b := b2) h2 (by decide) rfl rfl (k_X12_isAccount e2) cw_X12_isAccount w_1613 w_1615 w_57 (show (parseMethodDescriptor (yX12_isAccount).desc).map (fun d => d.parameters.length) = some 1 by decide +kernel) ⟨by decide, by decide⟩ (rest := []) (stk2 := [.int v2]) (by rw [g2]; rfl) rfl (Nat.le_of_ble_eq_true rfl) hl dX12_act_2 ?_
  refine v_if_eq C 56 (by decide) dX12_act_5 (fun c5 => ?_) (fun c5 => ?_)
  · rw [if_pos c5] at hr
    refine v_iconst C 0 (by decide) dX12_act_56 ?_
    obtain ⟨rfl, rfl⟩ := Prod.mk.inj (os hr)
    exact v_zret C rfl dX12_act_57
  · rw [if_neg c5] at hr
    refine v_iload_n C (lv_at hl 2 rfl) rfl dX12_act_8 ?_
    refine v_iconst C 0 (by decide) dX12_act_9 ?_
    refine v_iconst C 5 (by decide) dX12_act_10 ?_
    obtain ⟨v11, e11, hr⟩ := ob hr
    refine v_callS C (k_X12_isIn e11) cw_X12_isIn w_1555 w_1556 (show (parseMethodDescriptor (yX12_isIn).desc).map (fun d => d.parameters.length) = some 3 by decide +kernel) ⟨by decide, by decide⟩ (rest := []) (stk2 := [.int v11]) rfl rfl (Nat.le_of_ble_eq_true rfl) hl dX12_act_11 ?_
    refine v_if_eq C 56 (by decide) dX12_act_14 (fun c14 => ?_) (fun c14 => ?_)
    · rw [if_pos c14] at hr
      refine v_iconst C 0 (by decide) dX12_act_56 ?_
      obtain ⟨rfl, rfl⟩ := Prod.mk.inj (os hr)
      exact v_zret C rfl dX12_act_57
    · rw [if_neg c14] at hr
      refine v_iload_n C (lv_at hl 3 rfl) rfl dX12_act_17 ?_
      refine v_aload_n C (lv_at hl 0 rfl) rfl dX12_act_18 ?_
      obtain ⟨v19, e19, hr⟩ := ob hr
      refine v_getR C fl_RX12_46 rfl e19 dX12_act_19 ?_
      refine v_iload_n C (lv_at hl 1 rfl) rfl dX12_act_22 ?_
      obtain ⟨v23, e23, hr⟩ := ob hr
      refine v_ldI_i C e23 dX12_act_23 ?_
      refine v_aload_n C (lv_at hl 0 rfl) rfl dX12_act_24 ?_
      obtain ⟨v25, e25, hr⟩ := ob hr
      refine v_getI C fl_RX12_197 rfl e25 dX12_act_25 ?_
      obtain ⟨v28, e28, hr⟩ := ob hr
      refine v_callS C (k_X12_isIn e28) cw_X12_isIn w_1555 w_1556 (show (parseMethodDescriptor (yX12_isIn).desc).map (fun d => d.parameters.length) = some 3 by decide +kernel) ⟨by decide, by decide⟩ (rest := []) (stk2 := [.int v28]) rfl rfl (Nat.le_of_ble_eq_true rfl) hl dX12_act_28 ?_
      refine v_if_eq C 56 (by decide) dX12_act_31 (fun c31 => ?_) (fun c31 => ?_)
      · rw [if_pos c31] at hr
        refine v_iconst C 0 (by decide) dX12_act_56 ?_
        obtain ⟨rfl, rfl⟩ := Prod.mk.inj (os hr)
        exact v_zret C rfl dX12_act_57
      · rw [if_neg c31] at hr
        refine v_iload C (lv_at hl 4 rfl) dX12_act_34 ?_
        refine v_ldc C w_1617 dX12_act_36 ?_
        refine v_ldc C w_1618 dX12_act_38 ?_
        obtain ⟨v40, e40, hr⟩ := ob hr
        refine v_callS C (k_X12_isIn e40) cw_X12_isIn w_1555 w_1556 (show (parseMethodDescriptor (yX12_isIn).desc).map (fun d => d.parameters.length) = some 3 by decide +kernel) ⟨by decide, by decide⟩ (rest := []) (stk2 := [.int v40]) rfl rfl (Nat.le_of_ble_eq_true rfl) hl dX12_act_40 ?_
        refine v_if_eq C 56 (by decide) dX12_act_43 (fun c43 => ?_) (fun c43 => ?_)
        · rw [if_pos c43] at hr
          refine v_iconst C 0 (by decide) dX12_act_56 ?_
          obtain ⟨rfl, rfl⟩ := Prod.mk.inj (os hr)
          exact v_zret C rfl dX12_act_57
        · rw [if_neg c43] at hr
          refine v_aload_n C (lv_at hl 0 rfl) rfl dX12_act_46 ?_
          obtain ⟨v47, e47, hr⟩ := ob hr
          refine v_getI C fl_RX12_234 rfl e47 dX12_act_47 ?_
          refine v_sipush C 600 (by decide) dX12_act_50 ?_
          refine v_icmp_ne C 58 (by decide) dX12_act_53 (fun c53 => ?_) (fun c53 => ?_)
          · rw [if_neg c53] at hr
            refine v_aload_n C (lv_at hl 0 rfl) rfl dX12_act_58 ?_
            refine v_iload_n C (lv_at hl 1 rfl) rfl dX12_act_59 ?_
            refine v_iload_n C (lv_at hl 2 rfl) rfl dX12_act_60 ?_
            refine v_iload_n C (lv_at hl 3 rfl) rfl dX12_act_61 ?_
            refine v_iload C (lv_at hl 4 rfl) dX12_act_62 ?_
            refine v_iconst C 1 (by decide) dX12_act_64 ?_
            obtain ⟨b65, f65, hr⟩ := ob hr
            obtain ⟨g65, h65⟩ := rcv_n f65
            obtain ⟨S65, e65, hr⟩ := ob hr
            refine v_callV C (b := b65) h65 (by decide) rfl rfl (k_X12_tells e65) cw_X12_tells w_1619 w_1621 w_58 (show (parseMethodDescriptor (yX12_tells).desc).map (fun d => d.parameters.length) = some 5 by decide +kernel) ⟨by decide, by decide⟩ (rest := []) (stk2 := []) (by rw [g65]; rfl) rfl (Nat.le_of_ble_eq_true rfl) hl dX12_act_65 ?_
            refine v_iconst C 1 (by decide) dX12_act_68 ?_
            obtain ⟨rfl, rfl⟩ := Prod.mk.inj (os hr)
            exact v_zret C rfl dX12_act_69
          · rw [if_pos c53] at hr
            refine v_iconst C 0 (by decide) dX12_act_56 ?_
            obtain ⟨rfl, rfl⟩ := Prod.mk.inj (os hr)
            exact v_zret C rfl dX12_act_57
-- X12_both
def f_X12_both (S : St) (x0 : Int32) (x1 : Int32) (x2 : Int32) : Option Int32 :=
    (if x0 = 5 then
    some (x1 + x2)
    else
    (if x0 = 6 then
    some (x1 - x2)
    else
    (if x0 = 7 then
    some (x1 * x2)
    else
    (if x0 = 9 then
    (if x2 ≤ x1 then
    some 0
    else
    some 1)
    else
    (if x0 = 10 then
    (if x1 = x2 then
    some 1
    else
    some 0)
    else
    (if x0 = 11 then
    (if x1 ≤ x2 then
    some 0
    else
    some 1)
    else
    (if x0 = 13 then
    some (x1 &&& x2)
    else
    some (x1 ||| x2))))))))
theorem k_X12_both {l : Launch} {G : Ge} {S : St} {x0 : Int32} {x1 : Int32} {x2 : Int32} {rr : Int32} (hr : f_X12_both S x0 x1 x2 = some rr) : Ct l G yX12_both cX12_both 3 (Option.some Jvm.ClassFile.FieldType.int) S [.int x0, .int x1, .int x2] (some (.int rr)) S 0 0 := by
  refine ct_of (by decide +kernel) (Nat.le_of_ble_eq_true rfl) ?_
  intro p e s m args below meth c C ls hl
  have hl : lv_has ls 3 [(0, .int x0), (1, .int x1), (2, .int x2)] := hl
  unfold f_X12_both at hr
  refine v_iload_n C (lv_at hl 0 rfl) rfl dX12_both_0 ?_
  by_cases q1_5 : x0 = 5
  · rw [if_pos q1_5] at hr
    refine v_tableIn C (off := 51) 52 (by rw [q1_5]; decide) (by rw [q1_5]; decide) (by rw [q1_5]; decide) (by decide) dX12_both_1 ?_
    refine v_iload_n C (lv_at hl 1 rfl) rfl dX12_both_52 ?_
    refine v_iload_n C (lv_at hl 2 rfl) rfl dX12_both_53 ?_
    refine v_iadd C dX12_both_54 ?_
    obtain rfl := os hr
    exact v_iret C dX12_both_55
  rw [if_neg q1_5] at hr
  by_cases q1_6 : x0 = 6
  · rw [if_pos q1_6] at hr
    refine v_tableIn C (off := 55) 56 (by rw [q1_6]; decide) (by rw [q1_6]; decide) (by rw [q1_6]; decide) (by decide) dX12_both_1 ?_
    refine v_iload_n C (lv_at hl 1 rfl) rfl dX12_both_56 ?_
    refine v_iload_n C (lv_at hl 2 rfl) rfl dX12_both_57 ?_
    refine v_isub C dX12_both_58 ?_
    obtain rfl := os hr
    exact v_iret C dX12_both_59
  rw [if_neg q1_6] at hr
  by_cases q1_7 : x0 = 7
  · rw [if_pos q1_7] at hr
    refine v_tableIn C (off := 59) 60 (by rw [q1_7]; decide) (by rw [q1_7]; decide) (by rw [q1_7]; decide) (by decide) dX12_both_1 ?_
    refine v_iload_n C (lv_at hl 1 rfl) rfl dX12_both_60 ?_
    refine v_iload_n C (lv_at hl 2 rfl) rfl dX12_both_61 ?_
    refine v_imul C dX12_both_62 ?_
    obtain rfl := os hr
    exact v_iret C dX12_both_63
  rw [if_neg q1_7] at hr
  by_cases q1_9 : x0 = 9
  · rw [if_pos q1_9] at hr
    refine v_tableIn C (off := 63) 64 (by rw [q1_9]; decide) (by rw [q1_9]; decide) (by rw [q1_9]; decide) (by decide) dX12_both_1 ?_
    refine v_iload_n C (lv_at hl 1 rfl) rfl dX12_both_64 ?_
    refine v_iload_n C (lv_at hl 2 rfl) rfl dX12_both_65 ?_
    refine v_icmp_ge C 73 (by decide) dX12_both_66 (fun c66 => ?_) (fun c66 => ?_)
    · rw [if_pos c66] at hr
      refine v_iconst C 0 (by decide) dX12_both_73 ?_
      obtain rfl := os hr
      exact v_iret C dX12_both_74
    · rw [if_neg c66] at hr
      refine v_iconst C 1 (by decide) dX12_both_69 ?_
      refine v_goto C 74 (by decide) dX12_both_70 ?_
      obtain rfl := os hr
      exact v_iret C dX12_both_74
  rw [if_neg q1_9] at hr
  by_cases q1_10 : x0 = 10
  · rw [if_pos q1_10] at hr
    refine v_tableIn C (off := 74) 75 (by rw [q1_10]; decide) (by rw [q1_10]; decide) (by rw [q1_10]; decide) (by decide) dX12_both_1 ?_
    refine v_iload_n C (lv_at hl 1 rfl) rfl dX12_both_75 ?_
    refine v_iload_n C (lv_at hl 2 rfl) rfl dX12_both_76 ?_
    refine v_icmp_ne C 84 (by decide) dX12_both_77 (fun c77 => ?_) (fun c77 => ?_)
    · rw [if_neg c77] at hr
      refine v_iconst C 0 (by decide) dX12_both_84 ?_
      obtain rfl := os hr
      exact v_iret C dX12_both_85
    · rw [if_pos c77] at hr
      refine v_iconst C 1 (by decide) dX12_both_80 ?_
      refine v_goto C 85 (by decide) dX12_both_81 ?_
      obtain rfl := os hr
      exact v_iret C dX12_both_85
  rw [if_neg q1_10] at hr
  by_cases q1_11 : x0 = 11
  · rw [if_pos q1_11] at hr
    refine v_tableIn C (off := 85) 86 (by rw [q1_11]; decide) (by rw [q1_11]; decide) (by rw [q1_11]; decide) (by decide) dX12_both_1 ?_
    refine v_iload_n C (lv_at hl 1 rfl) rfl dX12_both_86 ?_
    refine v_iload_n C (lv_at hl 2 rfl) rfl dX12_both_87 ?_
    refine v_icmp_le C 95 (by decide) dX12_both_88 (fun c88 => ?_) (fun c88 => ?_)
    · rw [if_pos c88] at hr
      refine v_iconst C 0 (by decide) dX12_both_95 ?_
      obtain rfl := os hr
      exact v_iret C dX12_both_96
    · rw [if_neg c88] at hr
      refine v_iconst C 1 (by decide) dX12_both_91 ?_
      refine v_goto C 96 (by decide) dX12_both_92 ?_
      obtain rfl := os hr
      exact v_iret C dX12_both_96
  rw [if_neg q1_11] at hr
  by_cases q1_13 : x0 = 13
  · rw [if_pos q1_13] at hr
    refine v_tableIn C (off := 96) 97 (by rw [q1_13]; decide) (by rw [q1_13]; decide) (by rw [q1_13]; decide) (by decide) dX12_both_1 ?_
    refine v_iload_n C (lv_at hl 1 rfl) rfl dX12_both_97 ?_
    refine v_iload_n C (lv_at hl 2 rfl) rfl dX12_both_98 ?_
    refine v_iand C dX12_both_99 ?_
    obtain rfl := os hr
    exact v_iret C dX12_both_100
  rw [if_neg q1_13] at hr
  have kd1 : V p l e (rmo 0 0 S) s m args below meth c G S S (QM below args s G S S (some (.int rr))) (F0 m 101 ls []) := by
    refine v_iload_n C (lv_at hl 1 rfl) rfl dX12_both_101 ?_
    refine v_iload_n C (lv_at hl 2 rfl) rfl dX12_both_102 ?_
    refine v_ior C dX12_both_103 ?_
    obtain rfl := os hr
    exact v_iret C dX12_both_104
  by_cases q1_8 : x0 = 8
  · exact v_tableIn C (off := 100) 101 (by rw [q1_8]; decide) (by rw [q1_8]; decide) (by rw [q1_8]; decide) (by decide) dX12_both_1 kd1
  by_cases q1_12 : x0 = 12
  · exact v_tableIn C (off := 100) 101 (by rw [q1_12]; decide) (by rw [q1_12]; decide) (by rw [q1_12]; decide) (by decide) dX12_both_1 kd1
  have z0 := lv_neT q1_5 (a := 5) (by decide)
  have z1 := lv_neT q1_6 (a := 6) (by decide)
  have z2 := lv_neT q1_7 (a := 7) (by decide)
  have z3 := lv_neT q1_8 (a := 8) (by decide)
  have z4 := lv_neT q1_9 (a := 9) (by decide)
  have z5 := lv_neT q1_10 (a := 10) (by decide)
  have z6 := lv_neT q1_11 (a := 11) (by decide)
  have z7 := lv_neT q1_12 (a := 12) (by decide)
  have z8 := lv_neT q1_13 (a := 13) (by decide)
  exact v_tableOut C 101 (by omega) (by decide) dX12_both_1 kd1
-- X12_comesTo
def f_X12_comesTo_77 (rec : St → Nat → Int32 → Int32 → Int32 → Int32 → Option ((Int32 × St))) (S : St) (x0 : Nat) (x1 : Int32) (x3 : Int32) (x4 : Int32) (x5 : Int32) (t0 : Int32) (t1 : Int32) (t2 : Option Nat) : Option ((Int32 × St)) :=
    (stI S t2 15 t1 t0).bind fun S77 =>
    rec S77 x0 x1 x3 (x4 + 1) (x5 + 1)
def f_X12_comesTo_6 : Nat → St → Nat → Int32 → Int32 → Int32 → Int32 → Option ((Int32 × St))
  | 0, _, _, _, _, _, _ => none
  | n + 1, S, x0, x1, x3, x4, x5 =>
    (if x3 ≤ x5 then
    (getR S (some x0) 13 41).bind fun v178 =>
    (ldI S v178 15 0).bind fun v182 =>
    some (v182, S)
    else
    (getR S (some x0) 13 33).bind fun v13 =>
    (ldI S v13 15 ((1220 * x1) + (2 * x5))).bind fun v26 =>
    (getR S (some x0) 13 33).bind fun v30 =>
    (ldI S v30 15 (((1220 * x1) + (2 * x5)) + 1)).bind fun v45 =>
    (if (5 : Int32) ≤ v26 then
    (if v26 = 8 then
    (getR S (some x0) 13 41).bind fun v92 =>
    (ldI S v92 15 (x4 - 1)).bind fun v100 =>
    (divI v100 v45).bind fun v103 =>
    (stI S v92 15 (x4 - 1) v103).bind fun S104 =>
    f_X12_comesTo_6 n S104 x0 x1 x3 x4 (x5 + 1)
    else
    (if v26 = 12 then
    (getR S (some x0) 13 41).bind fun v116 =>
    (getR S (some x0) 13 41).bind fun v125 =>
    (ldI S v125 15 (x4 - 1)).bind fun v132 =>
    (stI S v116 15 (x4 - 1) (1 - v132)).bind fun S134 =>
    f_X12_comesTo_6 n S134 x0 x1 x3 x4 (x5 + 1)
    else
    (getR S (some x0) 13 41).bind fun v142 =>
    (getR S (some x0) 13 41).bind fun v152 =>
    (ldI S v152 15 ((x4 + (-1)) - 1)).bind fun v159 =>
    (getR S (some x0) 13 41).bind fun v161 =>
    (ldI S v161 15 (x4 + (-1))).bind fun v166 =>
    (f_X12_both S v26 v159 v166).bind fun v167 =>
    (stI S v142 15 ((x4 + (-1)) - 1) v167).bind fun S170 =>
    f_X12_comesTo_6 n S170 x0 x1 x3 (x4 + (-1)) (x5 + 1)))
    else
    (getR S (some x0) 13 41).bind fun v55 =>
    (if v26 = 0 then
    f_X12_comesTo_77 (f_X12_comesTo_6 n) S x0 x1 x3 x4 x5 v45 x4 v55
    else
    (getR S (some x0) 13 55).bind fun v71 =>
    (ldI S v71 15 v26).bind fun v76 =>
    f_X12_comesTo_77 (f_X12_comesTo_6 n) S x0 x1 x3 x4 x5 v76 x4 v55)))
def f_X12_comesTo (S : St) (x0 : Nat) (x1 : Int32) (x2 : Int32) (x3 : Int32) : Option (Int32 × St) :=
    f_X12_comesTo_6 FU S x0 x1 x3 0 x2
theorem b_X12_comesTo_77  {S0 S S' : St} {rr : Int32} {x0 : Nat} {x1 : Int32} {x3 : Int32} {x4 : Int32} {x5 : Int32} {t0 : Int32} {t1 : Int32} {t2 : Option Nat} (C : Cx p s m args meth c G S0 yX12_comesTo cX12_comesTo 8 (Option.some Jvm.ClassFile.FieldType.int)) {o : ((Int32 × St))} {rec : St → Nat → Int32 → Int32 → Int32 → Int32 → Option ((Int32 × St))} (kR : ∀ (v : Int32) (Z : St), o = (v, Z) → rr = v ∧ S' = Z) (ihk : ∀ {S : St} {x0 : Nat} {x1 : Int32} {x3 : Int32} {x4 : Int32} {x5 : Int32}, rec S x0 x1 x3 x4 x5 = some o → ∀ ls : Array Slot, lv_has ls 8 [(0, va_rf (some x0)), (1, .int x1), (3, .int x3), (4, .int x4), (5, .int x5)] → V p l e (rmo 1 22 S0) s m args below meth c G S0 S (QM below args s G S0 S' (some (.int rr))) (F0 m 6 ls [])) (hr : f_X12_comesTo_77 rec S x0 x1 x3 x4 x5 t0 t1 t2 = some o) : ∀ ls : Array Slot, lv_has ls 8 [(0, va_rf (some x0)), (1, .int x1), (3, .int x3), (4, .int x4), (5, .int x5)] → V p l e (rmo 1 22 S0) s m args below meth c G S0 S (QM below args s G S0 S' (some (.int rr))) (F0 m 77 ls [.int t0, .int t1, va_rf t2]) := by
  intro ls hl
  unfold f_X12_comesTo_77 at hr
  obtain ⟨S77, e77, hr⟩ := ob hr
  refine v_stI_i C e77 dX12_comesTo_77 ?_
  refine v_iinc C (x4 + 1) (k0 := 3) (lv' := [(4, .int (x4 + 1)), (0, va_rf (some x0)), (1, .int x1), (3, .int x3), (5, .int x5)]) hl rfl rfl (by decide) rfl dX12_comesTo_78 (fun ls hl => ?_)
  refine v_goto C 171 (by decide) dX12_comesTo_81 ?_
  refine v_iinc C (x5 + 1) (k0 := 4) (lv' := [(5, .int (x5 + 1)), (4, .int (x4 + 1)), (0, va_rf (some x0)), (1, .int x1), (3, .int x3)]) hl rfl rfl (by decide) rfl dX12_comesTo_171 (fun ls hl => ?_)
  refine v_goto C 6 (by decide) dX12_comesTo_174 ?_
  exact ihk hr _ (lv_sub hl [2, 3, 4, 1, 0] rfl)
theorem b_X12_comesTo_6  {S0 S' : St} {rr : Int32} (C : Cx p s m args meth c G S0 yX12_comesTo cX12_comesTo 8 (Option.some Jvm.ClassFile.FieldType.int)) {o : ((Int32 × St))} (kR : ∀ (v : Int32) (Z : St), o = (v, Z) → rr = v ∧ S' = Z) : ∀ (n : Nat) {S : St} {x0 : Nat} {x1 : Int32} {x3 : Int32} {x4 : Int32} {x5 : Int32}, f_X12_comesTo_6 n S x0 x1 x3 x4 x5 = some o → ∀ ls : Array Slot, lv_has ls 8 [(0, va_rf (some x0)), (1, .int x1), (3, .int x3), (4, .int x4), (5, .int x5)] → V p l e (rmo 1 22 S0) s m args below meth c G S0 S (QM below args s G S0 S' (some (.int rr))) (F0 m 6 ls []) := by
  intro n
  induction n with
  | zero => intro S x0 x1 x3 x4 x5 hr; cases hr
  | succ n ih =>
    intro S x0 x1 x3 x4 x5 hr ls hl
    unfold f_X12_comesTo_6 at hr
    refine v_iload C (lv_at hl 4 rfl) dX12_comesTo_6 ?_
    refine v_iload_n C (lv_at hl 2 rfl) rfl dX12_comesTo_8 ?_
    refine v_icmp_ge C 177 (by decide) dX12_comesTo_9 (fun c9 => ?_) (fun c9 => ?_)
    · rw [if_pos c9] at hr
      refine v_aload_n C (lv_at hl 0 rfl) rfl dX12_comesTo_177 ?_
      obtain ⟨v178, e178, hr⟩ := ob hr
      refine v_getR C fl_RX12_118 rfl e178 dX12_comesTo_178 ?_
      refine v_iconst C 0 (by decide) dX12_comesTo_181 ?_
      obtain ⟨v182, e182, hr⟩ := ob hr
      refine v_ldI_i C e182 dX12_comesTo_182 ?_
      obtain rfl := os hr
      obtain ⟨rfl, rfl⟩ := kR _ _ rfl
      exact v_iret C dX12_comesTo_183
    · rw [if_neg c9] at hr
      refine v_aload_n C (lv_at hl 0 rfl) rfl dX12_comesTo_12 ?_
      obtain ⟨v13, e13, hr⟩ := ob hr
      refine v_getR C fl_RX12_94 rfl e13 dX12_comesTo_13 ?_
      refine v_sipush C 1220 (by decide) dX12_comesTo_16 ?_
      refine v_iload_n C (lv_at hl 1 rfl) rfl dX12_comesTo_19 ?_
      refine v_imul C dX12_comesTo_20 ?_
      refine v_iconst C 2 (by decide) dX12_comesTo_21 ?_
      refine v_iload C (lv_at hl 4 rfl) dX12_comesTo_22 ?_
      refine v_imul C dX12_comesTo_24 ?_
      refine v_iadd C dX12_comesTo_25 ?_
      obtain ⟨v26, e26, hr⟩ := ob hr
      refine v_ldI_i C e26 dX12_comesTo_26 ?_
      refine v_istore C (i := 6) (lv' := [(6, .int v26), (0, va_rf (some x0)), (1, .int x1), (3, .int x3), (4, .int x4), (5, .int x5)]) hl (by decide) rfl dX12_comesTo_27 (fun ls hl => ?_)
      refine v_aload_n C (lv_at hl 1 rfl) rfl dX12_comesTo_29 ?_
      obtain ⟨v30, e30, hr⟩ := ob hr
      refine v_getR C fl_RX12_94 rfl e30 dX12_comesTo_30 ?_
      refine v_sipush C 1220 (by decide) dX12_comesTo_33 ?_
      refine v_iload_n C (lv_at hl 2 rfl) rfl dX12_comesTo_36 ?_
      refine v_imul C dX12_comesTo_37 ?_
      refine v_iconst C 2 (by decide) dX12_comesTo_38 ?_
      refine v_iload C (lv_at hl 5 rfl) dX12_comesTo_39 ?_
      refine v_imul C dX12_comesTo_41 ?_
      refine v_iadd C dX12_comesTo_42 ?_
      refine v_iconst C 1 (by decide) dX12_comesTo_43 ?_
      refine v_iadd C dX12_comesTo_44 ?_
      obtain ⟨v45, e45, hr⟩ := ob hr
      refine v_ldI_i C e45 dX12_comesTo_45 ?_
      refine v_istore C (i := 7) (lv' := [(7, .int v45), (6, .int v26), (0, va_rf (some x0)), (1, .int x1), (3, .int x3), (4, .int x4), (5, .int x5)]) hl (by decide) rfl dX12_comesTo_46 (fun ls hl => ?_)
      refine v_iload C (lv_at hl 1 rfl) dX12_comesTo_48 ?_
      refine v_iconst C 5 (by decide) dX12_comesTo_50 ?_
      refine v_icmp_ge C 84 (by decide) dX12_comesTo_51 (fun c51 => ?_) (fun c51 => ?_)
      · rw [if_pos c51] at hr
        refine v_iload C (lv_at hl 1 rfl) dX12_comesTo_84 ?_
        refine v_bipush C 8 (by decide) dX12_comesTo_86 ?_
        refine v_icmp_ne C 108 (by decide) dX12_comesTo_88 (fun c88 => ?_) (fun c88 => ?_)
        · rw [if_neg c88] at hr
          refine v_iload C (lv_at hl 1 rfl) dX12_comesTo_108 ?_
          refine v_bipush C 12 (by decide) dX12_comesTo_110 ?_
          refine v_icmp_ne C 138 (by decide) dX12_comesTo_112 (fun c112 => ?_) (fun c112 => ?_)
          · rw [if_neg c112] at hr
            refine v_iinc C (x4 + (-1)) (k0 := 5) (lv' := [(4, .int (x4 + (-1))), (7, .int v45), (6, .int v26), (0, va_rf (some x0)), (1, .int x1), (3, .int x3), (5, .int x5)]) hl rfl (congrArg (fun z => x4 + z) (show Int32.ofInt (-1) = (-1) by decide)) (by decide) rfl dX12_comesTo_138 (fun ls hl => ?_)
            refine v_aload_n C (lv_at hl 3 rfl) rfl dX12_comesTo_141 ?_
            obtain ⟨v142, e142, hr⟩ := ob hr
            refine v_getR C fl_RX12_118 rfl e142 dX12_comesTo_142 ?_
            refine v_iload C (lv_at hl 0 rfl) dX12_comesTo_145 ?_
            refine v_iconst C 1 (by decide) dX12_comesTo_147 ?_
            refine v_isub C dX12_comesTo_148 ?_
            refine v_iload C (lv_at hl 2 rfl) dX12_comesTo_149 ?_
            refine v_aload_n C (lv_at hl 3 rfl) rfl dX12_comesTo_151 ?_
            obtain ⟨v152, e152, hr⟩ := ob hr
            refine v_getR C fl_RX12_118 rfl e152 dX12_comesTo_152 ?_
            refine v_iload C (lv_at hl 0 rfl) dX12_comesTo_155 ?_
            refine v_iconst C 1 (by decide) dX12_comesTo_157 ?_
            refine v_isub C dX12_comesTo_158 ?_
            obtain ⟨v159, e159, hr⟩ := ob hr
            refine v_ldI_i C e159 dX12_comesTo_159 ?_
            refine v_aload_n C (lv_at hl 3 rfl) rfl dX12_comesTo_160 ?_
            obtain ⟨v161, e161, hr⟩ := ob hr
            refine v_getR C fl_RX12_118 rfl e161 dX12_comesTo_161 ?_
            refine v_iload C (lv_at hl 0 rfl) dX12_comesTo_164 ?_
            obtain ⟨v166, e166, hr⟩ := ob hr
            refine v_ldI_i C e166 dX12_comesTo_166 ?_
            obtain ⟨v167, e167, hr⟩ := ob hr
            refine v_callS C (k_X12_both e167) cw_X12_both w_1882 w_1883 (show (parseMethodDescriptor (yX12_both).desc).map (fun d => d.parameters.length) = some 3 by decide +kernel) ⟨by decide, by decide⟩ (rest := [.int ((x4 + (-1)) - 1), va_rf v142]) (stk2 := [.int v167, .int ((x4 + (-1)) - 1), va_rf v142]) rfl rfl (by simp [rf_cat, cat_i, cat_l]) hl dX12_comesTo_167 ?_
            obtain ⟨S170, e170, hr⟩ := ob hr
            refine v_stI_i C e170 dX12_comesTo_170 ?_
            refine v_iinc C (x5 + 1) (k0 := 6) (lv' := [(5, .int (x5 + 1)), (4, .int (x4 + (-1))), (7, .int v45), (6, .int v26), (0, va_rf (some x0)), (1, .int x1), (3, .int x3)]) hl rfl rfl (by decide) rfl dX12_comesTo_171 (fun ls hl => ?_)
            refine v_goto C 6 (by decide) dX12_comesTo_174 ?_
            exact ih hr _ (lv_sub hl [4, 5, 6, 1, 0] rfl)
          · rw [if_pos c112] at hr
            refine v_aload_n C (lv_at hl 2 rfl) rfl dX12_comesTo_115 ?_
            obtain ⟨v116, e116, hr⟩ := ob hr
            refine v_getR C fl_RX12_118 rfl e116 dX12_comesTo_116 ?_
            refine v_iload C (lv_at hl 5 rfl) dX12_comesTo_119 ?_
            refine v_iconst C 1 (by decide) dX12_comesTo_121 ?_
            refine v_isub C dX12_comesTo_122 ?_
            refine v_iconst C 1 (by decide) dX12_comesTo_123 ?_
            refine v_aload_n C (lv_at hl 2 rfl) rfl dX12_comesTo_124 ?_
            obtain ⟨v125, e125, hr⟩ := ob hr
            refine v_getR C fl_RX12_118 rfl e125 dX12_comesTo_125 ?_
            refine v_iload C (lv_at hl 5 rfl) dX12_comesTo_128 ?_
            refine v_iconst C 1 (by decide) dX12_comesTo_130 ?_
            refine v_isub C dX12_comesTo_131 ?_
            obtain ⟨v132, e132, hr⟩ := ob hr
            refine v_ldI_i C e132 dX12_comesTo_132 ?_
            refine v_isub C dX12_comesTo_133 ?_
            obtain ⟨S134, e134, hr⟩ := ob hr
            refine v_stI_i C e134 dX12_comesTo_134 ?_
            refine v_goto C 171 (by decide) dX12_comesTo_135 ?_
            refine v_iinc C (x5 + 1) (k0 := 6) (lv' := [(5, .int (x5 + 1)), (7, .int v45), (6, .int v26), (0, va_rf (some x0)), (1, .int x1), (3, .int x3), (4, .int x4)]) hl rfl rfl (by decide) rfl dX12_comesTo_171 (fun ls hl => ?_)
            refine v_goto C 6 (by decide) dX12_comesTo_174 ?_
            exact ih hr _ (lv_sub hl [3, 4, 5, 6, 0] rfl)
        · rw [if_pos c88] at hr
          refine v_aload_n C (lv_at hl 2 rfl) rfl dX12_comesTo_91 ?_
          obtain ⟨v92, e92, hr⟩ := ob hr
          refine v_getR C fl_RX12_118 rfl e92 dX12_comesTo_92 ?_
          refine v_iload C (lv_at hl 5 rfl) dX12_comesTo_95 ?_
          refine v_iconst C 1 (by decide) dX12_comesTo_97 ?_
          refine v_isub C dX12_comesTo_98 ?_
          refine v_dup2 C rfl (rf_cat _) dX12_comesTo_99 ?_
          obtain ⟨v100, e100, hr⟩ := ob hr
          refine v_ldI_i C e100 dX12_comesTo_100 ?_
          refine v_iload C (lv_at hl 0 rfl) dX12_comesTo_101 ?_
          obtain ⟨v103, e103, hr⟩ := ob hr
          refine v_idiv C e103 dX12_comesTo_103 ?_
          obtain ⟨S104, e104, hr⟩ := ob hr
          refine v_stI_i C e104 dX12_comesTo_104 ?_
          refine v_goto C 171 (by decide) dX12_comesTo_105 ?_
          refine v_iinc C (x5 + 1) (k0 := 6) (lv' := [(5, .int (x5 + 1)), (7, .int v45), (6, .int v26), (0, va_rf (some x0)), (1, .int x1), (3, .int x3), (4, .int x4)]) hl rfl rfl (by decide) rfl dX12_comesTo_171 (fun ls hl => ?_)
          refine v_goto C 6 (by decide) dX12_comesTo_174 ?_
          exact ih hr _ (lv_sub hl [3, 4, 5, 6, 0] rfl)
      · rw [if_neg c51] at hr
        refine v_aload_n C (lv_at hl 2 rfl) rfl dX12_comesTo_54 ?_
        obtain ⟨v55, e55, hr⟩ := ob hr
        refine v_getR C fl_RX12_118 rfl e55 dX12_comesTo_55 ?_
        refine v_iload C (lv_at hl 5 rfl) dX12_comesTo_58 ?_
        refine v_iload C (lv_at hl 1 rfl) dX12_comesTo_60 ?_
        refine v_if_ne C 70 (by decide) dX12_comesTo_62 (fun c62 => ?_) (fun c62 => ?_)
        · rw [if_neg c62] at hr
          refine v_aload_n C (lv_at hl 2 rfl) rfl dX12_comesTo_70 ?_
          obtain ⟨v71, e71, hr⟩ := ob hr
          refine v_getR C fl_RX12_125 rfl e71 dX12_comesTo_71 ?_
          refine v_iload C (lv_at hl 1 rfl) dX12_comesTo_74 ?_
          obtain ⟨v76, e76, hr⟩ := ob hr
          refine v_ldI_i C e76 dX12_comesTo_76 ?_
          exact b_X12_comesTo_77 C kR (@ih) hr _ (lv_sub hl [2, 3, 4, 5, 6] rfl)
        · rw [if_pos c62] at hr
          refine v_iload C (lv_at hl 0 rfl) dX12_comesTo_65 ?_
          refine v_goto C 77 (by decide) dX12_comesTo_67 ?_
          exact b_X12_comesTo_77 C kR (@ih) hr _ (lv_sub hl [2, 3, 4, 5, 6] rfl)
theorem k_X12_comesTo {l : Launch} {G : Ge} {S S' : St} {x0 : Nat} {x1 : Int32} {x2 : Int32} {x3 : Int32} {rr : Int32} (hr : f_X12_comesTo S x0 x1 x2 x3 = some (rr, S')) : Ct l G yX12_comesTo cX12_comesTo 8 (Option.some Jvm.ClassFile.FieldType.int) S [va_rf (some x0), .int x1, .int x2, .int x3] (some (.int rr)) S' 1 22 := by
  refine ct_of (by decide +kernel) (Nat.le_of_ble_eq_true rfl) ?_
  intro p e s m args below meth c C ls hl
  have hl : lv_has ls 8 [(0, va_rf (some x0)), (1, .int x1), (2, .int x2), (3, .int x3)] := hl
  unfold f_X12_comesTo at hr
  refine v_iconst C 0 (by decide) dX12_comesTo_0 ?_
  refine v_istore C (i := 4) (lv' := [(4, .int 0), (0, va_rf (some x0)), (1, .int x1), (2, .int x2), (3, .int x3)]) hl (by decide) rfl dX12_comesTo_1 (fun ls hl => ?_)
  refine v_iload_n C (lv_at hl 3 rfl) rfl dX12_comesTo_3 ?_
  refine v_istore C (i := 5) (lv' := [(5, .int x2), (4, .int 0), (0, va_rf (some x0)), (1, .int x1), (2, .int x2), (3, .int x3)]) hl (by decide) rfl dX12_comesTo_4 (fun ls hl => ?_)
  exact b_X12_comesTo_6 C (fun _ _ q => by cases q; exact ⟨rfl, rfl⟩) FU hr _ (lv_sub hl [2, 3, 5, 1, 0] rfl)
-- X12_linesOf
def f_X12_linesOf_6 : Nat → St → Nat → Int32 → Int32 → Int32 → Option (Int32)
  | 0, _, _, _, _, _ => none
  | n + 1, S, x0, x1, x2, x3 =>
    (getI S (some x0) 13 2).bind fun v8 =>
    (if v8 ≤ x3 then
    some x2
    else
    (getR S (some x0) 13 12).bind fun v16 =>
    (ldI S v16 15 x3).bind fun v20 =>
    (if v20 = x1 then
    (getR S (some x0) 13 66).bind fun v26 =>
    (ldI S v26 17 x3).bind fun v30 =>
    (if v30 = 0 then
    f_X12_linesOf_6 n S x0 x1 (x2 + 0) (x3 + 1)
    else
    f_X12_linesOf_6 n S x0 x1 (x2 + 1) (x3 + 1))
    else
    f_X12_linesOf_6 n S x0 x1 (x2 + 0) (x3 + 1)))
def f_X12_linesOf (S : St) (x0 : Nat) (x1 : Int32) : Option Int32 :=
    f_X12_linesOf_6 FU S x0 x1 0 (x1 + 1)
theorem b_X12_linesOf_6  {S : St} {rr : Int32} (C : Cx p s m args meth c G S yX12_linesOf cX12_linesOf 4 (Option.some Jvm.ClassFile.FieldType.int)) {o : (Int32)} (kR : ∀ (v : Int32), o = v → rr = v) : ∀ (n : Nat) {x0 : Nat} {x1 : Int32} {x2 : Int32} {x3 : Int32}, f_X12_linesOf_6 n S x0 x1 x2 x3 = some o → ∀ ls : Array Slot, lv_has ls 4 [(0, va_rf (some x0)), (1, .int x1), (2, .int x2), (3, .int x3)] → V p l e (rmo 0 0 S) s m args below meth c G S S (QM below args s G S S (some (.int rr))) (F0 m 6 ls []) := by
  intro n
  induction n with
  | zero => intro x0 x1 x2 x3 hr; cases hr
  | succ n ih =>
    intro x0 x1 x2 x3 hr ls hl
    unfold f_X12_linesOf_6 at hr
    refine v_iload_n C (lv_at hl 3 rfl) rfl dX12_linesOf_6 ?_
    refine v_aload_n C (lv_at hl 0 rfl) rfl dX12_linesOf_7 ?_
    obtain ⟨v8, e8, hr⟩ := ob hr
    refine v_getI C fl_RX12_207 rfl e8 dX12_linesOf_8 ?_
    refine v_icmp_ge C 47 (by decide) dX12_linesOf_11 (fun c11 => ?_) (fun c11 => ?_)
    · rw [if_pos c11] at hr
      refine v_iload_n C (lv_at hl 2 rfl) rfl dX12_linesOf_47 ?_
      obtain rfl := os hr
      obtain rfl := kR _ rfl
      exact v_iret C dX12_linesOf_48
    · rw [if_neg c11] at hr
      refine v_iload_n C (lv_at hl 2 rfl) rfl dX12_linesOf_14 ?_
      refine v_aload_n C (lv_at hl 0 rfl) rfl dX12_linesOf_15 ?_
      obtain ⟨v16, e16, hr⟩ := ob hr
      refine v_getR C fl_RX12_31 rfl e16 dX12_linesOf_16 ?_
      refine v_iload_n C (lv_at hl 3 rfl) rfl dX12_linesOf_19 ?_
      obtain ⟨v20, e20, hr⟩ := ob hr
      refine v_ldI_i C e20 dX12_linesOf_20 ?_
      refine v_iload_n C (lv_at hl 1 rfl) rfl dX12_linesOf_21 ?_
      refine v_icmp_ne C 38 (by decide) dX12_linesOf_22 (fun c22 => ?_) (fun c22 => ?_)
      · rw [if_neg c22] at hr
        refine v_iconst C 0 (by decide) dX12_linesOf_38 ?_
        refine v_iadd C dX12_linesOf_39 ?_
        refine v_istore_n C (i := 2) (lv' := [(2, .int (x2 + 0)), (0, va_rf (some x0)), (1, .int x1), (3, .int x3)]) hl rfl (by decide) rfl dX12_linesOf_40 (fun ls hl => ?_)
        refine v_iinc C (x3 + 1) (k0 := 3) (lv' := [(3, .int (x3 + 1)), (2, .int (x2 + 0)), (0, va_rf (some x0)), (1, .int x1)]) hl rfl rfl (by decide) rfl dX12_linesOf_41 (fun ls hl => ?_)
        refine v_goto C 6 (by decide) dX12_linesOf_44 ?_
        exact ih hr _ (lv_sub hl [2, 3, 1, 0] rfl)
      · rw [if_pos c22] at hr
        refine v_aload_n C (lv_at hl 0 rfl) rfl dX12_linesOf_25 ?_
        obtain ⟨v26, e26, hr⟩ := ob hr
        refine v_getR C fl_RX12_150 rfl e26 dX12_linesOf_26 ?_
        refine v_iload_n C (lv_at hl 3 rfl) rfl dX12_linesOf_29 ?_
        obtain ⟨v30, e30, hr⟩ := ob hr
        refine v_ldI_z C e30 dX12_linesOf_30 ?_
        refine v_if_eq C 38 (by decide) dX12_linesOf_31 (fun c31 => ?_) (fun c31 => ?_)
        · rw [if_pos c31] at hr
          refine v_iconst C 0 (by decide) dX12_linesOf_38 ?_
          refine v_iadd C dX12_linesOf_39 ?_
          refine v_istore_n C (i := 2) (lv' := [(2, .int (x2 + 0)), (0, va_rf (some x0)), (1, .int x1), (3, .int x3)]) hl rfl (by decide) rfl dX12_linesOf_40 (fun ls hl => ?_)
          refine v_iinc C (x3 + 1) (k0 := 3) (lv' := [(3, .int (x3 + 1)), (2, .int (x2 + 0)), (0, va_rf (some x0)), (1, .int x1)]) hl rfl rfl (by decide) rfl dX12_linesOf_41 (fun ls hl => ?_)
          refine v_goto C 6 (by decide) dX12_linesOf_44 ?_
          exact ih hr _ (lv_sub hl [2, 3, 1, 0] rfl)
        · rw [if_neg c31] at hr
          refine v_iconst C 1 (by decide) dX12_linesOf_34 ?_
          refine v_goto C 39 (by decide) dX12_linesOf_35 ?_
          refine v_iadd C dX12_linesOf_39 ?_
          refine v_istore_n C (i := 2) (lv' := [(2, .int (x2 + 1)), (0, va_rf (some x0)), (1, .int x1), (3, .int x3)]) hl rfl (by decide) rfl dX12_linesOf_40 (fun ls hl => ?_)
          refine v_iinc C (x3 + 1) (k0 := 3) (lv' := [(3, .int (x3 + 1)), (2, .int (x2 + 1)), (0, va_rf (some x0)), (1, .int x1)]) hl rfl rfl (by decide) rfl dX12_linesOf_41 (fun ls hl => ?_)
          refine v_goto C 6 (by decide) dX12_linesOf_44 ?_
          exact ih hr _ (lv_sub hl [2, 3, 1, 0] rfl)
theorem k_X12_linesOf {l : Launch} {G : Ge} {S : St} {x0 : Nat} {x1 : Int32} {rr : Int32} (hr : f_X12_linesOf S x0 x1 = some rr) : Ct l G yX12_linesOf cX12_linesOf 4 (Option.some Jvm.ClassFile.FieldType.int) S [va_rf (some x0), .int x1] (some (.int rr)) S 0 0 := by
  refine ct_of (by decide +kernel) (Nat.le_of_ble_eq_true rfl) ?_
  intro p e s m args below meth c C ls hl
  have hl : lv_has ls 4 [(0, va_rf (some x0)), (1, .int x1)] := hl
  unfold f_X12_linesOf at hr
  refine v_iconst C 0 (by decide) dX12_linesOf_0 ?_
  refine v_istore_n C (i := 2) (lv' := [(2, .int 0), (0, va_rf (some x0)), (1, .int x1)]) hl rfl (by decide) rfl dX12_linesOf_1 (fun ls hl => ?_)
  refine v_iload_n C (lv_at hl 2 rfl) rfl dX12_linesOf_2 ?_
  refine v_iconst C 1 (by decide) dX12_linesOf_3 ?_
  refine v_iadd C dX12_linesOf_4 ?_
  refine v_istore_n C (i := 3) (lv' := [(3, .int (x1 + 1)), (2, .int 0), (0, va_rf (some x0)), (1, .int x1)]) hl rfl (by decide) rfl dX12_linesOf_5 (fun ls hl => ?_)
  exact b_X12_linesOf_6 C (fun _ q => by cases q; rfl) FU hr _ (lv_sub hl [2, 3, 1, 0] rfl)
-- X12_shares
def f_X12_shares_55 (rec : St → Nat → Int32 → Int32 → Option (Nat × Int32 × St)) (S : St) (x0 : Nat) (x1 : Int32) (x2 : Int32) (t0 : Int64) (t1 : Int32) (t2 : Option Nat) : Option (Nat × Int32 × St) :=
    (stL S t2 t1 t0).bind fun S55 =>
    (getR S55 (some x0) 13 68).bind fun v57 =>
    (stL S55 v57 x2 1).bind fun S62 =>
    rec S62 x0 x1 (x2 + (-1))
def f_X12_shares_39 (rec : St → Nat → Int32 → Int32 → Option (Nat × Int32 × St)) (S : St) (x0 : Nat) (x1 : Int32) (x2 : Int32) (t0 : Int32) (t1 : Int32) (t2 : Option Nat) : Option (Nat × Int32 × St) :=
    (stI S t2 17 t1 t0).bind fun S39 =>
    (getR S39 (some x0) 13 67).bind fun v41 =>
    (if x2 = x1 then
    f_X12_shares_55 (rec) S39 x0 x1 x2 1 x2 v41
    else
    f_X12_shares_55 (rec) S39 x0 x1 x2 0 x2 v41)
def f_X12_shares_34 (rec : St → Nat → Int32 → Int32 → Option (Nat × Int32 × St)) (S : St) (x0 : Nat) (x1 : Int32) (x2 : Int32) (t0 : Int32) (t1 : Option Nat) : Option (Nat × Int32 × St) :=
    f_X12_shares_39 (rec) S x0 x1 x2 1 t0 t1
def f_X12_shares_7 : Nat → St → Nat → Int32 → Int32 → Option (Nat × Int32 × St)
  | 0, _, _, _, _ => none
  | n + 1, S, x0, x1, x2 =>
    (if x2 < 0 then
    some (x0, x1, S)
    else
    (getR S (some x0) 13 66).bind fun v12 =>
    (getR S (some x0) 13 13).bind fun v17 =>
    (ldI S v17 15 x2).bind fun v21 =>
    (if v21 = (-1) then
    f_X12_shares_34 (f_X12_shares_7 n) S x0 x1 x2 x2 v12
    else
    (rcv S (some x0) 13).bind fun b28 =>
    (f_X12_linesOf S b28 x2).bind fun v28 =>
    (if v28 ≤ 0 then
    f_X12_shares_39 (f_X12_shares_7 n) S x0 x1 x2 0 x2 v12
    else
    f_X12_shares_34 (f_X12_shares_7 n) S x0 x1 x2 x2 v12)))
def f_X12_shares_114 : Nat → St → Nat → Int32 → Int32 → Int32 → Option (Nat × Int32 × St)
  | 0, _, _, _, _, _ => none
  | n + 1, S, x0, x2, x3, x4 =>
    (getI S (some x0) 13 2).bind fun v117 =>
    (if v117 ≤ x4 then
    some (x0, x2, S)
    else
    (getR S (some x0) 13 12).bind fun v124 =>
    (ldI S v124 15 x4).bind fun v129 =>
    (if v129 = x2 then
    (getR S (some x0) 13 66).bind fun v135 =>
    (ldI S v135 17 x4).bind fun v140 =>
    (if v140 = 0 then
    f_X12_shares_114 n S x0 x2 x3 (x4 + 1)
    else
    (getR S (some x0) 13 67).bind fun v148 =>
    (getR S (some x0) 13 67).bind fun v154 =>
    (ldL S v154 x2).bind fun v158 =>
    (stL S v148 x4 v158).bind fun S159 =>
    (getR S159 (some x0) 13 68).bind fun v161 =>
    (getR S159 (some x0) 13 68).bind fun v167 =>
    (ldL S159 v167 x2).bind fun v171 =>
    (stL S159 v161 x4 (v171 * (Int32.toInt64 x3))).bind fun S175 =>
    f_X12_shares_114 n S175 x0 x2 x3 (x4 + 1))
    else
    f_X12_shares_114 n S x0 x2 x3 (x4 + 1)))
def f_X12_shares_71 : Nat → St → Nat → Int32 → Option (St)
  | 0, _, _, _ => none
  | n + 1, S, x0, x2 =>
    (getI S (some x0) 13 2).bind fun v73 =>
    (if v73 ≤ x2 then
    some S
    else
    (getR S (some x0) 13 67).bind fun v80 =>
    (ldL S v80 x2).bind fun v84 =>
    (if (lg_cmp v84 0) = 0 then
    f_X12_shares_71 n S x0 (x2 + 1)
    else
    (getR S (some x0) 13 13).bind fun v91 =>
    (ldI S v91 15 x2).bind fun v95 =>
    (if v95 = (-1) then
    f_X12_shares_71 n S x0 (x2 + 1)
    else
    (rcv S (some x0) 13).bind fun b105 =>
    (f_X12_linesOf S b105 x2).bind fun v105 =>
    (f_X12_shares_114 FU S x0 x2 v105 (x2 + 1)).bind fun (x0, x2_114, S_114) => (getR S_114 (some x0) 13 67).bind fun v183 =>
    (stL S_114 v183 x2_114 0).bind fun S188 =>
    (getR S188 (some x0) 13 68).bind fun v190 =>
    (stL S188 v190 x2_114 1).bind fun S195 =>
    f_X12_shares_71 n S195 x0 (x2_114 + 1))))
def f_X12_shares (S : St) (x0 : Nat) (x1 : Int32) : Option St :=
    (getI S (some x0) 13 2).bind fun v1 =>
    (f_X12_shares_7 FU S x0 x1 (v1 - 1)).bind fun (x0, x1_7, S_7) => f_X12_shares_71 FU S_7 x0 x1_7
theorem b_X12_shares_55  {S0 S S' : St} {x0 : Nat} {x1 : Int32} {x2 : Int32} {t0 : Int64} {t1 : Int32} {t2 : Option Nat} (C : Cx p s m args meth c G S0 yX12_shares cX12_shares 5 (Option.none : Option Jvm.ClassFile.FieldType)) {o : (Nat × Int32 × St)} {rec : St → Nat → Int32 → Int32 → Option (Nat × Int32 × St)} (kX69 : ∀ {x0 : Nat} {x1 : Int32} {Z : St}, o = (x0, x1, Z) → ∀ ls : Array Slot, lv_has ls 5 [(0, va_rf (some x0)), (1, .int x1)] → V p l e (rmo 1 23 S0) s m args below meth c G S0 Z (QM below args s G S0 S' none) (F0 m 69 ls [])) (ihk : ∀ {S : St} {x0 : Nat} {x1 : Int32} {x2 : Int32}, rec S x0 x1 x2 = some o → ∀ ls : Array Slot, lv_has ls 5 [(0, va_rf (some x0)), (1, .int x1), (2, .int x2)] → V p l e (rmo 1 23 S0) s m args below meth c G S0 S (QM below args s G S0 S' none) (F0 m 7 ls [])) (hr : f_X12_shares_55 rec S x0 x1 x2 t0 t1 t2 = some o) : ∀ ls : Array Slot, lv_has ls 5 [(0, va_rf (some x0)), (1, .int x1), (2, .int x2)] → V p l e (rmo 1 23 S0) s m args below meth c G S0 S (QM below args s G S0 S' none) (F0 m 55 ls [.long t0, .int t1, va_rf t2]) := by
  intro ls hl
  unfold f_X12_shares_55 at hr
  obtain ⟨S55, e55, hr⟩ := ob hr
  refine v_stL C e55 dX12_shares_55 ?_
  refine v_aload_n C (lv_at hl 0 rfl) rfl dX12_shares_56 ?_
  obtain ⟨v57, e57, hr⟩ := ob hr
  refine v_getR C fl_RX12_157 rfl e57 dX12_shares_57 ?_
  refine v_iload_n C (lv_at hl 2 rfl) rfl dX12_shares_60 ?_
  refine v_lconst C 1 (by decide) dX12_shares_61 ?_
  obtain ⟨S62, e62, hr⟩ := ob hr
  refine v_stL C e62 dX12_shares_62 ?_
  refine v_iinc C (x2 + (-1)) (k0 := 2) (lv' := [(2, .int (x2 + (-1))), (0, va_rf (some x0)), (1, .int x1)]) hl rfl (congrArg (fun z => x2 + z) (show Int32.ofInt (-1) = (-1) by decide)) (by decide) rfl dX12_shares_63 (fun ls hl => ?_)
  refine v_goto C 7 (by decide) dX12_shares_66 ?_
  exact ihk hr _ (lv_sub hl [1, 2, 0] rfl)
theorem b_X12_shares_39  {S0 S S' : St} {x0 : Nat} {x1 : Int32} {x2 : Int32} {t0 : Int32} {t1 : Int32} {t2 : Option Nat} (C : Cx p s m args meth c G S0 yX12_shares cX12_shares 5 (Option.none : Option Jvm.ClassFile.FieldType)) {o : (Nat × Int32 × St)} {rec : St → Nat → Int32 → Int32 → Option (Nat × Int32 × St)} (kX69 : ∀ {x0 : Nat} {x1 : Int32} {Z : St}, o = (x0, x1, Z) → ∀ ls : Array Slot, lv_has ls 5 [(0, va_rf (some x0)), (1, .int x1)] → V p l e (rmo 1 23 S0) s m args below meth c G S0 Z (QM below args s G S0 S' none) (F0 m 69 ls [])) (ihk : ∀ {S : St} {x0 : Nat} {x1 : Int32} {x2 : Int32}, rec S x0 x1 x2 = some o → ∀ ls : Array Slot, lv_has ls 5 [(0, va_rf (some x0)), (1, .int x1), (2, .int x2)] → V p l e (rmo 1 23 S0) s m args below meth c G S0 S (QM below args s G S0 S' none) (F0 m 7 ls [])) (hr : f_X12_shares_39 rec S x0 x1 x2 t0 t1 t2 = some o) : ∀ ls : Array Slot, lv_has ls 5 [(0, va_rf (some x0)), (1, .int x1), (2, .int x2)] → V p l e (rmo 1 23 S0) s m args below meth c G S0 S (QM below args s G S0 S' none) (F0 m 39 ls [.int t0, .int t1, va_rf t2]) := by
  intro ls hl
  unfold f_X12_shares_39 at hr
  obtain ⟨S39, e39, hr⟩ := ob hr
  refine v_stI_z C e39 dX12_shares_39 ?_
  refine v_aload_n C (lv_at hl 0 rfl) rfl dX12_shares_40 ?_
  obtain ⟨v41, e41, hr⟩ := ob hr
  refine v_getR C fl_RX12_154 rfl e41 dX12_shares_41 ?_
  refine v_iload_n C (lv_at hl 2 rfl) rfl dX12_shares_44 ?_
  refine v_iload_n C (lv_at hl 2 rfl) rfl dX12_shares_45 ?_
  refine v_iload_n C (lv_at hl 1 rfl) rfl dX12_shares_46 ?_
  refine v_icmp_ne C 54 (by decide) dX12_shares_47 (fun c47 => ?_) (fun c47 => ?_)
  · rw [if_neg c47] at hr
    refine v_lconst C 0 (by decide) dX12_shares_54 ?_
    exact b_X12_shares_55 C (@kX69) (@ihk) hr _ (lv_sub hl [0, 1, 2] rfl)
  · rw [if_pos c47] at hr
    refine v_lconst C 1 (by decide) dX12_shares_50 ?_
    refine v_goto C 55 (by decide) dX12_shares_51 ?_
    exact b_X12_shares_55 C (@kX69) (@ihk) hr _ (lv_sub hl [0, 1, 2] rfl)
theorem b_X12_shares_34  {S0 S S' : St} {x0 : Nat} {x1 : Int32} {x2 : Int32} {t0 : Int32} {t1 : Option Nat} (C : Cx p s m args meth c G S0 yX12_shares cX12_shares 5 (Option.none : Option Jvm.ClassFile.FieldType)) {o : (Nat × Int32 × St)} {rec : St → Nat → Int32 → Int32 → Option (Nat × Int32 × St)} (kX69 : ∀ {x0 : Nat} {x1 : Int32} {Z : St}, o = (x0, x1, Z) → ∀ ls : Array Slot, lv_has ls 5 [(0, va_rf (some x0)), (1, .int x1)] → V p l e (rmo 1 23 S0) s m args below meth c G S0 Z (QM below args s G S0 S' none) (F0 m 69 ls [])) (ihk : ∀ {S : St} {x0 : Nat} {x1 : Int32} {x2 : Int32}, rec S x0 x1 x2 = some o → ∀ ls : Array Slot, lv_has ls 5 [(0, va_rf (some x0)), (1, .int x1), (2, .int x2)] → V p l e (rmo 1 23 S0) s m args below meth c G S0 S (QM below args s G S0 S' none) (F0 m 7 ls [])) (hr : f_X12_shares_34 rec S x0 x1 x2 t0 t1 = some o) : ∀ ls : Array Slot, lv_has ls 5 [(0, va_rf (some x0)), (1, .int x1), (2, .int x2)] → V p l e (rmo 1 23 S0) s m args below meth c G S0 S (QM below args s G S0 S' none) (F0 m 34 ls [.int t0, va_rf t1]) := by
  intro ls hl
  unfold f_X12_shares_34 at hr
  refine v_iconst C 1 (by decide) dX12_shares_34 ?_
  refine v_goto C 39 (by decide) dX12_shares_35 ?_
  exact b_X12_shares_39 C (@kX69) (@ihk) hr _ (lv_sub hl [0, 1, 2] rfl)
theorem b_X12_shares_7  {S0 S' : St} (C : Cx p s m args meth c G S0 yX12_shares cX12_shares 5 (Option.none : Option Jvm.ClassFile.FieldType)) {o : (Nat × Int32 × St)} (kX69 : ∀ {x0 : Nat} {x1 : Int32} {Z : St}, o = (x0, x1, Z) → ∀ ls : Array Slot, lv_has ls 5 [(0, va_rf (some x0)), (1, .int x1)] → V p l e (rmo 1 23 S0) s m args below meth c G S0 Z (QM below args s G S0 S' none) (F0 m 69 ls [])) : ∀ (n : Nat) {S : St} {x0 : Nat} {x1 : Int32} {x2 : Int32}, f_X12_shares_7 n S x0 x1 x2 = some o → ∀ ls : Array Slot, lv_has ls 5 [(0, va_rf (some x0)), (1, .int x1), (2, .int x2)] → V p l e (rmo 1 23 S0) s m args below meth c G S0 S (QM below args s G S0 S' none) (F0 m 7 ls []) := by
  intro n
  induction n with
  | zero => intro S x0 x1 x2 hr; cases hr
  | succ n ih =>
    intro S x0 x1 x2 hr ls hl
    unfold f_X12_shares_7 at hr
    refine v_iload_n C (lv_at hl 2 rfl) rfl dX12_shares_7 ?_
    refine v_if_lt C 69 (by decide) dX12_shares_8 (fun c8 => ?_) (fun c8 => ?_)
    · rw [if_pos c8] at hr
      obtain rfl := os hr
      exact kX69 rfl _ (lv_sub hl [0, 1] rfl)
    · rw [if_neg c8] at hr
      refine v_aload_n C (lv_at hl 0 rfl) rfl dX12_shares_11 ?_
      obtain ⟨v12, e12, hr⟩ := ob hr
      refine v_getR C fl_RX12_150 rfl e12 dX12_shares_12 ?_
      refine v_iload_n C (lv_at hl 2 rfl) rfl dX12_shares_15 ?_
      refine v_aload_n C (lv_at hl 0 rfl) rfl dX12_shares_16 ?_
      obtain ⟨v17, e17, hr⟩ := ob hr
      refine v_getR C fl_RX12_34 rfl e17 dX12_shares_17 ?_
      refine v_iload_n C (lv_at hl 2 rfl) rfl dX12_shares_20 ?_
      obtain ⟨v21, e21, hr⟩ := ob hr
      refine v_ldI_i C e21 dX12_shares_21 ?_
      refine v_iconst C (-1) (by decide) dX12_shares_22 ?_
      refine v_icmp_eq C 34 (by decide) dX12_shares_23 (fun c23 => ?_) (fun c23 => ?_)
      · rw [if_pos c23] at hr
        exact b_X12_shares_34 C (@kX69) (@ih) hr _ (lv_sub hl [0, 1, 2] rfl)
      · rw [if_neg c23] at hr
        refine v_aload_n C (lv_at hl 0 rfl) rfl dX12_shares_26 ?_
        refine v_iload_n C (lv_at hl 2 rfl) rfl dX12_shares_27 ?_
        obtain ⟨b28, f28, hr⟩ := ob hr
        obtain ⟨g28, h28⟩ := rcv_n f28
        obtain ⟨v28, e28, hr⟩ := ob hr
        refine v_callV C (b := b28) h28 (by decide) rfl rfl (k_X12_linesOf e28) cw_X12_linesOf w_1853 w_1855 w_96 (show (parseMethodDescriptor (yX12_linesOf).desc).map (fun d => d.parameters.length) = some 1 by decide +kernel) ⟨by decide, by decide⟩ (rest := [.int x2, va_rf v12]) (stk2 := [.int v28, .int x2, va_rf v12]) (by rw [g28]; rfl) rfl (by simp [rf_cat, cat_i, cat_l]) hl dX12_shares_28 ?_
        refine v_if_le C 38 (by decide) dX12_shares_31 (fun c31 => ?_) (fun c31 => ?_)
        · rw [if_pos c31] at hr
          refine v_iconst C 0 (by decide) dX12_shares_38 ?_
          exact b_X12_shares_39 C (@kX69) (@ih) hr _ (lv_sub hl [0, 1, 2] rfl)
        · rw [if_neg c31] at hr
          exact b_X12_shares_34 C (@kX69) (@ih) hr _ (lv_sub hl [0, 1, 2] rfl)
theorem b_X12_shares_114  {S0 S' : St} (C : Cx p s m args meth c G S0 yX12_shares cX12_shares 5 (Option.none : Option Jvm.ClassFile.FieldType)) {o : (Nat × Int32 × St)} (kX182 : ∀ {x0 : Nat} {x2 : Int32} {Z : St}, o = (x0, x2, Z) → ∀ ls : Array Slot, lv_has ls 5 [(0, va_rf (some x0)), (2, .int x2)] → V p l e (rmo 1 23 S0) s m args below meth c G S0 Z (QM below args s G S0 S' none) (F0 m 182 ls [])) : ∀ (n : Nat) {S : St} {x0 : Nat} {x2 : Int32} {x3 : Int32} {x4 : Int32}, f_X12_shares_114 n S x0 x2 x3 x4 = some o → ∀ ls : Array Slot, lv_has ls 5 [(0, va_rf (some x0)), (2, .int x2), (3, .int x3), (4, .int x4)] → V p l e (rmo 1 23 S0) s m args below meth c G S0 S (QM below args s G S0 S' none) (F0 m 114 ls []) := by
  intro n
  induction n with
  | zero => intro S x0 x2 x3 x4 hr; cases hr
  | succ n ih =>
    intro S x0 x2 x3 x4 hr ls hl
    unfold f_X12_shares_114 at hr
    refine v_iload C (lv_at hl 3 rfl) dX12_shares_114 ?_
    refine v_aload_n C (lv_at hl 0 rfl) rfl dX12_shares_116 ?_
    obtain ⟨v117, e117, hr⟩ := ob hr
    refine v_getI C fl_RX12_207 rfl e117 dX12_shares_117 ?_
    refine v_icmp_ge C 182 (by decide) dX12_shares_120 (fun c120 => ?_) (fun c120 => ?_)
    · rw [if_pos c120] at hr
      obtain rfl := os hr
      exact kX182 rfl _ (lv_sub hl [0, 1] rfl)
    · rw [if_neg c120] at hr
      refine v_aload_n C (lv_at hl 0 rfl) rfl dX12_shares_123 ?_
      obtain ⟨v124, e124, hr⟩ := ob hr
      refine v_getR C fl_RX12_31 rfl e124 dX12_shares_124 ?_
      refine v_iload C (lv_at hl 3 rfl) dX12_shares_127 ?_
      obtain ⟨v129, e129, hr⟩ := ob hr
      refine v_ldI_i C e129 dX12_shares_129 ?_
      refine v_iload_n C (lv_at hl 1 rfl) rfl dX12_shares_130 ?_
      refine v_icmp_ne C 176 (by decide) dX12_shares_131 (fun c131 => ?_) (fun c131 => ?_)
      · rw [if_neg c131] at hr
        refine v_iinc C (x4 + 1) (k0 := 3) (lv' := [(4, .int (x4 + 1)), (0, va_rf (some x0)), (2, .int x2), (3, .int x3)]) hl rfl rfl (by decide) rfl dX12_shares_176 (fun ls hl => ?_)
        refine v_goto C 114 (by decide) dX12_shares_179 ?_
        exact ih hr _ (lv_sub hl [1, 2, 3, 0] rfl)
      · rw [if_pos c131] at hr
        refine v_aload_n C (lv_at hl 0 rfl) rfl dX12_shares_134 ?_
        obtain ⟨v135, e135, hr⟩ := ob hr
        refine v_getR C fl_RX12_150 rfl e135 dX12_shares_135 ?_
        refine v_iload C (lv_at hl 3 rfl) dX12_shares_138 ?_
        obtain ⟨v140, e140, hr⟩ := ob hr
        refine v_ldI_z C e140 dX12_shares_140 ?_
        refine v_if_ne C 147 (by decide) dX12_shares_141 (fun c141 => ?_) (fun c141 => ?_)
        · rw [if_neg c141] at hr
          refine v_aload_n C (lv_at hl 0 rfl) rfl dX12_shares_147 ?_
          obtain ⟨v148, e148, hr⟩ := ob hr
          refine v_getR C fl_RX12_154 rfl e148 dX12_shares_148 ?_
          refine v_iload C (lv_at hl 3 rfl) dX12_shares_151 ?_
          refine v_aload_n C (lv_at hl 0 rfl) rfl dX12_shares_153 ?_
          obtain ⟨v154, e154, hr⟩ := ob hr
          refine v_getR C fl_RX12_154 rfl e154 dX12_shares_154 ?_
          refine v_iload_n C (lv_at hl 1 rfl) rfl dX12_shares_157 ?_
          obtain ⟨v158, e158, hr⟩ := ob hr
          refine v_ldL C e158 dX12_shares_158 ?_
          obtain ⟨S159, e159, hr⟩ := ob hr
          refine v_stL C e159 dX12_shares_159 ?_
          refine v_aload_n C (lv_at hl 0 rfl) rfl dX12_shares_160 ?_
          obtain ⟨v161, e161, hr⟩ := ob hr
          refine v_getR C fl_RX12_157 rfl e161 dX12_shares_161 ?_
          refine v_iload C (lv_at hl 3 rfl) dX12_shares_164 ?_
          refine v_aload_n C (lv_at hl 0 rfl) rfl dX12_shares_166 ?_
          obtain ⟨v167, e167, hr⟩ := ob hr
          refine v_getR C fl_RX12_157 rfl e167 dX12_shares_167 ?_
          refine v_iload_n C (lv_at hl 1 rfl) rfl dX12_shares_170 ?_
          obtain ⟨v171, e171, hr⟩ := ob hr
          refine v_ldL C e171 dX12_shares_171 ?_
          refine v_iload_n C (lv_at hl 2 rfl) rfl dX12_shares_172 ?_
          refine v_i2l C dX12_shares_173 ?_
          refine v_lmul C dX12_shares_174 ?_
          obtain ⟨S175, e175, hr⟩ := ob hr
          refine v_stL C e175 dX12_shares_175 ?_
          refine v_iinc C (x4 + 1) (k0 := 3) (lv' := [(4, .int (x4 + 1)), (0, va_rf (some x0)), (2, .int x2), (3, .int x3)]) hl rfl rfl (by decide) rfl dX12_shares_176 (fun ls hl => ?_)
          refine v_goto C 114 (by decide) dX12_shares_179 ?_
          exact ih hr _ (lv_sub hl [1, 2, 3, 0] rfl)
        · rw [if_pos c141] at hr
          refine v_goto C 176 (by decide) dX12_shares_144 ?_
          refine v_iinc C (x4 + 1) (k0 := 3) (lv' := [(4, .int (x4 + 1)), (0, va_rf (some x0)), (2, .int x2), (3, .int x3)]) hl rfl rfl (by decide) rfl dX12_shares_176 (fun ls hl => ?_)
          refine v_goto C 114 (by decide) dX12_shares_179 ?_
          exact ih hr _ (lv_sub hl [1, 2, 3, 0] rfl)
theorem b_X12_shares_71  {S0 S' : St} (C : Cx p s m args meth c G S0 yX12_shares cX12_shares 5 (Option.none : Option Jvm.ClassFile.FieldType)) {o : (St)} (kR : ∀ (Z : St), o = Z → S' = Z) : ∀ (n : Nat) {S : St} {x0 : Nat} {x2 : Int32}, f_X12_shares_71 n S x0 x2 = some o → ∀ ls : Array Slot, lv_has ls 5 [(0, va_rf (some x0)), (2, .int x2)] → V p l e (rmo 1 23 S0) s m args below meth c G S0 S (QM below args s G S0 S' none) (F0 m 71 ls []) := by
  intro n
  induction n with
  | zero => intro S x0 x2 hr; cases hr
  | succ n ih =>
    intro S x0 x2 hr ls hl
    unfold f_X12_shares_71 at hr
    refine v_iload_n C (lv_at hl 1 rfl) rfl dX12_shares_71 ?_
    refine v_aload_n C (lv_at hl 0 rfl) rfl dX12_shares_72 ?_
    obtain ⟨v73, e73, hr⟩ := ob hr
    refine v_getI C fl_RX12_207 rfl e73 dX12_shares_73 ?_
    refine v_icmp_ge C 202 (by decide) dX12_shares_76 (fun c76 => ?_) (fun c76 => ?_)
    · rw [if_pos c76] at hr
      obtain rfl := os hr
      obtain rfl := kR _ rfl
      exact v_vret C dX12_shares_202
    · rw [if_neg c76] at hr
      refine v_aload_n C (lv_at hl 0 rfl) rfl dX12_shares_79 ?_
      obtain ⟨v80, e80, hr⟩ := ob hr
      refine v_getR C fl_RX12_154 rfl e80 dX12_shares_80 ?_
      refine v_iload_n C (lv_at hl 1 rfl) rfl dX12_shares_83 ?_
      obtain ⟨v84, e84, hr⟩ := ob hr
      refine v_ldL C e84 dX12_shares_84 ?_
      refine v_lconst C 0 (by decide) dX12_shares_85 ?_
      refine v_lcmp C dX12_shares_86 ?_
      refine v_if_eq C 196 (by decide) dX12_shares_87 (fun c87 => ?_) (fun c87 => ?_)
      · rw [if_pos c87] at hr
        refine v_iinc C (x2 + 1) (k0 := 1) (lv' := [(2, .int (x2 + 1)), (0, va_rf (some x0))]) hl rfl rfl (by decide) rfl dX12_shares_196 (fun ls hl => ?_)
        refine v_goto C 71 (by decide) dX12_shares_199 ?_
        exact ih hr _ (lv_sub hl [1, 0] rfl)
      · rw [if_neg c87] at hr
        refine v_aload_n C (lv_at hl 0 rfl) rfl dX12_shares_90 ?_
        obtain ⟨v91, e91, hr⟩ := ob hr
        refine v_getR C fl_RX12_34 rfl e91 dX12_shares_91 ?_
        refine v_iload_n C (lv_at hl 1 rfl) rfl dX12_shares_94 ?_
        obtain ⟨v95, e95, hr⟩ := ob hr
        refine v_ldI_i C e95 dX12_shares_95 ?_
        refine v_iconst C (-1) (by decide) dX12_shares_96 ?_
        refine v_icmp_ne C 103 (by decide) dX12_shares_97 (fun c97 => ?_) (fun c97 => ?_)
        · rw [if_neg c97] at hr
          refine v_aload_n C (lv_at hl 0 rfl) rfl dX12_shares_103 ?_
          refine v_iload_n C (lv_at hl 1 rfl) rfl dX12_shares_104 ?_
          obtain ⟨b105, f105, hr⟩ := ob hr
          obtain ⟨g105, h105⟩ := rcv_n f105
          obtain ⟨v105, e105, hr⟩ := ob hr
          refine v_callV C (b := b105) h105 (by decide) rfl rfl (k_X12_linesOf e105) cw_X12_linesOf w_1853 w_1855 w_96 (show (parseMethodDescriptor (yX12_linesOf).desc).map (fun d => d.parameters.length) = some 1 by decide +kernel) ⟨by decide, by decide⟩ (rest := []) (stk2 := [.int v105]) (by rw [g105]; rfl) rfl (Nat.le_of_ble_eq_true rfl) hl dX12_shares_105 ?_
          refine v_istore_n C (i := 3) (lv' := [(3, .int v105), (0, va_rf (some x0)), (2, .int x2)]) hl rfl (by decide) rfl dX12_shares_108 (fun ls hl => ?_)
          refine v_iload_n C (lv_at hl 2 rfl) rfl dX12_shares_109 ?_
          refine v_iconst C 1 (by decide) dX12_shares_110 ?_
          refine v_iadd C dX12_shares_111 ?_
          refine v_istore C (i := 4) (lv' := [(4, .int (x2 + 1)), (3, .int v105), (0, va_rf (some x0)), (2, .int x2)]) hl (by decide) rfl dX12_shares_112 (fun ls hl => ?_)
          obtain ⟨o114, e114, hr⟩ := ob hr
          refine b_X12_shares_114 C ?_ FU e114 _ (lv_sub hl [2, 3, 1, 0] rfl)
          · intro x0 x2_114 S_114 q ls hl
            subst q
            (try dsimp only at hr)
            refine v_aload_n C (lv_at hl 0 rfl) rfl dX12_shares_182 ?_
            obtain ⟨v183, e183, hr⟩ := ob hr
            refine v_getR C fl_RX12_154 rfl e183 dX12_shares_183 ?_
            refine v_iload_n C (lv_at hl 1 rfl) rfl dX12_shares_186 ?_
            refine v_lconst C 0 (by decide) dX12_shares_187 ?_
            obtain ⟨S188, e188, hr⟩ := ob hr
            refine v_stL C e188 dX12_shares_188 ?_
            refine v_aload_n C (lv_at hl 0 rfl) rfl dX12_shares_189 ?_
            obtain ⟨v190, e190, hr⟩ := ob hr
            refine v_getR C fl_RX12_157 rfl e190 dX12_shares_190 ?_
            refine v_iload_n C (lv_at hl 1 rfl) rfl dX12_shares_193 ?_
            refine v_lconst C 1 (by decide) dX12_shares_194 ?_
            obtain ⟨S195, e195, hr⟩ := ob hr
            refine v_stL C e195 dX12_shares_195 ?_
            refine v_iinc C (x2_114 + 1) (k0 := 1) (lv' := [(2, .int (x2_114 + 1)), (0, va_rf (some x0))]) hl rfl rfl (by decide) rfl dX12_shares_196 (fun ls hl => ?_)
            refine v_goto C 71 (by decide) dX12_shares_199 ?_
            exact ih hr _ (lv_sub hl [1, 0] rfl)
        · rw [if_pos c97] at hr
          refine v_goto C 196 (by decide) dX12_shares_100 ?_
          refine v_iinc C (x2 + 1) (k0 := 1) (lv' := [(2, .int (x2 + 1)), (0, va_rf (some x0))]) hl rfl rfl (by decide) rfl dX12_shares_196 (fun ls hl => ?_)
          refine v_goto C 71 (by decide) dX12_shares_199 ?_
          exact ih hr _ (lv_sub hl [1, 0] rfl)
theorem k_X12_shares {l : Launch} {G : Ge} {S S' : St} {x0 : Nat} {x1 : Int32} (hr : f_X12_shares S x0 x1 = some S') : Ct l G yX12_shares cX12_shares 5 (Option.none : Option Jvm.ClassFile.FieldType) S [va_rf (some x0), .int x1] none S' 1 23 := by
  refine ct_of (by decide +kernel) (Nat.le_of_ble_eq_true rfl) ?_
  intro p e s m args below meth c C ls hl
  have hl : lv_has ls 5 [(0, va_rf (some x0)), (1, .int x1)] := hl
  unfold f_X12_shares at hr
  refine v_aload_n C (lv_at hl 0 rfl) rfl dX12_shares_0 ?_
  obtain ⟨v1, e1, hr⟩ := ob hr
  refine v_getI C fl_RX12_207 rfl e1 dX12_shares_1 ?_
  refine v_iconst C 1 (by decide) dX12_shares_4 ?_
  refine v_isub C dX12_shares_5 ?_
  refine v_istore_n C (i := 2) (lv' := [(2, .int (v1 - 1)), (0, va_rf (some x0)), (1, .int x1)]) hl rfl (by decide) rfl dX12_shares_6 (fun ls hl => ?_)
  obtain ⟨o7, e7, hr⟩ := ob hr
  refine b_X12_shares_7 C ?_ FU e7 _ (lv_sub hl [1, 2, 0] rfl)
  · intro x0 x1_7 S_7 q ls hl
    subst q
    (try dsimp only at hr)
    refine v_iload_n C (lv_at hl 1 rfl) rfl dX12_shares_69 ?_
    refine v_istore_n C (i := 2) (lv' := [(2, .int x1_7), (0, va_rf (some x0)), (1, .int x1_7)]) hl rfl (by decide) rfl dX12_shares_70 (fun ls hl => ?_)
    exact b_X12_shares_71 C (fun _ q => by cases q; rfl) FU hr _ (lv_sub hl [1, 0] rfl)
end Mth
