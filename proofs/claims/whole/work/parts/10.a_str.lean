section Mth
variable {p : Program} {l : Launch} {e : Env} {s : State} {m : MethodId} {args : Array Value} {below : List Frame} {meth : Method} {c : Code} {G : Ge}
-- J3_checkIndex_8e157
def f_J3_checkIndex_8e157_9 (S : St) (x0 : Int32) (x1 : Int32) (x2 : Option Nat) : Option Int32 :=
    none
def f_J3_checkIndex_8e157 (S : St) (x0 : Int32) (x1 : Int32) (x2 : Option Nat) : Option Int32 :=
    (if x0 < 0 then
    f_J3_checkIndex_8e157_9 S x0 x1 x2
    else
    (if x0 < x1 then
    some x0
    else
    f_J3_checkIndex_8e157_9 S x0 x1 x2))
theorem b_J3_checkIndex_8e157_9  {S : St} {rr : Int32} {x0 : Int32} {x1 : Int32} {x2 : Option Nat} (C : Cx p s m args meth c G S yJ3_checkIndex_8e157 cJ3_checkIndex_8e157 3 (Option.some Jvm.ClassFile.FieldType.int)) (hr : f_J3_checkIndex_8e157_9 S x0 x1 x2 = some rr) : ∀ ls : Array Slot, lv_has ls 3 [(0, .int x0), (1, .int x1), (2, va_rf x2)] → V p l e (rmo 0 0 S) s m args below meth c G S S (QM below args s G S S (some (.int rr))) (F0 m 9 ls []) := by
  intro ls hl
  unfold f_J3_checkIndex_8e157_9 at hr
  refine v_aload_n C (lv_at hl 2 rfl) rfl dJ3_checkIndex_8e157_9 ?_
  refine v_iload_n C (lv_at hl 0 rfl) rfl dJ3_checkIndex_8e157_10 ?_
  refine v_iload_n C (lv_at hl 1 rfl) rfl dJ3_checkIndex_8e157_11 ?_
  cases hr
theorem k_J3_checkIndex_8e157 {l : Launch} {G : Ge} {S : St} {x0 : Int32} {x1 : Int32} {x2 : Option Nat} {rr : Int32} (hr : f_J3_checkIndex_8e157 S x0 x1 x2 = some rr) : Ct l G yJ3_checkIndex_8e157 cJ3_checkIndex_8e157 3 (Option.some Jvm.ClassFile.FieldType.int) S [.int x0, .int x1, va_rf x2] (some (.int rr)) S 0 0 := by
  refine ct_of (by decide +kernel) (by cases x2 <;> exact Nat.le_of_ble_eq_true rfl) ?_
  intro p e s m args below meth c C ls hl
  have hl : lv_has ls 3 [(0, .int x0), (1, .int x1), (2, va_rf x2)] := by clear hr; cases x2 <;> exact hl
  unfold f_J3_checkIndex_8e157 at hr
  refine v_iload_n C (lv_at hl 0 rfl) rfl dJ3_checkIndex_8e157_0 ?_
  refine v_if_lt C 9 (by decide) dJ3_checkIndex_8e157_1 (fun c1 => ?_) (fun c1 => ?_)
  · rw [if_pos c1] at hr
    exact b_J3_checkIndex_8e157_9 C hr _ (lv_sub hl [0, 1, 2] rfl)
  · rw [if_neg c1] at hr
    refine v_iload_n C (lv_at hl 0 rfl) rfl dJ3_checkIndex_8e157_4 ?_
    refine v_iload_n C (lv_at hl 1 rfl) rfl dJ3_checkIndex_8e157_5 ?_
    refine v_icmp_lt C 16 (by decide) dJ3_checkIndex_8e157_6 (fun c6 => ?_) (fun c6 => ?_)
    · rw [if_pos c6] at hr
      refine v_iload_n C (lv_at hl 0 rfl) rfl dJ3_checkIndex_8e157_16 ?_
      obtain rfl := os hr
      exact v_iret C dJ3_checkIndex_8e157_17
    · rw [if_neg c6] at hr
      exact b_J3_checkIndex_8e157_9 C hr _ (lv_sub hl [0, 1, 2] rfl)
/-! STRING: the literals' length and signs -/
def stL0 (S : St) (a : Nat) : Option Int32 := if kd S a = 22 ∧ ln S a < 2147483648 then some (nI (ln S a)) else none
def stC0 (S : St) (a : Nat) (i : Int32) : Option Int32 := if kd S a = 22 ∧ inB i (ln S a) = true ∧ ln S a < 2147483648 ∧ mi S a i.toNatClampNeg &&& 255 = mi S a i.toNatClampNeg then some (mi S a i.toNatClampNeg) else none
theorem char_ok {v : Int32} (h : v &&& 255 = v) : narrow .char (.int v) = .int v := by
  rw [← h, pk_and v 8 (by decide)]
  exact (pk_charN (by omega)).1
theorem k_coder {l : Launch} {G : Ge} {S : St} {x0 : Nat} (hk : kd S x0 = 22) : Ct l G yJ0_coder_7d493 cJ0_coder_7d493 1 (Option.some Jvm.ClassFile.FieldType.byte) S [va_rf (some x0)] (some (.int 0)) S 0 0 := by
  refine ct_of (by decide +kernel) (Nat.le_of_ble_eq_true rfl) ?_
  intro p e s m args below meth c C ls hl
  have hl : lv_has ls 1 [(0, va_rf (some x0))] := hl
  refine v_getZ C w_761 dJ0_coder_7d493_0 ?_
  refine v_if_eq C 13 (by decide) dJ0_coder_7d493_3 (fun q => absurd q (by decide)) (fun _ => ?_)
  refine v_aload_n C (lv_at hl 0 rfl) rfl dJ0_coder_7d493_6 ?_
  refine v_getSc C hk w_1949 dJ0_coder_7d493_7 ?_
  refine v_goto C 14 (by decide) dJ0_coder_7d493_10 ?_
  exact v_bret C rfl dJ0_coder_7d493_14
theorem k_latin {l : Launch} {G : Ge} {S : St} {x0 : Nat} (hk : kd S x0 = 22) : Ct l G yJ0_isLatin1_aae02 cJ0_isLatin1_aae02 1 (Option.some Jvm.ClassFile.FieldType.boolean) S [va_rf (some x0)] (some (.int 1)) S 0 0 := by
  refine ct_of (by decide +kernel) (Nat.le_of_ble_eq_true rfl) ?_
  intro p e s m args below meth c C ls hl
  have hl : lv_has ls 1 [(0, va_rf (some x0))] := hl
  refine v_getZ C w_761 dJ0_isLatin1_aae02_0 ?_
  refine v_if_eq C 17 (by decide) dJ0_isLatin1_aae02_3 (fun q => absurd q (by decide)) (fun _ => ?_)
  refine v_aload_n C (lv_at hl 0 rfl) rfl dJ0_isLatin1_aae02_6 ?_
  refine v_getSc C hk w_1949 dJ0_isLatin1_aae02_7 ?_
  refine v_if_ne C 17 (by decide) dJ0_isLatin1_aae02_10 (fun q => absurd rfl q) (fun _ => ?_)
  refine v_iconst C 1 (by decide) dJ0_isLatin1_aae02_13 ?_
  refine v_goto C 18 (by decide) dJ0_isLatin1_aae02_14 ?_
  exact v_zret C rfl dJ0_isLatin1_aae02_18
theorem k_sci {l : Launch} {G : Ge} {S : St} {x0 x1 : Int32} (h0 : ¬ x0 < 0) (h1 : x0 < x1) : Ct l G yJ0_checkIndex_df160 cJ0_checkIndex_df160 2 (Option.none : Option Jvm.ClassFile.FieldType) S [.int x0, .int x1] none S 2 60 := by
  refine ct_of (by decide +kernel) (Nat.le_of_ble_eq_true rfl) ?_
  intro p e s m args below meth c C ls hl
  have hl : lv_has ls 2 [(0, .int x0), (1, .int x1)] := hl
  refine v_iload_n C (lv_at hl 0 rfl) rfl dJ0_checkIndex_df160_0 ?_
  refine v_iload_n C (lv_at hl 1 rfl) rfl dJ0_checkIndex_df160_1 ?_
  refine v_getQ C w_777 dJ0_checkIndex_df160_2 (fun r => ?_)
  have e5 : f_J3_checkIndex_8e157 S x0 x1 r = some x0 := by unfold f_J3_checkIndex_8e157; rw [if_neg h0, if_pos h1]
  refine v_callS C (k_J3_checkIndex_8e157 e5) cw_J3_checkIndex_8e157 w_779 w_457 (show (parseMethodDescriptor (yJ3_checkIndex_8e157).desc).map (fun d => d.parameters.length) = some 3 by decide +kernel) ⟨by decide, by decide⟩ (rest := []) (stk2 := [.int x0]) rfl rfl (Nat.le_of_ble_eq_true rfl) hl dJ0_checkIndex_df160_5 ?_
  refine v_pop C rfl dJ0_checkIndex_df160_8 ?_
  exact v_vret C dJ0_checkIndex_df160_9
theorem k_lca {l : Launch} {G : Ge} {S : St} {a : Nat} {i rr : Int32} (hr : stC0 S a i = some rr) : Ct l G yJ1_charAt_3b067 cJ1_charAt_3b067 2 (Option.some Jvm.ClassFile.FieldType.char) S [va_rf (mr S a 0), .int i] (some (.int rr)) S 4 140 := by
  unfold stC0 at hr
  by_cases hq : kd S a = 22 ∧ inB i (ln S a) = true ∧ ln S a < 2147483648 ∧ mi S a i.toNatClampNeg &&& 255 = mi S a i.toNatClampNeg
  · rw [if_pos hq] at hr
    cases hr
    obtain ⟨hk, hi, hn, hc⟩ := hq
    have hin := inB_iff.mp hi
    have h0 : ¬ i < 0 := fun q => hin (Or.inl q)
    have h1 : i < nI (ln S a) := by
      obtain ⟨j, hj, rfl⟩ := nI_of h0
      rw [nI_clamp hj] at hin
      exact nI_lt (by omega) (by omega)
    refine ct_of (by decide +kernel) (by generalize mr S a 0 = z; cases z <;> exact Nat.le_of_ble_eq_true rfl) ?_
    intro p e s m args below meth c C ls hl
    have hl : lv_has ls 2 [(0, va_rf (mr S a 0)), (1, .int i)] := by
      revert hl
      generalize mr S a 0 = z
      cases z <;> exact id
    refine v_iload_n C (lv_at hl 1 rfl) rfl dJ1_charAt_3b067_0 ?_
    refine v_aload_n C (lv_at hl 0 rfl) rfl dJ1_charAt_3b067_1 ?_
    refine v_lenS C hk dJ1_charAt_3b067_2 ?_
    refine v_callS C (k_sci h0 h1) cw_J0_checkIndex_df160 w_774 w_775 (show (parseMethodDescriptor (yJ0_checkIndex_df160).desc).map (fun d => d.parameters.length) = some 2 by decide +kernel) ⟨by decide, by decide⟩ (rest := []) (stk2 := []) rfl rfl (Nat.le_of_ble_eq_true rfl) hl dJ1_charAt_3b067_3 ?_
    refine v_aload_n C (lv_at hl 0 rfl) rfl dJ1_charAt_3b067_6 ?_
    refine v_iload_n C (lv_at hl 1 rfl) rfl dJ1_charAt_3b067_7 ?_
    refine v_ldS C hk hi dJ1_charAt_3b067_8 (fun x hx => ?_)
    refine v_sipush C 255 (by decide) dJ1_charAt_3b067_9 ?_
    refine v_iand C dJ1_charAt_3b067_12 ?_
    refine v_i2c C dJ1_charAt_3b067_13 ?_
    rw [hx]
    exact v_cret C (char_ok hc) dJ1_charAt_3b067_14
  · rw [if_neg hq] at hr; cases hr
theorem k_strL {l : Launch} {G : Ge} {S : St} {x0 : Nat} {rr : Int32} (hr : stL0 S x0 = some rr) : Ct l G yJ0_length_8abf5 cJ0_length_8abf5 1 (Option.some Jvm.ClassFile.FieldType.int) S [va_rf (some x0)] (some (.int rr)) S 2 80 := by
  unfold stL0 at hr
  by_cases hq : kd S x0 = 22 ∧ ln S x0 < 2147483648
  · rw [if_pos hq] at hr
    cases hr
    refine ct_of (by decide +kernel) (Nat.le_of_ble_eq_true rfl) ?_
    intro p e s m args below meth c C ls hl
    have hl : lv_has ls 1 [(0, va_rf (some x0))] := hl
    refine v_aload_n C (lv_at hl 0 rfl) rfl dJ0_length_8abf5_0 ?_
    refine v_getSv C hq.1 w_1948 dJ0_length_8abf5_1 ?_
    refine v_lenS C hq.1 dJ0_length_8abf5_4 ?_
    refine v_aload_n C (lv_at hl 0 rfl) rfl dJ0_length_8abf5_5 ?_
    refine v_callT C (b := x0) (av := []) hq.1 rfl (k_coder hq.1) cw_J0_coder_7d493 w_757 w_758 w_759 (show (parseMethodDescriptor (yJ0_coder_7d493).desc).map (fun d => d.parameters.length) = some 0 by decide +kernel) ⟨by decide, by decide⟩ (rest := [.int (nI (ln S x0))]) (stk2 := [.int 0, .int (nI (ln S x0))]) rfl rfl (Nat.le_of_ble_eq_true rfl) hl dJ0_length_8abf5_6 ?_
    refine v_ishr C dJ0_length_8abf5_9 ?_
    rw [pk_shrN hq.2 _ 0 (by decide), Nat.pow_zero, Nat.div_one]
    exact v_iret C dJ0_length_8abf5_10
  · rw [if_neg hq] at hr; cases hr
theorem k_strC {l : Launch} {G : Ge} {S : St} {x0 : Nat} {x1 rr : Int32} (hr : stC0 S x0 x1 = some rr) : Ct l G yJ0_charAt_5068e cJ0_charAt_5068e 2 (Option.some Jvm.ClassFile.FieldType.char) S [va_rf (some x0), .int x1] (some (.int rr)) S 5 200 := by
  have hr' := hr
  unfold stC0 at hr'
  by_cases hq : kd S x0 = 22 ∧ inB x1 (ln S x0) = true ∧ ln S x0 < 2147483648 ∧ mi S x0 x1.toNatClampNeg &&& 255 = mi S x0 x1.toNatClampNeg
  · rw [if_pos hq] at hr'
    have hrr : narrow .char (.int rr) = .int rr := by cases hr'; exact char_ok hq.2.2.2
    refine ct_of (by decide +kernel) (Nat.le_of_ble_eq_true rfl) ?_
    intro p e s m args below meth c C ls hl
    have hl : lv_has ls 2 [(0, va_rf (some x0)), (1, .int x1)] := hl
    refine v_aload_n C (lv_at hl 0 rfl) rfl dJ0_charAt_5068e_0 ?_
    refine v_callT C (b := x0) (av := []) hq.1 rfl (k_latin hq.1) cw_J0_isLatin1_aae02 w_767 w_768 w_769 (show (parseMethodDescriptor (yJ0_isLatin1_aae02).desc).map (fun d => d.parameters.length) = some 0 by decide +kernel) ⟨by decide, by decide⟩ (rest := []) (stk2 := [.int 1]) rfl rfl (Nat.le_of_ble_eq_true rfl) hl dJ0_charAt_5068e_1 ?_
    refine v_if_eq C 16 (by decide) dJ0_charAt_5068e_4 (fun q => absurd q (by decide)) (fun _ => ?_)
    refine v_aload_n C (lv_at hl 0 rfl) rfl dJ0_charAt_5068e_7 ?_
    refine v_getSv C hq.1 w_1948 dJ0_charAt_5068e_8 ?_
    refine v_iload_n C (lv_at hl 1 rfl) rfl dJ0_charAt_5068e_11 ?_
    refine v_callS C (k_lca hr) cw_J1_charAt_3b067 w_771 w_772 (show (parseMethodDescriptor (yJ1_charAt_3b067).desc).map (fun d => d.parameters.length) = some 2 by decide +kernel) ⟨by decide, by decide⟩ (rest := []) (stk2 := [.int rr]) rfl rfl (Nat.le_of_ble_eq_true rfl) hl dJ0_charAt_5068e_12 ?_
    exact v_cret C hrr dJ0_charAt_5068e_15
  · rw [if_neg hq] at hr'; cases hr'
end Mth
