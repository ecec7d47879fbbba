/-! READS: the class goes on after a fault -/
/-- the end of a line, and a line, as the class reads them -/
def qx_end (S : St) (x0 : Nat) : Option St :=
    (rcv S (some x0) 8).bind fun b97 =>
    f_X7_closeLine S b97
def qx_line (S : St) (x0 : Nat) : Option St :=
    (getI S (some x0) 8 5).bind fun v27 =>
    (rcv S (some x0) 8).bind fun b71 =>
    (f_X7_advance S b71).bind fun S71 =>
    (if v27 = 8 then
    (rcv S71 (some x0) 8).bind fun b81 =>
    (F_X7_readTerms S71 b81).bind fun S81 =>
    (rcv S81 (some x0) 8).bind fun b85 =>
    (f_X7_readCondition S81 b85).bind fun S85 =>
    qx_end S85 x0
    else
    (rcv S71 (some x0) 8).bind fun b93 =>
    (f_X7_readNumbers S71 b93 v27).bind fun S93 =>
    qx_end S93 x0)
theorem qx_96 (rec : St → Nat → Int32 → Option St) (S : St) (x0 : Nat) (x1 : Int32) {S1 : St} (h : qx_end S x0 = some S1) : f_X7_readLines_96 rec S x0 x1 = rec S1 x0 (x1 + 1) := by
  unfold qx_end at h
  obtain ⟨b, h1, h⟩ := ob h
  unfold f_X7_readLines_96
  simp only [h1, h, Option.bind_some]
section Flt
variable {r la l : Nat} {ts : List Tk} {f : Nat → Nat} {T T' U : St} {c d : Nat} {C : List Int32} {fl fp : Int32}
theorem KS.rv (h : KS r la l ts f T) : rcv T (some r) 8 = some r := rcv_s h.1
theorem KS.gl (h : KS r la l ts f T) : getR T (some r) 8 0 = some (some la) := by rw [getR_s h.1, h.2.1]
theorem KS.rl (h : KS r la l ts f T) : rcv T (some la) 7 = some la := rcv_s h.2.2.2.1
theorem KS.g3 (h : KS r la l ts f T) : getR T (some r) 8 3 = some (some l) := by rw [getR_s h.1, h.2.2.1]
theorem KS.li (h : KS r la l ts f T) : LI T l ts.length f := h.2.2.2.2.2.2.2.2.2.2.1
theorem KS.r3 (h : KS r la l ts f T) : rcv T (some l) 0 = some l := rcv_s h.li.1
theorem KS.sz (h : KS r la l ts f T) : f_Jx4a65c_size_8abf5 T l = some (nI ts.length) := L_size h.li
theorem FC.gs (h : FC r la l ts f T fl fp) : getI T (some r) 8 5 = some 1 := by rw [getI_s h.1.1, h.2.2.2.2]
theorem PCr.gs (h : PCr r la l ts f T c d C) : getI T (some r) 8 5 = some (nI (tkn ts c).1) := by rw [getI_s h.1.1, h.2.2.2.2.2.1]
/-- runs that stay in fault -/
def FR (r la l : Nat) (ts : List Tk) (f : Nat → Nat) (g : St → Option St) : Prop := ∀ T fl fp, FC r la l ts f T fl fp → ∃ T', g T = some T' ∧ CWr r la T T' ∧ FC r la l ts f T' fl fp
theorem F_close (h : FC r la l ts f T fl fp) : ∃ T', f_X7_closeLine T r = some T' ∧ CWr r la T T' ∧ FC r la l ts f T' fl fp := by
  obtain ⟨A, a1, a2, a3⟩ := F_ref h 1
  refine ⟨A, ?_, a2, a3⟩
  unfold f_X7_closeLine
  simp only [h.gs, Option.bind_some]
  rw [if_neg (by decide)]
  simp only [h.1.rv, a1, Option.bind_some]
theorem F_num (h : FC r la l ts f T fl fp) (x y : Int32) : ∃ T', f_X7_takeNumber T r x y = some (x, T') ∧ CWr r la T T' ∧ FC r la l ts f T' fl fp := by
  obtain ⟨A, a1, a2, a3⟩ := F_ref h 1
  refine ⟨A, ?_, a2, a3⟩
  unfold f_X7_takeNumber
  simp only [getI_s h.1.1 7, h.gs, Option.bind_some]
  rw [if_neg (by decide)]
  simp only [h.1.rv, a1, Option.bind_some]
theorem F_unit (ru : St → Nat → Option St) : FR r la l ts f (fun T => f_X7_readUnit ru T r) := fun T fl fp h => by
  obtain ⟨A, a1, a2, a3⟩ := F_ref h 1
  refine ⟨A, ?_, a2, a3⟩
  show f_X7_readUnit ru T r = some A
  unfold f_X7_readUnit f_X7_readUnit_63
  simp only [h.gs, Option.bind_some]
  rw [if_neg (by decide), if_pos (by decide), if_neg (by decide)]
  simp only [h.1.rv, a1, Option.bind_some]
theorem F_rU (D : Nat) : FR r la l ts f (fun T => r_X7_readUnit (D + 1) T r) := F_unit _
theorem F_ter8 (ru : St → Nat → Option St) (fu : Nat) (w x : Int32) (h : FC r la l ts f T fl fp) : f_X7_readTerms_8 ru (fu + 1) T r w x = some (r, w, T) := by
  unfold f_X7_readTerms_8
  simp only [h.1.g3, h.1.r3, h.1.sz, h.gs, Option.bind_some]
  rw [if_pos (show (1 : Int32) < 18 by decide)]
  split <;> rfl
theorem F_t141 (ru : St → Nat → Option St) (h : FC r la l ts f T fl fp) (w : Int32) : ∃ T', f_X7_readTerms_141 ru T r w = some T' ∧ CWr r la T T' ∧ FC r la l ts f T' fl fp := by
  unfold f_X7_readTerms_141
  by_cases hw : w = 0
  · rw [if_pos hw]
    exact ⟨T, rfl, CWr.rf _, h⟩
  · rw [if_neg hw]
    obtain ⟨A, a1, a2, a3⟩ := F_code h (-w)
    refine ⟨A, ?_, a2, a3⟩
    simp only [h.1.gl, h.1.rl, a1, Option.bind_some]
theorem F_terms {ru : St → Nat → Option St} (hr : FR r la l ts f (fun T => ru T r)) : FR r la l ts f (fun T => f_X7_readTerms ru T r) := fun T fl fp h => by
  obtain ⟨A, a1, a2, a3⟩ := hr T fl fp h
  have a1' : ru T r = some A := a1
  obtain ⟨B, b1, b2, b3⟩ := F_t141 ru a3 0
  refine ⟨B, ?_, a2.tr b2, b3⟩
  show f_X7_readTerms ru T r = some B
  unfold f_X7_readTerms
  simp only [h.1.rv, a1', Option.bind_some]
  obtain ⟨k, hk⟩ : ∃ k, FU = k + 1 := ⟨FU - 1, by unfold FU; omega⟩
  rw [hk]
  exact (bnd (F_ter8 ru k 0 0 a3)).trans b1
theorem F_Terms : FR r la l ts f (fun T => F_X7_readTerms T r) := F_terms (ru := r_X7_readUnit 32) (F_rU 31)
theorem F_t34 (k : Int32) : FR r la l ts f (fun T => f_X7_readTest_34 T r k) := fun T fl fp h => by
  obtain ⟨A, a1, a2, a3⟩ := F_Terms T fl fp h
  have a1' : F_X7_readTerms T r = some A := a1
  obtain ⟨B, b1, b2, b3⟩ := F_ref a3 1
  refine ⟨B, ?_, a2.tr b2, b3⟩
  show f_X7_readTest_34 T r k = some B
  unfold f_X7_readTest_34 f_X7_readTest_55
  simp only [h.1.rv, a1', a3.gs, Option.bind_some]
  rw [if_pos (by decide)]
  simp only [a3.1.rv, b1, Option.bind_some]
theorem F_t2 (fu : Nat) (x : Int32) (h : FC r la l ts f T fl fp) : f_X7_readTest_2 (fu + 1) T r x = some (r, x, T) := by
  unfold f_X7_readTest_2
  simp only [h.gs, Option.bind_some]
  rw [if_neg (show ¬ ((1 : Int32) = 16) by decide)]
  split <;> rfl
theorem F_Test : FR r la l ts f (fun T => f_X7_readTest T r) := fun T fl fp h => by
  obtain ⟨A, a1, a2, a3⟩ := F_t34 0 T fl fp h
  have a1' : f_X7_readTest_34 T r 0 = some A := a1
  refine ⟨A, ?_, a2, a3⟩
  show f_X7_readTest T r = some A
  unfold f_X7_readTest
  obtain ⟨k, hk⟩ : ∃ k, FU = k + 1 := ⟨FU - 1, by unfold FU; omega⟩
  rw [hk]
  exact (bnd (F_t2 k 0 h)).trans a1'
theorem F_c31 (fu : Nat) (x y : Int32) (h : FC r la l ts f T fl fp) : f_X7_readCondition_31 (fu + 1) T r x y = some (r, x, T) := by
  unfold f_X7_readCondition_31
  simp only [h.1.g3, h.1.r3, h.1.sz, h.gs, Option.bind_some]
  rw [if_neg (show ¬ ((1 : Int32) = 14) by decide), if_neg (show ¬ ((1 : Int32) = 15) by decide)]
  split <;> rfl
/-- the last or of a condition, before its end -/
theorem F_c133 (h : FC r la l ts f T fl fp) (x : Int32) : ∃ T', f_X7_readCondition_133 T r x = f_X7_readCondition_146 T' r ∧ CWr r la T T' ∧ FC r la l ts f T' fl fp := by
  unfold f_X7_readCondition_133
  by_cases hx : x = 0
  · rw [if_pos hx]
    exact ⟨T, rfl, CWr.rf _, h⟩
  · rw [if_neg hx]
    obtain ⟨A, a1, a2, a3⟩ := F_code h (-14)
    refine ⟨A, ?_, a2, a3⟩
    simp only [h.1.gl, h.1.rl, a1, Option.bind_some]
theorem F_cond : FR r la l ts f (fun T => f_X7_readCondition T r) := fun T fl fp h => by
  obtain ⟨B, b1, b2, b3⟩ := F_code h (-8)
  refine ⟨B, ?_, b2, b3⟩
  show f_X7_readCondition T r = some B
  unfold f_X7_readCondition
  simp only [h.gs, Option.bind_some]
  rw [if_neg (by decide)]
  simp only [h.1.gl, h.1.rl, b1, Option.bind_some]
theorem F_163 : FR r la l ts f (fun T => qx_end T r) := fun T fl fp h => by
  obtain ⟨A, a1, a2, a3⟩ := F_close h
  refine ⟨A, ?_, a2, a3⟩
  show qx_end T r = some A
  unfold qx_end
  simp only [h.1.rv, a1, Option.bind_some]
end Flt
