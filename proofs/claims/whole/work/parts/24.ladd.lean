/-! LISTS: add -/
/-- S' is S but for the rows P and what is new -/
def Sm (S S' : St) (P : Nat → Prop) : Prop := Ext S S' ∧ ∀ a, a < nx S → ¬ P a → mi S' a = mi S a ∧ ml S' a = ml S a ∧ mr S' a = mr S a
theorem Sm.rf (S : St) (P : Nat → Prop) : Sm S S P := ⟨Ext.rf S, fun _ _ _ => ⟨rfl, rfl, rfl⟩⟩
theorem Sm.tr {A B C : St} {P Q : Nat → Prop} (h : Sm A B P) (k : Sm B C Q) : Sm A C (fun a => P a ∨ Q a) := by
  refine ⟨h.1.tr k.1, fun a ha hn => ?_⟩
  have h1 := h.2 a ha (fun q => hn (Or.inl q))
  have h2 := k.2 a (Nat.lt_of_lt_of_le ha h.1.1) (fun q => hn (Or.inr q))
  exact ⟨h2.1.trans h1.1, h2.2.1.trans h1.2.1, h2.2.2.trans h1.2.2⟩
theorem Sm.mono {A B : St} {P Q : Nat → Prop} (h : Sm A B P) (hpq : ∀ a, a < nx A → P a → Q a) : Sm A B Q := ⟨h.1, fun a ha hn => h.2 a ha (fun q => hn (hpq a ha q))⟩
theorem Sm_setI {S : St} {a k : Nat} {v : Int32} (h : kd S a ≤ 20) : Sm S (setI S a k v) (fun b => b = a) := ⟨Ext_setI S a k v h, fun b _ hb => ⟨by funext j; simp [mi_setI_i, hb], rfl, rfl⟩⟩
theorem Sm_setL {S : St} {a k : Nat} {v : Int64} : Sm S (setL S a k v) (fun b => b = a) := ⟨Ext_setL S a k v, fun b _ hb => ⟨rfl, by funext j; simp [ml_setL_i, hb], rfl⟩⟩
theorem Sm_setR {S : St} {a k : Nat} {v : Option Nat} (h : kd S a ≤ 20) : Sm S (setR S a k v) (fun b => b = a) := ⟨Ext_setR S a k v h, fun b _ hb => ⟨rfl, rfl, by funext j; simp [mr_setR_i, hb]⟩⟩
theorem Sm_mk0 {S : St} {n q len : Nat} : Sm S (mk0 S n q len) (fun _ => False) := by
  refine ⟨Ext_mk0 S n q len, fun b hb _ => ?_⟩
  have hne : b ≠ nx S := Nat.ne_of_lt hb
  exact ⟨by funext j; simp [mi, mk0, hne], by funext j; simp [ml, mk0, hne], by funext j; simp [mr, mk0, hne]⟩
theorem Sm_cpyR {S : St} {a sp b dp n : Nat} (h : kd S b ≤ 20) : Sm S (cpyR S a sp b dp n) (fun z => z = b) := ⟨Ext_cpyR S a sp b dp n h, fun z _ hz => ⟨rfl, rfl, by funext j; simp [mr, cpyR, hz]⟩⟩
