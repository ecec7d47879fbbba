/-! FRAMES -/
/-- behind the last cell there is nothing -/
def WFS (S : St) : Prop := ∀ a, nx S ≤ a → kd S a = 99
theorem WFS.lt {S : St} (h : WFS S) {a : Nat} (hk : kd S a < 99) : a < nx S := by
  rcases Nat.lt_or_ge a (nx S) with h1 | h1
  · exact h1
  · have := h a h1; omega
/-- S' is S but for the rows P and what is new -/
def Fr (P : Nat → Prop) (S S' : St) : Prop := Ext S S' ∧ (WFS S → WFS S') ∧ ∀ a, a < nx S → ¬ P a → mi S' a = mi S a ∧ ml S' a = ml S a ∧ mr S' a = mr S a
theorem Fr.rf (P : Nat → Prop) (S : St) : Fr P S S := ⟨Ext.rf S, id, fun _ _ _ => ⟨rfl, rfl, rfl⟩⟩
theorem Fr.tr {A B C : St} {P Q : Nat → Prop} (h : Fr P A B) (k : Fr Q B C) (hq : ∀ a, a < nx A → Q a → P a) : Fr P A C := by
  refine ⟨h.1.tr k.1, fun w => k.2.1 (h.2.1 w), fun a ha hn => ?_⟩
  have h1 := h.2.2 a ha hn
  have h2 := k.2.2 a (Nat.lt_of_lt_of_le ha h.1.1) (fun q => hn (hq a ha q))
  exact ⟨h2.1.trans h1.1, h2.2.1.trans h1.2.1, h2.2.2.trans h1.2.2⟩
theorem Fr.mono {A B : St} {P Q : Nat → Prop} (h : Fr P A B) (hpq : ∀ a, a < nx A → P a → Q a) : Fr Q A B := ⟨h.1, h.2.1, fun a ha hn => h.2.2 a ha (fun q => hn (hpq a ha q))⟩
theorem Fr_setI {P : Nat → Prop} {S : St} {a : Nat} (k : Nat) (v : Int32) (h : kd S a ≤ 20) (hp : a < nx S → P a) : Fr P S (setI S a k v) := by
  refine ⟨Ext_setI S a k v h, id, fun b hb hn => ?_⟩
  have hne : b ≠ a := fun e => hn (e ▸ hp (e ▸ hb))
  exact ⟨by funext j; simp [mi_setI_i, hne], rfl, rfl⟩
theorem Fr_setL {P : Nat → Prop} {S : St} {a : Nat} (k : Nat) (v : Int64) (hp : a < nx S → P a) : Fr P S (setL S a k v) := by
  refine ⟨Ext_setL S a k v, id, fun b hb hn => ?_⟩
  have hne : b ≠ a := fun e => hn (e ▸ hp (e ▸ hb))
  exact ⟨rfl, by funext j; simp [ml_setL_i, hne], rfl⟩
theorem Fr_setR {P : Nat → Prop} {S : St} {a : Nat} (k : Nat) (v : Option Nat) (h : kd S a ≤ 20) (hp : a < nx S → P a) : Fr P S (setR S a k v) := by
  refine ⟨Ext_setR S a k v h, id, fun b hb hn => ?_⟩
  have hne : b ≠ a := fun e => hn (e ▸ hp (e ▸ hb))
  exact ⟨rfl, rfl, by funext j; simp [mr_setR_i, hne]⟩
theorem Fr_mk0 {P : Nat → Prop} (S : St) (n q len : Nat) : Fr P S (mk0 S n q len) := by
  refine ⟨Ext_mk0 S n q len, fun w a ha => ?_, fun b hb _ => ?_⟩
  · have h1 : nx S + 1 ≤ a := ha
    have h2 : a ≠ nx S := by omega
    show (if a = nx S then q else kd S a) = 99
    rw [if_neg h2]; exact w a (by omega)
  · have hne : b ≠ nx S := Nat.ne_of_lt hb
    exact ⟨by funext j; simp [mi, mk0, hne], by funext j; simp [ml, mk0, hne], by funext j; simp [mr, mk0, hne]⟩
theorem Fr_cpyR {P : Nat → Prop} {S : St} {b : Nat} (a sp dp n : Nat) (h : kd S b ≤ 20) (hp : b < nx S → P b) : Fr P S (cpyR S a sp b dp n) := by
  refine ⟨Ext_cpyR S a sp b dp n h, id, fun z hz hn => ?_⟩
  have hne : z ≠ b := fun e => hn (e ▸ hp (e ▸ hz))
  exact ⟨rfl, rfl, by funext j; simp [mr, cpyR, hne]⟩
theorem Fr.kdE {P : Nat → Prop} {S S' : St} (h : Fr P S S') {a : Nat} (ha : a < nx S) : kd S' a = kd S a := (h.1.2.2.2.2.2 a ha).1
theorem Fr.lnE {P : Nat → Prop} {S S' : St} (h : Fr P S S') {a : Nat} (ha : a < nx S) : ln S' a = ln S a := (h.1.2.2.2.2.2 a ha).2.1
theorem Fr.kdw {P : Nat → Prop} {S S' : St} (h : Fr P S S') (w : WFS S) {a k : Nat} (hk : kd S a = k) (h9 : k < 99) : kd S' a = k := by
  rw [h.kdE (w.lt (by omega)), hk]
theorem Fr.lnw {P : Nat → Prop} {S S' : St} (h : Fr P S S') (w : WFS S) {a n : Nat} (hl : ln S a = n) (h9 : kd S a < 99) : ln S' a = n := by
  rw [h.lnE (w.lt h9), hl]
theorem Fr.nxle {P : Nat → Prop} {S S' : St} (h : Fr P S S') : nx S ≤ nx S' := h.1.1
theorem Fr.empE {P : Nat → Prop} {S S' : St} (h : Fr P S S') : emp S' = emp S := h.1.2.2.2.1
theorem Fr.litE {P : Nat → Prop} {S S' : St} (h : Fr P S S') : lit S' = lit S := h.1.2.2.2.2.1
theorem Fr.capE {P : Nat → Prop} {S S' : St} (h : Fr P S S') : cap S' = cap S := h.1.2.2.1
-- what a new cell has
theorem nx_mk0 (S : St) (n q len : Nat) : nx (mk0 S n q len) = nx S + 1 := rfl
theorem sl_mk0 (S : St) (n q len : Nat) : sl (mk0 S n q len) = sl S + n := rfl
theorem cap_mk0 (S : St) (n q len : Nat) : cap (mk0 S n q len) = cap S := rfl
theorem emp_mk0 (S : St) (n q len : Nat) : emp (mk0 S n q len) = emp S := rfl
theorem lit_mk0 (S : St) (n q len : Nat) : lit (mk0 S n q len) = lit S := rfl
theorem kd_mk0 (S : St) (n q len a : Nat) : kd (mk0 S n q len) a = if a = nx S then q else kd S a := rfl
theorem ln_mk0 (S : St) (n q len a : Nat) : ln (mk0 S n q len) a = if a = nx S then len else ln S a := rfl
theorem mi_mk0 (S : St) (n q len a j : Nat) : mi (mk0 S n q len) a j = if a = nx S then 0 else mi S a j := rfl
theorem ml_mk0 (S : St) (n q len a j : Nat) : ml (mk0 S n q len) a j = if a = nx S then 0 else ml S a j := rfl
theorem mr_mk0 (S : St) (n q len a j : Nat) : mr (mk0 S n q len) a j = if a = nx S then none else mr S a j := rfl
theorem newO_s {S : St} {ci : Nat} (h : nx S + 1 ≤ cap S) (h2 : sl S + nfl ci ≤ 7302250) : newO S ci = some (nx S, mk0 S (nfl ci) ci 0) := if_pos ⟨h, h2⟩
theorem newA_s {S : St} {ck n : Nat} (hn : n < 2 ^ 31) (h : nx S + 1 ≤ cap S) (h2 : sl S + n ≤ 7302250) : newA S ck (nI n) = some (nx S, mk0 S n ck n) := by
  unfold newA
  rw [nI_clamp hn, if_pos ⟨nI_pos hn, h, h2⟩]
theorem newA_k {S : St} {ck n : Nat} {v : Int32} (hv : v = nI n) (hn : n < 2 ^ 31) (h : nx S + 1 ≤ cap S) (h2 : sl S + n ≤ 7302250) : newA S ck v = some (nx S, mk0 S n ck n) := by
  rw [hv]; exact newA_s hn h h2
theorem Fr.sI {P : Nat → Prop} {S T : St} (h : Fr P S T) {a : Nat} (k : Nat) (v : Int32) (hk : kd T a ≤ 20) (hp : a < nx S → P a) : Fr P S (setI T a k v) := h.tr (Q := fun z => z = a) (Fr_setI k v hk (fun _ => rfl)) (fun z hz e => by rw [e]; rw [e] at hz; exact hp hz)
theorem Fr.sL {P : Nat → Prop} {S T : St} (h : Fr P S T) {a : Nat} (k : Nat) (v : Int64) (hp : a < nx S → P a) : Fr P S (setL T a k v) := h.tr (Q := fun z => z = a) (Fr_setL k v (fun _ => rfl)) (fun z hz e => by rw [e]; rw [e] at hz; exact hp hz)
theorem Fr.sR {P : Nat → Prop} {S T : St} (h : Fr P S T) {a : Nat} (k : Nat) (v : Option Nat) (hk : kd T a ≤ 20) (hp : a < nx S → P a) : Fr P S (setR T a k v) := h.tr (Q := fun z => z = a) (Fr_setR k v hk (fun _ => rfl)) (fun z hz e => by rw [e]; rw [e] at hz; exact hp hz)
theorem Fr.mk {P : Nat → Prop} {S T : St} (h : Fr P S T) (n q len : Nat) : Fr P S (mk0 T n q len) := h.tr (Q := fun _ => False) (Fr_mk0 T n q len) (fun _ _ e => e.elim)
