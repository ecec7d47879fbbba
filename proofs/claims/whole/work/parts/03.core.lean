/-! THE PURE STATE: what the two systems hold, by addresses. (next address, slots in use, most cells, the empty list row, literals), kinds and lengths; ints, longs, references -/
abbrev St : Type := (Nat × Nat × Nat × Nat × (Nat → Nat)) × ((Nat → Nat) × (Nat → Nat)) × ((Nat → Nat → Int32) × (Nat → Nat → Int64) × (Nat → Nat → Option Nat))
def nx (S : St) : Nat := S.1.1
def sl (S : St) : Nat := S.1.2.1
def cap (S : St) : Nat := S.1.2.2.1
def emp (S : St) : Nat := S.1.2.2.2.1
def lit (S : St) : Nat → Nat := S.1.2.2.2.2
def kd (S : St) : Nat → Nat := S.2.1.1
def ln (S : St) : Nat → Nat := S.2.1.2
def mi (S : St) : Nat → Nat → Int32 := S.2.2.1
def ml (S : St) : Nat → Nat → Int64 := S.2.2.2.1
def mr (S : St) : Nat → Nat → Option Nat := S.2.2.2.2
def up1 {α : Type} (f : Nat → α) (a : Nat) (v : α) : Nat → α := fun b => if b = a then v else f b
def up2 {α : Type} (f : Nat → Nat → α) (a k : Nat) (v : α) : Nat → Nat → α := fun b j => if b = a ∧ j = k then v else f b j
def setI (S : St) (a k : Nat) (v : Int32) : St := (S.1, S.2.1, up2 (mi S) a k v, ml S, mr S)
def setL (S : St) (a k : Nat) (v : Int64) : St := (S.1, S.2.1, mi S, up2 (ml S) a k v, mr S)
def setR (S : St) (a k : Nat) (v : Option Nat) : St := (S.1, S.2.1, mi S, ml S, up2 (mr S) a k v)
def mk0 (S : St) (n kind len : Nat) : St := ((nx S + 1, sl S + n, cap S, emp S, lit S), (up1 (kd S) (nx S) kind, up1 (ln S) (nx S) len), (fun b j => if b = nx S then 0 else mi S b j), (fun b j => if b = nx S then 0 else ml S b j), (fun b j => if b = nx S then none else mr S b j))
/-- kinds: 0 .. 13 the classes of vwCl; 14 byte[], 15 int[], 16 long[], 17 boolean[], 18 Law[], 19 Person[], 20 Object[]; 21 the empty row of lists; 22 a literal -/
def nfl (ci : Nat) : Nat := match vwCl[ci]? with
  | some q => q.2.2
  | none => 0
def fty (ci k : Nat) : FieldType := match ci with
  | 0 => tyJx4a65c k
  | 1 => tyX0 k
  | 2 => tyX1 k
  | 3 => tyX2 k
  | 4 => tyX3 k
  | 5 => tyX4 k
  | 6 => tyX5 k
  | 7 => tyX6 k
  | 8 => tyX7 k
  | 9 => tyX8 k
  | 10 => tyX9 k
  | 11 => tyX10 k
  | 12 => tyX11 k
  | 13 => tyX12 k
  | 14 => .byte
  | 15 => .int
  | 16 => .long
  | 17 => .boolean
  | 18 => .object RX6
  | 19 => .object RX8
  | _ => .object "java/lang/Object"
def vof (S : St) (a k : Nat) (t : FieldType) : Value := match t with
  | .long => .long (ml S a k)
  | .object _ => va_rf (mr S a k)
  | .array _ => va_rf (mr S a k)
  | _ => .int (mi S a k)
def szo (S : St) (a : Nat) : Nat := if kd S a < 14 then nfl (kd S a) else ln S a
def inB (i : Int32) (n : Nat) : Bool := decide (¬ (i < 0 ∨ n ≤ i.toNatClampNeg))
-- what an instruction does
def getI (S : St) (r : Option Nat) (ci k : Nat) : Option Int32 := match r with
  | some a => if kd S a = ci then some (mi S a k) else none
  | none => none
def getL (S : St) (r : Option Nat) (ci k : Nat) : Option Int64 := match r with
  | some a => if kd S a = ci then some (ml S a k) else none
  | none => none
def getR (S : St) (r : Option Nat) (ci k : Nat) : Option (Option Nat) := match r with
  | some a => if kd S a = ci then some (mr S a k) else none
  | none => none
def putI (S : St) (r : Option Nat) (ci k : Nat) (v : Int32) : Option St := match r with
  | some a => if kd S a = ci then some (setI S a k v) else none
  | none => none
def putL (S : St) (r : Option Nat) (ci k : Nat) (v : Int64) : Option St := match r with
  | some a => if kd S a = ci then some (setL S a k v) else none
  | none => none
def putR (S : St) (r : Option Nat) (ci k : Nat) (v : Option Nat) : Option St := match r with
  | some a => if kd S a = ci then some (setR S a k v) else none
  | none => none
def ldI (S : St) (r : Option Nat) (ck : Nat) (i : Int32) : Option Int32 := match r with
  | some a => if kd S a = ck ∧ inB i (ln S a) = true then some (mi S a i.toNatClampNeg) else none
  | none => none
def ldL (S : St) (r : Option Nat) (i : Int32) : Option Int64 := match r with
  | some a => if kd S a = 16 ∧ inB i (ln S a) = true then some (ml S a i.toNatClampNeg) else none
  | none => none
def ldR (S : St) (r : Option Nat) (ck : Nat) (i : Int32) : Option (Option Nat) := match r with
  | some a => if kd S a = ck ∧ inB i (ln S a) = true then some (mr S a i.toNatClampNeg) else none
  | none => none
def nrw (ck : Nat) (v : Int32) : Int32 := if ck = 14 then v.toInt8.toInt32 else if ck = 17 then v &&& 1 else v
def stI (S : St) (r : Option Nat) (ck : Nat) (i v : Int32) : Option St := match r with
  | some a => if kd S a = ck ∧ inB i (ln S a) = true then some (setI S a i.toNatClampNeg (nrw ck v)) else none
  | none => none
def stL (S : St) (r : Option Nat) (i : Int32) (v : Int64) : Option St := match r with
  | some a => if kd S a = 16 ∧ inB i (ln S a) = true then some (setL S a i.toNatClampNeg v) else none
  | none => none
/-- what may be laid into a row of references: 18 takes kind 7, 19 takes kind 9, 20 takes any object -/
def fitR (S : St) (ck : Nat) (v : Nat) : Bool := if ck = 18 then decide (kd S v = 7) else if ck = 19 then decide (kd S v = 9) else if ck = 20 then decide (kd S v < 14) else false
def stR (S : St) (r : Option Nat) (ck : Nat) (i : Int32) (v : Option Nat) : Option St := match r, v with
  | some a, some b => if kd S a = ck ∧ inB i (ln S a) = true ∧ fitR S ck b = true then some (setR S a i.toNatClampNeg (some b)) else none
  | _, _ => none
def alen (S : St) (r : Option Nat) : Option Int32 := match r with
  | some a => if kd S a = 21 then some 0 else if 14 ≤ kd S a ∧ kd S a ≤ 20 then some (nI (ln S a)) else none
  | none => none
def rcv (S : St) (r : Option Nat) (ci : Nat) : Option Nat := match r with
  | some a => if kd S a = ci then some a else none
  | none => none
def castO (S : St) (r : Option Nat) (ci : Nat) : Option (Option Nat) := match r with
  | some a => if kd S a = ci then some (some a) else none
  | none => some none
def newO (S : St) (ci : Nat) : Option (Nat × St) := if nx S + 1 ≤ cap S ∧ sl S + nfl ci ≤ 7302250 then some (nx S, mk0 S (nfl ci) ci 0) else none
def newA (S : St) (ck : Nat) (n : Int32) : Option (Nat × St) := if ¬ n < 0 ∧ nx S + 1 ≤ cap S ∧ sl S + n.toNatClampNeg ≤ 7302250 then some (nx S, mk0 S n.toNatClampNeg ck n.toNatClampNeg) else none
def divI (x y : Int32) : Option Int32 := if y = 0 then none else some (x / y)
def remI (x y : Int32) : Option Int32 := if y = 0 then none else some (x - x / y * y)
def divL (x y : Int64) : Option Int64 := if y = 0 then none else some (x / y)
def remL (x y : Int64) : Option Int64 := if y = 0 then none else some (x - x / y * y)
def cmpL (x y : Int64) : Int32 := if x < y then -1 else if x = y then 0 else 1
def FU : Nat := 1000000
theorem ob {α β : Type} {x : Option α} {f : α → Option β} {b : β} (h : x.bind f = some b) : ∃ a, x = some a ∧ f a = some b := Option.bind_eq_some_iff.mp h
theorem os {α : Type} {a b : α} (h : some a = some b) : a = b := Option.some.inj h
/-- the environment of a run: class numbers and slots; the rows' classes; the first address of the run; the value rows of the literals -/
abbrev Ge : Type := va_G × (Nat → ClassId) × Nat × (Nat → Nat)
def bs (G : Ge) : Nat := G.2.2.1
def cidOf (G : Ge) (ci : Nat) : ClassId := if ci < 14 then G.1.1 ci else G.2.1 ci
def posOf (G : Ge) (ci k : Nat) : Nat := if ci < 14 then G.1.2 ci k else k
def tysOf (G : Ge) : List (ClassId × FieldType) := [(G.2.1 14, .byte), (G.2.1 15, .int), (G.2.1 16, .long), (G.2.1 17, .boolean), (G.2.1 18, .object RX6), (G.2.1 19, .object RX8), (G.2.1 20, .object "java/lang/Object")]
def cellAt (G : Ge) (S : St) (H : Heap) (a : Nat) : Prop := ∃ cell : Cell, H[a]? = some cell ∧ cell.vm = .none ∧ cell.cls = cidOf G (kd S a) ∧ cell.slots.size = szo S a ∧ ∀ k, k < szo S a → cell.slots[posOf G (kd S a) k]? = some (vof S a k (fty (kd S a) k))
def sumz (S : St) (lo : Nat) : Nat → Nat
  | 0 => 0
  | n + 1 => sumz S lo n + szo S (lo + n)
/-- the heap holds the pure state -/
def Rel (G : Ge) (S : St) (H : Heap) : Prop := H.size = nx S ∧ bs G ≤ nx S ∧ nx S ≤ cap S ∧ sl S ≤ 7302250 ∧ cap S = bs G + 600000 ∧ sl S = sumz S (bs G) (nx S - bs G) ∧ (∀ a, bs G ≤ a → a < nx S → kd S a ≤ 20 ∧ cellAt G S H a) ∧ (∀ a, kd S a ≤ 20 → bs G ≤ a ∧ a < nx S) ∧ ∀ a, nx S ≤ a → 22 < kd S a
/-- what was made stays of its kind -/
def Ext (S S' : St) : Prop := nx S ≤ nx S' ∧ sl S ≤ sl S' ∧ cap S' = cap S ∧ emp S' = emp S ∧ lit S' = lit S ∧ ∀ a, a < nx S → kd S' a = kd S a ∧ ln S' a = ln S a ∧ (21 ≤ kd S a → mi S' a = mi S a ∧ mr S' a = mr S a)
theorem Ext.rf (S : St) : Ext S S := ⟨Nat.le_refl _, Nat.le_refl _, rfl, rfl, rfl, fun _ _ => ⟨rfl, rfl, fun _ => ⟨rfl, rfl⟩⟩⟩
theorem Ext.tr {A B C : St} (h : Ext A B) (k : Ext B C) : Ext A C := by
  obtain ⟨a1, a2, a3, a4, a5, a6⟩ := h
  obtain ⟨b1, b2, b3, b4, b5, b6⟩ := k
  refine ⟨Nat.le_trans a1 b1, Nat.le_trans a2 b2, b3.trans a3, b4.trans a4, b5.trans a5, fun a ha => ?_⟩
  have h1 := a6 a ha
  have h2 := b6 a (Nat.lt_of_lt_of_le ha a1)
  exact ⟨h2.1.trans h1.1, h2.2.1.trans h1.2.1, fun q => ⟨(h2.2.2 (by rw [h1.1]; exact q)).1.trans (h1.2.2 q).1, (h2.2.2 (by rw [h1.1]; exact q)).2.trans (h1.2.2 q).2⟩⟩
theorem Ext_setI (S : St) (a k : Nat) (v : Int32) (h : kd S a ≤ 20) : Ext S (setI S a k v) := by
  refine ⟨Nat.le_refl _, Nat.le_refl _, rfl, rfl, rfl, fun b _ => ⟨rfl, rfl, fun q => ?_⟩⟩
  have hne : b ≠ a := fun e => by subst e; omega
  refine ⟨?_, rfl⟩
  funext j
  simp [mi, setI, up2, hne]
theorem Ext_setL (S : St) (a k : Nat) (v : Int64) : Ext S (setL S a k v) := ⟨Nat.le_refl _, Nat.le_refl _, rfl, rfl, rfl, fun _ _ => ⟨rfl, rfl, fun _ => ⟨rfl, rfl⟩⟩⟩
theorem Ext_setR (S : St) (a k : Nat) (v : Option Nat) (h : kd S a ≤ 20) : Ext S (setR S a k v) := by
  refine ⟨Nat.le_refl _, Nat.le_refl _, rfl, rfl, rfl, fun b _ => ⟨rfl, rfl, fun q => ?_⟩⟩
  have hne : b ≠ a := fun e => by subst e; omega
  refine ⟨rfl, ?_⟩
  funext j
  simp [mr, setR, up2, hne]
theorem Ext_mk0 (S : St) (n q len : Nat) : Ext S (mk0 S n q len) := by
  refine ⟨Nat.le_succ _, Nat.le_add_right _ _, rfl, rfl, rfl, fun a ha => ?_⟩
  have hne : a ≠ nx S := Nat.ne_of_lt ha
  refine ⟨by simp [kd, mk0, up1, hne], by simp [ln, mk0, up1, hne], fun _ => ⟨?_, ?_⟩⟩
  · funext j
    simp [mi, mk0, hne]
  · funext j
    simp [mr, mk0, hne]
theorem sumz_ext {S S' : St} {lo : Nat} : ∀ n : Nat, (∀ a, lo ≤ a → a < lo + n → szo S' a = szo S a) → sumz S' lo n = sumz S lo n
  | 0, _ => rfl
  | n + 1, h => by
    unfold sumz
    rw [sumz_ext n (fun a h1 h2 => h a h1 (by omega)), h (lo + n) (by omega) (by omega)]
theorem sumz_split (S : St) (lo n m : Nat) : sumz S lo (n + m) = sumz S lo n + sumz S (lo + n) m := by
  induction m with
  | zero => rfl
  | succ m ih =>
    show sumz S lo (n + m) + szo S (lo + (n + m)) = sumz S lo n + (sumz S (lo + n) m + szo S (lo + n + m))
    rw [ih, Nat.add_assoc lo n m]; omega
theorem szo_ext {S S' : St} (h : Ext S S') {a : Nat} (ha : a < nx S) : szo S' a = szo S a := by
  obtain ⟨h1, h2, -⟩ := h.2.2.2.2.2 a ha
  unfold szo
  rw [h1, h2]
theorem sumz_heap {S : St} {H : Heap} {lo : Nat} : ∀ n : Nat, H.size = lo + n → (∀ a, lo ≤ a → a < lo + n → ∃ cell : Cell, H[a]? = some cell ∧ cell.slots.size = szo S a) → ((H.toList.drop lo).map (fun c => c.slots.size)).sum = sumz S lo n := by
  intro n
  induction n generalizing H with
  | zero =>
    intro hs _
    rw [List.drop_eq_nil_of_le (by simp; omega)]
    rfl
  | succ n ih =>
    intro hs h
    have hne : H.toList ≠ [] := by
      intro q
      have := congrArg List.length q
      simp at this
      subst this
      simp at hs
    obtain ⟨c, hc, hz⟩ := h (lo + n) (by omega) (by omega)
    have hpop : H.pop.size = lo + n := by simp; omega
    have hl : H.toList = H.pop.toList ++ [c] := by
      have e1 : H.toList.dropLast = H.pop.toList := by simp
      have e2 : H.toList.getLast? = some c := by
        rw [List.getLast?_eq_getElem?]
        have : H.toList.length - 1 = lo + n := by simp; omega
        rw [this]
        simpa using hc
      rw [← e1]
      obtain ⟨q, hq⟩ := List.getLast?_eq_some_iff.mp e2
      rw [hq]; simp
    rw [hl, List.drop_append_of_le_length (by simp; omega), List.map_append, List.sum_append]
    rw [ih (H := H.pop) hpop (fun a h1 h2 => by
      obtain ⟨c', hc', hz'⟩ := h a h1 (by omega)
      refine ⟨c', ?_, hz'⟩
      rw [Array.getElem?_pop]
      rw [if_pos (by omega)]
      exact hc')]
    show _ + (c.slots.size + 0) = sumz S lo n + szo S (lo + n)
    rw [hz]; rfl
theorem Rel.sum {G : Ge} {S S0 : St} {H : Heap} (h : Rel G S H) (hE : Ext S0 S) (h0 : bs G ≤ nx S0) (hs : sl S0 = sumz S0 (bs G) (nx S0 - bs G)) : ((H.toList.drop (nx S0)).map (fun c => c.slots.size)).sum = sl S - sl S0 := by
  obtain ⟨r1, r2, r3, r4, r5, r6, r7, r8, r9⟩ := h
  rw [sumz_heap (S := S) (nx S - nx S0) (by rw [r1]; have := hE.1; omega) (fun a h1 h2 => by
    obtain ⟨-, cell, q1, -, -, q4, -⟩ := r7 a (Nat.le_trans h0 h1) (by have := hE.1; omega)
    exact ⟨cell, q1, q4⟩)]
  have e1 : nx S - bs G = (nx S0 - bs G) + (nx S - nx S0) := by have := hE.1; omega
  have e2 : bs G + (nx S0 - bs G) = nx S0 := by omega
  rw [r6, hs, e1, sumz_split, e2]
  rw [sumz_ext (S := S0) (S' := S) (nx S0 - bs G) (fun a h1 h2 => szo_ext hE (by omega))]
  omega
