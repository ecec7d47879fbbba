/-! THE CLASS'S FIXED CELLS, the literals -/
/-- owner, field, cell, kind, length -/
def xTab : List (Nat × Nat × Nat × Nat × Nat) := [(0, 1, 1, 0, 0), (0, 2, 2, 0, 0), (0, 3, 3, 0, 0), (0, 4, 4, 0, 0), (0, 6, 5, 14, 600), (0, 8, 6, 7, 0), (0, 9, 9, 18, 4), (0, 12, 10, 10, 0), (10, 4, 11, 15, 32), (0, 13, 12, 6, 0), (12, 0, 13, 19, 8), (12, 2, 14, 15, 256), (12, 3, 15, 15, 256), (12, 4, 16, 15, 256), (0, 14, 17, 15, 20), (0, 15, 18, 2, 0), (18, 0, 19, 16, 20), (18, 1, 20, 15, 20), (18, 2, 21, 15, 20)]
def XOK (S : St) (xb : Nat) : Prop := kd S xb = 12 ∧ ∀ q ∈ xTab, mr S (xb + q.1) q.2.1 = some (xb + q.2.2.1) ∧ kd S (xb + q.2.2.1) = q.2.2.2.1 ∧ ln S (xb + q.2.2.1) = q.2.2.2.2
theorem xTab_k : ∀ z ∈ xTab, z.2.2.2.1 < 99 ∧ (z.1 = 0 ∨ z.1 = 10 ∨ z.1 = 12 ∨ z.1 = 18) := by decide
theorem mTab_k : ∀ z ∈ mTab, z.2.2.1 < 99 := by decide
theorem XOK.fr {S S' : St} {P : Nat → Prop} {xb : Nat} (h : XOK S xb) (w : WFS S) (q : Fr P S S') (h0 : mr S' xb = mr S xb) (h1 : mr S' (xb + 10) = mr S (xb + 10)) (h2 : mr S' (xb + 12) = mr S (xb + 12)) (h3 : mr S' (xb + 18) = mr S (xb + 18)) : XOK S' xb := by
  refine ⟨q.kdw w h.1 (by omega), fun z hz => ?_⟩
  obtain ⟨a1, a2, a3⟩ := h.2 z hz
  have e9 : z.2.2.2.1 < 99 ∧ (z.1 = 0 ∨ z.1 = 10 ∨ z.1 = 12 ∨ z.1 = 18) := xTab_k z hz
  refine ⟨?_, q.kdw w a2 e9.1, q.lnw w a3 (by omega)⟩
  rw [← a1]
  rcases e9.2 with e | e | e | e <;> rw [e]
  · rw [Nat.add_zero, h0]
  · rw [h1]
  · rw [h2]
  · rw [h3]
theorem MOK.fr {S S' : St} {P : Nat → Prop} {mb : Nat} (h : MOK S mb) (w : WFS S) (q : Fr P S S') (h0 : mr S' mb = mr S mb) : MOK S' mb := by
  refine ⟨q.kdw w h.1 (by omega), fun z hz => ?_⟩
  obtain ⟨a1, a2, a3⟩ := h.2 z hz
  have e9 : z.2.2.1 < 99 := mTab_k z hz
  exact ⟨by rw [h0, a1], q.kdw w a2 e9, q.lnw w a3 (by omega)⟩
/-- the literals and the empty row -/
def LT0 (S : St) : Prop := kd S (emp S) = 21 ∧ ∀ i, i < 15 → kd S (lit S i) = 22 ∧ ln S (lit S i) = litLen i ∧ ∀ j, j < litLen i → mi S (lit S i) j = litC i j
theorem LT0.fr {S S' : St} {P : Nat → Prop} (h : LT0 S) (w : WFS S) (q : Fr P S S') : LT0 S' := by
  refine ⟨by rw [q.empE]; exact q.kdw w h.1 (by omega), fun i hi => ?_⟩
  obtain ⟨a1, a2, a3⟩ := h.2 i hi
  have hl := w.lt (a := lit S i) (by omega)
  rw [q.litE]
  refine ⟨q.kdw w a1 (by omega), q.lnw w a2 (by omega), fun j hj => ?_⟩
  rw [((q.1.2.2.2.2.2 _ hl).2.2 (by omega)).1, a3 j hj]
theorem DA.fr {S S' : St} {P : Nat → Prop} (h : DA S) (w : WFS S) (q : Fr P S S') (h1 : ∀ a, a < nx S → kd S a = 0 → mr S' a 1 = mr S a 1) (h2 : ∀ a, nx S ≤ a → kd S' a ≠ 0) : DA S' := by
  have hk : ∀ a, kd S' a = 0 → a < nx S ∧ kd S a = 0 := fun a ha => by
    rcases Nat.lt_or_ge a (nx S) with c | c
    · exact ⟨c, by rw [q.kdE c] at ha; exact ha⟩
    · exact absurd ha (h2 a c)
  refine ⟨fun l e a1 a2 => ?_, fun l1 l2 e a1 a2 a3 a4 a5 => ?_⟩
  · obtain ⟨b1, b2⟩ := hk l a1
    rw [h1 l b1 b2] at a2
    have := h.1 l e b2 a2
    rw [q.kdE (w.lt this)]; exact this
  · obtain ⟨b1, b2⟩ := hk l1 a1
    obtain ⟨c1, c2⟩ := hk l2 a2
    rw [h1 l1 b1 b2] at a3
    rw [h1 l2 c1 c2] at a4
    have := h.1 l1 e b2 a3
    exact h.2 l1 l2 e b2 c2 a3 a4 (by rw [q.kdE (w.lt this)] at a5; exact a5)
/-- the base of all -/
def BS (S : St) (xb : Nat) : Prop := WFS S ∧ DA S ∧ XOK S xb ∧ MOK S (xb + 22) ∧ LT0 S ∧ xb + 82 ≤ nx S
theorem BS.fr {S S' : St} {P : Nat → Prop} {xb : Nat} (h : BS S xb) (q : Fr P S S') (hp : ∀ a, P a → mr S' a = mr S a) (h2 : ∀ a, nx S ≤ a → kd S' a ≠ 0) : BS S' xb := by
  obtain ⟨w, d, x, m, l, b⟩ := h
  have hm : ∀ a, a < nx S → mr S' a = mr S a := fun a ha => by
    by_cases c : P a
    · exact hp a c
    · exact (q.2.2 a ha c).2.2
  refine ⟨q.2.1 w, d.fr w q (fun a ha _ => by rw [hm a ha]) h2, x.fr w q (hm _ (by omega)) (hm _ (by omega)) (hm _ (by omega)) (hm _ (by omega)), m.fr w q (hm _ (by omega)), l.fr w q, Nat.le_trans b q.nxle⟩
theorem BS.si {S : St} {xb : Nat} (h : BS S xb) {a : Nat} (k : Nat) (v : Int32) (ha : kd S a ≤ 20) : BS (setI S a k v) xb := h.fr (P := fun b => b = a) (Fr_setI k v ha (fun _ => rfl)) (fun _ _ => rfl) (fun b hb => by have : kd S b = 99 := h.1 b hb; show kd S b ≠ 0; omega)
theorem BS.sl {S : St} {xb : Nat} (h : BS S xb) {a : Nat} (k : Nat) (v : Int64) : BS (setL S a k v) xb := h.fr (P := fun b => b = a) (Fr_setL k v (fun _ => rfl)) (fun _ _ => rfl) (fun b hb => by have : kd S b = 99 := h.1 b hb; show kd S b ≠ 0; omega)
