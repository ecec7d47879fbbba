/-! ALL KEPT -/
def pRows : List Nat := [1, 2, 3, 4, 5, 6, 7, 8, 9, 10, 11, 12, 13, 14, 15, 16, 17, 18, 19, 20, 21, 22, 23, 24, 25, 26, 27, 28, 29, 36, 39, 40, 41, 49, 50, 51, 52, 53, 56, 57]
def pFlds : List Nat := [0, 1, 2, 3, 4, 44, 51, 54, 69]
def PeqI (M M' : MI) : Prop := (∀ o ∈ pRows, M' o = M o) ∧ ∀ f ∈ pFlds, M' 0 f = M 0 f
def PeqL (L L' : ML) : Prop := L' 42 = L 42 ∧ L' 54 = L 54 ∧ L' 55 = L 55
/-- a cell that no component speaks of -/
def okp (S : St) (xb a : Nat) : Prop := a < xb + 82 ∧ a ≠ xb ∧ a ≠ xb + 5 ∧ a ≠ xb + 7 ∧ a ≠ xb + 8 ∧ a ≠ xb + 9 ∧ a ≠ xb + 17 ∧ kd S a ≠ 0 ∧ kd S a ≠ 1 ∧ kd S a ≠ 3 ∧ kd S a ≠ 4 ∧ kd S a ≠ 5 ∧ kd S a ≠ 7 ∧ kd S a ≠ 9 ∧ kd S a ≠ 20
theorem JX.go {S S' : St} {P : Nat → Prop} {xb : Nat} {M M' : MI} {L L' : ML} {g : Gh} (h : JX S xb M L g) (q : Fr P S S') (b : BS S' xb) (hp : ∀ a, P a → okp S xb a) (eM : PeqI M M') (eL : PeqL L L') : JX S' xb M' L' g := by
  obtain ⟨b0, c0, ct, cy, cf, cp, cn, ca, ce, cc, cl⟩ := h
  have w := b0.1
  have x := b0.2.2.1
  have nP : ∀ a, (a = xb ∨ a = xb + 5 ∨ a = xb + 9 ∨ a = xb + 17) → mi S' a = mi S a ∧ ml S' a = ml S a ∧ mr S' a = mr S a := fun a ha => q.2.2 a (by have := b0.2.2.2.2.2; omega) (fun c => by have := hp a c; unfold okp at this; omega)
  have kx : ∀ a k, kd S (xb + k) = 0 → P a → a ≠ xb + k := fun a k hk hc e => by have := hp a hc; unfold okp at this; rw [e] at this; omega
  have k20 : ∀ a l, P a → ¬ (mr S l 1 = some a ∧ kd S a = 20) := fun a l hc e => by have := hp a hc; unfold okp at this; omega
  have rI : ∀ o, o ∈ pRows → M' o = M o := eM.1
  have rF : ∀ o, o ∈ pFlds → M' 0 o = M 0 o := eM.2
  refine ⟨b, c0.go (nP xb (by omega)).1 ⟨rF 0 (by decide), rF 51 (by decide), rF 54 (by decide)⟩, ct.go (by rw [(nP xb (by omega)).1]) (nP (xb + 5) (by omega)).1 (rF 44 (by decide)) (rI 36 (by decide)), cy.go (nP (xb + 17) (by omega)).1 (rI 57 (by decide)), ?_, ?_, ?_, ?_, ?_, ?_, ?_⟩
  · exact cf.go w q (fun a c => ⟨⟨kx a 1 (xK_firms x) c, k20 a _ c⟩, by have := hp a c; unfold okp at this; omega, fun _ => (hp a c).1⟩) (rF 1 (by decide)) (rI 1 (by decide)) (rI 2 (by decide)) (rI 3 (by decide)) (rI 56 (by decide))
  · exact cp.go w q (fun a c => ⟨⟨kx a 2 (xK_persons x) c, k20 a _ c⟩, by have := hp a c; unfold okp at this; omega⟩) (rF 2 (by decide)) (rI 4 (by decide)) (rI 5 (by decide)) (rI 6 (by decide)) (rI 7 (by decide)) (rI 8 (by decide)) (rI 9 (by decide))
  · exact cn.go (fun i hi => (cp.2.2.2 i hi).1) w q (fun a c => by have := hp a c; unfold okp at this; omega) (rI 8 (by decide)) (rI 9 (by decide))
  · exact ca.go w q (fun a c => ⟨⟨kx a 3 (xK_accounts x) c, k20 a _ c⟩, by have := hp a c; unfold okp at this; omega⟩) (rF 3 (by decide)) (by rw [rF 0 (by decide)]; exact Int.le_refl _) (rI 10 (by decide)) (rI 11 (by decide)) (rI 12 (by decide)) (rI 13 (by decide)) (rI 39 (by decide)) (rI 40 (by decide)) (rI 41 (by decide)) eL.1
  · refine ce.go w q (by rw [(nP xb (by omega)).1]) (fun a ha => Or.inl (fun c => ?_)) (fun a c => ⟨by have := hp a c; unfold okp at this; omega, fun i hi => ⟨fun e => ?_, k20 a _ c⟩⟩) (rF 4 (by decide)) (rI 14 (by decide)) (rI 15 (by decide)) (rI 16 (by decide)) (rI 17 (by decide)) (rI 18 (by decide)) (rI 19 (by decide))
    · have := hp _ c
      have := (ce.2.2.2.2 a ha).2.2.2.1
      unfold okp at *
      omega
    · have := hp a c
      have := (ca.2.2.2 i hi).2.1
      unfold okp at *
      omega
  · exact cc.go w q (fun a c => ⟨⟨kx a 4 (xK_claims x) c, k20 a _ c⟩, by have := hp a c; unfold okp at this; omega⟩) (rF 69 (by decide)) (fun a _ h => by rw [rI 39 (by decide)]; exact h) (rI 49 (by decide)) (rI 50 (by decide)) (rI 51 (by decide)) (rI 52 (by decide)) (rI 53 (by decide)) eL.2.1 eL.2.2
  · exact cl.go w q (nP (xb + 9) (by omega)).2.2 (fun a c => by have := hp a c; unfold okp at this; exact ⟨by omega, fun _ => Or.inl (by omega)⟩) (rI 20 (by decide)) (rI 21 (by decide)) (rI 22 (by decide)) (rI 23 (by decide)) (rI 24 (by decide)) (rI 25 (by decide)) (rI 26 (by decide)) (rI 27 (by decide)) (rI 28 (by decide)) (rI 29 (by decide))
-- the reference's cells
theorem mTab_all : ∀ o, o < 60 → o = 0 ∨ ∃ q ∈ mTab, q.2.1 = o ∧ (q.2.2.1 = 15 ∨ q.2.2.1 = 16 ∨ q.2.2.1 = 17) := by decide
theorem mKind {S : St} {mb a : Nat} (h : MOK S mb) (h1 : mb ≤ a) (h2 : a < mb + 60) : kd S a = 13 ∨ kd S a = 15 ∨ kd S a = 16 ∨ kd S a = 17 := by
  obtain ⟨o, rfl⟩ := Nat.exists_eq_add_of_le h1
  rcases mTab_all o (by omega) with e | ⟨q, hq, e1, e2⟩
  · left; rw [e]; exact h.1
  · have := (h.2 q hq).2.1
    rw [e1] at this
    omega
def Pm (xb a : Nat) : Prop := xb + 22 ≤ a ∧ a < xb + 82
theorem Pm_okp {S : St} {xb : Nat} (b : BS S xb) : ∀ a, Pm xb a → okp S xb a := fun a h => by
  have := mKind b.2.2.2.1 h.1 (by have := h.2; omega)
  unfold okp Pm at *
  omega
theorem BS.mo {S S' : St} {xb : Nat} (b : BS S xb) (q : Fr (Pm xb) S S') (hr : mr S' = mr S) (hn : nx S' = nx S) : BS S' xb := b.fr q (fun a _ => by rw [hr]) (fun a ha => by
  have := q.2.1 b.1 a (by omega)
  omega)
/-- the reference has worked: what the class's cells stand for has become M' -/
theorem JX.mod {S S' : St} {xb : Nat} {M' : MI} {L' : ML} {g : Gh} (h : JX S xb M' L' g) (q : Fr (Pm xb) S S') (hr : mr S' = mr S) (hn : nx S' = nx S) (eM : PeqI M' (Mi S' (xb + 22))) (eL : PeqL L' (Ml S' (xb + 22))) : JX S' xb (Mi S' (xb + 22)) (Ml S' (xb + 22)) g :=
  h.go q (h.1.mo q hr hn) (Pm_okp h.1) eM eL
theorem Mi_setI (S : St) (mb o i : Nat) (v : Int32) : Mi (setI S (mb + o) i v) mb = up2 (Mi S mb) o i v := by
  funext p j
  show (if mb + p = mb + o ∧ j = i then v else mi S (mb + p) j) = if p = o ∧ j = i then v else mi S (mb + p) j
  by_cases c : p = o
  · simp [c]
  · rw [if_neg (by omega), if_neg (by omega)]
theorem Mi_setI0 (S : St) (mb i : Nat) (v : Int32) : Mi (setI S mb i v) mb = up2 (Mi S mb) 0 i v := Mi_setI S mb 0 i v
theorem Mi_setL (S : St) (mb a i : Nat) (v : Int64) : Mi (setL S a i v) mb = Mi S mb := rfl
theorem Ml_setI (S : St) (mb a i : Nat) (v : Int32) : Ml (setI S a i v) mb = Ml S mb := rfl
theorem Ml_setL (S : St) (mb o i : Nat) (v : Int64) : Ml (setL S (mb + o) i v) mb = up2 (Ml S mb) o i v := by
  funext p j
  show (if mb + p = mb + o ∧ j = i then v else ml S (mb + p) j) = if p = o ∧ j = i then v else ml S (mb + p) j
  by_cases c : p = o
  · simp [c]
  · rw [if_neg (by omega), if_neg (by omega)]
theorem up2_ne {α : Type} (f : Nat → Nat → α) {a k : Nat} {v : α} {b : Nat} (h : b ≠ a) : up2 f a k v b = f b := by
  funext j
  unfold up2
  rw [if_neg (fun q => h q.1)]
theorem up2_nk {α : Type} (f : Nat → Nat → α) {a k : Nat} {v : α} {b j : Nat} (h : j ≠ k) : up2 f a k v b j = f b j := by
  unfold up2
  rw [if_neg (fun q => h q.2)]
theorem up2_eq {α : Type} (f : Nat → Nat → α) (a k : Nat) (v : α) : up2 f a k v a k = v := by
  unfold up2
  rw [if_pos ⟨rfl, rfl⟩]
theorem PeqI.rf (M : MI) : PeqI M M := ⟨fun _ _ => rfl, fun _ _ => rfl⟩
theorem PeqL.rf (L : ML) : PeqL L L := ⟨rfl, rfl, rfl⟩
theorem PeqI.tr {A B C : MI} (h : PeqI A B) (k : PeqI B C) : PeqI A C := ⟨fun o ho => (k.1 o ho).trans (h.1 o ho), fun f hf => (k.2 f hf).trans (h.2 f hf)⟩
/-- a scratch row changes nothing -/
theorem PeqI.scr {M N : MI} (h : PeqI M N) {o : Nat} (i : Nat) (v : Int32) (ho : o ∉ pRows) (hi : o = 0 → i ∉ pFlds) : PeqI M (up2 N o i v) := by
  refine ⟨fun p hp => ?_, fun f hf => ?_⟩
  · have c : p ≠ o := fun e => ho (e ▸ hp)
    rw [up2_ne _ c]; exact h.1 p hp
  · by_cases c : o = 0
    · subst c
      have c : f ≠ i := fun e => hi rfl (e ▸ hf)
      rw [up2_nk _ c]; exact h.2 f hf
    · rw [up2_ne _ (fun e => c e.symm)]; exact h.2 f hf
theorem PeqI.up {M N : MI} (h : PeqI M N) (o i : Nat) (v : Int32) : PeqI (up2 M o i v) (up2 N o i v) := by
  refine ⟨fun p hp => ?_, fun f hf => ?_⟩
  · funext j
    unfold up2
    rw [h.1 p hp]
  · unfold up2
    rw [h.2 f hf]
