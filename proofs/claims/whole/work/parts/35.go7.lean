/-! ALL BUT THE FIXED CELLS KEPT -/
def okq (S : St) (xb a : Nat) : Prop := a < xb + 82 ∧ a ≠ xb + 7 ∧ a ≠ xb + 8 ∧ a ≠ xb + 9 ∧ kd S a ≠ 0 ∧ kd S a ≠ 1 ∧ kd S a ≠ 3 ∧ kd S a ≠ 4 ∧ kd S a ≠ 5 ∧ kd S a ≠ 7 ∧ kd S a ≠ 9 ∧ kd S a ≠ 20
def qRows : List Nat := [1, 2, 3, 4, 5, 6, 7, 8, 9, 10, 11, 12, 13, 14, 15, 16, 17, 18, 19, 20, 21, 22, 23, 24, 25, 26, 27, 28, 29, 39, 40, 41, 49, 50, 51, 52, 53, 56]
def qFlds : List Nat := [1, 2, 3, 4, 69]
def QeqI (M M' : MI) : Prop := (∀ o ∈ qRows, M' o = M o) ∧ (∀ f ∈ qFlds, M' 0 f = M 0 f) ∧ (M 0 0).toInt ≤ (M' 0 0).toInt
theorem JX.go7 {S S' : St} {P : Nat → Prop} {xb : Nat} {M M' : MI} {L L' : ML} {nf np na ne nc : Nat} {fa pa aa ea ca : Nat → Nat} {il : Nat → List Nat} (h : JX S xb M L ((nf, fa), (np, pa), (na, aa), (ne, ea, il), (nc, ca))) (q : Fr P S S') (b : BS S' xb) (hp : ∀ a, P a → okq S xb a) (hx : mi S' xb 5 = mi S xb 5) (eM : QeqI M M') (eL : PeqL L L') (c0 : C0 S' xb M') (ct : CT S' xb M') (cy : CY S' xb M') : JX S' xb M' L' ((nf, fa), (np, pa), (na, aa), (ne, ea, il), (nc, ca)) := by
  obtain ⟨b0, -, -, -, cf, cp, cn, ca, ce, cc, cl⟩ := h
  have w := b0.1
  have x := b0.2.2.1
  have nP : ∀ a, (a = xb + 9) → mi S' a = mi S a ∧ ml S' a = ml S a ∧ mr S' a = mr S a := fun a ha => q.2.2 a (by have := b0.2.2.2.2.2; omega) (fun c => by have := hp a c; unfold okq at this; omega)
  have kx : ∀ a k, kd S (xb + k) = 0 → P a → a ≠ xb + k := fun a k hk hc e => by have := hp a hc; unfold okq at this; rw [e] at this; omega
  have k20 : ∀ a l, P a → ¬ (mr S l 1 = some a ∧ kd S a = 20) := fun a l hc e => by have := hp a hc; unfold okq at this; omega
  have rI : ∀ o, o ∈ qRows → M' o = M o := eM.1
  have rF : ∀ o, o ∈ qFlds → M' 0 o = M 0 o := eM.2.1
  refine ⟨b, c0, ct, cy, ?_, ?_, ?_, ?_, ?_, ?_, ?_⟩
  · exact cf.go w q (fun a c => ⟨⟨kx a 1 (xK_firms x) c, k20 a _ c⟩, by have := hp a c; unfold okq at this; omega, fun _ => (hp a c).1⟩) (rF 1 (by decide)) (rI 1 (by decide)) (rI 2 (by decide)) (rI 3 (by decide)) (rI 56 (by decide))
  · exact cp.go w q (fun a c => ⟨⟨kx a 2 (xK_persons x) c, k20 a _ c⟩, by have := hp a c; unfold okq at this; omega⟩) (rF 2 (by decide)) (rI 4 (by decide)) (rI 5 (by decide)) (rI 6 (by decide)) (rI 7 (by decide)) (rI 8 (by decide)) (rI 9 (by decide))
  · exact cn.go (fun i hi => (cp.2.2.2 i hi).1) w q (fun a c => by have := hp a c; unfold okq at this; omega) (rI 8 (by decide)) (rI 9 (by decide))
  · exact ca.go w q (fun a c => ⟨⟨kx a 3 (xK_accounts x) c, k20 a _ c⟩, by have := hp a c; unfold okq at this; omega⟩) (rF 3 (by decide)) eM.2.2 (rI 10 (by decide)) (rI 11 (by decide)) (rI 12 (by decide)) (rI 13 (by decide)) (rI 39 (by decide)) (rI 40 (by decide)) (rI 41 (by decide)) eL.1
  · refine ce.go w q hx (fun a ha => Or.inl (fun c => ?_)) (fun a c => ⟨by have := hp a c; unfold okq at this; omega, fun i hi => ⟨fun e => ?_, k20 a _ c⟩⟩) (rF 4 (by decide)) (rI 14 (by decide)) (rI 15 (by decide)) (rI 16 (by decide)) (rI 17 (by decide)) (rI 18 (by decide)) (rI 19 (by decide))
    · have := hp _ c
      have := (ce.2.2.2.2 a ha).2.2.2.1
      unfold okq at *
      omega
    · have := hp a c
      have := (ca.2.2.2 i hi).2.1
      unfold okq at *
      omega
  · exact cc.go w q (fun a c => ⟨⟨kx a 4 (xK_claims x) c, k20 a _ c⟩, by have := hp a c; unfold okq at this; omega⟩) (rF 69 (by decide)) (fun a _ h => by rw [rI 39 (by decide)]; exact h) (rI 49 (by decide)) (rI 50 (by decide)) (rI 51 (by decide)) (rI 52 (by decide)) (rI 53 (by decide)) eL.2.1 eL.2.2
  · exact cl.go w q (nP (xb + 9) rfl).2.2 (fun a c => by have := hp a c; unfold okq at this; exact ⟨by omega, fun _ => Or.inl (by omega)⟩) (rI 20 (by decide)) (rI 21 (by decide)) (rI 22 (by decide)) (rI 23 (by decide)) (rI 24 (by decide)) (rI 25 (by decide)) (rI 26 (by decide)) (rI 27 (by decide)) (rI 28 (by decide)) (rI 29 (by decide))
theorem QeqI.rf (M : MI) : QeqI M M := ⟨fun _ _ => rfl, fun _ _ => rfl, Int.le_refl _⟩
/-- a field of the reference's own -/
theorem QeqI.up {M : MI} {o i : Nat} {v : Int32} (ho : o ∉ qRows) (hi : o = 0 → i ∉ qFlds ∧ i ≠ 0) : QeqI M (up2 M o i v) := by
  refine ⟨fun p hp => ?_, fun f hf => ?_, ?_⟩
  · have c : p ≠ o := fun e => ho (e ▸ hp)
    rw [up2_ne _ c]
  · by_cases c : o = 0
    · subst c
      have c : f ≠ i := fun e => (hi rfl).1 (e ▸ hf)
      rw [up2_nk _ c]
    · rw [up2_ne _ (fun e => c e.symm)]
  · by_cases c : o = 0
    · subst c
      rw [up2_nk _ (fun e => (hi rfl).2 e.symm)]; exact Int.le_refl _
    · rw [up2_ne _ (fun e => c e.symm)]; exact Int.le_refl _
theorem Mi_x {S : St} {xb a : Nat} (k : Nat) (v : Int32) (h : a < xb + 22 ∨ xb + 82 ≤ a) (o i : Nat) (ho : o < 60) : Mi (setI S a k v) (xb + 22) o i = Mi S (xb + 22) o i := by
  show mi (setI S a k v) (xb + 22 + o) i = _
  rw [mi_setI_i, if_neg (by omega)]; rfl
