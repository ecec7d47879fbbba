/-! KEPT where cells of one kind alone are written -/
section Kinds
variable {S S' : St} {P : Nat → Prop} {xb : Nat} {M M' : MI} {L L' : ML}
theorem CF.gk {nf : Nat} {fa : Nat → Nat} (h : CF S xb M nf fa) (b : BS S xb) (q : Fr P S S') {K : Nat} (hP : ∀ a, P a → kd S a = K) (hK : K ≠ 0 ∧ K ≠ 20 ∧ K ≠ 5 ∧ K ≠ 15) (e0 : M' 0 1 = M 0 1) (e1 : M' 1 = M 1) (e2 : M' 2 = M 2) (e3 : M' 3 = M 3) (e56 : M' 56 = M 56) : CF S' xb M' nf fa :=
  h.go b.1 q (fun a c => ⟨⟨fun e => by have := hP a c; rw [e, xK_firms b.2.2.1] at this; omega, fun e => by have := hP a c; omega⟩, by have := hP a c; omega, fun _ => by have := hP a c; omega⟩) e0 e1 e2 e3 e56
theorem CP.gk {np : Nat} {pa : Nat → Nat} (h : CP S xb M np pa) (b : BS S xb) (q : Fr P S S') {K : Nat} (hP : ∀ a, P a → kd S a = K) (hK : K ≠ 0 ∧ K ≠ 20 ∧ K ≠ 9) (e0 : M' 0 2 = M 0 2) (e4 : M' 4 = M 4) (e5 : M' 5 = M 5) (e6 : M' 6 = M 6) (e7 : M' 7 = M 7) (e8 : M' 8 = M 8) (e9 : M' 9 = M 9) : CP S' xb M' np pa :=
  h.go b.1 q (fun a c => ⟨⟨fun e => by have := hP a c; rw [e, xK_persons b.2.2.1] at this; omega, fun e => by have := hP a c; omega⟩, by have := hP a c; omega⟩) e0 e4 e5 e6 e7 e8 e9
theorem CN.gk {np : Nat} {pa : Nat → Nat} (h : CN S M np pa) (hc : CP S xb M np pa) (b : BS S xb) (q : Fr P S S') {K : Nat} (hP : ∀ a, P a → kd S a = K) (hK : K ≠ 9) (e8 : M' 8 = M 8) (e9 : M' 9 = M 9) : CN S' M' np pa :=
  h.go (fun i hi => (hc.2.2.2 i hi).1) b.1 q (fun a c => by have := hP a c; omega) e8 e9
theorem CA.gk {nf np na : Nat} {fa pa aa : Nat → Nat} (h : CA S xb M L nf fa np pa na aa) (b : BS S xb) (q : Fr P S S') {K : Nat} (hP : ∀ a, P a → kd S a = K) (hK : K ≠ 0 ∧ K ≠ 20 ∧ K ≠ 1) (e03 : M' 0 3 = M 0 3) (e0 : (M 0 0).toInt ≤ (M' 0 0).toInt) (e10 : M' 10 = M 10) (e11 : M' 11 = M 11) (e12 : M' 12 = M 12) (e13 : M' 13 = M 13) (e39 : M' 39 = M 39) (e40 : M' 40 = M 40) (e41 : M' 41 = M 41) (e42 : L' 42 = L 42) : CA S' xb M' L' nf fa np pa na aa :=
  h.go b.1 q (fun a c => ⟨⟨fun e => by have := hP a c; rw [e, xK_accounts b.2.2.1] at this; omega, fun e => by have := hP a c; omega⟩, by have := hP a c; omega⟩) e03 e0 e10 e11 e12 e13 e39 e40 e41 e42
theorem AE.kl {ne : Nat} {aa ea : Nat → Nat} {il : Nat → List Nat} {a : Nat} (h : AE S M ne aa ea il a) : kd S (aa a + 1) = 0 := h.1.1
theorem CE.gk {na ne : Nat} {aa ea : Nat → Nat} {il : Nat → List Nat} (h : CE S xb M na aa ne ea il) (b : BS S xb) (q : Fr P S S') {K : Nat} (hP : ∀ a, P a → kd S a = K) (hK : K ≠ 0 ∧ K ≠ 20 ∧ K ≠ 4) (hx : mi S' xb 5 = mi S xb 5) (h1 : ∀ a, a < na → K ≠ 1 ∨ mi S' (aa a) 6 = mi S (aa a) 6) (e04 : M' 0 4 = M 0 4) (e14 : M' 14 = M 14) (e15 : M' 15 = M 15) (e16 : M' 16 = M 16) (e17 : M' 17 = M 17) (e18 : M' 18 = M 18) (e19 : M' 19 = M 19) : CE S' xb M' na aa ne ea il := by
  refine h.go b.1 q hx (fun a ha => ?_) (fun a c => ⟨by have := hP a c; omega, fun i hi => ⟨fun e => ?_, fun e => by have := hP a c; omega⟩⟩) e04 e14 e15 e16 e17 e18 e19
  · rcases h1 a ha with z | z
    · exact Or.inl (fun c => by have := hP _ c; have := (h.2.2.2.2 a ha).2.2.2.1; omega)
    · exact Or.inr z
  · have := hP a c
    have := (h.2.2.2.2 i hi).kl
    rw [← e] at this
    omega
theorem CC.gk {np na nc : Nat} {pa aa ca : Nat → Nat} (h : CC S xb M L np pa na aa nc ca) (b : BS S xb) (q : Fr P S S') {K : Nat} (hP : ∀ a, P a → kd S a = K) (hK : K ≠ 0 ∧ K ≠ 20 ∧ K ≠ 3) (e69 : M' 0 69 = M 0 69) (e39 : ∀ a, a < na → M 39 a ≠ -1 → M' 39 a ≠ -1) (e49 : M' 49 = M 49) (e50 : M' 50 = M 50) (e51 : M' 51 = M 51) (e52 : M' 52 = M 52) (e53 : M' 53 = M 53) (e54 : L' 54 = L 54) (e55 : L' 55 = L 55) : CC S' xb M' L' np pa na aa nc ca :=
  h.go b.1 q (fun a c => ⟨⟨fun e => by have := hP a c; rw [e, xK_claims b.2.2.1] at this; omega, fun e => by have := hP a c; omega⟩, by have := hP a c; omega⟩) e69 e39 e49 e50 e51 e52 e53 e54 e55
theorem CL.gk (h : CL S xb M) (b : BS S xb) (q : Fr P S S') {K : Nat} (hP : ∀ a, P a → kd S a = K) (hK : K ≠ 7 ∧ K ≠ 15 ∧ K ≠ 18) (e20 : M' 20 = M 20) (e21 : M' 21 = M 21) (e22 : M' 22 = M 22) (e23 : M' 23 = M 23) (e24 : M' 24 = M 24) (e25 : M' 25 = M 25) (e26 : M' 26 = M 26) (e27 : M' 27 = M 27) (e28 : M' 28 = M 28) (e29 : M' 29 = M 29) : CL S' xb M' :=
  h.go b.1 q (q.at b.1 (xK_laws b.2.2.1) (by omega) (fun c => by have := hP _ c; rw [xK_laws b.2.2.1] at this; omega)).2.2.2.2 (fun a c => ⟨by have := hP a c; omega, fun e => by have := hP a c; omega⟩) e20 e21 e22 e23 e24 e25 e26 e27 e28 e29
theorem C0.gk (h : C0 S xb M) (b : BS S xb) (q : Fr P S S') {K : Nat} (hP : ∀ a, P a → kd S a = K) (hK : K ≠ 12) (e : M' 0 0 = M 0 0 ∧ M' 0 51 = M 0 51 ∧ M' 0 54 = M 0 54) : C0 S' xb M' :=
  h.go (q.at b.1 b.2.2.1.1 (by omega) (fun c => by have := hP _ c; have := b.2.2.1.1; omega)).2.2.1 e
theorem CT.gk (h : CT S xb M) (b : BS S xb) (q : Fr P S S') {K : Nat} (hP : ∀ a, P a → kd S a = K) (hK : K ≠ 14) (hx : mi S' xb 7 = mi S xb 7) (e44 : M' 0 44 = M 0 44) (e36 : M' 36 = M 36) : CT S' xb M' :=
  h.go hx (q.at b.1 (xK_tape b.2.2.1) (by omega) (fun c => by have := hP _ c; rw [xK_tape b.2.2.1] at this; omega)).2.2.1 e44 e36
theorem CY.gk (h : CY S xb M) (b : BS S xb) (q : Fr P S S') {K : Nat} (hP : ∀ a, P a → kd S a = K) (hK : K ≠ 15) (e57 : M' 57 = M 57) : CY S' xb M' :=
  h.go (q.at b.1 (xK_costs b.2.2.1) (by omega) (fun c => by have := hP _ c; rw [xK_costs b.2.2.1] at this; omega)).2.2.1 e57
theorem xb_same (b : BS S xb) (q : Fr P S S') {K : Nat} (hP : ∀ a, P a → kd S a = K) (hK : K ≠ 12) : mi S' xb = mi S xb :=
  (q.at b.1 b.2.2.1.1 (by omega) (fun c => by have := hP _ c; have := b.2.2.1.1; omega)).2.2.1
end Kinds
