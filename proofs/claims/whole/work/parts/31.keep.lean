/-! THE COUPLING KEPT: a component along a frame and along rows -/
theorem Fr.at {P : Nat → Prop} {S S' : St} (q : Fr P S S') (w : WFS S) {a k : Nat} (hk : kd S a = k) (h9 : k < 99) (hn : ¬ P a) : kd S' a = kd S a ∧ ln S' a = ln S a ∧ mi S' a = mi S a ∧ ml S' a = ml S a ∧ mr S' a = mr S a := by
  have hl := w.lt (a := a) (by omega)
  exact ⟨q.kdE hl, q.lnE hl, q.2.2 a hl hn⟩
theorem LI.go {S S' : St} {P : Nat → Prop} {l n : Nat} {f : Nat → Nat} (h : LI S l n f) (w : WFS S) (q : Fr P S S') (hp : ∀ a, P a → a ≠ l ∧ ¬ (mr S l 1 = some a ∧ kd S a = 20)) : LI S' l n f :=
  h.fr w q (fun c => (hp l c).1 rfl) (fun e h1 h2 c => (hp e c).2 ⟨h1, h2⟩)
section Keep
variable {S S' : St} {P : Nat → Prop} {xb : Nat} {M M' : MI} {L L' : ML}
theorem FO.go {nf : Nat} {fa : Nat → Nat} {i : Nat} (h : FO S xb M nf fa i) (w : WFS S) (q : Fr P S S') (h1 : ¬ P (fa i)) (h2 : ¬ P (fa i + 1)) (e1 : M' 1 = M 1) (e2 : M' 2 = M 2) (e3 : M' 3 = M 3) (e56 : M' 56 = M 56) : FO S' xb M' nf fa i := by
  obtain ⟨a1, a2, a3, a4, a5⟩ := q.at w h.1 (by omega) h1
  obtain ⟨b1, b2, b3, b4, b5⟩ := q.at w h.2.2.2.2.2.2.1 (by omega) h2
  unfold FO
  rw [a1, a3, a5, b1, b2, b3, e1, e2, e3, e56]
  exact h
theorem CF.go {nf : Nat} {fa : Nat → Nat} (h : CF S xb M nf fa) (w : WFS S) (q : Fr P S S') (hp : ∀ a, P a → (a ≠ xb + 1 ∧ ¬ (mr S (xb + 1) 1 = some a ∧ kd S a = 20)) ∧ kd S a ≠ 5 ∧ (kd S a = 15 → a < xb + 82)) (e0 : M' 0 1 = M 0 1) (e1 : M' 1 = M 1) (e2 : M' 2 = M 2) (e3 : M' 3 = M 3) (e56 : M' 56 = M 56) : CF S' xb M' nf fa := by
  obtain ⟨h1, h2, h3, h4, h5⟩ := h
  refine ⟨by rw [e0, h1], h2, h3.go w q (fun a c => (hp a c).1), fun i hi => ?_, by rw [e56]; exact h5⟩
  have hf := h4 i hi
  exact hf.go w q (fun c => (hp _ c).2.1 hf.1) (fun c => by have := (hp _ c).2.2 hf.2.2.2.2.2.2.1; have := hf.2.1; omega) e1 e2 e3 e56
theorem PO.go {pa : Nat → Nat} {i : Nat} (h : PO S xb M pa i) (w : WFS S) (q : Fr P S S') (h1 : ¬ P (pa i)) (e4 : M' 4 = M 4) (e5 : M' 5 = M 5) (e6 : M' 6 = M 6) (e7 : M' 7 = M 7) (e8 : M' 8 = M 8) (e9 : M' 9 = M 9) : PO S' xb M' pa i := by
  obtain ⟨a1, a2, a3, a4, a5⟩ := q.at w h.1 (by omega) h1
  unfold PO
  rw [a1, a3, a5, e4, e5, e6, e7, e8, e9]
  exact h
theorem CP.go {np : Nat} {pa : Nat → Nat} (h : CP S xb M np pa) (w : WFS S) (q : Fr P S S') (hp : ∀ a, P a → (a ≠ xb + 2 ∧ ¬ (mr S (xb + 2) 1 = some a ∧ kd S a = 20)) ∧ kd S a ≠ 9) (e0 : M' 0 2 = M 0 2) (e4 : M' 4 = M 4) (e5 : M' 5 = M 5) (e6 : M' 6 = M 6) (e7 : M' 7 = M 7) (e8 : M' 8 = M 8) (e9 : M' 9 = M 9) : CP S' xb M' np pa := by
  obtain ⟨h1, h2, h3, h4⟩ := h
  refine ⟨by rw [e0, h1], h2, h3.go w q (fun a c => (hp a c).1), fun i hi => ?_⟩
  have hf := h4 i hi
  exact hf.go w q (fun c => (hp _ c).2 hf.1) e4 e5 e6 e7 e8 e9
theorem CN.go {np : Nat} {pa : Nat → Nat} (h : CN S M np pa) (hk : ∀ i, i < np → kd S (pa i) = 9) (w : WFS S) (q : Fr P S S') (hp : ∀ a, P a → kd S a ≠ 9) (e8 : M' 8 = M 8) (e9 : M' 9 = M 9) : CN S' M' np pa := by
  obtain ⟨H, h1, h2⟩ := h
  refine ⟨H, by unfold HL; rw [e8, e9]; exact h1, fun i hi => ?_⟩
  rw [(q.at w (hk i hi) (by omega) (fun c => hp _ c (hk i hi))).2.2.1]
  unfold lcn
  rw [e8]
  exact h2 i hi
theorem AO.go {nf np : Nat} {fa pa aa : Nat → Nat} {i : Nat} (h : AO S xb M L nf fa np pa aa i) (w : WFS S) (q : Fr P S S') (h1 : ¬ P (aa i)) (e0 : (M 0 0).toInt ≤ (M' 0 0).toInt) (e10 : M' 10 = M 10) (e11 : M' 11 = M 11) (e12 : M' 12 = M 12) (e13 : M' 13 = M 13) (e39 : M' 39 = M 39) (e40 : M' 40 = M 40) (e41 : M' 41 = M 41) (e42 : L' 42 = L 42) : AO S' xb M' L' nf fa np pa aa i := by
  obtain ⟨a1, a2, a3, a4, a5⟩ := q.at w h.1 (by omega) h1
  unfold AO
  rw [a1, a3, a4, a5, e10, e11, e12, e13, e39, e40, e41, e42]
  obtain ⟨b1, b2, b3, b4, b5, b6, b7, b8, b9, b10, b11, b12, b13⟩ := h
  refine ⟨b1, b2, b3, b4, b5, b6, b7, b8, b9, b10, b11, b12, ?_⟩
  rcases b13 with c | ⟨c1, c2, c3, c4, c5, c6⟩
  · exact Or.inl c
  · exact Or.inr ⟨c1, c2, c3, c4, c5, by omega⟩
theorem CA.go {nf np na : Nat} {fa pa aa : Nat → Nat} (h : CA S xb M L nf fa np pa na aa) (w : WFS S) (q : Fr P S S') (hp : ∀ a, P a → (a ≠ xb + 3 ∧ ¬ (mr S (xb + 3) 1 = some a ∧ kd S a = 20)) ∧ kd S a ≠ 1) (e03 : M' 0 3 = M 0 3) (e0 : (M 0 0).toInt ≤ (M' 0 0).toInt) (e10 : M' 10 = M 10) (e11 : M' 11 = M 11) (e12 : M' 12 = M 12) (e13 : M' 13 = M 13) (e39 : M' 39 = M 39) (e40 : M' 40 = M 40) (e41 : M' 41 = M 41) (e42 : L' 42 = L 42) : CA S' xb M' L' nf fa np pa na aa := by
  obtain ⟨h1, h2, h3, h4⟩ := h
  refine ⟨by rw [e03, h1], h2, h3.go w q (fun a c => (hp a c).1), fun i hi => ?_⟩
  have hf := h4 i hi
  exact hf.go w q (fun c => (hp _ c).2 hf.1) e0 e10 e11 e12 e13 e39 e40 e41 e42
theorem EO.go {ea : Nat → Nat} {i : Nat} (h : EO S xb M ea i) (w : WFS S) (q : Fr P S S') (h1 : ¬ P (ea i)) (e15 : M' 15 = M 15) (e16 : M' 16 = M 16) (e17 : M' 17 = M 17) (e18 : M' 18 = M 18) (e19 : M' 19 = M 19) : EO S' xb M' ea i := by
  obtain ⟨a1, a2, a3, a4, a5⟩ := q.at w h.1 (by omega) h1
  unfold EO
  rw [a1, a3, e15, e16, e17, e18, e19]
  exact h
theorem EL.go {ne a : Nat} {l : List Nat} (h : EL M ne a l) (e14 : M' 14 = M 14) (e15 : M' 15 = M 15) (e16 : M' 16 = M 16) : EL M' ne a l := by
  have : eLt M' = eLt M := by funext x y; unfold eLt; rw [e15, e16]
  unfold EL
  rw [e14, this]
  exact h
theorem AE.go {ne : Nat} {aa ea : Nat → Nat} {il : Nat → List Nat} {a : Nat} (h : AE S M ne aa ea il a) (w : WFS S) (q : Fr P S S') (h1 : ¬ P (aa a) ∨ mi S' (aa a) 6 = mi S (aa a) 6) (h2 : ∀ b, P b → (b ≠ aa a + 1 ∧ ¬ (mr S (aa a + 1) 1 = some b ∧ kd S b = 20))) (e14 : M' 14 = M 14) (e15 : M' 15 = M 15) (e16 : M' 16 = M 16) : AE S' M' ne aa ea il a := by
  obtain ⟨b1, b2, b3, b4, b5⟩ := h
  refine ⟨b1.go w q h2, b2.go e14 e15 e16, ?_, q.kdw w b4 (by omega), by rw [e15]; exact b5⟩
  rw [e15, ← b3]
  rcases h1 with h1 | h1
  · rw [(q.at w b4 (by omega) h1).2.2.1]
  · exact h1
theorem CE.go {na ne : Nat} {aa ea : Nat → Nat} {il : Nat → List Nat} (h : CE S xb M na aa ne ea il) (w : WFS S) (q : Fr P S S') (hx : mi S' xb 5 = mi S xb 5) (h1 : ∀ a, a < na → ¬ P (aa a) ∨ mi S' (aa a) 6 = mi S (aa a) 6) (h2 : ∀ b, P b → kd S b ≠ 4 ∧ ∀ a, a < na → b ≠ aa a + 1 ∧ ¬ (mr S (aa a + 1) 1 = some b ∧ kd S b = 20)) (e04 : M' 0 4 = M 0 4) (e14 : M' 14 = M 14) (e15 : M' 15 = M 15) (e16 : M' 16 = M 16) (e17 : M' 17 = M 17) (e18 : M' 18 = M 18) (e19 : M' 19 = M 19) : CE S' xb M' na aa ne ea il := by
  obtain ⟨b1, b2, b3, b4, b5⟩ := h
  refine ⟨by rw [hx, b1], by rw [e04, b2], b3, fun i hi => ⟨(b4 i hi).1.go w q (fun c => (h2 _ c).1 (b4 i hi).1.1) e15 e16 e17 e18 e19, by rw [e14]; exact (b4 i hi).2⟩, fun a ha => ?_⟩
  exact (b5 a ha).go w q (h1 a ha) (fun b c => (h2 b c).2 a ha) e14 e15 e16
theorem KO.go {np na : Nat} {pa aa ca : Nat → Nat} {c : Nat} (h : KO S xb M L np pa na aa ca c) (w : WFS S) (q : Fr P S S') (h1 : ¬ P (ca c)) (e39 : ∀ a, a < na → M 39 a ≠ -1 → M' 39 a ≠ -1) (e49 : M' 49 = M 49) (e50 : M' 50 = M 50) (e51 : M' 51 = M 51) (e52 : M' 52 = M 52) (e53 : M' 53 = M 53) (e54 : L' 54 = L 54) (e55 : L' 55 = L 55) : KO S' xb M' L' np pa na aa ca c := by
  obtain ⟨a1, a2, a3, a4, a5⟩ := q.at w h.1 (by omega) h1
  unfold KO
  rw [a1, a3, a4, a5, e49, e50, e51, e52, e53, e54, e55]
  obtain ⟨b1, b2, b3, ⟨a, c1, c2, c3, c4⟩, b5⟩ := h
  exact ⟨b1, b2, b3, ⟨a, c1, c2, c3, e39 a c1 c4⟩, b5⟩
theorem CC.go {np na nc : Nat} {pa aa ca : Nat → Nat} (h : CC S xb M L np pa na aa nc ca) (w : WFS S) (q : Fr P S S') (hp : ∀ a, P a → (a ≠ xb + 4 ∧ ¬ (mr S (xb + 4) 1 = some a ∧ kd S a = 20)) ∧ kd S a ≠ 3) (e69 : M' 0 69 = M 0 69) (e39 : ∀ a, a < na → M 39 a ≠ -1 → M' 39 a ≠ -1) (e49 : M' 49 = M 49) (e50 : M' 50 = M 50) (e51 : M' 51 = M 51) (e52 : M' 52 = M 52) (e53 : M' 53 = M 53) (e54 : L' 54 = L 54) (e55 : L' 55 = L 55) : CC S' xb M' L' np pa na aa nc ca := by
  obtain ⟨h1, h2, h3, h4, h5⟩ := h
  refine ⟨by rw [e69, h1], h2, h3.go w q (fun a c => (hp a c).1), fun i hi => ?_, by rw [e53, e54, e55]; exact h5⟩
  have hf := h4 i hi
  exact hf.go w q (fun c => (hp _ c).2 hf.1) e39 e49 e50 e51 e52 e53 e54 e55
theorem PM.go {s : Nat} {PL : List PLn} (h : PM M s PL) (e26 : M' 26 = M 26) (e27 : M' 27 = M 27) (e28 : M' 28 = M 28) (e29 : M' 29 = M 29) : PM M' s PL := by
  unfold PM
  rw [e26, e27, e28, e29]
  exact h
theorem LO.go {s la : Nat} (h : LO S xb M s la) (w : WFS S) (q : Fr P S S') (h1 : ¬ P la ∧ ¬ P (la + 1) ∧ ¬ P (la + 2)) (e20 : M' 20 = M 20) (e21 : M' 21 = M 21) (e22 : M' 22 = M 22) (e23 : M' 23 = M 23) (e24 : M' 24 = M 24) (e25 : M' 25 = M 25) (e26 : M' 26 = M 26) (e27 : M' 27 = M 27) (e28 : M' 28 = M 28) (e29 : M' 29 = M 29) : LO S' xb M' s la := by
  obtain ⟨b1, b2, b3, b4, b5, b6, b7, b8, b9, b10, b11, b12, b13, b14, b15, PL, c1, c2, c3, c4, c5, c6⟩ := h
  obtain ⟨a1, a2, a3, a4, a5⟩ := q.at w b1 (by omega) h1.1
  obtain ⟨d1, d2, d3, d4, d5⟩ := q.at w b4 (by omega) h1.2.1
  obtain ⟨f1, f2, f3, f4, f5⟩ := q.at w b15 (by omega) h1.2.2
  unfold LO CD
  rw [a1, a3, a5, d1, d2, d3, f1, f2, f3, e20, e21, e22, e23, e24, e25]
  exact ⟨b1, b2, b3, b4, b5, b6, b7, b8, b9, b10, b11, b12, b13, b14, b15, PL, c1, c2.go e26 e27 e28 e29, c3, c4, c5, c6⟩
theorem CL.go (h : CL S xb M) (w : WFS S) (q : Fr P S S') (hx : mr S' (xb + 9) = mr S (xb + 9)) (hp : ∀ a, P a → kd S a ≠ 7 ∧ (kd S a = 15 → (a < xb + 82 ∧ a ≠ xb + 7 ∧ a ≠ xb + 8) ∨ kd S (a - 1) = 5)) (e20 : M' 20 = M 20) (e21 : M' 21 = M 21) (e22 : M' 22 = M 22) (e23 : M' 23 = M 23) (e24 : M' 24 = M 24) (e25 : M' 25 = M 25) (e26 : M' 26 = M 26) (e27 : M' 27 = M 27) (e28 : M' 28 = M 28) (e29 : M' 29 = M 29) : CL S' xb M' := by
  intro s hs
  obtain ⟨la, h1, h2⟩ := h s hs
  have k1 := h2.1
  have k2 := h2.2.2.2.1
  have k3 : kd S (la + 2) = 15 := h2.2.2.2.2.2.2.2.2.2.2.2.2.2.2.1
  refine ⟨la, by rw [hx, h1], h2.go w q ⟨fun c => (hp _ c).1 k1, fun c => ?_, fun c => ?_⟩ e20 e21 e22 e23 e24 e25 e26 e27 e28 e29⟩
  · rcases (hp _ c).2 k2 with z | z
    · have := h2.2.1; omega
    · rw [show la + 1 - 1 = la by omega] at z; omega
  · rcases (hp _ c).2 k3 with z | z
    · have := h2.2.1; omega
    · rw [show la + 2 - 1 = la + 1 by omega] at z; omega
theorem C0.go (h : C0 S xb M) (hx : mi S' xb = mi S xb) (e : M' 0 0 = M 0 0 ∧ M' 0 51 = M 0 51 ∧ M' 0 54 = M 0 54) : C0 S' xb M' := by
  unfold C0
  rw [hx, e.1, e.2.1, e.2.2]
  exact h
theorem CT.go (h : CT S xb M) (hx : mi S' xb 7 = mi S xb 7) (hx2 : mi S' (xb + 5) = mi S (xb + 5)) (e44 : M' 0 44 = M 0 44) (e36 : M' 36 = M 36) : CT S' xb M' := by
  unfold CT
  rw [hx, hx2, e44, e36]
  exact h
theorem CY.go (h : CY S xb M) (hx : mi S' (xb + 17) = mi S (xb + 17)) (e57 : M' 57 = M 57) : CY S' xb M' := by
  unfold CY
  rw [hx, e57]
  exact h
end Keep
