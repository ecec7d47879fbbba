/-! KEPT where a list grows, and where cells are made -/
def Pl (S : St) (l a : Nat) : Prop := a = l ∨ mr S l 1 = some a ∧ kd S a = 20
theorem Pl_k {S : St} {l : Nat} (hl : kd S l = 0) {a : Nat} (h : Pl S l a) : kd S a = 0 ∧ a = l ∨ kd S a = 20 := by
  rcases h with e | e
  · left; exact ⟨by rw [e]; exact hl, e⟩
  · right; exact e.2
theorem Pl_l {S : St} {l l2 : Nat} (d : DA S) (hl : kd S l = 0) (hl2 : kd S l2 = 0) (hne : l2 ≠ l) {a : Nat} (h : Pl S l a) : a ≠ l2 ∧ ¬ (mr S l2 1 = some a ∧ kd S a = 20) := by
  rcases h with e | e
  · exact ⟨fun z => hne (z.symm.trans e), fun z => by rw [e] at z; omega⟩
  · exact ⟨fun z => by rw [z] at e; omega, fun z => hne (d.2 l2 l a hl2 hl z.1 e.1 e.2)⟩
section Adds
variable {S S' : St} {xb l : Nat} {M M' : MI} {L L' : ML}
theorem CF.ga {nf : Nat} {fa : Nat → Nat} (h : CF S xb M nf fa) (b : BS S xb) (hl : kd S l = 0) (q : Fr (Pl S l) S S') (hne : xb + 1 ≠ l) (e0 : M' 0 1 = M 0 1) (e1 : M' 1 = M 1) (e2 : M' 2 = M 2) (e3 : M' 3 = M 3) (e56 : M' 56 = M 56) : CF S' xb M' nf fa :=
  h.go b.1 q (fun a c => ⟨Pl_l b.2.1 hl (xK_firms b.2.2.1) hne c, by have := Pl_k hl c; omega, fun _ => by have := Pl_k hl c; omega⟩) e0 e1 e2 e3 e56
theorem CP.ga {np : Nat} {pa : Nat → Nat} (h : CP S xb M np pa) (b : BS S xb) (hl : kd S l = 0) (q : Fr (Pl S l) S S') (hne : xb + 2 ≠ l) (e0 : M' 0 2 = M 0 2) (e4 : M' 4 = M 4) (e5 : M' 5 = M 5) (e6 : M' 6 = M 6) (e7 : M' 7 = M 7) (e8 : M' 8 = M 8) (e9 : M' 9 = M 9) : CP S' xb M' np pa :=
  h.go b.1 q (fun a c => ⟨Pl_l b.2.1 hl (xK_persons b.2.2.1) hne c, by have := Pl_k hl c; omega⟩) e0 e4 e5 e6 e7 e8 e9
theorem CN.ga {np : Nat} {pa : Nat → Nat} (h : CN S M np pa) (hc : CP S xb M np pa) (b : BS S xb) (hl : kd S l = 0) (q : Fr (Pl S l) S S') (e8 : M' 8 = M 8) (e9 : M' 9 = M 9) : CN S' M' np pa :=
  h.go (fun i hi => (hc.2.2.2 i hi).1) b.1 q (fun a c => by have := Pl_k hl c; omega) e8 e9
theorem CA.ga {nf np na : Nat} {fa pa aa : Nat → Nat} (h : CA S xb M L nf fa np pa na aa) (b : BS S xb) (hl : kd S l = 0) (q : Fr (Pl S l) S S') (hne : xb + 3 ≠ l) (e03 : M' 0 3 = M 0 3) (e0 : (M 0 0).toInt ≤ (M' 0 0).toInt) (e10 : M' 10 = M 10) (e11 : M' 11 = M 11) (e12 : M' 12 = M 12) (e13 : M' 13 = M 13) (e39 : M' 39 = M 39) (e40 : M' 40 = M 40) (e41 : M' 41 = M 41) (e42 : L' 42 = L 42) : CA S' xb M' L' nf fa np pa na aa :=
  h.go b.1 q (fun a c => ⟨Pl_l b.2.1 hl (xK_accounts b.2.2.1) hne c, by have := Pl_k hl c; omega⟩) e03 e0 e10 e11 e12 e13 e39 e40 e41 e42
theorem CE.ga {na ne : Nat} {aa ea : Nat → Nat} {il : Nat → List Nat} (h : CE S xb M na aa ne ea il) (b : BS S xb) (hl : kd S l = 0) (q : Fr (Pl S l) S S') (hne : ∀ a, a < na → aa a + 1 ≠ l) (e04 : M' 0 4 = M 0 4) (e14 : M' 14 = M 14) (e15 : M' 15 = M 15) (e16 : M' 16 = M 16) (e17 : M' 17 = M 17) (e18 : M' 18 = M 18) (e19 : M' 19 = M 19) : CE S' xb M' na aa ne ea il := by
  have hx : kd S xb = 12 := b.2.2.1.1
  refine h.go b.1 q (by rw [(q.at b.1 hx (by omega) (fun c => by have := Pl_k hl c; omega)).2.2.1]) (fun a ha => Or.inl (fun c => by have := Pl_k hl c; have := (h.2.2.2.2 a ha).2.2.2.1; omega)) (fun a c => ⟨by have := Pl_k hl c; omega, fun i hi => Pl_l b.2.1 hl (h.2.2.2.2 i hi).kl (hne i hi) c⟩) e04 e14 e15 e16 e17 e18 e19
theorem CC.ga {np na nc : Nat} {pa aa ca : Nat → Nat} (h : CC S xb M L np pa na aa nc ca) (b : BS S xb) (hl : kd S l = 0) (q : Fr (Pl S l) S S') (hne : xb + 4 ≠ l) (e69 : M' 0 69 = M 0 69) (e39 : ∀ a, a < na → M 39 a ≠ -1 → M' 39 a ≠ -1) (e49 : M' 49 = M 49) (e50 : M' 50 = M 50) (e51 : M' 51 = M 51) (e52 : M' 52 = M 52) (e53 : M' 53 = M 53) (e54 : L' 54 = L 54) (e55 : L' 55 = L 55) : CC S' xb M' L' np pa na aa nc ca :=
  h.go b.1 q (fun a c => ⟨Pl_l b.2.1 hl (xK_claims b.2.2.1) hne c, by have := Pl_k hl c; omega⟩) e69 e39 e49 e50 e51 e52 e53 e54 e55
theorem Pl_at (b : BS S xb) (hl : kd S l = 0) (q : Fr (Pl S l) S S') {a k : Nat} (ha : kd S a = k) (h9 : k < 99) (h0 : k ≠ 0 ∧ k ≠ 20) : kd S' a = kd S a ∧ ln S' a = ln S a ∧ mi S' a = mi S a ∧ ml S' a = ml S a ∧ mr S' a = mr S a :=
  q.at b.1 ha h9 (fun c => by have := Pl_k hl c; omega)
theorem CL.ga (h : CL S xb M) (b : BS S xb) (hl : kd S l = 0) (q : Fr (Pl S l) S S') (e20 : M' 20 = M 20) (e21 : M' 21 = M 21) (e22 : M' 22 = M 22) (e23 : M' 23 = M 23) (e24 : M' 24 = M 24) (e25 : M' 25 = M 25) (e26 : M' 26 = M 26) (e27 : M' 27 = M 27) (e28 : M' 28 = M 28) (e29 : M' 29 = M 29) : CL S' xb M' :=
  h.go b.1 q (Pl_at b hl q (xK_laws b.2.2.1) (by omega) (by omega)).2.2.2.2 (fun a c => ⟨by have := Pl_k hl c; omega, fun e => by have := Pl_k hl c; omega⟩) e20 e21 e22 e23 e24 e25 e26 e27 e28 e29
theorem C0.ga (h : C0 S xb M) (b : BS S xb) (hl : kd S l = 0) (q : Fr (Pl S l) S S') (e : M' 0 0 = M 0 0 ∧ M' 0 51 = M 0 51 ∧ M' 0 54 = M 0 54) : C0 S' xb M' := h.go (Pl_at b hl q b.2.2.1.1 (by omega) (by omega)).2.2.1 e
theorem CT.ga (h : CT S xb M) (b : BS S xb) (hl : kd S l = 0) (q : Fr (Pl S l) S S') (e44 : M' 0 44 = M 0 44) (e36 : M' 36 = M 36) : CT S' xb M' := h.go (by rw [(Pl_at b hl q b.2.2.1.1 (by omega) (by omega)).2.2.1]) (Pl_at b hl q (xK_tape b.2.2.1) (by omega) (by omega)).2.2.1 e44 e36
theorem CY.ga (h : CY S xb M) (b : BS S xb) (hl : kd S l = 0) (q : Fr (Pl S l) S S') (e57 : M' 57 = M 57) : CY S' xb M' := h.go (Pl_at b hl q (xK_costs b.2.2.1) (by omega) (by omega)).2.2.1 e57
theorem BS.ga (b : BS S xb) (hl : kd S l = 0) (q : Fr (Pl S l) S S') (d : DA S') : BS S' xb := by
  obtain ⟨w, -, x, m, t, n⟩ := id b
  exact ⟨q.2.1 w, d, x.fr w q (Pl_at b hl q x.1 (by omega) (by omega)).2.2.2.2 (Pl_at b hl q (xK_scale x) (by omega) (by omega)).2.2.2.2 (Pl_at b hl q (xK_joining x) (by omega) (by omega)).2.2.2.2 (Pl_at b hl q (xK_chooser x) (by omega) (by omega)).2.2.2.2, m.fr w q (Pl_at b hl q m.1 (by omega) (by omega)).2.2.2.2, t.fr w q, Nat.le_trans n q.nxle⟩
/-- the reference's cells are none of these -/
theorem Pl_m (b : BS S xb) (hl : kd S l = 0) (q : Fr (Pl S l) S S') (o : Nat) (ho : o < 60) : Mi S' (xb + 22) o = Mi S (xb + 22) o ∧ Ml S' (xb + 22) o = Ml S (xb + 22) o := by
  have hk := mKind b.2.2.2.1 (a := xb + 22 + o) (by omega) (by omega)
  obtain ⟨h1, h2, -⟩ := q.2.2 (xb + 22 + o) (b.1.lt (by omega)) (fun c => by have := Pl_k hl c; omega)
  exact ⟨h1, h2⟩
theorem Fr_m_of {P : Nat → Prop} (b : BS S xb) (q : Fr P S S') (hp : ∀ a, P a → a < xb + 22 ∨ xb + 82 ≤ a) (o : Nat) (ho : o < 60) : Mi S' (xb + 22) o = Mi S (xb + 22) o ∧ Ml S' (xb + 22) o = Ml S (xb + 22) o := by
  have hk := mKind b.2.2.2.1 (a := xb + 22 + o) (by omega) (by omega)
  obtain ⟨h1, h2, -⟩ := q.2.2 (xb + 22 + o) (b.1.lt (by omega)) (fun c => by have := hp _ c; omega)
  exact ⟨h1, h2⟩
/-- nothing old was written -/
theorem JX.al {g : Gh} (h : JX S xb M L g) (q : Fr (fun _ => False) S S') (b : BS S' xb) : JX S' xb M L g := h.go q b (fun _ c => c.elim) (PeqI.rf _) (PeqL.rf _)
theorem BS.al (h : BS S xb) (q : Fr (fun _ => False) S S') (h2 : ∀ a, nx S ≤ a → kd S' a ≠ 0) : BS S' xb := h.fr q (fun _ c => c.elim) h2
end Adds
-- more firms, persons, accounts
theorem FO.ext {S : St} {xb : Nat} {M M' : MI} {nf nf' : Nat} {fa fa' : Nat → Nat} {i : Nat} (h : FO S xb M nf fa i) (hi : i < nf) (hn : nf ≤ nf') (hf : ∀ z, z < nf → fa' z = fa z) (e1 : ∀ z, z < nf → M' 1 z = M 1 z) (e2 : ∀ z, z < nf → M' 2 z = M 2 z) (e3 : ∀ z, z < nf → M' 3 z = M 3 z) (e56 : M' 56 = M 56) : FO S xb M' nf' fa' i := by
  obtain ⟨a1, a2, a3, a4, a5, a6, a7, a8, a9, a10⟩ := h
  unfold FO
  rw [hf i hi, e1 i hi, e2 i hi, e3 i hi, e56]
  refine ⟨a1, a2, a3, a4, a5, a6, a7, a8, a9, ?_⟩
  rcases a10 with c | ⟨j, j1, j2, j3, j4, j5⟩
  · exact Or.inl c
  · exact Or.inr ⟨j, by omega, j2, by rw [hf j j1]; exact j3, j4, by rw [e2 j j1, e3 j j1]; exact j5⟩
theorem CA.ext {S : St} {xb : Nat} {M : MI} {L : ML} {nf nf' np np' na : Nat} {fa fa' pa pa' aa : Nat → Nat} (h : CA S xb M L nf fa np pa na aa) (hn : nf ≤ nf') (hf : ∀ z, z < nf → fa' z = fa z) (hm : np ≤ np') (hg : ∀ z, z < np → pa' z = pa z) : CA S xb M L nf' fa' np' pa' na aa := by
  obtain ⟨h1, h2, h3, h4⟩ := h
  refine ⟨h1, h2, h3, fun i hi => ?_⟩
  obtain ⟨a1, a2, a3, ⟨j, j1, j2, j3⟩, a5, a6, ⟨q, q1, q2, q3⟩, a8⟩ := h4 i hi
  exact ⟨a1, a2, a3, ⟨j, by omega, j2, by rw [hf j j1]; exact j3⟩, a5, a6, ⟨q, by omega, q2, by rw [hg q q1]; exact q3⟩, a8⟩
theorem CC.ext {S : St} {xb : Nat} {M : MI} {L : ML} {np np' na na' nc : Nat} {pa pa' aa aa' ca : Nat → Nat} (h : CC S xb M L np pa na aa nc ca) (hm : np ≤ np') (hg : ∀ z, z < np → pa' z = pa z) (hn : na ≤ na') (hf : ∀ z, z < na → aa' z = aa z) : CC S xb M L np' pa' na' aa' nc ca := by
  obtain ⟨h1, h2, h3, h4, h5⟩ := h
  refine ⟨h1, h2, h3, fun i hi => ?_, h5⟩
  obtain ⟨a1, a2, ⟨q, q1, q2, q3⟩, ⟨j, j1, j2, j3, j4⟩, a5⟩ := h4 i hi
  exact ⟨a1, a2, ⟨q, by omega, q2, by rw [hg q q1]; exact q3⟩, ⟨j, by omega, j2, by rw [hf j j1]; exact j3, j4⟩, a5⟩
theorem up1_ne (f : Nat → Nat) {n v z : Nat} (h : z ≠ n) : up1 f n v z = f z := by unfold up1; rw [if_neg h]
theorem up1_eq (f : Nat → Nat) (n v : Nat) : up1 f n v n = v := by unfold up1; rw [if_pos rfl]
