/-! READS: what a reading keeps -/
section Kee
variable {S S' S1 : St} {P : Nat → Prop} {xb : Nat} {M M' : MI} {L L' : ML}
theorem LO.gs {s la : Nat} (h : LO S xb M s la) (w : WFS S) (q : Fr P S S') (h1 : ¬ P la ∧ ¬ P (la + 1) ∧ ¬ P (la + 2)) (e : ∀ o, 20 ≤ o → o ≤ 29 → ∀ j, rbk o * s ≤ j → j < rbk o * s + rbk o → M' o j = M o j) : LO S' xb M' s la := by
  obtain ⟨b1, b2, b3, b4, b5, b6, b7, b8, b9, b10, b11, b12, b13, b14, b15, PL, c1, ⟨p1, p2, p3, p4, p5, p6⟩, c3, c4, c5, c6⟩ := h
  obtain ⟨a1, a2, a3, a4, a5⟩ := q.at w b1 (by omega) h1.1
  obtain ⟨d1, d2, d3, d4, d5⟩ := q.at w b4 (by omega) h1.2.1
  obtain ⟨f1, f2, f3, f4, f5⟩ := q.at w b15 (by omega) h1.2.2
  have e20 : ∀ k, k < 4 → M' 20 (4 * s + k) = M 20 (4 * s + k) := fun k hk => e 20 (by omega) (by omega) _ (by show 4 * s ≤ _; omega) (by show _ < 4 * s + 4; omega)
  have e1 : ∀ o, 21 ≤ o → o ≤ 26 → M' o s = M o s := fun o o1 o2 => by
    have : rbk o = 1 := by
      have : o = 21 ∨ o = 22 ∨ o = 23 ∨ o = 24 ∨ o = 25 ∨ o = 26 := by omega
      rcases this with z | z | z | z | z | z <;> rw [z] <;> rfl
    exact e o (by omega) (by omega) s (by rw [this]; omega) (by rw [this]; omega)
  have e27 : ∀ i, i ≤ 24 → M' 27 (25 * s + i) = M 27 (25 * s + i) := fun i hi => e 27 (by omega) (by omega) _ (by show 25 * s ≤ _; omega) (by show _ < 25 * s + 25; omega)
  have e28 : ∀ i, i < 24 → M' 28 (24 * s + i) = M 28 (24 * s + i) := fun i hi => e 28 (by omega) (by omega) _ (by show 24 * s ≤ _; omega) (by show _ < 24 * s + 24; omega)
  have e29 : ∀ j, j < 1220 → M' 29 (1220 * s + j) = M 29 (1220 * s + j) := fun i hi => e 29 (by omega) (by omega) _ (by show 1220 * s ≤ _; omega) (by show _ < 1220 * s + 1220; omega)
  have pm : PM M' s PL := by
    refine ⟨by rw [e1 26 (by omega) (by omega)]; exact p1, p2, p3, fun i hi => ?_, by rw [e27 _ p2]; exact p5, fun j hj => ?_⟩
    · rw [e27 i (by omega), e28 i (by omega)]; exact p4 i hi
    · rw [e29 (2 * j) (by omega), e29 (2 * j + 1) (by omega)]; exact p6 j hj
  unfold LO CD
  rw [a1, a3, a5, d1, d2, d3, f1, f2, f3, e1 21 (by omega) (by omega), e1 22 (by omega) (by omega), e1 23 (by omega) (by omega), e1 24 (by omega) (by omega), e1 25 (by omega) (by omega)]
  exact ⟨b1, b2, b3, b4, b5, fun k hk => by rw [e20 k hk]; exact b6 k hk, b7, b8, b9, b10, b11, b12, b13, b14, b15, PL, c1, pm, c3, c4, c5, c6⟩
def rFl : List Nat := [0, 1, 2, 3, 4, 69]
def Px9 (xb z : Nat) : Prop := z = xb ∨ z = xb + 9
theorem Px9_k (b : BS S xb) {a : Nat} (h : Px9 xb a) : kd S a = 12 ∨ kd S a = 18 := by
  rcases h with e | e
  · left; rw [e]; exact b.2.2.1.1
  · right; rw [e]; exact xK_laws b.2.2.1
theorem JX.rd {nf np na ne nc : Nat} {fa pa aa ea ca : Nat → Nat} {il : Nat → List Nat} (j : JX S xb M L ((nf, fa), (np, pa), (na, aa), (ne, ea, il), (nc, ca))) (q : Fr (Px9 xb) S S1) (b : BS S1 xb) (hx : ∀ k, k ≠ 7 → k ≠ 10 → k ≠ 11 → mi S1 xb k = mi S xb k) (h7 : mi S1 xb 7 = 0) (h10 : mi S1 xb 10 = M' 0 51) (h11 : mi S1 xb 11 = M' 0 54) (e44 : M' 0 44 = 0) (eM : ∀ o, 1 ≤ o → o < 60 → (o < 20 ∨ 35 < o) → M' o = M o) (eF : ∀ f ∈ rFl, M' 0 f = M 0 f) (eL : PeqL L L') (cl : CL S1 xb M') : JX S1 xb M' L' ((nf, fa), (np, pa), (na, aa), (ne, ea, il), (nc, ca)) := by
  obtain ⟨b0, c0, ct, cy, cf, cp, cn, ca, ce, cc, -⟩ := j
  have w := b0.1
  have x := b0.2.2.1
  have K : ∀ a, Px9 xb a → kd S a = 12 ∨ kd S a = 18 := fun a => Px9_k b0
  have kx : ∀ a l, kd S l = 0 → Px9 xb a → a ≠ l ∧ ¬ (mr S l 1 = some a ∧ kd S a = 20) := fun a l hk hc => ⟨fun e => by have := K a hc; rw [e] at this; omega, fun e => by have := K a hc; omega⟩
  have rI : ∀ o, 1 ≤ o → o < 60 → (o < 20 ∨ 35 < o) → M' o = M o := eM
  have rF : ∀ f, f ∈ rFl → M' 0 f = M 0 f := eF
  have e00 := rF 0 (by decide)
  refine ⟨b, ⟨by rw [hx 0 (by omega) (by omega) (by omega), e00]; exact c0.1, by rw [e00]; exact c0.2.1, by rw [e00]; exact c0.2.2.1, h10, h11⟩, ⟨0, by omega, by rw [h7]; rfl, by rw [e44]; rfl, fun i hi => by omega⟩, cy.go (q.at w (xK_costs x) (by omega) (fun c => by have := K _ c; rw [xK_costs x] at this; omega)).2.2.1 (rI 57 (by omega) (by omega) (by omega)), ?_, ?_, ?_, ?_, ?_, ?_, cl⟩
  · exact cf.go w q (fun a c => ⟨kx a _ (xK_firms x) c, by have := K a c; omega, fun z => by have := K a c; omega⟩) (rF 1 (by decide)) (rI 1 (by omega) (by omega) (by omega)) (rI 2 (by omega) (by omega) (by omega)) (rI 3 (by omega) (by omega) (by omega)) (rI 56 (by omega) (by omega) (by omega))
  · exact cp.go w q (fun a c => ⟨kx a _ (xK_persons x) c, by have := K a c; omega⟩) (rF 2 (by decide)) (rI 4 (by omega) (by omega) (by omega)) (rI 5 (by omega) (by omega) (by omega)) (rI 6 (by omega) (by omega) (by omega)) (rI 7 (by omega) (by omega) (by omega)) (rI 8 (by omega) (by omega) (by omega)) (rI 9 (by omega) (by omega) (by omega))
  · exact cn.go (fun i hi => (cp.2.2.2 i hi).1) w q (fun a c => by have := K a c; omega) (rI 8 (by omega) (by omega) (by omega)) (rI 9 (by omega) (by omega) (by omega))
  · exact ca.go w q (fun a c => ⟨kx a _ (xK_accounts x) c, by have := K a c; omega⟩) (rF 3 (by decide)) (by rw [e00]; exact Int.le_refl _) (rI 10 (by omega) (by omega) (by omega)) (rI 11 (by omega) (by omega) (by omega)) (rI 12 (by omega) (by omega) (by omega)) (rI 13 (by omega) (by omega) (by omega)) (rI 39 (by omega) (by omega) (by omega)) (rI 40 (by omega) (by omega) (by omega)) (rI 41 (by omega) (by omega) (by omega)) eL.1
  · exact ce.go w q (hx 5 (by omega) (by omega) (by omega)) (fun a ha => Or.inl (fun c => by have := K _ c; have := (ce.2.2.2.2 a ha).2.2.2.1; omega)) (fun a c => ⟨by have := K a c; omega, fun i hi => kx a _ (ce.2.2.2.2 i hi).kl c⟩) (rF 4 (by decide)) (rI 14 (by omega) (by omega) (by omega)) (rI 15 (by omega) (by omega) (by omega)) (rI 16 (by omega) (by omega) (by omega)) (rI 17 (by omega) (by omega) (by omega)) (rI 18 (by omega) (by omega) (by omega)) (rI 19 (by omega) (by omega) (by omega))
  · exact cc.go w q (fun a c => ⟨kx a _ (xK_claims x) c, by have := K a c; omega⟩) (rF 69 (by decide)) (fun a _ h => by rw [rI 39 (by omega) (by omega) (by omega)]; exact h) (rI 49 (by omega) (by omega) (by omega)) (rI 50 (by omega) (by omega) (by omega)) (rI 51 (by omega) (by omega) (by omega)) (rI 52 (by omega) (by omega) (by omega)) (rI 53 (by omega) (by omega) (by omega)) eL.2.1 eL.2.2
/-- a law that isn't read anew -/
theorem LO.r9 {s la : Nat} (h : LO S xb M s la) (b : BS S xb) (q : Fr (Px9 xb) S S1) (e : ∀ o, 20 ≤ o → o ≤ 29 → ∀ j, rbk o * s ≤ j → j < rbk o * s + rbk o → M' o j = M o j) : LO S1 xb M' s la := by
  have k1 := h.1
  have k2 := h.2.2.2.1
  have k3 : kd S (la + 2) = 15 := h.2.2.2.2.2.2.2.2.2.2.2.2.2.2.1
  exact h.gs b.1 q ⟨fun c => by have := Px9_k b c; omega, fun c => by have := Px9_k b c; omega, fun c => by have := Px9_k b c; omega⟩ e
theorem pl_cd : ∀ W : List LnR, (plW W).flatMap cLine = cdW W
  | [] => rfl
  | w :: W => by
    have ih := pl_cd W
    unfold plW cdW at ih ⊢
    rw [List.flatMap_cons, List.flatMap_append, ih, List.flatMap_cons]
    congr 1
    unfold pl1 cd1
    by_cases c : w.1 = 8
    · rw [if_pos c, if_pos c]; simp
    · rw [if_neg c, if_neg c]; rfl
theorem pl_pw {W : List LnR} (hok : ∀ w ∈ W, okW w) : ∀ q ∈ plW W, PW q := fun q hq => by
  unfold plW at hq
  rw [List.mem_flatMap] at hq
  obtain ⟨w, w1, w2⟩ := hq
  unfold pl1 at w2
  by_cases c : w.1 = 8
  · rw [if_pos c] at w2
    rcases hok w w1 with z | z
    · have := z.1; omega
    · rw [List.mem_singleton.mp w2]; exact z.2
  · rw [if_neg c] at w2
    cases w2
theorem VR0 : VR lw0 := ⟨fun k _ => by show 0 ≤ (5 : Int32).toInt ∧ (5 : Int32).toInt ≤ 40; decide, by show 0 ≤ (0 : Int32).toInt; decide, by show (0 : Int32).toInt ≤ 40; decide⟩
/-- the law that was read -/
theorem LO_new {r la l c s : Nat} {ts : List Tk} {f : Nat → Nat} {T S2 : St} {W : List LnR} {x3 : Int32} (hp : PCr r la l ts f T c 0 (cdW W)) (hv : LC T la (W.foldl stepL lw0)) (hok : ∀ w ∈ W, okW w) (tv : TV (xb + 22) s S2 (W.foldl stepL lw0) x3) (pm : PM (Mi S2 (xb + 22)) s (plW W)) (hla : xb + 82 ≤ la) (kS : kd S1 = kd T) (lS : ln S1 = ln T) (mS : ∀ a, a ≠ xb → mi S1 a = mi T a) (rS : ∀ a, a ≠ xb + 9 → mr S1 a = mr T a) : LO S1 xb (Mi S2 (xb + 22)) s la := by
  obtain ⟨⟨a1, a2, a3, a4, a5, a6, a7, a8, a9, a10, a11, a12, a13, a14⟩, p2, p3, p4, p5, p6, p7, p8, p9, p10, p11, p12⟩ := hp
  obtain ⟨v1, v2, v3, v4, v5, v6⟩ := hv
  obtain ⟨t1, t2, t3, t4, t5, t6⟩ := tv
  have vr := fold_inv (P := VR) vr_ok W lw0 VR0 hok
  unfold LO CD
  rw [kS, lS, mS la (by omega), mS (la + 1) (by omega), mS (la + 2) (by omega), rS la (by omega)]
  refine ⟨a4, Or.inr hla, a8, a9, a10, fun k hk => ?_, ?_, v3.trans t3.symm, v4.trans t4.symm, v5.trans t5.symm, v6.trans t6.symm, ?_, ?_, a5, a6, plW W, pl_pw hok, pm, ?_, ?_, ?_, ?_⟩
  · have e : Mi S2 (xb + 22) 20 (4 * s + k) = (W.foldl stepL lw0).1 k := t1 k hk
    rw [e, v1 k hk]
    exact ⟨rfl, vr.1 k hk⟩
  · show mi S2 (xb + 22 + 21) s = _
    rw [v2]
    rcases t2 with ⟨-, z1, z2⟩ | ⟨-, z1, z2⟩
    · rw [z2, if_pos z1]
    · rw [z2, if_neg z1]
  · show 0 ≤ (mi S2 (xb + 22 + 25) s).toInt
    rw [t6]; exact vr.2.1
  · show (mi S2 (xb + 22 + 25) s).toInt ≤ 40
    rw [t6]; exact vr.2.2
  · rw [pl_cd]; exact p10
  · rw [pl_cd, a7]; exact p11
  · rw [a7]; omega
  · rw [pl_cd]; exact p12
end Kee
