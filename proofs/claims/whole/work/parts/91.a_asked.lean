/-! POINTS ASKED -/
theorem nI_ne1 {s : Nat} (h : s < 2 ^ 31) : nI s ≠ -1 := fun z => by
  have z2 : (nI s).toInt = -1 := (eq_i _ (-1)).mp z
  rw [nI_toInt h] at z2
  omega
def PA (xb z : Nat) : Prop := P3 xb z ∨ z = xb + 22 + 37 ∨ z = xb + 22 + 38
def hrs (M : MI) (H : Nat → Bool) (np p : Nat) : Int32 := if M 9 p = -1 then 0 else nI (cntB (fun q => decide (0 < prt M H np p q)) np)
def askV (M : MI) (L : ML) (H : Nat → Bool) (np a p : Nat) : Nat → Int32 := fun k => if k = 1 then (if (0 : Int32) < lg_cmp (L 42 a) 2147483647 then 2147483647 else Int64.toInt32 (L 42 a)) else if k = 2 then (M 0 0 - M 40 a) / 360 else if k = 3 then M 11 a else hrs M H np p
theorem PA.pm {xb z : Nat} (h : PA xb z) : Pm xb z := by
  unfold PA P3 at h
  unfold Pm
  omega
theorem minL_s (S : St) (a c : Int64) : f_J9_min_f86c9 S a c = some (if (0 : Int32) < lg_cmp a c then c else a) := by
  unfold f_J9_min_f86c9
  split <;> rfl
theorem PX_k {S : St} {xb z : Nat} (x : XOK S xb) (h : PX xb z) : kd S z = 10 ∨ kd S z = 15 := by
  rcases h with rfl | rfl
  · exact Or.inl (xK_scale x)
  · exact Or.inr (xK_stack x)
theorem SW.fx {S T : St} {xb : Nat} (w : SW (PX xb) S T) (x : XOK S xb) : Fr (PX xb) S T := w.fr (fun a c => by have := PX_k x c; omega)
theorem JX.px {S T : St} {xb : Nat} {M : MI} {L : ML} {g : Gh} (j : JX S xb M L g) (w : SW (PX xb) S T) : JX T xb M L g := by
  have x := j.1.2.2.1
  refine j.go (w.fx x) (j.1.fr (w.fx x) (fun a _ => by rw [w.mr]) (fun a ha => by rw [w.kd]; have := j.1.1 a ha; omega)) (fun a c => ?_) (PeqI.rf _) (PeqL.rf _)
  have k := PX_k x c
  unfold PX at c
  unfold okp
  omega
theorem PX_m {S T : St} {xb : Nat} (w : SW (PX xb) S T) (o : Nat) : Mi T (xb + 22) o = Mi S (xb + 22) o ∧ Ml T (xb + 22) o = Ml S (xb + 22) o := w.2.2.2 (xb + 22 + o) (by unfold PX; omega)
theorem CD.xc {S : St} {la s : Nat} {M : MI} (h : CD S la M s) (k1 : kd S la = 7) (r7 : mr S la 7 = some (la + 2)) (k2 : kd S (la + 2) = 15) : ∃ PL : List PLn, (∀ q ∈ PL, PW q) ∧ PM M s PL ∧ XC S la (PL.flatMap cLine) := by
  obtain ⟨PL, h1, h2, h3, h4, h5, h6⟩ := h
  exact ⟨PL, h1, h2, k1, r7, k2, h3, h4, h5, h6⟩
section Asked2
variable {S : St} {xb nf np na ne nc a p s la : Nat} {M : MI} {L : ML} {fa pa aa ea ca : Nat → Nat} {il : Nat → List Nat} {H : Nat → Bool} {PL : List PLn}
theorem X_pAsked (j : JX S xb M L ((nf, fa), (np, pa), (na, aa), (ne, ea, il), (nc, ca))) (hH : HL M np H) (hl : ∀ q, q < np → mi S (pa q) 7 = nI (lcn M np H q)) (ha : a < na) (hp : p < np) (h12 : mr S (aa a) 3 = some (pa p)) (hs : s < 4) (h39 : M 39 a = nI s) (hla : mr S (xb + 9) s = some la) (hlo : la = xb + 6 ∨ xb + 82 ≤ la) (hW : ∀ q ∈ PL, PW q) (hC : XC S la (PL.flatMap cLine)) : ∃ T, f_X11_pointsAsked S xb (some (aa a)) = some (lnsV (askV M L H np a p) PL PL.length, T) ∧ SW (PX xb) S T := by
  obtain ⟨b, c0, ct, cy, cf, cp, cn, ca', ce, cc, cl⟩ := j.un
  have x := b.2.2.1
  obtain ⟨k1, lo, -, -, e2, -, -, -, -, -, -, e7, e8⟩ := ca'.2.2.2 a ha
  have oi := cp.2.2.2 p hp
  have k9 := oi.1
  have lp := oi.2.1
  have e6 : mi S (pa p) 6 = M 9 p := oi.2.2.2.2.2.2.2.1
  have hne : ¬ (M 39 a = -1) := by
    rw [h39]
    exact nI_ne1 (by omega)
  obtain ⟨-, h8, h9, -⟩ := e8.resolve_left (fun q => hne q.1)
  have n1 : ¬ PX xb la := by unfold PX; omega
  have n2 : ¬ PX xb (la + 2) := by unfold PX; omega
  have na' : ¬ PX xb (aa a) := by unfold PX; omega
  have np' : ¬ PX xb (pa p) := by unfold PX; omega
  have nx' : ¬ PX xb xb := by unfold PX; omega
  have ft : ∀ T, SW (PX xb) S T → XOK T xb ∧ getI T (some xb) 12 0 = some (M 0 0) ∧ getI T (some (aa a)) 1 9 = some (M 40 a) ∧ getI T (some (aa a)) 1 2 = some (M 11 a) ∧ getI T (some (aa a)) 1 7 = some (nI s) ∧ kd T (pa p) = 9 ∧ mi T (pa p) 6 = M 9 p := by
    intro T w
    have kT : kd T (aa a) = 1 := by rw [w.kd]; exact k1
    have xT := x.sw w
    have v1 := (w.2.2.2 (aa a) na').1
    have v2 := (w.2.2.2 xb nx').1
    have v3 := (w.2.2.2 (pa p) np').1
    exact ⟨xT, by rw [getI_s xT.1, v2, c0.1], by rw [getI_s kT, v1, h9], by rw [getI_s kT, v1, e2], by rw [getI_s kT, v1, e7, h39], by rw [w.kd]; exact k9, by rw [v3]; exact e6⟩
  obtain ⟨V, hV⟩ : ∃ V, V = askV M L H np a p := ⟨_, rfl⟩
  have V1 : V 1 = if (0 : Int32) < lg_cmp (L 42 a) 2147483647 then 2147483647 else Int64.toInt32 (L 42 a) := by rw [hV]; rfl
  have V2 : V 2 = (M 0 0 - M 40 a) / 360 := by rw [hV]; rfl
  have V3 : V 3 = M 11 a := by rw [hV]; rfl
  have V4 : V 4 = hrs M H np p := by rw [hV]; rfl
  rw [← hV]
  have V1' : Int64.toInt32 (if (0 : Int32) < lg_cmp (L 42 a) 2147483647 then 2147483647 else L 42 a) = V 1 := by
    rw [V1]
    split <;> rfl
  clear hV
  unfold f_X11_pointsAsked
  simp only [getR_s k1, h12, xR_scale x, getL_s k1, h8, minL_s, Option.bind_some, putI_s (xK_scale x), V1']
  obtain ⟨A, hA⟩ : ∃ A, A = setI S (xb + 10) 0 (V 1) := ⟨_, rfl⟩
  rw [← hA]
  have wA : SW (PX xb) S A := by rw [hA]; exact SW_I _ _ (Or.inl rfl)
  obtain ⟨xA, fA1, fA2, -, -, -, -⟩ := ft A wA
  simp only [xR_scale xA, fA1, fA2, Option.bind_some, divI, if_neg (show ¬ ((360 : Int32) = 0) by decide), putI_s (xK_scale xA)]
  rw [← V2]
  obtain ⟨B, hB⟩ : ∃ B, B = setI A (xb + 10) 1 (V 2) := ⟨_, rfl⟩
  rw [← hB]
  have wB : SW (PX xb) S B := wA.tr (by rw [hB]; exact SW_I _ _ (Or.inl rfl))
  obtain ⟨xB, -, -, fB3, -, -, -⟩ := ft B wB
  simp only [xR_scale xB, fB3, Option.bind_some, putI_s (xK_scale xB)]
  rw [← V3]
  obtain ⟨C, hCC⟩ : ∃ C, C = setI B (xb + 10) 2 (V 3) := ⟨_, rfl⟩
  rw [← hCC]
  have wC : SW (PX xb) S C := wB.tr (by rw [hCC]; exact SW_I _ _ (Or.inl rfl))
  obtain ⟨xC, -, -, -, -, fC5, fC6⟩ := ft C wC
  have g0 : mi C (xb + 10) 0 = V 1 := by rw [hCC, mi_setI_i, if_neg (by omega), hB, mi_setI_i, if_neg (by omega), hA, mi_setI_i, if_pos ⟨rfl, rfl⟩]
  have g1 : mi C (xb + 10) 1 = V 2 := by rw [hCC, mi_setI_i, if_neg (by omega), hB, mi_setI_i, if_pos ⟨rfl, rfl⟩]
  have g2 : mi C (xb + 10) 2 = V 3 := by rw [hCC, mi_setI_i, if_pos ⟨rfl, rfl⟩]
  clear hA hB hCC
  have h74 : ∃ T, f_X11_pointsAsked_74 C xb (some (aa a)) (V 4) (some (xb + 10)) = some (lnsV V PL PL.length, T) ∧ SW (PX xb) S T := by
    unfold f_X11_pointsAsked_74
    rw [putI_s (xK_scale xC)]
    simp only [Option.bind_some]
    obtain ⟨D, hD⟩ : ∃ D, D = setI C (xb + 10) 3 (V 4) := ⟨_, rfl⟩
    rw [← hD]
    have wD : SW (PX xb) S D := wC.tr (by rw [hD]; exact SW_I _ _ (Or.inl rfl))
    obtain ⟨xD, -, -, -, fD4, -, -⟩ := ft D wD
    have o : ∀ k, k ≠ 3 → mi D (xb + 10) k = mi C (xb + 10) k := fun k hk => by rw [hD, mi_setI_i, if_neg (by omega)]
    have o3 : mi D (xb + 10) 3 = V 4 := by rw [hD, mi_setI_i, if_pos ⟨rfl, rfl⟩]
    clear hD
    simp only [xR_scale xD, fD4, Option.bind_some, xV xD, X_lawOf xD hs (show mr D (xb + 9) s = some la by rw [wD.mr]; exact hla), xV_scale xD]
    obtain ⟨E, z1, z2⟩ := X_greatest (V := V) n1 n2 hW xD (hC.sw wD n1 n2) (fun k h1 h4 => by
      have : k = 1 ∨ k = 2 ∨ k = 3 ∨ k = 4 := by omega
      rcases this with rfl | rfl | rfl | rfl
      · exact (o 0 (by omega)).trans g0
      · exact (o 1 (by omega)).trans g1
      · exact (o 2 (by omega)).trans g2
      · exact o3)
    rw [z1]
    exact ⟨E, rfl, wD.tr z2⟩
  simp only [xR_scale xC, rcv_s fC5, X_lives fC5, fC6, i01, Option.bind_some]
  unfold hrs at V4
  by_cases d : M 9 p = -1
  · rw [if_neg (fun q => q d)]
    rw [if_pos d] at V4
    rw [V4] at h74
    exact h74
  · rw [if_pos d]
    rw [if_neg d] at V4
    obtain ⟨bC, -, -, -, -, cpC, -⟩ := (j.px wC).un
    have g := X_cntHeirs xC cpC hH (fun q hq => by rw [(wC.2.2.2 (pa q) (by have := (cp.2.2.2 q hq).2.1; unfold PX; omega)).1]; exact hl q hq) hp d np 0 FU (by omega) (by have := cp.2.1; unfold FU; omega)
    rw [show cntB (fun q => decide (0 < prt M H np p q)) 0 = 0 from rfl, nI_0] at g
    unfold f_X11_countHeirs
    simp only [xV xC, g, Option.bind_some]
    rw [← V4]
    exact h74
end Asked2
