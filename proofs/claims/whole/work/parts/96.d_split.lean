/-! READS: tokens as the class makes them -/
def TKo (T : St) (a : Nat) (t : Tk) : Prop := kd T a = 11 ∧ mi T a 0 = nI t.1 ∧ mi T a 1 = nI t.2.1 ∧ mi T a 2 = nI t.2.2.1
def SPL (S T : St) (l : Nat) (ts : List Tk) (f : Nat → Nat) (r : Nat) : Prop := Fr (fun _ => False) S T ∧ DA T ∧ WFS T ∧ nx S ≤ l ∧ LI T l ts.length f ∧ (LRw T l r ∧ ∀ e, mr T l 1 = some e → kd T e = 20 → nx S ≤ e) ∧ (∀ k, k < ts.length → TKo T (f k) (ts.getD k (0, 0, 0, 0)) ∧ nx S ≤ f k) ∧ ∃ c a, nx T = nx S + 1 + ts.length + c ∧ sl T = sl S + 3 + 3 * ts.length + a ∧ 5 * c ≤ r ∧ a ≤ 3 * r + c ∧ r ≤ 2 * ts.length + 10 ∧ (ts.length = 0 ∧ r = 0 ∨ 10 ≤ r)
section Spl
variable {S T : St} {xb n l r : Nat} {ts : List Tk} {f : Nat → Nat} {tb : Nat → Nat}
theorem fr_bs (b : BS S xb) (q : Fr (fun _ => False) S T) : XOK T xb ∧ MOK T (xb + 22) ∧ LT0 T ∧ (BTc S xb tb n → BTc T xb tb n) := by
  obtain ⟨w, d, x, m, l0, bb⟩ := b
  have hm : ∀ a, a < nx S → mi T a = mi S a ∧ ml T a = ml S a ∧ mr T a = mr S a := fun a ha => q.2.2 a ha (fun c => c)
  exact ⟨x.fr w q (hm _ (by omega)).2.2 (hm _ (by omega)).2.2 (hm _ (by omega)).2.2 (hm _ (by omega)).2.2, m.fr w q (hm _ (by omega)).2.2, l0.fr w q, fun h => ⟨h.1, fun i hi => by rw [(hm (xb + 5) (by omega)).1]; exact h.2 i hi⟩⟩
theorem X_new (h : SPL S T l ts f r) (hl : ts.length ≤ 600) (hc : nx S + 990 ≤ cap S) (hs : sl S + 13900 ≤ 7302250) : newO T 11 = some (nx T, mk0 T 3 11 0) ∧ Fr (fun _ => False) S (mk0 T 3 11 0) ∧ kd (mk0 T 3 11 0) (nx T) = 11 := by
  obtain ⟨q1, q2, q3, q4, q5, ⟨q6, q6'⟩, q7, c, a, q8, q9, q10, q11, q12, q13⟩ := h
  refine ⟨?_, ?_, by rw [kd_mk0, if_pos rfl]⟩
  · exact newO_s (by rw [q1.capE]; omega) (by show sl T + 3 ≤ _; omega)
  · exact q1.tr (Fr_mk0 (P := fun _ => False) T 3 11 0) (fun a h1 h2 => False.elim h2)
theorem X_app (h : SPL S T l ts f r) (hl : ts.length ≤ 600) (hc : nx S + 990 ≤ cap S) (hs : sl S + 13900 ≤ 7302250) (t : Tk) : ∃ B C f' r', f_X10_init (mk0 T 3 11 0) (nx T) (nI t.1) (nI t.2.1) (nI t.2.2.1) = some B ∧ rcv B (some l) 0 = some l ∧ f_Jx4a65c_add_9ea2d B l (some (nx T)) = some (1, C) ∧ SPL S C l (ts ++ [t]) f' r' := by
  obtain ⟨-, FA, kA⟩ := X_new h hl hc hs
  obtain ⟨q1, q2, q3, q4, q5, ⟨q6, q6'⟩, q7, c, a, q8, q9, q10, q11, q12, q13⟩ := h
  obtain ⟨B, hB⟩ : ∃ B, B = setI (setI (setI (mk0 T 3 11 0) (nx T) 0 (nI t.1)) (nx T) 1 (nI t.2.1)) (nx T) 2 (nI t.2.2.1) := ⟨_, rfl⟩
  have hl' : l < nx T := q3.lt (by rw [q5.1]; omega)
  have F1 : Fr (fun z => z = nx T) (mk0 T 3 11 0) B := by
    rw [hB]
    exact (((Fr.rf (fun z => z = nx T) (mk0 T 3 11 0)).sI (a := nx T) 0 _ (by rw [kA]; omega) (fun _ => rfl)).sI (a := nx T) 1 _ (by show kd (mk0 T 3 11 0) (nx T) ≤ 20; rw [kA]; omega) (fun _ => rfl)).sI (a := nx T) 2 _ (by show kd (mk0 T 3 11 0) (nx T) ≤ 20; rw [kA]; omega) (fun _ => rfl)
  have FTB : Fr (fun _ => False) T B := (Fr_mk0 T 3 11 0).tr F1 (fun z h1 h2 => by omega)
  have wB : WFS B := FTB.2.1 q3
  have kB : kd B (nx T) = 11 := by rw [hB]; exact kA
  have nB : nx B = nx T + 1 := by rw [hB]; rfl
  have sB : sl B = sl T + 3 := by rw [hB]; rfl
  have b0 : mi B (nx T) 0 = nI t.1 := by rw [hB, mi_setI_i, if_neg (by omega), mi_setI_i, if_neg (by omega), mi_setI_i, if_pos ⟨rfl, rfl⟩]
  have b1 : mi B (nx T) 1 = nI t.2.1 := by rw [hB, mi_setI_i, if_neg (by omega), mi_setI_i, if_pos ⟨rfl, rfl⟩]
  have b2 : mi B (nx T) 2 = nI t.2.2.1 := by rw [hB, mi_setI_i, if_pos ⟨rfl, rfl⟩]
  have ini : f_X10_init (mk0 T 3 11 0) (nx T) (nI t.1) (nI t.2.1) (nI t.2.2.1) = some B := by
    unfold f_X10_init
    rw [putI_s kA]
    simp only [Option.bind_some]
    rw [putI_s (show kd (setI (mk0 T 3 11 0) (nx T) 0 (nI t.1)) (nx T) = 11 from kA)]
    simp only [Option.bind_some]
    rw [putI_s (show kd (setI (setI (mk0 T 3 11 0) (nx T) 0 (nI t.1)) (nx T) 1 (nI t.2.1)) (nx T) = 11 from kA), hB]
    rfl
  clear hB
  have lB : LI B l ts.length f := q5.go q3 FTB (fun z hz => False.elim hz)
  have dB : DA B := q2.fr q3 FTB (fun z hz _ => by rw [(FTB.2.2 z hz (fun c => c)).2.2]) (fun z hz => by
    by_cases e : z = nx T
    · rw [e, kB]; omega
    · rw [wB z (by omega)]; omega)
  have rB : LRw B l r := by
    obtain ⟨e, e1, e2⟩ := q6
    have he : e < nx T := q3.lt (by omega)
    refine ⟨e, by rw [(FTB.2.2 l hl' (fun c => c)).2.2]; exact e1, ?_⟩
    rw [FTB.kdE he, FTB.lnE he]
    exact e2
  obtain ⟨C, c1, c2, c2', c3, c4, c5, c6, c7, c8, c9⟩ := L_add2 (v := nx T) lB rB wB (by rw [kB]; omega) (by omega) (by rw [FTB.capE, q1.capE, nB]; omega) (by omega)
  have FSB : Fr (fun _ => False) S B := q1.tr FTB (fun a h1 h2 => False.elim h2)
  have mB : mr B l 1 = mr T l 1 := by rw [(FTB.2.2 l hl' (fun c => c)).2.2]
  have newB : ∀ e, mr B l 1 = some e → kd B e = 20 → nx S ≤ e := fun e h1 h2 => by
    rw [mB] at h1
    rcases Nat.lt_or_ge e (nx T) with z | z
    · rw [FTB.kdE z] at h2
      exact q6' e h1 h2
    · have := q1.nxle; omega
  have FSC : Fr (fun _ => False) S C := FSB.tr c4 (fun z h1 h2 => by
    rcases h2 with e | ⟨e1, e2⟩
    · omega
    · have := newB z e1 e2; omega)
  have wC : WFS C := c4.2.1 wB
  have len : (ts ++ [t]).length = ts.length + 1 := by rw [List.length_append]; rfl
  have hln : l ≠ nx T := by omega
  refine ⟨B, C, up1 f ts.length (nx T), ?_⟩
  have tok : ∀ k, k < ts.length + 1 → TKo C (up1 f ts.length (nx T) k) ((ts ++ [t]).getD k (0, 0, 0, 0)) ∧ nx S ≤ up1 f ts.length (nx T) k := fun k hk => by
    by_cases e : k = ts.length
    · rw [e, up1_eq]
      have : (ts ++ [t]).getD ts.length (0, 0, 0, 0) = t := by
        have z := getD_r ts [t] (0, 0, 0, 0) 0
        rw [Nat.add_zero] at z
        rw [z]; rfl
      rw [this]
      have m1 : mi C (nx T) = mi B (nx T) := c8 (nx T) (fun z => hln z.symm) (by omega)
      exact ⟨⟨by rw [c4.kdE (by omega)]; exact kB, by rw [m1]; exact b0, by rw [m1]; exact b1, by rw [m1]; exact b2⟩, by have := q1.nxle; omega⟩
    · rw [up1_ne _ e, getD_l _ _ _ (by omega)]
      obtain ⟨⟨y1, y2, y3, y4⟩, y5⟩ := q7 k (by omega)
      have hf : f k < nx T := q3.lt (by omega)
      have fl : f k ≠ l := fun z => by rw [z, q5.1] at y1; omega
      have m1 : mi C (f k) = mi T (f k) := (c8 (f k) fl (by omega)).trans (FTB.2.2 (f k) hf (fun c => c)).1
      exact ⟨⟨by rw [c4.kdE (by omega), FTB.kdE hf]; exact y1, by rw [m1]; exact y2, by rw [m1]; exact y3, by rw [m1]; exact y4⟩, y5⟩
  have newC : ∀ e, mr C l 1 = some e → kd C e = 20 → nx S ≤ e := fun e h1 h2 => by
    rcases c2' e h1 with z | z
    · rcases Nat.lt_or_ge e (nx B) with y | y
      · rw [c4.kdE y] at h2
        exact newB e z h2
      · have := q1.nxle; omega
    · have := q1.nxle; omega
  rcases c2 with ⟨d1, d2, d3, d4⟩ | ⟨d1, d2, m, d3, d4, d5⟩
  · refine ⟨r, ini, rcv_s lB.1, c1, FSC, c7 dB, wC, q4, by rw [len]; exact c3, ⟨d4, newC⟩, by rw [len]; exact tok, c, a, ?_, ?_, q10, q11, ?_, ?_⟩
    · rw [len, d2, nB]; omega
    · rw [len, d3, sB]; omega
    · rw [len]; omega
    · omega
  · have hm : m ≤ 2 * (ts.length + 1) + 10 ∧ 3 * r ≤ 2 * m + 1 ∧ r + 5 ≤ m ∧ 10 ≤ m := by
      by_cases z : ts.length = 0
      · rw [if_pos z] at d3; omega
      · rw [if_neg z] at d3; omega
    refine ⟨m, ini, rcv_s lB.1, c1, FSC, c7 dB, wC, q4, by rw [len]; exact c3, ⟨d5, newC⟩, by rw [len]; exact tok, c + 1, a + m, ?_, ?_, ?_, ?_, ?_, Or.inr hm.2.2.2⟩
    · rw [len, d2, nB]; omega
    · rw [len, d4, sB]; omega
    · omega
    · omega
    · rw [len]; omega
end Spl
