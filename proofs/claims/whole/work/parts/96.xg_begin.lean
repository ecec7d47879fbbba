section Bgn
variable {r la l : Nat} {ts : List Tk} {f : Nat → Nat} {T T' U S : St} {xb n : Nat} {tb : Nat → Nat}
/-- the reader is made -/
theorem X7_ini {B : St} (hk : kd B r = 8) (w : WFS B) (dB : DA B) (li : LI B l ts.length f) (htk : ∀ k, k < ts.length → TKo B (f k) (tkn ts k)) (h0 : 0 < ts.length) (h6 : ts.length ≤ 601) (hc : nx B + 3 ≤ cap B) (hs : sl B + 20 + ts.length ≤ 7302250) : ∃ D, f_X7_init B r (some l) = some D ∧ KS r (nx B) l ts f D ∧ mi D r 1 = 0 ∧ mi D r 2 = -1 ∧ mi D r 4 = 0 ∧ mi D r 8 = 0 ∧ mi D (nx B) 8 = 0 ∧ LC D (nx B) lw0 ∧ mi D (nx B) 0 = 0 ∧ Fr (fun z => z = r) B D ∧ DA D ∧ nx D = nx B + 3 ∧ sl D ≤ sl B + 20 + ts.length := by
  have hr : r < nx B := w.lt (by omega)
  have hl : l < nx B := w.lt (by rw [li.1]; omega)
  have nlr : l ≠ r := fun z => by have := li.1; rw [z, hk] at this; omega
  obtain ⟨S1, e1, k1, l1, h1, v1, n1, p1, q1, f1⟩ := puI (S := B) 1 0 hk
  obtain ⟨S2, e2, k2, l2, h2, v2, n2, p2, q2, f2⟩ := puI (S := S1) 2 (-1) (show kd S1 r = 8 by rw [k1, hk])
  obtain ⟨S3, e3, k3, l3, h3, v3, n3, p3, q3, f3⟩ := puI (S := S2) 4 0 (show kd S2 r = 8 by rw [k2, k1, hk])
  obtain ⟨S4, e4, k4, l4, h4, v4, n4, p4, q4, f4⟩ := puI (S := S3) 5 0 (show kd S3 r = 8 by rw [k3, k2, k1, hk])
  obtain ⟨S5, e5, k5, l5, h5, v5, n5, p5, q5, f5⟩ := puI (S := S4) 6 0 (show kd S4 r = 8 by rw [k4, k3, k2, k1, hk])
  obtain ⟨S6, e6, k6, l6, h6', v6, n6, p6, q6, f6⟩ := puI (S := S5) 7 0 (show kd S5 r = 8 by rw [k5, k4, k3, k2, k1, hk])
  obtain ⟨S7, e7, k7, l7, h7, v7, n7, p7, q7, f7⟩ := puI (S := S6) 8 0 (show kd S6 r = 8 by rw [k6, k5, k4, k3, k2, k1, hk])
  obtain ⟨C, e8, k8, l8, h8, v8, n8, p8, q8, f8⟩ := puR (S := S7) 3 (some l) (show kd S7 r = 8 by rw [k7, k6, k5, k4, k3, k2, k1, hk])
  have KC : kd C = kd B := by rw [k8, k7, k6, k5, k4, k3, k2, k1]
  have HC : C.1 = B.1 := by rw [h8, h7, h6', h5, h4, h3, h2, h1]
  have FC0 : Fr (fun z => z = r) B C := (((((((f1).tr f2 (fun _ _ e => e)).tr f3 (fun _ _ e => e)).tr f4 (fun _ _ e => e)).tr f5 (fun _ _ e => e)).tr f6 (fun _ _ e => e)).tr f7 (fun _ _ e => e)).tr f8 (fun _ _ e => e)
  have c1 : mi C r 1 = 0 := by rw [p8, n7 1 (by decide), n6 1 (by decide), n5 1 (by decide), n4 1 (by decide), n3 1 (by decide), n2 1 (by decide), v1]
  have c2 : mi C r 2 = -1 := by rw [p8, n7 2 (by decide), n6 2 (by decide), n5 2 (by decide), n4 2 (by decide), n3 2 (by decide), v2]
  have c4 : mi C r 4 = 0 := by rw [p8, n7 4 (by decide), n6 4 (by decide), n5 4 (by decide), n4 4 (by decide), v3]
  have c8 : mi C r 8 = 0 := by rw [p8, v7]
  have c3 : mr C r 3 = some l := v8
  have nC : nx C = nx B := congrArg (fun z => z.1) HC
  have sC : sl C = sl B := congrArg (fun z => z.2.1) HC
  have capC : cap C = cap B := congrArg (fun z => z.2.2.1) HC
  obtain ⟨E, hE⟩ : ∃ E, E = mk0 C 9 7 0 := ⟨_, rfl⟩
  have eE : newO C 7 = some (nx B, E) := by rw [newO_s (by omega) (by show sl C + 9 ≤ _; omega), nC, hE]; rfl
  have kE : ∀ z, kd E z = if z = nx B then 7 else kd B z := fun z => by rw [hE, kd_mk0, nC, KC]
  have kEl : kd E (nx B) = 7 := by rw [kE, if_pos rfl]
  have FE : Fr (fun z => z = r) B E := by rw [hE]; exact FC0.mk 9 7 0
  have nE : nx E = nx B + 1 := by rw [hE, nx_mk0, nC]
  have sE : sl E = sl B + 9 := by rw [hE, sl_mk0, sC]
  have capE : cap E = cap B := by rw [hE]; exact capC
  have liE : LI E l ts.length f := li.fr w FE nlr (fun e h1 h2 z => by rw [z, hk] at h2; omega)
  have oE : ∀ z, z ≠ nx B → mi E z = mi C z ∧ mr E z = mr C z := fun z hz => by
    rw [hE]
    exact ⟨by funext j; rw [mi_mk0, nC, if_neg hz], by funext j; rw [mr_mk0, nC, if_neg hz]⟩
  obtain ⟨F, g1, g2, g3, g4, g5, g6, g7, g8, g9, g10, g11, g12, g13, g14, g15, g16, g17, g18⟩ := X6_ini (T := E) (la := nx B) (len := ts.length) kEl (by omega) h0 h6 (by omega) (by omega)
  have kF : ∀ z, kd F z = if z = nx B + 1 + 1 then 15 else if z = nx B + 1 then 15 else if z = nx B then 7 else kd B z := fun z => by rw [g2, nE, kE]
  have kFr : kd F r = 8 := by rw [kF, if_neg (by omega), if_neg (by omega), if_neg (by omega), hk]
  have rF := g18.2.2 r (by omega) (fun z => by omega)
  obtain ⟨D, e9, k9, l9, h9, v9, n9, p9, q9, f9⟩ := puR (S := F) 0 (some (nx B)) kFr
  have FF : Fr (fun z => z = r) B F := FE.tr g18 (fun z z1 z2 => by omega)
  have FD : Fr (fun z => z = r) B D := FF.tr f9 (fun _ _ e => e)
  have wD : WFS D := FD.2.1 w
  have oD : ∀ z, z ≠ r → z < nx F → mi D z = mi F z ∧ mr D z = mr F z := fun z z1 z2 => ⟨(f9.2.2 z z2 z1).1, (f9.2.2 z z2 z1).2.2⟩
  have mDr : mi D r = mi C r := by rw [p9, rF.1, (oE r (by omega)).1]
  have nF : nx F = nx B + 3 := by rw [g15, nE]
  have la1 := oD (nx B) (by omega) (by omega)
  have la2 := oD (nx B + 1) (by omega) (by omega)
  have mD : ∀ z, z < nx B → z ≠ r → mi D z = mi B z := fun z z1 z2 => (FD.2.2 z z1 z2).1
  have kD : ∀ z, kd D z = kd F z := fun z => by rw [k9]
  have li' : LI D l ts.length f := li.fr w FD nlr (fun e h1 h2 z => by rw [z, hk] at h2; omega)
  refine ⟨D, ?_, ⟨?_, v9, ?_, ?_, ?_, ?_, ?_, ?_, ?_, ?_, li', fun k hk' => ?_, h0, h6⟩, by rw [mDr]; exact c1, by rw [mDr]; exact c2, by rw [mDr]; exact c4, by rw [mDr]; exact c8, by rw [la1.1]; exact g13, ⟨fun k hk' => ?_, ?_, ?_, ?_, ?_, ?_⟩, by rw [la1.1]; exact g7, FD, ?_, ?_, ?_⟩
  · unfold f_X7_init
    have rl : rcv E (some l) 0 = some l := rcv_s liE.1
    have rla : rcv E (some (nx B)) 7 = some (nx B) := rcv_s kEl
    simp only [e1, e2, e3, e4, e5, e6, e7, e8, eE, Option.bind_some, rl, L_size liE, rla, g1, e9]
  · rw [kD]; exact kFr
  · rw [n9 3 (by decide), rF.2.2, (oE r (by omega)).2]; exact c3
  · rw [kD, kF, if_neg (by omega), if_neg (by omega), if_pos rfl]
  · rw [la1.2, g6, nE]
  · rw [kD, kF, if_pos rfl]
  · rw [l9]
    rw [nE] at g4
    exact g4
  · rw [la1.2, g5, nE]
  · rw [kD, kF, if_neg (by omega), if_pos rfl]
  · rw [l9]
    rw [nE] at g3
    exact g3
  · obtain ⟨t1, t2, t3, t4⟩ := htk k hk'
    have fl : f k < nx B := w.lt (by omega)
    have fn : f k ≠ r := fun z => by rw [z, hk] at t1; omega
    exact ⟨by rw [FD.kdE fl]; exact t1, by rw [mD _ fl fn]; exact t2, by rw [mD _ fl fn]; exact t3, by rw [mD _ fl fn]; exact t4⟩
  · rw [la2.1]
    rw [nE] at g14
    exact g14 k hk'
  · rw [la1.1]; exact g8
  · rw [la1.1]; exact g9
  · rw [la1.1]; exact g10
  · rw [la1.1]; exact g11
  · rw [la1.1]; exact g12
  · refine dB.fr w FD (fun a h1 h2 => ?_) (fun a ha => ?_)
    · rw [(FD.2.2 a h1 (fun z => by rw [z, hk] at h2; omega)).2.2]
    · rw [kD, kF]
      by_cases z1 : a = nx B + 1 + 1
      · rw [if_pos z1]; omega
      · by_cases z2 : a = nx B + 1
        · rw [if_neg z1, if_pos z2]; omega
        · by_cases z3 : a = nx B
          · rw [if_neg z1, if_neg z2, if_pos z3]; omega
          · rw [if_neg z1, if_neg z2, if_neg z3, w a ha]; omega
  · exact (congrArg (fun z => z.1) h9).trans nF
  · have : sl D = sl F := congrArg (fun z => z.2.1) h9
    rw [this, g16, sE]; omega
/-- from the text to the first token -/
theorem X_beg (b : BS S xb) (hB : BTc S xb tb n) (hc : nx S + 1000 ≤ cap S) (hs : sl S + 14000 ≤ 7302250) : ∃ A B D T l la ts f, newO S 8 = some (nx S, A) ∧ XOK A xb ∧ f_X10_split A (some (xb + 5)) (nI n) = some (some l, B) ∧ kd B (nx S) = 8 ∧ f_X7_init B (nx S) (some l) = some D ∧ kd D (nx S) = 8 ∧ f_X7_advance D (nx S) = some T ∧ TKS tb n 0 ts ∧ ts.length ≤ 601 ∧ PCr (nx S) la l ts f T 0 0 [] ∧ LC T la lw0 ∧ mi T la 0 = 0 ∧ Fr (fun _ => False) S T ∧ DA T ∧ nx S < la ∧ nx T ≤ nx S + 950 ∧ sl T ≤ sl S + 13000 := by
  obtain ⟨A, hA⟩ : ∃ A, A = mk0 S 9 8 0 := ⟨_, rfl⟩
  have FA : Fr (fun _ => False) S A := by rw [hA]; exact Fr_mk0 S 9 8 0
  have kA : ∀ z, kd A z = if z = nx S then 8 else kd S z := fun z => by rw [hA, kd_mk0]
  have bA : BS A xb := b.al FA (fun a ha => by
    rw [kA]
    by_cases e : a = nx S
    · rw [if_pos e]; omega
    · rw [if_neg e, b.1 a ha]; omega)
  have hBA : BTc A xb tb n := ⟨hB.1, fun i hi => by rw [(FA.2.2 (xb + 5) (by have := b.2.2.2.2.2; omega) (fun z => z)).1]; exact hB.2 i hi⟩
  have nA : nx A = nx S + 1 := by rw [hA]; rfl
  have sA : sl A = sl S + 9 := by rw [hA]; rfl
  have capA : cap A = cap S := by rw [hA]; rfl
  obtain ⟨B, ts, f, q, g1, g2, g3, g4, g5⟩ := X_split bA hBA (by omega) (by omega)
  obtain ⟨q1, q2, q3, q4, q5, ⟨q6, q6'⟩, q7, c, a, q8, q9, q10, q11, q12, q13⟩ := g2
  have kB : kd B (nx S) = 8 := by rw [q1.kdE (by omega), kA, if_pos rfl]
  have capB : cap B = cap A := q1.capE
  obtain ⟨D, d1, d2, d3, d4, d5, d6, d7, d8, d9, d10, d11, d12, d13⟩ := X7_ini (r := nx S) (l := nx A) (ts := ts) (f := f) kB q3 q2 q5 (fun k hk => (q7 k hk).1) g5 g4 (by omega) (by omega)
  obtain ⟨T, t1, t2, t3⟩ := X_adv0 d2 d3 d4 d5 d6 d7
  have kd20 : ∀ z, Pc (nx S) (nx B) z → kd D z ≤ 20 := fun z hz => by
    rcases hz with z1 | z1 | z1 | z1
    · rw [z1, d2.1]; omega
    · rw [z1, d2.2.2.2.1]; omega
    · rw [z1, d2.2.2.2.2.2.2.2.2.1]; omega
    · rw [z1, d2.2.2.2.2.2.1]; omega
  have FT := t2.1.fr kd20
  have FST : Fr (fun _ => False) S T := ((FA.tr q1 (fun z _ h => h)).tr d10 (fun z z1 z2 => by omega)).tr FT (fun z z1 z2 => by unfold Pc at z2; omega)
  refine ⟨A, B, D, T, nx A, nx B, ts, f, ?_, bA.2.2.1, g1, kB, d1, d2.1, t1, g3, g4, t3, d8.cw t2, ?_, FST, ?_, by omega, ?_, ?_⟩
  · rw [newO_s (by omega) (by show sl S + 9 ≤ _; omega), hA]; rfl
  · rw [t2.2.1 0 (by omega)]; exact d9
  · have wD : WFS D := d10.2.1 q3
    exact d11.fr wD FT (fun a _ _ => by rw [t2.1.mr]) (fun a ha => by rw [t2.1.kd, wD a ha]; omega)
  · rw [t2.1.nx]; omega
  · rw [t2.1.sl]; omega
end Bgn
