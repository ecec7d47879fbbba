section Run
variable {r la l mb n : Nat} {tb : Nat → Nat} {ts : List Tk} {f : Nat → Nat} {T Tm S : St} {xb i : Nat}
theorem J_all (x1 : Int32) (hc : PCr r la l ts f T 0 0 []) (hv : LC T la lw0) (h0 : mi T la 0 = 0) (hm : ∃ d, PMr mb tb n ts Tm 0 d []) (h42 : mi Tm mb 42 = 0) : (∃ Tc' Tm' c' W', f_X7_readLines_6 FU T r 0 = some Tc' ∧ f_X12_reads_40 FU Tm mb x1 1 = some (mb, x1, 1, Tm') ∧ SW (Pc r la) T Tc' ∧ RWo mb Tm Tm' ∧ BB r la l f mb tb n ts Tc' Tm' c' W') ∨ (∃ Tc' Tm' fl fp, f_X7_readLines_6 FU T r 0 = some Tc' ∧ f_X12_reads_40 FU Tm mb x1 1 = some (mb, x1, 0, Tm') ∧ SW (Pc r la) T Tc' ∧ RWo mb Tm Tm' ∧ FC r la l ts f Tc' fl fp ∧ mi Tm' mb 49 = fl ∧ mi Tm' mb 50 = fp) := by
  have hb : BB r la l f mb tb n ts T Tm 0 [] := ⟨hc, hv, h0, hm, (fun i hi => (by cases hi)), h42, (fun w hw => (by cases hw)), by show 0 ≤ 24; omega, Nat.le_refl _, Nat.le_refl _⟩
  have h := J_lines (r := r) (la := la) (l := l) (mb := mb) (n := n) (tb := tb) (ts := ts) (f := f) x1 24 FU T Tm 0 [] rfl (by unfold FU; omega) hb
  rw [List.length_nil, nI_0] at h
  exact h
/-- the class's run, up to its lines -/
theorem X_run (b : BS S xb) (ht : mi S xb 7 = nI n) (hB : BTc S xb tb n) (hi : i < 4) (hc : nx S + 1000 ≤ cap S) (hs : sl S + 14000 ≤ 7302250) : ∃ T r la l ts f, TKS tb n 0 ts ∧ ts.length ≤ 601 ∧ PCr r la l ts f T 0 0 [] ∧ LC T la lw0 ∧ mi T la 0 = 0 ∧ Fr (fun z => z = xb) S T ∧ mi T xb 7 = 0 ∧ (∀ k, k ≠ 7 → mi T xb k = mi S xb k) ∧ (XOK T xb ∧ MOK T (xb + 22) ∧ LT0 T ∧ DA T) ∧ nx S ≤ r ∧ nx S < la ∧ nx T ≤ nx S + 950 ∧ sl T ≤ sl S + 13000 ∧ ∀ U V, f_X7_readLines_6 FU T r 0 = some U → SW (Pc r la) T U → V = setI (setI U xb 10 (mi U r 1)) xb 11 (mi U r 2) → (mi U r 1 = 0 → f_X11_reads S xb (nI i) = some (mi U la 0, setR V (xb + 9) i (some la))) ∧ (mi U r 1 ≠ 0 → f_X11_reads S xb (nI i) = some (-1, V)) := by
  have x := b.2.2.1
  have n82 := b.2.2.2.2.2
  obtain ⟨S7, h7⟩ : ∃ S7, S7 = setI S xb 7 0 := ⟨_, rfl⟩
  have F7 : Fr (fun z => z = xb) S S7 := by rw [h7]; exact Fr_setI 7 _ (by rw [x.1]; omega) (fun _ => rfl)
  have b7 : BS S7 xb := by rw [h7]; exact b.si 7 _ (by rw [x.1]; omega)
  have x7 := b7.2.2.1
  have n7 : nx S7 = nx S := by rw [h7]; rfl
  have s7 : sl S7 = sl S := by rw [h7]; rfl
  have c7 : cap S7 = cap S := by rw [h7]; rfl
  have hB7 : BTc S7 xb tb n := ⟨hB.1, fun j hj => by rw [h7, mi_setI_i, if_neg (by omega)]; exact hB.2 j hj⟩
  obtain ⟨A, B, D, T, l, la, ts, f, e1, xA, e2, kB, e3, kD, e4, t1, t2, t3, t4, t5, t6, t7, t8, t9, t10⟩ := X_beg b7 hB7 (by omega) (by omega)
  obtain ⟨y1, y2, y3, -⟩ := fr_bs (tb := tb) (n := n) b7 t6
  have mT : mi T xb = mi S7 xb := (t6.2.2 xb (by omega) (fun z => z)).1
  refine ⟨T, nx S7, la, l, ts, f, t1, t2, t3, t4, t5, F7.tr t6 (fun z _ h => h.elim), ?_, fun k hk => ?_, ⟨y1, y2, y3, t7⟩, by omega, by omega, by omega, by omega, fun U V e5 w hV => ?_⟩
  · rw [mT, h7, mi_setI_i, if_pos ⟨rfl, rfl⟩]
  · rw [mT, h7, mi_setI_i, if_neg (by omega)]
  · have kU := t3.1.sw w
    have xU : XOK U xb := y1.sw w
    have ner : nx S7 ≠ xb := by omega
    have eL : f_X7_readLines D (nx S7) = some U := by
      unfold f_X7_readLines
      simp only [rcv_s kD, e4, Option.bind_some]
      exact e5
    obtain ⟨A1, hA1⟩ : ∃ A1, A1 = setI U xb 10 (mi U (nx S7) 1) := ⟨_, rfl⟩
    have xA1 : XOK A1 xb := by rw [hA1]; exact xU.si _ _ _
    have kA1 : kd A1 (nx S7) = 8 := by rw [hA1]; exact kU.1
    have m2 : mi A1 (nx S7) 2 = mi U (nx S7) 2 := by rw [hA1, mi_setI_i, if_neg (by omega)]
    have hV' : V = setI A1 xb 11 (mi U (nx S7) 2) := by rw [hV, hA1]
    have xVV : XOK V xb := by rw [hV']; exact xA1.si _ _ _
    have kVr : kd V (nx S7) = 8 := by rw [hV']; exact kA1
    have m10 : mi V xb 10 = mi U (nx S7) 1 := by rw [hV', mi_setI_i, if_neg (by omega), hA1, mi_setI_i, if_pos ⟨rfl, rfl⟩]
    have rV0 : mr V (nx S7) 0 = some la := by rw [hV', mr_setI_, hA1, mr_setI_]; exact kU.2.1
    have kVl : kd V la = 7 := by rw [hV', hA1]; exact kU.2.2.2.1
    have mV0 : mi V la 0 = mi U la 0 := by rw [hV', mi_setI_i, if_neg (by omega), hA1, mi_setI_i, if_neg (by omega)]
    have st : stR V (some (xb + 9)) 18 (nI i) (some la) = some (setR V (xb + 9) i (some la)) := by
      show (if kd V (xb + 9) = 18 ∧ inB (nI i) (ln V (xb + 9)) = true ∧ fitR V 18 la = true then _ else none) = _
      rw [if_pos ⟨xK_laws xVV, inB_nI (by rw [xN_laws xVV]; exact hi) (by rw [xN_laws xVV]; omega), by show decide (kd V la = 7) = true; simpa using kVl⟩, nI_clamp (by omega)]
    have hd : ∀ Q, Q = (if mi U (nx S7) 1 = 0 then some (mi U la 0, setR V (xb + 9) i (some la)) else some (-1, V)) → f_X11_reads S xb (nI i) = Q := fun Q hQ => by
      rw [hQ]
      unfold f_X11_reads
      simp only [xI x, xP x, ht, Option.bind_some, ← h7, xR_laws x7, xZ_laws x7, X_isWithin, i01, nI_toInt (show i < 2 ^ 31 by omega), Int32.reduceToInt]
      rw [if_neg (by omega)]
      simp only [e1, Option.bind_some, xR_tape xA, e2, rcv_s kB, e3, rcv_s kD, eL, getI_s kU.1, xP xU, ← hA1, getI_s kA1, m2, xP xA1, ← hV', xI xVV, m10, xR_laws xVV, getR_s kVr, rV0, st]
      have g1 : getR (setR V (xb + 9) i (some la)) (some (nx S7)) 8 0 = some (some la) := by
        rw [getR_s (show kd (setR V (xb + 9) i (some la)) (nx S7) = 8 from kVr), mr_setR_i, if_neg (by omega), rV0]
      have g2 : getI (setR V (xb + 9) i (some la)) (some la) 7 0 = some (mi U la 0) := by
        rw [getI_s (show kd (setR V (xb + 9) i (some la)) la = 7 from kVl), mi_setR_, mV0]
      simp only [g1, g2, Option.bind_some]
    exact ⟨fun z => hd _ (by rw [if_pos z]), fun z => hd _ (by rw [if_neg z])⟩
end Run
