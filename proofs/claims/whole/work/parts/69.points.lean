/-! POINTS -/
abbrev unl (a c : Int32) : Prop := a ≠ -1 ∧ c ≠ -1 ∧ a ≠ c
abbrev dah (a c : Int32) : Prop := a ≠ -1 ∧ c ≠ -1 ∧ a.toInt < c.toInt
abbrev bard (M : MI) (p q : Nat) : Prop := unl (M 5 p) (M 5 q) ∨ unl (M 7 p) (M 7 q) ∨ dah (M 9 p) (M 5 q) ∨ dah (M 9 q) (M 5 p)
abbrev lik (a c : Int32) : Prop := a ≠ -1 ∧ a = c
def pts (M : MI) (p q : Nat) : Int32 := (((if M 4 p = M 4 q then 3 else 0) + (if lik (M 7 p) (M 7 q) then 6 else 0)) + (if lik (M 6 p) (M 6 q) then 1 else 0)) + (if lik (M 5 p) (M 5 q) then 4 else 0)
theorem X_unl (S : St) (a c : Int32) : f_X8_isKnownUnlike S a c = some (if unl a c then 1 else 0) := by
  unfold f_X8_isKnownUnlike
  by_cases c1 : a = -1
  · rw [if_pos c1, if_neg (fun q => q.1 c1)]
  · rw [if_neg c1]
    by_cases c2 : c = -1
    · rw [if_pos c2, if_neg (fun q => q.2.1 c2)]
    · rw [if_neg c2]
      by_cases c3 : a = c
      · rw [if_pos c3, if_neg (fun q => q.2.2 c3)]
      · rw [if_neg c3, if_pos ⟨c1, c2, c3⟩]
theorem M_unl (S : St) (mb : Nat) (a c : Int32) : f_X12_isUnlike S mb a c = some (if unl a c then 1 else 0) := by
  rw [← X_unl S a c]; rfl
theorem X_lik (S : St) (a c : Int32) : f_X8_isKnownAlike S a c = some (if lik a c then 1 else 0) := by
  unfold f_X8_isKnownAlike
  by_cases c1 : a = -1
  · rw [if_pos c1, if_neg (fun q => q.1 c1)]
  · rw [if_neg c1]
    by_cases c3 : a = c
    · rw [if_pos c3, if_pos ⟨c1, c3⟩]
    · rw [if_neg c3, if_neg (fun q => c3 q.2)]
theorem M_lik (S : St) (mb : Nat) (a c : Int32) : f_X12_isLike S mb a c = some (if lik a c then 1 else 0) := by
  rw [← X_lik S a c]; rfl
section Points
variable {S : St} {xb np p q : Nat} {M : MI} {pa : Nat → Nat}
theorem X_dah {a c : Nat} (ha : kd S a = 9) (hc : kd S c = 9) : f_X8_diedAheadOf S a (some c) = some (if dah (mi S a 6) (mi S c 2) then 1 else 0) := by
  unfold f_X8_diedAheadOf
  simp only [getI_s ha, getI_s hc, Option.bind_some, le_i]
  by_cases c1 : mi S a 6 = -1
  · rw [if_pos c1, if_neg (fun q => q.1 c1)]
  · rw [if_neg c1]
    by_cases c2 : mi S c 2 = -1
    · rw [if_pos c2, if_neg (fun q => q.2.1 c2)]
    · rw [if_neg c2]
      by_cases c3 : (mi S c 2).toInt ≤ (mi S a 6).toInt
      · rw [if_pos c3, if_neg (fun q => by have := q.2.2; omega)]
      · rw [if_neg c3, if_pos ⟨c1, c2, by omega⟩]
theorem X_barred (cp : CP S xb M np pa) (hp : p < np) (hq : q < np) : f_X8_isBarredFrom S (pa p) (some (pa q)) = some (if bard M p q then 1 else 0) := by
  have op := cp.2.2.2 p hp
  have oq := cp.2.2.2 q hq
  unfold f_X8_isBarredFrom
  simp only [getI_s op.1, getI_s oq.1, rcv_s op.1, rcv_s oq.1, X_unl, X_dah op.1 oq.1, X_dah oq.1 op.1, op.2.2.2.2.1, oq.2.2.2.2.1, op.2.2.2.2.2.1, oq.2.2.2.2.2.1, op.2.2.2.2.2.2.2.1, oq.2.2.2.2.2.2.2.1, Option.bind_some, i01]
  by_cases c1 : unl (M 5 p) (M 5 q)
  · rw [if_neg (fun z => z c1), if_pos (Or.inl c1)]
  · rw [if_pos c1]
    by_cases c2 : unl (M 7 p) (M 7 q)
    · rw [if_neg (fun z => z c2), if_pos (Or.inr (Or.inl c2))]
    · rw [if_pos c2]
      by_cases c3 : dah (M 9 p) (M 5 q)
      · rw [if_neg (fun z => z c3), if_pos (Or.inr (Or.inr (Or.inl c3)))]
      · rw [if_pos c3]
        by_cases c4 : dah (M 9 q) (M 5 p)
        · rw [if_neg (fun z => z c4), if_pos (Or.inr (Or.inr (Or.inr c4)))]
        · rw [if_pos c4, if_neg]
          rintro (z | z | z | z)
          · exact c1 z
          · exact c2 z
          · exact c3 z
          · exact c4 z
theorem M_barred {T : St} {mb : Nat} (m : MOK T mb) (hp : p < 24) (hq : q < 24) : f_X12_isBarred T mb (nI p) (nI q) = some (if bard (Mi T mb) p q then 1 else 0) := by
  have h75 : f_X12_isBarred_75 T mb (nI p) (nI q) = some (if dah (Mi T mb 9 q) (Mi T mb 5 p) then 1 else 0) := by
    unfold f_X12_isBarred_75
    simp only [mR_died m, mL_died m hq, mR_born m, mL_born m hp, Option.bind_some, le_i]
    show (if Mi T mb 9 q = -1 then _ else if Mi T mb 5 p = -1 then _ else if (Mi T mb 5 p).toInt ≤ (Mi T mb 9 q).toInt then _ else _) = _
    by_cases c1 : Mi T mb 9 q = -1
    · rw [if_pos c1, if_neg (fun q => q.1 c1)]
    · rw [if_neg c1]
      by_cases c2 : Mi T mb 5 p = -1
      · rw [if_pos c2, if_neg (fun q => q.2.1 c2)]
      · rw [if_neg c2]
        by_cases c3 : (Mi T mb 5 p).toInt ≤ (Mi T mb 9 q).toInt
        · rw [if_pos c3, if_neg (fun q => by have := q.2.2; omega)]
        · rw [if_neg c3, if_pos ⟨c1, c2, by omega⟩]
  unfold f_X12_isBarred
  simp only [mR_died m, mL_died m hp, mR_born m, mL_born m hp, mL_born m hq, mR_mark m, mL_mark m hp, mL_mark m hq, mV m, M_unl, h75, Option.bind_some, i01, lt_i]
  show (if ¬ unl (Mi T mb 5 p) (Mi T mb 5 q) then if ¬ unl (Mi T mb 7 p) (Mi T mb 7 q) then if Mi T mb 9 p = -1 then _ else if Mi T mb 5 q = -1 then _ else if (Mi T mb 9 p).toInt < (Mi T mb 5 q).toInt then _ else _ else _ else _) = _
  by_cases c1 : unl (Mi T mb 5 p) (Mi T mb 5 q)
  · rw [if_neg (fun z => z c1), if_pos (Or.inl c1)]
  · rw [if_pos c1]
    by_cases c2 : unl (Mi T mb 7 p) (Mi T mb 7 q)
    · rw [if_neg (fun z => z c2), if_pos (Or.inr (Or.inl c2))]
    · rw [if_pos c2]
      have e : ¬ dah (Mi T mb 9 p) (Mi T mb 5 q) → (if dah (Mi T mb 9 q) (Mi T mb 5 p) then (1 : Int32) else 0) = if bard (Mi T mb) p q then 1 else 0 := fun hn => by
        refine ifc ⟨fun z => Or.inr (Or.inr (Or.inr z)), ?_⟩
        rintro (z | z | z | z)
        · exact absurd z c1
        · exact absurd z c2
        · exact absurd z hn
        · exact z
      by_cases c3 : Mi T mb 9 p = -1
      · rw [if_pos c3, e (fun z => z.1 c3)]
      · rw [if_neg c3]
        by_cases c4 : Mi T mb 5 q = -1
        · rw [if_pos c4, e (fun z => z.2.1 c4)]
        · rw [if_neg c4]
          by_cases c5 : (Mi T mb 9 p).toInt < (Mi T mb 5 q).toInt
          · rw [if_pos c5, if_pos (Or.inr (Or.inr (Or.inl ⟨c3, c4, c5⟩)))]
          · rw [if_neg c5, e (fun z => c5 z.2.2)]
theorem nif {α : Type} {A : Prop} [Decidable A] (a c : α) : (if ¬ A then a else c) = if A then c else a := by
  by_cases z : A
  · rw [if_neg (fun q => q z), if_pos z]
  · rw [if_pos z, if_neg z]
theorem sif {A : Prop} [Decidable A] (x a c : Int32) : (if A then some (x + a) else some (x + c)) = some (x + if A then a else c) := by
  by_cases z : A
  · rw [if_pos z, if_pos z]
  · rw [if_neg z, if_neg z]
theorem fif {A : Prop} [Decidable A] (f : Int32 → Option Int32) (a c : Int32) : (if A then f a else f c) = f (if A then a else c) := by
  by_cases z : A
  · rw [if_pos z, if_pos z]
  · rw [if_neg z, if_neg z]
theorem X_points (cp : CP S xb M np pa) (hp : p < np) (hq : q < np) : f_X8_pointsWith S (pa p) (some (pa q)) = some (pts M p q) := by
  have op := cp.2.2.2 p hp
  have oq := cp.2.2.2 q hq
  have h60 : ∀ t0 t1, f_X8_pointsWith_60 S (pa p) (some (pa q)) t0 t1 = some ((t1 + t0) + if lik (M 5 p) (M 5 q) then 4 else 0) := fun t0 t1 => by
    unfold f_X8_pointsWith_60
    simp only [getI_s op.1, getI_s oq.1, X_lik, op.2.2.2.2.1, oq.2.2.2.2.1, Option.bind_some, i01, nif]
    exact sif _ _ _
  have h38 : ∀ t0 t1, f_X8_pointsWith_38 S (pa p) (some (pa q)) t0 t1 = some (((t1 + t0) + if lik (M 6 p) (M 6 q) then 1 else 0) + if lik (M 5 p) (M 5 q) then 4 else 0) := fun t0 t1 => by
    unfold f_X8_pointsWith_38
    simp only [getI_s op.1, getI_s oq.1, X_lik, op.2.2.2.2.2.2.1, oq.2.2.2.2.2.2.1, Option.bind_some, i01, nif, h60]
    exact fif (fun z => some (((t1 + t0) + z) + if lik (M 5 p) (M 5 q) then 4 else 0)) _ _
  have h16 : ∀ t0, f_X8_pointsWith_16 S (pa p) (some (pa q)) t0 = some (((t0 + if lik (M 7 p) (M 7 q) then 6 else 0) + if lik (M 6 p) (M 6 q) then 1 else 0) + if lik (M 5 p) (M 5 q) then 4 else 0) := fun t0 => by
    unfold f_X8_pointsWith_16
    simp only [getI_s op.1, getI_s oq.1, X_lik, op.2.2.2.2.2.1, oq.2.2.2.2.2.1, Option.bind_some, i01, nif, h38]
    exact fif (fun z => some (((t0 + z) + if lik (M 6 p) (M 6 q) then 1 else 0) + if lik (M 5 p) (M 5 q) then 4 else 0)) _ _
  unfold f_X8_pointsWith pts
  simp only [getI_s op.1, getI_s oq.1, op.2.2.2.1, oq.2.2.2.1, Option.bind_some, h16]
  exact fif (fun z => some (((z + if lik (M 7 p) (M 7 q) then 6 else 0) + if lik (M 6 p) (M 6 q) then 1 else 0) + if lik (M 5 p) (M 5 q) then 4 else 0)) _ _
theorem M_points {T : St} {mb : Nat} (m : MOK T mb) (hp : p < 24) (hq : q < 24) : f_X12_pointsOf T mb (nI p) (nI q) = some (pts (Mi T mb) p q) := by
  have h60 : ∀ t0 t1, f_X12_pointsOf_70 T mb (nI p) (nI q) t0 t1 = some ((t1 + t0) + if lik (Mi T mb 5 p) (Mi T mb 5 q) then 4 else 0) := fun t0 t1 => by
    unfold f_X12_pointsOf_70
    simp only [mR_born m, mL_born m hp, mL_born m hq, mV m, M_lik, Option.bind_some, i01, nif]
    exact sif _ _ _
  have h38 : ∀ t0 t1, f_X12_pointsOf_45 T mb (nI p) (nI q) t0 t1 = some (((t1 + t0) + if lik (Mi T mb 6 p) (Mi T mb 6 q) then 1 else 0) + if lik (Mi T mb 5 p) (Mi T mb 5 q) then 4 else 0) := fun t0 t1 => by
    unfold f_X12_pointsOf_45
    simp only [mR_home m, mL_home m hp, mL_home m hq, mV m, M_lik, Option.bind_some, i01, nif, h60]
    exact fif (fun z => some (((t1 + t0) + z) + if lik (Mi T mb 5 p) (Mi T mb 5 q) then 4 else 0)) _ _
  have h16 : ∀ t0, f_X12_pointsOf_20 T mb (nI p) (nI q) t0 = some (((t0 + if lik (Mi T mb 7 p) (Mi T mb 7 q) then 6 else 0) + if lik (Mi T mb 6 p) (Mi T mb 6 q) then 1 else 0) + if lik (Mi T mb 5 p) (Mi T mb 5 q) then 4 else 0) := fun t0 => by
    unfold f_X12_pointsOf_20
    simp only [mR_mark m, mL_mark m hp, mL_mark m hq, mV m, M_lik, Option.bind_some, i01, nif, h38]
    exact fif (fun z => some (((t0 + z) + if lik (Mi T mb 6 p) (Mi T mb 6 q) then 1 else 0) + if lik (Mi T mb 5 p) (Mi T mb 5 q) then 4 else 0)) _ _
  unfold f_X12_pointsOf pts
  simp only [mR_name m, mL_name m hp, mL_name m hq, Option.bind_some, h16]
  exact fif (fun z => some (((z + if lik (Mi T mb 7 p) (Mi T mb 7 q) then 6 else 0) + if lik (Mi T mb 6 p) (Mi T mb 6 q) then 1 else 0) + if lik (Mi T mb 5 p) (Mi T mb 5 q) then 4 else 0)) _ _
end Points
theorem op_points {S : St} {xb k : Nat} (h : JJ S xb (k + 1)) (p q : Int32) : ∃ r, f_X11_points S xb p q = some r ∧ f_X12_points S (xb + 22) p q = some r := by
  obtain ⟨⟨g', j⟩, rm1, rm2⟩ := id h
  obtain ⟨nf, fa, np, pa, na, aa, ne, ea, il, nc, ca, rfl, b, c0, ct, cy, cf, cp, cn, ca', ce, cc, cl⟩ := j.op
  have x := b.2.2.1
  have m := b.2.2.2.1
  have p1 : mi S (xb + 22) 2 = nI np := cp.1
  have n24 := cp.2.1
  rcases ixc p (n := np) (by omega) with ⟨i, hi, rfl⟩ | c1
  · have hk := (cp.2.2.2 i hi).1
    rcases ixc q (n := np) (by omega) with ⟨o, ho, rfl⟩ | c2
    · have hko := (cp.2.2.2 o ho).1
      unfold f_X11_points f_X12_points
      simp only [xV x, mV m, X_personAt x cp.2.2.1 hk hi, X_personAt x cp.2.2.1 hko ho, M_isPerson m p1 (by omega) hi, M_isPerson m p1 (by omega) ho, Option.bind_some, if_neg (show ¬ (some (pa i) = none) by simp), if_neg (show ¬ (some (pa o) = none) by simp), rcv_s hk, X_barred cp hi ho, X_points cp hi ho, M_barred m (show i < 24 by omega) (show o < 24 by omega), M_points m (show i < 24 by omega) (show o < 24 by omega), i01]
      rw [if_neg (show ¬ ((1 : Int32) = 0) by decide), if_neg (show ¬ ((1 : Int32) = 0) by decide)]
      by_cases c3 : i = o
      · rw [if_pos (by rw [c3]), if_pos (by rw [c3])]
        exact ⟨_, rfl, rfl⟩
      · rw [if_neg (fun z => c3 (cp.inj hi ho (Option.some.inj z))), if_neg (fun z => c3 ((nI_eq (by omega) (by omega)).mp z))]
        by_cases c4 : bard (Mi S (xb + 22)) i o
        · rw [if_neg (fun z => z c4)]
          exact ⟨_, rfl, rfl⟩
        · rw [if_pos c4]
          exact ⟨_, rfl, rfl⟩
    · refine ⟨-2, ?_, ?_⟩
      · unfold f_X11_points
        simp only [xV x, X_personAt x cp.2.2.1 hk hi, X_personAt_n x cp.2.2.1 c2, Option.bind_some, if_neg (show ¬ (some (pa i) = none) by simp), if_true]
      · unfold f_X12_points
        simp only [mV m, M_isPerson m p1 (by omega) hi, M_isPerson_n m p1 (by omega) c2, Option.bind_some, if_true]
        rw [if_neg (by decide)]
  · refine ⟨-2, ?_, ?_⟩
    · unfold f_X11_points
      rcases ixc q (n := np) (by omega) with ⟨o, ho, rfl⟩ | c2
      · simp only [xV x, X_personAt_n x cp.2.2.1 c1, X_personAt x cp.2.2.1 (cp.2.2.2 o ho).1 ho, Option.bind_some, if_true]
      · simp only [xV x, X_personAt_n x cp.2.2.1 c1, X_personAt_n x cp.2.2.1 c2, Option.bind_some, if_true]
    · unfold f_X12_points
      simp only [mV m, M_isPerson_n m p1 (by omega) c1, Option.bind_some, if_true]
