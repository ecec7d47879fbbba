/-! LISTS: add at a place -/
def insF (f : Nat → Nat) (p v : Nat) : Nat → Nat := fun i => if i < p then f i else if i = p then v else f (i - 1)
theorem L_ins {S : St} {l n v p : Nat} {f : Nat → Nat} (h : LI S l n f) (hp : p ≤ n) (w : WFS S) (hv : kd S v < 14) (hn : n < 10000) (hc : nx S + 1 ≤ cap S) (hs : sl S + 2 * n + 10 ≤ 7302250) : ∃ S', f_Jx4a65c_add_7a177 S l (nI p) (some v) = some S' ∧ LI S' l (n + 1) (insF f p v) ∧ Fr (fun a => a = l ∨ mr S l 1 = some a ∧ kd S a = 20) S S' ∧ nx S' ≤ nx S + 1 ∧ sl S' ≤ sl S + (2 * n + 10) ∧ (DA S → DA S') ∧ (∀ a, a ≠ l → a < nx S → mi S' a = mi S a) ∧ (∀ a, kd S' a = kd S a ∨ kd S' a = 20) := by
  obtain ⟨a1, a2, a3, ⟨e, a4, a5, a6⟩, a7⟩ := h
  have hl : l < nx S := w.lt (by omega)
  have hvn : v < nx S := w.lt (by omega)
  unfold f_Jx4a65c_add_7a177 f_Jx4a65c_rangeCheckForAdd_d00df
  simp only [rcv_s a1, getI_s a1, a2, putI_s a1, Option.bind_some]
  rw [if_neg (nI_nlt hp (by omega)), if_pos (nI_pos' (by omega))]
  simp only [Option.bind_some]
  generalize hT : setI S l 0 (mi S l 0 + 1) = T
  have t1 : kd T = kd S := by rw [← hT]; rfl
  have t2 : ln T = ln S := by rw [← hT]; rfl
  have t3 : mr T = mr S := by rw [← hT]; rfl
  have t4 : mi T l 2 = nI n := by rw [← hT, mi_setI_i, if_neg (by omega), a2]
  have t5 : nx T = nx S := by rw [← hT]; rfl
  have t6 : sl T = sl S := by rw [← hT]; rfl
  have t7 : cap T = cap S := by rw [← hT]; rfl
  have t8 : emp T = emp S := by rw [← hT]; rfl
  have t9 : ∀ a, a ≠ l → mi T a = mi S a := fun a ha => by rw [← hT]; funext j; rw [mi_setI_i, if_neg (fun q => ha q.1)]
  have tF : Fr (fun a => a = l) S T := hT ▸ Fr_setI 0 _ (by omega) (fun _ => rfl)
  have k1 : kd T l = 0 := by rw [t1, a1]
  have hLT : LI T l n f := ⟨k1, t4, a3, ⟨e, by rw [t3, a4], by rw [t1, t2, t8]; exact a5, by rw [t3]; exact a6⟩, by rw [t1]; exact a7⟩
  have wT : WFS T := tF.2.1 w
  simp only [getR_s k1, getI_s k1, t3, a4, t4, Option.bind_some, rcv_s k1]
  by_cases c : kd S e = 20 ∧ n < ln S e
  · obtain ⟨c1, c2⟩ := c
    have c3 : ln S e < 100000 := by
      rcases a5 with q | q
      · omega
      · exact q.2.2.2
    rw [alen_s (n := ln S e) (by rw [t1, c1]; omega) (by rw [t2])]
    simp only [Option.bind_some]
    rw [if_neg (by rw [nI_eq (by omega) (by omega)]; omega)]
    unfold f_Jx4a65c_add_7a177_38
    have e0 : acopy T (some e) (nI p) (some e) (nI p + 1) (nI n - nI p) = some (cpyR T e p e (p + 1) (n - p)) := by
      rw [nI_1, pk_sub hp]
      exact acopy_s (by rw [t1, c1]) (by rw [t1, c1]) (by omega) (by rw [t2]; omega) (by rw [t2]; omega) (okE_of (n := n) (by rw [t3]; exact a6) (by rw [t1]; exact a7) p (n - p) (by omega))
    simp only [e0, Option.bind_some]
    generalize hC : cpyR T e p e (p + 1) (n - p) = C
    have u1 : kd C = kd T := by rw [← hC]; rfl
    have u2 : ln C = ln T := by rw [← hC]; rfl
    have u3 : ∀ a j, a ≠ e → mr C a j = mr T a j := fun a j ha => by
      rw [← hC]
      show (if a = e ∧ _ then _ else _) = _
      rw [if_neg (fun q => ha q.1)]
    have u4 : ∀ j, j < p → mr C e j = some (f j) := fun j hj => by
      rw [← hC]
      show (if e = e ∧ p + 1 ≤ j ∧ _ then _ else mr T e j) = _
      rw [if_neg (fun q => by omega), t3, a6 j (by omega)]
    have u5 : ∀ j, p < j → j < n + 1 → mr C e j = some (f (j - 1)) := fun j hj hj2 => by
      rw [← hC]
      show (if e = e ∧ p + 1 ≤ j ∧ j < p + 1 + (n - p) then mr T e (p + (j - (p + 1))) else _) = _
      rw [if_pos ⟨rfl, by omega, by omega⟩, t3, show p + (j - (p + 1)) = j - 1 by omega, a6 (j - 1) (by omega)]
    have e1 : stR C (some e) 20 (nI p) (some v) = some (setR C e p (some v)) := by
      show (if kd C e = 20 ∧ inB (nI p) (ln C e) = true ∧ fitR C 20 v = true then _ else none) = _
      rw [if_pos ⟨by rw [u1, t1, c1], inB_nI (by rw [u2, t2]; omega) (by rw [u2, t2]; omega), by show decide (kd C v < 14) = true; rw [u1, t1]; simpa using hv⟩, nI_clamp (by omega)]
    simp only [e1, Option.bind_some]
    have k2 : kd (setR C e p (some v)) l = 0 := by show kd C l = 0; rw [u1, k1]
    rw [putI_s k2]
    have v1 : nx C = nx T := by rw [← hC]; rfl
    have v2 : sl C = sl T := by rw [← hC]; rfl
    have v3 : mi C = mi T := by rw [← hC]; rfl
    have hle : l ≠ e := fun q => by rw [q] at a1; omega
    refine ⟨_, rfl, ?_, ?_, by show nx C ≤ _; omega, by show sl C ≤ _; omega, ?_, ?_, fun a => Or.inl (by show kd C a = _; rw [u1, t1])⟩
    · refine ⟨k2, ?_, by omega, ⟨e, ?_, Or.inr ⟨by show kd C e = 20; rw [u1, t1, c1], by show n + 1 ≤ ln C e; rw [u2, t2]; omega, by show 0 < ln C e; rw [u2, t2]; omega, by show ln C e < _; rw [u2, t2]; omega⟩, fun i hi => ?_⟩, fun i hi => ?_⟩
      · rw [mi_setI_i, if_pos ⟨rfl, rfl⟩, nI_1]
      · rw [mr_setI_, mr_setR_i, if_neg (fun q => hle q.1), u3 l 1 hle, t3, a4]
      · rw [mr_setI_, mr_setR_i]
        unfold insF
        by_cases c1 : i = p
        · rw [if_pos ⟨rfl, c1⟩, if_neg (by omega), if_pos c1]
        · rw [if_neg (fun q => c1 q.2)]
          by_cases c2 : i < p
          · rw [if_pos c2, u4 i c2]
          · rw [if_neg c2, if_neg c1, u5 i (by omega) hi]
      · show kd C (insF f p v i) < 14
        rw [u1, t1]
        unfold insF
        repeat' split
        · exact a7 i (by omega)
        · exact hv
        · exact a7 (i - 1) (by omega)
    · have uF : Fr (fun a => some e = some a ∧ kd S a = 20) T C := hC ▸ Fr_cpyR e p (p + 1) (n - p) (by rw [t1]; omega) (fun _ => ⟨rfl, c1⟩)
      exact (((tF.mono (fun a _ q => Or.inl q)).tr uF (fun a _ q => Or.inr q)).tr (Fr_setR (P := fun a => some e = some a ∧ kd S a = 20) p (some v) (by rw [u1, t1]; omega) (fun _ => ⟨rfl, c1⟩)) (fun a _ q => Or.inr q)).tr (Fr_setI (P := fun a => a = l) 2 _ (by rw [k2]; omega) (fun _ => rfl)) (fun a _ q => Or.inl q)
    · rintro ⟨d0, d⟩
      have hne : ∀ q : Nat, kd S q = 0 → mr (setI (setR C e p (some v)) l 2 (nI n + 1)) q 1 = mr S q 1 := fun q hq => by
        have hqe : q ≠ e := fun z => by rw [z] at hq; omega
        rw [mr_setI_, mr_setR_i, if_neg (fun z => hqe z.1), u3 q 1 hqe, t3]
      have hkk : kd (setI (setR C e p (some v)) l 2 (nI n + 1)) = kd S := by show kd C = _; rw [u1, t1]
      refine ⟨fun q e' h1 h2 => ?_, fun l1 l2 e' h1 h2 h3 h4 h5 => ?_⟩
      · rw [hkk] at h1 ⊢
        rw [hne q h1] at h2
        exact d0 q e' h1 h2
      · rw [hkk] at h1 h2 h5
        rw [hne l1 h1] at h3
        rw [hne l2 h2] at h4
        exact d l1 l2 e' h1 h2 h3 h4 h5
    · intro a ha _
      funext j
      rw [mi_setI_i, if_neg (fun q => ha q.1)]
      show mi C a j = _
      rw [v3, t9 a ha]
  · have hfull : ∀ e', mr T l 1 = some e' → kd T e' = 20 → ln T e' = n := by
      intro e' h1 h2
      rw [t3, a4] at h1
      cases h1
      rw [t1] at h2
      rw [t2]
      rcases a5 with q | q
      · omega
      · have := q.2.1
        have : ¬ n < ln S e := fun q => c ⟨h2, q⟩
        omega
    have hal : alen T (some e) = some (nI n) := by
      rcases a5 with ⟨q1, q2, q3⟩ | q
      · show (if kd T e = 21 then some 0 else _) = _
        rw [t1, if_pos q3, q1]; rfl
      · exact alen_s (by rw [t1]; omega) (hfull e (by rw [t3, a4]) (by rw [t1]; exact q.1))
    rw [hal]
    simp only [Option.bind_some, if_true, rcv_s k1]
    obtain ⟨U, m, g1, g2, g3, g4, g5, g6, g7, g8, g9, g10, g11, g12, g13⟩ := L_grow hLT wT hn (by rw [t5, t7]; exact hc) (by rw [t6]; exact hs) hfull
    rw [g1]
    simp only [Option.bind_some]
    unfold f_Jx4a65c_add_7a177_38
    have hkf : ∀ i, i < n → kd U (f i) < 14 := fun i hi => by
      have := a7 i hi
      have := w.lt (a := f i) (by omega)
      rw [g11 (f i) (by omega), t1]; assumption
    have e0 : acopy U (some (nx T)) (nI p) (some (nx T)) (nI p + 1) (nI n - nI p) = some (cpyR U (nx T) p (nx T) (p + 1) (n - p)) := by
      rw [nI_1, pk_sub hp]
      exact acopy_s g6 g6 (by omega) (by omega) (by omega) (okE_of g8 hkf p (n - p) (by omega))
    simp only [e0, Option.bind_some]
    generalize hC : cpyR U (nx T) p (nx T) (p + 1) (n - p) = C
    have u1 : kd C = kd U := by rw [← hC]; rfl
    have u2 : ln C = ln U := by rw [← hC]; rfl
    have u3 : ∀ a j, a ≠ nx T → mr C a j = mr U a j := fun a j ha => by
      rw [← hC]
      show (if a = nx T ∧ _ then _ else _) = _
      rw [if_neg (fun q => ha q.1)]
    have u4 : ∀ j, j < p → mr C (nx T) j = some (f j) := fun j hj => by
      rw [← hC]
      show (if nx T = nx T ∧ p + 1 ≤ j ∧ _ then _ else mr U (nx T) j) = _
      rw [if_neg (fun q => by omega), g8 j (by omega)]
    have u5 : ∀ j, p < j → j < n + 1 → mr C (nx T) j = some (f (j - 1)) := fun j hj hj2 => by
      rw [← hC]
      show (if nx T = nx T ∧ p + 1 ≤ j ∧ j < p + 1 + (n - p) then mr U (nx T) (p + (j - (p + 1))) else _) = _
      rw [if_pos ⟨rfl, by omega, by omega⟩, show p + (j - (p + 1)) = j - 1 by omega, g8 (j - 1) (by omega)]
    have v1 : nx C = nx U := by rw [← hC]; rfl
    have v2 : sl C = sl U := by rw [← hC]; rfl
    have v3 : mi C = mi U := by rw [← hC]; rfl
    have e1 : stR C (some (nx T)) 20 (nI p) (some v) = some (setR C (nx T) p (some v)) := by
      show (if kd C (nx T) = 20 ∧ inB (nI p) (ln C (nx T)) = true ∧ fitR C 20 v = true then _ else none) = _
      rw [if_pos ⟨by rw [u1, g6], inB_nI (by rw [u2]; omega) (by rw [u2]; omega), by show decide (kd C v < 14) = true; rw [u1, g11 v (by omega), t1]; simpa using hv⟩, nI_clamp (by omega)]
    simp only [e1, Option.bind_some]
    have hlT : l ≠ nx T := by omega
    have k2 : kd (setR C (nx T) p (some v)) l = 0 := by show kd C l = 0; rw [u1, g11 l hlT, k1]
    rw [putI_s k2]
    refine ⟨_, rfl, ?_, ?_, by show nx C ≤ _; omega, by show sl C ≤ _; omega, ?_, ?_, ?_⟩
    · refine ⟨k2, ?_, by omega, ⟨nx T, ?_, Or.inr ⟨by show kd C (nx T) = 20; rw [u1, g6], by show n + 1 ≤ ln C (nx T); rw [u2]; omega, by show 0 < ln C (nx T); rw [u2]; omega, by show ln C (nx T) < _; rw [u2]; omega⟩, fun i hi => ?_⟩, fun i hi => ?_⟩
      · rw [mi_setI_i, if_pos ⟨rfl, rfl⟩, nI_1]
      · rw [mr_setI_, mr_setR_i, if_neg (fun q => hlT q.1), u3 l 1 hlT, g9]
      · rw [mr_setI_, mr_setR_i]
        unfold insF
        by_cases c1 : i = p
        · rw [if_pos ⟨rfl, c1⟩, if_neg (by omega), if_pos c1]
        · rw [if_neg (fun q => c1 q.2)]
          by_cases c2 : i < p
          · rw [if_pos c2, u4 i c2]
          · rw [if_neg c2, if_neg c1, u5 i (by omega) hi]
      · show kd C (insF f p v i) < 14
        rw [u1]
        unfold insF
        repeat' split
        · exact hkf i (by omega)
        · rw [g11 v (by omega), t1]; exact hv
        · exact hkf (i - 1) (by omega)
    · have uF : Fr (fun a => a = nx T) U C := hC ▸ Fr_cpyR (nx T) p (p + 1) (n - p) (by omega) (fun _ => rfl)
      refine (((tF.mono (fun a _ q => Or.inl q)).tr g13 (fun a _ q => Or.inl q)).tr (uF.tr (Fr_setR (P := fun a => a = nx T) p (some v) (by rw [u1]; omega) (fun _ => rfl)) (fun a _ q => q)) (fun a h1 h2 => ?_)).tr (Fr_setI (P := fun a => a = l) 2 _ (by rw [k2]; omega) (fun _ => rfl)) (fun a _ q => Or.inl q)
      omega
    · rintro ⟨d0, d⟩
      have hk0 : ∀ q : Nat, kd U q = 0 → q ≠ nx T ∧ kd S q = 0 := fun q hq => by
        have h1 : q ≠ nx T := fun z => by rw [z] at hq; omega
        exact ⟨h1, by rw [g11 q h1, t1] at hq; exact hq⟩
      have hmr : ∀ q : Nat, kd U q = 0 → mr (setI (setR C (nx T) p (some v)) l 2 (nI n + 1)) q 1 = if q = l then some (nx T) else mr S q 1 := fun q hq => by
        obtain ⟨h1, h2⟩ := hk0 q hq
        rw [mr_setI_, mr_setR_i, if_neg (fun z => h1 z.1), u3 q 1 h1]
        by_cases c : q = l
        · rw [if_pos c, c, g9]
        · rw [if_neg c, g12 q 1 h1 (fun z => absurd z c), t3]
      refine ⟨fun q e' h1 h2 => ?_, fun l1 l2 e' h1 h2 h3 h4 h5 => ?_⟩
      · change kd C q = 0 at h1
        show kd C e' < 99
        rw [u1] at h1 ⊢
        rw [hmr q h1] at h2
        by_cases c : q = l
        · rw [if_pos c] at h2
          cases h2; omega
        · rw [if_neg c] at h2
          have := d0 q e' (hk0 q h1).2 h2
          have := w.lt this
          rw [g11 e' (by omega), t1]; assumption
      · change kd C l1 = 0 at h1
        change kd C l2 = 0 at h2
        change kd C e' = 20 at h5
        rw [u1] at h1 h2 h5
        rw [hmr l1 h1] at h3
        rw [hmr l2 h2] at h4
        by_cases c1 : l1 = l
        · by_cases c2 : l2 = l
          · rw [c1, c2]
          · rw [if_pos c1] at h3
            rw [if_neg c2] at h4
            cases h3
            have := w.lt (d0 l2 _ (hk0 l2 h2).2 h4)
            omega
        · rw [if_neg c1] at h3
          by_cases c2 : l2 = l
          · rw [if_pos c2] at h4
            cases h4
            have := w.lt (d0 l1 _ (hk0 l1 h1).2 h3)
            omega
          · rw [if_neg c2] at h4
            have h6 := w.lt (d0 l1 _ (hk0 l1 h1).2 h3)
            exact d l1 l2 e' (hk0 l1 h1).2 (hk0 l2 h2).2 h3 h4 (by rw [g11 e' (by omega), t1] at h5; exact h5)
    · intro a ha h2
      funext j
      rw [mi_setI_i, if_neg (fun q => ha q.1)]
      show mi C a j = _
      rw [v3, g10 a (by omega), t9 a ha]
    · intro a
      show kd C a = _ ∨ kd C a = _
      rw [u1]
      by_cases c : a = nx T
      · right; rw [c, g6]
      · left; rw [g11 a c, t1]
