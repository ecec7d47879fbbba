/-! LISTS: add, with the room that it takes -/
def LRw (S : St) (l r : Nat) : Prop := ∃ e, mr S l 1 = some e ∧ (kd S e = 21 ∧ r = 0 ∨ kd S e = 20 ∧ ln S e = r)
theorem L_grow2 {S : St} {l n : Nat} {f : Nat → Nat} (h : LI S l n f) (w : WFS S) (hn : n < 10000) (hc : nx S + 1 ≤ cap S) (hs : sl S + 2 * n + 10 ≤ 7302250) (hfull : ∀ e, mr S l 1 = some e → kd S e = 20 → ln S e = n) : ∃ S' m, f_Jx4a65c_grow_d5877 S l = some (some (nx S), S') ∧ nx S' = nx S + 1 ∧ sl S' = sl S + m ∧ n < m ∧ (m ≤ 2 * n + 10 ∧ m = if n = 0 then 10 else n + max 1 (n / 2)) ∧ kd S' (nx S) = 20 ∧ ln S' (nx S) = m ∧ (∀ i, i < n → mr S' (nx S) i = some (f i)) ∧ mr S' l 1 = some (nx S) ∧ (∀ a, a < nx S → mi S' a = mi S a) ∧ (∀ a, a ≠ nx S → kd S' a = kd S a) ∧ (∀ a j, a ≠ nx S → (a = l → j ≠ 1) → mr S' a j = mr S a j) ∧ Fr (fun a => a = l) S S' := by
  obtain ⟨a1, a2, a3, ⟨e, a4, a5, a6⟩, a7⟩ := h
  have hl : l < nx S := w.lt (by omega)
  have hle : l ≠ nx S := by omega
  unfold f_Jx4a65c_grow_d5877
  simp only [getI_s a1, a2, Option.bind_some, rcv_s a1, nI_1]
  unfold f_Jx4a65c_grow_92f84
  simp only [getR_s a1, a4, Option.bind_some]
  rcases a5 with ⟨rfl, rfl, c3⟩ | ⟨c1, c2, c3, c4⟩
  · have e1 : alen S (some (emp S)) = some 0 := if_pos c3
    have e2 : f_J9_max_7cf53 S 10 (nI (0 + 1)) = some (nI 10) := rfl
    simp only [e1, Option.bind_some, if_true, e2]
    rw [if_neg (by decide)]
    rw [newA_s (n := 10) (by decide) hc (by omega)]
    simp only [Option.bind_some]
    have k1 : kd (mk0 S 10 20 10) l = 0 := by rw [kd_mk0, if_neg hle, a1]
    rw [putR_s k1]
    refine ⟨_, 10, rfl, rfl, rfl, by omega, ⟨by omega, rfl⟩, ?_, ?_, fun i hi => absurd hi (by omega), ?_, fun a ha => ?_, fun a ha => ?_, fun a j ha hj => ?_, ?_⟩
    · rw [kd_setR, kd_mk0, if_pos rfl]
    · rw [ln_setR, ln_mk0, if_pos rfl]
    · rw [mr_setR_i, if_pos ⟨rfl, rfl⟩]
    · funext j; rw [mi_setR_, mi_mk0, if_neg (by omega)]
    · rw [kd_setR, kd_mk0, if_neg ha]
    · rw [mr_setR_i, if_neg (fun q => hj q.1 q.2), mr_mk0, if_neg ha]
    · exact (Fr_mk0 S 10 20 10).tr (Fr_setR 1 _ (by rw [k1]; omega) (fun _ => rfl)) (fun a _ q => q.symm)
  · have hfn := hfull e a4 c1
    have hle2 : e < nx S := w.lt (by omega)
    have e1 : alen S (some e) = some (nI n) := by
      unfold alen
      simp only [c1, hfn]
      rfl
    simp only [e1, Option.bind_some]
    rw [if_pos (by rw [lt_i, nI_toInt (by omega)]; show (0 : Int) < _; omega)]
    unfold f_Jx4a65c_grow_92f84_20
    rw [pk_sub (by omega), show n + 1 - n = 1 by omega, shr1 (by omega), newLen (by omega)]
    simp only [Option.bind_some, getR_s a1, a4]
    unfold f_J7_copyOf_1904c f_J7_copyOf_6403c
    have e3 : gcls S (some e) = some (some (lit S 15)) := if_pos c1
    simp only [e3, Option.bind_some, if_true]
    have hm : n + max 1 (n / 2) ≤ 2 * n + 10 := by omega
    generalize hM : n + max 1 (n / 2) = m at hm
    have hm2 : n < m := by omega
    rw [newA_s (by omega) hc (by omega)]
    simp only [Option.bind_some]
    have k1 : kd (mk0 S m 20 m) e = 20 := by rw [kd_mk0, if_neg (by omega), c1]
    have k2 : kd (mk0 S m 20 m) (nx S) = 20 := by rw [kd_mk0, if_pos rfl]
    have k3 : kd (mk0 S m 20 m) l = 0 := by rw [kd_mk0, if_neg hle, a1]
    have l1 : ln (mk0 S m 20 m) e = n := by rw [ln_mk0, if_neg (by omega), hfn]
    have l2 : ln (mk0 S m 20 m) (nx S) = m := by rw [ln_mk0, if_pos rfl]
    have e4 : alen (mk0 S m 20 m) (some e) = some (nI n) := by
      unfold alen
      simp only [k1, l1]
      rfl
    have e5 : f_J9_min_7cf53 (mk0 S m 20 m) (nI n) (nI m) = some (nI n) := by
      unfold f_J9_min_7cf53
      rw [if_neg (nI_nlt (by omega) (by omega))]
    simp only [e4, e5, Option.bind_some]
    have r1 : ∀ i, i < n → mr (mk0 S m 20 m) e i = some (f i) := fun i hi => by rw [mr_mk0, if_neg (by omega), a6 i hi]
    have r2 : ∀ i, i < n → kd (mk0 S m 20 m) (f i) < 14 := fun i hi => by
      have := a7 i hi
      rw [kd_mk0, if_neg (by have := w.lt (a := f i) (by omega); omega)]; exact this
    have e6 : acopy (mk0 S m 20 m) (some e) 0 (some (nx S)) 0 (nI n) = some (cpyR (mk0 S m 20 m) e 0 (nx S) 0 n) := acopy_s (sp := 0) (dp := 0) k1 k2 (by omega) (by omega) (by omega) (okE_of r1 r2 0 n (by omega))
    simp only [e6, Option.bind_some]
    rw [putR_s (show kd (cpyR (mk0 S m 20 m) e 0 (nx S) 0 n) l = 0 from k3)]
    refine ⟨_, m, rfl, rfl, rfl, hm2, ⟨hm, by rw [if_neg (by omega)]⟩, k2, l2, fun i hi => ?_, ?_, fun a ha => ?_, fun a ha => ?_, fun a j ha hj => ?_, ?_⟩
    · rw [mr_setR_i, if_neg (by omega)]
      show (if nx S = nx S ∧ 0 ≤ i ∧ i < 0 + n then mr (mk0 S m 20 m) e (0 + (i - 0)) else _) = _
      rw [if_pos ⟨rfl, by omega, by omega⟩, Nat.zero_add, Nat.sub_zero]; exact r1 i hi
    · rw [mr_setR_i, if_pos ⟨rfl, rfl⟩]
    · funext j
      show mi (mk0 S m 20 m) a j = mi S a j
      rw [mi_mk0, if_neg (by omega)]
    · show kd (mk0 S m 20 m) a = kd S a
      rw [kd_mk0, if_neg ha]
    · rw [mr_setR_i, if_neg (fun q => hj q.1 q.2)]
      show (if a = nx S ∧ _ then _ else mr (mk0 S m 20 m) a j) = _
      rw [if_neg (fun q => ha q.1), mr_mk0, if_neg ha]
    · refine ((Fr_mk0 S m 20 m).tr (Fr_cpyR (P := fun a => a = nx S) e 0 0 n (by omega) (fun _ => rfl)) (fun a h1 h2 => ?_)).tr (Fr_setR 1 _ (by show kd (mk0 S m 20 m) l ≤ 20; omega) (fun _ => rfl)) (fun a _ q => q.symm)
      omega
theorem L_add2 {S : St} {l n v : Nat} {f : Nat → Nat} {r : Nat} (h : LI S l n f) (hrw : LRw S l r) (w : WFS S) (hv : kd S v < 14) (hn : n < 10000) (hc : nx S + 1 ≤ cap S) (hs : sl S + 2 * n + 10 ≤ 7302250) : ∃ S', f_Jx4a65c_add_9ea2d S l (some v) = some (1, S') ∧ (n < r ∧ nx S' = nx S ∧ sl S' = sl S ∧ LRw S' l r ∨ r = n ∧ nx S' = nx S + 1 ∧ ∃ m, (m = if n = 0 then 10 else n + max 1 (n / 2)) ∧ sl S' = sl S + m ∧ LRw S' l m) ∧ (∀ e, mr S' l 1 = some e → mr S l 1 = some e ∨ nx S ≤ e) ∧ LI S' l (n + 1) (up1 f n v) ∧ Fr (fun a => a = l ∨ mr S l 1 = some a ∧ kd S a = 20) S S' ∧ nx S' ≤ nx S + 1 ∧ sl S' ≤ sl S + (2 * n + 10) ∧ (DA S → DA S') ∧ (∀ a, a ≠ l → a < nx S → mi S' a = mi S a) ∧ (∀ a, kd S' a = kd S a ∨ kd S' a = 20) := by
  obtain ⟨a1, a2, a3, ⟨e, a4, a5, a6⟩, a7⟩ := h
  obtain ⟨e0, w1, w2⟩ := hrw
  have e00 : e0 = e := by rw [a4] at w1; exact (Option.some.inj w1).symm
  rw [e00] at w2
  clear w1 e00
  have hl : l < nx S := w.lt (by omega)
  have hvn : v < nx S := w.lt (by omega)
  unfold f_Jx4a65c_add_9ea2d
  simp only [getI_s a1, putI_s a1, Option.bind_some]
  generalize hT : setI S l 0 (mi S l 0 + 1) = T
  have t1 : kd T = kd S := by rw [← hT]; rfl
  have t2 : ln T = ln S := by rw [← hT]; rfl
  have t3 : mr T = mr S := by rw [← hT]; rfl
  have t4 : mi T l 2 = nI n := by rw [← hT, mi_setI_i, if_neg (by omega), a2]
  have t5 : nx T = nx S := by rw [← hT]; rfl
  have t6 : sl T = sl S := by rw [← hT]; rfl
  have t7 : cap T = cap S := by rw [← hT]; rfl
  have t8 : emp T = emp S := by rw [← hT]; rfl
  have t9 : ∀ a, a ≠ l → mi T a = mi S a := fun a ha => by rw [← hT]; funext j; rw [mi_setI_i, if_neg (fun q => ha q.1)]
  have tF : Fr (fun a => a = l) S T := hT ▸ Fr_setI 0 _ (by omega) (fun _ => rfl)
  have k1 : kd T l = 0 := by rw [t1, a1]
  have hLT : LI T l n f := ⟨k1, t4, a3, ⟨e, by rw [t3, a4], by rw [t1, t2, t8]; exact a5, by rw [t3]; exact a6⟩, by rw [t1]; exact a7⟩
  have wT : WFS T := tF.2.1 w
  simp only [getR_s k1, getI_s k1, t3, a4, t4, Option.bind_some, rcv_s k1]
  unfold f_Jx4a65c_add_72be8
  by_cases c : kd S e = 20 ∧ n < ln S e
  · obtain ⟨c1, c2⟩ := c
    have c3 : ln S e < 100000 := by
      rcases a5 with q | q
      · omega
      · exact q.2.2.2
    rw [alen_s (n := ln S e) (by rw [t1, c1]; omega) (by rw [t2])]
    simp only [Option.bind_some]
    rw [if_neg (by rw [nI_eq (by omega) (by omega)]; omega)]
    unfold f_Jx4a65c_add_72be8_11
    have hin : inB (nI n) (ln T e) = true := inB_nI (by rw [t2]; exact c2) (by rw [t2]; omega)
    have e1 : stR T (some e) 20 (nI n) (some v) = some (setR T e n (some v)) := by
      show (if kd T e = 20 ∧ inB (nI n) (ln T e) = true ∧ fitR T 20 v = true then _ else none) = _
      rw [if_pos ⟨by rw [t1, c1], hin, by show decide (kd T v < 14) = true; rw [t1]; simpa using hv⟩, nI_clamp (by omega)]
    simp only [e1, Option.bind_some]
    have k2 : kd (setR T e n (some v)) l = 0 := k1
    rw [putI_s k2]
    refine ⟨_, rfl, Or.inl ⟨by omega, t5, t6, ⟨e, by rw [mr_setI_, mr_setR_i, if_neg (fun q => by have := q.1; rw [this] at a1; omega), t3, a4], Or.inr ⟨by show kd T e = 20; rw [t1, c1], by show ln T e = r; rw [t2]; omega⟩⟩⟩, fun e' he' => Or.inl (by rw [mr_setI_, mr_setR_i, if_neg (fun q => by have := q.1; rw [this] at a1; omega), t3, a4] at he'; exact he'), ?_, ?_, by show nx T ≤ _; omega, by show sl T ≤ _; omega, ?_, ?_, fun a => Or.inl (by show kd T a = _; rw [t1])⟩
    · have hle : l ≠ e := fun q => by rw [q] at a1; omega
      refine ⟨k1, ?_, by omega, ⟨e, ?_, Or.inr ⟨by show kd T e = 20; rw [t1, c1], by show n + 1 ≤ ln T e; rw [t2]; omega, by show 0 < ln T e; rw [t2]; omega, by show ln T e < _; rw [t2]; omega⟩, fun i hi => ?_⟩, fun i hi => ?_⟩
      · rw [mi_setI_i, if_pos ⟨rfl, rfl⟩, nI_1]
      · rw [mr_setI_, mr_setR_i, if_neg (fun q => hle q.1), t3, a4]
      · rw [mr_setI_, mr_setR_i]
        unfold up1
        by_cases ci : i = n
        · rw [if_pos ⟨rfl, ci⟩, if_pos ci]
        · rw [if_neg (fun q => ci q.2), if_neg ci, t3, a6 i (by omega)]
      · show kd T (up1 f n v i) < 14
        rw [t1]
        unfold up1
        by_cases ci : i = n
        · rw [if_pos ci]; exact hv
        · rw [if_neg ci]; exact a7 i (by omega)
    · refine ((tF.mono (fun a _ q => Or.inl q)).tr (Fr_setR (P := fun a => some e = some a ∧ kd S a = 20) n (some v) (by rw [t1]; omega) (fun _ => ⟨rfl, c1⟩)) (fun a _ q => Or.inr q)).tr (Fr_setI (P := fun a => a = l) 2 _ (by rw [kd_setR]; omega) (fun _ => rfl)) (fun a _ q => Or.inl q)
    · rintro ⟨d0, d⟩
      have hne : ∀ q : Nat, kd S q = 0 → mr (setI (setR T e n (some v)) l 2 (nI n + 1)) q 1 = mr S q 1 := fun q hq => by
        rw [mr_setI_, mr_setR_i, if_neg (fun z => by rw [z.1] at hq; omega), t3]
      have hkk : kd (setI (setR T e n (some v)) l 2 (nI n + 1)) = kd S := by show kd T = _; rw [t1]
      refine ⟨fun q e' h1 h2 => ?_, fun l1 l2 e' h1 h2 h3 h4 h5 => ?_⟩
      · rw [hkk] at h1 ⊢
        rw [hne q h1] at h2
        exact d0 q e' h1 h2
      · rw [hkk] at h1 h2 h5
        rw [hne l1 h1] at h3
        rw [hne l2 h2] at h4
        exact d l1 l2 e' h1 h2 h3 h4 h5
    · intro a ha _
      funext j
      rw [mi_setI_i, if_neg (fun q => ha q.1)]
      show mi T a j = _
      rw [t9 a ha]
  · have hfull : ∀ e', mr T l 1 = some e' → kd T e' = 20 → ln T e' = n := by
      intro e' h1 h2
      rw [t3, a4] at h1
      cases h1
      rw [t1] at h2
      rw [t2]
      rcases a5 with q | q
      · omega
      · have := q.2.1
        have : ¬ n < ln S e := fun q => c ⟨h2, q⟩
        omega
    have hal : alen T (some e) = some (nI n) := by
      rcases a5 with ⟨q1, q2, q3⟩ | q
      · show (if kd T e = 21 then some 0 else _) = _
        rw [t1, if_pos q3, q1]; rfl
      · exact alen_s (by rw [t1]; omega) (hfull e (by rw [t3, a4]) (by rw [t1]; exact q.1))
    rw [hal]
    simp only [Option.bind_some, if_true, rcv_s k1]
    obtain ⟨U, m, g1, g2, g3, g4, g5, g6, g7, g8, g9, g10, g11, g12, g13⟩ := L_grow2 hLT wT hn (by rw [t5, t7]; exact hc) (by rw [t6]; exact hs) hfull
    rw [g1]
    simp only [Option.bind_some]
    unfold f_Jx4a65c_add_72be8_11
    have e1 : stR U (some (nx T)) 20 (nI n) (some v) = some (setR U (nx T) n (some v)) := by
      show (if kd U (nx T) = 20 ∧ inB (nI n) (ln U (nx T)) = true ∧ fitR U 20 v = true then _ else none) = _
      rw [if_pos ⟨g6, inB_nI (by omega) (by omega), by show decide (kd U v < 14) = true; rw [g11 v (by omega), t1]; simpa using hv⟩, nI_clamp (by omega)]
    simp only [e1, Option.bind_some]
    have hlT : l ≠ nx T := by omega
    have k2 : kd (setR U (nx T) n (some v)) l = 0 := by show kd U l = 0; rw [g11 l hlT, k1]
    rw [putI_s k2]
    have hrn : r = n := by
      rcases a5 with ⟨q1, q2, q3⟩ | q
      · rcases w2 with ⟨y1, y2⟩ | ⟨y1, y2⟩
        · omega
        · omega
      · have z := hfull e (by rw [t3, a4]) (by rw [t1]; exact q.1)
        rw [t2] at z
        rcases w2 with ⟨y1, y2⟩ | ⟨y1, y2⟩
        · have := q.1; omega
        · omega
    refine ⟨_, rfl, Or.inr ⟨hrn, by show nx U = _; omega, m, g5.2, by show sl U = _; omega, ⟨nx T, by rw [mr_setI_, mr_setR_i, if_neg (fun q => hlT q.1), g9], Or.inr ⟨g6, g7⟩⟩⟩, fun e' he' => Or.inr (by rw [mr_setI_, mr_setR_i, if_neg (fun q => hlT q.1), g9] at he'; have := Option.some.inj he'; omega), ?_, ?_, by show nx U ≤ _; omega, by show sl U ≤ _; have := g5.1; omega, ?_, ?_, ?_⟩
    · refine ⟨k2, ?_, by omega, ⟨nx T, ?_, Or.inr ⟨g6, by show n + 1 ≤ ln U (nx T); omega, by show 0 < ln U (nx T); omega, by show ln U (nx T) < _; omega⟩, fun i hi => ?_⟩, fun i hi => ?_⟩
      · rw [mi_setI_i, if_pos ⟨rfl, rfl⟩, nI_1]
      · rw [mr_setI_, mr_setR_i, if_neg (fun q => hlT q.1), g9]
      · rw [mr_setI_, mr_setR_i]
        unfold up1
        by_cases ci : i = n
        · rw [if_pos ⟨rfl, ci⟩, if_pos ci]
        · rw [if_neg (fun q => ci q.2), if_neg ci, g8 i (by omega)]
      · show kd U (up1 f n v i) < 14
        unfold up1
        by_cases ci : i = n
        · rw [if_pos ci, g11 v (by omega), t1]; exact hv
        · have := a7 i (by omega)
          rw [if_neg ci, g11 (f i) (by have := w.lt (a := f i) (by omega); omega), t1]; exact this
    · refine (((tF.mono (fun a _ q => Or.inl q)).tr g13 (fun a _ q => Or.inl q)).tr (Fr_setR (P := fun a => a = nx T) n (some v) (by omega) (fun _ => rfl)) (fun a h1 h2 => ?_)).tr (Fr_setI (P := fun a => a = l) 2 _ (by rw [k2]; omega) (fun _ => rfl)) (fun a _ q => Or.inl q)
      omega
    · rintro ⟨d0, d⟩
      have hk0 : ∀ q : Nat, kd U q = 0 → q ≠ nx T ∧ kd S q = 0 := fun q hq => by
        have h1 : q ≠ nx T := fun z => by rw [z] at hq; omega
        exact ⟨h1, by rw [g11 q h1, t1] at hq; exact hq⟩
      have hmr : ∀ q : Nat, kd U q = 0 → mr (setI (setR U (nx T) n (some v)) l 2 (nI n + 1)) q 1 = if q = l then some (nx T) else mr S q 1 := fun q hq => by
        obtain ⟨h1, h2⟩ := hk0 q hq
        rw [mr_setI_, mr_setR_i, if_neg (fun z => h1 z.1)]
        by_cases c : q = l
        · rw [if_pos c, c, g9]
        · rw [if_neg c, g12 q 1 h1 (fun z => absurd z c), t3]
      refine ⟨fun q e' h1 h2 => ?_, fun l1 l2 e' h1 h2 h3 h4 h5 => ?_⟩
      · change kd U q = 0 at h1
        show kd U e' < 99
        rw [hmr q h1] at h2
        by_cases c : q = l
        · rw [if_pos c] at h2
          cases h2; omega
        · rw [if_neg c] at h2
          have := d0 q e' (hk0 q h1).2 h2
          have := w.lt this
          rw [g11 e' (by omega), t1]; assumption
      · change kd U l1 = 0 at h1
        change kd U l2 = 0 at h2
        change kd U e' = 20 at h5
        rw [hmr l1 h1] at h3
        rw [hmr l2 h2] at h4
        by_cases c1 : l1 = l
        · by_cases c2 : l2 = l
          · rw [c1, c2]
          · rw [if_pos c1] at h3
            rw [if_neg c2] at h4
            cases h3
            have := w.lt (d0 l2 _ (hk0 l2 h2).2 h4)
            omega
        · rw [if_neg c1] at h3
          by_cases c2 : l2 = l
          · rw [if_pos c2] at h4
            cases h4
            have := w.lt (d0 l1 _ (hk0 l1 h1).2 h3)
            omega
          · rw [if_neg c2] at h4
            have h6 := w.lt (d0 l1 _ (hk0 l1 h1).2 h3)
            exact d l1 l2 e' (hk0 l1 h1).2 (hk0 l2 h2).2 h3 h4 (by rw [g11 e' (by omega), t1] at h5; exact h5)
    · intro a ha h2
      funext j
      rw [mi_setI_i, if_neg (fun q => ha q.1)]
      show mi U a j = _
      rw [g10 a (by omega), t9 a ha]
    · intro a
      show kd U a = _ ∨ kd U a = _
      by_cases c : a = nx T
      · right; rw [c, g6]
      · left; rw [g11 a c, t1]
