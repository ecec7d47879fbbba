theorem rk_go {C D : St} {xb : Nat} (F : Nat) (h : f_X5_reckon_23 F C (xb + 12) 1 = some (xb + 12, D)) : ((f_X5_reckon_23 F C (xb + 12) 1).bind fun (x0, S_23) => f_X5_reckon_57 F S_23 x0 1) = f_X5_reckon_57 F D (xb + 12) 1 := by
  rw [h]
  rfl
theorem PF_pos {wt : Nat → Nat → Int} {br : Nat → Nat → Bool} {i k : Nat} : ∀ (n : Nat) (R : List Nat) (w t : Int), Pn (cF wt br i k) n R w t ≠ 0 → Pn (c0_ wt br) n R w 0 ≠ 0 := by
  have hd : ∀ w t, d0 w t ≠ 0 → d0 w 0 ≠ 0 := fun w t h => by
    unfold d0 at h ⊢
    by_cases y : w = 0 ∧ t = 0
    · rw [if_pos ⟨y.1, rfl⟩]; omega
    · rw [if_neg y] at h; exact absurd rfl h
  intro n
  induction n with
  | zero => intro R w t h; exact hd w t h
  | succ n ih =>
    intro R w t h
    cases R with
    | nil => exact hd w t h
    | cons a R =>
      obtain ⟨p, p1, p2⟩ := lsum_ex (show lsum (subs R) (fun p => sh (cF wt br i k (a :: p.1)) (Pn (cF wt br i k) n p.2)) w t ≠ 0 from h)
      by_cases y : bar br (a :: p.1) = true
      · have : cF wt br i k (a :: p.1) = none := if_pos y
        rw [this] at p2
        exact absurd rfl p2
      · have z2 : c0_ wt br (a :: p.1) = some (fw wt (a :: p.1), 0) := if_neg y
        have z1 : cF wt br i k (a :: p.1) = some (fw wt (a :: p.1), if i ∈ a :: p.1 ∧ k ∈ a :: p.1 then 1 else 0) := if_neg y
        rw [z1] at p2
        have h3 := ih p.2 (w - fw wt (a :: p.1)) _ p2
        refine Nat.pos_iff_ne_zero.mp (lsum_pos p1 ?_)
        show 0 < sh (c0_ wt br (a :: p.1)) (Pn (c0_ wt br) n p.2) w 0
        rw [z2]
        exact Nat.pos_of_ne_zero h3
section Reck3
variable {xb n : Nat} {pv : Nat → Nat → Int32} {br : Nat → Nat → Bool}
theorem X_r57 {T0 : St} (x0 : XOK T0 xb) (h1 : mi T0 (xb + 12) 1 = nI n) (n8 : n ≤ 8) (hw : ∀ i k, -5 ≤ wtv pv i k ∧ wtv pv i k ≤ 9) (hW : ∀ z, z < 2 ^ n → WV pv br (mi T0 (xb + 14) z) (bits z)) : ∀ (m s fu : Nat) (T : St), s + m = 2 ^ n → m < fu → 0 < s → SW (fun z => z = xb + 15 ∨ z = xb + 16) T0 T → (∀ z, z < s → BV (Pn (c0_ (wtv pv) br) 8 (bits z)) (mi T (xb + 15) z) (mi T (xb + 16) z)) → ∃ T', f_X5_reckon_57 fu T (xb + 12) (nI s) = some T' ∧ SW (fun z => z = xb + 15 ∨ z = xb + 16) T0 T' ∧ ∀ z, z < 2 ^ n → BV (Pn (c0_ (wtv pv) br) 8 (bits z)) (mi T' (xb + 15) z) (mi T' (xb + 16) z) := by
  have q := p256 n8
  intro m
  induction m with
  | zero =>
    intro s fu T e1 e2 e3 w hB
    obtain ⟨fu, rfl⟩ : ∃ k, fu = k + 1 := ⟨fu - 1, by omega⟩
    have x := x0.sw w
    have h1' : mi T (xb + 12) 1 = nI n := by rw [(w.2.2.2 (xb + 12) (by omega)).1]; exact h1
    unfold f_X5_reckon_57
    simp only [xV_joining x, X_every x h1' n8, Option.bind_some]
    rw [if_pos (by rw [lt_i, nI_toInt (by omega), nI_toInt (by omega)]; omega)]
    exact ⟨T, rfl, w, fun z hz => hB z (by omega)⟩
  | succ m ih =>
    intro s fu T e1 e2 e3 w hB
    obtain ⟨fu, rfl⟩ : ∃ k, fu = k + 1 := ⟨fu - 1, by omega⟩
    have x := x0.sw w
    have h1' : mi T (xb + 12) 1 = nI n := by rw [(w.2.2.2 (xb + 12) (by omega)).1]; exact h1
    have e14 : mi T (xb + 14) = mi T0 (xb + 14) := (w.2.2.2 (xb + 14) (by omega)).1
    obtain ⟨g, c, g1, g2⟩ := X_part (pv := pv) (br := br) x hw e3 (by omega) (fun z hz => by rw [e14]; exact hW z (by omega)) hB
    unfold f_X5_reckon_57
    simp only [xV_joining x, X_every x h1' n8, Option.bind_some]
    rw [if_neg (by rw [lt_i, nI_toInt (by omega), nI_toInt (by omega)]; omega), if_neg (by rw [le_i, nI_toInt (by omega)]; simp only [Int32.reduceToInt]; omega)]
    simp only [g1, Option.bind_some, nI_1]
    obtain ⟨A, hA⟩ : ∃ A, A = setI (setI T (xb + 15) s g) (xb + 16) s c := ⟨_, rfl⟩
    rw [← hA]
    have wA : SW (fun z => z = xb + 15 ∨ z = xb + 16) T A := by rw [hA]; exact (SW_I (P := fun z => z = xb + 15 ∨ z = xb + 16) _ _ (Or.inl rfl)).tr (SW_I _ _ (Or.inr rfl))
    refine ih (s + 1) fu A (by omega) (by omega) (by omega) (w.tr wA) (fun z hz => ?_)
    have v15 : mi A (xb + 15) z = if z = s then g else mi T (xb + 15) z := by
      rw [hA, mi_setI_i, if_neg (by omega), mi_setI_i]
      by_cases e : z = s
      · rw [if_pos ⟨rfl, e⟩, if_pos e]
      · rw [if_neg (fun y => e y.2), if_neg e]
    have v16 : mi A (xb + 16) z = if z = s then c else mi T (xb + 16) z := by
      rw [hA, mi_setI_i]
      by_cases e : z = s
      · rw [if_pos ⟨rfl, e⟩, if_pos e]
      · rw [if_neg (fun y => e y.2), if_neg e, mi_setI_i, if_neg (by omega)]
    rw [v15, v16]
    by_cases e : z = s
    · rw [if_pos e, if_pos e, e]; exact g2
    · rw [if_neg e, if_neg e]; exact hB z (by omega)
theorem X_reckon {T : St} (x : XOK T xb) (h1 : mi T (xb + 12) 1 = nI n) (n8 : n ≤ 8) (hP : ∀ T', SW (P4 xb) T T' → PWo T' xb n pv br) (hw : ∀ i k, -5 ≤ wtv pv i k ∧ wtv pv i k ≤ 9) : ∃ T', f_X5_reckon T (xb + 12) = some T' ∧ SW (P4 xb) T T' ∧ (∀ z, z < 2 ^ n → WV pv br (mi T' (xb + 14) z) (bits z)) ∧ ∀ z, z < 2 ^ n → BV (Pn (c0_ (wtv pv) br) 8 (bits z)) (mi T' (xb + 15) z) (mi T' (xb + 16) z) := by
  have q := p256 n8
  have st : ∀ U, XOK U xb → ∀ v, stI U (some (xb + 14)) 15 0 v = some (setI U (xb + 14) 0 v) ∧ stI U (some (xb + 15)) 15 0 v = some (setI U (xb + 15) 0 v) ∧ stI U (some (xb + 16)) 15 0 v = some (setI U (xb + 16) 0 v) := fun U xU v => ⟨stI_s (j := 0) (xK_worth xU) (xN_worth xU) (by omega) (by decide) v, stI_s (j := 0) (xK_best xU) (xN_best xU) (by omega) (by decide) v, stI_s (j := 0) (xK_ways xU) (xN_ways xU) (by omega) (by decide) v⟩
  unfold f_X5_reckon
  simp only [xR_best x, (st T x 0).2.1, Option.bind_some]
  obtain ⟨A, hA⟩ : ∃ A, A = setI T (xb + 15) 0 0 := ⟨_, rfl⟩
  rw [← hA]
  have wA : SW (P4 xb) T A := by rw [hA]; exact SW_I _ _ (Or.inr (Or.inl rfl))
  have xA := x.sw wA
  simp only [xR_ways xA, (st A xA 1).2.2, Option.bind_some]
  obtain ⟨B, hB⟩ : ∃ B, B = setI A (xb + 16) 0 1 := ⟨_, rfl⟩
  rw [← hB]
  have wB : SW (P4 xb) T B := wA.tr (by rw [hB]; exact SW_I _ _ (Or.inr (Or.inr rfl)))
  have xB := x.sw wB
  simp only [xR_worth xB, (st B xB 0).1, Option.bind_some]
  obtain ⟨C, hC⟩ : ∃ C, C = setI B (xb + 14) 0 0 := ⟨_, rfl⟩
  rw [← hC]
  have wC : SW (P4 xb) T C := wB.tr (by rw [hC]; exact SW_I _ _ (Or.inl rfl))
  have xC := x.sw wC
  have c14 : mi C (xb + 14) 0 = 0 := by rw [hC, mi_setI_i, if_pos ⟨rfl, rfl⟩]
  have c15 : mi C (xb + 15) 0 = 0 := by rw [hC, mi_setI_i, if_neg (by omega), hB, mi_setI_i, if_neg (by omega), hA, mi_setI_i, if_pos ⟨rfl, rfl⟩]
  have c16 : mi C (xb + 16) 0 = 1 := by rw [hC, mi_setI_i, if_neg (by omega), hB, mi_setI_i, if_pos ⟨rfl, rfl⟩]
  clear hA hB hC
  obtain ⟨D, d1, d2, d3⟩ := X_r23 (pv := pv) (br := br) x h1 n8 hP hw (2 ^ n - 1) 1 FU C (by omega) (by unfold FU; omega) (by omega) wC (fun z hz => by
    have : z = 0 := by omega
    subst this
    rw [c14]
    exact Or.inr ⟨rfl, rfl⟩)
  rw [show nI 1 = 1 from rfl] at d1
  rw [rk_go FU d1]
  have wD : SW (P4 xb) T D := wC.tr (d2.mono (fun z hz => Or.inl hz))
  have h1D : mi D (xb + 12) 1 = nI n := by rw [(wD.2.2.2 (xb + 12) (by unfold P4; omega)).1]; exact h1
  obtain ⟨E, e1, e2, e3⟩ := X_r57 (x.sw wD) h1D n8 hw d3 (2 ^ n - 1) 1 FU D (by omega) (by unfold FU; omega) (by omega) (SW.rf _ _) (fun z hz => by
    have : z = 0 := by omega
    subst this
    rw [(d2.2.2.2 (xb + 15) (by omega)).1, (d2.2.2.2 (xb + 16) (by omega)).1, c15, c16]
    refine ⟨Nat.one_pos, rfl, fun w hw' => ?_⟩
    have hw'' : 0 < w := hw'
    exact if_neg (fun y => by omega))
  rw [show nI 1 = 1 from rfl] at e1
  refine ⟨E, e1, wD.tr (e2.mono (fun z hz => Or.inr hz)), fun z hz => ?_, e3⟩
  rw [(e2.2.2.2 (xb + 14) (by omega)).1]
  exact d3 z hz
/-- how many best partings have both together -/
theorem X_cbw {T : St} {i k : Nat} (x : XOK T xb) (h1 : mi T (xb + 12) 1 = nI n) (n8 : n ≤ 8) (hw : ∀ i k, -5 ≤ wtv pv i k ∧ wtv pv i k ≤ 9) (hi : i < 8) (hk : k < 8) (hW : ∀ z, z < 2 ^ n → WV pv br (mi T (xb + 14) z) (bits z)) (hB : ∀ z, z < 2 ^ n → BV (Pn (c0_ (wtv pv) br) 8 (bits z)) (mi T (xb + 15) z) (mi T (xb + 16) z)) : ∀ (l : List (List Nat × List Nat)) (s fu : Nat) (v : Int32), (∀ p ∈ l, p ∈ subs (List.range n)) → l.map (fun p => mk_ p.1) = (List.range' s (2 ^ n - s)) → s ≤ 2 ^ n → l.length < fu → f_X5_countBestWith_10 fu T (xb + 12) (nI (2 ^ i) ||| nI (2 ^ k)) (nI (2 ^ n - 1)) v (nI s) = some (v + nI (lsum l (fun p => if i ∈ p.1 ∧ k ∈ p.1 then sh (c0_ (wtv pv) br p.1) (Pn (c0_ (wtv pv) br) 8 p.2) else fun _ _ => 0) (mi T (xb + 15) (2 ^ n - 1)).toInt 0)) := by
  have q := p256 n8
  intro l
  induction l with
  | nil =>
    intro s fu v hm hl hs hf
    obtain ⟨fu, rfl⟩ : ∃ k, fu = k + 1 := ⟨fu - 1, by rw [List.length_nil] at hf; omega⟩
    have h0 := congrArg List.length hl
    rw [List.map_nil, List.length_nil, List.length_range'] at h0
    unfold f_X5_countBestWith_10
    rw [if_pos (by rw [lt_i, nI_toInt (by omega), nI_toInt (by omega)]; omega)]
    show some v = some (v + nI 0)
    rw [nI_0, Int32.add_zero]
  | cons p l ih =>
    intro s fu v hm hl hs hf
    obtain ⟨fu, rfl⟩ : ∃ k, fu = k + 1 := ⟨fu - 1, by rw [List.length_cons] at hf; omega⟩
    have h0 := congrArg List.length hl
    rw [List.length_map, List.length_cons, List.length_range'] at h0
    obtain ⟨r, hr⟩ : ∃ r, 2 ^ n - s = r + 1 := ⟨2 ^ n - s - 1, by omega⟩
    rw [hr, List.map_cons, List.range'_succ] at hl
    have es : mk_ p.1 = s := (List.cons.inj hl).1
    have hl' := (List.cons.inj hl).2
    rw [show r = 2 ^ n - (s + 1) by omega] at hl'
    have hp := hm p List.mem_cons_self
    obtain ⟨y1, y2, y3, y4⟩ := (t4 n8).2.2.2 p hp
    rw [es] at y1 y2
    have hlen := (subs_mem p hp).1
    rw [List.length_range] at hlen
    have IH := fun v => ih (s + 1) fu v (fun p hp => hm p (List.mem_cons_of_mem _ hp)) hl' (by omega) (by rw [List.length_cons] at hf; omega)
    have l14 : ldI T (some (xb + 14)) 15 (nI s) = some (mi T (xb + 14) s) := ldI_s (xK_worth x) (xN_worth x) (by omega) (by decide)
    have l15 : ldI T (some (xb + 15)) 15 (nI (mk_ p.2)) = some (mi T (xb + 15) (mk_ p.2)) := ldI_s (xK_best x) (xN_best x) (by omega) (by decide)
    have l15' : ldI T (some (xb + 15)) 15 (nI (2 ^ n - 1)) = some (mi T (xb + 15) (2 ^ n - 1)) := ldI_s (xK_best x) (xN_best x) (by omega) (by decide)
    have l16 : ldI T (some (xb + 16)) 15 (nI (mk_ p.2)) = some (mi T (xb + 16) (mk_ p.2)) := ldI_s (xK_ways x) (xN_ways x) (by omega) (by decide)
    have w14 := hW s (by omega)
    have b15 := hB (mk_ p.2) y4
    rw [y2] at w14
    rw [y3] at b15
    obtain ⟨G, hG⟩ : ∃ G, G = mi T (xb + 15) (2 ^ n - 1) := ⟨_, rfl⟩
    rw [← hG] at IH l15' ⊢
    have e50 : ∀ t0, f_X5_countBestWith_50 (f_X5_countBestWith_10 fu) T (xb + 12) (nI (2 ^ i) ||| nI (2 ^ k)) (nI (2 ^ n - 1)) v (nI s) t0 = if t0 = 0 then f_X5_countBestWith_10 fu T (xb + 12) (nI (2 ^ i) ||| nI (2 ^ k)) (nI (2 ^ n - 1)) v (nI (s + 1)) else (if mi T (xb + 14) s + mi T (xb + 15) (mk_ p.2) = G then f_X5_countBestWith_10 fu T (xb + 12) (nI (2 ^ i) ||| nI (2 ^ k)) (nI (2 ^ n - 1)) (v + mi T (xb + 16) (mk_ p.2)) (nI (s + 1)) else f_X5_countBestWith_10 fu T (xb + 12) (nI (2 ^ i) ||| nI (2 ^ k)) (nI (2 ^ n - 1)) v (nI (s + 1))) := by
      intro t0
      unfold f_X5_countBestWith_50
      simp only [xR_worth x, l14, xR_best x, y1, l15, l15', xR_ways x, l16, Option.bind_some, nI_1]
    show _ = some (v + nI ((if i ∈ p.1 ∧ k ∈ p.1 then sh (c0_ (wtv pv) br p.1) (Pn (c0_ (wtv pv) br) 8 p.2) else fun _ _ => 0) G.toInt 0 + lsum l _ G.toInt 0))
    unfold f_X5_countBestWith_10
    rw [if_neg (by rw [lt_i, nI_toInt (by omega), nI_toInt (by omega)]; omega), if_neg (by rw [le_i, nI_toInt (by omega)]; simp only [Int32.reduceToInt]; omega)]
    unfold f_X5_countBestWith_49
    simp only [xR_worth x, l14, Option.bind_some, e50]
    have hin := pair_in (g := s) hi hk (by omega)
    rw [y2] at hin
    by_cases c1 : i ∈ p.1 ∧ k ∈ p.1
    · rw [if_pos (hin.mpr c1), if_pos c1]
      rcases w14 with ⟨a1, a2⟩ | ⟨a1, a2⟩
      · rw [if_pos a2, if_pos True.intro, IH]
        have : c0_ (wtv pv) br p.1 = none := if_pos a1
        rw [this]
        show some (v + nI (lsum l _ G.toInt 0)) = some (v + nI (0 + lsum l _ G.toInt 0))
        rw [Nat.zero_add]
      · have b1 := fw_le hw p.1 (by omega)
        have b2 := Pn_bd (br := br) hw 8 p.2 (mi T (xb + 15) (mk_ p.2)).toInt 0 (by omega) (by have := b15.1; omega)
        have nv : ¬ mi T (xb + 14) s = -9999 := fun z => by rw [z, m9] at a2; omega
        rw [if_neg nv, if_neg (by decide)]
        have c0e : c0_ (wtv pv) br p.1 = some (fw (wtv pv) p.1, 0) := by unfold c0_; rw [if_neg (by rw [a1]; decide)]
        rw [c0e]
        show _ = some (v + nI (Pn (c0_ (wtv pv) br) 8 p.2 (G.toInt - fw (wtv pv) p.1) (0 - 0) + lsum l _ G.toInt 0))
        have tI : (mi T (xb + 14) s + mi T (xb + 15) (mk_ p.2)).toInt = fw (wtv pv) p.1 + (mi T (xb + 15) (mk_ p.2)).toInt := by rw [add_i (by omega) (by omega), a2]
        by_cases c2 : mi T (xb + 14) s + mi T (xb + 15) (mk_ p.2) = G
        · rw [if_pos c2, IH]
          rw [c2] at tI
          rw [show G.toInt - fw (wtv pv) p.1 = (mi T (xb + 15) (mk_ p.2)).toInt by omega, show (0 : Int) - 0 = 0 from rfl, b15.2.1, Int32.add_assoc, nI_add]
        · rw [if_neg c2, IH]
          have tN : (mi T (xb + 14) s + mi T (xb + 15) (mk_ p.2)).toInt ≠ G.toInt := fun z => c2 ((eq_i _ _).mpr z)
          -- the whole's best is not less
          have z0 : Pn (c0_ (wtv pv) br) 8 p.2 (G.toInt - fw (wtv pv) p.1) (0 - 0) = 0 := by
            have hg := hB (2 ^ n - 1) (by omega)
            rw [(t4 n8).2.1, ← hG] at hg
            refine b15.2.2 _ ?_
            by_cases lt : G.toInt < (mi T (xb + 14) s + mi T (xb + 15) (mk_ p.2)).toInt
            · exfalso
              have hD : 0 < Dn (wtv pv) br i k 8 (List.range n) (mi T (xb + 14) s + mi T (xb + 15) (mk_ p.2)).toInt 0 := by
                refine lsum_pos hp ?_
                show 0 < (if i ∈ p.1 ∧ k ∈ p.1 then sh (c0_ (wtv pv) br p.1) (Pn (c0_ (wtv pv) br) 8 p.2) else fun _ _ => 0) _ 0
                rw [if_pos c1, c0e]
                show 0 < Pn (c0_ (wtv pv) br) 8 p.2 (_ - fw (wtv pv) p.1) (0 - 0)
                rw [tI, show fw (wtv pv) p.1 + (mi T (xb + 15) (mk_ p.2)).toInt - fw (wtv pv) p.1 = (mi T (xb + 15) (mk_ p.2)).toInt by omega]
                exact b15.1
              rw [← Dn_eq 8 (List.range n) _ (by rw [List.length_range]; exact n8) List.nodup_range] at hD
              exact PF_pos 8 (List.range n) _ _ (Nat.pos_iff_ne_zero.mp hD) (hg.2.2 _ lt)
            · omega
          rw [z0, Nat.zero_add]
    · rw [if_neg (fun z => c1 (hin.mp z)), if_neg c1, if_pos True.intro, IH]
      show some (v + nI (lsum l _ G.toInt 0)) = some (v + nI (0 + lsum l _ G.toInt 0))
      rw [Nat.zero_add]
end Reck3
