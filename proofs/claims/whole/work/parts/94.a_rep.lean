/-! THE CONSTRUCTORS: what has been made, told from the first address on -/
def rvc (S : St) (xb c : Nat) : Option Nat := if c = 0 then none else if c = 1 then some (emp S) else some (xb + (c - 2))
def REP (S T : St) (xb n s : Nat) (K Ln : Nat → Nat) (I : Nat → Nat → Int32) (R : Nat → Nat → Nat) : Prop := (nx T = xb + n ∧ sl T = s ∧ cap T = cap S ∧ emp T = emp S ∧ lit T = lit S) ∧ (∀ o, o < n → kd T (xb + o) = K o ∧ ln T (xb + o) = Ln o) ∧ (∀ o i, o < n → mi T (xb + o) i = I o i ∧ ml T (xb + o) i = 0 ∧ mr T (xb + o) i = rvc S xb (R o i)) ∧ (∀ o i, n ≤ o → I o i = 0 ∧ R o i = 0) ∧ (∀ a, a < xb → kd T a = kd S a ∧ ln T a = ln S a ∧ mi T a = mi S a ∧ mr T a = mr S a) ∧ ∀ a, xb + n ≤ a → kd T a = 99
section Rep
variable {S T : St} {xb n s : Nat} {K Ln : Nat → Nat} {I : Nat → Nat → Int32} {R : Nat → Nat → Nat}
theorem rep_mk (h : REP S T xb n s K Ln I R) (m q len : Nat) : REP S (mk0 T m q len) xb (n + 1) (s + m) (up1 K n q) (up1 Ln n len) I R := by
  obtain ⟨⟨h1, h2, h3, h4, h5⟩, h6, h7, h8, h9, h10⟩ := h
  refine ⟨⟨by rw [nx_mk0, h1]; rfl, by rw [sl_mk0, h2], h3, h4, h5⟩, fun o ho => ?_, fun o i ho => ?_, fun o i ho => h8 o i (by omega), fun a ha => ?_, fun a ha => ?_⟩
  · rw [kd_mk0, ln_mk0, h1]
    by_cases e : o = n
    · rw [if_pos (by omega), if_pos (by omega), e, up1_eq, up1_eq]; exact ⟨rfl, rfl⟩
    · rw [if_neg (by omega), if_neg (by omega), up1_ne _ e, up1_ne _ e]; exact h6 o (by omega)
  · rw [mi_mk0, ml_mk0, mr_mk0, h1]
    by_cases e : o = n
    · obtain ⟨z1, z2⟩ := h8 n i (Nat.le_refl _)
      rw [if_pos (by omega), if_pos (by omega), if_pos (by omega), e, z1, z2]
      exact ⟨rfl, rfl, rfl⟩
    · rw [if_neg (by omega), if_neg (by omega), if_neg (by omega)]; exact h7 o i (by omega)
  · obtain ⟨z1, z2, z3, z4⟩ := h9 a ha
    refine ⟨by rw [kd_mk0, if_neg (by omega)]; exact z1, by rw [ln_mk0, if_neg (by omega)]; exact z2, ?_, ?_⟩
    · funext i; rw [mi_mk0, if_neg (by omega), z3]
    · funext i; rw [mr_mk0, if_neg (by omega), z4]
  · rw [kd_mk0, if_neg (by omega)]; exact h10 a (by omega)
theorem rep_newO (h : REP S T xb n s K Ln I R) (ci : Nat) (hs : s + nfl ci ≤ 7302250) (hc : xb + n + 1 ≤ cap S) : ∃ T', newO T ci = some (xb + n, T') ∧ REP S T' xb (n + 1) (s + nfl ci) (up1 K n ci) (up1 Ln n 0) I R := by
  have h' := id h
  obtain ⟨⟨h1, h2, h3, h4, h5⟩, -⟩ := h'
  refine ⟨_, ?_, rep_mk h (nfl ci) ci 0⟩
  rw [newO_s (by rw [h1, h3]; exact hc) (by rw [h2]; exact hs), h1]
theorem rep_newA (h : REP S T xb n s K Ln I R) (ck len : Nat) {v : Int32} (hv : v = nI len) (hl : len < 2 ^ 31) (hs : s + len ≤ 7302250) (hc : xb + n + 1 ≤ cap S) : ∃ T', newA T ck v = some (xb + n, T') ∧ REP S T' xb (n + 1) (s + len) (up1 K n ck) (up1 Ln n len) I R := by
  have h' := id h
  obtain ⟨⟨h1, h2, h3, h4, h5⟩, -⟩ := h'
  refine ⟨_, ?_, rep_mk h len ck len⟩
  rw [hv, newA_s hl (by rw [h1, h3]; exact hc) (by rw [h2]; exact hs), h1]
theorem rep_setI (h : REP S T xb n s K Ln I R) (o f : Nat) (v : Int32) (ho : o < n) : REP S (setI T (xb + o) f v) xb n s K Ln (up2 I o f v) R := by
  obtain ⟨h1, h6, h7, h8, h9, h10⟩ := h
  refine ⟨h1, h6, fun p i hp => ?_, fun p i hp => ?_, fun a ha => ?_, h10⟩
  · obtain ⟨z1, z2, z3⟩ := h7 p i hp
    refine ⟨?_, z2, z3⟩
    rw [mi_setI_i]
    unfold up2
    by_cases e : p = o ∧ i = f
    · rw [if_pos (by omega), if_pos e]
    · rw [if_neg (by omega), if_neg e]; exact z1
  · rw [up2_ne _ (by omega)]; exact h8 p i hp
  · obtain ⟨z1, z2, z3, z4⟩ := h9 a ha
    exact ⟨z1, z2, by funext i; rw [mi_setI_i, if_neg (by omega), z3], z4⟩
theorem rep_setR (h : REP S T xb n s K Ln I R) (o f : Nat) (c : Nat) (ho : o < n) : REP S (setR T (xb + o) f (rvc S xb c)) xb n s K Ln I (up2 R o f c) := by
  obtain ⟨h1, h6, h7, h8, h9, h10⟩ := h
  refine ⟨h1, h6, fun p i hp => ?_, fun p i hp => ?_, fun a ha => ?_, h10⟩
  · obtain ⟨z1, z2, z3⟩ := h7 p i hp
    refine ⟨z1, z2, ?_⟩
    rw [mr_setR_i]
    unfold up2
    by_cases e : p = o ∧ i = f
    · rw [if_pos (by omega), if_pos e]
    · rw [if_neg (by omega), if_neg e]; exact z3
  · rw [up2_ne _ (by omega)]; exact h8 p i hp
  · obtain ⟨z1, z2, z3, z4⟩ := h9 a ha
    exact ⟨z1, z2, z3, by funext i; rw [mr_setR_i, if_neg (by omega), z4]⟩
theorem rep_kd (h : REP S T xb n s K Ln I R) (o : Nat) {ci : Nat} (ho : o < n) (hk : K o = ci) : kd T (xb + o) = ci := by rw [(h.2.1 o ho).1, hk]
theorem rep_putI (h : REP S T xb n s K Ln I R) (o f : Nat) (v : Int32) {ci : Nat} (ho : o < n) (hk : K o = ci) : ∃ T', putI T (some (xb + o)) ci f v = some T' ∧ REP S T' xb n s K Ln (up2 I o f v) R := ⟨_, putI_s (rep_kd h o ho hk) f v, rep_setI h o f v ho⟩
theorem rep_putR (h : REP S T xb n s K Ln I R) (o f r : Nat) {ci : Nat} (ho : o < n) (hk : K o = ci) : ∃ T', putR T (some (xb + o)) ci f (some (xb + r)) = some T' ∧ REP S T' xb n s K Ln I (up2 R o f (r + 2)) := ⟨_, putR_s (rep_kd h o ho hk) f (some (xb + r)), rep_setR h o f (r + 2) ho⟩
theorem rep_putE (h : REP S T xb n s K Ln I R) (o f : Nat) {ci : Nat} (ho : o < n) (hk : K o = ci) : ∃ T', putR T (some (xb + o)) ci f (some (emp T)) = some T' ∧ REP S T' xb n s K Ln I (up2 R o f 1) := by
  have e : emp T = emp S := h.1.2.2.2.1
  rw [e]
  exact ⟨_, putR_s (rep_kd h o ho hk) f (some (emp S)), rep_setR h o f 1 ho⟩
theorem rep_putL (h : REP S T xb n s K Ln I R) (o f : Nat) {ci : Nat} (ho : o < n) (hk : K o = ci) : ∃ T', putL T (some (xb + o)) ci f 0 = some T' ∧ REP S T' xb n s K Ln I R := by
  refine ⟨_, putL_s (rep_kd h o ho hk) f 0, ?_⟩
  obtain ⟨h1, h6, h7, h8, h9, h10⟩ := h
  refine ⟨h1, h6, fun p i hp => ?_, h8, h9, h10⟩
  obtain ⟨z1, z2, z3⟩ := h7 p i hp
  refine ⟨z1, ?_, z3⟩
  rw [ml_setL_i]
  split
  · rfl
  · exact z2
theorem rep_stI (h : REP S T xb n s K Ln I R) (o j len : Nat) (v : Int32) {w : Int32} (hw : w = nI j) (ho : o < n) (hk : K o = 15) (hn : Ln o = len) (hj : j < len) (hl : len < 2 ^ 31) : ∃ T', stI T (some (xb + o)) 15 w v = some T' ∧ REP S T' xb n s K Ln (up2 I o j v) R := by
  refine ⟨_, ?_, rep_setI h o j v ho⟩
  rw [hw]
  exact stI_s (rep_kd h o ho hk) (by rw [(h.2.1 o ho).2, hn]) hj hl v
theorem rep_stR (h : REP S T xb n s K Ln I R) (o j len r : Nat) {w : Int32} (hw : w = nI j) (ho : o < n) (hk : K o = 18) (hn : Ln o = len) (hj : j < len) (hl : len < 2 ^ 31) (hr : r < n) (hkr : K r = 7) : ∃ T', stR T (some (xb + o)) 18 w (some (xb + r)) = some T' ∧ REP S T' xb n s K Ln I (up2 R o j (r + 2)) := by
  refine ⟨setR T (xb + o) j (some (xb + r)), ?_, rep_setR h o j (r + 2) ho⟩
  rw [hw]
  show (if kd T (xb + o) = 18 ∧ inB (nI j) (ln T (xb + o)) = true ∧ fitR T 18 (xb + r) = true then _ else none) = _
  have l1 : ln T (xb + o) = len := by rw [(h.2.1 o ho).2, hn]
  rw [if_pos ⟨rep_kd h o ho hk, by rw [l1]; exact inB_nI hj hl, by show decide (kd T (xb + r) = 7) = true; exact decide_eq_true (rep_kd h r hr hkr)⟩, nI_clamp (by omega)]
theorem rep_getR (h : REP S T xb n s K Ln I R) (o f : Nat) {ci r : Nat} (ho : o < n) (hk : K o = ci) (hr : R o f = r + 2) : getR T (some (xb + o)) ci f = some (some (xb + r)) := by
  rw [getR_s (rep_kd h o ho hk), (h.2.2.1 o f ho).2.2, hr]
  rfl
theorem rep_rcv (h : REP S T xb n s K Ln I R) (o : Nat) {ci : Nat} (ho : o < n) (hk : K o = ci) : rcv T (some (xb + o)) ci = some (xb + o) := rcv_s (rep_kd h o ho hk)
end Rep
