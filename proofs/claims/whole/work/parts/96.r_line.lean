/-! READS: lines -/
abbrev LnR : Type := Nat × Nat × Nat × PLn
abbrev LawV : Type := (Nat → Int32) × Int32 × Int32 × Int32 × Int32 × Int32
def stepL (x : LawV) (w : LnR) : LawV := match w.1 with
  | 3 => (fun k => if k = w.2.1 then nI w.2.2.1 else x.1 k, x.2)
  | 4 => (x.1, x.2.1 ||| (1 <<< (nI w.2.1 &&& 31)), x.2.2)
  | 5 => (x.1, x.2.1, nI w.2.1, x.2.2.2)
  | 6 => (x.1, x.2.1, x.2.2.1, nI w.2.1, x.2.2.2.2)
  | 7 => (x.1, x.2.1, x.2.2.1, x.2.2.2.1, nI w.2.1, nI w.2.2.1)
  | _ => x
def lw0 : LawV := (fun _ => 5, 0, 30, 10, 0, 0)
def cd1 (w : LnR) : List Int32 := if w.1 = 8 then cLine w.2.2.2 else []
def st1 (w : LnR) : List Sps := w.2.2.2.1 ++ w.2.2.2.2
def cdW (W : List LnR) : List Int32 := W.flatMap cd1
def stW (W : List LnR) : List Sps := W.flatMap st1
def okW (w : LnR) : Prop := (w.1 = 3 ∧ w.2.1 ≤ 3 ∧ w.2.2.1 ≤ 40 ∨ w.1 = 4 ∧ w.2.1 ≤ 5 ∨ w.1 = 5 ∧ w.2.1 ≤ 999 ∨ w.1 = 6 ∧ w.2.1 ≤ 100 ∨ w.1 = 7 ∧ w.2.1 ≤ 200 ∧ w.2.2.1 ≤ 40) ∧ w.2.2.2 = ([], []) ∨ w.1 = 8 ∧ PW w.2.2.2
def LC (T : St) (la : Nat) (x : LawV) : Prop := (∀ k, k < 4 → mi T (la + 1) k = x.1 k) ∧ mi T la 2 = x.2.1 ∧ mi T la 3 = x.2.2.1 ∧ mi T la 4 = x.2.2.2.1 ∧ mi T la 5 = x.2.2.2.2.1 ∧ mi T la 6 = x.2.2.2.2.2
/-- a line as the reference keeps it -/
def LR (mb : Nat) (T : St) (x : Nat) (L : List Sps) (w : LnR) : Prop := mi T (mb + 30) x = nI w.1 ∧ (w.1 ≠ 8 → mi T (mb + 31) x = nI w.2.1) ∧ (w.1 = 3 ∨ w.1 = 7 → mi T (mb + 32) x = nI w.2.2.1) ∧ (w.1 = 8 → mi T (mb + 33) x = nI L.length ∧ mi T (mb + 34) x = nI (L.length + w.2.2.2.1.length))
def w0 : LnR := (0, 0, 0, [], [])
def FW (mb : Nat) (T : St) (W : List LnR) : Prop := ∀ i, i < W.length → LR mb T i (stW (W.take i)) (W.getD i w0)
def RWl (mb x : Nat) (T T' : St) : Prop := SW (Pr mb) T T' ∧ (∀ f, (f < 42 ∨ f = 44 ∨ f = 51 ∨ 54 ≤ f) → mi T' mb f = mi T mb f) ∧ ∀ o, 30 ≤ o → o ≤ 34 → ∀ i, i ≠ x → mi T' (mb + o) i = mi T (mb + o) i
section Lin
variable {r la l mb n x : Nat} {tb : Nat → Nat} {ts : List Tk} {f : Nat → Nat} {Tc Tm T T' U : St} {c d : Nat} {C C1 : List Int32} {L L1 : List Sps} {fl fp : Int32} {v : LawV} {W : List LnR} {w : LnR}
theorem nI_any (v : Int32) : ∃ k, v = nI k := ⟨v.toBitVec.toNat, by
  unfold nI
  apply Int32.toBitVec_inj.mp
  show v.toBitVec = BitVec.ofNat 32 v.toBitVec.toNat
  exact (BitVec.ofNat_toNat 32 v.toBitVec).symm ▸ rfl⟩
theorem LC.cw (h : LC T la v) (w : CWr r la T T') : LC T' la v := by
  obtain ⟨a1, a2, a3, a4, a5, a6⟩ := h
  exact ⟨by rw [w.2.2]; exact a1, by rw [w.2.1 _ (by omega)]; exact a2, by rw [w.2.1 _ (by omega)]; exact a3, by rw [w.2.1 _ (by omega)]; exact a4, by rw [w.2.1 _ (by omega)]; exact a5, by rw [w.2.1 _ (by omega)]; exact a6⟩
theorem RWm.wl (h : RWm mb T T') : RWl mb x T T' := ⟨h.pr, fun g hg => h.2 g (by omega), fun o h1 h2 i _ => by rw [(h.1.2.2.2 (mb + o) (by omega)).1]⟩
theorem RWl.tr (h : RWl mb x T T') (k : RWl mb x T' U) : RWl mb x T U := ⟨h.1.tr k.1, fun g hg => (k.2.1 g hg).trans (h.2.1 g hg), fun o h1 h2 i hi => (k.2.2 o h1 h2 i hi).trans (h.2.2 o h1 h2 i hi)⟩
theorem RWl.rf (T : St) : RWl mb x T T := ⟨SW.rf _ _, fun _ _ => rfl, fun _ _ _ _ _ => rfl⟩
theorem PMr.row (h : PMr mb tb n ts T c d L) {o : Nat} (h1 : 30 ≤ o) (h2 : o ≤ 34) (u : Int32) : PMr mb tb n ts (setI T (mb + o) x u) c d L ∧ RWl mb x T (setI T (mb + o) x u) := by
  obtain ⟨k, a1, a2, a3, a4, a5, a6, a7, a8, a9⟩ := h
  have hO : ∀ g, mi (setI T (mb + o) x u) mb g = mi T mb g := fun g => by rw [mi_setI_i, if_neg (by omega)]
  have w : RWl mb x T (setI T (mb + o) x u) := ⟨SW_I _ _ (by unfold Pr; omega), fun g _ => hO g, fun p _ _ i hi => by rw [mi_setI_i, if_neg (by omega)]⟩
  exact ⟨⟨k.sw w.1 (hO 44), a1, by rw [hO]; exact a2, by rw [hO]; exact a3, by rw [hO]; exact a4, by rw [hO]; exact a5, by rw [hO]; exact a6, by rw [hO]; exact a7, by rw [hO]; exact a8, fun j hj => by rw [mi_setI_i, if_neg (by omega), mi_setI_i, if_neg (by omega)]; exact a9 j hj⟩, w⟩
theorem PMr.fld (h : PMr mb tb n ts T c d L) {k : Nat} (hk : k = 42 ∨ k = 53) (u : Int32) : PMr mb tb n ts (setI T mb k u) c d L ∧ RWl mb x T (setI T mb k u) := by
  obtain ⟨k0, a1, a2, a3, a4, a5, a6, a7, a8, a9⟩ := h
  have hO : ∀ g, g ≠ 42 → g ≠ 53 → mi (setI T mb k u) mb g = mi T mb g := fun g _ _ => by rw [mi_setI_i, if_neg (by omega)]
  have w : RWl mb x T (setI T mb k u) := ⟨SW_I _ _ (by unfold Pr; omega), fun g _ => hO g (by omega) (by omega), fun p _ _ i hi => by rw [mi_setI_i, if_neg (by omega)]⟩
  exact ⟨⟨k0.sw w.1 (hO 44 (by omega) (by omega)), a1, by rw [hO _ (by omega) (by omega)]; exact a2, by rw [hO _ (by omega) (by omega)]; exact a3, by rw [hO _ (by omega) (by omega)]; exact a4, by rw [hO _ (by omega) (by omega)]; exact a5, by rw [hO _ (by omega) (by omega)]; exact a6, by rw [hO _ (by omega) (by omega)]; exact a7, by rw [hO _ (by omega) (by omega)]; exact a8, fun j hj => by rw [mi_setI_i, if_neg (by omega), mi_setI_i, if_neg (by omega)]; exact a9 j hj⟩, w⟩
/-- the law is written -/
theorem PCr.law (h : PCr r la l ts f T c d C) {a k : Nat} (ha : a = la ∧ k ≠ 8 ∨ a = la + 1) (u : Int32) : SW (Pc r la) T (setI T a k u) ∧ PCr r la l ts f (setI T a k u) c d C := by
  obtain ⟨k0, h1, h2, h3, h4, h5, h6, h7, h8, h9, h10, h11⟩ := h
  obtain ⟨n1, n2, n3⟩ := k0.ne
  have w : SW (Pc r la) T (setI T a k u) := SW_I _ _ (by unfold Pc; omega)
  have hO : ∀ g, mi (setI T a k u) r g = mi T r g := fun g => by rw [mi_setI_i, if_neg (by omega)]
  exact ⟨w, k0.sw w, h1, by rw [hO]; exact h2, by rw [hO]; exact h3, by rw [hO]; exact h4, by rw [hO]; exact h5, by rw [hO]; exact h6, by rw [hO]; exact h7, by rw [hO]; exact h8, by rw [mi_setI_i, if_neg (by omega)]; exact h9, h10, fun i hi => by rw [mi_setI_i, if_neg (by omega)]; exact h11 i hi⟩
theorem FC.law (h : FC r la l ts f T fl fp) {a k : Nat} (ha : a = la ∨ a = la + 1) (u : Int32) : SW (Pc r la) T (setI T a k u) ∧ FC r la l ts f (setI T a k u) fl fp := by
  obtain ⟨k0, h1, h2, h3, h4⟩ := h
  obtain ⟨n1, n2, n3⟩ := k0.ne
  have w : SW (Pc r la) T (setI T a k u) := SW_I _ _ (by unfold Pc; omega)
  have hO : ∀ g, mi (setI T a k u) r g = mi T r g := fun g => by rw [mi_setI_i, if_neg (by omega)]
  exact ⟨w, k0.sw w, h1, by rw [hO]; exact h2, by rw [hO]; exact h3, by rw [hO]; exact h4⟩
/-- both take a number -/
theorem num2 (hc : PCr r la l ts f Tc c d C) (hm : PMr mb tb n ts Tm c d L) {y : Nat} (hy : y < 2 ^ 31) : (∃ Tc' Tm' v, f_X7_takeNumber Tc r 0 (nI y) = some (nI v, Tc') ∧ f_X12_aNumber Tm mb (nI y) = some (1, Tm') ∧ CWr r la Tc Tc' ∧ RWl mb x Tm Tm' ∧ (∀ o, 30 ≤ o → o ≤ 34 → mi Tm' (mb + o) = mi Tm (mb + o)) ∧ mi Tm' mb 42 = mi Tm mb 42 ∧ PCr r la l ts f Tc' (c + 1) d C ∧ PMr mb tb n ts Tm' (c + 1) d L ∧ mi Tm' mb 53 = nI v ∧ v ≤ y) ∨ (∃ Tc' Tm' fl fp, f_X7_takeNumber Tc r 0 (nI y) = some (0, Tc') ∧ f_X12_aNumber Tm mb (nI y) = some (0, Tm') ∧ CWr r la Tc Tc' ∧ RWl mb x Tm Tm' ∧ FC r la l ts f Tc' fl fp ∧ mi Tm' mb 49 = fl ∧ mi Tm' mb 50 = fp) := by
  have tx := hm.tx
  rcases X_num hc hm (x := 0) (y := y) (by decide) hy with ⟨A1, u0, u1, u2, u3, u4, u5⟩ | ⟨A1, u0, u1, u3, u4, u5⟩ | ⟨A1, u0, u3, u4, u5⟩
  · have i2 : nI (mc (tkn ts c).1) = 2 := by rw [u0]; rfl
    obtain ⟨k1, k2⟩ := hm.fld (x := x) (k := 53) (Or.inr rfl) (nI (tkn ts c).2.2.1)
    obtain ⟨B, b1, b2, b3⟩ := M_adv k1 (by omega)
    refine Or.inl ⟨A1, B, (tkn ts c).2.2.1, u3, ?_, u4, k2.tr b2.wl, fun o h1 h2 => ?_, ?_, u5, b3, ?_, u2⟩
    · unfold f_X12_aNumber
      simp only [hm.g46, i2, eq_self, if_true, hm.g48 u0, Option.bind_some]
      rw [if_pos (nI_le u2 hy)]
      simp only [mP hm.1.1, Option.bind_some, k1.rv, b1]
    · rw [(b2.1.2.2.2 (mb + o) (by omega)).1]
      funext i
      rw [mi_setI_i, if_neg (by omega)]
    · rw [b2.2 42 (by omega), mi_setI_i, if_neg (by omega)]
    · rw [b2.2 53 (by omega), mi_setI_i, if_pos ⟨rfl, rfl⟩]
  · have i2 : nI (mc (tkn ts c).1) = 2 := by rw [u0]; rfl
    obtain ⟨B, b1, b2, b3, b4⟩ := M_bad hm 2
    refine Or.inr ⟨A1, B, 2, _, u3, ?_, u4, b2.wl, u5, b3, b4⟩
    unfold f_X12_aNumber
    simp only [hm.g46, i2, eq_self, if_true, hm.g48 u0, Option.bind_some]
    rw [if_neg (nI_ge (by omega) (by omega))]
    simp only [hm.rv, b1, Option.bind_some, zchk0]
  · have i2 : ¬ nI (mc (tkn ts c).1) = 2 := (hm.ct (s := 2) (by omega) u0).2
    obtain ⟨B, b1, b2, b3, b4⟩ := M_bad hm 1
    refine Or.inr ⟨A1, B, 1, _, u3, ?_, u4, b2.wl, u5, b3, b4⟩
    unfold f_X12_aNumber
    simp only [hm.g46, if_neg i2, Option.bind_some, hm.rv, b1, zchk0]
/-- a line with one number -/
theorem two1 (hc : PCr r la l ts f Tc c d C) (hm : PMr mb tb n ts Tm c d L) (hx : x < 24) {y : Nat} (hy : y < 2 ^ 31) : (∃ Tc' Tm' v, f_X7_takeNumber Tc r 0 (nI y) = some (nI v, Tc') ∧ f_X12_two Tm mb (nI x) (nI y) (-1) = some (1, Tm') ∧ CWr r la Tc Tc' ∧ RWl mb x Tm Tm' ∧ mi Tm' (mb + 30) = mi Tm (mb + 30) ∧ mi Tm' mb 42 = mi Tm mb 42 ∧ PCr r la l ts f Tc' (c + 1) d C ∧ PMr mb tb n ts Tm' (c + 1) d L ∧ mi Tm' (mb + 31) x = nI v ∧ v ≤ y) ∨ (∃ Tc' Tm' fl fp, f_X7_takeNumber Tc r 0 (nI y) = some (0, Tc') ∧ f_X12_two Tm mb (nI x) (nI y) (-1) = some (0, Tm') ∧ CWr r la Tc Tc' ∧ RWl mb x Tm Tm' ∧ FC r la l ts f Tc' fl fp ∧ mi Tm' mb 49 = fl ∧ mi Tm' mb 50 = fp) := by
  have q3 : ¬ ((1 : Int32) = 0) := by decide
  rcases num2 (x := x) hc hm hy with ⟨A, B, v, a1, b1, a2, b2, b3, b4, a5, b5, b6, b7⟩ | ⟨A, B, fl, fp, a1, b1, a2, b2, b3, b4, b5⟩
  · obtain ⟨k1, k2⟩ := b5.row (x := x) (o := 31) (by omega) (by omega) (nI v)
    refine Or.inl ⟨A, setI B (mb + 31) x (nI v), v, a1, ?_, a2, b2.tr k2, ?_, ?_, a5, k1, by rw [mi_setI_i, if_pos ⟨rfl, rfl⟩], b7⟩
    · unfold f_X12_two
      simp only [hm.rv, b1, Option.bind_some, if_neg q3, mR_freshA b5.1.1, mI b5.1.1, b6, mS_freshA b5.1.1 hx, nrw15, if_true]
    · rw [← b3 30 (by omega) (by omega)]
      funext i
      rw [mi_setI_i, if_neg (by omega)]
    · rw [mi_setI_i, if_neg (by omega)]; exact b4
  · refine Or.inr ⟨A, B, fl, fp, a1, ?_, a2, b2, b3, b4, b5⟩
    unfold f_X12_two
    simp only [hm.rv, b1, Option.bind_some, if_true]
end Lin
