/-! WRITES of numbers alone -/
def SW (P : Nat → Prop) (T T' : St) : Prop := T'.1 = T.1 ∧ T'.2.1 = T.2.1 ∧ mr T' = mr T ∧ ∀ a, ¬ P a → mi T' a = mi T a ∧ ml T' a = ml T a
section Sw
variable {P Q : Nat → Prop} {T T' U : St}
theorem SW.rf (P : Nat → Prop) (T : St) : SW P T T := ⟨rfl, rfl, rfl, fun _ _ => ⟨rfl, rfl⟩⟩
theorem SW.tr (h : SW P T T') (k : SW P T' U) : SW P T U := ⟨k.1.trans h.1, k.2.1.trans h.2.1, k.2.2.1.trans h.2.2.1, fun a ha => ⟨(k.2.2.2 a ha).1.trans (h.2.2.2 a ha).1, (k.2.2.2 a ha).2.trans (h.2.2.2 a ha).2⟩⟩
theorem SW.mono (h : SW P T T') (hq : ∀ a, P a → Q a) : SW Q T T' := ⟨h.1, h.2.1, h.2.2.1, fun a ha => h.2.2.2 a (fun c => ha (hq a c))⟩
theorem SW_I {a : Nat} (k : Nat) (v : Int32) (hp : P a) : SW P T (setI T a k v) := ⟨rfl, rfl, rfl, fun b hb => by
  have hne : b ≠ a := fun c => hb (by rw [c]; exact hp)
  exact ⟨by funext j; rw [mi_setI_i, if_neg (fun c => hne c.1)], rfl⟩⟩
theorem SW_L {a : Nat} (k : Nat) (v : Int64) (hp : P a) : SW P T (setL T a k v) := ⟨rfl, rfl, rfl, fun b hb => by
  have hne : b ≠ a := fun c => hb (by rw [c]; exact hp)
  exact ⟨rfl, by funext j; rw [ml_setL_i, if_neg (fun c => hne c.1)]⟩⟩
theorem SW.nx (h : SW P T T') : nx T' = nx T := congrArg (fun z => z.1) h.1
theorem SW.sl (h : SW P T T') : sl T' = sl T := congrArg (fun z => z.2.1) h.1
theorem SW.cap (h : SW P T T') : cap T' = cap T := congrArg (fun z => z.2.2.1) h.1
theorem SW.emp (h : SW P T T') : emp T' = emp T := congrArg (fun z => z.2.2.2.1) h.1
theorem SW.lit (h : SW P T T') : lit T' = lit T := congrArg (fun z => z.2.2.2.2) h.1
theorem SW.kd (h : SW P T T') : kd T' = kd T := congrArg (fun z => z.1) h.2.1
theorem SW.ln (h : SW P T T') : ln T' = ln T := congrArg (fun z => z.2) h.2.1
theorem SW.mr (h : SW P T T') : mr T' = mr T := h.2.2.1
theorem SW.fr (h : SW P T T') (hk : ∀ a, P a → CSleepOfficeLaw_law_r5452_3564dc.kd T a ≤ 20) : Fr P T T' := by
  refine ⟨⟨by rw [h.nx]; exact Nat.le_refl _, by rw [h.sl]; exact Nat.le_refl _, h.cap, h.emp, h.lit, fun a _ => ⟨by rw [h.kd], by rw [h.ln], fun h21 => ⟨(h.2.2.2 a (fun c => by have := hk a c; omega)).1, by rw [h.mr]⟩⟩⟩, fun w a ha => ?_, fun a _ ha => ⟨(h.2.2.2 a ha).1, (h.2.2.2 a ha).2, by rw [h.mr]⟩⟩
  rw [h.kd]
  exact w a (by rw [h.nx] at ha; exact ha)
theorem MOK.sw {mb : Nat} (m : MOK T mb) (h : SW P T T') : MOK T' mb := by
  unfold MOK
  rw [h.kd, h.ln, h.mr]
  exact m
theorem XOK.sw {xb : Nat} (x : XOK T xb) (h : SW P T T') : XOK T' xb := by
  unfold XOK
  rw [h.kd, h.ln, h.mr]
  exact x
end Sw
/-- the figures of a new firm -/
theorem X4_loop {a e : Nat} : ∀ (n t fu : Nat) (T : St), t + n = 20 → n < fu → kd T a = 5 → mr T a 4 = some e → kd T e = 15 → ln T e = 20 → ∃ T', f_X4_init_34 fu T a (nI t) = some T' ∧ SW (fun z => z = e) T T' ∧ (∀ y, t ≤ y → y < 20 → mi T' e y = -1) ∧ ∀ y, y < t → mi T' e y = mi T e y
  | n, t, 0, T, _, h2, _, _, _, _ => by omega
  | 0, t, fu + 1, T, h1, _, k1, r1, k2, l2 => by
    unfold f_X4_init_34
    simp only [getR_s k1, r1, Option.bind_some, alen_s (show 14 ≤ kd T e ∧ kd T e ≤ 20 by omega) l2]
    rw [if_pos (nI_le (by omega) (by omega))]
    exact ⟨T, rfl, SW.rf _ _, fun y h1 h2 => by omega, fun y _ => rfl⟩
  | n + 1, t, fu + 1, T, h1, h2, k1, r1, k2, l2 => by
    unfold f_X4_init_34
    simp only [getR_s k1, r1, Option.bind_some, alen_s (show 14 ≤ kd T e ∧ kd T e ≤ 20 by omega) l2]
    rw [if_neg (nI_ge (by omega) (by omega)), stI_s k2 l2 (show t < 20 by omega) (by decide)]
    simp only [Option.bind_some, nI_1, nrw15]
    obtain ⟨T', g1, g2, g3, g4⟩ := X4_loop n (t + 1) fu (setI T e t (-1)) (by omega) (by omega) k1 r1 k2 l2
    refine ⟨T', g1, (SW_I (P := fun z => z = e) t _ rfl).tr g2, fun y y1 y2 => ?_, fun y y1 => ?_⟩
    · by_cases c : y = t
      · rw [g4 y (by omega), mi_setI_i, if_pos ⟨rfl, c⟩]
      · exact g3 y (by omega) y2
    · rw [g4 y (by omega), mi_setI_i, if_neg (by omega)]
theorem X4_init {T : St} {a : Nat} (n s : Int32) (hk : kd T a = 5) (ha : a < nx T) (hc : nx T + 1 ≤ cap T) (hs : sl T + 20 ≤ 7302250) : ∃ T', f_X4_init T a n s = some T' ∧ kd T' a = 5 ∧ kd T' (nx T) = 15 ∧ ln T' (nx T) = 20 ∧ mr T' a 2 = none ∧ mr T' a 4 = some (nx T) ∧ mi T' a 0 = n ∧ mi T' a 1 = s ∧ (∀ y, y < 20 → mi T' (nx T) y = -1) ∧ nx T' = nx T + 1 ∧ sl T' = sl T + 20 ∧ Fr (fun z => z = a) T T' ∧ ∀ z, z ≠ nx T → kd T' z = kd T z := by
  unfold f_X4_init
  rw [putR_s hk]
  simp only [Option.bind_some]
  rw [putI_s (show kd (setR T a 2 none) a = 5 from hk)]
  simp only [Option.bind_some]
  generalize hA : setI (setR T a 2 none) a 3 (-1) = A
  have A1 : nx A = nx T := by rw [← hA]; rfl
  have A2 : sl A = sl T := by rw [← hA]; rfl
  have A3 : cap A = cap T := by rw [← hA]; rfl
  have A4 : kd A = kd T := by rw [← hA]; rfl
  have A5 : mr A a 2 = none := by rw [← hA, mr_setI_, mr_setR_i, if_pos ⟨rfl, rfl⟩]
  have AF : Fr (fun z => z = a) T A := by
    rw [← hA]
    exact ((Fr.rf (fun z => z = a) T).sR (a := a) 2 none (by omega) (fun _ => rfl)).sI 3 _ (by show kd T a ≤ 20; omega) (fun _ => rfl)
  rw [show (20 : Int32) = nI 20 from rfl, newA_s (by decide) (by omega) (by omega)]
  simp only [Option.bind_some]
  have B1 : kd (mk0 A 20 15 20) a = 5 := by rw [kd_mk0, if_neg (by omega), A4, hk]
  rw [putR_s B1]
  simp only [Option.bind_some]
  rw [putI_s (show kd (setR (mk0 A 20 15 20) a 4 (some (nx A))) a = 5 from B1)]
  simp only [Option.bind_some]
  rw [putI_s (show kd (setI (setR (mk0 A 20 15 20) a 4 (some (nx A))) a 0 n) a = 5 from B1)]
  simp only [Option.bind_some]
  have ha2 : a ≠ nx T := by omega
  generalize hB : setI (setI (setR (mk0 A 20 15 20) a 4 (some (nx A))) a 0 n) a 1 s = B
  have C1 : kd B a = 5 := by rw [← hB]; exact B1
  have C2 : kd B (nx T) = 15 := by rw [← hB]; show kd (mk0 A 20 15 20) (nx T) = 15; rw [kd_mk0, A1, if_pos rfl]
  have C3 : ln B (nx T) = 20 := by rw [← hB]; show ln (mk0 A 20 15 20) (nx T) = 20; rw [ln_mk0, A1, if_pos rfl]
  have C4 : mr B a 4 = some (nx T) := by rw [← hB, mr_setI_, mr_setI_, mr_setR_i, if_pos ⟨rfl, rfl⟩, A1]
  have C5 : mr B a 2 = none := by rw [← hB, mr_setI_, mr_setI_, mr_setR_i, if_neg (by omega), mr_mk0, if_neg (by omega), A5]
  obtain ⟨T', g1, g2, g3, g4⟩ := X4_loop (a := a) (e := nx T) 20 0 FU B (by omega) (by unfold FU; omega) C1 C4 C2 C3
  refine ⟨T', g1, by rw [g2.kd, C1], by rw [g2.kd, C2], by rw [g2.ln, C3], by rw [g2.mr, C5], by rw [g2.mr, C4], ?_, ?_, fun y hy => g3 y (by omega) hy, ?_, ?_, ?_, ?_⟩
  · rw [(g2.2.2.2 a ha2).1, ← hB, mi_setI_i, if_neg (by omega), mi_setI_i, if_pos ⟨rfl, rfl⟩]
  · rw [(g2.2.2.2 a ha2).1, ← hB, mi_setI_i, if_pos ⟨rfl, rfl⟩]
  · rw [g2.nx, ← hB]; show nx A + 1 = _; omega
  · rw [g2.sl, ← hB]; show sl A + 20 = _; omega
  · have BF : Fr (fun z => z = a) (mk0 A 20 15 20) B := by
      rw [← hB]
      exact (((Fr.rf (fun z => z = a) (mk0 A 20 15 20)).sR (a := a) 4 _ (by omega) (fun _ => rfl)).sI (a := a) 0 _ (by show kd (mk0 A 20 15 20) a ≤ 20; omega) (fun _ => rfl)).sI 1 _ (by show kd (mk0 A 20 15 20) a ≤ 20; omega) (fun _ => rfl)
    refine (((AF.mk 20 15 20).tr BF (fun _ _ e => e)).tr (g2.fr (fun z hz => by rw [hz]; omega)) (fun z h1 h2 => ?_))
    omega
  · intro z hz
    rw [g2.kd, ← hB]
    show kd (mk0 A 20 15 20) z = _
    rw [kd_mk0, if_neg (by omega), A4]
