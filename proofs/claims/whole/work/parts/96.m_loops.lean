section Ter
variable {r la l mb n : Nat} {tb : Nat → Nat} {ts : List Tk} {f : Nat → Nat} {Tc Tm Ac Am : St} {c d : Nat} {C C1 : List Int32} {L L1 : List Sps} {Q Q' : List Sps → Prop} {ru : St → Nat → Option St} {gu : St → Nat → Option (Int32 × St)}
theorem PMr.rv (h : PMr mb tb n ts Tm c d L) : rcv Tm (some mb) 13 = some mb := mV h.1.1
theorem PMr.g46 (h : PMr mb tb n ts Tm c d L) : getI Tm (some mb) 13 46 = some (nI (mc (tkn ts c).1)) := by rw [mI h.1.1, h.2.2.2.1]
theorem PMr.g48 (h : PMr mb tb n ts Tm c d L) (hs : (tkn ts c).1 = 2) : getI Tm (some mb) 13 48 = some (nI (tkn ts c).2.2.1) := by rw [mI h.1.1, h.2.2.2.2.2.1 hs]
theorem PMr.ct (h : PMr mb tb n ts Tm c d L) {s : Nat} (hs : s < 27) (h2 : (tkn ts c).1 ≠ s) : ¬ nI (tkn ts c).1 = nI s ∧ ¬ nI (mc (tkn ts c).1) = nI (mc s) := ⟨fun z => h2 ((nI_e27 _ h.tx.2.1 s hs).mp z), fun z => h2 ((mc_eq _ h.tx.2.1 s hs).mp z)⟩
/-! the class's loop over terms -/
theorem t8_mul (hc : PCr r la l ts f Tc c d C) {x : Int32} (hx : ¬ (nI ts.length ≤ x)) (fu : Nat) (w : Int32) {s : Int32} (hs : nI (tkn ts c).1 = s) (h1 : ¬ s < 18 ∧ ¬ (21 : Int32) < s ∧ ¬ s = 18 ∧ ¬ s = 19) : f_X7_readTerms_8 ru (fu + 1) Tc r w x = f_X7_readTerms_89 ru (f_X7_readTerms_8 ru fu) Tc r x s 0 w := by
  rw [f_X7_readTerms_8]
  simp only [hc.1.g3, hc.1.r3, hc.1.sz, hc.gs, hs, Option.bind_some, if_neg hx, if_neg h1.1, if_neg h1.2.1, if_neg h1.2.2.1, if_neg h1.2.2.2]
  unfold f_X7_readTerms_59 f_X7_readTerms_79
  simp only [eq_self, if_true]
theorem t8_54 (hc : PCr r la l ts f Tc c d C) {x : Int32} (hx : ¬ (nI ts.length ≤ x)) (fu : Nat) (w : Int32) {s : Int32} (hs : nI (tkn ts c).1 = s) (h1 : ¬ s < 18 ∧ ¬ (21 : Int32) < s ∧ (s = 18 ∨ s = 19)) : f_X7_readTerms_8 ru (fu + 1) Tc r w x = f_X7_readTerms_59 ru (f_X7_readTerms_8 ru fu) Tc r w x s 1 := by
  rw [f_X7_readTerms_8]
  simp only [hc.1.g3, hc.1.r3, hc.1.sz, hc.gs, hs, Option.bind_some, if_neg hx, if_neg h1.1, if_neg h1.2.1]
  unfold f_X7_readTerms_54
  by_cases e : s = 18
  · rw [if_pos e]
  · rw [if_neg e, if_pos (h1.2.2.resolve_left e)]
theorem t8_add0 (hc : PCr r la l ts f Tc c d C) {x : Int32} (hx : ¬ (nI ts.length ≤ x)) (fu : Nat) {s : Int32} (hs : nI (tkn ts c).1 = s) (h1 : ¬ s < 18 ∧ ¬ (21 : Int32) < s ∧ (s = 18 ∨ s = 19)) : f_X7_readTerms_8 ru (fu + 1) Tc r 0 x = f_X7_readTerms_89 ru (f_X7_readTerms_8 ru fu) Tc r x s 1 s := by
  have q3 : ¬ ((1 : Int32) = 0) := by decide
  rw [t8_54 hc hx fu 0 hs h1]
  unfold f_X7_readTerms_59 f_X7_readTerms_79
  simp only [if_neg q3, eq_self, if_true]
theorem t8_add1 (hc : PCr r la l ts f Tc c d C) {x : Int32} (hx : ¬ (nI ts.length ≤ x)) (fu : Nat) {w : Int32} (hw : ¬ w = 0) {A : St} (ha : f_X6_addCode Tc la (-w) = some A) {s : Int32} (hs : nI (tkn ts c).1 = s) (h1 : ¬ s < 18 ∧ ¬ (21 : Int32) < s ∧ (s = 18 ∨ s = 19)) : f_X7_readTerms_8 ru (fu + 1) Tc r w x = f_X7_readTerms_89 ru (f_X7_readTerms_8 ru fu) A r x s 1 s := by
  have q3 : ¬ ((1 : Int32) = 0) := by decide
  rw [t8_54 hc hx fu w hs h1]
  unfold f_X7_readTerms_59 f_X7_readTerms_79
  simp only [if_neg q3, if_neg hw, hc.1.gl, hc.1.rl, ha, Option.bind_some]
theorem t8_end (hc : PCr r la l ts f Tc c d C) (fu : Nat) (w x : Int32) {s : Int32} (hs : nI (tkn ts c).1 = s) (h1 : s < 18 ∨ (21 : Int32) < s) : f_X7_readTerms_8 ru (fu + 1) Tc r w x = some (r, w, Tc) := by
  rw [f_X7_readTerms_8]
  simp only [hc.1.g3, hc.1.r3, hc.1.sz, hc.gs, hs, Option.bind_some]
  by_cases e : s < 18
  · rw [if_pos e]
    split <;> rfl
  · rw [if_neg e, if_pos (h1.resolve_left e)]
    split <;> rfl
theorem t89_u {rec : St → Nat → Int32 → Int32 → Option (Nat × Int32 × St)} {A A1 : St} {x s x4 w : Int32} (h1 : f_X7_advance Tc r = some A) (h2 : rcv Tc (some r) 8 = some r) (h3 : rcv A (some r) 8 = some r) (h4 : ru A r = some A1) (hs : ¬ s = 21) : f_X7_readTerms_89 ru rec Tc r x s x4 w = f_X7_readTerms_121 ru rec A1 r w x s x4 := by
  unfold f_X7_readTerms_89
  simp only [h1, h2, h3, h4, Option.bind_some, if_neg hs]
theorem t89_n {rec : St → Nat → Int32 → Int32 → Option (Nat × Int32 × St)} {A A1 A2 : St} {x x4 w v : Int32} (h1 : f_X7_advance Tc r = some A) (h2 : rcv Tc (some r) 8 = some r) (h3 : rcv A (some r) 8 = some r) (hg : getR A (some r) 8 0 = some (some la)) (h4 : f_X7_takeNumber A r 1 99999 = some (v, A1)) (h5 : rcv A1 (some la) 7 = some la) (h6 : f_X6_addCode A1 la v = some A2) : f_X7_readTerms_89 ru rec Tc r x 21 x4 w = f_X7_readTerms_121 ru rec A2 r w x 21 x4 := by
  unfold f_X7_readTerms_89
  simp only [h1, h2, h3, hg, h4, h5, h6, Option.bind_some, eq_self, if_true]
theorem t121_0 {rec : St → Nat → Int32 → Int32 → Option (Nat × Int32 × St)} {A A1 : St} {x s w : Int32} (h1 : getR A (some r) 8 0 = some (some la)) (h2 : rcv A (some la) 7 = some la) (h3 : f_X6_addCode A la (-s) = some A1) : f_X7_readTerms_121 ru rec A r w x s 0 = rec A1 r w (x + 1) := by
  unfold f_X7_readTerms_121
  simp only [h1, h2, h3, Option.bind_some, eq_self, if_true]
theorem t121_1 {rec : St → Nat → Int32 → Int32 → Option (Nat × Int32 × St)} {A : St} {x s w : Int32} : f_X7_readTerms_121 ru rec A r w x s 1 = rec A r w (x + 1) := by
  unfold f_X7_readTerms_121
  rw [if_neg (by decide)]
/-! the reference's sum: behind its sign a product, then its step -/
def Hs (gu : St → Nat → Option (Int32 × St)) (mb fo k : Nat) : Int32 × St → Option (Int32 × St) := fun o => if o.1 = 0 then some (0, o.2) else (rcv o.2 (some mb) 13).bind fun b59 => (f_X12_lay o.2 b59 (nI k) 0).bind fun S59 => f_X12_sumUp_9 gu fo S59 mb
def Qt (q p : Nat) (L : List Sps) : Prop := ∀ t : List Bool, t.length + (q + 2) ≤ 32 → tyD 32 L (if p = 0 then false :: t else false :: false :: t) = some (false :: t)
theorem sum9_ad {B B1 : St} {v : Int32} (fo : Nat) {k : Nat} (hm : PMr mb tb n ts Tm c d L) (hk : (tkn ts c).1 = 18 ∧ k = 5 ∨ (tkn ts c).1 = 19 ∧ k = 6) (b1 : f_X12_next0 Tm mb = some B) (b2 : rcv B (some mb) 13 = some mb) (h1 : gu B mb = some (v, B1)) : f_X12_sumUp_9 gu (fo + 1) Tm mb = (if v = 0 then some (0, B1) else (f_X12_product_9 gu FU B1 mb).bind (Hs gu mb fo k)) := by
  have hp : f_X12_product gu B mb = if v = 0 then some (0, B1) else f_X12_product_9 gu FU B1 mb := by
    unfold f_X12_product
    simp only [b2, h1, Option.bind_some]
  have fin : ∀ t0 : Int32, t0 = nI k → f_X12_sumUp_42 gu (f_X12_sumUp_9 gu fo) Tm mb t0 = (if v = 0 then some (0, B1) else (f_X12_product_9 gu FU B1 mb).bind (Hs gu mb fo k)) := fun t0 ht => by
    unfold f_X12_sumUp_42
    simp only [hm.rv, b1, b2, Option.bind_some]
    rw [hp, ht]
    by_cases z : v = 0
    · rw [if_pos z, if_pos z]
      rfl
    · rw [if_neg z, if_neg z]
      rfl
  rw [f_X12_sumUp_9]
  unfold f_X12_sumUp_27
  rcases hk with ⟨s, rfl⟩ | ⟨s, rfl⟩
  · have i2 : nI (mc (tkn ts c).1) = 43 := by rw [s]; rfl
    simp only [hm.g46, i2, eq_self, if_true, Option.bind_some]
    exact fin 5 rfl
  · have i2 : nI (mc (tkn ts c).1) = 45 := by rw [s]; rfl
    simp only [hm.g46, i2, eq_self, if_true, Option.bind_some, if_neg (show ¬ ((45 : Int32) = 43) by decide)]
    exact fin 6 rfl
end Ter
