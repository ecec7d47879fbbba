/-! ACTS AND GROWTHS: a new one in its place -/
theorem getD_get {α : Type} {l : List α} {k : Nat} {d : α} (h : k < l.length) : l.getD k d = l[k] := by simp [List.getD_eq_getElem?_getD, h]
theorem ins_getD {l : List Nat} {p x : Nat} (hp : p ≤ l.length) (k : Nat) : (l.take p ++ x :: l.drop p).getD k 0 = if k < p then l.getD k 0 else if k = p then x else l.getD (k - 1) 0 := by
  have hl : (l.take p).length = p := by rw [List.length_take]; omega
  simp only [List.getD_eq_getElem?_getD]
  by_cases c1 : k < p
  · rw [if_pos c1, List.getElem?_append_left (by omega), List.getElem?_take_of_lt c1]
  · rw [if_neg c1, List.getElem?_append_right (by omega), hl]
    by_cases c2 : k = p
    · rw [if_pos c2, c2, Nat.sub_self]; rfl
    · rw [if_neg c2]
      obtain ⟨j, rfl⟩ : ∃ j, k = p + (j + 1) := ⟨k - p - 1, by omega⟩
      rw [show p + (j + 1) - p = j + 1 by omega, List.getElem?_cons_succ, List.getElem?_drop, show p + (j + 1) - 1 = p + j by omega]
theorem insF_l {l : List Nat} {ea : Nat → Nat} {p x A ne : Nat} (hp : p ≤ l.length) (hx : x = ne) (hl : ∀ k, k < l.length → l.getD k 0 < ne) {k : Nat} (hk : k < l.length + 1) : insF (fun k => ea (l.getD k 0)) p A k = up1 ea ne A ((l.take p ++ x :: l.drop p).getD k 0) := by
  rw [ins_getD hp]
  unfold insF
  by_cases c1 : k < p
  · rw [if_pos c1, if_pos c1, up1_ne _ (by have := hl k (by omega); omega)]
  · rw [if_neg c1, if_neg c1]
    by_cases c2 : k = p
    · rw [if_pos c2, if_pos c2, hx, up1_eq]
    · rw [if_neg c2, if_neg c2, up1_ne _ (by have := hl (k - 1) (by omega); omega)]
theorem LI.congr {S : St} {l n : Nat} {f g : Nat → Nat} (h : LI S l n f) (e : ∀ k, k < n → f k = g k) : LI S l n g := by
  obtain ⟨a1, a2, a3, ⟨d, a4, a5, a6⟩, a7⟩ := h
  exact ⟨a1, a2, a3, ⟨d, a4, a5, fun i hi => by rw [← e i hi]; exact a6 i hi⟩, fun i hi => by rw [← e i hi]; exact a7 i hi⟩
theorem eLt_tr {M : MI} {x y z : Nat} (h : eLt M x y) (k : eLt M y z) : eLt M x z := by
  unfold eLt at *
  rcases h with h | ⟨h1, h2⟩
  · rcases k with k | ⟨k1, k2⟩
    · left; omega
    · left; rw [← k1]; exact h
  · rcases k with k | ⟨k1, k2⟩
    · left; rw [h1]; exact k
    · right
      refine ⟨h1.trans k1, ?_⟩
      rcases h2 with ⟨u1, u2⟩ | ⟨u1, u2⟩ <;> rcases k2 with ⟨v1, v2⟩ | ⟨v1, v2⟩
      · exact Or.inl ⟨u1, v2⟩
      · exact Or.inl ⟨u1, fun q => u2 (v1.mpr q)⟩
      · exact Or.inl ⟨u1.mpr v1, v2⟩
      · exact Or.inr ⟨u1.trans v1, by omega⟩
/-- an entry comes ahead of another one -/
abbrev cah (S : St) (x y : Nat) : Prop := (mi S x 1).toInt < (mi S y 1).toInt ∨ mi S x 1 = mi S y 1 ∧ (mi S x 0 = -1 ∨ mi S y 0 ≠ -1)
theorem X_ahead {S : St} {x y : Nat} (hx : kd S x = 4) (hy : kd S y = 4) : f_X3_comesAhead S x (some y) = some (if cah S x y then 1 else 0) := by
  unfold f_X3_comesAhead
  simp only [getI_s hx, getI_s hy, Option.bind_some, lt_i]
  by_cases c1 : (mi S x 1).toInt < (mi S y 1).toInt
  · rw [if_pos c1, if_pos (Or.inl c1)]
  · rw [if_neg c1]
    by_cases c2 : mi S x 1 = mi S y 1
    · rw [if_pos c2]
      by_cases c3 : mi S x 0 = -1
      · rw [if_pos c3, if_pos (Or.inr ⟨c2, Or.inl c3⟩)]
      · rw [if_neg c3]
        by_cases c4 : mi S y 0 = -1
        · rw [if_pos c4, if_neg]
          rintro (q | ⟨-, q | q⟩)
          · exact c1 q
          · exact c3 q
          · exact q c4
        · rw [if_neg c4, if_pos (Or.inr ⟨c2, Or.inr c4⟩)]
    · rw [if_neg c2, if_neg]
      rintro (q | q)
      · exact c1 q
      · exact c2 q.1
theorem X_tell8 {S : St} {a l n y : Nat} {f : Nat → Nat} (ha : kd S a = 1) (hr : mr S a 5 = some l) (hL : LI S l n f) (hf : ∀ k, k < n → kd S (f k) = 4) (hy : kd S y = 4) : ∀ (t fu : Nat), t < fu → t ≤ n → ∃ p, p ≤ t ∧ f_X0_tell_8 fu S a (some y) (nI t) = some (a, some y, nI p, S) ∧ (p = 0 ∨ cah S (f (p - 1)) y) ∧ ∀ k, p ≤ k → k < t → ¬ cah S (f k) y
  | t, 0, h, _ => by omega
  | 0, fu + 1, _, _ => by
    refine ⟨0, Nat.le_refl _, ?_, Or.inl rfl, fun k _ h => by omega⟩
    unfold f_X0_tell_8
    rw [if_pos (by decide)]
  | t + 1, fu + 1, h, hn => by
    have hb := hL.2.2.1
    unfold f_X0_tell_8
    rw [if_neg (nI_nle (by omega) (by omega)), nI_pred]
    simp only [getR_s ha, hr, Option.bind_some, rcv_s hL.1, L_get hL (show t < n by omega), castO_s (hf t (by omega)), rcv_s (hf t (by omega)), X_ahead (hf t (by omega)) hy, i01, pk_m1]
    by_cases c : cah S (f t) y
    · refine ⟨t + 1, Nat.le_refl _, ?_, Or.inr c, fun k _ h => by omega⟩
      rw [if_neg (fun q => q c)]
    · obtain ⟨p, p1, p2, p3, p4⟩ := X_tell8 ha hr hL hf hy t fu (by omega) (by omega)
      refine ⟨p, by omega, ?_, p3, fun k k1 k2 => ?_⟩
      · rw [if_pos c, p2]
      · by_cases e : k = t
        · rw [e]; exact c
        · exact p4 k k1 (by omega)
def tellM (M : MI) (ne a : Nat) (st d v bb now : Int32) : MI := up2 (up2 (up2 (up2 (up2 (up2 (up2 M 14 ne (nI a)) 15 ne st) 16 ne d) 17 ne v) 18 ne bb) 19 ne now) 0 4 (nI (ne + 1))
section TellM
variable {M : MI} {ne a : Nat} {st d v bb now : Int32}
theorem tellM_lt {z : Nat} (hz : z ≠ ne) {o : Nat} (ho : o ≠ 0) : tellM M ne a st d v bb now o z = M o z := by
  unfold tellM
  rw [up2_ne _ ho]
  rw [up2_nk _ hz, up2_nk _ hz, up2_nk _ hz, up2_nk _ hz, up2_nk _ hz, up2_nk _ hz]
theorem tellM14 : tellM M ne a st d v bb now 14 ne = nI a := by
  unfold tellM
  rw [up2_ne _ (by decide), up2_ne _ (by decide), up2_ne _ (by decide), up2_ne _ (by decide), up2_ne _ (by decide), up2_ne _ (by decide), up2_eq]
theorem tellM15 : tellM M ne a st d v bb now 15 ne = st := by
  unfold tellM
  rw [up2_ne _ (by decide), up2_ne _ (by decide), up2_ne _ (by decide), up2_ne _ (by decide), up2_ne _ (by decide), up2_eq]
theorem tellM16 : tellM M ne a st d v bb now 16 ne = d := by
  unfold tellM
  rw [up2_ne _ (by decide), up2_ne _ (by decide), up2_ne _ (by decide), up2_ne _ (by decide), up2_eq]
theorem tellM17 : tellM M ne a st d v bb now 17 ne = v := by
  unfold tellM
  rw [up2_ne _ (by decide), up2_ne _ (by decide), up2_ne _ (by decide), up2_eq]
theorem tellM18 : tellM M ne a st d v bb now 18 ne = bb := by
  unfold tellM
  rw [up2_ne _ (by decide), up2_ne _ (by decide), up2_eq]
theorem tellM19 : tellM M ne a st d v bb now 19 ne = now := by
  unfold tellM
  rw [up2_ne _ (by decide), up2_eq]
theorem tellM04 : tellM M ne a st d v bb now 0 4 = nI (ne + 1) := by
  unfold tellM
  rw [up2_eq]
theorem eLt_tell {x y : Nat} (hx : x ≠ ne) (hy : y ≠ ne) : eLt (tellM M ne a st d v bb now) x y ↔ eLt M x y := by
  unfold eLt
  rw [tellM_lt hx (by decide), tellM_lt hx (by decide), tellM_lt hy (by decide), tellM_lt hy (by decide)]
theorem filt_tell {b : Nat} (ha : a < 2 ^ 31) (hb : b < 2 ^ 31) : (List.range (ne + 1)).filter (fun x => decide (tellM M ne a st d v bb now 14 x = nI b)) = (List.range ne).filter (fun x => decide (M 14 x = nI b)) ++ if a = b then [ne] else [] := by
  rw [List.range_succ, List.filter_append]
  congr 1
  · apply List.filter_congr
    intro x hx
    rw [List.mem_range] at hx
    rw [tellM_lt (by omega) (by decide)]
  · by_cases e : a = b
    · simp [tellM14, e]
    · simp [tellM14, nI_eq ha hb, e]
end TellM
theorem EL.mem {M : MI} {ne a : Nat} {l : List Nat} (h : EL M ne a l) {x : Nat} : x ∈ l ↔ x < ne ∧ M 14 x = nI a := by
  rw [h.1.mem_iff, List.mem_filter, List.mem_range, decide_eq_true_eq]
theorem EL.ins {M : MI} {ne a p : Nat} {l : List Nat} {st d v bb now : Int32} (h : EL M ne a l) (ha : a < 2 ^ 31) (hp : p ≤ l.length) (h1 : p = 0 ∨ eLt (tellM M ne a st d v bb now) (l.getD (p - 1) 0) ne) (h2 : ∀ k, p ≤ k → k < l.length → eLt (tellM M ne a st d v bb now) ne (l.getD k 0)) : EL (tellM M ne a st d v bb now) (ne + 1) a (l.take p ++ ne :: l.drop p) := by
  have hm : ∀ x, x ∈ l → x ≠ ne := fun x hx => by have := (h.mem.mp hx).1; omega
  refine ⟨?_, ?_⟩
  · rw [filt_tell ha ha, if_pos rfl]
    refine List.perm_middle.trans ?_
    rw [List.take_append_drop]
    exact (h.1.cons ne).trans (List.perm_append_singleton ne _).symm
  · have hs : l.Pairwise (eLt (tellM M ne a st d v bb now)) := h.2.imp_of_mem (fun hx hy q => (eLt_tell (hm _ hx) (hm _ hy)).mpr q)
    have hs2 := hs
    rw [← List.take_append_drop p l, List.pairwise_append] at hs
    obtain ⟨s1, s2, s3⟩ := hs
    rw [List.pairwise_append, List.pairwise_cons]
    refine ⟨s1, ⟨fun z hz => ?_, s2⟩, fun y hy z hz => ?_⟩
    · obtain ⟨k, hk, e⟩ := List.mem_iff_getElem.mp hz
      rw [List.length_drop] at hk
      rw [List.getElem_drop] at e
      have := h2 (p + k) (by omega) (by omega)
      rw [getD_get (by omega), e] at this
      exact this
    · rcases List.mem_cons.mp hz with e | hz
      · subst e
        obtain ⟨k, hk, e⟩ := List.mem_iff_getElem.mp hy
        rw [List.length_take] at hk
        rw [List.getElem_take] at e
        rcases h1 with h1 | h1
        · omega
        · rw [getD_get (by omega)] at h1
          by_cases ek : k = p - 1
          · subst ek; rw [e] at h1; exact h1
          · have := List.pairwise_iff_getElem.mp hs2 k (p - 1) (by omega) (by omega) (by omega)
            rw [e] at this
            exact eLt_tr this h1
      · exact s3 y hy z hz
