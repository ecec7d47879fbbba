/-- what tell does to the class's cells: T has the new entry at A, told of nobody yet -/
theorem X_tell {T : St} {xb a A ne na nf np nc : Nat} {M : MI} {L : ML} {fa pa aa ea ca : Nat → Nat} {il : Nat → List Nat} (jT : JX T xb M L ((nf, fa), (np, pa), (na, aa), (ne, ea, il), (nc, ca))) (ha : a < na) (hA : kd T A = 4) (hA2 : xb + 82 ≤ A) {st d v bb now : Int32} (hd : 0 ≤ d.toInt ∧ d.toInt ≤ 19999) (e1 : mi T A 1 = d) (e2 : mi T A 2 = now) (eS : st = 6 ∧ mi T A 0 = -1 ∧ mi T A 3 = v ∧ mi T A 4 = bb ∧ mi T A 5 = 0 ∧ 1 ≤ v.toInt ∧ v.toInt ≤ 9 ∧ 1 ≤ bb.toInt ∧ bb.toInt ≤ 9 ∨ (∃ s, s < 6 ∧ st = nI s) ∧ mi T A 0 = st ∧ mi T A 3 = 1 ∧ mi T A 4 = 1 ∧ mi T A 5 = v) (hne : ne < 600) (hc : nx T + 1 ≤ cap T) (hs : sl T + 1300 ≤ 7302250) (hg : st = 6 → ((il a).filter (fun x => decide (M 15 x = 6))).length < 4) : ∃ U p, f_X0_tell T (aa a) (some A) = some U ∧ Fr (Pl T (aa a + 1)) T U ∧ DA U ∧ nx U ≤ nx T + 1 ∧ sl U ≤ sl T + 1300 ∧ p ≤ (il a).length ∧ (∀ i, i < ne + 1 → EO U xb (tellM M ne a st d v bb now) (up1 ea ne A) i ∧ ∃ b, b < na ∧ tellM M ne a st d v bb now 14 i = nI b) ∧ (∀ b, b < na → LI U (aa b + 1) (upL il a ((il a).take p ++ ne :: (il a).drop p) b).length (fun k => up1 ea ne A ((upL il a ((il a).take p ++ ne :: (il a).drop p) b).getD k 0)) ∧ EL (tellM M ne a st d v bb now) (ne + 1) b (upL il a ((il a).take p ++ ne :: (il a).drop p) b) ∧ ((upL il a ((il a).take p ++ ne :: (il a).drop p) b).filter (fun x => decide (tellM M ne a st d v bb now 15 x = 6))).length = ((il b).filter (fun x => decide (M 15 x = 6))).length + (if b = a ∧ st = 6 then 1 else 0)) := by
  obtain ⟨bT, c0, ct, cy, cf, cp, cn, ca', ce, cc, cl⟩ := jT.un
  obtain ⟨t1, t2, t3, t4, t5⟩ := id ce
  obtain ⟨q1, q2, q3, q4, q5⟩ := id (t5 a ha)
  have oa := ca'.2.2.2 a ha
  have hk := oa.1
  have hr : mr T (aa a) 5 = some (aa a + 1) := oa.2.2.2.2.2.2.2.2.2.2.1
  have na40 := ca'.2.1
  have hin : ∀ k, k < (il a).length → (il a).getD k 0 < ne := fun k hk => by
    have := q2.mem.mp (List.getElem_mem hk)
    rw [getD_get hk]; exact this.1
  have hlen : (il a).length ≤ ne := by
    have := q2.1.length_eq
    rw [this]
    exact Nat.le_trans (List.length_filter_le _ _) (by rw [List.length_range]; exact Nat.le_refl _)
  have hf : ∀ k, k < (il a).length → kd T (ea ((il a).getD k 0)) = 4 := fun k hk => (t4 _ (hin k hk)).1.1
  obtain ⟨p, p1, p2, p3, p4⟩ := X_tell8 hk hr q1 hf hA (il a).length FU (by unfold FU; omega) (Nat.le_refl _)
  obtain ⟨U, u1, u2, u3, u4, u5, u6, u7, u8⟩ := L_ins q1 (p := p) p1 bT.1 (v := A) (by omega) (by omega) (by omega) (by omega)
  have hl := q1.1
  have hne' : ∀ x, x < ne → x ≠ ne := fun x h => by omega
  -- the entry's order
  have ord : ∀ x, x < ne → (cah T (ea x) A ↔ eLt (tellM M ne a st d v bb now) x ne) := by
    intro x hx
    have ox := (t4 x hx).1
    have g1 : mi T (ea x) 1 = M 16 x := ox.2.2.1
    have g2 : (mi T (ea x) 0 = -1 ↔ M 15 x = 6) := by
      rcases ox.2.2.2.2.1 with ⟨z1, z2, -⟩ | ⟨⟨s, z1, z2⟩, z3, -⟩
      · rw [z1, z2]; simp
      · rw [z3, z2]
        rw [eq_i, eq_i, nI_toInt (by omega)]
        simp only [Int32.reduceToInt]
        omega
    have g3 : (mi T A 0 = -1 ↔ st = 6) := by
      rcases eS with ⟨z1, z2, -⟩ | ⟨⟨s, z1, z2⟩, z3, -⟩
      · rw [z1, z2]; simp
      · rw [z3, z2]
        rw [eq_i, eq_i, nI_toInt (by omega)]
        simp only [Int32.reduceToInt]
        omega
    unfold cah eLt
    rw [tellM_lt (hne' x hx) (by decide), tellM_lt (hne' x hx) (by decide), tellM15, tellM16, g1, e1, g2, Ne, g3]
    constructor
    · rintro (q | ⟨z1, z2⟩)
      · exact Or.inl q
      · refine Or.inr ⟨z1, ?_⟩
        by_cases w1 : M 15 x = 6
        · by_cases w2 : st = 6
          · exact Or.inr ⟨⟨fun _ => w2, fun _ => w1⟩, hx⟩
          · exact Or.inl ⟨w1, w2⟩
        · rcases z2 with z2 | z2
          · exact absurd z2 w1
          · exact Or.inr ⟨⟨fun q => absurd q w1, fun q => absurd q z2⟩, hx⟩
    · rintro (q | ⟨z1, z2⟩)
      · exact Or.inl q
      · refine Or.inr ⟨z1, ?_⟩
        rcases z2 with ⟨z2, -⟩ | ⟨z2, -⟩
        · exact Or.inl z2
        · by_cases w1 : M 15 x = 6
          · exact Or.inl w1
          · exact Or.inr (fun q => w1 (z2.mpr q))
  have ord2 : ∀ x, x < ne → ¬ cah T (ea x) A → eLt (tellM M ne a st d v bb now) ne x := by
    intro x hx hn
    rw [ord x hx] at hn
    unfold eLt at hn ⊢
    rw [tellM_lt (hne' x hx) (by decide), tellM_lt (hne' x hx) (by decide), tellM15, tellM16] at *
    by_cases w0 : d.toInt < (M 16 x).toInt
    · exact Or.inl w0
    · right
      have w1 : ¬ (M 16 x).toInt < d.toInt := fun q => hn (Or.inl q)
      have w2 : d = M 16 x := by rw [eq_i]; omega
      refine ⟨w2, Or.inl ?_⟩
      by_cases w3 : st = 6
      · refine ⟨w3, fun q => hn (Or.inr ⟨w2.symm, Or.inr ⟨⟨fun _ => w3, fun _ => q⟩, hx⟩⟩)⟩
      · exfalso
        apply hn
        refine Or.inr ⟨w2.symm, ?_⟩
        by_cases w4 : M 15 x = 6
        · exact Or.inl ⟨w4, w3⟩
        · exact Or.inr ⟨⟨fun q => absurd q w4, fun q => absurd q w3⟩, hx⟩
  refine ⟨U, p, ?_, u3, u6 bT.2.1, u4, by omega, p1, ?_, ?_⟩
  · unfold f_X0_tell f_X0_tell_38
    simp only [getR_s hk, hr, Option.bind_some, rcv_s hl, L_size q1, p2, u1]
  · intro i hi
    by_cases e : i = ne
    · subst e
      have uA := Pl_at bT hl u3 hA (by omega) (by omega)
      refine ⟨?_, a, ha, tellM14⟩
      unfold EO
      rw [up1_eq, uA.1, uA.2.2.1, tellM15, tellM16, tellM17, tellM18, tellM19]
      exact ⟨hA, hA2, e1, e2, eS, hd⟩
    · have oi := t4 i (by omega)
      have o2 := oi.1.go (M' := M) bT.1 u3 (fun c => by have := Pl_k hl c; have := oi.1.1; omega) rfl rfl rfl rfl rfl
      refine ⟨?_, ?_⟩
      · unfold EO at o2 ⊢
        rw [up1_ne _ e, tellM_lt e (by decide), tellM_lt e (by decide), tellM_lt e (by decide), tellM_lt e (by decide), tellM_lt e (by decide)]
        exact o2
      · rw [tellM_lt e (by decide)]
        exact oi.2
  · intro b hb
    have ob := ca'.2.2.2 b hb
    by_cases e : b = a
    · subst e
      rw [upL_eq]
      have hlen2 : ((il b).take p ++ ne :: (il b).drop p).length = (il b).length + 1 := by
        rw [List.length_append, List.length_cons, List.length_take, List.length_drop]; omega
      refine ⟨?_, ?_, ?_⟩
      · rw [hlen2]
        exact u2.congr (fun k hk => insF_l p1 rfl hin hk)
      · refine q2.ins (by omega) p1 ?_ ?_
        · by_cases z : p = 0
          · exact Or.inl z
          · rcases p3 with p3 | p3
            · exact Or.inl p3
            · exact Or.inr ((ord _ (hin (p - 1) (by omega))).mp p3)
        · intro k k1 k2
          exact ord2 _ (hin k k2) (p4 k k1 k2)
      · have hpm : ((il b).take p ++ ne :: (il b).drop p).Perm (ne :: il b) := by
          refine List.perm_middle.trans ?_
          rw [List.take_append_drop]
        have hfc : (il b).filter (fun x => decide (tellM M ne b st d v bb now 15 x = 6)) = (il b).filter (fun x => decide (M 15 x = 6)) := by
          apply List.filter_congr
          intro x hx
          rw [tellM_lt (by have := (q2.mem.mp hx).1; omega) (by decide)]
        rw [(hpm.filter _).length_eq, List.filter_cons, tellM15, hfc]
        by_cases w : st = 6
        · rw [if_pos (by simpa using w), if_pos ⟨rfl, w⟩, List.length_cons]
        · rw [if_neg (by simpa using w), if_neg (fun q => w q.2)]; rfl
    · rw [upL_ne _ e]
      obtain ⟨v1, v2, v3, v4, v5⟩ := t5 b hb
      have hnb : aa b + 1 ≠ aa a + 1 := fun q => e (ca'.inj hb ha (by omega))
      have hmb : ∀ x, x ∈ il b → x < ne := fun x hx => (v2.mem.mp hx).1
      refine ⟨?_, ⟨?_, ?_⟩, ?_⟩
      · refine (v1.go bT.1 u3 (fun z c => Pl_l bT.2.1 hl v1.1 hnb c)).congr (fun k hk => ?_)
        have := hmb _ (List.getElem_mem hk)
        rw [getD_get hk, up1_ne _ (by omega)]
      · rw [filt_tell (by omega) (by omega), if_neg (fun q => e q.symm), List.append_nil]
        exact v2.1
      · exact v2.2.imp_of_mem (fun hx hy q => (eLt_tell (by have := hmb _ hx; omega) (by have := hmb _ hy; omega)).mpr q)
      · rw [if_neg (fun q => e q.1), Nat.add_zero]
        congr 1
        apply List.filter_congr
        intro x hx
        rw [tellM_lt (by have := hmb _ hx; omega) (by decide)]
