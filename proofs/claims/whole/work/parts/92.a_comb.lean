/-! JOININGS: the partings of a list, counted by what they are worth -/
abbrev ZF : Type := Int → Int → Nat
def lsum {α : Type} : List α → (α → ZF) → ZF
  | [], _ => fun _ _ => 0
  | x :: l, f => fun w t => f x w t + lsum l f w t
section Lsum
variable {α β : Type}
theorem lsum_app (l k : List α) (f : α → ZF) (w t : Int) : lsum (l ++ k) f w t = lsum l f w t + lsum k f w t := by
  induction l with
  | nil => show lsum k f w t = 0 + _; omega
  | cons x l ih =>
    show f x w t + lsum (l ++ k) f w t = f x w t + lsum l f w t + _
    rw [ih]; omega
theorem lsum_map (l : List α) (g : α → β) (f : β → ZF) (w t : Int) : lsum (l.map g) f w t = lsum l (fun x => f (g x)) w t := by
  induction l with
  | nil => rfl
  | cons x l ih =>
    show f (g x) w t + lsum (l.map g) f w t = f (g x) w t + _
    rw [ih]
theorem lsum_add (l : List α) (f g : α → ZF) (w t : Int) : lsum l (fun x w t => f x w t + g x w t) w t = lsum l f w t + lsum l g w t := by
  induction l with
  | nil => rfl
  | cons x l ih =>
    show f x w t + g x w t + lsum l (fun x w t => f x w t + g x w t) w t = f x w t + lsum l f w t + (g x w t + lsum l g w t)
    rw [ih]; omega
theorem lsum_congr {l : List α} {f g : α → ZF} {w t : Int} (h : ∀ x ∈ l, f x w t = g x w t) : lsum l f w t = lsum l g w t := by
  induction l with
  | nil => rfl
  | cons x l ih =>
    show f x w t + lsum l f w t = g x w t + lsum l g w t
    rw [h x List.mem_cons_self, ih (fun y hy => h y (List.mem_cons_of_mem _ hy))]
theorem lsum_zero {l : List α} {f : α → ZF} {w t : Int} (h : ∀ x ∈ l, f x w t = 0) : lsum l f w t = 0 := by
  induction l with
  | nil => rfl
  | cons x l ih =>
    show f x w t + lsum l f w t = 0
    rw [h x List.mem_cons_self, ih (fun y hy => h y (List.mem_cons_of_mem _ hy))]
theorem lsum_comm (l : List α) (k : List β) (F : α → β → ZF) (w t : Int) : lsum l (fun x => lsum k (fun y => F x y)) w t = lsum k (fun y => lsum l (fun x => F x y)) w t := by
  induction l with
  | nil =>
    show 0 = _
    rw [lsum_zero]
    intro y _; rfl
  | cons x l ih =>
    show lsum k (fun y => F x y) w t + lsum l (fun x => lsum k (fun y => F x y)) w t = _
    rw [ih, ← lsum_add]
    rfl
theorem lsum_flat (l : List α) (g : α → List β) (f : β → ZF) (w t : Int) : lsum (l.flatMap g) f w t = lsum l (fun x => lsum (g x) f) w t := by
  induction l with
  | nil => rfl
  | cons x l ih =>
    rw [List.flatMap_cons, lsum_app, ih]
    rfl
theorem lsum_pos {l : List α} {f : α → ZF} {w t : Int} {x : α} (hx : x ∈ l) (h : 0 < f x w t) : 0 < lsum l f w t := by
  induction l with
  | nil => cases hx
  | cons y l ih =>
    show 0 < f y w t + lsum l f w t
    rcases List.mem_cons.mp hx with e | e
    · rw [← e]; omega
    · have := ih e; omega
theorem lsum_ex {l : List α} {f : α → ZF} {w t : Int} (h : lsum l f w t ≠ 0) : ∃ x ∈ l, f x w t ≠ 0 := by
  induction l with
  | nil => exact absurd rfl h
  | cons y l ih =>
    by_cases c : f y w t = 0
    · obtain ⟨x, x1, x2⟩ := ih (fun z => h (by show f y w t + lsum l f w t = 0; omega))
      exact ⟨x, List.mem_cons_of_mem _ x1, x2⟩
    · exact ⟨y, List.mem_cons_self, c⟩
theorem lsum_le {l : List α} {f : α → ZF} {w t : Int} {N : Nat} (h : ∀ x ∈ l, f x w t ≤ N) : lsum l f w t ≤ l.length * N := by
  induction l with
  | nil => exact Nat.zero_le _
  | cons x l ih =>
    show f x w t + lsum l f w t ≤ (l.length + 1) * N
    have h1 := h x List.mem_cons_self
    have h2 := ih (fun y hy => h y (List.mem_cons_of_mem _ hy))
    rw [Nat.add_mul]
    omega
end Lsum
/-- shifted by what a block is worth -/
def sh (o : Option (Int × Int)) (Z : ZF) : ZF := match o with
  | none => fun _ _ => 0
  | some u => fun w t => Z (w - u.1) (t - u.2)
theorem sh_lsum {α : Type} (o : Option (Int × Int)) (l : List α) (f : α → ZF) (w t : Int) : sh o (lsum l f) w t = lsum l (fun x => sh o (f x)) w t := by
  cases o with
  | none =>
    show 0 = _
    rw [lsum_zero]
    intro x _; rfl
  | some u => 
    show lsum l f (w - u.1) (t - u.2) = _
    induction l with
    | nil => rfl
    | cons x l ih =>
      show f x (w - u.1) (t - u.2) + lsum l f (w - u.1) (t - u.2) = f x (w - u.1) (t - u.2) + _
      rw [ih]
theorem sh_comm (o q : Option (Int × Int)) (Z : ZF) (w t : Int) : sh o (sh q Z) w t = sh q (sh o Z) w t := by
  cases o with
  | none => cases q with
    | none => rfl
    | some v => rfl
  | some u => cases q with
    | none => rfl
    | some v =>
      show Z (w - u.1 - v.1) (t - u.2 - v.2) = Z (w - v.1 - u.1) (t - v.2 - u.2)
      rw [show w - u.1 - v.1 = w - v.1 - u.1 by omega, show t - u.2 - v.2 = t - v.2 - u.2 by omega]
theorem sh_congr {o : Option (Int × Int)} {Y Z : ZF} {w t : Int} (h : ∀ w t, Y w t = Z w t) : sh o Y w t = sh o Z w t := by
  cases o with
  | none => rfl
  | some u => exact h _ _
def subs : List Nat → List (List Nat × List Nat)
  | [] => [([], [])]
  | a :: R => (subs R).flatMap (fun p => [(a :: p.1, p.2), (p.1, a :: p.2)])
theorem lsum_subs (a : Nat) (R : List Nat) (f : List Nat × List Nat → ZF) (w t : Int) : lsum (subs (a :: R)) f w t = lsum (subs R) (fun p => f (a :: p.1, p.2)) w t + lsum (subs R) (fun p => f (p.1, a :: p.2)) w t := by
  show lsum ((subs R).flatMap _) f w t = _
  rw [lsum_flat, ← lsum_add]
  refine lsum_congr (fun x _ => ?_)
  show f _ w t + (f _ w t + 0) = _
  omega
theorem subs_mem {R : List Nat} : ∀ p ∈ subs R, p.1.length + p.2.length = R.length ∧ (∀ x, x ∈ R ↔ x ∈ p.1 ∨ x ∈ p.2) ∧ (R.Nodup → p.1.Nodup ∧ p.2.Nodup ∧ ∀ x, x ∈ p.1 → x ∉ p.2) := by
  induction R with
  | nil =>
    intro p hp
    rw [show subs [] = [([], [])] from rfl, List.mem_singleton] at hp
    subst hp
    exact ⟨rfl, fun x => by simp, fun _ => ⟨List.nodup_nil, List.nodup_nil, fun x h => by cases h⟩⟩
  | cons a R ih =>
    intro p hp
    rw [show subs (a :: R) = (subs R).flatMap (fun p => [(a :: p.1, p.2), (p.1, a :: p.2)]) from rfl, List.mem_flatMap] at hp
    obtain ⟨q, q1, q2⟩ := hp
    obtain ⟨i1, i2, i3⟩ := ih q q1
    rcases List.mem_cons.mp q2 with e | e
    · subst e
      refine ⟨by show q.1.length + 1 + q.2.length = R.length + 1; omega, fun x => ?_, fun hn => ?_⟩
      · rw [List.mem_cons, i2, List.mem_cons]
        constructor
        · rintro (h | h | h)
          · exact Or.inl (Or.inl h)
          · exact Or.inl (Or.inr h)
          · exact Or.inr h
        · rintro ((h | h) | h)
          · exact Or.inl h
          · exact Or.inr (Or.inl h)
          · exact Or.inr (Or.inr h)
      · rw [List.nodup_cons] at hn
        obtain ⟨n1, n2, n3⟩ := i3 hn.2
        refine ⟨List.nodup_cons.mpr ⟨fun h => hn.1 ((i2 a).mpr (Or.inl h)), n1⟩, n2, fun x hx => ?_⟩
        rcases List.mem_cons.mp hx with e | e
        · rw [e]; exact fun h => hn.1 ((i2 a).mpr (Or.inr h))
        · exact n3 x e
    · rw [List.mem_singleton] at e
      subst e
      refine ⟨by show q.1.length + (q.2.length + 1) = R.length + 1; omega, fun x => ?_, fun hn => ?_⟩
      · rw [List.mem_cons, i2, List.mem_cons]
        constructor
        · rintro (h | h | h)
          · exact Or.inr (Or.inl h)
          · exact Or.inl h
          · exact Or.inr (Or.inr h)
        · rintro (h | h | h)
          · exact Or.inr (Or.inl h)
          · exact Or.inl h
          · exact Or.inr (Or.inr h)
      · rw [List.nodup_cons] at hn
        obtain ⟨n1, n2, n3⟩ := i3 hn.2
        refine ⟨n1, List.nodup_cons.mpr ⟨fun h => hn.1 ((i2 a).mpr (Or.inr h)), n2⟩, fun x hx h => ?_⟩
        rcases List.mem_cons.mp h with e | e
        · rw [e] at hx; exact hn.1 ((i2 a).mpr (Or.inl hx))
        · exact n3 x hx e
theorem subs_all (R : List Nat) : ([], R) ∈ subs R := by
  induction R with
  | nil => exact List.mem_singleton.mpr rfl
  | cons a R ih =>
    show _ ∈ (subs R).flatMap _
    rw [List.mem_flatMap]
    exact ⟨([], R), ih, List.mem_cons_of_mem _ (List.mem_singleton.mpr rfl)⟩
/-- who is taken first doesn't matter -/
theorem subs_two (R : List Nat) : ∀ (F : List Nat → List Nat → List Nat → ZF) (w t : Int), lsum (subs R) (fun p => lsum (subs p.2) (fun q => F p.1 q.1 q.2)) w t = lsum (subs R) (fun p => lsum (subs p.2) (fun q => F q.1 p.1 q.2)) w t := by
  induction R with
  | nil => intro F w t; rfl
  | cons a R ih =>
    intro F w t
    rw [lsum_subs, lsum_subs]
    have e1 : lsum (subs R) (fun p => lsum (subs (a :: p.2)) (fun q => F p.1 q.1 q.2)) w t = lsum (subs R) (fun p => lsum (subs p.2) (fun q => F p.1 (a :: q.1) q.2)) w t + lsum (subs R) (fun p => lsum (subs p.2) (fun q => F p.1 q.1 (a :: q.2))) w t := by
      rw [← lsum_add]
      exact lsum_congr (fun p _ => lsum_subs a p.2 _ w t)
    have e2 : lsum (subs R) (fun p => lsum (subs (a :: p.2)) (fun q => F q.1 p.1 q.2)) w t = lsum (subs R) (fun p => lsum (subs p.2) (fun q => F (a :: q.1) p.1 q.2)) w t + lsum (subs R) (fun p => lsum (subs p.2) (fun q => F q.1 p.1 (a :: q.2))) w t := by
      rw [← lsum_add]
      exact lsum_congr (fun p _ => lsum_subs a p.2 _ w t)
    have f1 := ih (fun x y z => F (a :: x) y z) w t
    have f2 := ih (fun x y z => F x (a :: y) z) w t
    have f3 := ih (fun x y z => F x y (a :: z)) w t
    show lsum (subs R) (fun p => lsum (subs p.2) (fun q => F (a :: p.1) q.1 q.2)) w t + lsum (subs R) (fun p => lsum (subs (a :: p.2)) (fun q => F p.1 q.1 q.2)) w t = lsum (subs R) (fun p => lsum (subs p.2) (fun q => F q.1 (a :: p.1) q.2)) w t + lsum (subs R) (fun p => lsum (subs (a :: p.2)) (fun q => F q.1 p.1 q.2)) w t
    rw [e1, e2, f1, f2, f3]
    omega
def d0 : ZF := fun w t => if w = 0 ∧ t = 0 then 1 else 0
/-- the partings of a list -/
def Pn (c : List Nat → Option (Int × Int)) : Nat → List Nat → ZF
  | 0, _ => d0
  | _ + 1, [] => d0
  | n + 1, a :: R => lsum (subs R) (fun p => sh (c (a :: p.1)) (Pn c n p.2))
section Part
variable {c : List Nat → Option (Int × Int)}
theorem Pn_fuel : ∀ (n k : Nat) (R : List Nat) (w t : Int), R.length ≤ n → R.length ≤ k → Pn c n R w t = Pn c k R w t := by
  intro n
  induction n with
  | zero =>
    intro k R w t h1 h2
    cases R with
    | nil => cases k <;> rfl
    | cons a R => exact absurd h1 (by show ¬ (R.length + 1 ≤ 0); omega)
  | succ n ih =>
    intro k R w t h1 h2
    cases R with
    | nil => cases k <;> rfl
    | cons a R =>
      cases k with
      | zero => exact absurd h2 (by show ¬ (R.length + 1 ≤ 0); omega)
      | succ k =>
        have h1' : R.length ≤ n := Nat.le_of_succ_le_succ h1
        have h2' : R.length ≤ k := Nat.le_of_succ_le_succ h2
        show lsum (subs R) (fun p => sh (c (a :: p.1)) (Pn c n p.2)) w t = lsum (subs R) (fun p => sh (c (a :: p.1)) (Pn c k p.2)) w t
        refine lsum_congr (fun p hp => sh_congr (fun w t => ?_))
        have := (subs_mem p hp).1
        exact ih k p.2 w t (by omega) (by omega)
/-- the partings that lengthen these blocks -/
def Gn (c : List Nat → Option (Int × Int)) : List (List Nat) → List Nat → ZF
  | [], R => Pn c R.length R
  | B :: bs, R => lsum (subs R) (fun p => sh (c (B ++ p.1)) (Gn c bs p.2))
def adds : List (List Nat) → Nat → List (List (List Nat))
  | [], a => [[[a]]]
  | B :: bs, a => ((B ++ [a]) :: bs) :: (adds bs a).map (B :: ·)
theorem Gn_rec : ∀ (bs : List (List Nat)) (a : Nat) (R : List Nat) (w t : Int), Gn c bs (a :: R) w t = lsum (adds bs a) (fun b => Gn c b R) w t := by
  intro bs
  induction bs with
  | nil =>
    intro a R w t
    show lsum (subs R) (fun p => sh (c (a :: p.1)) (Pn c R.length p.2)) w t = lsum (subs R) (fun p => sh (c ([a] ++ p.1)) (Pn c p.2.length p.2)) w t + 0
    rw [Nat.add_zero]
    refine lsum_congr (fun p hp => sh_congr (fun w t => ?_))
    have := (subs_mem p hp).1
    exact Pn_fuel _ _ _ _ _ (by omega) (Nat.le_refl _)
  | cons B bs ih =>
    intro a R w t
    show lsum (subs (a :: R)) (fun p => sh (c (B ++ p.1)) (Gn c bs p.2)) w t = Gn c ((B ++ [a]) :: bs) R w t + lsum ((adds bs a).map (B :: ·)) (fun b => Gn c b R) w t
    rw [lsum_subs, lsum_map]
    have e1 : Gn c ((B ++ [a]) :: bs) R w t = lsum (subs R) (fun p => sh (c (B ++ a :: p.1)) (Gn c bs p.2)) w t := by
      show lsum (subs R) (fun p => sh (c ((B ++ [a]) ++ p.1)) (Gn c bs p.2)) w t = _
      refine lsum_congr (fun p _ => ?_)
      rw [List.append_assoc]
      rfl
    rw [e1]
    have e2 : lsum (subs R) (fun p => sh (c (B ++ p.1)) (Gn c bs (a :: p.2))) w t = lsum (adds bs a) (fun b => Gn c (B :: b) R) w t := by
      have e3 : lsum (subs R) (fun p => sh (c (B ++ p.1)) (Gn c bs (a :: p.2))) w t = lsum (subs R) (fun p => lsum (adds bs a) (fun b => sh (c (B ++ p.1)) (Gn c b p.2))) w t := by
        refine lsum_congr (fun p _ => ?_)
        rw [← sh_lsum]
        exact sh_congr (fun w t => ih a p.2 w t)
      rw [e3, lsum_comm]
      rfl
    show lsum (subs R) (fun p => sh (c (B ++ a :: p.1)) (Gn c bs p.2)) w t + lsum (subs R) (fun p => sh (c (B ++ p.1)) (Gn c bs (a :: p.2))) w t = _
    rw [e2]
theorem adds_len (bs : List (List Nat)) (a : Nat) : (adds bs a).length = bs.length + 1 ∧ ∀ b ∈ adds bs a, b.length ≤ bs.length + 1 := by
  induction bs with
  | nil => exact ⟨rfl, fun b hb => by rw [show adds [] a = [[[a]]] from rfl, List.mem_singleton] at hb; rw [hb]; exact Nat.le_refl _⟩
  | cons B bs ih =>
    refine ⟨?_, fun b hb => ?_⟩
    · show ((adds bs a).map (B :: ·)).length + 1 = _
      rw [List.length_map, ih.1]
      rfl
    · rcases List.mem_cons.mp hb with e | e
      · rw [e]; show bs.length + 1 ≤ bs.length + 1 + 1; omega
      · obtain ⟨b', b1, rfl⟩ := List.mem_map.mp e
        have := ih.2 b' b1
        show b'.length + 1 ≤ bs.length + 1 + 1
        omega
theorem Gn_le : ∀ (R : List Nat) (bs : List (List Nat)) (w t : Int), bs.length + R.length ≤ 8 → Gn c bs R w t ≤ 8 ^ R.length := by
  intro R
  induction R with
  | nil =>
    intro bs w t h
    rw [List.length_nil, Nat.pow_zero]
    induction bs generalizing w t with
    | nil =>
      show d0 w t ≤ 1
      unfold d0
      split <;> omega
    | cons B bs ih =>
      show sh (c (B ++ [])) (Gn c bs []) w t + 0 ≤ 1
      cases c (B ++ []) with
      | none => exact Nat.zero_le _
      | some u => exact ih _ _ (by rw [List.length_cons] at h; omega)
  | cons a R ih =>
    intro bs w t h
    rw [Gn_rec]
    rw [List.length_cons] at h ⊢
    have h1 := lsum_le (l := adds bs a) (f := fun b => Gn c b R) (w := w) (t := t) (N := 8 ^ R.length) (fun b hb => ih b w t (by have := (adds_len bs a).2 b hb; omega))
    rw [(adds_len bs a).1] at h1
    have h2 : (bs.length + 1) * 8 ^ R.length ≤ 8 * 8 ^ R.length := Nat.mul_le_mul_right _ (by omega)
    rw [Nat.pow_succ, Nat.mul_comm]
    omega
end Part
