/-! JOININGS: what a block is worth, whether it is barred -/
def sw (wt : Nat → Nat → Int) (a : Nat) : List Nat → Int
  | [] => 0
  | b :: l => wt a b + sw wt a l
def swr (wt : Nat → Nat → Int) (z : Nat) : List Nat → Int
  | [] => 0
  | b :: l => wt b z + swr wt z l
def fw (wt : Nat → Nat → Int) : List Nat → Int
  | [] => 0
  | a :: l => fw wt l + sw wt a l
def bar (br : Nat → Nat → Bool) : List Nat → Bool
  | [] => false
  | a :: l => l.any (br a) || bar br l
def c0_ (wt : Nat → Nat → Int) (br : Nat → Nat → Bool) (l : List Nat) : Option (Int × Int) := if bar br l = true then none else some (fw wt l, 0)
def cF (wt : Nat → Nat → Int) (br : Nat → Nat → Bool) (i k : Nat) (l : List Nat) : Option (Int × Int) := if bar br l = true then none else some (fw wt l, if i ∈ l ∧ k ∈ l then 1 else 0)
theorem lsum_congr2 {α : Type} {l : List α} {f g : α → ZF} {w t w' t' : Int} (h : ∀ x ∈ l, f x w t = g x w' t') : lsum l f w t = lsum l g w' t' := by
  induction l with
  | nil => rfl
  | cons x l ih =>
    show f x w t + lsum l f w t = g x w' t' + lsum l g w' t'
    rw [h x List.mem_cons_self, ih (fun y hy => h y (List.mem_cons_of_mem _ hy))]
section Wts
variable {wt : Nat → Nat → Int} {br : Nat → Nat → Bool} {i k : Nat}
theorem sw_snoc (a z : Nat) (l : List Nat) : sw wt a (l ++ [z]) = sw wt a l + wt a z := by
  induction l with
  | nil => show wt a z + 0 = 0 + wt a z; omega
  | cons b l ih =>
    show wt a b + sw wt a (l ++ [z]) = wt a b + sw wt a l + _
    rw [ih]; omega
theorem fw_snoc (z : Nat) (l : List Nat) : fw wt (l ++ [z]) = fw wt l + swr wt z l := by
  induction l with
  | nil => rfl
  | cons b l ih =>
    show fw wt (l ++ [z]) + sw wt b (l ++ [z]) = fw wt l + sw wt b l + (wt b z + swr wt z l)
    rw [ih, sw_snoc]; omega
theorem bar_snoc (z : Nat) (l : List Nat) : bar br (l ++ [z]) = (bar br l || l.any (fun b => br b z)) := by
  induction l with
  | nil => rfl
  | cons b l ih =>
    show ((l ++ [z]).any (br b) || bar br (l ++ [z])) = (l.any (br b) || bar br l || (br b z || l.any (fun b => br b z)))
    rw [ih, List.any_append]
    show (l.any (br b) || (br b z || false) || (bar br l || l.any (fun b => br b z))) = _
    cases l.any (br b) <;> cases br b z <;> cases bar br l <;> cases l.any (fun b => br b z) <;> rfl
theorem bar_app {l : List Nat} (h : bar br l = true) (m : List Nat) : bar br (l ++ m) = true := by
  induction l with
  | nil => cases h
  | cons a l ih =>
    show ((l ++ m).any (br a) || bar br (l ++ m)) = true
    have h' : (l.any (br a) || bar br l) = true := h
    rw [Bool.or_eq_true] at h' ⊢
    rcases h' with e | e
    · left; rw [List.any_append, e]; rfl
    · right; exact ih e
/-- a barred block bars all -/
theorem Gn_barred {c : List Nat → Option (Int × Int)} (hc : ∀ l, bar br l = true → c l = none) : ∀ (bs : List (List Nat)) (R : List Nat) (w t : Int), (∃ B ∈ bs, bar br B = true) → Gn c bs R w t = 0 := by
  intro bs
  induction bs with
  | nil => rintro R w t ⟨B, h, -⟩; cases h
  | cons B bs ih =>
    rintro R w t ⟨D, h1, h2⟩
    show lsum (subs R) (fun p => sh (c (B ++ p.1)) (Gn c bs p.2)) w t = 0
    refine lsum_zero (fun p _ => ?_)
    rcases List.mem_cons.mp h1 with e | e
    · rw [e] at h2
      rw [hc _ (bar_app h2 p.1)]
      rfl
    · cases c (B ++ p.1) with
      | none => rfl
      | some u => exact ih p.2 _ _ ⟨D, e, h2⟩
/-- a leaf -/
def tots (c : List Nat → Option (Int × Int)) : List (List Nat) → Int × Int
  | [] => (0, 0)
  | B :: bs => (((c B).getD (0, 0)).1 + (tots c bs).1, ((c B).getD (0, 0)).2 + (tots c bs).2)
theorem Gn_leaf {c : List Nat → Option (Int × Int)} : ∀ (bs : List (List Nat)) (w t : Int), (∀ B ∈ bs, c B ≠ none) → Gn c bs [] w t = if w = (tots c bs).1 ∧ t = (tots c bs).2 then 1 else 0 := by
  intro bs
  induction bs with
  | nil => intro w t _; rfl
  | cons B bs ih =>
    intro w t h
    show sh (c (B ++ [])) (Gn c bs []) w t + 0 = _
    rw [List.append_nil, Nat.add_zero]
    have h1 := h B List.mem_cons_self
    have h2 : tots c (B :: bs) = (((c B).getD (0, 0)).1 + (tots c bs).1, ((c B).getD (0, 0)).2 + (tots c bs).2) := rfl
    rw [h2]
    cases e : c B with
    | none => exact absurd e h1
    | some u =>
      show Gn c bs [] (w - u.1) (t - u.2) = if w = u.1 + (tots c bs).1 ∧ t = u.2 + (tots c bs).2 then 1 else 0
      rw [ih _ _ (fun D hD => h D (List.mem_cons_of_mem _ hD))]
      by_cases y : w - u.1 = (tots c bs).1 ∧ t - u.2 = (tots c bs).2
      · rw [if_pos y, if_pos (by omega)]
      · rw [if_neg y, if_neg (by omega)]
theorem PF0 : ∀ (n : Nat) (C : List Nat) (w t : Int), ¬ (i ∈ C ∧ k ∈ C) → Pn (cF wt br i k) n C w t = Pn (c0_ wt br) n C w t := by
  intro n
  induction n with
  | zero => intro C w t _; rfl
  | succ n ih =>
    intro C w t h
    cases C with
    | nil => rfl
    | cons a R =>
      show lsum (subs R) (fun p => sh (cF wt br i k (a :: p.1)) (Pn (cF wt br i k) n p.2)) w t = lsum (subs R) (fun p => sh (c0_ wt br (a :: p.1)) (Pn (c0_ wt br) n p.2)) w t
      refine lsum_congr (fun p hp => ?_)
      obtain ⟨s1, s2, -⟩ := subs_mem p hp
      have h1 : ¬ (i ∈ a :: p.1 ∧ k ∈ a :: p.1) := fun z => h ⟨by
        rcases List.mem_cons.mp z.1 with e | e
        · rw [e]; exact List.mem_cons_self
        · exact List.mem_cons_of_mem _ ((s2 i).mpr (Or.inl e)), by
        rcases List.mem_cons.mp z.2 with e | e
        · rw [e]; exact List.mem_cons_self
        · exact List.mem_cons_of_mem _ ((s2 k).mpr (Or.inl e))⟩
      have h2 : ¬ (i ∈ p.2 ∧ k ∈ p.2) := fun z => h ⟨List.mem_cons_of_mem _ ((s2 i).mpr (Or.inr z.1)), List.mem_cons_of_mem _ ((s2 k).mpr (Or.inr z.2))⟩
      have h3 : cF wt br i k (a :: p.1) = c0_ wt br (a :: p.1) := by
        unfold cF c0_
        rw [if_neg h1]
      rw [h3]
      exact sh_congr (fun w t => ih p.2 w t h2)
/-- the partings with both in one block: by that block -/
def Dn (wt : Nat → Nat → Int) (br : Nat → Nat → Bool) (i k n : Nat) (R : List Nat) : ZF := lsum (subs R) (fun p => if i ∈ p.1 ∧ k ∈ p.1 then sh (c0_ wt br p.1) (Pn (c0_ wt br) n p.2) else fun _ _ => 0)
theorem Dn_no {n : Nat} {C : List Nat} (h : ¬ (i ∈ C ∧ k ∈ C)) (w t : Int) : Dn wt br i k n C w t = 0 := by
  refine lsum_zero (fun p hp => ?_)
  obtain ⟨s1, s2, -⟩ := subs_mem p hp
  show (if i ∈ p.1 ∧ k ∈ p.1 then sh (c0_ wt br p.1) (Pn (c0_ wt br) n p.2) else fun _ _ => 0) w t = 0
  rw [if_neg (fun z => h ⟨(s2 i).mpr (Or.inl z.1), (s2 k).mpr (Or.inl z.2)⟩)]
theorem Dn_eq : ∀ (n : Nat) (R : List Nat) (w : Int), R.length ≤ n → R.Nodup → Pn (cF wt br i k) n R w 1 = Dn wt br i k n R w 0 := by
  intro n
  induction n with
  | zero =>
    intro R w h1 h2
    cases R with
    | nil =>
      rw [Dn_no (fun z => by cases z.1)]
      exact if_neg (fun z => absurd z.2 (by decide))
    | cons a R => exact absurd h1 (by show ¬ (R.length + 1 ≤ 0); omega)
  | succ n ih =>
    intro R w h1 h2
    cases R with
    | nil =>
      rw [Dn_no (fun z => by cases z.1)]
      exact if_neg (fun z => absurd z.2 (by decide))
    | cons a R =>
      have hl : R.length ≤ n := Nat.le_of_succ_le_succ h1
      rw [List.nodup_cons] at h2
      -- the right side, split by the first
      have eR : Dn wt br i k (n + 1) (a :: R) w 0 = lsum (subs R) (fun p => if i ∈ a :: p.1 ∧ k ∈ a :: p.1 then sh (c0_ wt br (a :: p.1)) (Pn (c0_ wt br) (n + 1) p.2) else fun _ _ => 0) w 0 + lsum (subs R) (fun p => if i ∈ p.1 ∧ k ∈ p.1 then sh (c0_ wt br p.1) (Pn (c0_ wt br) (n + 1) (a :: p.2)) else fun _ _ => 0) w 0 := lsum_subs a R _ w 0
      have e2 : lsum (subs R) (fun p => if i ∈ p.1 ∧ k ∈ p.1 then sh (c0_ wt br p.1) (Pn (c0_ wt br) (n + 1) (a :: p.2)) else fun _ _ => 0) w 0 = lsum (subs R) (fun p => lsum (subs p.2) (fun q => if i ∈ p.1 ∧ k ∈ p.1 then sh (c0_ wt br p.1) (sh (c0_ wt br (a :: q.1)) (Pn (c0_ wt br) n q.2)) else fun _ _ => 0)) w 0 := by
        refine lsum_congr (fun p _ => ?_)
        by_cases y : i ∈ p.1 ∧ k ∈ p.1
        · rw [if_pos y]
          show sh (c0_ wt br p.1) (lsum (subs p.2) (fun q => sh (c0_ wt br (a :: q.1)) (Pn (c0_ wt br) n q.2))) w 0 = _
          rw [sh_lsum]
          exact lsum_congr (fun q _ => by rw [if_pos y])
        · rw [if_neg y]
          exact (lsum_zero (fun q _ => by rw [if_neg y])).symm
      have e3 := subs_two R (fun x y z => if i ∈ x ∧ k ∈ x then sh (c0_ wt br x) (sh (c0_ wt br (a :: y)) (Pn (c0_ wt br) n z)) else fun _ _ => 0) w 0
      rw [eR, e2, e3, ← lsum_add]
      show lsum (subs R) (fun p => sh (cF wt br i k (a :: p.1)) (Pn (cF wt br i k) n p.2)) w 1 = _
      -- for one block of the first
      have key : ∀ p ∈ subs R, sh (cF wt br i k (a :: p.1)) (Pn (cF wt br i k) n p.2) w 1 = (if i ∈ a :: p.1 ∧ k ∈ a :: p.1 then sh (c0_ wt br (a :: p.1)) (Pn (c0_ wt br) (n + 1) p.2) else fun _ _ => 0) w 0 + lsum (subs p.2) (fun q => if i ∈ q.1 ∧ k ∈ q.1 then sh (c0_ wt br q.1) (sh (c0_ wt br (a :: p.1)) (Pn (c0_ wt br) n q.2)) else fun _ _ => 0) w 0 := by
        intro p hp
        obtain ⟨s1, s2, s3⟩ := subs_mem p hp
        obtain ⟨n1, n2, n3⟩ := s3 h2.2
        have hD : lsum (subs p.2) (fun q => if i ∈ q.1 ∧ k ∈ q.1 then sh (c0_ wt br q.1) (sh (c0_ wt br (a :: p.1)) (Pn (c0_ wt br) n q.2)) else fun _ _ => 0) w 0 = sh (c0_ wt br (a :: p.1)) (Dn wt br i k n p.2) w 0 := by
          unfold Dn
          rw [sh_lsum]
          refine lsum_congr (fun q _ => ?_)
          by_cases y : i ∈ q.1 ∧ k ∈ q.1
          · rw [if_pos y, if_pos y, sh_comm]
          · rw [if_neg y, if_neg y]
            unfold c0_
            split <;> rfl
        rw [hD]
        by_cases bb : bar br (a :: p.1) = true
        · have z1 : cF wt br i k (a :: p.1) = none := if_pos bb
          have z2 : c0_ wt br (a :: p.1) = none := if_pos bb
          rw [z1, z2]
          by_cases y : i ∈ a :: p.1 ∧ k ∈ a :: p.1
          · rw [if_pos y]; rfl
          · rw [if_neg y]; rfl
        · have z2 : c0_ wt br (a :: p.1) = some (fw wt (a :: p.1), 0) := if_neg bb
          rw [z2]
          by_cases y : i ∈ a :: p.1 ∧ k ∈ a :: p.1
          · have z1 : cF wt br i k (a :: p.1) = some (fw wt (a :: p.1), 1) := by unfold cF; rw [if_neg bb, if_pos y]
            have ny : ¬ (i ∈ p.2 ∧ k ∈ p.2) := fun z => by
              have h3 : a ∉ p.2 := fun q => h2.1 ((s2 a).mpr (Or.inr q))
              rcases List.mem_cons.mp y.1 with e | e
              · rw [e] at z; exact h3 z.1
              · exact n3 i e z.1
            rw [z1, if_pos y]
            show Pn (cF wt br i k) n p.2 (w - fw wt (a :: p.1)) (1 - 1) = Pn (c0_ wt br) (n + 1) p.2 (w - fw wt (a :: p.1)) (0 - 0) + Dn wt br i k n p.2 (w - fw wt (a :: p.1)) (0 - 0)
            rw [Dn_no ny, PF0 n p.2 _ _ ny, Pn_fuel n (n + 1) p.2 _ _ (by omega) (by omega)]
            rfl
          · have z1 : cF wt br i k (a :: p.1) = some (fw wt (a :: p.1), 0) := by unfold cF; rw [if_neg bb, if_neg y]
            rw [z1, if_neg y]
            show Pn (cF wt br i k) n p.2 (w - fw wt (a :: p.1)) (1 - 0) = 0 + Dn wt br i k n p.2 (w - fw wt (a :: p.1)) (0 - 0)
            rw [Nat.zero_add]
            exact ih p.2 _ (by omega) n2
      exact lsum_congr2 (fun p hp => key p hp)
/-- bounds -/
theorem sw_le (hw : ∀ i k, -5 ≤ wt i k ∧ wt i k ≤ 9) (a : Nat) (l : List Nat) : -(14 * (l.length : Int)) ≤ sw wt a l ∧ sw wt a l ≤ 14 * (l.length : Int) := by
  induction l with
  | nil => exact ⟨by show -(14 * ((0 : Nat) : Int)) ≤ 0; omega, by show 0 ≤ 14 * ((0 : Nat) : Int); omega⟩
  | cons b l ih =>
    have h := hw a b
    show -(14 * ((l.length + 1 : Nat) : Int)) ≤ wt a b + sw wt a l ∧ wt a b + sw wt a l ≤ 14 * ((l.length + 1 : Nat) : Int)
    omega
theorem fw_le (hw : ∀ i k, -5 ≤ wt i k ∧ wt i k ≤ 9) (l : List Nat) (h8 : l.length ≤ 8) : -(112 * (l.length : Int)) ≤ fw wt l ∧ fw wt l ≤ 112 * (l.length : Int) := by
  induction l with
  | nil => exact ⟨by show -(112 * ((0 : Nat) : Int)) ≤ 0; omega, by show 0 ≤ 112 * ((0 : Nat) : Int); omega⟩
  | cons b l ih =>
    rw [List.length_cons] at h8
    have h := ih (by omega)
    have h2 := sw_le hw b l
    show -(112 * ((l.length + 1 : Nat) : Int)) ≤ fw wt l + sw wt b l ∧ fw wt l + sw wt b l ≤ 112 * ((l.length + 1 : Nat) : Int)
    omega
theorem Pn_bd (hw : ∀ i k, -5 ≤ wt i k ∧ wt i k ≤ 9) : ∀ (n : Nat) (R : List Nat) (w t : Int), R.length ≤ 8 → Pn (c0_ wt br) n R w t ≠ 0 → -(112 * (R.length : Int)) ≤ w ∧ w ≤ 112 * (R.length : Int) := by
  intro n
  induction n with
  | zero =>
    intro R w t _ h
    have h' : d0 w t ≠ 0 := h
    unfold d0 at h'
    by_cases y : w = 0 ∧ t = 0
    · omega
    · rw [if_neg y] at h'; exact absurd rfl h'
  | succ n ih =>
    intro R w t h8 h
    cases R with
    | nil =>
      have h' : d0 w t ≠ 0 := h
      unfold d0 at h'
      by_cases y : w = 0 ∧ t = 0
      · omega
      · rw [if_neg y] at h'; exact absurd rfl h'
    | cons a R =>
      rw [List.length_cons] at h8
      obtain ⟨p, p1, p2⟩ := lsum_ex (show lsum (subs R) (fun p => sh (c0_ wt br (a :: p.1)) (Pn (c0_ wt br) n p.2)) w t ≠ 0 from h)
      have s1 := (subs_mem p p1).1
      unfold c0_ at p2
      by_cases y : bar br (a :: p.1) = true
      · rw [if_pos y] at p2; exact absurd rfl p2
      · rw [if_neg y] at p2
        have h3 := ih p.2 (w - fw wt (a :: p.1)) (t - 0) (by omega) p2
        have h4 := fw_le hw (a :: p.1) (by rw [List.length_cons]; omega)
        rw [List.length_cons] at h4
        rw [List.length_cons]
        omega
theorem Pn_one : ∀ (n : Nat) (R : List Nat), 0 < Pn (c0_ wt br) n R 0 0 := by
  intro n
  induction n with
  | zero => intro R; exact Nat.one_pos
  | succ n ih =>
    intro R
    cases R with
    | nil => exact Nat.one_pos
    | cons a R =>
      refine lsum_pos (subs_all R) ?_
      show 0 < Pn (c0_ wt br) n R (0 - 0) (0 - 0)
      exact ih R
end Wts
