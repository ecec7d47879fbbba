/-! THE START: the pure state that the machine's start holds -/
def litIx : List Nat := [88, 90, 92, 94, 96, 98, 100, 102, 104, 106, 108, 110, 112, 114, 116]
def litB : List (List Nat) := [[115, 108, 101, 101, 112], [97, 99, 116], [108, 101, 116, 116, 101, 114], [102, 101, 101], [105, 110, 116, 101, 114, 101, 115, 116], [112, 114, 111, 111, 102], [119, 104, 101, 110], [115, 117, 109], [121, 101, 97, 114, 115], [107, 105, 110, 100], [104, 101, 105, 114, 115], [111, 114], [97, 110, 100], [110, 111, 116], []]
def litLen (i : Nat) : Nat := (litB.getD i []).length
def litC (i j : Nat) : Int32 := nI ((litB.getD i []).getD j 0)
def litT (i : Nat) : Term := Term.string "SleepOffice$Token" (litIx.getD i 0)
/-- what the semantics asks of the first state -/
def Init0 (S : St) : Prop := cap S = nx S + 600000 ∧ sl S = 0 ∧ kd S (emp S) = 21 ∧ (∀ i, i < 15 → kd S (lit S i) = 22 ∧ ln S (lit S i) = litLen i ∧ ∀ j, j < litLen i → mi S (lit S i) j = litC i j) ∧ (∀ a, kd S a = 21 ∨ kd S a = 22 ∨ kd S a = 99) ∧ (∀ a, nx S ≤ a → kd S a = 99)
theorem StrAt_uniq {G : Ge} {U : State} {H : Heap} {a n n' : Nat} {t t' : Nat → Int32} {v v' : Option Nat} (h : StrAt G U H a n t v) (h' : StrAt G U H a n' t' v') : v = v' ∧ n = n' ∧ ∀ j, j < n → t j = t' j := by
  obtain ⟨w, f, rfl, -, ⟨cf, k, i, fd, cell, a1, a2, a3, a4, a5, -⟩, -, ⟨c1, b1, b2, b3, b4, b5, b6, -⟩, n1, t1⟩ := h
  obtain ⟨w', f', rfl, -, ⟨cf', k', i', fd', cell', a1', a2', a3', a4', a5', -⟩, -, ⟨c1', b1', b2', b3', b4', b5', b6', -⟩, n1', t1'⟩ := h'
  have e1 := a1.symm.trans a1'
  simp only [Option.some.injEq, Prod.mk.injEq] at e1
  obtain ⟨-, -, -, rfl⟩ := e1
  cases a3.symm.trans a3'
  cases a5.symm.trans a5'
  cases b1.symm.trans b1'
  have e2 : nI n = nI n' := b5.symm.trans b5'
  have e3 : n = n' := (nI_eq n1 n1').mp e2
  subst e3
  refine ⟨rfl, rfl, fun j hj => ?_⟩
  have e4 := (b6 j hj).symm.trans (b6' j hj)
  simp only [Option.some.injEq, Value.int.injEq] at e4
  rw [← t1 j hj, ← t1' j hj, e4]
section Start
variable {s : State} {b : Nat}
theorem lit_flat : ∀ i, i < 15 → Cond.exactly (litT i) "java/lang/String" ∈ flatC (Jvm.Cond.and given_1 narrow_1) ∧ Cond.eq (.field (litT i) "java/lang/String" "coder" "B") (.int 0) ∈ flatC (Jvm.Cond.and given_1 narrow_1) ∧ Cond.arrayOf (.field (litT i) "java/lang/String" "value" "[B") .byte ∈ flatC (Jvm.Cond.and given_1 narrow_1) ∧ Cond.eq (.length (.field (litT i) "java/lang/String" "value" "[B")) (.int (Int32.ofNat (litLen i))) ∈ flatC (Jvm.Cond.and given_1 narrow_1) := by decide +kernel
theorem lit_bytes : ∀ i, i < 15 → ∀ j, j < litLen i → Cond.eq (.elem (.field (litT i) "java/lang/String" "value" "[B") (.int (Int32.ofNat j))) (.int (litC i j)) ∈ flatC (Jvm.Cond.and given_1 narrow_1) := by decide +kernel
theorem lit_char : ∀ i, i < 15 → ∀ j, j < litLen i → ((litC i j &&& 255).toUInt32 % 65536).toInt32 = litC i j := by decide +kernel
theorem lit_short : ∀ i, i < 15 → litLen i < 2 ^ 31 := by decide +kernel
/-- each literal, as the start has it -/
theorem lit_at {G : Ge} (hgv : (Jvm.Cond.and given_1 narrow_1).before #[Value.ref b] s = true) (hG : bs G = s.heap.size) (i : Nat) (hi : i < 15) : ∃ a v : Nat, (litT i).eval #[Value.ref b] s none [] s = some (.ref a) ∧ StrAt G s s.heap a (litLen i) (litC i) (some v) := by
  have hs := flat_of_before _ hgv
  obtain ⟨q1, q2, q3, q4⟩ := lit_flat i hi
  obtain ⟨adK, adV, hS, hev⟩ := vk_Sof (args := #[Value.ref b]) (s := s) (N := 1) (tm := fun _ => litT i) (len := [litLen i]) (byt := [(List.range (litLen i)).map (litC i)]) (A := fun q => bs G ≤ q)
    (fun k hk => by obtain rfl : k = 0 := by omega
                    exact lit_short i hi)
    (fun _ _ => hs _ q1) (fun _ _ => hs _ q2) (fun _ _ => hs _ q3)
    (fun k hk => by obtain rfl : k = 0 := by omega
                    exact hs _ q4)
    (fun k hk j hj => by
      obtain rfl : k = 0 := by omega
      have hj' : j < litLen i := hj
      have h9 := hs _ (lit_bytes i hi j hj')
      have e9 : (([(List.range (litLen i)).map (litC i)] : List (List Int32)).getD 0 []).getD j 0 = litC i j := by simp [hj']
      rw [e9]
      exact h9)
    (fun k j hk hj hne => by omega)
    (fun a ha => by rw [hG]; exact Nat.not_le.mpr ha)
  obtain ⟨h1, -⟩ := hS
  obtain ⟨s1, s2, s3, s4⟩ := h1 0 (by decide)
  refine ⟨adK 0, adV 0, hev 0 (by decide), adV 0, litC i, rfl, s1, s3, s2, ?_, lit_short i hi, lit_char i hi⟩
  obtain ⟨cell, c1, c2, c3, c4, c5, c6, c7⟩ := s4
  refine ⟨cell, c1, c2, c3, c4, c5, fun j hj => ?_, c7⟩
  rw [c6 j hj]
  have hj' : j < litLen i := hj
  simp [hj']
end Start
