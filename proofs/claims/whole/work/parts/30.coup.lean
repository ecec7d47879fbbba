/-! THE COUPLING of the class's cells with the reference's rows -/
def Mi (S : St) (mb : Nat) : Nat → Nat → Int32 := fun o i => mi S (mb + o) i
def Ml (S : St) (mb : Nat) : Nat → Nat → Int64 := fun o i => ml S (mb + o) i
abbrev MI : Type := Nat → Nat → Int32
abbrev ML : Type := Nat → Nat → Int64
def cntB (p : Nat → Bool) : Nat → Nat
  | 0 => 0
  | n + 1 => cntB p n + if p n then 1 else 0
-- now, the latest reading's fault
def C0 (S : St) (xb : Nat) (M : MI) : Prop := mi S xb 0 = M 0 0 ∧ 0 ≤ (M 0 0).toInt ∧ (M 0 0).toInt ≤ 19999 ∧ mi S xb 10 = M 0 51 ∧ mi S xb 11 = M 0 54
-- the tape
def BY (b v : Int32) : Prop := ∃ k, k < 256 ∧ v = nI k ∧ b = (nI k).toInt8.toInt32
def CT (S : St) (xb : Nat) (M : MI) : Prop := ∃ t, t ≤ 600 ∧ mi S xb 7 = nI t ∧ M 0 44 = nI t ∧ ∀ i, i < t → BY (mi S (xb + 5) i) (M 36 i)
-- the costs of looks
def CY (S : St) (xb : Nat) (M : MI) : Prop := ∀ y, y < 20 → mi S (xb + 17) y = M 57 y ∧ 1 ≤ (M 57 y).toInt ∧ (M 57 y).toInt ≤ 99
-- firms
def FO (S : St) (xb : Nat) (M : MI) (nf : Nat) (fa : Nat → Nat) (i : Nat) : Prop := kd S (fa i) = 5 ∧ xb + 82 ≤ fa i ∧ mi S (fa i) 0 = nI i ∧ mi S (fa i) 1 = M 1 i ∧ (∃ s, s < 4 ∧ M 1 i = nI s) ∧ mr S (fa i) 4 = some (fa i + 1) ∧ kd S (fa i + 1) = 15 ∧ ln S (fa i + 1) = 20 ∧ (∀ y, y < 20 → mi S (fa i + 1) y = M 56 (20 * i + y) ∧ -1 ≤ (M 56 (20 * i + y)).toInt ∧ (M 56 (20 * i + y)).toInt ≤ 999999) ∧ (M 2 i = -1 ∧ mr S (fa i) 2 = none ∨ ∃ j, j < nf ∧ M 2 i = nI j ∧ mr S (fa i) 2 = some (fa j) ∧ mi S (fa i) 3 = M 3 i ∧ (M 2 j ≠ -1 → (M 3 i).toInt < (M 3 j).toInt))
def CF (S : St) (xb : Nat) (M : MI) (nf : Nat) (fa : Nat → Nat) : Prop := M 0 1 = nI nf ∧ nf ≤ 8 ∧ LI S (xb + 1) nf fa ∧ (∀ i, i < nf → FO S xb M nf fa i) ∧ ∀ i y, nf ≤ i → i < 8 → y < 20 → M 56 (20 * i + y) = -1
-- persons
def PO (S : St) (xb : Nat) (M : MI) (pa : Nat → Nat) (i : Nat) : Prop := kd S (pa i) = 9 ∧ xb + 82 ≤ pa i ∧ mi S (pa i) 0 = nI i ∧ mi S (pa i) 1 = M 4 i ∧ mi S (pa i) 2 = M 5 i ∧ mi S (pa i) 3 = M 7 i ∧ mi S (pa i) 5 = M 6 i ∧ mi S (pa i) 6 = M 9 i ∧ -1 ≤ (M 5 i).toInt ∧ (M 5 i).toInt ≤ 19999 ∧ (M 6 i = -1 ∨ ∃ s, s < 4 ∧ M 6 i = nI s) ∧ (M 8 i = -1 ∧ mr S (pa i) 4 = none ∨ ∃ j, j < i ∧ M 8 i = nI j ∧ mr S (pa i) 4 = some (pa j))
def CP (S : St) (xb : Nat) (M : MI) (np : Nat) (pa : Nat → Nat) : Prop := M 0 2 = nI np ∧ np ≤ 24 ∧ LI S (xb + 2) np pa ∧ ∀ i, i < np → PO S xb M pa i
-- lines of heirs
def HL (M : MI) (np : Nat) (H : Nat → Bool) : Prop := ∀ q, q < np → (H q = true ↔ M 9 q = -1 ∨ ∃ c, c < np ∧ M 8 c = nI q ∧ H c = true)
def lcn (M : MI) (np : Nat) (H : Nat → Bool) (q : Nat) : Nat := cntB (fun c => decide (M 8 c = nI q) && H c) np
def CN (S : St) (M : MI) (np : Nat) (pa : Nat → Nat) : Prop := ∃ H : Nat → Bool, HL M np H ∧ ∀ q, q < np → mi S (pa q) 7 = nI (lcn M np H q)
-- accounts
def AO (S : St) (xb : Nat) (M : MI) (L : ML) (nf : Nat) (fa : Nat → Nat) (np : Nat) (pa aa : Nat → Nat) (i : Nat) : Prop := kd S (aa i) = 1 ∧ xb + 82 ≤ aa i ∧ mi S (aa i) 0 = nI i ∧ (∃ j, j < nf ∧ M 10 i = nI j ∧ mr S (aa i) 1 = some (fa j)) ∧ mi S (aa i) 2 = M 11 i ∧ (∃ k, k < 4 ∧ M 11 i = nI k) ∧ (∃ j, j < np ∧ M 12 i = nI j ∧ mr S (aa i) 3 = some (pa j)) ∧ mi S (aa i) 4 = M 13 i ∧ 0 ≤ (M 13 i).toInt ∧ (M 13 i).toInt ≤ 19999 ∧ mr S (aa i) 5 = some (aa i + 1) ∧ mi S (aa i) 7 = M 39 i ∧ (M 39 i = -1 ∧ ml S (aa i) 8 = 0 ∨ (∃ s, s < 4 ∧ M 39 i = nI s) ∧ ml S (aa i) 8 = L 42 i ∧ mi S (aa i) 9 = M 40 i ∧ mi S (aa i) 10 = M 41 i ∧ 0 ≤ (M 40 i).toInt ∧ (M 40 i).toInt ≤ (M 0 0).toInt)
def CA (S : St) (xb : Nat) (M : MI) (L : ML) (nf : Nat) (fa : Nat → Nat) (np : Nat) (pa : Nat → Nat) (na : Nat) (aa : Nat → Nat) : Prop := M 0 3 = nI na ∧ na ≤ 40 ∧ LI S (xb + 3) na aa ∧ ∀ i, i < na → AO S xb M L nf fa np pa aa i
-- acts and growths
def EO (S : St) (xb : Nat) (M : MI) (ea : Nat → Nat) (i : Nat) : Prop := kd S (ea i) = 4 ∧ xb + 82 ≤ ea i ∧ mi S (ea i) 1 = M 16 i ∧ mi S (ea i) 2 = M 19 i ∧ (M 15 i = 6 ∧ mi S (ea i) 0 = -1 ∧ mi S (ea i) 3 = M 17 i ∧ mi S (ea i) 4 = M 18 i ∧ mi S (ea i) 5 = 0 ∧ 1 ≤ (M 17 i).toInt ∧ (M 17 i).toInt ≤ 9 ∧ 1 ≤ (M 18 i).toInt ∧ (M 18 i).toInt ≤ 9 ∨ (∃ s, s < 6 ∧ M 15 i = nI s) ∧ mi S (ea i) 0 = M 15 i ∧ mi S (ea i) 3 = 1 ∧ mi S (ea i) 4 = 1 ∧ mi S (ea i) 5 = M 17 i) ∧ 0 ≤ (M 16 i).toInt ∧ (M 16 i).toInt ≤ 19999
def eLt (M : MI) (x y : Nat) : Prop := (M 16 x).toInt < (M 16 y).toInt ∨ M 16 x = M 16 y ∧ (M 15 x = 6 ∧ M 15 y ≠ 6 ∨ (M 15 x = 6 ↔ M 15 y = 6) ∧ x < y)
def EL (M : MI) (ne a : Nat) (l : List Nat) : Prop := l.Perm ((List.range ne).filter (fun x => decide (M 14 x = nI a))) ∧ l.Pairwise (eLt M)
def AE (S : St) (M : MI) (ne : Nat) (aa ea : Nat → Nat) (il : Nat → List Nat) (a : Nat) : Prop := LI S (aa a + 1) (il a).length (fun k => ea ((il a).getD k 0)) ∧ EL M ne a (il a) ∧ mi S (aa a) 6 = nI ((il a).filter (fun x => decide (M 15 x = 6))).length ∧ kd S (aa a) = 1 ∧ ((il a).filter (fun x => decide (M 15 x = 6))).length ≤ 4
def CE (S : St) (xb : Nat) (M : MI) (na : Nat) (aa : Nat → Nat) (ne : Nat) (ea : Nat → Nat) (il : Nat → List Nat) : Prop := mi S xb 5 = nI ne ∧ M 0 4 = nI ne ∧ ne ≤ 600 ∧ (∀ i, i < ne → EO S xb M ea i ∧ ∃ a, a < na ∧ M 14 i = nI a) ∧ ∀ a, a < na → AE S M ne aa ea il a
-- claims
def KO (S : St) (xb : Nat) (M : MI) (L : ML) (np : Nat) (pa : Nat → Nat) (na : Nat) (aa ca : Nat → Nat) (c : Nat) : Prop := kd S (ca c) = 3 ∧ xb + 82 ≤ ca c ∧ (∃ p, p < np ∧ M 49 c = nI p ∧ mr S (ca c) 0 = some (pa p)) ∧ (∃ a, a < na ∧ M 50 c = nI a ∧ mr S (ca c) 1 = some (aa a) ∧ M 39 a ≠ -1) ∧ mi S (ca c) 2 = M 51 c ∧ mi S (ca c) 3 = M 52 c ∧ 0 ≤ (M 52 c).toInt ∧ (M 52 c).toInt ≤ 100 ∧ mi S (ca c) 4 = M 53 c ∧ ml S (ca c) 5 = L 54 c ∧ ml S (ca c) 6 = L 55 c ∧ ∀ d, d < c → ca d ≠ ca c
def CC (S : St) (xb : Nat) (M : MI) (L : ML) (np : Nat) (pa : Nat → Nat) (na : Nat) (aa : Nat → Nat) (nc : Nat) (ca : Nat → Nat) : Prop := M 0 69 = nI nc ∧ nc ≤ 60 ∧ LI S (xb + 4) nc ca ∧ (∀ c, c < nc → KO S xb M L np pa na aa ca c) ∧ ∀ c, nc ≤ c → c < 60 → M 53 c = 0 ∧ L 54 c = 0 ∧ L 55 c = 0
-- the proof lines of a law: steps are (kind, value)
abbrev Sps : Type := Nat × Int32
def cStep (q : Sps) : List Int32 := match q.1 with
  | 0 => [q.2]
  | 1 => [-10]
  | 2 => [-11]
  | 3 => [-12]
  | 4 => [-13]
  | 5 => [-18]
  | 6 => [-19]
  | 7 => [-20]
  | 8 => [q.2, -21]
  | 9 => [-24]
  | 10 => [-25]
  | 11 => [-26]
  | 12 => [-16]
  | 13 => [-15]
  | _ => [-14]
abbrev PLn : Type := List Sps × List Sps
/-- two nots behind each other take each other away -/
def nx1 (q : Sps) (l : List Sps) : List Sps := match l with
  | [] => [q]
  | w :: u => if q.1 = 12 ∧ w.1 = 12 then u else q :: w :: u
def nn (l : List Sps) : List Sps := l.foldr nx1 []
def cLine (q : PLn) : List Int32 := q.1.flatMap cStep ++ (if q.2 = [] then [-8] else (nn q.2).flatMap cStep ++ [-9])
/-- what a step does to a pile of sorts (false: a number, true: a test) of at most d -/
def ty1 (d : Nat) (q : Sps) (t : List Bool) : Option (List Bool) := match q.1, t with
  | 0, t => if t.length < d ∧ 0 ≤ q.2 then some (false :: t) else none
  | 1, t => if t.length < d then some (false :: t) else none
  | 2, t => if t.length < d then some (false :: t) else none
  | 3, t => if t.length < d then some (false :: t) else none
  | 4, t => if t.length < d then some (false :: t) else none
  | 5, false :: false :: t => some (false :: t)
  | 6, false :: false :: t => some (false :: t)
  | 7, false :: false :: t => some (false :: t)
  | 8, false :: t => if t.length + 1 < d ∧ 0 < q.2 then some (false :: t) else none
  | 9, false :: false :: t => some (true :: t)
  | 10, false :: false :: t => some (true :: t)
  | 11, false :: false :: t => some (true :: t)
  | 12, true :: t => some (true :: t)
  | 13, true :: true :: t => some (true :: t)
  | 14, true :: true :: t => some (true :: t)
  | _, _ => none
def tyD (d : Nat) : List Sps → List Bool → Option (List Bool)
  | [], t => some t
  | q :: l, t => (ty1 d q t).bind (tyD d l)
def PW (q : PLn) : Prop := tyD 32 q.1 [] = some [false] ∧ (q.2 = [] ∨ tyD 32 q.2 [] = some [true] ∧ tyD 32 q.2 [false] = some [true, false])
def allS (PL : List PLn) : List Sps := PL.flatMap (fun q => q.1 ++ q.2)
def PM (M : MI) (s : Nat) (PL : List PLn) : Prop := M 26 s = nI PL.length ∧ PL.length ≤ 24 ∧ (allS PL).length ≤ 610 ∧ (∀ i, i < PL.length → M 27 (25 * s + i) = nI (allS (PL.take i)).length ∧ M 28 (24 * s + i) = nI ((allS (PL.take i)).length + (PL.getD i ([], [])).1.length)) ∧ M 27 (25 * s + PL.length) = nI (allS PL).length ∧ ∀ j, j < (allS PL).length → M 29 (1220 * s + 2 * j) = nI ((allS PL).getD j (0, 0)).1 ∧ M 29 (1220 * s + (2 * j + 1)) = ((allS PL).getD j (0, 0)).2
def CD (S : St) (la : Nat) (M : MI) (s : Nat) : Prop := ∃ PL : List PLn, (∀ q ∈ PL, PW q) ∧ PM M s PL ∧ mi S la 8 = nI (PL.flatMap cLine).length ∧ (PL.flatMap cLine).length ≤ ln S (la + 2) ∧ ln S (la + 2) < 1000 ∧ ∀ i, i < (PL.flatMap cLine).length → mi S (la + 2) i = (PL.flatMap cLine).getD i 0
def LO (S : St) (xb : Nat) (M : MI) (s la : Nat) : Prop := kd S la = 7 ∧ (la = xb + 6 ∨ xb + 82 ≤ la) ∧ mr S la 1 = some (la + 1) ∧ kd S (la + 1) = 15 ∧ ln S (la + 1) = 4 ∧ (∀ k, k < 4 → mi S (la + 1) k = M 20 (4 * s + k) ∧ 0 ≤ (M 20 (4 * s + k)).toInt ∧ (M 20 (4 * s + k)).toInt ≤ 40) ∧ M 21 s = (if mi S la 2 = 0 then 63 else mi S la 2) ∧ mi S la 3 = M 22 s ∧ mi S la 4 = M 23 s ∧ mi S la 5 = M 24 s ∧ mi S la 6 = M 25 s ∧ 0 ≤ (M 25 s).toInt ∧ (M 25 s).toInt ≤ 40 ∧ mr S la 7 = some (la + 2) ∧ kd S (la + 2) = 15 ∧ CD S la M s
def CL (S : St) (xb : Nat) (M : MI) : Prop := ∀ s, s < 4 → ∃ la, mr S (xb + 9) s = some la ∧ LO S xb M s la
/-- all -/
abbrev Gh : Type := (Nat × (Nat → Nat)) × (Nat × (Nat → Nat)) × (Nat × (Nat → Nat)) × (Nat × (Nat → Nat) × (Nat → List Nat)) × (Nat × (Nat → Nat))
def JX (S : St) (xb : Nat) (M : MI) (L : ML) (g : Gh) : Prop := BS S xb ∧ C0 S xb M ∧ CT S xb M ∧ CY S xb M ∧ CF S xb M g.1.1 g.1.2 ∧ CP S xb M g.2.1.1 g.2.1.2 ∧ CN S M g.2.1.1 g.2.1.2 ∧ CA S xb M L g.1.1 g.1.2 g.2.1.1 g.2.1.2 g.2.2.1.1 g.2.2.1.2 ∧ CE S xb M g.2.2.1.1 g.2.2.1.2 g.2.2.2.1.1 g.2.2.2.1.2.1 g.2.2.2.1.2.2 ∧ CC S xb M L g.2.1.1 g.2.1.2 g.2.2.1.1 g.2.2.1.2 g.2.2.2.2.1 g.2.2.2.2.2 ∧ CL S xb M
def JJ (S : St) (xb k : Nat) : Prop := (∃ g, JX S xb (Mi S (xb + 22)) (Ml S (xb + 22)) g) ∧ nx S + 1000 * k ≤ cap S ∧ sl S + 14000 * k ≤ 7302250
