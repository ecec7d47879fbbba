/-! THE CONSTRUCTORS: the reference's -/
def YI (K Ln : Nat → Nat) (R : Nat → Nat → Nat) : Prop := K 22 = 13 ∧ ∀ q ∈ mTab, R 22 q.1 = 22 + q.2.1 + 2 ∧ K (22 + q.2.1) = q.2.2.1 ∧ Ln (22 + q.2.1) = q.2.2.2
theorem ca_go {T A B : St} {ck f a x0 : Nat} {ln : Int32} {F : St → Option St} (h1 : newA T ck ln = some (a, A)) (h2 : putR A (some x0) 13 f (some a) = some B) : ((newA T ck ln).bind fun (a7, S7) => (putR S7 (some x0) 13 f (some a7)).bind fun S9 => F S9) = F B := by
  rw [h1]
  simp only [Option.bind_some]
  rw [h2]
  rfl
theorem ci_go {T B : St} {f x0 : Nat} {v : Int32} {F : St → Option St} (h2 : putI T (some x0) 13 f v = some B) : ((putI T (some x0) 13 f v).bind fun S9 => F S9) = F B := by
  rw [h2]
  rfl
theorem x12_go {F : Nat} {T A B C : St} {x0 : Nat} (h1 : f_X12_init_489 F T x0 0 = some (x0, A)) (h2 : f_X12_init_507 F A x0 0 = some (x0, B)) (h3 : f_X12_init_528 F B x0 0 = some C) : ((f_X12_init_489 F T x0 0).bind fun (x0, S_489) => (f_X12_init_507 F S_489 x0 0).bind fun (x0, S_507) => f_X12_init_528 F S_507 x0 0) = some C := by
  rw [h1]
  simp only [Option.bind_some]
  rw [h2]
  exact h3
theorem x12_chain {S T0 : St} {xb s : Nat} {K0 Ln0 : Nat → Nat} {I0 : Nat → Nat → Int32} {R0 : Nat → Nat → Nat} (hc : xb + 600000 ≤ cap S) (hs : s ≤ 5100) (hk0 : K0 22 = 13) (r0 : REP S T0 xb 23 s K0 Ln0 I0 R0) : ∃ T' s' K Ln R, (f_X12_init T0 (xb + 22) = (f_X12_init_489 FU T' (xb + 22) 0).bind fun (x0, S_489) => (f_X12_init_507 FU S_489 x0 0).bind fun (x0, S_507) => f_X12_init_528 FU S_507 x0 0) ∧ REP S T' xb 82 s' K Ln (up2 I0 22 54 (-1)) R ∧ s' ≤ 100000 ∧ YI K Ln R ∧ (∀ o, o < 23 → K o = K0 o ∧ Ln o = Ln0 o) ∧ ∀ o i, o ≠ 22 → R o i = R0 o i := by
  obtain ⟨T1, f1, r1⟩ := rep_newA r0 15 8 (v := 8) rfl (by decide) (by omega) (by omega)
  have e1 : newA T0 15 8 = some (xb + 23, T1) := f1
  obtain ⟨T2, f2, r2⟩ := rep_putR r1 22 5 23 (ci := 13) (by omega) hk0
  have e2 : putR T1 (some (xb + 22)) 13 5 (some (xb + 23)) = some T2 := f2
  obtain ⟨T3, f3, r3⟩ := rep_newA r2 15 8 (v := 8) rfl (by decide) (by omega) (by omega)
  have e3 : newA T2 15 8 = some (xb + 24, T3) := f3
  obtain ⟨T4, f4, r4⟩ := rep_putR r3 22 6 24 (ci := 13) (by omega) hk0
  have e4 : putR T3 (some (xb + 22)) 13 6 (some (xb + 24)) = some T4 := f4
  obtain ⟨T5, f5, r5⟩ := rep_newA r4 15 8 (v := 8) rfl (by decide) (by omega) (by omega)
  have e5 : newA T4 15 8 = some (xb + 25, T5) := f5
  obtain ⟨T6, f6, r6⟩ := rep_putR r5 22 7 25 (ci := 13) (by omega) hk0
  have e6 : putR T5 (some (xb + 22)) 13 7 (some (xb + 25)) = some T6 := f6
  obtain ⟨T7, f7, r7⟩ := rep_newA r6 15 24 (v := 24) rfl (by decide) (by omega) (by omega)
  have e7 : newA T6 15 24 = some (xb + 26, T7) := f7
  obtain ⟨T8, f8, r8⟩ := rep_putR r7 22 8 26 (ci := 13) (by omega) hk0
  have e8 : putR T7 (some (xb + 22)) 13 8 (some (xb + 26)) = some T8 := f8
  obtain ⟨T9, f9, r9⟩ := rep_newA r8 15 24 (v := 24) rfl (by decide) (by omega) (by omega)
  have e9 : newA T8 15 24 = some (xb + 27, T9) := f9
  obtain ⟨T10, f10, r10⟩ := rep_putR r9 22 9 27 (ci := 13) (by omega) hk0
  have e10 : putR T9 (some (xb + 22)) 13 9 (some (xb + 27)) = some T10 := f10
  obtain ⟨T11, f11, r11⟩ := rep_newA r10 15 24 (v := 24) rfl (by decide) (by omega) (by omega)
  have e11 : newA T10 15 24 = some (xb + 28, T11) := f11
  obtain ⟨T12, f12, r12⟩ := rep_putR r11 22 10 28 (ci := 13) (by omega) hk0
  have e12 : putR T11 (some (xb + 22)) 13 10 (some (xb + 28)) = some T12 := f12
  obtain ⟨T13, f13, r13⟩ := rep_newA r12 15 24 (v := 24) rfl (by decide) (by omega) (by omega)
  have e13 : newA T12 15 24 = some (xb + 29, T13) := f13
  obtain ⟨T14, f14, r14⟩ := rep_putR r13 22 11 29 (ci := 13) (by omega) hk0
  have e14 : putR T13 (some (xb + 22)) 13 11 (some (xb + 29)) = some T14 := f14
  obtain ⟨T15, f15, r15⟩ := rep_newA r14 15 24 (v := 24) rfl (by decide) (by omega) (by omega)
  have e15 : newA T14 15 24 = some (xb + 30, T15) := f15
  obtain ⟨T16, f16, r16⟩ := rep_putR r15 22 12 30 (ci := 13) (by omega) hk0
  have e16 : putR T15 (some (xb + 22)) 13 12 (some (xb + 30)) = some T16 := f16
  obtain ⟨T17, f17, r17⟩ := rep_newA r16 15 24 (v := 24) rfl (by decide) (by omega) (by omega)
  have e17 : newA T16 15 24 = some (xb + 31, T17) := f17
  obtain ⟨T18, f18, r18⟩ := rep_putR r17 22 13 31 (ci := 13) (by omega) hk0
  have e18 : putR T17 (some (xb + 22)) 13 13 (some (xb + 31)) = some T18 := f18
  obtain ⟨T19, f19, r19⟩ := rep_newA r18 15 40 (v := 40) rfl (by decide) (by omega) (by omega)
  have e19 : newA T18 15 40 = some (xb + 32, T19) := f19
  obtain ⟨T20, f20, r20⟩ := rep_putR r19 22 14 32 (ci := 13) (by omega) hk0
  have e20 : putR T19 (some (xb + 22)) 13 14 (some (xb + 32)) = some T20 := f20
  obtain ⟨T21, f21, r21⟩ := rep_newA r20 15 40 (v := 40) rfl (by decide) (by omega) (by omega)
  have e21 : newA T20 15 40 = some (xb + 33, T21) := f21
  obtain ⟨T22, f22, r22⟩ := rep_putR r21 22 15 33 (ci := 13) (by omega) hk0
  have e22 : putR T21 (some (xb + 22)) 13 15 (some (xb + 33)) = some T22 := f22
  obtain ⟨T23, f23, r23⟩ := rep_newA r22 15 40 (v := 40) rfl (by decide) (by omega) (by omega)
  have e23 : newA T22 15 40 = some (xb + 34, T23) := f23
  obtain ⟨T24, f24, r24⟩ := rep_putR r23 22 16 34 (ci := 13) (by omega) hk0
  have e24 : putR T23 (some (xb + 22)) 13 16 (some (xb + 34)) = some T24 := f24
  obtain ⟨T25, f25, r25⟩ := rep_newA r24 15 40 (v := 40) rfl (by decide) (by omega) (by omega)
  have e25 : newA T24 15 40 = some (xb + 35, T25) := f25
  obtain ⟨T26, f26, r26⟩ := rep_putR r25 22 17 35 (ci := 13) (by omega) hk0
  have e26 : putR T25 (some (xb + 22)) 13 17 (some (xb + 35)) = some T26 := f26
  obtain ⟨T27, f27, r27⟩ := rep_newA r26 15 600 (v := 600) rfl (by decide) (by omega) (by omega)
  have e27 : newA T26 15 600 = some (xb + 36, T27) := f27
  obtain ⟨T28, f28, r28⟩ := rep_putR r27 22 18 36 (ci := 13) (by omega) hk0
  have e28 : putR T27 (some (xb + 22)) 13 18 (some (xb + 36)) = some T28 := f28
  obtain ⟨T29, f29, r29⟩ := rep_newA r28 15 600 (v := 600) rfl (by decide) (by omega) (by omega)
  have e29 : newA T28 15 600 = some (xb + 37, T29) := f29
  obtain ⟨T30, f30, r30⟩ := rep_putR r29 22 19 37 (ci := 13) (by omega) hk0
  have e30 : putR T29 (some (xb + 22)) 13 19 (some (xb + 37)) = some T30 := f30
  obtain ⟨T31, f31, r31⟩ := rep_newA r30 15 600 (v := 600) rfl (by decide) (by omega) (by omega)
  have e31 : newA T30 15 600 = some (xb + 38, T31) := f31
  obtain ⟨T32, f32, r32⟩ := rep_putR r31 22 20 38 (ci := 13) (by omega) hk0
  have e32 : putR T31 (some (xb + 22)) 13 20 (some (xb + 38)) = some T32 := f32
  obtain ⟨T33, f33, r33⟩ := rep_newA r32 15 600 (v := 600) rfl (by decide) (by omega) (by omega)
  have e33 : newA T32 15 600 = some (xb + 39, T33) := f33
  obtain ⟨T34, f34, r34⟩ := rep_putR r33 22 21 39 (ci := 13) (by omega) hk0
  have e34 : putR T33 (some (xb + 22)) 13 21 (some (xb + 39)) = some T34 := f34
  obtain ⟨T35, f35, r35⟩ := rep_newA r34 15 600 (v := 600) rfl (by decide) (by omega) (by omega)
  have e35 : newA T34 15 600 = some (xb + 40, T35) := f35
  obtain ⟨T36, f36, r36⟩ := rep_putR r35 22 22 40 (ci := 13) (by omega) hk0
  have e36 : putR T35 (some (xb + 22)) 13 22 (some (xb + 40)) = some T36 := f36
  obtain ⟨T37, f37, r37⟩ := rep_newA r36 15 600 (v := 600) rfl (by decide) (by omega) (by omega)
  have e37 : newA T36 15 600 = some (xb + 41, T37) := f37
  obtain ⟨T38, f38, r38⟩ := rep_putR r37 22 23 41 (ci := 13) (by omega) hk0
  have e38 : putR T37 (some (xb + 22)) 13 23 (some (xb + 41)) = some T38 := f38
  obtain ⟨T39, f39, r39⟩ := rep_newA r38 15 16 (v := 16) rfl (by decide) (by omega) (by omega)
  have e39 : newA T38 15 16 = some (xb + 42, T39) := f39
  obtain ⟨T40, f40, r40⟩ := rep_putR r39 22 24 42 (ci := 13) (by omega) hk0
  have e40 : putR T39 (some (xb + 22)) 13 24 (some (xb + 42)) = some T40 := f40
  obtain ⟨T41, f41, r41⟩ := rep_newA r40 15 4 (v := 4) rfl (by decide) (by omega) (by omega)
  have e41 : newA T40 15 4 = some (xb + 43, T41) := f41
  obtain ⟨T42, f42, r42⟩ := rep_putR r41 22 25 43 (ci := 13) (by omega) hk0
  have e42 : putR T41 (some (xb + 22)) 13 25 (some (xb + 43)) = some T42 := f42
  obtain ⟨T43, f43, r43⟩ := rep_newA r42 15 4 (v := 4) rfl (by decide) (by omega) (by omega)
  have e43 : newA T42 15 4 = some (xb + 44, T43) := f43
  obtain ⟨T44, f44, r44⟩ := rep_putR r43 22 26 44 (ci := 13) (by omega) hk0
  have e44 : putR T43 (some (xb + 22)) 13 26 (some (xb + 44)) = some T44 := f44
  obtain ⟨T45, f45, r45⟩ := rep_newA r44 15 4 (v := 4) rfl (by decide) (by omega) (by omega)
  have e45 : newA T44 15 4 = some (xb + 45, T45) := f45
  obtain ⟨T46, f46, r46⟩ := rep_putR r45 22 27 45 (ci := 13) (by omega) hk0
  have e46 : putR T45 (some (xb + 22)) 13 27 (some (xb + 45)) = some T46 := f46
  obtain ⟨T47, f47, r47⟩ := rep_newA r46 15 4 (v := 4) rfl (by decide) (by omega) (by omega)
  have e47 : newA T46 15 4 = some (xb + 46, T47) := f47
  obtain ⟨T48, f48, r48⟩ := rep_putR r47 22 28 46 (ci := 13) (by omega) hk0
  have e48 : putR T47 (some (xb + 22)) 13 28 (some (xb + 46)) = some T48 := f48
  obtain ⟨T49, f49, r49⟩ := rep_newA r48 15 4 (v := 4) rfl (by decide) (by omega) (by omega)
  have e49 : newA T48 15 4 = some (xb + 47, T49) := f49
  obtain ⟨T50, f50, r50⟩ := rep_putR r49 22 29 47 (ci := 13) (by omega) hk0
  have e50 : putR T49 (some (xb + 22)) 13 29 (some (xb + 47)) = some T50 := f50
  obtain ⟨T51, f51, r51⟩ := rep_newA r50 15 4 (v := 4) rfl (by decide) (by omega) (by omega)
  have e51 : newA T50 15 4 = some (xb + 48, T51) := f51
  obtain ⟨T52, f52, r52⟩ := rep_putR r51 22 30 48 (ci := 13) (by omega) hk0
  have e52 : putR T51 (some (xb + 22)) 13 30 (some (xb + 48)) = some T52 := f52
  obtain ⟨T53, f53, r53⟩ := rep_newA r52 15 100 (v := 100) rfl (by decide) (by omega) (by omega)
  have e53 : newA T52 15 100 = some (xb + 49, T53) := f53
  obtain ⟨T54, f54, r54⟩ := rep_putR r53 22 31 49 (ci := 13) (by omega) hk0
  have e54 : putR T53 (some (xb + 22)) 13 31 (some (xb + 49)) = some T54 := f54
  obtain ⟨T55, f55, r55⟩ := rep_newA r54 15 96 (v := 96) rfl (by decide) (by omega) (by omega)
  have e55 : newA T54 15 96 = some (xb + 50, T55) := f55
  obtain ⟨T56, f56, r56⟩ := rep_putR r55 22 32 50 (ci := 13) (by omega) hk0
  have e56 : putR T55 (some (xb + 22)) 13 32 (some (xb + 50)) = some T56 := f56
  obtain ⟨T57, f57, r57⟩ := rep_newA r56 15 4880 (v := 4880) rfl (by decide) (by omega) (by omega)
  have e57 : newA T56 15 4880 = some (xb + 51, T57) := f57
  obtain ⟨T58, f58, r58⟩ := rep_putR r57 22 33 51 (ci := 13) (by omega) hk0
  have e58 : putR T57 (some (xb + 22)) 13 33 (some (xb + 51)) = some T58 := f58
  obtain ⟨T59, f59, r59⟩ := rep_newA r58 15 24 (v := 24) rfl (by decide) (by omega) (by omega)
  have e59 : newA T58 15 24 = some (xb + 52, T59) := f59
  obtain ⟨T60, f60, r60⟩ := rep_putR r59 22 34 52 (ci := 13) (by omega) hk0
  have e60 : putR T59 (some (xb + 22)) 13 34 (some (xb + 52)) = some T60 := f60
  obtain ⟨T61, f61, r61⟩ := rep_newA r60 15 24 (v := 24) rfl (by decide) (by omega) (by omega)
  have e61 : newA T60 15 24 = some (xb + 53, T61) := f61
  obtain ⟨T62, f62, r62⟩ := rep_putR r61 22 35 53 (ci := 13) (by omega) hk0
  have e62 : putR T61 (some (xb + 22)) 13 35 (some (xb + 53)) = some T62 := f62
  obtain ⟨T63, f63, r63⟩ := rep_newA r62 15 24 (v := 24) rfl (by decide) (by omega) (by omega)
  have e63 : newA T62 15 24 = some (xb + 54, T63) := f63
  obtain ⟨T64, f64, r64⟩ := rep_putR r63 22 36 54 (ci := 13) (by omega) hk0
  have e64 : putR T63 (some (xb + 22)) 13 36 (some (xb + 54)) = some T64 := f64
  obtain ⟨T65, f65, r65⟩ := rep_newA r64 15 25 (v := 25) rfl (by decide) (by omega) (by omega)
  have e65 : newA T64 15 25 = some (xb + 55, T65) := f65
  obtain ⟨T66, f66, r66⟩ := rep_putR r65 22 37 55 (ci := 13) (by omega) hk0
  have e66 : putR T65 (some (xb + 22)) 13 37 (some (xb + 55)) = some T66 := f66
  obtain ⟨T67, f67, r67⟩ := rep_newA r66 15 24 (v := 24) rfl (by decide) (by omega) (by omega)
  have e67 : newA T66 15 24 = some (xb + 56, T67) := f67
  obtain ⟨T68, f68, r68⟩ := rep_putR r67 22 38 56 (ci := 13) (by omega) hk0
  have e68 : putR T67 (some (xb + 22)) 13 38 (some (xb + 56)) = some T68 := f68
  obtain ⟨T69, f69, r69⟩ := rep_newA r68 15 1220 (v := 1220) rfl (by decide) (by omega) (by omega)
  have e69 : newA T68 15 1220 = some (xb + 57, T69) := f69
  obtain ⟨T70, f70, r70⟩ := rep_putR r69 22 39 57 (ci := 13) (by omega) hk0
  have e70 : putR T69 (some (xb + 22)) 13 39 (some (xb + 57)) = some T70 := f70
  obtain ⟨T71, f71, r71⟩ := rep_newA r70 15 600 (v := 600) rfl (by decide) (by omega) (by omega)
  have e71 : newA T70 15 600 = some (xb + 58, T71) := f71
  obtain ⟨T72, f72, r72⟩ := rep_putR r71 22 40 58 (ci := 13) (by omega) hk0
  have e72 : putR T71 (some (xb + 22)) 13 40 (some (xb + 58)) = some T72 := f72
  obtain ⟨T73, f73, r73⟩ := rep_newA r72 15 620 (v := 620) rfl (by decide) (by omega) (by omega)
  have e73 : newA T72 15 620 = some (xb + 59, T73) := f73
  obtain ⟨T74, f74, r74⟩ := rep_putR r73 22 41 59 (ci := 13) (by omega) hk0
  have e74 : putR T73 (some (xb + 22)) 13 41 (some (xb + 59)) = some T74 := f74
  obtain ⟨T75, f75, r75⟩ := rep_putI r74 22 54 (-1) (ci := 13) (by omega) hk0
  have e75 : putI T74 (some (xb + 22)) 13 54 (-1) = some T75 := f75
  obtain ⟨T76, f76, r76⟩ := rep_newA r75 15 5 (v := 5) rfl (by decide) (by omega) (by omega)
  have e76 : newA T75 15 5 = some (xb + 60, T76) := f76
  obtain ⟨T77, f77, r77⟩ := rep_putR r76 22 55 60 (ci := 13) (by omega) hk0
  have e77 : putR T76 (some (xb + 22)) 13 55 (some (xb + 60)) = some T77 := f77
  obtain ⟨T78, f78, r78⟩ := rep_newA r77 15 40 (v := 40) rfl (by decide) (by omega) (by omega)
  have e78 : newA T77 15 40 = some (xb + 61, T78) := f78
  obtain ⟨T79, f79, r79⟩ := rep_putR r78 22 56 61 (ci := 13) (by omega) hk0
  have e79 : putR T78 (some (xb + 22)) 13 56 (some (xb + 61)) = some T79 := f79
  obtain ⟨T80, f80, r80⟩ := rep_newA r79 15 40 (v := 40) rfl (by decide) (by omega) (by omega)
  have e80 : newA T79 15 40 = some (xb + 62, T80) := f80
  obtain ⟨T81, f81, r81⟩ := rep_putR r80 22 57 62 (ci := 13) (by omega) hk0
  have e81 : putR T80 (some (xb + 22)) 13 57 (some (xb + 62)) = some T81 := f81
  obtain ⟨T82, f82, r82⟩ := rep_newA r81 15 40 (v := 40) rfl (by decide) (by omega) (by omega)
  have e82 : newA T81 15 40 = some (xb + 63, T82) := f82
  obtain ⟨T83, f83, r83⟩ := rep_putR r82 22 58 63 (ci := 13) (by omega) hk0
  have e83 : putR T82 (some (xb + 22)) 13 58 (some (xb + 63)) = some T83 := f83
  obtain ⟨T84, f84, r84⟩ := rep_newA r83 16 40 (v := 40) rfl (by decide) (by omega) (by omega)
  have e84 : newA T83 16 40 = some (xb + 64, T84) := f84
  obtain ⟨T85, f85, r85⟩ := rep_putR r84 22 59 64 (ci := 13) (by omega) hk0
  have e85 : putR T84 (some (xb + 22)) 13 59 (some (xb + 64)) = some T85 := f85
  obtain ⟨T86, f86, r86⟩ := rep_newA r85 15 8 (v := 8) rfl (by decide) (by omega) (by omega)
  have e86 : newA T85 15 8 = some (xb + 65, T86) := f86
  obtain ⟨T87, f87, r87⟩ := rep_putR r86 22 60 65 (ci := 13) (by omega) hk0
  have e87 : putR T86 (some (xb + 22)) 13 60 (some (xb + 65)) = some T87 := f87
  obtain ⟨T88, f88, r88⟩ := rep_newA r87 15 8 (v := 8) rfl (by decide) (by omega) (by omega)
  have e88 : newA T87 15 8 = some (xb + 66, T88) := f88
  obtain ⟨T89, f89, r89⟩ := rep_putR r88 22 61 66 (ci := 13) (by omega) hk0
  have e89 : putR T88 (some (xb + 22)) 13 61 (some (xb + 66)) = some T89 := f89
  obtain ⟨T90, f90, r90⟩ := rep_newA r89 15 64 (v := 64) rfl (by decide) (by omega) (by omega)
  have e90 : newA T89 15 64 = some (xb + 67, T90) := f90
  obtain ⟨T91, f91, r91⟩ := rep_putR r90 22 62 67 (ci := 13) (by omega) hk0
  have e91 : putR T90 (some (xb + 22)) 13 62 (some (xb + 67)) = some T91 := f91
  obtain ⟨T92, f92, r92⟩ := rep_newA r91 17 24 (v := 24) rfl (by decide) (by omega) (by omega)
  have e92 : newA T91 17 24 = some (xb + 68, T92) := f92
  obtain ⟨T93, f93, r93⟩ := rep_putR r92 22 66 68 (ci := 13) (by omega) hk0
  have e93 : putR T92 (some (xb + 22)) 13 66 (some (xb + 68)) = some T93 := f93
  obtain ⟨T94, f94, r94⟩ := rep_newA r93 16 24 (v := 24) rfl (by decide) (by omega) (by omega)
  have e94 : newA T93 16 24 = some (xb + 69, T94) := f94
  obtain ⟨T95, f95, r95⟩ := rep_putR r94 22 67 69 (ci := 13) (by omega) hk0
  have e95 : putR T94 (some (xb + 22)) 13 67 (some (xb + 69)) = some T95 := f95
  obtain ⟨T96, f96, r96⟩ := rep_newA r95 16 24 (v := 24) rfl (by decide) (by omega) (by omega)
  have e96 : newA T95 16 24 = some (xb + 70, T96) := f96
  obtain ⟨T97, f97, r97⟩ := rep_putR r96 22 68 70 (ci := 13) (by omega) hk0
  have e97 : putR T96 (some (xb + 22)) 13 68 (some (xb + 70)) = some T97 := f97
  obtain ⟨T98, f98, r98⟩ := rep_newA r97 15 60 (v := 60) rfl (by decide) (by omega) (by omega)
  have e98 : newA T97 15 60 = some (xb + 71, T98) := f98
  obtain ⟨T99, f99, r99⟩ := rep_putR r98 22 70 71 (ci := 13) (by omega) hk0
  have e99 : putR T98 (some (xb + 22)) 13 70 (some (xb + 71)) = some T99 := f99
  obtain ⟨T100, f100, r100⟩ := rep_newA r99 15 60 (v := 60) rfl (by decide) (by omega) (by omega)
  have e100 : newA T99 15 60 = some (xb + 72, T100) := f100
  obtain ⟨T101, f101, r101⟩ := rep_putR r100 22 71 72 (ci := 13) (by omega) hk0
  have e101 : putR T100 (some (xb + 22)) 13 71 (some (xb + 72)) = some T101 := f101
  obtain ⟨T102, f102, r102⟩ := rep_newA r101 15 60 (v := 60) rfl (by decide) (by omega) (by omega)
  have e102 : newA T101 15 60 = some (xb + 73, T102) := f102
  obtain ⟨T103, f103, r103⟩ := rep_putR r102 22 72 73 (ci := 13) (by omega) hk0
  have e103 : putR T102 (some (xb + 22)) 13 72 (some (xb + 73)) = some T103 := f103
  obtain ⟨T104, f104, r104⟩ := rep_newA r103 15 60 (v := 60) rfl (by decide) (by omega) (by omega)
  have e104 : newA T103 15 60 = some (xb + 74, T104) := f104
  obtain ⟨T105, f105, r105⟩ := rep_putR r104 22 73 74 (ci := 13) (by omega) hk0
  have e105 : putR T104 (some (xb + 22)) 13 73 (some (xb + 74)) = some T105 := f105
  obtain ⟨T106, f106, r106⟩ := rep_newA r105 15 60 (v := 60) rfl (by decide) (by omega) (by omega)
  have e106 : newA T105 15 60 = some (xb + 75, T106) := f106
  obtain ⟨T107, f107, r107⟩ := rep_putR r106 22 74 75 (ci := 13) (by omega) hk0
  have e107 : putR T106 (some (xb + 22)) 13 74 (some (xb + 75)) = some T107 := f107
  obtain ⟨T108, f108, r108⟩ := rep_newA r107 16 60 (v := 60) rfl (by decide) (by omega) (by omega)
  have e108 : newA T107 16 60 = some (xb + 76, T108) := f108
  obtain ⟨T109, f109, r109⟩ := rep_putR r108 22 75 76 (ci := 13) (by omega) hk0
  have e109 : putR T108 (some (xb + 22)) 13 75 (some (xb + 76)) = some T109 := f109
  obtain ⟨T110, f110, r110⟩ := rep_newA r109 16 60 (v := 60) rfl (by decide) (by omega) (by omega)
  have e110 : newA T109 16 60 = some (xb + 77, T110) := f110
  obtain ⟨T111, f111, r111⟩ := rep_putR r110 22 76 77 (ci := 13) (by omega) hk0
  have e111 : putR T110 (some (xb + 22)) 13 76 (some (xb + 77)) = some T111 := f111
  obtain ⟨T112, f112, r112⟩ := rep_newA r111 15 160 (v := 160) rfl (by decide) (by omega) (by omega)
  have e112 : newA T111 15 160 = some (xb + 78, T112) := f112
  obtain ⟨T113, f113, r113⟩ := rep_putR r112 22 77 78 (ci := 13) (by omega) hk0
  have e113 : putR T112 (some (xb + 22)) 13 77 (some (xb + 78)) = some T113 := f113
  obtain ⟨T114, f114, r114⟩ := rep_newA r113 15 20 (v := 20) rfl (by decide) (by omega) (by omega)
  have e114 : newA T113 15 20 = some (xb + 79, T114) := f114
  obtain ⟨T115, f115, r115⟩ := rep_putR r114 22 78 79 (ci := 13) (by omega) hk0
  have e115 : putR T114 (some (xb + 22)) 13 78 (some (xb + 79)) = some T115 := f115
  obtain ⟨T116, f116, r116⟩ := rep_newA r115 15 21000 (v := 21000) rfl (by decide) (by omega) (by omega)
  have e116 : newA T115 15 21000 = some (xb + 80, T116) := f116
  obtain ⟨T117, f117, r117⟩ := rep_putR r116 22 79 80 (ci := 13) (by omega) hk0
  have e117 : putR T116 (some (xb + 22)) 13 79 (some (xb + 80)) = some T117 := f117
  obtain ⟨T118, f118, r118⟩ := rep_newA r117 15 21000 (v := 21000) rfl (by decide) (by omega) (by omega)
  have e118 : newA T117 15 21000 = some (xb + 81, T118) := f118
  obtain ⟨T119, f119, r119⟩ := rep_putR r118 22 80 81 (ci := 13) (by omega) hk0
  have e119 : putR T118 (some (xb + 22)) 13 80 (some (xb + 81)) = some T119 := f119
  refine ⟨T119, _, _, _, _, ?_, r119, by omega, ?_, ?_, ?_⟩
  · unfold f_X12_init
    refine (ca_go e1 e2).trans ?_
    refine (ca_go e3 e4).trans ?_
    refine (ca_go e5 e6).trans ?_
    refine (ca_go e7 e8).trans ?_
    refine (ca_go e9 e10).trans ?_
    refine (ca_go e11 e12).trans ?_
    refine (ca_go e13 e14).trans ?_
    refine (ca_go e15 e16).trans ?_
    refine (ca_go e17 e18).trans ?_
    refine (ca_go e19 e20).trans ?_
    refine (ca_go e21 e22).trans ?_
    refine (ca_go e23 e24).trans ?_
    refine (ca_go e25 e26).trans ?_
    refine (ca_go e27 e28).trans ?_
    refine (ca_go e29 e30).trans ?_
    refine (ca_go e31 e32).trans ?_
    refine (ca_go e33 e34).trans ?_
    refine (ca_go e35 e36).trans ?_
    refine (ca_go e37 e38).trans ?_
    refine (ca_go e39 e40).trans ?_
    refine (ca_go e41 e42).trans ?_
    refine (ca_go e43 e44).trans ?_
    refine (ca_go e45 e46).trans ?_
    refine (ca_go e47 e48).trans ?_
    refine (ca_go e49 e50).trans ?_
    refine (ca_go e51 e52).trans ?_
    refine (ca_go e53 e54).trans ?_
    refine (ca_go e55 e56).trans ?_
    refine (ca_go e57 e58).trans ?_
    refine (ca_go e59 e60).trans ?_
    refine (ca_go e61 e62).trans ?_
    refine (ca_go e63 e64).trans ?_
    refine (ca_go e65 e66).trans ?_
    refine (ca_go e67 e68).trans ?_
    refine (ca_go e69 e70).trans ?_
    refine (ca_go e71 e72).trans ?_
    refine (ca_go e73 e74).trans ?_
    refine (ci_go e75).trans ?_
    refine (ca_go e76 e77).trans ?_
    refine (ca_go e78 e79).trans ?_
    refine (ca_go e80 e81).trans ?_
    refine (ca_go e82 e83).trans ?_
    refine (ca_go e84 e85).trans ?_
    refine (ca_go e86 e87).trans ?_
    refine (ca_go e88 e89).trans ?_
    refine (ca_go e90 e91).trans ?_
    refine (ca_go e92 e93).trans ?_
    refine (ca_go e94 e95).trans ?_
    refine (ca_go e96 e97).trans ?_
    refine (ca_go e98 e99).trans ?_
    refine (ca_go e100 e101).trans ?_
    refine (ca_go e102 e103).trans ?_
    refine (ca_go e104 e105).trans ?_
    refine (ca_go e106 e107).trans ?_
    refine (ca_go e108 e109).trans ?_
    refine (ca_go e110 e111).trans ?_
    refine (ca_go e112 e113).trans ?_
    refine (ca_go e114 e115).trans ?_
    refine (ca_go e116 e117).trans ?_
    refine (ca_go e118 e119).trans ?_
    rfl
  · refine ⟨hk0, ?_⟩
    unfold mTab
    refine List.forall_mem_cons.mpr ⟨⟨rfl, rfl, rfl⟩, ?_⟩
    refine List.forall_mem_cons.mpr ⟨⟨rfl, rfl, rfl⟩, ?_⟩
    refine List.forall_mem_cons.mpr ⟨⟨rfl, rfl, rfl⟩, ?_⟩
    refine List.forall_mem_cons.mpr ⟨⟨rfl, rfl, rfl⟩, ?_⟩
    refine List.forall_mem_cons.mpr ⟨⟨rfl, rfl, rfl⟩, ?_⟩
    refine List.forall_mem_cons.mpr ⟨⟨rfl, rfl, rfl⟩, ?_⟩
    refine List.forall_mem_cons.mpr ⟨⟨rfl, rfl, rfl⟩, ?_⟩
    refine List.forall_mem_cons.mpr ⟨⟨rfl, rfl, rfl⟩, ?_⟩
    refine List.forall_mem_cons.mpr ⟨⟨rfl, rfl, rfl⟩, ?_⟩
    refine List.forall_mem_cons.mpr ⟨⟨rfl, rfl, rfl⟩, ?_⟩
    refine List.forall_mem_cons.mpr ⟨⟨rfl, rfl, rfl⟩, ?_⟩
    refine List.forall_mem_cons.mpr ⟨⟨rfl, rfl, rfl⟩, ?_⟩
    refine List.forall_mem_cons.mpr ⟨⟨rfl, rfl, rfl⟩, ?_⟩
    refine List.forall_mem_cons.mpr ⟨⟨rfl, rfl, rfl⟩, ?_⟩
    refine List.forall_mem_cons.mpr ⟨⟨rfl, rfl, rfl⟩, ?_⟩
    refine List.forall_mem_cons.mpr ⟨⟨rfl, rfl, rfl⟩, ?_⟩
    refine List.forall_mem_cons.mpr ⟨⟨rfl, rfl, rfl⟩, ?_⟩
    refine List.forall_mem_cons.mpr ⟨⟨rfl, rfl, rfl⟩, ?_⟩
    refine List.forall_mem_cons.mpr ⟨⟨rfl, rfl, rfl⟩, ?_⟩
    refine List.forall_mem_cons.mpr ⟨⟨rfl, rfl, rfl⟩, ?_⟩
    refine List.forall_mem_cons.mpr ⟨⟨rfl, rfl, rfl⟩, ?_⟩
    refine List.forall_mem_cons.mpr ⟨⟨rfl, rfl, rfl⟩, ?_⟩
    refine List.forall_mem_cons.mpr ⟨⟨rfl, rfl, rfl⟩, ?_⟩
    refine List.forall_mem_cons.mpr ⟨⟨rfl, rfl, rfl⟩, ?_⟩
    refine List.forall_mem_cons.mpr ⟨⟨rfl, rfl, rfl⟩, ?_⟩
    refine List.forall_mem_cons.mpr ⟨⟨rfl, rfl, rfl⟩, ?_⟩
    refine List.forall_mem_cons.mpr ⟨⟨rfl, rfl, rfl⟩, ?_⟩
    refine List.forall_mem_cons.mpr ⟨⟨rfl, rfl, rfl⟩, ?_⟩
    refine List.forall_mem_cons.mpr ⟨⟨rfl, rfl, rfl⟩, ?_⟩
    refine List.forall_mem_cons.mpr ⟨⟨rfl, rfl, rfl⟩, ?_⟩
    refine List.forall_mem_cons.mpr ⟨⟨rfl, rfl, rfl⟩, ?_⟩
    refine List.forall_mem_cons.mpr ⟨⟨rfl, rfl, rfl⟩, ?_⟩
    refine List.forall_mem_cons.mpr ⟨⟨rfl, rfl, rfl⟩, ?_⟩
    refine List.forall_mem_cons.mpr ⟨⟨rfl, rfl, rfl⟩, ?_⟩
    refine List.forall_mem_cons.mpr ⟨⟨rfl, rfl, rfl⟩, ?_⟩
    refine List.forall_mem_cons.mpr ⟨⟨rfl, rfl, rfl⟩, ?_⟩
    refine List.forall_mem_cons.mpr ⟨⟨rfl, rfl, rfl⟩, ?_⟩
    refine List.forall_mem_cons.mpr ⟨⟨rfl, rfl, rfl⟩, ?_⟩
    refine List.forall_mem_cons.mpr ⟨⟨rfl, rfl, rfl⟩, ?_⟩
    refine List.forall_mem_cons.mpr ⟨⟨rfl, rfl, rfl⟩, ?_⟩
    refine List.forall_mem_cons.mpr ⟨⟨rfl, rfl, rfl⟩, ?_⟩
    refine List.forall_mem_cons.mpr ⟨⟨rfl, rfl, rfl⟩, ?_⟩
    refine List.forall_mem_cons.mpr ⟨⟨rfl, rfl, rfl⟩, ?_⟩
    refine List.forall_mem_cons.mpr ⟨⟨rfl, rfl, rfl⟩, ?_⟩
    refine List.forall_mem_cons.mpr ⟨⟨rfl, rfl, rfl⟩, ?_⟩
    refine List.forall_mem_cons.mpr ⟨⟨rfl, rfl, rfl⟩, ?_⟩
    refine List.forall_mem_cons.mpr ⟨⟨rfl, rfl, rfl⟩, ?_⟩
    refine List.forall_mem_cons.mpr ⟨⟨rfl, rfl, rfl⟩, ?_⟩
    refine List.forall_mem_cons.mpr ⟨⟨rfl, rfl, rfl⟩, ?_⟩
    refine List.forall_mem_cons.mpr ⟨⟨rfl, rfl, rfl⟩, ?_⟩
    refine List.forall_mem_cons.mpr ⟨⟨rfl, rfl, rfl⟩, ?_⟩
    refine List.forall_mem_cons.mpr ⟨⟨rfl, rfl, rfl⟩, ?_⟩
    refine List.forall_mem_cons.mpr ⟨⟨rfl, rfl, rfl⟩, ?_⟩
    refine List.forall_mem_cons.mpr ⟨⟨rfl, rfl, rfl⟩, ?_⟩
    refine List.forall_mem_cons.mpr ⟨⟨rfl, rfl, rfl⟩, ?_⟩
    refine List.forall_mem_cons.mpr ⟨⟨rfl, rfl, rfl⟩, ?_⟩
    refine List.forall_mem_cons.mpr ⟨⟨rfl, rfl, rfl⟩, ?_⟩
    refine List.forall_mem_cons.mpr ⟨⟨rfl, rfl, rfl⟩, ?_⟩
    refine List.forall_mem_cons.mpr ⟨⟨rfl, rfl, rfl⟩, ?_⟩
    intro q hq
    cases hq
  · intro o ho
    constructor
    · repeat rw [up1_ne _ (by omega)]
    · repeat rw [up1_ne _ (by omega)]
  · intro o i ho
    repeat rw [up2_ne _ ho]
