/-! THE CONSTRUCTORS: the class's -/
abbrev XI (K Ln : Nat → Nat) (I : Nat → Nat → Int32) (R : Nat → Nat → Nat) : Prop := K 0 = 12 ∧ (∀ q ∈ xTab, R q.1 q.2.1 = q.2.2.1 + 2 ∧ K q.2.2.1 = q.2.2.2.1 ∧ Ln q.2.2.1 = q.2.2.2.2) ∧ (I 0 0 = 0 ∧ I 0 5 = 0 ∧ I 0 7 = 0 ∧ I 0 10 = 0 ∧ I 0 11 = -1) ∧ (∀ o, o < 22 → K o = 0 → R o 1 = 1 ∧ I o 2 = 0) ∧ (K 1 = 0 ∧ K 2 = 0 ∧ K 3 = 0 ∧ K 4 = 0) ∧ (K 6 = 7 ∧ R 6 1 = 9 ∧ R 6 7 = 10 ∧ K 7 = 15 ∧ Ln 7 = 4 ∧ K 8 = 15 ∧ Ln 8 = 0) ∧ (∀ k, k < 4 → I 7 k = 5) ∧ (I 6 2 = 0 ∧ I 6 3 = 30 ∧ I 6 4 = 10 ∧ I 6 5 = 0 ∧ I 6 6 = 0 ∧ I 6 8 = 0) ∧ ∀ s, s < 4 → R 9 s = 8
theorem x11_chain {S T0 : St} {xb : Nat} (hc : xb + 600000 ≤ cap S) (r0 : REP S T0 xb 1 (0 + nfl 12) (up1 (fun _ => 99) 0 12) (up1 (fun _ => 0) 0 0) (fun _ _ => 0) (fun _ _ => 0)) : ∃ T' s' K Ln I R, f_X11_init T0 xb = f_X11_init_173 FU T' xb 0 ∧ REP S T' xb 22 s' K Ln I R ∧ s' ≤ 5000 ∧ XI K Ln I R := by
  obtain ⟨T1, f1, r1⟩ := rep_putI r0 0 0 (0) (ci := 12) (by omega) rfl
  have e1 : putI T0 (some (xb)) 12 0 (0) = some T1 := f1
  obtain ⟨T2, f2, r2⟩ := rep_newO r1 0 (by decide) (by omega)
  have e2 : newO T1 0 = some (xb + 1, T2) := f2
  have v2_1 : rcv T2 (some (xb + 1)) 0 = some (xb + 1) := rep_rcv r2 1 (ci := 0) (by omega) rfl
  obtain ⟨T3, f3, r3⟩ := rep_putI r2 1 0 (0) (ci := 0) (by omega) rfl
  have e3 : putI T2 (some (xb + 1)) 0 0 (0) = some T3 := f3
  obtain ⟨T4, f4, r4⟩ := rep_putE r3 1 1 (ci := 0) (by omega) rfl
  have e4 : putR T3 (some (xb + 1)) 0 1 (some (emp T3)) = some T4 := f4
  obtain ⟨T5, f5, r5⟩ := rep_putR r4 0 1 1 (ci := 12) (by omega) rfl
  have e5 : putR T4 (some (xb)) 12 1 (some (xb + 1)) = some T5 := f5
  obtain ⟨T6, f6, r6⟩ := rep_newO r5 0 (by decide) (by omega)
  have e6 : newO T5 0 = some (xb + 2, T6) := f6
  have v6_2 : rcv T6 (some (xb + 2)) 0 = some (xb + 2) := rep_rcv r6 2 (ci := 0) (by omega) rfl
  obtain ⟨T7, f7, r7⟩ := rep_putI r6 2 0 (0) (ci := 0) (by omega) rfl
  have e7 : putI T6 (some (xb + 2)) 0 0 (0) = some T7 := f7
  obtain ⟨T8, f8, r8⟩ := rep_putE r7 2 1 (ci := 0) (by omega) rfl
  have e8 : putR T7 (some (xb + 2)) 0 1 (some (emp T7)) = some T8 := f8
  obtain ⟨T9, f9, r9⟩ := rep_putR r8 0 2 2 (ci := 12) (by omega) rfl
  have e9 : putR T8 (some (xb)) 12 2 (some (xb + 2)) = some T9 := f9
  obtain ⟨T10, f10, r10⟩ := rep_newO r9 0 (by decide) (by omega)
  have e10 : newO T9 0 = some (xb + 3, T10) := f10
  have v10_3 : rcv T10 (some (xb + 3)) 0 = some (xb + 3) := rep_rcv r10 3 (ci := 0) (by omega) rfl
  obtain ⟨T11, f11, r11⟩ := rep_putI r10 3 0 (0) (ci := 0) (by omega) rfl
  have e11 : putI T10 (some (xb + 3)) 0 0 (0) = some T11 := f11
  obtain ⟨T12, f12, r12⟩ := rep_putE r11 3 1 (ci := 0) (by omega) rfl
  have e12 : putR T11 (some (xb + 3)) 0 1 (some (emp T11)) = some T12 := f12
  obtain ⟨T13, f13, r13⟩ := rep_putR r12 0 3 3 (ci := 12) (by omega) rfl
  have e13 : putR T12 (some (xb)) 12 3 (some (xb + 3)) = some T13 := f13
  obtain ⟨T14, f14, r14⟩ := rep_newO r13 0 (by decide) (by omega)
  have e14 : newO T13 0 = some (xb + 4, T14) := f14
  have v14_4 : rcv T14 (some (xb + 4)) 0 = some (xb + 4) := rep_rcv r14 4 (ci := 0) (by omega) rfl
  obtain ⟨T15, f15, r15⟩ := rep_putI r14 4 0 (0) (ci := 0) (by omega) rfl
  have e15 : putI T14 (some (xb + 4)) 0 0 (0) = some T15 := f15
  obtain ⟨T16, f16, r16⟩ := rep_putE r15 4 1 (ci := 0) (by omega) rfl
  have e16 : putR T15 (some (xb + 4)) 0 1 (some (emp T15)) = some T16 := f16
  obtain ⟨T17, f17, r17⟩ := rep_putR r16 0 4 4 (ci := 12) (by omega) rfl
  have e17 : putR T16 (some (xb)) 12 4 (some (xb + 4)) = some T17 := f17
  obtain ⟨T18, f18, r18⟩ := rep_putI r17 0 5 (0) (ci := 12) (by omega) rfl
  have e18 : putI T17 (some (xb)) 12 5 (0) = some T18 := f18
  obtain ⟨T19, f19, r19⟩ := rep_newA r18 14 600 (v := 600) rfl (by decide) (by decide) (by omega)
  have e19 : newA T18 14 600 = some (xb + 5, T19) := f19
  obtain ⟨T20, f20, r20⟩ := rep_putR r19 0 6 5 (ci := 12) (by omega) rfl
  have e20 : putR T19 (some (xb)) 12 6 (some (xb + 5)) = some T20 := f20
  obtain ⟨T21, f21, r21⟩ := rep_putI r20 0 7 (0) (ci := 12) (by omega) rfl
  have e21 : putI T20 (some (xb)) 12 7 (0) = some T21 := f21
  obtain ⟨T22, f22, r22⟩ := rep_newO r21 7 (by decide) (by omega)
  have e22 : newO T21 7 = some (xb + 6, T22) := f22
  have v22_6 : rcv T22 (some (xb + 6)) 7 = some (xb + 6) := rep_rcv r22 6 (ci := 7) (by omega) rfl
  obtain ⟨T23, f23, r23⟩ := rep_putI r22 6 0 (0) (ci := 7) (by omega) rfl
  have e23 : putI T22 (some (xb + 6)) 7 0 (0) = some T23 := f23
  obtain ⟨T24, f24, r24⟩ := rep_newA r23 15 4 (v := 4) rfl (by decide) (by decide) (by omega)
  have e24 : newA T23 15 4 = some (xb + 7, T24) := f24
  obtain ⟨T25, f25, r25⟩ := rep_stI r24 7 0 4 (5) (w := 0) rfl (by omega) rfl rfl (by decide) (by decide)
  have e25 : stI T24 (some (xb + 7)) 15 0 (5) = some T25 := f25
  obtain ⟨T26, f26, r26⟩ := rep_stI r25 7 1 4 (5) (w := 1) rfl (by omega) rfl rfl (by decide) (by decide)
  have e26 : stI T25 (some (xb + 7)) 15 1 (5) = some T26 := f26
  obtain ⟨T27, f27, r27⟩ := rep_stI r26 7 2 4 (5) (w := 2) rfl (by omega) rfl rfl (by decide) (by decide)
  have e27 : stI T26 (some (xb + 7)) 15 2 (5) = some T27 := f27
  obtain ⟨T28, f28, r28⟩ := rep_stI r27 7 3 4 (5) (w := 3) rfl (by omega) rfl rfl (by decide) (by decide)
  have e28 : stI T27 (some (xb + 7)) 15 3 (5) = some T28 := f28
  obtain ⟨T29, f29, r29⟩ := rep_putR r28 6 1 7 (ci := 7) (by omega) rfl
  have e29 : putR T28 (some (xb + 6)) 7 1 (some (xb + 7)) = some T29 := f29
  obtain ⟨T30, f30, r30⟩ := rep_putI r29 6 2 (0) (ci := 7) (by omega) rfl
  have e30 : putI T29 (some (xb + 6)) 7 2 (0) = some T30 := f30
  obtain ⟨T31, f31, r31⟩ := rep_putI r30 6 3 (30) (ci := 7) (by omega) rfl
  have e31 : putI T30 (some (xb + 6)) 7 3 (30) = some T31 := f31
  obtain ⟨T32, f32, r32⟩ := rep_putI r31 6 4 (10) (ci := 7) (by omega) rfl
  have e32 : putI T31 (some (xb + 6)) 7 4 (10) = some T32 := f32
  obtain ⟨T33, f33, r33⟩ := rep_putI r32 6 5 (0) (ci := 7) (by omega) rfl
  have e33 : putI T32 (some (xb + 6)) 7 5 (0) = some T33 := f33
  obtain ⟨T34, f34, r34⟩ := rep_putI r33 6 6 (0) (ci := 7) (by omega) rfl
  have e34 : putI T33 (some (xb + 6)) 7 6 (0) = some T34 := f34
  obtain ⟨T35, f35, r35⟩ := rep_putI r34 6 8 (0) (ci := 7) (by omega) rfl
  have e35 : putI T34 (some (xb + 6)) 7 8 (0) = some T35 := f35
  obtain ⟨T36, f36, r36⟩ := rep_newA r35 15 0 (v := 0) rfl (by decide) (by decide) (by omega)
  have e36 : newA T35 15 0 = some (xb + 8, T36) := f36
  obtain ⟨T37, f37, r37⟩ := rep_putR r36 6 7 8 (ci := 7) (by omega) rfl
  have e37 : putR T36 (some (xb + 6)) 7 7 (some (xb + 8)) = some T37 := f37
  obtain ⟨T38, f38, r38⟩ := rep_putR r37 0 8 6 (ci := 12) (by omega) rfl
  have e38 : putR T37 (some (xb)) 12 8 (some (xb + 6)) = some T38 := f38
  obtain ⟨T39, f39, r39⟩ := rep_newA r38 18 4 (v := 4) rfl (by decide) (by decide) (by omega)
  have e39 : newA T38 18 4 = some (xb + 9, T39) := f39
  have g39_0_8 : getR T39 (some (xb)) 12 8 = some (some (xb + 6)) := rep_getR r39 0 8 (ci := 12) (r := 6) (by omega) rfl rfl
  obtain ⟨T40, f40, r40⟩ := rep_stR r39 9 0 4 6 (w := 0) rfl (by omega) rfl rfl (by decide) (by decide) (by omega) rfl
  have e40 : stR T39 (some (xb + 9)) 18 0 (some (xb + 6)) = some T40 := f40
  have g40_0_8 : getR T40 (some (xb)) 12 8 = some (some (xb + 6)) := rep_getR r40 0 8 (ci := 12) (r := 6) (by omega) rfl rfl
  obtain ⟨T41, f41, r41⟩ := rep_stR r40 9 1 4 6 (w := 1) rfl (by omega) rfl rfl (by decide) (by decide) (by omega) rfl
  have e41 : stR T40 (some (xb + 9)) 18 1 (some (xb + 6)) = some T41 := f41
  have g41_0_8 : getR T41 (some (xb)) 12 8 = some (some (xb + 6)) := rep_getR r41 0 8 (ci := 12) (r := 6) (by omega) rfl rfl
  obtain ⟨T42, f42, r42⟩ := rep_stR r41 9 2 4 6 (w := 2) rfl (by omega) rfl rfl (by decide) (by decide) (by omega) rfl
  have e42 : stR T41 (some (xb + 9)) 18 2 (some (xb + 6)) = some T42 := f42
  have g42_0_8 : getR T42 (some (xb)) 12 8 = some (some (xb + 6)) := rep_getR r42 0 8 (ci := 12) (r := 6) (by omega) rfl rfl
  obtain ⟨T43, f43, r43⟩ := rep_stR r42 9 3 4 6 (w := 3) rfl (by omega) rfl rfl (by decide) (by decide) (by omega) rfl
  have e43 : stR T42 (some (xb + 9)) 18 3 (some (xb + 6)) = some T43 := f43
  obtain ⟨T44, f44, r44⟩ := rep_putR r43 0 9 9 (ci := 12) (by omega) rfl
  have e44 : putR T43 (some (xb)) 12 9 (some (xb + 9)) = some T44 := f44
  obtain ⟨T45, f45, r45⟩ := rep_putI r44 0 10 (0) (ci := 12) (by omega) rfl
  have e45 : putI T44 (some (xb)) 12 10 (0) = some T45 := f45
  obtain ⟨T46, f46, r46⟩ := rep_putI r45 0 11 (-1) (ci := 12) (by omega) rfl
  have e46 : putI T45 (some (xb)) 12 11 (-1) = some T46 := f46
  obtain ⟨T47, f47, r47⟩ := rep_newO r46 10 (by decide) (by omega)
  have e47 : newO T46 10 = some (xb + 10, T47) := f47
  have v47_10 : rcv T47 (some (xb + 10)) 10 = some (xb + 10) := rep_rcv r47 10 (ci := 10) (by omega) rfl
  obtain ⟨T48, f48, r48⟩ := rep_putI r47 10 0 (0) (ci := 10) (by omega) rfl
  have e48 : putI T47 (some (xb + 10)) 10 0 (0) = some T48 := f48
  obtain ⟨T49, f49, r49⟩ := rep_putI r48 10 1 (0) (ci := 10) (by omega) rfl
  have e49 : putI T48 (some (xb + 10)) 10 1 (0) = some T49 := f49
  obtain ⟨T50, f50, r50⟩ := rep_putI r49 10 2 (0) (ci := 10) (by omega) rfl
  have e50 : putI T49 (some (xb + 10)) 10 2 (0) = some T50 := f50
  obtain ⟨T51, f51, r51⟩ := rep_putI r50 10 3 (0) (ci := 10) (by omega) rfl
  have e51 : putI T50 (some (xb + 10)) 10 3 (0) = some T51 := f51
  obtain ⟨T52, f52, r52⟩ := rep_newA r51 15 32 (v := 32) rfl (by decide) (by decide) (by omega)
  have e52 : newA T51 15 32 = some (xb + 11, T52) := f52
  obtain ⟨T53, f53, r53⟩ := rep_putR r52 10 4 11 (ci := 10) (by omega) rfl
  have e53 : putR T52 (some (xb + 10)) 10 4 (some (xb + 11)) = some T53 := f53
  obtain ⟨T54, f54, r54⟩ := rep_putI r53 10 5 (0) (ci := 10) (by omega) rfl
  have e54 : putI T53 (some (xb + 10)) 10 5 (0) = some T54 := f54
  obtain ⟨T55, f55, r55⟩ := rep_putI r54 10 6 (0) (ci := 10) (by omega) rfl
  have e55 : putI T54 (some (xb + 10)) 10 6 (0) = some T55 := f55
  obtain ⟨T56, f56, r56⟩ := rep_putR r55 0 12 10 (ci := 12) (by omega) rfl
  have e56 : putR T55 (some (xb)) 12 12 (some (xb + 10)) = some T56 := f56
  obtain ⟨T57, f57, r57⟩ := rep_newO r56 6 (by decide) (by omega)
  have e57 : newO T56 6 = some (xb + 12, T57) := f57
  have v57_12 : rcv T57 (some (xb + 12)) 6 = some (xb + 12) := rep_rcv r57 12 (ci := 6) (by omega) rfl
  obtain ⟨T58, f58, r58⟩ := rep_newA r57 19 8 (v := 8) rfl (by decide) (by decide) (by omega)
  have e58 : newA T57 19 8 = some (xb + 13, T58) := f58
  obtain ⟨T59, f59, r59⟩ := rep_putR r58 12 0 13 (ci := 6) (by omega) rfl
  have e59 : putR T58 (some (xb + 12)) 6 0 (some (xb + 13)) = some T59 := f59
  obtain ⟨T60, f60, r60⟩ := rep_putI r59 12 1 (0) (ci := 6) (by omega) rfl
  have e60 : putI T59 (some (xb + 12)) 6 1 (0) = some T60 := f60
  obtain ⟨T61, f61, r61⟩ := rep_newA r60 15 256 (v := 256) rfl (by decide) (by decide) (by omega)
  have e61 : newA T60 15 256 = some (xb + 14, T61) := f61
  obtain ⟨T62, f62, r62⟩ := rep_putR r61 12 2 14 (ci := 6) (by omega) rfl
  have e62 : putR T61 (some (xb + 12)) 6 2 (some (xb + 14)) = some T62 := f62
  obtain ⟨T63, f63, r63⟩ := rep_newA r62 15 256 (v := 256) rfl (by decide) (by decide) (by omega)
  have e63 : newA T62 15 256 = some (xb + 15, T63) := f63
  obtain ⟨T64, f64, r64⟩ := rep_putR r63 12 3 15 (ci := 6) (by omega) rfl
  have e64 : putR T63 (some (xb + 12)) 6 3 (some (xb + 15)) = some T64 := f64
  obtain ⟨T65, f65, r65⟩ := rep_newA r64 15 256 (v := 256) rfl (by decide) (by decide) (by omega)
  have e65 : newA T64 15 256 = some (xb + 16, T65) := f65
  obtain ⟨T66, f66, r66⟩ := rep_putR r65 12 4 16 (ci := 6) (by omega) rfl
  have e66 : putR T65 (some (xb + 12)) 6 4 (some (xb + 16)) = some T66 := f66
  obtain ⟨T67, f67, r67⟩ := rep_putR r66 0 13 12 (ci := 12) (by omega) rfl
  have e67 : putR T66 (some (xb)) 12 13 (some (xb + 12)) = some T67 := f67
  obtain ⟨T68, f68, r68⟩ := rep_newA r67 15 20 (v := 20) rfl (by decide) (by decide) (by omega)
  have e68 : newA T67 15 20 = some (xb + 17, T68) := f68
  obtain ⟨T69, f69, r69⟩ := rep_putR r68 0 14 17 (ci := 12) (by omega) rfl
  have e69 : putR T68 (some (xb)) 12 14 (some (xb + 17)) = some T69 := f69
  obtain ⟨T70, f70, r70⟩ := rep_newO r69 2 (by decide) (by omega)
  have e70 : newO T69 2 = some (xb + 18, T70) := f70
  have v70_18 : rcv T70 (some (xb + 18)) 2 = some (xb + 18) := rep_rcv r70 18 (ci := 2) (by omega) rfl
  obtain ⟨T71, f71, r71⟩ := rep_newA r70 16 20 (v := 20) rfl (by decide) (by decide) (by omega)
  have e71 : newA T70 16 20 = some (xb + 19, T71) := f71
  obtain ⟨T72, f72, r72⟩ := rep_putR r71 18 0 19 (ci := 2) (by omega) rfl
  have e72 : putR T71 (some (xb + 18)) 2 0 (some (xb + 19)) = some T72 := f72
  obtain ⟨T73, f73, r73⟩ := rep_newA r72 15 20 (v := 20) rfl (by decide) (by decide) (by omega)
  have e73 : newA T72 15 20 = some (xb + 20, T73) := f73
  obtain ⟨T74, f74, r74⟩ := rep_putR r73 18 1 20 (ci := 2) (by omega) rfl
  have e74 : putR T73 (some (xb + 18)) 2 1 (some (xb + 20)) = some T74 := f74
  obtain ⟨T75, f75, r75⟩ := rep_newA r74 15 20 (v := 20) rfl (by decide) (by decide) (by omega)
  have e75 : newA T74 15 20 = some (xb + 21, T75) := f75
  obtain ⟨T76, f76, r76⟩ := rep_putR r75 18 2 21 (ci := 2) (by omega) rfl
  have e76 : putR T75 (some (xb + 18)) 2 2 (some (xb + 21)) = some T76 := f76
  obtain ⟨T77, f77, r77⟩ := rep_putI r76 18 3 (0) (ci := 2) (by omega) rfl
  have e77 : putI T76 (some (xb + 18)) 2 3 (0) = some T77 := f77
  obtain ⟨T78, f78, r78⟩ := rep_putL r77 18 4 (ci := 2) (by omega) rfl
  have e78 : putL T77 (some (xb + 18)) 2 4 0 = some T78 := f78
  obtain ⟨T79, f79, r79⟩ := rep_putR r78 0 15 18 (ci := 12) (by omega) rfl
  have e79 : putR T78 (some (xb)) 12 15 (some (xb + 18)) = some T79 := f79
  refine ⟨T79, _, _, _, _, _, ?_, r79, by decide, by decide +kernel⟩
  unfold f_X11_init f_Jx4a65c_init_da8c8 f_Jxc12de_init_da8c8 f_Jxa1e45_init_da8c8 f_X6_init f_X9_init f_X5_init f_X1_init
  simp only [e1, e2, v2_1, e3, e4, e5, e6, v6_2, e7, e8, e9, e10, v10_3, e11, e12, e13, e14, v14_4, e15, e16, e17, e18, e19, e20, e21, e22, v22_6, e23, e24, e25, e26, e27, e28, e29, e30, e31, e32, e33, e34, e35, e36, e37, e38, e39, g39_0_8, e40, g40_0_8, e41, g41_0_8, e42, g42_0_8, e43, e44, e45, e46, e47, v47_10, e48, e49, e50, e51, e52, e53, e54, e55, e56, e57, v57_12, e58, e59, e60, e61, e62, e63, e64, e65, e66, e67, e68, e69, e70, v70_18, e71, e72, e73, e74, e75, e76, e77, e78, e79, max_s, if_neg (show ¬ ((0 : Int32) < 0) by decide), Option.bind_some]
