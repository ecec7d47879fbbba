theorem cat_i (x : Int32) : (Value.int x).category = 1 := rfl
theorem cat_l (x : Int64) : (Value.long x).category = 2 := rfl
theorem rf_n2 (x : Option Nat) : ((va_rf x).category == 2) = false := by cases x <;> rfl
def zchk (v : Int32) : Option Int32 := if v = 0 ∨ v = 1 then some v else none
theorem zchk_n {v z : Int32} (h : zchk v = some z) : z = v ∧ narrow .boolean (.int z) = .int z := by
  unfold zchk at h
  by_cases q : v = 0 ∨ v = 1
  · rw [if_pos q] at h
    cases h
    refine ⟨rfl, ?_⟩
    rcases q with rfl | rfl <;> rfl
  · rw [if_neg q] at h; cases h
theorem rcv_n {S : St} {r : Option Nat} {ci b : Nat} (h : rcv S r ci = some b) : r = some b ∧ kd S b = ci := by
  cases r with
  | none => cases h
  | some a =>
    unfold rcv at h
    by_cases q : kd S a = ci
    · simp only [if_pos q] at h
      cases h
      exact ⟨rfl, q⟩
    · simp only [if_neg q] at h; cases h
theorem fl_RJx4a65c_48 : FL RJx4a65c 48 0 2 0 := ⟨RJx4a65c, TJx4a65c, 3, "java/util/ArrayList", by decide, rfl, by decide, lay_0, w_151, Or.inl rfl, tyo_0, nmJx4a65c, fun _ => rfl, (fun h => by cases h)⟩
theorem fl_RJx4a65c_63 : FL RJx4a65c 63 0 0 0 := ⟨RJx4a65c, TJx4a65c, 3, "java/util/ArrayList", by decide, rfl, by decide, lay_0, w_153, Or.inr w_154, tyo_0, nmJx4a65c, fun _ => rfl, (fun h => by cases h)⟩
theorem fl_RJx4a65c_9 : FL RJx4a65c 9 0 1 0 := ⟨RJx4a65c, TJx4a65c, 3, "java/util/ArrayList", by decide, rfl, by decide, lay_0, w_150, Or.inl rfl, tyo_0, nmJx4a65c, fun _ => rfl, (fun h => by cases h)⟩
theorem fl_RJxc12de_7 : FL RJxc12de 7 0 0 0 := ⟨RJx4a65c, TJx4a65c, 3, "java/util/AbstractList", by decide, rfl, by decide, lay_0, w_152, Or.inl rfl, tyo_0, nmJx4a65c, fun _ => rfl, (fun h => by cases h)⟩
theorem fl_RX0_12 : FL RX0 12 1 5 1 := ⟨RX0, TX0, 11, "SleepOffice$Account", by decide, rfl, by decide, lay_1, w_568, Or.inl rfl, tyo_1, nmX0, (fun h => by cases h), fun _ => ⟨rfl, rfl⟩⟩
theorem fl_RX0_18 : FL RX0 18 1 6 0 := ⟨RX0, TX0, 11, "SleepOffice$Account", by decide, rfl, by decide, lay_1, w_569, Or.inl rfl, tyo_1, nmX0, fun _ => rfl, (fun h => by cases h)⟩
theorem fl_RX0_22 : FL RX0 22 1 7 0 := ⟨RX0, TX0, 11, "SleepOffice$Account", by decide, rfl, by decide, lay_1, w_571, Or.inl rfl, tyo_1, nmX0, fun _ => rfl, (fun h => by cases h)⟩
theorem fl_RX0_25 : FL RX0 25 1 8 0 := ⟨RX0, TX0, 11, "SleepOffice$Account", by decide, rfl, by decide, lay_1, w_573, Or.inl rfl, tyo_1, nmX0, fun _ => rfl, (fun h => by cases h)⟩
theorem fl_RX0_29 : FL RX0 29 1 9 0 := ⟨RX0, TX0, 11, "SleepOffice$Account", by decide, rfl, by decide, lay_1, w_575, Or.inl rfl, tyo_1, nmX0, fun _ => rfl, (fun h => by cases h)⟩
theorem fl_RX0_32 : FL RX0 32 1 10 0 := ⟨RX0, TX0, 11, "SleepOffice$Account", by decide, rfl, by decide, lay_1, w_577, Or.inl rfl, tyo_1, nmX0, fun _ => rfl, (fun h => by cases h)⟩
theorem fl_RX0_35 : FL RX0 35 1 0 1 := ⟨RX0, TX0, 11, "SleepOffice$Account", by decide, rfl, by decide, lay_1, w_558, Or.inl rfl, tyo_1, nmX0, (fun h => by cases h), fun _ => ⟨rfl, rfl⟩⟩
theorem fl_RX0_38 : FL RX0 38 1 1 1 := ⟨RX0, TX0, 11, "SleepOffice$Account", by decide, rfl, by decide, lay_1, w_560, Or.inl rfl, tyo_1, nmX0, (fun h => by cases h), fun _ => ⟨rfl, rfl⟩⟩
theorem fl_RX0_42 : FL RX0 42 1 2 1 := ⟨RX0, TX0, 11, "SleepOffice$Account", by decide, rfl, by decide, lay_1, w_562, Or.inl rfl, tyo_1, nmX0, (fun h => by cases h), fun _ => ⟨rfl, rfl⟩⟩
theorem fl_RX0_45 : FL RX0 45 1 3 1 := ⟨RX0, TX0, 11, "SleepOffice$Account", by decide, rfl, by decide, lay_1, w_564, Or.inl rfl, tyo_1, nmX0, (fun h => by cases h), fun _ => ⟨rfl, rfl⟩⟩
theorem fl_RX0_49 : FL RX0 49 1 4 1 := ⟨RX0, TX0, 11, "SleepOffice$Account", by decide, rfl, by decide, lay_1, w_566, Or.inl rfl, tyo_1, nmX0, (fun h => by cases h), fun _ => ⟨rfl, rfl⟩⟩
theorem fl_RX0_70 : FL RX0 70 4 1 2 := ⟨RX3, TX3, 6, "SleepOffice$Entry", by decide, rfl, by decide, lay_4, w_625, Or.inl rfl, tyo_4, nmX3, (fun h => by cases h), (fun h => by cases h)⟩
theorem fl_RX0_73 : FL RX0 73 4 0 2 := ⟨RX3, TX3, 6, "SleepOffice$Entry", by decide, rfl, by decide, lay_4, w_623, Or.inl rfl, tyo_4, nmX3, (fun h => by cases h), (fun h => by cases h)⟩
theorem fl_RX0_76 : FL RX0 76 4 2 2 := ⟨RX3, TX3, 6, "SleepOffice$Entry", by decide, rfl, by decide, lay_4, w_627, Or.inl rfl, tyo_4, nmX3, (fun h => by cases h), (fun h => by cases h)⟩
theorem fl_RX10_13 : FL RX10 13 11 1 1 := ⟨RX10, TX10, 3, "SleepOffice$Token", by decide, rfl, by decide, lay_11, w_805, Or.inl rfl, tyo_11, nmX10, (fun h => by cases h), fun _ => ⟨rfl, rfl⟩⟩
theorem fl_RX10_16 : FL RX10 16 11 2 1 := ⟨RX10, TX10, 3, "SleepOffice$Token", by decide, rfl, by decide, lay_11, w_807, Or.inl rfl, tyo_11, nmX10, (fun h => by cases h), fun _ => ⟨rfl, rfl⟩⟩
theorem fl_RX10_7 : FL RX10 7 11 0 1 := ⟨RX10, TX10, 3, "SleepOffice$Token", by decide, rfl, by decide, lay_11, w_803, Or.inl rfl, tyo_11, nmX10, (fun h => by cases h), fun _ => ⟨rfl, rfl⟩⟩
theorem fl_RX11_100 : FL RX11 100 5 0 2 := ⟨RX4, TX4, 5, "SleepOffice$Firm", by decide, rfl, by decide, lay_5, w_363, Or.inl rfl, tyo_5, nmX4, (fun h => by cases h), (fun h => by cases h)⟩
theorem fl_RX11_111 : FL RX11 111 5 2 0 := ⟨RX4, TX4, 5, "SleepOffice$Firm", by decide, rfl, by decide, lay_5, w_367, Or.inl rfl, tyo_5, nmX4, fun _ => rfl, (fun h => by cases h)⟩
theorem fl_RX11_122 : FL RX11 122 5 3 0 := ⟨RX4, TX4, 5, "SleepOffice$Firm", by decide, rfl, by decide, lay_5, w_369, Or.inl rfl, tyo_5, nmX4, fun _ => rfl, (fun h => by cases h)⟩
theorem fl_RX11_145 : FL RX11 145 9 5 0 := ⟨RX8, TX8, 8, "SleepOffice$Person", by decide, rfl, by decide, lay_9, w_508, Or.inl rfl, tyo_9, nmX8, fun _ => rfl, (fun h => by cases h)⟩
theorem fl_RX11_151 : FL RX11 151 9 0 2 := ⟨RX8, TX8, 8, "SleepOffice$Person", by decide, rfl, by decide, lay_9, w_500, Or.inl rfl, tyo_9, nmX8, (fun h => by cases h), (fun h => by cases h)⟩
theorem fl_RX11_156 : FL RX11 156 9 2 2 := ⟨RX8, TX8, 8, "SleepOffice$Person", by decide, rfl, by decide, lay_9, w_503, Or.inl rfl, tyo_9, nmX8, (fun h => by cases h), (fun h => by cases h)⟩
theorem fl_RX11_159 : FL RX11 159 9 6 0 := ⟨RX8, TX8, 8, "SleepOffice$Person", by decide, rfl, by decide, lay_9, w_510, Or.inl rfl, tyo_9, nmX8, fun _ => rfl, (fun h => by cases h)⟩
theorem fl_RX11_16 : FL RX11 16 12 1 1 := ⟨RX11, TX11, 16, "SleepOffice", by decide, rfl, by decide, lay_12, w_293, Or.inl rfl, tyo_12, nmX11, (fun h => by cases h), fun _ => ⟨rfl, rfl⟩⟩
theorem fl_RX11_167 : FL RX11 167 1 0 2 := ⟨RX0, TX0, 11, "SleepOffice$Account", by decide, rfl, by decide, lay_1, w_559, Or.inl rfl, tyo_1, nmX0, (fun h => by cases h), (fun h => by cases h)⟩
theorem fl_RX11_187 : FL RX11 187 1 6 0 := ⟨RX0, TX0, 11, "SleepOffice$Account", by decide, rfl, by decide, lay_1, w_570, Or.inl rfl, tyo_1, nmX0, fun _ => rfl, (fun h => by cases h)⟩
theorem fl_RX11_199 : FL RX11 199 1 4 2 := ⟨RX0, TX0, 11, "SleepOffice$Account", by decide, rfl, by decide, lay_1, w_567, Or.inl rfl, tyo_1, nmX0, (fun h => by cases h), (fun h => by cases h)⟩
theorem fl_RX11_20 : FL RX11 20 12 2 1 := ⟨RX11, TX11, 16, "SleepOffice", by decide, rfl, by decide, lay_12, w_294, Or.inl rfl, tyo_12, nmX11, (fun h => by cases h), fun _ => ⟨rfl, rfl⟩⟩
theorem fl_RX11_219 : FL RX11 219 8 1 0 := ⟨RX7, TX7, 9, "SleepOffice$LawReader", by decide, rfl, by decide, lay_8, w_837, Or.inl rfl, tyo_8, nmX7, fun _ => rfl, (fun h => by cases h)⟩
theorem fl_RX11_222 : FL RX11 222 8 2 0 := ⟨RX7, TX7, 9, "SleepOffice$LawReader", by decide, rfl, by decide, lay_8, w_839, Or.inl rfl, tyo_8, nmX7, fun _ => rfl, (fun h => by cases h)⟩
theorem fl_RX11_225 : FL RX11 225 8 0 2 := ⟨RX7, TX7, 9, "SleepOffice$LawReader", by decide, rfl, by decide, lay_8, w_835, Or.inl rfl, tyo_8, nmX7, (fun h => by cases h), (fun h => by cases h)⟩
theorem fl_RX11_228 : FL RX11 228 7 0 0 := ⟨RX6, TX6, 9, "SleepOffice$Law", by decide, rfl, by decide, lay_7, w_173, Or.inl rfl, tyo_7, nmX6, fun _ => rfl, (fun h => by cases h)⟩
theorem fl_RX11_23 : FL RX11 23 12 3 1 := ⟨RX11, TX11, 16, "SleepOffice", by decide, rfl, by decide, lay_12, w_295, Or.inl rfl, tyo_12, nmX11, (fun h => by cases h), fun _ => ⟨rfl, rfl⟩⟩
theorem fl_RX11_242 : FL RX11 242 7 3 0 := ⟨RX6, TX6, 9, "SleepOffice$Law", by decide, rfl, by decide, lay_7, w_179, Or.inl rfl, tyo_7, nmX6, fun _ => rfl, (fun h => by cases h)⟩
theorem fl_RX11_245 : FL RX11 245 7 4 0 := ⟨RX6, TX6, 9, "SleepOffice$Law", by decide, rfl, by decide, lay_7, w_182, Or.inl rfl, tyo_7, nmX6, fun _ => rfl, (fun h => by cases h)⟩
theorem fl_RX11_248 : FL RX11 248 7 5 0 := ⟨RX6, TX6, 9, "SleepOffice$Law", by decide, rfl, by decide, lay_7, w_185, Or.inl rfl, tyo_7, nmX6, fun _ => rfl, (fun h => by cases h)⟩
theorem fl_RX11_251 : FL RX11 251 7 6 0 := ⟨RX6, TX6, 9, "SleepOffice$Law", by decide, rfl, by decide, lay_7, w_188, Or.inl rfl, tyo_7, nmX6, fun _ => rfl, (fun h => by cases h)⟩
theorem fl_RX11_26 : FL RX11 26 12 4 1 := ⟨RX11, TX11, 16, "SleepOffice", by decide, rfl, by decide, lay_12, w_296, Or.inl rfl, tyo_12, nmX11, (fun h => by cases h), fun _ => ⟨rfl, rfl⟩⟩
theorem fl_RX11_265 : FL RX11 265 1 1 2 := ⟨RX0, TX0, 11, "SleepOffice$Account", by decide, rfl, by decide, lay_1, w_561, Or.inl rfl, tyo_1, nmX0, (fun h => by cases h), (fun h => by cases h)⟩
theorem fl_RX11_272 : FL RX11 272 1 7 0 := ⟨RX0, TX0, 11, "SleepOffice$Account", by decide, rfl, by decide, lay_1, w_572, Or.inl rfl, tyo_1, nmX0, fun _ => rfl, (fun h => by cases h)⟩
theorem fl_RX11_275 : FL RX11 275 1 8 0 := ⟨RX0, TX0, 11, "SleepOffice$Account", by decide, rfl, by decide, lay_1, w_574, Or.inl rfl, tyo_1, nmX0, fun _ => rfl, (fun h => by cases h)⟩
theorem fl_RX11_279 : FL RX11 279 1 9 0 := ⟨RX0, TX0, 11, "SleepOffice$Account", by decide, rfl, by decide, lay_1, w_576, Or.inl rfl, tyo_1, nmX0, fun _ => rfl, (fun h => by cases h)⟩
theorem fl_RX11_282 : FL RX11 282 1 10 0 := ⟨RX0, TX0, 11, "SleepOffice$Account", by decide, rfl, by decide, lay_1, w_578, Or.inl rfl, tyo_1, nmX0, fun _ => rfl, (fun h => by cases h)⟩
theorem fl_RX11_29 : FL RX11 29 12 5 0 := ⟨RX11, TX11, 16, "SleepOffice", by decide, rfl, by decide, lay_12, w_297, Or.inl rfl, tyo_12, nmX11, fun _ => rfl, (fun h => by cases h)⟩
theorem fl_RX11_292 : FL RX11 292 1 3 2 := ⟨RX0, TX0, 11, "SleepOffice$Account", by decide, rfl, by decide, lay_1, w_565, Or.inl rfl, tyo_1, nmX0, (fun h => by cases h), (fun h => by cases h)⟩
theorem fl_RX11_296 : FL RX11 296 5 1 2 := ⟨RX4, TX4, 5, "SleepOffice$Firm", by decide, rfl, by decide, lay_5, w_365, Or.inl rfl, tyo_5, nmX4, (fun h => by cases h), (fun h => by cases h)⟩
theorem fl_RX11_303 : FL RX11 303 1 2 2 := ⟨RX0, TX0, 11, "SleepOffice$Account", by decide, rfl, by decide, lay_1, w_563, Or.inl rfl, tyo_1, nmX0, (fun h => by cases h), (fun h => by cases h)⟩
theorem fl_RX11_315 : FL RX11 315 3 1 2 := ⟨RX2, TX2, 7, "SleepOffice$Claim", by decide, rfl, by decide, lay_3, w_1099, Or.inl rfl, tyo_3, nmX2, (fun h => by cases h), (fun h => by cases h)⟩
theorem fl_RX11_319 : FL RX11 319 3 4 0 := ⟨RX2, TX2, 7, "SleepOffice$Claim", by decide, rfl, by decide, lay_3, w_1105, Or.inl rfl, tyo_3, nmX2, fun _ => rfl, (fun h => by cases h)⟩
theorem fl_RX11_32 : FL RX11 32 12 6 1 := ⟨RX11, TX11, 16, "SleepOffice", by decide, rfl, by decide, lay_12, w_298, Or.inl rfl, tyo_12, nmX11, (fun h => by cases h), fun _ => ⟨rfl, rfl⟩⟩
theorem fl_RX11_322 : FL RX11 322 3 5 0 := ⟨RX2, TX2, 7, "SleepOffice$Claim", by decide, rfl, by decide, lay_3, w_1107, Or.inl rfl, tyo_3, nmX2, fun _ => rfl, (fun h => by cases h)⟩
theorem fl_RX11_36 : FL RX11 36 12 7 0 := ⟨RX11, TX11, 16, "SleepOffice", by decide, rfl, by decide, lay_12, w_299, Or.inl rfl, tyo_12, nmX11, fun _ => rfl, (fun h => by cases h)⟩
theorem fl_RX11_369 : FL RX11 369 9 7 0 := ⟨RX8, TX8, 8, "SleepOffice$Person", by decide, rfl, by decide, lay_9, w_512, Or.inl rfl, tyo_9, nmX8, fun _ => rfl, (fun h => by cases h)⟩
theorem fl_RX11_370 : FL RX11 370 9 4 2 := ⟨RX8, TX8, 8, "SleepOffice$Person", by decide, rfl, by decide, lay_9, w_506, Or.inl rfl, tyo_9, nmX8, (fun h => by cases h), (fun h => by cases h)⟩
theorem fl_RX11_380 : FL RX11 380 3 0 2 := ⟨RX2, TX2, 7, "SleepOffice$Claim", by decide, rfl, by decide, lay_3, w_1097, Or.inl rfl, tyo_3, nmX2, (fun h => by cases h), (fun h => by cases h)⟩
theorem fl_RX11_391 : FL RX11 391 3 6 0 := ⟨RX2, TX2, 7, "SleepOffice$Claim", by decide, rfl, by decide, lay_3, w_1109, Or.inl rfl, tyo_3, nmX2, fun _ => rfl, (fun h => by cases h)⟩
theorem fl_RX11_401 : FL RX11 401 3 3 2 := ⟨RX2, TX2, 7, "SleepOffice$Claim", by decide, rfl, by decide, lay_3, w_1103, Or.inl rfl, tyo_3, nmX2, (fun h => by cases h), (fun h => by cases h)⟩
theorem fl_RX11_409 : FL RX11 409 10 0 0 := ⟨RX9, TX9, 7, "SleepOffice$ProofScale", by decide, rfl, by decide, lay_10, w_220, Or.inl rfl, tyo_10, nmX9, fun _ => rfl, (fun h => by cases h)⟩
theorem fl_RX11_412 : FL RX11 412 10 1 0 := ⟨RX9, TX9, 7, "SleepOffice$ProofScale", by decide, rfl, by decide, lay_10, w_222, Or.inl rfl, tyo_10, nmX9, fun _ => rfl, (fun h => by cases h)⟩
theorem fl_RX11_415 : FL RX11 415 10 2 0 := ⟨RX9, TX9, 7, "SleepOffice$ProofScale", by decide, rfl, by decide, lay_10, w_224, Or.inl rfl, tyo_10, nmX9, fun _ => rfl, (fun h => by cases h)⟩
theorem fl_RX11_416 : FL RX11 416 10 3 0 := ⟨RX9, TX9, 7, "SleepOffice$ProofScale", by decide, rfl, by decide, lay_10, w_226, Or.inl rfl, tyo_10, nmX9, fun _ => rfl, (fun h => by cases h)⟩
theorem fl_RX11_423 : FL RX11 423 3 2 2 := ⟨RX2, TX2, 7, "SleepOffice$Claim", by decide, rfl, by decide, lay_3, w_1101, Or.inl rfl, tyo_3, nmX2, (fun h => by cases h), (fun h => by cases h)⟩
theorem fl_RX11_44 : FL RX11 44 12 8 1 := ⟨RX11, TX11, 16, "SleepOffice", by decide, rfl, by decide, lay_12, w_300, Or.inl rfl, tyo_12, nmX11, (fun h => by cases h), fun _ => ⟨rfl, rfl⟩⟩
theorem fl_RX11_48 : FL RX11 48 12 9 1 := ⟨RX11, TX11, 16, "SleepOffice", by decide, rfl, by decide, lay_12, w_301, Or.inl rfl, tyo_12, nmX11, (fun h => by cases h), fun _ => ⟨rfl, rfl⟩⟩
theorem fl_RX11_52 : FL RX11 52 12 10 0 := ⟨RX11, TX11, 16, "SleepOffice", by decide, rfl, by decide, lay_12, w_302, Or.inl rfl, tyo_12, nmX11, fun _ => rfl, (fun h => by cases h)⟩
theorem fl_RX11_55 : FL RX11 55 12 11 0 := ⟨RX11, TX11, 16, "SleepOffice", by decide, rfl, by decide, lay_12, w_303, Or.inl rfl, tyo_12, nmX11, fun _ => rfl, (fun h => by cases h)⟩
theorem fl_RX11_61 : FL RX11 61 12 12 1 := ⟨RX11, TX11, 16, "SleepOffice", by decide, rfl, by decide, lay_12, w_304, Or.inl rfl, tyo_12, nmX11, (fun h => by cases h), fun _ => ⟨rfl, rfl⟩⟩
theorem fl_RX11_68 : FL RX11 68 12 13 1 := ⟨RX11, TX11, 16, "SleepOffice", by decide, rfl, by decide, lay_12, w_305, Or.inl rfl, tyo_12, nmX11, (fun h => by cases h), fun _ => ⟨rfl, rfl⟩⟩
theorem fl_RX11_7 : FL RX11 7 12 0 0 := ⟨RX11, TX11, 16, "SleepOffice", by decide, rfl, by decide, lay_12, w_292, Or.inl rfl, tyo_12, nmX11, fun _ => rfl, (fun h => by cases h)⟩
theorem fl_RX11_72 : FL RX11 72 12 14 1 := ⟨RX11, TX11, 16, "SleepOffice", by decide, rfl, by decide, lay_12, w_306, Or.inl rfl, tyo_12, nmX11, (fun h => by cases h), fun _ => ⟨rfl, rfl⟩⟩
theorem fl_RX11_79 : FL RX11 79 12 15 1 := ⟨RX11, TX11, 16, "SleepOffice", by decide, rfl, by decide, lay_12, w_307, Or.inl rfl, tyo_12, nmX11, (fun h => by cases h), fun _ => ⟨rfl, rfl⟩⟩
theorem fl_RX12_100 : FL RX12 100 13 35 1 := ⟨RX12, TX12, 81, "SleepOfficeModel", by decide, rfl, by decide, lay_13, w_1341, Or.inl rfl, tyo_13, nmX12, (fun h => by cases h), fun _ => ⟨rfl, rfl⟩⟩
theorem fl_RX12_103 : FL RX12 103 13 36 1 := ⟨RX12, TX12, 81, "SleepOfficeModel", by decide, rfl, by decide, lay_13, w_1342, Or.inl rfl, tyo_13, nmX12, (fun h => by cases h), fun _ => ⟨rfl, rfl⟩⟩
theorem fl_RX12_106 : FL RX12 106 13 37 1 := ⟨RX12, TX12, 81, "SleepOfficeModel", by decide, rfl, by decide, lay_13, w_1343, Or.inl rfl, tyo_13, nmX12, (fun h => by cases h), fun _ => ⟨rfl, rfl⟩⟩
theorem fl_RX12_109 : FL RX12 109 13 38 1 := ⟨RX12, TX12, 81, "SleepOfficeModel", by decide, rfl, by decide, lay_13, w_1344, Or.inl rfl, tyo_13, nmX12, (fun h => by cases h), fun _ => ⟨rfl, rfl⟩⟩
theorem fl_RX12_112 : FL RX12 112 13 39 1 := ⟨RX12, TX12, 81, "SleepOfficeModel", by decide, rfl, by decide, lay_13, w_1345, Or.inl rfl, tyo_13, nmX12, (fun h => by cases h), fun _ => ⟨rfl, rfl⟩⟩
theorem fl_RX12_115 : FL RX12 115 13 40 1 := ⟨RX12, TX12, 81, "SleepOfficeModel", by decide, rfl, by decide, lay_13, w_1346, Or.inl rfl, tyo_13, nmX12, (fun h => by cases h), fun _ => ⟨rfl, rfl⟩⟩
theorem fl_RX12_118 : FL RX12 118 13 41 1 := ⟨RX12, TX12, 81, "SleepOfficeModel", by decide, rfl, by decide, lay_13, w_1347, Or.inl rfl, tyo_13, nmX12, (fun h => by cases h), fun _ => ⟨rfl, rfl⟩⟩
theorem fl_RX12_121 : FL RX12 121 13 54 0 := ⟨RX12, TX12, 81, "SleepOfficeModel", by decide, rfl, by decide, lay_13, w_1360, Or.inl rfl, tyo_13, nmX12, fun _ => rfl, (fun h => by cases h)⟩
theorem fl_RX12_125 : FL RX12 125 13 55 1 := ⟨RX12, TX12, 81, "SleepOfficeModel", by decide, rfl, by decide, lay_13, w_1361, Or.inl rfl, tyo_13, nmX12, (fun h => by cases h), fun _ => ⟨rfl, rfl⟩⟩
theorem fl_RX12_128 : FL RX12 128 13 56 1 := ⟨RX12, TX12, 81, "SleepOfficeModel", by decide, rfl, by decide, lay_13, w_1362, Or.inl rfl, tyo_13, nmX12, (fun h => by cases h), fun _ => ⟨rfl, rfl⟩⟩
theorem fl_RX12_13 : FL RX12 13 13 6 1 := ⟨RX12, TX12, 81, "SleepOfficeModel", by decide, rfl, by decide, lay_13, w_1312, Or.inl rfl, tyo_13, nmX12, (fun h => by cases h), fun _ => ⟨rfl, rfl⟩⟩
theorem fl_RX12_131 : FL RX12 131 13 57 1 := ⟨RX12, TX12, 81, "SleepOfficeModel", by decide, rfl, by decide, lay_13, w_1363, Or.inl rfl, tyo_13, nmX12, (fun h => by cases h), fun _ => ⟨rfl, rfl⟩⟩
theorem fl_RX12_134 : FL RX12 134 13 58 1 := ⟨RX12, TX12, 81, "SleepOfficeModel", by decide, rfl, by decide, lay_13, w_1364, Or.inl rfl, tyo_13, nmX12, (fun h => by cases h), fun _ => ⟨rfl, rfl⟩⟩
theorem fl_RX12_137 : FL RX12 137 13 59 1 := ⟨RX12, TX12, 81, "SleepOfficeModel", by decide, rfl, by decide, lay_13, w_1365, Or.inl rfl, tyo_13, nmX12, (fun h => by cases h), fun _ => ⟨rfl, rfl⟩⟩
theorem fl_RX12_141 : FL RX12 141 13 60 1 := ⟨RX12, TX12, 81, "SleepOfficeModel", by decide, rfl, by decide, lay_13, w_1366, Or.inl rfl, tyo_13, nmX12, (fun h => by cases h), fun _ => ⟨rfl, rfl⟩⟩
theorem fl_RX12_144 : FL RX12 144 13 61 1 := ⟨RX12, TX12, 81, "SleepOfficeModel", by decide, rfl, by decide, lay_13, w_1367, Or.inl rfl, tyo_13, nmX12, (fun h => by cases h), fun _ => ⟨rfl, rfl⟩⟩
theorem fl_RX12_147 : FL RX12 147 13 62 1 := ⟨RX12, TX12, 81, "SleepOfficeModel", by decide, rfl, by decide, lay_13, w_1368, Or.inl rfl, tyo_13, nmX12, (fun h => by cases h), fun _ => ⟨rfl, rfl⟩⟩
theorem fl_RX12_150 : FL RX12 150 13 66 1 := ⟨RX12, TX12, 81, "SleepOfficeModel", by decide, rfl, by decide, lay_13, w_1372, Or.inl rfl, tyo_13, nmX12, (fun h => by cases h), fun _ => ⟨rfl, rfl⟩⟩
theorem fl_RX12_154 : FL RX12 154 13 67 1 := ⟨RX12, TX12, 81, "SleepOfficeModel", by decide, rfl, by decide, lay_13, w_1373, Or.inl rfl, tyo_13, nmX12, (fun h => by cases h), fun _ => ⟨rfl, rfl⟩⟩
theorem fl_RX12_157 : FL RX12 157 13 68 1 := ⟨RX12, TX12, 81, "SleepOfficeModel", by decide, rfl, by decide, lay_13, w_1374, Or.inl rfl, tyo_13, nmX12, (fun h => by cases h), fun _ => ⟨rfl, rfl⟩⟩
theorem fl_RX12_16 : FL RX12 16 13 7 1 := ⟨RX12, TX12, 81, "SleepOfficeModel", by decide, rfl, by decide, lay_13, w_1313, Or.inl rfl, tyo_13, nmX12, (fun h => by cases h), fun _ => ⟨rfl, rfl⟩⟩
theorem fl_RX12_160 : FL RX12 160 13 70 1 := ⟨RX12, TX12, 81, "SleepOfficeModel", by decide, rfl, by decide, lay_13, w_1376, Or.inl rfl, tyo_13, nmX12, (fun h => by cases h), fun _ => ⟨rfl, rfl⟩⟩
theorem fl_RX12_163 : FL RX12 163 13 71 1 := ⟨RX12, TX12, 81, "SleepOfficeModel", by decide, rfl, by decide, lay_13, w_1377, Or.inl rfl, tyo_13, nmX12, (fun h => by cases h), fun _ => ⟨rfl, rfl⟩⟩
theorem fl_RX12_166 : FL RX12 166 13 72 1 := ⟨RX12, TX12, 81, "SleepOfficeModel", by decide, rfl, by decide, lay_13, w_1378, Or.inl rfl, tyo_13, nmX12, (fun h => by cases h), fun _ => ⟨rfl, rfl⟩⟩
theorem fl_RX12_169 : FL RX12 169 13 73 1 := ⟨RX12, TX12, 81, "SleepOfficeModel", by decide, rfl, by decide, lay_13, w_1379, Or.inl rfl, tyo_13, nmX12, (fun h => by cases h), fun _ => ⟨rfl, rfl⟩⟩
theorem fl_RX12_172 : FL RX12 172 13 74 1 := ⟨RX12, TX12, 81, "SleepOfficeModel", by decide, rfl, by decide, lay_13, w_1380, Or.inl rfl, tyo_13, nmX12, (fun h => by cases h), fun _ => ⟨rfl, rfl⟩⟩
theorem fl_RX12_175 : FL RX12 175 13 75 1 := ⟨RX12, TX12, 81, "SleepOfficeModel", by decide, rfl, by decide, lay_13, w_1381, Or.inl rfl, tyo_13, nmX12, (fun h => by cases h), fun _ => ⟨rfl, rfl⟩⟩
theorem fl_RX12_178 : FL RX12 178 13 76 1 := ⟨RX12, TX12, 81, "SleepOfficeModel", by decide, rfl, by decide, lay_13, w_1382, Or.inl rfl, tyo_13, nmX12, (fun h => by cases h), fun _ => ⟨rfl, rfl⟩⟩
theorem fl_RX12_181 : FL RX12 181 13 77 1 := ⟨RX12, TX12, 81, "SleepOfficeModel", by decide, rfl, by decide, lay_13, w_1383, Or.inl rfl, tyo_13, nmX12, (fun h => by cases h), fun _ => ⟨rfl, rfl⟩⟩
theorem fl_RX12_184 : FL RX12 184 13 78 1 := ⟨RX12, TX12, 81, "SleepOfficeModel", by decide, rfl, by decide, lay_13, w_1384, Or.inl rfl, tyo_13, nmX12, (fun h => by cases h), fun _ => ⟨rfl, rfl⟩⟩
theorem fl_RX12_187 : FL RX12 187 13 79 1 := ⟨RX12, TX12, 81, "SleepOfficeModel", by decide, rfl, by decide, lay_13, w_1385, Or.inl rfl, tyo_13, nmX12, (fun h => by cases h), fun _ => ⟨rfl, rfl⟩⟩
theorem fl_RX12_19 : FL RX12 19 13 8 1 := ⟨RX12, TX12, 81, "SleepOfficeModel", by decide, rfl, by decide, lay_13, w_1314, Or.inl rfl, tyo_13, nmX12, (fun h => by cases h), fun _ => ⟨rfl, rfl⟩⟩
theorem fl_RX12_190 : FL RX12 190 13 80 1 := ⟨RX12, TX12, 81, "SleepOfficeModel", by decide, rfl, by decide, lay_13, w_1386, Or.inl rfl, tyo_13, nmX12, (fun h => by cases h), fun _ => ⟨rfl, rfl⟩⟩
theorem fl_RX12_197 : FL RX12 197 13 0 0 := ⟨RX12, TX12, 81, "SleepOfficeModel", by decide, rfl, by decide, lay_13, w_1306, Or.inl rfl, tyo_13, nmX12, fun _ => rfl, (fun h => by cases h)⟩
theorem fl_RX12_204 : FL RX12 204 13 1 0 := ⟨RX12, TX12, 81, "SleepOfficeModel", by decide, rfl, by decide, lay_13, w_1307, Or.inl rfl, tyo_13, nmX12, fun _ => rfl, (fun h => by cases h)⟩
theorem fl_RX12_207 : FL RX12 207 13 2 0 := ⟨RX12, TX12, 81, "SleepOfficeModel", by decide, rfl, by decide, lay_13, w_1308, Or.inl rfl, tyo_13, nmX12, fun _ => rfl, (fun h => by cases h)⟩
theorem fl_RX12_210 : FL RX12 210 13 3 0 := ⟨RX12, TX12, 81, "SleepOfficeModel", by decide, rfl, by decide, lay_13, w_1309, Or.inl rfl, tyo_13, nmX12, fun _ => rfl, (fun h => by cases h)⟩
theorem fl_RX12_22 : FL RX12 22 13 9 1 := ⟨RX12, TX12, 81, "SleepOfficeModel", by decide, rfl, by decide, lay_13, w_1315, Or.inl rfl, tyo_13, nmX12, (fun h => by cases h), fun _ => ⟨rfl, rfl⟩⟩
theorem fl_RX12_234 : FL RX12 234 13 4 0 := ⟨RX12, TX12, 81, "SleepOfficeModel", by decide, rfl, by decide, lay_13, w_1310, Or.inl rfl, tyo_13, nmX12, fun _ => rfl, (fun h => by cases h)⟩
theorem fl_RX12_25 : FL RX12 25 13 10 1 := ⟨RX12, TX12, 81, "SleepOfficeModel", by decide, rfl, by decide, lay_13, w_1316, Or.inl rfl, tyo_13, nmX12, (fun h => by cases h), fun _ => ⟨rfl, rfl⟩⟩
theorem fl_RX12_259 : FL RX12 259 13 44 0 := ⟨RX12, TX12, 81, "SleepOfficeModel", by decide, rfl, by decide, lay_13, w_1350, Or.inl rfl, tyo_13, nmX12, fun _ => rfl, (fun h => by cases h)⟩
theorem fl_RX12_262 : FL RX12 262 13 45 0 := ⟨RX12, TX12, 81, "SleepOfficeModel", by decide, rfl, by decide, lay_13, w_1351, Or.inl rfl, tyo_13, nmX12, fun _ => rfl, (fun h => by cases h)⟩
theorem fl_RX12_265 : FL RX12 265 13 47 0 := ⟨RX12, TX12, 81, "SleepOfficeModel", by decide, rfl, by decide, lay_13, w_1353, Or.inl rfl, tyo_13, nmX12, fun _ => rfl, (fun h => by cases h)⟩
theorem fl_RX12_28 : FL RX12 28 13 11 1 := ⟨RX12, TX12, 81, "SleepOfficeModel", by decide, rfl, by decide, lay_13, w_1317, Or.inl rfl, tyo_13, nmX12, (fun h => by cases h), fun _ => ⟨rfl, rfl⟩⟩
theorem fl_RX12_31 : FL RX12 31 13 12 1 := ⟨RX12, TX12, 81, "SleepOfficeModel", by decide, rfl, by decide, lay_13, w_1318, Or.inl rfl, tyo_13, nmX12, (fun h => by cases h), fun _ => ⟨rfl, rfl⟩⟩
theorem fl_RX12_311 : FL RX12 311 13 46 0 := ⟨RX12, TX12, 81, "SleepOfficeModel", by decide, rfl, by decide, lay_13, w_1352, Or.inl rfl, tyo_13, nmX12, fun _ => rfl, (fun h => by cases h)⟩
theorem fl_RX12_323 : FL RX12 323 13 48 0 := ⟨RX12, TX12, 81, "SleepOfficeModel", by decide, rfl, by decide, lay_13, w_1354, Or.inl rfl, tyo_13, nmX12, fun _ => rfl, (fun h => by cases h)⟩
theorem fl_RX12_326 : FL RX12 326 13 49 0 := ⟨RX12, TX12, 81, "SleepOfficeModel", by decide, rfl, by decide, lay_13, w_1355, Or.inl rfl, tyo_13, nmX12, fun _ => rfl, (fun h => by cases h)⟩
theorem fl_RX12_329 : FL RX12 329 13 50 0 := ⟨RX12, TX12, 81, "SleepOfficeModel", by decide, rfl, by decide, lay_13, w_1356, Or.inl rfl, tyo_13, nmX12, fun _ => rfl, (fun h => by cases h)⟩
theorem fl_RX12_338 : FL RX12 338 13 53 0 := ⟨RX12, TX12, 81, "SleepOfficeModel", by decide, rfl, by decide, lay_13, w_1359, Or.inl rfl, tyo_13, nmX12, fun _ => rfl, (fun h => by cases h)⟩
theorem fl_RX12_34 : FL RX12 34 13 13 1 := ⟨RX12, TX12, 81, "SleepOfficeModel", by decide, rfl, by decide, lay_13, w_1319, Or.inl rfl, tyo_13, nmX12, (fun h => by cases h), fun _ => ⟨rfl, rfl⟩⟩
theorem fl_RX12_341 : FL RX12 341 13 43 0 := ⟨RX12, TX12, 81, "SleepOfficeModel", by decide, rfl, by decide, lay_13, w_1349, Or.inl rfl, tyo_13, nmX12, fun _ => rfl, (fun h => by cases h)⟩
theorem fl_RX12_344 : FL RX12 344 13 52 0 := ⟨RX12, TX12, 81, "SleepOfficeModel", by decide, rfl, by decide, lay_13, w_1358, Or.inl rfl, tyo_13, nmX12, fun _ => rfl, (fun h => by cases h)⟩
theorem fl_RX12_37 : FL RX12 37 13 14 1 := ⟨RX12, TX12, 81, "SleepOfficeModel", by decide, rfl, by decide, lay_13, w_1320, Or.inl rfl, tyo_13, nmX12, (fun h => by cases h), fun _ => ⟨rfl, rfl⟩⟩
theorem fl_RX12_382 : FL RX12 382 13 42 0 := ⟨RX12, TX12, 81, "SleepOfficeModel", by decide, rfl, by decide, lay_13, w_1348, Or.inl rfl, tyo_13, nmX12, fun _ => rfl, (fun h => by cases h)⟩
theorem fl_RX12_391 : FL RX12 391 13 51 0 := ⟨RX12, TX12, 81, "SleepOfficeModel", by decide, rfl, by decide, lay_13, w_1357, Or.inl rfl, tyo_13, nmX12, fun _ => rfl, (fun h => by cases h)⟩
theorem fl_RX12_40 : FL RX12 40 13 15 1 := ⟨RX12, TX12, 81, "SleepOfficeModel", by decide, rfl, by decide, lay_13, w_1321, Or.inl rfl, tyo_13, nmX12, (fun h => by cases h), fun _ => ⟨rfl, rfl⟩⟩
theorem fl_RX12_411 : FL RX12 411 13 69 0 := ⟨RX12, TX12, 81, "SleepOfficeModel", by decide, rfl, by decide, lay_13, w_1375, Or.inl rfl, tyo_13, nmX12, fun _ => rfl, (fun h => by cases h)⟩
theorem fl_RX12_43 : FL RX12 43 13 16 1 := ⟨RX12, TX12, 81, "SleepOfficeModel", by decide, rfl, by decide, lay_13, w_1322, Or.inl rfl, tyo_13, nmX12, (fun h => by cases h), fun _ => ⟨rfl, rfl⟩⟩
theorem fl_RX12_435 : FL RX12 435 13 63 0 := ⟨RX12, TX12, 81, "SleepOfficeModel", by decide, rfl, by decide, lay_13, w_1369, Or.inl rfl, tyo_13, nmX12, fun _ => rfl, (fun h => by cases h)⟩
theorem fl_RX12_445 : FL RX12 445 13 65 0 := ⟨RX12, TX12, 81, "SleepOfficeModel", by decide, rfl, by decide, lay_13, w_1371, Or.inl rfl, tyo_13, nmX12, fun _ => rfl, (fun h => by cases h)⟩
theorem fl_RX12_448 : FL RX12 448 13 64 0 := ⟨RX12, TX12, 81, "SleepOfficeModel", by decide, rfl, by decide, lay_13, w_1370, Or.inl rfl, tyo_13, nmX12, fun _ => rfl, (fun h => by cases h)⟩
theorem fl_RX12_46 : FL RX12 46 13 17 1 := ⟨RX12, TX12, 81, "SleepOfficeModel", by decide, rfl, by decide, lay_13, w_1323, Or.inl rfl, tyo_13, nmX12, (fun h => by cases h), fun _ => ⟨rfl, rfl⟩⟩
theorem fl_RX12_49 : FL RX12 49 13 18 1 := ⟨RX12, TX12, 81, "SleepOfficeModel", by decide, rfl, by decide, lay_13, w_1324, Or.inl rfl, tyo_13, nmX12, (fun h => by cases h), fun _ => ⟨rfl, rfl⟩⟩
theorem fl_RX12_52 : FL RX12 52 13 19 1 := ⟨RX12, TX12, 81, "SleepOfficeModel", by decide, rfl, by decide, lay_13, w_1325, Or.inl rfl, tyo_13, nmX12, (fun h => by cases h), fun _ => ⟨rfl, rfl⟩⟩
theorem fl_RX12_55 : FL RX12 55 13 20 1 := ⟨RX12, TX12, 81, "SleepOfficeModel", by decide, rfl, by decide, lay_13, w_1326, Or.inl rfl, tyo_13, nmX12, (fun h => by cases h), fun _ => ⟨rfl, rfl⟩⟩
theorem fl_RX12_58 : FL RX12 58 13 21 1 := ⟨RX12, TX12, 81, "SleepOfficeModel", by decide, rfl, by decide, lay_13, w_1327, Or.inl rfl, tyo_13, nmX12, (fun h => by cases h), fun _ => ⟨rfl, rfl⟩⟩
theorem fl_RX12_61 : FL RX12 61 13 22 1 := ⟨RX12, TX12, 81, "SleepOfficeModel", by decide, rfl, by decide, lay_13, w_1328, Or.inl rfl, tyo_13, nmX12, (fun h => by cases h), fun _ => ⟨rfl, rfl⟩⟩
theorem fl_RX12_64 : FL RX12 64 13 23 1 := ⟨RX12, TX12, 81, "SleepOfficeModel", by decide, rfl, by decide, lay_13, w_1329, Or.inl rfl, tyo_13, nmX12, (fun h => by cases h), fun _ => ⟨rfl, rfl⟩⟩
theorem fl_RX12_67 : FL RX12 67 13 24 1 := ⟨RX12, TX12, 81, "SleepOfficeModel", by decide, rfl, by decide, lay_13, w_1330, Or.inl rfl, tyo_13, nmX12, (fun h => by cases h), fun _ => ⟨rfl, rfl⟩⟩
theorem fl_RX12_7 : FL RX12 7 13 5 1 := ⟨RX12, TX12, 81, "SleepOfficeModel", by decide, rfl, by decide, lay_13, w_1311, Or.inl rfl, tyo_13, nmX12, (fun h => by cases h), fun _ => ⟨rfl, rfl⟩⟩
theorem fl_RX12_70 : FL RX12 70 13 25 1 := ⟨RX12, TX12, 81, "SleepOfficeModel", by decide, rfl, by decide, lay_13, w_1331, Or.inl rfl, tyo_13, nmX12, (fun h => by cases h), fun _ => ⟨rfl, rfl⟩⟩
theorem fl_RX12_73 : FL RX12 73 13 26 1 := ⟨RX12, TX12, 81, "SleepOfficeModel", by decide, rfl, by decide, lay_13, w_1332, Or.inl rfl, tyo_13, nmX12, (fun h => by cases h), fun _ => ⟨rfl, rfl⟩⟩
theorem fl_RX12_76 : FL RX12 76 13 27 1 := ⟨RX12, TX12, 81, "SleepOfficeModel", by decide, rfl, by decide, lay_13, w_1333, Or.inl rfl, tyo_13, nmX12, (fun h => by cases h), fun _ => ⟨rfl, rfl⟩⟩
theorem fl_RX12_79 : FL RX12 79 13 28 1 := ⟨RX12, TX12, 81, "SleepOfficeModel", by decide, rfl, by decide, lay_13, w_1334, Or.inl rfl, tyo_13, nmX12, (fun h => by cases h), fun _ => ⟨rfl, rfl⟩⟩
theorem fl_RX12_82 : FL RX12 82 13 29 1 := ⟨RX12, TX12, 81, "SleepOfficeModel", by decide, rfl, by decide, lay_13, w_1335, Or.inl rfl, tyo_13, nmX12, (fun h => by cases h), fun _ => ⟨rfl, rfl⟩⟩
theorem fl_RX12_85 : FL RX12 85 13 30 1 := ⟨RX12, TX12, 81, "SleepOfficeModel", by decide, rfl, by decide, lay_13, w_1336, Or.inl rfl, tyo_13, nmX12, (fun h => by cases h), fun _ => ⟨rfl, rfl⟩⟩
theorem fl_RX12_88 : FL RX12 88 13 31 1 := ⟨RX12, TX12, 81, "SleepOfficeModel", by decide, rfl, by decide, lay_13, w_1337, Or.inl rfl, tyo_13, nmX12, (fun h => by cases h), fun _ => ⟨rfl, rfl⟩⟩
theorem fl_RX12_91 : FL RX12 91 13 32 1 := ⟨RX12, TX12, 81, "SleepOfficeModel", by decide, rfl, by decide, lay_13, w_1338, Or.inl rfl, tyo_13, nmX12, (fun h => by cases h), fun _ => ⟨rfl, rfl⟩⟩
theorem fl_RX12_94 : FL RX12 94 13 33 1 := ⟨RX12, TX12, 81, "SleepOfficeModel", by decide, rfl, by decide, lay_13, w_1339, Or.inl rfl, tyo_13, nmX12, (fun h => by cases h), fun _ => ⟨rfl, rfl⟩⟩
theorem fl_RX12_97 : FL RX12 97 13 34 1 := ⟨RX12, TX12, 81, "SleepOfficeModel", by decide, rfl, by decide, lay_13, w_1340, Or.inl rfl, tyo_13, nmX12, (fun h => by cases h), fun _ => ⟨rfl, rfl⟩⟩
theorem fl_RX1_15 : FL RX1 15 2 1 1 := ⟨RX1, TX1, 5, "SleepOffice$Chooser", by decide, rfl, by decide, lay_2, w_276, Or.inl rfl, tyo_2, nmX1, (fun h => by cases h), fun _ => ⟨rfl, rfl⟩⟩
theorem fl_RX1_19 : FL RX1 19 2 2 1 := ⟨RX1, TX1, 5, "SleepOffice$Chooser", by decide, rfl, by decide, lay_2, w_277, Or.inl rfl, tyo_2, nmX1, (fun h => by cases h), fun _ => ⟨rfl, rfl⟩⟩
theorem fl_RX1_22 : FL RX1 22 2 3 0 := ⟨RX1, TX1, 5, "SleepOffice$Chooser", by decide, rfl, by decide, lay_2, w_278, Or.inl rfl, tyo_2, nmX1, fun _ => rfl, (fun h => by cases h)⟩
theorem fl_RX1_26 : FL RX1 26 2 4 0 := ⟨RX1, TX1, 5, "SleepOffice$Chooser", by decide, rfl, by decide, lay_2, w_279, Or.inl rfl, tyo_2, nmX1, fun _ => rfl, (fun h => by cases h)⟩
theorem fl_RX1_9 : FL RX1 9 2 0 1 := ⟨RX1, TX1, 5, "SleepOffice$Chooser", by decide, rfl, by decide, lay_2, w_275, Or.inl rfl, tyo_2, nmX1, (fun h => by cases h), fun _ => ⟨rfl, rfl⟩⟩
theorem fl_RX2_13 : FL RX2 13 3 5 0 := ⟨RX2, TX2, 7, "SleepOffice$Claim", by decide, rfl, by decide, lay_3, w_1106, Or.inl rfl, tyo_3, nmX2, fun _ => rfl, (fun h => by cases h)⟩
theorem fl_RX2_17 : FL RX2 17 3 6 0 := ⟨RX2, TX2, 7, "SleepOffice$Claim", by decide, rfl, by decide, lay_3, w_1108, Or.inl rfl, tyo_3, nmX2, fun _ => rfl, (fun h => by cases h)⟩
theorem fl_RX2_20 : FL RX2 20 3 0 1 := ⟨RX2, TX2, 7, "SleepOffice$Claim", by decide, rfl, by decide, lay_3, w_1096, Or.inl rfl, tyo_3, nmX2, (fun h => by cases h), fun _ => ⟨rfl, rfl⟩⟩
theorem fl_RX2_24 : FL RX2 24 3 1 1 := ⟨RX2, TX2, 7, "SleepOffice$Claim", by decide, rfl, by decide, lay_3, w_1098, Or.inl rfl, tyo_3, nmX2, (fun h => by cases h), fun _ => ⟨rfl, rfl⟩⟩
theorem fl_RX2_28 : FL RX2 28 3 2 1 := ⟨RX2, TX2, 7, "SleepOffice$Claim", by decide, rfl, by decide, lay_3, w_1100, Or.inl rfl, tyo_3, nmX2, (fun h => by cases h), fun _ => ⟨rfl, rfl⟩⟩
theorem fl_RX2_31 : FL RX2 31 3 3 1 := ⟨RX2, TX2, 7, "SleepOffice$Claim", by decide, rfl, by decide, lay_3, w_1102, Or.inl rfl, tyo_3, nmX2, (fun h => by cases h), fun _ => ⟨rfl, rfl⟩⟩
theorem fl_RX2_9 : FL RX2 9 3 4 0 := ⟨RX2, TX2, 7, "SleepOffice$Claim", by decide, rfl, by decide, lay_3, w_1104, Or.inl rfl, tyo_3, nmX2, fun _ => rfl, (fun h => by cases h)⟩
theorem fl_RX3_13 : FL RX3 13 4 1 1 := ⟨RX3, TX3, 6, "SleepOffice$Entry", by decide, rfl, by decide, lay_4, w_624, Or.inl rfl, tyo_4, nmX3, (fun h => by cases h), fun _ => ⟨rfl, rfl⟩⟩
theorem fl_RX3_16 : FL RX3 16 4 2 1 := ⟨RX3, TX3, 6, "SleepOffice$Entry", by decide, rfl, by decide, lay_4, w_626, Or.inl rfl, tyo_4, nmX3, (fun h => by cases h), fun _ => ⟨rfl, rfl⟩⟩
theorem fl_RX3_19 : FL RX3 19 4 3 1 := ⟨RX3, TX3, 6, "SleepOffice$Entry", by decide, rfl, by decide, lay_4, w_628, Or.inl rfl, tyo_4, nmX3, (fun h => by cases h), fun _ => ⟨rfl, rfl⟩⟩
theorem fl_RX3_22 : FL RX3 22 4 4 1 := ⟨RX3, TX3, 6, "SleepOffice$Entry", by decide, rfl, by decide, lay_4, w_629, Or.inl rfl, tyo_4, nmX3, (fun h => by cases h), fun _ => ⟨rfl, rfl⟩⟩
theorem fl_RX3_25 : FL RX3 25 4 5 1 := ⟨RX3, TX3, 6, "SleepOffice$Entry", by decide, rfl, by decide, lay_4, w_630, Or.inl rfl, tyo_4, nmX3, (fun h => by cases h), fun _ => ⟨rfl, rfl⟩⟩
theorem fl_RX3_7 : FL RX3 7 4 0 1 := ⟨RX3, TX3, 6, "SleepOffice$Entry", by decide, rfl, by decide, lay_4, w_622, Or.inl rfl, tyo_4, nmX3, (fun h => by cases h), fun _ => ⟨rfl, rfl⟩⟩
theorem fl_RX4_15 : FL RX4 15 5 3 0 := ⟨RX4, TX4, 5, "SleepOffice$Firm", by decide, rfl, by decide, lay_5, w_368, Or.inl rfl, tyo_5, nmX4, fun _ => rfl, (fun h => by cases h)⟩
theorem fl_RX4_19 : FL RX4 19 5 4 1 := ⟨RX4, TX4, 5, "SleepOffice$Firm", by decide, rfl, by decide, lay_5, w_370, Or.inl rfl, tyo_5, nmX4, (fun h => by cases h), fun _ => ⟨rfl, rfl⟩⟩
theorem fl_RX4_23 : FL RX4 23 5 0 1 := ⟨RX4, TX4, 5, "SleepOffice$Firm", by decide, rfl, by decide, lay_5, w_362, Or.inl rfl, tyo_5, nmX4, (fun h => by cases h), fun _ => ⟨rfl, rfl⟩⟩
theorem fl_RX4_26 : FL RX4 26 5 1 1 := ⟨RX4, TX4, 5, "SleepOffice$Firm", by decide, rfl, by decide, lay_5, w_364, Or.inl rfl, tyo_5, nmX4, (fun h => by cases h), fun _ => ⟨rfl, rfl⟩⟩
theorem fl_RX4_9 : FL RX4 9 5 2 0 := ⟨RX4, TX4, 5, "SleepOffice$Firm", by decide, rfl, by decide, lay_5, w_366, Or.inl rfl, tyo_5, nmX4, fun _ => rfl, (fun h => by cases h)⟩
theorem fl_RX5_11 : FL RX5 11 6 0 1 := ⟨RX5, TX5, 5, "SleepOffice$Joining", by decide, rfl, by decide, lay_6, w_253, Or.inl rfl, tyo_6, nmX5, (fun h => by cases h), fun _ => ⟨rfl, rfl⟩⟩
theorem fl_RX5_17 : FL RX5 17 6 1 0 := ⟨RX5, TX5, 5, "SleepOffice$Joining", by decide, rfl, by decide, lay_6, w_254, Or.inl rfl, tyo_6, nmX5, fun _ => rfl, (fun h => by cases h)⟩
theorem fl_RX5_21 : FL RX5 21 6 2 1 := ⟨RX5, TX5, 5, "SleepOffice$Joining", by decide, rfl, by decide, lay_6, w_255, Or.inl rfl, tyo_6, nmX5, (fun h => by cases h), fun _ => ⟨rfl, rfl⟩⟩
theorem fl_RX5_25 : FL RX5 25 6 3 1 := ⟨RX5, TX5, 5, "SleepOffice$Joining", by decide, rfl, by decide, lay_6, w_256, Or.inl rfl, tyo_6, nmX5, (fun h => by cases h), fun _ => ⟨rfl, rfl⟩⟩
theorem fl_RX5_28 : FL RX5 28 6 4 1 := ⟨RX5, TX5, 5, "SleepOffice$Joining", by decide, rfl, by decide, lay_6, w_257, Or.inl rfl, tyo_6, nmX5, (fun h => by cases h), fun _ => ⟨rfl, rfl⟩⟩
theorem fl_RX6_15 : FL RX6 15 7 1 1 := ⟨RX6, TX6, 9, "SleepOffice$Law", by decide, rfl, by decide, lay_7, w_174, Or.inl rfl, tyo_7, nmX6, (fun h => by cases h), fun _ => ⟨rfl, rfl⟩⟩
theorem fl_RX6_19 : FL RX6 19 7 2 0 := ⟨RX6, TX6, 9, "SleepOffice$Law", by decide, rfl, by decide, lay_7, w_175, Or.inl rfl, tyo_7, nmX6, fun _ => rfl, (fun h => by cases h)⟩
theorem fl_RX6_22 : FL RX6 22 7 3 0 := ⟨RX6, TX6, 9, "SleepOffice$Law", by decide, rfl, by decide, lay_7, w_177, Or.inl rfl, tyo_7, nmX6, fun _ => rfl, (fun h => by cases h)⟩
theorem fl_RX6_25 : FL RX6 25 7 4 0 := ⟨RX6, TX6, 9, "SleepOffice$Law", by decide, rfl, by decide, lay_7, w_180, Or.inl rfl, tyo_7, nmX6, fun _ => rfl, (fun h => by cases h)⟩
theorem fl_RX6_28 : FL RX6 28 7 5 0 := ⟨RX6, TX6, 9, "SleepOffice$Law", by decide, rfl, by decide, lay_7, w_183, Or.inl rfl, tyo_7, nmX6, fun _ => rfl, (fun h => by cases h)⟩
theorem fl_RX6_31 : FL RX6 31 7 6 0 := ⟨RX6, TX6, 9, "SleepOffice$Law", by decide, rfl, by decide, lay_7, w_186, Or.inl rfl, tyo_7, nmX6, fun _ => rfl, (fun h => by cases h)⟩
theorem fl_RX6_34 : FL RX6 34 7 8 0 := ⟨RX6, TX6, 9, "SleepOffice$Law", by decide, rfl, by decide, lay_7, w_190, Or.inl rfl, tyo_7, nmX6, fun _ => rfl, (fun h => by cases h)⟩
theorem fl_RX6_43 : FL RX6 43 7 7 1 := ⟨RX6, TX6, 9, "SleepOffice$Law", by decide, rfl, by decide, lay_7, w_189, Or.inl rfl, tyo_7, nmX6, (fun h => by cases h), fun _ => ⟨rfl, rfl⟩⟩
theorem fl_RX6_9 : FL RX6 9 7 0 0 := ⟨RX6, TX6, 9, "SleepOffice$Law", by decide, rfl, by decide, lay_7, w_171, Or.inl rfl, tyo_7, nmX6, fun _ => rfl, (fun h => by cases h)⟩
theorem fl_RX7_116 : FL RX7 116 11 0 2 := ⟨RX10, TX10, 3, "SleepOffice$Token", by decide, rfl, by decide, lay_11, w_804, Or.inl rfl, tyo_11, nmX10, (fun h => by cases h), (fun h => by cases h)⟩
theorem fl_RX7_117 : FL RX7 117 11 1 2 := ⟨RX10, TX10, 3, "SleepOffice$Token", by decide, rfl, by decide, lay_11, w_806, Or.inl rfl, tyo_11, nmX10, (fun h => by cases h), (fun h => by cases h)⟩
theorem fl_RX7_118 : FL RX7 118 11 2 2 := ⟨RX10, TX10, 3, "SleepOffice$Token", by decide, rfl, by decide, lay_11, w_808, Or.inl rfl, tyo_11, nmX10, (fun h => by cases h), (fun h => by cases h)⟩
theorem fl_RX7_15 : FL RX7 15 8 2 0 := ⟨RX7, TX7, 9, "SleepOffice$LawReader", by decide, rfl, by decide, lay_8, w_838, Or.inl rfl, tyo_8, nmX7, fun _ => rfl, (fun h => by cases h)⟩
theorem fl_RX7_18 : FL RX7 18 8 4 0 := ⟨RX7, TX7, 9, "SleepOffice$LawReader", by decide, rfl, by decide, lay_8, w_841, Or.inl rfl, tyo_8, nmX7, fun _ => rfl, (fun h => by cases h)⟩
theorem fl_RX7_23 : FL RX7 23 8 5 0 := ⟨RX7, TX7, 9, "SleepOffice$LawReader", by decide, rfl, by decide, lay_8, w_842, Or.inl rfl, tyo_8, nmX7, fun _ => rfl, (fun h => by cases h)⟩
theorem fl_RX7_26 : FL RX7 26 8 6 0 := ⟨RX7, TX7, 9, "SleepOffice$LawReader", by decide, rfl, by decide, lay_8, w_843, Or.inl rfl, tyo_8, nmX7, fun _ => rfl, (fun h => by cases h)⟩
theorem fl_RX7_29 : FL RX7 29 8 7 0 := ⟨RX7, TX7, 9, "SleepOffice$LawReader", by decide, rfl, by decide, lay_8, w_844, Or.inl rfl, tyo_8, nmX7, fun _ => rfl, (fun h => by cases h)⟩
theorem fl_RX7_32 : FL RX7 32 8 8 0 := ⟨RX7, TX7, 9, "SleepOffice$LawReader", by decide, rfl, by decide, lay_8, w_845, Or.inl rfl, tyo_8, nmX7, fun _ => rfl, (fun h => by cases h)⟩
theorem fl_RX7_35 : FL RX7 35 8 3 1 := ⟨RX7, TX7, 9, "SleepOffice$LawReader", by decide, rfl, by decide, lay_8, w_840, Or.inl rfl, tyo_8, nmX7, (fun h => by cases h), fun _ => ⟨rfl, rfl⟩⟩
theorem fl_RX7_50 : FL RX7 50 8 0 1 := ⟨RX7, TX7, 9, "SleepOffice$LawReader", by decide, rfl, by decide, lay_8, w_834, Or.inl rfl, tyo_8, nmX7, (fun h => by cases h), fun _ => ⟨rfl, rfl⟩⟩
theorem fl_RX7_60 : FL RX7 60 7 0 0 := ⟨RX6, TX6, 9, "SleepOffice$Law", by decide, rfl, by decide, lay_7, w_172, Or.inl rfl, tyo_7, nmX6, fun _ => rfl, (fun h => by cases h)⟩
theorem fl_RX7_83 : FL RX7 83 7 2 0 := ⟨RX6, TX6, 9, "SleepOffice$Law", by decide, rfl, by decide, lay_7, w_176, Or.inl rfl, tyo_7, nmX6, fun _ => rfl, (fun h => by cases h)⟩
theorem fl_RX7_86 : FL RX7 86 7 3 0 := ⟨RX6, TX6, 9, "SleepOffice$Law", by decide, rfl, by decide, lay_7, w_178, Or.inl rfl, tyo_7, nmX6, fun _ => rfl, (fun h => by cases h)⟩
theorem fl_RX7_89 : FL RX7 89 7 4 0 := ⟨RX6, TX6, 9, "SleepOffice$Law", by decide, rfl, by decide, lay_7, w_181, Or.inl rfl, tyo_7, nmX6, fun _ => rfl, (fun h => by cases h)⟩
theorem fl_RX7_9 : FL RX7 9 8 1 0 := ⟨RX7, TX7, 9, "SleepOffice$LawReader", by decide, rfl, by decide, lay_8, w_836, Or.inl rfl, tyo_8, nmX7, fun _ => rfl, (fun h => by cases h)⟩
theorem fl_RX7_92 : FL RX7 92 7 5 0 := ⟨RX6, TX6, 9, "SleepOffice$Law", by decide, rfl, by decide, lay_7, w_184, Or.inl rfl, tyo_7, nmX6, fun _ => rfl, (fun h => by cases h)⟩
theorem fl_RX7_95 : FL RX7 95 7 6 0 := ⟨RX6, TX6, 9, "SleepOffice$Law", by decide, rfl, by decide, lay_7, w_187, Or.inl rfl, tyo_7, nmX6, fun _ => rfl, (fun h => by cases h)⟩
theorem fl_RX8_15 : FL RX8 15 9 6 0 := ⟨RX8, TX8, 8, "SleepOffice$Person", by decide, rfl, by decide, lay_9, w_509, Or.inl rfl, tyo_9, nmX8, fun _ => rfl, (fun h => by cases h)⟩
theorem fl_RX8_18 : FL RX8 18 9 7 0 := ⟨RX8, TX8, 8, "SleepOffice$Person", by decide, rfl, by decide, lay_9, w_511, Or.inl rfl, tyo_9, nmX8, fun _ => rfl, (fun h => by cases h)⟩
theorem fl_RX8_21 : FL RX8 21 9 0 1 := ⟨RX8, TX8, 8, "SleepOffice$Person", by decide, rfl, by decide, lay_9, w_499, Or.inl rfl, tyo_9, nmX8, (fun h => by cases h), fun _ => ⟨rfl, rfl⟩⟩
theorem fl_RX8_24 : FL RX8 24 9 1 1 := ⟨RX8, TX8, 8, "SleepOffice$Person", by decide, rfl, by decide, lay_9, w_501, Or.inl rfl, tyo_9, nmX8, (fun h => by cases h), fun _ => ⟨rfl, rfl⟩⟩
theorem fl_RX8_27 : FL RX8 27 9 2 1 := ⟨RX8, TX8, 8, "SleepOffice$Person", by decide, rfl, by decide, lay_9, w_502, Or.inl rfl, tyo_9, nmX8, (fun h => by cases h), fun _ => ⟨rfl, rfl⟩⟩
theorem fl_RX8_30 : FL RX8 30 9 3 1 := ⟨RX8, TX8, 8, "SleepOffice$Person", by decide, rfl, by decide, lay_9, w_504, Or.inl rfl, tyo_9, nmX8, (fun h => by cases h), fun _ => ⟨rfl, rfl⟩⟩
theorem fl_RX8_33 : FL RX8 33 9 4 1 := ⟨RX8, TX8, 8, "SleepOffice$Person", by decide, rfl, by decide, lay_9, w_505, Or.inl rfl, tyo_9, nmX8, (fun h => by cases h), fun _ => ⟨rfl, rfl⟩⟩
theorem fl_RX8_9 : FL RX8 9 9 5 0 := ⟨RX8, TX8, 8, "SleepOffice$Person", by decide, rfl, by decide, lay_9, w_507, Or.inl rfl, tyo_9, nmX8, fun _ => rfl, (fun h => by cases h)⟩
theorem fl_RX9_13 : FL RX9 13 10 1 0 := ⟨RX9, TX9, 7, "SleepOffice$ProofScale", by decide, rfl, by decide, lay_10, w_221, Or.inl rfl, tyo_10, nmX9, fun _ => rfl, (fun h => by cases h)⟩
theorem fl_RX9_16 : FL RX9 16 10 2 0 := ⟨RX9, TX9, 7, "SleepOffice$ProofScale", by decide, rfl, by decide, lay_10, w_223, Or.inl rfl, tyo_10, nmX9, fun _ => rfl, (fun h => by cases h)⟩
theorem fl_RX9_19 : FL RX9 19 10 3 0 := ⟨RX9, TX9, 7, "SleepOffice$ProofScale", by decide, rfl, by decide, lay_10, w_225, Or.inl rfl, tyo_10, nmX9, fun _ => rfl, (fun h => by cases h)⟩
theorem fl_RX9_22 : FL RX9 22 10 4 1 := ⟨RX9, TX9, 7, "SleepOffice$ProofScale", by decide, rfl, by decide, lay_10, w_227, Or.inl rfl, tyo_10, nmX9, (fun h => by cases h), fun _ => ⟨rfl, rfl⟩⟩
theorem fl_RX9_26 : FL RX9 26 10 5 0 := ⟨RX9, TX9, 7, "SleepOffice$ProofScale", by decide, rfl, by decide, lay_10, w_228, Or.inl rfl, tyo_10, nmX9, fun _ => rfl, (fun h => by cases h)⟩
theorem fl_RX9_29 : FL RX9 29 10 6 0 := ⟨RX9, TX9, 7, "SleepOffice$ProofScale", by decide, rfl, by decide, lay_10, w_229, Or.inl rfl, tyo_10, nmX9, fun _ => rfl, (fun h => by cases h)⟩
theorem fl_RX9_7 : FL RX9 7 10 0 0 := ⟨RX9, TX9, 7, "SleepOffice$ProofScale", by decide, rfl, by decide, lay_10, w_219, Or.inl rfl, tyo_10, nmX9, fun _ => rfl, (fun h => by cases h)⟩
theorem cw_J0_charAt_5068e : CW yJ0_charAt_5068e cJ0_charAt_5068e 2 (Option.some Jvm.ClassFile.FieldType.char) := ⟨w_766, w_123, by decide +kernel, by decide +kernel⟩
theorem cw_J0_checkIndex_df160 : CW yJ0_checkIndex_df160 cJ0_checkIndex_df160 2 (Option.none : Option Jvm.ClassFile.FieldType) := ⟨w_776, w_123, by decide +kernel, by decide +kernel⟩
theorem cw_J0_coder_7d493 : CW yJ0_coder_7d493 cJ0_coder_7d493 1 (Option.some Jvm.ClassFile.FieldType.byte) := ⟨w_760, w_123, by decide +kernel, by decide +kernel⟩
theorem cw_J0_isLatin1_aae02 : CW yJ0_isLatin1_aae02 cJ0_isLatin1_aae02 1 (Option.some Jvm.ClassFile.FieldType.boolean) := ⟨w_770, w_123, by decide +kernel, by decide +kernel⟩
theorem cw_J0_length_8abf5 : CW yJ0_length_8abf5 cJ0_length_8abf5 1 (Option.some Jvm.ClassFile.FieldType.int) := ⟨w_756, w_123, by decide +kernel, by decide +kernel⟩
theorem cw_J15_checkIndex_7cf53 : CW yJ15_checkIndex_7cf53 cJ15_checkIndex_7cf53 2 (Option.some Jvm.ClassFile.FieldType.int) := ⟨w_455, w_116, by decide +kernel, by decide +kernel⟩
theorem cw_J1_charAt_3b067 : CW yJ1_charAt_3b067 cJ1_charAt_3b067 2 (Option.some Jvm.ClassFile.FieldType.char) := ⟨w_773, w_124, by decide +kernel, by decide +kernel⟩
theorem cw_J3_checkIndex_8e157 : CW yJ3_checkIndex_8e157 cJ3_checkIndex_8e157 3 (Option.some Jvm.ClassFile.FieldType.int) := ⟨w_458, w_117, by decide +kernel, by decide +kernel⟩
theorem cw_J6_bitCount_0f7a4 : CW yJ6_bitCount_0f7a4 cJ6_bitCount_0f7a4 1 (Option.some Jvm.ClassFile.FieldType.int) := ⟨w_1064, w_126, by decide +kernel, by decide +kernel⟩
theorem cw_J7_copyOf_1904c : CW yJ7_copyOf_1904c cJ7_copyOf_1904c 2 (Option.some (Jvm.ClassFile.FieldType.array (Jvm.ClassFile.FieldType.object "java/lang/Object"))) := ⟨w_408, w_114, by decide +kernel, by decide +kernel⟩
theorem cw_J7_copyOf_6403c : CW yJ7_copyOf_6403c cJ7_copyOf_6403c 4 (Option.some (Jvm.ClassFile.FieldType.array (Jvm.ClassFile.FieldType.object "java/lang/Object"))) := ⟨w_429, w_114, by decide +kernel, by decide +kernel⟩
theorem cw_J8_hugeLength_7cf53 : CW yJ8_hugeLength_7cf53 cJ8_hugeLength_7cf53 3 (Option.some Jvm.ClassFile.FieldType.int) := ⟨w_405, w_113, by decide +kernel, by decide +kernel⟩
theorem cw_J8_newLength_cabcc : CW yJ8_newLength_cabcc cJ8_newLength_cabcc 4 (Option.some Jvm.ClassFile.FieldType.int) := ⟨w_400, w_113, by decide +kernel, by decide +kernel⟩
theorem cw_J9_floorDiv_f86c9 : CW yJ9_floorDiv_f86c9 cJ9_floorDiv_f86c9 6 (Option.some Jvm.ClassFile.FieldType.long) := ⟨w_687, w_107, by decide +kernel, by decide +kernel⟩
theorem cw_J9_max_7cf53 : CW yJ9_max_7cf53 cJ9_max_7cf53 2 (Option.some Jvm.ClassFile.FieldType.int) := ⟨w_170, w_107, by decide +kernel, by decide +kernel⟩
theorem cw_J9_max_f86c9 : CW yJ9_max_f86c9 cJ9_max_f86c9 4 (Option.some Jvm.ClassFile.FieldType.long) := ⟨w_690, w_107, by decide +kernel, by decide +kernel⟩
theorem cw_J9_min_7cf53 : CW yJ9_min_7cf53 cJ9_min_7cf53 2 (Option.some Jvm.ClassFile.FieldType.int) := ⟨w_435, w_107, by decide +kernel, by decide +kernel⟩
theorem cw_J9_min_f86c9 : CW yJ9_min_f86c9 cJ9_min_f86c9 4 (Option.some Jvm.ClassFile.FieldType.long) := ⟨w_1140, w_107, by decide +kernel, by decide +kernel⟩
theorem cw_Jx4a65c_add_72be8 : CW yJx4a65c_add_72be8 cJx4a65c_add_72be8 4 (Option.none : Option Jvm.ClassFile.FieldType) := ⟨w_389, w_105, by decide +kernel, by decide +kernel⟩
theorem cw_Jx4a65c_add_7a177 : CW yJx4a65c_add_7a177 cJx4a65c_add_7a177 5 (Option.none : Option Jvm.ClassFile.FieldType) := ⟨w_658, w_105, by decide +kernel, by decide +kernel⟩
theorem cw_Jx4a65c_add_9ea2d : CW yJx4a65c_add_9ea2d cJx4a65c_add_9ea2d 2 (Option.some Jvm.ClassFile.FieldType.boolean) := ⟨w_385, w_105, by decide +kernel, by decide +kernel⟩
theorem cw_Jx4a65c_elementData_915e3 : CW yJx4a65c_elementData_915e3 cJx4a65c_elementData_915e3 2 (Option.some (Jvm.ClassFile.FieldType.object "java/lang/Object")) := ⟨w_462, w_105, by decide +kernel, by decide +kernel⟩
theorem cw_Jx4a65c_get_915e3 : CW yJx4a65c_get_915e3 cJx4a65c_get_915e3 2 (Option.some (Jvm.ClassFile.FieldType.object "java/lang/Object")) := ⟨w_452, w_105, by decide +kernel, by decide +kernel⟩
theorem cw_Jx4a65c_grow_92f84 : CW yJx4a65c_grow_92f84 cJx4a65c_grow_92f84 4 (Option.some (Jvm.ClassFile.FieldType.array (Jvm.ClassFile.FieldType.object "java/lang/Object"))) := ⟨w_397, w_105, by decide +kernel, by decide +kernel⟩
theorem cw_Jx4a65c_grow_d5877 : CW yJx4a65c_grow_d5877 cJx4a65c_grow_d5877 1 (Option.some (Jvm.ClassFile.FieldType.array (Jvm.ClassFile.FieldType.object "java/lang/Object"))) := ⟨w_393, w_105, by decide +kernel, by decide +kernel⟩
theorem cw_Jx4a65c_init_da8c8 : CW yJx4a65c_init_da8c8 cJx4a65c_init_da8c8 1 (Option.none : Option Jvm.ClassFile.FieldType) := ⟨w_140, w_105, by decide +kernel, by decide +kernel⟩
theorem cw_Jx4a65c_rangeCheckForAdd_d00df : CW yJx4a65c_rangeCheckForAdd_d00df cJx4a65c_rangeCheckForAdd_d00df 2 (Option.none : Option Jvm.ClassFile.FieldType) := ⟨w_662, w_105, by decide +kernel, by decide +kernel⟩
theorem cw_Jx4a65c_size_8abf5 : CW yJx4a65c_size_8abf5 cJx4a65c_size_8abf5 1 (Option.some Jvm.ClassFile.FieldType.int) := ⟨w_355, w_105, by decide +kernel, by decide +kernel⟩
theorem cw_Jxa1e45_init_da8c8 : CW yJxa1e45_init_da8c8 cJxa1e45_init_da8c8 1 (Option.none : Option Jvm.ClassFile.FieldType) := ⟨w_146, w_103, by decide +kernel, by decide +kernel⟩
theorem cw_Jxc12de_init_da8c8 : CW yJxc12de_init_da8c8 cJxc12de_init_da8c8 1 (Option.none : Option Jvm.ClassFile.FieldType) := ⟨w_143, w_104, by decide +kernel, by decide +kernel⟩
theorem cw_X0_askedSum : CW yX0_askedSum cX0_askedSum 7 (Option.some Jvm.ClassFile.FieldType.long) := ⟨w_680, w_119, by decide +kernel, by decide +kernel⟩
theorem cw_X0_grewOn : CW yX0_grewOn cX0_grewOn 4 (Option.some Jvm.ClassFile.FieldType.boolean) := ⟨w_671, w_119, by decide +kernel, by decide +kernel⟩
theorem cw_X0_init : CW yX0_init cX0_init 6 (Option.none : Option Jvm.ClassFile.FieldType) := ⟨w_554, w_119, by decide +kernel, by decide +kernel⟩
theorem cw_X0_isHeld : CW yX0_isHeld cX0_isHeld 1 (Option.some Jvm.ClassFile.FieldType.boolean) := ⟨w_965, w_119, by decide +kernel, by decide +kernel⟩
theorem cw_X0_lastStir : CW yX0_lastStir cX0_lastStir 7 (Option.some Jvm.ClassFile.FieldType.int) := ⟨w_956, w_119, by decide +kernel, by decide +kernel⟩
theorem cw_X0_tell : CW yX0_tell cX0_tell 3 (Option.none : Option Jvm.ClassFile.FieldType) := ⟨w_647, w_119, by decide +kernel, by decide +kernel⟩
theorem cw_X10_byteAt : CW yX10_byteAt cX10_byteAt 2 (Option.some Jvm.ClassFile.FieldType.int) := ⟨w_716, w_122, by decide +kernel, by decide +kernel⟩
theorem cw_X10_init : CW yX10_init cX10_init 4 (Option.none : Option Jvm.ClassFile.FieldType) := ⟨w_801, w_122, by decide +kernel, by decide +kernel⟩
theorem cw_X10_isBlank : CW yX10_isBlank cX10_isBlank 1 (Option.some Jvm.ClassFile.FieldType.boolean) := ⟨w_822, w_122, by decide +kernel, by decide +kernel⟩
theorem cw_X10_isDigit : CW yX10_isDigit cX10_isDigit 1 (Option.some Jvm.ClassFile.FieldType.boolean) := ⟨w_726, w_122, by decide +kernel, by decide +kernel⟩
theorem cw_X10_isLetter : CW yX10_isLetter cX10_isLetter 1 (Option.some Jvm.ClassFile.FieldType.boolean) := ⟨w_723, w_122, by decide +kernel, by decide +kernel⟩
theorem cw_X10_isSpelled : CW yX10_isSpelled cX10_isSpelled 5 (Option.some Jvm.ClassFile.FieldType.boolean) := ⟨w_752, w_122, by decide +kernel, by decide +kernel⟩
theorem cw_X10_keyword : CW yX10_keyword cX10_keyword 4 (Option.some Jvm.ClassFile.FieldType.int) := ⟨w_731, w_122, by decide +kernel, by decide +kernel⟩
theorem cw_X10_number : CW yX10_number cX10_number 5 (Option.some (Jvm.ClassFile.FieldType.object "SleepOffice$Token")) := ⟨w_819, w_122, by decide +kernel, by decide +kernel⟩
theorem cw_X10_signOf : CW yX10_signOf cX10_signOf 1 (Option.some Jvm.ClassFile.FieldType.int) := ⟨w_825, w_122, by decide +kernel, by decide +kernel⟩
theorem cw_X10_spelling : CW yX10_spelling cX10_spelling 1 (Option.some (Jvm.ClassFile.FieldType.object "java/lang/String")) := ⟨w_734, w_122, by decide +kernel, by decide +kernel⟩
theorem cw_X10_split : CW yX10_split cX10_split 6 (Option.some (Jvm.ClassFile.FieldType.object "java/util/ArrayList")) := ⟨w_711, w_122, by decide +kernel, by decide +kernel⟩
theorem cw_X10_wordEnd : CW yX10_wordEnd cX10_wordEnd 5 (Option.some Jvm.ClassFile.FieldType.int) := ⟨w_720, w_122, by decide +kernel, by decide +kernel⟩
theorem cw_X11_accountAt : CW yX11_accountAt cX11_accountAt 2 (Option.some (Jvm.ClassFile.FieldType.object "SleepOffice$Account")) := ⟨w_609, w_102, by decide +kernel, by decide +kernel⟩
theorem cw_X11_claimAt : CW yX11_claimAt cX11_claimAt 2 (Option.some (Jvm.ClassFile.FieldType.object "SleepOffice$Claim")) := ⟨w_1132, w_102, by decide +kernel, by decide +kernel⟩
theorem cw_X11_countHeirs : CW yX11_countHeirs cX11_countHeirs 4 (Option.some Jvm.ClassFile.FieldType.int) := ⟨w_1079, w_102, by decide +kernel, by decide +kernel⟩
theorem cw_X11_countHeld : CW yX11_countHeld cX11_countHeld 3 (Option.some Jvm.ClassFile.FieldType.int) := ⟨w_1287, w_102, by decide +kernel, by decide +kernel⟩
theorem cw_X11_countLines : CW yX11_countLines cX11_countLines 3 (Option.none : Option Jvm.ClassFile.FieldType) := ⟨w_533, w_102, by decide +kernel, by decide +kernel⟩
theorem cw_X11_firmAt : CW yX11_firmAt cX11_firmAt 2 (Option.some (Jvm.ClassFile.FieldType.object "SleepOffice$Firm")) := ⟨w_448, w_102, by decide +kernel, by decide +kernel⟩
theorem cw_X11_gather : CW yX11_gather cX11_gather 4 (Option.some Jvm.ClassFile.FieldType.boolean) := ⟨w_1014, w_102, by decide +kernel, by decide +kernel⟩
theorem cw_X11_hold : CW yX11_hold cX11_hold 2 (Option.none : Option Jvm.ClassFile.FieldType) := ⟨w_969, w_102, by decide +kernel, by decide +kernel⟩
theorem cw_X11_holderOn : CW yX11_holderOn cX11_holderOn 4 (Option.some (Jvm.ClassFile.FieldType.object "SleepOffice$Firm")) := ⟨w_481, w_102, by decide +kernel, by decide +kernel⟩
theorem cw_X11_interestOf : CW yX11_interestOf cX11_interestOf 5 (Option.some Jvm.ClassFile.FieldType.long) := ⟨w_977, w_102, by decide +kernel, by decide +kernel⟩
theorem cw_X11_isGood : CW yX11_isGood cX11_isGood 2 (Option.some Jvm.ClassFile.FieldType.boolean) := ⟨w_1177, w_102, by decide +kernel, by decide +kernel⟩
theorem cw_X11_isHome : CW yX11_isHome cX11_isHome 1 (Option.some Jvm.ClassFile.FieldType.boolean) := ⟨w_493, w_102, by decide +kernel, by decide +kernel⟩
theorem cw_X11_isPast : CW yX11_isPast cX11_isPast 2 (Option.some Jvm.ClassFile.FieldType.boolean) := ⟨w_466, w_102, by decide +kernel, by decide +kernel⟩
theorem cw_X11_isWithin : CW yX11_isWithin cX11_isWithin 2 (Option.some Jvm.ClassFile.FieldType.boolean) := ⟨w_351, w_102, by decide +kernel, by decide +kernel⟩
theorem cw_X11_lawOf : CW yX11_lawOf cX11_lawOf 2 (Option.some (Jvm.ClassFile.FieldType.object "SleepOffice$Law")) := ⟨w_932, w_102, by decide +kernel, by decide +kernel⟩
theorem cw_X11_owedOn : CW yX11_owedOn cX11_owedOn 3 (Option.some Jvm.ClassFile.FieldType.int) := ⟨w_948, w_102, by decide +kernel, by decide +kernel⟩
theorem cw_X11_paidOf : CW yX11_paidOf cX11_paidOf 6 (Option.some Jvm.ClassFile.FieldType.long) := ⟨w_983, w_102, by decide +kernel, by decide +kernel⟩
theorem cw_X11_partsFor : CW yX11_partsFor cX11_partsFor 5 (Option.some Jvm.ClassFile.FieldType.int) := ⟨w_1082, w_102, by decide +kernel, by decide +kernel⟩
theorem cw_X11_partsOf : CW yX11_partsOf cX11_partsOf 2 (Option.some Jvm.ClassFile.FieldType.int) := ⟨w_1180, w_102, by decide +kernel, by decide +kernel⟩
theorem cw_X11_personAt : CW yX11_personAt cX11_personAt 2 (Option.some (Jvm.ClassFile.FieldType.object "SleepOffice$Person")) := ⟨w_489, w_102, by decide +kernel, by decide +kernel⟩
theorem cw_X11_pointsAsked : CW yX11_pointsAsked cX11_pointsAsked 3 (Option.some Jvm.ClassFile.FieldType.int) := ⟨w_1136, w_102, by decide +kernel, by decide +kernel⟩
theorem cw_X11_putBytes : CW yX11_putBytes cX11_putBytes 3 (Option.none : Option Jvm.ClassFile.FieldType) := ⟨w_698, w_102, by decide +kernel, by decide +kernel⟩
theorem cw_X11_sleepDay : CW yX11_sleepDay cX11_sleepDay 4 (Option.some Jvm.ClassFile.FieldType.int) := ⟨w_952, w_102, by decide +kernel, by decide +kernel⟩
theorem cw_X11_spanEnd : CW yX11_spanEnd cX11_spanEnd 4 (Option.some Jvm.ClassFile.FieldType.int) := ⟨w_1214, w_102, by decide +kernel, by decide +kernel⟩
theorem cw_X11_sumHeld : CW yX11_sumHeld cX11_sumHeld 4 (Option.some Jvm.ClassFile.FieldType.long) := ⟨w_1291, w_102, by decide +kernel, by decide +kernel⟩
theorem cw_X11_sumPaid : CW yX11_sumPaid cX11_sumPaid 4 (Option.some Jvm.ClassFile.FieldType.long) := ⟨w_1295, w_102, by decide +kernel, by decide +kernel⟩
theorem cw_X11_takesEntry : CW yX11_takesEntry cX11_takesEntry 3 (Option.some Jvm.ClassFile.FieldType.boolean) := ⟨w_613, w_102, by decide +kernel, by decide +kernel⟩
theorem cw_X11_tookOneSince : CW yX11_tookOneSince cX11_tookOneSince 5 (Option.some Jvm.ClassFile.FieldType.boolean) := ⟨w_474, w_102, by decide +kernel, by decide +kernel⟩
theorem cw_X11_wasPaidBefore : CW yX11_wasPaidBefore cX11_wasPaidBefore 4 (Option.some Jvm.ClassFile.FieldType.boolean) := ⟨w_1188, w_102, by decide +kernel, by decide +kernel⟩
theorem cw_X12_aLine : CW yX12_aLine cX12_aLine 2 (Option.some Jvm.ClassFile.FieldType.boolean) := ⟨w_1697, w_111, by decide +kernel, by decide +kernel⟩
theorem cw_X12_aNumber : CW yX12_aNumber cX12_aNumber 2 (Option.some Jvm.ClassFile.FieldType.boolean) := ⟨w_1713, w_111, by decide +kernel, by decide +kernel⟩
theorem cw_X12_all : CW yX12_all cX12_all 1 (Option.some Jvm.ClassFile.FieldType.boolean) := ⟨w_1745, w_111, by decide +kernel, by decide +kernel⟩
theorem cw_X12_any : CW yX12_any cX12_any 1 (Option.some Jvm.ClassFile.FieldType.boolean) := ⟨w_1741, w_111, by decide +kernel, by decide +kernel⟩
theorem cw_X12_asked : CW yX12_asked cX12_asked 8 (Option.some Jvm.ClassFile.FieldType.int) := ⟨w_1875, w_111, by decide +kernel, by decide +kernel⟩
theorem cw_X12_bad : CW yX12_bad cX12_bad 2 (Option.some Jvm.ClassFile.FieldType.boolean) := ⟨w_1701, w_111, by decide +kernel, by decide +kernel⟩
theorem cw_X12_both : CW yX12_both cX12_both 3 (Option.some Jvm.ClassFile.FieldType.int) := ⟨w_1884, w_111, by decide +kernel, by decide +kernel⟩
theorem cw_X12_bound : CW yX12_bound cX12_bound 8 (Option.some Jvm.ClassFile.FieldType.int) := ⟨w_1914, w_111, by decide +kernel, by decide +kernel⟩
theorem cw_X12_clears : CW yX12_clears cX12_clears 3 (Option.none : Option Jvm.ClassFile.FieldType) := ⟨w_1305, w_111, by decide +kernel, by decide +kernel⟩
theorem cw_X12_comesTo : CW yX12_comesTo cX12_comesTo 8 (Option.some Jvm.ClassFile.FieldType.int) := ⟨w_1881, w_111, by decide +kernel, by decide +kernel⟩
theorem cw_X12_common : CW yX12_common cX12_common 10 (Option.some Jvm.ClassFile.FieldType.long) := ⟨w_1863, w_111, by decide +kernel, by decide +kernel⟩
theorem cw_X12_counts : CW yX12_counts cX12_counts 4 (Option.none : Option Jvm.ClassFile.FieldType) := ⟨w_1836, w_111, by decide +kernel, by decide +kernel⟩
theorem cw_X12_firmOf : CW yX12_firmOf cX12_firmOf 4 (Option.some Jvm.ClassFile.FieldType.int) := ⟨w_1588, w_111, by decide +kernel, by decide +kernel⟩
theorem cw_X12_heirsOf : CW yX12_heirsOf cX12_heirsOf 4 (Option.some Jvm.ClassFile.FieldType.int) := ⟨w_1848, w_111, by decide +kernel, by decide +kernel⟩
theorem cw_X12_inner : CW yX12_inner cX12_inner 2 (Option.some Jvm.ClassFile.FieldType.boolean) := ⟨w_1705, w_111, by decide +kernel, by decide +kernel⟩
theorem cw_X12_interest : CW yX12_interest cX12_interest 9 (Option.some Jvm.ClassFile.FieldType.long) := ⟨w_1790, w_111, by decide +kernel, by decide +kernel⟩
theorem cw_X12_is : CW yX12_is cX12_is 4 (Option.some Jvm.ClassFile.FieldType.boolean) := ⟨w_1675, w_111, by decide +kernel, by decide +kernel⟩
theorem cw_X12_isAccount : CW yX12_isAccount cX12_isAccount 2 (Option.some Jvm.ClassFile.FieldType.boolean) := ⟨w_1616, w_111, by decide +kernel, by decide +kernel⟩
theorem cw_X12_isBarred : CW yX12_isBarred cX12_isBarred 3 (Option.some Jvm.ClassFile.FieldType.boolean) := ⟨w_1804, w_111, by decide +kernel, by decide +kernel⟩
theorem cw_X12_isDigit : CW yX12_isDigit cX12_isDigit 1 (Option.some Jvm.ClassFile.FieldType.boolean) := ⟨w_1693, w_111, by decide +kernel, by decide +kernel⟩
theorem cw_X12_isFirm : CW yX12_isFirm cX12_isFirm 2 (Option.some Jvm.ClassFile.FieldType.boolean) := ⟨w_1572, w_111, by decide +kernel, by decide +kernel⟩
theorem cw_X12_isGood : CW yX12_isGood cX12_isGood 4 (Option.some Jvm.ClassFile.FieldType.boolean) := ⟨w_1888, w_111, by decide +kernel, by decide +kernel⟩
theorem cw_X12_isHeld : CW yX12_isHeld cX12_isHeld 2 (Option.some Jvm.ClassFile.FieldType.boolean) := ⟨w_1786, w_111, by decide +kernel, by decide +kernel⟩
theorem cw_X12_isIn : CW yX12_isIn cX12_isIn 3 (Option.some Jvm.ClassFile.FieldType.boolean) := ⟨w_1557, w_111, by decide +kernel, by decide +kernel⟩
theorem cw_X12_isLetter : CW yX12_isLetter cX12_isLetter 1 (Option.some Jvm.ClassFile.FieldType.boolean) := ⟨w_1666, w_111, by decide +kernel, by decide +kernel⟩
theorem cw_X12_isLike : CW yX12_isLike cX12_isLike 3 (Option.some Jvm.ClassFile.FieldType.boolean) := ⟨w_1816, w_111, by decide +kernel, by decide +kernel⟩
theorem cw_X12_isMerged : CW yX12_isMerged cX12_isMerged 3 (Option.some Jvm.ClassFile.FieldType.boolean) := ⟨w_1580, w_111, by decide +kernel, by decide +kernel⟩
theorem cw_X12_isPast : CW yX12_isPast cX12_isPast 2 (Option.some Jvm.ClassFile.FieldType.boolean) := ⟨w_1576, w_111, by decide +kernel, by decide +kernel⟩
theorem cw_X12_isPerson : CW yX12_isPerson cX12_isPerson 2 (Option.some Jvm.ClassFile.FieldType.boolean) := ⟨w_1596, w_111, by decide +kernel, by decide +kernel⟩
theorem cw_X12_isSet : CW yX12_isSet cX12_isSet 3 (Option.some Jvm.ClassFile.FieldType.boolean) := ⟨w_1824, w_111, by decide +kernel, by decide +kernel⟩
theorem cw_X12_isState : CW yX12_isState cX12_isState 1 (Option.some Jvm.ClassFile.FieldType.boolean) := ⟨w_1564, w_111, by decide +kernel, by decide +kernel⟩
theorem cw_X12_isUnlike : CW yX12_isUnlike cX12_isUnlike 3 (Option.some Jvm.ClassFile.FieldType.boolean) := ⟨w_1808, w_111, by decide +kernel, by decide +kernel⟩
theorem cw_X12_joinAll : CW yX12_joinAll cX12_joinAll 1 (Option.none : Option Jvm.ClassFile.FieldType) := ⟨w_1828, w_111, by decide +kernel, by decide +kernel⟩
theorem cw_X12_joins : CW yX12_joins cX12_joins 8 (Option.none : Option Jvm.ClassFile.FieldType) := ⟨w_1832, w_111, by decide +kernel, by decide +kernel⟩
theorem cw_X12_lay : CW yX12_lay cX12_lay 3 (Option.none : Option Jvm.ClassFile.FieldType) := ⟨w_1737, w_111, by decide +kernel, by decide +kernel⟩
theorem cw_X12_linesOf : CW yX12_linesOf cX12_linesOf 4 (Option.some Jvm.ClassFile.FieldType.int) := ⟨w_1856, w_111, by decide +kernel, by decide +kernel⟩
theorem cw_X12_need : CW yX12_need cX12_need 2 (Option.some Jvm.ClassFile.FieldType.boolean) := ⟨w_1733, w_111, by decide +kernel, by decide +kernel⟩
theorem cw_X12_next0 : CW yX12_next0 cX12_next0 3 (Option.none : Option Jvm.ClassFile.FieldType) := ⟨w_1659, w_111, by decide +kernel, by decide +kernel⟩
theorem cw_X12_nextDay : CW yX12_nextDay cX12_nextDay 6 (Option.some Jvm.ClassFile.FieldType.int) := ⟨w_1642, w_111, by decide +kernel, by decide +kernel⟩
theorem cw_X12_one : CW yX12_one cX12_one 2 (Option.some Jvm.ClassFile.FieldType.boolean) := ⟨w_1749, w_111, by decide +kernel, by decide +kernel⟩
theorem cw_X12_opens : CW yX12_opens cX12_opens 1 (Option.some Jvm.ClassFile.FieldType.boolean) := ⟨w_1729, w_111, by decide +kernel, by decide +kernel⟩
theorem cw_X12_owedTo : CW yX12_owedTo cX12_owedTo 3 (Option.some Jvm.ClassFile.FieldType.int) := ⟨w_1770, w_111, by decide +kernel, by decide +kernel⟩
theorem cw_X12_paidOf : CW yX12_paidOf cX12_paidOf 5 (Option.some Jvm.ClassFile.FieldType.long) := ⟨w_1796, w_111, by decide +kernel, by decide +kernel⟩
theorem cw_X12_pointsOf : CW yX12_pointsOf cX12_pointsOf 3 (Option.some Jvm.ClassFile.FieldType.int) := ⟨w_1812, w_111, by decide +kernel, by decide +kernel⟩
theorem cw_X12_product : CW yX12_product cX12_product 2 (Option.some Jvm.ClassFile.FieldType.boolean) := ⟨w_1721, w_111, by decide +kernel, by decide +kernel⟩
theorem cw_X12_see : CW yX12_see cX12_see 2 (Option.some Jvm.ClassFile.FieldType.int) := ⟨w_1663, w_111, by decide +kernel, by decide +kernel⟩
theorem cw_X12_shares : CW yX12_shares cX12_shares 5 (Option.none : Option Jvm.ClassFile.FieldType) := ⟨w_1852, w_111, by decide +kernel, by decide +kernel⟩
theorem cw_X12_sleepOf : CW yX12_sleepOf cX12_sleepOf 6 (Option.some Jvm.ClassFile.FieldType.int) := ⟨w_1774, w_111, by decide +kernel, by decide +kernel⟩
theorem cw_X12_sumNow : CW yX12_sumNow cX12_sumNow 6 (Option.some Jvm.ClassFile.FieldType.long) := ⟨w_1634, w_111, by decide +kernel, by decide +kernel⟩
theorem cw_X12_sumOf : CW yX12_sumOf cX12_sumOf 12 (Option.some Jvm.ClassFile.FieldType.long) := ⟨w_1638, w_111, by decide +kernel, by decide +kernel⟩
theorem cw_X12_sumUp : CW yX12_sumUp cX12_sumUp 2 (Option.some Jvm.ClassFile.FieldType.boolean) := ⟨w_1717, w_111, by decide +kernel, by decide +kernel⟩
theorem cw_X12_takes : CW yX12_takes cX12_takes 3 (Option.none : Option Jvm.ClassFile.FieldType) := ⟨w_1753, w_111, by decide +kernel, by decide +kernel⟩
theorem cw_X12_tells : CW yX12_tells cX12_tells 6 (Option.none : Option Jvm.ClassFile.FieldType) := ⟨w_1622, w_111, by decide +kernel, by decide +kernel⟩
theorem cw_X12_two : CW yX12_two cX12_two 4 (Option.some Jvm.ClassFile.FieldType.boolean) := ⟨w_1709, w_111, by decide +kernel, by decide +kernel⟩
theorem cw_X12_unit : CW yX12_unit cX12_unit 1 (Option.some Jvm.ClassFile.FieldType.boolean) := ⟨w_1725, w_111, by decide +kernel, by decide +kernel⟩
theorem cw_X12_word : CW yX12_word cX12_word 1 (Option.some Jvm.ClassFile.FieldType.int) := ⟨w_1670, w_111, by decide +kernel, by decide +kernel⟩
theorem cw_X1_addGap : CW yX1_addGap cX1_addGap 6 (Option.none : Option Jvm.ClassFile.FieldType) := ⟨w_1250, w_110, by decide +kernel, by decide +kernel⟩
theorem cw_X1_choose : CW yX1_choose cX1_choose 7 (Option.none : Option Jvm.ClassFile.FieldType) := ⟨w_1240, w_110, by decide +kernel, by decide +kernel⟩
theorem cw_X1_chosenCost : CW yX1_chosenCost cX1_chosenCost 1 (Option.some Jvm.ClassFile.FieldType.int) := ⟨w_1279, w_110, by decide +kernel, by decide +kernel⟩
theorem cw_X1_chosenGain : CW yX1_chosenGain cX1_chosenGain 1 (Option.some Jvm.ClassFile.FieldType.int) := ⟨w_1272, w_110, by decide +kernel, by decide +kernel⟩
theorem cw_X1_chosenSet : CW yX1_chosenSet cX1_chosenSet 1 (Option.some Jvm.ClassFile.FieldType.int) := ⟨w_1264, w_110, by decide +kernel, by decide +kernel⟩
theorem cw_X1_closeRun : CW yX1_closeRun cX1_closeRun 3 (Option.none : Option Jvm.ClassFile.FieldType) := ⟨w_1255, w_110, by decide +kernel, by decide +kernel⟩
theorem cw_X1_init : CW yX1_init cX1_init 1 (Option.none : Option Jvm.ClassFile.FieldType) := ⟨w_273, w_110, by decide +kernel, by decide +kernel⟩
theorem cw_X1_search : CW yX1_search cX1_search 6 (Option.none : Option Jvm.ClassFile.FieldType) := ⟨w_1259, w_110, by decide +kernel, by decide +kernel⟩
theorem cw_X1_takenOff : CW yX1_takenOff cX1_takenOff 1 (Option.some Jvm.ClassFile.FieldType.long) := ⟨w_1268, w_110, by decide +kernel, by decide +kernel⟩
theorem cw_X2_init : CW yX2_init cX2_init 5 (Option.none : Option Jvm.ClassFile.FieldType) := ⟨w_1094, w_127, by decide +kernel, by decide +kernel⟩
theorem cw_X3_changed : CW yX3_changed cX3_changed 3 (Option.some Jvm.ClassFile.FieldType.long) := ⟨w_684, w_120, by decide +kernel, by decide +kernel⟩
theorem cw_X3_comesAhead : CW yX3_comesAhead cX3_comesAhead 2 (Option.some Jvm.ClassFile.FieldType.boolean) := ⟨w_654, w_120, by decide +kernel, by decide +kernel⟩
theorem cw_X3_init : CW yX3_init cX3_init 7 (Option.none : Option Jvm.ClassFile.FieldType) := ⟨w_620, w_120, by decide +kernel, by decide +kernel⟩
theorem cw_X4_figureAhead : CW yX4_figureAhead cX4_figureAhead 3 (Option.some Jvm.ClassFile.FieldType.int) := ⟨w_1222, w_112, by decide +kernel, by decide +kernel⟩
theorem cw_X4_figureBehind : CW yX4_figureBehind cX4_figureBehind 3 (Option.some Jvm.ClassFile.FieldType.int) := ⟨w_1226, w_112, by decide +kernel, by decide +kernel⟩
theorem cw_X4_greatestIn : CW yX4_greatestIn cX4_greatestIn 2 (Option.some Jvm.ClassFile.FieldType.int) := ⟨w_1218, w_112, by decide +kernel, by decide +kernel⟩
theorem cw_X4_init : CW yX4_init cX4_init 4 (Option.none : Option Jvm.ClassFile.FieldType) := ⟨w_360, w_112, by decide +kernel, by decide +kernel⟩
theorem cw_X4_isGap : CW yX4_isGap cX4_isGap 2 (Option.some Jvm.ClassFile.FieldType.boolean) := ⟨w_1244, w_112, by decide +kernel, by decide +kernel⟩
theorem cw_X4_isMergedBy : CW yX4_isMergedBy cX4_isMergedBy 2 (Option.some Jvm.ClassFile.FieldType.boolean) := ⟨w_470, w_112, by decide +kernel, by decide +kernel⟩
theorem cw_X4_leastIn : CW yX4_leastIn cX4_leastIn 4 (Option.some Jvm.ClassFile.FieldType.int) := ⟨w_1231, w_112, by decide +kernel, by decide +kernel⟩
theorem cw_X4_setFigure : CW yX4_setFigure cX4_setFigure 3 (Option.some Jvm.ClassFile.FieldType.boolean) := ⟨w_1202, w_112, by decide +kernel, by decide +kernel⟩
theorem cw_X5_clear : CW yX5_clear cX5_clear 1 (Option.none : Option Jvm.ClassFile.FieldType) := ⟨w_1018, w_109, by decide +kernel, by decide +kernel⟩
theorem cw_X5_countBest : CW yX5_countBest cX5_countBest 1 (Option.some Jvm.ClassFile.FieldType.int) := ⟨w_1053, w_109, by decide +kernel, by decide +kernel⟩
theorem cw_X5_countBestWith : CW yX5_countBestWith cX5_countBestWith 7 (Option.some Jvm.ClassFile.FieldType.int) := ⟨w_1071, w_109, by decide +kernel, by decide +kernel⟩
theorem cw_X5_everybody : CW yX5_everybody cX5_everybody 1 (Option.some Jvm.ClassFile.FieldType.int) := ⟨w_1031, w_109, by decide +kernel, by decide +kernel⟩
theorem cw_X5_greatestWorth : CW yX5_greatestWorth cX5_greatestWorth 1 (Option.some Jvm.ClassFile.FieldType.int) := ⟨w_1049, w_109, by decide +kernel, by decide +kernel⟩
theorem cw_X5_init : CW yX5_init cX5_init 1 (Option.none : Option Jvm.ClassFile.FieldType) := ⟨w_249, w_109, by decide +kernel, by decide +kernel⟩
theorem cw_X5_pairWorth : CW yX5_pairWorth cX5_pairWorth 5 (Option.some Jvm.ClassFile.FieldType.int) := ⟨w_1039, w_109, by decide +kernel, by decide +kernel⟩
theorem cw_X5_part : CW yX5_part cX5_part 11 (Option.none : Option Jvm.ClassFile.FieldType) := ⟨w_1045, w_109, by decide +kernel, by decide +kernel⟩
theorem cw_X5_reckon : CW yX5_reckon cX5_reckon 2 (Option.none : Option Jvm.ClassFile.FieldType) := ⟨w_1027, w_109, by decide +kernel, by decide +kernel⟩
theorem cw_X5_seat : CW yX5_seat cX5_seat 2 (Option.some Jvm.ClassFile.FieldType.boolean) := ⟨w_1022, w_109, by decide +kernel, by decide +kernel⟩
theorem cw_X5_seatBit : CW yX5_seatBit cX5_seatBit 3 (Option.some Jvm.ClassFile.FieldType.int) := ⟨w_1061, w_109, by decide +kernel, by decide +kernel⟩
theorem cw_X5_worthOf : CW yX5_worthOf cX5_worthOf 7 (Option.some Jvm.ClassFile.FieldType.int) := ⟨w_1035, w_109, by decide +kernel, by decide +kernel⟩
theorem cw_X6_addCode : CW yX6_addCode cX6_addCode 2 (Option.none : Option Jvm.ClassFile.FieldType) := ⟨w_890, w_106, by decide +kernel, by decide +kernel⟩
theorem cw_X6_codeAt : CW yX6_codeAt cX6_codeAt 2 (Option.some Jvm.ClassFile.FieldType.int) := ⟨w_1152, w_106, by decide +kernel, by decide +kernel⟩
theorem cw_X6_codeLength : CW yX6_codeLength cX6_codeLength 1 (Option.some Jvm.ClassFile.FieldType.int) := ⟨w_1148, w_106, by decide +kernel, by decide +kernel⟩
theorem cw_X6_init : CW yX6_init cX6_init 2 (Option.none : Option Jvm.ClassFile.FieldType) := ⟨w_166, w_106, by decide +kernel, by decide +kernel⟩
theorem cw_X6_setSleep : CW yX6_setSleep cX6_setSleep 3 (Option.none : Option Jvm.ClassFile.FieldType) := ⟨w_916, w_106, by decide +kernel, by decide +kernel⟩
theorem cw_X6_sortsThatCount : CW yX6_sortsThatCount cX6_sortsThatCount 1 (Option.some Jvm.ClassFile.FieldType.int) := ⟨w_940, w_106, by decide +kernel, by decide +kernel⟩
theorem cw_X6_yearsOfSleep : CW yX6_yearsOfSleep cX6_yearsOfSleep 2 (Option.some Jvm.ClassFile.FieldType.int) := ⟨w_936, w_106, by decide +kernel, by decide +kernel⟩
theorem cw_X7_advance : CW yX7_advance cX7_advance 2 (Option.none : Option Jvm.ClassFile.FieldType) := ⟨w_872, w_121, by decide +kernel, by decide +kernel⟩
theorem cw_X7_closeLine : CW yX7_closeLine cX7_closeLine 1 (Option.none : Option Jvm.ClassFile.FieldType) := ⟨w_920, w_121, by decide +kernel, by decide +kernel⟩
theorem cw_X7_init : CW yX7_init cX7_init 2 (Option.none : Option Jvm.ClassFile.FieldType) := ⟨w_829, w_121, by decide +kernel, by decide +kernel⟩
theorem cw_X7_opens : CW yX7_opens cX7_opens 1 (Option.some Jvm.ClassFile.FieldType.boolean) := ⟨w_895, w_121, by decide +kernel, by decide +kernel⟩
theorem cw_X7_readCondition : CW yX7_readCondition cX7_readCondition 4 (Option.none : Option Jvm.ClassFile.FieldType) := ⟨w_904, w_121, by decide +kernel, by decide +kernel⟩
theorem cw_X7_readLines : CW yX7_readLines cX7_readLines 3 (Option.none : Option Jvm.ClassFile.FieldType) := ⟨w_868, w_121, by decide +kernel, by decide +kernel⟩
theorem cw_X7_readNumbers : CW yX7_readNumbers cX7_readNumbers 3 (Option.none : Option Jvm.ClassFile.FieldType) := ⟨w_912, w_121, by decide +kernel, by decide +kernel⟩
theorem cw_X7_readTerms : CW yX7_readTerms cX7_readTerms 5 (Option.none : Option Jvm.ClassFile.FieldType) := ⟨w_882, w_121, by decide +kernel, by decide +kernel⟩
theorem cw_X7_readTest : CW yX7_readTest cX7_readTest 3 (Option.none : Option Jvm.ClassFile.FieldType) := ⟨w_908, w_121, by decide +kernel, by decide +kernel⟩
theorem cw_X7_readUnit : CW yX7_readUnit cX7_readUnit 1 (Option.none : Option Jvm.ClassFile.FieldType) := ⟨w_886, w_121, by decide +kernel, by decide +kernel⟩
theorem cw_X7_refuse : CW yX7_refuse cX7_refuse 2 (Option.none : Option Jvm.ClassFile.FieldType) := ⟨w_878, w_121, by decide +kernel, by decide +kernel⟩
theorem cw_X7_takeNumber : CW yX7_takeNumber cX7_takeNumber 4 (Option.some Jvm.ClassFile.FieldType.int) := ⟨w_900, w_121, by decide +kernel, by decide +kernel⟩
theorem cw_X8_diedAheadOf : CW yX8_diedAheadOf cX8_diedAheadOf 2 (Option.some Jvm.ClassFile.FieldType.boolean) := ⟨w_999, w_118, by decide +kernel, by decide +kernel⟩
theorem cw_X8_init : CW yX8_init cX8_init 6 (Option.none : Option Jvm.ClassFile.FieldType) := ⟨w_497, w_118, by decide +kernel, by decide +kernel⟩
theorem cw_X8_isBarredFrom : CW yX8_isBarredFrom cX8_isBarredFrom 2 (Option.some Jvm.ClassFile.FieldType.boolean) := ⟨w_992, w_118, by decide +kernel, by decide +kernel⟩
theorem cw_X8_isKnownAlike : CW yX8_isKnownAlike cX8_isKnownAlike 2 (Option.some Jvm.ClassFile.FieldType.boolean) := ⟨w_1006, w_118, by decide +kernel, by decide +kernel⟩
theorem cw_X8_isKnownUnlike : CW yX8_isKnownUnlike cX8_isKnownUnlike 2 (Option.some Jvm.ClassFile.FieldType.boolean) := ⟨w_995, w_118, by decide +kernel, by decide +kernel⟩
theorem cw_X8_lives : CW yX8_lives cX8_lives 1 (Option.some Jvm.ClassFile.FieldType.boolean) := ⟨w_537, w_118, by decide +kernel, by decide +kernel⟩
theorem cw_X8_pointsWith : CW yX8_pointsWith cX8_pointsWith 3 (Option.some Jvm.ClassFile.FieldType.int) := ⟨w_1003, w_118, by decide +kernel, by decide +kernel⟩
theorem cw_X9_combined : CW yX9_combined cX9_combined 3 (Option.some Jvm.ClassFile.FieldType.int) := ⟨w_1173, w_108, by decide +kernel, by decide +kernel⟩
theorem cw_X9_endLine : CW yX9_endLine cX9_endLine 4 (Option.none : Option Jvm.ClassFile.FieldType) := ⟨w_1161, w_108, by decide +kernel, by decide +kernel⟩
theorem cw_X9_greatest : CW yX9_greatest cX9_greatest 6 (Option.some Jvm.ClassFile.FieldType.int) := ⟨w_1144, w_108, by decide +kernel, by decide +kernel⟩
theorem cw_X9_init : CW yX9_init cX9_init 1 (Option.none : Option Jvm.ClassFile.FieldType) := ⟨w_217, w_108, by decide +kernel, by decide +kernel⟩
theorem cw_X9_named : CW yX9_named cX9_named 2 (Option.some Jvm.ClassFile.FieldType.int) := ⟨w_1170, w_108, by decide +kernel, by decide +kernel⟩
theorem cw_X9_pop : CW yX9_pop cX9_pop 1 (Option.some Jvm.ClassFile.FieldType.int) := ⟨w_1165, w_108, by decide +kernel, by decide +kernel⟩
theorem cw_X9_push : CW yX9_push cX9_push 2 (Option.none : Option Jvm.ClassFile.FieldType) := ⟨w_1156, w_108, by decide +kernel, by decide +kernel⟩
