/-! THE TABLES' WORDS that calls and fields use -/
def zchk (v : Int32) : Option Int32 := if v = 0 ∨ v = 1 then some v else none
theorem zchk_n {v z : Int32} (h : zchk v = some z) : z = v ∧ narrow .boolean (.int z) = .int z := by
  unfold zchk at h
  by_cases q : v = 0 ∨ v = 1
  · rw [if_pos q] at h
    cases h
    refine ⟨rfl, ?_⟩
    rcases q with rfl | rfl <;> rfl
  · rw [if_neg q] at h; cases h
theorem rcv_n {S : St} {r : Option Nat} {ci b : Nat} (h : rcv S r ci = some b) : r = some b ∧ kd S b = ci := by
  cases r with
  | none => cases h
  | some a =>
    unfold rcv at h
    by_cases q : kd S a = ci
    · simp only [if_pos q] at h
      cases h
      exact ⟨rfl, q⟩
    · simp only [if_neg q] at h; cases h
theorem lay_0 : ∀ w ∈ u_ws RJx4a65c TJx4a65c 3, w ∈ gw := by
  have h : (u_ws RJx4a65c TJx4a65c 3).all (fun w => decide (w ∈ lw_tbl) && goodWord w) = true := by decide +kernel
  intro w hw
  have h1 := List.all_eq_true.mp h w hw
  simp only [Bool.and_eq_true, decide_eq_true_eq] at h1
  exact List.mem_filter.mpr h1
theorem tyo_0 : ∀ j, j < 3 → parseFieldDescriptor (TJx4a65c j).2.2.1 = some (fty 0 j) := tyJx4a65c_ok
theorem dfo_0 : ∀ k, k < 3 → defaultValue (fty 0 k) = dfl (fty 0 k) := by decide +kernel
theorem lay_1 : ∀ w ∈ u_ws RX0 TX0 11, w ∈ gw := by
  have h : (u_ws RX0 TX0 11).all (fun w => decide (w ∈ lw_tbl) && goodWord w) = true := by decide +kernel
  intro w hw
  have h1 := List.all_eq_true.mp h w hw
  simp only [Bool.and_eq_true, decide_eq_true_eq] at h1
  exact List.mem_filter.mpr h1
theorem tyo_1 : ∀ j, j < 11 → parseFieldDescriptor (TX0 j).2.2.1 = some (fty 1 j) := tyX0_ok
theorem dfo_1 : ∀ k, k < 11 → defaultValue (fty 1 k) = dfl (fty 1 k) := by decide +kernel
theorem lay_2 : ∀ w ∈ u_ws RX1 TX1 5, w ∈ gw := by
  have h : (u_ws RX1 TX1 5).all (fun w => decide (w ∈ lw_tbl) && goodWord w) = true := by decide +kernel
  intro w hw
  have h1 := List.all_eq_true.mp h w hw
  simp only [Bool.and_eq_true, decide_eq_true_eq] at h1
  exact List.mem_filter.mpr h1
theorem tyo_2 : ∀ j, j < 5 → parseFieldDescriptor (TX1 j).2.2.1 = some (fty 2 j) := tyX1_ok
theorem dfo_2 : ∀ k, k < 5 → defaultValue (fty 2 k) = dfl (fty 2 k) := by decide +kernel
theorem lay_3 : ∀ w ∈ u_ws RX2 TX2 7, w ∈ gw := by
  have h : (u_ws RX2 TX2 7).all (fun w => decide (w ∈ lw_tbl) && goodWord w) = true := by decide +kernel
  intro w hw
  have h1 := List.all_eq_true.mp h w hw
  simp only [Bool.and_eq_true, decide_eq_true_eq] at h1
  exact List.mem_filter.mpr h1
theorem tyo_3 : ∀ j, j < 7 → parseFieldDescriptor (TX2 j).2.2.1 = some (fty 3 j) := tyX2_ok
theorem dfo_3 : ∀ k, k < 7 → defaultValue (fty 3 k) = dfl (fty 3 k) := by decide +kernel
theorem lay_4 : ∀ w ∈ u_ws RX3 TX3 6, w ∈ gw := by
  have h : (u_ws RX3 TX3 6).all (fun w => decide (w ∈ lw_tbl) && goodWord w) = true := by decide +kernel
  intro w hw
  have h1 := List.all_eq_true.mp h w hw
  simp only [Bool.and_eq_true, decide_eq_true_eq] at h1
  exact List.mem_filter.mpr h1
theorem tyo_4 : ∀ j, j < 6 → parseFieldDescriptor (TX3 j).2.2.1 = some (fty 4 j) := tyX3_ok
theorem dfo_4 : ∀ k, k < 6 → defaultValue (fty 4 k) = dfl (fty 4 k) := by decide +kernel
theorem lay_5 : ∀ w ∈ u_ws RX4 TX4 5, w ∈ gw := by
  have h : (u_ws RX4 TX4 5).all (fun w => decide (w ∈ lw_tbl) && goodWord w) = true := by decide +kernel
  intro w hw
  have h1 := List.all_eq_true.mp h w hw
  simp only [Bool.and_eq_true, decide_eq_true_eq] at h1
  exact List.mem_filter.mpr h1
theorem tyo_5 : ∀ j, j < 5 → parseFieldDescriptor (TX4 j).2.2.1 = some (fty 5 j) := tyX4_ok
theorem dfo_5 : ∀ k, k < 5 → defaultValue (fty 5 k) = dfl (fty 5 k) := by decide +kernel
theorem lay_6 : ∀ w ∈ u_ws RX5 TX5 5, w ∈ gw := by
  have h : (u_ws RX5 TX5 5).all (fun w => decide (w ∈ lw_tbl) && goodWord w) = true := by decide +kernel
  intro w hw
  have h1 := List.all_eq_true.mp h w hw
  simp only [Bool.and_eq_true, decide_eq_true_eq] at h1
  exact List.mem_filter.mpr h1
theorem tyo_6 : ∀ j, j < 5 → parseFieldDescriptor (TX5 j).2.2.1 = some (fty 6 j) := tyX5_ok
theorem dfo_6 : ∀ k, k < 5 → defaultValue (fty 6 k) = dfl (fty 6 k) := by decide +kernel
theorem lay_7 : ∀ w ∈ u_ws RX6 TX6 9, w ∈ gw := by
  have h : (u_ws RX6 TX6 9).all (fun w => decide (w ∈ lw_tbl) && goodWord w) = true := by decide +kernel
  intro w hw
  have h1 := List.all_eq_true.mp h w hw
  simp only [Bool.and_eq_true, decide_eq_true_eq] at h1
  exact List.mem_filter.mpr h1
theorem tyo_7 : ∀ j, j < 9 → parseFieldDescriptor (TX6 j).2.2.1 = some (fty 7 j) := tyX6_ok
theorem dfo_7 : ∀ k, k < 9 → defaultValue (fty 7 k) = dfl (fty 7 k) := by decide +kernel
theorem lay_8 : ∀ w ∈ u_ws RX7 TX7 9, w ∈ gw := by
  have h : (u_ws RX7 TX7 9).all (fun w => decide (w ∈ lw_tbl) && goodWord w) = true := by decide +kernel
  intro w hw
  have h1 := List.all_eq_true.mp h w hw
  simp only [Bool.and_eq_true, decide_eq_true_eq] at h1
  exact List.mem_filter.mpr h1
theorem tyo_8 : ∀ j, j < 9 → parseFieldDescriptor (TX7 j).2.2.1 = some (fty 8 j) := tyX7_ok
theorem dfo_8 : ∀ k, k < 9 → defaultValue (fty 8 k) = dfl (fty 8 k) := by decide +kernel
theorem lay_9 : ∀ w ∈ u_ws RX8 TX8 8, w ∈ gw := by
  have h : (u_ws RX8 TX8 8).all (fun w => decide (w ∈ lw_tbl) && goodWord w) = true := by decide +kernel
  intro w hw
  have h1 := List.all_eq_true.mp h w hw
  simp only [Bool.and_eq_true, decide_eq_true_eq] at h1
  exact List.mem_filter.mpr h1
theorem tyo_9 : ∀ j, j < 8 → parseFieldDescriptor (TX8 j).2.2.1 = some (fty 9 j) := tyX8_ok
theorem dfo_9 : ∀ k, k < 8 → defaultValue (fty 9 k) = dfl (fty 9 k) := by decide +kernel
theorem lay_10 : ∀ w ∈ u_ws RX9 TX9 7, w ∈ gw := by
  have h : (u_ws RX9 TX9 7).all (fun w => decide (w ∈ lw_tbl) && goodWord w) = true := by decide +kernel
  intro w hw
  have h1 := List.all_eq_true.mp h w hw
  simp only [Bool.and_eq_true, decide_eq_true_eq] at h1
  exact List.mem_filter.mpr h1
theorem tyo_10 : ∀ j, j < 7 → parseFieldDescriptor (TX9 j).2.2.1 = some (fty 10 j) := tyX9_ok
theorem dfo_10 : ∀ k, k < 7 → defaultValue (fty 10 k) = dfl (fty 10 k) := by decide +kernel
theorem lay_11 : ∀ w ∈ u_ws RX10 TX10 3, w ∈ gw := by
  have h : (u_ws RX10 TX10 3).all (fun w => decide (w ∈ lw_tbl) && goodWord w) = true := by decide +kernel
  intro w hw
  have h1 := List.all_eq_true.mp h w hw
  simp only [Bool.and_eq_true, decide_eq_true_eq] at h1
  exact List.mem_filter.mpr h1
theorem tyo_11 : ∀ j, j < 3 → parseFieldDescriptor (TX10 j).2.2.1 = some (fty 11 j) := tyX10_ok
theorem dfo_11 : ∀ k, k < 3 → defaultValue (fty 11 k) = dfl (fty 11 k) := by decide +kernel
theorem lay_12 : ∀ w ∈ u_ws RX11 TX11 16, w ∈ gw := by
  have h : (u_ws RX11 TX11 16).all (fun w => decide (w ∈ lw_tbl) && goodWord w) = true := by decide +kernel
  intro w hw
  have h1 := List.all_eq_true.mp h w hw
  simp only [Bool.and_eq_true, decide_eq_true_eq] at h1
  exact List.mem_filter.mpr h1
theorem tyo_12 : ∀ j, j < 16 → parseFieldDescriptor (TX11 j).2.2.1 = some (fty 12 j) := tyX11_ok
theorem dfo_12 : ∀ k, k < 16 → defaultValue (fty 12 k) = dfl (fty 12 k) := by decide +kernel
theorem lay_13 : ∀ w ∈ u_ws RX12 TX12 81, w ∈ gw := by
  have h : (u_ws RX12 TX12 81).all (fun w => decide (w ∈ lw_tbl) && goodWord w) = true := by decide +kernel
  intro w hw
  have h1 := List.all_eq_true.mp h w hw
  simp only [Bool.and_eq_true, decide_eq_true_eq] at h1
  exact List.mem_filter.mpr h1
theorem tyo_13 : ∀ j, j < 81 → parseFieldDescriptor (TX12 j).2.2.1 = some (fty 13 j) := tyX12_ok
theorem dfo_13 : ∀ k, k < 81 → defaultValue (fty 13 k) = dfl (fty 13 k) := by decide +kernel
theorem w_0 : Cond.selects RJx4a65c yJx4a65c_add_72be8 yJx4a65c_add_72be8 ∈ gw := gw_mem 0 (by decide +kernel) rfl
theorem w_1 : Cond.selects RJx4a65c yJx4a65c_grow_d5877 yJx4a65c_grow_d5877 ∈ gw := gw_mem 1 (by decide +kernel) rfl
theorem w_2 : Cond.selects RJx4a65c yJx4a65c_grow_92f84 yJx4a65c_grow_92f84 ∈ gw := gw_mem 2 (by decide +kernel) rfl
theorem w_3 : Cond.selects RX11 yX11_firmAt yX11_firmAt ∈ gw := gw_mem 3 (by decide +kernel) rfl
theorem w_4 : Cond.selects RX11 yX11_isPast yX11_isPast ∈ gw := gw_mem 4 (by decide +kernel) rfl
theorem w_5 : Cond.selects RX11 yX11_tookOneSince yX11_tookOneSince ∈ gw := gw_mem 5 (by decide +kernel) rfl
theorem w_6 : Cond.selects RX11 yX11_personAt yX11_personAt ∈ gw := gw_mem 6 (by decide +kernel) rfl
theorem w_7 : Cond.selects RX11 yX11_countLines yX11_countLines ∈ gw := gw_mem 7 (by decide +kernel) rfl
theorem w_8 : Cond.selects RX11 yX11_accountAt yX11_accountAt ∈ gw := gw_mem 8 (by decide +kernel) rfl
theorem w_9 : Cond.selects RX11 yX11_takesEntry yX11_takesEntry ∈ gw := gw_mem 9 (by decide +kernel) rfl
theorem w_10 : Cond.selects RJx4a65c yJx4a65c_rangeCheckForAdd_d00df yJx4a65c_rangeCheckForAdd_d00df ∈ gw := gw_mem 10 (by decide +kernel) rfl
theorem w_11 : Cond.selects RX11 yX11_putBytes yX11_putBytes ∈ gw := gw_mem 11 (by decide +kernel) rfl
theorem w_12 : Cond.selects RX7 yX7_advance yX7_advance ∈ gw := gw_mem 12 (by decide +kernel) rfl
theorem w_13 : Cond.selects RX7 yX7_refuse yX7_refuse ∈ gw := gw_mem 13 (by decide +kernel) rfl
theorem w_14 : Cond.selects RX7 yX7_readLine yX7_readLine ∈ gw := gw_mem 14 (by decide +kernel) rfl
theorem w_15 : Cond.selects RX7 yX7_takeNumber yX7_takeNumber ∈ gw := gw_mem 15 (by decide +kernel) rfl
theorem w_16 : Cond.selects RX7 yX7_readProof yX7_readProof ∈ gw := gw_mem 16 (by decide +kernel) rfl
theorem w_17 : Cond.selects RX7 yX7_readTerms yX7_readTerms ∈ gw := gw_mem 17 (by decide +kernel) rfl
theorem w_18 : Cond.selects RX7 yX7_readFactors yX7_readFactors ∈ gw := gw_mem 18 (by decide +kernel) rfl
theorem w_19 : Cond.selects RX7 yX7_readUnit yX7_readUnit ∈ gw := gw_mem 19 (by decide +kernel) rfl
theorem w_20 : Cond.selects RX7 yX7_opens yX7_opens ∈ gw := gw_mem 20 (by decide +kernel) rfl
theorem w_21 : Cond.selects RX7 yX7_take yX7_take ∈ gw := gw_mem 21 (by decide +kernel) rfl
theorem w_22 : Cond.selects RX7 yX7_readTests yX7_readTests ∈ gw := gw_mem 22 (by decide +kernel) rfl
theorem w_23 : Cond.selects RX7 yX7_readTest yX7_readTest ∈ gw := gw_mem 23 (by decide +kernel) rfl
theorem w_24 : Cond.selects RX11 yX11_lawOf yX11_lawOf ∈ gw := gw_mem 24 (by decide +kernel) rfl
theorem w_25 : Cond.selects RX11 yX11_sleepDay yX11_sleepDay ∈ gw := gw_mem 25 (by decide +kernel) rfl
theorem w_26 : Cond.selects RX11 yX11_hold yX11_hold ∈ gw := gw_mem 26 (by decide +kernel) rfl
theorem w_27 : Cond.selects RX11 yX11_interestOf yX11_interestOf ∈ gw := gw_mem 27 (by decide +kernel) rfl
theorem w_28 : Cond.selects RX11 yX11_paidOf yX11_paidOf ∈ gw := gw_mem 28 (by decide +kernel) rfl
theorem w_29 : Cond.selects RX8 yX8_diedAheadOf yX8_diedAheadOf ∈ gw := gw_mem 29 (by decide +kernel) rfl
theorem w_30 : Cond.selects RX11 yX11_gather yX11_gather ∈ gw := gw_mem 30 (by decide +kernel) rfl
theorem w_31 : Cond.selects RX5 yX5_everybody yX5_everybody ∈ gw := gw_mem 31 (by decide +kernel) rfl
theorem w_32 : Cond.selects RX5 yX5_worthOf yX5_worthOf ∈ gw := gw_mem 32 (by decide +kernel) rfl
theorem w_33 : Cond.selects RX5 yX5_pairWorth yX5_pairWorth ∈ gw := gw_mem 33 (by decide +kernel) rfl
theorem w_34 : Cond.selects RX5 yX5_part yX5_part ∈ gw := gw_mem 34 (by decide +kernel) rfl
theorem w_35 : Cond.selects RX11 yX11_countHeirs yX11_countHeirs ∈ gw := gw_mem 35 (by decide +kernel) rfl
theorem w_36 : Cond.selects RX11 yX11_claimAt yX11_claimAt ∈ gw := gw_mem 36 (by decide +kernel) rfl
theorem w_37 : Cond.selects RX11 yX11_pointsAsked yX11_pointsAsked ∈ gw := gw_mem 37 (by decide +kernel) rfl
theorem w_38 : Cond.selects RX9 yX9_push yX9_push ∈ gw := gw_mem 38 (by decide +kernel) rfl
theorem w_39 : Cond.selects RX9 yX9_endLine yX9_endLine ∈ gw := gw_mem 39 (by decide +kernel) rfl
theorem w_40 : Cond.selects RX9 yX9_pop yX9_pop ∈ gw := gw_mem 40 (by decide +kernel) rfl
theorem w_41 : Cond.selects RX9 yX9_named yX9_named ∈ gw := gw_mem 41 (by decide +kernel) rfl
theorem w_42 : Cond.selects RX11 yX11_isGood yX11_isGood ∈ gw := gw_mem 42 (by decide +kernel) rfl
theorem w_43 : Cond.selects RX11 yX11_wasPaidBefore yX11_wasPaidBefore ∈ gw := gw_mem 43 (by decide +kernel) rfl
theorem w_44 : Cond.selects RX4 yX4_figureAhead yX4_figureAhead ∈ gw := gw_mem 44 (by decide +kernel) rfl
theorem w_45 : Cond.selects RX4 yX4_figureBehind yX4_figureBehind ∈ gw := gw_mem 45 (by decide +kernel) rfl
theorem w_46 : Cond.selects RX1 yX1_addGap yX1_addGap ∈ gw := gw_mem 46 (by decide +kernel) rfl
theorem w_47 : Cond.selects RX1 yX1_closeRun yX1_closeRun ∈ gw := gw_mem 47 (by decide +kernel) rfl
theorem w_48 : Cond.selects RX1 yX1_search yX1_search ∈ gw := gw_mem 48 (by decide +kernel) rfl
theorem w_49 : Cond.selects RX1 yX1_takenOff yX1_takenOff ∈ gw := gw_mem 49 (by decide +kernel) rfl
theorem w_50 : Cond.selects RX11 yX11_countHeld yX11_countHeld ∈ gw := gw_mem 50 (by decide +kernel) rfl
theorem w_51 : Cond.selects RX11 yX11_sumHeld yX11_sumHeld ∈ gw := gw_mem 51 (by decide +kernel) rfl
theorem w_52 : Cond.selects RX11 yX11_sumPaid yX11_sumPaid ∈ gw := gw_mem 52 (by decide +kernel) rfl
theorem w_53 : Cond.selects RX12 yX12_clears yX12_clears ∈ gw := gw_mem 53 (by decide +kernel) rfl
theorem w_54 : Cond.selects RX12 yX12_isFirm yX12_isFirm ∈ gw := gw_mem 54 (by decide +kernel) rfl
theorem w_55 : Cond.selects RX12 yX12_isPast yX12_isPast ∈ gw := gw_mem 55 (by decide +kernel) rfl
theorem w_56 : Cond.selects RX12 yX12_isMerged yX12_isMerged ∈ gw := gw_mem 56 (by decide +kernel) rfl
theorem w_57 : Cond.selects RX12 yX12_firmOf yX12_firmOf ∈ gw := gw_mem 57 (by decide +kernel) rfl
theorem w_58 : Cond.selects RX12 yX12_isPerson yX12_isPerson ∈ gw := gw_mem 58 (by decide +kernel) rfl
theorem w_59 : Cond.selects RX12 yX12_isAccount yX12_isAccount ∈ gw := gw_mem 59 (by decide +kernel) rfl
theorem w_60 : Cond.selects RX12 yX12_tells yX12_tells ∈ gw := gw_mem 60 (by decide +kernel) rfl
theorem w_61 : Cond.selects RX12 yX12_sumNow yX12_sumNow ∈ gw := gw_mem 61 (by decide +kernel) rfl
theorem w_62 : Cond.selects RX12 yX12_sumOf yX12_sumOf ∈ gw := gw_mem 62 (by decide +kernel) rfl
theorem w_63 : Cond.selects RX12 yX12_nextDay yX12_nextDay ∈ gw := gw_mem 63 (by decide +kernel) rfl
theorem w_64 : Cond.selects RX12 yX12_next0 yX12_next0 ∈ gw := gw_mem 64 (by decide +kernel) rfl
theorem w_65 : Cond.selects RX12 yX12_see yX12_see ∈ gw := gw_mem 65 (by decide +kernel) rfl
theorem w_66 : Cond.selects RX12 yX12_word yX12_word ∈ gw := gw_mem 66 (by decide +kernel) rfl
theorem w_67 : Cond.selects RX12 yX12_is yX12_is ∈ gw := gw_mem 67 (by decide +kernel) rfl
theorem w_68 : Cond.selects RX12 yX12_aLine yX12_aLine ∈ gw := gw_mem 68 (by decide +kernel) rfl
theorem w_69 : Cond.selects RX12 yX12_bad yX12_bad ∈ gw := gw_mem 69 (by decide +kernel) rfl
theorem w_70 : Cond.selects RX12 yX12_inner yX12_inner ∈ gw := gw_mem 70 (by decide +kernel) rfl
theorem w_71 : Cond.selects RX12 yX12_two yX12_two ∈ gw := gw_mem 71 (by decide +kernel) rfl
theorem w_72 : Cond.selects RX12 yX12_aNumber yX12_aNumber ∈ gw := gw_mem 72 (by decide +kernel) rfl
theorem w_73 : Cond.selects RX12 yX12_sumUp yX12_sumUp ∈ gw := gw_mem 73 (by decide +kernel) rfl
theorem w_74 : Cond.selects RX12 yX12_product yX12_product ∈ gw := gw_mem 74 (by decide +kernel) rfl
theorem w_75 : Cond.selects RX12 yX12_unit yX12_unit ∈ gw := gw_mem 75 (by decide +kernel) rfl
theorem w_76 : Cond.selects RX12 yX12_opens yX12_opens ∈ gw := gw_mem 76 (by decide +kernel) rfl
theorem w_77 : Cond.selects RX12 yX12_need yX12_need ∈ gw := gw_mem 77 (by decide +kernel) rfl
theorem w_78 : Cond.selects RX12 yX12_lay yX12_lay ∈ gw := gw_mem 78 (by decide +kernel) rfl
theorem w_79 : Cond.selects RX12 yX12_any yX12_any ∈ gw := gw_mem 79 (by decide +kernel) rfl
theorem w_80 : Cond.selects RX12 yX12_all yX12_all ∈ gw := gw_mem 80 (by decide +kernel) rfl
theorem w_81 : Cond.selects RX12 yX12_one yX12_one ∈ gw := gw_mem 81 (by decide +kernel) rfl
theorem w_82 : Cond.selects RX12 yX12_takes yX12_takes ∈ gw := gw_mem 82 (by decide +kernel) rfl
theorem w_83 : Cond.selects RX12 yX12_owedTo yX12_owedTo ∈ gw := gw_mem 83 (by decide +kernel) rfl
theorem w_84 : Cond.selects RX12 yX12_sleepOf yX12_sleepOf ∈ gw := gw_mem 84 (by decide +kernel) rfl
theorem w_85 : Cond.selects RX12 yX12_isHeld yX12_isHeld ∈ gw := gw_mem 85 (by decide +kernel) rfl
theorem w_86 : Cond.selects RX12 yX12_interest yX12_interest ∈ gw := gw_mem 86 (by decide +kernel) rfl
theorem w_87 : Cond.selects RX12 yX12_paidOf yX12_paidOf ∈ gw := gw_mem 87 (by decide +kernel) rfl
theorem w_88 : Cond.selects RX12 yX12_isBarred yX12_isBarred ∈ gw := gw_mem 88 (by decide +kernel) rfl
theorem w_89 : Cond.selects RX12 yX12_isUnlike yX12_isUnlike ∈ gw := gw_mem 89 (by decide +kernel) rfl
theorem w_90 : Cond.selects RX12 yX12_pointsOf yX12_pointsOf ∈ gw := gw_mem 90 (by decide +kernel) rfl
theorem w_91 : Cond.selects RX12 yX12_isLike yX12_isLike ∈ gw := gw_mem 91 (by decide +kernel) rfl
theorem w_92 : Cond.selects RX12 yX12_isSet yX12_isSet ∈ gw := gw_mem 92 (by decide +kernel) rfl
theorem w_93 : Cond.selects RX12 yX12_joinAll yX12_joinAll ∈ gw := gw_mem 93 (by decide +kernel) rfl
theorem w_94 : Cond.selects RX12 yX12_joins yX12_joins ∈ gw := gw_mem 94 (by decide +kernel) rfl
theorem w_95 : Cond.selects RX12 yX12_counts yX12_counts ∈ gw := gw_mem 95 (by decide +kernel) rfl
theorem w_96 : Cond.selects RX12 yX12_heirsOf yX12_heirsOf ∈ gw := gw_mem 96 (by decide +kernel) rfl
theorem w_97 : Cond.selects RX12 yX12_shares yX12_shares ∈ gw := gw_mem 97 (by decide +kernel) rfl
theorem w_98 : Cond.selects RX12 yX12_linesOf yX12_linesOf ∈ gw := gw_mem 98 (by decide +kernel) rfl
theorem w_99 : Cond.selects RX12 yX12_asked yX12_asked ∈ gw := gw_mem 99 (by decide +kernel) rfl
theorem w_100 : Cond.selects RX12 yX12_comesTo yX12_comesTo ∈ gw := gw_mem 100 (by decide +kernel) rfl
theorem w_101 : Cond.selects RX12 yX12_isGood yX12_isGood ∈ gw := gw_mem 101 (by decide +kernel) rfl
theorem w_102 : Cond.selects RX12 yX12_bound yX12_bound ∈ gw := gw_mem 102 (by decide +kernel) rfl
theorem w_104 : Cond.initialized RX11 ∈ gw := gw_mem 104 (by decide +kernel) rfl
theorem w_105 : Cond.initialized RJxa1e45 ∈ gw := gw_mem 105 (by decide +kernel) rfl
theorem w_106 : Cond.initialized RJxc12de ∈ gw := gw_mem 106 (by decide +kernel) rfl
theorem w_107 : Cond.initialized RJx4a65c ∈ gw := gw_mem 107 (by decide +kernel) rfl
theorem w_108 : Cond.initialized RX6 ∈ gw := gw_mem 108 (by decide +kernel) rfl
theorem w_109 : Cond.initialized RJ9 ∈ gw := gw_mem 109 (by decide +kernel) rfl
theorem w_110 : Cond.initialized RX9 ∈ gw := gw_mem 110 (by decide +kernel) rfl
theorem w_111 : Cond.initialized RX5 ∈ gw := gw_mem 111 (by decide +kernel) rfl
theorem w_112 : Cond.initialized RX1 ∈ gw := gw_mem 112 (by decide +kernel) rfl
theorem w_113 : Cond.initialized RX12 ∈ gw := gw_mem 113 (by decide +kernel) rfl
theorem w_114 : Cond.initialized RX4 ∈ gw := gw_mem 114 (by decide +kernel) rfl
theorem w_115 : Cond.initialized RJ8 ∈ gw := gw_mem 115 (by decide +kernel) rfl
theorem w_116 : Cond.initialized RJ7 ∈ gw := gw_mem 116 (by decide +kernel) rfl
theorem w_117 : Cond.initialized "java/lang/System" ∈ gw := gw_mem 117 (by decide +kernel) rfl
theorem w_118 : Cond.initialized RJ15 ∈ gw := gw_mem 118 (by decide +kernel) rfl
theorem w_119 : Cond.initialized RJ3 ∈ gw := gw_mem 119 (by decide +kernel) rfl
theorem w_120 : Cond.initialized RX8 ∈ gw := gw_mem 120 (by decide +kernel) rfl
theorem w_121 : Cond.initialized RX0 ∈ gw := gw_mem 121 (by decide +kernel) rfl
theorem w_122 : Cond.initialized RX3 ∈ gw := gw_mem 122 (by decide +kernel) rfl
theorem w_123 : Cond.initialized RX7 ∈ gw := gw_mem 123 (by decide +kernel) rfl
theorem w_124 : Cond.initialized RX10 ∈ gw := gw_mem 124 (by decide +kernel) rfl
theorem w_125 : Cond.initialized RJ0 ∈ gw := gw_mem 125 (by decide +kernel) rfl
theorem w_128 : Cond.initialized RJ6 ∈ gw := gw_mem 128 (by decide +kernel) rfl
theorem w_129 : Cond.initialized RX2 ∈ gw := gw_mem 129 (by decide +kernel) rfl
theorem w_135 : Cond.methodLink RX11 1 objectInit ∈ gw := gw_mem 135 (by decide +kernel) rfl
theorem w_136 : Cond.instanceMethod objectInit ∈ gw := gw_mem 136 (by decide +kernel) rfl
theorem w_137 : Cond.code objectInit ⟨#[0xb1]⟩ 1 none ∈ gw := gw_mem 137 (by decide +kernel) rfl
theorem w_138 : Cond.classLink RX11 13 RJx4a65c ∈ gw := gw_mem 138 (by decide +kernel) rfl
theorem w_139 : Cond.instantiable RJx4a65c 3 ∈ gw := gw_mem 139 (by decide +kernel) rfl
theorem w_140 : Cond.methodLink RX11 15 yJx4a65c_init_da8c8 ∈ gw := gw_mem 140 (by decide +kernel) rfl
theorem w_141 : Cond.instanceMethod yJx4a65c_init_da8c8 ∈ gw := gw_mem 141 (by decide +kernel) rfl
theorem w_142 : Cond.code yJx4a65c_init_da8c8 cJx4a65c_init_da8c8 1 (Option.none : Option Jvm.ClassFile.FieldType) ∈ gw := gw_mem 142 (by decide +kernel) rfl
theorem w_143 : Cond.methodLink RJx4a65c 1 yJxc12de_init_da8c8 ∈ gw := gw_mem 143 (by decide +kernel) rfl
theorem w_144 : Cond.instanceMethod yJxc12de_init_da8c8 ∈ gw := gw_mem 144 (by decide +kernel) rfl
theorem w_145 : Cond.code yJxc12de_init_da8c8 cJxc12de_init_da8c8 1 (Option.none : Option Jvm.ClassFile.FieldType) ∈ gw := gw_mem 145 (by decide +kernel) rfl
theorem w_146 : Cond.methodLink RJxc12de 1 yJxa1e45_init_da8c8 ∈ gw := gw_mem 146 (by decide +kernel) rfl
theorem w_147 : Cond.instanceMethod yJxa1e45_init_da8c8 ∈ gw := gw_mem 147 (by decide +kernel) rfl
theorem w_148 : Cond.code yJxa1e45_init_da8c8 cJxa1e45_init_da8c8 1 (Option.none : Option Jvm.ClassFile.FieldType) ∈ gw := gw_mem 148 (by decide +kernel) rfl
theorem w_149 : Cond.methodLink RJxa1e45 1 objectInit ∈ gw := gw_mem 149 (by decide +kernel) rfl
theorem w_150 : Cond.fieldLink RJx4a65c 39 "java/util/ArrayList" "DEFAULTCAPACITY_EMPTY_ELEMENTDATA" "[Ljava/lang/Object;" ∈ gw := gw_mem 150 (by decide +kernel) rfl
theorem w_152 : Cond.fieldLink RJx4a65c 9 "java/util/ArrayList" "elementData" "[Ljava/lang/Object;" ∈ gw := gw_mem 152 (by decide +kernel) rfl
theorem w_153 : Cond.fieldLink RJx4a65c 48 "java/util/ArrayList" "size" "I" ∈ gw := gw_mem 153 (by decide +kernel) rfl
theorem w_154 : Cond.fieldLink RJxc12de 7 "java/util/AbstractList" "modCount" "I" ∈ gw := gw_mem 154 (by decide +kernel) rfl
theorem w_155 : Cond.fieldLink RJx4a65c 63 "java/util/ArrayList" "modCount" "I" ∈ gw := gw_mem 155 (by decide +kernel) rfl
theorem w_156 : Cond.sameField "java/util/ArrayList" "java/util/AbstractList" "modCount" "I" ∈ gw := gw_mem 156 (by decide +kernel) rfl
theorem w_164 : Cond.classLink RX11 39 RX6 ∈ gw := gw_mem 164 (by decide +kernel) rfl
theorem w_165 : Cond.instantiable RX6 9 ∈ gw := gw_mem 165 (by decide +kernel) rfl
theorem w_166 : Cond.methodLink RX11 41 yX6_init ∈ gw := gw_mem 166 (by decide +kernel) rfl
theorem w_167 : Cond.instanceMethod yX6_init ∈ gw := gw_mem 167 (by decide +kernel) rfl
theorem w_168 : Cond.code yX6_init cX6_init 2 (Option.none : Option Jvm.ClassFile.FieldType) ∈ gw := gw_mem 168 (by decide +kernel) rfl
theorem w_169 : Cond.methodLink RX6 3 objectInit ∈ gw := gw_mem 169 (by decide +kernel) rfl
theorem w_170 : Cond.methodLink RX6 37 yJ9_max_7cf53 ∈ gw := gw_mem 170 (by decide +kernel) rfl
theorem w_171 : Cond.static yJ9_max_7cf53 ∈ gw := gw_mem 171 (by decide +kernel) rfl
theorem w_172 : Cond.code yJ9_max_7cf53 cJ9_max_7cf53 2 (Option.some Jvm.ClassFile.FieldType.int) ∈ gw := gw_mem 172 (by decide +kernel) rfl
theorem w_173 : Cond.fieldLink RX6 9 "SleepOffice$Law" "lines" "I" ∈ gw := gw_mem 173 (by decide +kernel) rfl
theorem w_174 : Cond.fieldLink RX7 60 "SleepOffice$Law" "lines" "I" ∈ gw := gw_mem 174 (by decide +kernel) rfl
theorem w_175 : Cond.fieldLink RX11 228 "SleepOffice$Law" "lines" "I" ∈ gw := gw_mem 175 (by decide +kernel) rfl
theorem w_176 : Cond.fieldLink RX6 15 "SleepOffice$Law" "sleepYears" "[I" ∈ gw := gw_mem 176 (by decide +kernel) rfl
theorem w_177 : Cond.fieldLink RX6 19 "SleepOffice$Law" "sorts" "I" ∈ gw := gw_mem 177 (by decide +kernel) rfl
theorem w_178 : Cond.fieldLink RX7 74 "SleepOffice$Law" "sorts" "I" ∈ gw := gw_mem 178 (by decide +kernel) rfl
theorem w_179 : Cond.fieldLink RX6 22 "SleepOffice$Law" "letter" "I" ∈ gw := gw_mem 179 (by decide +kernel) rfl
theorem w_180 : Cond.fieldLink RX7 77 "SleepOffice$Law" "letter" "I" ∈ gw := gw_mem 180 (by decide +kernel) rfl
theorem w_181 : Cond.fieldLink RX11 242 "SleepOffice$Law" "letter" "I" ∈ gw := gw_mem 181 (by decide +kernel) rfl
theorem w_182 : Cond.fieldLink RX6 25 "SleepOffice$Law" "fee" "I" ∈ gw := gw_mem 182 (by decide +kernel) rfl
theorem w_183 : Cond.fieldLink RX7 80 "SleepOffice$Law" "fee" "I" ∈ gw := gw_mem 183 (by decide +kernel) rfl
theorem w_184 : Cond.fieldLink RX11 245 "SleepOffice$Law" "fee" "I" ∈ gw := gw_mem 184 (by decide +kernel) rfl
theorem w_185 : Cond.fieldLink RX6 28 "SleepOffice$Law" "interest" "I" ∈ gw := gw_mem 185 (by decide +kernel) rfl
theorem w_186 : Cond.fieldLink RX7 83 "SleepOffice$Law" "interest" "I" ∈ gw := gw_mem 186 (by decide +kernel) rfl
theorem w_187 : Cond.fieldLink RX11 248 "SleepOffice$Law" "interest" "I" ∈ gw := gw_mem 187 (by decide +kernel) rfl
theorem w_188 : Cond.fieldLink RX6 31 "SleepOffice$Law" "interestYears" "I" ∈ gw := gw_mem 188 (by decide +kernel) rfl
theorem w_189 : Cond.fieldLink RX7 86 "SleepOffice$Law" "interestYears" "I" ∈ gw := gw_mem 189 (by decide +kernel) rfl
theorem w_190 : Cond.fieldLink RX11 251 "SleepOffice$Law" "interestYears" "I" ∈ gw := gw_mem 190 (by decide +kernel) rfl
theorem w_191 : Cond.fieldLink RX6 43 "SleepOffice$Law" "code" "[I" ∈ gw := gw_mem 191 (by decide +kernel) rfl
theorem w_192 : Cond.fieldLink RX6 34 "SleepOffice$Law" "codeLength" "I" ∈ gw := gw_mem 192 (by decide +kernel) rfl
theorem w_212 : Cond.arrayClass FieldType.byte ∈ gw := gw_mem 212 (by decide +kernel) rfl
theorem w_213 : Cond.arrayClass FieldType.int ∈ gw := gw_mem 213 (by decide +kernel) rfl
theorem w_215 : Cond.classLink RX11 58 RX9 ∈ gw := gw_mem 215 (by decide +kernel) rfl
theorem w_216 : Cond.instantiable RX9 7 ∈ gw := gw_mem 216 (by decide +kernel) rfl
theorem w_218 : Cond.instanceMethod yX9_init ∈ gw := gw_mem 218 (by decide +kernel) rfl
theorem w_219 : Cond.code yX9_init cX9_init 1 (Option.none : Option Jvm.ClassFile.FieldType) ∈ gw := gw_mem 219 (by decide +kernel) rfl
theorem w_220 : Cond.methodLink RX9 1 objectInit ∈ gw := gw_mem 220 (by decide +kernel) rfl
theorem w_221 : Cond.fieldLink RX9 7 "SleepOffice$ProofScale" "sum" "I" ∈ gw := gw_mem 221 (by decide +kernel) rfl
theorem w_222 : Cond.fieldLink RX11 409 "SleepOffice$ProofScale" "sum" "I" ∈ gw := gw_mem 222 (by decide +kernel) rfl
theorem w_223 : Cond.fieldLink RX9 13 "SleepOffice$ProofScale" "years" "I" ∈ gw := gw_mem 223 (by decide +kernel) rfl
theorem w_224 : Cond.fieldLink RX11 412 "SleepOffice$ProofScale" "years" "I" ∈ gw := gw_mem 224 (by decide +kernel) rfl
theorem w_225 : Cond.fieldLink RX9 16 "SleepOffice$ProofScale" "kind" "I" ∈ gw := gw_mem 225 (by decide +kernel) rfl
theorem w_226 : Cond.fieldLink RX11 415 "SleepOffice$ProofScale" "kind" "I" ∈ gw := gw_mem 226 (by decide +kernel) rfl
theorem w_227 : Cond.fieldLink RX9 19 "SleepOffice$ProofScale" "heirs" "I" ∈ gw := gw_mem 227 (by decide +kernel) rfl
theorem w_228 : Cond.fieldLink RX11 416 "SleepOffice$ProofScale" "heirs" "I" ∈ gw := gw_mem 228 (by decide +kernel) rfl
theorem w_229 : Cond.fieldLink RX9 22 "SleepOffice$ProofScale" "stack" "[I" ∈ gw := gw_mem 229 (by decide +kernel) rfl
theorem w_230 : Cond.fieldLink RX9 26 "SleepOffice$ProofScale" "top" "I" ∈ gw := gw_mem 230 (by decide +kernel) rfl
theorem w_231 : Cond.fieldLink RX9 29 "SleepOffice$ProofScale" "greatest" "I" ∈ gw := gw_mem 231 (by decide +kernel) rfl
theorem w_247 : Cond.classLink RX11 65 RX5 ∈ gw := gw_mem 247 (by decide +kernel) rfl
theorem w_248 : Cond.instantiable RX5 5 ∈ gw := gw_mem 248 (by decide +kernel) rfl
theorem w_250 : Cond.instanceMethod yX5_init ∈ gw := gw_mem 250 (by decide +kernel) rfl
theorem w_251 : Cond.code yX5_init cX5_init 1 (Option.none : Option Jvm.ClassFile.FieldType) ∈ gw := gw_mem 251 (by decide +kernel) rfl
theorem w_252 : Cond.methodLink RX5 3 objectInit ∈ gw := gw_mem 252 (by decide +kernel) rfl
theorem w_253 : Cond.classLink RX5 9 RX8 ∈ gw := gw_mem 253 (by decide +kernel) rfl
theorem w_255 : Cond.fieldLink RX5 11 "SleepOffice$Joining" "seats" "[LSleepOffice$Person;" ∈ gw := gw_mem 255 (by decide +kernel) rfl
theorem w_256 : Cond.fieldLink RX5 17 "SleepOffice$Joining" "seated" "I" ∈ gw := gw_mem 256 (by decide +kernel) rfl
theorem w_257 : Cond.fieldLink RX5 21 "SleepOffice$Joining" "worth" "[I" ∈ gw := gw_mem 257 (by decide +kernel) rfl
theorem w_258 : Cond.fieldLink RX5 25 "SleepOffice$Joining" "best" "[I" ∈ gw := gw_mem 258 (by decide +kernel) rfl
theorem w_259 : Cond.fieldLink RX5 28 "SleepOffice$Joining" "ways" "[I" ∈ gw := gw_mem 259 (by decide +kernel) rfl
theorem w_271 : Cond.classLink RX11 76 RX1 ∈ gw := gw_mem 271 (by decide +kernel) rfl
theorem w_272 : Cond.instantiable RX1 5 ∈ gw := gw_mem 272 (by decide +kernel) rfl
theorem w_274 : Cond.instanceMethod yX1_init ∈ gw := gw_mem 274 (by decide +kernel) rfl
theorem w_275 : Cond.code yX1_init cX1_init 1 (Option.none : Option Jvm.ClassFile.FieldType) ∈ gw := gw_mem 275 (by decide +kernel) rfl
theorem w_276 : Cond.methodLink RX1 3 objectInit ∈ gw := gw_mem 276 (by decide +kernel) rfl
theorem w_277 : Cond.fieldLink RX1 9 "SleepOffice$Chooser" "worth" "[J" ∈ gw := gw_mem 277 (by decide +kernel) rfl
theorem w_278 : Cond.fieldLink RX1 15 "SleepOffice$Chooser" "price" "[I" ∈ gw := gw_mem 278 (by decide +kernel) rfl
theorem w_279 : Cond.fieldLink RX1 19 "SleepOffice$Chooser" "nextRun" "[I" ∈ gw := gw_mem 279 (by decide +kernel) rfl
theorem w_280 : Cond.fieldLink RX1 22 "SleepOffice$Chooser" "size" "I" ∈ gw := gw_mem 280 (by decide +kernel) rfl
theorem w_281 : Cond.fieldLink RX1 26 "SleepOffice$Chooser" "best" "J" ∈ gw := gw_mem 281 (by decide +kernel) rfl
theorem w_293 : Cond.arrayClass FieldType.long ∈ gw := gw_mem 293 (by decide +kernel) rfl
theorem w_294 : Cond.fieldLink RX11 7 "SleepOffice" "now" "I" ∈ gw := gw_mem 294 (by decide +kernel) rfl
theorem w_295 : Cond.fieldLink RX11 16 "SleepOffice" "firms" "Ljava/util/ArrayList;" ∈ gw := gw_mem 295 (by decide +kernel) rfl
theorem w_296 : Cond.fieldLink RX11 20 "SleepOffice" "persons" "Ljava/util/ArrayList;" ∈ gw := gw_mem 296 (by decide +kernel) rfl
theorem w_297 : Cond.fieldLink RX11 23 "SleepOffice" "accounts" "Ljava/util/ArrayList;" ∈ gw := gw_mem 297 (by decide +kernel) rfl
theorem w_298 : Cond.fieldLink RX11 26 "SleepOffice" "claims" "Ljava/util/ArrayList;" ∈ gw := gw_mem 298 (by decide +kernel) rfl
theorem w_299 : Cond.fieldLink RX11 29 "SleepOffice" "entriesTold" "I" ∈ gw := gw_mem 299 (by decide +kernel) rfl
theorem w_300 : Cond.fieldLink RX11 32 "SleepOffice" "tape" "[B" ∈ gw := gw_mem 300 (by decide +kernel) rfl
theorem w_301 : Cond.fieldLink RX11 36 "SleepOffice" "tapeLength" "I" ∈ gw := gw_mem 301 (by decide +kernel) rfl
theorem w_302 : Cond.fieldLink RX11 44 "SleepOffice" "plainLaw" "LSleepOffice$Law;" ∈ gw := gw_mem 302 (by decide +kernel) rfl
theorem w_303 : Cond.fieldLink RX11 48 "SleepOffice" "laws" "[LSleepOffice$Law;" ∈ gw := gw_mem 303 (by decide +kernel) rfl
theorem w_304 : Cond.fieldLink RX11 52 "SleepOffice" "lawFault" "I" ∈ gw := gw_mem 304 (by decide +kernel) rfl
theorem w_305 : Cond.fieldLink RX11 55 "SleepOffice" "lawFaultPlace" "I" ∈ gw := gw_mem 305 (by decide +kernel) rfl
theorem w_306 : Cond.fieldLink RX11 61 "SleepOffice" "scale" "LSleepOffice$ProofScale;" ∈ gw := gw_mem 306 (by decide +kernel) rfl
theorem w_307 : Cond.fieldLink RX11 68 "SleepOffice" "joining" "LSleepOffice$Joining;" ∈ gw := gw_mem 307 (by decide +kernel) rfl
theorem w_308 : Cond.fieldLink RX11 72 "SleepOffice" "lookCosts" "[I" ∈ gw := gw_mem 308 (by decide +kernel) rfl
theorem w_309 : Cond.fieldLink RX11 79 "SleepOffice" "chooser" "LSleepOffice$Chooser;" ∈ gw := gw_mem 309 (by decide +kernel) rfl
theorem w_351 : Cond.methodLink RX11 83 yX11_isWithin ∈ gw := gw_mem 351 (by decide +kernel) rfl
theorem w_352 : Cond.static yX11_isWithin ∈ gw := gw_mem 352 (by decide +kernel) rfl
theorem w_353 : Cond.code yX11_isWithin cX11_isWithin 2 (Option.some Jvm.ClassFile.FieldType.boolean) ∈ gw := gw_mem 353 (by decide +kernel) rfl
theorem w_354 : Cond.methodLink RX11 87 yJx4a65c_size_8abf5 ∈ gw := gw_mem 354 (by decide +kernel) rfl
theorem w_355 : Cond.instanceMethod yJx4a65c_size_8abf5 ∈ gw := gw_mem 355 (by decide +kernel) rfl
theorem w_356 : Cond.selects RJx4a65c yJx4a65c_size_8abf5 yJx4a65c_size_8abf5 ∈ gw := gw_mem 356 (by decide +kernel) rfl
theorem w_357 : Cond.code yJx4a65c_size_8abf5 cJx4a65c_size_8abf5 1 (Option.some Jvm.ClassFile.FieldType.int) ∈ gw := gw_mem 357 (by decide +kernel) rfl
theorem w_358 : Cond.classLink RX11 91 RX4 ∈ gw := gw_mem 358 (by decide +kernel) rfl
theorem w_359 : Cond.instantiable RX4 5 ∈ gw := gw_mem 359 (by decide +kernel) rfl
theorem w_360 : Cond.methodLink RX11 93 yX4_init ∈ gw := gw_mem 360 (by decide +kernel) rfl
theorem w_361 : Cond.instanceMethod yX4_init ∈ gw := gw_mem 361 (by decide +kernel) rfl
theorem w_362 : Cond.code yX4_init cX4_init 4 (Option.none : Option Jvm.ClassFile.FieldType) ∈ gw := gw_mem 362 (by decide +kernel) rfl
theorem w_363 : Cond.methodLink RX4 3 objectInit ∈ gw := gw_mem 363 (by decide +kernel) rfl
theorem w_364 : Cond.fieldLink RX4 23 "SleepOffice$Firm" "number" "I" ∈ gw := gw_mem 364 (by decide +kernel) rfl
theorem w_365 : Cond.fieldLink RX11 100 "SleepOffice$Firm" "number" "I" ∈ gw := gw_mem 365 (by decide +kernel) rfl
theorem w_366 : Cond.fieldLink RX4 26 "SleepOffice$Firm" "state" "I" ∈ gw := gw_mem 366 (by decide +kernel) rfl
theorem w_367 : Cond.fieldLink RX11 296 "SleepOffice$Firm" "state" "I" ∈ gw := gw_mem 367 (by decide +kernel) rfl
theorem w_368 : Cond.fieldLink RX4 9 "SleepOffice$Firm" "into" "LSleepOffice$Firm;" ∈ gw := gw_mem 368 (by decide +kernel) rfl
theorem w_369 : Cond.fieldLink RX11 111 "SleepOffice$Firm" "into" "LSleepOffice$Firm;" ∈ gw := gw_mem 369 (by decide +kernel) rfl
theorem w_370 : Cond.fieldLink RX4 15 "SleepOffice$Firm" "mergeDay" "I" ∈ gw := gw_mem 370 (by decide +kernel) rfl
theorem w_371 : Cond.fieldLink RX11 122 "SleepOffice$Firm" "mergeDay" "I" ∈ gw := gw_mem 371 (by decide +kernel) rfl
theorem w_372 : Cond.fieldLink RX4 19 "SleepOffice$Firm" "figures" "[I" ∈ gw := gw_mem 372 (by decide +kernel) rfl
theorem w_384 : Cond.methodLink RX11 96 yJx4a65c_add_9ea2d ∈ gw := gw_mem 384 (by decide +kernel) rfl
theorem w_385 : Cond.instanceMethod yJx4a65c_add_9ea2d ∈ gw := gw_mem 385 (by decide +kernel) rfl
theorem w_386 : Cond.selects RJx4a65c yJx4a65c_add_9ea2d yJx4a65c_add_9ea2d ∈ gw := gw_mem 386 (by decide +kernel) rfl
theorem w_387 : Cond.code yJx4a65c_add_9ea2d cJx4a65c_add_9ea2d 2 (Option.some Jvm.ClassFile.FieldType.boolean) ∈ gw := gw_mem 387 (by decide +kernel) rfl
theorem w_388 : Cond.methodLink RJx4a65c 131 yJx4a65c_add_72be8 ∈ gw := gw_mem 388 (by decide +kernel) rfl
theorem w_390 : Cond.instanceMethod yJx4a65c_add_72be8 ∈ gw := gw_mem 390 (by decide +kernel) rfl
theorem w_391 : Cond.code yJx4a65c_add_72be8 cJx4a65c_add_72be8 4 (Option.none : Option Jvm.ClassFile.FieldType) ∈ gw := gw_mem 391 (by decide +kernel) rfl
theorem w_392 : Cond.methodLink RJx4a65c 129 yJx4a65c_grow_d5877 ∈ gw := gw_mem 392 (by decide +kernel) rfl
theorem w_394 : Cond.instanceMethod yJx4a65c_grow_d5877 ∈ gw := gw_mem 394 (by decide +kernel) rfl
theorem w_395 : Cond.code yJx4a65c_grow_d5877 cJx4a65c_grow_d5877 1 (Option.some (Jvm.ClassFile.FieldType.array (Jvm.ClassFile.FieldType.object "java/lang/Object"))) ∈ gw := gw_mem 395 (by decide +kernel) rfl
theorem w_396 : Cond.methodLink RJx4a65c 69 yJx4a65c_grow_92f84 ∈ gw := gw_mem 396 (by decide +kernel) rfl
theorem w_398 : Cond.instanceMethod yJx4a65c_grow_92f84 ∈ gw := gw_mem 398 (by decide +kernel) rfl
theorem w_399 : Cond.code yJx4a65c_grow_92f84 cJx4a65c_grow_92f84 4 (Option.some (Jvm.ClassFile.FieldType.array (Jvm.ClassFile.FieldType.object "java/lang/Object"))) ∈ gw := gw_mem 399 (by decide +kernel) rfl
theorem w_400 : Cond.methodLink RJx4a65c 73 yJ8_newLength_cabcc ∈ gw := gw_mem 400 (by decide +kernel) rfl
theorem w_401 : Cond.static yJ8_newLength_cabcc ∈ gw := gw_mem 401 (by decide +kernel) rfl
theorem w_402 : Cond.code yJ8_newLength_cabcc cJ8_newLength_cabcc 4 (Option.some Jvm.ClassFile.FieldType.int) ∈ gw := gw_mem 402 (by decide +kernel) rfl
theorem w_403 : Cond.methodLink RJ8 194 yJ9_max_7cf53 ∈ gw := gw_mem 403 (by decide +kernel) rfl
theorem w_404 : Cond.constant RJ8 200 2147483639 ∈ gw := gw_mem 404 (by decide +kernel) rfl
theorem w_405 : Cond.methodLink RJ8 201 yJ8_hugeLength_7cf53 ∈ gw := gw_mem 405 (by decide +kernel) rfl
theorem w_406 : Cond.static yJ8_hugeLength_7cf53 ∈ gw := gw_mem 406 (by decide +kernel) rfl
theorem w_407 : Cond.code yJ8_hugeLength_7cf53 cJ8_hugeLength_7cf53 3 (Option.some Jvm.ClassFile.FieldType.int) ∈ gw := gw_mem 407 (by decide +kernel) rfl
theorem w_408 : Cond.methodLink RJx4a65c 66 yJ7_copyOf_1904c ∈ gw := gw_mem 408 (by decide +kernel) rfl
theorem w_409 : Cond.static yJ7_copyOf_1904c ∈ gw := gw_mem 409 (by decide +kernel) rfl
theorem w_410 : Cond.code yJ7_copyOf_1904c cJ7_copyOf_1904c 2 (Option.some (Jvm.ClassFile.FieldType.array (Jvm.ClassFile.FieldType.object "java/lang/Object"))) ∈ gw := gw_mem 410 (by decide +kernel) rfl
theorem w_411 : Cond.methodLink RJ7 86 ⟨"java/lang/Object", "getClass", "()Ljava/lang/Class;"⟩ ∈ gw := gw_mem 411 (by decide +kernel) rfl
theorem w_412 : Cond.instanceMethod ⟨"java/lang/Object", "getClass", "()Ljava/lang/Class;"⟩ ∈ gw := gw_mem 412 (by decide +kernel) rfl
theorem w_428 : Cond.native ⟨"java/lang/Object", "getClass", "()Ljava/lang/Class;"⟩ ∈ gw := gw_mem 428 (by decide +kernel) rfl
theorem w_429 : Cond.methodLink RJ7 300 yJ7_copyOf_6403c ∈ gw := gw_mem 429 (by decide +kernel) rfl
theorem w_430 : Cond.static yJ7_copyOf_6403c ∈ gw := gw_mem 430 (by decide +kernel) rfl
theorem w_431 : Cond.code yJ7_copyOf_6403c cJ7_copyOf_6403c 4 (Option.some (Jvm.ClassFile.FieldType.array (Jvm.ClassFile.FieldType.object "java/lang/Object"))) ∈ gw := gw_mem 431 (by decide +kernel) rfl
theorem w_432 : Cond.classLink RJ7 110 "[Ljava/lang/Object;" ∈ gw := gw_mem 432 (by decide +kernel) rfl
theorem w_434 : Cond.classLink RJ7 2 "java/lang/Object" ∈ gw := gw_mem 434 (by decide +kernel) rfl
theorem w_435 : Cond.methodLink RJ7 304 yJ9_min_7cf53 ∈ gw := gw_mem 435 (by decide +kernel) rfl
theorem w_436 : Cond.static yJ9_min_7cf53 ∈ gw := gw_mem 436 (by decide +kernel) rfl
theorem w_437 : Cond.code yJ9_min_7cf53 cJ9_min_7cf53 2 (Option.some Jvm.ClassFile.FieldType.int) ∈ gw := gw_mem 437 (by decide +kernel) rfl
theorem w_438 : Cond.methodLink RJ7 150 ⟨"java/lang/System", "arraycopy", "(Ljava/lang/Object;ILjava/lang/Object;II)V"⟩ ∈ gw := gw_mem 438 (by decide +kernel) rfl
theorem w_439 : Cond.static arraycopyName ∈ gw := gw_mem 439 (by decide +kernel) rfl
theorem w_440 : Cond.native arraycopyName ∈ gw := gw_mem 440 (by decide +kernel) rfl
theorem w_441 : Cond.methodLink RJx4a65c 79 yJ9_max_7cf53 ∈ gw := gw_mem 441 (by decide +kernel) rfl
theorem w_442 : Cond.classLink RJx4a65c 7 "java/lang/Object" ∈ gw := gw_mem 442 (by decide +kernel) rfl
theorem w_447 : Cond.methodLink RX11 103 yX11_firmAt ∈ gw := gw_mem 447 (by decide +kernel) rfl
theorem w_449 : Cond.instanceMethod yX11_firmAt ∈ gw := gw_mem 449 (by decide +kernel) rfl
theorem w_450 : Cond.code yX11_firmAt cX11_firmAt 2 (Option.some (Jvm.ClassFile.FieldType.object "SleepOffice$Firm")) ∈ gw := gw_mem 450 (by decide +kernel) rfl
theorem w_451 : Cond.methodLink RX11 129 yJx4a65c_get_915e3 ∈ gw := gw_mem 451 (by decide +kernel) rfl
theorem w_452 : Cond.instanceMethod yJx4a65c_get_915e3 ∈ gw := gw_mem 452 (by decide +kernel) rfl
theorem w_453 : Cond.selects RJx4a65c yJx4a65c_get_915e3 yJx4a65c_get_915e3 ∈ gw := gw_mem 453 (by decide +kernel) rfl
theorem w_454 : Cond.code yJx4a65c_get_915e3 cJx4a65c_get_915e3 2 (Option.some (Jvm.ClassFile.FieldType.object "java/lang/Object")) ∈ gw := gw_mem 454 (by decide +kernel) rfl
theorem w_455 : Cond.methodLink RJx4a65c 118 yJ15_checkIndex_7cf53 ∈ gw := gw_mem 455 (by decide +kernel) rfl
theorem w_456 : Cond.static yJ15_checkIndex_7cf53 ∈ gw := gw_mem 456 (by decide +kernel) rfl
theorem w_457 : Cond.code yJ15_checkIndex_7cf53 cJ15_checkIndex_7cf53 2 (Option.some Jvm.ClassFile.FieldType.int) ∈ gw := gw_mem 457 (by decide +kernel) rfl
theorem w_458 : Cond.methodLink RJ15 105 yJ3_checkIndex_8e157 ∈ gw := gw_mem 458 (by decide +kernel) rfl
theorem w_459 : Cond.static yJ3_checkIndex_8e157 ∈ gw := gw_mem 459 (by decide +kernel) rfl
theorem w_460 : Cond.code yJ3_checkIndex_8e157 cJ3_checkIndex_8e157 3 (Option.some Jvm.ClassFile.FieldType.int) ∈ gw := gw_mem 460 (by decide +kernel) rfl
theorem w_461 : Cond.methodLink RJx4a65c 123 yJx4a65c_elementData_915e3 ∈ gw := gw_mem 461 (by decide +kernel) rfl
theorem w_462 : Cond.instanceMethod yJx4a65c_elementData_915e3 ∈ gw := gw_mem 462 (by decide +kernel) rfl
theorem w_463 : Cond.selects RJx4a65c yJx4a65c_elementData_915e3 yJx4a65c_elementData_915e3 ∈ gw := gw_mem 463 (by decide +kernel) rfl
theorem w_464 : Cond.code yJx4a65c_elementData_915e3 cJx4a65c_elementData_915e3 2 (Option.some (Jvm.ClassFile.FieldType.object "java/lang/Object")) ∈ gw := gw_mem 464 (by decide +kernel) rfl
theorem w_465 : Cond.methodLink RX11 107 yX11_isPast ∈ gw := gw_mem 465 (by decide +kernel) rfl
theorem w_467 : Cond.instanceMethod yX11_isPast ∈ gw := gw_mem 467 (by decide +kernel) rfl
theorem w_468 : Cond.code yX11_isPast cX11_isPast 2 (Option.some Jvm.ClassFile.FieldType.boolean) ∈ gw := gw_mem 468 (by decide +kernel) rfl
theorem w_469 : Cond.methodLink RX11 115 yX4_isMergedBy ∈ gw := gw_mem 469 (by decide +kernel) rfl
theorem w_470 : Cond.instanceMethod yX4_isMergedBy ∈ gw := gw_mem 470 (by decide +kernel) rfl
theorem w_471 : Cond.selects RX4 yX4_isMergedBy yX4_isMergedBy ∈ gw := gw_mem 471 (by decide +kernel) rfl
theorem w_472 : Cond.code yX4_isMergedBy cX4_isMergedBy 2 (Option.some Jvm.ClassFile.FieldType.boolean) ∈ gw := gw_mem 472 (by decide +kernel) rfl
theorem w_473 : Cond.methodLink RX11 118 yX11_tookOneSince ∈ gw := gw_mem 473 (by decide +kernel) rfl
theorem w_475 : Cond.instanceMethod yX11_tookOneSince ∈ gw := gw_mem 475 (by decide +kernel) rfl
theorem w_476 : Cond.code yX11_tookOneSince cX11_tookOneSince 5 (Option.some Jvm.ClassFile.FieldType.boolean) ∈ gw := gw_mem 476 (by decide +kernel) rfl
theorem w_481 : Cond.methodLink RX11 125 yX11_holderOn ∈ gw := gw_mem 481 (by decide +kernel) rfl
theorem w_482 : Cond.static yX11_holderOn ∈ gw := gw_mem 482 (by decide +kernel) rfl
theorem w_483 : Cond.code yX11_holderOn cX11_holderOn 4 (Option.some (Jvm.ClassFile.FieldType.object "SleepOffice$Firm")) ∈ gw := gw_mem 483 (by decide +kernel) rfl
theorem w_488 : Cond.methodLink RX11 133 yX11_personAt ∈ gw := gw_mem 488 (by decide +kernel) rfl
theorem w_490 : Cond.instanceMethod yX11_personAt ∈ gw := gw_mem 490 (by decide +kernel) rfl
theorem w_491 : Cond.code yX11_personAt cX11_personAt 2 (Option.some (Jvm.ClassFile.FieldType.object "SleepOffice$Person")) ∈ gw := gw_mem 491 (by decide +kernel) rfl
theorem w_492 : Cond.classLink RX11 140 RX8 ∈ gw := gw_mem 492 (by decide +kernel) rfl
theorem w_493 : Cond.methodLink RX11 137 yX11_isHome ∈ gw := gw_mem 493 (by decide +kernel) rfl
theorem w_494 : Cond.static yX11_isHome ∈ gw := gw_mem 494 (by decide +kernel) rfl
theorem w_495 : Cond.code yX11_isHome cX11_isHome 1 (Option.some Jvm.ClassFile.FieldType.boolean) ∈ gw := gw_mem 495 (by decide +kernel) rfl
theorem w_496 : Cond.instantiable RX8 8 ∈ gw := gw_mem 496 (by decide +kernel) rfl
theorem w_497 : Cond.methodLink RX11 142 yX8_init ∈ gw := gw_mem 497 (by decide +kernel) rfl
theorem w_498 : Cond.instanceMethod yX8_init ∈ gw := gw_mem 498 (by decide +kernel) rfl
theorem w_499 : Cond.code yX8_init cX8_init 6 (Option.none : Option Jvm.ClassFile.FieldType) ∈ gw := gw_mem 499 (by decide +kernel) rfl
theorem w_500 : Cond.methodLink RX8 3 objectInit ∈ gw := gw_mem 500 (by decide +kernel) rfl
theorem w_501 : Cond.fieldLink RX8 21 "SleepOffice$Person" "number" "I" ∈ gw := gw_mem 501 (by decide +kernel) rfl
theorem w_502 : Cond.fieldLink RX11 151 "SleepOffice$Person" "number" "I" ∈ gw := gw_mem 502 (by decide +kernel) rfl
theorem w_503 : Cond.fieldLink RX8 24 "SleepOffice$Person" "name" "I" ∈ gw := gw_mem 503 (by decide +kernel) rfl
theorem w_504 : Cond.fieldLink RX8 27 "SleepOffice$Person" "born" "I" ∈ gw := gw_mem 504 (by decide +kernel) rfl
theorem w_505 : Cond.fieldLink RX11 156 "SleepOffice$Person" "born" "I" ∈ gw := gw_mem 505 (by decide +kernel) rfl
theorem w_506 : Cond.fieldLink RX8 30 "SleepOffice$Person" "mark" "I" ∈ gw := gw_mem 506 (by decide +kernel) rfl
theorem w_507 : Cond.fieldLink RX8 33 "SleepOffice$Person" "parent" "LSleepOffice$Person;" ∈ gw := gw_mem 507 (by decide +kernel) rfl
theorem w_508 : Cond.fieldLink RX11 370 "SleepOffice$Person" "parent" "LSleepOffice$Person;" ∈ gw := gw_mem 508 (by decide +kernel) rfl
theorem w_509 : Cond.fieldLink RX8 9 "SleepOffice$Person" "home" "I" ∈ gw := gw_mem 509 (by decide +kernel) rfl
theorem w_510 : Cond.fieldLink RX11 145 "SleepOffice$Person" "home" "I" ∈ gw := gw_mem 510 (by decide +kernel) rfl
theorem w_511 : Cond.fieldLink RX8 15 "SleepOffice$Person" "died" "I" ∈ gw := gw_mem 511 (by decide +kernel) rfl
theorem w_512 : Cond.fieldLink RX11 159 "SleepOffice$Person" "died" "I" ∈ gw := gw_mem 512 (by decide +kernel) rfl
theorem w_513 : Cond.fieldLink RX8 18 "SleepOffice$Person" "lines" "I" ∈ gw := gw_mem 513 (by decide +kernel) rfl
theorem w_514 : Cond.fieldLink RX11 369 "SleepOffice$Person" "lines" "I" ∈ gw := gw_mem 514 (by decide +kernel) rfl
theorem w_532 : Cond.methodLink RX11 148 yX11_countLines ∈ gw := gw_mem 532 (by decide +kernel) rfl
theorem w_534 : Cond.instanceMethod yX11_countLines ∈ gw := gw_mem 534 (by decide +kernel) rfl
theorem w_535 : Cond.code yX11_countLines cX11_countLines 3 (Option.none : Option Jvm.ClassFile.FieldType) ∈ gw := gw_mem 535 (by decide +kernel) rfl
theorem w_536 : Cond.methodLink RX11 152 yX8_lives ∈ gw := gw_mem 536 (by decide +kernel) rfl
theorem w_537 : Cond.instanceMethod yX8_lives ∈ gw := gw_mem 537 (by decide +kernel) rfl
theorem w_538 : Cond.selects RX8 yX8_lives yX8_lives ∈ gw := gw_mem 538 (by decide +kernel) rfl
theorem w_539 : Cond.code yX8_lives cX8_lives 1 (Option.some Jvm.ClassFile.FieldType.boolean) ∈ gw := gw_mem 539 (by decide +kernel) rfl
theorem w_552 : Cond.classLink RX11 162 RX0 ∈ gw := gw_mem 552 (by decide +kernel) rfl
theorem w_553 : Cond.instantiable RX0 11 ∈ gw := gw_mem 553 (by decide +kernel) rfl
theorem w_554 : Cond.methodLink RX11 164 yX0_init ∈ gw := gw_mem 554 (by decide +kernel) rfl
theorem w_555 : Cond.instanceMethod yX0_init ∈ gw := gw_mem 555 (by decide +kernel) rfl
theorem w_556 : Cond.code yX0_init cX0_init 6 (Option.none : Option Jvm.ClassFile.FieldType) ∈ gw := gw_mem 556 (by decide +kernel) rfl
theorem w_557 : Cond.methodLink RX0 3 objectInit ∈ gw := gw_mem 557 (by decide +kernel) rfl
theorem w_558 : Cond.classLink RX0 9 RJx4a65c ∈ gw := gw_mem 558 (by decide +kernel) rfl
theorem w_559 : Cond.methodLink RX0 11 yJx4a65c_init_da8c8 ∈ gw := gw_mem 559 (by decide +kernel) rfl
theorem w_560 : Cond.fieldLink RX0 35 "SleepOffice$Account" "number" "I" ∈ gw := gw_mem 560 (by decide +kernel) rfl
theorem w_561 : Cond.fieldLink RX11 167 "SleepOffice$Account" "number" "I" ∈ gw := gw_mem 561 (by decide +kernel) rfl
theorem w_562 : Cond.fieldLink RX0 38 "SleepOffice$Account" "firm" "LSleepOffice$Firm;" ∈ gw := gw_mem 562 (by decide +kernel) rfl
theorem w_563 : Cond.fieldLink RX11 265 "SleepOffice$Account" "firm" "LSleepOffice$Firm;" ∈ gw := gw_mem 563 (by decide +kernel) rfl
theorem w_564 : Cond.fieldLink RX0 42 "SleepOffice$Account" "kind" "I" ∈ gw := gw_mem 564 (by decide +kernel) rfl
theorem w_565 : Cond.fieldLink RX11 303 "SleepOffice$Account" "kind" "I" ∈ gw := gw_mem 565 (by decide +kernel) rfl
theorem w_566 : Cond.fieldLink RX0 45 "SleepOffice$Account" "owner" "LSleepOffice$Person;" ∈ gw := gw_mem 566 (by decide +kernel) rfl
theorem w_567 : Cond.fieldLink RX11 292 "SleepOffice$Account" "owner" "LSleepOffice$Person;" ∈ gw := gw_mem 567 (by decide +kernel) rfl
theorem w_568 : Cond.fieldLink RX0 49 "SleepOffice$Account" "began" "I" ∈ gw := gw_mem 568 (by decide +kernel) rfl
theorem w_569 : Cond.fieldLink RX11 199 "SleepOffice$Account" "began" "I" ∈ gw := gw_mem 569 (by decide +kernel) rfl
theorem w_570 : Cond.fieldLink RX0 12 "SleepOffice$Account" "entries" "Ljava/util/ArrayList;" ∈ gw := gw_mem 570 (by decide +kernel) rfl
theorem w_571 : Cond.fieldLink RX0 18 "SleepOffice$Account" "growths" "I" ∈ gw := gw_mem 571 (by decide +kernel) rfl
theorem w_572 : Cond.fieldLink RX11 187 "SleepOffice$Account" "growths" "I" ∈ gw := gw_mem 572 (by decide +kernel) rfl
theorem w_573 : Cond.fieldLink RX0 22 "SleepOffice$Account" "heldBy" "I" ∈ gw := gw_mem 573 (by decide +kernel) rfl
theorem w_574 : Cond.fieldLink RX11 272 "SleepOffice$Account" "heldBy" "I" ∈ gw := gw_mem 574 (by decide +kernel) rfl
theorem w_575 : Cond.fieldLink RX0 25 "SleepOffice$Account" "heldSum" "J" ∈ gw := gw_mem 575 (by decide +kernel) rfl
theorem w_576 : Cond.fieldLink RX11 275 "SleepOffice$Account" "heldSum" "J" ∈ gw := gw_mem 576 (by decide +kernel) rfl
theorem w_577 : Cond.fieldLink RX0 29 "SleepOffice$Account" "heldDay" "I" ∈ gw := gw_mem 577 (by decide +kernel) rfl
theorem w_578 : Cond.fieldLink RX11 279 "SleepOffice$Account" "heldDay" "I" ∈ gw := gw_mem 578 (by decide +kernel) rfl
theorem w_579 : Cond.fieldLink RX0 32 "SleepOffice$Account" "lateBy" "I" ∈ gw := gw_mem 579 (by decide +kernel) rfl
theorem w_580 : Cond.fieldLink RX11 282 "SleepOffice$Account" "lateBy" "I" ∈ gw := gw_mem 580 (by decide +kernel) rfl
theorem w_608 : Cond.methodLink RX11 168 yX11_accountAt ∈ gw := gw_mem 608 (by decide +kernel) rfl
theorem w_610 : Cond.instanceMethod yX11_accountAt ∈ gw := gw_mem 610 (by decide +kernel) rfl
theorem w_611 : Cond.code yX11_accountAt cX11_accountAt 2 (Option.some (Jvm.ClassFile.FieldType.object "SleepOffice$Account")) ∈ gw := gw_mem 611 (by decide +kernel) rfl
theorem w_612 : Cond.methodLink RX11 172 yX11_takesEntry ∈ gw := gw_mem 612 (by decide +kernel) rfl
theorem w_614 : Cond.instanceMethod yX11_takesEntry ∈ gw := gw_mem 614 (by decide +kernel) rfl
theorem w_615 : Cond.code yX11_takesEntry cX11_takesEntry 3 (Option.some Jvm.ClassFile.FieldType.boolean) ∈ gw := gw_mem 615 (by decide +kernel) rfl
theorem w_616 : Cond.constant RX11 176 (-9999999) ∈ gw := gw_mem 616 (by decide +kernel) rfl
theorem w_617 : Cond.constant RX11 177 9999999 ∈ gw := gw_mem 617 (by decide +kernel) rfl
theorem w_618 : Cond.classLink RX11 178 RX3 ∈ gw := gw_mem 618 (by decide +kernel) rfl
theorem w_619 : Cond.instantiable RX3 6 ∈ gw := gw_mem 619 (by decide +kernel) rfl
theorem w_620 : Cond.methodLink RX11 180 yX3_init ∈ gw := gw_mem 620 (by decide +kernel) rfl
theorem w_621 : Cond.instanceMethod yX3_init ∈ gw := gw_mem 621 (by decide +kernel) rfl
theorem w_622 : Cond.code yX3_init cX3_init 7 (Option.none : Option Jvm.ClassFile.FieldType) ∈ gw := gw_mem 622 (by decide +kernel) rfl
theorem w_623 : Cond.methodLink RX3 1 objectInit ∈ gw := gw_mem 623 (by decide +kernel) rfl
theorem w_624 : Cond.fieldLink RX3 7 "SleepOffice$Entry" "sort" "I" ∈ gw := gw_mem 624 (by decide +kernel) rfl
theorem w_625 : Cond.fieldLink RX0 73 "SleepOffice$Entry" "sort" "I" ∈ gw := gw_mem 625 (by decide +kernel) rfl
theorem w_626 : Cond.fieldLink RX3 13 "SleepOffice$Entry" "day" "I" ∈ gw := gw_mem 626 (by decide +kernel) rfl
theorem w_627 : Cond.fieldLink RX0 70 "SleepOffice$Entry" "day" "I" ∈ gw := gw_mem 627 (by decide +kernel) rfl
theorem w_628 : Cond.fieldLink RX3 16 "SleepOffice$Entry" "toldOn" "I" ∈ gw := gw_mem 628 (by decide +kernel) rfl
theorem w_629 : Cond.fieldLink RX0 76 "SleepOffice$Entry" "toldOn" "I" ∈ gw := gw_mem 629 (by decide +kernel) rfl
theorem w_630 : Cond.fieldLink RX3 19 "SleepOffice$Entry" "up" "I" ∈ gw := gw_mem 630 (by decide +kernel) rfl
theorem w_631 : Cond.fieldLink RX3 22 "SleepOffice$Entry" "by" "I" ∈ gw := gw_mem 631 (by decide +kernel) rfl
theorem w_632 : Cond.fieldLink RX3 25 "SleepOffice$Entry" "amount" "I" ∈ gw := gw_mem 632 (by decide +kernel) rfl
theorem w_646 : Cond.methodLink RX11 183 yX0_tell ∈ gw := gw_mem 646 (by decide +kernel) rfl
theorem w_647 : Cond.instanceMethod yX0_tell ∈ gw := gw_mem 647 (by decide +kernel) rfl
theorem w_648 : Cond.selects RX0 yX0_tell yX0_tell ∈ gw := gw_mem 648 (by decide +kernel) rfl
theorem w_649 : Cond.code yX0_tell cX0_tell 3 (Option.none : Option Jvm.ClassFile.FieldType) ∈ gw := gw_mem 649 (by decide +kernel) rfl
theorem w_650 : Cond.methodLink RX0 52 yJx4a65c_size_8abf5 ∈ gw := gw_mem 650 (by decide +kernel) rfl
theorem w_651 : Cond.methodLink RX0 56 yJx4a65c_get_915e3 ∈ gw := gw_mem 651 (by decide +kernel) rfl
theorem w_652 : Cond.classLink RX0 60 RX3 ∈ gw := gw_mem 652 (by decide +kernel) rfl
theorem w_653 : Cond.methodLink RX0 62 yX3_comesAhead ∈ gw := gw_mem 653 (by decide +kernel) rfl
theorem w_654 : Cond.instanceMethod yX3_comesAhead ∈ gw := gw_mem 654 (by decide +kernel) rfl
theorem w_655 : Cond.selects RX3 yX3_comesAhead yX3_comesAhead ∈ gw := gw_mem 655 (by decide +kernel) rfl
theorem w_656 : Cond.code yX3_comesAhead cX3_comesAhead 2 (Option.some Jvm.ClassFile.FieldType.boolean) ∈ gw := gw_mem 656 (by decide +kernel) rfl
theorem w_657 : Cond.methodLink RX0 66 yJx4a65c_add_7a177 ∈ gw := gw_mem 657 (by decide +kernel) rfl
theorem w_658 : Cond.instanceMethod yJx4a65c_add_7a177 ∈ gw := gw_mem 658 (by decide +kernel) rfl
theorem w_659 : Cond.selects RJx4a65c yJx4a65c_add_7a177 yJx4a65c_add_7a177 ∈ gw := gw_mem 659 (by decide +kernel) rfl
theorem w_660 : Cond.code yJx4a65c_add_7a177 cJx4a65c_add_7a177 5 (Option.none : Option Jvm.ClassFile.FieldType) ∈ gw := gw_mem 660 (by decide +kernel) rfl
theorem w_661 : Cond.methodLink RJx4a65c 135 yJx4a65c_rangeCheckForAdd_d00df ∈ gw := gw_mem 661 (by decide +kernel) rfl
theorem w_663 : Cond.instanceMethod yJx4a65c_rangeCheckForAdd_d00df ∈ gw := gw_mem 663 (by decide +kernel) rfl
theorem w_664 : Cond.code yJx4a65c_rangeCheckForAdd_d00df cJx4a65c_rangeCheckForAdd_d00df 2 (Option.none : Option Jvm.ClassFile.FieldType) ∈ gw := gw_mem 664 (by decide +kernel) rfl
theorem w_665 : Cond.methodLink RJx4a65c 112 ⟨"java/lang/System", "arraycopy", "(Ljava/lang/Object;ILjava/lang/Object;II)V"⟩ ∈ gw := gw_mem 665 (by decide +kernel) rfl
theorem w_670 : Cond.methodLink RX11 190 yX0_grewOn ∈ gw := gw_mem 670 (by decide +kernel) rfl
theorem w_671 : Cond.instanceMethod yX0_grewOn ∈ gw := gw_mem 671 (by decide +kernel) rfl
theorem w_672 : Cond.selects RX0 yX0_grewOn yX0_grewOn ∈ gw := gw_mem 672 (by decide +kernel) rfl
theorem w_673 : Cond.code yX0_grewOn cX0_grewOn 4 (Option.some Jvm.ClassFile.FieldType.boolean) ∈ gw := gw_mem 673 (by decide +kernel) rfl
theorem w_678 : Cond.constantLong RX11 193 (-1) ∈ gw := gw_mem 678 (by decide +kernel) rfl
theorem w_679 : Cond.methodLink RX11 195 yX0_askedSum ∈ gw := gw_mem 679 (by decide +kernel) rfl
theorem w_680 : Cond.instanceMethod yX0_askedSum ∈ gw := gw_mem 680 (by decide +kernel) rfl
theorem w_681 : Cond.selects RX0 yX0_askedSum yX0_askedSum ∈ gw := gw_mem 681 (by decide +kernel) rfl
theorem w_682 : Cond.code yX0_askedSum cX0_askedSum 7 (Option.some Jvm.ClassFile.FieldType.long) ∈ gw := gw_mem 682 (by decide +kernel) rfl
theorem w_683 : Cond.methodLink RX0 79 yX3_changed ∈ gw := gw_mem 683 (by decide +kernel) rfl
theorem w_684 : Cond.instanceMethod yX3_changed ∈ gw := gw_mem 684 (by decide +kernel) rfl
theorem w_685 : Cond.selects RX3 yX3_changed yX3_changed ∈ gw := gw_mem 685 (by decide +kernel) rfl
theorem w_686 : Cond.code yX3_changed cX3_changed 3 (Option.some Jvm.ClassFile.FieldType.long) ∈ gw := gw_mem 686 (by decide +kernel) rfl
theorem w_687 : Cond.methodLink RX3 28 yJ9_floorDiv_f86c9 ∈ gw := gw_mem 687 (by decide +kernel) rfl
theorem w_688 : Cond.static yJ9_floorDiv_f86c9 ∈ gw := gw_mem 688 (by decide +kernel) rfl
theorem w_689 : Cond.code yJ9_floorDiv_f86c9 cJ9_floorDiv_f86c9 6 (Option.some Jvm.ClassFile.FieldType.long) ∈ gw := gw_mem 689 (by decide +kernel) rfl
theorem w_690 : Cond.methodLink RX0 83 yJ9_max_f86c9 ∈ gw := gw_mem 690 (by decide +kernel) rfl
theorem w_691 : Cond.static yJ9_max_f86c9 ∈ gw := gw_mem 691 (by decide +kernel) rfl
theorem w_692 : Cond.code yJ9_max_f86c9 cJ9_max_f86c9 4 (Option.some Jvm.ClassFile.FieldType.long) ∈ gw := gw_mem 692 (by decide +kernel) rfl
theorem w_697 : Cond.methodLink RX11 202 yX11_putBytes ∈ gw := gw_mem 697 (by decide +kernel) rfl
theorem w_699 : Cond.instanceMethod yX11_putBytes ∈ gw := gw_mem 699 (by decide +kernel) rfl
theorem w_700 : Cond.code yX11_putBytes cX11_putBytes 3 (Option.none : Option Jvm.ClassFile.FieldType) ∈ gw := gw_mem 700 (by decide +kernel) rfl
theorem w_709 : Cond.classLink RX11 205 RX7 ∈ gw := gw_mem 709 (by decide +kernel) rfl
theorem w_710 : Cond.instantiable RX7 9 ∈ gw := gw_mem 710 (by decide +kernel) rfl
theorem w_711 : Cond.methodLink RX11 207 yX10_split ∈ gw := gw_mem 711 (by decide +kernel) rfl
theorem w_712 : Cond.static yX10_split ∈ gw := gw_mem 712 (by decide +kernel) rfl
theorem w_713 : Cond.code yX10_split cX10_split 6 (Option.some (Jvm.ClassFile.FieldType.object "java/util/ArrayList")) ∈ gw := gw_mem 713 (by decide +kernel) rfl
theorem w_714 : Cond.classLink RX10 19 RJx4a65c ∈ gw := gw_mem 714 (by decide +kernel) rfl
theorem w_715 : Cond.methodLink RX10 21 yJx4a65c_init_da8c8 ∈ gw := gw_mem 715 (by decide +kernel) rfl
theorem w_716 : Cond.methodLink RX10 22 yX10_byteAt ∈ gw := gw_mem 716 (by decide +kernel) rfl
theorem w_717 : Cond.static yX10_byteAt ∈ gw := gw_mem 717 (by decide +kernel) rfl
theorem w_718 : Cond.code yX10_byteAt cX10_byteAt 2 (Option.some Jvm.ClassFile.FieldType.int) ∈ gw := gw_mem 718 (by decide +kernel) rfl
theorem w_720 : Cond.methodLink RX10 26 yX10_wordEnd ∈ gw := gw_mem 720 (by decide +kernel) rfl
theorem w_721 : Cond.static yX10_wordEnd ∈ gw := gw_mem 721 (by decide +kernel) rfl
theorem w_722 : Cond.code yX10_wordEnd cX10_wordEnd 5 (Option.some Jvm.ClassFile.FieldType.int) ∈ gw := gw_mem 722 (by decide +kernel) rfl
theorem w_723 : Cond.methodLink RX10 30 yX10_isLetter ∈ gw := gw_mem 723 (by decide +kernel) rfl
theorem w_724 : Cond.static yX10_isLetter ∈ gw := gw_mem 724 (by decide +kernel) rfl
theorem w_725 : Cond.code yX10_isLetter cX10_isLetter 1 (Option.some Jvm.ClassFile.FieldType.boolean) ∈ gw := gw_mem 725 (by decide +kernel) rfl
theorem w_726 : Cond.methodLink RX10 44 yX10_isDigit ∈ gw := gw_mem 726 (by decide +kernel) rfl
theorem w_727 : Cond.static yX10_isDigit ∈ gw := gw_mem 727 (by decide +kernel) rfl
theorem w_728 : Cond.code yX10_isDigit cX10_isDigit 1 (Option.some Jvm.ClassFile.FieldType.boolean) ∈ gw := gw_mem 728 (by decide +kernel) rfl
theorem w_729 : Cond.classLink RX10 8 RX10 ∈ gw := gw_mem 729 (by decide +kernel) rfl
theorem w_730 : Cond.instantiable RX10 3 ∈ gw := gw_mem 730 (by decide +kernel) rfl
theorem w_731 : Cond.methodLink RX10 34 yX10_keyword ∈ gw := gw_mem 731 (by decide +kernel) rfl
theorem w_732 : Cond.static yX10_keyword ∈ gw := gw_mem 732 (by decide +kernel) rfl
theorem w_733 : Cond.code yX10_keyword cX10_keyword 4 (Option.some Jvm.ClassFile.FieldType.int) ∈ gw := gw_mem 733 (by decide +kernel) rfl
theorem w_734 : Cond.methodLink RX10 64 yX10_spelling ∈ gw := gw_mem 734 (by decide +kernel) rfl
theorem w_735 : Cond.static yX10_spelling ∈ gw := gw_mem 735 (by decide +kernel) rfl
theorem w_736 : Cond.code yX10_spelling cX10_spelling 1 (Option.some (Jvm.ClassFile.FieldType.object "java/lang/String")) ∈ gw := gw_mem 736 (by decide +kernel) rfl
theorem w_752 : Cond.methodLink RX10 68 yX10_isSpelled ∈ gw := gw_mem 752 (by decide +kernel) rfl
theorem w_753 : Cond.static yX10_isSpelled ∈ gw := gw_mem 753 (by decide +kernel) rfl
theorem w_754 : Cond.code yX10_isSpelled cX10_isSpelled 5 (Option.some Jvm.ClassFile.FieldType.boolean) ∈ gw := gw_mem 754 (by decide +kernel) rfl
theorem w_755 : Cond.methodLink RX10 72 yJ0_length_8abf5 ∈ gw := gw_mem 755 (by decide +kernel) rfl
theorem w_756 : Cond.instanceMethod yJ0_length_8abf5 ∈ gw := gw_mem 756 (by decide +kernel) rfl
theorem w_757 : Cond.selects RJ0 yJ0_length_8abf5 yJ0_length_8abf5 ∈ gw := gw_mem 757 (by decide +kernel) rfl
theorem w_758 : Cond.code yJ0_length_8abf5 cJ0_length_8abf5 1 (Option.some Jvm.ClassFile.FieldType.int) ∈ gw := gw_mem 758 (by decide +kernel) rfl
theorem w_765 : Cond.methodLink RX10 78 yJ0_charAt_5068e ∈ gw := gw_mem 765 (by decide +kernel) rfl
theorem w_766 : Cond.instanceMethod yJ0_charAt_5068e ∈ gw := gw_mem 766 (by decide +kernel) rfl
theorem w_767 : Cond.selects RJ0 yJ0_charAt_5068e yJ0_charAt_5068e ∈ gw := gw_mem 767 (by decide +kernel) rfl
theorem w_768 : Cond.code yJ0_charAt_5068e cJ0_charAt_5068e 2 (Option.some Jvm.ClassFile.FieldType.char) ∈ gw := gw_mem 768 (by decide +kernel) rfl
theorem w_801 : Cond.methodLink RX10 37 yX10_init ∈ gw := gw_mem 801 (by decide +kernel) rfl
theorem w_802 : Cond.instanceMethod yX10_init ∈ gw := gw_mem 802 (by decide +kernel) rfl
theorem w_803 : Cond.code yX10_init cX10_init 4 (Option.none : Option Jvm.ClassFile.FieldType) ∈ gw := gw_mem 803 (by decide +kernel) rfl
theorem w_804 : Cond.methodLink RX10 1 objectInit ∈ gw := gw_mem 804 (by decide +kernel) rfl
theorem w_805 : Cond.fieldLink RX10 7 "SleepOffice$Token" "sort" "I" ∈ gw := gw_mem 805 (by decide +kernel) rfl
theorem w_806 : Cond.fieldLink RX7 122 "SleepOffice$Token" "sort" "I" ∈ gw := gw_mem 806 (by decide +kernel) rfl
theorem w_807 : Cond.fieldLink RX10 13 "SleepOffice$Token" "place" "I" ∈ gw := gw_mem 807 (by decide +kernel) rfl
theorem w_808 : Cond.fieldLink RX7 123 "SleepOffice$Token" "place" "I" ∈ gw := gw_mem 808 (by decide +kernel) rfl
theorem w_809 : Cond.fieldLink RX10 16 "SleepOffice$Token" "value" "I" ∈ gw := gw_mem 809 (by decide +kernel) rfl
theorem w_810 : Cond.fieldLink RX7 124 "SleepOffice$Token" "value" "I" ∈ gw := gw_mem 810 (by decide +kernel) rfl
theorem w_818 : Cond.methodLink RX10 40 yJx4a65c_add_9ea2d ∈ gw := gw_mem 818 (by decide +kernel) rfl
theorem w_819 : Cond.methodLink RX10 47 yX10_number ∈ gw := gw_mem 819 (by decide +kernel) rfl
theorem w_820 : Cond.static yX10_number ∈ gw := gw_mem 820 (by decide +kernel) rfl
theorem w_821 : Cond.code yX10_number cX10_number 5 (Option.some (Jvm.ClassFile.FieldType.object "SleepOffice$Token")) ∈ gw := gw_mem 821 (by decide +kernel) rfl
theorem w_822 : Cond.methodLink RX10 51 yX10_isBlank ∈ gw := gw_mem 822 (by decide +kernel) rfl
theorem w_823 : Cond.static yX10_isBlank ∈ gw := gw_mem 823 (by decide +kernel) rfl
theorem w_824 : Cond.code yX10_isBlank cX10_isBlank 1 (Option.some Jvm.ClassFile.FieldType.boolean) ∈ gw := gw_mem 824 (by decide +kernel) rfl
theorem w_825 : Cond.methodLink RX10 54 yX10_signOf ∈ gw := gw_mem 825 (by decide +kernel) rfl
theorem w_826 : Cond.static yX10_signOf ∈ gw := gw_mem 826 (by decide +kernel) rfl
theorem w_827 : Cond.code yX10_signOf cX10_signOf 1 (Option.some Jvm.ClassFile.FieldType.int) ∈ gw := gw_mem 827 (by decide +kernel) rfl
theorem w_828 : Cond.methodLink RX10 58 yJ9_max_7cf53 ∈ gw := gw_mem 828 (by decide +kernel) rfl
theorem w_829 : Cond.methodLink RX11 213 yX7_init ∈ gw := gw_mem 829 (by decide +kernel) rfl
theorem w_830 : Cond.instanceMethod yX7_init ∈ gw := gw_mem 830 (by decide +kernel) rfl
theorem w_831 : Cond.code yX7_init cX7_init 2 (Option.none : Option Jvm.ClassFile.FieldType) ∈ gw := gw_mem 831 (by decide +kernel) rfl
theorem w_832 : Cond.methodLink RX7 3 objectInit ∈ gw := gw_mem 832 (by decide +kernel) rfl
theorem w_833 : Cond.classLink RX7 39 RX6 ∈ gw := gw_mem 833 (by decide +kernel) rfl
theorem w_834 : Cond.methodLink RX7 41 yJx4a65c_size_8abf5 ∈ gw := gw_mem 834 (by decide +kernel) rfl
theorem w_835 : Cond.methodLink RX7 47 yX6_init ∈ gw := gw_mem 835 (by decide +kernel) rfl
theorem w_836 : Cond.fieldLink RX7 50 "SleepOffice$LawReader" "law" "LSleepOffice$Law;" ∈ gw := gw_mem 836 (by decide +kernel) rfl
theorem w_837 : Cond.fieldLink RX11 225 "SleepOffice$LawReader" "law" "LSleepOffice$Law;" ∈ gw := gw_mem 837 (by decide +kernel) rfl
theorem w_838 : Cond.fieldLink RX7 9 "SleepOffice$LawReader" "fault" "I" ∈ gw := gw_mem 838 (by decide +kernel) rfl
theorem w_839 : Cond.fieldLink RX11 219 "SleepOffice$LawReader" "fault" "I" ∈ gw := gw_mem 839 (by decide +kernel) rfl
theorem w_840 : Cond.fieldLink RX7 15 "SleepOffice$LawReader" "faultPlace" "I" ∈ gw := gw_mem 840 (by decide +kernel) rfl
theorem w_841 : Cond.fieldLink RX11 222 "SleepOffice$LawReader" "faultPlace" "I" ∈ gw := gw_mem 841 (by decide +kernel) rfl
theorem w_842 : Cond.fieldLink RX7 35 "SleepOffice$LawReader" "tokens" "Ljava/util/ArrayList;" ∈ gw := gw_mem 842 (by decide +kernel) rfl
theorem w_843 : Cond.fieldLink RX7 18 "SleepOffice$LawReader" "next" "I" ∈ gw := gw_mem 843 (by decide +kernel) rfl
theorem w_844 : Cond.fieldLink RX7 23 "SleepOffice$LawReader" "sort" "I" ∈ gw := gw_mem 844 (by decide +kernel) rfl
theorem w_845 : Cond.fieldLink RX7 26 "SleepOffice$LawReader" "place" "I" ∈ gw := gw_mem 845 (by decide +kernel) rfl
theorem w_846 : Cond.fieldLink RX7 29 "SleepOffice$LawReader" "value" "I" ∈ gw := gw_mem 846 (by decide +kernel) rfl
theorem w_847 : Cond.fieldLink RX7 32 "SleepOffice$LawReader" "open" "I" ∈ gw := gw_mem 847 (by decide +kernel) rfl
theorem w_867 : Cond.methodLink RX11 216 yX7_readLines ∈ gw := gw_mem 867 (by decide +kernel) rfl
theorem w_868 : Cond.instanceMethod yX7_readLines ∈ gw := gw_mem 868 (by decide +kernel) rfl
theorem w_869 : Cond.selects RX7 yX7_readLines yX7_readLines ∈ gw := gw_mem 869 (by decide +kernel) rfl
theorem w_870 : Cond.code yX7_readLines cX7_readLines 2 (Option.none : Option Jvm.ClassFile.FieldType) ∈ gw := gw_mem 870 (by decide +kernel) rfl
theorem w_871 : Cond.methodLink RX7 54 yX7_advance ∈ gw := gw_mem 871 (by decide +kernel) rfl
theorem w_873 : Cond.instanceMethod yX7_advance ∈ gw := gw_mem 873 (by decide +kernel) rfl
theorem w_874 : Cond.code yX7_advance cX7_advance 2 (Option.none : Option Jvm.ClassFile.FieldType) ∈ gw := gw_mem 874 (by decide +kernel) rfl
theorem w_875 : Cond.methodLink RX7 118 yJx4a65c_get_915e3 ∈ gw := gw_mem 875 (by decide +kernel) rfl
theorem w_876 : Cond.classLink RX7 21 RX10 ∈ gw := gw_mem 876 (by decide +kernel) rfl
theorem w_877 : Cond.methodLink RX7 57 yX7_refuse ∈ gw := gw_mem 877 (by decide +kernel) rfl
theorem w_879 : Cond.instanceMethod yX7_refuse ∈ gw := gw_mem 879 (by decide +kernel) rfl
theorem w_880 : Cond.code yX7_refuse cX7_refuse 2 (Option.none : Option Jvm.ClassFile.FieldType) ∈ gw := gw_mem 880 (by decide +kernel) rfl
theorem w_881 : Cond.methodLink RX7 63 yX7_readLine ∈ gw := gw_mem 881 (by decide +kernel) rfl
theorem w_883 : Cond.instanceMethod yX7_readLine ∈ gw := gw_mem 883 (by decide +kernel) rfl
theorem w_884 : Cond.code yX7_readLine cX7_readLine 3 (Option.none : Option Jvm.ClassFile.FieldType) ∈ gw := gw_mem 884 (by decide +kernel) rfl
theorem w_885 : Cond.methodLink RX7 66 yX7_takeNumber ∈ gw := gw_mem 885 (by decide +kernel) rfl
theorem w_887 : Cond.instanceMethod yX7_takeNumber ∈ gw := gw_mem 887 (by decide +kernel) rfl
theorem w_888 : Cond.code yX7_takeNumber cX7_takeNumber 4 (Option.some Jvm.ClassFile.FieldType.int) ∈ gw := gw_mem 888 (by decide +kernel) rfl
theorem w_889 : Cond.methodLink RX7 70 yX6_setSleep ∈ gw := gw_mem 889 (by decide +kernel) rfl
theorem w_890 : Cond.instanceMethod yX6_setSleep ∈ gw := gw_mem 890 (by decide +kernel) rfl
theorem w_891 : Cond.selects RX6 yX6_setSleep yX6_setSleep ∈ gw := gw_mem 891 (by decide +kernel) rfl
theorem w_892 : Cond.code yX6_setSleep cX6_setSleep 3 (Option.none : Option Jvm.ClassFile.FieldType) ∈ gw := gw_mem 892 (by decide +kernel) rfl
theorem w_894 : Cond.methodLink RX7 89 yX7_readProof ∈ gw := gw_mem 894 (by decide +kernel) rfl
theorem w_896 : Cond.instanceMethod yX7_readProof ∈ gw := gw_mem 896 (by decide +kernel) rfl
theorem w_897 : Cond.code yX7_readProof cX7_readProof 1 (Option.none : Option Jvm.ClassFile.FieldType) ∈ gw := gw_mem 897 (by decide +kernel) rfl
theorem w_898 : Cond.methodLink RX7 95 yX7_readTerms ∈ gw := gw_mem 898 (by decide +kernel) rfl
theorem w_900 : Cond.instanceMethod yX7_readTerms ∈ gw := gw_mem 900 (by decide +kernel) rfl
theorem w_901 : Cond.code yX7_readTerms cX7_readTerms 3 (Option.none : Option Jvm.ClassFile.FieldType) ∈ gw := gw_mem 901 (by decide +kernel) rfl
theorem w_902 : Cond.methodLink RX7 111 yX7_readFactors ∈ gw := gw_mem 902 (by decide +kernel) rfl
theorem w_904 : Cond.instanceMethod yX7_readFactors ∈ gw := gw_mem 904 (by decide +kernel) rfl
theorem w_905 : Cond.code yX7_readFactors cX7_readFactors 3 (Option.none : Option Jvm.ClassFile.FieldType) ∈ gw := gw_mem 905 (by decide +kernel) rfl
theorem w_906 : Cond.methodLink RX7 114 yX7_readUnit ∈ gw := gw_mem 906 (by decide +kernel) rfl
theorem w_908 : Cond.instanceMethod yX7_readUnit ∈ gw := gw_mem 908 (by decide +kernel) rfl
theorem w_909 : Cond.code yX7_readUnit cX7_readUnit 1 (Option.none : Option Jvm.ClassFile.FieldType) ∈ gw := gw_mem 909 (by decide +kernel) rfl
theorem w_910 : Cond.methodLink RX7 101 yX6_addCode ∈ gw := gw_mem 910 (by decide +kernel) rfl
theorem w_911 : Cond.instanceMethod yX6_addCode ∈ gw := gw_mem 911 (by decide +kernel) rfl
theorem w_912 : Cond.selects RX6 yX6_addCode yX6_addCode ∈ gw := gw_mem 912 (by decide +kernel) rfl
theorem w_913 : Cond.code yX6_addCode cX6_addCode 2 (Option.none : Option Jvm.ClassFile.FieldType) ∈ gw := gw_mem 913 (by decide +kernel) rfl
theorem w_914 : Cond.methodLink RX7 107 yX7_opens ∈ gw := gw_mem 914 (by decide +kernel) rfl
theorem w_916 : Cond.instanceMethod yX7_opens ∈ gw := gw_mem 916 (by decide +kernel) rfl
theorem w_917 : Cond.code yX7_opens cX7_opens 1 (Option.some Jvm.ClassFile.FieldType.boolean) ∈ gw := gw_mem 917 (by decide +kernel) rfl
theorem w_918 : Cond.methodLink RX7 92 yX7_take ∈ gw := gw_mem 918 (by decide +kernel) rfl
theorem w_920 : Cond.instanceMethod yX7_take ∈ gw := gw_mem 920 (by decide +kernel) rfl
theorem w_921 : Cond.code yX7_take cX7_take 2 (Option.none : Option Jvm.ClassFile.FieldType) ∈ gw := gw_mem 921 (by decide +kernel) rfl
theorem w_922 : Cond.constant RX7 117 99999 ∈ gw := gw_mem 922 (by decide +kernel) rfl
theorem w_923 : Cond.methodLink RX7 98 yX7_readTests ∈ gw := gw_mem 923 (by decide +kernel) rfl
theorem w_925 : Cond.instanceMethod yX7_readTests ∈ gw := gw_mem 925 (by decide +kernel) rfl
theorem w_926 : Cond.code yX7_readTests cX7_readTests 4 (Option.none : Option Jvm.ClassFile.FieldType) ∈ gw := gw_mem 926 (by decide +kernel) rfl
theorem w_927 : Cond.methodLink RX7 104 yX7_readTest ∈ gw := gw_mem 927 (by decide +kernel) rfl
theorem w_929 : Cond.instanceMethod yX7_readTest ∈ gw := gw_mem 929 (by decide +kernel) rfl
theorem w_930 : Cond.code yX7_readTest cX7_readTest 2 (Option.none : Option Jvm.ClassFile.FieldType) ∈ gw := gw_mem 930 (by decide +kernel) rfl
theorem w_939 : Cond.methodLink RX11 231 yX11_lawOf ∈ gw := gw_mem 939 (by decide +kernel) rfl
theorem w_941 : Cond.instanceMethod yX11_lawOf ∈ gw := gw_mem 941 (by decide +kernel) rfl
theorem w_942 : Cond.code yX11_lawOf cX11_lawOf 2 (Option.some (Jvm.ClassFile.FieldType.object "SleepOffice$Law")) ∈ gw := gw_mem 942 (by decide +kernel) rfl
theorem w_943 : Cond.methodLink RX11 235 yX6_yearsOfSleep ∈ gw := gw_mem 943 (by decide +kernel) rfl
theorem w_944 : Cond.instanceMethod yX6_yearsOfSleep ∈ gw := gw_mem 944 (by decide +kernel) rfl
theorem w_945 : Cond.selects RX6 yX6_yearsOfSleep yX6_yearsOfSleep ∈ gw := gw_mem 945 (by decide +kernel) rfl
theorem w_946 : Cond.code yX6_yearsOfSleep cX6_yearsOfSleep 2 (Option.some Jvm.ClassFile.FieldType.int) ∈ gw := gw_mem 946 (by decide +kernel) rfl
theorem w_947 : Cond.methodLink RX11 239 yX6_sortsThatCount ∈ gw := gw_mem 947 (by decide +kernel) rfl
theorem w_948 : Cond.instanceMethod yX6_sortsThatCount ∈ gw := gw_mem 948 (by decide +kernel) rfl
theorem w_949 : Cond.selects RX6 yX6_sortsThatCount yX6_sortsThatCount ∈ gw := gw_mem 949 (by decide +kernel) rfl
theorem w_950 : Cond.code yX6_sortsThatCount cX6_sortsThatCount 1 (Option.some Jvm.ClassFile.FieldType.int) ∈ gw := gw_mem 950 (by decide +kernel) rfl
theorem w_955 : Cond.constant RX11 254 (-100000) ∈ gw := gw_mem 955 (by decide +kernel) rfl
theorem w_956 : Cond.methodLink RX11 255 yX11_owedOn ∈ gw := gw_mem 956 (by decide +kernel) rfl
theorem w_957 : Cond.static yX11_owedOn ∈ gw := gw_mem 957 (by decide +kernel) rfl
theorem w_958 : Cond.code yX11_owedOn cX11_owedOn 3 (Option.some Jvm.ClassFile.FieldType.int) ∈ gw := gw_mem 958 (by decide +kernel) rfl
theorem w_959 : Cond.methodLink RX11 259 yX11_sleepDay ∈ gw := gw_mem 959 (by decide +kernel) rfl
theorem w_961 : Cond.instanceMethod yX11_sleepDay ∈ gw := gw_mem 961 (by decide +kernel) rfl
theorem w_962 : Cond.code yX11_sleepDay cX11_sleepDay 4 (Option.some Jvm.ClassFile.FieldType.int) ∈ gw := gw_mem 962 (by decide +kernel) rfl
theorem w_963 : Cond.methodLink RX11 299 yX0_lastStir ∈ gw := gw_mem 963 (by decide +kernel) rfl
theorem w_964 : Cond.instanceMethod yX0_lastStir ∈ gw := gw_mem 964 (by decide +kernel) rfl
theorem w_965 : Cond.selects RX0 yX0_lastStir yX0_lastStir ∈ gw := gw_mem 965 (by decide +kernel) rfl
theorem w_966 : Cond.code yX0_lastStir cX0_lastStir 7 (Option.some Jvm.ClassFile.FieldType.int) ∈ gw := gw_mem 966 (by decide +kernel) rfl
theorem w_967 : Cond.methodLink RX0 89 yJ9_max_7cf53 ∈ gw := gw_mem 967 (by decide +kernel) rfl
theorem w_972 : Cond.methodLink RX11 262 yX0_isHeld ∈ gw := gw_mem 972 (by decide +kernel) rfl
theorem w_973 : Cond.instanceMethod yX0_isHeld ∈ gw := gw_mem 973 (by decide +kernel) rfl
theorem w_974 : Cond.selects RX0 yX0_isHeld yX0_isHeld ∈ gw := gw_mem 974 (by decide +kernel) rfl
theorem w_975 : Cond.code yX0_isHeld cX0_isHeld 1 (Option.some Jvm.ClassFile.FieldType.boolean) ∈ gw := gw_mem 975 (by decide +kernel) rfl
theorem w_976 : Cond.methodLink RX11 268 yX11_hold ∈ gw := gw_mem 976 (by decide +kernel) rfl
theorem w_978 : Cond.instanceMethod yX11_hold ∈ gw := gw_mem 978 (by decide +kernel) rfl
theorem w_979 : Cond.code yX11_hold cX11_hold 2 (Option.none : Option Jvm.ClassFile.FieldType) ∈ gw := gw_mem 979 (by decide +kernel) rfl
theorem w_984 : Cond.methodLink RX11 285 yX11_interestOf ∈ gw := gw_mem 984 (by decide +kernel) rfl
theorem w_986 : Cond.instanceMethod yX11_interestOf ∈ gw := gw_mem 986 (by decide +kernel) rfl
theorem w_987 : Cond.code yX11_interestOf cX11_interestOf 5 (Option.some Jvm.ClassFile.FieldType.long) ∈ gw := gw_mem 987 (by decide +kernel) rfl
theorem w_988 : Cond.methodLink RX11 306 yJ9_min_7cf53 ∈ gw := gw_mem 988 (by decide +kernel) rfl
theorem w_989 : Cond.constantLong RX11 311 360000 ∈ gw := gw_mem 989 (by decide +kernel) rfl
theorem w_990 : Cond.methodLink RX11 289 yX11_paidOf ∈ gw := gw_mem 990 (by decide +kernel) rfl
theorem w_992 : Cond.instanceMethod yX11_paidOf ∈ gw := gw_mem 992 (by decide +kernel) rfl
theorem w_993 : Cond.code yX11_paidOf cX11_paidOf 6 (Option.some Jvm.ClassFile.FieldType.long) ∈ gw := gw_mem 993 (by decide +kernel) rfl
theorem w_994 : Cond.classLink RX11 313 RX2 ∈ gw := gw_mem 994 (by decide +kernel) rfl
theorem w_999 : Cond.methodLink RX11 325 yX8_isBarredFrom ∈ gw := gw_mem 999 (by decide +kernel) rfl
theorem w_1000 : Cond.instanceMethod yX8_isBarredFrom ∈ gw := gw_mem 1000 (by decide +kernel) rfl
theorem w_1001 : Cond.selects RX8 yX8_isBarredFrom yX8_isBarredFrom ∈ gw := gw_mem 1001 (by decide +kernel) rfl
theorem w_1002 : Cond.code yX8_isBarredFrom cX8_isBarredFrom 2 (Option.some Jvm.ClassFile.FieldType.boolean) ∈ gw := gw_mem 1002 (by decide +kernel) rfl
theorem w_1003 : Cond.methodLink RX8 41 yX8_isKnownUnlike ∈ gw := gw_mem 1003 (by decide +kernel) rfl
theorem w_1004 : Cond.static yX8_isKnownUnlike ∈ gw := gw_mem 1004 (by decide +kernel) rfl
theorem w_1005 : Cond.code yX8_isKnownUnlike cX8_isKnownUnlike 2 (Option.some Jvm.ClassFile.FieldType.boolean) ∈ gw := gw_mem 1005 (by decide +kernel) rfl
theorem w_1006 : Cond.methodLink RX8 44 yX8_diedAheadOf ∈ gw := gw_mem 1006 (by decide +kernel) rfl
theorem w_1008 : Cond.instanceMethod yX8_diedAheadOf ∈ gw := gw_mem 1008 (by decide +kernel) rfl
theorem w_1009 : Cond.code yX8_diedAheadOf cX8_diedAheadOf 2 (Option.some Jvm.ClassFile.FieldType.boolean) ∈ gw := gw_mem 1009 (by decide +kernel) rfl
theorem w_1010 : Cond.methodLink RX11 329 yX8_pointsWith ∈ gw := gw_mem 1010 (by decide +kernel) rfl
theorem w_1011 : Cond.instanceMethod yX8_pointsWith ∈ gw := gw_mem 1011 (by decide +kernel) rfl
theorem w_1012 : Cond.selects RX8 yX8_pointsWith yX8_pointsWith ∈ gw := gw_mem 1012 (by decide +kernel) rfl
theorem w_1013 : Cond.code yX8_pointsWith cX8_pointsWith 3 (Option.some Jvm.ClassFile.FieldType.int) ∈ gw := gw_mem 1013 (by decide +kernel) rfl
theorem w_1014 : Cond.methodLink RX8 37 yX8_isKnownAlike ∈ gw := gw_mem 1014 (by decide +kernel) rfl
theorem w_1015 : Cond.static yX8_isKnownAlike ∈ gw := gw_mem 1015 (by decide +kernel) rfl
theorem w_1016 : Cond.code yX8_isKnownAlike cX8_isKnownAlike 2 (Option.some Jvm.ClassFile.FieldType.boolean) ∈ gw := gw_mem 1016 (by decide +kernel) rfl
theorem w_1021 : Cond.methodLink RX11 333 yX11_gather ∈ gw := gw_mem 1021 (by decide +kernel) rfl
theorem w_1023 : Cond.instanceMethod yX11_gather ∈ gw := gw_mem 1023 (by decide +kernel) rfl
theorem w_1024 : Cond.code yX11_gather cX11_gather 4 (Option.some Jvm.ClassFile.FieldType.boolean) ∈ gw := gw_mem 1024 (by decide +kernel) rfl
theorem w_1025 : Cond.methodLink RX11 353 yX5_clear ∈ gw := gw_mem 1025 (by decide +kernel) rfl
theorem w_1026 : Cond.instanceMethod yX5_clear ∈ gw := gw_mem 1026 (by decide +kernel) rfl
theorem w_1027 : Cond.selects RX5 yX5_clear yX5_clear ∈ gw := gw_mem 1027 (by decide +kernel) rfl
theorem w_1028 : Cond.code yX5_clear cX5_clear 1 (Option.none : Option Jvm.ClassFile.FieldType) ∈ gw := gw_mem 1028 (by decide +kernel) rfl
theorem w_1029 : Cond.methodLink RX11 356 yX5_seat ∈ gw := gw_mem 1029 (by decide +kernel) rfl
theorem w_1030 : Cond.instanceMethod yX5_seat ∈ gw := gw_mem 1030 (by decide +kernel) rfl
theorem w_1031 : Cond.selects RX5 yX5_seat yX5_seat ∈ gw := gw_mem 1031 (by decide +kernel) rfl
theorem w_1032 : Cond.code yX5_seat cX5_seat 2 (Option.some Jvm.ClassFile.FieldType.boolean) ∈ gw := gw_mem 1032 (by decide +kernel) rfl
theorem w_1034 : Cond.methodLink RX11 359 yX5_reckon ∈ gw := gw_mem 1034 (by decide +kernel) rfl
theorem w_1035 : Cond.instanceMethod yX5_reckon ∈ gw := gw_mem 1035 (by decide +kernel) rfl
theorem w_1036 : Cond.selects RX5 yX5_reckon yX5_reckon ∈ gw := gw_mem 1036 (by decide +kernel) rfl
theorem w_1037 : Cond.code yX5_reckon cX5_reckon 2 (Option.none : Option Jvm.ClassFile.FieldType) ∈ gw := gw_mem 1037 (by decide +kernel) rfl
theorem w_1038 : Cond.methodLink RX5 35 yX5_everybody ∈ gw := gw_mem 1038 (by decide +kernel) rfl
theorem w_1040 : Cond.instanceMethod yX5_everybody ∈ gw := gw_mem 1040 (by decide +kernel) rfl
theorem w_1041 : Cond.code yX5_everybody cX5_everybody 1 (Option.some Jvm.ClassFile.FieldType.int) ∈ gw := gw_mem 1041 (by decide +kernel) rfl
theorem w_1042 : Cond.methodLink RX5 39 yX5_worthOf ∈ gw := gw_mem 1042 (by decide +kernel) rfl
theorem w_1044 : Cond.instanceMethod yX5_worthOf ∈ gw := gw_mem 1044 (by decide +kernel) rfl
theorem w_1045 : Cond.code yX5_worthOf cX5_worthOf 7 (Option.some Jvm.ClassFile.FieldType.int) ∈ gw := gw_mem 1045 (by decide +kernel) rfl
theorem w_1046 : Cond.methodLink RX5 47 yX5_pairWorth ∈ gw := gw_mem 1046 (by decide +kernel) rfl
theorem w_1048 : Cond.instanceMethod yX5_pairWorth ∈ gw := gw_mem 1048 (by decide +kernel) rfl
theorem w_1049 : Cond.code yX5_pairWorth cX5_pairWorth 5 (Option.some Jvm.ClassFile.FieldType.int) ∈ gw := gw_mem 1049 (by decide +kernel) rfl
theorem w_1050 : Cond.methodLink RX5 51 yX8_isBarredFrom ∈ gw := gw_mem 1050 (by decide +kernel) rfl
theorem w_1051 : Cond.methodLink RX5 55 yX8_pointsWith ∈ gw := gw_mem 1051 (by decide +kernel) rfl
theorem w_1052 : Cond.methodLink RX5 43 yX5_part ∈ gw := gw_mem 1052 (by decide +kernel) rfl
theorem w_1054 : Cond.instanceMethod yX5_part ∈ gw := gw_mem 1054 (by decide +kernel) rfl
theorem w_1055 : Cond.code yX5_part cX5_part 10 (Option.none : Option Jvm.ClassFile.FieldType) ∈ gw := gw_mem 1055 (by decide +kernel) rfl
theorem w_1056 : Cond.methodLink RX11 336 yX5_greatestWorth ∈ gw := gw_mem 1056 (by decide +kernel) rfl
theorem w_1057 : Cond.instanceMethod yX5_greatestWorth ∈ gw := gw_mem 1057 (by decide +kernel) rfl
theorem w_1058 : Cond.selects RX5 yX5_greatestWorth yX5_greatestWorth ∈ gw := gw_mem 1058 (by decide +kernel) rfl
theorem w_1059 : Cond.code yX5_greatestWorth cX5_greatestWorth 1 (Option.some Jvm.ClassFile.FieldType.int) ∈ gw := gw_mem 1059 (by decide +kernel) rfl
theorem w_1060 : Cond.methodLink RX11 339 yX5_countBest ∈ gw := gw_mem 1060 (by decide +kernel) rfl
theorem w_1061 : Cond.instanceMethod yX5_countBest ∈ gw := gw_mem 1061 (by decide +kernel) rfl
theorem w_1062 : Cond.selects RX5 yX5_countBest yX5_countBest ∈ gw := gw_mem 1062 (by decide +kernel) rfl
theorem w_1063 : Cond.code yX5_countBest cX5_countBest 1 (Option.some Jvm.ClassFile.FieldType.int) ∈ gw := gw_mem 1063 (by decide +kernel) rfl
theorem w_1068 : Cond.methodLink RX11 342 yX5_seatBit ∈ gw := gw_mem 1068 (by decide +kernel) rfl
theorem w_1069 : Cond.instanceMethod yX5_seatBit ∈ gw := gw_mem 1069 (by decide +kernel) rfl
theorem w_1070 : Cond.selects RX5 yX5_seatBit yX5_seatBit ∈ gw := gw_mem 1070 (by decide +kernel) rfl
theorem w_1071 : Cond.code yX5_seatBit cX5_seatBit 3 (Option.some Jvm.ClassFile.FieldType.int) ∈ gw := gw_mem 1071 (by decide +kernel) rfl
theorem w_1072 : Cond.methodLink RX11 345 yJ6_bitCount_0f7a4 ∈ gw := gw_mem 1072 (by decide +kernel) rfl
theorem w_1073 : Cond.static yJ6_bitCount_0f7a4 ∈ gw := gw_mem 1073 (by decide +kernel) rfl
theorem w_1074 : Cond.code yJ6_bitCount_0f7a4 cJ6_bitCount_0f7a4 1 (Option.some Jvm.ClassFile.FieldType.int) ∈ gw := gw_mem 1074 (by decide +kernel) rfl
theorem w_1075 : Cond.constant RJ6 265 1431655765 ∈ gw := gw_mem 1075 (by decide +kernel) rfl
theorem w_1076 : Cond.constant RJ6 266 858993459 ∈ gw := gw_mem 1076 (by decide +kernel) rfl
theorem w_1077 : Cond.constant RJ6 267 252645135 ∈ gw := gw_mem 1077 (by decide +kernel) rfl
theorem w_1078 : Cond.methodLink RX11 350 yX5_countBestWith ∈ gw := gw_mem 1078 (by decide +kernel) rfl
theorem w_1079 : Cond.instanceMethod yX5_countBestWith ∈ gw := gw_mem 1079 (by decide +kernel) rfl
theorem w_1080 : Cond.selects RX5 yX5_countBestWith yX5_countBestWith ∈ gw := gw_mem 1080 (by decide +kernel) rfl
theorem w_1081 : Cond.code yX5_countBestWith cX5_countBestWith 7 (Option.some Jvm.ClassFile.FieldType.int) ∈ gw := gw_mem 1081 (by decide +kernel) rfl
theorem w_1086 : Cond.methodLink RX11 362 yX11_countHeirs ∈ gw := gw_mem 1086 (by decide +kernel) rfl
theorem w_1088 : Cond.instanceMethod yX11_countHeirs ∈ gw := gw_mem 1088 (by decide +kernel) rfl
theorem w_1089 : Cond.code yX11_countHeirs cX11_countHeirs 4 (Option.some Jvm.ClassFile.FieldType.int) ∈ gw := gw_mem 1089 (by decide +kernel) rfl
theorem w_1090 : Cond.methodLink RX11 365 yX11_partsFor ∈ gw := gw_mem 1090 (by decide +kernel) rfl
theorem w_1091 : Cond.static yX11_partsFor ∈ gw := gw_mem 1091 (by decide +kernel) rfl
theorem w_1092 : Cond.code yX11_partsFor cX11_partsFor 5 (Option.some Jvm.ClassFile.FieldType.int) ∈ gw := gw_mem 1092 (by decide +kernel) rfl
theorem w_1101 : Cond.instantiable RX2 7 ∈ gw := gw_mem 1101 (by decide +kernel) rfl
theorem w_1102 : Cond.methodLink RX11 373 yX2_init ∈ gw := gw_mem 1102 (by decide +kernel) rfl
theorem w_1103 : Cond.instanceMethod yX2_init ∈ gw := gw_mem 1103 (by decide +kernel) rfl
theorem w_1104 : Cond.code yX2_init cX2_init 5 (Option.none : Option Jvm.ClassFile.FieldType) ∈ gw := gw_mem 1104 (by decide +kernel) rfl
theorem w_1105 : Cond.methodLink RX2 1 objectInit ∈ gw := gw_mem 1105 (by decide +kernel) rfl
theorem w_1106 : Cond.fieldLink RX2 20 "SleepOffice$Claim" "person" "LSleepOffice$Person;" ∈ gw := gw_mem 1106 (by decide +kernel) rfl
theorem w_1107 : Cond.fieldLink RX11 380 "SleepOffice$Claim" "person" "LSleepOffice$Person;" ∈ gw := gw_mem 1107 (by decide +kernel) rfl
theorem w_1108 : Cond.fieldLink RX2 24 "SleepOffice$Claim" "account" "LSleepOffice$Account;" ∈ gw := gw_mem 1108 (by decide +kernel) rfl
theorem w_1109 : Cond.fieldLink RX11 315 "SleepOffice$Claim" "account" "LSleepOffice$Account;" ∈ gw := gw_mem 1109 (by decide +kernel) rfl
theorem w_1110 : Cond.fieldLink RX2 28 "SleepOffice$Claim" "points" "I" ∈ gw := gw_mem 1110 (by decide +kernel) rfl
theorem w_1111 : Cond.fieldLink RX11 423 "SleepOffice$Claim" "points" "I" ∈ gw := gw_mem 1111 (by decide +kernel) rfl
theorem w_1112 : Cond.fieldLink RX2 31 "SleepOffice$Claim" "fee" "I" ∈ gw := gw_mem 1112 (by decide +kernel) rfl
theorem w_1113 : Cond.fieldLink RX11 401 "SleepOffice$Claim" "fee" "I" ∈ gw := gw_mem 1113 (by decide +kernel) rfl
theorem w_1114 : Cond.fieldLink RX2 9 "SleepOffice$Claim" "standing" "I" ∈ gw := gw_mem 1114 (by decide +kernel) rfl
theorem w_1115 : Cond.fieldLink RX11 319 "SleepOffice$Claim" "standing" "I" ∈ gw := gw_mem 1115 (by decide +kernel) rfl
theorem w_1116 : Cond.fieldLink RX2 13 "SleepOffice$Claim" "paid" "J" ∈ gw := gw_mem 1116 (by decide +kernel) rfl
theorem w_1117 : Cond.fieldLink RX11 322 "SleepOffice$Claim" "paid" "J" ∈ gw := gw_mem 1117 (by decide +kernel) rfl
theorem w_1118 : Cond.fieldLink RX2 17 "SleepOffice$Claim" "toFinder" "J" ∈ gw := gw_mem 1118 (by decide +kernel) rfl
theorem w_1119 : Cond.fieldLink RX11 391 "SleepOffice$Claim" "toFinder" "J" ∈ gw := gw_mem 1119 (by decide +kernel) rfl
theorem w_1139 : Cond.methodLink RX11 376 yX11_claimAt ∈ gw := gw_mem 1139 (by decide +kernel) rfl
theorem w_1141 : Cond.instanceMethod yX11_claimAt ∈ gw := gw_mem 1141 (by decide +kernel) rfl
theorem w_1142 : Cond.code yX11_claimAt cX11_claimAt 2 (Option.some (Jvm.ClassFile.FieldType.object "SleepOffice$Claim")) ∈ gw := gw_mem 1142 (by decide +kernel) rfl
theorem w_1143 : Cond.methodLink RX11 383 yX11_pointsAsked ∈ gw := gw_mem 1143 (by decide +kernel) rfl
theorem w_1145 : Cond.instanceMethod yX11_pointsAsked ∈ gw := gw_mem 1145 (by decide +kernel) rfl
theorem w_1146 : Cond.code yX11_pointsAsked cX11_pointsAsked 3 (Option.some Jvm.ClassFile.FieldType.int) ∈ gw := gw_mem 1146 (by decide +kernel) rfl
theorem w_1147 : Cond.constantLong RX11 404 2147483647 ∈ gw := gw_mem 1147 (by decide +kernel) rfl
theorem w_1148 : Cond.methodLink RX11 406 yJ9_min_f86c9 ∈ gw := gw_mem 1148 (by decide +kernel) rfl
theorem w_1149 : Cond.static yJ9_min_f86c9 ∈ gw := gw_mem 1149 (by decide +kernel) rfl
theorem w_1150 : Cond.code yJ9_min_f86c9 cJ9_min_f86c9 4 (Option.some Jvm.ClassFile.FieldType.long) ∈ gw := gw_mem 1150 (by decide +kernel) rfl
theorem w_1151 : Cond.methodLink RX11 419 yX9_greatest ∈ gw := gw_mem 1151 (by decide +kernel) rfl
theorem w_1152 : Cond.instanceMethod yX9_greatest ∈ gw := gw_mem 1152 (by decide +kernel) rfl
theorem w_1153 : Cond.selects RX9 yX9_greatest yX9_greatest ∈ gw := gw_mem 1153 (by decide +kernel) rfl
theorem w_1154 : Cond.code yX9_greatest cX9_greatest 6 (Option.some Jvm.ClassFile.FieldType.int) ∈ gw := gw_mem 1154 (by decide +kernel) rfl
theorem w_1155 : Cond.methodLink RX9 32 yX6_codeLength ∈ gw := gw_mem 1155 (by decide +kernel) rfl
theorem w_1156 : Cond.instanceMethod yX6_codeLength ∈ gw := gw_mem 1156 (by decide +kernel) rfl
theorem w_1157 : Cond.selects RX6 yX6_codeLength yX6_codeLength ∈ gw := gw_mem 1157 (by decide +kernel) rfl
theorem w_1158 : Cond.code yX6_codeLength cX6_codeLength 1 (Option.some Jvm.ClassFile.FieldType.int) ∈ gw := gw_mem 1158 (by decide +kernel) rfl
theorem w_1159 : Cond.methodLink RX9 38 yX6_codeAt ∈ gw := gw_mem 1159 (by decide +kernel) rfl
theorem w_1160 : Cond.instanceMethod yX6_codeAt ∈ gw := gw_mem 1160 (by decide +kernel) rfl
theorem w_1161 : Cond.selects RX6 yX6_codeAt yX6_codeAt ∈ gw := gw_mem 1161 (by decide +kernel) rfl
theorem w_1162 : Cond.code yX6_codeAt cX6_codeAt 2 (Option.some Jvm.ClassFile.FieldType.int) ∈ gw := gw_mem 1162 (by decide +kernel) rfl
theorem w_1163 : Cond.methodLink RX9 42 yX9_push ∈ gw := gw_mem 1163 (by decide +kernel) rfl
theorem w_1165 : Cond.instanceMethod yX9_push ∈ gw := gw_mem 1165 (by decide +kernel) rfl
theorem w_1166 : Cond.code yX9_push cX9_push 2 (Option.none : Option Jvm.ClassFile.FieldType) ∈ gw := gw_mem 1166 (by decide +kernel) rfl
theorem w_1168 : Cond.methodLink RX9 48 yX9_endLine ∈ gw := gw_mem 1168 (by decide +kernel) rfl
theorem w_1170 : Cond.instanceMethod yX9_endLine ∈ gw := gw_mem 1170 (by decide +kernel) rfl
theorem w_1171 : Cond.code yX9_endLine cX9_endLine 4 (Option.none : Option Jvm.ClassFile.FieldType) ∈ gw := gw_mem 1171 (by decide +kernel) rfl
theorem w_1172 : Cond.methodLink RX9 54 yX9_pop ∈ gw := gw_mem 1172 (by decide +kernel) rfl
theorem w_1174 : Cond.instanceMethod yX9_pop ∈ gw := gw_mem 1174 (by decide +kernel) rfl
theorem w_1175 : Cond.code yX9_pop cX9_pop 1 (Option.some Jvm.ClassFile.FieldType.int) ∈ gw := gw_mem 1175 (by decide +kernel) rfl
theorem w_1176 : Cond.methodLink RX9 61 yJ9_max_7cf53 ∈ gw := gw_mem 1176 (by decide +kernel) rfl
theorem w_1177 : Cond.methodLink RX9 51 yX9_named ∈ gw := gw_mem 1177 (by decide +kernel) rfl
theorem w_1179 : Cond.instanceMethod yX9_named ∈ gw := gw_mem 1179 (by decide +kernel) rfl
theorem w_1180 : Cond.code yX9_named cX9_named 2 (Option.some Jvm.ClassFile.FieldType.int) ∈ gw := gw_mem 1180 (by decide +kernel) rfl
theorem w_1181 : Cond.methodLink RX9 57 yX9_combined ∈ gw := gw_mem 1181 (by decide +kernel) rfl
theorem w_1182 : Cond.static yX9_combined ∈ gw := gw_mem 1182 (by decide +kernel) rfl
theorem w_1183 : Cond.code yX9_combined cX9_combined 3 (Option.some Jvm.ClassFile.FieldType.int) ∈ gw := gw_mem 1183 (by decide +kernel) rfl
theorem w_1184 : Cond.methodLink RX11 387 yX11_isGood ∈ gw := gw_mem 1184 (by decide +kernel) rfl
theorem w_1186 : Cond.instanceMethod yX11_isGood ∈ gw := gw_mem 1186 (by decide +kernel) rfl
theorem w_1187 : Cond.code yX11_isGood cX11_isGood 2 (Option.some Jvm.ClassFile.FieldType.boolean) ∈ gw := gw_mem 1187 (by decide +kernel) rfl
theorem w_1188 : Cond.methodLink RX11 397 yX11_partsOf ∈ gw := gw_mem 1188 (by decide +kernel) rfl
theorem w_1189 : Cond.static yX11_partsOf ∈ gw := gw_mem 1189 (by decide +kernel) rfl
theorem w_1190 : Cond.code yX11_partsOf cX11_partsOf 2 (Option.some Jvm.ClassFile.FieldType.int) ∈ gw := gw_mem 1190 (by decide +kernel) rfl
theorem w_1195 : Cond.methodLink RX11 394 yX11_wasPaidBefore ∈ gw := gw_mem 1195 (by decide +kernel) rfl
theorem w_1197 : Cond.instanceMethod yX11_wasPaidBefore ∈ gw := gw_mem 1197 (by decide +kernel) rfl
theorem w_1198 : Cond.code yX11_wasPaidBefore cX11_wasPaidBefore 4 (Option.some Jvm.ClassFile.FieldType.boolean) ∈ gw := gw_mem 1198 (by decide +kernel) rfl
theorem w_1199 : Cond.constantLong RX11 402 100 ∈ gw := gw_mem 1199 (by decide +kernel) rfl
theorem w_1208 : Cond.constant RX11 426 1000000 ∈ gw := gw_mem 1208 (by decide +kernel) rfl
theorem w_1209 : Cond.methodLink RX11 427 yX4_setFigure ∈ gw := gw_mem 1209 (by decide +kernel) rfl
theorem w_1210 : Cond.instanceMethod yX4_setFigure ∈ gw := gw_mem 1210 (by decide +kernel) rfl
theorem w_1211 : Cond.selects RX4 yX4_setFigure yX4_setFigure ∈ gw := gw_mem 1211 (by decide +kernel) rfl
theorem w_1212 : Cond.code yX4_setFigure cX4_setFigure 3 (Option.some Jvm.ClassFile.FieldType.boolean) ∈ gw := gw_mem 1212 (by decide +kernel) rfl
theorem w_1222 : Cond.methodLink RX11 430 yX11_spanEnd ∈ gw := gw_mem 1222 (by decide +kernel) rfl
theorem w_1223 : Cond.static yX11_spanEnd ∈ gw := gw_mem 1223 (by decide +kernel) rfl
theorem w_1224 : Cond.code yX11_spanEnd cX11_spanEnd 4 (Option.some Jvm.ClassFile.FieldType.int) ∈ gw := gw_mem 1224 (by decide +kernel) rfl
theorem w_1225 : Cond.methodLink RX11 437 yX4_greatestIn ∈ gw := gw_mem 1225 (by decide +kernel) rfl
theorem w_1226 : Cond.instanceMethod yX4_greatestIn ∈ gw := gw_mem 1226 (by decide +kernel) rfl
theorem w_1227 : Cond.selects RX4 yX4_greatestIn yX4_greatestIn ∈ gw := gw_mem 1227 (by decide +kernel) rfl
theorem w_1228 : Cond.code yX4_greatestIn cX4_greatestIn 2 (Option.some Jvm.ClassFile.FieldType.int) ∈ gw := gw_mem 1228 (by decide +kernel) rfl
theorem w_1229 : Cond.methodLink RX4 33 yX4_figureAhead ∈ gw := gw_mem 1229 (by decide +kernel) rfl
theorem w_1231 : Cond.instanceMethod yX4_figureAhead ∈ gw := gw_mem 1231 (by decide +kernel) rfl
theorem w_1232 : Cond.code yX4_figureAhead cX4_figureAhead 3 (Option.some Jvm.ClassFile.FieldType.int) ∈ gw := gw_mem 1232 (by decide +kernel) rfl
theorem w_1233 : Cond.methodLink RX4 37 yX4_figureBehind ∈ gw := gw_mem 1233 (by decide +kernel) rfl
theorem w_1235 : Cond.instanceMethod yX4_figureBehind ∈ gw := gw_mem 1235 (by decide +kernel) rfl
theorem w_1236 : Cond.code yX4_figureBehind cX4_figureBehind 3 (Option.some Jvm.ClassFile.FieldType.int) ∈ gw := gw_mem 1236 (by decide +kernel) rfl
theorem w_1237 : Cond.methodLink RX4 46 yJ9_max_7cf53 ∈ gw := gw_mem 1237 (by decide +kernel) rfl
theorem w_1238 : Cond.methodLink RX11 434 yX4_leastIn ∈ gw := gw_mem 1238 (by decide +kernel) rfl
theorem w_1239 : Cond.instanceMethod yX4_leastIn ∈ gw := gw_mem 1239 (by decide +kernel) rfl
theorem w_1240 : Cond.selects RX4 yX4_leastIn yX4_leastIn ∈ gw := gw_mem 1240 (by decide +kernel) rfl
theorem w_1241 : Cond.code yX4_leastIn cX4_leastIn 4 (Option.some Jvm.ClassFile.FieldType.int) ∈ gw := gw_mem 1241 (by decide +kernel) rfl
theorem w_1242 : Cond.methodLink RX4 40 yJ9_min_7cf53 ∈ gw := gw_mem 1242 (by decide +kernel) rfl
theorem w_1247 : Cond.methodLink RX11 440 yX1_choose ∈ gw := gw_mem 1247 (by decide +kernel) rfl
theorem w_1248 : Cond.instanceMethod yX1_choose ∈ gw := gw_mem 1248 (by decide +kernel) rfl
theorem w_1249 : Cond.selects RX1 yX1_choose yX1_choose ∈ gw := gw_mem 1249 (by decide +kernel) rfl
theorem w_1250 : Cond.code yX1_choose cX1_choose 7 (Option.none : Option Jvm.ClassFile.FieldType) ∈ gw := gw_mem 1250 (by decide +kernel) rfl
theorem w_1251 : Cond.methodLink RX1 30 yX4_isGap ∈ gw := gw_mem 1251 (by decide +kernel) rfl
theorem w_1252 : Cond.instanceMethod yX4_isGap ∈ gw := gw_mem 1252 (by decide +kernel) rfl
theorem w_1253 : Cond.selects RX4 yX4_isGap yX4_isGap ∈ gw := gw_mem 1253 (by decide +kernel) rfl
theorem w_1254 : Cond.code yX4_isGap cX4_isGap 2 (Option.some Jvm.ClassFile.FieldType.boolean) ∈ gw := gw_mem 1254 (by decide +kernel) rfl
theorem w_1255 : Cond.methodLink RX1 36 yX4_greatestIn ∈ gw := gw_mem 1255 (by decide +kernel) rfl
theorem w_1256 : Cond.methodLink RX1 40 yX4_leastIn ∈ gw := gw_mem 1256 (by decide +kernel) rfl
theorem w_1257 : Cond.methodLink RX1 43 yX1_addGap ∈ gw := gw_mem 1257 (by decide +kernel) rfl
theorem w_1259 : Cond.instanceMethod yX1_addGap ∈ gw := gw_mem 1259 (by decide +kernel) rfl
theorem w_1260 : Cond.code yX1_addGap cX1_addGap 6 (Option.none : Option Jvm.ClassFile.FieldType) ∈ gw := gw_mem 1260 (by decide +kernel) rfl
theorem w_1262 : Cond.methodLink RX1 47 yX1_closeRun ∈ gw := gw_mem 1262 (by decide +kernel) rfl
theorem w_1264 : Cond.instanceMethod yX1_closeRun ∈ gw := gw_mem 1264 (by decide +kernel) rfl
theorem w_1265 : Cond.code yX1_closeRun cX1_closeRun 3 (Option.none : Option Jvm.ClassFile.FieldType) ∈ gw := gw_mem 1265 (by decide +kernel) rfl
theorem w_1266 : Cond.methodLink RX1 51 yX1_search ∈ gw := gw_mem 1266 (by decide +kernel) rfl
theorem w_1268 : Cond.instanceMethod yX1_search ∈ gw := gw_mem 1268 (by decide +kernel) rfl
theorem w_1269 : Cond.code yX1_search cX1_search 6 (Option.none : Option Jvm.ClassFile.FieldType) ∈ gw := gw_mem 1269 (by decide +kernel) rfl
theorem w_1270 : Cond.methodLink RX1 71 yJ9_max_f86c9 ∈ gw := gw_mem 1270 (by decide +kernel) rfl
theorem w_1271 : Cond.methodLink RX11 444 yX1_chosenSet ∈ gw := gw_mem 1271 (by decide +kernel) rfl
theorem w_1272 : Cond.instanceMethod yX1_chosenSet ∈ gw := gw_mem 1272 (by decide +kernel) rfl
theorem w_1273 : Cond.selects RX1 yX1_chosenSet yX1_chosenSet ∈ gw := gw_mem 1273 (by decide +kernel) rfl
theorem w_1274 : Cond.code yX1_chosenSet cX1_chosenSet 1 (Option.some Jvm.ClassFile.FieldType.int) ∈ gw := gw_mem 1274 (by decide +kernel) rfl
theorem w_1275 : Cond.methodLink RX1 57 yX1_takenOff ∈ gw := gw_mem 1275 (by decide +kernel) rfl
theorem w_1277 : Cond.instanceMethod yX1_takenOff ∈ gw := gw_mem 1277 (by decide +kernel) rfl
theorem w_1278 : Cond.code yX1_takenOff cX1_takenOff 1 (Option.some Jvm.ClassFile.FieldType.long) ∈ gw := gw_mem 1278 (by decide +kernel) rfl
theorem w_1279 : Cond.methodLink RX1 63 yX1_chosenGain ∈ gw := gw_mem 1279 (by decide +kernel) rfl
theorem w_1280 : Cond.instanceMethod yX1_chosenGain ∈ gw := gw_mem 1280 (by decide +kernel) rfl
theorem w_1281 : Cond.selects RX1 yX1_chosenGain yX1_chosenGain ∈ gw := gw_mem 1281 (by decide +kernel) rfl
theorem w_1282 : Cond.code yX1_chosenGain cX1_chosenGain 1 (Option.some Jvm.ClassFile.FieldType.int) ∈ gw := gw_mem 1282 (by decide +kernel) rfl
theorem w_1283 : Cond.constantLong RX1 55 2147483648 ∈ gw := gw_mem 1283 (by decide +kernel) rfl
theorem w_1284 : Cond.constantLong RX1 61 1048575 ∈ gw := gw_mem 1284 (by decide +kernel) rfl
theorem w_1285 : Cond.methodLink RX11 447 yX1_chosenGain ∈ gw := gw_mem 1285 (by decide +kernel) rfl
theorem w_1286 : Cond.methodLink RX11 450 yX1_chosenCost ∈ gw := gw_mem 1286 (by decide +kernel) rfl
theorem w_1287 : Cond.instanceMethod yX1_chosenCost ∈ gw := gw_mem 1287 (by decide +kernel) rfl
theorem w_1288 : Cond.selects RX1 yX1_chosenCost yX1_chosenCost ∈ gw := gw_mem 1288 (by decide +kernel) rfl
theorem w_1289 : Cond.code yX1_chosenCost cX1_chosenCost 1 (Option.some Jvm.ClassFile.FieldType.int) ∈ gw := gw_mem 1289 (by decide +kernel) rfl
theorem w_1294 : Cond.methodLink RX11 453 yX11_countHeld ∈ gw := gw_mem 1294 (by decide +kernel) rfl
theorem w_1296 : Cond.instanceMethod yX11_countHeld ∈ gw := gw_mem 1296 (by decide +kernel) rfl
theorem w_1297 : Cond.code yX11_countHeld cX11_countHeld 3 (Option.some Jvm.ClassFile.FieldType.int) ∈ gw := gw_mem 1297 (by decide +kernel) rfl
theorem w_1298 : Cond.methodLink RX11 456 yX11_sumHeld ∈ gw := gw_mem 1298 (by decide +kernel) rfl
theorem w_1300 : Cond.instanceMethod yX11_sumHeld ∈ gw := gw_mem 1300 (by decide +kernel) rfl
theorem w_1301 : Cond.code yX11_sumHeld cX11_sumHeld 4 (Option.some Jvm.ClassFile.FieldType.long) ∈ gw := gw_mem 1301 (by decide +kernel) rfl
theorem w_1302 : Cond.methodLink RX11 460 yX11_sumPaid ∈ gw := gw_mem 1302 (by decide +kernel) rfl
theorem w_1304 : Cond.instanceMethod yX11_sumPaid ∈ gw := gw_mem 1304 (by decide +kernel) rfl
theorem w_1305 : Cond.code yX11_sumPaid cX11_sumPaid 4 (Option.some Jvm.ClassFile.FieldType.long) ∈ gw := gw_mem 1305 (by decide +kernel) rfl
theorem w_1311 : Cond.methodLink RX12 1 objectInit ∈ gw := gw_mem 1311 (by decide +kernel) rfl
theorem w_1312 : Cond.methodLink RX12 193 yX12_clears ∈ gw := gw_mem 1312 (by decide +kernel) rfl
theorem w_1314 : Cond.instanceMethod yX12_clears ∈ gw := gw_mem 1314 (by decide +kernel) rfl
theorem w_1315 : Cond.code yX12_clears cX12_clears 3 (Option.none : Option Jvm.ClassFile.FieldType) ∈ gw := gw_mem 1315 (by decide +kernel) rfl
theorem w_1316 : Cond.fieldLink RX12 197 "SleepOfficeModel" "now" "I" ∈ gw := gw_mem 1316 (by decide +kernel) rfl
theorem w_1317 : Cond.fieldLink RX12 204 "SleepOfficeModel" "firms" "I" ∈ gw := gw_mem 1317 (by decide +kernel) rfl
theorem w_1318 : Cond.fieldLink RX12 207 "SleepOfficeModel" "persons" "I" ∈ gw := gw_mem 1318 (by decide +kernel) rfl
theorem w_1319 : Cond.fieldLink RX12 210 "SleepOfficeModel" "accounts" "I" ∈ gw := gw_mem 1319 (by decide +kernel) rfl
theorem w_1320 : Cond.fieldLink RX12 234 "SleepOfficeModel" "acts" "I" ∈ gw := gw_mem 1320 (by decide +kernel) rfl
theorem w_1321 : Cond.fieldLink RX12 7 "SleepOfficeModel" "firmState" "[I" ∈ gw := gw_mem 1321 (by decide +kernel) rfl
theorem w_1322 : Cond.fieldLink RX12 13 "SleepOfficeModel" "mergedInto" "[I" ∈ gw := gw_mem 1322 (by decide +kernel) rfl
theorem w_1323 : Cond.fieldLink RX12 16 "SleepOfficeModel" "mergedOn" "[I" ∈ gw := gw_mem 1323 (by decide +kernel) rfl
theorem w_1324 : Cond.fieldLink RX12 19 "SleepOfficeModel" "name" "[I" ∈ gw := gw_mem 1324 (by decide +kernel) rfl
theorem w_1325 : Cond.fieldLink RX12 22 "SleepOfficeModel" "born" "[I" ∈ gw := gw_mem 1325 (by decide +kernel) rfl
theorem w_1326 : Cond.fieldLink RX12 25 "SleepOfficeModel" "home" "[I" ∈ gw := gw_mem 1326 (by decide +kernel) rfl
theorem w_1327 : Cond.fieldLink RX12 28 "SleepOfficeModel" "mark" "[I" ∈ gw := gw_mem 1327 (by decide +kernel) rfl
theorem w_1328 : Cond.fieldLink RX12 31 "SleepOfficeModel" "parent" "[I" ∈ gw := gw_mem 1328 (by decide +kernel) rfl
theorem w_1329 : Cond.fieldLink RX12 34 "SleepOfficeModel" "died" "[I" ∈ gw := gw_mem 1329 (by decide +kernel) rfl
theorem w_1330 : Cond.fieldLink RX12 37 "SleepOfficeModel" "accountFirm" "[I" ∈ gw := gw_mem 1330 (by decide +kernel) rfl
theorem w_1331 : Cond.fieldLink RX12 40 "SleepOfficeModel" "accountKind" "[I" ∈ gw := gw_mem 1331 (by decide +kernel) rfl
theorem w_1332 : Cond.fieldLink RX12 43 "SleepOfficeModel" "owner" "[I" ∈ gw := gw_mem 1332 (by decide +kernel) rfl
theorem w_1333 : Cond.fieldLink RX12 46 "SleepOfficeModel" "began" "[I" ∈ gw := gw_mem 1333 (by decide +kernel) rfl
theorem w_1334 : Cond.fieldLink RX12 49 "SleepOfficeModel" "actOf" "[I" ∈ gw := gw_mem 1334 (by decide +kernel) rfl
theorem w_1335 : Cond.fieldLink RX12 52 "SleepOfficeModel" "actSort" "[I" ∈ gw := gw_mem 1335 (by decide +kernel) rfl
theorem w_1336 : Cond.fieldLink RX12 55 "SleepOfficeModel" "actOn" "[I" ∈ gw := gw_mem 1336 (by decide +kernel) rfl
theorem w_1337 : Cond.fieldLink RX12 58 "SleepOfficeModel" "actAmount" "[I" ∈ gw := gw_mem 1337 (by decide +kernel) rfl
theorem w_1338 : Cond.fieldLink RX12 61 "SleepOfficeModel" "actBy" "[I" ∈ gw := gw_mem 1338 (by decide +kernel) rfl
theorem w_1339 : Cond.fieldLink RX12 64 "SleepOfficeModel" "actTold" "[I" ∈ gw := gw_mem 1339 (by decide +kernel) rfl
theorem w_1340 : Cond.fieldLink RX12 67 "SleepOfficeModel" "sleepYears" "[I" ∈ gw := gw_mem 1340 (by decide +kernel) rfl
theorem w_1341 : Cond.fieldLink RX12 70 "SleepOfficeModel" "counting" "[I" ∈ gw := gw_mem 1341 (by decide +kernel) rfl
theorem w_1342 : Cond.fieldLink RX12 73 "SleepOfficeModel" "letter" "[I" ∈ gw := gw_mem 1342 (by decide +kernel) rfl
theorem w_1343 : Cond.fieldLink RX12 76 "SleepOfficeModel" "fee" "[I" ∈ gw := gw_mem 1343 (by decide +kernel) rfl
theorem w_1344 : Cond.fieldLink RX12 79 "SleepOfficeModel" "interestBy" "[I" ∈ gw := gw_mem 1344 (by decide +kernel) rfl
theorem w_1345 : Cond.fieldLink RX12 82 "SleepOfficeModel" "interestFor" "[I" ∈ gw := gw_mem 1345 (by decide +kernel) rfl
theorem w_1346 : Cond.fieldLink RX12 85 "SleepOfficeModel" "proofs" "[I" ∈ gw := gw_mem 1346 (by decide +kernel) rfl
theorem w_1347 : Cond.fieldLink RX12 88 "SleepOfficeModel" "from" "[I" ∈ gw := gw_mem 1347 (by decide +kernel) rfl
theorem w_1348 : Cond.fieldLink RX12 91 "SleepOfficeModel" "when" "[I" ∈ gw := gw_mem 1348 (by decide +kernel) rfl
theorem w_1349 : Cond.fieldLink RX12 94 "SleepOfficeModel" "step" "[I" ∈ gw := gw_mem 1349 (by decide +kernel) rfl
theorem w_1350 : Cond.fieldLink RX12 97 "SleepOfficeModel" "freshSort" "[I" ∈ gw := gw_mem 1350 (by decide +kernel) rfl
theorem w_1351 : Cond.fieldLink RX12 100 "SleepOfficeModel" "freshA" "[I" ∈ gw := gw_mem 1351 (by decide +kernel) rfl
theorem w_1352 : Cond.fieldLink RX12 103 "SleepOfficeModel" "freshB" "[I" ∈ gw := gw_mem 1352 (by decide +kernel) rfl
theorem w_1353 : Cond.fieldLink RX12 106 "SleepOfficeModel" "freshFrom" "[I" ∈ gw := gw_mem 1353 (by decide +kernel) rfl
theorem w_1354 : Cond.fieldLink RX12 109 "SleepOfficeModel" "freshWhen" "[I" ∈ gw := gw_mem 1354 (by decide +kernel) rfl
theorem w_1355 : Cond.fieldLink RX12 112 "SleepOfficeModel" "fresh" "[I" ∈ gw := gw_mem 1355 (by decide +kernel) rfl
theorem w_1356 : Cond.fieldLink RX12 115 "SleepOfficeModel" "tape" "[I" ∈ gw := gw_mem 1356 (by decide +kernel) rfl
theorem w_1357 : Cond.fieldLink RX12 118 "SleepOfficeModel" "pile" "[I" ∈ gw := gw_mem 1357 (by decide +kernel) rfl
theorem w_1358 : Cond.fieldLink RX12 382 "SleepOfficeModel" "freshLines" "I" ∈ gw := gw_mem 1358 (by decide +kernel) rfl
theorem w_1359 : Cond.fieldLink RX12 341 "SleepOfficeModel" "freshSteps" "I" ∈ gw := gw_mem 1359 (by decide +kernel) rfl
theorem w_1360 : Cond.fieldLink RX12 259 "SleepOfficeModel" "taped" "I" ∈ gw := gw_mem 1360 (by decide +kernel) rfl
theorem w_1361 : Cond.fieldLink RX12 262 "SleepOfficeModel" "at" "I" ∈ gw := gw_mem 1361 (by decide +kernel) rfl
theorem w_1362 : Cond.fieldLink RX12 311 "SleepOfficeModel" "token" "I" ∈ gw := gw_mem 1362 (by decide +kernel) rfl
theorem w_1363 : Cond.fieldLink RX12 265 "SleepOfficeModel" "tokenAt" "I" ∈ gw := gw_mem 1363 (by decide +kernel) rfl
theorem w_1364 : Cond.fieldLink RX12 323 "SleepOfficeModel" "value" "I" ∈ gw := gw_mem 1364 (by decide +kernel) rfl
theorem w_1365 : Cond.fieldLink RX12 326 "SleepOfficeModel" "wrong" "I" ∈ gw := gw_mem 1365 (by decide +kernel) rfl
theorem w_1366 : Cond.fieldLink RX12 329 "SleepOfficeModel" "wrongAt" "I" ∈ gw := gw_mem 1366 (by decide +kernel) rfl
theorem w_1367 : Cond.fieldLink RX12 391 "SleepOfficeModel" "faultKind" "I" ∈ gw := gw_mem 1367 (by decide +kernel) rfl
theorem w_1368 : Cond.fieldLink RX12 344 "SleepOfficeModel" "depth" "I" ∈ gw := gw_mem 1368 (by decide +kernel) rfl
theorem w_1369 : Cond.fieldLink RX12 338 "SleepOfficeModel" "number" "I" ∈ gw := gw_mem 1369 (by decide +kernel) rfl
theorem w_1370 : Cond.fieldLink RX12 121 "SleepOfficeModel" "faultPlace" "I" ∈ gw := gw_mem 1370 (by decide +kernel) rfl
theorem w_1371 : Cond.fieldLink RX12 125 "SleepOfficeModel" "facts" "[I" ∈ gw := gw_mem 1371 (by decide +kernel) rfl
theorem w_1372 : Cond.fieldLink RX12 128 "SleepOfficeModel" "heldBy" "[I" ∈ gw := gw_mem 1372 (by decide +kernel) rfl
theorem w_1373 : Cond.fieldLink RX12 131 "SleepOfficeModel" "heldOn" "[I" ∈ gw := gw_mem 1373 (by decide +kernel) rfl
theorem w_1374 : Cond.fieldLink RX12 134 "SleepOfficeModel" "late" "[I" ∈ gw := gw_mem 1374 (by decide +kernel) rfl
theorem w_1375 : Cond.fieldLink RX12 137 "SleepOfficeModel" "held" "[J" ∈ gw := gw_mem 1375 (by decide +kernel) rfl
theorem w_1376 : Cond.fieldLink RX12 141 "SleepOfficeModel" "inSet" "[I" ∈ gw := gw_mem 1376 (by decide +kernel) rfl
theorem w_1377 : Cond.fieldLink RX12 144 "SleepOfficeModel" "group" "[I" ∈ gw := gw_mem 1377 (by decide +kernel) rfl
theorem w_1378 : Cond.fieldLink RX12 147 "SleepOfficeModel" "together" "[I" ∈ gw := gw_mem 1378 (by decide +kernel) rfl
theorem w_1379 : Cond.fieldLink RX12 435 "SleepOfficeModel" "setMany" "I" ∈ gw := gw_mem 1379 (by decide +kernel) rfl
theorem w_1380 : Cond.fieldLink RX12 448 "SleepOfficeModel" "bestWorth" "I" ∈ gw := gw_mem 1380 (by decide +kernel) rfl
theorem w_1381 : Cond.fieldLink RX12 445 "SleepOfficeModel" "bestMany" "I" ∈ gw := gw_mem 1381 (by decide +kernel) rfl
theorem w_1382 : Cond.fieldLink RX12 150 "SleepOfficeModel" "hasLine" "[Z" ∈ gw := gw_mem 1382 (by decide +kernel) rfl
theorem w_1383 : Cond.fieldLink RX12 154 "SleepOfficeModel" "above" "[J" ∈ gw := gw_mem 1383 (by decide +kernel) rfl
theorem w_1384 : Cond.fieldLink RX12 157 "SleepOfficeModel" "below" "[J" ∈ gw := gw_mem 1384 (by decide +kernel) rfl
theorem w_1385 : Cond.fieldLink RX12 411 "SleepOfficeModel" "claims" "I" ∈ gw := gw_mem 1385 (by decide +kernel) rfl
theorem w_1386 : Cond.fieldLink RX12 160 "SleepOfficeModel" "claimBy" "[I" ∈ gw := gw_mem 1386 (by decide +kernel) rfl
theorem w_1387 : Cond.fieldLink RX12 163 "SleepOfficeModel" "claimOn" "[I" ∈ gw := gw_mem 1387 (by decide +kernel) rfl
theorem w_1388 : Cond.fieldLink RX12 166 "SleepOfficeModel" "claimPoints" "[I" ∈ gw := gw_mem 1388 (by decide +kernel) rfl
theorem w_1389 : Cond.fieldLink RX12 169 "SleepOfficeModel" "claimFee" "[I" ∈ gw := gw_mem 1389 (by decide +kernel) rfl
theorem w_1390 : Cond.fieldLink RX12 172 "SleepOfficeModel" "claimState" "[I" ∈ gw := gw_mem 1390 (by decide +kernel) rfl
theorem w_1391 : Cond.fieldLink RX12 175 "SleepOfficeModel" "paid" "[J" ∈ gw := gw_mem 1391 (by decide +kernel) rfl
theorem w_1392 : Cond.fieldLink RX12 178 "SleepOfficeModel" "toFinder" "[J" ∈ gw := gw_mem 1392 (by decide +kernel) rfl
theorem w_1393 : Cond.fieldLink RX12 181 "SleepOfficeModel" "figures" "[I" ∈ gw := gw_mem 1393 (by decide +kernel) rfl
theorem w_1394 : Cond.fieldLink RX12 184 "SleepOfficeModel" "cost" "[I" ∈ gw := gw_mem 1394 (by decide +kernel) rfl
theorem w_1395 : Cond.fieldLink RX12 187 "SleepOfficeModel" "most" "[I" ∈ gw := gw_mem 1395 (by decide +kernel) rfl
theorem w_1396 : Cond.fieldLink RX12 190 "SleepOfficeModel" "mostSet" "[I" ∈ gw := gw_mem 1396 (by decide +kernel) rfl
theorem w_1560 : Cond.arrayClass FieldType.boolean ∈ gw := gw_mem 1560 (by decide +kernel) rfl
theorem w_1565 : Cond.methodLink RX12 200 yX12_isIn ∈ gw := gw_mem 1565 (by decide +kernel) rfl
theorem w_1566 : Cond.static yX12_isIn ∈ gw := gw_mem 1566 (by decide +kernel) rfl
theorem w_1567 : Cond.code yX12_isIn cX12_isIn 3 (Option.some Jvm.ClassFile.FieldType.boolean) ∈ gw := gw_mem 1567 (by decide +kernel) rfl
theorem w_1572 : Cond.methodLink RX12 213 yX12_isState ∈ gw := gw_mem 1572 (by decide +kernel) rfl
theorem w_1573 : Cond.static yX12_isState ∈ gw := gw_mem 1573 (by decide +kernel) rfl
theorem w_1574 : Cond.code yX12_isState cX12_isState 1 (Option.some Jvm.ClassFile.FieldType.boolean) ∈ gw := gw_mem 1574 (by decide +kernel) rfl
theorem w_1579 : Cond.methodLink RX12 217 yX12_isFirm ∈ gw := gw_mem 1579 (by decide +kernel) rfl
theorem w_1581 : Cond.instanceMethod yX12_isFirm ∈ gw := gw_mem 1581 (by decide +kernel) rfl
theorem w_1582 : Cond.code yX12_isFirm cX12_isFirm 2 (Option.some Jvm.ClassFile.FieldType.boolean) ∈ gw := gw_mem 1582 (by decide +kernel) rfl
theorem w_1583 : Cond.methodLink RX12 220 yX12_isPast ∈ gw := gw_mem 1583 (by decide +kernel) rfl
theorem w_1585 : Cond.instanceMethod yX12_isPast ∈ gw := gw_mem 1585 (by decide +kernel) rfl
theorem w_1586 : Cond.code yX12_isPast cX12_isPast 2 (Option.some Jvm.ClassFile.FieldType.boolean) ∈ gw := gw_mem 1586 (by decide +kernel) rfl
theorem w_1587 : Cond.methodLink RX12 223 yX12_isMerged ∈ gw := gw_mem 1587 (by decide +kernel) rfl
theorem w_1589 : Cond.instanceMethod yX12_isMerged ∈ gw := gw_mem 1589 (by decide +kernel) rfl
theorem w_1590 : Cond.code yX12_isMerged cX12_isMerged 3 (Option.some Jvm.ClassFile.FieldType.boolean) ∈ gw := gw_mem 1590 (by decide +kernel) rfl
theorem w_1595 : Cond.methodLink RX12 227 yX12_firmOf ∈ gw := gw_mem 1595 (by decide +kernel) rfl
theorem w_1597 : Cond.instanceMethod yX12_firmOf ∈ gw := gw_mem 1597 (by decide +kernel) rfl
theorem w_1598 : Cond.code yX12_firmOf cX12_firmOf 4 (Option.some Jvm.ClassFile.FieldType.int) ∈ gw := gw_mem 1598 (by decide +kernel) rfl
theorem w_1603 : Cond.methodLink RX12 231 yX12_isPerson ∈ gw := gw_mem 1603 (by decide +kernel) rfl
theorem w_1605 : Cond.instanceMethod yX12_isPerson ∈ gw := gw_mem 1605 (by decide +kernel) rfl
theorem w_1606 : Cond.code yX12_isPerson cX12_isPerson 2 (Option.some Jvm.ClassFile.FieldType.boolean) ∈ gw := gw_mem 1606 (by decide +kernel) rfl
theorem w_1623 : Cond.methodLink RX12 237 yX12_isAccount ∈ gw := gw_mem 1623 (by decide +kernel) rfl
theorem w_1625 : Cond.instanceMethod yX12_isAccount ∈ gw := gw_mem 1625 (by decide +kernel) rfl
theorem w_1626 : Cond.code yX12_isAccount cX12_isAccount 2 (Option.some Jvm.ClassFile.FieldType.boolean) ∈ gw := gw_mem 1626 (by decide +kernel) rfl
theorem w_1627 : Cond.constant RX12 240 (-9999999) ∈ gw := gw_mem 1627 (by decide +kernel) rfl
theorem w_1628 : Cond.constant RX12 241 9999999 ∈ gw := gw_mem 1628 (by decide +kernel) rfl
theorem w_1629 : Cond.methodLink RX12 242 yX12_tells ∈ gw := gw_mem 1629 (by decide +kernel) rfl
theorem w_1631 : Cond.instanceMethod yX12_tells ∈ gw := gw_mem 1631 (by decide +kernel) rfl
theorem w_1632 : Cond.code yX12_tells cX12_tells 6 (Option.none : Option Jvm.ClassFile.FieldType) ∈ gw := gw_mem 1632 (by decide +kernel) rfl
theorem w_1641 : Cond.methodLink RX12 254 yX12_sumNow ∈ gw := gw_mem 1641 (by decide +kernel) rfl
theorem w_1643 : Cond.instanceMethod yX12_sumNow ∈ gw := gw_mem 1643 (by decide +kernel) rfl
theorem w_1644 : Cond.code yX12_sumNow cX12_sumNow 6 (Option.some Jvm.ClassFile.FieldType.long) ∈ gw := gw_mem 1644 (by decide +kernel) rfl
theorem w_1645 : Cond.methodLink RX12 250 yX12_sumOf ∈ gw := gw_mem 1645 (by decide +kernel) rfl
theorem w_1647 : Cond.instanceMethod yX12_sumOf ∈ gw := gw_mem 1647 (by decide +kernel) rfl
theorem w_1648 : Cond.code yX12_sumOf cX12_sumOf 12 (Option.some Jvm.ClassFile.FieldType.long) ∈ gw := gw_mem 1648 (by decide +kernel) rfl
theorem w_1649 : Cond.methodLink RX12 246 yX12_nextDay ∈ gw := gw_mem 1649 (by decide +kernel) rfl
theorem w_1651 : Cond.instanceMethod yX12_nextDay ∈ gw := gw_mem 1651 (by decide +kernel) rfl
theorem w_1652 : Cond.code yX12_nextDay cX12_nextDay 6 (Option.some Jvm.ClassFile.FieldType.int) ∈ gw := gw_mem 1652 (by decide +kernel) rfl
theorem w_1653 : Cond.constantLong RX12 257 (-1) ∈ gw := gw_mem 1653 (by decide +kernel) rfl
theorem w_1666 : Cond.methodLink RX12 335 yX12_next0 ∈ gw := gw_mem 1666 (by decide +kernel) rfl
theorem w_1668 : Cond.instanceMethod yX12_next0 ∈ gw := gw_mem 1668 (by decide +kernel) rfl
theorem w_1669 : Cond.code yX12_next0 cX12_next0 3 (Option.none : Option Jvm.ClassFile.FieldType) ∈ gw := gw_mem 1669 (by decide +kernel) rfl
theorem w_1670 : Cond.methodLink RX12 307 yX12_see ∈ gw := gw_mem 1670 (by decide +kernel) rfl
theorem w_1672 : Cond.instanceMethod yX12_see ∈ gw := gw_mem 1672 (by decide +kernel) rfl
theorem w_1673 : Cond.code yX12_see cX12_see 2 (Option.some Jvm.ClassFile.FieldType.int) ∈ gw := gw_mem 1673 (by decide +kernel) rfl
theorem w_1674 : Cond.methodLink RX12 314 yX12_isLetter ∈ gw := gw_mem 1674 (by decide +kernel) rfl
theorem w_1675 : Cond.static yX12_isLetter ∈ gw := gw_mem 1675 (by decide +kernel) rfl
theorem w_1676 : Cond.code yX12_isLetter cX12_isLetter 1 (Option.some Jvm.ClassFile.FieldType.boolean) ∈ gw := gw_mem 1676 (by decide +kernel) rfl
theorem w_1677 : Cond.methodLink RX12 317 yX12_word ∈ gw := gw_mem 1677 (by decide +kernel) rfl
theorem w_1679 : Cond.instanceMethod yX12_word ∈ gw := gw_mem 1679 (by decide +kernel) rfl
theorem w_1680 : Cond.code yX12_word cX12_word 1 (Option.some Jvm.ClassFile.FieldType.int) ∈ gw := gw_mem 1680 (by decide +kernel) rfl
theorem w_1682 : Cond.methodLink RX12 280 yX12_is ∈ gw := gw_mem 1682 (by decide +kernel) rfl
theorem w_1684 : Cond.instanceMethod yX12_is ∈ gw := gw_mem 1684 (by decide +kernel) rfl
theorem w_1685 : Cond.code yX12_is cX12_is 4 (Option.some Jvm.ClassFile.FieldType.boolean) ∈ gw := gw_mem 1685 (by decide +kernel) rfl
theorem w_1686 : Cond.methodLink RX12 268 yJ0_length_8abf5 ∈ gw := gw_mem 1686 (by decide +kernel) rfl
theorem w_1687 : Cond.methodLink RX12 274 yJ0_charAt_5068e ∈ gw := gw_mem 1687 (by decide +kernel) rfl
theorem w_1701 : Cond.methodLink RX12 320 yX12_isDigit ∈ gw := gw_mem 1701 (by decide +kernel) rfl
theorem w_1702 : Cond.static yX12_isDigit ∈ gw := gw_mem 1702 (by decide +kernel) rfl
theorem w_1703 : Cond.code yX12_isDigit cX12_isDigit 1 (Option.some Jvm.ClassFile.FieldType.boolean) ∈ gw := gw_mem 1703 (by decide +kernel) rfl
theorem w_1704 : Cond.methodLink RX12 388 yX12_aLine ∈ gw := gw_mem 1704 (by decide +kernel) rfl
theorem w_1706 : Cond.instanceMethod yX12_aLine ∈ gw := gw_mem 1706 (by decide +kernel) rfl
theorem w_1707 : Cond.code yX12_aLine cX12_aLine 2 (Option.some Jvm.ClassFile.FieldType.boolean) ∈ gw := gw_mem 1707 (by decide +kernel) rfl
theorem w_1708 : Cond.methodLink RX12 332 yX12_bad ∈ gw := gw_mem 1708 (by decide +kernel) rfl
theorem w_1710 : Cond.instanceMethod yX12_bad ∈ gw := gw_mem 1710 (by decide +kernel) rfl
theorem w_1711 : Cond.code yX12_bad cX12_bad 2 (Option.some Jvm.ClassFile.FieldType.boolean) ∈ gw := gw_mem 1711 (by decide +kernel) rfl
theorem w_1712 : Cond.methodLink RX12 385 yX12_inner ∈ gw := gw_mem 1712 (by decide +kernel) rfl
theorem w_1714 : Cond.instanceMethod yX12_inner ∈ gw := gw_mem 1714 (by decide +kernel) rfl
theorem w_1715 : Cond.code yX12_inner cX12_inner 2 (Option.some Jvm.ClassFile.FieldType.boolean) ∈ gw := gw_mem 1715 (by decide +kernel) rfl
theorem w_1716 : Cond.methodLink RX12 376 yX12_two ∈ gw := gw_mem 1716 (by decide +kernel) rfl
theorem w_1718 : Cond.instanceMethod yX12_two ∈ gw := gw_mem 1718 (by decide +kernel) rfl
theorem w_1719 : Cond.code yX12_two cX12_two 4 (Option.some Jvm.ClassFile.FieldType.boolean) ∈ gw := gw_mem 1719 (by decide +kernel) rfl
theorem w_1720 : Cond.methodLink RX12 373 yX12_aNumber ∈ gw := gw_mem 1720 (by decide +kernel) rfl
theorem w_1722 : Cond.instanceMethod yX12_aNumber ∈ gw := gw_mem 1722 (by decide +kernel) rfl
theorem w_1723 : Cond.code yX12_aNumber cX12_aNumber 2 (Option.some Jvm.ClassFile.FieldType.boolean) ∈ gw := gw_mem 1723 (by decide +kernel) rfl
theorem w_1724 : Cond.methodLink RX12 361 yX12_sumUp ∈ gw := gw_mem 1724 (by decide +kernel) rfl
theorem w_1726 : Cond.instanceMethod yX12_sumUp ∈ gw := gw_mem 1726 (by decide +kernel) rfl
theorem w_1727 : Cond.code yX12_sumUp cX12_sumUp 2 (Option.some Jvm.ClassFile.FieldType.boolean) ∈ gw := gw_mem 1727 (by decide +kernel) rfl
theorem w_1728 : Cond.methodLink RX12 347 yX12_product ∈ gw := gw_mem 1728 (by decide +kernel) rfl
theorem w_1730 : Cond.instanceMethod yX12_product ∈ gw := gw_mem 1730 (by decide +kernel) rfl
theorem w_1731 : Cond.code yX12_product cX12_product 2 (Option.some Jvm.ClassFile.FieldType.boolean) ∈ gw := gw_mem 1731 (by decide +kernel) rfl
theorem w_1732 : Cond.methodLink RX12 355 yX12_unit ∈ gw := gw_mem 1732 (by decide +kernel) rfl
theorem w_1734 : Cond.instanceMethod yX12_unit ∈ gw := gw_mem 1734 (by decide +kernel) rfl
theorem w_1735 : Cond.code yX12_unit cX12_unit 1 (Option.some Jvm.ClassFile.FieldType.boolean) ∈ gw := gw_mem 1735 (by decide +kernel) rfl
theorem w_1736 : Cond.methodLink RX12 358 yX12_opens ∈ gw := gw_mem 1736 (by decide +kernel) rfl
theorem w_1738 : Cond.instanceMethod yX12_opens ∈ gw := gw_mem 1738 (by decide +kernel) rfl
theorem w_1739 : Cond.code yX12_opens cX12_opens 1 (Option.some Jvm.ClassFile.FieldType.boolean) ∈ gw := gw_mem 1739 (by decide +kernel) rfl
theorem w_1740 : Cond.methodLink RX12 364 yX12_need ∈ gw := gw_mem 1740 (by decide +kernel) rfl
theorem w_1742 : Cond.instanceMethod yX12_need ∈ gw := gw_mem 1742 (by decide +kernel) rfl
theorem w_1743 : Cond.code yX12_need cX12_need 2 (Option.some Jvm.ClassFile.FieldType.boolean) ∈ gw := gw_mem 1743 (by decide +kernel) rfl
theorem w_1744 : Cond.methodLink RX12 351 yX12_lay ∈ gw := gw_mem 1744 (by decide +kernel) rfl
theorem w_1746 : Cond.instanceMethod yX12_lay ∈ gw := gw_mem 1746 (by decide +kernel) rfl
theorem w_1747 : Cond.code yX12_lay cX12_lay 3 (Option.none : Option Jvm.ClassFile.FieldType) ∈ gw := gw_mem 1747 (by decide +kernel) rfl
theorem w_1748 : Cond.methodLink RX12 379 yX12_any ∈ gw := gw_mem 1748 (by decide +kernel) rfl
theorem w_1750 : Cond.instanceMethod yX12_any ∈ gw := gw_mem 1750 (by decide +kernel) rfl
theorem w_1751 : Cond.code yX12_any cX12_any 1 (Option.some Jvm.ClassFile.FieldType.boolean) ∈ gw := gw_mem 1751 (by decide +kernel) rfl
theorem w_1752 : Cond.methodLink RX12 367 yX12_all ∈ gw := gw_mem 1752 (by decide +kernel) rfl
theorem w_1754 : Cond.instanceMethod yX12_all ∈ gw := gw_mem 1754 (by decide +kernel) rfl
theorem w_1755 : Cond.code yX12_all cX12_all 1 (Option.some Jvm.ClassFile.FieldType.boolean) ∈ gw := gw_mem 1755 (by decide +kernel) rfl
theorem w_1756 : Cond.methodLink RX12 370 yX12_one ∈ gw := gw_mem 1756 (by decide +kernel) rfl
theorem w_1758 : Cond.instanceMethod yX12_one ∈ gw := gw_mem 1758 (by decide +kernel) rfl
theorem w_1759 : Cond.code yX12_one cX12_one 2 (Option.some Jvm.ClassFile.FieldType.boolean) ∈ gw := gw_mem 1759 (by decide +kernel) rfl
theorem w_1760 : Cond.methodLink RX12 394 yX12_takes ∈ gw := gw_mem 1760 (by decide +kernel) rfl
theorem w_1762 : Cond.instanceMethod yX12_takes ∈ gw := gw_mem 1762 (by decide +kernel) rfl
theorem w_1763 : Cond.code yX12_takes cX12_takes 3 (Option.none : Option Jvm.ClassFile.FieldType) ∈ gw := gw_mem 1763 (by decide +kernel) rfl
theorem w_1776 : Cond.constant RX12 403 (-100000) ∈ gw := gw_mem 1776 (by decide +kernel) rfl
theorem w_1777 : Cond.methodLink RX12 400 yX12_owedTo ∈ gw := gw_mem 1777 (by decide +kernel) rfl
theorem w_1779 : Cond.instanceMethod yX12_owedTo ∈ gw := gw_mem 1779 (by decide +kernel) rfl
theorem w_1780 : Cond.code yX12_owedTo cX12_owedTo 3 (Option.some Jvm.ClassFile.FieldType.int) ∈ gw := gw_mem 1780 (by decide +kernel) rfl
theorem w_1781 : Cond.methodLink RX12 404 yX12_sleepOf ∈ gw := gw_mem 1781 (by decide +kernel) rfl
theorem w_1783 : Cond.instanceMethod yX12_sleepOf ∈ gw := gw_mem 1783 (by decide +kernel) rfl
theorem w_1784 : Cond.code yX12_sleepOf cX12_sleepOf 6 (Option.some Jvm.ClassFile.FieldType.int) ∈ gw := gw_mem 1784 (by decide +kernel) rfl
theorem w_1793 : Cond.methodLink RX12 414 yX12_isHeld ∈ gw := gw_mem 1793 (by decide +kernel) rfl
theorem w_1795 : Cond.instanceMethod yX12_isHeld ∈ gw := gw_mem 1795 (by decide +kernel) rfl
theorem w_1796 : Cond.code yX12_isHeld cX12_isHeld 2 (Option.some Jvm.ClassFile.FieldType.boolean) ∈ gw := gw_mem 1796 (by decide +kernel) rfl
theorem w_1797 : Cond.methodLink RX12 417 yX12_interest ∈ gw := gw_mem 1797 (by decide +kernel) rfl
theorem w_1799 : Cond.instanceMethod yX12_interest ∈ gw := gw_mem 1799 (by decide +kernel) rfl
theorem w_1800 : Cond.code yX12_interest cX12_interest 9 (Option.some Jvm.ClassFile.FieldType.long) ∈ gw := gw_mem 1800 (by decide +kernel) rfl
theorem w_1801 : Cond.constantLong RX12 407 360 ∈ gw := gw_mem 1801 (by decide +kernel) rfl
theorem w_1802 : Cond.constantLong RX12 409 360000 ∈ gw := gw_mem 1802 (by decide +kernel) rfl
theorem w_1803 : Cond.methodLink RX12 420 yX12_paidOf ∈ gw := gw_mem 1803 (by decide +kernel) rfl
theorem w_1805 : Cond.instanceMethod yX12_paidOf ∈ gw := gw_mem 1805 (by decide +kernel) rfl
theorem w_1806 : Cond.code yX12_paidOf cX12_paidOf 5 (Option.some Jvm.ClassFile.FieldType.long) ∈ gw := gw_mem 1806 (by decide +kernel) rfl
theorem w_1811 : Cond.methodLink RX12 429 yX12_isBarred ∈ gw := gw_mem 1811 (by decide +kernel) rfl
theorem w_1813 : Cond.instanceMethod yX12_isBarred ∈ gw := gw_mem 1813 (by decide +kernel) rfl
theorem w_1814 : Cond.code yX12_isBarred cX12_isBarred 3 (Option.some Jvm.ClassFile.FieldType.boolean) ∈ gw := gw_mem 1814 (by decide +kernel) rfl
theorem w_1815 : Cond.methodLink RX12 423 yX12_isUnlike ∈ gw := gw_mem 1815 (by decide +kernel) rfl
theorem w_1817 : Cond.instanceMethod yX12_isUnlike ∈ gw := gw_mem 1817 (by decide +kernel) rfl
theorem w_1818 : Cond.code yX12_isUnlike cX12_isUnlike 3 (Option.some Jvm.ClassFile.FieldType.boolean) ∈ gw := gw_mem 1818 (by decide +kernel) rfl
theorem w_1819 : Cond.methodLink RX12 432 yX12_pointsOf ∈ gw := gw_mem 1819 (by decide +kernel) rfl
theorem w_1821 : Cond.instanceMethod yX12_pointsOf ∈ gw := gw_mem 1821 (by decide +kernel) rfl
theorem w_1822 : Cond.code yX12_pointsOf cX12_pointsOf 3 (Option.some Jvm.ClassFile.FieldType.int) ∈ gw := gw_mem 1822 (by decide +kernel) rfl
theorem w_1823 : Cond.methodLink RX12 426 yX12_isLike ∈ gw := gw_mem 1823 (by decide +kernel) rfl
theorem w_1825 : Cond.instanceMethod yX12_isLike ∈ gw := gw_mem 1825 (by decide +kernel) rfl
theorem w_1826 : Cond.code yX12_isLike cX12_isLike 3 (Option.some Jvm.ClassFile.FieldType.boolean) ∈ gw := gw_mem 1826 (by decide +kernel) rfl
theorem w_1831 : Cond.methodLink RX12 451 yX12_isSet ∈ gw := gw_mem 1831 (by decide +kernel) rfl
theorem w_1833 : Cond.instanceMethod yX12_isSet ∈ gw := gw_mem 1833 (by decide +kernel) rfl
theorem w_1834 : Cond.code yX12_isSet cX12_isSet 3 (Option.some Jvm.ClassFile.FieldType.boolean) ∈ gw := gw_mem 1834 (by decide +kernel) rfl
theorem w_1835 : Cond.methodLink RX12 454 yX12_joinAll ∈ gw := gw_mem 1835 (by decide +kernel) rfl
theorem w_1837 : Cond.instanceMethod yX12_joinAll ∈ gw := gw_mem 1837 (by decide +kernel) rfl
theorem w_1838 : Cond.code yX12_joinAll cX12_joinAll 1 (Option.none : Option Jvm.ClassFile.FieldType) ∈ gw := gw_mem 1838 (by decide +kernel) rfl
theorem w_1839 : Cond.methodLink RX12 441 yX12_joins ∈ gw := gw_mem 1839 (by decide +kernel) rfl
theorem w_1841 : Cond.instanceMethod yX12_joins ∈ gw := gw_mem 1841 (by decide +kernel) rfl
theorem w_1842 : Cond.code yX12_joins cX12_joins 8 (Option.none : Option Jvm.ClassFile.FieldType) ∈ gw := gw_mem 1842 (by decide +kernel) rfl
theorem w_1843 : Cond.methodLink RX12 438 yX12_counts ∈ gw := gw_mem 1843 (by decide +kernel) rfl
theorem w_1845 : Cond.instanceMethod yX12_counts ∈ gw := gw_mem 1845 (by decide +kernel) rfl
theorem w_1846 : Cond.code yX12_counts cX12_counts 4 (Option.none : Option Jvm.ClassFile.FieldType) ∈ gw := gw_mem 1846 (by decide +kernel) rfl
theorem w_1855 : Cond.methodLink RX12 463 yX12_heirsOf ∈ gw := gw_mem 1855 (by decide +kernel) rfl
theorem w_1857 : Cond.instanceMethod yX12_heirsOf ∈ gw := gw_mem 1857 (by decide +kernel) rfl
theorem w_1858 : Cond.code yX12_heirsOf cX12_heirsOf 4 (Option.some Jvm.ClassFile.FieldType.int) ∈ gw := gw_mem 1858 (by decide +kernel) rfl
theorem w_1859 : Cond.methodLink RX12 460 yX12_shares ∈ gw := gw_mem 1859 (by decide +kernel) rfl
theorem w_1861 : Cond.instanceMethod yX12_shares ∈ gw := gw_mem 1861 (by decide +kernel) rfl
theorem w_1862 : Cond.code yX12_shares cX12_shares 5 (Option.none : Option Jvm.ClassFile.FieldType) ∈ gw := gw_mem 1862 (by decide +kernel) rfl
theorem w_1863 : Cond.methodLink RX12 457 yX12_linesOf ∈ gw := gw_mem 1863 (by decide +kernel) rfl
theorem w_1865 : Cond.instanceMethod yX12_linesOf ∈ gw := gw_mem 1865 (by decide +kernel) rfl
theorem w_1866 : Cond.code yX12_linesOf cX12_linesOf 4 (Option.some Jvm.ClassFile.FieldType.int) ∈ gw := gw_mem 1866 (by decide +kernel) rfl
theorem w_1871 : Cond.methodLink RX12 466 yX12_common ∈ gw := gw_mem 1871 (by decide +kernel) rfl
theorem w_1872 : Cond.static yX12_common ∈ gw := gw_mem 1872 (by decide +kernel) rfl
theorem w_1873 : Cond.code yX12_common cX12_common 10 (Option.some Jvm.ClassFile.FieldType.long) ∈ gw := gw_mem 1873 (by decide +kernel) rfl
theorem w_1882 : Cond.methodLink RX12 476 yX12_asked ∈ gw := gw_mem 1882 (by decide +kernel) rfl
theorem w_1884 : Cond.instanceMethod yX12_asked ∈ gw := gw_mem 1884 (by decide +kernel) rfl
theorem w_1885 : Cond.code yX12_asked cX12_asked 8 (Option.some Jvm.ClassFile.FieldType.int) ∈ gw := gw_mem 1885 (by decide +kernel) rfl
theorem w_1886 : Cond.constantLong RX12 470 2147483647 ∈ gw := gw_mem 1886 (by decide +kernel) rfl
theorem w_1887 : Cond.constant RX12 472 2147483647 ∈ gw := gw_mem 1887 (by decide +kernel) rfl
theorem w_1888 : Cond.methodLink RX12 473 yX12_comesTo ∈ gw := gw_mem 1888 (by decide +kernel) rfl
theorem w_1890 : Cond.instanceMethod yX12_comesTo ∈ gw := gw_mem 1890 (by decide +kernel) rfl
theorem w_1891 : Cond.code yX12_comesTo cX12_comesTo 8 (Option.some Jvm.ClassFile.FieldType.int) ∈ gw := gw_mem 1891 (by decide +kernel) rfl
theorem w_1892 : Cond.methodLink RX12 397 yX12_both ∈ gw := gw_mem 1892 (by decide +kernel) rfl
theorem w_1893 : Cond.static yX12_both ∈ gw := gw_mem 1893 (by decide +kernel) rfl
theorem w_1894 : Cond.code yX12_both cX12_both 3 (Option.some Jvm.ClassFile.FieldType.int) ∈ gw := gw_mem 1894 (by decide +kernel) rfl
theorem w_1895 : Cond.methodLink RX12 479 yX12_isGood ∈ gw := gw_mem 1895 (by decide +kernel) rfl
theorem w_1897 : Cond.instanceMethod yX12_isGood ∈ gw := gw_mem 1897 (by decide +kernel) rfl
theorem w_1898 : Cond.code yX12_isGood cX12_isGood 4 (Option.some Jvm.ClassFile.FieldType.boolean) ∈ gw := gw_mem 1898 (by decide +kernel) rfl
theorem w_1903 : Cond.constantLong RX12 482 100 ∈ gw := gw_mem 1903 (by decide +kernel) rfl
theorem w_1912 : Cond.constant RX12 484 999999 ∈ gw := gw_mem 1912 (by decide +kernel) rfl
theorem w_1921 : Cond.methodLink RX12 485 yX12_bound ∈ gw := gw_mem 1921 (by decide +kernel) rfl
theorem w_1923 : Cond.instanceMethod yX12_bound ∈ gw := gw_mem 1923 (by decide +kernel) rfl
theorem w_1924 : Cond.code yX12_bound cX12_bound 8 (Option.some Jvm.ClassFile.FieldType.int) ∈ gw := gw_mem 1924 (by decide +kernel) rfl
theorem w_1949 : Cond.selects "[Ljava/lang/Object;" ⟨"java/lang/Object", "getClass", "()Ljava/lang/Class;"⟩ ⟨"java/lang/Object", "getClass", "()Ljava/lang/Class;"⟩ ∈ gw := gw_mem 1949 (by decide +kernel) rfl
theorem fl_RJx4a65c_48 : FL RJx4a65c 48 0 2 false := ⟨RJx4a65c, TJx4a65c, 3, "java/util/ArrayList", by decide, rfl, by decide, lay_0, w_153, Or.inl rfl, tyo_0, nmJx4a65c, rfl, fun _ => rfl⟩
theorem fl_RJx4a65c_63 : FL RJx4a65c 63 0 0 false := ⟨RJx4a65c, TJx4a65c, 3, "java/util/ArrayList", by decide, rfl, by decide, lay_0, w_155, Or.inr w_156, tyo_0, nmJx4a65c, rfl, fun h => by cases h⟩
theorem fl_RJx4a65c_9 : FL RJx4a65c 9 0 1 false := ⟨RJx4a65c, TJx4a65c, 3, "java/util/ArrayList", by decide, rfl, by decide, lay_0, w_152, Or.inl rfl, tyo_0, nmJx4a65c, rfl, fun _ => rfl⟩
theorem fl_RJxc12de_7 : FL RJxc12de 7 0 0 false := ⟨RJx4a65c, TJx4a65c, 3, "java/util/AbstractList", by decide, rfl, by decide, lay_0, w_154, Or.inl rfl, tyo_0, nmJx4a65c, rfl, fun _ => rfl⟩
theorem fl_RX0_12 : FL RX0 12 1 5 true := ⟨RX0, TX0, 11, "SleepOffice$Account", by decide, rfl, by decide, lay_1, w_570, Or.inl rfl, tyo_1, nmX0, rfl, fun _ => rfl⟩
theorem fl_RX0_18 : FL RX0 18 1 6 false := ⟨RX0, TX0, 11, "SleepOffice$Account", by decide, rfl, by decide, lay_1, w_571, Or.inl rfl, tyo_1, nmX0, rfl, fun _ => rfl⟩
theorem fl_RX0_22 : FL RX0 22 1 7 false := ⟨RX0, TX0, 11, "SleepOffice$Account", by decide, rfl, by decide, lay_1, w_573, Or.inl rfl, tyo_1, nmX0, rfl, fun _ => rfl⟩
theorem fl_RX0_25 : FL RX0 25 1 8 false := ⟨RX0, TX0, 11, "SleepOffice$Account", by decide, rfl, by decide, lay_1, w_575, Or.inl rfl, tyo_1, nmX0, rfl, fun _ => rfl⟩
theorem fl_RX0_29 : FL RX0 29 1 9 false := ⟨RX0, TX0, 11, "SleepOffice$Account", by decide, rfl, by decide, lay_1, w_577, Or.inl rfl, tyo_1, nmX0, rfl, fun _ => rfl⟩
theorem fl_RX0_32 : FL RX0 32 1 10 false := ⟨RX0, TX0, 11, "SleepOffice$Account", by decide, rfl, by decide, lay_1, w_579, Or.inl rfl, tyo_1, nmX0, rfl, fun _ => rfl⟩
theorem fl_RX0_35 : FL RX0 35 1 0 true := ⟨RX0, TX0, 11, "SleepOffice$Account", by decide, rfl, by decide, lay_1, w_560, Or.inl rfl, tyo_1, nmX0, rfl, fun _ => rfl⟩
theorem fl_RX0_38 : FL RX0 38 1 1 true := ⟨RX0, TX0, 11, "SleepOffice$Account", by decide, rfl, by decide, lay_1, w_562, Or.inl rfl, tyo_1, nmX0, rfl, fun _ => rfl⟩
theorem fl_RX0_42 : FL RX0 42 1 2 true := ⟨RX0, TX0, 11, "SleepOffice$Account", by decide, rfl, by decide, lay_1, w_564, Or.inl rfl, tyo_1, nmX0, rfl, fun _ => rfl⟩
theorem fl_RX0_45 : FL RX0 45 1 3 true := ⟨RX0, TX0, 11, "SleepOffice$Account", by decide, rfl, by decide, lay_1, w_566, Or.inl rfl, tyo_1, nmX0, rfl, fun _ => rfl⟩
theorem fl_RX0_49 : FL RX0 49 1 4 true := ⟨RX0, TX0, 11, "SleepOffice$Account", by decide, rfl, by decide, lay_1, w_568, Or.inl rfl, tyo_1, nmX0, rfl, fun _ => rfl⟩
theorem fl_RX0_70 : FL RX0 70 4 1 true := ⟨RX3, TX3, 6, "SleepOffice$Entry", by decide, rfl, by decide, lay_4, w_627, Or.inl rfl, tyo_4, nmX3, rfl, fun h => by cases h⟩
theorem fl_RX0_73 : FL RX0 73 4 0 true := ⟨RX3, TX3, 6, "SleepOffice$Entry", by decide, rfl, by decide, lay_4, w_625, Or.inl rfl, tyo_4, nmX3, rfl, fun h => by cases h⟩
theorem fl_RX0_76 : FL RX0 76 4 2 true := ⟨RX3, TX3, 6, "SleepOffice$Entry", by decide, rfl, by decide, lay_4, w_629, Or.inl rfl, tyo_4, nmX3, rfl, fun h => by cases h⟩
theorem fl_RX10_13 : FL RX10 13 11 1 true := ⟨RX10, TX10, 3, "SleepOffice$Token", by decide, rfl, by decide, lay_11, w_807, Or.inl rfl, tyo_11, nmX10, rfl, fun _ => rfl⟩
theorem fl_RX10_16 : FL RX10 16 11 2 true := ⟨RX10, TX10, 3, "SleepOffice$Token", by decide, rfl, by decide, lay_11, w_809, Or.inl rfl, tyo_11, nmX10, rfl, fun _ => rfl⟩
theorem fl_RX10_7 : FL RX10 7 11 0 true := ⟨RX10, TX10, 3, "SleepOffice$Token", by decide, rfl, by decide, lay_11, w_805, Or.inl rfl, tyo_11, nmX10, rfl, fun _ => rfl⟩
theorem fl_RX11_100 : FL RX11 100 5 0 true := ⟨RX4, TX4, 5, "SleepOffice$Firm", by decide, rfl, by decide, lay_5, w_365, Or.inl rfl, tyo_5, nmX4, rfl, fun h => by cases h⟩
theorem fl_RX11_111 : FL RX11 111 5 2 false := ⟨RX4, TX4, 5, "SleepOffice$Firm", by decide, rfl, by decide, lay_5, w_369, Or.inl rfl, tyo_5, nmX4, rfl, fun h => by cases h⟩
theorem fl_RX11_122 : FL RX11 122 5 3 false := ⟨RX4, TX4, 5, "SleepOffice$Firm", by decide, rfl, by decide, lay_5, w_371, Or.inl rfl, tyo_5, nmX4, rfl, fun h => by cases h⟩
theorem fl_RX11_145 : FL RX11 145 9 5 false := ⟨RX8, TX8, 8, "SleepOffice$Person", by decide, rfl, by decide, lay_9, w_510, Or.inl rfl, tyo_9, nmX8, rfl, fun h => by cases h⟩
theorem fl_RX11_151 : FL RX11 151 9 0 true := ⟨RX8, TX8, 8, "SleepOffice$Person", by decide, rfl, by decide, lay_9, w_502, Or.inl rfl, tyo_9, nmX8, rfl, fun h => by cases h⟩
theorem fl_RX11_156 : FL RX11 156 9 2 true := ⟨RX8, TX8, 8, "SleepOffice$Person", by decide, rfl, by decide, lay_9, w_505, Or.inl rfl, tyo_9, nmX8, rfl, fun h => by cases h⟩
theorem fl_RX11_159 : FL RX11 159 9 6 false := ⟨RX8, TX8, 8, "SleepOffice$Person", by decide, rfl, by decide, lay_9, w_512, Or.inl rfl, tyo_9, nmX8, rfl, fun h => by cases h⟩
theorem fl_RX11_16 : FL RX11 16 12 1 true := ⟨RX11, TX11, 16, "SleepOffice", by decide, rfl, by decide, lay_12, w_295, Or.inl rfl, tyo_12, nmX11, rfl, fun _ => rfl⟩
theorem fl_RX11_167 : FL RX11 167 1 0 true := ⟨RX0, TX0, 11, "SleepOffice$Account", by decide, rfl, by decide, lay_1, w_561, Or.inl rfl, tyo_1, nmX0, rfl, fun h => by cases h⟩
theorem fl_RX11_187 : FL RX11 187 1 6 false := ⟨RX0, TX0, 11, "SleepOffice$Account", by decide, rfl, by decide, lay_1, w_572, Or.inl rfl, tyo_1, nmX0, rfl, fun h => by cases h⟩
theorem fl_RX11_199 : FL RX11 199 1 4 true := ⟨RX0, TX0, 11, "SleepOffice$Account", by decide, rfl, by decide, lay_1, w_569, Or.inl rfl, tyo_1, nmX0, rfl, fun h => by cases h⟩
theorem fl_RX11_20 : FL RX11 20 12 2 true := ⟨RX11, TX11, 16, "SleepOffice", by decide, rfl, by decide, lay_12, w_296, Or.inl rfl, tyo_12, nmX11, rfl, fun _ => rfl⟩
theorem fl_RX11_219 : FL RX11 219 8 1 false := ⟨RX7, TX7, 9, "SleepOffice$LawReader", by decide, rfl, by decide, lay_8, w_839, Or.inl rfl, tyo_8, nmX7, rfl, fun h => by cases h⟩
theorem fl_RX11_222 : FL RX11 222 8 2 false := ⟨RX7, TX7, 9, "SleepOffice$LawReader", by decide, rfl, by decide, lay_8, w_841, Or.inl rfl, tyo_8, nmX7, rfl, fun h => by cases h⟩
theorem fl_RX11_225 : FL RX11 225 8 0 true := ⟨RX7, TX7, 9, "SleepOffice$LawReader", by decide, rfl, by decide, lay_8, w_837, Or.inl rfl, tyo_8, nmX7, rfl, fun h => by cases h⟩
theorem fl_RX11_228 : FL RX11 228 7 0 false := ⟨RX6, TX6, 9, "SleepOffice$Law", by decide, rfl, by decide, lay_7, w_175, Or.inl rfl, tyo_7, nmX6, rfl, fun h => by cases h⟩
theorem fl_RX11_23 : FL RX11 23 12 3 true := ⟨RX11, TX11, 16, "SleepOffice", by decide, rfl, by decide, lay_12, w_297, Or.inl rfl, tyo_12, nmX11, rfl, fun _ => rfl⟩
theorem fl_RX11_242 : FL RX11 242 7 3 false := ⟨RX6, TX6, 9, "SleepOffice$Law", by decide, rfl, by decide, lay_7, w_181, Or.inl rfl, tyo_7, nmX6, rfl, fun h => by cases h⟩
theorem fl_RX11_245 : FL RX11 245 7 4 false := ⟨RX6, TX6, 9, "SleepOffice$Law", by decide, rfl, by decide, lay_7, w_184, Or.inl rfl, tyo_7, nmX6, rfl, fun h => by cases h⟩
theorem fl_RX11_248 : FL RX11 248 7 5 false := ⟨RX6, TX6, 9, "SleepOffice$Law", by decide, rfl, by decide, lay_7, w_187, Or.inl rfl, tyo_7, nmX6, rfl, fun h => by cases h⟩
theorem fl_RX11_251 : FL RX11 251 7 6 false := ⟨RX6, TX6, 9, "SleepOffice$Law", by decide, rfl, by decide, lay_7, w_190, Or.inl rfl, tyo_7, nmX6, rfl, fun h => by cases h⟩
theorem fl_RX11_26 : FL RX11 26 12 4 true := ⟨RX11, TX11, 16, "SleepOffice", by decide, rfl, by decide, lay_12, w_298, Or.inl rfl, tyo_12, nmX11, rfl, fun _ => rfl⟩
theorem fl_RX11_265 : FL RX11 265 1 1 true := ⟨RX0, TX0, 11, "SleepOffice$Account", by decide, rfl, by decide, lay_1, w_563, Or.inl rfl, tyo_1, nmX0, rfl, fun h => by cases h⟩
theorem fl_RX11_272 : FL RX11 272 1 7 false := ⟨RX0, TX0, 11, "SleepOffice$Account", by decide, rfl, by decide, lay_1, w_574, Or.inl rfl, tyo_1, nmX0, rfl, fun h => by cases h⟩
theorem fl_RX11_275 : FL RX11 275 1 8 false := ⟨RX0, TX0, 11, "SleepOffice$Account", by decide, rfl, by decide, lay_1, w_576, Or.inl rfl, tyo_1, nmX0, rfl, fun h => by cases h⟩
theorem fl_RX11_279 : FL RX11 279 1 9 false := ⟨RX0, TX0, 11, "SleepOffice$Account", by decide, rfl, by decide, lay_1, w_578, Or.inl rfl, tyo_1, nmX0, rfl, fun h => by cases h⟩
theorem fl_RX11_282 : FL RX11 282 1 10 false := ⟨RX0, TX0, 11, "SleepOffice$Account", by decide, rfl, by decide, lay_1, w_580, Or.inl rfl, tyo_1, nmX0, rfl, fun h => by cases h⟩
theorem fl_RX11_29 : FL RX11 29 12 5 false := ⟨RX11, TX11, 16, "SleepOffice", by decide, rfl, by decide, lay_12, w_299, Or.inl rfl, tyo_12, nmX11, rfl, fun _ => rfl⟩
theorem fl_RX11_292 : FL RX11 292 1 3 true := ⟨RX0, TX0, 11, "SleepOffice$Account", by decide, rfl, by decide, lay_1, w_567, Or.inl rfl, tyo_1, nmX0, rfl, fun h => by cases h⟩
theorem fl_RX11_296 : FL RX11 296 5 1 true := ⟨RX4, TX4, 5, "SleepOffice$Firm", by decide, rfl, by decide, lay_5, w_367, Or.inl rfl, tyo_5, nmX4, rfl, fun h => by cases h⟩
theorem fl_RX11_303 : FL RX11 303 1 2 true := ⟨RX0, TX0, 11, "SleepOffice$Account", by decide, rfl, by decide, lay_1, w_565, Or.inl rfl, tyo_1, nmX0, rfl, fun h => by cases h⟩
theorem fl_RX11_315 : FL RX11 315 3 1 true := ⟨RX2, TX2, 7, "SleepOffice$Claim", by decide, rfl, by decide, lay_3, w_1109, Or.inl rfl, tyo_3, nmX2, rfl, fun h => by cases h⟩
theorem fl_RX11_319 : FL RX11 319 3 4 false := ⟨RX2, TX2, 7, "SleepOffice$Claim", by decide, rfl, by decide, lay_3, w_1115, Or.inl rfl, tyo_3, nmX2, rfl, fun h => by cases h⟩
theorem fl_RX11_32 : FL RX11 32 12 6 true := ⟨RX11, TX11, 16, "SleepOffice", by decide, rfl, by decide, lay_12, w_300, Or.inl rfl, tyo_12, nmX11, rfl, fun _ => rfl⟩
theorem fl_RX11_322 : FL RX11 322 3 5 false := ⟨RX2, TX2, 7, "SleepOffice$Claim", by decide, rfl, by decide, lay_3, w_1117, Or.inl rfl, tyo_3, nmX2, rfl, fun h => by cases h⟩
theorem fl_RX11_36 : FL RX11 36 12 7 false := ⟨RX11, TX11, 16, "SleepOffice", by decide, rfl, by decide, lay_12, w_301, Or.inl rfl, tyo_12, nmX11, rfl, fun _ => rfl⟩
theorem fl_RX11_369 : FL RX11 369 9 7 false := ⟨RX8, TX8, 8, "SleepOffice$Person", by decide, rfl, by decide, lay_9, w_514, Or.inl rfl, tyo_9, nmX8, rfl, fun h => by cases h⟩
theorem fl_RX11_370 : FL RX11 370 9 4 true := ⟨RX8, TX8, 8, "SleepOffice$Person", by decide, rfl, by decide, lay_9, w_508, Or.inl rfl, tyo_9, nmX8, rfl, fun h => by cases h⟩
theorem fl_RX11_380 : FL RX11 380 3 0 true := ⟨RX2, TX2, 7, "SleepOffice$Claim", by decide, rfl, by decide, lay_3, w_1107, Or.inl rfl, tyo_3, nmX2, rfl, fun h => by cases h⟩
theorem fl_RX11_391 : FL RX11 391 3 6 false := ⟨RX2, TX2, 7, "SleepOffice$Claim", by decide, rfl, by decide, lay_3, w_1119, Or.inl rfl, tyo_3, nmX2, rfl, fun h => by cases h⟩
theorem fl_RX11_401 : FL RX11 401 3 3 true := ⟨RX2, TX2, 7, "SleepOffice$Claim", by decide, rfl, by decide, lay_3, w_1113, Or.inl rfl, tyo_3, nmX2, rfl, fun h => by cases h⟩
theorem fl_RX11_409 : FL RX11 409 10 0 false := ⟨RX9, TX9, 7, "SleepOffice$ProofScale", by decide, rfl, by decide, lay_10, w_222, Or.inl rfl, tyo_10, nmX9, rfl, fun h => by cases h⟩
theorem fl_RX11_412 : FL RX11 412 10 1 false := ⟨RX9, TX9, 7, "SleepOffice$ProofScale", by decide, rfl, by decide, lay_10, w_224, Or.inl rfl, tyo_10, nmX9, rfl, fun h => by cases h⟩
theorem fl_RX11_415 : FL RX11 415 10 2 false := ⟨RX9, TX9, 7, "SleepOffice$ProofScale", by decide, rfl, by decide, lay_10, w_226, Or.inl rfl, tyo_10, nmX9, rfl, fun h => by cases h⟩
theorem fl_RX11_416 : FL RX11 416 10 3 false := ⟨RX9, TX9, 7, "SleepOffice$ProofScale", by decide, rfl, by decide, lay_10, w_228, Or.inl rfl, tyo_10, nmX9, rfl, fun h => by cases h⟩
theorem fl_RX11_423 : FL RX11 423 3 2 true := ⟨RX2, TX2, 7, "SleepOffice$Claim", by decide, rfl, by decide, lay_3, w_1111, Or.inl rfl, tyo_3, nmX2, rfl, fun h => by cases h⟩
theorem fl_RX11_44 : FL RX11 44 12 8 true := ⟨RX11, TX11, 16, "SleepOffice", by decide, rfl, by decide, lay_12, w_302, Or.inl rfl, tyo_12, nmX11, rfl, fun _ => rfl⟩
theorem fl_RX11_48 : FL RX11 48 12 9 true := ⟨RX11, TX11, 16, "SleepOffice", by decide, rfl, by decide, lay_12, w_303, Or.inl rfl, tyo_12, nmX11, rfl, fun _ => rfl⟩
theorem fl_RX11_52 : FL RX11 52 12 10 false := ⟨RX11, TX11, 16, "SleepOffice", by decide, rfl, by decide, lay_12, w_304, Or.inl rfl, tyo_12, nmX11, rfl, fun _ => rfl⟩
theorem fl_RX11_55 : FL RX11 55 12 11 false := ⟨RX11, TX11, 16, "SleepOffice", by decide, rfl, by decide, lay_12, w_305, Or.inl rfl, tyo_12, nmX11, rfl, fun _ => rfl⟩
theorem fl_RX11_61 : FL RX11 61 12 12 true := ⟨RX11, TX11, 16, "SleepOffice", by decide, rfl, by decide, lay_12, w_306, Or.inl rfl, tyo_12, nmX11, rfl, fun _ => rfl⟩
theorem fl_RX11_68 : FL RX11 68 12 13 true := ⟨RX11, TX11, 16, "SleepOffice", by decide, rfl, by decide, lay_12, w_307, Or.inl rfl, tyo_12, nmX11, rfl, fun _ => rfl⟩
theorem fl_RX11_7 : FL RX11 7 12 0 false := ⟨RX11, TX11, 16, "SleepOffice", by decide, rfl, by decide, lay_12, w_294, Or.inl rfl, tyo_12, nmX11, rfl, fun _ => rfl⟩
theorem fl_RX11_72 : FL RX11 72 12 14 true := ⟨RX11, TX11, 16, "SleepOffice", by decide, rfl, by decide, lay_12, w_308, Or.inl rfl, tyo_12, nmX11, rfl, fun _ => rfl⟩
theorem fl_RX11_79 : FL RX11 79 12 15 true := ⟨RX11, TX11, 16, "SleepOffice", by decide, rfl, by decide, lay_12, w_309, Or.inl rfl, tyo_12, nmX11, rfl, fun _ => rfl⟩
theorem fl_RX12_100 : FL RX12 100 13 35 true := ⟨RX12, TX12, 81, "SleepOfficeModel", by decide, rfl, by decide, lay_13, w_1351, Or.inl rfl, tyo_13, nmX12, rfl, fun _ => rfl⟩
theorem fl_RX12_103 : FL RX12 103 13 36 true := ⟨RX12, TX12, 81, "SleepOfficeModel", by decide, rfl, by decide, lay_13, w_1352, Or.inl rfl, tyo_13, nmX12, rfl, fun _ => rfl⟩
theorem fl_RX12_106 : FL RX12 106 13 37 true := ⟨RX12, TX12, 81, "SleepOfficeModel", by decide, rfl, by decide, lay_13, w_1353, Or.inl rfl, tyo_13, nmX12, rfl, fun _ => rfl⟩
theorem fl_RX12_109 : FL RX12 109 13 38 true := ⟨RX12, TX12, 81, "SleepOfficeModel", by decide, rfl, by decide, lay_13, w_1354, Or.inl rfl, tyo_13, nmX12, rfl, fun _ => rfl⟩
theorem fl_RX12_112 : FL RX12 112 13 39 true := ⟨RX12, TX12, 81, "SleepOfficeModel", by decide, rfl, by decide, lay_13, w_1355, Or.inl rfl, tyo_13, nmX12, rfl, fun _ => rfl⟩
theorem fl_RX12_115 : FL RX12 115 13 40 true := ⟨RX12, TX12, 81, "SleepOfficeModel", by decide, rfl, by decide, lay_13, w_1356, Or.inl rfl, tyo_13, nmX12, rfl, fun _ => rfl⟩
theorem fl_RX12_118 : FL RX12 118 13 41 true := ⟨RX12, TX12, 81, "SleepOfficeModel", by decide, rfl, by decide, lay_13, w_1357, Or.inl rfl, tyo_13, nmX12, rfl, fun _ => rfl⟩
theorem fl_RX12_121 : FL RX12 121 13 54 false := ⟨RX12, TX12, 81, "SleepOfficeModel", by decide, rfl, by decide, lay_13, w_1370, Or.inl rfl, tyo_13, nmX12, rfl, fun _ => rfl⟩
theorem fl_RX12_125 : FL RX12 125 13 55 true := ⟨RX12, TX12, 81, "SleepOfficeModel", by decide, rfl, by decide, lay_13, w_1371, Or.inl rfl, tyo_13, nmX12, rfl, fun _ => rfl⟩
theorem fl_RX12_128 : FL RX12 128 13 56 true := ⟨RX12, TX12, 81, "SleepOfficeModel", by decide, rfl, by decide, lay_13, w_1372, Or.inl rfl, tyo_13, nmX12, rfl, fun _ => rfl⟩
theorem fl_RX12_13 : FL RX12 13 13 6 true := ⟨RX12, TX12, 81, "SleepOfficeModel", by decide, rfl, by decide, lay_13, w_1322, Or.inl rfl, tyo_13, nmX12, rfl, fun _ => rfl⟩
theorem fl_RX12_131 : FL RX12 131 13 57 true := ⟨RX12, TX12, 81, "SleepOfficeModel", by decide, rfl, by decide, lay_13, w_1373, Or.inl rfl, tyo_13, nmX12, rfl, fun _ => rfl⟩
theorem fl_RX12_134 : FL RX12 134 13 58 true := ⟨RX12, TX12, 81, "SleepOfficeModel", by decide, rfl, by decide, lay_13, w_1374, Or.inl rfl, tyo_13, nmX12, rfl, fun _ => rfl⟩
theorem fl_RX12_137 : FL RX12 137 13 59 true := ⟨RX12, TX12, 81, "SleepOfficeModel", by decide, rfl, by decide, lay_13, w_1375, Or.inl rfl, tyo_13, nmX12, rfl, fun _ => rfl⟩
theorem fl_RX12_141 : FL RX12 141 13 60 true := ⟨RX12, TX12, 81, "SleepOfficeModel", by decide, rfl, by decide, lay_13, w_1376, Or.inl rfl, tyo_13, nmX12, rfl, fun _ => rfl⟩
theorem fl_RX12_144 : FL RX12 144 13 61 true := ⟨RX12, TX12, 81, "SleepOfficeModel", by decide, rfl, by decide, lay_13, w_1377, Or.inl rfl, tyo_13, nmX12, rfl, fun _ => rfl⟩
theorem fl_RX12_147 : FL RX12 147 13 62 true := ⟨RX12, TX12, 81, "SleepOfficeModel", by decide, rfl, by decide, lay_13, w_1378, Or.inl rfl, tyo_13, nmX12, rfl, fun _ => rfl⟩
theorem fl_RX12_150 : FL RX12 150 13 66 true := ⟨RX12, TX12, 81, "SleepOfficeModel", by decide, rfl, by decide, lay_13, w_1382, Or.inl rfl, tyo_13, nmX12, rfl, fun _ => rfl⟩
theorem fl_RX12_154 : FL RX12 154 13 67 true := ⟨RX12, TX12, 81, "SleepOfficeModel", by decide, rfl, by decide, lay_13, w_1383, Or.inl rfl, tyo_13, nmX12, rfl, fun _ => rfl⟩
theorem fl_RX12_157 : FL RX12 157 13 68 true := ⟨RX12, TX12, 81, "SleepOfficeModel", by decide, rfl, by decide, lay_13, w_1384, Or.inl rfl, tyo_13, nmX12, rfl, fun _ => rfl⟩
theorem fl_RX12_16 : FL RX12 16 13 7 true := ⟨RX12, TX12, 81, "SleepOfficeModel", by decide, rfl, by decide, lay_13, w_1323, Or.inl rfl, tyo_13, nmX12, rfl, fun _ => rfl⟩
theorem fl_RX12_160 : FL RX12 160 13 70 true := ⟨RX12, TX12, 81, "SleepOfficeModel", by decide, rfl, by decide, lay_13, w_1386, Or.inl rfl, tyo_13, nmX12, rfl, fun _ => rfl⟩
theorem fl_RX12_163 : FL RX12 163 13 71 true := ⟨RX12, TX12, 81, "SleepOfficeModel", by decide, rfl, by decide, lay_13, w_1387, Or.inl rfl, tyo_13, nmX12, rfl, fun _ => rfl⟩
theorem fl_RX12_166 : FL RX12 166 13 72 true := ⟨RX12, TX12, 81, "SleepOfficeModel", by decide, rfl, by decide, lay_13, w_1388, Or.inl rfl, tyo_13, nmX12, rfl, fun _ => rfl⟩
theorem fl_RX12_169 : FL RX12 169 13 73 true := ⟨RX12, TX12, 81, "SleepOfficeModel", by decide, rfl, by decide, lay_13, w_1389, Or.inl rfl, tyo_13, nmX12, rfl, fun _ => rfl⟩
theorem fl_RX12_172 : FL RX12 172 13 74 true := ⟨RX12, TX12, 81, "SleepOfficeModel", by decide, rfl, by decide, lay_13, w_1390, Or.inl rfl, tyo_13, nmX12, rfl, fun _ => rfl⟩
theorem fl_RX12_175 : FL RX12 175 13 75 true := ⟨RX12, TX12, 81, "SleepOfficeModel", by decide, rfl, by decide, lay_13, w_1391, Or.inl rfl, tyo_13, nmX12, rfl, fun _ => rfl⟩
theorem fl_RX12_178 : FL RX12 178 13 76 true := ⟨RX12, TX12, 81, "SleepOfficeModel", by decide, rfl, by decide, lay_13, w_1392, Or.inl rfl, tyo_13, nmX12, rfl, fun _ => rfl⟩
theorem fl_RX12_181 : FL RX12 181 13 77 true := ⟨RX12, TX12, 81, "SleepOfficeModel", by decide, rfl, by decide, lay_13, w_1393, Or.inl rfl, tyo_13, nmX12, rfl, fun _ => rfl⟩
theorem fl_RX12_184 : FL RX12 184 13 78 true := ⟨RX12, TX12, 81, "SleepOfficeModel", by decide, rfl, by decide, lay_13, w_1394, Or.inl rfl, tyo_13, nmX12, rfl, fun _ => rfl⟩
theorem fl_RX12_187 : FL RX12 187 13 79 true := ⟨RX12, TX12, 81, "SleepOfficeModel", by decide, rfl, by decide, lay_13, w_1395, Or.inl rfl, tyo_13, nmX12, rfl, fun _ => rfl⟩
theorem fl_RX12_19 : FL RX12 19 13 8 true := ⟨RX12, TX12, 81, "SleepOfficeModel", by decide, rfl, by decide, lay_13, w_1324, Or.inl rfl, tyo_13, nmX12, rfl, fun _ => rfl⟩
theorem fl_RX12_190 : FL RX12 190 13 80 true := ⟨RX12, TX12, 81, "SleepOfficeModel", by decide, rfl, by decide, lay_13, w_1396, Or.inl rfl, tyo_13, nmX12, rfl, fun _ => rfl⟩
theorem fl_RX12_197 : FL RX12 197 13 0 false := ⟨RX12, TX12, 81, "SleepOfficeModel", by decide, rfl, by decide, lay_13, w_1316, Or.inl rfl, tyo_13, nmX12, rfl, fun _ => rfl⟩
theorem fl_RX12_204 : FL RX12 204 13 1 false := ⟨RX12, TX12, 81, "SleepOfficeModel", by decide, rfl, by decide, lay_13, w_1317, Or.inl rfl, tyo_13, nmX12, rfl, fun _ => rfl⟩
theorem fl_RX12_207 : FL RX12 207 13 2 false := ⟨RX12, TX12, 81, "SleepOfficeModel", by decide, rfl, by decide, lay_13, w_1318, Or.inl rfl, tyo_13, nmX12, rfl, fun _ => rfl⟩
theorem fl_RX12_210 : FL RX12 210 13 3 false := ⟨RX12, TX12, 81, "SleepOfficeModel", by decide, rfl, by decide, lay_13, w_1319, Or.inl rfl, tyo_13, nmX12, rfl, fun _ => rfl⟩
theorem fl_RX12_22 : FL RX12 22 13 9 true := ⟨RX12, TX12, 81, "SleepOfficeModel", by decide, rfl, by decide, lay_13, w_1325, Or.inl rfl, tyo_13, nmX12, rfl, fun _ => rfl⟩
theorem fl_RX12_234 : FL RX12 234 13 4 false := ⟨RX12, TX12, 81, "SleepOfficeModel", by decide, rfl, by decide, lay_13, w_1320, Or.inl rfl, tyo_13, nmX12, rfl, fun _ => rfl⟩
theorem fl_RX12_25 : FL RX12 25 13 10 true := ⟨RX12, TX12, 81, "SleepOfficeModel", by decide, rfl, by decide, lay_13, w_1326, Or.inl rfl, tyo_13, nmX12, rfl, fun _ => rfl⟩
theorem fl_RX12_259 : FL RX12 259 13 44 false := ⟨RX12, TX12, 81, "SleepOfficeModel", by decide, rfl, by decide, lay_13, w_1360, Or.inl rfl, tyo_13, nmX12, rfl, fun _ => rfl⟩
theorem fl_RX12_262 : FL RX12 262 13 45 false := ⟨RX12, TX12, 81, "SleepOfficeModel", by decide, rfl, by decide, lay_13, w_1361, Or.inl rfl, tyo_13, nmX12, rfl, fun _ => rfl⟩
theorem fl_RX12_265 : FL RX12 265 13 47 false := ⟨RX12, TX12, 81, "SleepOfficeModel", by decide, rfl, by decide, lay_13, w_1363, Or.inl rfl, tyo_13, nmX12, rfl, fun _ => rfl⟩
theorem fl_RX12_28 : FL RX12 28 13 11 true := ⟨RX12, TX12, 81, "SleepOfficeModel", by decide, rfl, by decide, lay_13, w_1327, Or.inl rfl, tyo_13, nmX12, rfl, fun _ => rfl⟩
theorem fl_RX12_31 : FL RX12 31 13 12 true := ⟨RX12, TX12, 81, "SleepOfficeModel", by decide, rfl, by decide, lay_13, w_1328, Or.inl rfl, tyo_13, nmX12, rfl, fun _ => rfl⟩
theorem fl_RX12_311 : FL RX12 311 13 46 false := ⟨RX12, TX12, 81, "SleepOfficeModel", by decide, rfl, by decide, lay_13, w_1362, Or.inl rfl, tyo_13, nmX12, rfl, fun _ => rfl⟩
theorem fl_RX12_323 : FL RX12 323 13 48 false := ⟨RX12, TX12, 81, "SleepOfficeModel", by decide, rfl, by decide, lay_13, w_1364, Or.inl rfl, tyo_13, nmX12, rfl, fun _ => rfl⟩
theorem fl_RX12_326 : FL RX12 326 13 49 false := ⟨RX12, TX12, 81, "SleepOfficeModel", by decide, rfl, by decide, lay_13, w_1365, Or.inl rfl, tyo_13, nmX12, rfl, fun _ => rfl⟩
theorem fl_RX12_329 : FL RX12 329 13 50 false := ⟨RX12, TX12, 81, "SleepOfficeModel", by decide, rfl, by decide, lay_13, w_1366, Or.inl rfl, tyo_13, nmX12, rfl, fun _ => rfl⟩
theorem fl_RX12_338 : FL RX12 338 13 53 false := ⟨RX12, TX12, 81, "SleepOfficeModel", by decide, rfl, by decide, lay_13, w_1369, Or.inl rfl, tyo_13, nmX12, rfl, fun _ => rfl⟩
theorem fl_RX12_34 : FL RX12 34 13 13 true := ⟨RX12, TX12, 81, "SleepOfficeModel", by decide, rfl, by decide, lay_13, w_1329, Or.inl rfl, tyo_13, nmX12, rfl, fun _ => rfl⟩
theorem fl_RX12_341 : FL RX12 341 13 43 false := ⟨RX12, TX12, 81, "SleepOfficeModel", by decide, rfl, by decide, lay_13, w_1359, Or.inl rfl, tyo_13, nmX12, rfl, fun _ => rfl⟩
theorem fl_RX12_344 : FL RX12 344 13 52 false := ⟨RX12, TX12, 81, "SleepOfficeModel", by decide, rfl, by decide, lay_13, w_1368, Or.inl rfl, tyo_13, nmX12, rfl, fun _ => rfl⟩
theorem fl_RX12_37 : FL RX12 37 13 14 true := ⟨RX12, TX12, 81, "SleepOfficeModel", by decide, rfl, by decide, lay_13, w_1330, Or.inl rfl, tyo_13, nmX12, rfl, fun _ => rfl⟩
theorem fl_RX12_382 : FL RX12 382 13 42 false := ⟨RX12, TX12, 81, "SleepOfficeModel", by decide, rfl, by decide, lay_13, w_1358, Or.inl rfl, tyo_13, nmX12, rfl, fun _ => rfl⟩
theorem fl_RX12_391 : FL RX12 391 13 51 false := ⟨RX12, TX12, 81, "SleepOfficeModel", by decide, rfl, by decide, lay_13, w_1367, Or.inl rfl, tyo_13, nmX12, rfl, fun _ => rfl⟩
theorem fl_RX12_40 : FL RX12 40 13 15 true := ⟨RX12, TX12, 81, "SleepOfficeModel", by decide, rfl, by decide, lay_13, w_1331, Or.inl rfl, tyo_13, nmX12, rfl, fun _ => rfl⟩
theorem fl_RX12_411 : FL RX12 411 13 69 false := ⟨RX12, TX12, 81, "SleepOfficeModel", by decide, rfl, by decide, lay_13, w_1385, Or.inl rfl, tyo_13, nmX12, rfl, fun _ => rfl⟩
theorem fl_RX12_43 : FL RX12 43 13 16 true := ⟨RX12, TX12, 81, "SleepOfficeModel", by decide, rfl, by decide, lay_13, w_1332, Or.inl rfl, tyo_13, nmX12, rfl, fun _ => rfl⟩
theorem fl_RX12_435 : FL RX12 435 13 63 false := ⟨RX12, TX12, 81, "SleepOfficeModel", by decide, rfl, by decide, lay_13, w_1379, Or.inl rfl, tyo_13, nmX12, rfl, fun _ => rfl⟩
theorem fl_RX12_445 : FL RX12 445 13 65 false := ⟨RX12, TX12, 81, "SleepOfficeModel", by decide, rfl, by decide, lay_13, w_1381, Or.inl rfl, tyo_13, nmX12, rfl, fun _ => rfl⟩
theorem fl_RX12_448 : FL RX12 448 13 64 false := ⟨RX12, TX12, 81, "SleepOfficeModel", by decide, rfl, by decide, lay_13, w_1380, Or.inl rfl, tyo_13, nmX12, rfl, fun _ => rfl⟩
theorem fl_RX12_46 : FL RX12 46 13 17 true := ⟨RX12, TX12, 81, "SleepOfficeModel", by decide, rfl, by decide, lay_13, w_1333, Or.inl rfl, tyo_13, nmX12, rfl, fun _ => rfl⟩
theorem fl_RX12_49 : FL RX12 49 13 18 true := ⟨RX12, TX12, 81, "SleepOfficeModel", by decide, rfl, by decide, lay_13, w_1334, Or.inl rfl, tyo_13, nmX12, rfl, fun _ => rfl⟩
theorem fl_RX12_52 : FL RX12 52 13 19 true := ⟨RX12, TX12, 81, "SleepOfficeModel", by decide, rfl, by decide, lay_13, w_1335, Or.inl rfl, tyo_13, nmX12, rfl, fun _ => rfl⟩
theorem fl_RX12_55 : FL RX12 55 13 20 true := ⟨RX12, TX12, 81, "SleepOfficeModel", by decide, rfl, by decide, lay_13, w_1336, Or.inl rfl, tyo_13, nmX12, rfl, fun _ => rfl⟩
theorem fl_RX12_58 : FL RX12 58 13 21 true := ⟨RX12, TX12, 81, "SleepOfficeModel", by decide, rfl, by decide, lay_13, w_1337, Or.inl rfl, tyo_13, nmX12, rfl, fun _ => rfl⟩
theorem fl_RX12_61 : FL RX12 61 13 22 true := ⟨RX12, TX12, 81, "SleepOfficeModel", by decide, rfl, by decide, lay_13, w_1338, Or.inl rfl, tyo_13, nmX12, rfl, fun _ => rfl⟩
theorem fl_RX12_64 : FL RX12 64 13 23 true := ⟨RX12, TX12, 81, "SleepOfficeModel", by decide, rfl, by decide, lay_13, w_1339, Or.inl rfl, tyo_13, nmX12, rfl, fun _ => rfl⟩
theorem fl_RX12_67 : FL RX12 67 13 24 true := ⟨RX12, TX12, 81, "SleepOfficeModel", by decide, rfl, by decide, lay_13, w_1340, Or.inl rfl, tyo_13, nmX12, rfl, fun _ => rfl⟩
theorem fl_RX12_7 : FL RX12 7 13 5 true := ⟨RX12, TX12, 81, "SleepOfficeModel", by decide, rfl, by decide, lay_13, w_1321, Or.inl rfl, tyo_13, nmX12, rfl, fun _ => rfl⟩
theorem fl_RX12_70 : FL RX12 70 13 25 true := ⟨RX12, TX12, 81, "SleepOfficeModel", by decide, rfl, by decide, lay_13, w_1341, Or.inl rfl, tyo_13, nmX12, rfl, fun _ => rfl⟩
theorem fl_RX12_73 : FL RX12 73 13 26 true := ⟨RX12, TX12, 81, "SleepOfficeModel", by decide, rfl, by decide, lay_13, w_1342, Or.inl rfl, tyo_13, nmX12, rfl, fun _ => rfl⟩
theorem fl_RX12_76 : FL RX12 76 13 27 true := ⟨RX12, TX12, 81, "SleepOfficeModel", by decide, rfl, by decide, lay_13, w_1343, Or.inl rfl, tyo_13, nmX12, rfl, fun _ => rfl⟩
theorem fl_RX12_79 : FL RX12 79 13 28 true := ⟨RX12, TX12, 81, "SleepOfficeModel", by decide, rfl, by decide, lay_13, w_1344, Or.inl rfl, tyo_13, nmX12, rfl, fun _ => rfl⟩
theorem fl_RX12_82 : FL RX12 82 13 29 true := ⟨RX12, TX12, 81, "SleepOfficeModel", by decide, rfl, by decide, lay_13, w_1345, Or.inl rfl, tyo_13, nmX12, rfl, fun _ => rfl⟩
theorem fl_RX12_85 : FL RX12 85 13 30 true := ⟨RX12, TX12, 81, "SleepOfficeModel", by decide, rfl, by decide, lay_13, w_1346, Or.inl rfl, tyo_13, nmX12, rfl, fun _ => rfl⟩
theorem fl_RX12_88 : FL RX12 88 13 31 true := ⟨RX12, TX12, 81, "SleepOfficeModel", by decide, rfl, by decide, lay_13, w_1347, Or.inl rfl, tyo_13, nmX12, rfl, fun _ => rfl⟩
theorem fl_RX12_91 : FL RX12 91 13 32 true := ⟨RX12, TX12, 81, "SleepOfficeModel", by decide, rfl, by decide, lay_13, w_1348, Or.inl rfl, tyo_13, nmX12, rfl, fun _ => rfl⟩
theorem fl_RX12_94 : FL RX12 94 13 33 true := ⟨RX12, TX12, 81, "SleepOfficeModel", by decide, rfl, by decide, lay_13, w_1349, Or.inl rfl, tyo_13, nmX12, rfl, fun _ => rfl⟩
theorem fl_RX12_97 : FL RX12 97 13 34 true := ⟨RX12, TX12, 81, "SleepOfficeModel", by decide, rfl, by decide, lay_13, w_1350, Or.inl rfl, tyo_13, nmX12, rfl, fun _ => rfl⟩
theorem fl_RX1_15 : FL RX1 15 2 1 true := ⟨RX1, TX1, 5, "SleepOffice$Chooser", by decide, rfl, by decide, lay_2, w_278, Or.inl rfl, tyo_2, nmX1, rfl, fun _ => rfl⟩
theorem fl_RX1_19 : FL RX1 19 2 2 true := ⟨RX1, TX1, 5, "SleepOffice$Chooser", by decide, rfl, by decide, lay_2, w_279, Or.inl rfl, tyo_2, nmX1, rfl, fun _ => rfl⟩
theorem fl_RX1_22 : FL RX1 22 2 3 false := ⟨RX1, TX1, 5, "SleepOffice$Chooser", by decide, rfl, by decide, lay_2, w_280, Or.inl rfl, tyo_2, nmX1, rfl, fun _ => rfl⟩
theorem fl_RX1_26 : FL RX1 26 2 4 false := ⟨RX1, TX1, 5, "SleepOffice$Chooser", by decide, rfl, by decide, lay_2, w_281, Or.inl rfl, tyo_2, nmX1, rfl, fun _ => rfl⟩
theorem fl_RX1_9 : FL RX1 9 2 0 true := ⟨RX1, TX1, 5, "SleepOffice$Chooser", by decide, rfl, by decide, lay_2, w_277, Or.inl rfl, tyo_2, nmX1, rfl, fun _ => rfl⟩
theorem fl_RX2_13 : FL RX2 13 3 5 false := ⟨RX2, TX2, 7, "SleepOffice$Claim", by decide, rfl, by decide, lay_3, w_1116, Or.inl rfl, tyo_3, nmX2, rfl, fun _ => rfl⟩
theorem fl_RX2_17 : FL RX2 17 3 6 false := ⟨RX2, TX2, 7, "SleepOffice$Claim", by decide, rfl, by decide, lay_3, w_1118, Or.inl rfl, tyo_3, nmX2, rfl, fun _ => rfl⟩
theorem fl_RX2_20 : FL RX2 20 3 0 true := ⟨RX2, TX2, 7, "SleepOffice$Claim", by decide, rfl, by decide, lay_3, w_1106, Or.inl rfl, tyo_3, nmX2, rfl, fun _ => rfl⟩
theorem fl_RX2_24 : FL RX2 24 3 1 true := ⟨RX2, TX2, 7, "SleepOffice$Claim", by decide, rfl, by decide, lay_3, w_1108, Or.inl rfl, tyo_3, nmX2, rfl, fun _ => rfl⟩
theorem fl_RX2_28 : FL RX2 28 3 2 true := ⟨RX2, TX2, 7, "SleepOffice$Claim", by decide, rfl, by decide, lay_3, w_1110, Or.inl rfl, tyo_3, nmX2, rfl, fun _ => rfl⟩
theorem fl_RX2_31 : FL RX2 31 3 3 true := ⟨RX2, TX2, 7, "SleepOffice$Claim", by decide, rfl, by decide, lay_3, w_1112, Or.inl rfl, tyo_3, nmX2, rfl, fun _ => rfl⟩
theorem fl_RX2_9 : FL RX2 9 3 4 false := ⟨RX2, TX2, 7, "SleepOffice$Claim", by decide, rfl, by decide, lay_3, w_1114, Or.inl rfl, tyo_3, nmX2, rfl, fun _ => rfl⟩
theorem fl_RX3_13 : FL RX3 13 4 1 true := ⟨RX3, TX3, 6, "SleepOffice$Entry", by decide, rfl, by decide, lay_4, w_626, Or.inl rfl, tyo_4, nmX3, rfl, fun _ => rfl⟩
theorem fl_RX3_16 : FL RX3 16 4 2 true := ⟨RX3, TX3, 6, "SleepOffice$Entry", by decide, rfl, by decide, lay_4, w_628, Or.inl rfl, tyo_4, nmX3, rfl, fun _ => rfl⟩
theorem fl_RX3_19 : FL RX3 19 4 3 true := ⟨RX3, TX3, 6, "SleepOffice$Entry", by decide, rfl, by decide, lay_4, w_630, Or.inl rfl, tyo_4, nmX3, rfl, fun _ => rfl⟩
theorem fl_RX3_22 : FL RX3 22 4 4 true := ⟨RX3, TX3, 6, "SleepOffice$Entry", by decide, rfl, by decide, lay_4, w_631, Or.inl rfl, tyo_4, nmX3, rfl, fun _ => rfl⟩
theorem fl_RX3_25 : FL RX3 25 4 5 true := ⟨RX3, TX3, 6, "SleepOffice$Entry", by decide, rfl, by decide, lay_4, w_632, Or.inl rfl, tyo_4, nmX3, rfl, fun _ => rfl⟩
theorem fl_RX3_7 : FL RX3 7 4 0 true := ⟨RX3, TX3, 6, "SleepOffice$Entry", by decide, rfl, by decide, lay_4, w_624, Or.inl rfl, tyo_4, nmX3, rfl, fun _ => rfl⟩
theorem fl_RX4_15 : FL RX4 15 5 3 false := ⟨RX4, TX4, 5, "SleepOffice$Firm", by decide, rfl, by decide, lay_5, w_370, Or.inl rfl, tyo_5, nmX4, rfl, fun _ => rfl⟩
theorem fl_RX4_19 : FL RX4 19 5 4 true := ⟨RX4, TX4, 5, "SleepOffice$Firm", by decide, rfl, by decide, lay_5, w_372, Or.inl rfl, tyo_5, nmX4, rfl, fun _ => rfl⟩
theorem fl_RX4_23 : FL RX4 23 5 0 true := ⟨RX4, TX4, 5, "SleepOffice$Firm", by decide, rfl, by decide, lay_5, w_364, Or.inl rfl, tyo_5, nmX4, rfl, fun _ => rfl⟩
theorem fl_RX4_26 : FL RX4 26 5 1 true := ⟨RX4, TX4, 5, "SleepOffice$Firm", by decide, rfl, by decide, lay_5, w_366, Or.inl rfl, tyo_5, nmX4, rfl, fun _ => rfl⟩
theorem fl_RX4_9 : FL RX4 9 5 2 false := ⟨RX4, TX4, 5, "SleepOffice$Firm", by decide, rfl, by decide, lay_5, w_368, Or.inl rfl, tyo_5, nmX4, rfl, fun _ => rfl⟩
theorem fl_RX5_11 : FL RX5 11 6 0 true := ⟨RX5, TX5, 5, "SleepOffice$Joining", by decide, rfl, by decide, lay_6, w_255, Or.inl rfl, tyo_6, nmX5, rfl, fun _ => rfl⟩
theorem fl_RX5_17 : FL RX5 17 6 1 false := ⟨RX5, TX5, 5, "SleepOffice$Joining", by decide, rfl, by decide, lay_6, w_256, Or.inl rfl, tyo_6, nmX5, rfl, fun _ => rfl⟩
theorem fl_RX5_21 : FL RX5 21 6 2 true := ⟨RX5, TX5, 5, "SleepOffice$Joining", by decide, rfl, by decide, lay_6, w_257, Or.inl rfl, tyo_6, nmX5, rfl, fun _ => rfl⟩
theorem fl_RX5_25 : FL RX5 25 6 3 true := ⟨RX5, TX5, 5, "SleepOffice$Joining", by decide, rfl, by decide, lay_6, w_258, Or.inl rfl, tyo_6, nmX5, rfl, fun _ => rfl⟩
theorem fl_RX5_28 : FL RX5 28 6 4 true := ⟨RX5, TX5, 5, "SleepOffice$Joining", by decide, rfl, by decide, lay_6, w_259, Or.inl rfl, tyo_6, nmX5, rfl, fun _ => rfl⟩
theorem fl_RX6_15 : FL RX6 15 7 1 true := ⟨RX6, TX6, 9, "SleepOffice$Law", by decide, rfl, by decide, lay_7, w_176, Or.inl rfl, tyo_7, nmX6, rfl, fun _ => rfl⟩
theorem fl_RX6_19 : FL RX6 19 7 2 false := ⟨RX6, TX6, 9, "SleepOffice$Law", by decide, rfl, by decide, lay_7, w_177, Or.inl rfl, tyo_7, nmX6, rfl, fun _ => rfl⟩
theorem fl_RX6_22 : FL RX6 22 7 3 false := ⟨RX6, TX6, 9, "SleepOffice$Law", by decide, rfl, by decide, lay_7, w_179, Or.inl rfl, tyo_7, nmX6, rfl, fun _ => rfl⟩
theorem fl_RX6_25 : FL RX6 25 7 4 false := ⟨RX6, TX6, 9, "SleepOffice$Law", by decide, rfl, by decide, lay_7, w_182, Or.inl rfl, tyo_7, nmX6, rfl, fun _ => rfl⟩
theorem fl_RX6_28 : FL RX6 28 7 5 false := ⟨RX6, TX6, 9, "SleepOffice$Law", by decide, rfl, by decide, lay_7, w_185, Or.inl rfl, tyo_7, nmX6, rfl, fun _ => rfl⟩
theorem fl_RX6_31 : FL RX6 31 7 6 false := ⟨RX6, TX6, 9, "SleepOffice$Law", by decide, rfl, by decide, lay_7, w_188, Or.inl rfl, tyo_7, nmX6, rfl, fun _ => rfl⟩
theorem fl_RX6_34 : FL RX6 34 7 8 false := ⟨RX6, TX6, 9, "SleepOffice$Law", by decide, rfl, by decide, lay_7, w_192, Or.inl rfl, tyo_7, nmX6, rfl, fun _ => rfl⟩
theorem fl_RX6_43 : FL RX6 43 7 7 true := ⟨RX6, TX6, 9, "SleepOffice$Law", by decide, rfl, by decide, lay_7, w_191, Or.inl rfl, tyo_7, nmX6, rfl, fun _ => rfl⟩
theorem fl_RX6_9 : FL RX6 9 7 0 false := ⟨RX6, TX6, 9, "SleepOffice$Law", by decide, rfl, by decide, lay_7, w_173, Or.inl rfl, tyo_7, nmX6, rfl, fun _ => rfl⟩
theorem fl_RX7_122 : FL RX7 122 11 0 true := ⟨RX10, TX10, 3, "SleepOffice$Token", by decide, rfl, by decide, lay_11, w_806, Or.inl rfl, tyo_11, nmX10, rfl, fun h => by cases h⟩
theorem fl_RX7_123 : FL RX7 123 11 1 true := ⟨RX10, TX10, 3, "SleepOffice$Token", by decide, rfl, by decide, lay_11, w_808, Or.inl rfl, tyo_11, nmX10, rfl, fun h => by cases h⟩
theorem fl_RX7_124 : FL RX7 124 11 2 true := ⟨RX10, TX10, 3, "SleepOffice$Token", by decide, rfl, by decide, lay_11, w_810, Or.inl rfl, tyo_11, nmX10, rfl, fun h => by cases h⟩
theorem fl_RX7_15 : FL RX7 15 8 2 false := ⟨RX7, TX7, 9, "SleepOffice$LawReader", by decide, rfl, by decide, lay_8, w_840, Or.inl rfl, tyo_8, nmX7, rfl, fun _ => rfl⟩
theorem fl_RX7_18 : FL RX7 18 8 4 false := ⟨RX7, TX7, 9, "SleepOffice$LawReader", by decide, rfl, by decide, lay_8, w_843, Or.inl rfl, tyo_8, nmX7, rfl, fun _ => rfl⟩
theorem fl_RX7_23 : FL RX7 23 8 5 false := ⟨RX7, TX7, 9, "SleepOffice$LawReader", by decide, rfl, by decide, lay_8, w_844, Or.inl rfl, tyo_8, nmX7, rfl, fun _ => rfl⟩
theorem fl_RX7_26 : FL RX7 26 8 6 false := ⟨RX7, TX7, 9, "SleepOffice$LawReader", by decide, rfl, by decide, lay_8, w_845, Or.inl rfl, tyo_8, nmX7, rfl, fun _ => rfl⟩
theorem fl_RX7_29 : FL RX7 29 8 7 false := ⟨RX7, TX7, 9, "SleepOffice$LawReader", by decide, rfl, by decide, lay_8, w_846, Or.inl rfl, tyo_8, nmX7, rfl, fun _ => rfl⟩
theorem fl_RX7_32 : FL RX7 32 8 8 false := ⟨RX7, TX7, 9, "SleepOffice$LawReader", by decide, rfl, by decide, lay_8, w_847, Or.inl rfl, tyo_8, nmX7, rfl, fun _ => rfl⟩
theorem fl_RX7_35 : FL RX7 35 8 3 true := ⟨RX7, TX7, 9, "SleepOffice$LawReader", by decide, rfl, by decide, lay_8, w_842, Or.inl rfl, tyo_8, nmX7, rfl, fun _ => rfl⟩
theorem fl_RX7_50 : FL RX7 50 8 0 true := ⟨RX7, TX7, 9, "SleepOffice$LawReader", by decide, rfl, by decide, lay_8, w_836, Or.inl rfl, tyo_8, nmX7, rfl, fun _ => rfl⟩
theorem fl_RX7_60 : FL RX7 60 7 0 false := ⟨RX6, TX6, 9, "SleepOffice$Law", by decide, rfl, by decide, lay_7, w_174, Or.inl rfl, tyo_7, nmX6, rfl, fun h => by cases h⟩
theorem fl_RX7_74 : FL RX7 74 7 2 false := ⟨RX6, TX6, 9, "SleepOffice$Law", by decide, rfl, by decide, lay_7, w_178, Or.inl rfl, tyo_7, nmX6, rfl, fun h => by cases h⟩
theorem fl_RX7_77 : FL RX7 77 7 3 false := ⟨RX6, TX6, 9, "SleepOffice$Law", by decide, rfl, by decide, lay_7, w_180, Or.inl rfl, tyo_7, nmX6, rfl, fun h => by cases h⟩
theorem fl_RX7_80 : FL RX7 80 7 4 false := ⟨RX6, TX6, 9, "SleepOffice$Law", by decide, rfl, by decide, lay_7, w_183, Or.inl rfl, tyo_7, nmX6, rfl, fun h => by cases h⟩
theorem fl_RX7_83 : FL RX7 83 7 5 false := ⟨RX6, TX6, 9, "SleepOffice$Law", by decide, rfl, by decide, lay_7, w_186, Or.inl rfl, tyo_7, nmX6, rfl, fun h => by cases h⟩
theorem fl_RX7_86 : FL RX7 86 7 6 false := ⟨RX6, TX6, 9, "SleepOffice$Law", by decide, rfl, by decide, lay_7, w_189, Or.inl rfl, tyo_7, nmX6, rfl, fun h => by cases h⟩
theorem fl_RX7_9 : FL RX7 9 8 1 false := ⟨RX7, TX7, 9, "SleepOffice$LawReader", by decide, rfl, by decide, lay_8, w_838, Or.inl rfl, tyo_8, nmX7, rfl, fun _ => rfl⟩
theorem fl_RX8_15 : FL RX8 15 9 6 false := ⟨RX8, TX8, 8, "SleepOffice$Person", by decide, rfl, by decide, lay_9, w_511, Or.inl rfl, tyo_9, nmX8, rfl, fun _ => rfl⟩
theorem fl_RX8_18 : FL RX8 18 9 7 false := ⟨RX8, TX8, 8, "SleepOffice$Person", by decide, rfl, by decide, lay_9, w_513, Or.inl rfl, tyo_9, nmX8, rfl, fun _ => rfl⟩
theorem fl_RX8_21 : FL RX8 21 9 0 true := ⟨RX8, TX8, 8, "SleepOffice$Person", by decide, rfl, by decide, lay_9, w_501, Or.inl rfl, tyo_9, nmX8, rfl, fun _ => rfl⟩
theorem fl_RX8_24 : FL RX8 24 9 1 true := ⟨RX8, TX8, 8, "SleepOffice$Person", by decide, rfl, by decide, lay_9, w_503, Or.inl rfl, tyo_9, nmX8, rfl, fun _ => rfl⟩
theorem fl_RX8_27 : FL RX8 27 9 2 true := ⟨RX8, TX8, 8, "SleepOffice$Person", by decide, rfl, by decide, lay_9, w_504, Or.inl rfl, tyo_9, nmX8, rfl, fun _ => rfl⟩
theorem fl_RX8_30 : FL RX8 30 9 3 true := ⟨RX8, TX8, 8, "SleepOffice$Person", by decide, rfl, by decide, lay_9, w_506, Or.inl rfl, tyo_9, nmX8, rfl, fun _ => rfl⟩
theorem fl_RX8_33 : FL RX8 33 9 4 true := ⟨RX8, TX8, 8, "SleepOffice$Person", by decide, rfl, by decide, lay_9, w_507, Or.inl rfl, tyo_9, nmX8, rfl, fun _ => rfl⟩
theorem fl_RX8_9 : FL RX8 9 9 5 false := ⟨RX8, TX8, 8, "SleepOffice$Person", by decide, rfl, by decide, lay_9, w_509, Or.inl rfl, tyo_9, nmX8, rfl, fun _ => rfl⟩
theorem fl_RX9_13 : FL RX9 13 10 1 false := ⟨RX9, TX9, 7, "SleepOffice$ProofScale", by decide, rfl, by decide, lay_10, w_223, Or.inl rfl, tyo_10, nmX9, rfl, fun _ => rfl⟩
theorem fl_RX9_16 : FL RX9 16 10 2 false := ⟨RX9, TX9, 7, "SleepOffice$ProofScale", by decide, rfl, by decide, lay_10, w_225, Or.inl rfl, tyo_10, nmX9, rfl, fun _ => rfl⟩
theorem fl_RX9_19 : FL RX9 19 10 3 false := ⟨RX9, TX9, 7, "SleepOffice$ProofScale", by decide, rfl, by decide, lay_10, w_227, Or.inl rfl, tyo_10, nmX9, rfl, fun _ => rfl⟩
theorem fl_RX9_22 : FL RX9 22 10 4 true := ⟨RX9, TX9, 7, "SleepOffice$ProofScale", by decide, rfl, by decide, lay_10, w_229, Or.inl rfl, tyo_10, nmX9, rfl, fun _ => rfl⟩
theorem fl_RX9_26 : FL RX9 26 10 5 false := ⟨RX9, TX9, 7, "SleepOffice$ProofScale", by decide, rfl, by decide, lay_10, w_230, Or.inl rfl, tyo_10, nmX9, rfl, fun _ => rfl⟩
theorem fl_RX9_29 : FL RX9 29 10 6 false := ⟨RX9, TX9, 7, "SleepOffice$ProofScale", by decide, rfl, by decide, lay_10, w_231, Or.inl rfl, tyo_10, nmX9, rfl, fun _ => rfl⟩
theorem fl_RX9_7 : FL RX9 7 10 0 false := ⟨RX9, TX9, 7, "SleepOffice$ProofScale", by decide, rfl, by decide, lay_10, w_221, Or.inl rfl, tyo_10, nmX9, rfl, fun _ => rfl⟩
theorem cw_J0_charAt_5068e : CW yJ0_charAt_5068e cJ0_charAt_5068e 2 (Option.some Jvm.ClassFile.FieldType.char) := ⟨w_768, w_125, by decide +kernel, by decide +kernel⟩
theorem cw_J0_length_8abf5 : CW yJ0_length_8abf5 cJ0_length_8abf5 1 (Option.some Jvm.ClassFile.FieldType.int) := ⟨w_758, w_125, by decide +kernel, by decide +kernel⟩
theorem cw_J15_checkIndex_7cf53 : CW yJ15_checkIndex_7cf53 cJ15_checkIndex_7cf53 2 (Option.some Jvm.ClassFile.FieldType.int) := ⟨w_457, w_118, by decide +kernel, by decide +kernel⟩
theorem cw_J3_checkIndex_8e157 : CW yJ3_checkIndex_8e157 cJ3_checkIndex_8e157 3 (Option.some Jvm.ClassFile.FieldType.int) := ⟨w_460, w_119, by decide +kernel, by decide +kernel⟩
theorem cw_J6_bitCount_0f7a4 : CW yJ6_bitCount_0f7a4 cJ6_bitCount_0f7a4 1 (Option.some Jvm.ClassFile.FieldType.int) := ⟨w_1074, w_128, by decide +kernel, by decide +kernel⟩
theorem cw_J7_copyOf_1904c : CW yJ7_copyOf_1904c cJ7_copyOf_1904c 2 (Option.some (Jvm.ClassFile.FieldType.array (Jvm.ClassFile.FieldType.object "java/lang/Object"))) := ⟨w_410, w_116, by decide +kernel, by decide +kernel⟩
theorem cw_J7_copyOf_6403c : CW yJ7_copyOf_6403c cJ7_copyOf_6403c 4 (Option.some (Jvm.ClassFile.FieldType.array (Jvm.ClassFile.FieldType.object "java/lang/Object"))) := ⟨w_431, w_116, by decide +kernel, by decide +kernel⟩
theorem cw_J8_hugeLength_7cf53 : CW yJ8_hugeLength_7cf53 cJ8_hugeLength_7cf53 3 (Option.some Jvm.ClassFile.FieldType.int) := ⟨w_407, w_115, by decide +kernel, by decide +kernel⟩
theorem cw_J8_newLength_cabcc : CW yJ8_newLength_cabcc cJ8_newLength_cabcc 4 (Option.some Jvm.ClassFile.FieldType.int) := ⟨w_402, w_115, by decide +kernel, by decide +kernel⟩
theorem cw_J9_floorDiv_f86c9 : CW yJ9_floorDiv_f86c9 cJ9_floorDiv_f86c9 6 (Option.some Jvm.ClassFile.FieldType.long) := ⟨w_689, w_109, by decide +kernel, by decide +kernel⟩
theorem cw_J9_max_7cf53 : CW yJ9_max_7cf53 cJ9_max_7cf53 2 (Option.some Jvm.ClassFile.FieldType.int) := ⟨w_172, w_109, by decide +kernel, by decide +kernel⟩
theorem cw_J9_max_f86c9 : CW yJ9_max_f86c9 cJ9_max_f86c9 4 (Option.some Jvm.ClassFile.FieldType.long) := ⟨w_692, w_109, by decide +kernel, by decide +kernel⟩
theorem cw_J9_min_7cf53 : CW yJ9_min_7cf53 cJ9_min_7cf53 2 (Option.some Jvm.ClassFile.FieldType.int) := ⟨w_437, w_109, by decide +kernel, by decide +kernel⟩
theorem cw_J9_min_f86c9 : CW yJ9_min_f86c9 cJ9_min_f86c9 4 (Option.some Jvm.ClassFile.FieldType.long) := ⟨w_1150, w_109, by decide +kernel, by decide +kernel⟩
theorem cw_Jx4a65c_add_72be8 : CW yJx4a65c_add_72be8 cJx4a65c_add_72be8 4 (Option.none : Option Jvm.ClassFile.FieldType) := ⟨w_391, w_107, by decide +kernel, by decide +kernel⟩
theorem cw_Jx4a65c_add_7a177 : CW yJx4a65c_add_7a177 cJx4a65c_add_7a177 5 (Option.none : Option Jvm.ClassFile.FieldType) := ⟨w_660, w_107, by decide +kernel, by decide +kernel⟩
theorem cw_Jx4a65c_add_9ea2d : CW yJx4a65c_add_9ea2d cJx4a65c_add_9ea2d 2 (Option.some Jvm.ClassFile.FieldType.boolean) := ⟨w_387, w_107, by decide +kernel, by decide +kernel⟩
theorem cw_Jx4a65c_elementData_915e3 : CW yJx4a65c_elementData_915e3 cJx4a65c_elementData_915e3 2 (Option.some (Jvm.ClassFile.FieldType.object "java/lang/Object")) := ⟨w_464, w_107, by decide +kernel, by decide +kernel⟩
theorem cw_Jx4a65c_get_915e3 : CW yJx4a65c_get_915e3 cJx4a65c_get_915e3 2 (Option.some (Jvm.ClassFile.FieldType.object "java/lang/Object")) := ⟨w_454, w_107, by decide +kernel, by decide +kernel⟩
theorem cw_Jx4a65c_grow_92f84 : CW yJx4a65c_grow_92f84 cJx4a65c_grow_92f84 4 (Option.some (Jvm.ClassFile.FieldType.array (Jvm.ClassFile.FieldType.object "java/lang/Object"))) := ⟨w_399, w_107, by decide +kernel, by decide +kernel⟩
theorem cw_Jx4a65c_grow_d5877 : CW yJx4a65c_grow_d5877 cJx4a65c_grow_d5877 1 (Option.some (Jvm.ClassFile.FieldType.array (Jvm.ClassFile.FieldType.object "java/lang/Object"))) := ⟨w_395, w_107, by decide +kernel, by decide +kernel⟩
theorem cw_Jx4a65c_init_da8c8 : CW yJx4a65c_init_da8c8 cJx4a65c_init_da8c8 1 (Option.none : Option Jvm.ClassFile.FieldType) := ⟨w_142, w_107, by decide +kernel, by decide +kernel⟩
theorem cw_Jx4a65c_rangeCheckForAdd_d00df : CW yJx4a65c_rangeCheckForAdd_d00df cJx4a65c_rangeCheckForAdd_d00df 2 (Option.none : Option Jvm.ClassFile.FieldType) := ⟨w_664, w_107, by decide +kernel, by decide +kernel⟩
theorem cw_Jx4a65c_size_8abf5 : CW yJx4a65c_size_8abf5 cJx4a65c_size_8abf5 1 (Option.some Jvm.ClassFile.FieldType.int) := ⟨w_357, w_107, by decide +kernel, by decide +kernel⟩
theorem cw_Jxa1e45_init_da8c8 : CW yJxa1e45_init_da8c8 cJxa1e45_init_da8c8 1 (Option.none : Option Jvm.ClassFile.FieldType) := ⟨w_148, w_105, by decide +kernel, by decide +kernel⟩
theorem cw_Jxc12de_init_da8c8 : CW yJxc12de_init_da8c8 cJxc12de_init_da8c8 1 (Option.none : Option Jvm.ClassFile.FieldType) := ⟨w_145, w_106, by decide +kernel, by decide +kernel⟩
theorem cw_X0_askedSum : CW yX0_askedSum cX0_askedSum 7 (Option.some Jvm.ClassFile.FieldType.long) := ⟨w_682, w_121, by decide +kernel, by decide +kernel⟩
theorem cw_X0_grewOn : CW yX0_grewOn cX0_grewOn 4 (Option.some Jvm.ClassFile.FieldType.boolean) := ⟨w_673, w_121, by decide +kernel, by decide +kernel⟩
theorem cw_X0_init : CW yX0_init cX0_init 6 (Option.none : Option Jvm.ClassFile.FieldType) := ⟨w_556, w_121, by decide +kernel, by decide +kernel⟩
theorem cw_X0_isHeld : CW yX0_isHeld cX0_isHeld 1 (Option.some Jvm.ClassFile.FieldType.boolean) := ⟨w_975, w_121, by decide +kernel, by decide +kernel⟩
theorem cw_X0_lastStir : CW yX0_lastStir cX0_lastStir 7 (Option.some Jvm.ClassFile.FieldType.int) := ⟨w_966, w_121, by decide +kernel, by decide +kernel⟩
theorem cw_X0_tell : CW yX0_tell cX0_tell 3 (Option.none : Option Jvm.ClassFile.FieldType) := ⟨w_649, w_121, by decide +kernel, by decide +kernel⟩
theorem cw_X10_byteAt : CW yX10_byteAt cX10_byteAt 2 (Option.some Jvm.ClassFile.FieldType.int) := ⟨w_718, w_124, by decide +kernel, by decide +kernel⟩
theorem cw_X10_init : CW yX10_init cX10_init 4 (Option.none : Option Jvm.ClassFile.FieldType) := ⟨w_803, w_124, by decide +kernel, by decide +kernel⟩
theorem cw_X10_isBlank : CW yX10_isBlank cX10_isBlank 1 (Option.some Jvm.ClassFile.FieldType.boolean) := ⟨w_824, w_124, by decide +kernel, by decide +kernel⟩
theorem cw_X10_isDigit : CW yX10_isDigit cX10_isDigit 1 (Option.some Jvm.ClassFile.FieldType.boolean) := ⟨w_728, w_124, by decide +kernel, by decide +kernel⟩
theorem cw_X10_isLetter : CW yX10_isLetter cX10_isLetter 1 (Option.some Jvm.ClassFile.FieldType.boolean) := ⟨w_725, w_124, by decide +kernel, by decide +kernel⟩
theorem cw_X10_isSpelled : CW yX10_isSpelled cX10_isSpelled 5 (Option.some Jvm.ClassFile.FieldType.boolean) := ⟨w_754, w_124, by decide +kernel, by decide +kernel⟩
theorem cw_X10_keyword : CW yX10_keyword cX10_keyword 4 (Option.some Jvm.ClassFile.FieldType.int) := ⟨w_733, w_124, by decide +kernel, by decide +kernel⟩
theorem cw_X10_number : CW yX10_number cX10_number 5 (Option.some (Jvm.ClassFile.FieldType.object "SleepOffice$Token")) := ⟨w_821, w_124, by decide +kernel, by decide +kernel⟩
theorem cw_X10_signOf : CW yX10_signOf cX10_signOf 1 (Option.some Jvm.ClassFile.FieldType.int) := ⟨w_827, w_124, by decide +kernel, by decide +kernel⟩
theorem cw_X10_spelling : CW yX10_spelling cX10_spelling 1 (Option.some (Jvm.ClassFile.FieldType.object "java/lang/String")) := ⟨w_736, w_124, by decide +kernel, by decide +kernel⟩
theorem cw_X10_split : CW yX10_split cX10_split 6 (Option.some (Jvm.ClassFile.FieldType.object "java/util/ArrayList")) := ⟨w_713, w_124, by decide +kernel, by decide +kernel⟩
theorem cw_X10_wordEnd : CW yX10_wordEnd cX10_wordEnd 5 (Option.some Jvm.ClassFile.FieldType.int) := ⟨w_722, w_124, by decide +kernel, by decide +kernel⟩
theorem cw_X11_accountAt : CW yX11_accountAt cX11_accountAt 2 (Option.some (Jvm.ClassFile.FieldType.object "SleepOffice$Account")) := ⟨w_611, w_104, by decide +kernel, by decide +kernel⟩
theorem cw_X11_claimAt : CW yX11_claimAt cX11_claimAt 2 (Option.some (Jvm.ClassFile.FieldType.object "SleepOffice$Claim")) := ⟨w_1142, w_104, by decide +kernel, by decide +kernel⟩
theorem cw_X11_countHeirs : CW yX11_countHeirs cX11_countHeirs 4 (Option.some Jvm.ClassFile.FieldType.int) := ⟨w_1089, w_104, by decide +kernel, by decide +kernel⟩
theorem cw_X11_countHeld : CW yX11_countHeld cX11_countHeld 3 (Option.some Jvm.ClassFile.FieldType.int) := ⟨w_1297, w_104, by decide +kernel, by decide +kernel⟩
theorem cw_X11_countLines : CW yX11_countLines cX11_countLines 3 (Option.none : Option Jvm.ClassFile.FieldType) := ⟨w_535, w_104, by decide +kernel, by decide +kernel⟩
theorem cw_X11_firmAt : CW yX11_firmAt cX11_firmAt 2 (Option.some (Jvm.ClassFile.FieldType.object "SleepOffice$Firm")) := ⟨w_450, w_104, by decide +kernel, by decide +kernel⟩
theorem cw_X11_gather : CW yX11_gather cX11_gather 4 (Option.some Jvm.ClassFile.FieldType.boolean) := ⟨w_1024, w_104, by decide +kernel, by decide +kernel⟩
theorem cw_X11_hold : CW yX11_hold cX11_hold 2 (Option.none : Option Jvm.ClassFile.FieldType) := ⟨w_979, w_104, by decide +kernel, by decide +kernel⟩
theorem cw_X11_holderOn : CW yX11_holderOn cX11_holderOn 4 (Option.some (Jvm.ClassFile.FieldType.object "SleepOffice$Firm")) := ⟨w_483, w_104, by decide +kernel, by decide +kernel⟩
theorem cw_X11_interestOf : CW yX11_interestOf cX11_interestOf 5 (Option.some Jvm.ClassFile.FieldType.long) := ⟨w_987, w_104, by decide +kernel, by decide +kernel⟩
theorem cw_X11_isGood : CW yX11_isGood cX11_isGood 2 (Option.some Jvm.ClassFile.FieldType.boolean) := ⟨w_1187, w_104, by decide +kernel, by decide +kernel⟩
theorem cw_X11_isHome : CW yX11_isHome cX11_isHome 1 (Option.some Jvm.ClassFile.FieldType.boolean) := ⟨w_495, w_104, by decide +kernel, by decide +kernel⟩
theorem cw_X11_isPast : CW yX11_isPast cX11_isPast 2 (Option.some Jvm.ClassFile.FieldType.boolean) := ⟨w_468, w_104, by decide +kernel, by decide +kernel⟩
theorem cw_X11_isWithin : CW yX11_isWithin cX11_isWithin 2 (Option.some Jvm.ClassFile.FieldType.boolean) := ⟨w_353, w_104, by decide +kernel, by decide +kernel⟩
theorem cw_X11_lawOf : CW yX11_lawOf cX11_lawOf 2 (Option.some (Jvm.ClassFile.FieldType.object "SleepOffice$Law")) := ⟨w_942, w_104, by decide +kernel, by decide +kernel⟩
theorem cw_X11_owedOn : CW yX11_owedOn cX11_owedOn 3 (Option.some Jvm.ClassFile.FieldType.int) := ⟨w_958, w_104, by decide +kernel, by decide +kernel⟩
theorem cw_X11_paidOf : CW yX11_paidOf cX11_paidOf 6 (Option.some Jvm.ClassFile.FieldType.long) := ⟨w_993, w_104, by decide +kernel, by decide +kernel⟩
theorem cw_X11_partsFor : CW yX11_partsFor cX11_partsFor 5 (Option.some Jvm.ClassFile.FieldType.int) := ⟨w_1092, w_104, by decide +kernel, by decide +kernel⟩
theorem cw_X11_partsOf : CW yX11_partsOf cX11_partsOf 2 (Option.some Jvm.ClassFile.FieldType.int) := ⟨w_1190, w_104, by decide +kernel, by decide +kernel⟩
theorem cw_X11_personAt : CW yX11_personAt cX11_personAt 2 (Option.some (Jvm.ClassFile.FieldType.object "SleepOffice$Person")) := ⟨w_491, w_104, by decide +kernel, by decide +kernel⟩
theorem cw_X11_pointsAsked : CW yX11_pointsAsked cX11_pointsAsked 3 (Option.some Jvm.ClassFile.FieldType.int) := ⟨w_1146, w_104, by decide +kernel, by decide +kernel⟩
theorem cw_X11_putBytes : CW yX11_putBytes cX11_putBytes 3 (Option.none : Option Jvm.ClassFile.FieldType) := ⟨w_700, w_104, by decide +kernel, by decide +kernel⟩
theorem cw_X11_sleepDay : CW yX11_sleepDay cX11_sleepDay 4 (Option.some Jvm.ClassFile.FieldType.int) := ⟨w_962, w_104, by decide +kernel, by decide +kernel⟩
theorem cw_X11_spanEnd : CW yX11_spanEnd cX11_spanEnd 4 (Option.some Jvm.ClassFile.FieldType.int) := ⟨w_1224, w_104, by decide +kernel, by decide +kernel⟩
theorem cw_X11_sumHeld : CW yX11_sumHeld cX11_sumHeld 4 (Option.some Jvm.ClassFile.FieldType.long) := ⟨w_1301, w_104, by decide +kernel, by decide +kernel⟩
theorem cw_X11_sumPaid : CW yX11_sumPaid cX11_sumPaid 4 (Option.some Jvm.ClassFile.FieldType.long) := ⟨w_1305, w_104, by decide +kernel, by decide +kernel⟩
theorem cw_X11_takesEntry : CW yX11_takesEntry cX11_takesEntry 3 (Option.some Jvm.ClassFile.FieldType.boolean) := ⟨w_615, w_104, by decide +kernel, by decide +kernel⟩
theorem cw_X11_tookOneSince : CW yX11_tookOneSince cX11_tookOneSince 5 (Option.some Jvm.ClassFile.FieldType.boolean) := ⟨w_476, w_104, by decide +kernel, by decide +kernel⟩
theorem cw_X11_wasPaidBefore : CW yX11_wasPaidBefore cX11_wasPaidBefore 4 (Option.some Jvm.ClassFile.FieldType.boolean) := ⟨w_1198, w_104, by decide +kernel, by decide +kernel⟩
theorem cw_X12_aLine : CW yX12_aLine cX12_aLine 2 (Option.some Jvm.ClassFile.FieldType.boolean) := ⟨w_1707, w_113, by decide +kernel, by decide +kernel⟩
theorem cw_X12_aNumber : CW yX12_aNumber cX12_aNumber 2 (Option.some Jvm.ClassFile.FieldType.boolean) := ⟨w_1723, w_113, by decide +kernel, by decide +kernel⟩
theorem cw_X12_all : CW yX12_all cX12_all 1 (Option.some Jvm.ClassFile.FieldType.boolean) := ⟨w_1755, w_113, by decide +kernel, by decide +kernel⟩
theorem cw_X12_any : CW yX12_any cX12_any 1 (Option.some Jvm.ClassFile.FieldType.boolean) := ⟨w_1751, w_113, by decide +kernel, by decide +kernel⟩
theorem cw_X12_asked : CW yX12_asked cX12_asked 8 (Option.some Jvm.ClassFile.FieldType.int) := ⟨w_1885, w_113, by decide +kernel, by decide +kernel⟩
theorem cw_X12_bad : CW yX12_bad cX12_bad 2 (Option.some Jvm.ClassFile.FieldType.boolean) := ⟨w_1711, w_113, by decide +kernel, by decide +kernel⟩
theorem cw_X12_both : CW yX12_both cX12_both 3 (Option.some Jvm.ClassFile.FieldType.int) := ⟨w_1894, w_113, by decide +kernel, by decide +kernel⟩
theorem cw_X12_bound : CW yX12_bound cX12_bound 8 (Option.some Jvm.ClassFile.FieldType.int) := ⟨w_1924, w_113, by decide +kernel, by decide +kernel⟩
theorem cw_X12_clears : CW yX12_clears cX12_clears 3 (Option.none : Option Jvm.ClassFile.FieldType) := ⟨w_1315, w_113, by decide +kernel, by decide +kernel⟩
theorem cw_X12_comesTo : CW yX12_comesTo cX12_comesTo 8 (Option.some Jvm.ClassFile.FieldType.int) := ⟨w_1891, w_113, by decide +kernel, by decide +kernel⟩
theorem cw_X12_common : CW yX12_common cX12_common 10 (Option.some Jvm.ClassFile.FieldType.long) := ⟨w_1873, w_113, by decide +kernel, by decide +kernel⟩
theorem cw_X12_counts : CW yX12_counts cX12_counts 4 (Option.none : Option Jvm.ClassFile.FieldType) := ⟨w_1846, w_113, by decide +kernel, by decide +kernel⟩
theorem cw_X12_firmOf : CW yX12_firmOf cX12_firmOf 4 (Option.some Jvm.ClassFile.FieldType.int) := ⟨w_1598, w_113, by decide +kernel, by decide +kernel⟩
theorem cw_X12_heirsOf : CW yX12_heirsOf cX12_heirsOf 4 (Option.some Jvm.ClassFile.FieldType.int) := ⟨w_1858, w_113, by decide +kernel, by decide +kernel⟩
theorem cw_X12_inner : CW yX12_inner cX12_inner 2 (Option.some Jvm.ClassFile.FieldType.boolean) := ⟨w_1715, w_113, by decide +kernel, by decide +kernel⟩
theorem cw_X12_interest : CW yX12_interest cX12_interest 9 (Option.some Jvm.ClassFile.FieldType.long) := ⟨w_1800, w_113, by decide +kernel, by decide +kernel⟩
theorem cw_X12_is : CW yX12_is cX12_is 4 (Option.some Jvm.ClassFile.FieldType.boolean) := ⟨w_1685, w_113, by decide +kernel, by decide +kernel⟩
theorem cw_X12_isAccount : CW yX12_isAccount cX12_isAccount 2 (Option.some Jvm.ClassFile.FieldType.boolean) := ⟨w_1626, w_113, by decide +kernel, by decide +kernel⟩
theorem cw_X12_isBarred : CW yX12_isBarred cX12_isBarred 3 (Option.some Jvm.ClassFile.FieldType.boolean) := ⟨w_1814, w_113, by decide +kernel, by decide +kernel⟩
theorem cw_X12_isDigit : CW yX12_isDigit cX12_isDigit 1 (Option.some Jvm.ClassFile.FieldType.boolean) := ⟨w_1703, w_113, by decide +kernel, by decide +kernel⟩
theorem cw_X12_isFirm : CW yX12_isFirm cX12_isFirm 2 (Option.some Jvm.ClassFile.FieldType.boolean) := ⟨w_1582, w_113, by decide +kernel, by decide +kernel⟩
theorem cw_X12_isGood : CW yX12_isGood cX12_isGood 4 (Option.some Jvm.ClassFile.FieldType.boolean) := ⟨w_1898, w_113, by decide +kernel, by decide +kernel⟩
theorem cw_X12_isHeld : CW yX12_isHeld cX12_isHeld 2 (Option.some Jvm.ClassFile.FieldType.boolean) := ⟨w_1796, w_113, by decide +kernel, by decide +kernel⟩
theorem cw_X12_isIn : CW yX12_isIn cX12_isIn 3 (Option.some Jvm.ClassFile.FieldType.boolean) := ⟨w_1567, w_113, by decide +kernel, by decide +kernel⟩
theorem cw_X12_isLetter : CW yX12_isLetter cX12_isLetter 1 (Option.some Jvm.ClassFile.FieldType.boolean) := ⟨w_1676, w_113, by decide +kernel, by decide +kernel⟩
theorem cw_X12_isLike : CW yX12_isLike cX12_isLike 3 (Option.some Jvm.ClassFile.FieldType.boolean) := ⟨w_1826, w_113, by decide +kernel, by decide +kernel⟩
theorem cw_X12_isMerged : CW yX12_isMerged cX12_isMerged 3 (Option.some Jvm.ClassFile.FieldType.boolean) := ⟨w_1590, w_113, by decide +kernel, by decide +kernel⟩
theorem cw_X12_isPast : CW yX12_isPast cX12_isPast 2 (Option.some Jvm.ClassFile.FieldType.boolean) := ⟨w_1586, w_113, by decide +kernel, by decide +kernel⟩
theorem cw_X12_isPerson : CW yX12_isPerson cX12_isPerson 2 (Option.some Jvm.ClassFile.FieldType.boolean) := ⟨w_1606, w_113, by decide +kernel, by decide +kernel⟩
theorem cw_X12_isSet : CW yX12_isSet cX12_isSet 3 (Option.some Jvm.ClassFile.FieldType.boolean) := ⟨w_1834, w_113, by decide +kernel, by decide +kernel⟩
theorem cw_X12_isState : CW yX12_isState cX12_isState 1 (Option.some Jvm.ClassFile.FieldType.boolean) := ⟨w_1574, w_113, by decide +kernel, by decide +kernel⟩
theorem cw_X12_isUnlike : CW yX12_isUnlike cX12_isUnlike 3 (Option.some Jvm.ClassFile.FieldType.boolean) := ⟨w_1818, w_113, by decide +kernel, by decide +kernel⟩
theorem cw_X12_joinAll : CW yX12_joinAll cX12_joinAll 1 (Option.none : Option Jvm.ClassFile.FieldType) := ⟨w_1838, w_113, by decide +kernel, by decide +kernel⟩
theorem cw_X12_joins : CW yX12_joins cX12_joins 8 (Option.none : Option Jvm.ClassFile.FieldType) := ⟨w_1842, w_113, by decide +kernel, by decide +kernel⟩
theorem cw_X12_lay : CW yX12_lay cX12_lay 3 (Option.none : Option Jvm.ClassFile.FieldType) := ⟨w_1747, w_113, by decide +kernel, by decide +kernel⟩
theorem cw_X12_linesOf : CW yX12_linesOf cX12_linesOf 4 (Option.some Jvm.ClassFile.FieldType.int) := ⟨w_1866, w_113, by decide +kernel, by decide +kernel⟩
theorem cw_X12_need : CW yX12_need cX12_need 2 (Option.some Jvm.ClassFile.FieldType.boolean) := ⟨w_1743, w_113, by decide +kernel, by decide +kernel⟩
theorem cw_X12_next0 : CW yX12_next0 cX12_next0 3 (Option.none : Option Jvm.ClassFile.FieldType) := ⟨w_1669, w_113, by decide +kernel, by decide +kernel⟩
theorem cw_X12_nextDay : CW yX12_nextDay cX12_nextDay 6 (Option.some Jvm.ClassFile.FieldType.int) := ⟨w_1652, w_113, by decide +kernel, by decide +kernel⟩
theorem cw_X12_one : CW yX12_one cX12_one 2 (Option.some Jvm.ClassFile.FieldType.boolean) := ⟨w_1759, w_113, by decide +kernel, by decide +kernel⟩
theorem cw_X12_opens : CW yX12_opens cX12_opens 1 (Option.some Jvm.ClassFile.FieldType.boolean) := ⟨w_1739, w_113, by decide +kernel, by decide +kernel⟩
theorem cw_X12_owedTo : CW yX12_owedTo cX12_owedTo 3 (Option.some Jvm.ClassFile.FieldType.int) := ⟨w_1780, w_113, by decide +kernel, by decide +kernel⟩
theorem cw_X12_paidOf : CW yX12_paidOf cX12_paidOf 5 (Option.some Jvm.ClassFile.FieldType.long) := ⟨w_1806, w_113, by decide +kernel, by decide +kernel⟩
theorem cw_X12_pointsOf : CW yX12_pointsOf cX12_pointsOf 3 (Option.some Jvm.ClassFile.FieldType.int) := ⟨w_1822, w_113, by decide +kernel, by decide +kernel⟩
theorem cw_X12_product : CW yX12_product cX12_product 2 (Option.some Jvm.ClassFile.FieldType.boolean) := ⟨w_1731, w_113, by decide +kernel, by decide +kernel⟩
theorem cw_X12_see : CW yX12_see cX12_see 2 (Option.some Jvm.ClassFile.FieldType.int) := ⟨w_1673, w_113, by decide +kernel, by decide +kernel⟩
theorem cw_X12_shares : CW yX12_shares cX12_shares 5 (Option.none : Option Jvm.ClassFile.FieldType) := ⟨w_1862, w_113, by decide +kernel, by decide +kernel⟩
theorem cw_X12_sleepOf : CW yX12_sleepOf cX12_sleepOf 6 (Option.some Jvm.ClassFile.FieldType.int) := ⟨w_1784, w_113, by decide +kernel, by decide +kernel⟩
theorem cw_X12_sumNow : CW yX12_sumNow cX12_sumNow 6 (Option.some Jvm.ClassFile.FieldType.long) := ⟨w_1644, w_113, by decide +kernel, by decide +kernel⟩
theorem cw_X12_sumOf : CW yX12_sumOf cX12_sumOf 12 (Option.some Jvm.ClassFile.FieldType.long) := ⟨w_1648, w_113, by decide +kernel, by decide +kernel⟩
theorem cw_X12_sumUp : CW yX12_sumUp cX12_sumUp 2 (Option.some Jvm.ClassFile.FieldType.boolean) := ⟨w_1727, w_113, by decide +kernel, by decide +kernel⟩
theorem cw_X12_takes : CW yX12_takes cX12_takes 3 (Option.none : Option Jvm.ClassFile.FieldType) := ⟨w_1763, w_113, by decide +kernel, by decide +kernel⟩
theorem cw_X12_tells : CW yX12_tells cX12_tells 6 (Option.none : Option Jvm.ClassFile.FieldType) := ⟨w_1632, w_113, by decide +kernel, by decide +kernel⟩
theorem cw_X12_two : CW yX12_two cX12_two 4 (Option.some Jvm.ClassFile.FieldType.boolean) := ⟨w_1719, w_113, by decide +kernel, by decide +kernel⟩
theorem cw_X12_unit : CW yX12_unit cX12_unit 1 (Option.some Jvm.ClassFile.FieldType.boolean) := ⟨w_1735, w_113, by decide +kernel, by decide +kernel⟩
theorem cw_X12_word : CW yX12_word cX12_word 1 (Option.some Jvm.ClassFile.FieldType.int) := ⟨w_1680, w_113, by decide +kernel, by decide +kernel⟩
theorem cw_X1_addGap : CW yX1_addGap cX1_addGap 6 (Option.none : Option Jvm.ClassFile.FieldType) := ⟨w_1260, w_112, by decide +kernel, by decide +kernel⟩
theorem cw_X1_choose : CW yX1_choose cX1_choose 7 (Option.none : Option Jvm.ClassFile.FieldType) := ⟨w_1250, w_112, by decide +kernel, by decide +kernel⟩
theorem cw_X1_chosenCost : CW yX1_chosenCost cX1_chosenCost 1 (Option.some Jvm.ClassFile.FieldType.int) := ⟨w_1289, w_112, by decide +kernel, by decide +kernel⟩
theorem cw_X1_chosenGain : CW yX1_chosenGain cX1_chosenGain 1 (Option.some Jvm.ClassFile.FieldType.int) := ⟨w_1282, w_112, by decide +kernel, by decide +kernel⟩
theorem cw_X1_chosenSet : CW yX1_chosenSet cX1_chosenSet 1 (Option.some Jvm.ClassFile.FieldType.int) := ⟨w_1274, w_112, by decide +kernel, by decide +kernel⟩
theorem cw_X1_closeRun : CW yX1_closeRun cX1_closeRun 3 (Option.none : Option Jvm.ClassFile.FieldType) := ⟨w_1265, w_112, by decide +kernel, by decide +kernel⟩
theorem cw_X1_init : CW yX1_init cX1_init 1 (Option.none : Option Jvm.ClassFile.FieldType) := ⟨w_275, w_112, by decide +kernel, by decide +kernel⟩
theorem cw_X1_search : CW yX1_search cX1_search 6 (Option.none : Option Jvm.ClassFile.FieldType) := ⟨w_1269, w_112, by decide +kernel, by decide +kernel⟩
theorem cw_X1_takenOff : CW yX1_takenOff cX1_takenOff 1 (Option.some Jvm.ClassFile.FieldType.long) := ⟨w_1278, w_112, by decide +kernel, by decide +kernel⟩
theorem cw_X2_init : CW yX2_init cX2_init 5 (Option.none : Option Jvm.ClassFile.FieldType) := ⟨w_1104, w_129, by decide +kernel, by decide +kernel⟩
theorem cw_X3_changed : CW yX3_changed cX3_changed 3 (Option.some Jvm.ClassFile.FieldType.long) := ⟨w_686, w_122, by decide +kernel, by decide +kernel⟩
theorem cw_X3_comesAhead : CW yX3_comesAhead cX3_comesAhead 2 (Option.some Jvm.ClassFile.FieldType.boolean) := ⟨w_656, w_122, by decide +kernel, by decide +kernel⟩
theorem cw_X3_init : CW yX3_init cX3_init 7 (Option.none : Option Jvm.ClassFile.FieldType) := ⟨w_622, w_122, by decide +kernel, by decide +kernel⟩
theorem cw_X4_figureAhead : CW yX4_figureAhead cX4_figureAhead 3 (Option.some Jvm.ClassFile.FieldType.int) := ⟨w_1232, w_114, by decide +kernel, by decide +kernel⟩
theorem cw_X4_figureBehind : CW yX4_figureBehind cX4_figureBehind 3 (Option.some Jvm.ClassFile.FieldType.int) := ⟨w_1236, w_114, by decide +kernel, by decide +kernel⟩
theorem cw_X4_greatestIn : CW yX4_greatestIn cX4_greatestIn 2 (Option.some Jvm.ClassFile.FieldType.int) := ⟨w_1228, w_114, by decide +kernel, by decide +kernel⟩
theorem cw_X4_init : CW yX4_init cX4_init 4 (Option.none : Option Jvm.ClassFile.FieldType) := ⟨w_362, w_114, by decide +kernel, by decide +kernel⟩
theorem cw_X4_isGap : CW yX4_isGap cX4_isGap 2 (Option.some Jvm.ClassFile.FieldType.boolean) := ⟨w_1254, w_114, by decide +kernel, by decide +kernel⟩
theorem cw_X4_isMergedBy : CW yX4_isMergedBy cX4_isMergedBy 2 (Option.some Jvm.ClassFile.FieldType.boolean) := ⟨w_472, w_114, by decide +kernel, by decide +kernel⟩
theorem cw_X4_leastIn : CW yX4_leastIn cX4_leastIn 4 (Option.some Jvm.ClassFile.FieldType.int) := ⟨w_1241, w_114, by decide +kernel, by decide +kernel⟩
theorem cw_X4_setFigure : CW yX4_setFigure cX4_setFigure 3 (Option.some Jvm.ClassFile.FieldType.boolean) := ⟨w_1212, w_114, by decide +kernel, by decide +kernel⟩
theorem cw_X5_clear : CW yX5_clear cX5_clear 1 (Option.none : Option Jvm.ClassFile.FieldType) := ⟨w_1028, w_111, by decide +kernel, by decide +kernel⟩
theorem cw_X5_countBest : CW yX5_countBest cX5_countBest 1 (Option.some Jvm.ClassFile.FieldType.int) := ⟨w_1063, w_111, by decide +kernel, by decide +kernel⟩
theorem cw_X5_countBestWith : CW yX5_countBestWith cX5_countBestWith 7 (Option.some Jvm.ClassFile.FieldType.int) := ⟨w_1081, w_111, by decide +kernel, by decide +kernel⟩
theorem cw_X5_everybody : CW yX5_everybody cX5_everybody 1 (Option.some Jvm.ClassFile.FieldType.int) := ⟨w_1041, w_111, by decide +kernel, by decide +kernel⟩
theorem cw_X5_greatestWorth : CW yX5_greatestWorth cX5_greatestWorth 1 (Option.some Jvm.ClassFile.FieldType.int) := ⟨w_1059, w_111, by decide +kernel, by decide +kernel⟩
theorem cw_X5_init : CW yX5_init cX5_init 1 (Option.none : Option Jvm.ClassFile.FieldType) := ⟨w_251, w_111, by decide +kernel, by decide +kernel⟩
theorem cw_X5_pairWorth : CW yX5_pairWorth cX5_pairWorth 5 (Option.some Jvm.ClassFile.FieldType.int) := ⟨w_1049, w_111, by decide +kernel, by decide +kernel⟩
theorem cw_X5_part : CW yX5_part cX5_part 10 (Option.none : Option Jvm.ClassFile.FieldType) := ⟨w_1055, w_111, by decide +kernel, by decide +kernel⟩
theorem cw_X5_reckon : CW yX5_reckon cX5_reckon 2 (Option.none : Option Jvm.ClassFile.FieldType) := ⟨w_1037, w_111, by decide +kernel, by decide +kernel⟩
theorem cw_X5_seat : CW yX5_seat cX5_seat 2 (Option.some Jvm.ClassFile.FieldType.boolean) := ⟨w_1032, w_111, by decide +kernel, by decide +kernel⟩
theorem cw_X5_seatBit : CW yX5_seatBit cX5_seatBit 3 (Option.some Jvm.ClassFile.FieldType.int) := ⟨w_1071, w_111, by decide +kernel, by decide +kernel⟩
theorem cw_X5_worthOf : CW yX5_worthOf cX5_worthOf 7 (Option.some Jvm.ClassFile.FieldType.int) := ⟨w_1045, w_111, by decide +kernel, by decide +kernel⟩
theorem cw_X6_addCode : CW yX6_addCode cX6_addCode 2 (Option.none : Option Jvm.ClassFile.FieldType) := ⟨w_913, w_108, by decide +kernel, by decide +kernel⟩
theorem cw_X6_codeAt : CW yX6_codeAt cX6_codeAt 2 (Option.some Jvm.ClassFile.FieldType.int) := ⟨w_1162, w_108, by decide +kernel, by decide +kernel⟩
theorem cw_X6_codeLength : CW yX6_codeLength cX6_codeLength 1 (Option.some Jvm.ClassFile.FieldType.int) := ⟨w_1158, w_108, by decide +kernel, by decide +kernel⟩
theorem cw_X6_init : CW yX6_init cX6_init 2 (Option.none : Option Jvm.ClassFile.FieldType) := ⟨w_168, w_108, by decide +kernel, by decide +kernel⟩
theorem cw_X6_setSleep : CW yX6_setSleep cX6_setSleep 3 (Option.none : Option Jvm.ClassFile.FieldType) := ⟨w_892, w_108, by decide +kernel, by decide +kernel⟩
theorem cw_X6_sortsThatCount : CW yX6_sortsThatCount cX6_sortsThatCount 1 (Option.some Jvm.ClassFile.FieldType.int) := ⟨w_950, w_108, by decide +kernel, by decide +kernel⟩
theorem cw_X6_yearsOfSleep : CW yX6_yearsOfSleep cX6_yearsOfSleep 2 (Option.some Jvm.ClassFile.FieldType.int) := ⟨w_946, w_108, by decide +kernel, by decide +kernel⟩
theorem cw_X7_advance : CW yX7_advance cX7_advance 2 (Option.none : Option Jvm.ClassFile.FieldType) := ⟨w_874, w_123, by decide +kernel, by decide +kernel⟩
theorem cw_X7_init : CW yX7_init cX7_init 2 (Option.none : Option Jvm.ClassFile.FieldType) := ⟨w_831, w_123, by decide +kernel, by decide +kernel⟩
theorem cw_X7_opens : CW yX7_opens cX7_opens 1 (Option.some Jvm.ClassFile.FieldType.boolean) := ⟨w_917, w_123, by decide +kernel, by decide +kernel⟩
theorem cw_X7_readFactors : CW yX7_readFactors cX7_readFactors 3 (Option.none : Option Jvm.ClassFile.FieldType) := ⟨w_905, w_123, by decide +kernel, by decide +kernel⟩
theorem cw_X7_readLine : CW yX7_readLine cX7_readLine 3 (Option.none : Option Jvm.ClassFile.FieldType) := ⟨w_884, w_123, by decide +kernel, by decide +kernel⟩
theorem cw_X7_readLines : CW yX7_readLines cX7_readLines 2 (Option.none : Option Jvm.ClassFile.FieldType) := ⟨w_870, w_123, by decide +kernel, by decide +kernel⟩
theorem cw_X7_readProof : CW yX7_readProof cX7_readProof 1 (Option.none : Option Jvm.ClassFile.FieldType) := ⟨w_897, w_123, by decide +kernel, by decide +kernel⟩
theorem cw_X7_readTerms : CW yX7_readTerms cX7_readTerms 3 (Option.none : Option Jvm.ClassFile.FieldType) := ⟨w_901, w_123, by decide +kernel, by decide +kernel⟩
theorem cw_X7_readTest : CW yX7_readTest cX7_readTest 2 (Option.none : Option Jvm.ClassFile.FieldType) := ⟨w_930, w_123, by decide +kernel, by decide +kernel⟩
theorem cw_X7_readTests : CW yX7_readTests cX7_readTests 4 (Option.none : Option Jvm.ClassFile.FieldType) := ⟨w_926, w_123, by decide +kernel, by decide +kernel⟩
theorem cw_X7_readUnit : CW yX7_readUnit cX7_readUnit 1 (Option.none : Option Jvm.ClassFile.FieldType) := ⟨w_909, w_123, by decide +kernel, by decide +kernel⟩
theorem cw_X7_refuse : CW yX7_refuse cX7_refuse 2 (Option.none : Option Jvm.ClassFile.FieldType) := ⟨w_880, w_123, by decide +kernel, by decide +kernel⟩
theorem cw_X7_take : CW yX7_take cX7_take 2 (Option.none : Option Jvm.ClassFile.FieldType) := ⟨w_921, w_123, by decide +kernel, by decide +kernel⟩
theorem cw_X7_takeNumber : CW yX7_takeNumber cX7_takeNumber 4 (Option.some Jvm.ClassFile.FieldType.int) := ⟨w_888, w_123, by decide +kernel, by decide +kernel⟩
theorem cw_X8_diedAheadOf : CW yX8_diedAheadOf cX8_diedAheadOf 2 (Option.some Jvm.ClassFile.FieldType.boolean) := ⟨w_1009, w_120, by decide +kernel, by decide +kernel⟩
theorem cw_X8_init : CW yX8_init cX8_init 6 (Option.none : Option Jvm.ClassFile.FieldType) := ⟨w_499, w_120, by decide +kernel, by decide +kernel⟩
theorem cw_X8_isBarredFrom : CW yX8_isBarredFrom cX8_isBarredFrom 2 (Option.some Jvm.ClassFile.FieldType.boolean) := ⟨w_1002, w_120, by decide +kernel, by decide +kernel⟩
theorem cw_X8_isKnownAlike : CW yX8_isKnownAlike cX8_isKnownAlike 2 (Option.some Jvm.ClassFile.FieldType.boolean) := ⟨w_1016, w_120, by decide +kernel, by decide +kernel⟩
theorem cw_X8_isKnownUnlike : CW yX8_isKnownUnlike cX8_isKnownUnlike 2 (Option.some Jvm.ClassFile.FieldType.boolean) := ⟨w_1005, w_120, by decide +kernel, by decide +kernel⟩
theorem cw_X8_lives : CW yX8_lives cX8_lives 1 (Option.some Jvm.ClassFile.FieldType.boolean) := ⟨w_539, w_120, by decide +kernel, by decide +kernel⟩
theorem cw_X8_pointsWith : CW yX8_pointsWith cX8_pointsWith 3 (Option.some Jvm.ClassFile.FieldType.int) := ⟨w_1013, w_120, by decide +kernel, by decide +kernel⟩
theorem cw_X9_combined : CW yX9_combined cX9_combined 3 (Option.some Jvm.ClassFile.FieldType.int) := ⟨w_1183, w_110, by decide +kernel, by decide +kernel⟩
theorem cw_X9_endLine : CW yX9_endLine cX9_endLine 4 (Option.none : Option Jvm.ClassFile.FieldType) := ⟨w_1171, w_110, by decide +kernel, by decide +kernel⟩
theorem cw_X9_greatest : CW yX9_greatest cX9_greatest 6 (Option.some Jvm.ClassFile.FieldType.int) := ⟨w_1154, w_110, by decide +kernel, by decide +kernel⟩
theorem cw_X9_init : CW yX9_init cX9_init 1 (Option.none : Option Jvm.ClassFile.FieldType) := ⟨w_219, w_110, by decide +kernel, by decide +kernel⟩
theorem cw_X9_named : CW yX9_named cX9_named 2 (Option.some Jvm.ClassFile.FieldType.int) := ⟨w_1180, w_110, by decide +kernel, by decide +kernel⟩
theorem cw_X9_pop : CW yX9_pop cX9_pop 1 (Option.some Jvm.ClassFile.FieldType.int) := ⟨w_1175, w_110, by decide +kernel, by decide +kernel⟩
theorem cw_X9_push : CW yX9_push cX9_push 2 (Option.none : Option Jvm.ClassFile.FieldType) := ⟨w_1166, w_110, by decide +kernel, by decide +kernel⟩
