/-! walks, laid by program -/
set_option maxHeartbeats 4000000 in
set_option maxRecDepth 100000 in
theorem c_X3_init (E : XE) (q_this : Nat) (post : Int32 → Int32 → Int32 → Int64 → Int32 → (Nat → Int32) → Int32 → Int32 → Int32 → Int32 → Int32 → (Nat → Int32) → (Nat → Int32) → (Nat → Int32) → Int32 → Int32 → Int32 → Int32 → Int32 → (Nat → Int32) → (Nat → Int32) → (Nat → Int32) → Int32 → Int32 → (Nat → Int32) → (Nat → Int32) → (Nat → Int32) → (Nat → Int32) → (Nat → Int32) → (Nat → Int32) → (Nat → Int32) → (Nat → Int32) → Prop) (h : p_X3_init  post) : ConV E yX3_init cX3_init 1 { frames := 2, cells := 19, slots := 795, locals := 32 } 19 795 [.ref q_this] [(q_this, cO 3 [.null, .null, .null, .null, .null, .int 0, .int 0, .null, .null, .null, .null, .int 0, .long 0])] (fun w => ∃ (q_text : Nat) (q_text_bytes : Nat) (q_now : Nat) (q_now_weights : Nat) (q_now_marks : Nat) (q_now_ageing : Nat) (q_trial : Nat) (q_trial_weights : Nat) (q_trial_marks : Nat) (q_trial_ageing : Nat) (q_choosing : Nat) (q_choosing_values : Nat) (q_choosing_turnOf : Nat) (q_choosing_ends : Nat) (q_acts : Nat) (q_slots : Nat) (q_isKept : Nat) (q_heardPerson : Nat) (q_heardIs : Nat) (v_nextAct : Int32) (v_actCount : Int32) (v_heardCount : Int32) (v_seed : Int64) (v_text_length : Int32) (v_text_bytes : Nat → Int32) (v_now_people : Int32) (v_now_alive : Int32) (v_now_reported : Int32) (v_now_mornings : Int32) (v_now_years : Int32) (v_now_weights : Nat → Int32) (v_now_marks : Nat → Int32) (v_now_ageing : Nat → Int32) (v_trial_people : Int32) (v_trial_alive : Int32) (v_trial_reported : Int32) (v_trial_mornings : Int32) (v_trial_years : Int32) (v_trial_weights : Nat → Int32) (v_trial_marks : Nat → Int32) (v_trial_ageing : Nat → Int32) (v_choosing_choosers : Int32) (v_choosing_queenValue : Int32) (v_choosing_values : Nat → Int32) (v_choosing_turnOf : Nat → Int32) (v_choosing_ends : Nat → Int32) (v_acts : Nat → Int32) (v_slots : Nat → Int32) (v_isKept : Nat → Int32) (v_heardPerson : Nat → Int32) (v_heardIs : Nat → Int32), w = [(q_this, cO 3 [.ref q_text, .ref q_now, .ref q_trial, .ref q_choosing, .ref q_acts, .int v_nextAct, .int v_actCount, .ref q_slots, .ref q_isKept, .ref q_heardPerson, .ref q_heardIs, .int v_heardCount, .long v_seed]), (q_text, cO 2 [.ref q_text_bytes, .int v_text_length]), (q_text_bytes, cA E 40 v_text_bytes), (q_now, cO 1 [.int v_now_people, .ref q_now_weights, .ref q_now_marks, .ref q_now_ageing, .int v_now_alive, .int v_now_reported, .int v_now_mornings, .int v_now_years]), (q_now_weights, cA E 3 v_now_weights), (q_now_marks, cA E 18 v_now_marks), (q_now_ageing, cA E 6 v_now_ageing), (q_trial, cO 1 [.int v_trial_people, .ref q_trial_weights, .ref q_trial_marks, .ref q_trial_ageing, .int v_trial_alive, .int v_trial_reported, .int v_trial_mornings, .int v_trial_years]), (q_trial_weights, cA E 3 v_trial_weights), (q_trial_marks, cA E 18 v_trial_marks), (q_trial_ageing, cA E 6 v_trial_ageing), (q_choosing, cO 0 [.ref q_choosing_values, .ref q_choosing_turnOf, .ref q_choosing_ends, .int v_choosing_choosers, .int v_choosing_queenValue]), (q_choosing_values, cA E 15 v_choosing_values), (q_choosing_turnOf, cA E 6 v_choosing_turnOf), (q_choosing_ends, cA E 243 v_choosing_ends), (q_acts, cA E 350 v_acts), (q_slots, cA E 50 v_slots), (q_isKept, cB E 2 v_isKept), (q_heardPerson, cA E 6 v_heardPerson), (q_heardIs, cB E 6 v_heardIs)] ∧ post v_nextAct v_actCount v_heardCount v_seed v_text_length v_text_bytes v_now_people v_now_alive v_now_reported v_now_mornings v_now_years v_now_weights v_now_marks v_now_ageing v_trial_people v_trial_alive v_trial_reported v_trial_mornings v_trial_years v_trial_weights v_trial_marks v_trial_ageing v_choosing_choosers v_choosing_queenValue v_choosing_values v_choosing_turnOf v_choosing_ends v_acts v_slots v_isKept v_heardPerson v_heardIs) := by
  refine ConV.of (by decide +kernel) (Nat.le_of_ble_eq_true rfl) (fun Z hZ hI hRet => ?_)
  replace hZ : XOK E Z RX3 cX3_init 1 { frames := 2, cells := 19, slots := 795, locals := 32 } := hZ
  replace hI : XNm Z "<init>" := hI
  show XW E Z 0 0 [(q_this, cO 3 [.null, .null, .null, .null, .null, .int 0, .int 0, .null, .null, .null, .null, .int 0, .long 0])] [(0, .ref q_this)] [] 0
  unfold p_X3_init at h
  refine x_aload_n (pc' := 1) hZ dX3_init_0 rfl 0 rfl ?_
  refine x_objInit (pc' := 4) hZ kl_RX3_1 dX3_init_1 rfl (Nat.le_of_ble_eq_true rfl) (Nat.le_of_ble_eq_true rfl) ?_
  refine x_aload_n (pc' := 5) hZ dX3_init_4 rfl 0 rfl ?_
  refine x_new (ci := 2) (pc' := 8) (c' := 1) (n' := 2) (fs := [.null, .int 0]) hZ lay_X2 tyX2 tyX2_ok kl_RX3_7 kN_RX2 kI_RX2 rfl df_X2 dX3_init_5 rfl rfl rfl (Nat.le_of_ble_eq_true rfl) (Nat.le_of_ble_eq_true rfl) (fun q5 => ?_)
  refine x_ws (ws' := [(q_this, cO 3 [.null, .null, .null, .null, .null, .int 0, .int 0, .null, .null, .null, .null, .int 0, .long 0]), (q5, cO 2 [.null, .int 0])]) [0, 1] rfl (by decide) ?_
  refine x_dup (pc' := 9) hZ dX3_init_8 rfl rfl ?_
  refine k_RX3_9 (pc' := 12) (as := []) (rest := [.ref q5, .ref q_this]) (c' := 2) (n' := 42) (wr := [(q_this, cO 3 [.null, .null, .null, .null, .null, .int 0, .int 0, .null, .null, .null, .null, .int 0, .long 0])]) hZ (c_X2_init E q5 _ h) dX3_init_9 rfl rfl rfl rfl rfl (Nat.le_of_ble_eq_true rfl) (Nat.le_of_ble_eq_true rfl) (Nat.le_of_ble_eq_true rfl) rfl rfl (Nat.le_of_ble_eq_true rfl) (Nat.le_of_ble_eq_true rfl) [1] [0] rfl rfl (by decide) (by decide) (by decide) (fun w9 hw => ?_)
  obtain ⟨q9_1, a9_0, a9_1, rfl, h⟩ := hw
  refine x_ws (ws' := [(q_this, cO 3 [.null, .null, .null, .null, .null, .int 0, .int 0, .null, .null, .null, .null, .int 0, .long 0]), (q5, cO 2 [.ref q9_1, .int a9_0]), (q9_1, cA E 40 a9_1)]) [0, 1, 2] rfl (by decide) ?_
  refine s_RX3_10 (pc' := 15) (ws' := [(q_this, cO 3 [.ref q5, .null, .null, .null, .null, .int 0, .int 0, .null, .null, .null, .null, .int 0, .long 0]), (q5, cO 2 [.ref q9_1, .int a9_0]), (q9_1, cA E 40 a9_1)]) hZ hI dX3_init_12 rfl 0 rfl (Nat.le_of_ble_eq_true rfl) rfl ?_
  refine x_aload_n (pc' := 16) hZ dX3_init_15 rfl 0 rfl ?_
  refine x_new (ci := 1) (pc' := 19) (c' := 3) (n' := 50) (fs := [.int 0, .null, .null, .null, .int 0, .int 0, .int 0, .int 0]) hZ lay_X1 tyX1 tyX1_ok kl_RX3_16 kN_RX1 kI_RX1 rfl df_X1 dX3_init_16 rfl rfl rfl (Nat.le_of_ble_eq_true rfl) (Nat.le_of_ble_eq_true rfl) (fun q16 => ?_)
  refine x_ws (ws' := [(q_this, cO 3 [.ref q5, .null, .null, .null, .null, .int 0, .int 0, .null, .null, .null, .null, .int 0, .long 0]), (q5, cO 2 [.ref q9_1, .int a9_0]), (q9_1, cA E 40 a9_1), (q16, cO 1 [.int 0, .null, .null, .null, .int 0, .int 0, .int 0, .int 0])]) [0, 1, 2, 3] rfl (by decide) ?_
  refine x_dup (pc' := 20) hZ dX3_init_19 rfl rfl ?_
  refine k_RX3_18 (pc' := 23) (as := []) (rest := [.ref q16, .ref q_this]) (c' := 6) (n' := 77) (wr := [(q_this, cO 3 [.ref q5, .null, .null, .null, .null, .int 0, .int 0, .null, .null, .null, .null, .int 0, .long 0]), (q5, cO 2 [.ref q9_1, .int a9_0]), (q9_1, cA E 40 a9_1)]) hZ (c_X1_init E q16 _ h) dX3_init_20 rfl rfl rfl rfl rfl (Nat.le_of_ble_eq_true rfl) (Nat.le_of_ble_eq_true rfl) (Nat.le_of_ble_eq_true rfl) rfl rfl (Nat.le_of_ble_eq_true rfl) (Nat.le_of_ble_eq_true rfl) [3] [0, 1, 2] rfl rfl (by decide) (by decide) (by decide) (fun w20 hw => ?_)
  obtain ⟨q20_1, q20_2, q20_3, a20_0, a20_1, a20_2, a20_3, a20_4, a20_5, a20_6, a20_7, rfl, h⟩ := hw
  refine x_ws (ws' := [(q_this, cO 3 [.ref q5, .null, .null, .null, .null, .int 0, .int 0, .null, .null, .null, .null, .int 0, .long 0]), (q5, cO 2 [.ref q9_1, .int a9_0]), (q9_1, cA E 40 a9_1), (q16, cO 1 [.int a20_0, .ref q20_1, .ref q20_2, .ref q20_3, .int a20_1, .int a20_2, .int a20_3, .int a20_4]), (q20_1, cA E 3 a20_5), (q20_2, cA E 18 a20_6), (q20_3, cA E 6 a20_7)]) [0, 1, 2, 3, 4, 5, 6] rfl (by decide) ?_
  refine s_RX3_19 (pc' := 26) (ws' := [(q_this, cO 3 [.ref q5, .ref q16, .null, .null, .null, .int 0, .int 0, .null, .null, .null, .null, .int 0, .long 0]), (q5, cO 2 [.ref q9_1, .int a9_0]), (q9_1, cA E 40 a9_1), (q16, cO 1 [.int a20_0, .ref q20_1, .ref q20_2, .ref q20_3, .int a20_1, .int a20_2, .int a20_3, .int a20_4]), (q20_1, cA E 3 a20_5), (q20_2, cA E 18 a20_6), (q20_3, cA E 6 a20_7)]) hZ hI dX3_init_23 rfl 0 rfl (Nat.le_of_ble_eq_true rfl) rfl ?_
  refine x_aload_n (pc' := 27) hZ dX3_init_26 rfl 0 rfl ?_
  refine x_new (ci := 1) (pc' := 30) (c' := 7) (n' := 85) (fs := [.int 0, .null, .null, .null, .int 0, .int 0, .int 0, .int 0]) hZ lay_X1 tyX1 tyX1_ok kl_RX3_16 kN_RX1 kI_RX1 rfl df_X1 dX3_init_27 rfl rfl rfl (Nat.le_of_ble_eq_true rfl) (Nat.le_of_ble_eq_true rfl) (fun q27 => ?_)
  refine x_ws (ws' := [(q_this, cO 3 [.ref q5, .ref q16, .null, .null, .null, .int 0, .int 0, .null, .null, .null, .null, .int 0, .long 0]), (q5, cO 2 [.ref q9_1, .int a9_0]), (q9_1, cA E 40 a9_1), (q16, cO 1 [.int a20_0, .ref q20_1, .ref q20_2, .ref q20_3, .int a20_1, .int a20_2, .int a20_3, .int a20_4]), (q20_1, cA E 3 a20_5), (q20_2, cA E 18 a20_6), (q20_3, cA E 6 a20_7), (q27, cO 1 [.int 0, .null, .null, .null, .int 0, .int 0, .int 0, .int 0])]) [0, 1, 2, 3, 4, 5, 6, 7] rfl (by decide) ?_
  refine x_dup (pc' := 31) hZ dX3_init_30 rfl rfl ?_
  refine k_RX3_18 (pc' := 34) (as := []) (rest := [.ref q27, .ref q_this]) (c' := 10) (n' := 112) (wr := [(q_this, cO 3 [.ref q5, .ref q16, .null, .null, .null, .int 0, .int 0, .null, .null, .null, .null, .int 0, .long 0]), (q5, cO 2 [.ref q9_1, .int a9_0]), (q9_1, cA E 40 a9_1), (q16, cO 1 [.int a20_0, .ref q20_1, .ref q20_2, .ref q20_3, .int a20_1, .int a20_2, .int a20_3, .int a20_4]), (q20_1, cA E 3 a20_5), (q20_2, cA E 18 a20_6), (q20_3, cA E 6 a20_7)]) hZ (c_X1_init E q27 _ h) dX3_init_31 rfl rfl rfl rfl rfl (Nat.le_of_ble_eq_true rfl) (Nat.le_of_ble_eq_true rfl) (Nat.le_of_ble_eq_true rfl) rfl rfl (Nat.le_of_ble_eq_true rfl) (Nat.le_of_ble_eq_true rfl) [7] [0, 1, 2, 3, 4, 5, 6] rfl rfl (by decide) (by decide) (by decide) (fun w31 hw => ?_)
  obtain ⟨q31_1, q31_2, q31_3, a31_0, a31_1, a31_2, a31_3, a31_4, a31_5, a31_6, a31_7, rfl, h⟩ := hw
  refine x_ws (ws' := [(q_this, cO 3 [.ref q5, .ref q16, .null, .null, .null, .int 0, .int 0, .null, .null, .null, .null, .int 0, .long 0]), (q5, cO 2 [.ref q9_1, .int a9_0]), (q9_1, cA E 40 a9_1), (q16, cO 1 [.int a20_0, .ref q20_1, .ref q20_2, .ref q20_3, .int a20_1, .int a20_2, .int a20_3, .int a20_4]), (q20_1, cA E 3 a20_5), (q20_2, cA E 18 a20_6), (q20_3, cA E 6 a20_7), (q27, cO 1 [.int a31_0, .ref q31_1, .ref q31_2, .ref q31_3, .int a31_1, .int a31_2, .int a31_3, .int a31_4]), (q31_1, cA E 3 a31_5), (q31_2, cA E 18 a31_6), (q31_3, cA E 6 a31_7)]) [0, 1, 2, 3, 4, 5, 6, 7, 8, 9, 10] rfl (by decide) ?_
  refine s_RX3_23 (pc' := 37) (ws' := [(q_this, cO 3 [.ref q5, .ref q16, .ref q27, .null, .null, .int 0, .int 0, .null, .null, .null, .null, .int 0, .long 0]), (q5, cO 2 [.ref q9_1, .int a9_0]), (q9_1, cA E 40 a9_1), (q16, cO 1 [.int a20_0, .ref q20_1, .ref q20_2, .ref q20_3, .int a20_1, .int a20_2, .int a20_3, .int a20_4]), (q20_1, cA E 3 a20_5), (q20_2, cA E 18 a20_6), (q20_3, cA E 6 a20_7), (q27, cO 1 [.int a31_0, .ref q31_1, .ref q31_2, .ref q31_3, .int a31_1, .int a31_2, .int a31_3, .int a31_4]), (q31_1, cA E 3 a31_5), (q31_2, cA E 18 a31_6), (q31_3, cA E 6 a31_7)]) hZ hI dX3_init_34 rfl 0 rfl (Nat.le_of_ble_eq_true rfl) rfl ?_
  refine x_aload_n (pc' := 38) hZ dX3_init_37 rfl 0 rfl ?_
  refine x_new (ci := 0) (pc' := 41) (c' := 11) (n' := 117) (fs := [.null, .null, .null, .int 0, .int 0]) hZ lay_X0 tyX0 tyX0_ok kl_RX3_26 kN_RX0 kI_RX0 rfl df_X0 dX3_init_38 rfl rfl rfl (Nat.le_of_ble_eq_true rfl) (Nat.le_of_ble_eq_true rfl) (fun q38 => ?_)
  refine x_ws (ws' := [(q_this, cO 3 [.ref q5, .ref q16, .ref q27, .null, .null, .int 0, .int 0, .null, .null, .null, .null, .int 0, .long 0]), (q5, cO 2 [.ref q9_1, .int a9_0]), (q9_1, cA E 40 a9_1), (q16, cO 1 [.int a20_0, .ref q20_1, .ref q20_2, .ref q20_3, .int a20_1, .int a20_2, .int a20_3, .int a20_4]), (q20_1, cA E 3 a20_5), (q20_2, cA E 18 a20_6), (q20_3, cA E 6 a20_7), (q27, cO 1 [.int a31_0, .ref q31_1, .ref q31_2, .ref q31_3, .int a31_1, .int a31_2, .int a31_3, .int a31_4]), (q31_1, cA E 3 a31_5), (q31_2, cA E 18 a31_6), (q31_3, cA E 6 a31_7), (q38, cO 0 [.null, .null, .null, .int 0, .int 0])]) [0, 1, 2, 3, 4, 5, 6, 7, 8, 9, 10, 11] rfl (by decide) ?_
  refine x_dup (pc' := 42) hZ dX3_init_41 rfl rfl ?_
  refine k_RX3_28 (pc' := 45) (as := []) (rest := [.ref q38, .ref q_this]) (c' := 14) (n' := 381) (wr := [(q_this, cO 3 [.ref q5, .ref q16, .ref q27, .null, .null, .int 0, .int 0, .null, .null, .null, .null, .int 0, .long 0]), (q5, cO 2 [.ref q9_1, .int a9_0]), (q9_1, cA E 40 a9_1), (q16, cO 1 [.int a20_0, .ref q20_1, .ref q20_2, .ref q20_3, .int a20_1, .int a20_2, .int a20_3, .int a20_4]), (q20_1, cA E 3 a20_5), (q20_2, cA E 18 a20_6), (q20_3, cA E 6 a20_7), (q27, cO 1 [.int a31_0, .ref q31_1, .ref q31_2, .ref q31_3, .int a31_1, .int a31_2, .int a31_3, .int a31_4]), (q31_1, cA E 3 a31_5), (q31_2, cA E 18 a31_6), (q31_3, cA E 6 a31_7)]) hZ (c_X0_init E q38 _ h) dX3_init_42 rfl rfl rfl rfl rfl (Nat.le_of_ble_eq_true rfl) (Nat.le_of_ble_eq_true rfl) (Nat.le_of_ble_eq_true rfl) rfl rfl (Nat.le_of_ble_eq_true rfl) (Nat.le_of_ble_eq_true rfl) [11] [0, 1, 2, 3, 4, 5, 6, 7, 8, 9, 10] rfl rfl (by decide) (by decide) (by decide) (fun w42 hw => ?_)
  obtain ⟨q42_1, q42_2, q42_3, a42_0, a42_1, a42_2, a42_3, a42_4, rfl, h⟩ := hw
  refine x_ws (ws' := [(q_this, cO 3 [.ref q5, .ref q16, .ref q27, .null, .null, .int 0, .int 0, .null, .null, .null, .null, .int 0, .long 0]), (q5, cO 2 [.ref q9_1, .int a9_0]), (q9_1, cA E 40 a9_1), (q16, cO 1 [.int a20_0, .ref q20_1, .ref q20_2, .ref q20_3, .int a20_1, .int a20_2, .int a20_3, .int a20_4]), (q20_1, cA E 3 a20_5), (q20_2, cA E 18 a20_6), (q20_3, cA E 6 a20_7), (q27, cO 1 [.int a31_0, .ref q31_1, .ref q31_2, .ref q31_3, .int a31_1, .int a31_2, .int a31_3, .int a31_4]), (q31_1, cA E 3 a31_5), (q31_2, cA E 18 a31_6), (q31_3, cA E 6 a31_7), (q38, cO 0 [.ref q42_1, .ref q42_2, .ref q42_3, .int a42_0, .int a42_1]), (q42_1, cA E 15 a42_2), (q42_2, cA E 6 a42_3), (q42_3, cA E 243 a42_4)]) [0, 1, 2, 3, 4, 5, 6, 7, 8, 9, 10, 11, 12, 13, 14] rfl (by decide) ?_
  refine s_RX3_29 (pc' := 48) (ws' := [(q_this, cO 3 [.ref q5, .ref q16, .ref q27, .ref q38, .null, .int 0, .int 0, .null, .null, .null, .null, .int 0, .long 0]), (q5, cO 2 [.ref q9_1, .int a9_0]), (q9_1, cA E 40 a9_1), (q16, cO 1 [.int a20_0, .ref q20_1, .ref q20_2, .ref q20_3, .int a20_1, .int a20_2, .int a20_3, .int a20_4]), (q20_1, cA E 3 a20_5), (q20_2, cA E 18 a20_6), (q20_3, cA E 6 a20_7), (q27, cO 1 [.int a31_0, .ref q31_1, .ref q31_2, .ref q31_3, .int a31_1, .int a31_2, .int a31_3, .int a31_4]), (q31_1, cA E 3 a31_5), (q31_2, cA E 18 a31_6), (q31_3, cA E 6 a31_7), (q38, cO 0 [.ref q42_1, .ref q42_2, .ref q42_3, .int a42_0, .int a42_1]), (q42_1, cA E 15 a42_2), (q42_2, cA E 6 a42_3), (q42_3, cA E 243 a42_4)]) hZ hI dX3_init_45 rfl 0 rfl (Nat.le_of_ble_eq_true rfl) rfl ?_
  refine x_aload_n (pc' := 49) hZ dX3_init_48 rfl 0 rfl ?_
  refine x_sipush (v := 350) (pc' := 52) hZ (by decide) dX3_init_49 rfl ?_
  refine x_newi (pc' := 54) (z := 350) (c' := 15) (n' := 731) hZ kA_int dX3_init_52 rfl (by decide) (by decide) (Nat.le_of_ble_eq_true rfl) rfl rfl (Nat.le_of_ble_eq_true rfl) (Nat.le_of_ble_eq_true rfl) (fun q52 => ?_)
  refine x_ws (ws' := [(q_this, cO 3 [.ref q5, .ref q16, .ref q27, .ref q38, .null, .int 0, .int 0, .null, .null, .null, .null, .int 0, .long 0]), (q5, cO 2 [.ref q9_1, .int a9_0]), (q9_1, cA E 40 a9_1), (q16, cO 1 [.int a20_0, .ref q20_1, .ref q20_2, .ref q20_3, .int a20_1, .int a20_2, .int a20_3, .int a20_4]), (q20_1, cA E 3 a20_5), (q20_2, cA E 18 a20_6), (q20_3, cA E 6 a20_7), (q27, cO 1 [.int a31_0, .ref q31_1, .ref q31_2, .ref q31_3, .int a31_1, .int a31_2, .int a31_3, .int a31_4]), (q31_1, cA E 3 a31_5), (q31_2, cA E 18 a31_6), (q31_3, cA E 6 a31_7), (q38, cO 0 [.ref q42_1, .ref q42_2, .ref q42_3, .int a42_0, .int a42_1]), (q42_1, cA E 15 a42_2), (q42_2, cA E 6 a42_3), (q42_3, cA E 243 a42_4), (q52, cA E 350 (fun _ => 0))]) [0, 1, 2, 3, 4, 5, 6, 7, 8, 9, 10, 11, 12, 13, 14, 15] rfl (by decide) ?_
  refine s_RX3_33 (pc' := 57) (ws' := [(q_this, cO 3 [.ref q5, .ref q16, .ref q27, .ref q38, .ref q52, .int 0, .int 0, .null, .null, .null, .null, .int 0, .long 0]), (q5, cO 2 [.ref q9_1, .int a9_0]), (q9_1, cA E 40 a9_1), (q16, cO 1 [.int a20_0, .ref q20_1, .ref q20_2, .ref q20_3, .int a20_1, .int a20_2, .int a20_3, .int a20_4]), (q20_1, cA E 3 a20_5), (q20_2, cA E 18 a20_6), (q20_3, cA E 6 a20_7), (q27, cO 1 [.int a31_0, .ref q31_1, .ref q31_2, .ref q31_3, .int a31_1, .int a31_2, .int a31_3, .int a31_4]), (q31_1, cA E 3 a31_5), (q31_2, cA E 18 a31_6), (q31_3, cA E 6 a31_7), (q38, cO 0 [.ref q42_1, .ref q42_2, .ref q42_3, .int a42_0, .int a42_1]), (q42_1, cA E 15 a42_2), (q42_2, cA E 6 a42_3), (q42_3, cA E 243 a42_4), (q52, cA E 350 (fun _ => 0))]) hZ hI dX3_init_54 rfl 0 rfl (Nat.le_of_ble_eq_true rfl) rfl ?_
  refine x_aload_n (pc' := 58) hZ dX3_init_57 rfl 0 rfl ?_
  refine x_iconst (v := 0) (pc' := 59) hZ (by decide) dX3_init_58 rfl ?_
  refine s_RX3_37 (pc' := 62) (ws' := [(q_this, cO 3 [.ref q5, .ref q16, .ref q27, .ref q38, .ref q52, .int 0, .int 0, .null, .null, .null, .null, .int 0, .long 0]), (q5, cO 2 [.ref q9_1, .int a9_0]), (q9_1, cA E 40 a9_1), (q16, cO 1 [.int a20_0, .ref q20_1, .ref q20_2, .ref q20_3, .int a20_1, .int a20_2, .int a20_3, .int a20_4]), (q20_1, cA E 3 a20_5), (q20_2, cA E 18 a20_6), (q20_3, cA E 6 a20_7), (q27, cO 1 [.int a31_0, .ref q31_1, .ref q31_2, .ref q31_3, .int a31_1, .int a31_2, .int a31_3, .int a31_4]), (q31_1, cA E 3 a31_5), (q31_2, cA E 18 a31_6), (q31_3, cA E 6 a31_7), (q38, cO 0 [.ref q42_1, .ref q42_2, .ref q42_3, .int a42_0, .int a42_1]), (q42_1, cA E 15 a42_2), (q42_2, cA E 6 a42_3), (q42_3, cA E 243 a42_4), (q52, cA E 350 (fun _ => 0))]) hZ dX3_init_59 rfl 0 rfl (Nat.le_of_ble_eq_true rfl) rfl ?_
  refine x_aload_n (pc' := 63) hZ dX3_init_62 rfl 0 rfl ?_
  refine x_iconst (v := 0) (pc' := 64) hZ (by decide) dX3_init_63 rfl ?_
  refine s_RX3_41 (pc' := 67) (ws' := [(q_this, cO 3 [.ref q5, .ref q16, .ref q27, .ref q38, .ref q52, .int 0, .int 0, .null, .null, .null, .null, .int 0, .long 0]), (q5, cO 2 [.ref q9_1, .int a9_0]), (q9_1, cA E 40 a9_1), (q16, cO 1 [.int a20_0, .ref q20_1, .ref q20_2, .ref q20_3, .int a20_1, .int a20_2, .int a20_3, .int a20_4]), (q20_1, cA E 3 a20_5), (q20_2, cA E 18 a20_6), (q20_3, cA E 6 a20_7), (q27, cO 1 [.int a31_0, .ref q31_1, .ref q31_2, .ref q31_3, .int a31_1, .int a31_2, .int a31_3, .int a31_4]), (q31_1, cA E 3 a31_5), (q31_2, cA E 18 a31_6), (q31_3, cA E 6 a31_7), (q38, cO 0 [.ref q42_1, .ref q42_2, .ref q42_3, .int a42_0, .int a42_1]), (q42_1, cA E 15 a42_2), (q42_2, cA E 6 a42_3), (q42_3, cA E 243 a42_4), (q52, cA E 350 (fun _ => 0))]) hZ dX3_init_64 rfl 0 rfl (Nat.le_of_ble_eq_true rfl) rfl ?_
  refine x_aload_n (pc' := 68) hZ dX3_init_67 rfl 0 rfl ?_
  refine x_bipush (v := 50) (pc' := 70) hZ (by decide) dX3_init_68 rfl ?_
  refine x_newi (pc' := 72) (z := 50) (c' := 16) (n' := 781) hZ kA_int dX3_init_70 rfl (by decide) (by decide) (Nat.le_of_ble_eq_true rfl) rfl rfl (Nat.le_of_ble_eq_true rfl) (Nat.le_of_ble_eq_true rfl) (fun q70 => ?_)
  refine x_ws (ws' := [(q_this, cO 3 [.ref q5, .ref q16, .ref q27, .ref q38, .ref q52, .int 0, .int 0, .null, .null, .null, .null, .int 0, .long 0]), (q5, cO 2 [.ref q9_1, .int a9_0]), (q9_1, cA E 40 a9_1), (q16, cO 1 [.int a20_0, .ref q20_1, .ref q20_2, .ref q20_3, .int a20_1, .int a20_2, .int a20_3, .int a20_4]), (q20_1, cA E 3 a20_5), (q20_2, cA E 18 a20_6), (q20_3, cA E 6 a20_7), (q27, cO 1 [.int a31_0, .ref q31_1, .ref q31_2, .ref q31_3, .int a31_1, .int a31_2, .int a31_3, .int a31_4]), (q31_1, cA E 3 a31_5), (q31_2, cA E 18 a31_6), (q31_3, cA E 6 a31_7), (q38, cO 0 [.ref q42_1, .ref q42_2, .ref q42_3, .int a42_0, .int a42_1]), (q42_1, cA E 15 a42_2), (q42_2, cA E 6 a42_3), (q42_3, cA E 243 a42_4), (q52, cA E 350 (fun _ => 0)), (q70, cA E 50 (fun _ => 0))]) [0, 1, 2, 3, 4, 5, 6, 7, 8, 9, 10, 11, 12, 13, 14, 15, 16] rfl (by decide) ?_
  refine s_RX3_44 (pc' := 75) (ws' := [(q_this, cO 3 [.ref q5, .ref q16, .ref q27, .ref q38, .ref q52, .int 0, .int 0, .ref q70, .null, .null, .null, .int 0, .long 0]), (q5, cO 2 [.ref q9_1, .int a9_0]), (q9_1, cA E 40 a9_1), (q16, cO 1 [.int a20_0, .ref q20_1, .ref q20_2, .ref q20_3, .int a20_1, .int a20_2, .int a20_3, .int a20_4]), (q20_1, cA E 3 a20_5), (q20_2, cA E 18 a20_6), (q20_3, cA E 6 a20_7), (q27, cO 1 [.int a31_0, .ref q31_1, .ref q31_2, .ref q31_3, .int a31_1, .int a31_2, .int a31_3, .int a31_4]), (q31_1, cA E 3 a31_5), (q31_2, cA E 18 a31_6), (q31_3, cA E 6 a31_7), (q38, cO 0 [.ref q42_1, .ref q42_2, .ref q42_3, .int a42_0, .int a42_1]), (q42_1, cA E 15 a42_2), (q42_2, cA E 6 a42_3), (q42_3, cA E 243 a42_4), (q52, cA E 350 (fun _ => 0)), (q70, cA E 50 (fun _ => 0))]) hZ hI dX3_init_72 rfl 0 rfl (Nat.le_of_ble_eq_true rfl) rfl ?_
  refine x_aload_n (pc' := 76) hZ dX3_init_75 rfl 0 rfl ?_
  refine x_iconst (v := 2) (pc' := 77) hZ (by decide) dX3_init_76 rfl ?_
  refine x_newz (pc' := 79) (z := 2) (c' := 17) (n' := 783) hZ kA_boolean dX3_init_77 rfl (by decide) (by decide) (Nat.le_of_ble_eq_true rfl) rfl rfl (Nat.le_of_ble_eq_true rfl) (Nat.le_of_ble_eq_true rfl) (fun q77 => ?_)
  refine x_ws (ws' := [(q_this, cO 3 [.ref q5, .ref q16, .ref q27, .ref q38, .ref q52, .int 0, .int 0, .ref q70, .null, .null, .null, .int 0, .long 0]), (q5, cO 2 [.ref q9_1, .int a9_0]), (q9_1, cA E 40 a9_1), (q16, cO 1 [.int a20_0, .ref q20_1, .ref q20_2, .ref q20_3, .int a20_1, .int a20_2, .int a20_3, .int a20_4]), (q20_1, cA E 3 a20_5), (q20_2, cA E 18 a20_6), (q20_3, cA E 6 a20_7), (q27, cO 1 [.int a31_0, .ref q31_1, .ref q31_2, .ref q31_3, .int a31_1, .int a31_2, .int a31_3, .int a31_4]), (q31_1, cA E 3 a31_5), (q31_2, cA E 18 a31_6), (q31_3, cA E 6 a31_7), (q38, cO 0 [.ref q42_1, .ref q42_2, .ref q42_3, .int a42_0, .int a42_1]), (q42_1, cA E 15 a42_2), (q42_2, cA E 6 a42_3), (q42_3, cA E 243 a42_4), (q52, cA E 350 (fun _ => 0)), (q70, cA E 50 (fun _ => 0)), (q77, cB E 2 (fun _ => 0))]) [0, 1, 2, 3, 4, 5, 6, 7, 8, 9, 10, 11, 12, 13, 14, 15, 16, 17] rfl (by decide) ?_
  refine s_RX3_47 (pc' := 82) (ws' := [(q_this, cO 3 [.ref q5, .ref q16, .ref q27, .ref q38, .ref q52, .int 0, .int 0, .ref q70, .ref q77, .null, .null, .int 0, .long 0]), (q5, cO 2 [.ref q9_1, .int a9_0]), (q9_1, cA E 40 a9_1), (q16, cO 1 [.int a20_0, .ref q20_1, .ref q20_2, .ref q20_3, .int a20_1, .int a20_2, .int a20_3, .int a20_4]), (q20_1, cA E 3 a20_5), (q20_2, cA E 18 a20_6), (q20_3, cA E 6 a20_7), (q27, cO 1 [.int a31_0, .ref q31_1, .ref q31_2, .ref q31_3, .int a31_1, .int a31_2, .int a31_3, .int a31_4]), (q31_1, cA E 3 a31_5), (q31_2, cA E 18 a31_6), (q31_3, cA E 6 a31_7), (q38, cO 0 [.ref q42_1, .ref q42_2, .ref q42_3, .int a42_0, .int a42_1]), (q42_1, cA E 15 a42_2), (q42_2, cA E 6 a42_3), (q42_3, cA E 243 a42_4), (q52, cA E 350 (fun _ => 0)), (q70, cA E 50 (fun _ => 0)), (q77, cB E 2 (fun _ => 0))]) hZ hI dX3_init_79 rfl 0 rfl (Nat.le_of_ble_eq_true rfl) rfl ?_
  refine x_aload_n (pc' := 83) hZ dX3_init_82 rfl 0 rfl ?_
  refine x_bipush (v := 6) (pc' := 85) hZ (by decide) dX3_init_83 rfl ?_
  refine x_newi (pc' := 87) (z := 6) (c' := 18) (n' := 789) hZ kA_int dX3_init_85 rfl (by decide) (by decide) (Nat.le_of_ble_eq_true rfl) rfl rfl (Nat.le_of_ble_eq_true rfl) (Nat.le_of_ble_eq_true rfl) (fun q85 => ?_)
  refine x_ws (ws' := [(q_this, cO 3 [.ref q5, .ref q16, .ref q27, .ref q38, .ref q52, .int 0, .int 0, .ref q70, .ref q77, .null, .null, .int 0, .long 0]), (q5, cO 2 [.ref q9_1, .int a9_0]), (q9_1, cA E 40 a9_1), (q16, cO 1 [.int a20_0, .ref q20_1, .ref q20_2, .ref q20_3, .int a20_1, .int a20_2, .int a20_3, .int a20_4]), (q20_1, cA E 3 a20_5), (q20_2, cA E 18 a20_6), (q20_3, cA E 6 a20_7), (q27, cO 1 [.int a31_0, .ref q31_1, .ref q31_2, .ref q31_3, .int a31_1, .int a31_2, .int a31_3, .int a31_4]), (q31_1, cA E 3 a31_5), (q31_2, cA E 18 a31_6), (q31_3, cA E 6 a31_7), (q38, cO 0 [.ref q42_1, .ref q42_2, .ref q42_3, .int a42_0, .int a42_1]), (q42_1, cA E 15 a42_2), (q42_2, cA E 6 a42_3), (q42_3, cA E 243 a42_4), (q52, cA E 350 (fun _ => 0)), (q70, cA E 50 (fun _ => 0)), (q77, cB E 2 (fun _ => 0)), (q85, cA E 6 (fun _ => 0))]) [0, 1, 2, 3, 4, 5, 6, 7, 8, 9, 10, 11, 12, 13, 14, 15, 16, 17, 18] rfl (by decide) ?_
  refine s_RX3_51 (pc' := 90) (ws' := [(q_this, cO 3 [.ref q5, .ref q16, .ref q27, .ref q38, .ref q52, .int 0, .int 0, .ref q70, .ref q77, .ref q85, .null, .int 0, .long 0]), (q5, cO 2 [.ref q9_1, .int a9_0]), (q9_1, cA E 40 a9_1), (q16, cO 1 [.int a20_0, .ref q20_1, .ref q20_2, .ref q20_3, .int a20_1, .int a20_2, .int a20_3, .int a20_4]), (q20_1, cA E 3 a20_5), (q20_2, cA E 18 a20_6), (q20_3, cA E 6 a20_7), (q27, cO 1 [.int a31_0, .ref q31_1, .ref q31_2, .ref q31_3, .int a31_1, .int a31_2, .int a31_3, .int a31_4]), (q31_1, cA E 3 a31_5), (q31_2, cA E 18 a31_6), (q31_3, cA E 6 a31_7), (q38, cO 0 [.ref q42_1, .ref q42_2, .ref q42_3, .int a42_0, .int a42_1]), (q42_1, cA E 15 a42_2), (q42_2, cA E 6 a42_3), (q42_3, cA E 243 a42_4), (q52, cA E 350 (fun _ => 0)), (q70, cA E 50 (fun _ => 0)), (q77, cB E 2 (fun _ => 0)), (q85, cA E 6 (fun _ => 0))]) hZ hI dX3_init_87 rfl 0 rfl (Nat.le_of_ble_eq_true rfl) rfl ?_
  refine x_aload_n (pc' := 91) hZ dX3_init_90 rfl 0 rfl ?_
  refine x_bipush (v := 6) (pc' := 93) hZ (by decide) dX3_init_91 rfl ?_
  refine x_newz (pc' := 95) (z := 6) (c' := 19) (n' := 795) hZ kA_boolean dX3_init_93 rfl (by decide) (by decide) (Nat.le_of_ble_eq_true rfl) rfl rfl (Nat.le_of_ble_eq_true rfl) (Nat.le_of_ble_eq_true rfl) (fun q93 => ?_)
  refine x_ws (ws' := [(q_this, cO 3 [.ref q5, .ref q16, .ref q27, .ref q38, .ref q52, .int 0, .int 0, .ref q70, .ref q77, .ref q85, .null, .int 0, .long 0]), (q5, cO 2 [.ref q9_1, .int a9_0]), (q9_1, cA E 40 a9_1), (q16, cO 1 [.int a20_0, .ref q20_1, .ref q20_2, .ref q20_3, .int a20_1, .int a20_2, .int a20_3, .int a20_4]), (q20_1, cA E 3 a20_5), (q20_2, cA E 18 a20_6), (q20_3, cA E 6 a20_7), (q27, cO 1 [.int a31_0, .ref q31_1, .ref q31_2, .ref q31_3, .int a31_1, .int a31_2, .int a31_3, .int a31_4]), (q31_1, cA E 3 a31_5), (q31_2, cA E 18 a31_6), (q31_3, cA E 6 a31_7), (q38, cO 0 [.ref q42_1, .ref q42_2, .ref q42_3, .int a42_0, .int a42_1]), (q42_1, cA E 15 a42_2), (q42_2, cA E 6 a42_3), (q42_3, cA E 243 a42_4), (q52, cA E 350 (fun _ => 0)), (q70, cA E 50 (fun _ => 0)), (q77, cB E 2 (fun _ => 0)), (q85, cA E 6 (fun _ => 0)), (q93, cB E 6 (fun _ => 0))]) [0, 1, 2, 3, 4, 5, 6, 7, 8, 9, 10, 11, 12, 13, 14, 15, 16, 17, 18, 19] rfl (by decide) ?_
  refine s_RX3_54 (pc' := 98) (ws' := [(q_this, cO 3 [.ref q5, .ref q16, .ref q27, .ref q38, .ref q52, .int 0, .int 0, .ref q70, .ref q77, .ref q85, .ref q93, .int 0, .long 0]), (q5, cO 2 [.ref q9_1, .int a9_0]), (q9_1, cA E 40 a9_1), (q16, cO 1 [.int a20_0, .ref q20_1, .ref q20_2, .ref q20_3, .int a20_1, .int a20_2, .int a20_3, .int a20_4]), (q20_1, cA E 3 a20_5), (q20_2, cA E 18 a20_6), (q20_3, cA E 6 a20_7), (q27, cO 1 [.int a31_0, .ref q31_1, .ref q31_2, .ref q31_3, .int a31_1, .int a31_2, .int a31_3, .int a31_4]), (q31_1, cA E 3 a31_5), (q31_2, cA E 18 a31_6), (q31_3, cA E 6 a31_7), (q38, cO 0 [.ref q42_1, .ref q42_2, .ref q42_3, .int a42_0, .int a42_1]), (q42_1, cA E 15 a42_2), (q42_2, cA E 6 a42_3), (q42_3, cA E 243 a42_4), (q52, cA E 350 (fun _ => 0)), (q70, cA E 50 (fun _ => 0)), (q77, cB E 2 (fun _ => 0)), (q85, cA E 6 (fun _ => 0)), (q93, cB E 6 (fun _ => 0))]) hZ hI dX3_init_95 rfl 0 rfl (Nat.le_of_ble_eq_true rfl) rfl ?_
  refine x_aload_n (pc' := 99) hZ dX3_init_98 rfl 0 rfl ?_
  refine x_iconst (v := 0) (pc' := 100) hZ (by decide) dX3_init_99 rfl ?_
  refine s_RX3_57 (pc' := 103) (ws' := [(q_this, cO 3 [.ref q5, .ref q16, .ref q27, .ref q38, .ref q52, .int 0, .int 0, .ref q70, .ref q77, .ref q85, .ref q93, .int 0, .long 0]), (q5, cO 2 [.ref q9_1, .int a9_0]), (q9_1, cA E 40 a9_1), (q16, cO 1 [.int a20_0, .ref q20_1, .ref q20_2, .ref q20_3, .int a20_1, .int a20_2, .int a20_3, .int a20_4]), (q20_1, cA E 3 a20_5), (q20_2, cA E 18 a20_6), (q20_3, cA E 6 a20_7), (q27, cO 1 [.int a31_0, .ref q31_1, .ref q31_2, .ref q31_3, .int a31_1, .int a31_2, .int a31_3, .int a31_4]), (q31_1, cA E 3 a31_5), (q31_2, cA E 18 a31_6), (q31_3, cA E 6 a31_7), (q38, cO 0 [.ref q42_1, .ref q42_2, .ref q42_3, .int a42_0, .int a42_1]), (q42_1, cA E 15 a42_2), (q42_2, cA E 6 a42_3), (q42_3, cA E 243 a42_4), (q52, cA E 350 (fun _ => 0)), (q70, cA E 50 (fun _ => 0)), (q77, cB E 2 (fun _ => 0)), (q85, cA E 6 (fun _ => 0)), (q93, cB E 6 (fun _ => 0))]) hZ dX3_init_100 rfl 0 rfl (Nat.le_of_ble_eq_true rfl) rfl ?_
  refine x_aload_n (pc' := 104) hZ dX3_init_103 rfl 0 rfl ?_
  refine x_lconst (v := 0) (pc' := 105) hZ (by decide) dX3_init_104 rfl ?_
  refine s_RX3_60 (pc' := 108) (ws' := [(q_this, cO 3 [.ref q5, .ref q16, .ref q27, .ref q38, .ref q52, .int 0, .int 0, .ref q70, .ref q77, .ref q85, .ref q93, .int 0, .long 0]), (q5, cO 2 [.ref q9_1, .int a9_0]), (q9_1, cA E 40 a9_1), (q16, cO 1 [.int a20_0, .ref q20_1, .ref q20_2, .ref q20_3, .int a20_1, .int a20_2, .int a20_3, .int a20_4]), (q20_1, cA E 3 a20_5), (q20_2, cA E 18 a20_6), (q20_3, cA E 6 a20_7), (q27, cO 1 [.int a31_0, .ref q31_1, .ref q31_2, .ref q31_3, .int a31_1, .int a31_2, .int a31_3, .int a31_4]), (q31_1, cA E 3 a31_5), (q31_2, cA E 18 a31_6), (q31_3, cA E 6 a31_7), (q38, cO 0 [.ref q42_1, .ref q42_2, .ref q42_3, .int a42_0, .int a42_1]), (q42_1, cA E 15 a42_2), (q42_2, cA E 6 a42_3), (q42_3, cA E 243 a42_4), (q52, cA E 350 (fun _ => 0)), (q70, cA E 50 (fun _ => 0)), (q77, cB E 2 (fun _ => 0)), (q85, cA E 6 (fun _ => 0)), (q93, cB E 6 (fun _ => 0))]) hZ dX3_init_105 rfl 0 rfl (Nat.le_of_ble_eq_true rfl) rfl ?_
  exact hRet _ _ _ dX3_init_108 ⟨_, _, _, _, _, _, _, _, _, _, _, _, _, _, _, _, _, _, _, _, _, _, _, _, _, _, _, _, _, _, _, _, _, _, _, _, _, _, _, _, _, _, _, _, _, _, _, _, _, _, _, rfl, h⟩
set_option maxHeartbeats 4000000 in
set_option maxRecDepth 100000 in
theorem c_X3_write (E : XE) (q_this : Nat) (q_text : Nat) (q_now : Nat) (q_trial : Nat) (q_choosing : Nat) (q_acts : Nat) (q_slots : Nat) (q_isKept : Nat) (q_heardPerson : Nat) (q_heardIs : Nat) (q_text_bytes : Nat) (v_nextAct : Int32) (v_actCount : Int32) (v_heardCount : Int32) (v_seed : Int64) (v_text_length : Int32) (v_text_bytes : Nat → Int32) (l1 : Int32) (post : Int32 → Int32 → (Nat → Int32) → Prop) (h : p_X3_write v_text_length v_text_bytes l1 post) : ConI E yX3_write cX3_write 2 .int { frames := 1, cells := 0, slots := 0, locals := 21 } 0 0 [.ref q_this, .int l1] [(q_this, cO 3 [.ref q_text, .ref q_now, .ref q_trial, .ref q_choosing, .ref q_acts, .int v_nextAct, .int v_actCount, .ref q_slots, .ref q_isKept, .ref q_heardPerson, .ref q_heardIs, .int v_heardCount, .long v_seed]), (q_text, cO 2 [.ref q_text_bytes, .int v_text_length]), (q_text_bytes, cA E 40 v_text_bytes)] (fun r w => ∃ (u_text_length : Int32) (u_text_bytes : Nat → Int32), w = [(q_this, cO 3 [.ref q_text, .ref q_now, .ref q_trial, .ref q_choosing, .ref q_acts, .int v_nextAct, .int v_actCount, .ref q_slots, .ref q_isKept, .ref q_heardPerson, .ref q_heardIs, .int v_heardCount, .long v_seed]), (q_text, cO 2 [.ref q_text_bytes, .int u_text_length]), (q_text_bytes, cA E 40 u_text_bytes)] ∧ post r u_text_length u_text_bytes) := by
  refine ConI.of (by decide +kernel) (Nat.le_of_ble_eq_true rfl) (fun Z hZ hI hRet => ?_)
  replace hZ : XOK E Z RX3 cX3_write 2 { frames := 1, cells := 0, slots := 0, locals := 21 } := hZ
  clear hI
  show XW E Z 0 0 [(q_this, cO 3 [.ref q_text, .ref q_now, .ref q_trial, .ref q_choosing, .ref q_acts, .int v_nextAct, .int v_actCount, .ref q_slots, .ref q_isKept, .ref q_heardPerson, .ref q_heardIs, .int v_heardCount, .long v_seed]), (q_text, cO 2 [.ref q_text_bytes, .int v_text_length]), (q_text_bytes, cA E 40 v_text_bytes)] [(0, .ref q_this), (1, .int l1)] [] 0
  unfold p_X3_write at h
  refine x_iload_n (pc' := 1) hZ dX3_write_0 rfl 1 rfl ?_
  refine x_if_lt (tgt := 11) (pc' := 4) hZ dX3_write_1 (by decide) rfl (fun c1 => ?_) (fun c1 => ?_)
  · replace h := h.1 c1
    refine x_bipush (v := (-2)) (pc' := 13) hZ (by decide) dX3_write_11 rfl ?_
    exact hRet _ _ _ _ dX3_write_13 ⟨_, _, rfl, h⟩
  · replace h := h.2 c1
    refine x_iload_n (pc' := 5) hZ dX3_write_4 rfl 1 rfl ?_
    refine x_sipush (v := 255) (pc' := 8) hZ (by decide) dX3_write_5 rfl ?_
    refine x_icmp_le (tgt := 14) (pc' := 11) hZ dX3_write_8 (by decide) rfl (fun c8 => ?_) (fun c8 => ?_)
    · replace h := h.1 c8
      refine x_aload_n (pc' := 15) hZ dX3_write_14 rfl 0 rfl ?_
      refine g_RX3_10 (pc' := 18) hZ dX3_write_15 rfl 0 rfl rfl ?_
      refine g_RX3_64 (pc' := 21) hZ dX3_write_18 rfl 1 rfl rfl ?_
      refine x_bipush (v := 40) (pc' := 23) hZ (by decide) dX3_write_21 rfl ?_
      refine x_icmp_lt (tgt := 29) (pc' := 26) hZ dX3_write_23 (by decide) rfl (fun c23 => ?_) (fun c23 => ?_)
      · replace h := h.1 c23
        refine x_aload_n (pc' := 30) hZ dX3_write_29 rfl 0 rfl ?_
        refine g_RX3_10 (pc' := 33) hZ dX3_write_30 rfl 0 rfl rfl ?_
        refine x_iload_n (pc' := 34) hZ dX3_write_33 rfl 1 rfl ?_
        refine k_RX3_67 (pc' := 37) (q0 := 1) (as := [.int l1]) (rest := []) (c' := 0) (n' := 0) (wr := [(q_this, cO 3 [.ref q_text, .ref q_now, .ref q_trial, .ref q_choosing, .ref q_acts, .int v_nextAct, .int v_actCount, .ref q_slots, .ref q_isKept, .ref q_heardPerson, .ref q_heardIs, .int v_heardCount, .long v_seed])]) hZ (c_X2_append E q_text q_text_bytes v_text_length v_text_bytes l1 _ h) rfl dX3_write_34 rfl rfl rfl rfl rfl (Nat.le_of_ble_eq_true rfl) (Nat.le_of_ble_eq_true rfl) (Nat.le_of_ble_eq_true rfl) rfl rfl (Nat.le_of_ble_eq_true rfl) (Nat.le_of_ble_eq_true rfl) [1, 2] [0] rfl rfl (by decide) (by decide) (by decide) (fun w34 hw => ?_)
        obtain ⟨a34_0, a34_1, rfl, h⟩ := hw
        refine x_ws (ws' := [(q_this, cO 3 [.ref q_text, .ref q_now, .ref q_trial, .ref q_choosing, .ref q_acts, .int v_nextAct, .int v_actCount, .ref q_slots, .ref q_isKept, .ref q_heardPerson, .ref q_heardIs, .int v_heardCount, .long v_seed]), (q_text, cO 2 [.ref q_text_bytes, .int a34_0]), (q_text_bytes, cA E 40 a34_1)]) [0, 1, 2] rfl (by decide) ?_
        refine x_aload_n (pc' := 38) hZ dX3_write_37 rfl 0 rfl ?_
        refine g_RX3_10 (pc' := 41) hZ dX3_write_38 rfl 0 rfl rfl ?_
        refine g_RX3_64 (pc' := 44) hZ dX3_write_41 rfl 1 rfl rfl ?_
        exact hRet _ _ _ _ dX3_write_44 ⟨_, _, rfl, h⟩
      · replace h := h.2 c23
        refine x_bipush (v := (-4)) (pc' := 28) hZ (by decide) dX3_write_26 rfl ?_
        exact hRet _ _ _ _ dX3_write_28 ⟨_, _, rfl, h⟩
    · replace h := h.2 c8
      refine x_bipush (v := (-2)) (pc' := 13) hZ (by decide) dX3_write_11 rfl ?_
      exact hRet _ _ _ _ dX3_write_13 ⟨_, _, rfl, h⟩
set_option maxHeartbeats 4000000 in
set_option maxRecDepth 100000 in
theorem c_X3_wipe (E : XE) (q_this : Nat) (q_text : Nat) (q_now : Nat) (q_trial : Nat) (q_choosing : Nat) (q_acts : Nat) (q_slots : Nat) (q_isKept : Nat) (q_heardPerson : Nat) (q_heardIs : Nat) (q_text_bytes : Nat) (v_nextAct : Int32) (v_actCount : Int32) (v_heardCount : Int32) (v_seed : Int64) (v_text_length : Int32) (post : Int32 → Int32 → Prop) (h : p_X3_wipe v_text_length post) : ConI E yX3_wipe cX3_wipe 2 .int { frames := 0, cells := 0, slots := 0, locals := 0 } 0 0 [.ref q_this] [(q_this, cO 3 [.ref q_text, .ref q_now, .ref q_trial, .ref q_choosing, .ref q_acts, .int v_nextAct, .int v_actCount, .ref q_slots, .ref q_isKept, .ref q_heardPerson, .ref q_heardIs, .int v_heardCount, .long v_seed]), (q_text, cO 2 [.ref q_text_bytes, .int v_text_length])] (fun r w => ∃ (u_text_length : Int32), w = [(q_this, cO 3 [.ref q_text, .ref q_now, .ref q_trial, .ref q_choosing, .ref q_acts, .int v_nextAct, .int v_actCount, .ref q_slots, .ref q_isKept, .ref q_heardPerson, .ref q_heardIs, .int v_heardCount, .long v_seed]), (q_text, cO 2 [.ref q_text_bytes, .int u_text_length])] ∧ post r u_text_length) := by
  refine ConI.of (by decide +kernel) (Nat.le_of_ble_eq_true rfl) (fun Z hZ hI hRet => ?_)
  replace hZ : XOK E Z RX3 cX3_wipe 2 { frames := 0, cells := 0, slots := 0, locals := 0 } := hZ
  clear hI
  show XW E Z 0 0 [(q_this, cO 3 [.ref q_text, .ref q_now, .ref q_trial, .ref q_choosing, .ref q_acts, .int v_nextAct, .int v_actCount, .ref q_slots, .ref q_isKept, .ref q_heardPerson, .ref q_heardIs, .int v_heardCount, .long v_seed]), (q_text, cO 2 [.ref q_text_bytes, .int v_text_length])] [(0, .ref q_this)] [] 0
  unfold p_X3_wipe at h
  refine x_aload_n (pc' := 1) hZ dX3_wipe_0 rfl 0 rfl ?_
  refine g_RX3_10 (pc' := 4) hZ dX3_wipe_1 rfl 0 rfl rfl ?_
  refine g_RX3_64 (pc' := 7) hZ dX3_wipe_4 rfl 1 rfl rfl ?_
  refine x_istore_n (i := 1) (pc' := 8) (lv' := [(1, .int v_text_length), (0, .ref q_this)]) hZ dX3_wipe_7 rfl rfl (by decide) rfl ?_
  refine x_aload_n (pc' := 9) hZ dX3_wipe_8 rfl 1 rfl ?_
  refine g_RX3_10 (pc' := 12) hZ dX3_wipe_9 rfl 0 rfl rfl ?_
  refine x_iconst (v := 0) (pc' := 13) hZ (by decide) dX3_wipe_12 rfl ?_
  refine s_RX3_64 (pc' := 16) (ws' := [(q_this, cO 3 [.ref q_text, .ref q_now, .ref q_trial, .ref q_choosing, .ref q_acts, .int v_nextAct, .int v_actCount, .ref q_slots, .ref q_isKept, .ref q_heardPerson, .ref q_heardIs, .int v_heardCount, .long v_seed]), (q_text, cO 2 [.ref q_text_bytes, .int 0])]) hZ dX3_wipe_13 rfl 1 rfl (Nat.le_of_ble_eq_true rfl) rfl ?_
  refine x_iload_n (pc' := 17) hZ dX3_wipe_16 rfl 0 rfl ?_
  exact hRet _ _ _ _ dX3_wipe_17 ⟨_, rfl, h⟩
set_option maxHeartbeats 4000000 in
set_option maxRecDepth 100000 in
theorem c_X3_fault (E : XE) (q_this : Nat) (q_text : Nat) (q_now : Nat) (q_trial : Nat) (q_choosing : Nat) (q_acts : Nat) (q_slots : Nat) (q_isKept : Nat) (q_heardPerson : Nat) (q_heardIs : Nat) (q_text_bytes : Nat) (v_nextAct : Int32) (v_actCount : Int32) (v_heardCount : Int32) (v_seed : Int64) (v_text_length : Int32) (v_text_bytes : Nat → Int32) (post : Int32 → Prop) (h : p_X3_fault v_text_length v_text_bytes post) : ConI E yX3_fault cX3_fault 1 .int { frames := 4, cells := 0, slots := 0, locals := 88 } 0 0 [.ref q_this] [(q_this, cO 3 [.ref q_text, .ref q_now, .ref q_trial, .ref q_choosing, .ref q_acts, .int v_nextAct, .int v_actCount, .ref q_slots, .ref q_isKept, .ref q_heardPerson, .ref q_heardIs, .int v_heardCount, .long v_seed]), (q_text, cO 2 [.ref q_text_bytes, .int v_text_length]), (q_text_bytes, cA E 40 v_text_bytes)] (fun r w => w = [(q_this, cO 3 [.ref q_text, .ref q_now, .ref q_trial, .ref q_choosing, .ref q_acts, .int v_nextAct, .int v_actCount, .ref q_slots, .ref q_isKept, .ref q_heardPerson, .ref q_heardIs, .int v_heardCount, .long v_seed]), (q_text, cO 2 [.ref q_text_bytes, .int v_text_length]), (q_text_bytes, cA E 40 v_text_bytes)] ∧ post r ) := by
  refine ConI.of (by decide +kernel) (Nat.le_of_ble_eq_true rfl) (fun Z hZ hI hRet => ?_)
  replace hZ : XOK E Z RX3 cX3_fault 1 { frames := 4, cells := 0, slots := 0, locals := 88 } := hZ
  clear hI
  show XW E Z 0 0 [(q_this, cO 3 [.ref q_text, .ref q_now, .ref q_trial, .ref q_choosing, .ref q_acts, .int v_nextAct, .int v_actCount, .ref q_slots, .ref q_isKept, .ref q_heardPerson, .ref q_heardIs, .int v_heardCount, .long v_seed]), (q_text, cO 2 [.ref q_text_bytes, .int v_text_length]), (q_text_bytes, cA E 40 v_text_bytes)] [(0, .ref q_this)] [] 0
  unfold p_X3_fault at h
  refine x_aload_n (pc' := 1) hZ dX3_fault_0 rfl 0 rfl ?_
  refine g_RX3_10 (pc' := 4) hZ dX3_fault_1 rfl 0 rfl rfl ?_
  refine k_RX3_71 (pc' := 7) (q0 := 1) (as := []) (rest := []) (c' := 0) (n' := 0) (wr := [(q_this, cO 3 [.ref q_text, .ref q_now, .ref q_trial, .ref q_choosing, .ref q_acts, .int v_nextAct, .int v_actCount, .ref q_slots, .ref q_isKept, .ref q_heardPerson, .ref q_heardIs, .int v_heardCount, .long v_seed])]) hZ (c_X2_firstFault E q_text q_text_bytes v_text_length v_text_bytes _ h) rfl dX3_fault_4 rfl rfl rfl rfl rfl (Nat.le_of_ble_eq_true rfl) (Nat.le_of_ble_eq_true rfl) (Nat.le_of_ble_eq_true rfl) rfl rfl (Nat.le_of_ble_eq_true rfl) (Nat.le_of_ble_eq_true rfl) [1, 2] [0] rfl rfl (by decide) (by decide) (by decide) (fun r4 w4 hw => ?_)
  obtain ⟨rfl, h⟩ := hw
  refine x_ws (ws' := [(q_this, cO 3 [.ref q_text, .ref q_now, .ref q_trial, .ref q_choosing, .ref q_acts, .int v_nextAct, .int v_actCount, .ref q_slots, .ref q_isKept, .ref q_heardPerson, .ref q_heardIs, .int v_heardCount, .long v_seed]), (q_text, cO 2 [.ref q_text_bytes, .int v_text_length]), (q_text_bytes, cA E 40 v_text_bytes)]) [0, 1, 2] rfl (by decide) ?_
  exact hRet _ _ _ _ dX3_fault_7 ⟨rfl, h⟩
set_option maxHeartbeats 4000000 in
set_option maxRecDepth 100000 in
theorem c_X3_forgetActs (E : XE) (q_this : Nat) (q_text : Nat) (q_now : Nat) (q_trial : Nat) (q_choosing : Nat) (q_acts : Nat) (q_slots : Nat) (q_isKept : Nat) (q_heardPerson : Nat) (q_heardIs : Nat) (v_nextAct : Int32) (v_actCount : Int32) (v_heardCount : Int32) (v_seed : Int64) (post : Int32 → Int32 → Prop) (h : p_X3_forgetActs v_nextAct v_actCount post) : ConV E yX3_forgetActs cX3_forgetActs 1 { frames := 0, cells := 0, slots := 0, locals := 0 } 0 0 [.ref q_this] [(q_this, cO 3 [.ref q_text, .ref q_now, .ref q_trial, .ref q_choosing, .ref q_acts, .int v_nextAct, .int v_actCount, .ref q_slots, .ref q_isKept, .ref q_heardPerson, .ref q_heardIs, .int v_heardCount, .long v_seed])] (fun w => ∃ (u_nextAct : Int32) (u_actCount : Int32), w = [(q_this, cO 3 [.ref q_text, .ref q_now, .ref q_trial, .ref q_choosing, .ref q_acts, .int u_nextAct, .int u_actCount, .ref q_slots, .ref q_isKept, .ref q_heardPerson, .ref q_heardIs, .int v_heardCount, .long v_seed])] ∧ post u_nextAct u_actCount) := by
  refine ConV.of (by decide +kernel) (Nat.le_of_ble_eq_true rfl) (fun Z hZ hI hRet => ?_)
  replace hZ : XOK E Z RX3 cX3_forgetActs 1 { frames := 0, cells := 0, slots := 0, locals := 0 } := hZ
  clear hI
  show XW E Z 0 0 [(q_this, cO 3 [.ref q_text, .ref q_now, .ref q_trial, .ref q_choosing, .ref q_acts, .int v_nextAct, .int v_actCount, .ref q_slots, .ref q_isKept, .ref q_heardPerson, .ref q_heardIs, .int v_heardCount, .long v_seed])] [(0, .ref q_this)] [] 0
  unfold p_X3_forgetActs at h
  refine x_aload_n (pc' := 1) hZ dX3_forgetActs_0 rfl 0 rfl ?_
  refine x_iconst (v := 0) (pc' := 2) hZ (by decide) dX3_forgetActs_1 rfl ?_
  refine s_RX3_37 (pc' := 5) (ws' := [(q_this, cO 3 [.ref q_text, .ref q_now, .ref q_trial, .ref q_choosing, .ref q_acts, .int 0, .int v_actCount, .ref q_slots, .ref q_isKept, .ref q_heardPerson, .ref q_heardIs, .int v_heardCount, .long v_seed])]) hZ dX3_forgetActs_2 rfl 0 rfl (Nat.le_of_ble_eq_true rfl) rfl ?_
  refine x_aload_n (pc' := 6) hZ dX3_forgetActs_5 rfl 0 rfl ?_
  refine x_iconst (v := 0) (pc' := 7) hZ (by decide) dX3_forgetActs_6 rfl ?_
  refine s_RX3_41 (pc' := 10) (ws' := [(q_this, cO 3 [.ref q_text, .ref q_now, .ref q_trial, .ref q_choosing, .ref q_acts, .int 0, .int 0, .ref q_slots, .ref q_isKept, .ref q_heardPerson, .ref q_heardIs, .int v_heardCount, .long v_seed])]) hZ dX3_forgetActs_7 rfl 0 rfl (Nat.le_of_ble_eq_true rfl) rfl ?_
  exact hRet _ _ _ dX3_forgetActs_10 ⟨_, _, rfl, h⟩
set_option maxHeartbeats 4000000 in
set_option maxRecDepth 100000 in
theorem t_X3_court_32 (E : XE) (Z : ZC) (q_this : Nat) (q_text : Nat) (q_now : Nat) (q_trial : Nat) (q_choosing : Nat) (q_acts : Nat) (q_slots : Nat) (q_isKept : Nat) (q_heardPerson : Nat) (q_heardIs : Nat) (q_text_bytes : Nat) (q_now_weights : Nat) (q_now_marks : Nat) (q_now_ageing : Nat) (v_nextAct : Int32) (v_actCount : Int32) (v_heardCount : Int32) (v_seed : Int64) (v_text_length : Int32) (v_text_bytes : Nat → Int32) (v_now_people : Int32) (v_now_alive : Int32) (v_now_reported : Int32) (v_now_mornings : Int32) (v_now_years : Int32) (v_now_weights : Nat → Int32) (v_now_marks : Nat → Int32) (v_now_ageing : Nat → Int32) {K : Int32 → (Nat → Int32) → Prop} (hZ : XOK E Z RX3 cX3_court 2 { frames := 4, cells := 0, slots := 0, locals := 88 }) : ∀ (k : Nat) (l1 : Int32) (v_isKept : (Nat → Int32)), wl (fun rec v => b_X3_court_32  K rec v.1 v.2) k (l1, v_isKept) → (∀ (l1 : Int32) (v_isKept : (Nat → Int32)), K l1 v_isKept → XW E Z 0 0 [(q_this, cO 3 [.ref q_text, .ref q_now, .ref q_trial, .ref q_choosing, .ref q_acts, .int v_nextAct, .int v_actCount, .ref q_slots, .ref q_isKept, .ref q_heardPerson, .ref q_heardIs, .int v_heardCount, .long v_seed]), (q_text, cO 2 [.ref q_text_bytes, .int v_text_length]), (q_text_bytes, cA E 40 v_text_bytes), (q_now, cO 1 [.int v_now_people, .ref q_now_weights, .ref q_now_marks, .ref q_now_ageing, .int v_now_alive, .int v_now_reported, .int v_now_mornings, .int v_now_years]), (q_now_weights, cA E 3 v_now_weights), (q_now_marks, cA E 18 v_now_marks), (q_now_ageing, cA E 6 v_now_ageing), (q_isKept, cB E 2 v_isKept)] [(0, .ref q_this)] [] 50) → XW E Z 0 0 [(q_this, cO 3 [.ref q_text, .ref q_now, .ref q_trial, .ref q_choosing, .ref q_acts, .int v_nextAct, .int v_actCount, .ref q_slots, .ref q_isKept, .ref q_heardPerson, .ref q_heardIs, .int v_heardCount, .long v_seed]), (q_text, cO 2 [.ref q_text_bytes, .int v_text_length]), (q_text_bytes, cA E 40 v_text_bytes), (q_now, cO 1 [.int v_now_people, .ref q_now_weights, .ref q_now_marks, .ref q_now_ageing, .int v_now_alive, .int v_now_reported, .int v_now_mornings, .int v_now_years]), (q_now_weights, cA E 3 v_now_weights), (q_now_marks, cA E 18 v_now_marks), (q_now_ageing, cA E 6 v_now_ageing), (q_isKept, cB E 2 v_isKept)] [(0, .ref q_this), (1, .int l1)] [] 32 := by
  intro k
  induction k with
  | zero =>
    intro l1 v_isKept h
    exact h.elim
  | succ k ih =>
    intro l1 v_isKept h hK
    replace h := wl_succ h
    try dsimp only at h
    unfold b_X3_court_32 at h
    refine x_iload_n (pc' := 33) hZ dX3_court_32 rfl 1 rfl ?_
    refine x_iconst (v := 2) (pc' := 34) hZ (by decide) dX3_court_33 rfl ?_
    refine x_icmp_ge (tgt := 50) (pc' := 37) hZ dX3_court_34 (by decide) rfl (fun c34 => ?_) (fun c34 => ?_)
    · replace h := h.1 c34
      refine x_lv [0] (lv' := [(0, .ref q_this)]) rfl ?_
      exact hK l1 v_isKept h
    · replace h := h.2 c34
      refine x_aload_n (pc' := 38) hZ dX3_court_37 rfl 0 rfl ?_
      refine g_RX3_47 (pc' := 41) hZ dX3_court_38 rfl 0 rfl rfl ?_
      refine x_iload_n (pc' := 42) hZ dX3_court_41 rfl 1 rfl ?_
      refine x_iconst (v := 0) (pc' := 43) hZ (by decide) dX3_court_42 rfl ?_
      obtain ⟨h43, h⟩ := h
      refine x_zast (pc' := 44) (ws' := [(q_this, cO 3 [.ref q_text, .ref q_now, .ref q_trial, .ref q_choosing, .ref q_acts, .int v_nextAct, .int v_actCount, .ref q_slots, .ref q_isKept, .ref q_heardPerson, .ref q_heardIs, .int v_heardCount, .long v_seed]), (q_text, cO 2 [.ref q_text_bytes, .int v_text_length]), (q_text_bytes, cA E 40 v_text_bytes), (q_now, cO 1 [.int v_now_people, .ref q_now_weights, .ref q_now_marks, .ref q_now_ageing, .int v_now_alive, .int v_now_reported, .int v_now_mornings, .int v_now_years]), (q_now_weights, cA E 3 v_now_weights), (q_now_marks, cA E 18 v_now_marks), (q_now_ageing, cA E 6 v_now_ageing), (q_isKept, cB E 2 (upd v_isKept (ix l1) (jbool 0)))]) hZ h43 dX3_court_43 rfl 7 rfl rfl ?_
      obtain ⟨x44, e44⟩ : ∃ y : Int32, y = l1 + 1 := ⟨_, rfl⟩
      replace h := h x44 e44
      refine x_iinc (i := 1) (v := x44) (pc' := 47) (lv' := [(1, .int x44), (0, .ref q_this)]) hZ dX3_court_44 rfl 1 rfl (by rw [e44]; rfl) (by decide) rfl ?_
      refine x_goto (pc' := 32) hZ dX3_court_47 (by decide) ?_
      refine x_lv [1, 0] (lv' := [(0, .ref q_this), (1, .int x44)]) rfl ?_
      exact ih x44 (upd v_isKept (ix l1) (jbool 0)) h hK
set_option maxHeartbeats 4000000 in
set_option maxRecDepth 100000 in
theorem c_X3_court (E : XE) (q_this : Nat) (q_text : Nat) (q_now : Nat) (q_trial : Nat) (q_choosing : Nat) (q_acts : Nat) (q_slots : Nat) (q_isKept : Nat) (q_heardPerson : Nat) (q_heardIs : Nat) (q_text_bytes : Nat) (q_now_weights : Nat) (q_now_marks : Nat) (q_now_ageing : Nat) (v_nextAct : Int32) (v_actCount : Int32) (v_heardCount : Int32) (v_seed : Int64) (v_text_length : Int32) (v_text_bytes : Nat → Int32) (v_now_people : Int32) (v_now_alive : Int32) (v_now_reported : Int32) (v_now_mornings : Int32) (v_now_years : Int32) (v_now_weights : Nat → Int32) (v_now_marks : Nat → Int32) (v_now_ageing : Nat → Int32) (v_isKept : Nat → Int32) (post : Int32 → Int32 → Int32 → Int32 → Int32 → Int32 → Int32 → Int32 → (Nat → Int32) → (Nat → Int32) → (Nat → Int32) → (Nat → Int32) → Prop) (h : p_X3_court v_nextAct v_actCount v_text_length v_text_bytes v_now_people v_now_alive v_now_reported v_now_mornings v_now_years v_now_weights v_now_marks v_now_ageing v_isKept post) : ConI E yX3_court cX3_court 2 .int { frames := 4, cells := 0, slots := 0, locals := 88 } 0 0 [.ref q_this] [(q_this, cO 3 [.ref q_text, .ref q_now, .ref q_trial, .ref q_choosing, .ref q_acts, .int v_nextAct, .int v_actCount, .ref q_slots, .ref q_isKept, .ref q_heardPerson, .ref q_heardIs, .int v_heardCount, .long v_seed]), (q_text, cO 2 [.ref q_text_bytes, .int v_text_length]), (q_text_bytes, cA E 40 v_text_bytes), (q_now, cO 1 [.int v_now_people, .ref q_now_weights, .ref q_now_marks, .ref q_now_ageing, .int v_now_alive, .int v_now_reported, .int v_now_mornings, .int v_now_years]), (q_now_weights, cA E 3 v_now_weights), (q_now_marks, cA E 18 v_now_marks), (q_now_ageing, cA E 6 v_now_ageing), (q_isKept, cB E 2 v_isKept)] (fun r w => ∃ (u_nextAct : Int32) (u_actCount : Int32) (u_now_people : Int32) (u_now_alive : Int32) (u_now_reported : Int32) (u_now_mornings : Int32) (u_now_years : Int32) (u_now_weights : Nat → Int32) (u_now_marks : Nat → Int32) (u_now_ageing : Nat → Int32) (u_isKept : Nat → Int32), w = [(q_this, cO 3 [.ref q_text, .ref q_now, .ref q_trial, .ref q_choosing, .ref q_acts, .int u_nextAct, .int u_actCount, .ref q_slots, .ref q_isKept, .ref q_heardPerson, .ref q_heardIs, .int v_heardCount, .long v_seed]), (q_text, cO 2 [.ref q_text_bytes, .int v_text_length]), (q_text_bytes, cA E 40 v_text_bytes), (q_now, cO 1 [.int u_now_people, .ref q_now_weights, .ref q_now_marks, .ref q_now_ageing, .int u_now_alive, .int u_now_reported, .int u_now_mornings, .int u_now_years]), (q_now_weights, cA E 3 u_now_weights), (q_now_marks, cA E 18 u_now_marks), (q_now_ageing, cA E 6 u_now_ageing), (q_isKept, cB E 2 u_isKept)] ∧ post r u_nextAct u_actCount u_now_people u_now_alive u_now_reported u_now_mornings u_now_years u_now_weights u_now_marks u_now_ageing u_isKept) := by
  refine ConI.of (by decide +kernel) (Nat.le_of_ble_eq_true rfl) (fun Z hZ hI hRet => ?_)
  replace hZ : XOK E Z RX3 cX3_court 2 { frames := 4, cells := 0, slots := 0, locals := 88 } := hZ
  clear hI
  show XW E Z 0 0 [(q_this, cO 3 [.ref q_text, .ref q_now, .ref q_trial, .ref q_choosing, .ref q_acts, .int v_nextAct, .int v_actCount, .ref q_slots, .ref q_isKept, .ref q_heardPerson, .ref q_heardIs, .int v_heardCount, .long v_seed]), (q_text, cO 2 [.ref q_text_bytes, .int v_text_length]), (q_text_bytes, cA E 40 v_text_bytes), (q_now, cO 1 [.int v_now_people, .ref q_now_weights, .ref q_now_marks, .ref q_now_ageing, .int v_now_alive, .int v_now_reported, .int v_now_mornings, .int v_now_years]), (q_now_weights, cA E 3 v_now_weights), (q_now_marks, cA E 18 v_now_marks), (q_now_ageing, cA E 6 v_now_ageing), (q_isKept, cB E 2 v_isKept)] [(0, .ref q_this)] [] 0
  unfold p_X3_court at h
  refine x_aload_n (pc' := 1) hZ dX3_court_0 rfl 0 rfl ?_
  refine g_RX3_10 (pc' := 4) hZ dX3_court_1 rfl 0 rfl rfl ?_
  refine k_RX3_71 (pc' := 7) (q0 := 1) (as := []) (rest := []) (c' := 0) (n' := 0) (wr := [(q_this, cO 3 [.ref q_text, .ref q_now, .ref q_trial, .ref q_choosing, .ref q_acts, .int v_nextAct, .int v_actCount, .ref q_slots, .ref q_isKept, .ref q_heardPerson, .ref q_heardIs, .int v_heardCount, .long v_seed]), (q_now, cO 1 [.int v_now_people, .ref q_now_weights, .ref q_now_marks, .ref q_now_ageing, .int v_now_alive, .int v_now_reported, .int v_now_mornings, .int v_now_years]), (q_now_weights, cA E 3 v_now_weights), (q_now_marks, cA E 18 v_now_marks), (q_now_ageing, cA E 6 v_now_ageing), (q_isKept, cB E 2 v_isKept)]) hZ (c_X2_firstFault E q_text q_text_bytes v_text_length v_text_bytes _ h) rfl dX3_court_4 rfl rfl rfl rfl rfl (Nat.le_of_ble_eq_true rfl) (Nat.le_of_ble_eq_true rfl) (Nat.le_of_ble_eq_true rfl) rfl rfl (Nat.le_of_ble_eq_true rfl) (Nat.le_of_ble_eq_true rfl) [1, 2] [0, 3, 4, 5, 6, 7] rfl rfl (by decide) (by decide) (by decide) (fun r4 w4 hw => ?_)
  obtain ⟨rfl, h⟩ := hw
  refine x_ws (ws' := [(q_this, cO 3 [.ref q_text, .ref q_now, .ref q_trial, .ref q_choosing, .ref q_acts, .int v_nextAct, .int v_actCount, .ref q_slots, .ref q_isKept, .ref q_heardPerson, .ref q_heardIs, .int v_heardCount, .long v_seed]), (q_text, cO 2 [.ref q_text_bytes, .int v_text_length]), (q_text_bytes, cA E 40 v_text_bytes), (q_now, cO 1 [.int v_now_people, .ref q_now_weights, .ref q_now_marks, .ref q_now_ageing, .int v_now_alive, .int v_now_reported, .int v_now_mornings, .int v_now_years]), (q_now_weights, cA E 3 v_now_weights), (q_now_marks, cA E 18 v_now_marks), (q_now_ageing, cA E 6 v_now_ageing), (q_isKept, cB E 2 v_isKept)]) [0, 6, 7, 1, 2, 3, 4, 5] rfl (by decide) ?_
  refine x_bipush (v := (-9)) (pc' := 9) hZ (by decide) dX3_court_7 rfl ?_
  refine x_icmp_eq (tgt := 15) (pc' := 12) hZ dX3_court_9 (by decide) rfl (fun c9 => ?_) (fun c9 => ?_)
  · replace h := h.1 c9
    refine x_aload_n (pc' := 16) hZ dX3_court_15 rfl 0 rfl ?_
    refine g_RX3_19 (pc' := 19) hZ dX3_court_16 rfl 0 rfl rfl ?_
    refine x_aload_n (pc' := 20) hZ dX3_court_19 rfl 0 rfl ?_
    refine g_RX3_10 (pc' := 23) hZ dX3_court_20 rfl 0 rfl rfl ?_
    refine k_RX3_75 (pc' := 26) (q0 := 3) (as := [.ref q_text]) (rest := []) (c' := 0) (n' := 0) (wr := [(q_this, cO 3 [.ref q_text, .ref q_now, .ref q_trial, .ref q_choosing, .ref q_acts, .int v_nextAct, .int v_actCount, .ref q_slots, .ref q_isKept, .ref q_heardPerson, .ref q_heardIs, .int v_heardCount, .long v_seed]), (q_isKept, cB E 2 v_isKept)]) hZ (c_X1_readFrom E q_now q_now_weights q_now_marks q_now_ageing q_text q_text_bytes v_now_people v_now_alive v_now_reported v_now_mornings v_now_years v_now_weights v_now_marks v_now_ageing v_text_length v_text_bytes _ h) rfl dX3_court_23 rfl rfl rfl rfl rfl (Nat.le_of_ble_eq_true rfl) (Nat.le_of_ble_eq_true rfl) (Nat.le_of_ble_eq_true rfl) rfl rfl (Nat.le_of_ble_eq_true rfl) (Nat.le_of_ble_eq_true rfl) [3, 4, 5, 6, 1, 2] [0, 7] rfl rfl (by decide) (by decide) (by decide) (fun w23 hw => ?_)
    obtain ⟨a23_0, a23_1, a23_2, a23_3, a23_4, a23_5, a23_6, a23_7, rfl, h⟩ := hw
    refine x_ws (ws' := [(q_this, cO 3 [.ref q_text, .ref q_now, .ref q_trial, .ref q_choosing, .ref q_acts, .int v_nextAct, .int v_actCount, .ref q_slots, .ref q_isKept, .ref q_heardPerson, .ref q_heardIs, .int v_heardCount, .long v_seed]), (q_text, cO 2 [.ref q_text_bytes, .int v_text_length]), (q_text_bytes, cA E 40 v_text_bytes), (q_now, cO 1 [.int a23_0, .ref q_now_weights, .ref q_now_marks, .ref q_now_ageing, .int a23_1, .int a23_2, .int a23_3, .int a23_4]), (q_now_weights, cA E 3 a23_5), (q_now_marks, cA E 18 a23_6), (q_now_ageing, cA E 6 a23_7), (q_isKept, cB E 2 v_isKept)]) [0, 6, 7, 2, 3, 4, 5, 1] rfl (by decide) ?_
    refine x_aload_n (pc' := 27) hZ dX3_court_26 rfl 0 rfl ?_
    refine k_RX3_79 (pc' := 30) (q0 := 0) (as := []) (rest := []) (c' := 0) (n' := 0) (wr := [(q_text, cO 2 [.ref q_text_bytes, .int v_text_length]), (q_text_bytes, cA E 40 v_text_bytes), (q_now, cO 1 [.int a23_0, .ref q_now_weights, .ref q_now_marks, .ref q_now_ageing, .int a23_1, .int a23_2, .int a23_3, .int a23_4]), (q_now_weights, cA E 3 a23_5), (q_now_marks, cA E 18 a23_6), (q_now_ageing, cA E 6 a23_7), (q_isKept, cB E 2 v_isKept)]) hZ (c_X3_forgetActs E q_this q_text q_now q_trial q_choosing q_acts q_slots q_isKept q_heardPerson q_heardIs v_nextAct v_actCount v_heardCount v_seed _ h) rfl dX3_court_27 rfl rfl rfl rfl rfl (Nat.le_of_ble_eq_true rfl) (Nat.le_of_ble_eq_true rfl) (Nat.le_of_ble_eq_true rfl) rfl rfl (Nat.le_of_ble_eq_true rfl) (Nat.le_of_ble_eq_true rfl) [0] [1, 2, 3, 4, 5, 6, 7] rfl rfl (by decide) (by decide) (by decide) (fun w27 hw => ?_)
    obtain ⟨a27_0, a27_1, rfl, h⟩ := hw
    refine x_ws (ws' := [(q_this, cO 3 [.ref q_text, .ref q_now, .ref q_trial, .ref q_choosing, .ref q_acts, .int a27_0, .int a27_1, .ref q_slots, .ref q_isKept, .ref q_heardPerson, .ref q_heardIs, .int v_heardCount, .long v_seed]), (q_text, cO 2 [.ref q_text_bytes, .int v_text_length]), (q_text_bytes, cA E 40 v_text_bytes), (q_now, cO 1 [.int a23_0, .ref q_now_weights, .ref q_now_marks, .ref q_now_ageing, .int a23_1, .int a23_2, .int a23_3, .int a23_4]), (q_now_weights, cA E 3 a23_5), (q_now_marks, cA E 18 a23_6), (q_now_ageing, cA E 6 a23_7), (q_isKept, cB E 2 v_isKept)]) [7, 0, 1, 2, 3, 4, 5, 6] rfl (by decide) ?_
    refine x_iconst (v := 0) (pc' := 31) hZ (by decide) dX3_court_30 rfl ?_
    refine x_istore_n (i := 1) (pc' := 32) (lv' := [(1, .int 0), (0, .ref q_this)]) hZ dX3_court_31 rfl rfl (by decide) rfl ?_
    refine x_lv [1, 0] (lv' := [(0, .ref q_this), (1, .int 0)]) rfl ?_
    obtain ⟨k32, h⟩ := h
    refine t_X3_court_32 E Z q_this q_text q_now q_trial q_choosing q_acts q_slots q_isKept q_heardPerson q_heardIs q_text_bytes q_now_weights q_now_marks q_now_ageing a27_0 a27_1 v_heardCount v_seed v_text_length v_text_bytes a23_0 a23_1 a23_2 a23_3 a23_4 a23_5 a23_6 a23_7 hZ  _ 0 v_isKept h (fun l1_32 v_isKept_32 h => ?_)
    refine x_aload_n (pc' := 51) hZ dX3_court_50 rfl 0 rfl ?_
    refine g_RX3_19 (pc' := 54) hZ dX3_court_51 rfl 0 rfl rfl ?_
    refine g_RX3_82 (pc' := 57) hZ dX3_court_54 rfl 3 rfl rfl ?_
    exact hRet _ _ _ _ dX3_court_57 ⟨_, _, _, _, _, _, _, _, _, _, _, rfl, h⟩
  · replace h := h.2 c9
    refine x_bipush (v := (-3)) (pc' := 14) hZ (by decide) dX3_court_12 rfl ?_
    exact hRet _ _ _ _ dX3_court_14 ⟨_, _, _, _, _, _, _, _, _, _, _, rfl, h⟩
set_option maxHeartbeats 4000000 in
set_option maxRecDepth 100000 in
theorem c_X3_about (E : XE) (q_this : Nat) (q_text : Nat) (q_now : Nat) (q_trial : Nat) (q_choosing : Nat) (q_acts : Nat) (q_slots : Nat) (q_isKept : Nat) (q_heardPerson : Nat) (q_heardIs : Nat) (q_text_bytes : Nat) (q_now_weights : Nat) (q_now_marks : Nat) (q_now_ageing : Nat) (v_nextAct : Int32) (v_actCount : Int32) (v_heardCount : Int32) (v_seed : Int64) (v_text_length : Int32) (v_now_people : Int32) (v_now_alive : Int32) (v_now_reported : Int32) (v_now_mornings : Int32) (v_now_years : Int32) (v_now_weights : Nat → Int32) (v_now_marks : Nat → Int32) (l1 : Int32) (post : Int32 → Prop) (h : p_X3_about v_actCount v_heardCount v_text_length v_now_people v_now_alive v_now_reported v_now_mornings v_now_years v_now_weights v_now_marks l1 post) : ConI E yX3_about cX3_about 2 .int { frames := 2, cells := 0, slots := 0, locals := 47 } 0 0 [.ref q_this, .int l1] [(q_this, cO 3 [.ref q_text, .ref q_now, .ref q_trial, .ref q_choosing, .ref q_acts, .int v_nextAct, .int v_actCount, .ref q_slots, .ref q_isKept, .ref q_heardPerson, .ref q_heardIs, .int v_heardCount, .long v_seed]), (q_text, cO 2 [.ref q_text_bytes, .int v_text_length]), (q_now, cO 1 [.int v_now_people, .ref q_now_weights, .ref q_now_marks, .ref q_now_ageing, .int v_now_alive, .int v_now_reported, .int v_now_mornings, .int v_now_years]), (q_now_weights, cA E 3 v_now_weights), (q_now_marks, cA E 18 v_now_marks)] (fun r w => w = [(q_this, cO 3 [.ref q_text, .ref q_now, .ref q_trial, .ref q_choosing, .ref q_acts, .int v_nextAct, .int v_actCount, .ref q_slots, .ref q_isKept, .ref q_heardPerson, .ref q_heardIs, .int v_heardCount, .long v_seed]), (q_text, cO 2 [.ref q_text_bytes, .int v_text_length]), (q_now, cO 1 [.int v_now_people, .ref q_now_weights, .ref q_now_marks, .ref q_now_ageing, .int v_now_alive, .int v_now_reported, .int v_now_mornings, .int v_now_years]), (q_now_weights, cA E 3 v_now_weights), (q_now_marks, cA E 18 v_now_marks)] ∧ post r ) := by
  refine ConI.of (by decide +kernel) (Nat.le_of_ble_eq_true rfl) (fun Z hZ hI hRet => ?_)
  replace hZ : XOK E Z RX3 cX3_about 2 { frames := 2, cells := 0, slots := 0, locals := 47 } := hZ
  clear hI
  show XW E Z 0 0 [(q_this, cO 3 [.ref q_text, .ref q_now, .ref q_trial, .ref q_choosing, .ref q_acts, .int v_nextAct, .int v_actCount, .ref q_slots, .ref q_isKept, .ref q_heardPerson, .ref q_heardIs, .int v_heardCount, .long v_seed]), (q_text, cO 2 [.ref q_text_bytes, .int v_text_length]), (q_now, cO 1 [.int v_now_people, .ref q_now_weights, .ref q_now_marks, .ref q_now_ageing, .int v_now_alive, .int v_now_reported, .int v_now_mornings, .int v_now_years]), (q_now_weights, cA E 3 v_now_weights), (q_now_marks, cA E 18 v_now_marks)] [(0, .ref q_this), (1, .int l1)] [] 0
  unfold p_X3_about at h
  refine x_iload_n (pc' := 1) hZ dX3_about_0 rfl 1 rfl ?_
  by_cases c1_0 : l1 = 0
  · refine x_tabIn (k := 0) (off := 55) (tgt := 56) hZ dX3_about_1 c1_0 (by decide) (by decide) (by decide +kernel) (by decide) ?_
    replace h := h.1 c1_0
    refine x_aload_n (pc' := 57) hZ dX3_about_56 rfl 0 rfl ?_
    refine g_RX3_19 (pc' := 60) hZ dX3_about_57 rfl 0 rfl rfl ?_
    refine g_RX3_82 (pc' := 63) hZ dX3_about_60 rfl 2 rfl rfl ?_
    exact hRet _ _ _ _ dX3_about_63 ⟨rfl, h⟩
  by_cases c1_1 : l1 = 1
  · refine x_tabIn (k := 1) (off := 63) (tgt := 64) hZ dX3_about_1 c1_1 (by decide) (by decide) (by decide +kernel) (by decide) ?_
    replace h := h.2.1 c1_1
    refine x_aload_n (pc' := 65) hZ dX3_about_64 rfl 0 rfl ?_
    refine g_RX3_19 (pc' := 68) hZ dX3_about_65 rfl 0 rfl rfl ?_
    refine g_RX3_85 (pc' := 71) hZ dX3_about_68 rfl 2 rfl rfl ?_
    exact hRet _ _ _ _ dX3_about_71 ⟨rfl, h⟩
  by_cases c1_2 : l1 = 2
  · refine x_tabIn (k := 2) (off := 71) (tgt := 72) hZ dX3_about_1 c1_2 (by decide) (by decide) (by decide +kernel) (by decide) ?_
    replace h := h.2.2.1 c1_2
    refine x_aload_n (pc' := 73) hZ dX3_about_72 rfl 0 rfl ?_
    refine g_RX3_19 (pc' := 76) hZ dX3_about_73 rfl 0 rfl rfl ?_
    refine g_RX3_88 (pc' := 79) hZ dX3_about_76 rfl 2 rfl rfl ?_
    exact hRet _ _ _ _ dX3_about_79 ⟨rfl, h⟩
  by_cases c1_3 : l1 = 3
  · refine x_tabIn (k := 3) (off := 79) (tgt := 80) hZ dX3_about_1 c1_3 (by decide) (by decide) (by decide +kernel) (by decide) ?_
    replace h := h.2.2.2.1 c1_3
    refine x_aload_n (pc' := 81) hZ dX3_about_80 rfl 0 rfl ?_
    refine g_RX3_19 (pc' := 84) hZ dX3_about_81 rfl 0 rfl rfl ?_
    refine x_aload_n (pc' := 85) hZ dX3_about_84 rfl 0 rfl ?_
    refine g_RX3_19 (pc' := 88) hZ dX3_about_85 rfl 0 rfl rfl ?_
    refine g_RX3_85 (pc' := 91) hZ dX3_about_88 rfl 2 rfl rfl ?_
    refine k_RX3_91 (pc' := 94) (q0 := 2) (as := [.int v_now_alive]) (rest := []) (c' := 0) (n' := 0) (wr := [(q_this, cO 3 [.ref q_text, .ref q_now, .ref q_trial, .ref q_choosing, .ref q_acts, .int v_nextAct, .int v_actCount, .ref q_slots, .ref q_isKept, .ref q_heardPerson, .ref q_heardIs, .int v_heardCount, .long v_seed]), (q_text, cO 2 [.ref q_text_bytes, .int v_text_length])]) hZ (c_X1_fairestOf E q_now q_now_weights q_now_marks q_now_ageing v_now_people v_now_alive v_now_reported v_now_mornings v_now_years v_now_weights v_now_marks v_now_alive _ h) rfl dX3_about_91 rfl rfl rfl rfl rfl (Nat.le_of_ble_eq_true rfl) (Nat.le_of_ble_eq_true rfl) (Nat.le_of_ble_eq_true rfl) rfl rfl (Nat.le_of_ble_eq_true rfl) (Nat.le_of_ble_eq_true rfl) [2, 3, 4] [0, 1] rfl rfl (by decide) (by decide) (by decide) (fun r91 w91 hw => ?_)
    obtain ⟨rfl, h⟩ := hw
    refine x_ws (ws' := [(q_this, cO 3 [.ref q_text, .ref q_now, .ref q_trial, .ref q_choosing, .ref q_acts, .int v_nextAct, .int v_actCount, .ref q_slots, .ref q_isKept, .ref q_heardPerson, .ref q_heardIs, .int v_heardCount, .long v_seed]), (q_text, cO 2 [.ref q_text_bytes, .int v_text_length]), (q_now, cO 1 [.int v_now_people, .ref q_now_weights, .ref q_now_marks, .ref q_now_ageing, .int v_now_alive, .int v_now_reported, .int v_now_mornings, .int v_now_years]), (q_now_weights, cA E 3 v_now_weights), (q_now_marks, cA E 18 v_now_marks)]) [0, 1, 2, 3, 4] rfl (by decide) ?_
    exact hRet _ _ _ _ dX3_about_94 ⟨rfl, h⟩
  by_cases c1_4 : l1 = 4
  · refine x_tabIn (k := 4) (off := 94) (tgt := 95) hZ dX3_about_1 c1_4 (by decide) (by decide) (by decide +kernel) (by decide) ?_
    replace h := h.2.2.2.2.1 c1_4
    refine x_aload_n (pc' := 96) hZ dX3_about_95 rfl 0 rfl ?_
    refine g_RX3_19 (pc' := 99) hZ dX3_about_96 rfl 0 rfl rfl ?_
    refine g_RX3_95 (pc' := 102) hZ dX3_about_99 rfl 2 rfl rfl ?_
    exact hRet _ _ _ _ dX3_about_102 ⟨rfl, h⟩
  by_cases c1_5 : l1 = 5
  · refine x_tabIn (k := 5) (off := 102) (tgt := 103) hZ dX3_about_1 c1_5 (by decide) (by decide) (by decide +kernel) (by decide) ?_
    replace h := h.2.2.2.2.2.1 c1_5
    refine x_aload_n (pc' := 104) hZ dX3_about_103 rfl 0 rfl ?_
    refine g_RX3_19 (pc' := 107) hZ dX3_about_104 rfl 0 rfl rfl ?_
    refine g_RX3_98 (pc' := 110) hZ dX3_about_107 rfl 2 rfl rfl ?_
    exact hRet _ _ _ _ dX3_about_110 ⟨rfl, h⟩
  by_cases c1_6 : l1 = 6
  · refine x_tabIn (k := 6) (off := 110) (tgt := 111) hZ dX3_about_1 c1_6 (by decide) (by decide) (by decide +kernel) (by decide) ?_
    replace h := h.2.2.2.2.2.2.1 c1_6
    refine x_aload_n (pc' := 112) hZ dX3_about_111 rfl 0 rfl ?_
    refine g_RX3_19 (pc' := 115) hZ dX3_about_112 rfl 0 rfl rfl ?_
    refine k_RX3_101 (pc' := 118) (q0 := 2) (as := []) (rest := []) (c' := 0) (n' := 0) (wr := [(q_this, cO 3 [.ref q_text, .ref q_now, .ref q_trial, .ref q_choosing, .ref q_acts, .int v_nextAct, .int v_actCount, .ref q_slots, .ref q_isKept, .ref q_heardPerson, .ref q_heardIs, .int v_heardCount, .long v_seed]), (q_text, cO 2 [.ref q_text_bytes, .int v_text_length]), (q_now_marks, cA E 18 v_now_marks)]) hZ (c_X1_weightsAsFigures E q_now q_now_weights q_now_marks q_now_ageing v_now_people v_now_alive v_now_reported v_now_mornings v_now_years v_now_weights _ h) rfl dX3_about_115 rfl rfl rfl rfl rfl (Nat.le_of_ble_eq_true rfl) (Nat.le_of_ble_eq_true rfl) (Nat.le_of_ble_eq_true rfl) rfl rfl (Nat.le_of_ble_eq_true rfl) (Nat.le_of_ble_eq_true rfl) [2, 3] [0, 1, 4] rfl rfl (by decide) (by decide) (by decide) (fun r115 w115 hw => ?_)
    obtain ⟨rfl, h⟩ := hw
    refine x_ws (ws' := [(q_this, cO 3 [.ref q_text, .ref q_now, .ref q_trial, .ref q_choosing, .ref q_acts, .int v_nextAct, .int v_actCount, .ref q_slots, .ref q_isKept, .ref q_heardPerson, .ref q_heardIs, .int v_heardCount, .long v_seed]), (q_text, cO 2 [.ref q_text_bytes, .int v_text_length]), (q_now, cO 1 [.int v_now_people, .ref q_now_weights, .ref q_now_marks, .ref q_now_ageing, .int v_now_alive, .int v_now_reported, .int v_now_mornings, .int v_now_years]), (q_now_weights, cA E 3 v_now_weights), (q_now_marks, cA E 18 v_now_marks)]) [0, 1, 3, 4, 2] rfl (by decide) ?_
    exact hRet _ _ _ _ dX3_about_118 ⟨rfl, h⟩
  by_cases c1_7 : l1 = 7
  · refine x_tabIn (k := 7) (off := 118) (tgt := 119) hZ dX3_about_1 c1_7 (by decide) (by decide) (by decide +kernel) (by decide) ?_
    replace h := h.2.2.2.2.2.2.2.1 c1_7
    refine x_aload_n (pc' := 120) hZ dX3_about_119 rfl 0 rfl ?_
    refine g_RX3_41 (pc' := 123) hZ dX3_about_120 rfl 0 rfl rfl ?_
    exact hRet _ _ _ _ dX3_about_123 ⟨rfl, h⟩
  by_cases c1_8 : l1 = 8
  · refine x_tabIn (k := 8) (off := 123) (tgt := 124) hZ dX3_about_1 c1_8 (by decide) (by decide) (by decide +kernel) (by decide) ?_
    replace h := h.2.2.2.2.2.2.2.2.1 c1_8
    refine x_aload_n (pc' := 125) hZ dX3_about_124 rfl 0 rfl ?_
    refine g_RX3_57 (pc' := 128) hZ dX3_about_125 rfl 0 rfl rfl ?_
    exact hRet _ _ _ _ dX3_about_128 ⟨rfl, h⟩
  by_cases c1_9 : l1 = 9
  · refine x_tabIn (k := 9) (off := 128) (tgt := 129) hZ dX3_about_1 c1_9 (by decide) (by decide) (by decide +kernel) (by decide) ?_
    replace h := h.2.2.2.2.2.2.2.2.2.1 c1_9
    refine x_aload_n (pc' := 130) hZ dX3_about_129 rfl 0 rfl ?_
    refine g_RX3_10 (pc' := 133) hZ dX3_about_130 rfl 0 rfl rfl ?_
    refine g_RX3_64 (pc' := 136) hZ dX3_about_133 rfl 1 rfl rfl ?_
    exact hRet _ _ _ _ dX3_about_136 ⟨rfl, h⟩
  have t1_0 := lv_neT (a := 0) c1_0 (by decide)
  have t1_1 := lv_neT (a := 1) c1_1 (by decide)
  have t1_2 := lv_neT (a := 2) c1_2 (by decide)
  have t1_3 := lv_neT (a := 3) c1_3 (by decide)
  have t1_4 := lv_neT (a := 4) c1_4 (by decide)
  have t1_5 := lv_neT (a := 5) c1_5 (by decide)
  have t1_6 := lv_neT (a := 6) c1_6 (by decide)
  have t1_7 := lv_neT (a := 7) c1_7 (by decide)
  have t1_8 := lv_neT (a := 8) c1_8 (by decide)
  have t1_9 := lv_neT (a := 9) c1_9 (by decide)
  refine x_tabOut (tgt := 137) hZ dX3_about_1 (by omega) (by decide) ?_
  replace h := h.2.2.2.2.2.2.2.2.2.2 ⟨c1_0, c1_1, c1_2, c1_3, c1_4, c1_5, c1_6, c1_7, c1_8, c1_9⟩
  refine x_bipush (v := (-2)) (pc' := 139) hZ (by decide) dX3_about_137 rfl ?_
  exact hRet _ _ _ _ dX3_about_139 ⟨rfl, h⟩
set_option maxHeartbeats 4000000 in
set_option maxRecDepth 100000 in
theorem c_X3_person (E : XE) (q_this : Nat) (q_text : Nat) (q_now : Nat) (q_trial : Nat) (q_choosing : Nat) (q_acts : Nat) (q_slots : Nat) (q_isKept : Nat) (q_heardPerson : Nat) (q_heardIs : Nat) (q_now_weights : Nat) (q_now_marks : Nat) (q_now_ageing : Nat) (v_nextAct : Int32) (v_actCount : Int32) (v_heardCount : Int32) (v_seed : Int64) (v_now_people : Int32) (v_now_alive : Int32) (v_now_reported : Int32) (v_now_mornings : Int32) (v_now_years : Int32) (v_now_weights : Nat → Int32) (v_now_marks : Nat → Int32) (v_now_ageing : Nat → Int32) (l1 : Int32) (l2 : Int32) (post : Int32 → Prop) (h : p_X3_person v_now_people v_now_alive v_now_reported v_now_weights v_now_marks v_now_ageing l1 l2 post) : ConI E yX3_person cX3_person 3 .int { frames := 1, cells := 0, slots := 0, locals := 22 } 0 0 [.ref q_this, .int l1, .int l2] [(q_this, cO 3 [.ref q_text, .ref q_now, .ref q_trial, .ref q_choosing, .ref q_acts, .int v_nextAct, .int v_actCount, .ref q_slots, .ref q_isKept, .ref q_heardPerson, .ref q_heardIs, .int v_heardCount, .long v_seed]), (q_now, cO 1 [.int v_now_people, .ref q_now_weights, .ref q_now_marks, .ref q_now_ageing, .int v_now_alive, .int v_now_reported, .int v_now_mornings, .int v_now_years]), (q_now_weights, cA E 3 v_now_weights), (q_now_marks, cA E 18 v_now_marks), (q_now_ageing, cA E 6 v_now_ageing)] (fun r w => w = [(q_this, cO 3 [.ref q_text, .ref q_now, .ref q_trial, .ref q_choosing, .ref q_acts, .int v_nextAct, .int v_actCount, .ref q_slots, .ref q_isKept, .ref q_heardPerson, .ref q_heardIs, .int v_heardCount, .long v_seed]), (q_now, cO 1 [.int v_now_people, .ref q_now_weights, .ref q_now_marks, .ref q_now_ageing, .int v_now_alive, .int v_now_reported, .int v_now_mornings, .int v_now_years]), (q_now_weights, cA E 3 v_now_weights), (q_now_marks, cA E 18 v_now_marks), (q_now_ageing, cA E 6 v_now_ageing)] ∧ post r ) := by
  refine ConI.of (by decide +kernel) (Nat.le_of_ble_eq_true rfl) (fun Z hZ hI hRet => ?_)
  replace hZ : XOK E Z RX3 cX3_person 3 { frames := 1, cells := 0, slots := 0, locals := 22 } := hZ
  clear hI
  show XW E Z 0 0 [(q_this, cO 3 [.ref q_text, .ref q_now, .ref q_trial, .ref q_choosing, .ref q_acts, .int v_nextAct, .int v_actCount, .ref q_slots, .ref q_isKept, .ref q_heardPerson, .ref q_heardIs, .int v_heardCount, .long v_seed]), (q_now, cO 1 [.int v_now_people, .ref q_now_weights, .ref q_now_marks, .ref q_now_ageing, .int v_now_alive, .int v_now_reported, .int v_now_mornings, .int v_now_years]), (q_now_weights, cA E 3 v_now_weights), (q_now_marks, cA E 18 v_now_marks), (q_now_ageing, cA E 6 v_now_ageing)] [(0, .ref q_this), (1, .int l1), (2, .int l2)] [] 0
  unfold p_X3_person at h
  refine x_aload_n (pc' := 1) hZ dX3_person_0 rfl 0 rfl ?_
  refine g_RX3_19 (pc' := 4) hZ dX3_person_1 rfl 0 rfl rfl ?_
  refine x_iload_n (pc' := 5) hZ dX3_person_4 rfl 1 rfl ?_
  refine k_RX3_104 (pc' := 8) (q0 := 1) (as := [.int l1]) (rest := []) (c' := 0) (n' := 0) (wr := [(q_this, cO 3 [.ref q_text, .ref q_now, .ref q_trial, .ref q_choosing, .ref q_acts, .int v_nextAct, .int v_actCount, .ref q_slots, .ref q_isKept, .ref q_heardPerson, .ref q_heardIs, .int v_heardCount, .long v_seed]), (q_now_weights, cA E 3 v_now_weights), (q_now_marks, cA E 18 v_now_marks), (q_now_ageing, cA E 6 v_now_ageing)]) hZ (c_X1_has E q_now q_now_weights q_now_marks q_now_ageing v_now_people v_now_alive v_now_reported v_now_mornings v_now_years l1 _ h) rfl dX3_person_5 rfl rfl rfl rfl rfl (Nat.le_of_ble_eq_true rfl) (Nat.le_of_ble_eq_true rfl) (Nat.le_of_ble_eq_true rfl) rfl rfl (Nat.le_of_ble_eq_true rfl) (Nat.le_of_ble_eq_true rfl) [1] [0, 2, 3, 4] rfl rfl (by decide) (by decide) (by decide) (fun r5 w5 hw => ?_)
  obtain ⟨rfl, h⟩ := hw
  refine x_ws (ws' := [(q_this, cO 3 [.ref q_text, .ref q_now, .ref q_trial, .ref q_choosing, .ref q_acts, .int v_nextAct, .int v_actCount, .ref q_slots, .ref q_isKept, .ref q_heardPerson, .ref q_heardIs, .int v_heardCount, .long v_seed]), (q_now, cO 1 [.int v_now_people, .ref q_now_weights, .ref q_now_marks, .ref q_now_ageing, .int v_now_alive, .int v_now_reported, .int v_now_mornings, .int v_now_years]), (q_now_weights, cA E 3 v_now_weights), (q_now_marks, cA E 18 v_now_marks), (q_now_ageing, cA E 6 v_now_ageing)]) [0, 4, 1, 2, 3] rfl (by decide) ?_
  refine x_if_ne (tgt := 13) (pc' := 11) hZ dX3_person_8 (by decide) rfl (fun c8 => ?_) (fun c8 => ?_)
  · replace h := h.1 c8
    refine x_iload_n (pc' := 14) hZ dX3_person_13 rfl 2 rfl ?_
    by_cases c14_0 : l2 = 0
    · refine x_tabIn (k := 0) (off := 42) (tgt := 56) hZ dX3_person_14 c14_0 (by decide) (by decide) (by decide +kernel) (by decide) ?_
      replace h := h.1 c14_0
      refine x_aload_n (pc' := 57) hZ dX3_person_56 rfl 0 rfl ?_
      refine g_RX3_19 (pc' := 60) hZ dX3_person_57 rfl 0 rfl rfl ?_
      refine g_RX3_108 (pc' := 63) hZ dX3_person_60 rfl 1 rfl rfl ?_
      refine x_iload_n (pc' := 64) hZ dX3_person_63 rfl 1 rfl ?_
      refine x_iconst (v := 3) (pc' := 65) hZ (by decide) dX3_person_64 rfl ?_
      refine x_imul (pc' := 66) hZ dX3_person_65 rfl ?_
      refine x_iload_n (pc' := 67) hZ dX3_person_66 rfl 2 rfl ?_
      refine x_iadd (pc' := 68) hZ dX3_person_67 rfl ?_
      obtain ⟨h68, h⟩ := h
      refine x_iald (pc' := 69) hZ h68 dX3_person_68 rfl 3 rfl ?_
      exact hRet _ _ _ _ dX3_person_69 ⟨rfl, h⟩
    by_cases c14_1 : l2 = 1
    · refine x_tabIn (k := 1) (off := 42) (tgt := 56) hZ dX3_person_14 c14_1 (by decide) (by decide) (by decide +kernel) (by decide) ?_
      replace h := h.2.1 c14_1
      refine x_aload_n (pc' := 57) hZ dX3_person_56 rfl 0 rfl ?_
      refine g_RX3_19 (pc' := 60) hZ dX3_person_57 rfl 0 rfl rfl ?_
      refine g_RX3_108 (pc' := 63) hZ dX3_person_60 rfl 1 rfl rfl ?_
      refine x_iload_n (pc' := 64) hZ dX3_person_63 rfl 1 rfl ?_
      refine x_iconst (v := 3) (pc' := 65) hZ (by decide) dX3_person_64 rfl ?_
      refine x_imul (pc' := 66) hZ dX3_person_65 rfl ?_
      refine x_iload_n (pc' := 67) hZ dX3_person_66 rfl 2 rfl ?_
      refine x_iadd (pc' := 68) hZ dX3_person_67 rfl ?_
      obtain ⟨h68, h⟩ := h
      refine x_iald (pc' := 69) hZ h68 dX3_person_68 rfl 3 rfl ?_
      exact hRet _ _ _ _ dX3_person_69 ⟨rfl, h⟩
    by_cases c14_2 : l2 = 2
    · refine x_tabIn (k := 2) (off := 42) (tgt := 56) hZ dX3_person_14 c14_2 (by decide) (by decide) (by decide +kernel) (by decide) ?_
      replace h := h.2.2.1 c14_2
      refine x_aload_n (pc' := 57) hZ dX3_person_56 rfl 0 rfl ?_
      refine g_RX3_19 (pc' := 60) hZ dX3_person_57 rfl 0 rfl rfl ?_
      refine g_RX3_108 (pc' := 63) hZ dX3_person_60 rfl 1 rfl rfl ?_
      refine x_iload_n (pc' := 64) hZ dX3_person_63 rfl 1 rfl ?_
      refine x_iconst (v := 3) (pc' := 65) hZ (by decide) dX3_person_64 rfl ?_
      refine x_imul (pc' := 66) hZ dX3_person_65 rfl ?_
      refine x_iload_n (pc' := 67) hZ dX3_person_66 rfl 2 rfl ?_
      refine x_iadd (pc' := 68) hZ dX3_person_67 rfl ?_
      obtain ⟨h68, h⟩ := h
      refine x_iald (pc' := 69) hZ h68 dX3_person_68 rfl 3 rfl ?_
      exact hRet _ _ _ _ dX3_person_69 ⟨rfl, h⟩
    by_cases c14_3 : l2 = 3
    · refine x_tabIn (k := 3) (off := 56) (tgt := 70) hZ dX3_person_14 c14_3 (by decide) (by decide) (by decide +kernel) (by decide) ?_
      replace h := h.2.2.2.1 c14_3
      refine x_aload_n (pc' := 71) hZ dX3_person_70 rfl 0 rfl ?_
      refine g_RX3_19 (pc' := 74) hZ dX3_person_71 rfl 0 rfl rfl ?_
      refine g_RX3_111 (pc' := 77) hZ dX3_person_74 rfl 1 rfl rfl ?_
      refine x_iload_n (pc' := 78) hZ dX3_person_77 rfl 1 rfl ?_
      obtain ⟨h78, h⟩ := h
      refine x_iald (pc' := 79) hZ h78 dX3_person_78 rfl 4 rfl ?_
      exact hRet _ _ _ _ dX3_person_79 ⟨rfl, h⟩
    by_cases c14_4 : l2 = 4
    · refine x_tabIn (k := 4) (off := 66) (tgt := 80) hZ dX3_person_14 c14_4 (by decide) (by decide) (by decide +kernel) (by decide) ?_
      replace h := h.2.2.2.2.1 c14_4
      refine x_aload_n (pc' := 81) hZ dX3_person_80 rfl 0 rfl ?_
      refine g_RX3_19 (pc' := 84) hZ dX3_person_81 rfl 0 rfl rfl ?_
      refine x_iload_n (pc' := 85) hZ dX3_person_84 rfl 1 rfl ?_
      refine k_RX3_114 (pc' := 88) (q0 := 1) (as := [.int l1]) (rest := []) (c' := 0) (n' := 0) (wr := [(q_this, cO 3 [.ref q_text, .ref q_now, .ref q_trial, .ref q_choosing, .ref q_acts, .int v_nextAct, .int v_actCount, .ref q_slots, .ref q_isKept, .ref q_heardPerson, .ref q_heardIs, .int v_heardCount, .long v_seed]), (q_now_weights, cA E 3 v_now_weights), (q_now_marks, cA E 18 v_now_marks), (q_now_ageing, cA E 6 v_now_ageing)]) hZ (c_X1_isAlive E q_now q_now_weights q_now_marks q_now_ageing v_now_people v_now_alive v_now_reported v_now_mornings v_now_years l1 _ h) rfl dX3_person_85 rfl rfl rfl rfl rfl (Nat.le_of_ble_eq_true rfl) (Nat.le_of_ble_eq_true rfl) (Nat.le_of_ble_eq_true rfl) rfl rfl (Nat.le_of_ble_eq_true rfl) (Nat.le_of_ble_eq_true rfl) [1] [0, 2, 3, 4] rfl rfl (by decide) (by decide) (by decide) (fun r85 w85 hw => ?_)
      obtain ⟨rfl, h⟩ := hw
      refine x_ws (ws' := [(q_this, cO 3 [.ref q_text, .ref q_now, .ref q_trial, .ref q_choosing, .ref q_acts, .int v_nextAct, .int v_actCount, .ref q_slots, .ref q_isKept, .ref q_heardPerson, .ref q_heardIs, .int v_heardCount, .long v_seed]), (q_now, cO 1 [.int v_now_people, .ref q_now_weights, .ref q_now_marks, .ref q_now_ageing, .int v_now_alive, .int v_now_reported, .int v_now_mornings, .int v_now_years]), (q_now_weights, cA E 3 v_now_weights), (q_now_marks, cA E 18 v_now_marks), (q_now_ageing, cA E 6 v_now_ageing)]) [0, 4, 1, 2, 3] rfl (by decide) ?_
      refine x_if_eq (tgt := 95) (pc' := 91) hZ dX3_person_88 (by decide) rfl (fun c88 => ?_) (fun c88 => ?_)
      · replace h := h.1 c88
        refine x_iconst (v := 0) (pc' := 96) hZ (by decide) dX3_person_95 rfl ?_
        exact hRet _ _ _ _ dX3_person_96 ⟨rfl, h⟩
      · replace h := h.2 c88
        refine x_iconst (v := 1) (pc' := 92) hZ (by decide) dX3_person_91 rfl ?_
        refine x_goto (pc' := 96) hZ dX3_person_92 (by decide) ?_
        exact hRet _ _ _ _ dX3_person_96 ⟨rfl, h⟩
    by_cases c14_5 : l2 = 5
    · refine x_tabIn (k := 5) (off := 83) (tgt := 97) hZ dX3_person_14 c14_5 (by decide) (by decide) (by decide +kernel) (by decide) ?_
      replace h := h.2.2.2.2.2.1 c14_5
      refine x_aload_n (pc' := 98) hZ dX3_person_97 rfl 0 rfl ?_
      refine g_RX3_19 (pc' := 101) hZ dX3_person_98 rfl 0 rfl rfl ?_
      refine x_iload_n (pc' := 102) hZ dX3_person_101 rfl 1 rfl ?_
      refine k_RX3_117 (pc' := 105) (q0 := 1) (as := [.int l1]) (rest := []) (c' := 0) (n' := 0) (wr := [(q_this, cO 3 [.ref q_text, .ref q_now, .ref q_trial, .ref q_choosing, .ref q_acts, .int v_nextAct, .int v_actCount, .ref q_slots, .ref q_isKept, .ref q_heardPerson, .ref q_heardIs, .int v_heardCount, .long v_seed]), (q_now_weights, cA E 3 v_now_weights), (q_now_marks, cA E 18 v_now_marks), (q_now_ageing, cA E 6 v_now_ageing)]) hZ (c_X1_isReported E q_now q_now_weights q_now_marks q_now_ageing v_now_people v_now_alive v_now_reported v_now_mornings v_now_years l1 _ h) rfl dX3_person_102 rfl rfl rfl rfl rfl (Nat.le_of_ble_eq_true rfl) (Nat.le_of_ble_eq_true rfl) (Nat.le_of_ble_eq_true rfl) rfl rfl (Nat.le_of_ble_eq_true rfl) (Nat.le_of_ble_eq_true rfl) [1] [0, 2, 3, 4] rfl rfl (by decide) (by decide) (by decide) (fun r102 w102 hw => ?_)
      obtain ⟨rfl, h⟩ := hw
      refine x_ws (ws' := [(q_this, cO 3 [.ref q_text, .ref q_now, .ref q_trial, .ref q_choosing, .ref q_acts, .int v_nextAct, .int v_actCount, .ref q_slots, .ref q_isKept, .ref q_heardPerson, .ref q_heardIs, .int v_heardCount, .long v_seed]), (q_now, cO 1 [.int v_now_people, .ref q_now_weights, .ref q_now_marks, .ref q_now_ageing, .int v_now_alive, .int v_now_reported, .int v_now_mornings, .int v_now_years]), (q_now_weights, cA E 3 v_now_weights), (q_now_marks, cA E 18 v_now_marks), (q_now_ageing, cA E 6 v_now_ageing)]) [0, 4, 1, 2, 3] rfl (by decide) ?_
      refine x_if_eq (tgt := 112) (pc' := 108) hZ dX3_person_105 (by decide) rfl (fun c105 => ?_) (fun c105 => ?_)
      · replace h := h.1 c105
        refine x_iconst (v := 0) (pc' := 113) hZ (by decide) dX3_person_112 rfl ?_
        exact hRet _ _ _ _ dX3_person_113 ⟨rfl, h⟩
      · replace h := h.2 c105
        refine x_iconst (v := 1) (pc' := 109) hZ (by decide) dX3_person_108 rfl ?_
        refine x_goto (pc' := 113) hZ dX3_person_109 (by decide) ?_
        exact hRet _ _ _ _ dX3_person_113 ⟨rfl, h⟩
    by_cases c14_6 : l2 = 6
    · refine x_tabIn (k := 6) (off := 100) (tgt := 114) hZ dX3_person_14 c14_6 (by decide) (by decide) (by decide +kernel) (by decide) ?_
      replace h := h.2.2.2.2.2.2.1 c14_6
      refine x_aload_n (pc' := 115) hZ dX3_person_114 rfl 0 rfl ?_
      refine g_RX3_19 (pc' := 118) hZ dX3_person_115 rfl 0 rfl rfl ?_
      refine x_iload_n (pc' := 119) hZ dX3_person_118 rfl 1 rfl ?_
      refine k_RX3_120 (pc' := 122) (q0 := 1) (as := [.int l1]) (rest := []) (c' := 0) (n' := 0) (wr := [(q_this, cO 3 [.ref q_text, .ref q_now, .ref q_trial, .ref q_choosing, .ref q_acts, .int v_nextAct, .int v_actCount, .ref q_slots, .ref q_isKept, .ref q_heardPerson, .ref q_heardIs, .int v_heardCount, .long v_seed]), (q_now_ageing, cA E 6 v_now_ageing)]) hZ (c_X1_valueOf E q_now q_now_weights q_now_marks q_now_ageing v_now_people v_now_alive v_now_reported v_now_mornings v_now_years v_now_weights v_now_marks l1 _ h) rfl dX3_person_119 rfl rfl rfl rfl rfl (Nat.le_of_ble_eq_true rfl) (Nat.le_of_ble_eq_true rfl) (Nat.le_of_ble_eq_true rfl) rfl rfl (Nat.le_of_ble_eq_true rfl) (Nat.le_of_ble_eq_true rfl) [1, 2, 3] [0, 4] rfl rfl (by decide) (by decide) (by decide) (fun r119 w119 hw => ?_)
      obtain ⟨rfl, h⟩ := hw
      refine x_ws (ws' := [(q_this, cO 3 [.ref q_text, .ref q_now, .ref q_trial, .ref q_choosing, .ref q_acts, .int v_nextAct, .int v_actCount, .ref q_slots, .ref q_isKept, .ref q_heardPerson, .ref q_heardIs, .int v_heardCount, .long v_seed]), (q_now, cO 1 [.int v_now_people, .ref q_now_weights, .ref q_now_marks, .ref q_now_ageing, .int v_now_alive, .int v_now_reported, .int v_now_mornings, .int v_now_years]), (q_now_weights, cA E 3 v_now_weights), (q_now_marks, cA E 18 v_now_marks), (q_now_ageing, cA E 6 v_now_ageing)]) [0, 2, 3, 4, 1] rfl (by decide) ?_
      exact hRet _ _ _ _ dX3_person_122 ⟨rfl, h⟩
    have t14_0 := lv_neT (a := 0) c14_0 (by decide)
    have t14_1 := lv_neT (a := 1) c14_1 (by decide)
    have t14_2 := lv_neT (a := 2) c14_2 (by decide)
    have t14_3 := lv_neT (a := 3) c14_3 (by decide)
    have t14_4 := lv_neT (a := 4) c14_4 (by decide)
    have t14_5 := lv_neT (a := 5) c14_5 (by decide)
    have t14_6 := lv_neT (a := 6) c14_6 (by decide)
    refine x_tabOut (tgt := 123) hZ dX3_person_14 (by omega) (by decide) ?_
    replace h := h.2.2.2.2.2.2.2 ⟨c14_0, c14_1, c14_2, c14_3, c14_4, c14_5, c14_6⟩
    refine x_bipush (v := (-2)) (pc' := 125) hZ (by decide) dX3_person_123 rfl ?_
    exact hRet _ _ _ _ dX3_person_125 ⟨rfl, h⟩
  · replace h := h.2 c8
    refine x_iconst (v := (-1)) (pc' := 12) hZ (by decide) dX3_person_11 rfl ?_
    exact hRet _ _ _ _ dX3_person_12 ⟨rfl, h⟩
set_option maxHeartbeats 4000000 in
set_option maxRecDepth 100000 in
theorem c_X3_rememberAct (E : XE) (q_this : Nat) (q_text : Nat) (q_now : Nat) (q_trial : Nat) (q_choosing : Nat) (q_acts : Nat) (q_slots : Nat) (q_isKept : Nat) (q_heardPerson : Nat) (q_heardIs : Nat) (q_now_weights : Nat) (q_now_marks : Nat) (q_now_ageing : Nat) (v_nextAct : Int32) (v_actCount : Int32) (v_heardCount : Int32) (v_seed : Int64) (v_now_people : Int32) (v_now_alive : Int32) (v_now_reported : Int32) (v_now_mornings : Int32) (v_now_years : Int32) (v_now_weights : Nat → Int32) (v_now_marks : Nat → Int32) (v_acts : Nat → Int32) (post : Int32 → Int32 → (Nat → Int32) → Prop) (h : p_X3_rememberAct v_nextAct v_actCount v_now_alive v_now_reported v_now_mornings v_now_years v_now_weights v_now_marks v_acts post) : ConV E yX3_rememberAct cX3_rememberAct 1 { frames := 2, cells := 0, slots := 0, locals := 42 } 0 0 [.ref q_this] [(q_this, cO 3 [.ref q_text, .ref q_now, .ref q_trial, .ref q_choosing, .ref q_acts, .int v_nextAct, .int v_actCount, .ref q_slots, .ref q_isKept, .ref q_heardPerson, .ref q_heardIs, .int v_heardCount, .long v_seed]), (q_now, cO 1 [.int v_now_people, .ref q_now_weights, .ref q_now_marks, .ref q_now_ageing, .int v_now_alive, .int v_now_reported, .int v_now_mornings, .int v_now_years]), (q_now_weights, cA E 3 v_now_weights), (q_now_marks, cA E 18 v_now_marks), (q_acts, cA E 350 v_acts)] (fun w => ∃ (u_nextAct : Int32) (u_actCount : Int32) (u_acts : Nat → Int32), w = [(q_this, cO 3 [.ref q_text, .ref q_now, .ref q_trial, .ref q_choosing, .ref q_acts, .int u_nextAct, .int u_actCount, .ref q_slots, .ref q_isKept, .ref q_heardPerson, .ref q_heardIs, .int v_heardCount, .long v_seed]), (q_now, cO 1 [.int v_now_people, .ref q_now_weights, .ref q_now_marks, .ref q_now_ageing, .int v_now_alive, .int v_now_reported, .int v_now_mornings, .int v_now_years]), (q_now_weights, cA E 3 v_now_weights), (q_now_marks, cA E 18 v_now_marks), (q_acts, cA E 350 u_acts)] ∧ post u_nextAct u_actCount u_acts) := by
  refine ConV.of (by decide +kernel) (Nat.le_of_ble_eq_true rfl) (fun Z hZ hI hRet => ?_)
  replace hZ : XOK E Z RX3 cX3_rememberAct 1 { frames := 2, cells := 0, slots := 0, locals := 42 } := hZ
  clear hI
  show XW E Z 0 0 [(q_this, cO 3 [.ref q_text, .ref q_now, .ref q_trial, .ref q_choosing, .ref q_acts, .int v_nextAct, .int v_actCount, .ref q_slots, .ref q_isKept, .ref q_heardPerson, .ref q_heardIs, .int v_heardCount, .long v_seed]), (q_now, cO 1 [.int v_now_people, .ref q_now_weights, .ref q_now_marks, .ref q_now_ageing, .int v_now_alive, .int v_now_reported, .int v_now_mornings, .int v_now_years]), (q_now_weights, cA E 3 v_now_weights), (q_now_marks, cA E 18 v_now_marks), (q_acts, cA E 350 v_acts)] [(0, .ref q_this)] [] 0
  unfold p_X3_rememberAct at h
  refine x_aload_n (pc' := 1) hZ dX3_rememberAct_0 rfl 0 rfl ?_
  refine g_RX3_19 (pc' := 4) hZ dX3_rememberAct_1 rfl 0 rfl rfl ?_
  refine x_aload_n (pc' := 5) hZ dX3_rememberAct_4 rfl 0 rfl ?_
  refine g_RX3_33 (pc' := 8) hZ dX3_rememberAct_5 rfl 0 rfl rfl ?_
  refine x_aload_n (pc' := 9) hZ dX3_rememberAct_8 rfl 0 rfl ?_
  refine g_RX3_37 (pc' := 12) hZ dX3_rememberAct_9 rfl 0 rfl rfl ?_
  refine k_RX3_217 (pc' := 15) (q0 := 1) (as := [.ref q_acts, .int v_nextAct]) (rest := []) (c' := 0) (n' := 0) (wr := [(q_this, cO 3 [.ref q_text, .ref q_now, .ref q_trial, .ref q_choosing, .ref q_acts, .int v_nextAct, .int v_actCount, .ref q_slots, .ref q_isKept, .ref q_heardPerson, .ref q_heardIs, .int v_heardCount, .long v_seed])]) hZ (c_X1_packInto E q_now q_now_weights q_now_marks q_now_ageing q_acts 350 v_now_people v_now_alive v_now_reported v_now_mornings v_now_years v_now_weights v_now_marks v_acts v_nextAct _ h) rfl dX3_rememberAct_12 rfl rfl rfl rfl rfl (Nat.le_of_ble_eq_true rfl) (Nat.le_of_ble_eq_true rfl) (Nat.le_of_ble_eq_true rfl) rfl rfl (Nat.le_of_ble_eq_true rfl) (Nat.le_of_ble_eq_true rfl) [1, 2, 3, 4] [0] rfl rfl (by decide) (by decide) (by decide) (fun w12 hw => ?_)
  obtain ⟨a12_0, rfl, h⟩ := hw
  refine x_ws (ws' := [(q_this, cO 3 [.ref q_text, .ref q_now, .ref q_trial, .ref q_choosing, .ref q_acts, .int v_nextAct, .int v_actCount, .ref q_slots, .ref q_isKept, .ref q_heardPerson, .ref q_heardIs, .int v_heardCount, .long v_seed]), (q_now, cO 1 [.int v_now_people, .ref q_now_weights, .ref q_now_marks, .ref q_now_ageing, .int v_now_alive, .int v_now_reported, .int v_now_mornings, .int v_now_years]), (q_now_weights, cA E 3 v_now_weights), (q_now_marks, cA E 18 v_now_marks), (q_acts, cA E 350 a12_0)]) [0, 1, 2, 3, 4] rfl (by decide) ?_
  refine x_aload_n (pc' := 16) hZ dX3_rememberAct_15 rfl 0 rfl ?_
  refine x_aload_n (pc' := 17) hZ dX3_rememberAct_16 rfl 0 rfl ?_
  refine g_RX3_37 (pc' := 20) hZ dX3_rememberAct_17 rfl 0 rfl rfl ?_
  refine x_iconst (v := 1) (pc' := 21) hZ (by decide) dX3_rememberAct_20 rfl ?_
  refine x_iadd (pc' := 22) hZ dX3_rememberAct_21 rfl ?_
  refine x_bipush (v := 14) (pc' := 24) hZ (by decide) dX3_rememberAct_22 rfl ?_
  refine x_irem (pc' := 25) hZ (by decide) dX3_rememberAct_24 rfl ?_
  refine x_topi (fun x25 e25 => ?_)
  replace h := h x25 e25
  refine s_RX3_37 (pc' := 28) (ws' := [(q_this, cO 3 [.ref q_text, .ref q_now, .ref q_trial, .ref q_choosing, .ref q_acts, .int x25, .int v_actCount, .ref q_slots, .ref q_isKept, .ref q_heardPerson, .ref q_heardIs, .int v_heardCount, .long v_seed]), (q_now, cO 1 [.int v_now_people, .ref q_now_weights, .ref q_now_marks, .ref q_now_ageing, .int v_now_alive, .int v_now_reported, .int v_now_mornings, .int v_now_years]), (q_now_weights, cA E 3 v_now_weights), (q_now_marks, cA E 18 v_now_marks), (q_acts, cA E 350 a12_0)]) hZ dX3_rememberAct_25 rfl 0 rfl (Nat.le_of_ble_eq_true rfl) rfl ?_
  refine x_aload_n (pc' := 29) hZ dX3_rememberAct_28 rfl 0 rfl ?_
  refine x_aload_n (pc' := 30) hZ dX3_rememberAct_29 rfl 0 rfl ?_
  refine g_RX3_41 (pc' := 33) hZ dX3_rememberAct_30 rfl 0 rfl rfl ?_
  refine x_iconst (v := 1) (pc' := 34) hZ (by decide) dX3_rememberAct_33 rfl ?_
  refine x_iadd (pc' := 35) hZ dX3_rememberAct_34 rfl ?_
  refine x_bipush (v := 14) (pc' := 37) hZ (by decide) dX3_rememberAct_35 rfl ?_
  refine x_mmin (pc' := 40) hZ kl_RX3_161 dX3_rememberAct_37 rfl (Nat.le_of_ble_eq_true rfl) (Nat.le_of_ble_eq_true rfl) (Nat.le_of_ble_eq_true rfl) (Nat.le_of_ble_eq_true rfl) ?_
  refine x_topi (fun x40 e40 => ?_)
  replace h := h x40 e40
  refine s_RX3_41 (pc' := 43) (ws' := [(q_this, cO 3 [.ref q_text, .ref q_now, .ref q_trial, .ref q_choosing, .ref q_acts, .int x25, .int x40, .ref q_slots, .ref q_isKept, .ref q_heardPerson, .ref q_heardIs, .int v_heardCount, .long v_seed]), (q_now, cO 1 [.int v_now_people, .ref q_now_weights, .ref q_now_marks, .ref q_now_ageing, .int v_now_alive, .int v_now_reported, .int v_now_mornings, .int v_now_years]), (q_now_weights, cA E 3 v_now_weights), (q_now_marks, cA E 18 v_now_marks), (q_acts, cA E 350 a12_0)]) hZ dX3_rememberAct_40 rfl 0 rfl (Nat.le_of_ble_eq_true rfl) rfl ?_
  exact hRet _ _ _ dX3_rememberAct_43 ⟨_, _, _, rfl, h⟩
set_option maxHeartbeats 4000000 in
set_option maxRecDepth 100000 in
theorem c_X3_morning (E : XE) (q_this : Nat) (q_text : Nat) (q_now : Nat) (q_trial : Nat) (q_choosing : Nat) (q_acts : Nat) (q_slots : Nat) (q_isKept : Nat) (q_heardPerson : Nat) (q_heardIs : Nat) (q_now_weights : Nat) (q_now_marks : Nat) (q_now_ageing : Nat) (v_nextAct : Int32) (v_actCount : Int32) (v_heardCount : Int32) (v_seed : Int64) (v_now_people : Int32) (v_now_alive : Int32) (v_now_reported : Int32) (v_now_mornings : Int32) (v_now_years : Int32) (v_now_weights : Nat → Int32) (v_now_marks : Nat → Int32) (v_acts : Nat → Int32) (post : Int32 → Int32 → Int32 → Int32 → (Nat → Int32) → (Nat → Int32) → Prop) (h : p_X3_morning v_nextAct v_actCount v_now_people v_now_alive v_now_reported v_now_mornings v_now_years v_now_weights v_now_marks v_acts post) : ConI E yX3_morning cX3_morning 2 .int { frames := 3, cells := 0, slots := 0, locals := 68 } 0 0 [.ref q_this] [(q_this, cO 3 [.ref q_text, .ref q_now, .ref q_trial, .ref q_choosing, .ref q_acts, .int v_nextAct, .int v_actCount, .ref q_slots, .ref q_isKept, .ref q_heardPerson, .ref q_heardIs, .int v_heardCount, .long v_seed]), (q_now, cO 1 [.int v_now_people, .ref q_now_weights, .ref q_now_marks, .ref q_now_ageing, .int v_now_alive, .int v_now_reported, .int v_now_mornings, .int v_now_years]), (q_now_weights, cA E 3 v_now_weights), (q_now_marks, cA E 18 v_now_marks), (q_acts, cA E 350 v_acts)] (fun r w => ∃ (u_nextAct : Int32) (u_actCount : Int32) (u_now_mornings : Int32) (u_now_weights : Nat → Int32) (u_acts : Nat → Int32), w = [(q_this, cO 3 [.ref q_text, .ref q_now, .ref q_trial, .ref q_choosing, .ref q_acts, .int u_nextAct, .int u_actCount, .ref q_slots, .ref q_isKept, .ref q_heardPerson, .ref q_heardIs, .int v_heardCount, .long v_seed]), (q_now, cO 1 [.int v_now_people, .ref q_now_weights, .ref q_now_marks, .ref q_now_ageing, .int v_now_alive, .int v_now_reported, .int u_now_mornings, .int v_now_years]), (q_now_weights, cA E 3 u_now_weights), (q_now_marks, cA E 18 v_now_marks), (q_acts, cA E 350 u_acts)] ∧ post r u_nextAct u_actCount u_now_mornings u_now_weights u_acts) := by
  refine ConI.of (by decide +kernel) (Nat.le_of_ble_eq_true rfl) (fun Z hZ hI hRet => ?_)
  replace hZ : XOK E Z RX3 cX3_morning 2 { frames := 3, cells := 0, slots := 0, locals := 68 } := hZ
  clear hI
  show XW E Z 0 0 [(q_this, cO 3 [.ref q_text, .ref q_now, .ref q_trial, .ref q_choosing, .ref q_acts, .int v_nextAct, .int v_actCount, .ref q_slots, .ref q_isKept, .ref q_heardPerson, .ref q_heardIs, .int v_heardCount, .long v_seed]), (q_now, cO 1 [.int v_now_people, .ref q_now_weights, .ref q_now_marks, .ref q_now_ageing, .int v_now_alive, .int v_now_reported, .int v_now_mornings, .int v_now_years]), (q_now_weights, cA E 3 v_now_weights), (q_now_marks, cA E 18 v_now_marks), (q_acts, cA E 350 v_acts)] [(0, .ref q_this)] [] 0
  unfold p_X3_morning at h
  refine x_aload_n (pc' := 1) hZ dX3_morning_0 rfl 0 rfl ?_
  refine g_RX3_19 (pc' := 4) hZ dX3_morning_1 rfl 0 rfl rfl ?_
  refine g_RX3_82 (pc' := 7) hZ dX3_morning_4 rfl 1 rfl rfl ?_
  refine x_if_ne (tgt := 13) (pc' := 10) hZ dX3_morning_7 (by decide) rfl (fun c7 => ?_) (fun c7 => ?_)
  · replace h := h.1 c7
    refine x_aload_n (pc' := 14) hZ dX3_morning_13 rfl 0 rfl ?_
    refine k_RX3_123 (pc' := 17) (q0 := 0) (as := []) (rest := []) (c' := 0) (n' := 0) (wr := []) hZ (c_X3_rememberAct E q_this q_text q_now q_trial q_choosing q_acts q_slots q_isKept q_heardPerson q_heardIs q_now_weights q_now_marks q_now_ageing v_nextAct v_actCount v_heardCount v_seed v_now_people v_now_alive v_now_reported v_now_mornings v_now_years v_now_weights v_now_marks v_acts _ h) rfl dX3_morning_14 rfl rfl rfl rfl rfl (Nat.le_of_ble_eq_true rfl) (Nat.le_of_ble_eq_true rfl) (Nat.le_of_ble_eq_true rfl) rfl rfl (Nat.le_of_ble_eq_true rfl) (Nat.le_of_ble_eq_true rfl) [0, 1, 2, 3, 4] [] rfl rfl (by decide) (by decide) (by decide) (fun w14 hw => ?_)
    obtain ⟨a14_0, a14_1, a14_2, rfl, h⟩ := hw
    refine x_ws (ws' := [(q_this, cO 3 [.ref q_text, .ref q_now, .ref q_trial, .ref q_choosing, .ref q_acts, .int a14_0, .int a14_1, .ref q_slots, .ref q_isKept, .ref q_heardPerson, .ref q_heardIs, .int v_heardCount, .long v_seed]), (q_now, cO 1 [.int v_now_people, .ref q_now_weights, .ref q_now_marks, .ref q_now_ageing, .int v_now_alive, .int v_now_reported, .int v_now_mornings, .int v_now_years]), (q_now_weights, cA E 3 v_now_weights), (q_now_marks, cA E 18 v_now_marks), (q_acts, cA E 350 a14_2)]) [0, 1, 2, 3, 4] rfl (by decide) ?_
    refine x_aload_n (pc' := 18) hZ dX3_morning_17 rfl 0 rfl ?_
    refine g_RX3_19 (pc' := 21) hZ dX3_morning_18 rfl 0 rfl rfl ?_
    refine x_aload_n (pc' := 22) hZ dX3_morning_21 rfl 0 rfl ?_
    refine g_RX3_19 (pc' := 25) hZ dX3_morning_22 rfl 0 rfl rfl ?_
    refine g_RX3_85 (pc' := 28) hZ dX3_morning_25 rfl 1 rfl rfl ?_
    refine k_RX3_91 (pc' := 31) (q0 := 1) (as := [.int v_now_alive]) (rest := []) (c' := 0) (n' := 0) (wr := [(q_this, cO 3 [.ref q_text, .ref q_now, .ref q_trial, .ref q_choosing, .ref q_acts, .int a14_0, .int a14_1, .ref q_slots, .ref q_isKept, .ref q_heardPerson, .ref q_heardIs, .int v_heardCount, .long v_seed]), (q_acts, cA E 350 a14_2)]) hZ (c_X1_fairestOf E q_now q_now_weights q_now_marks q_now_ageing v_now_people v_now_alive v_now_reported v_now_mornings v_now_years v_now_weights v_now_marks v_now_alive _ h) rfl dX3_morning_28 rfl rfl rfl rfl rfl (Nat.le_of_ble_eq_true rfl) (Nat.le_of_ble_eq_true rfl) (Nat.le_of_ble_eq_true rfl) rfl rfl (Nat.le_of_ble_eq_true rfl) (Nat.le_of_ble_eq_true rfl) [1, 2, 3] [0, 4] rfl rfl (by decide) (by decide) (by decide) (fun r28 w28 hw => ?_)
    obtain ⟨rfl, h⟩ := hw
    refine x_ws (ws' := [(q_this, cO 3 [.ref q_text, .ref q_now, .ref q_trial, .ref q_choosing, .ref q_acts, .int a14_0, .int a14_1, .ref q_slots, .ref q_isKept, .ref q_heardPerson, .ref q_heardIs, .int v_heardCount, .long v_seed]), (q_now, cO 1 [.int v_now_people, .ref q_now_weights, .ref q_now_marks, .ref q_now_ageing, .int v_now_alive, .int v_now_reported, .int v_now_mornings, .int v_now_years]), (q_now_weights, cA E 3 v_now_weights), (q_now_marks, cA E 18 v_now_marks), (q_acts, cA E 350 a14_2)]) [0, 2, 3, 4, 1] rfl (by decide) ?_
    refine x_istore_n (i := 1) (pc' := 32) (lv' := [(1, .int r28), (0, .ref q_this)]) hZ dX3_morning_31 rfl rfl (by decide) rfl ?_
    refine x_aload_n (pc' := 33) hZ dX3_morning_32 rfl 1 rfl ?_
    refine g_RX3_19 (pc' := 36) hZ dX3_morning_33 rfl 0 rfl rfl ?_
    refine k_RX3_126 (pc' := 39) (q0 := 1) (as := []) (rest := []) (c' := 0) (n' := 0) (wr := [(q_this, cO 3 [.ref q_text, .ref q_now, .ref q_trial, .ref q_choosing, .ref q_acts, .int a14_0, .int a14_1, .ref q_slots, .ref q_isKept, .ref q_heardPerson, .ref q_heardIs, .int v_heardCount, .long v_seed]), (q_acts, cA E 350 a14_2)]) hZ (c_X1_passMorning E q_now q_now_weights q_now_marks q_now_ageing v_now_people v_now_alive v_now_reported v_now_mornings v_now_years v_now_weights v_now_marks _ h) rfl dX3_morning_36 rfl rfl rfl rfl rfl (Nat.le_of_ble_eq_true rfl) (Nat.le_of_ble_eq_true rfl) (Nat.le_of_ble_eq_true rfl) rfl rfl (Nat.le_of_ble_eq_true rfl) (Nat.le_of_ble_eq_true rfl) [1, 2, 3] [0, 4] rfl rfl (by decide) (by decide) (by decide) (fun w36 hw => ?_)
    obtain ⟨a36_0, a36_1, rfl, h⟩ := hw
    refine x_ws (ws' := [(q_this, cO 3 [.ref q_text, .ref q_now, .ref q_trial, .ref q_choosing, .ref q_acts, .int a14_0, .int a14_1, .ref q_slots, .ref q_isKept, .ref q_heardPerson, .ref q_heardIs, .int v_heardCount, .long v_seed]), (q_now, cO 1 [.int v_now_people, .ref q_now_weights, .ref q_now_marks, .ref q_now_ageing, .int v_now_alive, .int v_now_reported, .int a36_0, .int v_now_years]), (q_now_weights, cA E 3 a36_1), (q_now_marks, cA E 18 v_now_marks), (q_acts, cA E 350 a14_2)]) [0, 2, 3, 4, 1] rfl (by decide) ?_
    refine x_iload_n (pc' := 40) hZ dX3_morning_39 rfl 0 rfl ?_
    exact hRet _ _ _ _ dX3_morning_40 ⟨_, _, _, _, _, rfl, h⟩
  · replace h := h.2 c7
    refine x_bipush (v := (-3)) (pc' := 12) hZ (by decide) dX3_morning_10 rfl ?_
    exact hRet _ _ _ _ dX3_morning_12 ⟨_, _, _, _, _, rfl, h⟩
set_option maxHeartbeats 4000000 in
set_option maxRecDepth 100000 in
theorem c_X3_year (E : XE) (q_this : Nat) (q_text : Nat) (q_now : Nat) (q_trial : Nat) (q_choosing : Nat) (q_acts : Nat) (q_slots : Nat) (q_isKept : Nat) (q_heardPerson : Nat) (q_heardIs : Nat) (q_now_weights : Nat) (q_now_marks : Nat) (q_now_ageing : Nat) (v_nextAct : Int32) (v_actCount : Int32) (v_heardCount : Int32) (v_seed : Int64) (v_now_people : Int32) (v_now_alive : Int32) (v_now_reported : Int32) (v_now_mornings : Int32) (v_now_years : Int32) (v_now_weights : Nat → Int32) (v_now_marks : Nat → Int32) (v_now_ageing : Nat → Int32) (v_acts : Nat → Int32) (post : Int32 → Int32 → Int32 → Int32 → (Nat → Int32) → (Nat → Int32) → Prop) (h : p_X3_year v_nextAct v_actCount v_now_people v_now_alive v_now_reported v_now_mornings v_now_years v_now_weights v_now_marks v_now_ageing v_acts post) : ConI E yX3_year cX3_year 1 .int { frames := 3, cells := 0, slots := 0, locals := 62 } 0 0 [.ref q_this] [(q_this, cO 3 [.ref q_text, .ref q_now, .ref q_trial, .ref q_choosing, .ref q_acts, .int v_nextAct, .int v_actCount, .ref q_slots, .ref q_isKept, .ref q_heardPerson, .ref q_heardIs, .int v_heardCount, .long v_seed]), (q_now, cO 1 [.int v_now_people, .ref q_now_weights, .ref q_now_marks, .ref q_now_ageing, .int v_now_alive, .int v_now_reported, .int v_now_mornings, .int v_now_years]), (q_now_weights, cA E 3 v_now_weights), (q_now_marks, cA E 18 v_now_marks), (q_now_ageing, cA E 6 v_now_ageing), (q_acts, cA E 350 v_acts)] (fun r w => ∃ (u_nextAct : Int32) (u_actCount : Int32) (u_now_years : Int32) (u_now_marks : Nat → Int32) (u_acts : Nat → Int32), w = [(q_this, cO 3 [.ref q_text, .ref q_now, .ref q_trial, .ref q_choosing, .ref q_acts, .int u_nextAct, .int u_actCount, .ref q_slots, .ref q_isKept, .ref q_heardPerson, .ref q_heardIs, .int v_heardCount, .long v_seed]), (q_now, cO 1 [.int v_now_people, .ref q_now_weights, .ref q_now_marks, .ref q_now_ageing, .int v_now_alive, .int v_now_reported, .int v_now_mornings, .int u_now_years]), (q_now_weights, cA E 3 v_now_weights), (q_now_marks, cA E 18 u_now_marks), (q_now_ageing, cA E 6 v_now_ageing), (q_acts, cA E 350 u_acts)] ∧ post r u_nextAct u_actCount u_now_years u_now_marks u_acts) := by
  refine ConI.of (by decide +kernel) (Nat.le_of_ble_eq_true rfl) (fun Z hZ hI hRet => ?_)
  replace hZ : XOK E Z RX3 cX3_year 1 { frames := 3, cells := 0, slots := 0, locals := 62 } := hZ
  clear hI
  show XW E Z 0 0 [(q_this, cO 3 [.ref q_text, .ref q_now, .ref q_trial, .ref q_choosing, .ref q_acts, .int v_nextAct, .int v_actCount, .ref q_slots, .ref q_isKept, .ref q_heardPerson, .ref q_heardIs, .int v_heardCount, .long v_seed]), (q_now, cO 1 [.int v_now_people, .ref q_now_weights, .ref q_now_marks, .ref q_now_ageing, .int v_now_alive, .int v_now_reported, .int v_now_mornings, .int v_now_years]), (q_now_weights, cA E 3 v_now_weights), (q_now_marks, cA E 18 v_now_marks), (q_now_ageing, cA E 6 v_now_ageing), (q_acts, cA E 350 v_acts)] [(0, .ref q_this)] [] 0
  unfold p_X3_year at h
  refine x_aload_n (pc' := 1) hZ dX3_year_0 rfl 0 rfl ?_
  refine k_RX3_123 (pc' := 4) (q0 := 0) (as := []) (rest := []) (c' := 0) (n' := 0) (wr := [(q_now_ageing, cA E 6 v_now_ageing)]) hZ (c_X3_rememberAct E q_this q_text q_now q_trial q_choosing q_acts q_slots q_isKept q_heardPerson q_heardIs q_now_weights q_now_marks q_now_ageing v_nextAct v_actCount v_heardCount v_seed v_now_people v_now_alive v_now_reported v_now_mornings v_now_years v_now_weights v_now_marks v_acts _ h) rfl dX3_year_1 rfl rfl rfl rfl rfl (Nat.le_of_ble_eq_true rfl) (Nat.le_of_ble_eq_true rfl) (Nat.le_of_ble_eq_true rfl) rfl rfl (Nat.le_of_ble_eq_true rfl) (Nat.le_of_ble_eq_true rfl) [0, 1, 2, 3, 5] [4] rfl rfl (by decide) (by decide) (by decide) (fun w1 hw => ?_)
  obtain ⟨a1_0, a1_1, a1_2, rfl, h⟩ := hw
  refine x_ws (ws' := [(q_this, cO 3 [.ref q_text, .ref q_now, .ref q_trial, .ref q_choosing, .ref q_acts, .int a1_0, .int a1_1, .ref q_slots, .ref q_isKept, .ref q_heardPerson, .ref q_heardIs, .int v_heardCount, .long v_seed]), (q_now, cO 1 [.int v_now_people, .ref q_now_weights, .ref q_now_marks, .ref q_now_ageing, .int v_now_alive, .int v_now_reported, .int v_now_mornings, .int v_now_years]), (q_now_weights, cA E 3 v_now_weights), (q_now_marks, cA E 18 v_now_marks), (q_now_ageing, cA E 6 v_now_ageing), (q_acts, cA E 350 a1_2)]) [1, 2, 3, 4, 0, 5] rfl (by decide) ?_
  refine x_aload_n (pc' := 5) hZ dX3_year_4 rfl 0 rfl ?_
  refine g_RX3_19 (pc' := 8) hZ dX3_year_5 rfl 0 rfl rfl ?_
  refine k_RX3_129 (pc' := 11) (q0 := 1) (as := []) (rest := []) (c' := 0) (n' := 0) (wr := [(q_this, cO 3 [.ref q_text, .ref q_now, .ref q_trial, .ref q_choosing, .ref q_acts, .int a1_0, .int a1_1, .ref q_slots, .ref q_isKept, .ref q_heardPerson, .ref q_heardIs, .int v_heardCount, .long v_seed]), (q_now_weights, cA E 3 v_now_weights), (q_acts, cA E 350 a1_2)]) hZ (c_X1_passYear E q_now q_now_weights q_now_marks q_now_ageing v_now_people v_now_alive v_now_reported v_now_mornings v_now_years v_now_marks v_now_ageing _ h) rfl dX3_year_8 rfl rfl rfl rfl rfl (Nat.le_of_ble_eq_true rfl) (Nat.le_of_ble_eq_true rfl) (Nat.le_of_ble_eq_true rfl) rfl rfl (Nat.le_of_ble_eq_true rfl) (Nat.le_of_ble_eq_true rfl) [1, 3, 4] [0, 2, 5] rfl rfl (by decide) (by decide) (by decide) (fun w8 hw => ?_)
  obtain ⟨a8_0, a8_1, rfl, h⟩ := hw
  refine x_ws (ws' := [(q_this, cO 3 [.ref q_text, .ref q_now, .ref q_trial, .ref q_choosing, .ref q_acts, .int a1_0, .int a1_1, .ref q_slots, .ref q_isKept, .ref q_heardPerson, .ref q_heardIs, .int v_heardCount, .long v_seed]), (q_now, cO 1 [.int v_now_people, .ref q_now_weights, .ref q_now_marks, .ref q_now_ageing, .int v_now_alive, .int v_now_reported, .int v_now_mornings, .int a8_0]), (q_now_weights, cA E 3 v_now_weights), (q_now_marks, cA E 18 a8_1), (q_now_ageing, cA E 6 v_now_ageing), (q_acts, cA E 350 a1_2)]) [0, 3, 1, 4, 5, 2] rfl (by decide) ?_
  refine x_aload_n (pc' := 12) hZ dX3_year_11 rfl 0 rfl ?_
  refine g_RX3_19 (pc' := 15) hZ dX3_year_12 rfl 0 rfl rfl ?_
  refine g_RX3_98 (pc' := 18) hZ dX3_year_15 rfl 1 rfl rfl ?_
  exact hRet _ _ _ _ dX3_year_18 ⟨_, _, _, _, _, rfl, h⟩
set_option maxHeartbeats 4000000 in
set_option maxRecDepth 100000 in
theorem c_X3_plain (E : XE) (q_this : Nat) (q_text : Nat) (q_now : Nat) (q_trial : Nat) (q_choosing : Nat) (q_acts : Nat) (q_slots : Nat) (q_isKept : Nat) (q_heardPerson : Nat) (q_heardIs : Nat) (q_now_weights : Nat) (q_now_marks : Nat) (q_now_ageing : Nat) (v_nextAct : Int32) (v_actCount : Int32) (v_heardCount : Int32) (v_seed : Int64) (v_now_people : Int32) (v_now_alive : Int32) (v_now_reported : Int32) (v_now_mornings : Int32) (v_now_years : Int32) (v_now_weights : Nat → Int32) (v_now_marks : Nat → Int32) (v_acts : Nat → Int32) (l1 : Int32) (l2 : Int32) (post : Int32 → Int32 → Int32 → (Nat → Int32) → (Nat → Int32) → Prop) (h : p_X3_plain v_nextAct v_actCount v_now_people v_now_alive v_now_reported v_now_mornings v_now_years v_now_weights v_now_marks v_acts l1 l2 post) : ConI E yX3_plain cX3_plain 4 .int { frames := 3, cells := 0, slots := 0, locals := 62 } 0 0 [.ref q_this, .int l1, .int l2] [(q_this, cO 3 [.ref q_text, .ref q_now, .ref q_trial, .ref q_choosing, .ref q_acts, .int v_nextAct, .int v_actCount, .ref q_slots, .ref q_isKept, .ref q_heardPerson, .ref q_heardIs, .int v_heardCount, .long v_seed]), (q_now, cO 1 [.int v_now_people, .ref q_now_weights, .ref q_now_marks, .ref q_now_ageing, .int v_now_alive, .int v_now_reported, .int v_now_mornings, .int v_now_years]), (q_now_weights, cA E 3 v_now_weights), (q_now_marks, cA E 18 v_now_marks), (q_acts, cA E 350 v_acts)] (fun r w => ∃ (u_nextAct : Int32) (u_actCount : Int32) (u_now_marks : Nat → Int32) (u_acts : Nat → Int32), w = [(q_this, cO 3 [.ref q_text, .ref q_now, .ref q_trial, .ref q_choosing, .ref q_acts, .int u_nextAct, .int u_actCount, .ref q_slots, .ref q_isKept, .ref q_heardPerson, .ref q_heardIs, .int v_heardCount, .long v_seed]), (q_now, cO 1 [.int v_now_people, .ref q_now_weights, .ref q_now_marks, .ref q_now_ageing, .int v_now_alive, .int v_now_reported, .int v_now_mornings, .int v_now_years]), (q_now_weights, cA E 3 v_now_weights), (q_now_marks, cA E 18 u_now_marks), (q_acts, cA E 350 u_acts)] ∧ post r u_nextAct u_actCount u_now_marks u_acts) := by
  refine ConI.of (by decide +kernel) (Nat.le_of_ble_eq_true rfl) (fun Z hZ hI hRet => ?_)
  replace hZ : XOK E Z RX3 cX3_plain 4 { frames := 3, cells := 0, slots := 0, locals := 62 } := hZ
  clear hI
  show XW E Z 0 0 [(q_this, cO 3 [.ref q_text, .ref q_now, .ref q_trial, .ref q_choosing, .ref q_acts, .int v_nextAct, .int v_actCount, .ref q_slots, .ref q_isKept, .ref q_heardPerson, .ref q_heardIs, .int v_heardCount, .long v_seed]), (q_now, cO 1 [.int v_now_people, .ref q_now_weights, .ref q_now_marks, .ref q_now_ageing, .int v_now_alive, .int v_now_reported, .int v_now_mornings, .int v_now_years]), (q_now_weights, cA E 3 v_now_weights), (q_now_marks, cA E 18 v_now_marks), (q_acts, cA E 350 v_acts)] [(0, .ref q_this), (1, .int l1), (2, .int l2)] [] 0
  unfold p_X3_plain at h
  refine x_aload_n (pc' := 1) hZ dX3_plain_0 rfl 0 rfl ?_
  refine g_RX3_19 (pc' := 4) hZ dX3_plain_1 rfl 0 rfl rfl ?_
  refine x_iload_n (pc' := 5) hZ dX3_plain_4 rfl 1 rfl ?_
  refine k_RX3_104 (pc' := 8) (q0 := 1) (as := [.int l1]) (rest := []) (c' := 0) (n' := 0) (wr := [(q_this, cO 3 [.ref q_text, .ref q_now, .ref q_trial, .ref q_choosing, .ref q_acts, .int v_nextAct, .int v_actCount, .ref q_slots, .ref q_isKept, .ref q_heardPerson, .ref q_heardIs, .int v_heardCount, .long v_seed]), (q_now_weights, cA E 3 v_now_weights), (q_now_marks, cA E 18 v_now_marks), (q_acts, cA E 350 v_acts)]) hZ (c_X1_has E q_now q_now_weights q_now_marks q_now_ageing v_now_people v_now_alive v_now_reported v_now_mornings v_now_years l1 _ h) rfl dX3_plain_5 rfl rfl rfl rfl rfl (Nat.le_of_ble_eq_true rfl) (Nat.le_of_ble_eq_true rfl) (Nat.le_of_ble_eq_true rfl) rfl rfl (Nat.le_of_ble_eq_true rfl) (Nat.le_of_ble_eq_true rfl) [1] [0, 2, 3, 4] rfl rfl (by decide) (by decide) (by decide) (fun r5 w5 hw => ?_)
  obtain ⟨rfl, h⟩ := hw
  refine x_ws (ws' := [(q_this, cO 3 [.ref q_text, .ref q_now, .ref q_trial, .ref q_choosing, .ref q_acts, .int v_nextAct, .int v_actCount, .ref q_slots, .ref q_isKept, .ref q_heardPerson, .ref q_heardIs, .int v_heardCount, .long v_seed]), (q_now, cO 1 [.int v_now_people, .ref q_now_weights, .ref q_now_marks, .ref q_now_ageing, .int v_now_alive, .int v_now_reported, .int v_now_mornings, .int v_now_years]), (q_now_weights, cA E 3 v_now_weights), (q_now_marks, cA E 18 v_now_marks), (q_acts, cA E 350 v_acts)]) [0, 4, 1, 2, 3] rfl (by decide) ?_
  refine x_if_eq (tgt := 20) (pc' := 11) hZ dX3_plain_8 (by decide) rfl (fun c8 => ?_) (fun c8 => ?_)
  · replace h := h.1 c8
    refine x_iconst (v := (-1)) (pc' := 21) hZ (by decide) dX3_plain_20 rfl ?_
    exact hRet _ _ _ _ dX3_plain_21 ⟨_, _, _, _, rfl, h⟩
  · replace h := h.2 c8
    refine x_iload_n (pc' := 12) hZ dX3_plain_11 rfl 2 rfl ?_
    refine x_if_lt (tgt := 20) (pc' := 15) hZ dX3_plain_12 (by decide) rfl (fun c12 => ?_) (fun c12 => ?_)
    · replace h := h.1 c12
      refine x_iconst (v := (-1)) (pc' := 21) hZ (by decide) dX3_plain_20 rfl ?_
      exact hRet _ _ _ _ dX3_plain_21 ⟨_, _, _, _, rfl, h⟩
    · replace h := h.2 c12
      refine x_iload_n (pc' := 16) hZ dX3_plain_15 rfl 2 rfl ?_
      refine x_iconst (v := 3) (pc' := 17) hZ (by decide) dX3_plain_16 rfl ?_
      refine x_icmp_lt (tgt := 22) (pc' := 20) hZ dX3_plain_17 (by decide) rfl (fun c17 => ?_) (fun c17 => ?_)
      · replace h := h.1 c17
        refine x_iload_n (pc' := 23) hZ dX3_plain_22 rfl 1 rfl ?_
        refine x_iconst (v := 3) (pc' := 24) hZ (by decide) dX3_plain_23 rfl ?_
        refine x_imul (pc' := 25) hZ dX3_plain_24 rfl ?_
        refine x_iload_n (pc' := 26) hZ dX3_plain_25 rfl 2 rfl ?_
        refine x_iadd (pc' := 27) hZ dX3_plain_26 rfl ?_
        refine x_topi (fun x27 e27 => ?_)
        replace h := h x27 e27
        refine x_istore_n (i := 3) (pc' := 28) (lv' := [(3, .int x27), (0, .ref q_this), (1, .int l1), (2, .int l2)]) hZ dX3_plain_27 rfl rfl (by decide) rfl ?_
        refine x_aload_n (pc' := 29) hZ dX3_plain_28 rfl 1 rfl ?_
        refine g_RX3_19 (pc' := 32) hZ dX3_plain_29 rfl 0 rfl rfl ?_
        refine x_iload_n (pc' := 33) hZ dX3_plain_32 rfl 2 rfl ?_
        refine k_RX3_114 (pc' := 36) (q0 := 1) (as := [.int l1]) (rest := []) (c' := 0) (n' := 0) (wr := [(q_this, cO 3 [.ref q_text, .ref q_now, .ref q_trial, .ref q_choosing, .ref q_acts, .int v_nextAct, .int v_actCount, .ref q_slots, .ref q_isKept, .ref q_heardPerson, .ref q_heardIs, .int v_heardCount, .long v_seed]), (q_now_weights, cA E 3 v_now_weights), (q_now_marks, cA E 18 v_now_marks), (q_acts, cA E 350 v_acts)]) hZ (c_X1_isAlive E q_now q_now_weights q_now_marks q_now_ageing v_now_people v_now_alive v_now_reported v_now_mornings v_now_years l1 _ h) rfl dX3_plain_33 rfl rfl rfl rfl rfl (Nat.le_of_ble_eq_true rfl) (Nat.le_of_ble_eq_true rfl) (Nat.le_of_ble_eq_true rfl) rfl rfl (Nat.le_of_ble_eq_true rfl) (Nat.le_of_ble_eq_true rfl) [1] [0, 2, 3, 4] rfl rfl (by decide) (by decide) (by decide) (fun r33 w33 hw => ?_)
        obtain ⟨rfl, h⟩ := hw
        refine x_ws (ws' := [(q_this, cO 3 [.ref q_text, .ref q_now, .ref q_trial, .ref q_choosing, .ref q_acts, .int v_nextAct, .int v_actCount, .ref q_slots, .ref q_isKept, .ref q_heardPerson, .ref q_heardIs, .int v_heardCount, .long v_seed]), (q_now, cO 1 [.int v_now_people, .ref q_now_weights, .ref q_now_marks, .ref q_now_ageing, .int v_now_alive, .int v_now_reported, .int v_now_mornings, .int v_now_years]), (q_now_weights, cA E 3 v_now_weights), (q_now_marks, cA E 18 v_now_marks), (q_acts, cA E 350 v_acts)]) [0, 4, 1, 2, 3] rfl (by decide) ?_
        refine x_if_eq (tgt := 51) (pc' := 39) hZ dX3_plain_36 (by decide) rfl (fun c36 => ?_) (fun c36 => ?_)
        · replace h := h.1 c36
          refine x_bipush (v := (-3)) (pc' := 53) hZ (by decide) dX3_plain_51 rfl ?_
          exact hRet _ _ _ _ dX3_plain_53 ⟨_, _, _, _, rfl, h⟩
        · replace h := h.2 c36
          refine x_aload_n (pc' := 40) hZ dX3_plain_39 rfl 1 rfl ?_
          refine g_RX3_19 (pc' := 43) hZ dX3_plain_40 rfl 0 rfl rfl ?_
          refine g_RX3_108 (pc' := 46) hZ dX3_plain_43 rfl 1 rfl rfl ?_
          refine x_iload_n (pc' := 47) hZ dX3_plain_46 rfl 0 rfl ?_
          obtain ⟨h47, h⟩ := h
          refine x_iald (pc' := 48) hZ h47 dX3_plain_47 rfl 3 rfl ?_
          refine x_if_ne (tgt := 54) (pc' := 51) hZ dX3_plain_48 (by decide) rfl (fun c48 => ?_) (fun c48 => ?_)
          · replace h := h.1 c48
            refine x_aload_n (pc' := 55) hZ dX3_plain_54 rfl 1 rfl ?_
            refine k_RX3_123 (pc' := 58) (q0 := 0) (as := []) (rest := []) (c' := 0) (n' := 0) (wr := []) hZ (c_X3_rememberAct E q_this q_text q_now q_trial q_choosing q_acts q_slots q_isKept q_heardPerson q_heardIs q_now_weights q_now_marks q_now_ageing v_nextAct v_actCount v_heardCount v_seed v_now_people v_now_alive v_now_reported v_now_mornings v_now_years v_now_weights v_now_marks v_acts _ h) rfl dX3_plain_55 rfl rfl rfl rfl rfl (Nat.le_of_ble_eq_true rfl) (Nat.le_of_ble_eq_true rfl) (Nat.le_of_ble_eq_true rfl) rfl rfl (Nat.le_of_ble_eq_true rfl) (Nat.le_of_ble_eq_true rfl) [0, 1, 2, 3, 4] [] rfl rfl (by decide) (by decide) (by decide) (fun w55 hw => ?_)
            obtain ⟨a55_0, a55_1, a55_2, rfl, h⟩ := hw
            refine x_ws (ws' := [(q_this, cO 3 [.ref q_text, .ref q_now, .ref q_trial, .ref q_choosing, .ref q_acts, .int a55_0, .int a55_1, .ref q_slots, .ref q_isKept, .ref q_heardPerson, .ref q_heardIs, .int v_heardCount, .long v_seed]), (q_now, cO 1 [.int v_now_people, .ref q_now_weights, .ref q_now_marks, .ref q_now_ageing, .int v_now_alive, .int v_now_reported, .int v_now_mornings, .int v_now_years]), (q_now_weights, cA E 3 v_now_weights), (q_now_marks, cA E 18 v_now_marks), (q_acts, cA E 350 a55_2)]) [0, 1, 2, 3, 4] rfl (by decide) ?_
            refine x_aload_n (pc' := 59) hZ dX3_plain_58 rfl 1 rfl ?_
            refine g_RX3_19 (pc' := 62) hZ dX3_plain_59 rfl 0 rfl rfl ?_
            refine g_RX3_108 (pc' := 65) hZ dX3_plain_62 rfl 1 rfl rfl ?_
            refine x_iload_n (pc' := 66) hZ dX3_plain_65 rfl 0 rfl ?_
            refine x_dup2 (pc' := 67) hZ dX3_plain_66 rfl rfl rfl ?_
            obtain ⟨h67, h⟩ := h
            refine x_iald (pc' := 68) hZ h67 dX3_plain_67 rfl 3 rfl ?_
            refine x_iconst (v := 1) (pc' := 69) hZ (by decide) dX3_plain_68 rfl ?_
            refine x_isub (pc' := 70) hZ dX3_plain_69 rfl ?_
            refine x_topi (fun x70 e70 => ?_)
            replace h := h x70 e70
            obtain ⟨h70, h⟩ := h
            refine x_iast (pc' := 71) (ws' := [(q_this, cO 3 [.ref q_text, .ref q_now, .ref q_trial, .ref q_choosing, .ref q_acts, .int a55_0, .int a55_1, .ref q_slots, .ref q_isKept, .ref q_heardPerson, .ref q_heardIs, .int v_heardCount, .long v_seed]), (q_now, cO 1 [.int v_now_people, .ref q_now_weights, .ref q_now_marks, .ref q_now_ageing, .int v_now_alive, .int v_now_reported, .int v_now_mornings, .int v_now_years]), (q_now_weights, cA E 3 v_now_weights), (q_now_marks, cA E 18 (upd v_now_marks (ix x27) x70)), (q_acts, cA E 350 a55_2)]) hZ h70 dX3_plain_70 rfl 3 rfl rfl ?_
            refine x_aload_n (pc' := 72) hZ dX3_plain_71 rfl 1 rfl ?_
            refine g_RX3_19 (pc' := 75) hZ dX3_plain_72 rfl 0 rfl rfl ?_
            refine g_RX3_108 (pc' := 78) hZ dX3_plain_75 rfl 1 rfl rfl ?_
            refine x_iload_n (pc' := 79) hZ dX3_plain_78 rfl 0 rfl ?_
            obtain ⟨h79, h⟩ := h
            refine x_iald (pc' := 80) hZ h79 dX3_plain_79 rfl 3 rfl ?_
            exact hRet _ _ _ _ dX3_plain_80 ⟨_, _, _, _, rfl, h⟩
          · replace h := h.2 c48
            refine x_bipush (v := (-3)) (pc' := 53) hZ (by decide) dX3_plain_51 rfl ?_
            exact hRet _ _ _ _ dX3_plain_53 ⟨_, _, _, _, rfl, h⟩
      · replace h := h.2 c17
        refine x_iconst (v := (-1)) (pc' := 21) hZ (by decide) dX3_plain_20 rfl ?_
        exact hRet _ _ _ _ dX3_plain_21 ⟨_, _, _, _, rfl, h⟩
set_option maxHeartbeats 4000000 in
set_option maxRecDepth 100000 in
theorem c_X3_hunt (E : XE) (q_this : Nat) (q_text : Nat) (q_now : Nat) (q_trial : Nat) (q_choosing : Nat) (q_acts : Nat) (q_slots : Nat) (q_isKept : Nat) (q_heardPerson : Nat) (q_heardIs : Nat) (q_now_weights : Nat) (q_now_marks : Nat) (q_now_ageing : Nat) (v_nextAct : Int32) (v_actCount : Int32) (v_heardCount : Int32) (v_seed : Int64) (v_now_people : Int32) (v_now_alive : Int32) (v_now_reported : Int32) (v_now_mornings : Int32) (v_now_years : Int32) (v_now_weights : Nat → Int32) (v_now_marks : Nat → Int32) (v_acts : Nat → Int32) (l1 : Int32) (l2 : Int32) (post : Int32 → Int32 → Int32 → Int32 → Int32 → (Nat → Int32) → Prop) (h : p_X3_hunt v_nextAct v_actCount v_now_people v_now_alive v_now_reported v_now_mornings v_now_years v_now_weights v_now_marks v_acts l1 l2 post) : ConI E yX3_hunt cX3_hunt 3 .int { frames := 3, cells := 0, slots := 0, locals := 62 } 0 0 [.ref q_this, .int l1, .int l2] [(q_this, cO 3 [.ref q_text, .ref q_now, .ref q_trial, .ref q_choosing, .ref q_acts, .int v_nextAct, .int v_actCount, .ref q_slots, .ref q_isKept, .ref q_heardPerson, .ref q_heardIs, .int v_heardCount, .long v_seed]), (q_now, cO 1 [.int v_now_people, .ref q_now_weights, .ref q_now_marks, .ref q_now_ageing, .int v_now_alive, .int v_now_reported, .int v_now_mornings, .int v_now_years]), (q_now_weights, cA E 3 v_now_weights), (q_now_marks, cA E 18 v_now_marks), (q_acts, cA E 350 v_acts)] (fun r w => ∃ (u_nextAct : Int32) (u_actCount : Int32) (u_now_alive : Int32) (u_now_reported : Int32) (u_acts : Nat → Int32), w = [(q_this, cO 3 [.ref q_text, .ref q_now, .ref q_trial, .ref q_choosing, .ref q_acts, .int u_nextAct, .int u_actCount, .ref q_slots, .ref q_isKept, .ref q_heardPerson, .ref q_heardIs, .int v_heardCount, .long v_seed]), (q_now, cO 1 [.int v_now_people, .ref q_now_weights, .ref q_now_marks, .ref q_now_ageing, .int u_now_alive, .int u_now_reported, .int v_now_mornings, .int v_now_years]), (q_now_weights, cA E 3 v_now_weights), (q_now_marks, cA E 18 v_now_marks), (q_acts, cA E 350 u_acts)] ∧ post r u_nextAct u_actCount u_now_alive u_now_reported u_acts) := by
  refine ConI.of (by decide +kernel) (Nat.le_of_ble_eq_true rfl) (fun Z hZ hI hRet => ?_)
  replace hZ : XOK E Z RX3 cX3_hunt 3 { frames := 3, cells := 0, slots := 0, locals := 62 } := hZ
  clear hI
  show XW E Z 0 0 [(q_this, cO 3 [.ref q_text, .ref q_now, .ref q_trial, .ref q_choosing, .ref q_acts, .int v_nextAct, .int v_actCount, .ref q_slots, .ref q_isKept, .ref q_heardPerson, .ref q_heardIs, .int v_heardCount, .long v_seed]), (q_now, cO 1 [.int v_now_people, .ref q_now_weights, .ref q_now_marks, .ref q_now_ageing, .int v_now_alive, .int v_now_reported, .int v_now_mornings, .int v_now_years]), (q_now_weights, cA E 3 v_now_weights), (q_now_marks, cA E 18 v_now_marks), (q_acts, cA E 350 v_acts)] [(0, .ref q_this), (1, .int l1), (2, .int l2)] [] 0
  unfold p_X3_hunt at h
  refine x_aload_n (pc' := 1) hZ dX3_hunt_0 rfl 0 rfl ?_
  refine g_RX3_19 (pc' := 4) hZ dX3_hunt_1 rfl 0 rfl rfl ?_
  refine x_iload_n (pc' := 5) hZ dX3_hunt_4 rfl 1 rfl ?_
  refine k_RX3_104 (pc' := 8) (q0 := 1) (as := [.int l1]) (rest := []) (c' := 0) (n' := 0) (wr := [(q_this, cO 3 [.ref q_text, .ref q_now, .ref q_trial, .ref q_choosing, .ref q_acts, .int v_nextAct, .int v_actCount, .ref q_slots, .ref q_isKept, .ref q_heardPerson, .ref q_heardIs, .int v_heardCount, .long v_seed]), (q_now_weights, cA E 3 v_now_weights), (q_now_marks, cA E 18 v_now_marks), (q_acts, cA E 350 v_acts)]) hZ (c_X1_has E q_now q_now_weights q_now_marks q_now_ageing v_now_people v_now_alive v_now_reported v_now_mornings v_now_years l1 _ h) rfl dX3_hunt_5 rfl rfl rfl rfl rfl (Nat.le_of_ble_eq_true rfl) (Nat.le_of_ble_eq_true rfl) (Nat.le_of_ble_eq_true rfl) rfl rfl (Nat.le_of_ble_eq_true rfl) (Nat.le_of_ble_eq_true rfl) [1] [0, 2, 3, 4] rfl rfl (by decide) (by decide) (by decide) (fun r5 w5 hw => ?_)
  obtain ⟨rfl, h⟩ := hw
  refine x_ws (ws' := [(q_this, cO 3 [.ref q_text, .ref q_now, .ref q_trial, .ref q_choosing, .ref q_acts, .int v_nextAct, .int v_actCount, .ref q_slots, .ref q_isKept, .ref q_heardPerson, .ref q_heardIs, .int v_heardCount, .long v_seed]), (q_now, cO 1 [.int v_now_people, .ref q_now_weights, .ref q_now_marks, .ref q_now_ageing, .int v_now_alive, .int v_now_reported, .int v_now_mornings, .int v_now_years]), (q_now_weights, cA E 3 v_now_weights), (q_now_marks, cA E 18 v_now_marks), (q_acts, cA E 350 v_acts)]) [0, 4, 1, 2, 3] rfl (by decide) ?_
  refine x_if_ne (tgt := 13) (pc' := 11) hZ dX3_hunt_8 (by decide) rfl (fun c8 => ?_) (fun c8 => ?_)
  · replace h := h.1 c8
    refine x_iload_n (pc' := 14) hZ dX3_hunt_13 rfl 1 rfl ?_
    refine x_if_ne (tgt := 20) (pc' := 17) hZ dX3_hunt_14 (by decide) rfl (fun c14 => ?_) (fun c14 => ?_)
    · replace h := h.1 c14
      refine x_aload_n (pc' := 21) hZ dX3_hunt_20 rfl 0 rfl ?_
      refine g_RX3_19 (pc' := 24) hZ dX3_hunt_21 rfl 0 rfl rfl ?_
      refine x_iload_n (pc' := 25) hZ dX3_hunt_24 rfl 1 rfl ?_
      refine k_RX3_114 (pc' := 28) (q0 := 1) (as := [.int l1]) (rest := []) (c' := 0) (n' := 0) (wr := [(q_this, cO 3 [.ref q_text, .ref q_now, .ref q_trial, .ref q_choosing, .ref q_acts, .int v_nextAct, .int v_actCount, .ref q_slots, .ref q_isKept, .ref q_heardPerson, .ref q_heardIs, .int v_heardCount, .long v_seed]), (q_now_weights, cA E 3 v_now_weights), (q_now_marks, cA E 18 v_now_marks), (q_acts, cA E 350 v_acts)]) hZ (c_X1_isAlive E q_now q_now_weights q_now_marks q_now_ageing v_now_people v_now_alive v_now_reported v_now_mornings v_now_years l1 _ h) rfl dX3_hunt_25 rfl rfl rfl rfl rfl (Nat.le_of_ble_eq_true rfl) (Nat.le_of_ble_eq_true rfl) (Nat.le_of_ble_eq_true rfl) rfl rfl (Nat.le_of_ble_eq_true rfl) (Nat.le_of_ble_eq_true rfl) [1] [0, 2, 3, 4] rfl rfl (by decide) (by decide) (by decide) (fun r25 w25 hw => ?_)
      obtain ⟨rfl, h⟩ := hw
      refine x_ws (ws' := [(q_this, cO 3 [.ref q_text, .ref q_now, .ref q_trial, .ref q_choosing, .ref q_acts, .int v_nextAct, .int v_actCount, .ref q_slots, .ref q_isKept, .ref q_heardPerson, .ref q_heardIs, .int v_heardCount, .long v_seed]), (q_now, cO 1 [.int v_now_people, .ref q_now_weights, .ref q_now_marks, .ref q_now_ageing, .int v_now_alive, .int v_now_reported, .int v_now_mornings, .int v_now_years]), (q_now_weights, cA E 3 v_now_weights), (q_now_marks, cA E 18 v_now_marks), (q_acts, cA E 350 v_acts)]) [0, 4, 1, 2, 3] rfl (by decide) ?_
      refine x_if_eq (tgt := 42) (pc' := 31) hZ dX3_hunt_28 (by decide) rfl (fun c28 => ?_) (fun c28 => ?_)
      · replace h := h.1 c28
        refine x_bipush (v := (-3)) (pc' := 44) hZ (by decide) dX3_hunt_42 rfl ?_
        exact hRet _ _ _ _ dX3_hunt_44 ⟨_, _, _, _, _, rfl, h⟩
      · replace h := h.2 c28
        refine x_aload_n (pc' := 32) hZ dX3_hunt_31 rfl 0 rfl ?_
        refine g_RX3_19 (pc' := 35) hZ dX3_hunt_32 rfl 0 rfl rfl ?_
        refine x_iload_n (pc' := 36) hZ dX3_hunt_35 rfl 1 rfl ?_
        refine k_RX3_117 (pc' := 39) (q0 := 1) (as := [.int l1]) (rest := []) (c' := 0) (n' := 0) (wr := [(q_this, cO 3 [.ref q_text, .ref q_now, .ref q_trial, .ref q_choosing, .ref q_acts, .int v_nextAct, .int v_actCount, .ref q_slots, .ref q_isKept, .ref q_heardPerson, .ref q_heardIs, .int v_heardCount, .long v_seed]), (q_now_weights, cA E 3 v_now_weights), (q_now_marks, cA E 18 v_now_marks), (q_acts, cA E 350 v_acts)]) hZ (c_X1_isReported E q_now q_now_weights q_now_marks q_now_ageing v_now_people v_now_alive v_now_reported v_now_mornings v_now_years l1 _ h) rfl dX3_hunt_36 rfl rfl rfl rfl rfl (Nat.le_of_ble_eq_true rfl) (Nat.le_of_ble_eq_true rfl) (Nat.le_of_ble_eq_true rfl) rfl rfl (Nat.le_of_ble_eq_true rfl) (Nat.le_of_ble_eq_true rfl) [1] [0, 2, 3, 4] rfl rfl (by decide) (by decide) (by decide) (fun r36 w36 hw => ?_)
        obtain ⟨rfl, h⟩ := hw
        refine x_ws (ws' := [(q_this, cO 3 [.ref q_text, .ref q_now, .ref q_trial, .ref q_choosing, .ref q_acts, .int v_nextAct, .int v_actCount, .ref q_slots, .ref q_isKept, .ref q_heardPerson, .ref q_heardIs, .int v_heardCount, .long v_seed]), (q_now, cO 1 [.int v_now_people, .ref q_now_weights, .ref q_now_marks, .ref q_now_ageing, .int v_now_alive, .int v_now_reported, .int v_now_mornings, .int v_now_years]), (q_now_weights, cA E 3 v_now_weights), (q_now_marks, cA E 18 v_now_marks), (q_acts, cA E 350 v_acts)]) [0, 4, 1, 2, 3] rfl (by decide) ?_
        refine x_if_eq (tgt := 45) (pc' := 42) hZ dX3_hunt_39 (by decide) rfl (fun c39 => ?_) (fun c39 => ?_)
        · replace h := h.1 c39
          refine x_aload_n (pc' := 46) hZ dX3_hunt_45 rfl 0 rfl ?_
          refine k_RX3_123 (pc' := 49) (q0 := 0) (as := []) (rest := []) (c' := 0) (n' := 0) (wr := []) hZ (c_X3_rememberAct E q_this q_text q_now q_trial q_choosing q_acts q_slots q_isKept q_heardPerson q_heardIs q_now_weights q_now_marks q_now_ageing v_nextAct v_actCount v_heardCount v_seed v_now_people v_now_alive v_now_reported v_now_mornings v_now_years v_now_weights v_now_marks v_acts _ h) rfl dX3_hunt_46 rfl rfl rfl rfl rfl (Nat.le_of_ble_eq_true rfl) (Nat.le_of_ble_eq_true rfl) (Nat.le_of_ble_eq_true rfl) rfl rfl (Nat.le_of_ble_eq_true rfl) (Nat.le_of_ble_eq_true rfl) [0, 1, 2, 3, 4] [] rfl rfl (by decide) (by decide) (by decide) (fun w46 hw => ?_)
          obtain ⟨a46_0, a46_1, a46_2, rfl, h⟩ := hw
          refine x_ws (ws' := [(q_this, cO 3 [.ref q_text, .ref q_now, .ref q_trial, .ref q_choosing, .ref q_acts, .int a46_0, .int a46_1, .ref q_slots, .ref q_isKept, .ref q_heardPerson, .ref q_heardIs, .int v_heardCount, .long v_seed]), (q_now, cO 1 [.int v_now_people, .ref q_now_weights, .ref q_now_marks, .ref q_now_ageing, .int v_now_alive, .int v_now_reported, .int v_now_mornings, .int v_now_years]), (q_now_weights, cA E 3 v_now_weights), (q_now_marks, cA E 18 v_now_marks), (q_acts, cA E 350 a46_2)]) [0, 1, 2, 3, 4] rfl (by decide) ?_
          refine x_aload_n (pc' := 50) hZ dX3_hunt_49 rfl 0 rfl ?_
          refine g_RX3_19 (pc' := 53) hZ dX3_hunt_50 rfl 0 rfl rfl ?_
          refine x_dup (pc' := 54) hZ dX3_hunt_53 rfl rfl ?_
          refine g_RX3_88 (pc' := 57) hZ dX3_hunt_54 rfl 1 rfl rfl ?_
          refine x_iconst (v := 1) (pc' := 58) hZ (by decide) dX3_hunt_57 rfl ?_
          refine x_iload_n (pc' := 59) hZ dX3_hunt_58 rfl 1 rfl ?_
          refine x_ishl (pc' := 60) hZ dX3_hunt_59 rfl ?_
          refine x_ior (pc' := 61) hZ dX3_hunt_60 rfl ?_
          refine x_topi (fun x61 e61 => ?_)
          replace h := h x61 e61
          refine s_RX3_88 (pc' := 64) (ws' := [(q_this, cO 3 [.ref q_text, .ref q_now, .ref q_trial, .ref q_choosing, .ref q_acts, .int a46_0, .int a46_1, .ref q_slots, .ref q_isKept, .ref q_heardPerson, .ref q_heardIs, .int v_heardCount, .long v_seed]), (q_now, cO 1 [.int v_now_people, .ref q_now_weights, .ref q_now_marks, .ref q_now_ageing, .int v_now_alive, .int x61, .int v_now_mornings, .int v_now_years]), (q_now_weights, cA E 3 v_now_weights), (q_now_marks, cA E 18 v_now_marks), (q_acts, cA E 350 a46_2)]) hZ dX3_hunt_61 rfl 1 rfl (Nat.le_of_ble_eq_true rfl) rfl ?_
          refine x_iload_n (pc' := 65) hZ dX3_hunt_64 rfl 2 rfl ?_
          refine x_if_ne (tgt := 85) (pc' := 68) hZ dX3_hunt_65 (by decide) rfl (fun c65 => ?_) (fun c65 => ?_)
          · replace h := h.1 c65
            refine x_aload_n (pc' := 86) hZ dX3_hunt_85 rfl 0 rfl ?_
            refine g_RX3_19 (pc' := 89) hZ dX3_hunt_86 rfl 0 rfl rfl ?_
            refine k_RX3_132 (pc' := 92) (q0 := 1) (as := []) (rest := []) (c' := 0) (n' := 0) (wr := [(q_this, cO 3 [.ref q_text, .ref q_now, .ref q_trial, .ref q_choosing, .ref q_acts, .int a46_0, .int a46_1, .ref q_slots, .ref q_isKept, .ref q_heardPerson, .ref q_heardIs, .int v_heardCount, .long v_seed]), (q_now_weights, cA E 3 v_now_weights), (q_now_marks, cA E 18 v_now_marks), (q_acts, cA E 350 a46_2)]) hZ (c_X1_aliveCount E q_now q_now_weights q_now_marks q_now_ageing v_now_people v_now_alive x61 v_now_mornings v_now_years _ h) rfl dX3_hunt_89 rfl rfl rfl rfl rfl (Nat.le_of_ble_eq_true rfl) (Nat.le_of_ble_eq_true rfl) (Nat.le_of_ble_eq_true rfl) rfl rfl (Nat.le_of_ble_eq_true rfl) (Nat.le_of_ble_eq_true rfl) [1] [0, 2, 3, 4] rfl rfl (by decide) (by decide) (by decide) (fun r89 w89 hw => ?_)
            obtain ⟨rfl, h⟩ := hw
            refine x_ws (ws' := [(q_this, cO 3 [.ref q_text, .ref q_now, .ref q_trial, .ref q_choosing, .ref q_acts, .int a46_0, .int a46_1, .ref q_slots, .ref q_isKept, .ref q_heardPerson, .ref q_heardIs, .int v_heardCount, .long v_seed]), (q_now, cO 1 [.int v_now_people, .ref q_now_weights, .ref q_now_marks, .ref q_now_ageing, .int v_now_alive, .int x61, .int v_now_mornings, .int v_now_years]), (q_now_weights, cA E 3 v_now_weights), (q_now_marks, cA E 18 v_now_marks), (q_acts, cA E 350 a46_2)]) [0, 4, 1, 2, 3] rfl (by decide) ?_
            exact hRet _ _ _ _ dX3_hunt_92 ⟨_, _, _, _, _, rfl, h⟩
          · replace h := h.2 c65
            refine x_aload_n (pc' := 69) hZ dX3_hunt_68 rfl 0 rfl ?_
            refine g_RX3_19 (pc' := 72) hZ dX3_hunt_69 rfl 0 rfl rfl ?_
            refine x_dup (pc' := 73) hZ dX3_hunt_72 rfl rfl ?_
            refine g_RX3_85 (pc' := 76) hZ dX3_hunt_73 rfl 1 rfl rfl ?_
            refine x_iconst (v := 1) (pc' := 77) hZ (by decide) dX3_hunt_76 rfl ?_
            refine x_iload_n (pc' := 78) hZ dX3_hunt_77 rfl 1 rfl ?_
            refine x_ishl (pc' := 79) hZ dX3_hunt_78 rfl ?_
            refine x_iconst (v := (-1)) (pc' := 80) hZ (by decide) dX3_hunt_79 rfl ?_
            refine x_ixor (pc' := 81) hZ dX3_hunt_80 rfl ?_
            refine x_iand (pc' := 82) hZ dX3_hunt_81 rfl ?_
            refine x_topi (fun x82 e82 => ?_)
            replace h := h x82 e82
            refine s_RX3_85 (pc' := 85) (ws' := [(q_this, cO 3 [.ref q_text, .ref q_now, .ref q_trial, .ref q_choosing, .ref q_acts, .int a46_0, .int a46_1, .ref q_slots, .ref q_isKept, .ref q_heardPerson, .ref q_heardIs, .int v_heardCount, .long v_seed]), (q_now, cO 1 [.int v_now_people, .ref q_now_weights, .ref q_now_marks, .ref q_now_ageing, .int x82, .int x61, .int v_now_mornings, .int v_now_years]), (q_now_weights, cA E 3 v_now_weights), (q_now_marks, cA E 18 v_now_marks), (q_acts, cA E 350 a46_2)]) hZ dX3_hunt_82 rfl 1 rfl (Nat.le_of_ble_eq_true rfl) rfl ?_
            refine x_aload_n (pc' := 86) hZ dX3_hunt_85 rfl 0 rfl ?_
            refine g_RX3_19 (pc' := 89) hZ dX3_hunt_86 rfl 0 rfl rfl ?_
            refine k_RX3_132 (pc' := 92) (q0 := 1) (as := []) (rest := []) (c' := 0) (n' := 0) (wr := [(q_this, cO 3 [.ref q_text, .ref q_now, .ref q_trial, .ref q_choosing, .ref q_acts, .int a46_0, .int a46_1, .ref q_slots, .ref q_isKept, .ref q_heardPerson, .ref q_heardIs, .int v_heardCount, .long v_seed]), (q_now_weights, cA E 3 v_now_weights), (q_now_marks, cA E 18 v_now_marks), (q_acts, cA E 350 a46_2)]) hZ (c_X1_aliveCount E q_now q_now_weights q_now_marks q_now_ageing v_now_people x82 x61 v_now_mornings v_now_years _ h) rfl dX3_hunt_89 rfl rfl rfl rfl rfl (Nat.le_of_ble_eq_true rfl) (Nat.le_of_ble_eq_true rfl) (Nat.le_of_ble_eq_true rfl) rfl rfl (Nat.le_of_ble_eq_true rfl) (Nat.le_of_ble_eq_true rfl) [1] [0, 2, 3, 4] rfl rfl (by decide) (by decide) (by decide) (fun r89 w89 hw => ?_)
            obtain ⟨rfl, h⟩ := hw
            refine x_ws (ws' := [(q_this, cO 3 [.ref q_text, .ref q_now, .ref q_trial, .ref q_choosing, .ref q_acts, .int a46_0, .int a46_1, .ref q_slots, .ref q_isKept, .ref q_heardPerson, .ref q_heardIs, .int v_heardCount, .long v_seed]), (q_now, cO 1 [.int v_now_people, .ref q_now_weights, .ref q_now_marks, .ref q_now_ageing, .int x82, .int x61, .int v_now_mornings, .int v_now_years]), (q_now_weights, cA E 3 v_now_weights), (q_now_marks, cA E 18 v_now_marks), (q_acts, cA E 350 a46_2)]) [0, 4, 1, 2, 3] rfl (by decide) ?_
            exact hRet _ _ _ _ dX3_hunt_92 ⟨_, _, _, _, _, rfl, h⟩
        · replace h := h.2 c39
          refine x_bipush (v := (-3)) (pc' := 44) hZ (by decide) dX3_hunt_42 rfl ?_
          exact hRet _ _ _ _ dX3_hunt_44 ⟨_, _, _, _, _, rfl, h⟩
    · replace h := h.2 c14
      refine x_bipush (v := (-2)) (pc' := 19) hZ (by decide) dX3_hunt_17 rfl ?_
      exact hRet _ _ _ _ dX3_hunt_19 ⟨_, _, _, _, _, rfl, h⟩
  · replace h := h.2 c8
    refine x_iconst (v := (-1)) (pc' := 12) hZ (by decide) dX3_hunt_11 rfl ?_
    exact hRet _ _ _ _ dX3_hunt_12 ⟨_, _, _, _, _, rfl, h⟩
set_option maxHeartbeats 4000000 in
set_option maxRecDepth 100000 in
theorem c_X3_undo (E : XE) (q_this : Nat) (q_text : Nat) (q_now : Nat) (q_trial : Nat) (q_choosing : Nat) (q_acts : Nat) (q_slots : Nat) (q_isKept : Nat) (q_heardPerson : Nat) (q_heardIs : Nat) (q_now_weights : Nat) (q_now_marks : Nat) (q_now_ageing : Nat) (v_nextAct : Int32) (v_actCount : Int32) (v_heardCount : Int32) (v_seed : Int64) (v_now_people : Int32) (v_now_alive : Int32) (v_now_reported : Int32) (v_now_mornings : Int32) (v_now_years : Int32) (v_now_weights : Nat → Int32) (v_now_marks : Nat → Int32) (v_acts : Nat → Int32) (post : Int32 → Int32 → Int32 → Int32 → Int32 → Int32 → Int32 → (Nat → Int32) → (Nat → Int32) → Prop) (h : p_X3_undo v_nextAct v_actCount v_now_alive v_now_reported v_now_mornings v_now_years v_now_weights v_now_marks v_acts post) : ConI E yX3_undo cX3_undo 1 .int { frames := 2, cells := 0, slots := 0, locals := 42 } 0 0 [.ref q_this] [(q_this, cO 3 [.ref q_text, .ref q_now, .ref q_trial, .ref q_choosing, .ref q_acts, .int v_nextAct, .int v_actCount, .ref q_slots, .ref q_isKept, .ref q_heardPerson, .ref q_heardIs, .int v_heardCount, .long v_seed]), (q_now, cO 1 [.int v_now_people, .ref q_now_weights, .ref q_now_marks, .ref q_now_ageing, .int v_now_alive, .int v_now_reported, .int v_now_mornings, .int v_now_years]), (q_now_weights, cA E 3 v_now_weights), (q_now_marks, cA E 18 v_now_marks), (q_acts, cA E 350 v_acts)] (fun r w => ∃ (u_nextAct : Int32) (u_actCount : Int32) (u_now_alive : Int32) (u_now_reported : Int32) (u_now_mornings : Int32) (u_now_years : Int32) (u_now_weights : Nat → Int32) (u_now_marks : Nat → Int32), w = [(q_this, cO 3 [.ref q_text, .ref q_now, .ref q_trial, .ref q_choosing, .ref q_acts, .int u_nextAct, .int u_actCount, .ref q_slots, .ref q_isKept, .ref q_heardPerson, .ref q_heardIs, .int v_heardCount, .long v_seed]), (q_now, cO 1 [.int v_now_people, .ref q_now_weights, .ref q_now_marks, .ref q_now_ageing, .int u_now_alive, .int u_now_reported, .int u_now_mornings, .int u_now_years]), (q_now_weights, cA E 3 u_now_weights), (q_now_marks, cA E 18 u_now_marks), (q_acts, cA E 350 v_acts)] ∧ post r u_nextAct u_actCount u_now_alive u_now_reported u_now_mornings u_now_years u_now_weights u_now_marks) := by
  refine ConI.of (by decide +kernel) (Nat.le_of_ble_eq_true rfl) (fun Z hZ hI hRet => ?_)
  replace hZ : XOK E Z RX3 cX3_undo 1 { frames := 2, cells := 0, slots := 0, locals := 42 } := hZ
  clear hI
  show XW E Z 0 0 [(q_this, cO 3 [.ref q_text, .ref q_now, .ref q_trial, .ref q_choosing, .ref q_acts, .int v_nextAct, .int v_actCount, .ref q_slots, .ref q_isKept, .ref q_heardPerson, .ref q_heardIs, .int v_heardCount, .long v_seed]), (q_now, cO 1 [.int v_now_people, .ref q_now_weights, .ref q_now_marks, .ref q_now_ageing, .int v_now_alive, .int v_now_reported, .int v_now_mornings, .int v_now_years]), (q_now_weights, cA E 3 v_now_weights), (q_now_marks, cA E 18 v_now_marks), (q_acts, cA E 350 v_acts)] [(0, .ref q_this)] [] 0
  unfold p_X3_undo at h
  refine x_aload_n (pc' := 1) hZ dX3_undo_0 rfl 0 rfl ?_
  refine g_RX3_41 (pc' := 4) hZ dX3_undo_1 rfl 0 rfl rfl ?_
  refine x_if_ne (tgt := 10) (pc' := 7) hZ dX3_undo_4 (by decide) rfl (fun c4 => ?_) (fun c4 => ?_)
  · replace h := h.1 c4
    refine x_aload_n (pc' := 11) hZ dX3_undo_10 rfl 0 rfl ?_
    refine x_aload_n (pc' := 12) hZ dX3_undo_11 rfl 0 rfl ?_
    refine g_RX3_37 (pc' := 15) hZ dX3_undo_12 rfl 0 rfl rfl ?_
    refine x_bipush (v := 14) (pc' := 17) hZ (by decide) dX3_undo_15 rfl ?_
    refine x_iadd (pc' := 18) hZ dX3_undo_17 rfl ?_
    refine x_iconst (v := 1) (pc' := 19) hZ (by decide) dX3_undo_18 rfl ?_
    refine x_isub (pc' := 20) hZ dX3_undo_19 rfl ?_
    refine x_bipush (v := 14) (pc' := 22) hZ (by decide) dX3_undo_20 rfl ?_
    refine x_irem (pc' := 23) hZ (by decide) dX3_undo_22 rfl ?_
    refine x_topi (fun x23 e23 => ?_)
    replace h := h x23 e23
    refine s_RX3_37 (pc' := 26) (ws' := [(q_this, cO 3 [.ref q_text, .ref q_now, .ref q_trial, .ref q_choosing, .ref q_acts, .int x23, .int v_actCount, .ref q_slots, .ref q_isKept, .ref q_heardPerson, .ref q_heardIs, .int v_heardCount, .long v_seed]), (q_now, cO 1 [.int v_now_people, .ref q_now_weights, .ref q_now_marks, .ref q_now_ageing, .int v_now_alive, .int v_now_reported, .int v_now_mornings, .int v_now_years]), (q_now_weights, cA E 3 v_now_weights), (q_now_marks, cA E 18 v_now_marks), (q_acts, cA E 350 v_acts)]) hZ dX3_undo_23 rfl 0 rfl (Nat.le_of_ble_eq_true rfl) rfl ?_
    refine x_aload_n (pc' := 27) hZ dX3_undo_26 rfl 0 rfl ?_
    refine x_dup (pc' := 28) hZ dX3_undo_27 rfl rfl ?_
    refine g_RX3_41 (pc' := 31) hZ dX3_undo_28 rfl 0 rfl rfl ?_
    refine x_iconst (v := 1) (pc' := 32) hZ (by decide) dX3_undo_31 rfl ?_
    refine x_isub (pc' := 33) hZ dX3_undo_32 rfl ?_
    refine x_topi (fun x33 e33 => ?_)
    replace h := h x33 e33
    refine s_RX3_41 (pc' := 36) (ws' := [(q_this, cO 3 [.ref q_text, .ref q_now, .ref q_trial, .ref q_choosing, .ref q_acts, .int x23, .int x33, .ref q_slots, .ref q_isKept, .ref q_heardPerson, .ref q_heardIs, .int v_heardCount, .long v_seed]), (q_now, cO 1 [.int v_now_people, .ref q_now_weights, .ref q_now_marks, .ref q_now_ageing, .int v_now_alive, .int v_now_reported, .int v_now_mornings, .int v_now_years]), (q_now_weights, cA E 3 v_now_weights), (q_now_marks, cA E 18 v_now_marks), (q_acts, cA E 350 v_acts)]) hZ dX3_undo_33 rfl 0 rfl (Nat.le_of_ble_eq_true rfl) rfl ?_
    refine x_aload_n (pc' := 37) hZ dX3_undo_36 rfl 0 rfl ?_
    refine g_RX3_19 (pc' := 40) hZ dX3_undo_37 rfl 0 rfl rfl ?_
    refine x_aload_n (pc' := 41) hZ dX3_undo_40 rfl 0 rfl ?_
    refine g_RX3_33 (pc' := 44) hZ dX3_undo_41 rfl 0 rfl rfl ?_
    refine x_aload_n (pc' := 45) hZ dX3_undo_44 rfl 0 rfl ?_
    refine g_RX3_37 (pc' := 48) hZ dX3_undo_45 rfl 0 rfl rfl ?_
    refine k_RX3_135 (pc' := 51) (q0 := 1) (as := [.ref q_acts, .int x23]) (rest := []) (c' := 0) (n' := 0) (wr := [(q_this, cO 3 [.ref q_text, .ref q_now, .ref q_trial, .ref q_choosing, .ref q_acts, .int x23, .int x33, .ref q_slots, .ref q_isKept, .ref q_heardPerson, .ref q_heardIs, .int v_heardCount, .long v_seed])]) hZ (c_X1_unpackFrom E q_now q_now_weights q_now_marks q_now_ageing q_acts 350 v_now_people v_now_alive v_now_reported v_now_mornings v_now_years v_now_weights v_now_marks v_acts x23 _ h) rfl dX3_undo_48 rfl rfl rfl rfl rfl (Nat.le_of_ble_eq_true rfl) (Nat.le_of_ble_eq_true rfl) (Nat.le_of_ble_eq_true rfl) rfl rfl (Nat.le_of_ble_eq_true rfl) (Nat.le_of_ble_eq_true rfl) [1, 2, 3, 4] [0] rfl rfl (by decide) (by decide) (by decide) (fun w48 hw => ?_)
    obtain ⟨a48_0, a48_1, a48_2, a48_3, a48_4, a48_5, rfl, h⟩ := hw
    refine x_ws (ws' := [(q_this, cO 3 [.ref q_text, .ref q_now, .ref q_trial, .ref q_choosing, .ref q_acts, .int x23, .int x33, .ref q_slots, .ref q_isKept, .ref q_heardPerson, .ref q_heardIs, .int v_heardCount, .long v_seed]), (q_now, cO 1 [.int v_now_people, .ref q_now_weights, .ref q_now_marks, .ref q_now_ageing, .int a48_0, .int a48_1, .int a48_2, .int a48_3]), (q_now_weights, cA E 3 a48_4), (q_now_marks, cA E 18 a48_5), (q_acts, cA E 350 v_acts)]) [0, 1, 2, 3, 4] rfl (by decide) ?_
    refine x_aload_n (pc' := 52) hZ dX3_undo_51 rfl 0 rfl ?_
    refine g_RX3_41 (pc' := 55) hZ dX3_undo_52 rfl 0 rfl rfl ?_
    exact hRet _ _ _ _ dX3_undo_55 ⟨_, _, _, _, _, _, _, _, rfl, h⟩
  · replace h := h.2 c4
    refine x_bipush (v := (-3)) (pc' := 9) hZ (by decide) dX3_undo_7 rfl ?_
    exact hRet _ _ _ _ dX3_undo_9 ⟨_, _, _, _, _, _, _, _, rfl, h⟩
set_option maxHeartbeats 4000000 in
set_option maxRecDepth 100000 in
theorem t_X3_judged_19 (E : XE) (Z : ZC) (q_this : Nat) (q_text : Nat) (q_now : Nat) (q_trial : Nat) (q_choosing : Nat) (q_acts : Nat) (q_slots : Nat) (q_isKept : Nat) (q_heardPerson : Nat) (q_heardIs : Nat) (q_now_weights : Nat) (q_now_marks : Nat) (q_now_ageing : Nat) (q_trial_weights : Nat) (q_trial_marks : Nat) (q_trial_ageing : Nat) (v_nextAct : Int32) (v_actCount : Int32) (v_heardCount : Int32) (v_seed : Int64) (v_now_people : Int32) (v_now_alive : Int32) (v_now_reported : Int32) (v_now_mornings : Int32) (v_now_years : Int32) (v_now_weights : Nat → Int32) (v_now_marks : Nat → Int32) (v_now_ageing : Nat → Int32) (v_trial_people : Int32) (v_trial_alive : Int32) (v_trial_reported : Int32) (v_trial_mornings : Int32) (v_trial_years : Int32) (v_trial_weights : Nat → Int32) (v_trial_marks : Nat → Int32) (v_trial_ageing : Nat → Int32) (l1 : Int32) (l2 : Int32) {K : Int32 → Int32 → Prop} (hZ : XOK E Z RX3 cX3_judged 6 { frames := 3, cells := 0, slots := 0, locals := 68 }) : ∀ (k : Nat) (l3 : Int32) (l4 : Int32), wl (fun rec v => b_X3_judged_19 l1 K rec v.1 v.2) k (l3, l4) → (∀ (l3 : Int32) (l4 : Int32), K l3 l4 → XW E Z 0 0 [(q_this, cO 3 [.ref q_text, .ref q_now, .ref q_trial, .ref q_choosing, .ref q_acts, .int v_nextAct, .int v_actCount, .ref q_slots, .ref q_isKept, .ref q_heardPerson, .ref q_heardIs, .int v_heardCount, .long v_seed]), (q_now, cO 1 [.int v_now_people, .ref q_now_weights, .ref q_now_marks, .ref q_now_ageing, .int v_now_alive, .int v_now_reported, .int v_now_mornings, .int v_now_years]), (q_now_weights, cA E 3 v_now_weights), (q_now_marks, cA E 18 v_now_marks), (q_now_ageing, cA E 6 v_now_ageing), (q_trial, cO 1 [.int v_trial_people, .ref q_trial_weights, .ref q_trial_marks, .ref q_trial_ageing, .int v_trial_alive, .int v_trial_reported, .int v_trial_mornings, .int v_trial_years]), (q_trial_weights, cA E 3 v_trial_weights), (q_trial_marks, cA E 18 v_trial_marks), (q_trial_ageing, cA E 6 v_trial_ageing)] [(0, .ref q_this), (1, .int l1), (2, .int l2), (3, .int l3)] [] 36) → XW E Z 0 0 [(q_this, cO 3 [.ref q_text, .ref q_now, .ref q_trial, .ref q_choosing, .ref q_acts, .int v_nextAct, .int v_actCount, .ref q_slots, .ref q_isKept, .ref q_heardPerson, .ref q_heardIs, .int v_heardCount, .long v_seed]), (q_now, cO 1 [.int v_now_people, .ref q_now_weights, .ref q_now_marks, .ref q_now_ageing, .int v_now_alive, .int v_now_reported, .int v_now_mornings, .int v_now_years]), (q_now_weights, cA E 3 v_now_weights), (q_now_marks, cA E 18 v_now_marks), (q_now_ageing, cA E 6 v_now_ageing), (q_trial, cO 1 [.int v_trial_people, .ref q_trial_weights, .ref q_trial_marks, .ref q_trial_ageing, .int v_trial_alive, .int v_trial_reported, .int v_trial_mornings, .int v_trial_years]), (q_trial_weights, cA E 3 v_trial_weights), (q_trial_marks, cA E 18 v_trial_marks), (q_trial_ageing, cA E 6 v_trial_ageing)] [(0, .ref q_this), (1, .int l1), (2, .int l2), (3, .int l3), (4, .int l4)] [] 19 := by
  intro k
  induction k with
  | zero =>
    intro l3 l4 h
    exact h.elim
  | succ k ih =>
    intro l3 l4 h hK
    replace h := wl_succ h
    try dsimp only at h
    unfold b_X3_judged_19 at h
    refine x_iload (pc' := 21) hZ dX3_judged_19 rfl 4 rfl ?_
    refine x_iload_n (pc' := 22) hZ dX3_judged_21 rfl 1 rfl ?_
    refine x_icmp_ge (tgt := 36) (pc' := 25) hZ dX3_judged_22 (by decide) rfl (fun c22 => ?_) (fun c22 => ?_)
    · replace h := h.1 c22
      refine x_lv [0, 1, 2, 3] (lv' := [(0, .ref q_this), (1, .int l1), (2, .int l2), (3, .int l3)]) rfl ?_
      exact hK l3 l4 h
    · replace h := h.2 c22
      refine x_iload_n (pc' := 26) hZ dX3_judged_25 rfl 3 rfl ?_
      refine x_bipush (v := 10) (pc' := 28) hZ (by decide) dX3_judged_26 rfl ?_
      refine x_imul (pc' := 29) hZ dX3_judged_28 rfl ?_
      refine x_topi (fun x29 e29 => ?_)
      replace h := h x29 e29
      refine x_istore_n (i := 3) (pc' := 30) (lv' := [(3, .int x29), (0, .ref q_this), (1, .int l1), (2, .int l2), (4, .int l4)]) hZ dX3_judged_29 rfl rfl (by decide) rfl ?_
      obtain ⟨x30, e30⟩ : ∃ y : Int32, y = l4 + 1 := ⟨_, rfl⟩
      replace h := h x30 e30
      refine x_iinc (i := 4) (v := x30) (pc' := 33) (lv' := [(4, .int x30), (3, .int x29), (0, .ref q_this), (1, .int l1), (2, .int l2)]) hZ dX3_judged_30 rfl 4 rfl (by rw [e30]; rfl) (by decide) rfl ?_
      refine x_goto (pc' := 19) hZ dX3_judged_33 (by decide) ?_
      refine x_lv [2, 3, 4, 1, 0] (lv' := [(0, .ref q_this), (1, .int l1), (2, .int l2), (3, .int x29), (4, .int x30)]) rfl ?_
      exact ih x29 x30 h hK
set_option maxHeartbeats 4000000 in
set_option maxRecDepth 100000 in
theorem t_X3_judged_65 (E : XE) (Z : ZC) (q_this : Nat) (q_text : Nat) (q_now : Nat) (q_trial : Nat) (q_choosing : Nat) (q_acts : Nat) (q_slots : Nat) (q_isKept : Nat) (q_heardPerson : Nat) (q_heardIs : Nat) (q_now_weights : Nat) (q_now_marks : Nat) (q_now_ageing : Nat) (q_trial_weights : Nat) (q_trial_marks : Nat) (q_trial_ageing : Nat) (v_nextAct : Int32) (v_actCount : Int32) (v_heardCount : Int32) (v_seed : Int64) (v_now_people : Int32) (v_now_alive : Int32) (v_now_reported : Int32) (v_now_mornings : Int32) (v_now_years : Int32) (v_now_weights : Nat → Int32) (v_now_marks : Nat → Int32) (v_now_ageing : Nat → Int32) (v_trial_people : Int32) (v_trial_alive : Int32) (v_trial_reported : Int32) (v_trial_years : Int32) (v_trial_marks : Nat → Int32) (v_trial_ageing : Nat → Int32) (l1 : Int32) (l2 : Int32) {post : Int32 → Int32 → Int32 → Int32 → Int32 → Int32 → (Nat → Int32) → (Nat → Int32) → (Nat → Int32) → Prop} {K : Int32 → Int32 → Int32 → (Nat → Int32) → Prop} (hZ : XOK E Z RX3 cX3_judged 6 { frames := 3, cells := 0, slots := 0, locals := 68 }) (hRet : RetI E Z cX3_judged 0 0 (fun r w => ∃ (u_trial_people : Int32) (u_trial_alive : Int32) (u_trial_reported : Int32) (u_trial_mornings : Int32) (u_trial_years : Int32) (u_trial_weights : Nat → Int32) (u_trial_marks : Nat → Int32) (u_trial_ageing : Nat → Int32), w = [(q_this, cO 3 [.ref q_text, .ref q_now, .ref q_trial, .ref q_choosing, .ref q_acts, .int v_nextAct, .int v_actCount, .ref q_slots, .ref q_isKept, .ref q_heardPerson, .ref q_heardIs, .int v_heardCount, .long v_seed]), (q_now, cO 1 [.int v_now_people, .ref q_now_weights, .ref q_now_marks, .ref q_now_ageing, .int v_now_alive, .int v_now_reported, .int v_now_mornings, .int v_now_years]), (q_now_weights, cA E 3 v_now_weights), (q_now_marks, cA E 18 v_now_marks), (q_now_ageing, cA E 6 v_now_ageing), (q_trial, cO 1 [.int u_trial_people, .ref q_trial_weights, .ref q_trial_marks, .ref q_trial_ageing, .int u_trial_alive, .int u_trial_reported, .int u_trial_mornings, .int u_trial_years]), (q_trial_weights, cA E 3 u_trial_weights), (q_trial_marks, cA E 18 u_trial_marks), (q_trial_ageing, cA E 6 u_trial_ageing)] ∧ post r u_trial_people u_trial_alive u_trial_reported u_trial_mornings u_trial_years u_trial_weights u_trial_marks u_trial_ageing)) : ∀ (k : Nat) (l3 : Int32) (l4 : Int32) (v_trial_mornings : Int32) (v_trial_weights : (Nat → Int32)), wl (fun rec v => b_X3_judged_65 l1 l2 v_trial_people v_trial_alive v_trial_reported v_trial_years v_trial_marks v_trial_ageing post K rec v.1 v.2.1 v.2.2.1 v.2.2.2) k (l3, l4, v_trial_mornings, v_trial_weights) → (∀ (l3 : Int32) (l4 : Int32) (v_trial_mornings : Int32) (v_trial_weights : (Nat → Int32)), K l3 l4 v_trial_mornings v_trial_weights → XW E Z 0 0 [(q_this, cO 3 [.ref q_text, .ref q_now, .ref q_trial, .ref q_choosing, .ref q_acts, .int v_nextAct, .int v_actCount, .ref q_slots, .ref q_isKept, .ref q_heardPerson, .ref q_heardIs, .int v_heardCount, .long v_seed]), (q_now, cO 1 [.int v_now_people, .ref q_now_weights, .ref q_now_marks, .ref q_now_ageing, .int v_now_alive, .int v_now_reported, .int v_now_mornings, .int v_now_years]), (q_now_weights, cA E 3 v_now_weights), (q_now_marks, cA E 18 v_now_marks), (q_now_ageing, cA E 6 v_now_ageing), (q_trial, cO 1 [.int v_trial_people, .ref q_trial_weights, .ref q_trial_marks, .ref q_trial_ageing, .int v_trial_alive, .int v_trial_reported, .int v_trial_mornings, .int v_trial_years]), (q_trial_weights, cA E 3 v_trial_weights), (q_trial_marks, cA E 18 v_trial_marks), (q_trial_ageing, cA E 6 v_trial_ageing)] [] [] 126) → XW E Z 0 0 [(q_this, cO 3 [.ref q_text, .ref q_now, .ref q_trial, .ref q_choosing, .ref q_acts, .int v_nextAct, .int v_actCount, .ref q_slots, .ref q_isKept, .ref q_heardPerson, .ref q_heardIs, .int v_heardCount, .long v_seed]), (q_now, cO 1 [.int v_now_people, .ref q_now_weights, .ref q_now_marks, .ref q_now_ageing, .int v_now_alive, .int v_now_reported, .int v_now_mornings, .int v_now_years]), (q_now_weights, cA E 3 v_now_weights), (q_now_marks, cA E 18 v_now_marks), (q_now_ageing, cA E 6 v_now_ageing), (q_trial, cO 1 [.int v_trial_people, .ref q_trial_weights, .ref q_trial_marks, .ref q_trial_ageing, .int v_trial_alive, .int v_trial_reported, .int v_trial_mornings, .int v_trial_years]), (q_trial_weights, cA E 3 v_trial_weights), (q_trial_marks, cA E 18 v_trial_marks), (q_trial_ageing, cA E 6 v_trial_ageing)] [(0, .ref q_this), (1, .int l1), (2, .int l2), (3, .int l3), (4, .int l4)] [] 65 := by
  intro k
  induction k with
  | zero =>
    intro l3 l4 v_trial_mornings v_trial_weights h
    exact h.elim
  | succ k ih =>
    intro l3 l4 v_trial_mornings v_trial_weights h hK
    replace h := wl_succ h
    try dsimp only at h
    unfold b_X3_judged_65 at h
    refine x_iload (pc' := 67) hZ dX3_judged_65 rfl 4 rfl ?_
    refine x_iload_n (pc' := 68) hZ dX3_judged_67 rfl 1 rfl ?_
    refine x_icmp_ge (tgt := 126) (pc' := 71) hZ dX3_judged_68 (by decide) rfl (fun c68 => ?_) (fun c68 => ?_)
    · replace h := h.1 c68
      refine x_lv [] (lv' := []) rfl ?_
      exact hK l3 l4 v_trial_mornings v_trial_weights h
    · replace h := h.2 c68
      refine x_iload_n (pc' := 72) hZ dX3_judged_71 rfl 2 rfl ?_
      refine x_iload_n (pc' := 73) hZ dX3_judged_72 rfl 3 rfl ?_
      obtain ⟨h73, h⟩ := h
      refine x_idiv (pc' := 74) hZ h73 dX3_judged_73 rfl ?_
      refine x_bipush (v := 10) (pc' := 76) hZ (by decide) dX3_judged_74 rfl ?_
      refine x_irem (pc' := 77) hZ (by decide) dX3_judged_76 rfl ?_
      refine x_topi (fun x77 e77 => ?_)
      replace h := h x77 e77
      refine x_istore (i := 5) (pc' := 79) (lv' := [(5, .int x77), (0, .ref q_this), (1, .int l1), (2, .int l2), (3, .int l3), (4, .int l4)]) hZ dX3_judged_77 rfl (by decide) rfl ?_
      refine x_aload_n (pc' := 80) hZ dX3_judged_79 rfl 1 rfl ?_
      refine g_RX3_23 (pc' := 83) hZ dX3_judged_80 rfl 0 rfl rfl ?_
      refine x_aload_n (pc' := 84) hZ dX3_judged_83 rfl 1 rfl ?_
      refine g_RX3_23 (pc' := 87) hZ dX3_judged_84 rfl 0 rfl rfl ?_
      refine g_RX3_85 (pc' := 90) hZ dX3_judged_87 rfl 5 rfl rfl ?_
      refine k_RX3_91 (pc' := 93) (q0 := 5) (as := [.int v_trial_alive]) (rest := []) (c' := 0) (n' := 0) (wr := [(q_this, cO 3 [.ref q_text, .ref q_now, .ref q_trial, .ref q_choosing, .ref q_acts, .int v_nextAct, .int v_actCount, .ref q_slots, .ref q_isKept, .ref q_heardPerson, .ref q_heardIs, .int v_heardCount, .long v_seed]), (q_now, cO 1 [.int v_now_people, .ref q_now_weights, .ref q_now_marks, .ref q_now_ageing, .int v_now_alive, .int v_now_reported, .int v_now_mornings, .int v_now_years]), (q_now_weights, cA E 3 v_now_weights), (q_now_marks, cA E 18 v_now_marks), (q_now_ageing, cA E 6 v_now_ageing), (q_trial_ageing, cA E 6 v_trial_ageing)]) hZ (c_X1_fairestOf E q_trial q_trial_weights q_trial_marks q_trial_ageing v_trial_people v_trial_alive v_trial_reported v_trial_mornings v_trial_years v_trial_weights v_trial_marks v_trial_alive _ h) rfl dX3_judged_90 rfl rfl rfl rfl rfl (Nat.le_of_ble_eq_true rfl) (Nat.le_of_ble_eq_true rfl) (Nat.le_of_ble_eq_true rfl) rfl rfl (Nat.le_of_ble_eq_true rfl) (Nat.le_of_ble_eq_true rfl) [5, 6, 7] [0, 1, 2, 3, 4, 8] rfl rfl (by decide) (by decide) (by decide) (fun r90 w90 hw => ?_)
      obtain ⟨rfl, h⟩ := hw
      refine x_ws (ws' := [(q_this, cO 3 [.ref q_text, .ref q_now, .ref q_trial, .ref q_choosing, .ref q_acts, .int v_nextAct, .int v_actCount, .ref q_slots, .ref q_isKept, .ref q_heardPerson, .ref q_heardIs, .int v_heardCount, .long v_seed]), (q_now, cO 1 [.int v_now_people, .ref q_now_weights, .ref q_now_marks, .ref q_now_ageing, .int v_now_alive, .int v_now_reported, .int v_now_mornings, .int v_now_years]), (q_now_weights, cA E 3 v_now_weights), (q_now_marks, cA E 18 v_now_marks), (q_now_ageing, cA E 6 v_now_ageing), (q_trial, cO 1 [.int v_trial_people, .ref q_trial_weights, .ref q_trial_marks, .ref q_trial_ageing, .int v_trial_alive, .int v_trial_reported, .int v_trial_mornings, .int v_trial_years]), (q_trial_weights, cA E 3 v_trial_weights), (q_trial_marks, cA E 18 v_trial_marks), (q_trial_ageing, cA E 6 v_trial_ageing)]) [0, 1, 2, 3, 4, 6, 7, 8, 5] rfl (by decide) ?_
      refine x_iload (pc' := 95) hZ dX3_judged_93 rfl 0 rfl ?_
      refine x_ishr (pc' := 96) hZ dX3_judged_95 rfl ?_
      refine x_iconst (v := 1) (pc' := 97) hZ (by decide) dX3_judged_96 rfl ?_
      refine x_iand (pc' := 98) hZ dX3_judged_97 rfl ?_
      refine x_if_ne (tgt := 104) (pc' := 101) hZ dX3_judged_98 (by decide) rfl (fun c98 => ?_) (fun c98 => ?_)
      · replace h := h.1 c98
        refine x_aload_n (pc' := 105) hZ dX3_judged_104 rfl 1 rfl ?_
        refine g_RX3_23 (pc' := 108) hZ dX3_judged_105 rfl 0 rfl rfl ?_
        refine k_RX3_126 (pc' := 111) (q0 := 5) (as := []) (rest := []) (c' := 0) (n' := 0) (wr := [(q_this, cO 3 [.ref q_text, .ref q_now, .ref q_trial, .ref q_choosing, .ref q_acts, .int v_nextAct, .int v_actCount, .ref q_slots, .ref q_isKept, .ref q_heardPerson, .ref q_heardIs, .int v_heardCount, .long v_seed]), (q_now, cO 1 [.int v_now_people, .ref q_now_weights, .ref q_now_marks, .ref q_now_ageing, .int v_now_alive, .int v_now_reported, .int v_now_mornings, .int v_now_years]), (q_now_weights, cA E 3 v_now_weights), (q_now_marks, cA E 18 v_now_marks), (q_now_ageing, cA E 6 v_now_ageing), (q_trial_ageing, cA E 6 v_trial_ageing)]) hZ (c_X1_passMorning E q_trial q_trial_weights q_trial_marks q_trial_ageing v_trial_people v_trial_alive v_trial_reported v_trial_mornings v_trial_years v_trial_weights v_trial_marks _ h) rfl dX3_judged_108 rfl rfl rfl rfl rfl (Nat.le_of_ble_eq_true rfl) (Nat.le_of_ble_eq_true rfl) (Nat.le_of_ble_eq_true rfl) rfl rfl (Nat.le_of_ble_eq_true rfl) (Nat.le_of_ble_eq_true rfl) [5, 6, 7] [0, 1, 2, 3, 4, 8] rfl rfl (by decide) (by decide) (by decide) (fun w108 hw => ?_)
        obtain ⟨a108_0, a108_1, rfl, h⟩ := hw
        refine x_ws (ws' := [(q_this, cO 3 [.ref q_text, .ref q_now, .ref q_trial, .ref q_choosing, .ref q_acts, .int v_nextAct, .int v_actCount, .ref q_slots, .ref q_isKept, .ref q_heardPerson, .ref q_heardIs, .int v_heardCount, .long v_seed]), (q_now, cO 1 [.int v_now_people, .ref q_now_weights, .ref q_now_marks, .ref q_now_ageing, .int v_now_alive, .int v_now_reported, .int v_now_mornings, .int v_now_years]), (q_now_weights, cA E 3 v_now_weights), (q_now_marks, cA E 18 v_now_marks), (q_now_ageing, cA E 6 v_now_ageing), (q_trial, cO 1 [.int v_trial_people, .ref q_trial_weights, .ref q_trial_marks, .ref q_trial_ageing, .int v_trial_alive, .int v_trial_reported, .int a108_0, .int v_trial_years]), (q_trial_weights, cA E 3 a108_1), (q_trial_marks, cA E 18 v_trial_marks), (q_trial_ageing, cA E 6 v_trial_ageing)]) [0, 1, 2, 3, 4, 6, 7, 8, 5] rfl (by decide) ?_
        refine x_iconst (v := 1) (pc' := 112) hZ (by decide) dX3_judged_111 rfl ?_
        refine x_iload_n (pc' := 113) hZ dX3_judged_112 rfl 4 rfl ?_
        refine x_bipush (v := 10) (pc' := 115) hZ (by decide) dX3_judged_113 rfl ?_
        refine x_idiv (pc' := 116) hZ (by decide) dX3_judged_115 rfl ?_
        refine x_mmax (pc' := 119) hZ kl_RX3_143 dX3_judged_116 rfl (Nat.le_of_ble_eq_true rfl) (Nat.le_of_ble_eq_true rfl) (Nat.le_of_ble_eq_true rfl) (Nat.le_of_ble_eq_true rfl) ?_
        refine x_topi (fun x119 e119 => ?_)
        replace h := h x119 e119
        refine x_istore_n (i := 3) (pc' := 120) (lv' := [(3, .int x119), (5, .int x77), (0, .ref q_this), (1, .int l1), (2, .int l2), (4, .int l4)]) hZ dX3_judged_119 rfl rfl (by decide) rfl ?_
        obtain ⟨x120, e120⟩ : ∃ y : Int32, y = l4 + 1 := ⟨_, rfl⟩
        replace h := h x120 e120
        refine x_iinc (i := 4) (v := x120) (pc' := 123) (lv' := [(4, .int x120), (3, .int x119), (5, .int x77), (0, .ref q_this), (1, .int l1), (2, .int l2)]) hZ dX3_judged_120 rfl 5 rfl (by rw [e120]; rfl) (by decide) rfl ?_
        refine x_goto (pc' := 65) hZ dX3_judged_123 (by decide) ?_
        refine x_lv [3, 4, 5, 1, 0] (lv' := [(0, .ref q_this), (1, .int l1), (2, .int l2), (3, .int x119), (4, .int x120)]) rfl ?_
        exact ih x119 x120 a108_0 a108_1 h hK
      · replace h := h.2 c98
        refine x_iload (pc' := 103) hZ dX3_judged_101 rfl 5 rfl ?_
        exact hRet _ _ _ _ dX3_judged_103 ⟨_, _, _, _, _, _, _, _, rfl, h⟩
set_option maxHeartbeats 4000000 in
set_option maxRecDepth 100000 in
theorem c_X3_judged (E : XE) (q_this : Nat) (q_text : Nat) (q_now : Nat) (q_trial : Nat) (q_choosing : Nat) (q_acts : Nat) (q_slots : Nat) (q_isKept : Nat) (q_heardPerson : Nat) (q_heardIs : Nat) (q_now_weights : Nat) (q_now_marks : Nat) (q_now_ageing : Nat) (q_trial_weights : Nat) (q_trial_marks : Nat) (q_trial_ageing : Nat) (v_nextAct : Int32) (v_actCount : Int32) (v_heardCount : Int32) (v_seed : Int64) (v_now_people : Int32) (v_now_alive : Int32) (v_now_reported : Int32) (v_now_mornings : Int32) (v_now_years : Int32) (v_now_weights : Nat → Int32) (v_now_marks : Nat → Int32) (v_now_ageing : Nat → Int32) (v_trial_people : Int32) (v_trial_alive : Int32) (v_trial_reported : Int32) (v_trial_mornings : Int32) (v_trial_years : Int32) (v_trial_weights : Nat → Int32) (v_trial_marks : Nat → Int32) (v_trial_ageing : Nat → Int32) (l1 : Int32) (l2 : Int32) (post : Int32 → Int32 → Int32 → Int32 → Int32 → Int32 → (Nat → Int32) → (Nat → Int32) → (Nat → Int32) → Prop) (h : p_X3_judged v_now_people v_now_alive v_now_reported v_now_mornings v_now_years v_now_weights v_now_marks v_now_ageing v_trial_people v_trial_alive v_trial_reported v_trial_mornings v_trial_years v_trial_weights v_trial_marks v_trial_ageing l1 l2 post) : ConI E yX3_judged cX3_judged 6 .int { frames := 3, cells := 0, slots := 0, locals := 68 } 0 0 [.ref q_this, .int l1, .int l2] [(q_this, cO 3 [.ref q_text, .ref q_now, .ref q_trial, .ref q_choosing, .ref q_acts, .int v_nextAct, .int v_actCount, .ref q_slots, .ref q_isKept, .ref q_heardPerson, .ref q_heardIs, .int v_heardCount, .long v_seed]), (q_now, cO 1 [.int v_now_people, .ref q_now_weights, .ref q_now_marks, .ref q_now_ageing, .int v_now_alive, .int v_now_reported, .int v_now_mornings, .int v_now_years]), (q_now_weights, cA E 3 v_now_weights), (q_now_marks, cA E 18 v_now_marks), (q_now_ageing, cA E 6 v_now_ageing), (q_trial, cO 1 [.int v_trial_people, .ref q_trial_weights, .ref q_trial_marks, .ref q_trial_ageing, .int v_trial_alive, .int v_trial_reported, .int v_trial_mornings, .int v_trial_years]), (q_trial_weights, cA E 3 v_trial_weights), (q_trial_marks, cA E 18 v_trial_marks), (q_trial_ageing, cA E 6 v_trial_ageing)] (fun r w => ∃ (u_trial_people : Int32) (u_trial_alive : Int32) (u_trial_reported : Int32) (u_trial_mornings : Int32) (u_trial_years : Int32) (u_trial_weights : Nat → Int32) (u_trial_marks : Nat → Int32) (u_trial_ageing : Nat → Int32), w = [(q_this, cO 3 [.ref q_text, .ref q_now, .ref q_trial, .ref q_choosing, .ref q_acts, .int v_nextAct, .int v_actCount, .ref q_slots, .ref q_isKept, .ref q_heardPerson, .ref q_heardIs, .int v_heardCount, .long v_seed]), (q_now, cO 1 [.int v_now_people, .ref q_now_weights, .ref q_now_marks, .ref q_now_ageing, .int v_now_alive, .int v_now_reported, .int v_now_mornings, .int v_now_years]), (q_now_weights, cA E 3 v_now_weights), (q_now_marks, cA E 18 v_now_marks), (q_now_ageing, cA E 6 v_now_ageing), (q_trial, cO 1 [.int u_trial_people, .ref q_trial_weights, .ref q_trial_marks, .ref q_trial_ageing, .int u_trial_alive, .int u_trial_reported, .int u_trial_mornings, .int u_trial_years]), (q_trial_weights, cA E 3 u_trial_weights), (q_trial_marks, cA E 18 u_trial_marks), (q_trial_ageing, cA E 6 u_trial_ageing)] ∧ post r u_trial_people u_trial_alive u_trial_reported u_trial_mornings u_trial_years u_trial_weights u_trial_marks u_trial_ageing) := by
  refine ConI.of (by decide +kernel) (Nat.le_of_ble_eq_true rfl) (fun Z hZ hI hRet => ?_)
  replace hZ : XOK E Z RX3 cX3_judged 6 { frames := 3, cells := 0, slots := 0, locals := 68 } := hZ
  clear hI
  show XW E Z 0 0 [(q_this, cO 3 [.ref q_text, .ref q_now, .ref q_trial, .ref q_choosing, .ref q_acts, .int v_nextAct, .int v_actCount, .ref q_slots, .ref q_isKept, .ref q_heardPerson, .ref q_heardIs, .int v_heardCount, .long v_seed]), (q_now, cO 1 [.int v_now_people, .ref q_now_weights, .ref q_now_marks, .ref q_now_ageing, .int v_now_alive, .int v_now_reported, .int v_now_mornings, .int v_now_years]), (q_now_weights, cA E 3 v_now_weights), (q_now_marks, cA E 18 v_now_marks), (q_now_ageing, cA E 6 v_now_ageing), (q_trial, cO 1 [.int v_trial_people, .ref q_trial_weights, .ref q_trial_marks, .ref q_trial_ageing, .int v_trial_alive, .int v_trial_reported, .int v_trial_mornings, .int v_trial_years]), (q_trial_weights, cA E 3 v_trial_weights), (q_trial_marks, cA E 18 v_trial_marks), (q_trial_ageing, cA E 6 v_trial_ageing)] [(0, .ref q_this), (1, .int l1), (2, .int l2)] [] 0
  unfold p_X3_judged at h
  refine x_iload_n (pc' := 1) hZ dX3_judged_0 rfl 1 rfl ?_
  refine x_iconst (v := 1) (pc' := 2) hZ (by decide) dX3_judged_1 rfl ?_
  refine x_icmp_lt (tgt := 11) (pc' := 5) hZ dX3_judged_2 (by decide) rfl (fun c2 => ?_) (fun c2 => ?_)
  · replace h := h.1 c2
    refine x_bipush (v := (-2)) (pc' := 13) hZ (by decide) dX3_judged_11 rfl ?_
    exact hRet _ _ _ _ dX3_judged_13 ⟨_, _, _, _, _, _, _, _, rfl, h⟩
  · replace h := h.2 c2
    refine x_iload_n (pc' := 6) hZ dX3_judged_5 rfl 1 rfl ?_
    refine x_bipush (v := 8) (pc' := 8) hZ (by decide) dX3_judged_6 rfl ?_
    refine x_icmp_le (tgt := 14) (pc' := 11) hZ dX3_judged_8 (by decide) rfl (fun c8 => ?_) (fun c8 => ?_)
    · replace h := h.1 c8
      refine x_iconst (v := 1) (pc' := 15) hZ (by decide) dX3_judged_14 rfl ?_
      refine x_istore_n (i := 3) (pc' := 16) (lv' := [(3, .int 1), (0, .ref q_this), (1, .int l1), (2, .int l2)]) hZ dX3_judged_15 rfl rfl (by decide) rfl ?_
      refine x_iconst (v := 1) (pc' := 17) hZ (by decide) dX3_judged_16 rfl ?_
      refine x_istore (i := 4) (pc' := 19) (lv' := [(4, .int 1), (3, .int 1), (0, .ref q_this), (1, .int l1), (2, .int l2)]) hZ dX3_judged_17 rfl (by decide) rfl ?_
      refine x_lv [2, 3, 4, 1, 0] (lv' := [(0, .ref q_this), (1, .int l1), (2, .int l2), (3, .int 1), (4, .int 1)]) rfl ?_
      obtain ⟨k19, h⟩ := h
      refine t_X3_judged_19 E Z q_this q_text q_now q_trial q_choosing q_acts q_slots q_isKept q_heardPerson q_heardIs q_now_weights q_now_marks q_now_ageing q_trial_weights q_trial_marks q_trial_ageing v_nextAct v_actCount v_heardCount v_seed v_now_people v_now_alive v_now_reported v_now_mornings v_now_years v_now_weights v_now_marks v_now_ageing v_trial_people v_trial_alive v_trial_reported v_trial_mornings v_trial_years v_trial_weights v_trial_marks v_trial_ageing l1 l2 hZ  _ 1 1 h (fun l3_19 l4_19 h => ?_)
      refine x_iload_n (pc' := 37) hZ dX3_judged_36 rfl 2 rfl ?_
      refine x_if_lt (tgt := 48) (pc' := 40) hZ dX3_judged_37 (by decide) rfl (fun c37 => ?_) (fun c37 => ?_)
      · replace h := h.1 c37
        refine x_bipush (v := (-2)) (pc' := 50) hZ (by decide) dX3_judged_48 rfl ?_
        exact hRet _ _ _ _ dX3_judged_50 ⟨_, _, _, _, _, _, _, _, rfl, h⟩
      · replace h := h.2 c37
        refine x_iload_n (pc' := 41) hZ dX3_judged_40 rfl 2 rfl ?_
        refine x_iload_n (pc' := 42) hZ dX3_judged_41 rfl 3 rfl ?_
        obtain ⟨h42, h⟩ := h
        refine x_idiv (pc' := 43) hZ h42 dX3_judged_42 rfl ?_
        refine x_bipush (v := 9) (pc' := 45) hZ (by decide) dX3_judged_43 rfl ?_
        refine x_icmp_le (tgt := 51) (pc' := 48) hZ dX3_judged_45 (by decide) rfl (fun c45 => ?_) (fun c45 => ?_)
        · replace h := h.1 c45
          refine x_aload_n (pc' := 52) hZ dX3_judged_51 rfl 0 rfl ?_
          refine g_RX3_23 (pc' := 55) hZ dX3_judged_52 rfl 0 rfl rfl ?_
          refine x_aload_n (pc' := 56) hZ dX3_judged_55 rfl 0 rfl ?_
          refine g_RX3_19 (pc' := 59) hZ dX3_judged_56 rfl 0 rfl rfl ?_
          refine k_RX3_139 (pc' := 62) (q0 := 5) (as := [.ref q_now]) (rest := []) (c' := 0) (n' := 0) (wr := [(q_this, cO 3 [.ref q_text, .ref q_now, .ref q_trial, .ref q_choosing, .ref q_acts, .int v_nextAct, .int v_actCount, .ref q_slots, .ref q_isKept, .ref q_heardPerson, .ref q_heardIs, .int v_heardCount, .long v_seed])]) hZ (c_X1_copyFrom E q_trial q_trial_weights q_trial_marks q_trial_ageing q_now q_now_weights q_now_marks q_now_ageing v_trial_people v_trial_alive v_trial_reported v_trial_mornings v_trial_years v_trial_weights v_trial_marks v_trial_ageing v_now_people v_now_alive v_now_reported v_now_mornings v_now_years v_now_weights v_now_marks v_now_ageing _ h) rfl dX3_judged_59 rfl rfl rfl rfl rfl (Nat.le_of_ble_eq_true rfl) (Nat.le_of_ble_eq_true rfl) (Nat.le_of_ble_eq_true rfl) rfl rfl (Nat.le_of_ble_eq_true rfl) (Nat.le_of_ble_eq_true rfl) [5, 6, 7, 8, 1, 2, 3, 4] [0] rfl rfl (by decide) (by decide) (by decide) (fun w59 hw => ?_)
          obtain ⟨a59_0, a59_1, a59_2, a59_3, a59_4, a59_5, a59_6, a59_7, rfl, h⟩ := hw
          refine x_ws (ws' := [(q_this, cO 3 [.ref q_text, .ref q_now, .ref q_trial, .ref q_choosing, .ref q_acts, .int v_nextAct, .int v_actCount, .ref q_slots, .ref q_isKept, .ref q_heardPerson, .ref q_heardIs, .int v_heardCount, .long v_seed]), (q_now, cO 1 [.int v_now_people, .ref q_now_weights, .ref q_now_marks, .ref q_now_ageing, .int v_now_alive, .int v_now_reported, .int v_now_mornings, .int v_now_years]), (q_now_weights, cA E 3 v_now_weights), (q_now_marks, cA E 18 v_now_marks), (q_now_ageing, cA E 6 v_now_ageing), (q_trial, cO 1 [.int a59_0, .ref q_trial_weights, .ref q_trial_marks, .ref q_trial_ageing, .int a59_1, .int a59_2, .int a59_3, .int a59_4]), (q_trial_weights, cA E 3 a59_5), (q_trial_marks, cA E 18 a59_6), (q_trial_ageing, cA E 6 a59_7)]) [0, 5, 6, 7, 8, 1, 2, 3, 4] rfl (by decide) ?_
          refine x_iconst (v := 0) (pc' := 63) hZ (by decide) dX3_judged_62 rfl ?_
          refine x_istore (i := 4) (pc' := 65) (lv' := [(4, .int 0), (0, .ref q_this), (1, .int l1), (2, .int l2), (3, .int l3_19)]) hZ dX3_judged_63 rfl (by decide) rfl ?_
          refine x_lv [1, 2, 3, 4, 0] (lv' := [(0, .ref q_this), (1, .int l1), (2, .int l2), (3, .int l3_19), (4, .int 0)]) rfl ?_
          obtain ⟨k65, h⟩ := h
          refine t_X3_judged_65 E Z q_this q_text q_now q_trial q_choosing q_acts q_slots q_isKept q_heardPerson q_heardIs q_now_weights q_now_marks q_now_ageing q_trial_weights q_trial_marks q_trial_ageing v_nextAct v_actCount v_heardCount v_seed v_now_people v_now_alive v_now_reported v_now_mornings v_now_years v_now_weights v_now_marks v_now_ageing a59_0 a59_1 a59_2 a59_4 a59_6 a59_7 l1 l2 hZ hRet _ l3_19 0 a59_3 a59_5 h (fun l3_65 l4_65 v_trial_mornings_65 v_trial_weights_65 h => ?_)
          refine x_bipush (v := (-9)) (pc' := 128) hZ (by decide) dX3_judged_126 rfl ?_
          exact hRet _ _ _ _ dX3_judged_128 ⟨_, _, _, _, _, _, _, _, rfl, h⟩
        · replace h := h.2 c45
          refine x_bipush (v := (-2)) (pc' := 50) hZ (by decide) dX3_judged_48 rfl ?_
          exact hRet _ _ _ _ dX3_judged_50 ⟨_, _, _, _, _, _, _, _, rfl, h⟩
    · replace h := h.2 c8
      refine x_bipush (v := (-2)) (pc' := 13) hZ (by decide) dX3_judged_11 rfl ?_
      exact hRet _ _ _ _ dX3_judged_13 ⟨_, _, _, _, _, _, _, _, rfl, h⟩
set_option maxHeartbeats 4000000 in
set_option maxRecDepth 100000 in
theorem c_X3_hear (E : XE) (q_this : Nat) (q_text : Nat) (q_now : Nat) (q_trial : Nat) (q_choosing : Nat) (q_acts : Nat) (q_slots : Nat) (q_isKept : Nat) (q_heardPerson : Nat) (q_heardIs : Nat) (q_now_weights : Nat) (q_now_marks : Nat) (q_now_ageing : Nat) (v_nextAct : Int32) (v_actCount : Int32) (v_heardCount : Int32) (v_seed : Int64) (v_now_people : Int32) (v_now_alive : Int32) (v_now_reported : Int32) (v_now_mornings : Int32) (v_now_years : Int32) (v_heardPerson : Nat → Int32) (v_heardIs : Nat → Int32) (l1 : Int32) (l2 : Int32) (post : Int32 → Int32 → (Nat → Int32) → (Nat → Int32) → Prop) (h : p_X3_hear v_heardCount v_now_people v_heardPerson v_heardIs l1 l2 post) : ConI E yX3_hear cX3_hear 3 .int { frames := 1, cells := 0, slots := 0, locals := 21 } 0 0 [.ref q_this, .int l1, .int l2] [(q_this, cO 3 [.ref q_text, .ref q_now, .ref q_trial, .ref q_choosing, .ref q_acts, .int v_nextAct, .int v_actCount, .ref q_slots, .ref q_isKept, .ref q_heardPerson, .ref q_heardIs, .int v_heardCount, .long v_seed]), (q_now, cO 1 [.int v_now_people, .ref q_now_weights, .ref q_now_marks, .ref q_now_ageing, .int v_now_alive, .int v_now_reported, .int v_now_mornings, .int v_now_years]), (q_heardPerson, cA E 6 v_heardPerson), (q_heardIs, cB E 6 v_heardIs)] (fun r w => ∃ (u_heardCount : Int32) (u_heardPerson : Nat → Int32) (u_heardIs : Nat → Int32), w = [(q_this, cO 3 [.ref q_text, .ref q_now, .ref q_trial, .ref q_choosing, .ref q_acts, .int v_nextAct, .int v_actCount, .ref q_slots, .ref q_isKept, .ref q_heardPerson, .ref q_heardIs, .int u_heardCount, .long v_seed]), (q_now, cO 1 [.int v_now_people, .ref q_now_weights, .ref q_now_marks, .ref q_now_ageing, .int v_now_alive, .int v_now_reported, .int v_now_mornings, .int v_now_years]), (q_heardPerson, cA E 6 u_heardPerson), (q_heardIs, cB E 6 u_heardIs)] ∧ post r u_heardCount u_heardPerson u_heardIs) := by
  refine ConI.of (by decide +kernel) (Nat.le_of_ble_eq_true rfl) (fun Z hZ hI hRet => ?_)
  replace hZ : XOK E Z RX3 cX3_hear 3 { frames := 1, cells := 0, slots := 0, locals := 21 } := hZ
  clear hI
  show XW E Z 0 0 [(q_this, cO 3 [.ref q_text, .ref q_now, .ref q_trial, .ref q_choosing, .ref q_acts, .int v_nextAct, .int v_actCount, .ref q_slots, .ref q_isKept, .ref q_heardPerson, .ref q_heardIs, .int v_heardCount, .long v_seed]), (q_now, cO 1 [.int v_now_people, .ref q_now_weights, .ref q_now_marks, .ref q_now_ageing, .int v_now_alive, .int v_now_reported, .int v_now_mornings, .int v_now_years]), (q_heardPerson, cA E 6 v_heardPerson), (q_heardIs, cB E 6 v_heardIs)] [(0, .ref q_this), (1, .int l1), (2, .int l2)] [] 0
  unfold p_X3_hear at h
  refine x_aload_n (pc' := 1) hZ dX3_hear_0 rfl 0 rfl ?_
  refine g_RX3_19 (pc' := 4) hZ dX3_hear_1 rfl 0 rfl rfl ?_
  refine x_iload_n (pc' := 5) hZ dX3_hear_4 rfl 1 rfl ?_
  refine k_RX3_104 (pc' := 8) (q0 := 1) (as := [.int l1]) (rest := []) (c' := 0) (n' := 0) (wr := [(q_this, cO 3 [.ref q_text, .ref q_now, .ref q_trial, .ref q_choosing, .ref q_acts, .int v_nextAct, .int v_actCount, .ref q_slots, .ref q_isKept, .ref q_heardPerson, .ref q_heardIs, .int v_heardCount, .long v_seed]), (q_heardPerson, cA E 6 v_heardPerson), (q_heardIs, cB E 6 v_heardIs)]) hZ (c_X1_has E q_now q_now_weights q_now_marks q_now_ageing v_now_people v_now_alive v_now_reported v_now_mornings v_now_years l1 _ h) rfl dX3_hear_5 rfl rfl rfl rfl rfl (Nat.le_of_ble_eq_true rfl) (Nat.le_of_ble_eq_true rfl) (Nat.le_of_ble_eq_true rfl) rfl rfl (Nat.le_of_ble_eq_true rfl) (Nat.le_of_ble_eq_true rfl) [1] [0, 2, 3] rfl rfl (by decide) (by decide) (by decide) (fun r5 w5 hw => ?_)
  obtain ⟨rfl, h⟩ := hw
  refine x_ws (ws' := [(q_this, cO 3 [.ref q_text, .ref q_now, .ref q_trial, .ref q_choosing, .ref q_acts, .int v_nextAct, .int v_actCount, .ref q_slots, .ref q_isKept, .ref q_heardPerson, .ref q_heardIs, .int v_heardCount, .long v_seed]), (q_now, cO 1 [.int v_now_people, .ref q_now_weights, .ref q_now_marks, .ref q_now_ageing, .int v_now_alive, .int v_now_reported, .int v_now_mornings, .int v_now_years]), (q_heardPerson, cA E 6 v_heardPerson), (q_heardIs, cB E 6 v_heardIs)]) [0, 3, 1, 2] rfl (by decide) ?_
  refine x_if_ne (tgt := 13) (pc' := 11) hZ dX3_hear_8 (by decide) rfl (fun c8 => ?_) (fun c8 => ?_)
  · replace h := h.1 c8
    refine x_aload_n (pc' := 14) hZ dX3_hear_13 rfl 0 rfl ?_
    refine g_RX3_57 (pc' := 17) hZ dX3_hear_14 rfl 0 rfl rfl ?_
    refine x_bipush (v := 6) (pc' := 19) hZ (by decide) dX3_hear_17 rfl ?_
    refine x_icmp_lt (tgt := 25) (pc' := 22) hZ dX3_hear_19 (by decide) rfl (fun c19 => ?_) (fun c19 => ?_)
    · replace h := h.1 c19
      refine x_aload_n (pc' := 26) hZ dX3_hear_25 rfl 0 rfl ?_
      refine g_RX3_51 (pc' := 29) hZ dX3_hear_26 rfl 0 rfl rfl ?_
      refine x_aload_n (pc' := 30) hZ dX3_hear_29 rfl 0 rfl ?_
      refine g_RX3_57 (pc' := 33) hZ dX3_hear_30 rfl 0 rfl rfl ?_
      refine x_iload_n (pc' := 34) hZ dX3_hear_33 rfl 1 rfl ?_
      obtain ⟨h34, h⟩ := h
      refine x_iast (pc' := 35) (ws' := [(q_this, cO 3 [.ref q_text, .ref q_now, .ref q_trial, .ref q_choosing, .ref q_acts, .int v_nextAct, .int v_actCount, .ref q_slots, .ref q_isKept, .ref q_heardPerson, .ref q_heardIs, .int v_heardCount, .long v_seed]), (q_now, cO 1 [.int v_now_people, .ref q_now_weights, .ref q_now_marks, .ref q_now_ageing, .int v_now_alive, .int v_now_reported, .int v_now_mornings, .int v_now_years]), (q_heardPerson, cA E 6 (upd v_heardPerson (ix v_heardCount) l1)), (q_heardIs, cB E 6 v_heardIs)]) hZ h34 dX3_hear_34 rfl 2 rfl rfl ?_
      refine x_aload_n (pc' := 36) hZ dX3_hear_35 rfl 0 rfl ?_
      refine g_RX3_54 (pc' := 39) hZ dX3_hear_36 rfl 0 rfl rfl ?_
      refine x_aload_n (pc' := 40) hZ dX3_hear_39 rfl 0 rfl ?_
      refine g_RX3_57 (pc' := 43) hZ dX3_hear_40 rfl 0 rfl rfl ?_
      refine x_iload_n (pc' := 44) hZ dX3_hear_43 rfl 2 rfl ?_
      obtain ⟨h44, h⟩ := h
      refine x_zast (pc' := 45) (ws' := [(q_this, cO 3 [.ref q_text, .ref q_now, .ref q_trial, .ref q_choosing, .ref q_acts, .int v_nextAct, .int v_actCount, .ref q_slots, .ref q_isKept, .ref q_heardPerson, .ref q_heardIs, .int v_heardCount, .long v_seed]), (q_now, cO 1 [.int v_now_people, .ref q_now_weights, .ref q_now_marks, .ref q_now_ageing, .int v_now_alive, .int v_now_reported, .int v_now_mornings, .int v_now_years]), (q_heardPerson, cA E 6 (upd v_heardPerson (ix v_heardCount) l1)), (q_heardIs, cB E 6 (upd v_heardIs (ix v_heardCount) (jbool l2)))]) hZ h44 dX3_hear_44 rfl 3 rfl rfl ?_
      refine x_aload_n (pc' := 46) hZ dX3_hear_45 rfl 0 rfl ?_
      refine x_dup (pc' := 47) hZ dX3_hear_46 rfl rfl ?_
      refine g_RX3_57 (pc' := 50) hZ dX3_hear_47 rfl 0 rfl rfl ?_
      refine x_iconst (v := 1) (pc' := 51) hZ (by decide) dX3_hear_50 rfl ?_
      refine x_iadd (pc' := 52) hZ dX3_hear_51 rfl ?_
      refine x_topi (fun x52 e52 => ?_)
      replace h := h x52 e52
      refine s_RX3_57 (pc' := 55) (ws' := [(q_this, cO 3 [.ref q_text, .ref q_now, .ref q_trial, .ref q_choosing, .ref q_acts, .int v_nextAct, .int v_actCount, .ref q_slots, .ref q_isKept, .ref q_heardPerson, .ref q_heardIs, .int x52, .long v_seed]), (q_now, cO 1 [.int v_now_people, .ref q_now_weights, .ref q_now_marks, .ref q_now_ageing, .int v_now_alive, .int v_now_reported, .int v_now_mornings, .int v_now_years]), (q_heardPerson, cA E 6 (upd v_heardPerson (ix v_heardCount) l1)), (q_heardIs, cB E 6 (upd v_heardIs (ix v_heardCount) (jbool l2)))]) hZ dX3_hear_52 rfl 0 rfl (Nat.le_of_ble_eq_true rfl) rfl ?_
      refine x_aload_n (pc' := 56) hZ dX3_hear_55 rfl 0 rfl ?_
      refine g_RX3_57 (pc' := 59) hZ dX3_hear_56 rfl 0 rfl rfl ?_
      exact hRet _ _ _ _ dX3_hear_59 ⟨_, _, _, rfl, h⟩
    · replace h := h.2 c19
      refine x_bipush (v := (-4)) (pc' := 24) hZ (by decide) dX3_hear_22 rfl ?_
      exact hRet _ _ _ _ dX3_hear_24 ⟨_, _, _, rfl, h⟩
  · replace h := h.2 c8
    refine x_iconst (v := (-1)) (pc' := 12) hZ (by decide) dX3_hear_11 rfl ?_
    exact hRet _ _ _ _ dX3_hear_12 ⟨_, _, _, rfl, h⟩
set_option maxHeartbeats 4000000 in
set_option maxRecDepth 100000 in
theorem c_X3_unhear (E : XE) (q_this : Nat) (q_text : Nat) (q_now : Nat) (q_trial : Nat) (q_choosing : Nat) (q_acts : Nat) (q_slots : Nat) (q_isKept : Nat) (q_heardPerson : Nat) (q_heardIs : Nat) (v_nextAct : Int32) (v_actCount : Int32) (v_heardCount : Int32) (v_seed : Int64) (post : Int32 → Int32 → Prop) (h : p_X3_unhear v_heardCount post) : ConI E yX3_unhear cX3_unhear 2 .int { frames := 0, cells := 0, slots := 0, locals := 0 } 0 0 [.ref q_this] [(q_this, cO 3 [.ref q_text, .ref q_now, .ref q_trial, .ref q_choosing, .ref q_acts, .int v_nextAct, .int v_actCount, .ref q_slots, .ref q_isKept, .ref q_heardPerson, .ref q_heardIs, .int v_heardCount, .long v_seed])] (fun r w => ∃ (u_heardCount : Int32), w = [(q_this, cO 3 [.ref q_text, .ref q_now, .ref q_trial, .ref q_choosing, .ref q_acts, .int v_nextAct, .int v_actCount, .ref q_slots, .ref q_isKept, .ref q_heardPerson, .ref q_heardIs, .int u_heardCount, .long v_seed])] ∧ post r u_heardCount) := by
  refine ConI.of (by decide +kernel) (Nat.le_of_ble_eq_true rfl) (fun Z hZ hI hRet => ?_)
  replace hZ : XOK E Z RX3 cX3_unhear 2 { frames := 0, cells := 0, slots := 0, locals := 0 } := hZ
  clear hI
  show XW E Z 0 0 [(q_this, cO 3 [.ref q_text, .ref q_now, .ref q_trial, .ref q_choosing, .ref q_acts, .int v_nextAct, .int v_actCount, .ref q_slots, .ref q_isKept, .ref q_heardPerson, .ref q_heardIs, .int v_heardCount, .long v_seed])] [(0, .ref q_this)] [] 0
  unfold p_X3_unhear at h
  refine x_aload_n (pc' := 1) hZ dX3_unhear_0 rfl 0 rfl ?_
  refine g_RX3_57 (pc' := 4) hZ dX3_unhear_1 rfl 0 rfl rfl ?_
  refine x_istore_n (i := 1) (pc' := 5) (lv' := [(1, .int v_heardCount), (0, .ref q_this)]) hZ dX3_unhear_4 rfl rfl (by decide) rfl ?_
  refine x_aload_n (pc' := 6) hZ dX3_unhear_5 rfl 1 rfl ?_
  refine x_iconst (v := 0) (pc' := 7) hZ (by decide) dX3_unhear_6 rfl ?_
  refine s_RX3_57 (pc' := 10) (ws' := [(q_this, cO 3 [.ref q_text, .ref q_now, .ref q_trial, .ref q_choosing, .ref q_acts, .int v_nextAct, .int v_actCount, .ref q_slots, .ref q_isKept, .ref q_heardPerson, .ref q_heardIs, .int 0, .long v_seed])]) hZ dX3_unhear_7 rfl 0 rfl (Nat.le_of_ble_eq_true rfl) rfl ?_
  refine x_iload_n (pc' := 11) hZ dX3_unhear_10 rfl 0 rfl ?_
  exact hRet _ _ _ _ dX3_unhear_11 ⟨_, rfl, h⟩
set_option maxHeartbeats 4000000 in
set_option maxRecDepth 100000 in
theorem c_X3_isWorld (E : XE) (q_this : Nat) (q_text : Nat) (q_now : Nat) (q_trial : Nat) (q_choosing : Nat) (q_acts : Nat) (q_slots : Nat) (q_isKept : Nat) (q_heardPerson : Nat) (q_heardIs : Nat) (q_now_weights : Nat) (q_now_marks : Nat) (q_now_ageing : Nat) (v_nextAct : Int32) (v_actCount : Int32) (v_heardCount : Int32) (v_seed : Int64) (v_now_people : Int32) (v_now_alive : Int32) (v_now_reported : Int32) (v_now_mornings : Int32) (v_now_years : Int32) (l1 : Int32) (post : Int32 → Prop) (h : p_X3_isWorld v_now_people v_now_reported l1 post) : ConI E yX3_isWorld cX3_isWorld 2 .boolean { frames := 1, cells := 0, slots := 0, locals := 20 } 0 0 [.ref q_this, .int l1] [(q_this, cO 3 [.ref q_text, .ref q_now, .ref q_trial, .ref q_choosing, .ref q_acts, .int v_nextAct, .int v_actCount, .ref q_slots, .ref q_isKept, .ref q_heardPerson, .ref q_heardIs, .int v_heardCount, .long v_seed]), (q_now, cO 1 [.int v_now_people, .ref q_now_weights, .ref q_now_marks, .ref q_now_ageing, .int v_now_alive, .int v_now_reported, .int v_now_mornings, .int v_now_years])] (fun r w => w = [(q_this, cO 3 [.ref q_text, .ref q_now, .ref q_trial, .ref q_choosing, .ref q_acts, .int v_nextAct, .int v_actCount, .ref q_slots, .ref q_isKept, .ref q_heardPerson, .ref q_heardIs, .int v_heardCount, .long v_seed]), (q_now, cO 1 [.int v_now_people, .ref q_now_weights, .ref q_now_marks, .ref q_now_ageing, .int v_now_alive, .int v_now_reported, .int v_now_mornings, .int v_now_years])] ∧ post r ) := by
  refine ConIz.of (by decide +kernel) (Nat.le_of_ble_eq_true rfl) (fun Z hZ hI hRet => ?_)
  replace hZ : XOK E Z RX3 cX3_isWorld 2 { frames := 1, cells := 0, slots := 0, locals := 20 } := hZ
  clear hI
  show XW E Z 0 0 [(q_this, cO 3 [.ref q_text, .ref q_now, .ref q_trial, .ref q_choosing, .ref q_acts, .int v_nextAct, .int v_actCount, .ref q_slots, .ref q_isKept, .ref q_heardPerson, .ref q_heardIs, .int v_heardCount, .long v_seed]), (q_now, cO 1 [.int v_now_people, .ref q_now_weights, .ref q_now_marks, .ref q_now_ageing, .int v_now_alive, .int v_now_reported, .int v_now_mornings, .int v_now_years])] [(0, .ref q_this), (1, .int l1)] [] 0
  unfold p_X3_isWorld at h
  refine x_iload_n (pc' := 1) hZ dX3_isWorld_0 rfl 1 rfl ?_
  refine x_aload_n (pc' := 2) hZ dX3_isWorld_1 rfl 0 rfl ?_
  refine g_RX3_19 (pc' := 5) hZ dX3_isWorld_2 rfl 0 rfl rfl ?_
  refine g_RX3_88 (pc' := 8) hZ dX3_isWorld_5 rfl 1 rfl rfl ?_
  refine x_ior (pc' := 9) hZ dX3_isWorld_8 rfl ?_
  refine x_aload_n (pc' := 10) hZ dX3_isWorld_9 rfl 0 rfl ?_
  refine g_RX3_19 (pc' := 13) hZ dX3_isWorld_10 rfl 0 rfl rfl ?_
  refine k_RX3_152 (pc' := 16) (q0 := 1) (as := []) (rest := [.int (l1 ||| v_now_reported)]) (c' := 0) (n' := 0) (wr := [(q_this, cO 3 [.ref q_text, .ref q_now, .ref q_trial, .ref q_choosing, .ref q_acts, .int v_nextAct, .int v_actCount, .ref q_slots, .ref q_isKept, .ref q_heardPerson, .ref q_heardIs, .int v_heardCount, .long v_seed])]) hZ (c_X1_everybody E q_now q_now_weights q_now_marks q_now_ageing v_now_people v_now_alive v_now_reported v_now_mornings v_now_years _ h) rfl dX3_isWorld_13 rfl rfl rfl rfl rfl (Nat.le_of_ble_eq_true rfl) (Nat.le_of_ble_eq_true rfl) (Nat.le_of_ble_eq_true rfl) rfl rfl (Nat.le_of_ble_eq_true rfl) (Nat.le_of_ble_eq_true rfl) [1] [0] rfl rfl (by decide) (by decide) (by decide) (fun r13 w13 hw => ?_)
  obtain ⟨rfl, h⟩ := hw
  refine x_ws (ws' := [(q_this, cO 3 [.ref q_text, .ref q_now, .ref q_trial, .ref q_choosing, .ref q_acts, .int v_nextAct, .int v_actCount, .ref q_slots, .ref q_isKept, .ref q_heardPerson, .ref q_heardIs, .int v_heardCount, .long v_seed]), (q_now, cO 1 [.int v_now_people, .ref q_now_weights, .ref q_now_marks, .ref q_now_ageing, .int v_now_alive, .int v_now_reported, .int v_now_mornings, .int v_now_years])]) [0, 1] rfl (by decide) ?_
  refine x_icmp_ne (tgt := 23) (pc' := 19) hZ dX3_isWorld_16 (by decide) rfl (fun c16 => ?_) (fun c16 => ?_)
  · replace h := h.1 c16
    refine x_iconst (v := 0) (pc' := 24) hZ (by decide) dX3_isWorld_23 rfl ?_
    exact hRet _ _ _ _ dX3_isWorld_24 (by decide) ⟨rfl, h⟩
  · replace h := h.2 c16
    refine x_iconst (v := 1) (pc' := 20) hZ (by decide) dX3_isWorld_19 rfl ?_
    refine x_goto (pc' := 24) hZ dX3_isWorld_20 (by decide) ?_
    exact hRet _ _ _ _ dX3_isWorld_24 (by decide) ⟨rfl, h⟩
set_option maxHeartbeats 4000000 in
set_option maxRecDepth 100000 in
theorem t_X3_fitsHeard_11 (E : XE) (Z : ZC) (q_this : Nat) (q_text : Nat) (q_now : Nat) (q_trial : Nat) (q_choosing : Nat) (q_acts : Nat) (q_slots : Nat) (q_isKept : Nat) (q_heardPerson : Nat) (q_heardIs : Nat) (q_now_weights : Nat) (q_now_marks : Nat) (q_now_ageing : Nat) (v_nextAct : Int32) (v_actCount : Int32) (v_heardCount : Int32) (v_seed : Int64) (v_now_people : Int32) (v_now_alive : Int32) (v_now_reported : Int32) (v_now_mornings : Int32) (v_now_years : Int32) (v_now_weights : Nat → Int32) (v_now_marks : Nat → Int32) (v_heardPerson : Nat → Int32) (v_heardIs : Nat → Int32) (l2 : Int32) {post : Int32 → Prop} {K : Int32 → Prop} (hZ : XOK E Z RX3 cX3_fitsHeard 5 { frames := 2, cells := 0, slots := 0, locals := 47 }) (hRet : RetZ E Z cX3_fitsHeard 0 0 (fun r w => w = [(q_this, cO 3 [.ref q_text, .ref q_now, .ref q_trial, .ref q_choosing, .ref q_acts, .int v_nextAct, .int v_actCount, .ref q_slots, .ref q_isKept, .ref q_heardPerson, .ref q_heardIs, .int v_heardCount, .long v_seed]), (q_now, cO 1 [.int v_now_people, .ref q_now_weights, .ref q_now_marks, .ref q_now_ageing, .int v_now_alive, .int v_now_reported, .int v_now_mornings, .int v_now_years]), (q_now_weights, cA E 3 v_now_weights), (q_now_marks, cA E 18 v_now_marks), (q_heardPerson, cA E 6 v_heardPerson), (q_heardIs, cB E 6 v_heardIs)] ∧ post r )) : ∀ (k : Nat) (l3 : Int32), wl (fun rec v => b_X3_fitsHeard_11 l2 v_heardCount v_now_people v_heardPerson v_heardIs post K rec v) k (l3) → (∀ (l3 : Int32), K l3 → XW E Z 0 0 [(q_this, cO 3 [.ref q_text, .ref q_now, .ref q_trial, .ref q_choosing, .ref q_acts, .int v_nextAct, .int v_actCount, .ref q_slots, .ref q_isKept, .ref q_heardPerson, .ref q_heardIs, .int v_heardCount, .long v_seed]), (q_now, cO 1 [.int v_now_people, .ref q_now_weights, .ref q_now_marks, .ref q_now_ageing, .int v_now_alive, .int v_now_reported, .int v_now_mornings, .int v_now_years]), (q_now_weights, cA E 3 v_now_weights), (q_now_marks, cA E 18 v_now_marks), (q_heardPerson, cA E 6 v_heardPerson), (q_heardIs, cB E 6 v_heardIs)] [] [] 71) → XW E Z 0 0 [(q_this, cO 3 [.ref q_text, .ref q_now, .ref q_trial, .ref q_choosing, .ref q_acts, .int v_nextAct, .int v_actCount, .ref q_slots, .ref q_isKept, .ref q_heardPerson, .ref q_heardIs, .int v_heardCount, .long v_seed]), (q_now, cO 1 [.int v_now_people, .ref q_now_weights, .ref q_now_marks, .ref q_now_ageing, .int v_now_alive, .int v_now_reported, .int v_now_mornings, .int v_now_years]), (q_now_weights, cA E 3 v_now_weights), (q_now_marks, cA E 18 v_now_marks), (q_heardPerson, cA E 6 v_heardPerson), (q_heardIs, cB E 6 v_heardIs)] [(0, .ref q_this), (2, .int l2), (3, .int l3)] [] 11 := by
  intro k
  induction k with
  | zero =>
    intro l3 h
    exact h.elim
  | succ k ih =>
    intro l3 h hK
    replace h := wl_succ h
    try dsimp only at h
    unfold b_X3_fitsHeard_11 at h
    refine x_iload_n (pc' := 12) hZ dX3_fitsHeard_11 rfl 2 rfl ?_
    refine x_aload_n (pc' := 13) hZ dX3_fitsHeard_12 rfl 0 rfl ?_
    refine g_RX3_57 (pc' := 16) hZ dX3_fitsHeard_13 rfl 0 rfl rfl ?_
    refine x_icmp_ge (tgt := 71) (pc' := 19) hZ dX3_fitsHeard_16 (by decide) rfl (fun c16 => ?_) (fun c16 => ?_)
    · replace h := h.1 c16
      refine x_lv [] (lv' := []) rfl ?_
      exact hK l3 h
    · replace h := h.2 c16
      refine x_aload_n (pc' := 20) hZ dX3_fitsHeard_19 rfl 0 rfl ?_
      refine g_RX3_51 (pc' := 23) hZ dX3_fitsHeard_20 rfl 0 rfl rfl ?_
      refine x_iload_n (pc' := 24) hZ dX3_fitsHeard_23 rfl 2 rfl ?_
      obtain ⟨h24, h⟩ := h
      refine x_iald (pc' := 25) hZ h24 dX3_fitsHeard_24 rfl 4 rfl ?_
      refine x_topi (fun x25 e25 => ?_)
      replace h := h x25 e25
      refine x_istore (i := 4) (pc' := 27) (lv' := [(4, .int x25), (0, .ref q_this), (2, .int l2), (3, .int l3)]) hZ dX3_fitsHeard_25 rfl (by decide) rfl ?_
      refine x_aload_n (pc' := 28) hZ dX3_fitsHeard_27 rfl 1 rfl ?_
      refine g_RX3_19 (pc' := 31) hZ dX3_fitsHeard_28 rfl 0 rfl rfl ?_
      refine x_iload (pc' := 33) hZ dX3_fitsHeard_31 rfl 0 rfl ?_
      refine k_RX3_104 (pc' := 36) (q0 := 1) (as := [.int x25]) (rest := []) (c' := 0) (n' := 0) (wr := [(q_this, cO 3 [.ref q_text, .ref q_now, .ref q_trial, .ref q_choosing, .ref q_acts, .int v_nextAct, .int v_actCount, .ref q_slots, .ref q_isKept, .ref q_heardPerson, .ref q_heardIs, .int v_heardCount, .long v_seed]), (q_now_weights, cA E 3 v_now_weights), (q_now_marks, cA E 18 v_now_marks), (q_heardPerson, cA E 6 v_heardPerson), (q_heardIs, cB E 6 v_heardIs)]) hZ (c_X1_has E q_now q_now_weights q_now_marks q_now_ageing v_now_people v_now_alive v_now_reported v_now_mornings v_now_years x25 _ h) rfl dX3_fitsHeard_33 rfl rfl rfl rfl rfl (Nat.le_of_ble_eq_true rfl) (Nat.le_of_ble_eq_true rfl) (Nat.le_of_ble_eq_true rfl) rfl rfl (Nat.le_of_ble_eq_true rfl) (Nat.le_of_ble_eq_true rfl) [1] [0, 2, 3, 4, 5] rfl rfl (by decide) (by decide) (by decide) (fun r33 w33 hw => ?_)
      obtain ⟨rfl, h⟩ := hw
      refine x_ws (ws' := [(q_this, cO 3 [.ref q_text, .ref q_now, .ref q_trial, .ref q_choosing, .ref q_acts, .int v_nextAct, .int v_actCount, .ref q_slots, .ref q_isKept, .ref q_heardPerson, .ref q_heardIs, .int v_heardCount, .long v_seed]), (q_now, cO 1 [.int v_now_people, .ref q_now_weights, .ref q_now_marks, .ref q_now_ageing, .int v_now_alive, .int v_now_reported, .int v_now_mornings, .int v_now_years]), (q_now_weights, cA E 3 v_now_weights), (q_now_marks, cA E 18 v_now_marks), (q_heardPerson, cA E 6 v_heardPerson), (q_heardIs, cB E 6 v_heardIs)]) [0, 5, 1, 2, 3, 4] rfl (by decide) ?_
      refine x_if_eq (tgt := 65) (pc' := 39) hZ dX3_fitsHeard_36 (by decide) rfl (fun c36 => ?_) (fun c36 => ?_)
      · replace h := h.1 c36
        obtain ⟨x65, e65⟩ : ∃ y : Int32, y = l3 + 1 := ⟨_, rfl⟩
        replace h := h x65 e65
        refine x_iinc (i := 3) (v := x65) (pc' := 68) (lv' := [(3, .int x65), (4, .int x25), (0, .ref q_this), (2, .int l2)]) hZ dX3_fitsHeard_65 rfl 3 rfl (by rw [e65]; rfl) (by decide) rfl ?_
        refine x_goto (pc' := 11) hZ dX3_fitsHeard_68 (by decide) ?_
        refine x_lv [2, 3, 0] (lv' := [(0, .ref q_this), (2, .int l2), (3, .int x65)]) rfl ?_
        exact ih x65 h hK
      · replace h := h.2 c36
        refine x_iload_n (pc' := 40) hZ dX3_fitsHeard_39 rfl 2 rfl ?_
        refine x_iload (pc' := 42) hZ dX3_fitsHeard_40 rfl 0 rfl ?_
        refine x_ishr (pc' := 43) hZ dX3_fitsHeard_42 rfl ?_
        refine x_iconst (v := 1) (pc' := 44) hZ (by decide) dX3_fitsHeard_43 rfl ?_
        refine x_iand (pc' := 45) hZ dX3_fitsHeard_44 rfl ?_
        refine x_iconst (v := 1) (pc' := 46) hZ (by decide) dX3_fitsHeard_45 rfl ?_
        refine x_icmp_ne (tgt := 53) (pc' := 49) hZ dX3_fitsHeard_46 (by decide) rfl (fun c46 => ?_) (fun c46 => ?_)
        · replace h := h.1 c46
          refine x_iconst (v := 0) (pc' := 54) hZ (by decide) dX3_fitsHeard_53 rfl ?_
          refine x_aload_n (pc' := 55) hZ dX3_fitsHeard_54 rfl 1 rfl ?_
          refine g_RX3_54 (pc' := 58) hZ dX3_fitsHeard_55 rfl 0 rfl rfl ?_
          refine x_iload_n (pc' := 59) hZ dX3_fitsHeard_58 rfl 3 rfl ?_
          obtain ⟨h59, h⟩ := h
          refine x_zald (pc' := 60) hZ h59 dX3_fitsHeard_59 rfl 5 rfl ?_
          refine x_icmp_eq (tgt := 65) (pc' := 63) hZ dX3_fitsHeard_60 (by decide) rfl (fun c60 => ?_) (fun c60 => ?_)
          · replace h := h.1 c60
            obtain ⟨x65, e65⟩ : ∃ y : Int32, y = l3 + 1 := ⟨_, rfl⟩
            replace h := h x65 e65
            refine x_iinc (i := 3) (v := x65) (pc' := 68) (lv' := [(3, .int x65), (4, .int x25), (0, .ref q_this), (2, .int l2)]) hZ dX3_fitsHeard_65 rfl 3 rfl (by rw [e65]; rfl) (by decide) rfl ?_
            refine x_goto (pc' := 11) hZ dX3_fitsHeard_68 (by decide) ?_
            refine x_lv [2, 3, 0] (lv' := [(0, .ref q_this), (2, .int l2), (3, .int x65)]) rfl ?_
            exact ih x65 h hK
          · replace h := h.2 c60
            refine x_iconst (v := 0) (pc' := 64) hZ (by decide) dX3_fitsHeard_63 rfl ?_
            exact hRet _ _ _ _ dX3_fitsHeard_64 (by decide) ⟨rfl, h⟩
        · replace h := h.2 c46
          refine x_iconst (v := 1) (pc' := 50) hZ (by decide) dX3_fitsHeard_49 rfl ?_
          refine x_goto (pc' := 54) hZ dX3_fitsHeard_50 (by decide) ?_
          refine x_aload_n (pc' := 55) hZ dX3_fitsHeard_54 rfl 1 rfl ?_
          refine g_RX3_54 (pc' := 58) hZ dX3_fitsHeard_55 rfl 0 rfl rfl ?_
          refine x_iload_n (pc' := 59) hZ dX3_fitsHeard_58 rfl 3 rfl ?_
          obtain ⟨h59, h⟩ := h
          refine x_zald (pc' := 60) hZ h59 dX3_fitsHeard_59 rfl 5 rfl ?_
          refine x_icmp_eq (tgt := 65) (pc' := 63) hZ dX3_fitsHeard_60 (by decide) rfl (fun c60 => ?_) (fun c60 => ?_)
          · replace h := h.1 c60
            obtain ⟨x65, e65⟩ : ∃ y : Int32, y = l3 + 1 := ⟨_, rfl⟩
            replace h := h x65 e65
            refine x_iinc (i := 3) (v := x65) (pc' := 68) (lv' := [(3, .int x65), (4, .int x25), (0, .ref q_this), (2, .int l2)]) hZ dX3_fitsHeard_65 rfl 3 rfl (by rw [e65]; rfl) (by decide) rfl ?_
            refine x_goto (pc' := 11) hZ dX3_fitsHeard_68 (by decide) ?_
            refine x_lv [2, 3, 0] (lv' := [(0, .ref q_this), (2, .int l2), (3, .int x65)]) rfl ?_
            exact ih x65 h hK
          · replace h := h.2 c60
            refine x_iconst (v := 0) (pc' := 64) hZ (by decide) dX3_fitsHeard_63 rfl ?_
            exact hRet _ _ _ _ dX3_fitsHeard_64 (by decide) ⟨rfl, h⟩
set_option maxHeartbeats 4000000 in
set_option maxRecDepth 100000 in
theorem c_X3_fitsHeard (E : XE) (q_this : Nat) (q_text : Nat) (q_now : Nat) (q_trial : Nat) (q_choosing : Nat) (q_acts : Nat) (q_slots : Nat) (q_isKept : Nat) (q_heardPerson : Nat) (q_heardIs : Nat) (q_now_weights : Nat) (q_now_marks : Nat) (q_now_ageing : Nat) (v_nextAct : Int32) (v_actCount : Int32) (v_heardCount : Int32) (v_seed : Int64) (v_now_people : Int32) (v_now_alive : Int32) (v_now_reported : Int32) (v_now_mornings : Int32) (v_now_years : Int32) (v_now_weights : Nat → Int32) (v_now_marks : Nat → Int32) (v_heardPerson : Nat → Int32) (v_heardIs : Nat → Int32) (l1 : Int32) (post : Int32 → Prop) (h : p_X3_fitsHeard v_heardCount v_now_people v_now_weights v_now_marks v_heardPerson v_heardIs l1 post) : ConI E yX3_fitsHeard cX3_fitsHeard 5 .boolean { frames := 2, cells := 0, slots := 0, locals := 47 } 0 0 [.ref q_this, .int l1] [(q_this, cO 3 [.ref q_text, .ref q_now, .ref q_trial, .ref q_choosing, .ref q_acts, .int v_nextAct, .int v_actCount, .ref q_slots, .ref q_isKept, .ref q_heardPerson, .ref q_heardIs, .int v_heardCount, .long v_seed]), (q_now, cO 1 [.int v_now_people, .ref q_now_weights, .ref q_now_marks, .ref q_now_ageing, .int v_now_alive, .int v_now_reported, .int v_now_mornings, .int v_now_years]), (q_now_weights, cA E 3 v_now_weights), (q_now_marks, cA E 18 v_now_marks), (q_heardPerson, cA E 6 v_heardPerson), (q_heardIs, cB E 6 v_heardIs)] (fun r w => w = [(q_this, cO 3 [.ref q_text, .ref q_now, .ref q_trial, .ref q_choosing, .ref q_acts, .int v_nextAct, .int v_actCount, .ref q_slots, .ref q_isKept, .ref q_heardPerson, .ref q_heardIs, .int v_heardCount, .long v_seed]), (q_now, cO 1 [.int v_now_people, .ref q_now_weights, .ref q_now_marks, .ref q_now_ageing, .int v_now_alive, .int v_now_reported, .int v_now_mornings, .int v_now_years]), (q_now_weights, cA E 3 v_now_weights), (q_now_marks, cA E 18 v_now_marks), (q_heardPerson, cA E 6 v_heardPerson), (q_heardIs, cB E 6 v_heardIs)] ∧ post r ) := by
  refine ConIz.of (by decide +kernel) (Nat.le_of_ble_eq_true rfl) (fun Z hZ hI hRet => ?_)
  replace hZ : XOK E Z RX3 cX3_fitsHeard 5 { frames := 2, cells := 0, slots := 0, locals := 47 } := hZ
  clear hI
  show XW E Z 0 0 [(q_this, cO 3 [.ref q_text, .ref q_now, .ref q_trial, .ref q_choosing, .ref q_acts, .int v_nextAct, .int v_actCount, .ref q_slots, .ref q_isKept, .ref q_heardPerson, .ref q_heardIs, .int v_heardCount, .long v_seed]), (q_now, cO 1 [.int v_now_people, .ref q_now_weights, .ref q_now_marks, .ref q_now_ageing, .int v_now_alive, .int v_now_reported, .int v_now_mornings, .int v_now_years]), (q_now_weights, cA E 3 v_now_weights), (q_now_marks, cA E 18 v_now_marks), (q_heardPerson, cA E 6 v_heardPerson), (q_heardIs, cB E 6 v_heardIs)] [(0, .ref q_this), (1, .int l1)] [] 0
  unfold p_X3_fitsHeard at h
  refine x_aload_n (pc' := 1) hZ dX3_fitsHeard_0 rfl 0 rfl ?_
  refine g_RX3_19 (pc' := 4) hZ dX3_fitsHeard_1 rfl 0 rfl rfl ?_
  refine x_iload_n (pc' := 5) hZ dX3_fitsHeard_4 rfl 1 rfl ?_
  refine k_RX3_91 (pc' := 8) (q0 := 1) (as := [.int l1]) (rest := []) (c' := 0) (n' := 0) (wr := [(q_this, cO 3 [.ref q_text, .ref q_now, .ref q_trial, .ref q_choosing, .ref q_acts, .int v_nextAct, .int v_actCount, .ref q_slots, .ref q_isKept, .ref q_heardPerson, .ref q_heardIs, .int v_heardCount, .long v_seed]), (q_heardPerson, cA E 6 v_heardPerson), (q_heardIs, cB E 6 v_heardIs)]) hZ (c_X1_fairestOf E q_now q_now_weights q_now_marks q_now_ageing v_now_people v_now_alive v_now_reported v_now_mornings v_now_years v_now_weights v_now_marks l1 _ h) rfl dX3_fitsHeard_5 rfl rfl rfl rfl rfl (Nat.le_of_ble_eq_true rfl) (Nat.le_of_ble_eq_true rfl) (Nat.le_of_ble_eq_true rfl) rfl rfl (Nat.le_of_ble_eq_true rfl) (Nat.le_of_ble_eq_true rfl) [1, 2, 3] [0, 4, 5] rfl rfl (by decide) (by decide) (by decide) (fun r5 w5 hw => ?_)
  obtain ⟨rfl, h⟩ := hw
  refine x_ws (ws' := [(q_this, cO 3 [.ref q_text, .ref q_now, .ref q_trial, .ref q_choosing, .ref q_acts, .int v_nextAct, .int v_actCount, .ref q_slots, .ref q_isKept, .ref q_heardPerson, .ref q_heardIs, .int v_heardCount, .long v_seed]), (q_now, cO 1 [.int v_now_people, .ref q_now_weights, .ref q_now_marks, .ref q_now_ageing, .int v_now_alive, .int v_now_reported, .int v_now_mornings, .int v_now_years]), (q_now_weights, cA E 3 v_now_weights), (q_now_marks, cA E 18 v_now_marks), (q_heardPerson, cA E 6 v_heardPerson), (q_heardIs, cB E 6 v_heardIs)]) [0, 3, 4, 5, 1, 2] rfl (by decide) ?_
  refine x_istore_n (i := 2) (pc' := 9) (lv' := [(2, .int r5), (0, .ref q_this), (1, .int l1)]) hZ dX3_fitsHeard_8 rfl rfl (by decide) rfl ?_
  refine x_iconst (v := 0) (pc' := 10) hZ (by decide) dX3_fitsHeard_9 rfl ?_
  refine x_istore_n (i := 3) (pc' := 11) (lv' := [(3, .int 0), (2, .int r5), (0, .ref q_this), (1, .int l1)]) hZ dX3_fitsHeard_10 rfl rfl (by decide) rfl ?_
  refine x_lv [2, 1, 0] (lv' := [(0, .ref q_this), (2, .int r5), (3, .int 0)]) rfl ?_
  obtain ⟨k11, h⟩ := h
  refine t_X3_fitsHeard_11 E Z q_this q_text q_now q_trial q_choosing q_acts q_slots q_isKept q_heardPerson q_heardIs q_now_weights q_now_marks q_now_ageing v_nextAct v_actCount v_heardCount v_seed v_now_people v_now_alive v_now_reported v_now_mornings v_now_years v_now_weights v_now_marks v_heardPerson v_heardIs r5 hZ hRet _ 0 h (fun l3_11 h => ?_)
  refine x_iconst (v := 1) (pc' := 72) hZ (by decide) dX3_fitsHeard_71 rfl ?_
  exact hRet _ _ _ _ dX3_fitsHeard_72 (by decide) ⟨rfl, h⟩
set_option maxHeartbeats 4000000 in
set_option maxRecDepth 100000 in
theorem t_X3_countWorlds_4 (E : XE) (Z : ZC) (q_this : Nat) (q_text : Nat) (q_now : Nat) (q_trial : Nat) (q_choosing : Nat) (q_acts : Nat) (q_slots : Nat) (q_isKept : Nat) (q_heardPerson : Nat) (q_heardIs : Nat) (q_now_weights : Nat) (q_now_marks : Nat) (q_now_ageing : Nat) (v_nextAct : Int32) (v_actCount : Int32) (v_heardCount : Int32) (v_seed : Int64) (v_now_people : Int32) (v_now_alive : Int32) (v_now_reported : Int32) (v_now_mornings : Int32) (v_now_years : Int32) (v_now_weights : Nat → Int32) (v_now_marks : Nat → Int32) (v_heardPerson : Nat → Int32) (v_heardIs : Nat → Int32) (l1 : Int32) {K : Int32 → Int32 → Prop} (hZ : XOK E Z RX3 cX3_countWorlds 4 { frames := 3, cells := 0, slots := 0, locals := 71 }) : ∀ (k : Nat) (l2 : Int32) (l3 : Int32), wl (fun rec v => b_X3_countWorlds_4 l1 v_heardCount v_now_people v_now_reported v_now_weights v_now_marks v_heardPerson v_heardIs K rec v.1 v.2) k (l2, l3) → (∀ (l2 : Int32) (l3 : Int32), K l2 l3 → XW E Z 0 0 [(q_this, cO 3 [.ref q_text, .ref q_now, .ref q_trial, .ref q_choosing, .ref q_acts, .int v_nextAct, .int v_actCount, .ref q_slots, .ref q_isKept, .ref q_heardPerson, .ref q_heardIs, .int v_heardCount, .long v_seed]), (q_now, cO 1 [.int v_now_people, .ref q_now_weights, .ref q_now_marks, .ref q_now_ageing, .int v_now_alive, .int v_now_reported, .int v_now_mornings, .int v_now_years]), (q_now_weights, cA E 3 v_now_weights), (q_now_marks, cA E 18 v_now_marks), (q_heardPerson, cA E 6 v_heardPerson), (q_heardIs, cB E 6 v_heardIs)] [(2, .int l2)] [] 47) → XW E Z 0 0 [(q_this, cO 3 [.ref q_text, .ref q_now, .ref q_trial, .ref q_choosing, .ref q_acts, .int v_nextAct, .int v_actCount, .ref q_slots, .ref q_isKept, .ref q_heardPerson, .ref q_heardIs, .int v_heardCount, .long v_seed]), (q_now, cO 1 [.int v_now_people, .ref q_now_weights, .ref q_now_marks, .ref q_now_ageing, .int v_now_alive, .int v_now_reported, .int v_now_mornings, .int v_now_years]), (q_now_weights, cA E 3 v_now_weights), (q_now_marks, cA E 18 v_now_marks), (q_heardPerson, cA E 6 v_heardPerson), (q_heardIs, cB E 6 v_heardIs)] [(0, .ref q_this), (1, .int l1), (2, .int l2), (3, .int l3)] [] 4 := by
  intro k
  induction k with
  | zero =>
    intro l2 l3 h
    exact h.elim
  | succ k ih =>
    intro l2 l3 h hK
    replace h := wl_succ h
    try dsimp only at h
    unfold b_X3_countWorlds_4 at h
    refine x_iload_n (pc' := 5) hZ dX3_countWorlds_4 rfl 3 rfl ?_
    refine x_aload_n (pc' := 6) hZ dX3_countWorlds_5 rfl 0 rfl ?_
    refine g_RX3_19 (pc' := 9) hZ dX3_countWorlds_6 rfl 0 rfl rfl ?_
    refine k_RX3_152 (pc' := 12) (q0 := 1) (as := []) (rest := [.int l3]) (c' := 0) (n' := 0) (wr := [(q_this, cO 3 [.ref q_text, .ref q_now, .ref q_trial, .ref q_choosing, .ref q_acts, .int v_nextAct, .int v_actCount, .ref q_slots, .ref q_isKept, .ref q_heardPerson, .ref q_heardIs, .int v_heardCount, .long v_seed]), (q_now_weights, cA E 3 v_now_weights), (q_now_marks, cA E 18 v_now_marks), (q_heardPerson, cA E 6 v_heardPerson), (q_heardIs, cB E 6 v_heardIs)]) hZ (c_X1_everybody E q_now q_now_weights q_now_marks q_now_ageing v_now_people v_now_alive v_now_reported v_now_mornings v_now_years _ h) rfl dX3_countWorlds_9 rfl rfl rfl rfl rfl (Nat.le_of_ble_eq_true rfl) (Nat.le_of_ble_eq_true rfl) (Nat.le_of_ble_eq_true rfl) rfl rfl (Nat.le_of_ble_eq_true rfl) (Nat.le_of_ble_eq_true rfl) [1] [0, 2, 3, 4, 5] rfl rfl (by decide) (by decide) (by decide) (fun r9 w9 hw => ?_)
    obtain ⟨rfl, h⟩ := hw
    refine x_ws (ws' := [(q_this, cO 3 [.ref q_text, .ref q_now, .ref q_trial, .ref q_choosing, .ref q_acts, .int v_nextAct, .int v_actCount, .ref q_slots, .ref q_isKept, .ref q_heardPerson, .ref q_heardIs, .int v_heardCount, .long v_seed]), (q_now, cO 1 [.int v_now_people, .ref q_now_weights, .ref q_now_marks, .ref q_now_ageing, .int v_now_alive, .int v_now_reported, .int v_now_mornings, .int v_now_years]), (q_now_weights, cA E 3 v_now_weights), (q_now_marks, cA E 18 v_now_marks), (q_heardPerson, cA E 6 v_heardPerson), (q_heardIs, cB E 6 v_heardIs)]) [0, 5, 1, 2, 3, 4] rfl (by decide) ?_
    refine x_icmp_gt (tgt := 47) (pc' := 15) hZ dX3_countWorlds_12 (by decide) rfl (fun c12 => ?_) (fun c12 => ?_)
    · replace h := h.1 c12
      refine x_lv [2] (lv' := [(2, .int l2)]) rfl ?_
      exact hK l2 l3 h
    · replace h := h.2 c12
      refine x_iload_n (pc' := 16) hZ dX3_countWorlds_15 rfl 3 rfl ?_
      refine x_iload_n (pc' := 17) hZ dX3_countWorlds_16 rfl 1 rfl ?_
      refine x_iand (pc' := 18) hZ dX3_countWorlds_17 rfl ?_
      refine x_iload_n (pc' := 19) hZ dX3_countWorlds_18 rfl 1 rfl ?_
      refine x_icmp_ne (tgt := 41) (pc' := 22) hZ dX3_countWorlds_19 (by decide) rfl (fun c19 => ?_) (fun c19 => ?_)
      · replace h := h.1 c19
        obtain ⟨x41, e41⟩ : ∃ y : Int32, y = l3 + 1 := ⟨_, rfl⟩
        replace h := h x41 e41
        refine x_iinc (i := 3) (v := x41) (pc' := 44) (lv' := [(3, .int x41), (0, .ref q_this), (1, .int l1), (2, .int l2)]) hZ dX3_countWorlds_41 rfl 3 rfl (by rw [e41]; rfl) (by decide) rfl ?_
        refine x_goto (pc' := 4) hZ dX3_countWorlds_44 (by decide) ?_
        refine x_lv [1, 2, 3, 0] (lv' := [(0, .ref q_this), (1, .int l1), (2, .int l2), (3, .int x41)]) rfl ?_
        exact ih l2 x41 h hK
      · replace h := h.2 c19
        refine x_aload_n (pc' := 23) hZ dX3_countWorlds_22 rfl 0 rfl ?_
        refine x_iload_n (pc' := 24) hZ dX3_countWorlds_23 rfl 3 rfl ?_
        refine k_RX3_155 (pc' := 27) (q0 := 0) (as := [.int l3]) (rest := []) (c' := 0) (n' := 0) (wr := [(q_now_weights, cA E 3 v_now_weights), (q_now_marks, cA E 18 v_now_marks), (q_heardPerson, cA E 6 v_heardPerson), (q_heardIs, cB E 6 v_heardIs)]) hZ (c_X3_isWorld E q_this q_text q_now q_trial q_choosing q_acts q_slots q_isKept q_heardPerson q_heardIs q_now_weights q_now_marks q_now_ageing v_nextAct v_actCount v_heardCount v_seed v_now_people v_now_alive v_now_reported v_now_mornings v_now_years l3 _ h) rfl dX3_countWorlds_24 rfl rfl rfl rfl rfl (Nat.le_of_ble_eq_true rfl) (Nat.le_of_ble_eq_true rfl) (Nat.le_of_ble_eq_true rfl) rfl rfl (Nat.le_of_ble_eq_true rfl) (Nat.le_of_ble_eq_true rfl) [0, 1] [2, 3, 4, 5] rfl rfl (by decide) (by decide) (by decide) (fun r24 w24 hw => ?_)
        obtain ⟨rfl, h⟩ := hw
        refine x_ws (ws' := [(q_this, cO 3 [.ref q_text, .ref q_now, .ref q_trial, .ref q_choosing, .ref q_acts, .int v_nextAct, .int v_actCount, .ref q_slots, .ref q_isKept, .ref q_heardPerson, .ref q_heardIs, .int v_heardCount, .long v_seed]), (q_now, cO 1 [.int v_now_people, .ref q_now_weights, .ref q_now_marks, .ref q_now_ageing, .int v_now_alive, .int v_now_reported, .int v_now_mornings, .int v_now_years]), (q_now_weights, cA E 3 v_now_weights), (q_now_marks, cA E 18 v_now_marks), (q_heardPerson, cA E 6 v_heardPerson), (q_heardIs, cB E 6 v_heardIs)]) [4, 5, 0, 1, 2, 3] rfl (by decide) ?_
        refine x_if_eq (tgt := 41) (pc' := 30) hZ dX3_countWorlds_27 (by decide) rfl (fun c27 => ?_) (fun c27 => ?_)
        · replace h := h.1 c27
          obtain ⟨x41, e41⟩ : ∃ y : Int32, y = l3 + 1 := ⟨_, rfl⟩
          replace h := h x41 e41
          refine x_iinc (i := 3) (v := x41) (pc' := 44) (lv' := [(3, .int x41), (0, .ref q_this), (1, .int l1), (2, .int l2)]) hZ dX3_countWorlds_41 rfl 3 rfl (by rw [e41]; rfl) (by decide) rfl ?_
          refine x_goto (pc' := 4) hZ dX3_countWorlds_44 (by decide) ?_
          refine x_lv [1, 2, 3, 0] (lv' := [(0, .ref q_this), (1, .int l1), (2, .int l2), (3, .int x41)]) rfl ?_
          exact ih l2 x41 h hK
        · replace h := h.2 c27
          refine x_aload_n (pc' := 31) hZ dX3_countWorlds_30 rfl 0 rfl ?_
          refine x_iload_n (pc' := 32) hZ dX3_countWorlds_31 rfl 3 rfl ?_
          refine k_RX3_158 (pc' := 35) (q0 := 0) (as := [.int l3]) (rest := []) (c' := 0) (n' := 0) (wr := []) hZ (c_X3_fitsHeard E q_this q_text q_now q_trial q_choosing q_acts q_slots q_isKept q_heardPerson q_heardIs q_now_weights q_now_marks q_now_ageing v_nextAct v_actCount v_heardCount v_seed v_now_people v_now_alive v_now_reported v_now_mornings v_now_years v_now_weights v_now_marks v_heardPerson v_heardIs l3 _ h) rfl dX3_countWorlds_32 rfl rfl rfl rfl rfl (Nat.le_of_ble_eq_true rfl) (Nat.le_of_ble_eq_true rfl) (Nat.le_of_ble_eq_true rfl) rfl rfl (Nat.le_of_ble_eq_true rfl) (Nat.le_of_ble_eq_true rfl) [0, 1, 2, 3, 4, 5] [] rfl rfl (by decide) (by decide) (by decide) (fun r32 w32 hw => ?_)
          obtain ⟨rfl, h⟩ := hw
          refine x_ws (ws' := [(q_this, cO 3 [.ref q_text, .ref q_now, .ref q_trial, .ref q_choosing, .ref q_acts, .int v_nextAct, .int v_actCount, .ref q_slots, .ref q_isKept, .ref q_heardPerson, .ref q_heardIs, .int v_heardCount, .long v_seed]), (q_now, cO 1 [.int v_now_people, .ref q_now_weights, .ref q_now_marks, .ref q_now_ageing, .int v_now_alive, .int v_now_reported, .int v_now_mornings, .int v_now_years]), (q_now_weights, cA E 3 v_now_weights), (q_now_marks, cA E 18 v_now_marks), (q_heardPerson, cA E 6 v_heardPerson), (q_heardIs, cB E 6 v_heardIs)]) [0, 1, 2, 3, 4, 5] rfl (by decide) ?_
          refine x_if_eq (tgt := 41) (pc' := 38) hZ dX3_countWorlds_35 (by decide) rfl (fun c35 => ?_) (fun c35 => ?_)
          · replace h := h.1 c35
            obtain ⟨x41, e41⟩ : ∃ y : Int32, y = l3 + 1 := ⟨_, rfl⟩
            replace h := h x41 e41
            refine x_iinc (i := 3) (v := x41) (pc' := 44) (lv' := [(3, .int x41), (0, .ref q_this), (1, .int l1), (2, .int l2)]) hZ dX3_countWorlds_41 rfl 3 rfl (by rw [e41]; rfl) (by decide) rfl ?_
            refine x_goto (pc' := 4) hZ dX3_countWorlds_44 (by decide) ?_
            refine x_lv [1, 2, 3, 0] (lv' := [(0, .ref q_this), (1, .int l1), (2, .int l2), (3, .int x41)]) rfl ?_
            exact ih l2 x41 h hK
          · replace h := h.2 c35
            obtain ⟨x38, e38⟩ : ∃ y : Int32, y = l2 + 1 := ⟨_, rfl⟩
            replace h := h x38 e38
            refine x_iinc (i := 2) (v := x38) (pc' := 41) (lv' := [(2, .int x38), (0, .ref q_this), (1, .int l1), (3, .int l3)]) hZ dX3_countWorlds_38 rfl 2 rfl (by rw [e38]; rfl) (by decide) rfl ?_
            obtain ⟨x41, e41⟩ : ∃ y : Int32, y = l3 + 1 := ⟨_, rfl⟩
            replace h := h x41 e41
            refine x_iinc (i := 3) (v := x41) (pc' := 44) (lv' := [(3, .int x41), (2, .int x38), (0, .ref q_this), (1, .int l1)]) hZ dX3_countWorlds_41 rfl 3 rfl (by rw [e41]; rfl) (by decide) rfl ?_
            refine x_goto (pc' := 4) hZ dX3_countWorlds_44 (by decide) ?_
            refine x_lv [2, 3, 1, 0] (lv' := [(0, .ref q_this), (1, .int l1), (2, .int x38), (3, .int x41)]) rfl ?_
            exact ih x38 x41 h hK
set_option maxHeartbeats 4000000 in
set_option maxRecDepth 100000 in
theorem c_X3_countWorlds (E : XE) (q_this : Nat) (q_text : Nat) (q_now : Nat) (q_trial : Nat) (q_choosing : Nat) (q_acts : Nat) (q_slots : Nat) (q_isKept : Nat) (q_heardPerson : Nat) (q_heardIs : Nat) (q_now_weights : Nat) (q_now_marks : Nat) (q_now_ageing : Nat) (v_nextAct : Int32) (v_actCount : Int32) (v_heardCount : Int32) (v_seed : Int64) (v_now_people : Int32) (v_now_alive : Int32) (v_now_reported : Int32) (v_now_mornings : Int32) (v_now_years : Int32) (v_now_weights : Nat → Int32) (v_now_marks : Nat → Int32) (v_heardPerson : Nat → Int32) (v_heardIs : Nat → Int32) (l1 : Int32) (post : Int32 → Prop) (h : p_X3_countWorlds v_heardCount v_now_people v_now_reported v_now_weights v_now_marks v_heardPerson v_heardIs l1 post) : ConI E yX3_countWorlds cX3_countWorlds 4 .int { frames := 3, cells := 0, slots := 0, locals := 71 } 0 0 [.ref q_this, .int l1] [(q_this, cO 3 [.ref q_text, .ref q_now, .ref q_trial, .ref q_choosing, .ref q_acts, .int v_nextAct, .int v_actCount, .ref q_slots, .ref q_isKept, .ref q_heardPerson, .ref q_heardIs, .int v_heardCount, .long v_seed]), (q_now, cO 1 [.int v_now_people, .ref q_now_weights, .ref q_now_marks, .ref q_now_ageing, .int v_now_alive, .int v_now_reported, .int v_now_mornings, .int v_now_years]), (q_now_weights, cA E 3 v_now_weights), (q_now_marks, cA E 18 v_now_marks), (q_heardPerson, cA E 6 v_heardPerson), (q_heardIs, cB E 6 v_heardIs)] (fun r w => w = [(q_this, cO 3 [.ref q_text, .ref q_now, .ref q_trial, .ref q_choosing, .ref q_acts, .int v_nextAct, .int v_actCount, .ref q_slots, .ref q_isKept, .ref q_heardPerson, .ref q_heardIs, .int v_heardCount, .long v_seed]), (q_now, cO 1 [.int v_now_people, .ref q_now_weights, .ref q_now_marks, .ref q_now_ageing, .int v_now_alive, .int v_now_reported, .int v_now_mornings, .int v_now_years]), (q_now_weights, cA E 3 v_now_weights), (q_now_marks, cA E 18 v_now_marks), (q_heardPerson, cA E 6 v_heardPerson), (q_heardIs, cB E 6 v_heardIs)] ∧ post r ) := by
  refine ConI.of (by decide +kernel) (Nat.le_of_ble_eq_true rfl) (fun Z hZ hI hRet => ?_)
  replace hZ : XOK E Z RX3 cX3_countWorlds 4 { frames := 3, cells := 0, slots := 0, locals := 71 } := hZ
  clear hI
  show XW E Z 0 0 [(q_this, cO 3 [.ref q_text, .ref q_now, .ref q_trial, .ref q_choosing, .ref q_acts, .int v_nextAct, .int v_actCount, .ref q_slots, .ref q_isKept, .ref q_heardPerson, .ref q_heardIs, .int v_heardCount, .long v_seed]), (q_now, cO 1 [.int v_now_people, .ref q_now_weights, .ref q_now_marks, .ref q_now_ageing, .int v_now_alive, .int v_now_reported, .int v_now_mornings, .int v_now_years]), (q_now_weights, cA E 3 v_now_weights), (q_now_marks, cA E 18 v_now_marks), (q_heardPerson, cA E 6 v_heardPerson), (q_heardIs, cB E 6 v_heardIs)] [(0, .ref q_this), (1, .int l1)] [] 0
  unfold p_X3_countWorlds at h
  refine x_iconst (v := 0) (pc' := 1) hZ (by decide) dX3_countWorlds_0 rfl ?_
  refine x_istore_n (i := 2) (pc' := 2) (lv' := [(2, .int 0), (0, .ref q_this), (1, .int l1)]) hZ dX3_countWorlds_1 rfl rfl (by decide) rfl ?_
  refine x_iconst (v := 0) (pc' := 3) hZ (by decide) dX3_countWorlds_2 rfl ?_
  refine x_istore_n (i := 3) (pc' := 4) (lv' := [(3, .int 0), (2, .int 0), (0, .ref q_this), (1, .int l1)]) hZ dX3_countWorlds_3 rfl rfl (by decide) rfl ?_
  refine x_lv [2, 3, 1, 0] (lv' := [(0, .ref q_this), (1, .int l1), (2, .int 0), (3, .int 0)]) rfl ?_
  obtain ⟨k4, h⟩ := h
  refine t_X3_countWorlds_4 E Z q_this q_text q_now q_trial q_choosing q_acts q_slots q_isKept q_heardPerson q_heardIs q_now_weights q_now_marks q_now_ageing v_nextAct v_actCount v_heardCount v_seed v_now_people v_now_alive v_now_reported v_now_mornings v_now_years v_now_weights v_now_marks v_heardPerson v_heardIs l1 hZ  _ 0 0 h (fun l2_4 l3_4 h => ?_)
  refine x_iload_n (pc' := 48) hZ dX3_countWorlds_47 rfl 0 rfl ?_
  exact hRet _ _ _ _ dX3_countWorlds_48 ⟨rfl, h⟩
set_option maxHeartbeats 4000000 in
set_option maxRecDepth 100000 in
theorem t_X3_worlds_31 (E : XE) (Z : ZC) (q_this : Nat) (q_text : Nat) (q_now : Nat) (q_trial : Nat) (q_choosing : Nat) (q_acts : Nat) (q_slots : Nat) (q_isKept : Nat) (q_heardPerson : Nat) (q_heardIs : Nat) (q_now_weights : Nat) (q_now_marks : Nat) (q_now_ageing : Nat) (v_nextAct : Int32) (v_actCount : Int32) (v_heardCount : Int32) (v_seed : Int64) (v_now_people : Int32) (v_now_alive : Int32) (v_now_reported : Int32) (v_now_mornings : Int32) (v_now_years : Int32) (v_now_weights : Nat → Int32) (v_now_marks : Nat → Int32) (v_heardPerson : Nat → Int32) (v_heardIs : Nat → Int32) {K : Int32 → Int32 → Int32 → Prop} (hZ : XOK E Z RX3 cX3_worlds 5 { frames := 4, cells := 0, slots := 0, locals := 94 }) : ∀ (k : Nat) (l2 : Int32) (l3 : Int32) (l4 : Int32), wl (fun rec v => b_X3_worlds_31 v_heardCount v_now_people v_now_reported v_now_weights v_now_marks v_heardPerson v_heardIs K rec v.1 v.2.1 v.2.2) k (l2, l3, l4) → (∀ (l2 : Int32) (l3 : Int32) (l4 : Int32), K l2 l3 l4 → XW E Z 0 0 [(q_this, cO 3 [.ref q_text, .ref q_now, .ref q_trial, .ref q_choosing, .ref q_acts, .int v_nextAct, .int v_actCount, .ref q_slots, .ref q_isKept, .ref q_heardPerson, .ref q_heardIs, .int v_heardCount, .long v_seed]), (q_now, cO 1 [.int v_now_people, .ref q_now_weights, .ref q_now_marks, .ref q_now_ageing, .int v_now_alive, .int v_now_reported, .int v_now_mornings, .int v_now_years]), (q_now_weights, cA E 3 v_now_weights), (q_now_marks, cA E 18 v_now_marks), (q_heardPerson, cA E 6 v_heardPerson), (q_heardIs, cB E 6 v_heardIs)] [(2, .int l2), (3, .int l3)] [] 74) → XW E Z 0 0 [(q_this, cO 3 [.ref q_text, .ref q_now, .ref q_trial, .ref q_choosing, .ref q_acts, .int v_nextAct, .int v_actCount, .ref q_slots, .ref q_isKept, .ref q_heardPerson, .ref q_heardIs, .int v_heardCount, .long v_seed]), (q_now, cO 1 [.int v_now_people, .ref q_now_weights, .ref q_now_marks, .ref q_now_ageing, .int v_now_alive, .int v_now_reported, .int v_now_mornings, .int v_now_years]), (q_now_weights, cA E 3 v_now_weights), (q_now_marks, cA E 18 v_now_marks), (q_heardPerson, cA E 6 v_heardPerson), (q_heardIs, cB E 6 v_heardIs)] [(0, .ref q_this), (2, .int l2), (3, .int l3), (4, .int l4)] [] 31 := by
  intro k
  induction k with
  | zero =>
    intro l2 l3 l4 h
    exact h.elim
  | succ k ih =>
    intro l2 l3 l4 h hK
    replace h := wl_succ h
    try dsimp only at h
    unfold b_X3_worlds_31 at h
    refine x_iload (pc' := 33) hZ dX3_worlds_31 rfl 3 rfl ?_
    refine x_aload_n (pc' := 34) hZ dX3_worlds_33 rfl 0 rfl ?_
    refine g_RX3_19 (pc' := 37) hZ dX3_worlds_34 rfl 0 rfl rfl ?_
    refine k_RX3_152 (pc' := 40) (q0 := 1) (as := []) (rest := [.int l4]) (c' := 0) (n' := 0) (wr := [(q_this, cO 3 [.ref q_text, .ref q_now, .ref q_trial, .ref q_choosing, .ref q_acts, .int v_nextAct, .int v_actCount, .ref q_slots, .ref q_isKept, .ref q_heardPerson, .ref q_heardIs, .int v_heardCount, .long v_seed]), (q_now_weights, cA E 3 v_now_weights), (q_now_marks, cA E 18 v_now_marks), (q_heardPerson, cA E 6 v_heardPerson), (q_heardIs, cB E 6 v_heardIs)]) hZ (c_X1_everybody E q_now q_now_weights q_now_marks q_now_ageing v_now_people v_now_alive v_now_reported v_now_mornings v_now_years _ h) rfl dX3_worlds_37 rfl rfl rfl rfl rfl (Nat.le_of_ble_eq_true rfl) (Nat.le_of_ble_eq_true rfl) (Nat.le_of_ble_eq_true rfl) rfl rfl (Nat.le_of_ble_eq_true rfl) (Nat.le_of_ble_eq_true rfl) [1] [0, 2, 3, 4, 5] rfl rfl (by decide) (by decide) (by decide) (fun r37 w37 hw => ?_)
    obtain ⟨rfl, h⟩ := hw
    refine x_ws (ws' := [(q_this, cO 3 [.ref q_text, .ref q_now, .ref q_trial, .ref q_choosing, .ref q_acts, .int v_nextAct, .int v_actCount, .ref q_slots, .ref q_isKept, .ref q_heardPerson, .ref q_heardIs, .int v_heardCount, .long v_seed]), (q_now, cO 1 [.int v_now_people, .ref q_now_weights, .ref q_now_marks, .ref q_now_ageing, .int v_now_alive, .int v_now_reported, .int v_now_mornings, .int v_now_years]), (q_now_weights, cA E 3 v_now_weights), (q_now_marks, cA E 18 v_now_marks), (q_heardPerson, cA E 6 v_heardPerson), (q_heardIs, cB E 6 v_heardIs)]) [0, 5, 1, 2, 3, 4] rfl (by decide) ?_
    refine x_icmp_gt (tgt := 74) (pc' := 43) hZ dX3_worlds_40 (by decide) rfl (fun c40 => ?_) (fun c40 => ?_)
    · replace h := h.1 c40
      refine x_lv [1, 2] (lv' := [(2, .int l2), (3, .int l3)]) rfl ?_
      exact hK l2 l3 l4 h
    · replace h := h.2 c40
      refine x_aload_n (pc' := 44) hZ dX3_worlds_43 rfl 0 rfl ?_
      refine x_iload (pc' := 46) hZ dX3_worlds_44 rfl 3 rfl ?_
      refine k_RX3_155 (pc' := 49) (q0 := 0) (as := [.int l4]) (rest := []) (c' := 0) (n' := 0) (wr := [(q_now_weights, cA E 3 v_now_weights), (q_now_marks, cA E 18 v_now_marks), (q_heardPerson, cA E 6 v_heardPerson), (q_heardIs, cB E 6 v_heardIs)]) hZ (c_X3_isWorld E q_this q_text q_now q_trial q_choosing q_acts q_slots q_isKept q_heardPerson q_heardIs q_now_weights q_now_marks q_now_ageing v_nextAct v_actCount v_heardCount v_seed v_now_people v_now_alive v_now_reported v_now_mornings v_now_years l4 _ h) rfl dX3_worlds_46 rfl rfl rfl rfl rfl (Nat.le_of_ble_eq_true rfl) (Nat.le_of_ble_eq_true rfl) (Nat.le_of_ble_eq_true rfl) rfl rfl (Nat.le_of_ble_eq_true rfl) (Nat.le_of_ble_eq_true rfl) [0, 1] [2, 3, 4, 5] rfl rfl (by decide) (by decide) (by decide) (fun r46 w46 hw => ?_)
      obtain ⟨rfl, h⟩ := hw
      refine x_ws (ws' := [(q_this, cO 3 [.ref q_text, .ref q_now, .ref q_trial, .ref q_choosing, .ref q_acts, .int v_nextAct, .int v_actCount, .ref q_slots, .ref q_isKept, .ref q_heardPerson, .ref q_heardIs, .int v_heardCount, .long v_seed]), (q_now, cO 1 [.int v_now_people, .ref q_now_weights, .ref q_now_marks, .ref q_now_ageing, .int v_now_alive, .int v_now_reported, .int v_now_mornings, .int v_now_years]), (q_now_weights, cA E 3 v_now_weights), (q_now_marks, cA E 18 v_now_marks), (q_heardPerson, cA E 6 v_heardPerson), (q_heardIs, cB E 6 v_heardIs)]) [4, 5, 0, 1, 2, 3] rfl (by decide) ?_
      refine x_if_eq (tgt := 68) (pc' := 52) hZ dX3_worlds_49 (by decide) rfl (fun c49 => ?_) (fun c49 => ?_)
      · replace h := h.1 c49
        obtain ⟨x68, e68⟩ : ∃ y : Int32, y = l4 + 1 := ⟨_, rfl⟩
        replace h := h x68 e68
        refine x_iinc (i := 4) (v := x68) (pc' := 71) (lv' := [(4, .int x68), (0, .ref q_this), (2, .int l2), (3, .int l3)]) hZ dX3_worlds_68 rfl 3 rfl (by rw [e68]; rfl) (by decide) rfl ?_
        refine x_goto (pc' := 31) hZ dX3_worlds_71 (by decide) ?_
        refine x_lv [1, 2, 3, 0] (lv' := [(0, .ref q_this), (2, .int l2), (3, .int l3), (4, .int x68)]) rfl ?_
        exact ih l2 l3 x68 h hK
      · replace h := h.2 c49
        refine x_aload_n (pc' := 53) hZ dX3_worlds_52 rfl 0 rfl ?_
        refine x_iload (pc' := 55) hZ dX3_worlds_53 rfl 3 rfl ?_
        refine k_RX3_158 (pc' := 58) (q0 := 0) (as := [.int l4]) (rest := []) (c' := 0) (n' := 0) (wr := []) hZ (c_X3_fitsHeard E q_this q_text q_now q_trial q_choosing q_acts q_slots q_isKept q_heardPerson q_heardIs q_now_weights q_now_marks q_now_ageing v_nextAct v_actCount v_heardCount v_seed v_now_people v_now_alive v_now_reported v_now_mornings v_now_years v_now_weights v_now_marks v_heardPerson v_heardIs l4 _ h) rfl dX3_worlds_55 rfl rfl rfl rfl rfl (Nat.le_of_ble_eq_true rfl) (Nat.le_of_ble_eq_true rfl) (Nat.le_of_ble_eq_true rfl) rfl rfl (Nat.le_of_ble_eq_true rfl) (Nat.le_of_ble_eq_true rfl) [0, 1, 2, 3, 4, 5] [] rfl rfl (by decide) (by decide) (by decide) (fun r55 w55 hw => ?_)
        obtain ⟨rfl, h⟩ := hw
        refine x_ws (ws' := [(q_this, cO 3 [.ref q_text, .ref q_now, .ref q_trial, .ref q_choosing, .ref q_acts, .int v_nextAct, .int v_actCount, .ref q_slots, .ref q_isKept, .ref q_heardPerson, .ref q_heardIs, .int v_heardCount, .long v_seed]), (q_now, cO 1 [.int v_now_people, .ref q_now_weights, .ref q_now_marks, .ref q_now_ageing, .int v_now_alive, .int v_now_reported, .int v_now_mornings, .int v_now_years]), (q_now_weights, cA E 3 v_now_weights), (q_now_marks, cA E 18 v_now_marks), (q_heardPerson, cA E 6 v_heardPerson), (q_heardIs, cB E 6 v_heardIs)]) [0, 1, 2, 3, 4, 5] rfl (by decide) ?_
        refine x_if_eq (tgt := 68) (pc' := 61) hZ dX3_worlds_58 (by decide) rfl (fun c58 => ?_) (fun c58 => ?_)
        · replace h := h.1 c58
          obtain ⟨x68, e68⟩ : ∃ y : Int32, y = l4 + 1 := ⟨_, rfl⟩
          replace h := h x68 e68
          refine x_iinc (i := 4) (v := x68) (pc' := 71) (lv' := [(4, .int x68), (0, .ref q_this), (2, .int l2), (3, .int l3)]) hZ dX3_worlds_68 rfl 3 rfl (by rw [e68]; rfl) (by decide) rfl ?_
          refine x_goto (pc' := 31) hZ dX3_worlds_71 (by decide) ?_
          refine x_lv [1, 2, 3, 0] (lv' := [(0, .ref q_this), (2, .int l2), (3, .int l3), (4, .int x68)]) rfl ?_
          exact ih l2 l3 x68 h hK
        · replace h := h.2 c58
          refine x_iload_n (pc' := 62) hZ dX3_worlds_61 rfl 1 rfl ?_
          refine x_iload (pc' := 64) hZ dX3_worlds_62 rfl 3 rfl ?_
          refine x_iand (pc' := 65) hZ dX3_worlds_64 rfl ?_
          refine x_topi (fun x65 e65 => ?_)
          replace h := h x65 e65
          refine x_istore_n (i := 2) (pc' := 66) (lv' := [(2, .int x65), (0, .ref q_this), (3, .int l3), (4, .int l4)]) hZ dX3_worlds_65 rfl rfl (by decide) rfl ?_
          refine x_iconst (v := 1) (pc' := 67) hZ (by decide) dX3_worlds_66 rfl ?_
          refine x_istore_n (i := 3) (pc' := 68) (lv' := [(3, .int 1), (2, .int x65), (0, .ref q_this), (4, .int l4)]) hZ dX3_worlds_67 rfl rfl (by decide) rfl ?_
          obtain ⟨x68, e68⟩ : ∃ y : Int32, y = l4 + 1 := ⟨_, rfl⟩
          replace h := h x68 e68
          refine x_iinc (i := 4) (v := x68) (pc' := 71) (lv' := [(4, .int x68), (3, .int 1), (2, .int x65), (0, .ref q_this)]) hZ dX3_worlds_68 rfl 3 rfl (by rw [e68]; rfl) (by decide) rfl ?_
          refine x_goto (pc' := 31) hZ dX3_worlds_71 (by decide) ?_
          refine x_lv [3, 2, 1, 0] (lv' := [(0, .ref q_this), (2, .int x65), (3, .int 1), (4, .int x68)]) rfl ?_
          exact ih x65 1 x68 h hK
set_option maxHeartbeats 4000000 in
set_option maxRecDepth 100000 in
theorem c_X3_worlds (E : XE) (q_this : Nat) (q_text : Nat) (q_now : Nat) (q_trial : Nat) (q_choosing : Nat) (q_acts : Nat) (q_slots : Nat) (q_isKept : Nat) (q_heardPerson : Nat) (q_heardIs : Nat) (q_now_weights : Nat) (q_now_marks : Nat) (q_now_ageing : Nat) (v_nextAct : Int32) (v_actCount : Int32) (v_heardCount : Int32) (v_seed : Int64) (v_now_people : Int32) (v_now_alive : Int32) (v_now_reported : Int32) (v_now_mornings : Int32) (v_now_years : Int32) (v_now_weights : Nat → Int32) (v_now_marks : Nat → Int32) (v_heardPerson : Nat → Int32) (v_heardIs : Nat → Int32) (l1 : Int32) (post : Int32 → Prop) (h : p_X3_worlds v_heardCount v_now_people v_now_reported v_now_weights v_now_marks v_heardPerson v_heardIs l1 post) : ConI E yX3_worlds cX3_worlds 5 .int { frames := 4, cells := 0, slots := 0, locals := 94 } 0 0 [.ref q_this, .int l1] [(q_this, cO 3 [.ref q_text, .ref q_now, .ref q_trial, .ref q_choosing, .ref q_acts, .int v_nextAct, .int v_actCount, .ref q_slots, .ref q_isKept, .ref q_heardPerson, .ref q_heardIs, .int v_heardCount, .long v_seed]), (q_now, cO 1 [.int v_now_people, .ref q_now_weights, .ref q_now_marks, .ref q_now_ageing, .int v_now_alive, .int v_now_reported, .int v_now_mornings, .int v_now_years]), (q_now_weights, cA E 3 v_now_weights), (q_now_marks, cA E 18 v_now_marks), (q_heardPerson, cA E 6 v_heardPerson), (q_heardIs, cB E 6 v_heardIs)] (fun r w => w = [(q_this, cO 3 [.ref q_text, .ref q_now, .ref q_trial, .ref q_choosing, .ref q_acts, .int v_nextAct, .int v_actCount, .ref q_slots, .ref q_isKept, .ref q_heardPerson, .ref q_heardIs, .int v_heardCount, .long v_seed]), (q_now, cO 1 [.int v_now_people, .ref q_now_weights, .ref q_now_marks, .ref q_now_ageing, .int v_now_alive, .int v_now_reported, .int v_now_mornings, .int v_now_years]), (q_now_weights, cA E 3 v_now_weights), (q_now_marks, cA E 18 v_now_marks), (q_heardPerson, cA E 6 v_heardPerson), (q_heardIs, cB E 6 v_heardIs)] ∧ post r ) := by
  refine ConI.of (by decide +kernel) (Nat.le_of_ble_eq_true rfl) (fun Z hZ hI hRet => ?_)
  replace hZ : XOK E Z RX3 cX3_worlds 5 { frames := 4, cells := 0, slots := 0, locals := 94 } := hZ
  clear hI
  show XW E Z 0 0 [(q_this, cO 3 [.ref q_text, .ref q_now, .ref q_trial, .ref q_choosing, .ref q_acts, .int v_nextAct, .int v_actCount, .ref q_slots, .ref q_isKept, .ref q_heardPerson, .ref q_heardIs, .int v_heardCount, .long v_seed]), (q_now, cO 1 [.int v_now_people, .ref q_now_weights, .ref q_now_marks, .ref q_now_ageing, .int v_now_alive, .int v_now_reported, .int v_now_mornings, .int v_now_years]), (q_now_weights, cA E 3 v_now_weights), (q_now_marks, cA E 18 v_now_marks), (q_heardPerson, cA E 6 v_heardPerson), (q_heardIs, cB E 6 v_heardIs)] [(0, .ref q_this), (1, .int l1)] [] 0
  unfold p_X3_worlds at h
  refine x_iload_n (pc' := 1) hZ dX3_worlds_0 rfl 1 rfl ?_
  refine x_if_ne (tgt := 10) (pc' := 4) hZ dX3_worlds_1 (by decide) rfl (fun c1 => ?_) (fun c1 => ?_)
  · replace h := h.1 c1
    refine x_iload_n (pc' := 11) hZ dX3_worlds_10 rfl 1 rfl ?_
    refine x_iconst (v := 1) (pc' := 12) hZ (by decide) dX3_worlds_11 rfl ?_
    refine x_icmp_eq (tgt := 18) (pc' := 15) hZ dX3_worlds_12 (by decide) rfl (fun c12 => ?_) (fun c12 => ?_)
    · replace h := h.1 c12
      refine x_aload_n (pc' := 19) hZ dX3_worlds_18 rfl 0 rfl ?_
      refine g_RX3_19 (pc' := 22) hZ dX3_worlds_19 rfl 0 rfl rfl ?_
      refine k_RX3_152 (pc' := 25) (q0 := 1) (as := []) (rest := []) (c' := 0) (n' := 0) (wr := [(q_this, cO 3 [.ref q_text, .ref q_now, .ref q_trial, .ref q_choosing, .ref q_acts, .int v_nextAct, .int v_actCount, .ref q_slots, .ref q_isKept, .ref q_heardPerson, .ref q_heardIs, .int v_heardCount, .long v_seed]), (q_now_weights, cA E 3 v_now_weights), (q_now_marks, cA E 18 v_now_marks), (q_heardPerson, cA E 6 v_heardPerson), (q_heardIs, cB E 6 v_heardIs)]) hZ (c_X1_everybody E q_now q_now_weights q_now_marks q_now_ageing v_now_people v_now_alive v_now_reported v_now_mornings v_now_years _ h) rfl dX3_worlds_22 rfl rfl rfl rfl rfl (Nat.le_of_ble_eq_true rfl) (Nat.le_of_ble_eq_true rfl) (Nat.le_of_ble_eq_true rfl) rfl rfl (Nat.le_of_ble_eq_true rfl) (Nat.le_of_ble_eq_true rfl) [1] [0, 2, 3, 4, 5] rfl rfl (by decide) (by decide) (by decide) (fun r22 w22 hw => ?_)
      obtain ⟨rfl, h⟩ := hw
      refine x_ws (ws' := [(q_this, cO 3 [.ref q_text, .ref q_now, .ref q_trial, .ref q_choosing, .ref q_acts, .int v_nextAct, .int v_actCount, .ref q_slots, .ref q_isKept, .ref q_heardPerson, .ref q_heardIs, .int v_heardCount, .long v_seed]), (q_now, cO 1 [.int v_now_people, .ref q_now_weights, .ref q_now_marks, .ref q_now_ageing, .int v_now_alive, .int v_now_reported, .int v_now_mornings, .int v_now_years]), (q_now_weights, cA E 3 v_now_weights), (q_now_marks, cA E 18 v_now_marks), (q_heardPerson, cA E 6 v_heardPerson), (q_heardIs, cB E 6 v_heardIs)]) [0, 5, 1, 2, 3, 4] rfl (by decide) ?_
      refine x_istore_n (i := 2) (pc' := 26) (lv' := [(2, .int r22), (0, .ref q_this), (1, .int l1)]) hZ dX3_worlds_25 rfl rfl (by decide) rfl ?_
      refine x_iconst (v := 0) (pc' := 27) hZ (by decide) dX3_worlds_26 rfl ?_
      refine x_istore_n (i := 3) (pc' := 28) (lv' := [(3, .int 0), (2, .int r22), (0, .ref q_this), (1, .int l1)]) hZ dX3_worlds_27 rfl rfl (by decide) rfl ?_
      refine x_iconst (v := 0) (pc' := 29) hZ (by decide) dX3_worlds_28 rfl ?_
      refine x_istore (i := 4) (pc' := 31) (lv' := [(4, .int 0), (3, .int 0), (2, .int r22), (0, .ref q_this), (1, .int l1)]) hZ dX3_worlds_29 rfl (by decide) rfl ?_
      refine x_lv [3, 2, 1, 0] (lv' := [(0, .ref q_this), (2, .int r22), (3, .int 0), (4, .int 0)]) rfl ?_
      obtain ⟨k31, h⟩ := h
      refine t_X3_worlds_31 E Z q_this q_text q_now q_trial q_choosing q_acts q_slots q_isKept q_heardPerson q_heardIs q_now_weights q_now_marks q_now_ageing v_nextAct v_actCount v_heardCount v_seed v_now_people v_now_alive v_now_reported v_now_mornings v_now_years v_now_weights v_now_marks v_heardPerson v_heardIs hZ  _ r22 0 0 h (fun l2_31 l3_31 l4_31 h => ?_)
      refine x_iload_n (pc' := 75) hZ dX3_worlds_74 rfl 1 rfl ?_
      refine x_if_eq (tgt := 82) (pc' := 78) hZ dX3_worlds_75 (by decide) rfl (fun c75 => ?_) (fun c75 => ?_)
      · replace h := h.1 c75
        refine x_bipush (v := (-9)) (pc' := 84) hZ (by decide) dX3_worlds_82 rfl ?_
        exact hRet _ _ _ _ dX3_worlds_84 ⟨rfl, h⟩
      · replace h := h.2 c75
        refine x_iload_n (pc' := 79) hZ dX3_worlds_78 rfl 0 rfl ?_
        refine x_goto (pc' := 84) hZ dX3_worlds_79 (by decide) ?_
        exact hRet _ _ _ _ dX3_worlds_84 ⟨rfl, h⟩
    · replace h := h.2 c12
      refine x_bipush (v := (-2)) (pc' := 17) hZ (by decide) dX3_worlds_15 rfl ?_
      exact hRet _ _ _ _ dX3_worlds_17 ⟨rfl, h⟩
  · replace h := h.2 c1
    refine x_aload_n (pc' := 5) hZ dX3_worlds_4 rfl 0 rfl ?_
    refine x_iconst (v := 0) (pc' := 6) hZ (by decide) dX3_worlds_5 rfl ?_
    refine k_RX3_149 (pc' := 9) (q0 := 0) (as := [.int 0]) (rest := []) (c' := 0) (n' := 0) (wr := []) hZ (c_X3_countWorlds E q_this q_text q_now q_trial q_choosing q_acts q_slots q_isKept q_heardPerson q_heardIs q_now_weights q_now_marks q_now_ageing v_nextAct v_actCount v_heardCount v_seed v_now_people v_now_alive v_now_reported v_now_mornings v_now_years v_now_weights v_now_marks v_heardPerson v_heardIs 0 _ h) rfl dX3_worlds_6 rfl rfl rfl rfl rfl (Nat.le_of_ble_eq_true rfl) (Nat.le_of_ble_eq_true rfl) (Nat.le_of_ble_eq_true rfl) rfl rfl (Nat.le_of_ble_eq_true rfl) (Nat.le_of_ble_eq_true rfl) [0, 1, 2, 3, 4, 5] [] rfl rfl (by decide) (by decide) (by decide) (fun r6 w6 hw => ?_)
    obtain ⟨rfl, h⟩ := hw
    refine x_ws (ws' := [(q_this, cO 3 [.ref q_text, .ref q_now, .ref q_trial, .ref q_choosing, .ref q_acts, .int v_nextAct, .int v_actCount, .ref q_slots, .ref q_isKept, .ref q_heardPerson, .ref q_heardIs, .int v_heardCount, .long v_seed]), (q_now, cO 1 [.int v_now_people, .ref q_now_weights, .ref q_now_marks, .ref q_now_ageing, .int v_now_alive, .int v_now_reported, .int v_now_mornings, .int v_now_years]), (q_now_weights, cA E 3 v_now_weights), (q_now_marks, cA E 18 v_now_marks), (q_heardPerson, cA E 6 v_heardPerson), (q_heardIs, cB E 6 v_heardIs)]) [0, 1, 2, 3, 4, 5] rfl (by decide) ?_
    exact hRet _ _ _ _ dX3_worlds_9 ⟨rfl, h⟩
set_option maxHeartbeats 4000000 in
set_option maxRecDepth 100000 in
theorem t_X3_toAsk_21 (E : XE) (Z : ZC) (q_this : Nat) (q_text : Nat) (q_now : Nat) (q_trial : Nat) (q_choosing : Nat) (q_acts : Nat) (q_slots : Nat) (q_isKept : Nat) (q_heardPerson : Nat) (q_heardIs : Nat) (q_now_weights : Nat) (q_now_marks : Nat) (q_now_ageing : Nat) (v_nextAct : Int32) (v_actCount : Int32) (v_heardCount : Int32) (v_seed : Int64) (v_now_people : Int32) (v_now_alive : Int32) (v_now_reported : Int32) (v_now_mornings : Int32) (v_now_years : Int32) (v_now_weights : Nat → Int32) (v_now_marks : Nat → Int32) (v_heardPerson : Nat → Int32) (v_heardIs : Nat → Int32) (l1 : Int32) {K : Int32 → Int32 → Int32 → Prop} (hZ : XOK E Z RX3 cX3_toAsk 7 { frames := 4, cells := 0, slots := 0, locals := 94 }) : ∀ (k : Nat) (l2 : Int32) (l3 : Int32) (l4 : Int32), wl (fun rec v => b_X3_toAsk_21 l1 v_heardCount v_now_people v_now_reported v_now_weights v_now_marks v_heardPerson v_heardIs K rec v.1 v.2.1 v.2.2) k (l2, l3, l4) → (∀ (l2 : Int32) (l3 : Int32) (l4 : Int32), K l2 l3 l4 → XW E Z 0 0 [(q_this, cO 3 [.ref q_text, .ref q_now, .ref q_trial, .ref q_choosing, .ref q_acts, .int v_nextAct, .int v_actCount, .ref q_slots, .ref q_isKept, .ref q_heardPerson, .ref q_heardIs, .int v_heardCount, .long v_seed]), (q_now, cO 1 [.int v_now_people, .ref q_now_weights, .ref q_now_marks, .ref q_now_ageing, .int v_now_alive, .int v_now_reported, .int v_now_mornings, .int v_now_years]), (q_now_weights, cA E 3 v_now_weights), (q_now_marks, cA E 18 v_now_marks), (q_heardPerson, cA E 6 v_heardPerson), (q_heardIs, cB E 6 v_heardIs)] [(2, .int l2)] [] 84) → XW E Z 0 0 [(q_this, cO 3 [.ref q_text, .ref q_now, .ref q_trial, .ref q_choosing, .ref q_acts, .int v_nextAct, .int v_actCount, .ref q_slots, .ref q_isKept, .ref q_heardPerson, .ref q_heardIs, .int v_heardCount, .long v_seed]), (q_now, cO 1 [.int v_now_people, .ref q_now_weights, .ref q_now_marks, .ref q_now_ageing, .int v_now_alive, .int v_now_reported, .int v_now_mornings, .int v_now_years]), (q_now_weights, cA E 3 v_now_weights), (q_now_marks, cA E 18 v_now_marks), (q_heardPerson, cA E 6 v_heardPerson), (q_heardIs, cB E 6 v_heardIs)] [(0, .ref q_this), (1, .int l1), (2, .int l2), (3, .int l3), (4, .int l4)] [] 21 := by
  intro k
  induction k with
  | zero =>
    intro l2 l3 l4 h
    exact h.elim
  | succ k ih =>
    intro l2 l3 l4 h hK
    replace h := wl_succ h
    try dsimp only at h
    unfold b_X3_toAsk_21 at h
    refine x_iload (pc' := 23) hZ dX3_toAsk_21 rfl 4 rfl ?_
    refine x_aload_n (pc' := 24) hZ dX3_toAsk_23 rfl 0 rfl ?_
    refine g_RX3_19 (pc' := 27) hZ dX3_toAsk_24 rfl 0 rfl rfl ?_
    refine g_RX3_82 (pc' := 30) hZ dX3_toAsk_27 rfl 1 rfl rfl ?_
    refine x_icmp_ge (tgt := 84) (pc' := 33) hZ dX3_toAsk_30 (by decide) rfl (fun c30 => ?_) (fun c30 => ?_)
    · replace h := h.1 c30
      refine x_lv [2] (lv' := [(2, .int l2)]) rfl ?_
      exact hK l2 l3 l4 h
    · replace h := h.2 c30
      refine x_aload_n (pc' := 34) hZ dX3_toAsk_33 rfl 0 rfl ?_
      refine g_RX3_19 (pc' := 37) hZ dX3_toAsk_34 rfl 0 rfl rfl ?_
      refine x_iload (pc' := 39) hZ dX3_toAsk_37 rfl 4 rfl ?_
      refine k_RX3_117 (pc' := 42) (q0 := 1) (as := [.int l4]) (rest := []) (c' := 0) (n' := 0) (wr := [(q_this, cO 3 [.ref q_text, .ref q_now, .ref q_trial, .ref q_choosing, .ref q_acts, .int v_nextAct, .int v_actCount, .ref q_slots, .ref q_isKept, .ref q_heardPerson, .ref q_heardIs, .int v_heardCount, .long v_seed]), (q_now_weights, cA E 3 v_now_weights), (q_now_marks, cA E 18 v_now_marks), (q_heardPerson, cA E 6 v_heardPerson), (q_heardIs, cB E 6 v_heardIs)]) hZ (c_X1_isReported E q_now q_now_weights q_now_marks q_now_ageing v_now_people v_now_alive v_now_reported v_now_mornings v_now_years l4 _ h) rfl dX3_toAsk_39 rfl rfl rfl rfl rfl (Nat.le_of_ble_eq_true rfl) (Nat.le_of_ble_eq_true rfl) (Nat.le_of_ble_eq_true rfl) rfl rfl (Nat.le_of_ble_eq_true rfl) (Nat.le_of_ble_eq_true rfl) [1] [0, 2, 3, 4, 5] rfl rfl (by decide) (by decide) (by decide) (fun r39 w39 hw => ?_)
      obtain ⟨rfl, h⟩ := hw
      refine x_ws (ws' := [(q_this, cO 3 [.ref q_text, .ref q_now, .ref q_trial, .ref q_choosing, .ref q_acts, .int v_nextAct, .int v_actCount, .ref q_slots, .ref q_isKept, .ref q_heardPerson, .ref q_heardIs, .int v_heardCount, .long v_seed]), (q_now, cO 1 [.int v_now_people, .ref q_now_weights, .ref q_now_marks, .ref q_now_ageing, .int v_now_alive, .int v_now_reported, .int v_now_mornings, .int v_now_years]), (q_now_weights, cA E 3 v_now_weights), (q_now_marks, cA E 18 v_now_marks), (q_heardPerson, cA E 6 v_heardPerson), (q_heardIs, cB E 6 v_heardIs)]) [0, 5, 1, 2, 3, 4] rfl (by decide) ?_
      refine x_if_eq (tgt := 78) (pc' := 45) hZ dX3_toAsk_42 (by decide) rfl (fun c42 => ?_) (fun c42 => ?_)
      · replace h := h.1 c42
        obtain ⟨x78, e78⟩ : ∃ y : Int32, y = l4 + 1 := ⟨_, rfl⟩
        replace h := h x78 e78
        refine x_iinc (i := 4) (v := x78) (pc' := 81) (lv' := [(4, .int x78), (0, .ref q_this), (1, .int l1), (2, .int l2), (3, .int l3)]) hZ dX3_toAsk_78 rfl 4 rfl (by rw [e78]; rfl) (by decide) rfl ?_
        refine x_goto (pc' := 21) hZ dX3_toAsk_81 (by decide) ?_
        refine x_lv [1, 2, 3, 4, 0] (lv' := [(0, .ref q_this), (1, .int l1), (2, .int l2), (3, .int l3), (4, .int x78)]) rfl ?_
        exact ih l2 l3 x78 h hK
      · replace h := h.2 c42
        refine x_aload_n (pc' := 46) hZ dX3_toAsk_45 rfl 0 rfl ?_
        refine x_iconst (v := 1) (pc' := 47) hZ (by decide) dX3_toAsk_46 rfl ?_
        refine x_iload (pc' := 49) hZ dX3_toAsk_47 rfl 4 rfl ?_
        refine x_ishl (pc' := 50) hZ dX3_toAsk_49 rfl ?_
        refine k_RX3_149 (pc' := 53) (q0 := 0) (as := [.int (jshl 1 l4)]) (rest := []) (c' := 0) (n' := 0) (wr := []) hZ (c_X3_countWorlds E q_this q_text q_now q_trial q_choosing q_acts q_slots q_isKept q_heardPerson q_heardIs q_now_weights q_now_marks q_now_ageing v_nextAct v_actCount v_heardCount v_seed v_now_people v_now_alive v_now_reported v_now_mornings v_now_years v_now_weights v_now_marks v_heardPerson v_heardIs (jshl 1 l4) _ h) rfl dX3_toAsk_50 rfl rfl rfl rfl rfl (Nat.le_of_ble_eq_true rfl) (Nat.le_of_ble_eq_true rfl) (Nat.le_of_ble_eq_true rfl) rfl rfl (Nat.le_of_ble_eq_true rfl) (Nat.le_of_ble_eq_true rfl) [0, 1, 2, 3, 4, 5] [] rfl rfl (by decide) (by decide) (by decide) (fun r50 w50 hw => ?_)
        obtain ⟨rfl, h⟩ := hw
        refine x_ws (ws' := [(q_this, cO 3 [.ref q_text, .ref q_now, .ref q_trial, .ref q_choosing, .ref q_acts, .int v_nextAct, .int v_actCount, .ref q_slots, .ref q_isKept, .ref q_heardPerson, .ref q_heardIs, .int v_heardCount, .long v_seed]), (q_now, cO 1 [.int v_now_people, .ref q_now_weights, .ref q_now_marks, .ref q_now_ageing, .int v_now_alive, .int v_now_reported, .int v_now_mornings, .int v_now_years]), (q_now_weights, cA E 3 v_now_weights), (q_now_marks, cA E 18 v_now_marks), (q_heardPerson, cA E 6 v_heardPerson), (q_heardIs, cB E 6 v_heardIs)]) [0, 1, 2, 3, 4, 5] rfl (by decide) ?_
        refine x_istore (i := 5) (pc' := 55) (lv' := [(5, .int r50), (0, .ref q_this), (1, .int l1), (2, .int l2), (3, .int l3), (4, .int l4)]) hZ dX3_toAsk_53 rfl (by decide) rfl ?_
        refine x_iload (pc' := 57) hZ dX3_toAsk_55 rfl 0 rfl ?_
        refine x_iload_n (pc' := 58) hZ dX3_toAsk_57 rfl 2 rfl ?_
        refine x_iload (pc' := 60) hZ dX3_toAsk_58 rfl 0 rfl ?_
        refine x_isub (pc' := 61) hZ dX3_toAsk_60 rfl ?_
        refine x_mmin (pc' := 64) hZ kl_RX3_161 dX3_toAsk_61 rfl (Nat.le_of_ble_eq_true rfl) (Nat.le_of_ble_eq_true rfl) (Nat.le_of_ble_eq_true rfl) (Nat.le_of_ble_eq_true rfl) ?_
        refine x_topi (fun x64 e64 => ?_)
        replace h := h x64 e64
        refine x_istore (i := 6) (pc' := 66) (lv' := [(6, .int x64), (5, .int r50), (0, .ref q_this), (1, .int l1), (2, .int l2), (3, .int l3), (4, .int l4)]) hZ dX3_toAsk_64 rfl (by decide) rfl ?_
        refine x_iload (pc' := 68) hZ dX3_toAsk_66 rfl 0 rfl ?_
        refine x_iload_n (pc' := 69) hZ dX3_toAsk_68 rfl 5 rfl ?_
        refine x_icmp_le (tgt := 78) (pc' := 72) hZ dX3_toAsk_69 (by decide) rfl (fun c69 => ?_) (fun c69 => ?_)
        · replace h := h.1 c69
          obtain ⟨x78, e78⟩ : ∃ y : Int32, y = l4 + 1 := ⟨_, rfl⟩
          replace h := h x78 e78
          refine x_iinc (i := 4) (v := x78) (pc' := 81) (lv' := [(4, .int x78), (6, .int x64), (5, .int r50), (0, .ref q_this), (1, .int l1), (2, .int l2), (3, .int l3)]) hZ dX3_toAsk_78 rfl 6 rfl (by rw [e78]; rfl) (by decide) rfl ?_
          refine x_goto (pc' := 21) hZ dX3_toAsk_81 (by decide) ?_
          refine x_lv [3, 4, 5, 6, 0] (lv' := [(0, .ref q_this), (1, .int l1), (2, .int l2), (3, .int l3), (4, .int x78)]) rfl ?_
          exact ih l2 l3 x78 h hK
        · replace h := h.2 c69
          refine x_iload (pc' := 74) hZ dX3_toAsk_72 rfl 6 rfl ?_
          refine x_istore_n (i := 2) (pc' := 75) (lv' := [(2, .int l4), (6, .int x64), (5, .int r50), (0, .ref q_this), (1, .int l1), (3, .int l3), (4, .int l4)]) hZ dX3_toAsk_74 rfl rfl (by decide) rfl ?_
          refine x_iload (pc' := 77) hZ dX3_toAsk_75 rfl 1 rfl ?_
          refine x_istore_n (i := 3) (pc' := 78) (lv' := [(3, .int x64), (2, .int l4), (6, .int x64), (5, .int r50), (0, .ref q_this), (1, .int l1), (4, .int l4)]) hZ dX3_toAsk_77 rfl rfl (by decide) rfl ?_
          obtain ⟨x78, e78⟩ : ∃ y : Int32, y = l4 + 1 := ⟨_, rfl⟩
          replace h := h x78 e78
          refine x_iinc (i := 4) (v := x78) (pc' := 81) (lv' := [(4, .int x78), (3, .int x64), (2, .int l4), (6, .int x64), (5, .int r50), (0, .ref q_this), (1, .int l1)]) hZ dX3_toAsk_78 rfl 6 rfl (by rw [e78]; rfl) (by decide) rfl ?_
          refine x_goto (pc' := 21) hZ dX3_toAsk_81 (by decide) ?_
          refine x_lv [5, 6, 2, 1, 0] (lv' := [(0, .ref q_this), (1, .int l1), (2, .int l4), (3, .int x64), (4, .int x78)]) rfl ?_
          exact ih l4 x64 x78 h hK
set_option maxHeartbeats 4000000 in
set_option maxRecDepth 100000 in
theorem c_X3_toAsk (E : XE) (q_this : Nat) (q_text : Nat) (q_now : Nat) (q_trial : Nat) (q_choosing : Nat) (q_acts : Nat) (q_slots : Nat) (q_isKept : Nat) (q_heardPerson : Nat) (q_heardIs : Nat) (q_now_weights : Nat) (q_now_marks : Nat) (q_now_ageing : Nat) (v_nextAct : Int32) (v_actCount : Int32) (v_heardCount : Int32) (v_seed : Int64) (v_now_people : Int32) (v_now_alive : Int32) (v_now_reported : Int32) (v_now_mornings : Int32) (v_now_years : Int32) (v_now_weights : Nat → Int32) (v_now_marks : Nat → Int32) (v_heardPerson : Nat → Int32) (v_heardIs : Nat → Int32) (post : Int32 → Prop) (h : p_X3_toAsk v_heardCount v_now_people v_now_reported v_now_weights v_now_marks v_heardPerson v_heardIs post) : ConI E yX3_toAsk cX3_toAsk 7 .int { frames := 4, cells := 0, slots := 0, locals := 94 } 0 0 [.ref q_this] [(q_this, cO 3 [.ref q_text, .ref q_now, .ref q_trial, .ref q_choosing, .ref q_acts, .int v_nextAct, .int v_actCount, .ref q_slots, .ref q_isKept, .ref q_heardPerson, .ref q_heardIs, .int v_heardCount, .long v_seed]), (q_now, cO 1 [.int v_now_people, .ref q_now_weights, .ref q_now_marks, .ref q_now_ageing, .int v_now_alive, .int v_now_reported, .int v_now_mornings, .int v_now_years]), (q_now_weights, cA E 3 v_now_weights), (q_now_marks, cA E 18 v_now_marks), (q_heardPerson, cA E 6 v_heardPerson), (q_heardIs, cB E 6 v_heardIs)] (fun r w => w = [(q_this, cO 3 [.ref q_text, .ref q_now, .ref q_trial, .ref q_choosing, .ref q_acts, .int v_nextAct, .int v_actCount, .ref q_slots, .ref q_isKept, .ref q_heardPerson, .ref q_heardIs, .int v_heardCount, .long v_seed]), (q_now, cO 1 [.int v_now_people, .ref q_now_weights, .ref q_now_marks, .ref q_now_ageing, .int v_now_alive, .int v_now_reported, .int v_now_mornings, .int v_now_years]), (q_now_weights, cA E 3 v_now_weights), (q_now_marks, cA E 18 v_now_marks), (q_heardPerson, cA E 6 v_heardPerson), (q_heardIs, cB E 6 v_heardIs)] ∧ post r ) := by
  refine ConI.of (by decide +kernel) (Nat.le_of_ble_eq_true rfl) (fun Z hZ hI hRet => ?_)
  replace hZ : XOK E Z RX3 cX3_toAsk 7 { frames := 4, cells := 0, slots := 0, locals := 94 } := hZ
  clear hI
  show XW E Z 0 0 [(q_this, cO 3 [.ref q_text, .ref q_now, .ref q_trial, .ref q_choosing, .ref q_acts, .int v_nextAct, .int v_actCount, .ref q_slots, .ref q_isKept, .ref q_heardPerson, .ref q_heardIs, .int v_heardCount, .long v_seed]), (q_now, cO 1 [.int v_now_people, .ref q_now_weights, .ref q_now_marks, .ref q_now_ageing, .int v_now_alive, .int v_now_reported, .int v_now_mornings, .int v_now_years]), (q_now_weights, cA E 3 v_now_weights), (q_now_marks, cA E 18 v_now_marks), (q_heardPerson, cA E 6 v_heardPerson), (q_heardIs, cB E 6 v_heardIs)] [(0, .ref q_this)] [] 0
  unfold p_X3_toAsk at h
  refine x_aload_n (pc' := 1) hZ dX3_toAsk_0 rfl 0 rfl ?_
  refine x_iconst (v := 0) (pc' := 2) hZ (by decide) dX3_toAsk_1 rfl ?_
  refine k_RX3_149 (pc' := 5) (q0 := 0) (as := [.int 0]) (rest := []) (c' := 0) (n' := 0) (wr := []) hZ (c_X3_countWorlds E q_this q_text q_now q_trial q_choosing q_acts q_slots q_isKept q_heardPerson q_heardIs q_now_weights q_now_marks q_now_ageing v_nextAct v_actCount v_heardCount v_seed v_now_people v_now_alive v_now_reported v_now_mornings v_now_years v_now_weights v_now_marks v_heardPerson v_heardIs 0 _ h) rfl dX3_toAsk_2 rfl rfl rfl rfl rfl (Nat.le_of_ble_eq_true rfl) (Nat.le_of_ble_eq_true rfl) (Nat.le_of_ble_eq_true rfl) rfl rfl (Nat.le_of_ble_eq_true rfl) (Nat.le_of_ble_eq_true rfl) [0, 1, 2, 3, 4, 5] [] rfl rfl (by decide) (by decide) (by decide) (fun r2 w2 hw => ?_)
  obtain ⟨rfl, h⟩ := hw
  refine x_ws (ws' := [(q_this, cO 3 [.ref q_text, .ref q_now, .ref q_trial, .ref q_choosing, .ref q_acts, .int v_nextAct, .int v_actCount, .ref q_slots, .ref q_isKept, .ref q_heardPerson, .ref q_heardIs, .int v_heardCount, .long v_seed]), (q_now, cO 1 [.int v_now_people, .ref q_now_weights, .ref q_now_marks, .ref q_now_ageing, .int v_now_alive, .int v_now_reported, .int v_now_mornings, .int v_now_years]), (q_now_weights, cA E 3 v_now_weights), (q_now_marks, cA E 18 v_now_marks), (q_heardPerson, cA E 6 v_heardPerson), (q_heardIs, cB E 6 v_heardIs)]) [0, 1, 2, 3, 4, 5] rfl (by decide) ?_
  refine x_istore_n (i := 1) (pc' := 6) (lv' := [(1, .int r2), (0, .ref q_this)]) hZ dX3_toAsk_5 rfl rfl (by decide) rfl ?_
  refine x_iload_n (pc' := 7) hZ dX3_toAsk_6 rfl 0 rfl ?_
  refine x_if_ne (tgt := 13) (pc' := 10) hZ dX3_toAsk_7 (by decide) rfl (fun c7 => ?_) (fun c7 => ?_)
  · replace h := h.1 c7
    refine x_bipush (v := (-9)) (pc' := 15) hZ (by decide) dX3_toAsk_13 rfl ?_
    refine x_istore_n (i := 2) (pc' := 16) (lv' := [(2, .int (-9)), (1, .int r2), (0, .ref q_this)]) hZ dX3_toAsk_15 rfl rfl (by decide) rfl ?_
    refine x_iconst (v := (-1)) (pc' := 17) hZ (by decide) dX3_toAsk_16 rfl ?_
    refine x_istore_n (i := 3) (pc' := 18) (lv' := [(3, .int (-1)), (2, .int (-9)), (1, .int r2), (0, .ref q_this)]) hZ dX3_toAsk_17 rfl rfl (by decide) rfl ?_
    refine x_iconst (v := 0) (pc' := 19) hZ (by decide) dX3_toAsk_18 rfl ?_
    refine x_istore (i := 4) (pc' := 21) (lv' := [(4, .int 0), (3, .int (-1)), (2, .int (-9)), (1, .int r2), (0, .ref q_this)]) hZ dX3_toAsk_19 rfl (by decide) rfl ?_
    refine x_lv [4, 3, 2, 1, 0] (lv' := [(0, .ref q_this), (1, .int r2), (2, .int (-9)), (3, .int (-1)), (4, .int 0)]) rfl ?_
    obtain ⟨k21, h⟩ := h
    refine t_X3_toAsk_21 E Z q_this q_text q_now q_trial q_choosing q_acts q_slots q_isKept q_heardPerson q_heardIs q_now_weights q_now_marks q_now_ageing v_nextAct v_actCount v_heardCount v_seed v_now_people v_now_alive v_now_reported v_now_mornings v_now_years v_now_weights v_now_marks v_heardPerson v_heardIs r2 hZ  _ (-9) (-1) 0 h (fun l2_21 l3_21 l4_21 h => ?_)
    refine x_iload_n (pc' := 85) hZ dX3_toAsk_84 rfl 0 rfl ?_
    exact hRet _ _ _ _ dX3_toAsk_85 ⟨rfl, h⟩
  · replace h := h.2 c7
    refine x_bipush (v := (-9)) (pc' := 12) hZ (by decide) dX3_toAsk_10 rfl ?_
    exact hRet _ _ _ _ dX3_toAsk_12 ⟨rfl, h⟩
set_option maxHeartbeats 4000000 in
set_option maxRecDepth 100000 in
theorem t_X3_answer_38 (E : XE) (Z : ZC) (q_this : Nat) (q_text : Nat) (q_now : Nat) (q_trial : Nat) (q_choosing : Nat) (q_acts : Nat) (q_slots : Nat) (q_isKept : Nat) (q_heardPerson : Nat) (q_heardIs : Nat) (q_now_weights : Nat) (q_now_marks : Nat) (q_now_ageing : Nat) (v_nextAct : Int32) (v_actCount : Int32) (v_heardCount : Int32) (v_seed : Int64) (v_now_people : Int32) (v_now_alive : Int32) (v_now_reported : Int32) (v_now_mornings : Int32) (v_now_years : Int32) (v_now_weights : Nat → Int32) (v_now_marks : Nat → Int32) (l1 : Int32) (l2 : Int32) (l3 : Int32) {K : Int32 → Int32 → Int32 → Prop} (hZ : XOK E Z RX3 cX3_answer 9 { frames := 2, cells := 0, slots := 0, locals := 47 }) : ∀ (k : Nat) (l4 : Int32) (l5 : Int32) (l6 : Int32), wl (fun rec v => b_X3_answer_38 l1 l3 v_now_people v_now_alive K rec v.1 v.2.1 v.2.2) k (l4, l5, l6) → (∀ (l4 : Int32) (l5 : Int32) (l6 : Int32), K l4 l5 l6 → XW E Z 0 0 [(q_this, cO 3 [.ref q_text, .ref q_now, .ref q_trial, .ref q_choosing, .ref q_acts, .int v_nextAct, .int v_actCount, .ref q_slots, .ref q_isKept, .ref q_heardPerson, .ref q_heardIs, .int v_heardCount, .long v_seed]), (q_now, cO 1 [.int v_now_people, .ref q_now_weights, .ref q_now_marks, .ref q_now_ageing, .int v_now_alive, .int v_now_reported, .int v_now_mornings, .int v_now_years]), (q_now_weights, cA E 3 v_now_weights), (q_now_marks, cA E 18 v_now_marks)] [(2, .int l2), (4, .int l4), (5, .int l5)] [] 120) → XW E Z 0 0 [(q_this, cO 3 [.ref q_text, .ref q_now, .ref q_trial, .ref q_choosing, .ref q_acts, .int v_nextAct, .int v_actCount, .ref q_slots, .ref q_isKept, .ref q_heardPerson, .ref q_heardIs, .int v_heardCount, .long v_seed]), (q_now, cO 1 [.int v_now_people, .ref q_now_weights, .ref q_now_marks, .ref q_now_ageing, .int v_now_alive, .int v_now_reported, .int v_now_mornings, .int v_now_years]), (q_now_weights, cA E 3 v_now_weights), (q_now_marks, cA E 18 v_now_marks)] [(0, .ref q_this), (1, .int l1), (2, .int l2), (3, .int l3), (4, .int l4), (5, .int l5), (6, .int l6)] [] 38 := by
  intro k
  induction k with
  | zero =>
    intro l4 l5 l6 h
    exact h.elim
  | succ k ih =>
    intro l4 l5 l6 h hK
    replace h := wl_succ h
    try dsimp only at h
    unfold b_X3_answer_38 at h
    refine x_iload (pc' := 40) hZ dX3_answer_38 rfl 6 rfl ?_
    refine x_aload_n (pc' := 41) hZ dX3_answer_40 rfl 0 rfl ?_
    refine g_RX3_19 (pc' := 44) hZ dX3_answer_41 rfl 0 rfl rfl ?_
    refine k_RX3_152 (pc' := 47) (q0 := 1) (as := []) (rest := [.int l6]) (c' := 0) (n' := 0) (wr := [(q_this, cO 3 [.ref q_text, .ref q_now, .ref q_trial, .ref q_choosing, .ref q_acts, .int v_nextAct, .int v_actCount, .ref q_slots, .ref q_isKept, .ref q_heardPerson, .ref q_heardIs, .int v_heardCount, .long v_seed]), (q_now_weights, cA E 3 v_now_weights), (q_now_marks, cA E 18 v_now_marks)]) hZ (c_X1_everybody E q_now q_now_weights q_now_marks q_now_ageing v_now_people v_now_alive v_now_reported v_now_mornings v_now_years _ h) rfl dX3_answer_44 rfl rfl rfl rfl rfl (Nat.le_of_ble_eq_true rfl) (Nat.le_of_ble_eq_true rfl) (Nat.le_of_ble_eq_true rfl) rfl rfl (Nat.le_of_ble_eq_true rfl) (Nat.le_of_ble_eq_true rfl) [1] [0, 2, 3] rfl rfl (by decide) (by decide) (by decide) (fun r44 w44 hw => ?_)
    obtain ⟨rfl, h⟩ := hw
    refine x_ws (ws' := [(q_this, cO 3 [.ref q_text, .ref q_now, .ref q_trial, .ref q_choosing, .ref q_acts, .int v_nextAct, .int v_actCount, .ref q_slots, .ref q_isKept, .ref q_heardPerson, .ref q_heardIs, .int v_heardCount, .long v_seed]), (q_now, cO 1 [.int v_now_people, .ref q_now_weights, .ref q_now_marks, .ref q_now_ageing, .int v_now_alive, .int v_now_reported, .int v_now_mornings, .int v_now_years]), (q_now_weights, cA E 3 v_now_weights), (q_now_marks, cA E 18 v_now_marks)]) [0, 3, 1, 2] rfl (by decide) ?_
    refine x_icmp_gt (tgt := 120) (pc' := 50) hZ dX3_answer_47 (by decide) rfl (fun c47 => ?_) (fun c47 => ?_)
    · replace h := h.1 c47
      refine x_lv [2, 4, 5] (lv' := [(2, .int l2), (4, .int l4), (5, .int l5)]) rfl ?_
      exact hK l4 l5 l6 h
    · replace h := h.2 c47
      refine x_iload (pc' := 52) hZ dX3_answer_50 rfl 6 rfl ?_
      refine x_aload_n (pc' := 53) hZ dX3_answer_52 rfl 0 rfl ?_
      refine g_RX3_19 (pc' := 56) hZ dX3_answer_53 rfl 0 rfl rfl ?_
      refine g_RX3_85 (pc' := 59) hZ dX3_answer_56 rfl 1 rfl rfl ?_
      refine x_iconst (v := (-1)) (pc' := 60) hZ (by decide) dX3_answer_59 rfl ?_
      refine x_ixor (pc' := 61) hZ dX3_answer_60 rfl ?_
      refine x_iand (pc' := 62) hZ dX3_answer_61 rfl ?_
      refine x_if_ne (tgt := 69) (pc' := 65) hZ dX3_answer_62 (by decide) rfl (fun c62 => ?_) (fun c62 => ?_)
      · replace h := h.1 c62
        refine x_iconst (v := 0) (pc' := 70) hZ (by decide) dX3_answer_69 rfl ?_
        refine x_istore (i := 7) (pc' := 72) (lv' := [(7, .int 0), (0, .ref q_this), (1, .int l1), (2, .int l2), (3, .int l3), (4, .int l4), (5, .int l5), (6, .int l6)]) hZ dX3_answer_70 rfl (by decide) rfl ?_
        refine x_iload_n (pc' := 73) hZ dX3_answer_72 rfl 4 rfl ?_
        refine x_iload (pc' := 75) hZ dX3_answer_73 rfl 7 rfl ?_
        refine x_iconst (v := (-1)) (pc' := 76) hZ (by decide) dX3_answer_75 rfl ?_
        refine x_ixor (pc' := 77) hZ dX3_answer_76 rfl ?_
        refine x_iand (pc' := 78) hZ dX3_answer_77 rfl ?_
        refine x_if_ne (tgt := 85) (pc' := 81) hZ dX3_answer_78 (by decide) rfl (fun c78 => ?_) (fun c78 => ?_)
        · replace h := h.1 c78
          refine x_iconst (v := 0) (pc' := 86) hZ (by decide) dX3_answer_85 rfl ?_
          refine x_istore (i := 8) (pc' := 88) (lv' := [(8, .int 0), (7, .int 0), (0, .ref q_this), (1, .int l1), (2, .int l2), (3, .int l3), (4, .int l4), (5, .int l5), (6, .int l6)]) hZ dX3_answer_86 rfl (by decide) rfl ?_
          refine x_iload (pc' := 90) hZ dX3_answer_88 rfl 1 rfl ?_
          refine x_if_eq (tgt := 114) (pc' := 93) hZ dX3_answer_90 (by decide) rfl (fun c90 => ?_) (fun c90 => ?_)
          · obtain ⟨x114, e114⟩ : ∃ y : Int32, y = l6 + 1 := ⟨_, rfl⟩
            replace h := h x114 e114
            refine x_iinc (i := 6) (v := x114) (pc' := 117) (lv' := [(6, .int x114), (8, .int 0), (7, .int 0), (0, .ref q_this), (1, .int l1), (2, .int l2), (3, .int l3), (4, .int l4), (5, .int l5)]) hZ dX3_answer_114 rfl 8 rfl (by rw [e114]; rfl) (by decide) rfl ?_
            refine x_goto (pc' := 38) hZ dX3_answer_117 (by decide) ?_
            refine x_lv [3, 4, 5, 6, 7, 8, 0] (lv' := [(0, .ref q_this), (1, .int l1), (2, .int l2), (3, .int l3), (4, .int l4), (5, .int l5), (6, .int x114)]) rfl ?_
            exact ih l4 l5 x114 h hK
          · exact absurd c90 (by decide)
        · replace h := h.2 c78
          refine x_iconst (v := 1) (pc' := 82) hZ (by decide) dX3_answer_81 rfl ?_
          refine x_goto (pc' := 86) hZ dX3_answer_82 (by decide) ?_
          refine x_istore (i := 8) (pc' := 88) (lv' := [(8, .int 1), (7, .int 0), (0, .ref q_this), (1, .int l1), (2, .int l2), (3, .int l3), (4, .int l4), (5, .int l5), (6, .int l6)]) hZ dX3_answer_86 rfl (by decide) rfl ?_
          refine x_iload (pc' := 90) hZ dX3_answer_88 rfl 1 rfl ?_
          refine x_if_eq (tgt := 114) (pc' := 93) hZ dX3_answer_90 (by decide) rfl (fun c90 => ?_) (fun c90 => ?_)
          · obtain ⟨x114, e114⟩ : ∃ y : Int32, y = l6 + 1 := ⟨_, rfl⟩
            replace h := h x114 e114
            refine x_iinc (i := 6) (v := x114) (pc' := 117) (lv' := [(6, .int x114), (8, .int 1), (7, .int 0), (0, .ref q_this), (1, .int l1), (2, .int l2), (3, .int l3), (4, .int l4), (5, .int l5)]) hZ dX3_answer_114 rfl 8 rfl (by rw [e114]; rfl) (by decide) rfl ?_
            refine x_goto (pc' := 38) hZ dX3_answer_117 (by decide) ?_
            refine x_lv [3, 4, 5, 6, 7, 8, 0] (lv' := [(0, .ref q_this), (1, .int l1), (2, .int l2), (3, .int l3), (4, .int l4), (5, .int l5), (6, .int x114)]) rfl ?_
            exact ih l4 l5 x114 h hK
          · exact absurd c90 (by decide)
      · replace h := h.2 c62
        refine x_iconst (v := 1) (pc' := 66) hZ (by decide) dX3_answer_65 rfl ?_
        refine x_goto (pc' := 70) hZ dX3_answer_66 (by decide) ?_
        refine x_istore (i := 7) (pc' := 72) (lv' := [(7, .int 1), (0, .ref q_this), (1, .int l1), (2, .int l2), (3, .int l3), (4, .int l4), (5, .int l5), (6, .int l6)]) hZ dX3_answer_70 rfl (by decide) rfl ?_
        refine x_iload_n (pc' := 73) hZ dX3_answer_72 rfl 4 rfl ?_
        refine x_iload (pc' := 75) hZ dX3_answer_73 rfl 7 rfl ?_
        refine x_iconst (v := (-1)) (pc' := 76) hZ (by decide) dX3_answer_75 rfl ?_
        refine x_ixor (pc' := 77) hZ dX3_answer_76 rfl ?_
        refine x_iand (pc' := 78) hZ dX3_answer_77 rfl ?_
        refine x_if_ne (tgt := 85) (pc' := 81) hZ dX3_answer_78 (by decide) rfl (fun c78 => ?_) (fun c78 => ?_)
        · replace h := h.1 c78
          refine x_iconst (v := 0) (pc' := 86) hZ (by decide) dX3_answer_85 rfl ?_
          refine x_istore (i := 8) (pc' := 88) (lv' := [(8, .int 0), (7, .int 1), (0, .ref q_this), (1, .int l1), (2, .int l2), (3, .int l3), (4, .int l4), (5, .int l5), (6, .int l6)]) hZ dX3_answer_86 rfl (by decide) rfl ?_
          refine x_iload (pc' := 90) hZ dX3_answer_88 rfl 1 rfl ?_
          refine x_if_eq (tgt := 114) (pc' := 93) hZ dX3_answer_90 (by decide) rfl (fun c90 => ?_) (fun c90 => ?_)
          · exact absurd c90 (by decide)
          · refine x_iload (pc' := 95) hZ dX3_answer_93 rfl 0 rfl ?_
            refine x_if_eq (tgt := 114) (pc' := 98) hZ dX3_answer_95 (by decide) rfl (fun c95 => ?_) (fun c95 => ?_)
            · obtain ⟨x114, e114⟩ : ∃ y : Int32, y = l6 + 1 := ⟨_, rfl⟩
              replace h := h x114 e114
              refine x_iinc (i := 6) (v := x114) (pc' := 117) (lv' := [(6, .int x114), (8, .int 0), (7, .int 1), (0, .ref q_this), (1, .int l1), (2, .int l2), (3, .int l3), (4, .int l4), (5, .int l5)]) hZ dX3_answer_114 rfl 8 rfl (by rw [e114]; rfl) (by decide) rfl ?_
              refine x_goto (pc' := 38) hZ dX3_answer_117 (by decide) ?_
              refine x_lv [3, 4, 5, 6, 7, 8, 0] (lv' := [(0, .ref q_this), (1, .int l1), (2, .int l2), (3, .int l3), (4, .int l4), (5, .int l5), (6, .int x114)]) rfl ?_
              exact ih l4 l5 x114 h hK
            · exact absurd c95 (by decide)
        · replace h := h.2 c78
          refine x_iconst (v := 1) (pc' := 82) hZ (by decide) dX3_answer_81 rfl ?_
          refine x_goto (pc' := 86) hZ dX3_answer_82 (by decide) ?_
          refine x_istore (i := 8) (pc' := 88) (lv' := [(8, .int 1), (7, .int 1), (0, .ref q_this), (1, .int l1), (2, .int l2), (3, .int l3), (4, .int l4), (5, .int l5), (6, .int l6)]) hZ dX3_answer_86 rfl (by decide) rfl ?_
          refine x_iload (pc' := 90) hZ dX3_answer_88 rfl 1 rfl ?_
          refine x_if_eq (tgt := 114) (pc' := 93) hZ dX3_answer_90 (by decide) rfl (fun c90 => ?_) (fun c90 => ?_)
          · exact absurd c90 (by decide)
          · refine x_iload (pc' := 95) hZ dX3_answer_93 rfl 0 rfl ?_
            refine x_if_eq (tgt := 114) (pc' := 98) hZ dX3_answer_95 (by decide) rfl (fun c95 => ?_) (fun c95 => ?_)
            · exact absurd c95 (by decide)
            · refine x_iload (pc' := 100) hZ dX3_answer_98 rfl 8 rfl ?_
              refine k_RX3_164 (pc' := 103) (as := [.int l6]) (rest := []) (c' := 0) (n' := 0) (wr := [(q_this, cO 3 [.ref q_text, .ref q_now, .ref q_trial, .ref q_choosing, .ref q_acts, .int v_nextAct, .int v_actCount, .ref q_slots, .ref q_isKept, .ref q_heardPerson, .ref q_heardIs, .int v_heardCount, .long v_seed]), (q_now, cO 1 [.int v_now_people, .ref q_now_weights, .ref q_now_marks, .ref q_now_ageing, .int v_now_alive, .int v_now_reported, .int v_now_mornings, .int v_now_years]), (q_now_weights, cA E 3 v_now_weights), (q_now_marks, cA E 18 v_now_marks)]) hZ (c_J6_bitCount_0f7a4 E l6 _ h) dX3_answer_100 rfl rfl rfl rfl rfl (Nat.le_of_ble_eq_true rfl) (Nat.le_of_ble_eq_true rfl) (Nat.le_of_ble_eq_true rfl) rfl rfl (Nat.le_of_ble_eq_true rfl) (Nat.le_of_ble_eq_true rfl) [] [0, 1, 2, 3] rfl rfl (by decide) (by decide) (by decide) (fun r100 w100 hw => ?_)
              obtain ⟨rfl, h⟩ := hw
              refine x_ws (ws' := [(q_this, cO 3 [.ref q_text, .ref q_now, .ref q_trial, .ref q_choosing, .ref q_acts, .int v_nextAct, .int v_actCount, .ref q_slots, .ref q_isKept, .ref q_heardPerson, .ref q_heardIs, .int v_heardCount, .long v_seed]), (q_now, cO 1 [.int v_now_people, .ref q_now_weights, .ref q_now_marks, .ref q_now_ageing, .int v_now_alive, .int v_now_reported, .int v_now_mornings, .int v_now_years]), (q_now_weights, cA E 3 v_now_weights), (q_now_marks, cA E 18 v_now_marks)]) [0, 1, 2, 3] rfl (by decide) ?_
              refine x_iload_n (pc' := 104) hZ dX3_answer_103 rfl 3 rfl ?_
              refine x_icmp_ne (tgt := 114) (pc' := 107) hZ dX3_answer_104 (by decide) rfl (fun c104 => ?_) (fun c104 => ?_)
              · replace h := h.1 c104
                obtain ⟨x114, e114⟩ : ∃ y : Int32, y = l6 + 1 := ⟨_, rfl⟩
                replace h := h x114 e114
                refine x_iinc (i := 6) (v := x114) (pc' := 117) (lv' := [(6, .int x114), (8, .int 1), (7, .int 1), (0, .ref q_this), (1, .int l1), (2, .int l2), (3, .int l3), (4, .int l4), (5, .int l5)]) hZ dX3_answer_114 rfl 8 rfl (by rw [e114]; rfl) (by decide) rfl ?_
                refine x_goto (pc' := 38) hZ dX3_answer_117 (by decide) ?_
                refine x_lv [3, 4, 5, 6, 7, 8, 0] (lv' := [(0, .ref q_this), (1, .int l1), (2, .int l2), (3, .int l3), (4, .int l4), (5, .int l5), (6, .int x114)]) rfl ?_
                exact ih l4 l5 x114 h hK
              · replace h := h.2 c104
                obtain ⟨x107, e107⟩ : ∃ y : Int32, y = l4 + 1 := ⟨_, rfl⟩
                replace h := h x107 e107
                refine x_iinc (i := 4) (v := x107) (pc' := 110) (lv' := [(4, .int x107), (8, .int 1), (7, .int 1), (0, .ref q_this), (1, .int l1), (2, .int l2), (3, .int l3), (5, .int l5), (6, .int l6)]) hZ dX3_answer_107 rfl 6 rfl (by rw [e107]; rfl) (by decide) rfl ?_
                refine x_iload (pc' := 112) hZ dX3_answer_110 rfl 8 rfl ?_
                refine x_istore (i := 5) (pc' := 114) (lv' := [(5, .int l6), (4, .int x107), (8, .int 1), (7, .int 1), (0, .ref q_this), (1, .int l1), (2, .int l2), (3, .int l3), (6, .int l6)]) hZ dX3_answer_112 rfl (by decide) rfl ?_
                obtain ⟨x114, e114⟩ : ∃ y : Int32, y = l6 + 1 := ⟨_, rfl⟩
                replace h := h x114 e114
                refine x_iinc (i := 6) (v := x114) (pc' := 117) (lv' := [(6, .int x114), (5, .int l6), (4, .int x107), (8, .int 1), (7, .int 1), (0, .ref q_this), (1, .int l1), (2, .int l2), (3, .int l3)]) hZ dX3_answer_114 rfl 8 rfl (by rw [e114]; rfl) (by decide) rfl ?_
                refine x_goto (pc' := 38) hZ dX3_answer_117 (by decide) ?_
                refine x_lv [5, 6, 7, 8, 2, 1, 0] (lv' := [(0, .ref q_this), (1, .int l1), (2, .int l2), (3, .int l3), (4, .int x107), (5, .int l6), (6, .int x114)]) rfl ?_
                exact ih x107 l6 x114 h hK
set_option maxHeartbeats 4000000 in
set_option maxRecDepth 100000 in
theorem c_X3_answer (E : XE) (q_this : Nat) (q_text : Nat) (q_now : Nat) (q_trial : Nat) (q_choosing : Nat) (q_acts : Nat) (q_slots : Nat) (q_isKept : Nat) (q_heardPerson : Nat) (q_heardIs : Nat) (q_now_weights : Nat) (q_now_marks : Nat) (q_now_ageing : Nat) (v_nextAct : Int32) (v_actCount : Int32) (v_heardCount : Int32) (v_seed : Int64) (v_now_people : Int32) (v_now_alive : Int32) (v_now_reported : Int32) (v_now_mornings : Int32) (v_now_years : Int32) (v_now_weights : Nat → Int32) (v_now_marks : Nat → Int32) (l1 : Int32) (l2 : Int32) (post : Int32 → Prop) (h : p_X3_answer v_now_people v_now_alive v_now_weights v_now_marks l1 l2 post) : ConI E yX3_answer cX3_answer 9 .int { frames := 2, cells := 0, slots := 0, locals := 47 } 0 0 [.ref q_this, .int l1, .int l2] [(q_this, cO 3 [.ref q_text, .ref q_now, .ref q_trial, .ref q_choosing, .ref q_acts, .int v_nextAct, .int v_actCount, .ref q_slots, .ref q_isKept, .ref q_heardPerson, .ref q_heardIs, .int v_heardCount, .long v_seed]), (q_now, cO 1 [.int v_now_people, .ref q_now_weights, .ref q_now_marks, .ref q_now_ageing, .int v_now_alive, .int v_now_reported, .int v_now_mornings, .int v_now_years]), (q_now_weights, cA E 3 v_now_weights), (q_now_marks, cA E 18 v_now_marks)] (fun r w => w = [(q_this, cO 3 [.ref q_text, .ref q_now, .ref q_trial, .ref q_choosing, .ref q_acts, .int v_nextAct, .int v_actCount, .ref q_slots, .ref q_isKept, .ref q_heardPerson, .ref q_heardIs, .int v_heardCount, .long v_seed]), (q_now, cO 1 [.int v_now_people, .ref q_now_weights, .ref q_now_marks, .ref q_now_ageing, .int v_now_alive, .int v_now_reported, .int v_now_mornings, .int v_now_years]), (q_now_weights, cA E 3 v_now_weights), (q_now_marks, cA E 18 v_now_marks)] ∧ post r ) := by
  refine ConI.of (by decide +kernel) (Nat.le_of_ble_eq_true rfl) (fun Z hZ hI hRet => ?_)
  replace hZ : XOK E Z RX3 cX3_answer 9 { frames := 2, cells := 0, slots := 0, locals := 47 } := hZ
  clear hI
  show XW E Z 0 0 [(q_this, cO 3 [.ref q_text, .ref q_now, .ref q_trial, .ref q_choosing, .ref q_acts, .int v_nextAct, .int v_actCount, .ref q_slots, .ref q_isKept, .ref q_heardPerson, .ref q_heardIs, .int v_heardCount, .long v_seed]), (q_now, cO 1 [.int v_now_people, .ref q_now_weights, .ref q_now_marks, .ref q_now_ageing, .int v_now_alive, .int v_now_reported, .int v_now_mornings, .int v_now_years]), (q_now_weights, cA E 3 v_now_weights), (q_now_marks, cA E 18 v_now_marks)] [(0, .ref q_this), (1, .int l1), (2, .int l2)] [] 0
  unfold p_X3_answer at h
  refine x_iload_n (pc' := 1) hZ dX3_answer_0 rfl 1 rfl ?_
  refine x_if_lt (tgt := 10) (pc' := 4) hZ dX3_answer_1 (by decide) rfl (fun c1 => ?_) (fun c1 => ?_)
  · replace h := h.1 c1
    refine x_bipush (v := (-2)) (pc' := 12) hZ (by decide) dX3_answer_10 rfl ?_
    exact hRet _ _ _ _ dX3_answer_12 ⟨rfl, h⟩
  · replace h := h.2 c1
    refine x_iload_n (pc' := 5) hZ dX3_answer_4 rfl 1 rfl ?_
    refine x_bipush (v := 6) (pc' := 7) hZ (by decide) dX3_answer_5 rfl ?_
    refine x_icmp_le (tgt := 13) (pc' := 10) hZ dX3_answer_7 (by decide) rfl (fun c7 => ?_) (fun c7 => ?_)
    · replace h := h.1 c7
      refine x_aload_n (pc' := 14) hZ dX3_answer_13 rfl 0 rfl ?_
      refine g_RX3_19 (pc' := 17) hZ dX3_answer_14 rfl 0 rfl rfl ?_
      refine x_aload_n (pc' := 18) hZ dX3_answer_17 rfl 0 rfl ?_
      refine g_RX3_19 (pc' := 21) hZ dX3_answer_18 rfl 0 rfl rfl ?_
      refine g_RX3_85 (pc' := 24) hZ dX3_answer_21 rfl 1 rfl rfl ?_
      refine k_RX3_91 (pc' := 27) (q0 := 1) (as := [.int v_now_alive]) (rest := []) (c' := 0) (n' := 0) (wr := [(q_this, cO 3 [.ref q_text, .ref q_now, .ref q_trial, .ref q_choosing, .ref q_acts, .int v_nextAct, .int v_actCount, .ref q_slots, .ref q_isKept, .ref q_heardPerson, .ref q_heardIs, .int v_heardCount, .long v_seed])]) hZ (c_X1_fairestOf E q_now q_now_weights q_now_marks q_now_ageing v_now_people v_now_alive v_now_reported v_now_mornings v_now_years v_now_weights v_now_marks v_now_alive _ h) rfl dX3_answer_24 rfl rfl rfl rfl rfl (Nat.le_of_ble_eq_true rfl) (Nat.le_of_ble_eq_true rfl) (Nat.le_of_ble_eq_true rfl) rfl rfl (Nat.le_of_ble_eq_true rfl) (Nat.le_of_ble_eq_true rfl) [1, 2, 3] [0] rfl rfl (by decide) (by decide) (by decide) (fun r24 w24 hw => ?_)
      obtain ⟨rfl, h⟩ := hw
      refine x_ws (ws' := [(q_this, cO 3 [.ref q_text, .ref q_now, .ref q_trial, .ref q_choosing, .ref q_acts, .int v_nextAct, .int v_actCount, .ref q_slots, .ref q_isKept, .ref q_heardPerson, .ref q_heardIs, .int v_heardCount, .long v_seed]), (q_now, cO 1 [.int v_now_people, .ref q_now_weights, .ref q_now_marks, .ref q_now_ageing, .int v_now_alive, .int v_now_reported, .int v_now_mornings, .int v_now_years]), (q_now_weights, cA E 3 v_now_weights), (q_now_marks, cA E 18 v_now_marks)]) [0, 1, 2, 3] rfl (by decide) ?_
      refine x_istore_n (i := 3) (pc' := 28) (lv' := [(3, .int r24), (0, .ref q_this), (1, .int l1), (2, .int l2)]) hZ dX3_answer_27 rfl rfl (by decide) rfl ?_
      refine x_iconst (v := 0) (pc' := 29) hZ (by decide) dX3_answer_28 rfl ?_
      refine x_istore (i := 4) (pc' := 31) (lv' := [(4, .int 0), (3, .int r24), (0, .ref q_this), (1, .int l1), (2, .int l2)]) hZ dX3_answer_29 rfl (by decide) rfl ?_
      refine x_bipush (v := (-9)) (pc' := 33) hZ (by decide) dX3_answer_31 rfl ?_
      refine x_istore (i := 5) (pc' := 35) (lv' := [(5, .int (-9)), (4, .int 0), (3, .int r24), (0, .ref q_this), (1, .int l1), (2, .int l2)]) hZ dX3_answer_33 rfl (by decide) rfl ?_
      refine x_iconst (v := 0) (pc' := 36) hZ (by decide) dX3_answer_35 rfl ?_
      refine x_istore (i := 6) (pc' := 38) (lv' := [(6, .int 0), (5, .int (-9)), (4, .int 0), (3, .int r24), (0, .ref q_this), (1, .int l1), (2, .int l2)]) hZ dX3_answer_36 rfl (by decide) rfl ?_
      refine x_lv [4, 5, 6, 3, 2, 1, 0] (lv' := [(0, .ref q_this), (1, .int l1), (2, .int l2), (3, .int r24), (4, .int 0), (5, .int (-9)), (6, .int 0)]) rfl ?_
      obtain ⟨k38, h⟩ := h
      refine t_X3_answer_38 E Z q_this q_text q_now q_trial q_choosing q_acts q_slots q_isKept q_heardPerson q_heardIs q_now_weights q_now_marks q_now_ageing v_nextAct v_actCount v_heardCount v_seed v_now_people v_now_alive v_now_reported v_now_mornings v_now_years v_now_weights v_now_marks l1 l2 r24 hZ  _ 0 (-9) 0 h (fun l4_38 l5_38 l6_38 h => ?_)
      refine x_iload_n (pc' := 121) hZ dX3_answer_120 rfl 0 rfl ?_
      refine x_if_eq (tgt := 129) (pc' := 124) hZ dX3_answer_121 (by decide) rfl (fun c121 => ?_) (fun c121 => ?_)
      · replace h := h.1 c121
        refine x_iload (pc' := 131) hZ dX3_answer_129 rfl 1 rfl ?_
        exact hRet _ _ _ _ dX3_answer_131 ⟨rfl, h⟩
      · replace h := h.2 c121
        refine x_iload (pc' := 126) hZ dX3_answer_124 rfl 2 rfl ?_
        refine x_goto (pc' := 131) hZ dX3_answer_126 (by decide) ?_
        exact hRet _ _ _ _ dX3_answer_131 ⟨rfl, h⟩
    · replace h := h.2 c7
      refine x_bipush (v := (-2)) (pc' := 12) hZ (by decide) dX3_answer_10 rfl ?_
      exact hRet _ _ _ _ dX3_answer_12 ⟨rfl, h⟩
set_option maxHeartbeats 4000000 in
set_option maxRecDepth 100000 in
theorem c_X3_refuseChooser (E : XE) (q_this : Nat) (q_text : Nat) (q_now : Nat) (q_trial : Nat) (q_choosing : Nat) (q_acts : Nat) (q_slots : Nat) (q_isKept : Nat) (q_heardPerson : Nat) (q_heardIs : Nat) (q_now_weights : Nat) (q_now_marks : Nat) (q_now_ageing : Nat) (v_nextAct : Int32) (v_actCount : Int32) (v_heardCount : Int32) (v_seed : Int64) (v_now_people : Int32) (v_now_alive : Int32) (v_now_reported : Int32) (v_now_mornings : Int32) (v_now_years : Int32) (l1 : Int32) (post : Int32 → Prop) (h : p_X3_refuseChooser v_now_people v_now_alive l1 post) : ConI E yX3_refuseChooser cX3_refuseChooser 2 .int { frames := 1, cells := 0, slots := 0, locals := 21 } 0 0 [.ref q_this, .int l1] [(q_this, cO 3 [.ref q_text, .ref q_now, .ref q_trial, .ref q_choosing, .ref q_acts, .int v_nextAct, .int v_actCount, .ref q_slots, .ref q_isKept, .ref q_heardPerson, .ref q_heardIs, .int v_heardCount, .long v_seed]), (q_now, cO 1 [.int v_now_people, .ref q_now_weights, .ref q_now_marks, .ref q_now_ageing, .int v_now_alive, .int v_now_reported, .int v_now_mornings, .int v_now_years])] (fun r w => w = [(q_this, cO 3 [.ref q_text, .ref q_now, .ref q_trial, .ref q_choosing, .ref q_acts, .int v_nextAct, .int v_actCount, .ref q_slots, .ref q_isKept, .ref q_heardPerson, .ref q_heardIs, .int v_heardCount, .long v_seed]), (q_now, cO 1 [.int v_now_people, .ref q_now_weights, .ref q_now_marks, .ref q_now_ageing, .int v_now_alive, .int v_now_reported, .int v_now_mornings, .int v_now_years])] ∧ post r ) := by
  refine ConI.of (by decide +kernel) (Nat.le_of_ble_eq_true rfl) (fun Z hZ hI hRet => ?_)
  replace hZ : XOK E Z RX3 cX3_refuseChooser 2 { frames := 1, cells := 0, slots := 0, locals := 21 } := hZ
  clear hI
  show XW E Z 0 0 [(q_this, cO 3 [.ref q_text, .ref q_now, .ref q_trial, .ref q_choosing, .ref q_acts, .int v_nextAct, .int v_actCount, .ref q_slots, .ref q_isKept, .ref q_heardPerson, .ref q_heardIs, .int v_heardCount, .long v_seed]), (q_now, cO 1 [.int v_now_people, .ref q_now_weights, .ref q_now_marks, .ref q_now_ageing, .int v_now_alive, .int v_now_reported, .int v_now_mornings, .int v_now_years])] [(0, .ref q_this), (1, .int l1)] [] 0
  unfold p_X3_refuseChooser at h
  refine x_aload_n (pc' := 1) hZ dX3_refuseChooser_0 rfl 0 rfl ?_
  refine g_RX3_19 (pc' := 4) hZ dX3_refuseChooser_1 rfl 0 rfl rfl ?_
  refine x_iload_n (pc' := 5) hZ dX3_refuseChooser_4 rfl 1 rfl ?_
  refine k_RX3_104 (pc' := 8) (q0 := 1) (as := [.int l1]) (rest := []) (c' := 0) (n' := 0) (wr := [(q_this, cO 3 [.ref q_text, .ref q_now, .ref q_trial, .ref q_choosing, .ref q_acts, .int v_nextAct, .int v_actCount, .ref q_slots, .ref q_isKept, .ref q_heardPerson, .ref q_heardIs, .int v_heardCount, .long v_seed])]) hZ (c_X1_has E q_now q_now_weights q_now_marks q_now_ageing v_now_people v_now_alive v_now_reported v_now_mornings v_now_years l1 _ h) rfl dX3_refuseChooser_5 rfl rfl rfl rfl rfl (Nat.le_of_ble_eq_true rfl) (Nat.le_of_ble_eq_true rfl) (Nat.le_of_ble_eq_true rfl) rfl rfl (Nat.le_of_ble_eq_true rfl) (Nat.le_of_ble_eq_true rfl) [1] [0] rfl rfl (by decide) (by decide) (by decide) (fun r5 w5 hw => ?_)
  obtain ⟨rfl, h⟩ := hw
  refine x_ws (ws' := [(q_this, cO 3 [.ref q_text, .ref q_now, .ref q_trial, .ref q_choosing, .ref q_acts, .int v_nextAct, .int v_actCount, .ref q_slots, .ref q_isKept, .ref q_heardPerson, .ref q_heardIs, .int v_heardCount, .long v_seed]), (q_now, cO 1 [.int v_now_people, .ref q_now_weights, .ref q_now_marks, .ref q_now_ageing, .int v_now_alive, .int v_now_reported, .int v_now_mornings, .int v_now_years])]) [0, 1] rfl (by decide) ?_
  refine x_if_ne (tgt := 13) (pc' := 11) hZ dX3_refuseChooser_8 (by decide) rfl (fun c8 => ?_) (fun c8 => ?_)
  · replace h := h.1 c8
    refine x_iload_n (pc' := 14) hZ dX3_refuseChooser_13 rfl 1 rfl ?_
    refine x_if_ne (tgt := 20) (pc' := 17) hZ dX3_refuseChooser_14 (by decide) rfl (fun c14 => ?_) (fun c14 => ?_)
    · replace h := h.1 c14
      refine x_aload_n (pc' := 21) hZ dX3_refuseChooser_20 rfl 0 rfl ?_
      refine g_RX3_19 (pc' := 24) hZ dX3_refuseChooser_21 rfl 0 rfl rfl ?_
      refine x_iload_n (pc' := 25) hZ dX3_refuseChooser_24 rfl 1 rfl ?_
      refine k_RX3_114 (pc' := 28) (q0 := 1) (as := [.int l1]) (rest := []) (c' := 0) (n' := 0) (wr := [(q_this, cO 3 [.ref q_text, .ref q_now, .ref q_trial, .ref q_choosing, .ref q_acts, .int v_nextAct, .int v_actCount, .ref q_slots, .ref q_isKept, .ref q_heardPerson, .ref q_heardIs, .int v_heardCount, .long v_seed])]) hZ (c_X1_isAlive E q_now q_now_weights q_now_marks q_now_ageing v_now_people v_now_alive v_now_reported v_now_mornings v_now_years l1 _ h) rfl dX3_refuseChooser_25 rfl rfl rfl rfl rfl (Nat.le_of_ble_eq_true rfl) (Nat.le_of_ble_eq_true rfl) (Nat.le_of_ble_eq_true rfl) rfl rfl (Nat.le_of_ble_eq_true rfl) (Nat.le_of_ble_eq_true rfl) [1] [0] rfl rfl (by decide) (by decide) (by decide) (fun r25 w25 hw => ?_)
      obtain ⟨rfl, h⟩ := hw
      refine x_ws (ws' := [(q_this, cO 3 [.ref q_text, .ref q_now, .ref q_trial, .ref q_choosing, .ref q_acts, .int v_nextAct, .int v_actCount, .ref q_slots, .ref q_isKept, .ref q_heardPerson, .ref q_heardIs, .int v_heardCount, .long v_seed]), (q_now, cO 1 [.int v_now_people, .ref q_now_weights, .ref q_now_marks, .ref q_now_ageing, .int v_now_alive, .int v_now_reported, .int v_now_mornings, .int v_now_years])]) [0, 1] rfl (by decide) ?_
      refine x_if_eq (tgt := 35) (pc' := 31) hZ dX3_refuseChooser_28 (by decide) rfl (fun c28 => ?_) (fun c28 => ?_)
      · replace h := h.1 c28
        refine x_bipush (v := (-3)) (pc' := 37) hZ (by decide) dX3_refuseChooser_35 rfl ?_
        exact hRet _ _ _ _ dX3_refuseChooser_37 ⟨rfl, h⟩
      · replace h := h.2 c28
        refine x_iconst (v := 0) (pc' := 32) hZ (by decide) dX3_refuseChooser_31 rfl ?_
        refine x_goto (pc' := 37) hZ dX3_refuseChooser_32 (by decide) ?_
        exact hRet _ _ _ _ dX3_refuseChooser_37 ⟨rfl, h⟩
    · replace h := h.2 c14
      refine x_bipush (v := (-2)) (pc' := 19) hZ (by decide) dX3_refuseChooser_17 rfl ?_
      exact hRet _ _ _ _ dX3_refuseChooser_19 ⟨rfl, h⟩
  · replace h := h.2 c8
    refine x_iconst (v := (-1)) (pc' := 12) hZ (by decide) dX3_refuseChooser_11 rfl ?_
    exact hRet _ _ _ _ dX3_refuseChooser_12 ⟨rfl, h⟩
set_option maxHeartbeats 4000000 in
set_option maxRecDepth 100000 in
theorem c_X3_chosen (E : XE) (q_this : Nat) (q_text : Nat) (q_now : Nat) (q_trial : Nat) (q_choosing : Nat) (q_acts : Nat) (q_slots : Nat) (q_isKept : Nat) (q_heardPerson : Nat) (q_heardIs : Nat) (q_now_weights : Nat) (q_now_marks : Nat) (q_now_ageing : Nat) (q_choosing_values : Nat) (q_choosing_turnOf : Nat) (q_choosing_ends : Nat) (v_nextAct : Int32) (v_actCount : Int32) (v_heardCount : Int32) (v_seed : Int64) (v_now_people : Int32) (v_now_alive : Int32) (v_now_reported : Int32) (v_now_mornings : Int32) (v_now_years : Int32) (v_now_weights : Nat → Int32) (v_now_marks : Nat → Int32) (v_choosing_choosers : Int32) (v_choosing_queenValue : Int32) (v_choosing_values : Nat → Int32) (v_choosing_turnOf : Nat → Int32) (v_choosing_ends : Nat → Int32) (l1 : Int32) (post : Int32 → Int32 → Int32 → (Nat → Int32) → (Nat → Int32) → (Nat → Int32) → Prop) (h : p_X3_chosen v_now_people v_now_alive v_now_weights v_now_marks v_choosing_choosers v_choosing_queenValue v_choosing_values v_choosing_turnOf v_choosing_ends l1 post) : ConI E yX3_chosen cX3_chosen 3 .int { frames := 5, cells := 0, slots := 0, locals := 116 } 0 0 [.ref q_this, .int l1] [(q_this, cO 3 [.ref q_text, .ref q_now, .ref q_trial, .ref q_choosing, .ref q_acts, .int v_nextAct, .int v_actCount, .ref q_slots, .ref q_isKept, .ref q_heardPerson, .ref q_heardIs, .int v_heardCount, .long v_seed]), (q_now, cO 1 [.int v_now_people, .ref q_now_weights, .ref q_now_marks, .ref q_now_ageing, .int v_now_alive, .int v_now_reported, .int v_now_mornings, .int v_now_years]), (q_now_weights, cA E 3 v_now_weights), (q_now_marks, cA E 18 v_now_marks), (q_choosing, cO 0 [.ref q_choosing_values, .ref q_choosing_turnOf, .ref q_choosing_ends, .int v_choosing_choosers, .int v_choosing_queenValue]), (q_choosing_values, cA E 15 v_choosing_values), (q_choosing_turnOf, cA E 6 v_choosing_turnOf), (q_choosing_ends, cA E 243 v_choosing_ends)] (fun r w => ∃ (u_choosing_choosers : Int32) (u_choosing_queenValue : Int32) (u_choosing_values : Nat → Int32) (u_choosing_turnOf : Nat → Int32) (u_choosing_ends : Nat → Int32), w = [(q_this, cO 3 [.ref q_text, .ref q_now, .ref q_trial, .ref q_choosing, .ref q_acts, .int v_nextAct, .int v_actCount, .ref q_slots, .ref q_isKept, .ref q_heardPerson, .ref q_heardIs, .int v_heardCount, .long v_seed]), (q_now, cO 1 [.int v_now_people, .ref q_now_weights, .ref q_now_marks, .ref q_now_ageing, .int v_now_alive, .int v_now_reported, .int v_now_mornings, .int v_now_years]), (q_now_weights, cA E 3 v_now_weights), (q_now_marks, cA E 18 v_now_marks), (q_choosing, cO 0 [.ref q_choosing_values, .ref q_choosing_turnOf, .ref q_choosing_ends, .int u_choosing_choosers, .int u_choosing_queenValue]), (q_choosing_values, cA E 15 u_choosing_values), (q_choosing_turnOf, cA E 6 u_choosing_turnOf), (q_choosing_ends, cA E 243 u_choosing_ends)] ∧ post r u_choosing_choosers u_choosing_queenValue u_choosing_values u_choosing_turnOf u_choosing_ends) := by
  refine ConI.of (by decide +kernel) (Nat.le_of_ble_eq_true rfl) (fun Z hZ hI hRet => ?_)
  replace hZ : XOK E Z RX3 cX3_chosen 3 { frames := 5, cells := 0, slots := 0, locals := 116 } := hZ
  clear hI
  show XW E Z 0 0 [(q_this, cO 3 [.ref q_text, .ref q_now, .ref q_trial, .ref q_choosing, .ref q_acts, .int v_nextAct, .int v_actCount, .ref q_slots, .ref q_isKept, .ref q_heardPerson, .ref q_heardIs, .int v_heardCount, .long v_seed]), (q_now, cO 1 [.int v_now_people, .ref q_now_weights, .ref q_now_marks, .ref q_now_ageing, .int v_now_alive, .int v_now_reported, .int v_now_mornings, .int v_now_years]), (q_now_weights, cA E 3 v_now_weights), (q_now_marks, cA E 18 v_now_marks), (q_choosing, cO 0 [.ref q_choosing_values, .ref q_choosing_turnOf, .ref q_choosing_ends, .int v_choosing_choosers, .int v_choosing_queenValue]), (q_choosing_values, cA E 15 v_choosing_values), (q_choosing_turnOf, cA E 6 v_choosing_turnOf), (q_choosing_ends, cA E 243 v_choosing_ends)] [(0, .ref q_this), (1, .int l1)] [] 0
  unfold p_X3_chosen at h
  refine x_aload_n (pc' := 1) hZ dX3_chosen_0 rfl 0 rfl ?_
  refine x_iload_n (pc' := 2) hZ dX3_chosen_1 rfl 1 rfl ?_
  refine k_RX3_169 (pc' := 5) (q0 := 0) (as := [.int l1]) (rest := []) (c' := 0) (n' := 0) (wr := [(q_now_weights, cA E 3 v_now_weights), (q_now_marks, cA E 18 v_now_marks), (q_choosing, cO 0 [.ref q_choosing_values, .ref q_choosing_turnOf, .ref q_choosing_ends, .int v_choosing_choosers, .int v_choosing_queenValue]), (q_choosing_values, cA E 15 v_choosing_values), (q_choosing_turnOf, cA E 6 v_choosing_turnOf), (q_choosing_ends, cA E 243 v_choosing_ends)]) hZ (c_X3_refuseChooser E q_this q_text q_now q_trial q_choosing q_acts q_slots q_isKept q_heardPerson q_heardIs q_now_weights q_now_marks q_now_ageing v_nextAct v_actCount v_heardCount v_seed v_now_people v_now_alive v_now_reported v_now_mornings v_now_years l1 _ h) rfl dX3_chosen_2 rfl rfl rfl rfl rfl (Nat.le_of_ble_eq_true rfl) (Nat.le_of_ble_eq_true rfl) (Nat.le_of_ble_eq_true rfl) rfl rfl (Nat.le_of_ble_eq_true rfl) (Nat.le_of_ble_eq_true rfl) [0, 1] [2, 3, 4, 5, 6, 7] rfl rfl (by decide) (by decide) (by decide) (fun r2 w2 hw => ?_)
  obtain ⟨rfl, h⟩ := hw
  refine x_ws (ws' := [(q_this, cO 3 [.ref q_text, .ref q_now, .ref q_trial, .ref q_choosing, .ref q_acts, .int v_nextAct, .int v_actCount, .ref q_slots, .ref q_isKept, .ref q_heardPerson, .ref q_heardIs, .int v_heardCount, .long v_seed]), (q_now, cO 1 [.int v_now_people, .ref q_now_weights, .ref q_now_marks, .ref q_now_ageing, .int v_now_alive, .int v_now_reported, .int v_now_mornings, .int v_now_years]), (q_now_weights, cA E 3 v_now_weights), (q_now_marks, cA E 18 v_now_marks), (q_choosing, cO 0 [.ref q_choosing_values, .ref q_choosing_turnOf, .ref q_choosing_ends, .int v_choosing_choosers, .int v_choosing_queenValue]), (q_choosing_values, cA E 15 v_choosing_values), (q_choosing_turnOf, cA E 6 v_choosing_turnOf), (q_choosing_ends, cA E 243 v_choosing_ends)]) [6, 7, 0, 1, 2, 3, 4, 5] rfl (by decide) ?_
  refine x_istore_n (i := 2) (pc' := 6) (lv' := [(2, .int r2), (0, .ref q_this), (1, .int l1)]) hZ dX3_chosen_5 rfl rfl (by decide) rfl ?_
  refine x_iload_n (pc' := 7) hZ dX3_chosen_6 rfl 0 rfl ?_
  refine x_if_eq (tgt := 12) (pc' := 10) hZ dX3_chosen_7 (by decide) rfl (fun c7 => ?_) (fun c7 => ?_)
  · replace h := h.1 c7
    refine x_aload_n (pc' := 13) hZ dX3_chosen_12 rfl 1 rfl ?_
    refine g_RX3_29 (pc' := 16) hZ dX3_chosen_13 rfl 0 rfl rfl ?_
    refine x_aload_n (pc' := 17) hZ dX3_chosen_16 rfl 1 rfl ?_
    refine g_RX3_19 (pc' := 20) hZ dX3_chosen_17 rfl 0 rfl rfl ?_
    refine k_RX3_172 (pc' := 23) (q0 := 4) (as := [.ref q_now]) (rest := []) (c' := 0) (n' := 0) (wr := [(q_this, cO 3 [.ref q_text, .ref q_now, .ref q_trial, .ref q_choosing, .ref q_acts, .int v_nextAct, .int v_actCount, .ref q_slots, .ref q_isKept, .ref q_heardPerson, .ref q_heardIs, .int v_heardCount, .long v_seed])]) hZ (c_X0_solve E q_choosing q_choosing_values q_choosing_turnOf q_choosing_ends q_now q_now_weights q_now_marks q_now_ageing v_choosing_choosers v_choosing_queenValue v_choosing_values v_choosing_turnOf v_choosing_ends v_now_people v_now_alive v_now_reported v_now_mornings v_now_years v_now_weights v_now_marks _ h) rfl dX3_chosen_20 rfl rfl rfl rfl rfl (Nat.le_of_ble_eq_true rfl) (Nat.le_of_ble_eq_true rfl) (Nat.le_of_ble_eq_true rfl) rfl rfl (Nat.le_of_ble_eq_true rfl) (Nat.le_of_ble_eq_true rfl) [4, 5, 6, 7, 1, 2, 3] [0] rfl rfl (by decide) (by decide) (by decide) (fun w20 hw => ?_)
    obtain ⟨a20_0, a20_1, a20_2, a20_3, a20_4, rfl, h⟩ := hw
    refine x_ws (ws' := [(q_this, cO 3 [.ref q_text, .ref q_now, .ref q_trial, .ref q_choosing, .ref q_acts, .int v_nextAct, .int v_actCount, .ref q_slots, .ref q_isKept, .ref q_heardPerson, .ref q_heardIs, .int v_heardCount, .long v_seed]), (q_now, cO 1 [.int v_now_people, .ref q_now_weights, .ref q_now_marks, .ref q_now_ageing, .int v_now_alive, .int v_now_reported, .int v_now_mornings, .int v_now_years]), (q_now_weights, cA E 3 v_now_weights), (q_now_marks, cA E 18 v_now_marks), (q_choosing, cO 0 [.ref q_choosing_values, .ref q_choosing_turnOf, .ref q_choosing_ends, .int a20_0, .int a20_1]), (q_choosing_values, cA E 15 a20_2), (q_choosing_turnOf, cA E 6 a20_3), (q_choosing_ends, cA E 243 a20_4)]) [0, 5, 6, 7, 1, 2, 3, 4] rfl (by decide) ?_
    refine x_aload_n (pc' := 24) hZ dX3_chosen_23 rfl 1 rfl ?_
    refine g_RX3_29 (pc' := 27) hZ dX3_chosen_24 rfl 0 rfl rfl ?_
    refine x_iload_n (pc' := 28) hZ dX3_chosen_27 rfl 2 rfl ?_
    refine k_RX3_175 (pc' := 31) (q0 := 4) (as := [.int l1]) (rest := []) (c' := 0) (n' := 0) (wr := [(q_this, cO 3 [.ref q_text, .ref q_now, .ref q_trial, .ref q_choosing, .ref q_acts, .int v_nextAct, .int v_actCount, .ref q_slots, .ref q_isKept, .ref q_heardPerson, .ref q_heardIs, .int v_heardCount, .long v_seed]), (q_now, cO 1 [.int v_now_people, .ref q_now_weights, .ref q_now_marks, .ref q_now_ageing, .int v_now_alive, .int v_now_reported, .int v_now_mornings, .int v_now_years]), (q_now_weights, cA E 3 v_now_weights), (q_now_marks, cA E 18 v_now_marks), (q_choosing_values, cA E 15 a20_2)]) hZ (c_X0_choiceOf E q_choosing q_choosing_values q_choosing_turnOf q_choosing_ends a20_0 a20_1 a20_3 a20_4 l1 _ h) rfl dX3_chosen_28 rfl rfl rfl rfl rfl (Nat.le_of_ble_eq_true rfl) (Nat.le_of_ble_eq_true rfl) (Nat.le_of_ble_eq_true rfl) rfl rfl (Nat.le_of_ble_eq_true rfl) (Nat.le_of_ble_eq_true rfl) [4, 6, 7] [0, 1, 2, 3, 5] rfl rfl (by decide) (by decide) (by decide) (fun r28 w28 hw => ?_)
    obtain ⟨rfl, h⟩ := hw
    refine x_ws (ws' := [(q_this, cO 3 [.ref q_text, .ref q_now, .ref q_trial, .ref q_choosing, .ref q_acts, .int v_nextAct, .int v_actCount, .ref q_slots, .ref q_isKept, .ref q_heardPerson, .ref q_heardIs, .int v_heardCount, .long v_seed]), (q_now, cO 1 [.int v_now_people, .ref q_now_weights, .ref q_now_marks, .ref q_now_ageing, .int v_now_alive, .int v_now_reported, .int v_now_mornings, .int v_now_years]), (q_now_weights, cA E 3 v_now_weights), (q_now_marks, cA E 18 v_now_marks), (q_choosing, cO 0 [.ref q_choosing_values, .ref q_choosing_turnOf, .ref q_choosing_ends, .int a20_0, .int a20_1]), (q_choosing_values, cA E 15 a20_2), (q_choosing_turnOf, cA E 6 a20_3), (q_choosing_ends, cA E 243 a20_4)]) [0, 1, 2, 3, 5, 4, 6, 7] rfl (by decide) ?_
    exact hRet _ _ _ _ dX3_chosen_31 ⟨_, _, _, _, _, rfl, h⟩
  · replace h := h.2 c7
    refine x_iload_n (pc' := 11) hZ dX3_chosen_10 rfl 0 rfl ?_
    exact hRet _ _ _ _ dX3_chosen_11 ⟨_, _, _, _, _, rfl, h⟩
set_option maxHeartbeats 4000000 in
set_option maxRecDepth 100000 in
theorem c_X3_chosenWorth (E : XE) (q_this : Nat) (q_text : Nat) (q_now : Nat) (q_trial : Nat) (q_choosing : Nat) (q_acts : Nat) (q_slots : Nat) (q_isKept : Nat) (q_heardPerson : Nat) (q_heardIs : Nat) (q_now_weights : Nat) (q_now_marks : Nat) (q_now_ageing : Nat) (q_choosing_values : Nat) (q_choosing_turnOf : Nat) (q_choosing_ends : Nat) (v_nextAct : Int32) (v_actCount : Int32) (v_heardCount : Int32) (v_seed : Int64) (v_now_people : Int32) (v_now_alive : Int32) (v_now_reported : Int32) (v_now_mornings : Int32) (v_now_years : Int32) (v_now_weights : Nat → Int32) (v_now_marks : Nat → Int32) (v_choosing_choosers : Int32) (v_choosing_queenValue : Int32) (v_choosing_values : Nat → Int32) (v_choosing_turnOf : Nat → Int32) (v_choosing_ends : Nat → Int32) (l1 : Int32) (post : Int32 → Int32 → Int32 → (Nat → Int32) → (Nat → Int32) → (Nat → Int32) → Prop) (h : p_X3_chosenWorth v_now_people v_now_alive v_now_weights v_now_marks v_choosing_choosers v_choosing_queenValue v_choosing_values v_choosing_turnOf v_choosing_ends l1 post) : ConI E yX3_chosenWorth cX3_chosenWorth 3 .int { frames := 5, cells := 0, slots := 0, locals := 116 } 0 0 [.ref q_this, .int l1] [(q_this, cO 3 [.ref q_text, .ref q_now, .ref q_trial, .ref q_choosing, .ref q_acts, .int v_nextAct, .int v_actCount, .ref q_slots, .ref q_isKept, .ref q_heardPerson, .ref q_heardIs, .int v_heardCount, .long v_seed]), (q_now, cO 1 [.int v_now_people, .ref q_now_weights, .ref q_now_marks, .ref q_now_ageing, .int v_now_alive, .int v_now_reported, .int v_now_mornings, .int v_now_years]), (q_now_weights, cA E 3 v_now_weights), (q_now_marks, cA E 18 v_now_marks), (q_choosing, cO 0 [.ref q_choosing_values, .ref q_choosing_turnOf, .ref q_choosing_ends, .int v_choosing_choosers, .int v_choosing_queenValue]), (q_choosing_values, cA E 15 v_choosing_values), (q_choosing_turnOf, cA E 6 v_choosing_turnOf), (q_choosing_ends, cA E 243 v_choosing_ends)] (fun r w => ∃ (u_choosing_choosers : Int32) (u_choosing_queenValue : Int32) (u_choosing_values : Nat → Int32) (u_choosing_turnOf : Nat → Int32) (u_choosing_ends : Nat → Int32), w = [(q_this, cO 3 [.ref q_text, .ref q_now, .ref q_trial, .ref q_choosing, .ref q_acts, .int v_nextAct, .int v_actCount, .ref q_slots, .ref q_isKept, .ref q_heardPerson, .ref q_heardIs, .int v_heardCount, .long v_seed]), (q_now, cO 1 [.int v_now_people, .ref q_now_weights, .ref q_now_marks, .ref q_now_ageing, .int v_now_alive, .int v_now_reported, .int v_now_mornings, .int v_now_years]), (q_now_weights, cA E 3 v_now_weights), (q_now_marks, cA E 18 v_now_marks), (q_choosing, cO 0 [.ref q_choosing_values, .ref q_choosing_turnOf, .ref q_choosing_ends, .int u_choosing_choosers, .int u_choosing_queenValue]), (q_choosing_values, cA E 15 u_choosing_values), (q_choosing_turnOf, cA E 6 u_choosing_turnOf), (q_choosing_ends, cA E 243 u_choosing_ends)] ∧ post r u_choosing_choosers u_choosing_queenValue u_choosing_values u_choosing_turnOf u_choosing_ends) := by
  refine ConI.of (by decide +kernel) (Nat.le_of_ble_eq_true rfl) (fun Z hZ hI hRet => ?_)
  replace hZ : XOK E Z RX3 cX3_chosenWorth 3 { frames := 5, cells := 0, slots := 0, locals := 116 } := hZ
  clear hI
  show XW E Z 0 0 [(q_this, cO 3 [.ref q_text, .ref q_now, .ref q_trial, .ref q_choosing, .ref q_acts, .int v_nextAct, .int v_actCount, .ref q_slots, .ref q_isKept, .ref q_heardPerson, .ref q_heardIs, .int v_heardCount, .long v_seed]), (q_now, cO 1 [.int v_now_people, .ref q_now_weights, .ref q_now_marks, .ref q_now_ageing, .int v_now_alive, .int v_now_reported, .int v_now_mornings, .int v_now_years]), (q_now_weights, cA E 3 v_now_weights), (q_now_marks, cA E 18 v_now_marks), (q_choosing, cO 0 [.ref q_choosing_values, .ref q_choosing_turnOf, .ref q_choosing_ends, .int v_choosing_choosers, .int v_choosing_queenValue]), (q_choosing_values, cA E 15 v_choosing_values), (q_choosing_turnOf, cA E 6 v_choosing_turnOf), (q_choosing_ends, cA E 243 v_choosing_ends)] [(0, .ref q_this), (1, .int l1)] [] 0
  unfold p_X3_chosenWorth at h
  refine x_aload_n (pc' := 1) hZ dX3_chosenWorth_0 rfl 0 rfl ?_
  refine x_iload_n (pc' := 2) hZ dX3_chosenWorth_1 rfl 1 rfl ?_
  refine k_RX3_169 (pc' := 5) (q0 := 0) (as := [.int l1]) (rest := []) (c' := 0) (n' := 0) (wr := [(q_now_weights, cA E 3 v_now_weights), (q_now_marks, cA E 18 v_now_marks), (q_choosing, cO 0 [.ref q_choosing_values, .ref q_choosing_turnOf, .ref q_choosing_ends, .int v_choosing_choosers, .int v_choosing_queenValue]), (q_choosing_values, cA E 15 v_choosing_values), (q_choosing_turnOf, cA E 6 v_choosing_turnOf), (q_choosing_ends, cA E 243 v_choosing_ends)]) hZ (c_X3_refuseChooser E q_this q_text q_now q_trial q_choosing q_acts q_slots q_isKept q_heardPerson q_heardIs q_now_weights q_now_marks q_now_ageing v_nextAct v_actCount v_heardCount v_seed v_now_people v_now_alive v_now_reported v_now_mornings v_now_years l1 _ h) rfl dX3_chosenWorth_2 rfl rfl rfl rfl rfl (Nat.le_of_ble_eq_true rfl) (Nat.le_of_ble_eq_true rfl) (Nat.le_of_ble_eq_true rfl) rfl rfl (Nat.le_of_ble_eq_true rfl) (Nat.le_of_ble_eq_true rfl) [0, 1] [2, 3, 4, 5, 6, 7] rfl rfl (by decide) (by decide) (by decide) (fun r2 w2 hw => ?_)
  obtain ⟨rfl, h⟩ := hw
  refine x_ws (ws' := [(q_this, cO 3 [.ref q_text, .ref q_now, .ref q_trial, .ref q_choosing, .ref q_acts, .int v_nextAct, .int v_actCount, .ref q_slots, .ref q_isKept, .ref q_heardPerson, .ref q_heardIs, .int v_heardCount, .long v_seed]), (q_now, cO 1 [.int v_now_people, .ref q_now_weights, .ref q_now_marks, .ref q_now_ageing, .int v_now_alive, .int v_now_reported, .int v_now_mornings, .int v_now_years]), (q_now_weights, cA E 3 v_now_weights), (q_now_marks, cA E 18 v_now_marks), (q_choosing, cO 0 [.ref q_choosing_values, .ref q_choosing_turnOf, .ref q_choosing_ends, .int v_choosing_choosers, .int v_choosing_queenValue]), (q_choosing_values, cA E 15 v_choosing_values), (q_choosing_turnOf, cA E 6 v_choosing_turnOf), (q_choosing_ends, cA E 243 v_choosing_ends)]) [6, 7, 0, 1, 2, 3, 4, 5] rfl (by decide) ?_
  refine x_istore_n (i := 2) (pc' := 6) (lv' := [(2, .int r2), (0, .ref q_this), (1, .int l1)]) hZ dX3_chosenWorth_5 rfl rfl (by decide) rfl ?_
  refine x_iload_n (pc' := 7) hZ dX3_chosenWorth_6 rfl 0 rfl ?_
  refine x_if_eq (tgt := 12) (pc' := 10) hZ dX3_chosenWorth_7 (by decide) rfl (fun c7 => ?_) (fun c7 => ?_)
  · replace h := h.1 c7
    refine x_aload_n (pc' := 13) hZ dX3_chosenWorth_12 rfl 1 rfl ?_
    refine g_RX3_29 (pc' := 16) hZ dX3_chosenWorth_13 rfl 0 rfl rfl ?_
    refine x_aload_n (pc' := 17) hZ dX3_chosenWorth_16 rfl 1 rfl ?_
    refine g_RX3_19 (pc' := 20) hZ dX3_chosenWorth_17 rfl 0 rfl rfl ?_
    refine k_RX3_172 (pc' := 23) (q0 := 4) (as := [.ref q_now]) (rest := []) (c' := 0) (n' := 0) (wr := [(q_this, cO 3 [.ref q_text, .ref q_now, .ref q_trial, .ref q_choosing, .ref q_acts, .int v_nextAct, .int v_actCount, .ref q_slots, .ref q_isKept, .ref q_heardPerson, .ref q_heardIs, .int v_heardCount, .long v_seed])]) hZ (c_X0_solve E q_choosing q_choosing_values q_choosing_turnOf q_choosing_ends q_now q_now_weights q_now_marks q_now_ageing v_choosing_choosers v_choosing_queenValue v_choosing_values v_choosing_turnOf v_choosing_ends v_now_people v_now_alive v_now_reported v_now_mornings v_now_years v_now_weights v_now_marks _ h) rfl dX3_chosenWorth_20 rfl rfl rfl rfl rfl (Nat.le_of_ble_eq_true rfl) (Nat.le_of_ble_eq_true rfl) (Nat.le_of_ble_eq_true rfl) rfl rfl (Nat.le_of_ble_eq_true rfl) (Nat.le_of_ble_eq_true rfl) [4, 5, 6, 7, 1, 2, 3] [0] rfl rfl (by decide) (by decide) (by decide) (fun w20 hw => ?_)
    obtain ⟨a20_0, a20_1, a20_2, a20_3, a20_4, rfl, h⟩ := hw
    refine x_ws (ws' := [(q_this, cO 3 [.ref q_text, .ref q_now, .ref q_trial, .ref q_choosing, .ref q_acts, .int v_nextAct, .int v_actCount, .ref q_slots, .ref q_isKept, .ref q_heardPerson, .ref q_heardIs, .int v_heardCount, .long v_seed]), (q_now, cO 1 [.int v_now_people, .ref q_now_weights, .ref q_now_marks, .ref q_now_ageing, .int v_now_alive, .int v_now_reported, .int v_now_mornings, .int v_now_years]), (q_now_weights, cA E 3 v_now_weights), (q_now_marks, cA E 18 v_now_marks), (q_choosing, cO 0 [.ref q_choosing_values, .ref q_choosing_turnOf, .ref q_choosing_ends, .int a20_0, .int a20_1]), (q_choosing_values, cA E 15 a20_2), (q_choosing_turnOf, cA E 6 a20_3), (q_choosing_ends, cA E 243 a20_4)]) [0, 5, 6, 7, 1, 2, 3, 4] rfl (by decide) ?_
    refine x_aload_n (pc' := 24) hZ dX3_chosenWorth_23 rfl 1 rfl ?_
    refine g_RX3_29 (pc' := 27) hZ dX3_chosenWorth_24 rfl 0 rfl rfl ?_
    refine x_iload_n (pc' := 28) hZ dX3_chosenWorth_27 rfl 2 rfl ?_
    refine k_RX3_178 (pc' := 31) (q0 := 4) (as := [.int l1]) (rest := []) (c' := 0) (n' := 0) (wr := [(q_this, cO 3 [.ref q_text, .ref q_now, .ref q_trial, .ref q_choosing, .ref q_acts, .int v_nextAct, .int v_actCount, .ref q_slots, .ref q_isKept, .ref q_heardPerson, .ref q_heardIs, .int v_heardCount, .long v_seed]), (q_now, cO 1 [.int v_now_people, .ref q_now_weights, .ref q_now_marks, .ref q_now_ageing, .int v_now_alive, .int v_now_reported, .int v_now_mornings, .int v_now_years]), (q_now_weights, cA E 3 v_now_weights), (q_now_marks, cA E 18 v_now_marks)]) hZ (c_X0_endOf E q_choosing q_choosing_values q_choosing_turnOf q_choosing_ends a20_0 a20_1 a20_2 a20_3 a20_4 l1 _ h) rfl dX3_chosenWorth_28 rfl rfl rfl rfl rfl (Nat.le_of_ble_eq_true rfl) (Nat.le_of_ble_eq_true rfl) (Nat.le_of_ble_eq_true rfl) rfl rfl (Nat.le_of_ble_eq_true rfl) (Nat.le_of_ble_eq_true rfl) [4, 5, 6, 7] [0, 1, 2, 3] rfl rfl (by decide) (by decide) (by decide) (fun r28 w28 hw => ?_)
    obtain ⟨rfl, h⟩ := hw
    refine x_ws (ws' := [(q_this, cO 3 [.ref q_text, .ref q_now, .ref q_trial, .ref q_choosing, .ref q_acts, .int v_nextAct, .int v_actCount, .ref q_slots, .ref q_isKept, .ref q_heardPerson, .ref q_heardIs, .int v_heardCount, .long v_seed]), (q_now, cO 1 [.int v_now_people, .ref q_now_weights, .ref q_now_marks, .ref q_now_ageing, .int v_now_alive, .int v_now_reported, .int v_now_mornings, .int v_now_years]), (q_now_weights, cA E 3 v_now_weights), (q_now_marks, cA E 18 v_now_marks), (q_choosing, cO 0 [.ref q_choosing_values, .ref q_choosing_turnOf, .ref q_choosing_ends, .int a20_0, .int a20_1]), (q_choosing_values, cA E 15 a20_2), (q_choosing_turnOf, cA E 6 a20_3), (q_choosing_ends, cA E 243 a20_4)]) [0, 1, 2, 3, 4, 5, 6, 7] rfl (by decide) ?_
    exact hRet _ _ _ _ dX3_chosenWorth_31 ⟨_, _, _, _, _, rfl, h⟩
  · replace h := h.2 c7
    refine x_iload_n (pc' := 11) hZ dX3_chosenWorth_10 rfl 0 rfl ?_
    exact hRet _ _ _ _ dX3_chosenWorth_11 ⟨_, _, _, _, _, rfl, h⟩
set_option maxHeartbeats 4000000 in
set_option maxRecDepth 100000 in
theorem c_X3_refuseDead (E : XE) (q_this : Nat) (q_text : Nat) (q_now : Nat) (q_trial : Nat) (q_choosing : Nat) (q_acts : Nat) (q_slots : Nat) (q_isKept : Nat) (q_heardPerson : Nat) (q_heardIs : Nat) (q_now_weights : Nat) (q_now_marks : Nat) (q_now_ageing : Nat) (v_nextAct : Int32) (v_actCount : Int32) (v_heardCount : Int32) (v_seed : Int64) (v_now_people : Int32) (v_now_alive : Int32) (v_now_reported : Int32) (v_now_mornings : Int32) (v_now_years : Int32) (l1 : Int32) (post : Int32 → Prop) (h : p_X3_refuseDead v_now_people v_now_alive l1 post) : ConI E yX3_refuseDead cX3_refuseDead 2 .int { frames := 1, cells := 0, slots := 0, locals := 21 } 0 0 [.ref q_this, .int l1] [(q_this, cO 3 [.ref q_text, .ref q_now, .ref q_trial, .ref q_choosing, .ref q_acts, .int v_nextAct, .int v_actCount, .ref q_slots, .ref q_isKept, .ref q_heardPerson, .ref q_heardIs, .int v_heardCount, .long v_seed]), (q_now, cO 1 [.int v_now_people, .ref q_now_weights, .ref q_now_marks, .ref q_now_ageing, .int v_now_alive, .int v_now_reported, .int v_now_mornings, .int v_now_years])] (fun r w => w = [(q_this, cO 3 [.ref q_text, .ref q_now, .ref q_trial, .ref q_choosing, .ref q_acts, .int v_nextAct, .int v_actCount, .ref q_slots, .ref q_isKept, .ref q_heardPerson, .ref q_heardIs, .int v_heardCount, .long v_seed]), (q_now, cO 1 [.int v_now_people, .ref q_now_weights, .ref q_now_marks, .ref q_now_ageing, .int v_now_alive, .int v_now_reported, .int v_now_mornings, .int v_now_years])] ∧ post r ) := by
  refine ConI.of (by decide +kernel) (Nat.le_of_ble_eq_true rfl) (fun Z hZ hI hRet => ?_)
  replace hZ : XOK E Z RX3 cX3_refuseDead 2 { frames := 1, cells := 0, slots := 0, locals := 21 } := hZ
  clear hI
  show XW E Z 0 0 [(q_this, cO 3 [.ref q_text, .ref q_now, .ref q_trial, .ref q_choosing, .ref q_acts, .int v_nextAct, .int v_actCount, .ref q_slots, .ref q_isKept, .ref q_heardPerson, .ref q_heardIs, .int v_heardCount, .long v_seed]), (q_now, cO 1 [.int v_now_people, .ref q_now_weights, .ref q_now_marks, .ref q_now_ageing, .int v_now_alive, .int v_now_reported, .int v_now_mornings, .int v_now_years])] [(0, .ref q_this), (1, .int l1)] [] 0
  unfold p_X3_refuseDead at h
  refine x_aload_n (pc' := 1) hZ dX3_refuseDead_0 rfl 0 rfl ?_
  refine g_RX3_19 (pc' := 4) hZ dX3_refuseDead_1 rfl 0 rfl rfl ?_
  refine x_iload_n (pc' := 5) hZ dX3_refuseDead_4 rfl 1 rfl ?_
  refine k_RX3_104 (pc' := 8) (q0 := 1) (as := [.int l1]) (rest := []) (c' := 0) (n' := 0) (wr := [(q_this, cO 3 [.ref q_text, .ref q_now, .ref q_trial, .ref q_choosing, .ref q_acts, .int v_nextAct, .int v_actCount, .ref q_slots, .ref q_isKept, .ref q_heardPerson, .ref q_heardIs, .int v_heardCount, .long v_seed])]) hZ (c_X1_has E q_now q_now_weights q_now_marks q_now_ageing v_now_people v_now_alive v_now_reported v_now_mornings v_now_years l1 _ h) rfl dX3_refuseDead_5 rfl rfl rfl rfl rfl (Nat.le_of_ble_eq_true rfl) (Nat.le_of_ble_eq_true rfl) (Nat.le_of_ble_eq_true rfl) rfl rfl (Nat.le_of_ble_eq_true rfl) (Nat.le_of_ble_eq_true rfl) [1] [0] rfl rfl (by decide) (by decide) (by decide) (fun r5 w5 hw => ?_)
  obtain ⟨rfl, h⟩ := hw
  refine x_ws (ws' := [(q_this, cO 3 [.ref q_text, .ref q_now, .ref q_trial, .ref q_choosing, .ref q_acts, .int v_nextAct, .int v_actCount, .ref q_slots, .ref q_isKept, .ref q_heardPerson, .ref q_heardIs, .int v_heardCount, .long v_seed]), (q_now, cO 1 [.int v_now_people, .ref q_now_weights, .ref q_now_marks, .ref q_now_ageing, .int v_now_alive, .int v_now_reported, .int v_now_mornings, .int v_now_years])]) [0, 1] rfl (by decide) ?_
  refine x_if_ne (tgt := 13) (pc' := 11) hZ dX3_refuseDead_8 (by decide) rfl (fun c8 => ?_) (fun c8 => ?_)
  · replace h := h.1 c8
    refine x_aload_n (pc' := 14) hZ dX3_refuseDead_13 rfl 0 rfl ?_
    refine g_RX3_19 (pc' := 17) hZ dX3_refuseDead_14 rfl 0 rfl rfl ?_
    refine x_iload_n (pc' := 18) hZ dX3_refuseDead_17 rfl 1 rfl ?_
    refine k_RX3_114 (pc' := 21) (q0 := 1) (as := [.int l1]) (rest := []) (c' := 0) (n' := 0) (wr := [(q_this, cO 3 [.ref q_text, .ref q_now, .ref q_trial, .ref q_choosing, .ref q_acts, .int v_nextAct, .int v_actCount, .ref q_slots, .ref q_isKept, .ref q_heardPerson, .ref q_heardIs, .int v_heardCount, .long v_seed])]) hZ (c_X1_isAlive E q_now q_now_weights q_now_marks q_now_ageing v_now_people v_now_alive v_now_reported v_now_mornings v_now_years l1 _ h) rfl dX3_refuseDead_18 rfl rfl rfl rfl rfl (Nat.le_of_ble_eq_true rfl) (Nat.le_of_ble_eq_true rfl) (Nat.le_of_ble_eq_true rfl) rfl rfl (Nat.le_of_ble_eq_true rfl) (Nat.le_of_ble_eq_true rfl) [1] [0] rfl rfl (by decide) (by decide) (by decide) (fun r18 w18 hw => ?_)
    obtain ⟨rfl, h⟩ := hw
    refine x_ws (ws' := [(q_this, cO 3 [.ref q_text, .ref q_now, .ref q_trial, .ref q_choosing, .ref q_acts, .int v_nextAct, .int v_actCount, .ref q_slots, .ref q_isKept, .ref q_heardPerson, .ref q_heardIs, .int v_heardCount, .long v_seed]), (q_now, cO 1 [.int v_now_people, .ref q_now_weights, .ref q_now_marks, .ref q_now_ageing, .int v_now_alive, .int v_now_reported, .int v_now_mornings, .int v_now_years])]) [0, 1] rfl (by decide) ?_
    refine x_if_eq (tgt := 28) (pc' := 24) hZ dX3_refuseDead_21 (by decide) rfl (fun c21 => ?_) (fun c21 => ?_)
    · replace h := h.1 c21
      refine x_bipush (v := (-3)) (pc' := 30) hZ (by decide) dX3_refuseDead_28 rfl ?_
      exact hRet _ _ _ _ dX3_refuseDead_30 ⟨rfl, h⟩
    · replace h := h.2 c21
      refine x_iconst (v := 0) (pc' := 25) hZ (by decide) dX3_refuseDead_24 rfl ?_
      refine x_goto (pc' := 30) hZ dX3_refuseDead_25 (by decide) ?_
      exact hRet _ _ _ _ dX3_refuseDead_30 ⟨rfl, h⟩
  · replace h := h.2 c8
    refine x_iconst (v := (-1)) (pc' := 12) hZ (by decide) dX3_refuseDead_11 rfl ?_
    exact hRet _ _ _ _ dX3_refuseDead_12 ⟨rfl, h⟩
set_option maxHeartbeats 4000000 in
set_option maxRecDepth 100000 in
theorem t_X3_measures_28 (E : XE) (Z : ZC) (q_this : Nat) (q_text : Nat) (q_now : Nat) (q_trial : Nat) (q_choosing : Nat) (q_acts : Nat) (q_slots : Nat) (q_isKept : Nat) (q_heardPerson : Nat) (q_heardIs : Nat) (q_now_weights : Nat) (q_now_marks : Nat) (q_now_ageing : Nat) (q_trial_weights : Nat) (q_trial_marks : Nat) (q_trial_ageing : Nat) (v_nextAct : Int32) (v_actCount : Int32) (v_heardCount : Int32) (v_seed : Int64) (v_now_people : Int32) (v_now_alive : Int32) (v_now_reported : Int32) (v_now_mornings : Int32) (v_now_years : Int32) (v_now_weights : Nat → Int32) (v_now_marks : Nat → Int32) (v_now_ageing : Nat → Int32) (v_trial_people : Int32) (v_trial_alive : Int32) (v_trial_reported : Int32) (v_trial_mornings : Int32) (v_trial_years : Int32) (v_trial_marks : Nat → Int32) (v_trial_ageing : Nat → Int32) (l1 : Int32) {K : Int32 → Int32 → (Nat → Int32) → Prop} (hZ : XOK E Z RX3 cX3_measures 5 { frames := 2, cells := 0, slots := 0, locals := 45 }) : ∀ (k : Nat) (l3 : Int32) (l4 : Int32) (v_trial_weights : (Nat → Int32)), wl (fun rec v => b_X3_measures_28 l1 v_trial_people v_trial_alive v_trial_marks K rec v.1 v.2.1 v.2.2) k (l3, l4, v_trial_weights) → (∀ (l3 : Int32) (l4 : Int32) (v_trial_weights : (Nat → Int32)), K l3 l4 v_trial_weights → XW E Z 0 0 [(q_this, cO 3 [.ref q_text, .ref q_now, .ref q_trial, .ref q_choosing, .ref q_acts, .int v_nextAct, .int v_actCount, .ref q_slots, .ref q_isKept, .ref q_heardPerson, .ref q_heardIs, .int v_heardCount, .long v_seed]), (q_now, cO 1 [.int v_now_people, .ref q_now_weights, .ref q_now_marks, .ref q_now_ageing, .int v_now_alive, .int v_now_reported, .int v_now_mornings, .int v_now_years]), (q_now_weights, cA E 3 v_now_weights), (q_now_marks, cA E 18 v_now_marks), (q_now_ageing, cA E 6 v_now_ageing), (q_trial, cO 1 [.int v_trial_people, .ref q_trial_weights, .ref q_trial_marks, .ref q_trial_ageing, .int v_trial_alive, .int v_trial_reported, .int v_trial_mornings, .int v_trial_years]), (q_trial_weights, cA E 3 v_trial_weights), (q_trial_marks, cA E 18 v_trial_marks), (q_trial_ageing, cA E 6 v_trial_ageing)] [(3, .int l3)] [] 65) → XW E Z 0 0 [(q_this, cO 3 [.ref q_text, .ref q_now, .ref q_trial, .ref q_choosing, .ref q_acts, .int v_nextAct, .int v_actCount, .ref q_slots, .ref q_isKept, .ref q_heardPerson, .ref q_heardIs, .int v_heardCount, .long v_seed]), (q_now, cO 1 [.int v_now_people, .ref q_now_weights, .ref q_now_marks, .ref q_now_ageing, .int v_now_alive, .int v_now_reported, .int v_now_mornings, .int v_now_years]), (q_now_weights, cA E 3 v_now_weights), (q_now_marks, cA E 18 v_now_marks), (q_now_ageing, cA E 6 v_now_ageing), (q_trial, cO 1 [.int v_trial_people, .ref q_trial_weights, .ref q_trial_marks, .ref q_trial_ageing, .int v_trial_alive, .int v_trial_reported, .int v_trial_mornings, .int v_trial_years]), (q_trial_weights, cA E 3 v_trial_weights), (q_trial_marks, cA E 18 v_trial_marks), (q_trial_ageing, cA E 6 v_trial_ageing)] [(0, .ref q_this), (1, .int l1), (3, .int l3), (4, .int l4)] [] 28 := by
  intro k
  induction k with
  | zero =>
    intro l3 l4 v_trial_weights h
    exact h.elim
  | succ k ih =>
    intro l3 l4 v_trial_weights h hK
    replace h := wl_succ h
    try dsimp only at h
    unfold b_X3_measures_28 at h
    refine x_iload (pc' := 30) hZ dX3_measures_28 rfl 3 rfl ?_
    refine x_sipush (v := 999) (pc' := 33) hZ (by decide) dX3_measures_30 rfl ?_
    refine x_icmp_gt (tgt := 65) (pc' := 36) hZ dX3_measures_33 (by decide) rfl (fun c33 => ?_) (fun c33 => ?_)
    · replace h := h.1 c33
      refine x_lv [2] (lv' := [(3, .int l3)]) rfl ?_
      exact hK l3 l4 v_trial_weights h
    · replace h := h.2 c33
      refine x_aload_n (pc' := 37) hZ dX3_measures_36 rfl 0 rfl ?_
      refine g_RX3_23 (pc' := 40) hZ dX3_measures_37 rfl 0 rfl rfl ?_
      refine x_iload (pc' := 42) hZ dX3_measures_40 rfl 3 rfl ?_
      refine k_RX3_184 (pc' := 45) (q0 := 5) (as := [.int l4]) (rest := []) (c' := 0) (n' := 0) (wr := [(q_this, cO 3 [.ref q_text, .ref q_now, .ref q_trial, .ref q_choosing, .ref q_acts, .int v_nextAct, .int v_actCount, .ref q_slots, .ref q_isKept, .ref q_heardPerson, .ref q_heardIs, .int v_heardCount, .long v_seed]), (q_now, cO 1 [.int v_now_people, .ref q_now_weights, .ref q_now_marks, .ref q_now_ageing, .int v_now_alive, .int v_now_reported, .int v_now_mornings, .int v_now_years]), (q_now_weights, cA E 3 v_now_weights), (q_now_marks, cA E 18 v_now_marks), (q_now_ageing, cA E 6 v_now_ageing), (q_trial_marks, cA E 18 v_trial_marks), (q_trial_ageing, cA E 6 v_trial_ageing)]) hZ (c_X1_weighBy E q_trial q_trial_weights q_trial_marks q_trial_ageing v_trial_people v_trial_alive v_trial_reported v_trial_mornings v_trial_years v_trial_weights l4 _ h) rfl dX3_measures_42 rfl rfl rfl rfl rfl (Nat.le_of_ble_eq_true rfl) (Nat.le_of_ble_eq_true rfl) (Nat.le_of_ble_eq_true rfl) rfl rfl (Nat.le_of_ble_eq_true rfl) (Nat.le_of_ble_eq_true rfl) [5, 6] [0, 1, 2, 3, 4, 7, 8] rfl rfl (by decide) (by decide) (by decide) (fun w42 hw => ?_)
      obtain ⟨a42_0, rfl, h⟩ := hw
      refine x_ws (ws' := [(q_this, cO 3 [.ref q_text, .ref q_now, .ref q_trial, .ref q_choosing, .ref q_acts, .int v_nextAct, .int v_actCount, .ref q_slots, .ref q_isKept, .ref q_heardPerson, .ref q_heardIs, .int v_heardCount, .long v_seed]), (q_now, cO 1 [.int v_now_people, .ref q_now_weights, .ref q_now_marks, .ref q_now_ageing, .int v_now_alive, .int v_now_reported, .int v_now_mornings, .int v_now_years]), (q_now_weights, cA E 3 v_now_weights), (q_now_marks, cA E 18 v_now_marks), (q_now_ageing, cA E 6 v_now_ageing), (q_trial, cO 1 [.int v_trial_people, .ref q_trial_weights, .ref q_trial_marks, .ref q_trial_ageing, .int v_trial_alive, .int v_trial_reported, .int v_trial_mornings, .int v_trial_years]), (q_trial_weights, cA E 3 a42_0), (q_trial_marks, cA E 18 v_trial_marks), (q_trial_ageing, cA E 6 v_trial_ageing)]) [0, 1, 2, 3, 4, 7, 8, 5, 6] rfl (by decide) ?_
      refine x_aload_n (pc' := 46) hZ dX3_measures_45 rfl 0 rfl ?_
      refine g_RX3_23 (pc' := 49) hZ dX3_measures_46 rfl 0 rfl rfl ?_
      refine x_iload_n (pc' := 50) hZ dX3_measures_49 rfl 1 rfl ?_
      refine k_RX3_187 (pc' := 53) (q0 := 5) (as := [.int l1]) (rest := []) (c' := 0) (n' := 0) (wr := [(q_this, cO 3 [.ref q_text, .ref q_now, .ref q_trial, .ref q_choosing, .ref q_acts, .int v_nextAct, .int v_actCount, .ref q_slots, .ref q_isKept, .ref q_heardPerson, .ref q_heardIs, .int v_heardCount, .long v_seed]), (q_now, cO 1 [.int v_now_people, .ref q_now_weights, .ref q_now_marks, .ref q_now_ageing, .int v_now_alive, .int v_now_reported, .int v_now_mornings, .int v_now_years]), (q_now_weights, cA E 3 v_now_weights), (q_now_marks, cA E 18 v_now_marks), (q_now_ageing, cA E 6 v_now_ageing), (q_trial_ageing, cA E 6 v_trial_ageing)]) hZ (c_X1_isFairestAlone E q_trial q_trial_weights q_trial_marks q_trial_ageing v_trial_people v_trial_alive v_trial_reported v_trial_mornings v_trial_years a42_0 v_trial_marks l1 _ h) rfl dX3_measures_50 rfl rfl rfl rfl rfl (Nat.le_of_ble_eq_true rfl) (Nat.le_of_ble_eq_true rfl) (Nat.le_of_ble_eq_true rfl) rfl rfl (Nat.le_of_ble_eq_true rfl) (Nat.le_of_ble_eq_true rfl) [5, 6, 7] [0, 1, 2, 3, 4, 8] rfl rfl (by decide) (by decide) (by decide) (fun r50 w50 hw => ?_)
      obtain ⟨rfl, h⟩ := hw
      refine x_ws (ws' := [(q_this, cO 3 [.ref q_text, .ref q_now, .ref q_trial, .ref q_choosing, .ref q_acts, .int v_nextAct, .int v_actCount, .ref q_slots, .ref q_isKept, .ref q_heardPerson, .ref q_heardIs, .int v_heardCount, .long v_seed]), (q_now, cO 1 [.int v_now_people, .ref q_now_weights, .ref q_now_marks, .ref q_now_ageing, .int v_now_alive, .int v_now_reported, .int v_now_mornings, .int v_now_years]), (q_now_weights, cA E 3 v_now_weights), (q_now_marks, cA E 18 v_now_marks), (q_now_ageing, cA E 6 v_now_ageing), (q_trial, cO 1 [.int v_trial_people, .ref q_trial_weights, .ref q_trial_marks, .ref q_trial_ageing, .int v_trial_alive, .int v_trial_reported, .int v_trial_mornings, .int v_trial_years]), (q_trial_weights, cA E 3 a42_0), (q_trial_marks, cA E 18 v_trial_marks), (q_trial_ageing, cA E 6 v_trial_ageing)]) [0, 1, 2, 3, 4, 6, 7, 8, 5] rfl (by decide) ?_
      refine x_if_eq (tgt := 59) (pc' := 56) hZ dX3_measures_53 (by decide) rfl (fun c53 => ?_) (fun c53 => ?_)
      · replace h := h.1 c53
        obtain ⟨x59, e59⟩ : ∃ y : Int32, y = l4 + 1 := ⟨_, rfl⟩
        replace h := h x59 e59
        refine x_iinc (i := 4) (v := x59) (pc' := 62) (lv' := [(4, .int x59), (0, .ref q_this), (1, .int l1), (3, .int l3)]) hZ dX3_measures_59 rfl 3 rfl (by rw [e59]; rfl) (by decide) rfl ?_
        refine x_goto (pc' := 28) hZ dX3_measures_62 (by decide) ?_
        refine x_lv [1, 2, 3, 0] (lv' := [(0, .ref q_this), (1, .int l1), (3, .int l3), (4, .int x59)]) rfl ?_
        exact ih l3 x59 a42_0 h hK
      · replace h := h.2 c53
        obtain ⟨x56, e56⟩ : ∃ y : Int32, y = l3 + 1 := ⟨_, rfl⟩
        replace h := h x56 e56
        refine x_iinc (i := 3) (v := x56) (pc' := 59) (lv' := [(3, .int x56), (0, .ref q_this), (1, .int l1), (4, .int l4)]) hZ dX3_measures_56 rfl 2 rfl (by rw [e56]; rfl) (by decide) rfl ?_
        obtain ⟨x59, e59⟩ : ∃ y : Int32, y = l4 + 1 := ⟨_, rfl⟩
        replace h := h x59 e59
        refine x_iinc (i := 4) (v := x59) (pc' := 62) (lv' := [(4, .int x59), (3, .int x56), (0, .ref q_this), (1, .int l1)]) hZ dX3_measures_59 rfl 3 rfl (by rw [e59]; rfl) (by decide) rfl ?_
        refine x_goto (pc' := 28) hZ dX3_measures_62 (by decide) ?_
        refine x_lv [2, 3, 1, 0] (lv' := [(0, .ref q_this), (1, .int l1), (3, .int x56), (4, .int x59)]) rfl ?_
        exact ih x56 x59 a42_0 h hK
set_option maxHeartbeats 4000000 in
set_option maxRecDepth 100000 in
theorem c_X3_measures (E : XE) (q_this : Nat) (q_text : Nat) (q_now : Nat) (q_trial : Nat) (q_choosing : Nat) (q_acts : Nat) (q_slots : Nat) (q_isKept : Nat) (q_heardPerson : Nat) (q_heardIs : Nat) (q_now_weights : Nat) (q_now_marks : Nat) (q_now_ageing : Nat) (q_trial_weights : Nat) (q_trial_marks : Nat) (q_trial_ageing : Nat) (v_nextAct : Int32) (v_actCount : Int32) (v_heardCount : Int32) (v_seed : Int64) (v_now_people : Int32) (v_now_alive : Int32) (v_now_reported : Int32) (v_now_mornings : Int32) (v_now_years : Int32) (v_now_weights : Nat → Int32) (v_now_marks : Nat → Int32) (v_now_ageing : Nat → Int32) (v_trial_people : Int32) (v_trial_alive : Int32) (v_trial_reported : Int32) (v_trial_mornings : Int32) (v_trial_years : Int32) (v_trial_weights : Nat → Int32) (v_trial_marks : Nat → Int32) (v_trial_ageing : Nat → Int32) (l1 : Int32) (post : Int32 → Int32 → Int32 → Int32 → Int32 → Int32 → (Nat → Int32) → (Nat → Int32) → (Nat → Int32) → Prop) (h : p_X3_measures v_now_people v_now_alive v_now_reported v_now_mornings v_now_years v_now_weights v_now_marks v_now_ageing v_trial_people v_trial_alive v_trial_reported v_trial_mornings v_trial_years v_trial_weights v_trial_marks v_trial_ageing l1 post) : ConI E yX3_measures cX3_measures 5 .int { frames := 2, cells := 0, slots := 0, locals := 45 } 0 0 [.ref q_this, .int l1] [(q_this, cO 3 [.ref q_text, .ref q_now, .ref q_trial, .ref q_choosing, .ref q_acts, .int v_nextAct, .int v_actCount, .ref q_slots, .ref q_isKept, .ref q_heardPerson, .ref q_heardIs, .int v_heardCount, .long v_seed]), (q_now, cO 1 [.int v_now_people, .ref q_now_weights, .ref q_now_marks, .ref q_now_ageing, .int v_now_alive, .int v_now_reported, .int v_now_mornings, .int v_now_years]), (q_now_weights, cA E 3 v_now_weights), (q_now_marks, cA E 18 v_now_marks), (q_now_ageing, cA E 6 v_now_ageing), (q_trial, cO 1 [.int v_trial_people, .ref q_trial_weights, .ref q_trial_marks, .ref q_trial_ageing, .int v_trial_alive, .int v_trial_reported, .int v_trial_mornings, .int v_trial_years]), (q_trial_weights, cA E 3 v_trial_weights), (q_trial_marks, cA E 18 v_trial_marks), (q_trial_ageing, cA E 6 v_trial_ageing)] (fun r w => ∃ (u_trial_people : Int32) (u_trial_alive : Int32) (u_trial_reported : Int32) (u_trial_mornings : Int32) (u_trial_years : Int32) (u_trial_weights : Nat → Int32) (u_trial_marks : Nat → Int32) (u_trial_ageing : Nat → Int32), w = [(q_this, cO 3 [.ref q_text, .ref q_now, .ref q_trial, .ref q_choosing, .ref q_acts, .int v_nextAct, .int v_actCount, .ref q_slots, .ref q_isKept, .ref q_heardPerson, .ref q_heardIs, .int v_heardCount, .long v_seed]), (q_now, cO 1 [.int v_now_people, .ref q_now_weights, .ref q_now_marks, .ref q_now_ageing, .int v_now_alive, .int v_now_reported, .int v_now_mornings, .int v_now_years]), (q_now_weights, cA E 3 v_now_weights), (q_now_marks, cA E 18 v_now_marks), (q_now_ageing, cA E 6 v_now_ageing), (q_trial, cO 1 [.int u_trial_people, .ref q_trial_weights, .ref q_trial_marks, .ref q_trial_ageing, .int u_trial_alive, .int u_trial_reported, .int u_trial_mornings, .int u_trial_years]), (q_trial_weights, cA E 3 u_trial_weights), (q_trial_marks, cA E 18 u_trial_marks), (q_trial_ageing, cA E 6 u_trial_ageing)] ∧ post r u_trial_people u_trial_alive u_trial_reported u_trial_mornings u_trial_years u_trial_weights u_trial_marks u_trial_ageing) := by
  refine ConI.of (by decide +kernel) (Nat.le_of_ble_eq_true rfl) (fun Z hZ hI hRet => ?_)
  replace hZ : XOK E Z RX3 cX3_measures 5 { frames := 2, cells := 0, slots := 0, locals := 45 } := hZ
  clear hI
  show XW E Z 0 0 [(q_this, cO 3 [.ref q_text, .ref q_now, .ref q_trial, .ref q_choosing, .ref q_acts, .int v_nextAct, .int v_actCount, .ref q_slots, .ref q_isKept, .ref q_heardPerson, .ref q_heardIs, .int v_heardCount, .long v_seed]), (q_now, cO 1 [.int v_now_people, .ref q_now_weights, .ref q_now_marks, .ref q_now_ageing, .int v_now_alive, .int v_now_reported, .int v_now_mornings, .int v_now_years]), (q_now_weights, cA E 3 v_now_weights), (q_now_marks, cA E 18 v_now_marks), (q_now_ageing, cA E 6 v_now_ageing), (q_trial, cO 1 [.int v_trial_people, .ref q_trial_weights, .ref q_trial_marks, .ref q_trial_ageing, .int v_trial_alive, .int v_trial_reported, .int v_trial_mornings, .int v_trial_years]), (q_trial_weights, cA E 3 v_trial_weights), (q_trial_marks, cA E 18 v_trial_marks), (q_trial_ageing, cA E 6 v_trial_ageing)] [(0, .ref q_this), (1, .int l1)] [] 0
  unfold p_X3_measures at h
  refine x_aload_n (pc' := 1) hZ dX3_measures_0 rfl 0 rfl ?_
  refine x_iload_n (pc' := 2) hZ dX3_measures_1 rfl 1 rfl ?_
  refine k_RX3_181 (pc' := 5) (q0 := 0) (as := [.int l1]) (rest := []) (c' := 0) (n' := 0) (wr := [(q_now_weights, cA E 3 v_now_weights), (q_now_marks, cA E 18 v_now_marks), (q_now_ageing, cA E 6 v_now_ageing), (q_trial, cO 1 [.int v_trial_people, .ref q_trial_weights, .ref q_trial_marks, .ref q_trial_ageing, .int v_trial_alive, .int v_trial_reported, .int v_trial_mornings, .int v_trial_years]), (q_trial_weights, cA E 3 v_trial_weights), (q_trial_marks, cA E 18 v_trial_marks), (q_trial_ageing, cA E 6 v_trial_ageing)]) hZ (c_X3_refuseDead E q_this q_text q_now q_trial q_choosing q_acts q_slots q_isKept q_heardPerson q_heardIs q_now_weights q_now_marks q_now_ageing v_nextAct v_actCount v_heardCount v_seed v_now_people v_now_alive v_now_reported v_now_mornings v_now_years l1 _ h) rfl dX3_measures_2 rfl rfl rfl rfl rfl (Nat.le_of_ble_eq_true rfl) (Nat.le_of_ble_eq_true rfl) (Nat.le_of_ble_eq_true rfl) rfl rfl (Nat.le_of_ble_eq_true rfl) (Nat.le_of_ble_eq_true rfl) [0, 1] [2, 3, 4, 5, 6, 7, 8] rfl rfl (by decide) (by decide) (by decide) (fun r2 w2 hw => ?_)
  obtain ⟨rfl, h⟩ := hw
  refine x_ws (ws' := [(q_this, cO 3 [.ref q_text, .ref q_now, .ref q_trial, .ref q_choosing, .ref q_acts, .int v_nextAct, .int v_actCount, .ref q_slots, .ref q_isKept, .ref q_heardPerson, .ref q_heardIs, .int v_heardCount, .long v_seed]), (q_now, cO 1 [.int v_now_people, .ref q_now_weights, .ref q_now_marks, .ref q_now_ageing, .int v_now_alive, .int v_now_reported, .int v_now_mornings, .int v_now_years]), (q_now_weights, cA E 3 v_now_weights), (q_now_marks, cA E 18 v_now_marks), (q_now_ageing, cA E 6 v_now_ageing), (q_trial, cO 1 [.int v_trial_people, .ref q_trial_weights, .ref q_trial_marks, .ref q_trial_ageing, .int v_trial_alive, .int v_trial_reported, .int v_trial_mornings, .int v_trial_years]), (q_trial_weights, cA E 3 v_trial_weights), (q_trial_marks, cA E 18 v_trial_marks), (q_trial_ageing, cA E 6 v_trial_ageing)]) [7, 8, 0, 1, 2, 3, 4, 5, 6] rfl (by decide) ?_
  refine x_istore_n (i := 2) (pc' := 6) (lv' := [(2, .int r2), (0, .ref q_this), (1, .int l1)]) hZ dX3_measures_5 rfl rfl (by decide) rfl ?_
  refine x_iload_n (pc' := 7) hZ dX3_measures_6 rfl 0 rfl ?_
  refine x_if_eq (tgt := 12) (pc' := 10) hZ dX3_measures_7 (by decide) rfl (fun c7 => ?_) (fun c7 => ?_)
  · replace h := h.1 c7
    refine x_aload_n (pc' := 13) hZ dX3_measures_12 rfl 1 rfl ?_
    refine g_RX3_23 (pc' := 16) hZ dX3_measures_13 rfl 0 rfl rfl ?_
    refine x_aload_n (pc' := 17) hZ dX3_measures_16 rfl 1 rfl ?_
    refine g_RX3_19 (pc' := 20) hZ dX3_measures_17 rfl 0 rfl rfl ?_
    refine k_RX3_139 (pc' := 23) (q0 := 5) (as := [.ref q_now]) (rest := []) (c' := 0) (n' := 0) (wr := [(q_this, cO 3 [.ref q_text, .ref q_now, .ref q_trial, .ref q_choosing, .ref q_acts, .int v_nextAct, .int v_actCount, .ref q_slots, .ref q_isKept, .ref q_heardPerson, .ref q_heardIs, .int v_heardCount, .long v_seed])]) hZ (c_X1_copyFrom E q_trial q_trial_weights q_trial_marks q_trial_ageing q_now q_now_weights q_now_marks q_now_ageing v_trial_people v_trial_alive v_trial_reported v_trial_mornings v_trial_years v_trial_weights v_trial_marks v_trial_ageing v_now_people v_now_alive v_now_reported v_now_mornings v_now_years v_now_weights v_now_marks v_now_ageing _ h) rfl dX3_measures_20 rfl rfl rfl rfl rfl (Nat.le_of_ble_eq_true rfl) (Nat.le_of_ble_eq_true rfl) (Nat.le_of_ble_eq_true rfl) rfl rfl (Nat.le_of_ble_eq_true rfl) (Nat.le_of_ble_eq_true rfl) [5, 6, 7, 8, 1, 2, 3, 4] [0] rfl rfl (by decide) (by decide) (by decide) (fun w20 hw => ?_)
    obtain ⟨a20_0, a20_1, a20_2, a20_3, a20_4, a20_5, a20_6, a20_7, rfl, h⟩ := hw
    refine x_ws (ws' := [(q_this, cO 3 [.ref q_text, .ref q_now, .ref q_trial, .ref q_choosing, .ref q_acts, .int v_nextAct, .int v_actCount, .ref q_slots, .ref q_isKept, .ref q_heardPerson, .ref q_heardIs, .int v_heardCount, .long v_seed]), (q_now, cO 1 [.int v_now_people, .ref q_now_weights, .ref q_now_marks, .ref q_now_ageing, .int v_now_alive, .int v_now_reported, .int v_now_mornings, .int v_now_years]), (q_now_weights, cA E 3 v_now_weights), (q_now_marks, cA E 18 v_now_marks), (q_now_ageing, cA E 6 v_now_ageing), (q_trial, cO 1 [.int a20_0, .ref q_trial_weights, .ref q_trial_marks, .ref q_trial_ageing, .int a20_1, .int a20_2, .int a20_3, .int a20_4]), (q_trial_weights, cA E 3 a20_5), (q_trial_marks, cA E 18 a20_6), (q_trial_ageing, cA E 6 a20_7)]) [0, 5, 6, 7, 8, 1, 2, 3, 4] rfl (by decide) ?_
    refine x_iconst (v := 0) (pc' := 24) hZ (by decide) dX3_measures_23 rfl ?_
    refine x_istore_n (i := 3) (pc' := 25) (lv' := [(3, .int 0), (2, .int r2), (0, .ref q_this), (1, .int l1)]) hZ dX3_measures_24 rfl rfl (by decide) rfl ?_
    refine x_iconst (v := 1) (pc' := 26) hZ (by decide) dX3_measures_25 rfl ?_
    refine x_istore (i := 4) (pc' := 28) (lv' := [(4, .int 1), (3, .int 0), (2, .int r2), (0, .ref q_this), (1, .int l1)]) hZ dX3_measures_26 rfl (by decide) rfl ?_
    refine x_lv [3, 4, 1, 0] (lv' := [(0, .ref q_this), (1, .int l1), (3, .int 0), (4, .int 1)]) rfl ?_
    obtain ⟨k28, h⟩ := h
    refine t_X3_measures_28 E Z q_this q_text q_now q_trial q_choosing q_acts q_slots q_isKept q_heardPerson q_heardIs q_now_weights q_now_marks q_now_ageing q_trial_weights q_trial_marks q_trial_ageing v_nextAct v_actCount v_heardCount v_seed v_now_people v_now_alive v_now_reported v_now_mornings v_now_years v_now_weights v_now_marks v_now_ageing a20_0 a20_1 a20_2 a20_3 a20_4 a20_6 a20_7 l1 hZ  _ 0 1 a20_5 h (fun l3_28 l4_28 v_trial_weights_28 h => ?_)
    refine x_iload_n (pc' := 66) hZ dX3_measures_65 rfl 0 rfl ?_
    exact hRet _ _ _ _ dX3_measures_66 ⟨_, _, _, _, _, _, _, _, rfl, h⟩
  · replace h := h.2 c7
    refine x_iload_n (pc' := 11) hZ dX3_measures_10 rfl 0 rfl ?_
    exact hRet _ _ _ _ dX3_measures_11 ⟨_, _, _, _, _, _, _, _, rfl, h⟩
set_option maxHeartbeats 4000000 in
set_option maxRecDepth 100000 in
theorem t_X3_nearest_33 (E : XE) (Z : ZC) (q_this : Nat) (q_text : Nat) (q_now : Nat) (q_trial : Nat) (q_choosing : Nat) (q_acts : Nat) (q_slots : Nat) (q_isKept : Nat) (q_heardPerson : Nat) (q_heardIs : Nat) (q_now_weights : Nat) (q_now_marks : Nat) (q_now_ageing : Nat) (q_trial_weights : Nat) (q_trial_marks : Nat) (q_trial_ageing : Nat) (v_nextAct : Int32) (v_actCount : Int32) (v_heardCount : Int32) (v_seed : Int64) (v_now_people : Int32) (v_now_alive : Int32) (v_now_reported : Int32) (v_now_mornings : Int32) (v_now_years : Int32) (v_now_weights : Nat → Int32) (v_now_marks : Nat → Int32) (v_now_ageing : Nat → Int32) (v_trial_people : Int32) (v_trial_alive : Int32) (v_trial_reported : Int32) (v_trial_mornings : Int32) (v_trial_years : Int32) (v_trial_marks : Nat → Int32) (v_trial_ageing : Nat → Int32) (l1 : Int32) {K : Int32 → Int32 → Int32 → (Nat → Int32) → Prop} (hZ : XOK E Z RX3 cX3_nearest 7 { frames := 2, cells := 0, slots := 0, locals := 45 }) : ∀ (k : Nat) (l3 : Int32) (l4 : Int32) (l5 : Int32) (v_trial_weights : (Nat → Int32)), wl (fun rec v => b_X3_nearest_33 l1 v_now_weights v_trial_people v_trial_alive v_trial_marks K rec v.1 v.2.1 v.2.2.1 v.2.2.2) k (l3, l4, l5, v_trial_weights) → (∀ (l3 : Int32) (l4 : Int32) (l5 : Int32) (v_trial_weights : (Nat → Int32)), K l3 l4 l5 v_trial_weights → XW E Z 0 0 [(q_this, cO 3 [.ref q_text, .ref q_now, .ref q_trial, .ref q_choosing, .ref q_acts, .int v_nextAct, .int v_actCount, .ref q_slots, .ref q_isKept, .ref q_heardPerson, .ref q_heardIs, .int v_heardCount, .long v_seed]), (q_now, cO 1 [.int v_now_people, .ref q_now_weights, .ref q_now_marks, .ref q_now_ageing, .int v_now_alive, .int v_now_reported, .int v_now_mornings, .int v_now_years]), (q_now_weights, cA E 3 v_now_weights), (q_now_marks, cA E 18 v_now_marks), (q_now_ageing, cA E 6 v_now_ageing), (q_trial, cO 1 [.int v_trial_people, .ref q_trial_weights, .ref q_trial_marks, .ref q_trial_ageing, .int v_trial_alive, .int v_trial_reported, .int v_trial_mornings, .int v_trial_years]), (q_trial_weights, cA E 3 v_trial_weights), (q_trial_marks, cA E 18 v_trial_marks), (q_trial_ageing, cA E 6 v_trial_ageing)] [(3, .int l3)] [] 94) → XW E Z 0 0 [(q_this, cO 3 [.ref q_text, .ref q_now, .ref q_trial, .ref q_choosing, .ref q_acts, .int v_nextAct, .int v_actCount, .ref q_slots, .ref q_isKept, .ref q_heardPerson, .ref q_heardIs, .int v_heardCount, .long v_seed]), (q_now, cO 1 [.int v_now_people, .ref q_now_weights, .ref q_now_marks, .ref q_now_ageing, .int v_now_alive, .int v_now_reported, .int v_now_mornings, .int v_now_years]), (q_now_weights, cA E 3 v_now_weights), (q_now_marks, cA E 18 v_now_marks), (q_now_ageing, cA E 6 v_now_ageing), (q_trial, cO 1 [.int v_trial_people, .ref q_trial_weights, .ref q_trial_marks, .ref q_trial_ageing, .int v_trial_alive, .int v_trial_reported, .int v_trial_mornings, .int v_trial_years]), (q_trial_weights, cA E 3 v_trial_weights), (q_trial_marks, cA E 18 v_trial_marks), (q_trial_ageing, cA E 6 v_trial_ageing)] [(0, .ref q_this), (1, .int l1), (3, .int l3), (4, .int l4), (5, .int l5)] [] 33 := by
  intro k
  induction k with
  | zero =>
    intro l3 l4 l5 v_trial_weights h
    exact h.elim
  | succ k ih =>
    intro l3 l4 l5 v_trial_weights h hK
    replace h := wl_succ h
    try dsimp only at h
    unfold b_X3_nearest_33 at h
    refine x_iload (pc' := 35) hZ dX3_nearest_33 rfl 4 rfl ?_
    refine x_sipush (v := 999) (pc' := 38) hZ (by decide) dX3_nearest_35 rfl ?_
    refine x_icmp_gt (tgt := 94) (pc' := 41) hZ dX3_nearest_38 (by decide) rfl (fun c38 => ?_) (fun c38 => ?_)
    · replace h := h.1 c38
      refine x_lv [2] (lv' := [(3, .int l3)]) rfl ?_
      exact hK l3 l4 l5 v_trial_weights h
    · replace h := h.2 c38
      refine x_aload_n (pc' := 42) hZ dX3_nearest_41 rfl 0 rfl ?_
      refine g_RX3_23 (pc' := 45) hZ dX3_nearest_42 rfl 0 rfl rfl ?_
      refine x_iload (pc' := 47) hZ dX3_nearest_45 rfl 4 rfl ?_
      refine k_RX3_184 (pc' := 50) (q0 := 5) (as := [.int l5]) (rest := []) (c' := 0) (n' := 0) (wr := [(q_this, cO 3 [.ref q_text, .ref q_now, .ref q_trial, .ref q_choosing, .ref q_acts, .int v_nextAct, .int v_actCount, .ref q_slots, .ref q_isKept, .ref q_heardPerson, .ref q_heardIs, .int v_heardCount, .long v_seed]), (q_now, cO 1 [.int v_now_people, .ref q_now_weights, .ref q_now_marks, .ref q_now_ageing, .int v_now_alive, .int v_now_reported, .int v_now_mornings, .int v_now_years]), (q_now_weights, cA E 3 v_now_weights), (q_now_marks, cA E 18 v_now_marks), (q_now_ageing, cA E 6 v_now_ageing), (q_trial_marks, cA E 18 v_trial_marks), (q_trial_ageing, cA E 6 v_trial_ageing)]) hZ (c_X1_weighBy E q_trial q_trial_weights q_trial_marks q_trial_ageing v_trial_people v_trial_alive v_trial_reported v_trial_mornings v_trial_years v_trial_weights l5 _ h) rfl dX3_nearest_47 rfl rfl rfl rfl rfl (Nat.le_of_ble_eq_true rfl) (Nat.le_of_ble_eq_true rfl) (Nat.le_of_ble_eq_true rfl) rfl rfl (Nat.le_of_ble_eq_true rfl) (Nat.le_of_ble_eq_true rfl) [5, 6] [0, 1, 2, 3, 4, 7, 8] rfl rfl (by decide) (by decide) (by decide) (fun w47 hw => ?_)
      obtain ⟨a47_0, rfl, h⟩ := hw
      refine x_ws (ws' := [(q_this, cO 3 [.ref q_text, .ref q_now, .ref q_trial, .ref q_choosing, .ref q_acts, .int v_nextAct, .int v_actCount, .ref q_slots, .ref q_isKept, .ref q_heardPerson, .ref q_heardIs, .int v_heardCount, .long v_seed]), (q_now, cO 1 [.int v_now_people, .ref q_now_weights, .ref q_now_marks, .ref q_now_ageing, .int v_now_alive, .int v_now_reported, .int v_now_mornings, .int v_now_years]), (q_now_weights, cA E 3 v_now_weights), (q_now_marks, cA E 18 v_now_marks), (q_now_ageing, cA E 6 v_now_ageing), (q_trial, cO 1 [.int v_trial_people, .ref q_trial_weights, .ref q_trial_marks, .ref q_trial_ageing, .int v_trial_alive, .int v_trial_reported, .int v_trial_mornings, .int v_trial_years]), (q_trial_weights, cA E 3 a47_0), (q_trial_marks, cA E 18 v_trial_marks), (q_trial_ageing, cA E 6 v_trial_ageing)]) [0, 1, 2, 3, 4, 7, 8, 5, 6] rfl (by decide) ?_
      refine x_aload_n (pc' := 51) hZ dX3_nearest_50 rfl 0 rfl ?_
      refine g_RX3_23 (pc' := 54) hZ dX3_nearest_51 rfl 0 rfl rfl ?_
      refine x_aload_n (pc' := 55) hZ dX3_nearest_54 rfl 0 rfl ?_
      refine g_RX3_19 (pc' := 58) hZ dX3_nearest_55 rfl 0 rfl rfl ?_
      refine k_RX3_190 (pc' := 61) (q0 := 5) (as := [.ref q_now]) (rest := []) (c' := 0) (n' := 0) (wr := [(q_this, cO 3 [.ref q_text, .ref q_now, .ref q_trial, .ref q_choosing, .ref q_acts, .int v_nextAct, .int v_actCount, .ref q_slots, .ref q_isKept, .ref q_heardPerson, .ref q_heardIs, .int v_heardCount, .long v_seed]), (q_now_marks, cA E 18 v_now_marks), (q_now_ageing, cA E 6 v_now_ageing), (q_trial_marks, cA E 18 v_trial_marks), (q_trial_ageing, cA E 6 v_trial_ageing)]) hZ (c_X1_weightsApartFrom E q_trial q_trial_weights q_trial_marks q_trial_ageing q_now q_now_weights q_now_marks q_now_ageing v_trial_people v_trial_alive v_trial_reported v_trial_mornings v_trial_years a47_0 v_now_people v_now_alive v_now_reported v_now_mornings v_now_years v_now_weights _ h) rfl dX3_nearest_58 rfl rfl rfl rfl rfl (Nat.le_of_ble_eq_true rfl) (Nat.le_of_ble_eq_true rfl) (Nat.le_of_ble_eq_true rfl) rfl rfl (Nat.le_of_ble_eq_true rfl) (Nat.le_of_ble_eq_true rfl) [5, 6, 1, 2] [0, 3, 4, 7, 8] rfl rfl (by decide) (by decide) (by decide) (fun r58 w58 hw => ?_)
      obtain ⟨rfl, h⟩ := hw
      refine x_ws (ws' := [(q_this, cO 3 [.ref q_text, .ref q_now, .ref q_trial, .ref q_choosing, .ref q_acts, .int v_nextAct, .int v_actCount, .ref q_slots, .ref q_isKept, .ref q_heardPerson, .ref q_heardIs, .int v_heardCount, .long v_seed]), (q_now, cO 1 [.int v_now_people, .ref q_now_weights, .ref q_now_marks, .ref q_now_ageing, .int v_now_alive, .int v_now_reported, .int v_now_mornings, .int v_now_years]), (q_now_weights, cA E 3 v_now_weights), (q_now_marks, cA E 18 v_now_marks), (q_now_ageing, cA E 6 v_now_ageing), (q_trial, cO 1 [.int v_trial_people, .ref q_trial_weights, .ref q_trial_marks, .ref q_trial_ageing, .int v_trial_alive, .int v_trial_reported, .int v_trial_mornings, .int v_trial_years]), (q_trial_weights, cA E 3 a47_0), (q_trial_marks, cA E 18 v_trial_marks), (q_trial_ageing, cA E 6 v_trial_ageing)]) [0, 7, 8, 1, 2, 5, 6, 3, 4] rfl (by decide) ?_
      refine x_istore (i := 6) (pc' := 63) (lv' := [(6, .int r58), (0, .ref q_this), (1, .int l1), (3, .int l3), (4, .int l4), (5, .int l5)]) hZ dX3_nearest_61 rfl (by decide) rfl ?_
      refine x_iload (pc' := 65) hZ dX3_nearest_63 rfl 0 rfl ?_
      refine x_iload (pc' := 67) hZ dX3_nearest_65 rfl 4 rfl ?_
      refine x_icmp_ge (tgt := 88) (pc' := 70) hZ dX3_nearest_67 (by decide) rfl (fun c67 => ?_) (fun c67 => ?_)
      · replace h := h.1 c67
        obtain ⟨x88, e88⟩ : ∃ y : Int32, y = l5 + 1 := ⟨_, rfl⟩
        replace h := h x88 e88
        refine x_iinc (i := 5) (v := x88) (pc' := 91) (lv' := [(5, .int x88), (6, .int r58), (0, .ref q_this), (1, .int l1), (3, .int l3), (4, .int l4)]) hZ dX3_nearest_88 rfl 5 rfl (by rw [e88]; rfl) (by decide) rfl ?_
        refine x_goto (pc' := 33) hZ dX3_nearest_91 (by decide) ?_
        refine x_lv [2, 3, 4, 5, 0] (lv' := [(0, .ref q_this), (1, .int l1), (3, .int l3), (4, .int l4), (5, .int x88)]) rfl ?_
        exact ih l3 l4 x88 a47_0 h hK
      · replace h := h.2 c67
        refine x_aload_n (pc' := 71) hZ dX3_nearest_70 rfl 1 rfl ?_
        refine g_RX3_23 (pc' := 74) hZ dX3_nearest_71 rfl 0 rfl rfl ?_
        refine x_iload_n (pc' := 75) hZ dX3_nearest_74 rfl 2 rfl ?_
        refine k_RX3_187 (pc' := 78) (q0 := 5) (as := [.int l1]) (rest := []) (c' := 0) (n' := 0) (wr := [(q_this, cO 3 [.ref q_text, .ref q_now, .ref q_trial, .ref q_choosing, .ref q_acts, .int v_nextAct, .int v_actCount, .ref q_slots, .ref q_isKept, .ref q_heardPerson, .ref q_heardIs, .int v_heardCount, .long v_seed]), (q_now, cO 1 [.int v_now_people, .ref q_now_weights, .ref q_now_marks, .ref q_now_ageing, .int v_now_alive, .int v_now_reported, .int v_now_mornings, .int v_now_years]), (q_now_weights, cA E 3 v_now_weights), (q_now_marks, cA E 18 v_now_marks), (q_now_ageing, cA E 6 v_now_ageing), (q_trial_ageing, cA E 6 v_trial_ageing)]) hZ (c_X1_isFairestAlone E q_trial q_trial_weights q_trial_marks q_trial_ageing v_trial_people v_trial_alive v_trial_reported v_trial_mornings v_trial_years a47_0 v_trial_marks l1 _ h) rfl dX3_nearest_75 rfl rfl rfl rfl rfl (Nat.le_of_ble_eq_true rfl) (Nat.le_of_ble_eq_true rfl) (Nat.le_of_ble_eq_true rfl) rfl rfl (Nat.le_of_ble_eq_true rfl) (Nat.le_of_ble_eq_true rfl) [5, 6, 7] [0, 1, 2, 3, 4, 8] rfl rfl (by decide) (by decide) (by decide) (fun r75 w75 hw => ?_)
        obtain ⟨rfl, h⟩ := hw
        refine x_ws (ws' := [(q_this, cO 3 [.ref q_text, .ref q_now, .ref q_trial, .ref q_choosing, .ref q_acts, .int v_nextAct, .int v_actCount, .ref q_slots, .ref q_isKept, .ref q_heardPerson, .ref q_heardIs, .int v_heardCount, .long v_seed]), (q_now, cO 1 [.int v_now_people, .ref q_now_weights, .ref q_now_marks, .ref q_now_ageing, .int v_now_alive, .int v_now_reported, .int v_now_mornings, .int v_now_years]), (q_now_weights, cA E 3 v_now_weights), (q_now_marks, cA E 18 v_now_marks), (q_now_ageing, cA E 6 v_now_ageing), (q_trial, cO 1 [.int v_trial_people, .ref q_trial_weights, .ref q_trial_marks, .ref q_trial_ageing, .int v_trial_alive, .int v_trial_reported, .int v_trial_mornings, .int v_trial_years]), (q_trial_weights, cA E 3 a47_0), (q_trial_marks, cA E 18 v_trial_marks), (q_trial_ageing, cA E 6 v_trial_ageing)]) [0, 1, 2, 3, 4, 6, 7, 8, 5] rfl (by decide) ?_
        refine x_if_eq (tgt := 88) (pc' := 81) hZ dX3_nearest_78 (by decide) rfl (fun c78 => ?_) (fun c78 => ?_)
        · replace h := h.1 c78
          obtain ⟨x88, e88⟩ : ∃ y : Int32, y = l5 + 1 := ⟨_, rfl⟩
          replace h := h x88 e88
          refine x_iinc (i := 5) (v := x88) (pc' := 91) (lv' := [(5, .int x88), (6, .int r58), (0, .ref q_this), (1, .int l1), (3, .int l3), (4, .int l4)]) hZ dX3_nearest_88 rfl 5 rfl (by rw [e88]; rfl) (by decide) rfl ?_
          refine x_goto (pc' := 33) hZ dX3_nearest_91 (by decide) ?_
          refine x_lv [2, 3, 4, 5, 0] (lv' := [(0, .ref q_this), (1, .int l1), (3, .int l3), (4, .int l4), (5, .int x88)]) rfl ?_
          exact ih l3 l4 x88 a47_0 h hK
        · replace h := h.2 c78
          refine x_iload (pc' := 83) hZ dX3_nearest_81 rfl 5 rfl ?_
          refine x_istore_n (i := 3) (pc' := 84) (lv' := [(3, .int l5), (6, .int r58), (0, .ref q_this), (1, .int l1), (4, .int l4), (5, .int l5)]) hZ dX3_nearest_83 rfl rfl (by decide) rfl ?_
          refine x_iload (pc' := 86) hZ dX3_nearest_84 rfl 1 rfl ?_
          refine x_istore (i := 4) (pc' := 88) (lv' := [(4, .int r58), (3, .int l5), (6, .int r58), (0, .ref q_this), (1, .int l1), (5, .int l5)]) hZ dX3_nearest_86 rfl (by decide) rfl ?_
          obtain ⟨x88, e88⟩ : ∃ y : Int32, y = l5 + 1 := ⟨_, rfl⟩
          replace h := h x88 e88
          refine x_iinc (i := 5) (v := x88) (pc' := 91) (lv' := [(5, .int x88), (4, .int r58), (3, .int l5), (6, .int r58), (0, .ref q_this), (1, .int l1)]) hZ dX3_nearest_88 rfl 5 rfl (by rw [e88]; rfl) (by decide) rfl ?_
          refine x_goto (pc' := 33) hZ dX3_nearest_91 (by decide) ?_
          refine x_lv [4, 5, 2, 1, 0] (lv' := [(0, .ref q_this), (1, .int l1), (3, .int l5), (4, .int r58), (5, .int x88)]) rfl ?_
          exact ih l5 r58 x88 a47_0 h hK
set_option maxHeartbeats 4000000 in
set_option maxRecDepth 100000 in
theorem c_X3_nearest (E : XE) (q_this : Nat) (q_text : Nat) (q_now : Nat) (q_trial : Nat) (q_choosing : Nat) (q_acts : Nat) (q_slots : Nat) (q_isKept : Nat) (q_heardPerson : Nat) (q_heardIs : Nat) (q_now_weights : Nat) (q_now_marks : Nat) (q_now_ageing : Nat) (q_trial_weights : Nat) (q_trial_marks : Nat) (q_trial_ageing : Nat) (v_nextAct : Int32) (v_actCount : Int32) (v_heardCount : Int32) (v_seed : Int64) (v_now_people : Int32) (v_now_alive : Int32) (v_now_reported : Int32) (v_now_mornings : Int32) (v_now_years : Int32) (v_now_weights : Nat → Int32) (v_now_marks : Nat → Int32) (v_now_ageing : Nat → Int32) (v_trial_people : Int32) (v_trial_alive : Int32) (v_trial_reported : Int32) (v_trial_mornings : Int32) (v_trial_years : Int32) (v_trial_weights : Nat → Int32) (v_trial_marks : Nat → Int32) (v_trial_ageing : Nat → Int32) (l1 : Int32) (post : Int32 → Int32 → Int32 → Int32 → Int32 → Int32 → (Nat → Int32) → (Nat → Int32) → (Nat → Int32) → Prop) (h : p_X3_nearest v_now_people v_now_alive v_now_reported v_now_mornings v_now_years v_now_weights v_now_marks v_now_ageing v_trial_people v_trial_alive v_trial_reported v_trial_mornings v_trial_years v_trial_weights v_trial_marks v_trial_ageing l1 post) : ConI E yX3_nearest cX3_nearest 7 .int { frames := 2, cells := 0, slots := 0, locals := 45 } 0 0 [.ref q_this, .int l1] [(q_this, cO 3 [.ref q_text, .ref q_now, .ref q_trial, .ref q_choosing, .ref q_acts, .int v_nextAct, .int v_actCount, .ref q_slots, .ref q_isKept, .ref q_heardPerson, .ref q_heardIs, .int v_heardCount, .long v_seed]), (q_now, cO 1 [.int v_now_people, .ref q_now_weights, .ref q_now_marks, .ref q_now_ageing, .int v_now_alive, .int v_now_reported, .int v_now_mornings, .int v_now_years]), (q_now_weights, cA E 3 v_now_weights), (q_now_marks, cA E 18 v_now_marks), (q_now_ageing, cA E 6 v_now_ageing), (q_trial, cO 1 [.int v_trial_people, .ref q_trial_weights, .ref q_trial_marks, .ref q_trial_ageing, .int v_trial_alive, .int v_trial_reported, .int v_trial_mornings, .int v_trial_years]), (q_trial_weights, cA E 3 v_trial_weights), (q_trial_marks, cA E 18 v_trial_marks), (q_trial_ageing, cA E 6 v_trial_ageing)] (fun r w => ∃ (u_trial_people : Int32) (u_trial_alive : Int32) (u_trial_reported : Int32) (u_trial_mornings : Int32) (u_trial_years : Int32) (u_trial_weights : Nat → Int32) (u_trial_marks : Nat → Int32) (u_trial_ageing : Nat → Int32), w = [(q_this, cO 3 [.ref q_text, .ref q_now, .ref q_trial, .ref q_choosing, .ref q_acts, .int v_nextAct, .int v_actCount, .ref q_slots, .ref q_isKept, .ref q_heardPerson, .ref q_heardIs, .int v_heardCount, .long v_seed]), (q_now, cO 1 [.int v_now_people, .ref q_now_weights, .ref q_now_marks, .ref q_now_ageing, .int v_now_alive, .int v_now_reported, .int v_now_mornings, .int v_now_years]), (q_now_weights, cA E 3 v_now_weights), (q_now_marks, cA E 18 v_now_marks), (q_now_ageing, cA E 6 v_now_ageing), (q_trial, cO 1 [.int u_trial_people, .ref q_trial_weights, .ref q_trial_marks, .ref q_trial_ageing, .int u_trial_alive, .int u_trial_reported, .int u_trial_mornings, .int u_trial_years]), (q_trial_weights, cA E 3 u_trial_weights), (q_trial_marks, cA E 18 u_trial_marks), (q_trial_ageing, cA E 6 u_trial_ageing)] ∧ post r u_trial_people u_trial_alive u_trial_reported u_trial_mornings u_trial_years u_trial_weights u_trial_marks u_trial_ageing) := by
  refine ConI.of (by decide +kernel) (Nat.le_of_ble_eq_true rfl) (fun Z hZ hI hRet => ?_)
  replace hZ : XOK E Z RX3 cX3_nearest 7 { frames := 2, cells := 0, slots := 0, locals := 45 } := hZ
  clear hI
  show XW E Z 0 0 [(q_this, cO 3 [.ref q_text, .ref q_now, .ref q_trial, .ref q_choosing, .ref q_acts, .int v_nextAct, .int v_actCount, .ref q_slots, .ref q_isKept, .ref q_heardPerson, .ref q_heardIs, .int v_heardCount, .long v_seed]), (q_now, cO 1 [.int v_now_people, .ref q_now_weights, .ref q_now_marks, .ref q_now_ageing, .int v_now_alive, .int v_now_reported, .int v_now_mornings, .int v_now_years]), (q_now_weights, cA E 3 v_now_weights), (q_now_marks, cA E 18 v_now_marks), (q_now_ageing, cA E 6 v_now_ageing), (q_trial, cO 1 [.int v_trial_people, .ref q_trial_weights, .ref q_trial_marks, .ref q_trial_ageing, .int v_trial_alive, .int v_trial_reported, .int v_trial_mornings, .int v_trial_years]), (q_trial_weights, cA E 3 v_trial_weights), (q_trial_marks, cA E 18 v_trial_marks), (q_trial_ageing, cA E 6 v_trial_ageing)] [(0, .ref q_this), (1, .int l1)] [] 0
  unfold p_X3_nearest at h
  refine x_aload_n (pc' := 1) hZ dX3_nearest_0 rfl 0 rfl ?_
  refine x_iload_n (pc' := 2) hZ dX3_nearest_1 rfl 1 rfl ?_
  refine k_RX3_181 (pc' := 5) (q0 := 0) (as := [.int l1]) (rest := []) (c' := 0) (n' := 0) (wr := [(q_now_weights, cA E 3 v_now_weights), (q_now_marks, cA E 18 v_now_marks), (q_now_ageing, cA E 6 v_now_ageing), (q_trial, cO 1 [.int v_trial_people, .ref q_trial_weights, .ref q_trial_marks, .ref q_trial_ageing, .int v_trial_alive, .int v_trial_reported, .int v_trial_mornings, .int v_trial_years]), (q_trial_weights, cA E 3 v_trial_weights), (q_trial_marks, cA E 18 v_trial_marks), (q_trial_ageing, cA E 6 v_trial_ageing)]) hZ (c_X3_refuseDead E q_this q_text q_now q_trial q_choosing q_acts q_slots q_isKept q_heardPerson q_heardIs q_now_weights q_now_marks q_now_ageing v_nextAct v_actCount v_heardCount v_seed v_now_people v_now_alive v_now_reported v_now_mornings v_now_years l1 _ h) rfl dX3_nearest_2 rfl rfl rfl rfl rfl (Nat.le_of_ble_eq_true rfl) (Nat.le_of_ble_eq_true rfl) (Nat.le_of_ble_eq_true rfl) rfl rfl (Nat.le_of_ble_eq_true rfl) (Nat.le_of_ble_eq_true rfl) [0, 1] [2, 3, 4, 5, 6, 7, 8] rfl rfl (by decide) (by decide) (by decide) (fun r2 w2 hw => ?_)
  obtain ⟨rfl, h⟩ := hw
  refine x_ws (ws' := [(q_this, cO 3 [.ref q_text, .ref q_now, .ref q_trial, .ref q_choosing, .ref q_acts, .int v_nextAct, .int v_actCount, .ref q_slots, .ref q_isKept, .ref q_heardPerson, .ref q_heardIs, .int v_heardCount, .long v_seed]), (q_now, cO 1 [.int v_now_people, .ref q_now_weights, .ref q_now_marks, .ref q_now_ageing, .int v_now_alive, .int v_now_reported, .int v_now_mornings, .int v_now_years]), (q_now_weights, cA E 3 v_now_weights), (q_now_marks, cA E 18 v_now_marks), (q_now_ageing, cA E 6 v_now_ageing), (q_trial, cO 1 [.int v_trial_people, .ref q_trial_weights, .ref q_trial_marks, .ref q_trial_ageing, .int v_trial_alive, .int v_trial_reported, .int v_trial_mornings, .int v_trial_years]), (q_trial_weights, cA E 3 v_trial_weights), (q_trial_marks, cA E 18 v_trial_marks), (q_trial_ageing, cA E 6 v_trial_ageing)]) [7, 8, 0, 1, 2, 3, 4, 5, 6] rfl (by decide) ?_
  refine x_istore_n (i := 2) (pc' := 6) (lv' := [(2, .int r2), (0, .ref q_this), (1, .int l1)]) hZ dX3_nearest_5 rfl rfl (by decide) rfl ?_
  refine x_iload_n (pc' := 7) hZ dX3_nearest_6 rfl 0 rfl ?_
  refine x_if_eq (tgt := 12) (pc' := 10) hZ dX3_nearest_7 (by decide) rfl (fun c7 => ?_) (fun c7 => ?_)
  · replace h := h.1 c7
    refine x_aload_n (pc' := 13) hZ dX3_nearest_12 rfl 1 rfl ?_
    refine g_RX3_23 (pc' := 16) hZ dX3_nearest_13 rfl 0 rfl rfl ?_
    refine x_aload_n (pc' := 17) hZ dX3_nearest_16 rfl 1 rfl ?_
    refine g_RX3_19 (pc' := 20) hZ dX3_nearest_17 rfl 0 rfl rfl ?_
    refine k_RX3_139 (pc' := 23) (q0 := 5) (as := [.ref q_now]) (rest := []) (c' := 0) (n' := 0) (wr := [(q_this, cO 3 [.ref q_text, .ref q_now, .ref q_trial, .ref q_choosing, .ref q_acts, .int v_nextAct, .int v_actCount, .ref q_slots, .ref q_isKept, .ref q_heardPerson, .ref q_heardIs, .int v_heardCount, .long v_seed])]) hZ (c_X1_copyFrom E q_trial q_trial_weights q_trial_marks q_trial_ageing q_now q_now_weights q_now_marks q_now_ageing v_trial_people v_trial_alive v_trial_reported v_trial_mornings v_trial_years v_trial_weights v_trial_marks v_trial_ageing v_now_people v_now_alive v_now_reported v_now_mornings v_now_years v_now_weights v_now_marks v_now_ageing _ h) rfl dX3_nearest_20 rfl rfl rfl rfl rfl (Nat.le_of_ble_eq_true rfl) (Nat.le_of_ble_eq_true rfl) (Nat.le_of_ble_eq_true rfl) rfl rfl (Nat.le_of_ble_eq_true rfl) (Nat.le_of_ble_eq_true rfl) [5, 6, 7, 8, 1, 2, 3, 4] [0] rfl rfl (by decide) (by decide) (by decide) (fun w20 hw => ?_)
    obtain ⟨a20_0, a20_1, a20_2, a20_3, a20_4, a20_5, a20_6, a20_7, rfl, h⟩ := hw
    refine x_ws (ws' := [(q_this, cO 3 [.ref q_text, .ref q_now, .ref q_trial, .ref q_choosing, .ref q_acts, .int v_nextAct, .int v_actCount, .ref q_slots, .ref q_isKept, .ref q_heardPerson, .ref q_heardIs, .int v_heardCount, .long v_seed]), (q_now, cO 1 [.int v_now_people, .ref q_now_weights, .ref q_now_marks, .ref q_now_ageing, .int v_now_alive, .int v_now_reported, .int v_now_mornings, .int v_now_years]), (q_now_weights, cA E 3 v_now_weights), (q_now_marks, cA E 18 v_now_marks), (q_now_ageing, cA E 6 v_now_ageing), (q_trial, cO 1 [.int a20_0, .ref q_trial_weights, .ref q_trial_marks, .ref q_trial_ageing, .int a20_1, .int a20_2, .int a20_3, .int a20_4]), (q_trial_weights, cA E 3 a20_5), (q_trial_marks, cA E 18 a20_6), (q_trial_ageing, cA E 6 a20_7)]) [0, 5, 6, 7, 8, 1, 2, 3, 4] rfl (by decide) ?_
    refine x_bipush (v := (-9)) (pc' := 25) hZ (by decide) dX3_nearest_23 rfl ?_
    refine x_istore_n (i := 3) (pc' := 26) (lv' := [(3, .int (-9)), (2, .int r2), (0, .ref q_this), (1, .int l1)]) hZ dX3_nearest_25 rfl rfl (by decide) rfl ?_
    refine x_bipush (v := 28) (pc' := 28) hZ (by decide) dX3_nearest_26 rfl ?_
    refine x_istore (i := 4) (pc' := 30) (lv' := [(4, .int 28), (3, .int (-9)), (2, .int r2), (0, .ref q_this), (1, .int l1)]) hZ dX3_nearest_28 rfl (by decide) rfl ?_
    refine x_iconst (v := 1) (pc' := 31) hZ (by decide) dX3_nearest_30 rfl ?_
    refine x_istore (i := 5) (pc' := 33) (lv' := [(5, .int 1), (4, .int 28), (3, .int (-9)), (2, .int r2), (0, .ref q_this), (1, .int l1)]) hZ dX3_nearest_31 rfl (by decide) rfl ?_
    refine x_lv [4, 5, 2, 1, 0] (lv' := [(0, .ref q_this), (1, .int l1), (3, .int (-9)), (4, .int 28), (5, .int 1)]) rfl ?_
    obtain ⟨k33, h⟩ := h
    refine t_X3_nearest_33 E Z q_this q_text q_now q_trial q_choosing q_acts q_slots q_isKept q_heardPerson q_heardIs q_now_weights q_now_marks q_now_ageing q_trial_weights q_trial_marks q_trial_ageing v_nextAct v_actCount v_heardCount v_seed v_now_people v_now_alive v_now_reported v_now_mornings v_now_years v_now_weights v_now_marks v_now_ageing a20_0 a20_1 a20_2 a20_3 a20_4 a20_6 a20_7 l1 hZ  _ (-9) 28 1 a20_5 h (fun l3_33 l4_33 l5_33 v_trial_weights_33 h => ?_)
    refine x_iload_n (pc' := 95) hZ dX3_nearest_94 rfl 0 rfl ?_
    exact hRet _ _ _ _ dX3_nearest_95 ⟨_, _, _, _, _, _, _, _, rfl, h⟩
  · replace h := h.2 c7
    refine x_iload_n (pc' := 11) hZ dX3_nearest_10 rfl 0 rfl ?_
    exact hRet _ _ _ _ dX3_nearest_11 ⟨_, _, _, _, _, _, _, _, rfl, h⟩
set_option maxHeartbeats 4000000 in
set_option maxRecDepth 100000 in
theorem t_X3_reign_26 (E : XE) (Z : ZC) (q_this : Nat) (q_text : Nat) (q_now : Nat) (q_trial : Nat) (q_choosing : Nat) (q_acts : Nat) (q_slots : Nat) (q_isKept : Nat) (q_heardPerson : Nat) (q_heardIs : Nat) (q_now_weights : Nat) (q_now_marks : Nat) (q_now_ageing : Nat) (q_trial_weights : Nat) (q_trial_marks : Nat) (q_trial_ageing : Nat) (v_nextAct : Int32) (v_actCount : Int32) (v_heardCount : Int32) (v_seed : Int64) (v_now_people : Int32) (v_now_alive : Int32) (v_now_reported : Int32) (v_now_mornings : Int32) (v_now_years : Int32) (v_now_weights : Nat → Int32) (v_now_marks : Nat → Int32) (v_now_ageing : Nat → Int32) (v_trial_people : Int32) (v_trial_alive : Int32) (v_trial_reported : Int32) (v_trial_ageing : Nat → Int32) (l1 : Int32) {post : Int32 → Int32 → Int32 → Int32 → Int32 → Int32 → (Nat → Int32) → (Nat → Int32) → (Nat → Int32) → Prop} {K : Int32 → Int32 → Int32 → (Nat → Int32) → (Nat → Int32) → Prop} (hZ : XOK E Z RX3 cX3_reign 3 { frames := 3, cells := 0, slots := 0, locals := 68 }) (hRet : RetI E Z cX3_reign 0 0 (fun r w => ∃ (u_trial_people : Int32) (u_trial_alive : Int32) (u_trial_reported : Int32) (u_trial_mornings : Int32) (u_trial_years : Int32) (u_trial_weights : Nat → Int32) (u_trial_marks : Nat → Int32) (u_trial_ageing : Nat → Int32), w = [(q_this, cO 3 [.ref q_text, .ref q_now, .ref q_trial, .ref q_choosing, .ref q_acts, .int v_nextAct, .int v_actCount, .ref q_slots, .ref q_isKept, .ref q_heardPerson, .ref q_heardIs, .int v_heardCount, .long v_seed]), (q_now, cO 1 [.int v_now_people, .ref q_now_weights, .ref q_now_marks, .ref q_now_ageing, .int v_now_alive, .int v_now_reported, .int v_now_mornings, .int v_now_years]), (q_now_weights, cA E 3 v_now_weights), (q_now_marks, cA E 18 v_now_marks), (q_now_ageing, cA E 6 v_now_ageing), (q_trial, cO 1 [.int u_trial_people, .ref q_trial_weights, .ref q_trial_marks, .ref q_trial_ageing, .int u_trial_alive, .int u_trial_reported, .int u_trial_mornings, .int u_trial_years]), (q_trial_weights, cA E 3 u_trial_weights), (q_trial_marks, cA E 18 u_trial_marks), (q_trial_ageing, cA E 6 u_trial_ageing)] ∧ post r u_trial_people u_trial_alive u_trial_reported u_trial_mornings u_trial_years u_trial_weights u_trial_marks u_trial_ageing)) : ∀ (k : Nat) (l2 : Int32) (v_trial_mornings : Int32) (v_trial_years : Int32) (v_trial_weights : (Nat → Int32)) (v_trial_marks : (Nat → Int32)), wl (fun rec v => b_X3_reign_26 l1 v_trial_people v_trial_alive v_trial_reported v_trial_ageing post K rec v.1 v.2.1 v.2.2.1 v.2.2.2.1 v.2.2.2.2) k (l2, v_trial_mornings, v_trial_years, v_trial_weights, v_trial_marks) → (∀ (l2 : Int32) (v_trial_mornings : Int32) (v_trial_years : Int32) (v_trial_weights : (Nat → Int32)) (v_trial_marks : (Nat → Int32)), K l2 v_trial_mornings v_trial_years v_trial_weights v_trial_marks → XW E Z 0 0 [(q_this, cO 3 [.ref q_text, .ref q_now, .ref q_trial, .ref q_choosing, .ref q_acts, .int v_nextAct, .int v_actCount, .ref q_slots, .ref q_isKept, .ref q_heardPerson, .ref q_heardIs, .int v_heardCount, .long v_seed]), (q_now, cO 1 [.int v_now_people, .ref q_now_weights, .ref q_now_marks, .ref q_now_ageing, .int v_now_alive, .int v_now_reported, .int v_now_mornings, .int v_now_years]), (q_now_weights, cA E 3 v_now_weights), (q_now_marks, cA E 18 v_now_marks), (q_now_ageing, cA E 6 v_now_ageing), (q_trial, cO 1 [.int v_trial_people, .ref q_trial_weights, .ref q_trial_marks, .ref q_trial_ageing, .int v_trial_alive, .int v_trial_reported, .int v_trial_mornings, .int v_trial_years]), (q_trial_weights, cA E 3 v_trial_weights), (q_trial_marks, cA E 18 v_trial_marks), (q_trial_ageing, cA E 6 v_trial_ageing)] [] [] 69) → XW E Z 0 0 [(q_this, cO 3 [.ref q_text, .ref q_now, .ref q_trial, .ref q_choosing, .ref q_acts, .int v_nextAct, .int v_actCount, .ref q_slots, .ref q_isKept, .ref q_heardPerson, .ref q_heardIs, .int v_heardCount, .long v_seed]), (q_now, cO 1 [.int v_now_people, .ref q_now_weights, .ref q_now_marks, .ref q_now_ageing, .int v_now_alive, .int v_now_reported, .int v_now_mornings, .int v_now_years]), (q_now_weights, cA E 3 v_now_weights), (q_now_marks, cA E 18 v_now_marks), (q_now_ageing, cA E 6 v_now_ageing), (q_trial, cO 1 [.int v_trial_people, .ref q_trial_weights, .ref q_trial_marks, .ref q_trial_ageing, .int v_trial_alive, .int v_trial_reported, .int v_trial_mornings, .int v_trial_years]), (q_trial_weights, cA E 3 v_trial_weights), (q_trial_marks, cA E 18 v_trial_marks), (q_trial_ageing, cA E 6 v_trial_ageing)] [(0, .ref q_this), (1, .int l1), (2, .int l2)] [] 26 := by
  intro k
  induction k with
  | zero =>
    intro l2 v_trial_mornings v_trial_years v_trial_weights v_trial_marks h
    exact h.elim
  | succ k ih =>
    intro l2 v_trial_mornings v_trial_years v_trial_weights v_trial_marks h hK
    replace h := wl_succ h
    try dsimp only at h
    unfold b_X3_reign_26 at h
    refine x_iload_n (pc' := 27) hZ dX3_reign_26 rfl 2 rfl ?_
    refine x_bipush (v := 30) (pc' := 29) hZ (by decide) dX3_reign_27 rfl ?_
    refine x_icmp_gt (tgt := 69) (pc' := 32) hZ dX3_reign_29 (by decide) rfl (fun c29 => ?_) (fun c29 => ?_)
    · replace h := h.1 c29
      refine x_lv [] (lv' := []) rfl ?_
      exact hK l2 v_trial_mornings v_trial_years v_trial_weights v_trial_marks h
    · replace h := h.2 c29
      refine x_aload_n (pc' := 33) hZ dX3_reign_32 rfl 0 rfl ?_
      refine g_RX3_23 (pc' := 36) hZ dX3_reign_33 rfl 0 rfl rfl ?_
      refine x_iconst (v := 0) (pc' := 37) hZ (by decide) dX3_reign_36 rfl ?_
      refine k_RX3_187 (pc' := 40) (q0 := 5) (as := [.int 0]) (rest := []) (c' := 0) (n' := 0) (wr := [(q_this, cO 3 [.ref q_text, .ref q_now, .ref q_trial, .ref q_choosing, .ref q_acts, .int v_nextAct, .int v_actCount, .ref q_slots, .ref q_isKept, .ref q_heardPerson, .ref q_heardIs, .int v_heardCount, .long v_seed]), (q_now, cO 1 [.int v_now_people, .ref q_now_weights, .ref q_now_marks, .ref q_now_ageing, .int v_now_alive, .int v_now_reported, .int v_now_mornings, .int v_now_years]), (q_now_weights, cA E 3 v_now_weights), (q_now_marks, cA E 18 v_now_marks), (q_now_ageing, cA E 6 v_now_ageing), (q_trial_ageing, cA E 6 v_trial_ageing)]) hZ (c_X1_isFairestAlone E q_trial q_trial_weights q_trial_marks q_trial_ageing v_trial_people v_trial_alive v_trial_reported v_trial_mornings v_trial_years v_trial_weights v_trial_marks 0 _ h) rfl dX3_reign_37 rfl rfl rfl rfl rfl (Nat.le_of_ble_eq_true rfl) (Nat.le_of_ble_eq_true rfl) (Nat.le_of_ble_eq_true rfl) rfl rfl (Nat.le_of_ble_eq_true rfl) (Nat.le_of_ble_eq_true rfl) [5, 6, 7] [0, 1, 2, 3, 4, 8] rfl rfl (by decide) (by decide) (by decide) (fun r37 w37 hw => ?_)
      obtain ⟨rfl, h⟩ := hw
      refine x_ws (ws' := [(q_this, cO 3 [.ref q_text, .ref q_now, .ref q_trial, .ref q_choosing, .ref q_acts, .int v_nextAct, .int v_actCount, .ref q_slots, .ref q_isKept, .ref q_heardPerson, .ref q_heardIs, .int v_heardCount, .long v_seed]), (q_now, cO 1 [.int v_now_people, .ref q_now_weights, .ref q_now_marks, .ref q_now_ageing, .int v_now_alive, .int v_now_reported, .int v_now_mornings, .int v_now_years]), (q_now_weights, cA E 3 v_now_weights), (q_now_marks, cA E 18 v_now_marks), (q_now_ageing, cA E 6 v_now_ageing), (q_trial, cO 1 [.int v_trial_people, .ref q_trial_weights, .ref q_trial_marks, .ref q_trial_ageing, .int v_trial_alive, .int v_trial_reported, .int v_trial_mornings, .int v_trial_years]), (q_trial_weights, cA E 3 v_trial_weights), (q_trial_marks, cA E 18 v_trial_marks), (q_trial_ageing, cA E 6 v_trial_ageing)]) [0, 1, 2, 3, 4, 6, 7, 8, 5] rfl (by decide) ?_
      refine x_if_ne (tgt := 45) (pc' := 43) hZ dX3_reign_40 (by decide) rfl (fun c40 => ?_) (fun c40 => ?_)
      · replace h := h.1 c40
        refine x_iload_n (pc' := 46) hZ dX3_reign_45 rfl 1 rfl ?_
        refine x_if_eq (tgt := 56) (pc' := 49) hZ dX3_reign_46 (by decide) rfl (fun c46 => ?_) (fun c46 => ?_)
        · replace h := h.1 c46
          refine x_aload_n (pc' := 57) hZ dX3_reign_56 rfl 0 rfl ?_
          refine g_RX3_23 (pc' := 60) hZ dX3_reign_57 rfl 0 rfl rfl ?_
          refine k_RX3_129 (pc' := 63) (q0 := 5) (as := []) (rest := []) (c' := 0) (n' := 0) (wr := [(q_this, cO 3 [.ref q_text, .ref q_now, .ref q_trial, .ref q_choosing, .ref q_acts, .int v_nextAct, .int v_actCount, .ref q_slots, .ref q_isKept, .ref q_heardPerson, .ref q_heardIs, .int v_heardCount, .long v_seed]), (q_now, cO 1 [.int v_now_people, .ref q_now_weights, .ref q_now_marks, .ref q_now_ageing, .int v_now_alive, .int v_now_reported, .int v_now_mornings, .int v_now_years]), (q_now_weights, cA E 3 v_now_weights), (q_now_marks, cA E 18 v_now_marks), (q_now_ageing, cA E 6 v_now_ageing), (q_trial_weights, cA E 3 v_trial_weights)]) hZ (c_X1_passYear E q_trial q_trial_weights q_trial_marks q_trial_ageing v_trial_people v_trial_alive v_trial_reported v_trial_mornings v_trial_years v_trial_marks v_trial_ageing _ h) rfl dX3_reign_60 rfl rfl rfl rfl rfl (Nat.le_of_ble_eq_true rfl) (Nat.le_of_ble_eq_true rfl) (Nat.le_of_ble_eq_true rfl) rfl rfl (Nat.le_of_ble_eq_true rfl) (Nat.le_of_ble_eq_true rfl) [5, 7, 8] [0, 1, 2, 3, 4, 6] rfl rfl (by decide) (by decide) (by decide) (fun w60 hw => ?_)
          obtain ⟨a60_0, a60_1, rfl, h⟩ := hw
          refine x_ws (ws' := [(q_this, cO 3 [.ref q_text, .ref q_now, .ref q_trial, .ref q_choosing, .ref q_acts, .int v_nextAct, .int v_actCount, .ref q_slots, .ref q_isKept, .ref q_heardPerson, .ref q_heardIs, .int v_heardCount, .long v_seed]), (q_now, cO 1 [.int v_now_people, .ref q_now_weights, .ref q_now_marks, .ref q_now_ageing, .int v_now_alive, .int v_now_reported, .int v_now_mornings, .int v_now_years]), (q_now_weights, cA E 3 v_now_weights), (q_now_marks, cA E 18 v_now_marks), (q_now_ageing, cA E 6 v_now_ageing), (q_trial, cO 1 [.int v_trial_people, .ref q_trial_weights, .ref q_trial_marks, .ref q_trial_ageing, .int v_trial_alive, .int v_trial_reported, .int v_trial_mornings, .int a60_0]), (q_trial_weights, cA E 3 v_trial_weights), (q_trial_marks, cA E 18 a60_1), (q_trial_ageing, cA E 6 v_trial_ageing)]) [0, 1, 2, 3, 4, 6, 5, 7, 8] rfl (by decide) ?_
          obtain ⟨x63, e63⟩ : ∃ y : Int32, y = l2 + 1 := ⟨_, rfl⟩
          replace h := h x63 e63
          refine x_iinc (i := 2) (v := x63) (pc' := 66) (lv' := [(2, .int x63), (0, .ref q_this), (1, .int l1)]) hZ dX3_reign_63 rfl 2 rfl (by rw [e63]; rfl) (by decide) rfl ?_
          refine x_goto (pc' := 26) hZ dX3_reign_66 (by decide) ?_
          refine x_lv [1, 2, 0] (lv' := [(0, .ref q_this), (1, .int l1), (2, .int x63)]) rfl ?_
          exact ih x63 v_trial_mornings a60_0 v_trial_weights a60_1 h hK
        · replace h := h.2 c46
          refine x_aload_n (pc' := 50) hZ dX3_reign_49 rfl 0 rfl ?_
          refine g_RX3_23 (pc' := 53) hZ dX3_reign_50 rfl 0 rfl rfl ?_
          refine k_RX3_126 (pc' := 56) (q0 := 5) (as := []) (rest := []) (c' := 0) (n' := 0) (wr := [(q_this, cO 3 [.ref q_text, .ref q_now, .ref q_trial, .ref q_choosing, .ref q_acts, .int v_nextAct, .int v_actCount, .ref q_slots, .ref q_isKept, .ref q_heardPerson, .ref q_heardIs, .int v_heardCount, .long v_seed]), (q_now, cO 1 [.int v_now_people, .ref q_now_weights, .ref q_now_marks, .ref q_now_ageing, .int v_now_alive, .int v_now_reported, .int v_now_mornings, .int v_now_years]), (q_now_weights, cA E 3 v_now_weights), (q_now_marks, cA E 18 v_now_marks), (q_now_ageing, cA E 6 v_now_ageing), (q_trial_ageing, cA E 6 v_trial_ageing)]) hZ (c_X1_passMorning E q_trial q_trial_weights q_trial_marks q_trial_ageing v_trial_people v_trial_alive v_trial_reported v_trial_mornings v_trial_years v_trial_weights v_trial_marks _ h) rfl dX3_reign_53 rfl rfl rfl rfl rfl (Nat.le_of_ble_eq_true rfl) (Nat.le_of_ble_eq_true rfl) (Nat.le_of_ble_eq_true rfl) rfl rfl (Nat.le_of_ble_eq_true rfl) (Nat.le_of_ble_eq_true rfl) [5, 6, 7] [0, 1, 2, 3, 4, 8] rfl rfl (by decide) (by decide) (by decide) (fun w53 hw => ?_)
          obtain ⟨a53_0, a53_1, rfl, h⟩ := hw
          refine x_ws (ws' := [(q_this, cO 3 [.ref q_text, .ref q_now, .ref q_trial, .ref q_choosing, .ref q_acts, .int v_nextAct, .int v_actCount, .ref q_slots, .ref q_isKept, .ref q_heardPerson, .ref q_heardIs, .int v_heardCount, .long v_seed]), (q_now, cO 1 [.int v_now_people, .ref q_now_weights, .ref q_now_marks, .ref q_now_ageing, .int v_now_alive, .int v_now_reported, .int v_now_mornings, .int v_now_years]), (q_now_weights, cA E 3 v_now_weights), (q_now_marks, cA E 18 v_now_marks), (q_now_ageing, cA E 6 v_now_ageing), (q_trial, cO 1 [.int v_trial_people, .ref q_trial_weights, .ref q_trial_marks, .ref q_trial_ageing, .int v_trial_alive, .int v_trial_reported, .int a53_0, .int v_trial_years]), (q_trial_weights, cA E 3 a53_1), (q_trial_marks, cA E 18 v_trial_marks), (q_trial_ageing, cA E 6 v_trial_ageing)]) [0, 1, 2, 3, 4, 6, 7, 8, 5] rfl (by decide) ?_
          refine x_aload_n (pc' := 57) hZ dX3_reign_56 rfl 0 rfl ?_
          refine g_RX3_23 (pc' := 60) hZ dX3_reign_57 rfl 0 rfl rfl ?_
          refine k_RX3_129 (pc' := 63) (q0 := 5) (as := []) (rest := []) (c' := 0) (n' := 0) (wr := [(q_this, cO 3 [.ref q_text, .ref q_now, .ref q_trial, .ref q_choosing, .ref q_acts, .int v_nextAct, .int v_actCount, .ref q_slots, .ref q_isKept, .ref q_heardPerson, .ref q_heardIs, .int v_heardCount, .long v_seed]), (q_now, cO 1 [.int v_now_people, .ref q_now_weights, .ref q_now_marks, .ref q_now_ageing, .int v_now_alive, .int v_now_reported, .int v_now_mornings, .int v_now_years]), (q_now_weights, cA E 3 v_now_weights), (q_now_marks, cA E 18 v_now_marks), (q_now_ageing, cA E 6 v_now_ageing), (q_trial_weights, cA E 3 a53_1)]) hZ (c_X1_passYear E q_trial q_trial_weights q_trial_marks q_trial_ageing v_trial_people v_trial_alive v_trial_reported a53_0 v_trial_years v_trial_marks v_trial_ageing _ h) rfl dX3_reign_60 rfl rfl rfl rfl rfl (Nat.le_of_ble_eq_true rfl) (Nat.le_of_ble_eq_true rfl) (Nat.le_of_ble_eq_true rfl) rfl rfl (Nat.le_of_ble_eq_true rfl) (Nat.le_of_ble_eq_true rfl) [5, 7, 8] [0, 1, 2, 3, 4, 6] rfl rfl (by decide) (by decide) (by decide) (fun w60 hw => ?_)
          obtain ⟨a60_0, a60_1, rfl, h⟩ := hw
          refine x_ws (ws' := [(q_this, cO 3 [.ref q_text, .ref q_now, .ref q_trial, .ref q_choosing, .ref q_acts, .int v_nextAct, .int v_actCount, .ref q_slots, .ref q_isKept, .ref q_heardPerson, .ref q_heardIs, .int v_heardCount, .long v_seed]), (q_now, cO 1 [.int v_now_people, .ref q_now_weights, .ref q_now_marks, .ref q_now_ageing, .int v_now_alive, .int v_now_reported, .int v_now_mornings, .int v_now_years]), (q_now_weights, cA E 3 v_now_weights), (q_now_marks, cA E 18 v_now_marks), (q_now_ageing, cA E 6 v_now_ageing), (q_trial, cO 1 [.int v_trial_people, .ref q_trial_weights, .ref q_trial_marks, .ref q_trial_ageing, .int v_trial_alive, .int v_trial_reported, .int a53_0, .int a60_0]), (q_trial_weights, cA E 3 a53_1), (q_trial_marks, cA E 18 a60_1), (q_trial_ageing, cA E 6 v_trial_ageing)]) [0, 1, 2, 3, 4, 6, 5, 7, 8] rfl (by decide) ?_
          obtain ⟨x63, e63⟩ : ∃ y : Int32, y = l2 + 1 := ⟨_, rfl⟩
          replace h := h x63 e63
          refine x_iinc (i := 2) (v := x63) (pc' := 66) (lv' := [(2, .int x63), (0, .ref q_this), (1, .int l1)]) hZ dX3_reign_63 rfl 2 rfl (by rw [e63]; rfl) (by decide) rfl ?_
          refine x_goto (pc' := 26) hZ dX3_reign_66 (by decide) ?_
          refine x_lv [1, 2, 0] (lv' := [(0, .ref q_this), (1, .int l1), (2, .int x63)]) rfl ?_
          exact ih x63 a53_0 a60_0 a53_1 a60_1 h hK
      · replace h := h.2 c40
        refine x_iload_n (pc' := 44) hZ dX3_reign_43 rfl 2 rfl ?_
        exact hRet _ _ _ _ dX3_reign_44 ⟨_, _, _, _, _, _, _, _, rfl, h⟩
set_option maxHeartbeats 4000000 in
set_option maxRecDepth 100000 in
theorem c_X3_reign (E : XE) (q_this : Nat) (q_text : Nat) (q_now : Nat) (q_trial : Nat) (q_choosing : Nat) (q_acts : Nat) (q_slots : Nat) (q_isKept : Nat) (q_heardPerson : Nat) (q_heardIs : Nat) (q_now_weights : Nat) (q_now_marks : Nat) (q_now_ageing : Nat) (q_trial_weights : Nat) (q_trial_marks : Nat) (q_trial_ageing : Nat) (v_nextAct : Int32) (v_actCount : Int32) (v_heardCount : Int32) (v_seed : Int64) (v_now_people : Int32) (v_now_alive : Int32) (v_now_reported : Int32) (v_now_mornings : Int32) (v_now_years : Int32) (v_now_weights : Nat → Int32) (v_now_marks : Nat → Int32) (v_now_ageing : Nat → Int32) (v_trial_people : Int32) (v_trial_alive : Int32) (v_trial_reported : Int32) (v_trial_mornings : Int32) (v_trial_years : Int32) (v_trial_weights : Nat → Int32) (v_trial_marks : Nat → Int32) (v_trial_ageing : Nat → Int32) (l1 : Int32) (post : Int32 → Int32 → Int32 → Int32 → Int32 → Int32 → (Nat → Int32) → (Nat → Int32) → (Nat → Int32) → Prop) (h : p_X3_reign v_now_people v_now_alive v_now_reported v_now_mornings v_now_years v_now_weights v_now_marks v_now_ageing v_trial_people v_trial_alive v_trial_reported v_trial_mornings v_trial_years v_trial_weights v_trial_marks v_trial_ageing l1 post) : ConI E yX3_reign cX3_reign 3 .int { frames := 3, cells := 0, slots := 0, locals := 68 } 0 0 [.ref q_this, .int l1] [(q_this, cO 3 [.ref q_text, .ref q_now, .ref q_trial, .ref q_choosing, .ref q_acts, .int v_nextAct, .int v_actCount, .ref q_slots, .ref q_isKept, .ref q_heardPerson, .ref q_heardIs, .int v_heardCount, .long v_seed]), (q_now, cO 1 [.int v_now_people, .ref q_now_weights, .ref q_now_marks, .ref q_now_ageing, .int v_now_alive, .int v_now_reported, .int v_now_mornings, .int v_now_years]), (q_now_weights, cA E 3 v_now_weights), (q_now_marks, cA E 18 v_now_marks), (q_now_ageing, cA E 6 v_now_ageing), (q_trial, cO 1 [.int v_trial_people, .ref q_trial_weights, .ref q_trial_marks, .ref q_trial_ageing, .int v_trial_alive, .int v_trial_reported, .int v_trial_mornings, .int v_trial_years]), (q_trial_weights, cA E 3 v_trial_weights), (q_trial_marks, cA E 18 v_trial_marks), (q_trial_ageing, cA E 6 v_trial_ageing)] (fun r w => ∃ (u_trial_people : Int32) (u_trial_alive : Int32) (u_trial_reported : Int32) (u_trial_mornings : Int32) (u_trial_years : Int32) (u_trial_weights : Nat → Int32) (u_trial_marks : Nat → Int32) (u_trial_ageing : Nat → Int32), w = [(q_this, cO 3 [.ref q_text, .ref q_now, .ref q_trial, .ref q_choosing, .ref q_acts, .int v_nextAct, .int v_actCount, .ref q_slots, .ref q_isKept, .ref q_heardPerson, .ref q_heardIs, .int v_heardCount, .long v_seed]), (q_now, cO 1 [.int v_now_people, .ref q_now_weights, .ref q_now_marks, .ref q_now_ageing, .int v_now_alive, .int v_now_reported, .int v_now_mornings, .int v_now_years]), (q_now_weights, cA E 3 v_now_weights), (q_now_marks, cA E 18 v_now_marks), (q_now_ageing, cA E 6 v_now_ageing), (q_trial, cO 1 [.int u_trial_people, .ref q_trial_weights, .ref q_trial_marks, .ref q_trial_ageing, .int u_trial_alive, .int u_trial_reported, .int u_trial_mornings, .int u_trial_years]), (q_trial_weights, cA E 3 u_trial_weights), (q_trial_marks, cA E 18 u_trial_marks), (q_trial_ageing, cA E 6 u_trial_ageing)] ∧ post r u_trial_people u_trial_alive u_trial_reported u_trial_mornings u_trial_years u_trial_weights u_trial_marks u_trial_ageing) := by
  refine ConI.of (by decide +kernel) (Nat.le_of_ble_eq_true rfl) (fun Z hZ hI hRet => ?_)
  replace hZ : XOK E Z RX3 cX3_reign 3 { frames := 3, cells := 0, slots := 0, locals := 68 } := hZ
  clear hI
  show XW E Z 0 0 [(q_this, cO 3 [.ref q_text, .ref q_now, .ref q_trial, .ref q_choosing, .ref q_acts, .int v_nextAct, .int v_actCount, .ref q_slots, .ref q_isKept, .ref q_heardPerson, .ref q_heardIs, .int v_heardCount, .long v_seed]), (q_now, cO 1 [.int v_now_people, .ref q_now_weights, .ref q_now_marks, .ref q_now_ageing, .int v_now_alive, .int v_now_reported, .int v_now_mornings, .int v_now_years]), (q_now_weights, cA E 3 v_now_weights), (q_now_marks, cA E 18 v_now_marks), (q_now_ageing, cA E 6 v_now_ageing), (q_trial, cO 1 [.int v_trial_people, .ref q_trial_weights, .ref q_trial_marks, .ref q_trial_ageing, .int v_trial_alive, .int v_trial_reported, .int v_trial_mornings, .int v_trial_years]), (q_trial_weights, cA E 3 v_trial_weights), (q_trial_marks, cA E 18 v_trial_marks), (q_trial_ageing, cA E 6 v_trial_ageing)] [(0, .ref q_this), (1, .int l1)] [] 0
  unfold p_X3_reign at h
  refine x_aload_n (pc' := 1) hZ dX3_reign_0 rfl 0 rfl ?_
  refine g_RX3_19 (pc' := 4) hZ dX3_reign_1 rfl 0 rfl rfl ?_
  refine g_RX3_82 (pc' := 7) hZ dX3_reign_4 rfl 1 rfl rfl ?_
  refine x_if_ne (tgt := 13) (pc' := 10) hZ dX3_reign_7 (by decide) rfl (fun c7 => ?_) (fun c7 => ?_)
  · replace h := h.1 c7
    refine x_aload_n (pc' := 14) hZ dX3_reign_13 rfl 0 rfl ?_
    refine g_RX3_23 (pc' := 17) hZ dX3_reign_14 rfl 0 rfl rfl ?_
    refine x_aload_n (pc' := 18) hZ dX3_reign_17 rfl 0 rfl ?_
    refine g_RX3_19 (pc' := 21) hZ dX3_reign_18 rfl 0 rfl rfl ?_
    refine k_RX3_139 (pc' := 24) (q0 := 5) (as := [.ref q_now]) (rest := []) (c' := 0) (n' := 0) (wr := [(q_this, cO 3 [.ref q_text, .ref q_now, .ref q_trial, .ref q_choosing, .ref q_acts, .int v_nextAct, .int v_actCount, .ref q_slots, .ref q_isKept, .ref q_heardPerson, .ref q_heardIs, .int v_heardCount, .long v_seed])]) hZ (c_X1_copyFrom E q_trial q_trial_weights q_trial_marks q_trial_ageing q_now q_now_weights q_now_marks q_now_ageing v_trial_people v_trial_alive v_trial_reported v_trial_mornings v_trial_years v_trial_weights v_trial_marks v_trial_ageing v_now_people v_now_alive v_now_reported v_now_mornings v_now_years v_now_weights v_now_marks v_now_ageing _ h) rfl dX3_reign_21 rfl rfl rfl rfl rfl (Nat.le_of_ble_eq_true rfl) (Nat.le_of_ble_eq_true rfl) (Nat.le_of_ble_eq_true rfl) rfl rfl (Nat.le_of_ble_eq_true rfl) (Nat.le_of_ble_eq_true rfl) [5, 6, 7, 8, 1, 2, 3, 4] [0] rfl rfl (by decide) (by decide) (by decide) (fun w21 hw => ?_)
    obtain ⟨a21_0, a21_1, a21_2, a21_3, a21_4, a21_5, a21_6, a21_7, rfl, h⟩ := hw
    refine x_ws (ws' := [(q_this, cO 3 [.ref q_text, .ref q_now, .ref q_trial, .ref q_choosing, .ref q_acts, .int v_nextAct, .int v_actCount, .ref q_slots, .ref q_isKept, .ref q_heardPerson, .ref q_heardIs, .int v_heardCount, .long v_seed]), (q_now, cO 1 [.int v_now_people, .ref q_now_weights, .ref q_now_marks, .ref q_now_ageing, .int v_now_alive, .int v_now_reported, .int v_now_mornings, .int v_now_years]), (q_now_weights, cA E 3 v_now_weights), (q_now_marks, cA E 18 v_now_marks), (q_now_ageing, cA E 6 v_now_ageing), (q_trial, cO 1 [.int a21_0, .ref q_trial_weights, .ref q_trial_marks, .ref q_trial_ageing, .int a21_1, .int a21_2, .int a21_3, .int a21_4]), (q_trial_weights, cA E 3 a21_5), (q_trial_marks, cA E 18 a21_6), (q_trial_ageing, cA E 6 a21_7)]) [0, 5, 6, 7, 8, 1, 2, 3, 4] rfl (by decide) ?_
    refine x_iconst (v := 0) (pc' := 25) hZ (by decide) dX3_reign_24 rfl ?_
    refine x_istore_n (i := 2) (pc' := 26) (lv' := [(2, .int 0), (0, .ref q_this), (1, .int l1)]) hZ dX3_reign_25 rfl rfl (by decide) rfl ?_
    refine x_lv [1, 2, 0] (lv' := [(0, .ref q_this), (1, .int l1), (2, .int 0)]) rfl ?_
    obtain ⟨k26, h⟩ := h
    refine t_X3_reign_26 E Z q_this q_text q_now q_trial q_choosing q_acts q_slots q_isKept q_heardPerson q_heardIs q_now_weights q_now_marks q_now_ageing q_trial_weights q_trial_marks q_trial_ageing v_nextAct v_actCount v_heardCount v_seed v_now_people v_now_alive v_now_reported v_now_mornings v_now_years v_now_weights v_now_marks v_now_ageing a21_0 a21_1 a21_2 a21_7 l1 hZ hRet _ 0 a21_3 a21_4 a21_5 a21_6 h (fun l2_26 v_trial_mornings_26 v_trial_years_26 v_trial_weights_26 v_trial_marks_26 h => ?_)
    refine x_bipush (v := (-9)) (pc' := 71) hZ (by decide) dX3_reign_69 rfl ?_
    exact hRet _ _ _ _ dX3_reign_71 ⟨_, _, _, _, _, _, _, _, rfl, h⟩
  · replace h := h.2 c7
    refine x_bipush (v := (-3)) (pc' := 12) hZ (by decide) dX3_reign_10 rfl ?_
    exact hRet _ _ _ _ dX3_reign_12 ⟨_, _, _, _, _, _, _, _, rfl, h⟩
set_option maxHeartbeats 4000000 in
set_option maxRecDepth 100000 in
theorem c_X3_differs (E : XE) (q_this : Nat) (q_text : Nat) (q_now : Nat) (q_trial : Nat) (q_choosing : Nat) (q_acts : Nat) (q_slots : Nat) (q_isKept : Nat) (q_heardPerson : Nat) (q_heardIs : Nat) (q_now_weights : Nat) (q_now_marks : Nat) (q_now_ageing : Nat) (q_trial_weights : Nat) (q_trial_marks : Nat) (q_trial_ageing : Nat) (v_nextAct : Int32) (v_actCount : Int32) (v_heardCount : Int32) (v_seed : Int64) (v_now_people : Int32) (v_now_alive : Int32) (v_now_reported : Int32) (v_now_mornings : Int32) (v_now_years : Int32) (v_now_weights : Nat → Int32) (v_now_marks : Nat → Int32) (v_now_ageing : Nat → Int32) (v_trial_people : Int32) (v_trial_alive : Int32) (v_trial_reported : Int32) (v_trial_mornings : Int32) (v_trial_years : Int32) (v_trial_weights : Nat → Int32) (v_trial_marks : Nat → Int32) (v_trial_ageing : Nat → Int32) (l1 : Int32) (post : Int32 → Int32 → Int32 → Int32 → Int32 → Int32 → (Nat → Int32) → (Nat → Int32) → (Nat → Int32) → Prop) (h : p_X3_differs v_now_people v_now_alive v_now_reported v_now_mornings v_now_years v_now_weights v_now_marks v_now_ageing v_trial_people v_trial_alive v_trial_reported v_trial_mornings v_trial_years v_trial_weights v_trial_marks v_trial_ageing l1 post) : ConI E yX3_differs cX3_differs 2 .int { frames := 2, cells := 0, slots := 0, locals := 47 } 0 0 [.ref q_this, .int l1] [(q_this, cO 3 [.ref q_text, .ref q_now, .ref q_trial, .ref q_choosing, .ref q_acts, .int v_nextAct, .int v_actCount, .ref q_slots, .ref q_isKept, .ref q_heardPerson, .ref q_heardIs, .int v_heardCount, .long v_seed]), (q_now, cO 1 [.int v_now_people, .ref q_now_weights, .ref q_now_marks, .ref q_now_ageing, .int v_now_alive, .int v_now_reported, .int v_now_mornings, .int v_now_years]), (q_now_weights, cA E 3 v_now_weights), (q_now_marks, cA E 18 v_now_marks), (q_now_ageing, cA E 6 v_now_ageing), (q_trial, cO 1 [.int v_trial_people, .ref q_trial_weights, .ref q_trial_marks, .ref q_trial_ageing, .int v_trial_alive, .int v_trial_reported, .int v_trial_mornings, .int v_trial_years]), (q_trial_weights, cA E 3 v_trial_weights), (q_trial_marks, cA E 18 v_trial_marks), (q_trial_ageing, cA E 6 v_trial_ageing)] (fun r w => ∃ (u_trial_people : Int32) (u_trial_alive : Int32) (u_trial_reported : Int32) (u_trial_mornings : Int32) (u_trial_years : Int32) (u_trial_weights : Nat → Int32) (u_trial_marks : Nat → Int32) (u_trial_ageing : Nat → Int32), w = [(q_this, cO 3 [.ref q_text, .ref q_now, .ref q_trial, .ref q_choosing, .ref q_acts, .int v_nextAct, .int v_actCount, .ref q_slots, .ref q_isKept, .ref q_heardPerson, .ref q_heardIs, .int v_heardCount, .long v_seed]), (q_now, cO 1 [.int v_now_people, .ref q_now_weights, .ref q_now_marks, .ref q_now_ageing, .int v_now_alive, .int v_now_reported, .int v_now_mornings, .int v_now_years]), (q_now_weights, cA E 3 v_now_weights), (q_now_marks, cA E 18 v_now_marks), (q_now_ageing, cA E 6 v_now_ageing), (q_trial, cO 1 [.int u_trial_people, .ref q_trial_weights, .ref q_trial_marks, .ref q_trial_ageing, .int u_trial_alive, .int u_trial_reported, .int u_trial_mornings, .int u_trial_years]), (q_trial_weights, cA E 3 u_trial_weights), (q_trial_marks, cA E 18 u_trial_marks), (q_trial_ageing, cA E 6 u_trial_ageing)] ∧ post r u_trial_people u_trial_alive u_trial_reported u_trial_mornings u_trial_years u_trial_weights u_trial_marks u_trial_ageing) := by
  refine ConI.of (by decide +kernel) (Nat.le_of_ble_eq_true rfl) (fun Z hZ hI hRet => ?_)
  replace hZ : XOK E Z RX3 cX3_differs 2 { frames := 2, cells := 0, slots := 0, locals := 47 } := hZ
  clear hI
  show XW E Z 0 0 [(q_this, cO 3 [.ref q_text, .ref q_now, .ref q_trial, .ref q_choosing, .ref q_acts, .int v_nextAct, .int v_actCount, .ref q_slots, .ref q_isKept, .ref q_heardPerson, .ref q_heardIs, .int v_heardCount, .long v_seed]), (q_now, cO 1 [.int v_now_people, .ref q_now_weights, .ref q_now_marks, .ref q_now_ageing, .int v_now_alive, .int v_now_reported, .int v_now_mornings, .int v_now_years]), (q_now_weights, cA E 3 v_now_weights), (q_now_marks, cA E 18 v_now_marks), (q_now_ageing, cA E 6 v_now_ageing), (q_trial, cO 1 [.int v_trial_people, .ref q_trial_weights, .ref q_trial_marks, .ref q_trial_ageing, .int v_trial_alive, .int v_trial_reported, .int v_trial_mornings, .int v_trial_years]), (q_trial_weights, cA E 3 v_trial_weights), (q_trial_marks, cA E 18 v_trial_marks), (q_trial_ageing, cA E 6 v_trial_ageing)] [(0, .ref q_this), (1, .int l1)] [] 0
  unfold p_X3_differs at h
  refine x_iload_n (pc' := 1) hZ dX3_differs_0 rfl 1 rfl ?_
  refine x_iconst (v := 1) (pc' := 2) hZ (by decide) dX3_differs_1 rfl ?_
  refine x_icmp_lt (tgt := 12) (pc' := 5) hZ dX3_differs_2 (by decide) rfl (fun c2 => ?_) (fun c2 => ?_)
  · replace h := h.1 c2
    refine x_bipush (v := (-2)) (pc' := 14) hZ (by decide) dX3_differs_12 rfl ?_
    exact hRet _ _ _ _ dX3_differs_14 ⟨_, _, _, _, _, _, _, _, rfl, h⟩
  · replace h := h.2 c2
    refine x_iload_n (pc' := 6) hZ dX3_differs_5 rfl 1 rfl ?_
    refine x_sipush (v := 999) (pc' := 9) hZ (by decide) dX3_differs_6 rfl ?_
    refine x_icmp_le (tgt := 15) (pc' := 12) hZ dX3_differs_9 (by decide) rfl (fun c9 => ?_) (fun c9 => ?_)
    · replace h := h.1 c9
      refine x_aload_n (pc' := 16) hZ dX3_differs_15 rfl 0 rfl ?_
      refine g_RX3_23 (pc' := 19) hZ dX3_differs_16 rfl 0 rfl rfl ?_
      refine x_aload_n (pc' := 20) hZ dX3_differs_19 rfl 0 rfl ?_
      refine g_RX3_19 (pc' := 23) hZ dX3_differs_20 rfl 0 rfl rfl ?_
      refine k_RX3_139 (pc' := 26) (q0 := 5) (as := [.ref q_now]) (rest := []) (c' := 0) (n' := 0) (wr := [(q_this, cO 3 [.ref q_text, .ref q_now, .ref q_trial, .ref q_choosing, .ref q_acts, .int v_nextAct, .int v_actCount, .ref q_slots, .ref q_isKept, .ref q_heardPerson, .ref q_heardIs, .int v_heardCount, .long v_seed])]) hZ (c_X1_copyFrom E q_trial q_trial_weights q_trial_marks q_trial_ageing q_now q_now_weights q_now_marks q_now_ageing v_trial_people v_trial_alive v_trial_reported v_trial_mornings v_trial_years v_trial_weights v_trial_marks v_trial_ageing v_now_people v_now_alive v_now_reported v_now_mornings v_now_years v_now_weights v_now_marks v_now_ageing _ h) rfl dX3_differs_23 rfl rfl rfl rfl rfl (Nat.le_of_ble_eq_true rfl) (Nat.le_of_ble_eq_true rfl) (Nat.le_of_ble_eq_true rfl) rfl rfl (Nat.le_of_ble_eq_true rfl) (Nat.le_of_ble_eq_true rfl) [5, 6, 7, 8, 1, 2, 3, 4] [0] rfl rfl (by decide) (by decide) (by decide) (fun w23 hw => ?_)
      obtain ⟨a23_0, a23_1, a23_2, a23_3, a23_4, a23_5, a23_6, a23_7, rfl, h⟩ := hw
      refine x_ws (ws' := [(q_this, cO 3 [.ref q_text, .ref q_now, .ref q_trial, .ref q_choosing, .ref q_acts, .int v_nextAct, .int v_actCount, .ref q_slots, .ref q_isKept, .ref q_heardPerson, .ref q_heardIs, .int v_heardCount, .long v_seed]), (q_now, cO 1 [.int v_now_people, .ref q_now_weights, .ref q_now_marks, .ref q_now_ageing, .int v_now_alive, .int v_now_reported, .int v_now_mornings, .int v_now_years]), (q_now_weights, cA E 3 v_now_weights), (q_now_marks, cA E 18 v_now_marks), (q_now_ageing, cA E 6 v_now_ageing), (q_trial, cO 1 [.int a23_0, .ref q_trial_weights, .ref q_trial_marks, .ref q_trial_ageing, .int a23_1, .int a23_2, .int a23_3, .int a23_4]), (q_trial_weights, cA E 3 a23_5), (q_trial_marks, cA E 18 a23_6), (q_trial_ageing, cA E 6 a23_7)]) [0, 5, 6, 7, 8, 1, 2, 3, 4] rfl (by decide) ?_
      refine x_aload_n (pc' := 27) hZ dX3_differs_26 rfl 0 rfl ?_
      refine g_RX3_23 (pc' := 30) hZ dX3_differs_27 rfl 0 rfl rfl ?_
      refine x_iload_n (pc' := 31) hZ dX3_differs_30 rfl 1 rfl ?_
      refine k_RX3_184 (pc' := 34) (q0 := 5) (as := [.int l1]) (rest := []) (c' := 0) (n' := 0) (wr := [(q_this, cO 3 [.ref q_text, .ref q_now, .ref q_trial, .ref q_choosing, .ref q_acts, .int v_nextAct, .int v_actCount, .ref q_slots, .ref q_isKept, .ref q_heardPerson, .ref q_heardIs, .int v_heardCount, .long v_seed]), (q_now, cO 1 [.int v_now_people, .ref q_now_weights, .ref q_now_marks, .ref q_now_ageing, .int v_now_alive, .int v_now_reported, .int v_now_mornings, .int v_now_years]), (q_now_weights, cA E 3 v_now_weights), (q_now_marks, cA E 18 v_now_marks), (q_now_ageing, cA E 6 v_now_ageing), (q_trial_marks, cA E 18 a23_6), (q_trial_ageing, cA E 6 a23_7)]) hZ (c_X1_weighBy E q_trial q_trial_weights q_trial_marks q_trial_ageing a23_0 a23_1 a23_2 a23_3 a23_4 a23_5 l1 _ h) rfl dX3_differs_31 rfl rfl rfl rfl rfl (Nat.le_of_ble_eq_true rfl) (Nat.le_of_ble_eq_true rfl) (Nat.le_of_ble_eq_true rfl) rfl rfl (Nat.le_of_ble_eq_true rfl) (Nat.le_of_ble_eq_true rfl) [5, 6] [0, 1, 2, 3, 4, 7, 8] rfl rfl (by decide) (by decide) (by decide) (fun w31 hw => ?_)
      obtain ⟨a31_0, rfl, h⟩ := hw
      refine x_ws (ws' := [(q_this, cO 3 [.ref q_text, .ref q_now, .ref q_trial, .ref q_choosing, .ref q_acts, .int v_nextAct, .int v_actCount, .ref q_slots, .ref q_isKept, .ref q_heardPerson, .ref q_heardIs, .int v_heardCount, .long v_seed]), (q_now, cO 1 [.int v_now_people, .ref q_now_weights, .ref q_now_marks, .ref q_now_ageing, .int v_now_alive, .int v_now_reported, .int v_now_mornings, .int v_now_years]), (q_now_weights, cA E 3 v_now_weights), (q_now_marks, cA E 18 v_now_marks), (q_now_ageing, cA E 6 v_now_ageing), (q_trial, cO 1 [.int a23_0, .ref q_trial_weights, .ref q_trial_marks, .ref q_trial_ageing, .int a23_1, .int a23_2, .int a23_3, .int a23_4]), (q_trial_weights, cA E 3 a31_0), (q_trial_marks, cA E 18 a23_6), (q_trial_ageing, cA E 6 a23_7)]) [0, 1, 2, 3, 4, 7, 8, 5, 6] rfl (by decide) ?_
      refine x_aload_n (pc' := 35) hZ dX3_differs_34 rfl 0 rfl ?_
      refine g_RX3_19 (pc' := 38) hZ dX3_differs_35 rfl 0 rfl rfl ?_
      refine x_aload_n (pc' := 39) hZ dX3_differs_38 rfl 0 rfl ?_
      refine g_RX3_19 (pc' := 42) hZ dX3_differs_39 rfl 0 rfl rfl ?_
      refine g_RX3_85 (pc' := 45) hZ dX3_differs_42 rfl 1 rfl rfl ?_
      refine k_RX3_91 (pc' := 48) (q0 := 1) (as := [.int v_now_alive]) (rest := []) (c' := 0) (n' := 0) (wr := [(q_this, cO 3 [.ref q_text, .ref q_now, .ref q_trial, .ref q_choosing, .ref q_acts, .int v_nextAct, .int v_actCount, .ref q_slots, .ref q_isKept, .ref q_heardPerson, .ref q_heardIs, .int v_heardCount, .long v_seed]), (q_now_ageing, cA E 6 v_now_ageing), (q_trial, cO 1 [.int a23_0, .ref q_trial_weights, .ref q_trial_marks, .ref q_trial_ageing, .int a23_1, .int a23_2, .int a23_3, .int a23_4]), (q_trial_weights, cA E 3 a31_0), (q_trial_marks, cA E 18 a23_6), (q_trial_ageing, cA E 6 a23_7)]) hZ (c_X1_fairestOf E q_now q_now_weights q_now_marks q_now_ageing v_now_people v_now_alive v_now_reported v_now_mornings v_now_years v_now_weights v_now_marks v_now_alive _ h) rfl dX3_differs_45 rfl rfl rfl rfl rfl (Nat.le_of_ble_eq_true rfl) (Nat.le_of_ble_eq_true rfl) (Nat.le_of_ble_eq_true rfl) rfl rfl (Nat.le_of_ble_eq_true rfl) (Nat.le_of_ble_eq_true rfl) [1, 2, 3] [0, 4, 5, 6, 7, 8] rfl rfl (by decide) (by decide) (by decide) (fun r45 w45 hw => ?_)
      obtain ⟨rfl, h⟩ := hw
      refine x_ws (ws' := [(q_this, cO 3 [.ref q_text, .ref q_now, .ref q_trial, .ref q_choosing, .ref q_acts, .int v_nextAct, .int v_actCount, .ref q_slots, .ref q_isKept, .ref q_heardPerson, .ref q_heardIs, .int v_heardCount, .long v_seed]), (q_now, cO 1 [.int v_now_people, .ref q_now_weights, .ref q_now_marks, .ref q_now_ageing, .int v_now_alive, .int v_now_reported, .int v_now_mornings, .int v_now_years]), (q_now_weights, cA E 3 v_now_weights), (q_now_marks, cA E 18 v_now_marks), (q_now_ageing, cA E 6 v_now_ageing), (q_trial, cO 1 [.int a23_0, .ref q_trial_weights, .ref q_trial_marks, .ref q_trial_ageing, .int a23_1, .int a23_2, .int a23_3, .int a23_4]), (q_trial_weights, cA E 3 a31_0), (q_trial_marks, cA E 18 a23_6), (q_trial_ageing, cA E 6 a23_7)]) [0, 6, 7, 8, 1, 2, 3, 4, 5] rfl (by decide) ?_
      refine x_aload_n (pc' := 49) hZ dX3_differs_48 rfl 0 rfl ?_
      refine g_RX3_23 (pc' := 52) hZ dX3_differs_49 rfl 0 rfl rfl ?_
      refine x_aload_n (pc' := 53) hZ dX3_differs_52 rfl 0 rfl ?_
      refine g_RX3_23 (pc' := 56) hZ dX3_differs_53 rfl 0 rfl rfl ?_
      refine g_RX3_85 (pc' := 59) hZ dX3_differs_56 rfl 5 rfl rfl ?_
      refine k_RX3_91 (pc' := 62) (q0 := 5) (as := [.int a23_1]) (rest := [.int r45]) (c' := 0) (n' := 0) (wr := [(q_this, cO 3 [.ref q_text, .ref q_now, .ref q_trial, .ref q_choosing, .ref q_acts, .int v_nextAct, .int v_actCount, .ref q_slots, .ref q_isKept, .ref q_heardPerson, .ref q_heardIs, .int v_heardCount, .long v_seed]), (q_now, cO 1 [.int v_now_people, .ref q_now_weights, .ref q_now_marks, .ref q_now_ageing, .int v_now_alive, .int v_now_reported, .int v_now_mornings, .int v_now_years]), (q_now_weights, cA E 3 v_now_weights), (q_now_marks, cA E 18 v_now_marks), (q_now_ageing, cA E 6 v_now_ageing), (q_trial_ageing, cA E 6 a23_7)]) hZ (c_X1_fairestOf E q_trial q_trial_weights q_trial_marks q_trial_ageing a23_0 a23_1 a23_2 a23_3 a23_4 a31_0 a23_6 a23_1 _ h) rfl dX3_differs_59 rfl rfl rfl rfl rfl (Nat.le_of_ble_eq_true rfl) (Nat.le_of_ble_eq_true rfl) (Nat.le_of_ble_eq_true rfl) rfl rfl (Nat.le_of_ble_eq_true rfl) (Nat.le_of_ble_eq_true rfl) [5, 6, 7] [0, 1, 2, 3, 4, 8] rfl rfl (by decide) (by decide) (by decide) (fun r59 w59 hw => ?_)
      obtain ⟨rfl, h⟩ := hw
      refine x_ws (ws' := [(q_this, cO 3 [.ref q_text, .ref q_now, .ref q_trial, .ref q_choosing, .ref q_acts, .int v_nextAct, .int v_actCount, .ref q_slots, .ref q_isKept, .ref q_heardPerson, .ref q_heardIs, .int v_heardCount, .long v_seed]), (q_now, cO 1 [.int v_now_people, .ref q_now_weights, .ref q_now_marks, .ref q_now_ageing, .int v_now_alive, .int v_now_reported, .int v_now_mornings, .int v_now_years]), (q_now_weights, cA E 3 v_now_weights), (q_now_marks, cA E 18 v_now_marks), (q_now_ageing, cA E 6 v_now_ageing), (q_trial, cO 1 [.int a23_0, .ref q_trial_weights, .ref q_trial_marks, .ref q_trial_ageing, .int a23_1, .int a23_2, .int a23_3, .int a23_4]), (q_trial_weights, cA E 3 a31_0), (q_trial_marks, cA E 18 a23_6), (q_trial_ageing, cA E 6 a23_7)]) [0, 1, 2, 3, 4, 6, 7, 8, 5] rfl (by decide) ?_
      refine x_ixor (pc' := 63) hZ dX3_differs_62 rfl ?_
      exact hRet _ _ _ _ dX3_differs_63 ⟨_, _, _, _, _, _, _, _, rfl, h⟩
    · replace h := h.2 c9
      refine x_bipush (v := (-2)) (pc' := 14) hZ (by decide) dX3_differs_12 rfl ?_
      exact hRet _ _ _ _ dX3_differs_14 ⟨_, _, _, _, _, _, _, _, rfl, h⟩
set_option maxHeartbeats 4000000 in
set_option maxRecDepth 100000 in
theorem t_X3_commonDivisor_2 (E : XE) (Z : ZC)  {K : Int32 → Int32 → Int32 → Prop} (hZ : XOK E Z RX3 cX3_commonDivisor 4 { frames := 0, cells := 0, slots := 0, locals := 0 }) : ∀ (k : Nat) (l0 : Int32) (l1 : Int32) (l2 : Int32), wl (fun rec v => b_X3_commonDivisor_2  K rec v.1 v.2.1 v.2.2) k (l0, l1, l2) → (∀ (l0 : Int32) (l1 : Int32) (l2 : Int32), K l0 l1 l2 → XW E Z 0 0 [] [(0, .int l0)] [] 27) → XW E Z 0 0 [] [(0, .int l0), (1, .int l1), (2, .int l2)] [] 2 := by
  intro k
  induction k with
  | zero =>
    intro l0 l1 l2 h
    exact h.elim
  | succ k ih =>
    intro l0 l1 l2 h hK
    replace h := wl_succ h
    try dsimp only at h
    unfold b_X3_commonDivisor_2 at h
    refine x_iload_n (pc' := 3) hZ dX3_commonDivisor_2 rfl 1 rfl ?_
    refine x_if_eq (tgt := 27) (pc' := 6) hZ dX3_commonDivisor_3 (by decide) rfl (fun c3 => ?_) (fun c3 => ?_)
    · replace h := h.1 c3
      refine x_lv [0] (lv' := [(0, .int l0)]) rfl ?_
      exact hK l0 l1 l2 h
    · replace h := h.2 c3
      refine x_iload_n (pc' := 7) hZ dX3_commonDivisor_6 rfl 2 rfl ?_
      refine x_sipush (v := 1000) (pc' := 10) hZ (by decide) dX3_commonDivisor_7 rfl ?_
      refine x_icmp_ge (tgt := 27) (pc' := 13) hZ dX3_commonDivisor_10 (by decide) rfl (fun c10 => ?_) (fun c10 => ?_)
      · replace h := h.1 c10
        refine x_lv [0] (lv' := [(0, .int l0)]) rfl ?_
        exact hK l0 l1 l2 h
      · replace h := h.2 c10
        refine x_iload_n (pc' := 14) hZ dX3_commonDivisor_13 rfl 0 rfl ?_
        refine x_iload_n (pc' := 15) hZ dX3_commonDivisor_14 rfl 1 rfl ?_
        obtain ⟨h15, h⟩ := h
        refine x_irem (pc' := 16) hZ h15 dX3_commonDivisor_15 rfl ?_
        refine x_topi (fun x16 e16 => ?_)
        replace h := h x16 e16
        refine x_istore_n (i := 3) (pc' := 17) (lv' := [(3, .int x16), (0, .int l0), (1, .int l1), (2, .int l2)]) hZ dX3_commonDivisor_16 rfl rfl (by decide) rfl ?_
        refine x_iload_n (pc' := 18) hZ dX3_commonDivisor_17 rfl 2 rfl ?_
        refine x_istore_n (i := 0) (pc' := 19) (lv' := [(0, .int l1), (3, .int x16), (1, .int l1), (2, .int l2)]) hZ dX3_commonDivisor_18 rfl rfl (by decide) rfl ?_
        refine x_iload_n (pc' := 20) hZ dX3_commonDivisor_19 rfl 1 rfl ?_
        refine x_istore_n (i := 1) (pc' := 21) (lv' := [(1, .int x16), (0, .int l1), (3, .int x16), (2, .int l2)]) hZ dX3_commonDivisor_20 rfl rfl (by decide) rfl ?_
        obtain ⟨x21, e21⟩ : ∃ y : Int32, y = l2 + 1 := ⟨_, rfl⟩
        replace h := h x21 e21
        refine x_iinc (i := 2) (v := x21) (pc' := 24) (lv' := [(2, .int x21), (1, .int x16), (0, .int l1), (3, .int x16)]) hZ dX3_commonDivisor_21 rfl 3 rfl (by rw [e21]; rfl) (by decide) rfl ?_
        refine x_goto (pc' := 2) hZ dX3_commonDivisor_24 (by decide) ?_
        refine x_lv [2, 1, 0] (lv' := [(0, .int l1), (1, .int x16), (2, .int x21)]) rfl ?_
        exact ih l1 x16 x21 h hK
set_option maxHeartbeats 4000000 in
set_option maxRecDepth 100000 in
theorem c_X3_commonDivisor (E : XE) (l0 : Int32) (l1 : Int32) (post : Int32 → Prop) (h : p_X3_commonDivisor l0 l1 post) : ConI E yX3_commonDivisor cX3_commonDivisor 4 .int { frames := 0, cells := 0, slots := 0, locals := 0 } 0 0 [.int l0, .int l1] [] (fun r w => w = [] ∧ post r ) := by
  refine ConI.of (by decide +kernel) (Nat.le_of_ble_eq_true rfl) (fun Z hZ hI hRet => ?_)
  replace hZ : XOK E Z RX3 cX3_commonDivisor 4 { frames := 0, cells := 0, slots := 0, locals := 0 } := hZ
  clear hI
  show XW E Z 0 0 [] [(0, .int l0), (1, .int l1)] [] 0
  unfold p_X3_commonDivisor at h
  refine x_iconst (v := 0) (pc' := 1) hZ (by decide) dX3_commonDivisor_0 rfl ?_
  refine x_istore_n (i := 2) (pc' := 2) (lv' := [(2, .int 0), (0, .int l0), (1, .int l1)]) hZ dX3_commonDivisor_1 rfl rfl (by decide) rfl ?_
  refine x_lv [1, 2, 0] (lv' := [(0, .int l0), (1, .int l1), (2, .int 0)]) rfl ?_
  obtain ⟨k2, h⟩ := h
  refine t_X3_commonDivisor_2 E Z  hZ  _ l0 l1 0 h (fun l0_2 l1_2 l2_2 h => ?_)
  refine x_iload_n (pc' := 28) hZ dX3_commonDivisor_27 rfl 0 rfl ?_
  exact hRet _ _ _ _ dX3_commonDivisor_28 ⟨rfl, h⟩
set_option maxHeartbeats 4000000 in
set_option maxRecDepth 100000 in
theorem c_X3_partOfFraction (E : XE) (l0 : Int32) (l1 : Int32) (l2 : Int32) (post : Int32 → Prop) (h : p_X3_partOfFraction l0 l1 l2 post) : ConI E yX3_partOfFraction cX3_partOfFraction 4 .int { frames := 1, cells := 0, slots := 0, locals := 23 } 0 0 [.int l0, .int l1, .int l2] [] (fun r w => w = [] ∧ post r ) := by
  refine ConI.of (by decide +kernel) (Nat.le_of_ble_eq_true rfl) (fun Z hZ hI hRet => ?_)
  replace hZ : XOK E Z RX3 cX3_partOfFraction 4 { frames := 1, cells := 0, slots := 0, locals := 23 } := hZ
  clear hI
  show XW E Z 0 0 [] [(0, .int l0), (1, .int l1), (2, .int l2)] [] 0
  unfold p_X3_partOfFraction at h
  refine x_iload_n (pc' := 1) hZ dX3_partOfFraction_0 rfl 0 rfl ?_
  refine x_iload_n (pc' := 2) hZ dX3_partOfFraction_1 rfl 1 rfl ?_
  refine k_RX3_220 (pc' := 5) (as := [.int l0, .int l1]) (rest := []) (c' := 0) (n' := 0) (wr := []) hZ (c_X3_commonDivisor E l0 l1 _ h) dX3_partOfFraction_2 rfl rfl rfl rfl rfl (Nat.le_of_ble_eq_true rfl) (Nat.le_of_ble_eq_true rfl) (Nat.le_of_ble_eq_true rfl) rfl rfl (Nat.le_of_ble_eq_true rfl) (Nat.le_of_ble_eq_true rfl) [] [] rfl rfl (by decide) (by decide) (by decide) (fun r2 w2 hw => ?_)
  obtain ⟨rfl, h⟩ := hw
  refine x_ws (ws' := []) [] rfl (by decide) ?_
  refine x_istore_n (i := 3) (pc' := 6) (lv' := [(3, .int r2), (0, .int l0), (1, .int l1), (2, .int l2)]) hZ dX3_partOfFraction_5 rfl rfl (by decide) rfl ?_
  refine x_iload_n (pc' := 7) hZ dX3_partOfFraction_6 rfl 0 rfl ?_
  refine x_if_ne (tgt := 12) (pc' := 10) hZ dX3_partOfFraction_7 (by decide) rfl (fun c7 => ?_) (fun c7 => ?_)
  · replace h := h.1 c7
    refine x_iload_n (pc' := 13) hZ dX3_partOfFraction_12 rfl 3 rfl ?_
    refine x_if_eq (tgt := 22) (pc' := 16) hZ dX3_partOfFraction_13 (by decide) rfl (fun c13 => ?_) (fun c13 => ?_)
    · replace h := h.1 c13
      refine x_iload_n (pc' := 23) hZ dX3_partOfFraction_22 rfl 2 rfl ?_
      refine x_iload_n (pc' := 24) hZ dX3_partOfFraction_23 rfl 0 rfl ?_
      obtain ⟨h24, h⟩ := h
      refine x_idiv (pc' := 25) hZ h24 dX3_partOfFraction_24 rfl ?_
      exact hRet _ _ _ _ dX3_partOfFraction_25 ⟨rfl, h⟩
    · replace h := h.2 c13
      refine x_iload_n (pc' := 17) hZ dX3_partOfFraction_16 rfl 1 rfl ?_
      refine x_iload_n (pc' := 18) hZ dX3_partOfFraction_17 rfl 0 rfl ?_
      obtain ⟨h18, h⟩ := h
      refine x_idiv (pc' := 19) hZ h18 dX3_partOfFraction_18 rfl ?_
      refine x_goto (pc' := 25) hZ dX3_partOfFraction_19 (by decide) ?_
      exact hRet _ _ _ _ dX3_partOfFraction_25 ⟨rfl, h⟩
  · replace h := h.2 c7
    refine x_iconst (v := 0) (pc' := 11) hZ (by decide) dX3_partOfFraction_10 rfl ?_
    exact hRet _ _ _ _ dX3_partOfFraction_11 ⟨rfl, h⟩
set_option maxHeartbeats 4000000 in
set_option maxRecDepth 100000 in
theorem t_X3_rate_49 (E : XE) (Z : ZC) (q_this : Nat) (q_text : Nat) (q_now : Nat) (q_trial : Nat) (q_choosing : Nat) (q_acts : Nat) (q_slots : Nat) (q_isKept : Nat) (q_heardPerson : Nat) (q_heardIs : Nat) (q_now_weights : Nat) (q_now_marks : Nat) (q_now_ageing : Nat) (q_trial_weights : Nat) (q_trial_marks : Nat) (q_trial_ageing : Nat) (v_nextAct : Int32) (v_actCount : Int32) (v_heardCount : Int32) (v_seed : Int64) (v_now_people : Int32) (v_now_alive : Int32) (v_now_reported : Int32) (v_now_mornings : Int32) (v_now_years : Int32) (v_now_weights : Nat → Int32) (v_now_marks : Nat → Int32) (v_now_ageing : Nat → Int32) (v_trial_people : Int32) (v_trial_alive : Int32) (v_trial_reported : Int32) (v_trial_mornings : Int32) (v_trial_years : Int32) (v_trial_marks : Nat → Int32) (v_trial_ageing : Nat → Int32) (l1 : Int32) (l2 : Int32) (l3 : Int32) {K : Int32 → Int32 → (Nat → Int32) → Prop} (hZ : XOK E Z RX3 cX3_rate 6 { frames := 2, cells := 0, slots := 0, locals := 46 }) : ∀ (k : Nat) (l4 : Int32) (l5 : Int32) (v_trial_weights : (Nat → Int32)), wl (fun rec v => b_X3_rate_49 l1 l2 v_trial_marks K rec v.1 v.2.1 v.2.2) k (l4, l5, v_trial_weights) → (∀ (l4 : Int32) (l5 : Int32) (v_trial_weights : (Nat → Int32)), K l4 l5 v_trial_weights → XW E Z 0 0 [(q_this, cO 3 [.ref q_text, .ref q_now, .ref q_trial, .ref q_choosing, .ref q_acts, .int v_nextAct, .int v_actCount, .ref q_slots, .ref q_isKept, .ref q_heardPerson, .ref q_heardIs, .int v_heardCount, .long v_seed]), (q_now, cO 1 [.int v_now_people, .ref q_now_weights, .ref q_now_marks, .ref q_now_ageing, .int v_now_alive, .int v_now_reported, .int v_now_mornings, .int v_now_years]), (q_now_weights, cA E 3 v_now_weights), (q_now_marks, cA E 18 v_now_marks), (q_now_ageing, cA E 6 v_now_ageing), (q_trial, cO 1 [.int v_trial_people, .ref q_trial_weights, .ref q_trial_marks, .ref q_trial_ageing, .int v_trial_alive, .int v_trial_reported, .int v_trial_mornings, .int v_trial_years]), (q_trial_weights, cA E 3 v_trial_weights), (q_trial_marks, cA E 18 v_trial_marks), (q_trial_ageing, cA E 6 v_trial_ageing)] [(3, .int l3), (4, .int l4)] [] 94) → XW E Z 0 0 [(q_this, cO 3 [.ref q_text, .ref q_now, .ref q_trial, .ref q_choosing, .ref q_acts, .int v_nextAct, .int v_actCount, .ref q_slots, .ref q_isKept, .ref q_heardPerson, .ref q_heardIs, .int v_heardCount, .long v_seed]), (q_now, cO 1 [.int v_now_people, .ref q_now_weights, .ref q_now_marks, .ref q_now_ageing, .int v_now_alive, .int v_now_reported, .int v_now_mornings, .int v_now_years]), (q_now_weights, cA E 3 v_now_weights), (q_now_marks, cA E 18 v_now_marks), (q_now_ageing, cA E 6 v_now_ageing), (q_trial, cO 1 [.int v_trial_people, .ref q_trial_weights, .ref q_trial_marks, .ref q_trial_ageing, .int v_trial_alive, .int v_trial_reported, .int v_trial_mornings, .int v_trial_years]), (q_trial_weights, cA E 3 v_trial_weights), (q_trial_marks, cA E 18 v_trial_marks), (q_trial_ageing, cA E 6 v_trial_ageing)] [(0, .ref q_this), (1, .int l1), (2, .int l2), (3, .int l3), (4, .int l4), (5, .int l5)] [] 49 := by
  intro k
  induction k with
  | zero =>
    intro l4 l5 v_trial_weights h
    exact h.elim
  | succ k ih =>
    intro l4 l5 v_trial_weights h hK
    replace h := wl_succ h
    try dsimp only at h
    unfold b_X3_rate_49 at h
    refine x_iload (pc' := 51) hZ dX3_rate_49 rfl 5 rfl ?_
    refine x_sipush (v := 999) (pc' := 54) hZ (by decide) dX3_rate_51 rfl ?_
    refine x_icmp_gt (tgt := 94) (pc' := 57) hZ dX3_rate_54 (by decide) rfl (fun c54 => ?_) (fun c54 => ?_)
    · replace h := h.1 c54
      refine x_lv [3, 4] (lv' := [(3, .int l3), (4, .int l4)]) rfl ?_
      exact hK l4 l5 v_trial_weights h
    · replace h := h.2 c54
      refine x_aload_n (pc' := 58) hZ dX3_rate_57 rfl 0 rfl ?_
      refine g_RX3_23 (pc' := 61) hZ dX3_rate_58 rfl 0 rfl rfl ?_
      refine x_iload (pc' := 63) hZ dX3_rate_61 rfl 5 rfl ?_
      refine k_RX3_184 (pc' := 66) (q0 := 5) (as := [.int l5]) (rest := []) (c' := 0) (n' := 0) (wr := [(q_this, cO 3 [.ref q_text, .ref q_now, .ref q_trial, .ref q_choosing, .ref q_acts, .int v_nextAct, .int v_actCount, .ref q_slots, .ref q_isKept, .ref q_heardPerson, .ref q_heardIs, .int v_heardCount, .long v_seed]), (q_now, cO 1 [.int v_now_people, .ref q_now_weights, .ref q_now_marks, .ref q_now_ageing, .int v_now_alive, .int v_now_reported, .int v_now_mornings, .int v_now_years]), (q_now_weights, cA E 3 v_now_weights), (q_now_marks, cA E 18 v_now_marks), (q_now_ageing, cA E 6 v_now_ageing), (q_trial_marks, cA E 18 v_trial_marks), (q_trial_ageing, cA E 6 v_trial_ageing)]) hZ (c_X1_weighBy E q_trial q_trial_weights q_trial_marks q_trial_ageing v_trial_people v_trial_alive v_trial_reported v_trial_mornings v_trial_years v_trial_weights l5 _ h) rfl dX3_rate_63 rfl rfl rfl rfl rfl (Nat.le_of_ble_eq_true rfl) (Nat.le_of_ble_eq_true rfl) (Nat.le_of_ble_eq_true rfl) rfl rfl (Nat.le_of_ble_eq_true rfl) (Nat.le_of_ble_eq_true rfl) [5, 6] [0, 1, 2, 3, 4, 7, 8] rfl rfl (by decide) (by decide) (by decide) (fun w63 hw => ?_)
      obtain ⟨a63_0, rfl, h⟩ := hw
      refine x_ws (ws' := [(q_this, cO 3 [.ref q_text, .ref q_now, .ref q_trial, .ref q_choosing, .ref q_acts, .int v_nextAct, .int v_actCount, .ref q_slots, .ref q_isKept, .ref q_heardPerson, .ref q_heardIs, .int v_heardCount, .long v_seed]), (q_now, cO 1 [.int v_now_people, .ref q_now_weights, .ref q_now_marks, .ref q_now_ageing, .int v_now_alive, .int v_now_reported, .int v_now_mornings, .int v_now_years]), (q_now_weights, cA E 3 v_now_weights), (q_now_marks, cA E 18 v_now_marks), (q_now_ageing, cA E 6 v_now_ageing), (q_trial, cO 1 [.int v_trial_people, .ref q_trial_weights, .ref q_trial_marks, .ref q_trial_ageing, .int v_trial_alive, .int v_trial_reported, .int v_trial_mornings, .int v_trial_years]), (q_trial_weights, cA E 3 a63_0), (q_trial_marks, cA E 18 v_trial_marks), (q_trial_ageing, cA E 6 v_trial_ageing)]) [0, 1, 2, 3, 4, 7, 8, 5, 6] rfl (by decide) ?_
      refine x_aload_n (pc' := 67) hZ dX3_rate_66 rfl 0 rfl ?_
      refine g_RX3_23 (pc' := 70) hZ dX3_rate_67 rfl 0 rfl rfl ?_
      refine x_iload_n (pc' := 71) hZ dX3_rate_70 rfl 1 rfl ?_
      refine k_RX3_120 (pc' := 74) (q0 := 5) (as := [.int l1]) (rest := []) (c' := 0) (n' := 0) (wr := [(q_this, cO 3 [.ref q_text, .ref q_now, .ref q_trial, .ref q_choosing, .ref q_acts, .int v_nextAct, .int v_actCount, .ref q_slots, .ref q_isKept, .ref q_heardPerson, .ref q_heardIs, .int v_heardCount, .long v_seed]), (q_now, cO 1 [.int v_now_people, .ref q_now_weights, .ref q_now_marks, .ref q_now_ageing, .int v_now_alive, .int v_now_reported, .int v_now_mornings, .int v_now_years]), (q_now_weights, cA E 3 v_now_weights), (q_now_marks, cA E 18 v_now_marks), (q_now_ageing, cA E 6 v_now_ageing), (q_trial_ageing, cA E 6 v_trial_ageing)]) hZ (c_X1_valueOf E q_trial q_trial_weights q_trial_marks q_trial_ageing v_trial_people v_trial_alive v_trial_reported v_trial_mornings v_trial_years a63_0 v_trial_marks l1 _ h) rfl dX3_rate_71 rfl rfl rfl rfl rfl (Nat.le_of_ble_eq_true rfl) (Nat.le_of_ble_eq_true rfl) (Nat.le_of_ble_eq_true rfl) rfl rfl (Nat.le_of_ble_eq_true rfl) (Nat.le_of_ble_eq_true rfl) [5, 6, 7] [0, 1, 2, 3, 4, 8] rfl rfl (by decide) (by decide) (by decide) (fun r71 w71 hw => ?_)
      obtain ⟨rfl, h⟩ := hw
      refine x_ws (ws' := [(q_this, cO 3 [.ref q_text, .ref q_now, .ref q_trial, .ref q_choosing, .ref q_acts, .int v_nextAct, .int v_actCount, .ref q_slots, .ref q_isKept, .ref q_heardPerson, .ref q_heardIs, .int v_heardCount, .long v_seed]), (q_now, cO 1 [.int v_now_people, .ref q_now_weights, .ref q_now_marks, .ref q_now_ageing, .int v_now_alive, .int v_now_reported, .int v_now_mornings, .int v_now_years]), (q_now_weights, cA E 3 v_now_weights), (q_now_marks, cA E 18 v_now_marks), (q_now_ageing, cA E 6 v_now_ageing), (q_trial, cO 1 [.int v_trial_people, .ref q_trial_weights, .ref q_trial_marks, .ref q_trial_ageing, .int v_trial_alive, .int v_trial_reported, .int v_trial_mornings, .int v_trial_years]), (q_trial_weights, cA E 3 a63_0), (q_trial_marks, cA E 18 v_trial_marks), (q_trial_ageing, cA E 6 v_trial_ageing)]) [0, 1, 2, 3, 4, 6, 7, 8, 5] rfl (by decide) ?_
      refine x_aload_n (pc' := 75) hZ dX3_rate_74 rfl 0 rfl ?_
      refine g_RX3_23 (pc' := 78) hZ dX3_rate_75 rfl 0 rfl rfl ?_
      refine x_iload_n (pc' := 79) hZ dX3_rate_78 rfl 2 rfl ?_
      refine k_RX3_120 (pc' := 82) (q0 := 5) (as := [.int l2]) (rest := [.int r71]) (c' := 0) (n' := 0) (wr := [(q_this, cO 3 [.ref q_text, .ref q_now, .ref q_trial, .ref q_choosing, .ref q_acts, .int v_nextAct, .int v_actCount, .ref q_slots, .ref q_isKept, .ref q_heardPerson, .ref q_heardIs, .int v_heardCount, .long v_seed]), (q_now, cO 1 [.int v_now_people, .ref q_now_weights, .ref q_now_marks, .ref q_now_ageing, .int v_now_alive, .int v_now_reported, .int v_now_mornings, .int v_now_years]), (q_now_weights, cA E 3 v_now_weights), (q_now_marks, cA E 18 v_now_marks), (q_now_ageing, cA E 6 v_now_ageing), (q_trial_ageing, cA E 6 v_trial_ageing)]) hZ (c_X1_valueOf E q_trial q_trial_weights q_trial_marks q_trial_ageing v_trial_people v_trial_alive v_trial_reported v_trial_mornings v_trial_years a63_0 v_trial_marks l2 _ h) rfl dX3_rate_79 rfl rfl rfl rfl rfl (Nat.le_of_ble_eq_true rfl) (Nat.le_of_ble_eq_true rfl) (Nat.le_of_ble_eq_true rfl) rfl rfl (Nat.le_of_ble_eq_true rfl) (Nat.le_of_ble_eq_true rfl) [5, 6, 7] [0, 1, 2, 3, 4, 8] rfl rfl (by decide) (by decide) (by decide) (fun r79 w79 hw => ?_)
      obtain ⟨rfl, h⟩ := hw
      refine x_ws (ws' := [(q_this, cO 3 [.ref q_text, .ref q_now, .ref q_trial, .ref q_choosing, .ref q_acts, .int v_nextAct, .int v_actCount, .ref q_slots, .ref q_isKept, .ref q_heardPerson, .ref q_heardIs, .int v_heardCount, .long v_seed]), (q_now, cO 1 [.int v_now_people, .ref q_now_weights, .ref q_now_marks, .ref q_now_ageing, .int v_now_alive, .int v_now_reported, .int v_now_mornings, .int v_now_years]), (q_now_weights, cA E 3 v_now_weights), (q_now_marks, cA E 18 v_now_marks), (q_now_ageing, cA E 6 v_now_ageing), (q_trial, cO 1 [.int v_trial_people, .ref q_trial_weights, .ref q_trial_marks, .ref q_trial_ageing, .int v_trial_alive, .int v_trial_reported, .int v_trial_mornings, .int v_trial_years]), (q_trial_weights, cA E 3 a63_0), (q_trial_marks, cA E 18 v_trial_marks), (q_trial_ageing, cA E 6 v_trial_ageing)]) [0, 1, 2, 3, 4, 6, 7, 8, 5] rfl (by decide) ?_
      refine x_icmp_le (tgt := 88) (pc' := 85) hZ dX3_rate_82 (by decide) rfl (fun c82 => ?_) (fun c82 => ?_)
      · replace h := h.1 c82
        obtain ⟨x88, e88⟩ : ∃ y : Int32, y = l5 + 1 := ⟨_, rfl⟩
        replace h := h x88 e88
        refine x_iinc (i := 5) (v := x88) (pc' := 91) (lv' := [(5, .int x88), (0, .ref q_this), (1, .int l1), (2, .int l2), (3, .int l3), (4, .int l4)]) hZ dX3_rate_88 rfl 5 rfl (by rw [e88]; rfl) (by decide) rfl ?_
        refine x_goto (pc' := 49) hZ dX3_rate_91 (by decide) ?_
        refine x_lv [1, 2, 3, 4, 5, 0] (lv' := [(0, .ref q_this), (1, .int l1), (2, .int l2), (3, .int l3), (4, .int l4), (5, .int x88)]) rfl ?_
        exact ih l4 x88 a63_0 h hK
      · replace h := h.2 c82
        obtain ⟨x85, e85⟩ : ∃ y : Int32, y = l4 + 1 := ⟨_, rfl⟩
        replace h := h x85 e85
        refine x_iinc (i := 4) (v := x85) (pc' := 88) (lv' := [(4, .int x85), (0, .ref q_this), (1, .int l1), (2, .int l2), (3, .int l3), (5, .int l5)]) hZ dX3_rate_85 rfl 4 rfl (by rw [e85]; rfl) (by decide) rfl ?_
        obtain ⟨x88, e88⟩ : ∃ y : Int32, y = l5 + 1 := ⟨_, rfl⟩
        replace h := h x88 e88
        refine x_iinc (i := 5) (v := x88) (pc' := 91) (lv' := [(5, .int x88), (4, .int x85), (0, .ref q_this), (1, .int l1), (2, .int l2), (3, .int l3)]) hZ dX3_rate_88 rfl 5 rfl (by rw [e88]; rfl) (by decide) rfl ?_
        refine x_goto (pc' := 49) hZ dX3_rate_91 (by decide) ?_
        refine x_lv [2, 3, 4, 5, 1, 0] (lv' := [(0, .ref q_this), (1, .int l1), (2, .int l2), (3, .int l3), (4, .int x85), (5, .int x88)]) rfl ?_
        exact ih x85 x88 a63_0 h hK
set_option maxHeartbeats 4000000 in
set_option maxRecDepth 100000 in
theorem c_X3_rate (E : XE) (q_this : Nat) (q_text : Nat) (q_now : Nat) (q_trial : Nat) (q_choosing : Nat) (q_acts : Nat) (q_slots : Nat) (q_isKept : Nat) (q_heardPerson : Nat) (q_heardIs : Nat) (q_now_weights : Nat) (q_now_marks : Nat) (q_now_ageing : Nat) (q_trial_weights : Nat) (q_trial_marks : Nat) (q_trial_ageing : Nat) (v_nextAct : Int32) (v_actCount : Int32) (v_heardCount : Int32) (v_seed : Int64) (v_now_people : Int32) (v_now_alive : Int32) (v_now_reported : Int32) (v_now_mornings : Int32) (v_now_years : Int32) (v_now_weights : Nat → Int32) (v_now_marks : Nat → Int32) (v_now_ageing : Nat → Int32) (v_trial_people : Int32) (v_trial_alive : Int32) (v_trial_reported : Int32) (v_trial_mornings : Int32) (v_trial_years : Int32) (v_trial_weights : Nat → Int32) (v_trial_marks : Nat → Int32) (v_trial_ageing : Nat → Int32) (l1 : Int32) (l2 : Int32) (l3 : Int32) (post : Int32 → Int32 → Int32 → Int32 → Int32 → Int32 → (Nat → Int32) → (Nat → Int32) → (Nat → Int32) → Prop) (h : p_X3_rate v_now_people v_now_alive v_now_reported v_now_mornings v_now_years v_now_weights v_now_marks v_now_ageing v_trial_people v_trial_alive v_trial_reported v_trial_mornings v_trial_years v_trial_weights v_trial_marks v_trial_ageing l1 l2 l3 post) : ConI E yX3_rate cX3_rate 6 .int { frames := 2, cells := 0, slots := 0, locals := 46 } 0 0 [.ref q_this, .int l1, .int l2, .int l3] [(q_this, cO 3 [.ref q_text, .ref q_now, .ref q_trial, .ref q_choosing, .ref q_acts, .int v_nextAct, .int v_actCount, .ref q_slots, .ref q_isKept, .ref q_heardPerson, .ref q_heardIs, .int v_heardCount, .long v_seed]), (q_now, cO 1 [.int v_now_people, .ref q_now_weights, .ref q_now_marks, .ref q_now_ageing, .int v_now_alive, .int v_now_reported, .int v_now_mornings, .int v_now_years]), (q_now_weights, cA E 3 v_now_weights), (q_now_marks, cA E 18 v_now_marks), (q_now_ageing, cA E 6 v_now_ageing), (q_trial, cO 1 [.int v_trial_people, .ref q_trial_weights, .ref q_trial_marks, .ref q_trial_ageing, .int v_trial_alive, .int v_trial_reported, .int v_trial_mornings, .int v_trial_years]), (q_trial_weights, cA E 3 v_trial_weights), (q_trial_marks, cA E 18 v_trial_marks), (q_trial_ageing, cA E 6 v_trial_ageing)] (fun r w => ∃ (u_trial_people : Int32) (u_trial_alive : Int32) (u_trial_reported : Int32) (u_trial_mornings : Int32) (u_trial_years : Int32) (u_trial_weights : Nat → Int32) (u_trial_marks : Nat → Int32) (u_trial_ageing : Nat → Int32), w = [(q_this, cO 3 [.ref q_text, .ref q_now, .ref q_trial, .ref q_choosing, .ref q_acts, .int v_nextAct, .int v_actCount, .ref q_slots, .ref q_isKept, .ref q_heardPerson, .ref q_heardIs, .int v_heardCount, .long v_seed]), (q_now, cO 1 [.int v_now_people, .ref q_now_weights, .ref q_now_marks, .ref q_now_ageing, .int v_now_alive, .int v_now_reported, .int v_now_mornings, .int v_now_years]), (q_now_weights, cA E 3 v_now_weights), (q_now_marks, cA E 18 v_now_marks), (q_now_ageing, cA E 6 v_now_ageing), (q_trial, cO 1 [.int u_trial_people, .ref q_trial_weights, .ref q_trial_marks, .ref q_trial_ageing, .int u_trial_alive, .int u_trial_reported, .int u_trial_mornings, .int u_trial_years]), (q_trial_weights, cA E 3 u_trial_weights), (q_trial_marks, cA E 18 u_trial_marks), (q_trial_ageing, cA E 6 u_trial_ageing)] ∧ post r u_trial_people u_trial_alive u_trial_reported u_trial_mornings u_trial_years u_trial_weights u_trial_marks u_trial_ageing) := by
  refine ConI.of (by decide +kernel) (Nat.le_of_ble_eq_true rfl) (fun Z hZ hI hRet => ?_)
  replace hZ : XOK E Z RX3 cX3_rate 6 { frames := 2, cells := 0, slots := 0, locals := 46 } := hZ
  clear hI
  show XW E Z 0 0 [(q_this, cO 3 [.ref q_text, .ref q_now, .ref q_trial, .ref q_choosing, .ref q_acts, .int v_nextAct, .int v_actCount, .ref q_slots, .ref q_isKept, .ref q_heardPerson, .ref q_heardIs, .int v_heardCount, .long v_seed]), (q_now, cO 1 [.int v_now_people, .ref q_now_weights, .ref q_now_marks, .ref q_now_ageing, .int v_now_alive, .int v_now_reported, .int v_now_mornings, .int v_now_years]), (q_now_weights, cA E 3 v_now_weights), (q_now_marks, cA E 18 v_now_marks), (q_now_ageing, cA E 6 v_now_ageing), (q_trial, cO 1 [.int v_trial_people, .ref q_trial_weights, .ref q_trial_marks, .ref q_trial_ageing, .int v_trial_alive, .int v_trial_reported, .int v_trial_mornings, .int v_trial_years]), (q_trial_weights, cA E 3 v_trial_weights), (q_trial_marks, cA E 18 v_trial_marks), (q_trial_ageing, cA E 6 v_trial_ageing)] [(0, .ref q_this), (1, .int l1), (2, .int l2), (3, .int l3)] [] 0
  unfold p_X3_rate at h
  refine x_aload_n (pc' := 1) hZ dX3_rate_0 rfl 0 rfl ?_
  refine g_RX3_19 (pc' := 4) hZ dX3_rate_1 rfl 0 rfl rfl ?_
  refine x_iload_n (pc' := 5) hZ dX3_rate_4 rfl 1 rfl ?_
  refine k_RX3_104 (pc' := 8) (q0 := 1) (as := [.int l1]) (rest := []) (c' := 0) (n' := 0) (wr := [(q_this, cO 3 [.ref q_text, .ref q_now, .ref q_trial, .ref q_choosing, .ref q_acts, .int v_nextAct, .int v_actCount, .ref q_slots, .ref q_isKept, .ref q_heardPerson, .ref q_heardIs, .int v_heardCount, .long v_seed]), (q_now_weights, cA E 3 v_now_weights), (q_now_marks, cA E 18 v_now_marks), (q_now_ageing, cA E 6 v_now_ageing), (q_trial, cO 1 [.int v_trial_people, .ref q_trial_weights, .ref q_trial_marks, .ref q_trial_ageing, .int v_trial_alive, .int v_trial_reported, .int v_trial_mornings, .int v_trial_years]), (q_trial_weights, cA E 3 v_trial_weights), (q_trial_marks, cA E 18 v_trial_marks), (q_trial_ageing, cA E 6 v_trial_ageing)]) hZ (c_X1_has E q_now q_now_weights q_now_marks q_now_ageing v_now_people v_now_alive v_now_reported v_now_mornings v_now_years l1 _ h) rfl dX3_rate_5 rfl rfl rfl rfl rfl (Nat.le_of_ble_eq_true rfl) (Nat.le_of_ble_eq_true rfl) (Nat.le_of_ble_eq_true rfl) rfl rfl (Nat.le_of_ble_eq_true rfl) (Nat.le_of_ble_eq_true rfl) [1] [0, 2, 3, 4, 5, 6, 7, 8] rfl rfl (by decide) (by decide) (by decide) (fun r5 w5 hw => ?_)
  obtain ⟨rfl, h⟩ := hw
  refine x_ws (ws' := [(q_this, cO 3 [.ref q_text, .ref q_now, .ref q_trial, .ref q_choosing, .ref q_acts, .int v_nextAct, .int v_actCount, .ref q_slots, .ref q_isKept, .ref q_heardPerson, .ref q_heardIs, .int v_heardCount, .long v_seed]), (q_now, cO 1 [.int v_now_people, .ref q_now_weights, .ref q_now_marks, .ref q_now_ageing, .int v_now_alive, .int v_now_reported, .int v_now_mornings, .int v_now_years]), (q_now_weights, cA E 3 v_now_weights), (q_now_marks, cA E 18 v_now_marks), (q_now_ageing, cA E 6 v_now_ageing), (q_trial, cO 1 [.int v_trial_people, .ref q_trial_weights, .ref q_trial_marks, .ref q_trial_ageing, .int v_trial_alive, .int v_trial_reported, .int v_trial_mornings, .int v_trial_years]), (q_trial_weights, cA E 3 v_trial_weights), (q_trial_marks, cA E 18 v_trial_marks), (q_trial_ageing, cA E 6 v_trial_ageing)]) [0, 8, 1, 2, 3, 4, 5, 6, 7] rfl (by decide) ?_
  refine x_if_eq (tgt := 22) (pc' := 11) hZ dX3_rate_8 (by decide) rfl (fun c8 => ?_) (fun c8 => ?_)
  · replace h := h.1 c8
    refine x_iconst (v := (-1)) (pc' := 23) hZ (by decide) dX3_rate_22 rfl ?_
    exact hRet _ _ _ _ dX3_rate_23 ⟨_, _, _, _, _, _, _, _, rfl, h⟩
  · replace h := h.2 c8
    refine x_aload_n (pc' := 12) hZ dX3_rate_11 rfl 0 rfl ?_
    refine g_RX3_19 (pc' := 15) hZ dX3_rate_12 rfl 0 rfl rfl ?_
    refine x_iload_n (pc' := 16) hZ dX3_rate_15 rfl 2 rfl ?_
    refine k_RX3_104 (pc' := 19) (q0 := 1) (as := [.int l2]) (rest := []) (c' := 0) (n' := 0) (wr := [(q_this, cO 3 [.ref q_text, .ref q_now, .ref q_trial, .ref q_choosing, .ref q_acts, .int v_nextAct, .int v_actCount, .ref q_slots, .ref q_isKept, .ref q_heardPerson, .ref q_heardIs, .int v_heardCount, .long v_seed]), (q_now_weights, cA E 3 v_now_weights), (q_now_marks, cA E 18 v_now_marks), (q_now_ageing, cA E 6 v_now_ageing), (q_trial, cO 1 [.int v_trial_people, .ref q_trial_weights, .ref q_trial_marks, .ref q_trial_ageing, .int v_trial_alive, .int v_trial_reported, .int v_trial_mornings, .int v_trial_years]), (q_trial_weights, cA E 3 v_trial_weights), (q_trial_marks, cA E 18 v_trial_marks), (q_trial_ageing, cA E 6 v_trial_ageing)]) hZ (c_X1_has E q_now q_now_weights q_now_marks q_now_ageing v_now_people v_now_alive v_now_reported v_now_mornings v_now_years l2 _ h) rfl dX3_rate_16 rfl rfl rfl rfl rfl (Nat.le_of_ble_eq_true rfl) (Nat.le_of_ble_eq_true rfl) (Nat.le_of_ble_eq_true rfl) rfl rfl (Nat.le_of_ble_eq_true rfl) (Nat.le_of_ble_eq_true rfl) [1] [0, 2, 3, 4, 5, 6, 7, 8] rfl rfl (by decide) (by decide) (by decide) (fun r16 w16 hw => ?_)
    obtain ⟨rfl, h⟩ := hw
    refine x_ws (ws' := [(q_this, cO 3 [.ref q_text, .ref q_now, .ref q_trial, .ref q_choosing, .ref q_acts, .int v_nextAct, .int v_actCount, .ref q_slots, .ref q_isKept, .ref q_heardPerson, .ref q_heardIs, .int v_heardCount, .long v_seed]), (q_now, cO 1 [.int v_now_people, .ref q_now_weights, .ref q_now_marks, .ref q_now_ageing, .int v_now_alive, .int v_now_reported, .int v_now_mornings, .int v_now_years]), (q_now_weights, cA E 3 v_now_weights), (q_now_marks, cA E 18 v_now_marks), (q_now_ageing, cA E 6 v_now_ageing), (q_trial, cO 1 [.int v_trial_people, .ref q_trial_weights, .ref q_trial_marks, .ref q_trial_ageing, .int v_trial_alive, .int v_trial_reported, .int v_trial_mornings, .int v_trial_years]), (q_trial_weights, cA E 3 v_trial_weights), (q_trial_marks, cA E 18 v_trial_marks), (q_trial_ageing, cA E 6 v_trial_ageing)]) [0, 8, 1, 2, 3, 4, 5, 6, 7] rfl (by decide) ?_
    refine x_if_ne (tgt := 24) (pc' := 22) hZ dX3_rate_19 (by decide) rfl (fun c19 => ?_) (fun c19 => ?_)
    · replace h := h.1 c19
      refine x_iload_n (pc' := 25) hZ dX3_rate_24 rfl 1 rfl ?_
      refine x_iload_n (pc' := 26) hZ dX3_rate_25 rfl 2 rfl ?_
      refine x_icmp_ne (tgt := 32) (pc' := 29) hZ dX3_rate_26 (by decide) rfl (fun c26 => ?_) (fun c26 => ?_)
      · replace h := h.1 c26
        refine x_aload_n (pc' := 33) hZ dX3_rate_32 rfl 0 rfl ?_
        refine g_RX3_23 (pc' := 36) hZ dX3_rate_33 rfl 0 rfl rfl ?_
        refine x_aload_n (pc' := 37) hZ dX3_rate_36 rfl 0 rfl ?_
        refine g_RX3_19 (pc' := 40) hZ dX3_rate_37 rfl 0 rfl rfl ?_
        refine k_RX3_139 (pc' := 43) (q0 := 5) (as := [.ref q_now]) (rest := []) (c' := 0) (n' := 0) (wr := [(q_this, cO 3 [.ref q_text, .ref q_now, .ref q_trial, .ref q_choosing, .ref q_acts, .int v_nextAct, .int v_actCount, .ref q_slots, .ref q_isKept, .ref q_heardPerson, .ref q_heardIs, .int v_heardCount, .long v_seed])]) hZ (c_X1_copyFrom E q_trial q_trial_weights q_trial_marks q_trial_ageing q_now q_now_weights q_now_marks q_now_ageing v_trial_people v_trial_alive v_trial_reported v_trial_mornings v_trial_years v_trial_weights v_trial_marks v_trial_ageing v_now_people v_now_alive v_now_reported v_now_mornings v_now_years v_now_weights v_now_marks v_now_ageing _ h) rfl dX3_rate_40 rfl rfl rfl rfl rfl (Nat.le_of_ble_eq_true rfl) (Nat.le_of_ble_eq_true rfl) (Nat.le_of_ble_eq_true rfl) rfl rfl (Nat.le_of_ble_eq_true rfl) (Nat.le_of_ble_eq_true rfl) [5, 6, 7, 8, 1, 2, 3, 4] [0] rfl rfl (by decide) (by decide) (by decide) (fun w40 hw => ?_)
        obtain ⟨a40_0, a40_1, a40_2, a40_3, a40_4, a40_5, a40_6, a40_7, rfl, h⟩ := hw
        refine x_ws (ws' := [(q_this, cO 3 [.ref q_text, .ref q_now, .ref q_trial, .ref q_choosing, .ref q_acts, .int v_nextAct, .int v_actCount, .ref q_slots, .ref q_isKept, .ref q_heardPerson, .ref q_heardIs, .int v_heardCount, .long v_seed]), (q_now, cO 1 [.int v_now_people, .ref q_now_weights, .ref q_now_marks, .ref q_now_ageing, .int v_now_alive, .int v_now_reported, .int v_now_mornings, .int v_now_years]), (q_now_weights, cA E 3 v_now_weights), (q_now_marks, cA E 18 v_now_marks), (q_now_ageing, cA E 6 v_now_ageing), (q_trial, cO 1 [.int a40_0, .ref q_trial_weights, .ref q_trial_marks, .ref q_trial_ageing, .int a40_1, .int a40_2, .int a40_3, .int a40_4]), (q_trial_weights, cA E 3 a40_5), (q_trial_marks, cA E 18 a40_6), (q_trial_ageing, cA E 6 a40_7)]) [0, 5, 6, 7, 8, 1, 2, 3, 4] rfl (by decide) ?_
        refine x_iconst (v := 0) (pc' := 44) hZ (by decide) dX3_rate_43 rfl ?_
        refine x_istore (i := 4) (pc' := 46) (lv' := [(4, .int 0), (0, .ref q_this), (1, .int l1), (2, .int l2), (3, .int l3)]) hZ dX3_rate_44 rfl (by decide) rfl ?_
        refine x_iconst (v := 1) (pc' := 47) hZ (by decide) dX3_rate_46 rfl ?_
        refine x_istore (i := 5) (pc' := 49) (lv' := [(5, .int 1), (4, .int 0), (0, .ref q_this), (1, .int l1), (2, .int l2), (3, .int l3)]) hZ dX3_rate_47 rfl (by decide) rfl ?_
        refine x_lv [2, 3, 4, 5, 1, 0] (lv' := [(0, .ref q_this), (1, .int l1), (2, .int l2), (3, .int l3), (4, .int 0), (5, .int 1)]) rfl ?_
        obtain ⟨k49, h⟩ := h
        refine t_X3_rate_49 E Z q_this q_text q_now q_trial q_choosing q_acts q_slots q_isKept q_heardPerson q_heardIs q_now_weights q_now_marks q_now_ageing q_trial_weights q_trial_marks q_trial_ageing v_nextAct v_actCount v_heardCount v_seed v_now_people v_now_alive v_now_reported v_now_mornings v_now_years v_now_weights v_now_marks v_now_ageing a40_0 a40_1 a40_2 a40_3 a40_4 a40_6 a40_7 l1 l2 l3 hZ  _ 0 1 a40_5 h (fun l4_49 l5_49 v_trial_weights_49 h => ?_)
        refine x_iload (pc' := 96) hZ dX3_rate_94 rfl 1 rfl ?_
        refine x_sipush (v := 999) (pc' := 99) hZ (by decide) dX3_rate_96 rfl ?_
        refine x_iload_n (pc' := 100) hZ dX3_rate_99 rfl 0 rfl ?_
        refine k_RX3_194 (pc' := 103) (as := [.int l4_49, .int 999, .int l3]) (rest := []) (c' := 0) (n' := 0) (wr := [(q_this, cO 3 [.ref q_text, .ref q_now, .ref q_trial, .ref q_choosing, .ref q_acts, .int v_nextAct, .int v_actCount, .ref q_slots, .ref q_isKept, .ref q_heardPerson, .ref q_heardIs, .int v_heardCount, .long v_seed]), (q_now, cO 1 [.int v_now_people, .ref q_now_weights, .ref q_now_marks, .ref q_now_ageing, .int v_now_alive, .int v_now_reported, .int v_now_mornings, .int v_now_years]), (q_now_weights, cA E 3 v_now_weights), (q_now_marks, cA E 18 v_now_marks), (q_now_ageing, cA E 6 v_now_ageing), (q_trial, cO 1 [.int a40_0, .ref q_trial_weights, .ref q_trial_marks, .ref q_trial_ageing, .int a40_1, .int a40_2, .int a40_3, .int a40_4]), (q_trial_weights, cA E 3 v_trial_weights_49), (q_trial_marks, cA E 18 a40_6), (q_trial_ageing, cA E 6 a40_7)]) hZ (c_X3_partOfFraction E l4_49 999 l3 _ h) dX3_rate_100 rfl rfl rfl rfl rfl (Nat.le_of_ble_eq_true rfl) (Nat.le_of_ble_eq_true rfl) (Nat.le_of_ble_eq_true rfl) rfl rfl (Nat.le_of_ble_eq_true rfl) (Nat.le_of_ble_eq_true rfl) [] [0, 1, 2, 3, 4, 5, 6, 7, 8] rfl rfl (by decide) (by decide) (by decide) (fun r100 w100 hw => ?_)
        obtain ⟨rfl, h⟩ := hw
        refine x_ws (ws' := [(q_this, cO 3 [.ref q_text, .ref q_now, .ref q_trial, .ref q_choosing, .ref q_acts, .int v_nextAct, .int v_actCount, .ref q_slots, .ref q_isKept, .ref q_heardPerson, .ref q_heardIs, .int v_heardCount, .long v_seed]), (q_now, cO 1 [.int v_now_people, .ref q_now_weights, .ref q_now_marks, .ref q_now_ageing, .int v_now_alive, .int v_now_reported, .int v_now_mornings, .int v_now_years]), (q_now_weights, cA E 3 v_now_weights), (q_now_marks, cA E 18 v_now_marks), (q_now_ageing, cA E 6 v_now_ageing), (q_trial, cO 1 [.int a40_0, .ref q_trial_weights, .ref q_trial_marks, .ref q_trial_ageing, .int a40_1, .int a40_2, .int a40_3, .int a40_4]), (q_trial_weights, cA E 3 v_trial_weights_49), (q_trial_marks, cA E 18 a40_6), (q_trial_ageing, cA E 6 a40_7)]) [0, 1, 2, 3, 4, 5, 6, 7, 8] rfl (by decide) ?_
        exact hRet _ _ _ _ dX3_rate_103 ⟨_, _, _, _, _, _, _, _, rfl, h⟩
      · replace h := h.2 c26
        refine x_bipush (v := (-2)) (pc' := 31) hZ (by decide) dX3_rate_29 rfl ?_
        exact hRet _ _ _ _ dX3_rate_31 ⟨_, _, _, _, _, _, _, _, rfl, h⟩
    · replace h := h.2 c19
      refine x_iconst (v := (-1)) (pc' := 23) hZ (by decide) dX3_rate_22 rfl ?_
      exact hRet _ _ _ _ dX3_rate_23 ⟨_, _, _, _, _, _, _, _, rfl, h⟩
set_option maxHeartbeats 4000000 in
set_option maxRecDepth 100000 in
theorem c_X3_isTenths (E : XE) (l0 : Int32) (post : Int32 → Prop) (h : p_X3_isTenths l0 post) : ConI E yX3_isTenths cX3_isTenths 1 .boolean { frames := 0, cells := 0, slots := 0, locals := 0 } 0 0 [.int l0] [] (fun r w => w = [] ∧ post r ) := by
  refine ConIz.of (by decide +kernel) (Nat.le_of_ble_eq_true rfl) (fun Z hZ hI hRet => ?_)
  replace hZ : XOK E Z RX3 cX3_isTenths 1 { frames := 0, cells := 0, slots := 0, locals := 0 } := hZ
  clear hI
  show XW E Z 0 0 [] [(0, .int l0)] [] 0
  unfold p_X3_isTenths at h
  refine x_iload_n (pc' := 1) hZ dX3_isTenths_0 rfl 0 rfl ?_
  refine x_if_lt (tgt := 14) (pc' := 4) hZ dX3_isTenths_1 (by decide) rfl (fun c1 => ?_) (fun c1 => ?_)
  · replace h := h.1 c1
    refine x_iconst (v := 0) (pc' := 15) hZ (by decide) dX3_isTenths_14 rfl ?_
    exact hRet _ _ _ _ dX3_isTenths_15 (by decide) ⟨rfl, h⟩
  · replace h := h.2 c1
    refine x_iload_n (pc' := 5) hZ dX3_isTenths_4 rfl 0 rfl ?_
    refine x_bipush (v := 10) (pc' := 7) hZ (by decide) dX3_isTenths_5 rfl ?_
    refine x_icmp_gt (tgt := 14) (pc' := 10) hZ dX3_isTenths_7 (by decide) rfl (fun c7 => ?_) (fun c7 => ?_)
    · replace h := h.1 c7
      refine x_iconst (v := 0) (pc' := 15) hZ (by decide) dX3_isTenths_14 rfl ?_
      exact hRet _ _ _ _ dX3_isTenths_15 (by decide) ⟨rfl, h⟩
    · replace h := h.2 c7
      refine x_iconst (v := 1) (pc' := 11) hZ (by decide) dX3_isTenths_10 rfl ?_
      refine x_goto (pc' := 15) hZ dX3_isTenths_11 (by decide) ?_
      exact hRet _ _ _ _ dX3_isTenths_15 (by decide) ⟨rfl, h⟩
set_option maxHeartbeats 4000000 in
set_option maxRecDepth 100000 in
theorem c_X3_namingIfWrong (E : XE) (l0 : Int32) (post : Int32 → Prop) (h : p_X3_namingIfWrong l0 post) : ConI E yX3_namingIfWrong cX3_namingIfWrong 1 .int { frames := 0, cells := 0, slots := 0, locals := 0 } 0 0 [.int l0] [] (fun r w => w = [] ∧ post r ) := by
  refine ConI.of (by decide +kernel) (Nat.le_of_ble_eq_true rfl) (fun Z hZ hI hRet => ?_)
  replace hZ : XOK E Z RX3 cX3_namingIfWrong 1 { frames := 0, cells := 0, slots := 0, locals := 0 } := hZ
  clear hI
  show XW E Z 0 0 [] [(0, .int l0)] [] 0
  unfold p_X3_namingIfWrong at h
  refine x_bipush (v := 10) (pc' := 2) hZ (by decide) dX3_namingIfWrong_0 rfl ?_
  refine x_iload_n (pc' := 3) hZ dX3_namingIfWrong_2 rfl 0 rfl ?_
  refine x_isub (pc' := 4) hZ dX3_namingIfWrong_3 rfl ?_
  exact hRet _ _ _ _ dX3_namingIfWrong_4 ⟨rfl, h⟩
set_option maxHeartbeats 4000000 in
set_option maxRecDepth 100000 in
theorem c_X3_namingIfRight (E : XE) (q_this : Nat) (q_text : Nat) (q_now : Nat) (q_trial : Nat) (q_choosing : Nat) (q_acts : Nat) (q_slots : Nat) (q_isKept : Nat) (q_heardPerson : Nat) (q_heardIs : Nat) (q_now_weights : Nat) (q_now_marks : Nat) (q_now_ageing : Nat) (v_nextAct : Int32) (v_actCount : Int32) (v_heardCount : Int32) (v_seed : Int64) (v_now_people : Int32) (v_now_alive : Int32) (v_now_reported : Int32) (v_now_mornings : Int32) (v_now_years : Int32) (l1 : Int32) (post : Int32 → Prop) (h : p_X3_namingIfRight v_now_alive l1 post) : ConI E yX3_namingIfRight cX3_namingIfRight 2 .int { frames := 2, cells := 0, slots := 0, locals := 40 } 0 0 [.ref q_this, .int l1] [(q_this, cO 3 [.ref q_text, .ref q_now, .ref q_trial, .ref q_choosing, .ref q_acts, .int v_nextAct, .int v_actCount, .ref q_slots, .ref q_isKept, .ref q_heardPerson, .ref q_heardIs, .int v_heardCount, .long v_seed]), (q_now, cO 1 [.int v_now_people, .ref q_now_weights, .ref q_now_marks, .ref q_now_ageing, .int v_now_alive, .int v_now_reported, .int v_now_mornings, .int v_now_years])] (fun r w => w = [(q_this, cO 3 [.ref q_text, .ref q_now, .ref q_trial, .ref q_choosing, .ref q_acts, .int v_nextAct, .int v_actCount, .ref q_slots, .ref q_isKept, .ref q_heardPerson, .ref q_heardIs, .int v_heardCount, .long v_seed]), (q_now, cO 1 [.int v_now_people, .ref q_now_weights, .ref q_now_marks, .ref q_now_ageing, .int v_now_alive, .int v_now_reported, .int v_now_mornings, .int v_now_years])] ∧ post r ) := by
  refine ConI.of (by decide +kernel) (Nat.le_of_ble_eq_true rfl) (fun Z hZ hI hRet => ?_)
  replace hZ : XOK E Z RX3 cX3_namingIfRight 2 { frames := 2, cells := 0, slots := 0, locals := 40 } := hZ
  clear hI
  show XW E Z 0 0 [(q_this, cO 3 [.ref q_text, .ref q_now, .ref q_trial, .ref q_choosing, .ref q_acts, .int v_nextAct, .int v_actCount, .ref q_slots, .ref q_isKept, .ref q_heardPerson, .ref q_heardIs, .int v_heardCount, .long v_seed]), (q_now, cO 1 [.int v_now_people, .ref q_now_weights, .ref q_now_marks, .ref q_now_ageing, .int v_now_alive, .int v_now_reported, .int v_now_mornings, .int v_now_years])] [(0, .ref q_this), (1, .int l1)] [] 0
  unfold p_X3_namingIfRight at h
  refine x_iload_n (pc' := 1) hZ dX3_namingIfRight_0 rfl 1 rfl ?_
  refine x_aload_n (pc' := 2) hZ dX3_namingIfRight_1 rfl 0 rfl ?_
  refine g_RX3_19 (pc' := 5) hZ dX3_namingIfRight_2 rfl 0 rfl rfl ?_
  refine k_RX3_132 (pc' := 8) (q0 := 1) (as := []) (rest := [.int l1]) (c' := 0) (n' := 0) (wr := [(q_this, cO 3 [.ref q_text, .ref q_now, .ref q_trial, .ref q_choosing, .ref q_acts, .int v_nextAct, .int v_actCount, .ref q_slots, .ref q_isKept, .ref q_heardPerson, .ref q_heardIs, .int v_heardCount, .long v_seed])]) hZ (c_X1_aliveCount E q_now q_now_weights q_now_marks q_now_ageing v_now_people v_now_alive v_now_reported v_now_mornings v_now_years _ h) rfl dX3_namingIfRight_5 rfl rfl rfl rfl rfl (Nat.le_of_ble_eq_true rfl) (Nat.le_of_ble_eq_true rfl) (Nat.le_of_ble_eq_true rfl) rfl rfl (Nat.le_of_ble_eq_true rfl) (Nat.le_of_ble_eq_true rfl) [1] [0] rfl rfl (by decide) (by decide) (by decide) (fun r5 w5 hw => ?_)
  obtain ⟨rfl, h⟩ := hw
  refine x_ws (ws' := [(q_this, cO 3 [.ref q_text, .ref q_now, .ref q_trial, .ref q_choosing, .ref q_acts, .int v_nextAct, .int v_actCount, .ref q_slots, .ref q_isKept, .ref q_heardPerson, .ref q_heardIs, .int v_heardCount, .long v_seed]), (q_now, cO 1 [.int v_now_people, .ref q_now_weights, .ref q_now_marks, .ref q_now_ageing, .int v_now_alive, .int v_now_reported, .int v_now_mornings, .int v_now_years])]) [0, 1] rfl (by decide) ?_
  refine x_imul (pc' := 9) hZ dX3_namingIfRight_8 rfl ?_
  refine x_iload_n (pc' := 10) hZ dX3_namingIfRight_9 rfl 1 rfl ?_
  refine k_RX3_207 (pc' := 13) (as := [.int l1]) (rest := [.int (l1 * r5)]) (c' := 0) (n' := 0) (wr := [(q_this, cO 3 [.ref q_text, .ref q_now, .ref q_trial, .ref q_choosing, .ref q_acts, .int v_nextAct, .int v_actCount, .ref q_slots, .ref q_isKept, .ref q_heardPerson, .ref q_heardIs, .int v_heardCount, .long v_seed]), (q_now, cO 1 [.int v_now_people, .ref q_now_weights, .ref q_now_marks, .ref q_now_ageing, .int v_now_alive, .int v_now_reported, .int v_now_mornings, .int v_now_years])]) hZ (c_X3_namingIfWrong E l1 _ h) dX3_namingIfRight_10 rfl rfl rfl rfl rfl (Nat.le_of_ble_eq_true rfl) (Nat.le_of_ble_eq_true rfl) (Nat.le_of_ble_eq_true rfl) rfl rfl (Nat.le_of_ble_eq_true rfl) (Nat.le_of_ble_eq_true rfl) [] [0, 1] rfl rfl (by decide) (by decide) (by decide) (fun r10 w10 hw => ?_)
  obtain ⟨rfl, h⟩ := hw
  refine x_ws (ws' := [(q_this, cO 3 [.ref q_text, .ref q_now, .ref q_trial, .ref q_choosing, .ref q_acts, .int v_nextAct, .int v_actCount, .ref q_slots, .ref q_isKept, .ref q_heardPerson, .ref q_heardIs, .int v_heardCount, .long v_seed]), (q_now, cO 1 [.int v_now_people, .ref q_now_weights, .ref q_now_marks, .ref q_now_ageing, .int v_now_alive, .int v_now_reported, .int v_now_mornings, .int v_now_years])]) [0, 1] rfl (by decide) ?_
  refine x_iadd (pc' := 14) hZ dX3_namingIfRight_13 rfl ?_
  exact hRet _ _ _ _ dX3_namingIfRight_14 ⟨rfl, h⟩
set_option maxHeartbeats 4000000 in
set_option maxRecDepth 100000 in
theorem c_X3_saying (E : XE) (q_this : Nat) (q_text : Nat) (q_now : Nat) (q_trial : Nat) (q_choosing : Nat) (q_acts : Nat) (q_slots : Nat) (q_isKept : Nat) (q_heardPerson : Nat) (q_heardIs : Nat) (q_now_weights : Nat) (q_now_marks : Nat) (q_now_ageing : Nat) (v_nextAct : Int32) (v_actCount : Int32) (v_heardCount : Int32) (v_seed : Int64) (v_now_people : Int32) (v_now_alive : Int32) (v_now_reported : Int32) (v_now_mornings : Int32) (v_now_years : Int32) (v_now_weights : Nat → Int32) (v_now_marks : Nat → Int32) (l1 : Int32) (l2 : Int32) (l3 : Int32) (post : Int32 → Prop) (h : p_X3_saying v_now_people v_now_alive v_now_weights v_now_marks l1 l2 l3 post) : ConI E yX3_saying cX3_saying 6 .int { frames := 3, cells := 0, slots := 0, locals := 61 } 0 0 [.ref q_this, .int l1, .int l2, .int l3] [(q_this, cO 3 [.ref q_text, .ref q_now, .ref q_trial, .ref q_choosing, .ref q_acts, .int v_nextAct, .int v_actCount, .ref q_slots, .ref q_isKept, .ref q_heardPerson, .ref q_heardIs, .int v_heardCount, .long v_seed]), (q_now, cO 1 [.int v_now_people, .ref q_now_weights, .ref q_now_marks, .ref q_now_ageing, .int v_now_alive, .int v_now_reported, .int v_now_mornings, .int v_now_years]), (q_now_weights, cA E 3 v_now_weights), (q_now_marks, cA E 18 v_now_marks)] (fun r w => w = [(q_this, cO 3 [.ref q_text, .ref q_now, .ref q_trial, .ref q_choosing, .ref q_acts, .int v_nextAct, .int v_actCount, .ref q_slots, .ref q_isKept, .ref q_heardPerson, .ref q_heardIs, .int v_heardCount, .long v_seed]), (q_now, cO 1 [.int v_now_people, .ref q_now_weights, .ref q_now_marks, .ref q_now_ageing, .int v_now_alive, .int v_now_reported, .int v_now_mornings, .int v_now_years]), (q_now_weights, cA E 3 v_now_weights), (q_now_marks, cA E 18 v_now_marks)] ∧ post r ) := by
  refine ConI.of (by decide +kernel) (Nat.le_of_ble_eq_true rfl) (fun Z hZ hI hRet => ?_)
  replace hZ : XOK E Z RX3 cX3_saying 6 { frames := 3, cells := 0, slots := 0, locals := 61 } := hZ
  clear hI
  show XW E Z 0 0 [(q_this, cO 3 [.ref q_text, .ref q_now, .ref q_trial, .ref q_choosing, .ref q_acts, .int v_nextAct, .int v_actCount, .ref q_slots, .ref q_isKept, .ref q_heardPerson, .ref q_heardIs, .int v_heardCount, .long v_seed]), (q_now, cO 1 [.int v_now_people, .ref q_now_weights, .ref q_now_marks, .ref q_now_ageing, .int v_now_alive, .int v_now_reported, .int v_now_mornings, .int v_now_years]), (q_now_weights, cA E 3 v_now_weights), (q_now_marks, cA E 18 v_now_marks)] [(0, .ref q_this), (1, .int l1), (2, .int l2), (3, .int l3)] [] 0
  unfold p_X3_saying at h
  refine x_aload_n (pc' := 1) hZ dX3_saying_0 rfl 0 rfl ?_
  refine g_RX3_19 (pc' := 4) hZ dX3_saying_1 rfl 0 rfl rfl ?_
  refine x_iload_n (pc' := 5) hZ dX3_saying_4 rfl 1 rfl ?_
  refine k_RX3_104 (pc' := 8) (q0 := 1) (as := [.int l1]) (rest := []) (c' := 0) (n' := 0) (wr := [(q_this, cO 3 [.ref q_text, .ref q_now, .ref q_trial, .ref q_choosing, .ref q_acts, .int v_nextAct, .int v_actCount, .ref q_slots, .ref q_isKept, .ref q_heardPerson, .ref q_heardIs, .int v_heardCount, .long v_seed]), (q_now_weights, cA E 3 v_now_weights), (q_now_marks, cA E 18 v_now_marks)]) hZ (c_X1_has E q_now q_now_weights q_now_marks q_now_ageing v_now_people v_now_alive v_now_reported v_now_mornings v_now_years l1 _ h) rfl dX3_saying_5 rfl rfl rfl rfl rfl (Nat.le_of_ble_eq_true rfl) (Nat.le_of_ble_eq_true rfl) (Nat.le_of_ble_eq_true rfl) rfl rfl (Nat.le_of_ble_eq_true rfl) (Nat.le_of_ble_eq_true rfl) [1] [0, 2, 3] rfl rfl (by decide) (by decide) (by decide) (fun r5 w5 hw => ?_)
  obtain ⟨rfl, h⟩ := hw
  refine x_ws (ws' := [(q_this, cO 3 [.ref q_text, .ref q_now, .ref q_trial, .ref q_choosing, .ref q_acts, .int v_nextAct, .int v_actCount, .ref q_slots, .ref q_isKept, .ref q_heardPerson, .ref q_heardIs, .int v_heardCount, .long v_seed]), (q_now, cO 1 [.int v_now_people, .ref q_now_weights, .ref q_now_marks, .ref q_now_ageing, .int v_now_alive, .int v_now_reported, .int v_now_mornings, .int v_now_years]), (q_now_weights, cA E 3 v_now_weights), (q_now_marks, cA E 18 v_now_marks)]) [0, 3, 1, 2] rfl (by decide) ?_
  refine x_if_ne (tgt := 13) (pc' := 11) hZ dX3_saying_8 (by decide) rfl (fun c8 => ?_) (fun c8 => ?_)
  · replace h := h.1 c8
    refine x_iload_n (pc' := 14) hZ dX3_saying_13 rfl 2 rfl ?_
    refine k_RX3_198 (pc' := 17) (as := [.int l2]) (rest := []) (c' := 0) (n' := 0) (wr := [(q_this, cO 3 [.ref q_text, .ref q_now, .ref q_trial, .ref q_choosing, .ref q_acts, .int v_nextAct, .int v_actCount, .ref q_slots, .ref q_isKept, .ref q_heardPerson, .ref q_heardIs, .int v_heardCount, .long v_seed]), (q_now, cO 1 [.int v_now_people, .ref q_now_weights, .ref q_now_marks, .ref q_now_ageing, .int v_now_alive, .int v_now_reported, .int v_now_mornings, .int v_now_years]), (q_now_weights, cA E 3 v_now_weights), (q_now_marks, cA E 18 v_now_marks)]) hZ (c_X3_isTenths E l2 _ h) dX3_saying_14 rfl rfl rfl rfl rfl (Nat.le_of_ble_eq_true rfl) (Nat.le_of_ble_eq_true rfl) (Nat.le_of_ble_eq_true rfl) rfl rfl (Nat.le_of_ble_eq_true rfl) (Nat.le_of_ble_eq_true rfl) [] [0, 1, 2, 3] rfl rfl (by decide) (by decide) (by decide) (fun r14 w14 hw => ?_)
    obtain ⟨rfl, h⟩ := hw
    refine x_ws (ws' := [(q_this, cO 3 [.ref q_text, .ref q_now, .ref q_trial, .ref q_choosing, .ref q_acts, .int v_nextAct, .int v_actCount, .ref q_slots, .ref q_isKept, .ref q_heardPerson, .ref q_heardIs, .int v_heardCount, .long v_seed]), (q_now, cO 1 [.int v_now_people, .ref q_now_weights, .ref q_now_marks, .ref q_now_ageing, .int v_now_alive, .int v_now_reported, .int v_now_mornings, .int v_now_years]), (q_now_weights, cA E 3 v_now_weights), (q_now_marks, cA E 18 v_now_marks)]) [0, 1, 2, 3] rfl (by decide) ?_
    refine x_if_ne (tgt := 23) (pc' := 20) hZ dX3_saying_17 (by decide) rfl (fun c17 => ?_) (fun c17 => ?_)
    · replace h := h.1 c17
      refine x_aload_n (pc' := 24) hZ dX3_saying_23 rfl 0 rfl ?_
      refine g_RX3_19 (pc' := 27) hZ dX3_saying_24 rfl 0 rfl rfl ?_
      refine x_iload_n (pc' := 28) hZ dX3_saying_27 rfl 1 rfl ?_
      refine k_RX3_114 (pc' := 31) (q0 := 1) (as := [.int l1]) (rest := []) (c' := 0) (n' := 0) (wr := [(q_this, cO 3 [.ref q_text, .ref q_now, .ref q_trial, .ref q_choosing, .ref q_acts, .int v_nextAct, .int v_actCount, .ref q_slots, .ref q_isKept, .ref q_heardPerson, .ref q_heardIs, .int v_heardCount, .long v_seed]), (q_now_weights, cA E 3 v_now_weights), (q_now_marks, cA E 18 v_now_marks)]) hZ (c_X1_isAlive E q_now q_now_weights q_now_marks q_now_ageing v_now_people v_now_alive v_now_reported v_now_mornings v_now_years l1 _ h) rfl dX3_saying_28 rfl rfl rfl rfl rfl (Nat.le_of_ble_eq_true rfl) (Nat.le_of_ble_eq_true rfl) (Nat.le_of_ble_eq_true rfl) rfl rfl (Nat.le_of_ble_eq_true rfl) (Nat.le_of_ble_eq_true rfl) [1] [0, 2, 3] rfl rfl (by decide) (by decide) (by decide) (fun r28 w28 hw => ?_)
      obtain ⟨rfl, h⟩ := hw
      refine x_ws (ws' := [(q_this, cO 3 [.ref q_text, .ref q_now, .ref q_trial, .ref q_choosing, .ref q_acts, .int v_nextAct, .int v_actCount, .ref q_slots, .ref q_isKept, .ref q_heardPerson, .ref q_heardIs, .int v_heardCount, .long v_seed]), (q_now, cO 1 [.int v_now_people, .ref q_now_weights, .ref q_now_marks, .ref q_now_ageing, .int v_now_alive, .int v_now_reported, .int v_now_mornings, .int v_now_years]), (q_now_weights, cA E 3 v_now_weights), (q_now_marks, cA E 18 v_now_marks)]) [0, 3, 1, 2] rfl (by decide) ?_
      refine x_if_ne (tgt := 37) (pc' := 34) hZ dX3_saying_31 (by decide) rfl (fun c31 => ?_) (fun c31 => ?_)
      · replace h := h.1 c31
        refine x_aload_n (pc' := 38) hZ dX3_saying_37 rfl 0 rfl ?_
        refine g_RX3_19 (pc' := 41) hZ dX3_saying_38 rfl 0 rfl rfl ?_
        refine x_aload_n (pc' := 42) hZ dX3_saying_41 rfl 0 rfl ?_
        refine g_RX3_19 (pc' := 45) hZ dX3_saying_42 rfl 0 rfl rfl ?_
        refine g_RX3_85 (pc' := 48) hZ dX3_saying_45 rfl 1 rfl rfl ?_
        refine k_RX3_91 (pc' := 51) (q0 := 1) (as := [.int v_now_alive]) (rest := []) (c' := 0) (n' := 0) (wr := [(q_this, cO 3 [.ref q_text, .ref q_now, .ref q_trial, .ref q_choosing, .ref q_acts, .int v_nextAct, .int v_actCount, .ref q_slots, .ref q_isKept, .ref q_heardPerson, .ref q_heardIs, .int v_heardCount, .long v_seed])]) hZ (c_X1_fairestOf E q_now q_now_weights q_now_marks q_now_ageing v_now_people v_now_alive v_now_reported v_now_mornings v_now_years v_now_weights v_now_marks v_now_alive _ h) rfl dX3_saying_48 rfl rfl rfl rfl rfl (Nat.le_of_ble_eq_true rfl) (Nat.le_of_ble_eq_true rfl) (Nat.le_of_ble_eq_true rfl) rfl rfl (Nat.le_of_ble_eq_true rfl) (Nat.le_of_ble_eq_true rfl) [1, 2, 3] [0] rfl rfl (by decide) (by decide) (by decide) (fun r48 w48 hw => ?_)
        obtain ⟨rfl, h⟩ := hw
        refine x_ws (ws' := [(q_this, cO 3 [.ref q_text, .ref q_now, .ref q_trial, .ref q_choosing, .ref q_acts, .int v_nextAct, .int v_actCount, .ref q_slots, .ref q_isKept, .ref q_heardPerson, .ref q_heardIs, .int v_heardCount, .long v_seed]), (q_now, cO 1 [.int v_now_people, .ref q_now_weights, .ref q_now_marks, .ref q_now_ageing, .int v_now_alive, .int v_now_reported, .int v_now_mornings, .int v_now_years]), (q_now_weights, cA E 3 v_now_weights), (q_now_marks, cA E 18 v_now_marks)]) [0, 1, 2, 3] rfl (by decide) ?_
        refine x_istore (i := 4) (pc' := 53) (lv' := [(4, .int r48), (0, .ref q_this), (1, .int l1), (2, .int l2), (3, .int l3)]) hZ dX3_saying_51 rfl (by decide) rfl ?_
        refine x_aload_n (pc' := 54) hZ dX3_saying_53 rfl 1 rfl ?_
        refine g_RX3_19 (pc' := 57) hZ dX3_saying_54 rfl 0 rfl rfl ?_
        refine x_iload (pc' := 59) hZ dX3_saying_57 rfl 0 rfl ?_
        refine k_RX3_201 (pc' := 62) (q0 := 1) (as := [.int r48]) (rest := []) (c' := 0) (n' := 0) (wr := [(q_this, cO 3 [.ref q_text, .ref q_now, .ref q_trial, .ref q_choosing, .ref q_acts, .int v_nextAct, .int v_actCount, .ref q_slots, .ref q_isKept, .ref q_heardPerson, .ref q_heardIs, .int v_heardCount, .long v_seed]), (q_now_weights, cA E 3 v_now_weights), (q_now_marks, cA E 18 v_now_marks)]) hZ (c_X1_leastOf E q_now q_now_weights q_now_marks q_now_ageing v_now_people v_now_alive v_now_reported v_now_mornings v_now_years r48 _ h) rfl dX3_saying_59 rfl rfl rfl rfl rfl (Nat.le_of_ble_eq_true rfl) (Nat.le_of_ble_eq_true rfl) (Nat.le_of_ble_eq_true rfl) rfl rfl (Nat.le_of_ble_eq_true rfl) (Nat.le_of_ble_eq_true rfl) [1] [0, 2, 3] rfl rfl (by decide) (by decide) (by decide) (fun r59 w59 hw => ?_)
        obtain ⟨rfl, h⟩ := hw
        refine x_ws (ws' := [(q_this, cO 3 [.ref q_text, .ref q_now, .ref q_trial, .ref q_choosing, .ref q_acts, .int v_nextAct, .int v_actCount, .ref q_slots, .ref q_isKept, .ref q_heardPerson, .ref q_heardIs, .int v_heardCount, .long v_seed]), (q_now, cO 1 [.int v_now_people, .ref q_now_weights, .ref q_now_marks, .ref q_now_ageing, .int v_now_alive, .int v_now_reported, .int v_now_mornings, .int v_now_years]), (q_now_weights, cA E 3 v_now_weights), (q_now_marks, cA E 18 v_now_marks)]) [0, 3, 1, 2] rfl (by decide) ?_
        refine x_iload_n (pc' := 63) hZ dX3_saying_62 rfl 2 rfl ?_
        refine x_icmp_ne (tgt := 74) (pc' := 66) hZ dX3_saying_63 (by decide) rfl (fun c63 => ?_) (fun c63 => ?_)
        · replace h := h.1 c63
          refine x_iload_n (pc' := 75) hZ dX3_saying_74 rfl 3 rfl ?_
          refine k_RX3_207 (pc' := 78) (as := [.int l2]) (rest := []) (c' := 0) (n' := 0) (wr := [(q_this, cO 3 [.ref q_text, .ref q_now, .ref q_trial, .ref q_choosing, .ref q_acts, .int v_nextAct, .int v_actCount, .ref q_slots, .ref q_isKept, .ref q_heardPerson, .ref q_heardIs, .int v_heardCount, .long v_seed]), (q_now, cO 1 [.int v_now_people, .ref q_now_weights, .ref q_now_marks, .ref q_now_ageing, .int v_now_alive, .int v_now_reported, .int v_now_mornings, .int v_now_years]), (q_now_weights, cA E 3 v_now_weights), (q_now_marks, cA E 18 v_now_marks)]) hZ (c_X3_namingIfWrong E l2 _ h) dX3_saying_75 rfl rfl rfl rfl rfl (Nat.le_of_ble_eq_true rfl) (Nat.le_of_ble_eq_true rfl) (Nat.le_of_ble_eq_true rfl) rfl rfl (Nat.le_of_ble_eq_true rfl) (Nat.le_of_ble_eq_true rfl) [] [0, 1, 2, 3] rfl rfl (by decide) (by decide) (by decide) (fun r75 w75 hw => ?_)
          obtain ⟨rfl, h⟩ := hw
          refine x_ws (ws' := [(q_this, cO 3 [.ref q_text, .ref q_now, .ref q_trial, .ref q_choosing, .ref q_acts, .int v_nextAct, .int v_actCount, .ref q_slots, .ref q_isKept, .ref q_heardPerson, .ref q_heardIs, .int v_heardCount, .long v_seed]), (q_now, cO 1 [.int v_now_people, .ref q_now_weights, .ref q_now_marks, .ref q_now_ageing, .int v_now_alive, .int v_now_reported, .int v_now_mornings, .int v_now_years]), (q_now_weights, cA E 3 v_now_weights), (q_now_marks, cA E 18 v_now_marks)]) [0, 1, 2, 3] rfl (by decide) ?_
          refine x_istore (i := 5) (pc' := 80) (lv' := [(5, .int r75), (4, .int r48), (0, .ref q_this), (1, .int l1), (2, .int l2), (3, .int l3)]) hZ dX3_saying_78 rfl (by decide) rfl ?_
          refine x_iload (pc' := 82) hZ dX3_saying_80 rfl 0 rfl ?_
          refine x_bipush (v := 10) (pc' := 84) hZ (by decide) dX3_saying_82 rfl ?_
          refine x_aload_n (pc' := 85) hZ dX3_saying_84 rfl 2 rfl ?_
          refine g_RX3_19 (pc' := 88) hZ dX3_saying_85 rfl 0 rfl rfl ?_
          refine k_RX3_132 (pc' := 91) (q0 := 1) (as := []) (rest := [.int 10, .int r75]) (c' := 0) (n' := 0) (wr := [(q_this, cO 3 [.ref q_text, .ref q_now, .ref q_trial, .ref q_choosing, .ref q_acts, .int v_nextAct, .int v_actCount, .ref q_slots, .ref q_isKept, .ref q_heardPerson, .ref q_heardIs, .int v_heardCount, .long v_seed]), (q_now_weights, cA E 3 v_now_weights), (q_now_marks, cA E 18 v_now_marks)]) hZ (c_X1_aliveCount E q_now q_now_weights q_now_marks q_now_ageing v_now_people v_now_alive v_now_reported v_now_mornings v_now_years _ h) rfl dX3_saying_88 rfl rfl rfl rfl rfl (Nat.le_of_ble_eq_true rfl) (Nat.le_of_ble_eq_true rfl) (Nat.le_of_ble_eq_true rfl) rfl rfl (Nat.le_of_ble_eq_true rfl) (Nat.le_of_ble_eq_true rfl) [1] [0, 2, 3] rfl rfl (by decide) (by decide) (by decide) (fun r88 w88 hw => ?_)
          obtain ⟨rfl, h⟩ := hw
          refine x_ws (ws' := [(q_this, cO 3 [.ref q_text, .ref q_now, .ref q_trial, .ref q_choosing, .ref q_acts, .int v_nextAct, .int v_actCount, .ref q_slots, .ref q_isKept, .ref q_heardPerson, .ref q_heardIs, .int v_heardCount, .long v_seed]), (q_now, cO 1 [.int v_now_people, .ref q_now_weights, .ref q_now_marks, .ref q_now_ageing, .int v_now_alive, .int v_now_reported, .int v_now_mornings, .int v_now_years]), (q_now_weights, cA E 3 v_now_weights), (q_now_marks, cA E 18 v_now_marks)]) [0, 3, 1, 2] rfl (by decide) ?_
          refine x_imul (pc' := 92) hZ dX3_saying_91 rfl ?_
          refine x_iload_n (pc' := 93) hZ dX3_saying_92 rfl 5 rfl ?_
          refine k_RX3_194 (pc' := 96) (as := [.int r75, .int (10 * r88), .int l3]) (rest := []) (c' := 0) (n' := 0) (wr := [(q_this, cO 3 [.ref q_text, .ref q_now, .ref q_trial, .ref q_choosing, .ref q_acts, .int v_nextAct, .int v_actCount, .ref q_slots, .ref q_isKept, .ref q_heardPerson, .ref q_heardIs, .int v_heardCount, .long v_seed]), (q_now, cO 1 [.int v_now_people, .ref q_now_weights, .ref q_now_marks, .ref q_now_ageing, .int v_now_alive, .int v_now_reported, .int v_now_mornings, .int v_now_years]), (q_now_weights, cA E 3 v_now_weights), (q_now_marks, cA E 18 v_now_marks)]) hZ (c_X3_partOfFraction E r75 (10 * r88) l3 _ h) dX3_saying_93 rfl rfl rfl rfl rfl (Nat.le_of_ble_eq_true rfl) (Nat.le_of_ble_eq_true rfl) (Nat.le_of_ble_eq_true rfl) rfl rfl (Nat.le_of_ble_eq_true rfl) (Nat.le_of_ble_eq_true rfl) [] [0, 1, 2, 3] rfl rfl (by decide) (by decide) (by decide) (fun r93 w93 hw => ?_)
          obtain ⟨rfl, h⟩ := hw
          refine x_ws (ws' := [(q_this, cO 3 [.ref q_text, .ref q_now, .ref q_trial, .ref q_choosing, .ref q_acts, .int v_nextAct, .int v_actCount, .ref q_slots, .ref q_isKept, .ref q_heardPerson, .ref q_heardIs, .int v_heardCount, .long v_seed]), (q_now, cO 1 [.int v_now_people, .ref q_now_weights, .ref q_now_marks, .ref q_now_ageing, .int v_now_alive, .int v_now_reported, .int v_now_mornings, .int v_now_years]), (q_now_weights, cA E 3 v_now_weights), (q_now_marks, cA E 18 v_now_marks)]) [0, 1, 2, 3] rfl (by decide) ?_
          exact hRet _ _ _ _ dX3_saying_96 ⟨rfl, h⟩
        · replace h := h.2 c63
          refine x_aload_n (pc' := 67) hZ dX3_saying_66 rfl 1 rfl ?_
          refine x_iload_n (pc' := 68) hZ dX3_saying_67 rfl 3 rfl ?_
          refine k_RX3_204 (pc' := 71) (q0 := 0) (as := [.int l2]) (rest := []) (c' := 0) (n' := 0) (wr := [(q_now_weights, cA E 3 v_now_weights), (q_now_marks, cA E 18 v_now_marks)]) hZ (c_X3_namingIfRight E q_this q_text q_now q_trial q_choosing q_acts q_slots q_isKept q_heardPerson q_heardIs q_now_weights q_now_marks q_now_ageing v_nextAct v_actCount v_heardCount v_seed v_now_people v_now_alive v_now_reported v_now_mornings v_now_years l2 _ h) rfl dX3_saying_68 rfl rfl rfl rfl rfl (Nat.le_of_ble_eq_true rfl) (Nat.le_of_ble_eq_true rfl) (Nat.le_of_ble_eq_true rfl) rfl rfl (Nat.le_of_ble_eq_true rfl) (Nat.le_of_ble_eq_true rfl) [0, 1] [2, 3] rfl rfl (by decide) (by decide) (by decide) (fun r68 w68 hw => ?_)
          obtain ⟨rfl, h⟩ := hw
          refine x_ws (ws' := [(q_this, cO 3 [.ref q_text, .ref q_now, .ref q_trial, .ref q_choosing, .ref q_acts, .int v_nextAct, .int v_actCount, .ref q_slots, .ref q_isKept, .ref q_heardPerson, .ref q_heardIs, .int v_heardCount, .long v_seed]), (q_now, cO 1 [.int v_now_people, .ref q_now_weights, .ref q_now_marks, .ref q_now_ageing, .int v_now_alive, .int v_now_reported, .int v_now_mornings, .int v_now_years]), (q_now_weights, cA E 3 v_now_weights), (q_now_marks, cA E 18 v_now_marks)]) [2, 3, 0, 1] rfl (by decide) ?_
          refine x_goto (pc' := 78) hZ dX3_saying_71 (by decide) ?_
          refine x_istore (i := 5) (pc' := 80) (lv' := [(5, .int r68), (4, .int r48), (0, .ref q_this), (1, .int l1), (2, .int l2), (3, .int l3)]) hZ dX3_saying_78 rfl (by decide) rfl ?_
          refine x_iload (pc' := 82) hZ dX3_saying_80 rfl 0 rfl ?_
          refine x_bipush (v := 10) (pc' := 84) hZ (by decide) dX3_saying_82 rfl ?_
          refine x_aload_n (pc' := 85) hZ dX3_saying_84 rfl 2 rfl ?_
          refine g_RX3_19 (pc' := 88) hZ dX3_saying_85 rfl 0 rfl rfl ?_
          refine k_RX3_132 (pc' := 91) (q0 := 1) (as := []) (rest := [.int 10, .int r68]) (c' := 0) (n' := 0) (wr := [(q_this, cO 3 [.ref q_text, .ref q_now, .ref q_trial, .ref q_choosing, .ref q_acts, .int v_nextAct, .int v_actCount, .ref q_slots, .ref q_isKept, .ref q_heardPerson, .ref q_heardIs, .int v_heardCount, .long v_seed]), (q_now_weights, cA E 3 v_now_weights), (q_now_marks, cA E 18 v_now_marks)]) hZ (c_X1_aliveCount E q_now q_now_weights q_now_marks q_now_ageing v_now_people v_now_alive v_now_reported v_now_mornings v_now_years _ h) rfl dX3_saying_88 rfl rfl rfl rfl rfl (Nat.le_of_ble_eq_true rfl) (Nat.le_of_ble_eq_true rfl) (Nat.le_of_ble_eq_true rfl) rfl rfl (Nat.le_of_ble_eq_true rfl) (Nat.le_of_ble_eq_true rfl) [1] [0, 2, 3] rfl rfl (by decide) (by decide) (by decide) (fun r88 w88 hw => ?_)
          obtain ⟨rfl, h⟩ := hw
          refine x_ws (ws' := [(q_this, cO 3 [.ref q_text, .ref q_now, .ref q_trial, .ref q_choosing, .ref q_acts, .int v_nextAct, .int v_actCount, .ref q_slots, .ref q_isKept, .ref q_heardPerson, .ref q_heardIs, .int v_heardCount, .long v_seed]), (q_now, cO 1 [.int v_now_people, .ref q_now_weights, .ref q_now_marks, .ref q_now_ageing, .int v_now_alive, .int v_now_reported, .int v_now_mornings, .int v_now_years]), (q_now_weights, cA E 3 v_now_weights), (q_now_marks, cA E 18 v_now_marks)]) [0, 3, 1, 2] rfl (by decide) ?_
          refine x_imul (pc' := 92) hZ dX3_saying_91 rfl ?_
          refine x_iload_n (pc' := 93) hZ dX3_saying_92 rfl 5 rfl ?_
          refine k_RX3_194 (pc' := 96) (as := [.int r68, .int (10 * r88), .int l3]) (rest := []) (c' := 0) (n' := 0) (wr := [(q_this, cO 3 [.ref q_text, .ref q_now, .ref q_trial, .ref q_choosing, .ref q_acts, .int v_nextAct, .int v_actCount, .ref q_slots, .ref q_isKept, .ref q_heardPerson, .ref q_heardIs, .int v_heardCount, .long v_seed]), (q_now, cO 1 [.int v_now_people, .ref q_now_weights, .ref q_now_marks, .ref q_now_ageing, .int v_now_alive, .int v_now_reported, .int v_now_mornings, .int v_now_years]), (q_now_weights, cA E 3 v_now_weights), (q_now_marks, cA E 18 v_now_marks)]) hZ (c_X3_partOfFraction E r68 (10 * r88) l3 _ h) dX3_saying_93 rfl rfl rfl rfl rfl (Nat.le_of_ble_eq_true rfl) (Nat.le_of_ble_eq_true rfl) (Nat.le_of_ble_eq_true rfl) rfl rfl (Nat.le_of_ble_eq_true rfl) (Nat.le_of_ble_eq_true rfl) [] [0, 1, 2, 3] rfl rfl (by decide) (by decide) (by decide) (fun r93 w93 hw => ?_)
          obtain ⟨rfl, h⟩ := hw
          refine x_ws (ws' := [(q_this, cO 3 [.ref q_text, .ref q_now, .ref q_trial, .ref q_choosing, .ref q_acts, .int v_nextAct, .int v_actCount, .ref q_slots, .ref q_isKept, .ref q_heardPerson, .ref q_heardIs, .int v_heardCount, .long v_seed]), (q_now, cO 1 [.int v_now_people, .ref q_now_weights, .ref q_now_marks, .ref q_now_ageing, .int v_now_alive, .int v_now_reported, .int v_now_mornings, .int v_now_years]), (q_now_weights, cA E 3 v_now_weights), (q_now_marks, cA E 18 v_now_marks)]) [0, 1, 2, 3] rfl (by decide) ?_
          exact hRet _ _ _ _ dX3_saying_96 ⟨rfl, h⟩
      · replace h := h.2 c31
        refine x_bipush (v := (-3)) (pc' := 36) hZ (by decide) dX3_saying_34 rfl ?_
        exact hRet _ _ _ _ dX3_saying_36 ⟨rfl, h⟩
    · replace h := h.2 c17
      refine x_bipush (v := (-2)) (pc' := 22) hZ (by decide) dX3_saying_20 rfl ?_
      exact hRet _ _ _ _ dX3_saying_22 ⟨rfl, h⟩
  · replace h := h.2 c8
    refine x_iconst (v := (-1)) (pc' := 12) hZ (by decide) dX3_saying_11 rfl ?_
    exact hRet _ _ _ _ dX3_saying_12 ⟨rfl, h⟩
set_option maxHeartbeats 4000000 in
set_option maxRecDepth 100000 in
theorem c_X3_believed (E : XE) (q_this : Nat) (q_text : Nat) (q_now : Nat) (q_trial : Nat) (q_choosing : Nat) (q_acts : Nat) (q_slots : Nat) (q_isKept : Nat) (q_heardPerson : Nat) (q_heardIs : Nat) (q_now_weights : Nat) (q_now_marks : Nat) (q_now_ageing : Nat) (v_nextAct : Int32) (v_actCount : Int32) (v_heardCount : Int32) (v_seed : Int64) (v_now_people : Int32) (v_now_alive : Int32) (v_now_reported : Int32) (v_now_mornings : Int32) (v_now_years : Int32) (l1 : Int32) (l2 : Int32) (l3 : Int32) (l4 : Int32) (post : Int32 → Prop) (h : p_X3_believed v_now_people v_now_alive l1 l2 l3 l4 post) : ConI E yX3_believed cX3_believed 7 .int { frames := 3, cells := 0, slots := 0, locals := 61 } 0 0 [.ref q_this, .int l1, .int l2, .int l3, .int l4] [(q_this, cO 3 [.ref q_text, .ref q_now, .ref q_trial, .ref q_choosing, .ref q_acts, .int v_nextAct, .int v_actCount, .ref q_slots, .ref q_isKept, .ref q_heardPerson, .ref q_heardIs, .int v_heardCount, .long v_seed]), (q_now, cO 1 [.int v_now_people, .ref q_now_weights, .ref q_now_marks, .ref q_now_ageing, .int v_now_alive, .int v_now_reported, .int v_now_mornings, .int v_now_years])] (fun r w => w = [(q_this, cO 3 [.ref q_text, .ref q_now, .ref q_trial, .ref q_choosing, .ref q_acts, .int v_nextAct, .int v_actCount, .ref q_slots, .ref q_isKept, .ref q_heardPerson, .ref q_heardIs, .int v_heardCount, .long v_seed]), (q_now, cO 1 [.int v_now_people, .ref q_now_weights, .ref q_now_marks, .ref q_now_ageing, .int v_now_alive, .int v_now_reported, .int v_now_mornings, .int v_now_years])] ∧ post r ) := by
  refine ConI.of (by decide +kernel) (Nat.le_of_ble_eq_true rfl) (fun Z hZ hI hRet => ?_)
  replace hZ : XOK E Z RX3 cX3_believed 7 { frames := 3, cells := 0, slots := 0, locals := 61 } := hZ
  clear hI
  show XW E Z 0 0 [(q_this, cO 3 [.ref q_text, .ref q_now, .ref q_trial, .ref q_choosing, .ref q_acts, .int v_nextAct, .int v_actCount, .ref q_slots, .ref q_isKept, .ref q_heardPerson, .ref q_heardIs, .int v_heardCount, .long v_seed]), (q_now, cO 1 [.int v_now_people, .ref q_now_weights, .ref q_now_marks, .ref q_now_ageing, .int v_now_alive, .int v_now_reported, .int v_now_mornings, .int v_now_years])] [(0, .ref q_this), (1, .int l1), (2, .int l2), (3, .int l3), (4, .int l4)] [] 0
  unfold p_X3_believed at h
  refine x_aload_n (pc' := 1) hZ dX3_believed_0 rfl 0 rfl ?_
  refine g_RX3_19 (pc' := 4) hZ dX3_believed_1 rfl 0 rfl rfl ?_
  refine x_iload_n (pc' := 5) hZ dX3_believed_4 rfl 1 rfl ?_
  refine k_RX3_104 (pc' := 8) (q0 := 1) (as := [.int l1]) (rest := []) (c' := 0) (n' := 0) (wr := [(q_this, cO 3 [.ref q_text, .ref q_now, .ref q_trial, .ref q_choosing, .ref q_acts, .int v_nextAct, .int v_actCount, .ref q_slots, .ref q_isKept, .ref q_heardPerson, .ref q_heardIs, .int v_heardCount, .long v_seed])]) hZ (c_X1_has E q_now q_now_weights q_now_marks q_now_ageing v_now_people v_now_alive v_now_reported v_now_mornings v_now_years l1 _ h) rfl dX3_believed_5 rfl rfl rfl rfl rfl (Nat.le_of_ble_eq_true rfl) (Nat.le_of_ble_eq_true rfl) (Nat.le_of_ble_eq_true rfl) rfl rfl (Nat.le_of_ble_eq_true rfl) (Nat.le_of_ble_eq_true rfl) [1] [0] rfl rfl (by decide) (by decide) (by decide) (fun r5 w5 hw => ?_)
  obtain ⟨rfl, h⟩ := hw
  refine x_ws (ws' := [(q_this, cO 3 [.ref q_text, .ref q_now, .ref q_trial, .ref q_choosing, .ref q_acts, .int v_nextAct, .int v_actCount, .ref q_slots, .ref q_isKept, .ref q_heardPerson, .ref q_heardIs, .int v_heardCount, .long v_seed]), (q_now, cO 1 [.int v_now_people, .ref q_now_weights, .ref q_now_marks, .ref q_now_ageing, .int v_now_alive, .int v_now_reported, .int v_now_mornings, .int v_now_years])]) [0, 1] rfl (by decide) ?_
  refine x_if_ne (tgt := 13) (pc' := 11) hZ dX3_believed_8 (by decide) rfl (fun c8 => ?_) (fun c8 => ?_)
  · replace h := h.1 c8
    refine x_iload_n (pc' := 14) hZ dX3_believed_13 rfl 2 rfl ?_
    refine k_RX3_198 (pc' := 17) (as := [.int l2]) (rest := []) (c' := 0) (n' := 0) (wr := [(q_this, cO 3 [.ref q_text, .ref q_now, .ref q_trial, .ref q_choosing, .ref q_acts, .int v_nextAct, .int v_actCount, .ref q_slots, .ref q_isKept, .ref q_heardPerson, .ref q_heardIs, .int v_heardCount, .long v_seed]), (q_now, cO 1 [.int v_now_people, .ref q_now_weights, .ref q_now_marks, .ref q_now_ageing, .int v_now_alive, .int v_now_reported, .int v_now_mornings, .int v_now_years])]) hZ (c_X3_isTenths E l2 _ h) dX3_believed_14 rfl rfl rfl rfl rfl (Nat.le_of_ble_eq_true rfl) (Nat.le_of_ble_eq_true rfl) (Nat.le_of_ble_eq_true rfl) rfl rfl (Nat.le_of_ble_eq_true rfl) (Nat.le_of_ble_eq_true rfl) [] [0, 1] rfl rfl (by decide) (by decide) (by decide) (fun r14 w14 hw => ?_)
    obtain ⟨rfl, h⟩ := hw
    refine x_ws (ws' := [(q_this, cO 3 [.ref q_text, .ref q_now, .ref q_trial, .ref q_choosing, .ref q_acts, .int v_nextAct, .int v_actCount, .ref q_slots, .ref q_isKept, .ref q_heardPerson, .ref q_heardIs, .int v_heardCount, .long v_seed]), (q_now, cO 1 [.int v_now_people, .ref q_now_weights, .ref q_now_marks, .ref q_now_ageing, .int v_now_alive, .int v_now_reported, .int v_now_mornings, .int v_now_years])]) [0, 1] rfl (by decide) ?_
    refine x_if_eq (tgt := 27) (pc' := 20) hZ dX3_believed_17 (by decide) rfl (fun c17 => ?_) (fun c17 => ?_)
    · replace h := h.1 c17
      refine x_bipush (v := (-2)) (pc' := 29) hZ (by decide) dX3_believed_27 rfl ?_
      exact hRet _ _ _ _ dX3_believed_29 ⟨rfl, h⟩
    · replace h := h.2 c17
      refine x_iload_n (pc' := 21) hZ dX3_believed_20 rfl 3 rfl ?_
      refine k_RX3_198 (pc' := 24) (as := [.int l3]) (rest := []) (c' := 0) (n' := 0) (wr := [(q_this, cO 3 [.ref q_text, .ref q_now, .ref q_trial, .ref q_choosing, .ref q_acts, .int v_nextAct, .int v_actCount, .ref q_slots, .ref q_isKept, .ref q_heardPerson, .ref q_heardIs, .int v_heardCount, .long v_seed]), (q_now, cO 1 [.int v_now_people, .ref q_now_weights, .ref q_now_marks, .ref q_now_ageing, .int v_now_alive, .int v_now_reported, .int v_now_mornings, .int v_now_years])]) hZ (c_X3_isTenths E l3 _ h) dX3_believed_21 rfl rfl rfl rfl rfl (Nat.le_of_ble_eq_true rfl) (Nat.le_of_ble_eq_true rfl) (Nat.le_of_ble_eq_true rfl) rfl rfl (Nat.le_of_ble_eq_true rfl) (Nat.le_of_ble_eq_true rfl) [] [0, 1] rfl rfl (by decide) (by decide) (by decide) (fun r21 w21 hw => ?_)
      obtain ⟨rfl, h⟩ := hw
      refine x_ws (ws' := [(q_this, cO 3 [.ref q_text, .ref q_now, .ref q_trial, .ref q_choosing, .ref q_acts, .int v_nextAct, .int v_actCount, .ref q_slots, .ref q_isKept, .ref q_heardPerson, .ref q_heardIs, .int v_heardCount, .long v_seed]), (q_now, cO 1 [.int v_now_people, .ref q_now_weights, .ref q_now_marks, .ref q_now_ageing, .int v_now_alive, .int v_now_reported, .int v_now_mornings, .int v_now_years])]) [0, 1] rfl (by decide) ?_
      refine x_if_ne (tgt := 30) (pc' := 27) hZ dX3_believed_24 (by decide) rfl (fun c24 => ?_) (fun c24 => ?_)
      · replace h := h.1 c24
        refine x_aload_n (pc' := 31) hZ dX3_believed_30 rfl 0 rfl ?_
        refine g_RX3_19 (pc' := 34) hZ dX3_believed_31 rfl 0 rfl rfl ?_
        refine x_iload_n (pc' := 35) hZ dX3_believed_34 rfl 1 rfl ?_
        refine k_RX3_114 (pc' := 38) (q0 := 1) (as := [.int l1]) (rest := []) (c' := 0) (n' := 0) (wr := [(q_this, cO 3 [.ref q_text, .ref q_now, .ref q_trial, .ref q_choosing, .ref q_acts, .int v_nextAct, .int v_actCount, .ref q_slots, .ref q_isKept, .ref q_heardPerson, .ref q_heardIs, .int v_heardCount, .long v_seed])]) hZ (c_X1_isAlive E q_now q_now_weights q_now_marks q_now_ageing v_now_people v_now_alive v_now_reported v_now_mornings v_now_years l1 _ h) rfl dX3_believed_35 rfl rfl rfl rfl rfl (Nat.le_of_ble_eq_true rfl) (Nat.le_of_ble_eq_true rfl) (Nat.le_of_ble_eq_true rfl) rfl rfl (Nat.le_of_ble_eq_true rfl) (Nat.le_of_ble_eq_true rfl) [1] [0] rfl rfl (by decide) (by decide) (by decide) (fun r35 w35 hw => ?_)
        obtain ⟨rfl, h⟩ := hw
        refine x_ws (ws' := [(q_this, cO 3 [.ref q_text, .ref q_now, .ref q_trial, .ref q_choosing, .ref q_acts, .int v_nextAct, .int v_actCount, .ref q_slots, .ref q_isKept, .ref q_heardPerson, .ref q_heardIs, .int v_heardCount, .long v_seed]), (q_now, cO 1 [.int v_now_people, .ref q_now_weights, .ref q_now_marks, .ref q_now_ageing, .int v_now_alive, .int v_now_reported, .int v_now_mornings, .int v_now_years])]) [0, 1] rfl (by decide) ?_
        refine x_if_ne (tgt := 44) (pc' := 41) hZ dX3_believed_38 (by decide) rfl (fun c38 => ?_) (fun c38 => ?_)
        · replace h := h.1 c38
          refine x_aload_n (pc' := 45) hZ dX3_believed_44 rfl 0 rfl ?_
          refine x_iload_n (pc' := 46) hZ dX3_believed_45 rfl 2 rfl ?_
          refine k_RX3_204 (pc' := 49) (q0 := 0) (as := [.int l2]) (rest := []) (c' := 0) (n' := 0) (wr := []) hZ (c_X3_namingIfRight E q_this q_text q_now q_trial q_choosing q_acts q_slots q_isKept q_heardPerson q_heardIs q_now_weights q_now_marks q_now_ageing v_nextAct v_actCount v_heardCount v_seed v_now_people v_now_alive v_now_reported v_now_mornings v_now_years l2 _ h) rfl dX3_believed_46 rfl rfl rfl rfl rfl (Nat.le_of_ble_eq_true rfl) (Nat.le_of_ble_eq_true rfl) (Nat.le_of_ble_eq_true rfl) rfl rfl (Nat.le_of_ble_eq_true rfl) (Nat.le_of_ble_eq_true rfl) [0, 1] [] rfl rfl (by decide) (by decide) (by decide) (fun r46 w46 hw => ?_)
          obtain ⟨rfl, h⟩ := hw
          refine x_ws (ws' := [(q_this, cO 3 [.ref q_text, .ref q_now, .ref q_trial, .ref q_choosing, .ref q_acts, .int v_nextAct, .int v_actCount, .ref q_slots, .ref q_isKept, .ref q_heardPerson, .ref q_heardIs, .int v_heardCount, .long v_seed]), (q_now, cO 1 [.int v_now_people, .ref q_now_weights, .ref q_now_marks, .ref q_now_ageing, .int v_now_alive, .int v_now_reported, .int v_now_mornings, .int v_now_years])]) [0, 1] rfl (by decide) ?_
          refine x_aload_n (pc' := 50) hZ dX3_believed_49 rfl 0 rfl ?_
          refine x_iload_n (pc' := 51) hZ dX3_believed_50 rfl 3 rfl ?_
          refine k_RX3_204 (pc' := 54) (q0 := 0) (as := [.int l3]) (rest := [.int r46]) (c' := 0) (n' := 0) (wr := []) hZ (c_X3_namingIfRight E q_this q_text q_now q_trial q_choosing q_acts q_slots q_isKept q_heardPerson q_heardIs q_now_weights q_now_marks q_now_ageing v_nextAct v_actCount v_heardCount v_seed v_now_people v_now_alive v_now_reported v_now_mornings v_now_years l3 _ h) rfl dX3_believed_51 rfl rfl rfl rfl rfl (Nat.le_of_ble_eq_true rfl) (Nat.le_of_ble_eq_true rfl) (Nat.le_of_ble_eq_true rfl) rfl rfl (Nat.le_of_ble_eq_true rfl) (Nat.le_of_ble_eq_true rfl) [0, 1] [] rfl rfl (by decide) (by decide) (by decide) (fun r51 w51 hw => ?_)
          obtain ⟨rfl, h⟩ := hw
          refine x_ws (ws' := [(q_this, cO 3 [.ref q_text, .ref q_now, .ref q_trial, .ref q_choosing, .ref q_acts, .int v_nextAct, .int v_actCount, .ref q_slots, .ref q_isKept, .ref q_heardPerson, .ref q_heardIs, .int v_heardCount, .long v_seed]), (q_now, cO 1 [.int v_now_people, .ref q_now_weights, .ref q_now_marks, .ref q_now_ageing, .int v_now_alive, .int v_now_reported, .int v_now_mornings, .int v_now_years])]) [0, 1] rfl (by decide) ?_
          refine x_imul (pc' := 55) hZ dX3_believed_54 rfl ?_
          refine x_topi (fun x55 e55 => ?_)
          replace h := h x55 e55
          refine x_istore (i := 5) (pc' := 57) (lv' := [(5, .int x55), (0, .ref q_this), (1, .int l1), (2, .int l2), (3, .int l3), (4, .int l4)]) hZ dX3_believed_55 rfl (by decide) rfl ?_
          refine x_aload_n (pc' := 58) hZ dX3_believed_57 rfl 1 rfl ?_
          refine g_RX3_19 (pc' := 61) hZ dX3_believed_58 rfl 0 rfl rfl ?_
          refine k_RX3_132 (pc' := 64) (q0 := 1) (as := []) (rest := []) (c' := 0) (n' := 0) (wr := [(q_this, cO 3 [.ref q_text, .ref q_now, .ref q_trial, .ref q_choosing, .ref q_acts, .int v_nextAct, .int v_actCount, .ref q_slots, .ref q_isKept, .ref q_heardPerson, .ref q_heardIs, .int v_heardCount, .long v_seed])]) hZ (c_X1_aliveCount E q_now q_now_weights q_now_marks q_now_ageing v_now_people v_now_alive v_now_reported v_now_mornings v_now_years _ h) rfl dX3_believed_61 rfl rfl rfl rfl rfl (Nat.le_of_ble_eq_true rfl) (Nat.le_of_ble_eq_true rfl) (Nat.le_of_ble_eq_true rfl) rfl rfl (Nat.le_of_ble_eq_true rfl) (Nat.le_of_ble_eq_true rfl) [1] [0] rfl rfl (by decide) (by decide) (by decide) (fun r61 w61 hw => ?_)
          obtain ⟨rfl, h⟩ := hw
          refine x_ws (ws' := [(q_this, cO 3 [.ref q_text, .ref q_now, .ref q_trial, .ref q_choosing, .ref q_acts, .int v_nextAct, .int v_actCount, .ref q_slots, .ref q_isKept, .ref q_heardPerson, .ref q_heardIs, .int v_heardCount, .long v_seed]), (q_now, cO 1 [.int v_now_people, .ref q_now_weights, .ref q_now_marks, .ref q_now_ageing, .int v_now_alive, .int v_now_reported, .int v_now_mornings, .int v_now_years])]) [0, 1] rfl (by decide) ?_
          refine x_iconst (v := 1) (pc' := 65) hZ (by decide) dX3_believed_64 rfl ?_
          refine x_isub (pc' := 66) hZ dX3_believed_65 rfl ?_
          refine x_iload_n (pc' := 67) hZ dX3_believed_66 rfl 3 rfl ?_
          refine k_RX3_207 (pc' := 70) (as := [.int l2]) (rest := [.int (r61 - 1)]) (c' := 0) (n' := 0) (wr := [(q_this, cO 3 [.ref q_text, .ref q_now, .ref q_trial, .ref q_choosing, .ref q_acts, .int v_nextAct, .int v_actCount, .ref q_slots, .ref q_isKept, .ref q_heardPerson, .ref q_heardIs, .int v_heardCount, .long v_seed]), (q_now, cO 1 [.int v_now_people, .ref q_now_weights, .ref q_now_marks, .ref q_now_ageing, .int v_now_alive, .int v_now_reported, .int v_now_mornings, .int v_now_years])]) hZ (c_X3_namingIfWrong E l2 _ h) dX3_believed_67 rfl rfl rfl rfl rfl (Nat.le_of_ble_eq_true rfl) (Nat.le_of_ble_eq_true rfl) (Nat.le_of_ble_eq_true rfl) rfl rfl (Nat.le_of_ble_eq_true rfl) (Nat.le_of_ble_eq_true rfl) [] [0, 1] rfl rfl (by decide) (by decide) (by decide) (fun r67 w67 hw => ?_)
          obtain ⟨rfl, h⟩ := hw
          refine x_ws (ws' := [(q_this, cO 3 [.ref q_text, .ref q_now, .ref q_trial, .ref q_choosing, .ref q_acts, .int v_nextAct, .int v_actCount, .ref q_slots, .ref q_isKept, .ref q_heardPerson, .ref q_heardIs, .int v_heardCount, .long v_seed]), (q_now, cO 1 [.int v_now_people, .ref q_now_weights, .ref q_now_marks, .ref q_now_ageing, .int v_now_alive, .int v_now_reported, .int v_now_mornings, .int v_now_years])]) [0, 1] rfl (by decide) ?_
          refine x_imul (pc' := 71) hZ dX3_believed_70 rfl ?_
          refine x_iload_n (pc' := 72) hZ dX3_believed_71 rfl 4 rfl ?_
          refine k_RX3_207 (pc' := 75) (as := [.int l3]) (rest := [.int ((r61 - 1) * r67)]) (c' := 0) (n' := 0) (wr := [(q_this, cO 3 [.ref q_text, .ref q_now, .ref q_trial, .ref q_choosing, .ref q_acts, .int v_nextAct, .int v_actCount, .ref q_slots, .ref q_isKept, .ref q_heardPerson, .ref q_heardIs, .int v_heardCount, .long v_seed]), (q_now, cO 1 [.int v_now_people, .ref q_now_weights, .ref q_now_marks, .ref q_now_ageing, .int v_now_alive, .int v_now_reported, .int v_now_mornings, .int v_now_years])]) hZ (c_X3_namingIfWrong E l3 _ h) dX3_believed_72 rfl rfl rfl rfl rfl (Nat.le_of_ble_eq_true rfl) (Nat.le_of_ble_eq_true rfl) (Nat.le_of_ble_eq_true rfl) rfl rfl (Nat.le_of_ble_eq_true rfl) (Nat.le_of_ble_eq_true rfl) [] [0, 1] rfl rfl (by decide) (by decide) (by decide) (fun r72 w72 hw => ?_)
          obtain ⟨rfl, h⟩ := hw
          refine x_ws (ws' := [(q_this, cO 3 [.ref q_text, .ref q_now, .ref q_trial, .ref q_choosing, .ref q_acts, .int v_nextAct, .int v_actCount, .ref q_slots, .ref q_isKept, .ref q_heardPerson, .ref q_heardIs, .int v_heardCount, .long v_seed]), (q_now, cO 1 [.int v_now_people, .ref q_now_weights, .ref q_now_marks, .ref q_now_ageing, .int v_now_alive, .int v_now_reported, .int v_now_mornings, .int v_now_years])]) [0, 1] rfl (by decide) ?_
          refine x_imul (pc' := 76) hZ dX3_believed_75 rfl ?_
          refine x_topi (fun x76 e76 => ?_)
          replace h := h x76 e76
          refine x_istore (i := 6) (pc' := 78) (lv' := [(6, .int x76), (5, .int x55), (0, .ref q_this), (1, .int l1), (2, .int l2), (3, .int l3), (4, .int l4)]) hZ dX3_believed_76 rfl (by decide) rfl ?_
          refine x_iload (pc' := 80) hZ dX3_believed_78 rfl 1 rfl ?_
          refine x_iload (pc' := 82) hZ dX3_believed_80 rfl 1 rfl ?_
          refine x_iload (pc' := 84) hZ dX3_believed_82 rfl 0 rfl ?_
          refine x_iadd (pc' := 85) hZ dX3_believed_84 rfl ?_
          refine x_iload (pc' := 87) hZ dX3_believed_85 rfl 6 rfl ?_
          refine k_RX3_194 (pc' := 90) (as := [.int x55, .int (x55 + x76), .int l4]) (rest := []) (c' := 0) (n' := 0) (wr := [(q_this, cO 3 [.ref q_text, .ref q_now, .ref q_trial, .ref q_choosing, .ref q_acts, .int v_nextAct, .int v_actCount, .ref q_slots, .ref q_isKept, .ref q_heardPerson, .ref q_heardIs, .int v_heardCount, .long v_seed]), (q_now, cO 1 [.int v_now_people, .ref q_now_weights, .ref q_now_marks, .ref q_now_ageing, .int v_now_alive, .int v_now_reported, .int v_now_mornings, .int v_now_years])]) hZ (c_X3_partOfFraction E x55 (x55 + x76) l4 _ h) dX3_believed_87 rfl rfl rfl rfl rfl (Nat.le_of_ble_eq_true rfl) (Nat.le_of_ble_eq_true rfl) (Nat.le_of_ble_eq_true rfl) rfl rfl (Nat.le_of_ble_eq_true rfl) (Nat.le_of_ble_eq_true rfl) [] [0, 1] rfl rfl (by decide) (by decide) (by decide) (fun r87 w87 hw => ?_)
          obtain ⟨rfl, h⟩ := hw
          refine x_ws (ws' := [(q_this, cO 3 [.ref q_text, .ref q_now, .ref q_trial, .ref q_choosing, .ref q_acts, .int v_nextAct, .int v_actCount, .ref q_slots, .ref q_isKept, .ref q_heardPerson, .ref q_heardIs, .int v_heardCount, .long v_seed]), (q_now, cO 1 [.int v_now_people, .ref q_now_weights, .ref q_now_marks, .ref q_now_ageing, .int v_now_alive, .int v_now_reported, .int v_now_mornings, .int v_now_years])]) [0, 1] rfl (by decide) ?_
          exact hRet _ _ _ _ dX3_believed_90 ⟨rfl, h⟩
        · replace h := h.2 c38
          refine x_bipush (v := (-3)) (pc' := 43) hZ (by decide) dX3_believed_41 rfl ?_
          exact hRet _ _ _ _ dX3_believed_43 ⟨rfl, h⟩
      · replace h := h.2 c24
        refine x_bipush (v := (-2)) (pc' := 29) hZ (by decide) dX3_believed_27 rfl ?_
        exact hRet _ _ _ _ dX3_believed_29 ⟨rfl, h⟩
  · replace h := h.2 c8
    refine x_iconst (v := (-1)) (pc' := 12) hZ (by decide) dX3_believed_11 rfl ?_
    exact hRet _ _ _ _ dX3_believed_12 ⟨rfl, h⟩
set_option maxHeartbeats 4000000 in
set_option maxRecDepth 100000 in
theorem t_X3_likelihoodOf_5 (E : XE) (Z : ZC) (q_this : Nat) (q_text : Nat) (q_now : Nat) (q_trial : Nat) (q_choosing : Nat) (q_acts : Nat) (q_slots : Nat) (q_isKept : Nat) (q_heardPerson : Nat) (q_heardIs : Nat) (q_now_weights : Nat) (q_now_marks : Nat) (q_now_ageing : Nat) (v_nextAct : Int32) (v_actCount : Int32) (v_heardCount : Int32) (v_seed : Int64) (v_now_people : Int32) (v_now_alive : Int32) (v_now_reported : Int32) (v_now_mornings : Int32) (v_now_years : Int32) (l1 : Int32) (l2 : Int32) {K : Int32 → Int32 → Prop} (hZ : XOK E Z RX3 cX3_likelihoodOf 5 { frames := 1, cells := 0, slots := 0, locals := 21 }) : ∀ (k : Nat) (l3 : Int32) (l4 : Int32), wl (fun rec v => b_X3_likelihoodOf_5 l1 l2 v_now_people v_now_reported K rec v.1 v.2) k (l3, l4) → (∀ (l3 : Int32) (l4 : Int32), K l3 l4 → XW E Z 0 0 [(q_this, cO 3 [.ref q_text, .ref q_now, .ref q_trial, .ref q_choosing, .ref q_acts, .int v_nextAct, .int v_actCount, .ref q_slots, .ref q_isKept, .ref q_heardPerson, .ref q_heardIs, .int v_heardCount, .long v_seed]), (q_now, cO 1 [.int v_now_people, .ref q_now_weights, .ref q_now_marks, .ref q_now_ageing, .int v_now_alive, .int v_now_reported, .int v_now_mornings, .int v_now_years])] [(3, .int l3)] [] 56) → XW E Z 0 0 [(q_this, cO 3 [.ref q_text, .ref q_now, .ref q_trial, .ref q_choosing, .ref q_acts, .int v_nextAct, .int v_actCount, .ref q_slots, .ref q_isKept, .ref q_heardPerson, .ref q_heardIs, .int v_heardCount, .long v_seed]), (q_now, cO 1 [.int v_now_people, .ref q_now_weights, .ref q_now_marks, .ref q_now_ageing, .int v_now_alive, .int v_now_reported, .int v_now_mornings, .int v_now_years])] [(0, .ref q_this), (1, .int l1), (2, .int l2), (3, .int l3), (4, .int l4)] [] 5 := by
  intro k
  induction k with
  | zero =>
    intro l3 l4 h
    exact h.elim
  | succ k ih =>
    intro l3 l4 h hK
    replace h := wl_succ h
    try dsimp only at h
    unfold b_X3_likelihoodOf_5 at h
    refine x_iload (pc' := 7) hZ dX3_likelihoodOf_5 rfl 4 rfl ?_
    refine x_aload_n (pc' := 8) hZ dX3_likelihoodOf_7 rfl 0 rfl ?_
    refine g_RX3_19 (pc' := 11) hZ dX3_likelihoodOf_8 rfl 0 rfl rfl ?_
    refine g_RX3_82 (pc' := 14) hZ dX3_likelihoodOf_11 rfl 1 rfl rfl ?_
    refine x_icmp_ge (tgt := 56) (pc' := 17) hZ dX3_likelihoodOf_14 (by decide) rfl (fun c14 => ?_) (fun c14 => ?_)
    · replace h := h.1 c14
      refine x_lv [3] (lv' := [(3, .int l3)]) rfl ?_
      exact hK l3 l4 h
    · replace h := h.2 c14
      refine x_aload_n (pc' := 18) hZ dX3_likelihoodOf_17 rfl 0 rfl ?_
      refine g_RX3_19 (pc' := 21) hZ dX3_likelihoodOf_18 rfl 0 rfl rfl ?_
      refine x_iload (pc' := 23) hZ dX3_likelihoodOf_21 rfl 4 rfl ?_
      refine k_RX3_117 (pc' := 26) (q0 := 1) (as := [.int l4]) (rest := []) (c' := 0) (n' := 0) (wr := [(q_this, cO 3 [.ref q_text, .ref q_now, .ref q_trial, .ref q_choosing, .ref q_acts, .int v_nextAct, .int v_actCount, .ref q_slots, .ref q_isKept, .ref q_heardPerson, .ref q_heardIs, .int v_heardCount, .long v_seed])]) hZ (c_X1_isReported E q_now q_now_weights q_now_marks q_now_ageing v_now_people v_now_alive v_now_reported v_now_mornings v_now_years l4 _ h) rfl dX3_likelihoodOf_23 rfl rfl rfl rfl rfl (Nat.le_of_ble_eq_true rfl) (Nat.le_of_ble_eq_true rfl) (Nat.le_of_ble_eq_true rfl) rfl rfl (Nat.le_of_ble_eq_true rfl) (Nat.le_of_ble_eq_true rfl) [1] [0] rfl rfl (by decide) (by decide) (by decide) (fun r23 w23 hw => ?_)
      obtain ⟨rfl, h⟩ := hw
      refine x_ws (ws' := [(q_this, cO 3 [.ref q_text, .ref q_now, .ref q_trial, .ref q_choosing, .ref q_acts, .int v_nextAct, .int v_actCount, .ref q_slots, .ref q_isKept, .ref q_heardPerson, .ref q_heardIs, .int v_heardCount, .long v_seed]), (q_now, cO 1 [.int v_now_people, .ref q_now_weights, .ref q_now_marks, .ref q_now_ageing, .int v_now_alive, .int v_now_reported, .int v_now_mornings, .int v_now_years])]) [0, 1] rfl (by decide) ?_
      refine x_if_eq (tgt := 50) (pc' := 29) hZ dX3_likelihoodOf_26 (by decide) rfl (fun c26 => ?_) (fun c26 => ?_)
      · replace h := h.1 c26
        obtain ⟨x50, e50⟩ : ∃ y : Int32, y = l4 + 1 := ⟨_, rfl⟩
        replace h := h x50 e50
        refine x_iinc (i := 4) (v := x50) (pc' := 53) (lv' := [(4, .int x50), (0, .ref q_this), (1, .int l1), (2, .int l2), (3, .int l3)]) hZ dX3_likelihoodOf_50 rfl 4 rfl (by rw [e50]; rfl) (by decide) rfl ?_
        refine x_goto (pc' := 5) hZ dX3_likelihoodOf_53 (by decide) ?_
        refine x_lv [1, 2, 3, 4, 0] (lv' := [(0, .ref q_this), (1, .int l1), (2, .int l2), (3, .int l3), (4, .int x50)]) rfl ?_
        exact ih l3 x50 h hK
      · replace h := h.2 c26
        refine x_iload_n (pc' := 30) hZ dX3_likelihoodOf_29 rfl 3 rfl ?_
        refine x_iload_n (pc' := 31) hZ dX3_likelihoodOf_30 rfl 1 rfl ?_
        refine x_iload (pc' := 33) hZ dX3_likelihoodOf_31 rfl 4 rfl ?_
        refine x_ishr (pc' := 34) hZ dX3_likelihoodOf_33 rfl ?_
        refine x_iconst (v := 1) (pc' := 35) hZ (by decide) dX3_likelihoodOf_34 rfl ?_
        refine x_iand (pc' := 36) hZ dX3_likelihoodOf_35 rfl ?_
        refine x_iconst (v := 1) (pc' := 37) hZ (by decide) dX3_likelihoodOf_36 rfl ?_
        refine x_icmp_ne (tgt := 44) (pc' := 40) hZ dX3_likelihoodOf_37 (by decide) rfl (fun c37 => ?_) (fun c37 => ?_)
        · replace h := h.1 c37
          refine x_bipush (v := 10) (pc' := 46) hZ (by decide) dX3_likelihoodOf_44 rfl ?_
          refine x_iload_n (pc' := 47) hZ dX3_likelihoodOf_46 rfl 2 rfl ?_
          refine x_isub (pc' := 48) hZ dX3_likelihoodOf_47 rfl ?_
          refine x_imul (pc' := 49) hZ dX3_likelihoodOf_48 rfl ?_
          refine x_topi (fun x49 e49 => ?_)
          replace h := h x49 e49
          refine x_istore_n (i := 3) (pc' := 50) (lv' := [(3, .int x49), (0, .ref q_this), (1, .int l1), (2, .int l2), (4, .int l4)]) hZ dX3_likelihoodOf_49 rfl rfl (by decide) rfl ?_
          obtain ⟨x50, e50⟩ : ∃ y : Int32, y = l4 + 1 := ⟨_, rfl⟩
          replace h := h x50 e50
          refine x_iinc (i := 4) (v := x50) (pc' := 53) (lv' := [(4, .int x50), (3, .int x49), (0, .ref q_this), (1, .int l1), (2, .int l2)]) hZ dX3_likelihoodOf_50 rfl 4 rfl (by rw [e50]; rfl) (by decide) rfl ?_
          refine x_goto (pc' := 5) hZ dX3_likelihoodOf_53 (by decide) ?_
          refine x_lv [2, 3, 4, 1, 0] (lv' := [(0, .ref q_this), (1, .int l1), (2, .int l2), (3, .int x49), (4, .int x50)]) rfl ?_
          exact ih x49 x50 h hK
        · replace h := h.2 c37
          refine x_iload_n (pc' := 41) hZ dX3_likelihoodOf_40 rfl 2 rfl ?_
          refine x_goto (pc' := 48) hZ dX3_likelihoodOf_41 (by decide) ?_
          refine x_imul (pc' := 49) hZ dX3_likelihoodOf_48 rfl ?_
          refine x_topi (fun x49 e49 => ?_)
          replace h := h x49 e49
          refine x_istore_n (i := 3) (pc' := 50) (lv' := [(3, .int x49), (0, .ref q_this), (1, .int l1), (2, .int l2), (4, .int l4)]) hZ dX3_likelihoodOf_49 rfl rfl (by decide) rfl ?_
          obtain ⟨x50, e50⟩ : ∃ y : Int32, y = l4 + 1 := ⟨_, rfl⟩
          replace h := h x50 e50
          refine x_iinc (i := 4) (v := x50) (pc' := 53) (lv' := [(4, .int x50), (3, .int x49), (0, .ref q_this), (1, .int l1), (2, .int l2)]) hZ dX3_likelihoodOf_50 rfl 4 rfl (by rw [e50]; rfl) (by decide) rfl ?_
          refine x_goto (pc' := 5) hZ dX3_likelihoodOf_53 (by decide) ?_
          refine x_lv [2, 3, 4, 1, 0] (lv' := [(0, .ref q_this), (1, .int l1), (2, .int l2), (3, .int x49), (4, .int x50)]) rfl ?_
          exact ih x49 x50 h hK
set_option maxHeartbeats 4000000 in
set_option maxRecDepth 100000 in
theorem c_X3_likelihoodOf (E : XE) (q_this : Nat) (q_text : Nat) (q_now : Nat) (q_trial : Nat) (q_choosing : Nat) (q_acts : Nat) (q_slots : Nat) (q_isKept : Nat) (q_heardPerson : Nat) (q_heardIs : Nat) (q_now_weights : Nat) (q_now_marks : Nat) (q_now_ageing : Nat) (v_nextAct : Int32) (v_actCount : Int32) (v_heardCount : Int32) (v_seed : Int64) (v_now_people : Int32) (v_now_alive : Int32) (v_now_reported : Int32) (v_now_mornings : Int32) (v_now_years : Int32) (l1 : Int32) (l2 : Int32) (post : Int32 → Prop) (h : p_X3_likelihoodOf v_now_people v_now_reported l1 l2 post) : ConI E yX3_likelihoodOf cX3_likelihoodOf 5 .int { frames := 1, cells := 0, slots := 0, locals := 21 } 0 0 [.ref q_this, .int l1, .int l2] [(q_this, cO 3 [.ref q_text, .ref q_now, .ref q_trial, .ref q_choosing, .ref q_acts, .int v_nextAct, .int v_actCount, .ref q_slots, .ref q_isKept, .ref q_heardPerson, .ref q_heardIs, .int v_heardCount, .long v_seed]), (q_now, cO 1 [.int v_now_people, .ref q_now_weights, .ref q_now_marks, .ref q_now_ageing, .int v_now_alive, .int v_now_reported, .int v_now_mornings, .int v_now_years])] (fun r w => w = [(q_this, cO 3 [.ref q_text, .ref q_now, .ref q_trial, .ref q_choosing, .ref q_acts, .int v_nextAct, .int v_actCount, .ref q_slots, .ref q_isKept, .ref q_heardPerson, .ref q_heardIs, .int v_heardCount, .long v_seed]), (q_now, cO 1 [.int v_now_people, .ref q_now_weights, .ref q_now_marks, .ref q_now_ageing, .int v_now_alive, .int v_now_reported, .int v_now_mornings, .int v_now_years])] ∧ post r ) := by
  refine ConI.of (by decide +kernel) (Nat.le_of_ble_eq_true rfl) (fun Z hZ hI hRet => ?_)
  replace hZ : XOK E Z RX3 cX3_likelihoodOf 5 { frames := 1, cells := 0, slots := 0, locals := 21 } := hZ
  clear hI
  show XW E Z 0 0 [(q_this, cO 3 [.ref q_text, .ref q_now, .ref q_trial, .ref q_choosing, .ref q_acts, .int v_nextAct, .int v_actCount, .ref q_slots, .ref q_isKept, .ref q_heardPerson, .ref q_heardIs, .int v_heardCount, .long v_seed]), (q_now, cO 1 [.int v_now_people, .ref q_now_weights, .ref q_now_marks, .ref q_now_ageing, .int v_now_alive, .int v_now_reported, .int v_now_mornings, .int v_now_years])] [(0, .ref q_this), (1, .int l1), (2, .int l2)] [] 0
  unfold p_X3_likelihoodOf at h
  refine x_iconst (v := 1) (pc' := 1) hZ (by decide) dX3_likelihoodOf_0 rfl ?_
  refine x_istore_n (i := 3) (pc' := 2) (lv' := [(3, .int 1), (0, .ref q_this), (1, .int l1), (2, .int l2)]) hZ dX3_likelihoodOf_1 rfl rfl (by decide) rfl ?_
  refine x_iconst (v := 0) (pc' := 3) hZ (by decide) dX3_likelihoodOf_2 rfl ?_
  refine x_istore (i := 4) (pc' := 5) (lv' := [(4, .int 0), (3, .int 1), (0, .ref q_this), (1, .int l1), (2, .int l2)]) hZ dX3_likelihoodOf_3 rfl (by decide) rfl ?_
  refine x_lv [2, 3, 4, 1, 0] (lv' := [(0, .ref q_this), (1, .int l1), (2, .int l2), (3, .int 1), (4, .int 0)]) rfl ?_
  obtain ⟨k5, h⟩ := h
  refine t_X3_likelihoodOf_5 E Z q_this q_text q_now q_trial q_choosing q_acts q_slots q_isKept q_heardPerson q_heardIs q_now_weights q_now_marks q_now_ageing v_nextAct v_actCount v_heardCount v_seed v_now_people v_now_alive v_now_reported v_now_mornings v_now_years l1 l2 hZ  _ 1 0 h (fun l3_5 l4_5 h => ?_)
  refine x_iload_n (pc' := 57) hZ dX3_likelihoodOf_56 rfl 0 rfl ?_
  exact hRet _ _ _ _ dX3_likelihoodOf_57 ⟨rfl, h⟩
set_option maxHeartbeats 4000000 in
set_option maxRecDepth 100000 in
theorem t_X3_chance_31 (E : XE) (Z : ZC) (q_this : Nat) (q_text : Nat) (q_now : Nat) (q_trial : Nat) (q_choosing : Nat) (q_acts : Nat) (q_slots : Nat) (q_isKept : Nat) (q_heardPerson : Nat) (q_heardIs : Nat) (q_now_weights : Nat) (q_now_marks : Nat) (q_now_ageing : Nat) (v_nextAct : Int32) (v_actCount : Int32) (v_heardCount : Int32) (v_seed : Int64) (v_now_people : Int32) (v_now_alive : Int32) (v_now_reported : Int32) (v_now_mornings : Int32) (v_now_years : Int32) (v_now_weights : Nat → Int32) (v_now_marks : Nat → Int32) (l1 : Int32) (l2 : Int32) {K : Int32 → Int32 → Int32 → Prop} (hZ : XOK E Z RX3 cX3_chance 7 { frames := 2, cells := 0, slots := 0, locals := 47 }) : ∀ (k : Nat) (l3 : Int32) (l4 : Int32) (l5 : Int32), wl (fun rec v => b_X3_chance_31 l1 v_now_people v_now_reported v_now_weights v_now_marks K rec v.1 v.2.1 v.2.2) k (l3, l4, l5) → (∀ (l3 : Int32) (l4 : Int32) (l5 : Int32), K l3 l4 l5 → XW E Z 0 0 [(q_this, cO 3 [.ref q_text, .ref q_now, .ref q_trial, .ref q_choosing, .ref q_acts, .int v_nextAct, .int v_actCount, .ref q_slots, .ref q_isKept, .ref q_heardPerson, .ref q_heardIs, .int v_heardCount, .long v_seed]), (q_now, cO 1 [.int v_now_people, .ref q_now_weights, .ref q_now_marks, .ref q_now_ageing, .int v_now_alive, .int v_now_reported, .int v_now_mornings, .int v_now_years]), (q_now_weights, cA E 3 v_now_weights), (q_now_marks, cA E 18 v_now_marks)] [(2, .int l2), (3, .int l3), (4, .int l4)] [] 92) → XW E Z 0 0 [(q_this, cO 3 [.ref q_text, .ref q_now, .ref q_trial, .ref q_choosing, .ref q_acts, .int v_nextAct, .int v_actCount, .ref q_slots, .ref q_isKept, .ref q_heardPerson, .ref q_heardIs, .int v_heardCount, .long v_seed]), (q_now, cO 1 [.int v_now_people, .ref q_now_weights, .ref q_now_marks, .ref q_now_ageing, .int v_now_alive, .int v_now_reported, .int v_now_mornings, .int v_now_years]), (q_now_weights, cA E 3 v_now_weights), (q_now_marks, cA E 18 v_now_marks)] [(0, .ref q_this), (1, .int l1), (2, .int l2), (3, .int l3), (4, .int l4), (5, .int l5)] [] 31 := by
  intro k
  induction k with
  | zero =>
    intro l3 l4 l5 h
    exact h.elim
  | succ k ih =>
    intro l3 l4 l5 h hK
    replace h := wl_succ h
    try dsimp only at h
    unfold b_X3_chance_31 at h
    refine x_iload (pc' := 33) hZ dX3_chance_31 rfl 5 rfl ?_
    refine x_aload_n (pc' := 34) hZ dX3_chance_33 rfl 0 rfl ?_
    refine g_RX3_19 (pc' := 37) hZ dX3_chance_34 rfl 0 rfl rfl ?_
    refine k_RX3_152 (pc' := 40) (q0 := 1) (as := []) (rest := [.int l5]) (c' := 0) (n' := 0) (wr := [(q_this, cO 3 [.ref q_text, .ref q_now, .ref q_trial, .ref q_choosing, .ref q_acts, .int v_nextAct, .int v_actCount, .ref q_slots, .ref q_isKept, .ref q_heardPerson, .ref q_heardIs, .int v_heardCount, .long v_seed]), (q_now_weights, cA E 3 v_now_weights), (q_now_marks, cA E 18 v_now_marks)]) hZ (c_X1_everybody E q_now q_now_weights q_now_marks q_now_ageing v_now_people v_now_alive v_now_reported v_now_mornings v_now_years _ h) rfl dX3_chance_37 rfl rfl rfl rfl rfl (Nat.le_of_ble_eq_true rfl) (Nat.le_of_ble_eq_true rfl) (Nat.le_of_ble_eq_true rfl) rfl rfl (Nat.le_of_ble_eq_true rfl) (Nat.le_of_ble_eq_true rfl) [1] [0, 2, 3] rfl rfl (by decide) (by decide) (by decide) (fun r37 w37 hw => ?_)
    obtain ⟨rfl, h⟩ := hw
    refine x_ws (ws' := [(q_this, cO 3 [.ref q_text, .ref q_now, .ref q_trial, .ref q_choosing, .ref q_acts, .int v_nextAct, .int v_actCount, .ref q_slots, .ref q_isKept, .ref q_heardPerson, .ref q_heardIs, .int v_heardCount, .long v_seed]), (q_now, cO 1 [.int v_now_people, .ref q_now_weights, .ref q_now_marks, .ref q_now_ageing, .int v_now_alive, .int v_now_reported, .int v_now_mornings, .int v_now_years]), (q_now_weights, cA E 3 v_now_weights), (q_now_marks, cA E 18 v_now_marks)]) [0, 3, 1, 2] rfl (by decide) ?_
    refine x_icmp_gt (tgt := 92) (pc' := 43) hZ dX3_chance_40 (by decide) rfl (fun c40 => ?_) (fun c40 => ?_)
    · replace h := h.1 c40
      refine x_lv [2, 3, 4] (lv' := [(2, .int l2), (3, .int l3), (4, .int l4)]) rfl ?_
      exact hK l3 l4 l5 h
    · replace h := h.2 c40
      refine x_aload_n (pc' := 44) hZ dX3_chance_43 rfl 0 rfl ?_
      refine x_iload (pc' := 46) hZ dX3_chance_44 rfl 5 rfl ?_
      refine k_RX3_155 (pc' := 49) (q0 := 0) (as := [.int l5]) (rest := []) (c' := 0) (n' := 0) (wr := [(q_now_weights, cA E 3 v_now_weights), (q_now_marks, cA E 18 v_now_marks)]) hZ (c_X3_isWorld E q_this q_text q_now q_trial q_choosing q_acts q_slots q_isKept q_heardPerson q_heardIs q_now_weights q_now_marks q_now_ageing v_nextAct v_actCount v_heardCount v_seed v_now_people v_now_alive v_now_reported v_now_mornings v_now_years l5 _ h) rfl dX3_chance_46 rfl rfl rfl rfl rfl (Nat.le_of_ble_eq_true rfl) (Nat.le_of_ble_eq_true rfl) (Nat.le_of_ble_eq_true rfl) rfl rfl (Nat.le_of_ble_eq_true rfl) (Nat.le_of_ble_eq_true rfl) [0, 1] [2, 3] rfl rfl (by decide) (by decide) (by decide) (fun r46 w46 hw => ?_)
      obtain ⟨rfl, h⟩ := hw
      refine x_ws (ws' := [(q_this, cO 3 [.ref q_text, .ref q_now, .ref q_trial, .ref q_choosing, .ref q_acts, .int v_nextAct, .int v_actCount, .ref q_slots, .ref q_isKept, .ref q_heardPerson, .ref q_heardIs, .int v_heardCount, .long v_seed]), (q_now, cO 1 [.int v_now_people, .ref q_now_weights, .ref q_now_marks, .ref q_now_ageing, .int v_now_alive, .int v_now_reported, .int v_now_mornings, .int v_now_years]), (q_now_weights, cA E 3 v_now_weights), (q_now_marks, cA E 18 v_now_marks)]) [2, 3, 0, 1] rfl (by decide) ?_
      refine x_if_eq (tgt := 86) (pc' := 52) hZ dX3_chance_49 (by decide) rfl (fun c49 => ?_) (fun c49 => ?_)
      · replace h := h.1 c49
        obtain ⟨x86, e86⟩ : ∃ y : Int32, y = l5 + 1 := ⟨_, rfl⟩
        replace h := h x86 e86
        refine x_iinc (i := 5) (v := x86) (pc' := 89) (lv' := [(5, .int x86), (0, .ref q_this), (1, .int l1), (2, .int l2), (3, .int l3), (4, .int l4)]) hZ dX3_chance_86 rfl 5 rfl (by rw [e86]; rfl) (by decide) rfl ?_
        refine x_goto (pc' := 31) hZ dX3_chance_89 (by decide) ?_
        refine x_lv [1, 2, 3, 4, 5, 0] (lv' := [(0, .ref q_this), (1, .int l1), (2, .int l2), (3, .int l3), (4, .int l4), (5, .int x86)]) rfl ?_
        exact ih l3 l4 x86 h hK
      · replace h := h.2 c49
        refine x_aload_n (pc' := 53) hZ dX3_chance_52 rfl 0 rfl ?_
        refine x_iload (pc' := 55) hZ dX3_chance_53 rfl 5 rfl ?_
        refine x_iload_n (pc' := 56) hZ dX3_chance_55 rfl 1 rfl ?_
        refine k_RX3_210 (pc' := 59) (q0 := 0) (as := [.int l5, .int l1]) (rest := []) (c' := 0) (n' := 0) (wr := [(q_now_weights, cA E 3 v_now_weights), (q_now_marks, cA E 18 v_now_marks)]) hZ (c_X3_likelihoodOf E q_this q_text q_now q_trial q_choosing q_acts q_slots q_isKept q_heardPerson q_heardIs q_now_weights q_now_marks q_now_ageing v_nextAct v_actCount v_heardCount v_seed v_now_people v_now_alive v_now_reported v_now_mornings v_now_years l5 l1 _ h) rfl dX3_chance_56 rfl rfl rfl rfl rfl (Nat.le_of_ble_eq_true rfl) (Nat.le_of_ble_eq_true rfl) (Nat.le_of_ble_eq_true rfl) rfl rfl (Nat.le_of_ble_eq_true rfl) (Nat.le_of_ble_eq_true rfl) [0, 1] [2, 3] rfl rfl (by decide) (by decide) (by decide) (fun r56 w56 hw => ?_)
        obtain ⟨rfl, h⟩ := hw
        refine x_ws (ws' := [(q_this, cO 3 [.ref q_text, .ref q_now, .ref q_trial, .ref q_choosing, .ref q_acts, .int v_nextAct, .int v_actCount, .ref q_slots, .ref q_isKept, .ref q_heardPerson, .ref q_heardIs, .int v_heardCount, .long v_seed]), (q_now, cO 1 [.int v_now_people, .ref q_now_weights, .ref q_now_marks, .ref q_now_ageing, .int v_now_alive, .int v_now_reported, .int v_now_mornings, .int v_now_years]), (q_now_weights, cA E 3 v_now_weights), (q_now_marks, cA E 18 v_now_marks)]) [2, 3, 0, 1] rfl (by decide) ?_
        refine x_istore (i := 6) (pc' := 61) (lv' := [(6, .int r56), (0, .ref q_this), (1, .int l1), (2, .int l2), (3, .int l3), (4, .int l4), (5, .int l5)]) hZ dX3_chance_59 rfl (by decide) rfl ?_
        refine x_iload (pc' := 63) hZ dX3_chance_61 rfl 5 rfl ?_
        refine x_iload (pc' := 65) hZ dX3_chance_63 rfl 0 rfl ?_
        refine x_iadd (pc' := 66) hZ dX3_chance_65 rfl ?_
        refine x_topi (fun x66 e66 => ?_)
        replace h := h x66 e66
        refine x_istore (i := 4) (pc' := 68) (lv' := [(4, .int x66), (6, .int r56), (0, .ref q_this), (1, .int l1), (2, .int l2), (3, .int l3), (5, .int l5)]) hZ dX3_chance_66 rfl (by decide) rfl ?_
        refine x_aload_n (pc' := 69) hZ dX3_chance_68 rfl 2 rfl ?_
        refine g_RX3_19 (pc' := 72) hZ dX3_chance_69 rfl 0 rfl rfl ?_
        refine x_iload (pc' := 74) hZ dX3_chance_72 rfl 6 rfl ?_
        refine k_RX3_91 (pc' := 77) (q0 := 1) (as := [.int l5]) (rest := []) (c' := 0) (n' := 0) (wr := [(q_this, cO 3 [.ref q_text, .ref q_now, .ref q_trial, .ref q_choosing, .ref q_acts, .int v_nextAct, .int v_actCount, .ref q_slots, .ref q_isKept, .ref q_heardPerson, .ref q_heardIs, .int v_heardCount, .long v_seed])]) hZ (c_X1_fairestOf E q_now q_now_weights q_now_marks q_now_ageing v_now_people v_now_alive v_now_reported v_now_mornings v_now_years v_now_weights v_now_marks l5 _ h) rfl dX3_chance_74 rfl rfl rfl rfl rfl (Nat.le_of_ble_eq_true rfl) (Nat.le_of_ble_eq_true rfl) (Nat.le_of_ble_eq_true rfl) rfl rfl (Nat.le_of_ble_eq_true rfl) (Nat.le_of_ble_eq_true rfl) [1, 2, 3] [0] rfl rfl (by decide) (by decide) (by decide) (fun r74 w74 hw => ?_)
        obtain ⟨rfl, h⟩ := hw
        refine x_ws (ws' := [(q_this, cO 3 [.ref q_text, .ref q_now, .ref q_trial, .ref q_choosing, .ref q_acts, .int v_nextAct, .int v_actCount, .ref q_slots, .ref q_isKept, .ref q_heardPerson, .ref q_heardIs, .int v_heardCount, .long v_seed]), (q_now, cO 1 [.int v_now_people, .ref q_now_weights, .ref q_now_marks, .ref q_now_ageing, .int v_now_alive, .int v_now_reported, .int v_now_mornings, .int v_now_years]), (q_now_weights, cA E 3 v_now_weights), (q_now_marks, cA E 18 v_now_marks)]) [0, 1, 2, 3] rfl (by decide) ?_
        refine x_iconst (v := 1) (pc' := 78) hZ (by decide) dX3_chance_77 rfl ?_
        refine x_icmp_ne (tgt := 86) (pc' := 81) hZ dX3_chance_78 (by decide) rfl (fun c78 => ?_) (fun c78 => ?_)
        · replace h := h.1 c78
          obtain ⟨x86, e86⟩ : ∃ y : Int32, y = l5 + 1 := ⟨_, rfl⟩
          replace h := h x86 e86
          refine x_iinc (i := 5) (v := x86) (pc' := 89) (lv' := [(5, .int x86), (4, .int x66), (6, .int r56), (0, .ref q_this), (1, .int l1), (2, .int l2), (3, .int l3)]) hZ dX3_chance_86 rfl 6 rfl (by rw [e86]; rfl) (by decide) rfl ?_
          refine x_goto (pc' := 31) hZ dX3_chance_89 (by decide) ?_
          refine x_lv [3, 4, 5, 6, 1, 0] (lv' := [(0, .ref q_this), (1, .int l1), (2, .int l2), (3, .int l3), (4, .int x66), (5, .int x86)]) rfl ?_
          exact ih l3 x66 x86 h hK
        · replace h := h.2 c78
          refine x_iload_n (pc' := 82) hZ dX3_chance_81 rfl 5 rfl ?_
          refine x_iload (pc' := 84) hZ dX3_chance_82 rfl 1 rfl ?_
          refine x_iadd (pc' := 85) hZ dX3_chance_84 rfl ?_
          refine x_topi (fun x85 e85 => ?_)
          replace h := h x85 e85
          refine x_istore_n (i := 3) (pc' := 86) (lv' := [(3, .int x85), (4, .int x66), (6, .int r56), (0, .ref q_this), (1, .int l1), (2, .int l2), (5, .int l5)]) hZ dX3_chance_85 rfl rfl (by decide) rfl ?_
          obtain ⟨x86, e86⟩ : ∃ y : Int32, y = l5 + 1 := ⟨_, rfl⟩
          replace h := h x86 e86
          refine x_iinc (i := 5) (v := x86) (pc' := 89) (lv' := [(5, .int x86), (3, .int x85), (4, .int x66), (6, .int r56), (0, .ref q_this), (1, .int l1), (2, .int l2)]) hZ dX3_chance_86 rfl 6 rfl (by rw [e86]; rfl) (by decide) rfl ?_
          refine x_goto (pc' := 31) hZ dX3_chance_89 (by decide) ?_
          refine x_lv [4, 5, 6, 1, 2, 0] (lv' := [(0, .ref q_this), (1, .int l1), (2, .int l2), (3, .int x85), (4, .int x66), (5, .int x86)]) rfl ?_
          exact ih x85 x66 x86 h hK
set_option maxHeartbeats 4000000 in
set_option maxRecDepth 100000 in
theorem c_X3_chance (E : XE) (q_this : Nat) (q_text : Nat) (q_now : Nat) (q_trial : Nat) (q_choosing : Nat) (q_acts : Nat) (q_slots : Nat) (q_isKept : Nat) (q_heardPerson : Nat) (q_heardIs : Nat) (q_now_weights : Nat) (q_now_marks : Nat) (q_now_ageing : Nat) (v_nextAct : Int32) (v_actCount : Int32) (v_heardCount : Int32) (v_seed : Int64) (v_now_people : Int32) (v_now_alive : Int32) (v_now_reported : Int32) (v_now_mornings : Int32) (v_now_years : Int32) (v_now_weights : Nat → Int32) (v_now_marks : Nat → Int32) (l1 : Int32) (l2 : Int32) (post : Int32 → Prop) (h : p_X3_chance v_now_people v_now_reported v_now_weights v_now_marks l1 l2 post) : ConI E yX3_chance cX3_chance 7 .int { frames := 2, cells := 0, slots := 0, locals := 47 } 0 0 [.ref q_this, .int l1, .int l2] [(q_this, cO 3 [.ref q_text, .ref q_now, .ref q_trial, .ref q_choosing, .ref q_acts, .int v_nextAct, .int v_actCount, .ref q_slots, .ref q_isKept, .ref q_heardPerson, .ref q_heardIs, .int v_heardCount, .long v_seed]), (q_now, cO 1 [.int v_now_people, .ref q_now_weights, .ref q_now_marks, .ref q_now_ageing, .int v_now_alive, .int v_now_reported, .int v_now_mornings, .int v_now_years]), (q_now_weights, cA E 3 v_now_weights), (q_now_marks, cA E 18 v_now_marks)] (fun r w => w = [(q_this, cO 3 [.ref q_text, .ref q_now, .ref q_trial, .ref q_choosing, .ref q_acts, .int v_nextAct, .int v_actCount, .ref q_slots, .ref q_isKept, .ref q_heardPerson, .ref q_heardIs, .int v_heardCount, .long v_seed]), (q_now, cO 1 [.int v_now_people, .ref q_now_weights, .ref q_now_marks, .ref q_now_ageing, .int v_now_alive, .int v_now_reported, .int v_now_mornings, .int v_now_years]), (q_now_weights, cA E 3 v_now_weights), (q_now_marks, cA E 18 v_now_marks)] ∧ post r ) := by
  refine ConI.of (by decide +kernel) (Nat.le_of_ble_eq_true rfl) (fun Z hZ hI hRet => ?_)
  replace hZ : XOK E Z RX3 cX3_chance 7 { frames := 2, cells := 0, slots := 0, locals := 47 } := hZ
  clear hI
  show XW E Z 0 0 [(q_this, cO 3 [.ref q_text, .ref q_now, .ref q_trial, .ref q_choosing, .ref q_acts, .int v_nextAct, .int v_actCount, .ref q_slots, .ref q_isKept, .ref q_heardPerson, .ref q_heardIs, .int v_heardCount, .long v_seed]), (q_now, cO 1 [.int v_now_people, .ref q_now_weights, .ref q_now_marks, .ref q_now_ageing, .int v_now_alive, .int v_now_reported, .int v_now_mornings, .int v_now_years]), (q_now_weights, cA E 3 v_now_weights), (q_now_marks, cA E 18 v_now_marks)] [(0, .ref q_this), (1, .int l1), (2, .int l2)] [] 0
  unfold p_X3_chance at h
  refine x_iload_n (pc' := 1) hZ dX3_chance_0 rfl 1 rfl ?_
  refine k_RX3_198 (pc' := 4) (as := [.int l1]) (rest := []) (c' := 0) (n' := 0) (wr := [(q_this, cO 3 [.ref q_text, .ref q_now, .ref q_trial, .ref q_choosing, .ref q_acts, .int v_nextAct, .int v_actCount, .ref q_slots, .ref q_isKept, .ref q_heardPerson, .ref q_heardIs, .int v_heardCount, .long v_seed]), (q_now, cO 1 [.int v_now_people, .ref q_now_weights, .ref q_now_marks, .ref q_now_ageing, .int v_now_alive, .int v_now_reported, .int v_now_mornings, .int v_now_years]), (q_now_weights, cA E 3 v_now_weights), (q_now_marks, cA E 18 v_now_marks)]) hZ (c_X3_isTenths E l1 _ h) dX3_chance_1 rfl rfl rfl rfl rfl (Nat.le_of_ble_eq_true rfl) (Nat.le_of_ble_eq_true rfl) (Nat.le_of_ble_eq_true rfl) rfl rfl (Nat.le_of_ble_eq_true rfl) (Nat.le_of_ble_eq_true rfl) [] [0, 1, 2, 3] rfl rfl (by decide) (by decide) (by decide) (fun r1 w1 hw => ?_)
  obtain ⟨rfl, h⟩ := hw
  refine x_ws (ws' := [(q_this, cO 3 [.ref q_text, .ref q_now, .ref q_trial, .ref q_choosing, .ref q_acts, .int v_nextAct, .int v_actCount, .ref q_slots, .ref q_isKept, .ref q_heardPerson, .ref q_heardIs, .int v_heardCount, .long v_seed]), (q_now, cO 1 [.int v_now_people, .ref q_now_weights, .ref q_now_marks, .ref q_now_ageing, .int v_now_alive, .int v_now_reported, .int v_now_mornings, .int v_now_years]), (q_now_weights, cA E 3 v_now_weights), (q_now_marks, cA E 18 v_now_marks)]) [0, 1, 2, 3] rfl (by decide) ?_
  refine x_if_ne (tgt := 10) (pc' := 7) hZ dX3_chance_4 (by decide) rfl (fun c4 => ?_) (fun c4 => ?_)
  · replace h := h.1 c4
    refine x_aload_n (pc' := 11) hZ dX3_chance_10 rfl 0 rfl ?_
    refine g_RX3_19 (pc' := 14) hZ dX3_chance_11 rfl 0 rfl rfl ?_
    refine g_RX3_82 (pc' := 17) hZ dX3_chance_14 rfl 1 rfl rfl ?_
    refine x_if_ne (tgt := 23) (pc' := 20) hZ dX3_chance_17 (by decide) rfl (fun c17 => ?_) (fun c17 => ?_)
    · replace h := h.1 c17
      refine x_iconst (v := 0) (pc' := 24) hZ (by decide) dX3_chance_23 rfl ?_
      refine x_istore_n (i := 3) (pc' := 25) (lv' := [(3, .int 0), (0, .ref q_this), (1, .int l1), (2, .int l2)]) hZ dX3_chance_24 rfl rfl (by decide) rfl ?_
      refine x_iconst (v := 0) (pc' := 26) hZ (by decide) dX3_chance_25 rfl ?_
      refine x_istore (i := 4) (pc' := 28) (lv' := [(4, .int 0), (3, .int 0), (0, .ref q_this), (1, .int l1), (2, .int l2)]) hZ dX3_chance_26 rfl (by decide) rfl ?_
      refine x_iconst (v := 0) (pc' := 29) hZ (by decide) dX3_chance_28 rfl ?_
      refine x_istore (i := 5) (pc' := 31) (lv' := [(5, .int 0), (4, .int 0), (3, .int 0), (0, .ref q_this), (1, .int l1), (2, .int l2)]) hZ dX3_chance_29 rfl (by decide) rfl ?_
      refine x_lv [3, 4, 5, 2, 1, 0] (lv' := [(0, .ref q_this), (1, .int l1), (2, .int l2), (3, .int 0), (4, .int 0), (5, .int 0)]) rfl ?_
      obtain ⟨k31, h⟩ := h
      refine t_X3_chance_31 E Z q_this q_text q_now q_trial q_choosing q_acts q_slots q_isKept q_heardPerson q_heardIs q_now_weights q_now_marks q_now_ageing v_nextAct v_actCount v_heardCount v_seed v_now_people v_now_alive v_now_reported v_now_mornings v_now_years v_now_weights v_now_marks l1 l2 hZ  _ 0 0 0 h (fun l3_31 l4_31 l5_31 h => ?_)
      refine x_iload_n (pc' := 93) hZ dX3_chance_92 rfl 1 rfl ?_
      refine x_iload (pc' := 95) hZ dX3_chance_93 rfl 2 rfl ?_
      refine x_iload_n (pc' := 96) hZ dX3_chance_95 rfl 0 rfl ?_
      refine k_RX3_194 (pc' := 99) (as := [.int l3_31, .int l4_31, .int l2]) (rest := []) (c' := 0) (n' := 0) (wr := [(q_this, cO 3 [.ref q_text, .ref q_now, .ref q_trial, .ref q_choosing, .ref q_acts, .int v_nextAct, .int v_actCount, .ref q_slots, .ref q_isKept, .ref q_heardPerson, .ref q_heardIs, .int v_heardCount, .long v_seed]), (q_now, cO 1 [.int v_now_people, .ref q_now_weights, .ref q_now_marks, .ref q_now_ageing, .int v_now_alive, .int v_now_reported, .int v_now_mornings, .int v_now_years]), (q_now_weights, cA E 3 v_now_weights), (q_now_marks, cA E 18 v_now_marks)]) hZ (c_X3_partOfFraction E l3_31 l4_31 l2 _ h) dX3_chance_96 rfl rfl rfl rfl rfl (Nat.le_of_ble_eq_true rfl) (Nat.le_of_ble_eq_true rfl) (Nat.le_of_ble_eq_true rfl) rfl rfl (Nat.le_of_ble_eq_true rfl) (Nat.le_of_ble_eq_true rfl) [] [0, 1, 2, 3] rfl rfl (by decide) (by decide) (by decide) (fun r96 w96 hw => ?_)
      obtain ⟨rfl, h⟩ := hw
      refine x_ws (ws' := [(q_this, cO 3 [.ref q_text, .ref q_now, .ref q_trial, .ref q_choosing, .ref q_acts, .int v_nextAct, .int v_actCount, .ref q_slots, .ref q_isKept, .ref q_heardPerson, .ref q_heardIs, .int v_heardCount, .long v_seed]), (q_now, cO 1 [.int v_now_people, .ref q_now_weights, .ref q_now_marks, .ref q_now_ageing, .int v_now_alive, .int v_now_reported, .int v_now_mornings, .int v_now_years]), (q_now_weights, cA E 3 v_now_weights), (q_now_marks, cA E 18 v_now_marks)]) [0, 1, 2, 3] rfl (by decide) ?_
      exact hRet _ _ _ _ dX3_chance_99 ⟨rfl, h⟩
    · replace h := h.2 c17
      refine x_bipush (v := (-3)) (pc' := 22) hZ (by decide) dX3_chance_20 rfl ?_
      exact hRet _ _ _ _ dX3_chance_22 ⟨rfl, h⟩
  · replace h := h.2 c4
    refine x_bipush (v := (-2)) (pc' := 9) hZ (by decide) dX3_chance_7 rfl ?_
    exact hRet _ _ _ _ dX3_chance_9 ⟨rfl, h⟩
set_option maxHeartbeats 4000000 in
set_option maxRecDepth 100000 in
theorem c_X3_seed (E : XE) (q_this : Nat) (q_text : Nat) (q_now : Nat) (q_trial : Nat) (q_choosing : Nat) (q_acts : Nat) (q_slots : Nat) (q_isKept : Nat) (q_heardPerson : Nat) (q_heardIs : Nat) (v_nextAct : Int32) (v_actCount : Int32) (v_heardCount : Int32) (v_seed : Int64) (l1 : Int64) (post : Int64 → Int64 → Prop) (h : p_X3_seed v_seed l1 post) : ConL E yX3_seed cX3_seed 5 { frames := 0, cells := 0, slots := 0, locals := 0 } 0 0 [.ref q_this, .long l1] [(q_this, cO 3 [.ref q_text, .ref q_now, .ref q_trial, .ref q_choosing, .ref q_acts, .int v_nextAct, .int v_actCount, .ref q_slots, .ref q_isKept, .ref q_heardPerson, .ref q_heardIs, .int v_heardCount, .long v_seed])] (fun r w => ∃ (u_seed : Int64), w = [(q_this, cO 3 [.ref q_text, .ref q_now, .ref q_trial, .ref q_choosing, .ref q_acts, .int v_nextAct, .int v_actCount, .ref q_slots, .ref q_isKept, .ref q_heardPerson, .ref q_heardIs, .int v_heardCount, .long u_seed])] ∧ post r u_seed) := by
  refine ConL.of (by decide +kernel) (Nat.le_of_ble_eq_true rfl) (fun Z hZ hI hRet => ?_)
  replace hZ : XOK E Z RX3 cX3_seed 5 { frames := 0, cells := 0, slots := 0, locals := 0 } := hZ
  clear hI
  show XW E Z 0 0 [(q_this, cO 3 [.ref q_text, .ref q_now, .ref q_trial, .ref q_choosing, .ref q_acts, .int v_nextAct, .int v_actCount, .ref q_slots, .ref q_isKept, .ref q_heardPerson, .ref q_heardIs, .int v_heardCount, .long v_seed])] [(0, .ref q_this), (1, .long l1)] [] 0
  unfold p_X3_seed at h
  refine x_aload_n (pc' := 1) hZ dX3_seed_0 rfl 0 rfl ?_
  refine g_RX3_60 (pc' := 4) hZ dX3_seed_1 rfl 0 rfl rfl ?_
  refine x_lstore_n (i := 3) (pc' := 5) (lv' := [(3, .long v_seed), (0, .ref q_this), (1, .long l1)]) hZ dX3_seed_4 rfl rfl (by decide) rfl ?_
  refine x_aload_n (pc' := 6) hZ dX3_seed_5 rfl 1 rfl ?_
  refine x_lload_n (pc' := 7) hZ dX3_seed_6 rfl 2 rfl ?_
  refine s_RX3_60 (pc' := 10) (ws' := [(q_this, cO 3 [.ref q_text, .ref q_now, .ref q_trial, .ref q_choosing, .ref q_acts, .int v_nextAct, .int v_actCount, .ref q_slots, .ref q_isKept, .ref q_heardPerson, .ref q_heardIs, .int v_heardCount, .long l1])]) hZ dX3_seed_7 rfl 0 rfl (Nat.le_of_ble_eq_true rfl) rfl ?_
  refine x_lload_n (pc' := 11) hZ dX3_seed_10 rfl 0 rfl ?_
  exact hRet _ _ _ _ dX3_seed_11 ⟨_, rfl, h⟩
set_option maxHeartbeats 4000000 in
set_option maxRecDepth 100000 in
theorem t_X3_hunted_37 (E : XE) (Z : ZC) (q_this : Nat) (q_text : Nat) (q_now : Nat) (q_trial : Nat) (q_choosing : Nat) (q_acts : Nat) (q_slots : Nat) (q_isKept : Nat) (q_heardPerson : Nat) (q_heardIs : Nat) (q_now_weights : Nat) (q_now_marks : Nat) (q_now_ageing : Nat) (v_nextAct : Int32) (v_actCount : Int32) (v_heardCount : Int32) (v_now_people : Int32) (v_now_alive : Int32) (v_now_reported : Int32) (v_now_mornings : Int32) (v_now_years : Int32) (l1 : Int32) {K : Int32 → Int32 → Int64 → Prop} (hZ : XOK E Z RX3 cX3_hunted 5 { frames := 1, cells := 0, slots := 0, locals := 20 }) : ∀ (k : Nat) (l2 : Int32) (l3 : Int32) (v_seed : Int64), wl (fun rec v => b_X3_hunted_37 l1 v_now_people K rec v.1 v.2.1 v.2.2) k (l2, l3, v_seed) → (∀ (l2 : Int32) (l3 : Int32) (v_seed : Int64), K l2 l3 v_seed → XW E Z 0 0 [(q_this, cO 3 [.ref q_text, .ref q_now, .ref q_trial, .ref q_choosing, .ref q_acts, .int v_nextAct, .int v_actCount, .ref q_slots, .ref q_isKept, .ref q_heardPerson, .ref q_heardIs, .int v_heardCount, .long v_seed]), (q_now, cO 1 [.int v_now_people, .ref q_now_weights, .ref q_now_marks, .ref q_now_ageing, .int v_now_alive, .int v_now_reported, .int v_now_mornings, .int v_now_years])] [(2, .int l2)] [] 96) → XW E Z 0 0 [(q_this, cO 3 [.ref q_text, .ref q_now, .ref q_trial, .ref q_choosing, .ref q_acts, .int v_nextAct, .int v_actCount, .ref q_slots, .ref q_isKept, .ref q_heardPerson, .ref q_heardIs, .int v_heardCount, .long v_seed]), (q_now, cO 1 [.int v_now_people, .ref q_now_weights, .ref q_now_marks, .ref q_now_ageing, .int v_now_alive, .int v_now_reported, .int v_now_mornings, .int v_now_years])] [(0, .ref q_this), (1, .int l1), (2, .int l2), (3, .int l3)] [] 37 := by
  intro k
  induction k with
  | zero =>
    intro l2 l3 v_seed h
    exact h.elim
  | succ k ih =>
    intro l2 l3 v_seed h hK
    replace h := wl_succ h
    try dsimp only at h
    unfold b_X3_hunted_37 at h
    refine x_iload_n (pc' := 38) hZ dX3_hunted_37 rfl 3 rfl ?_
    refine x_iload_n (pc' := 39) hZ dX3_hunted_38 rfl 1 rfl ?_
    refine x_icmp_ge (tgt := 96) (pc' := 42) hZ dX3_hunted_39 (by decide) rfl (fun c39 => ?_) (fun c39 => ?_)
    · replace h := h.1 c39
      refine x_lv [2] (lv' := [(2, .int l2)]) rfl ?_
      exact hK l2 l3 v_seed h
    · replace h := h.2 c39
      refine x_aload_n (pc' := 43) hZ dX3_hunted_42 rfl 0 rfl ?_
      refine x_aload_n (pc' := 44) hZ dX3_hunted_43 rfl 0 rfl ?_
      refine g_RX3_60 (pc' := 47) hZ dX3_hunted_44 rfl 0 rfl rfl ?_
      refine x_ldc2 (v := 6364136223846793005) (pc' := 50) hZ kl_RX3_213 dX3_hunted_47 rfl ?_
      refine x_lmul (pc' := 51) hZ dX3_hunted_50 rfl ?_
      refine x_ldc2 (v := 1442695040888963407) (pc' := 54) hZ kl_RX3_215 dX3_hunted_51 rfl ?_
      refine x_ladd (pc' := 55) hZ dX3_hunted_54 rfl ?_
      refine x_topl (fun x55 e55 => ?_)
      replace h := h x55 e55
      refine s_RX3_60 (pc' := 58) (ws' := [(q_this, cO 3 [.ref q_text, .ref q_now, .ref q_trial, .ref q_choosing, .ref q_acts, .int v_nextAct, .int v_actCount, .ref q_slots, .ref q_isKept, .ref q_heardPerson, .ref q_heardIs, .int v_heardCount, .long x55]), (q_now, cO 1 [.int v_now_people, .ref q_now_weights, .ref q_now_marks, .ref q_now_ageing, .int v_now_alive, .int v_now_reported, .int v_now_mornings, .int v_now_years])]) hZ dX3_hunted_55 rfl 0 rfl (Nat.le_of_ble_eq_true rfl) rfl ?_
      refine x_aload_n (pc' := 59) hZ dX3_hunted_58 rfl 0 rfl ?_
      refine g_RX3_60 (pc' := 62) hZ dX3_hunted_59 rfl 0 rfl rfl ?_
      refine x_bipush (v := 33) (pc' := 64) hZ (by decide) dX3_hunted_62 rfl ?_
      refine x_lushr (pc' := 65) hZ dX3_hunted_64 rfl ?_
      refine x_l2i (pc' := 66) hZ dX3_hunted_65 rfl ?_
      refine x_aload_n (pc' := 67) hZ dX3_hunted_66 rfl 0 rfl ?_
      refine g_RX3_19 (pc' := 70) hZ dX3_hunted_67 rfl 0 rfl rfl ?_
      refine g_RX3_82 (pc' := 73) hZ dX3_hunted_70 rfl 1 rfl rfl ?_
      obtain ⟨h73, h⟩ := h
      refine x_irem (pc' := 74) hZ h73 dX3_hunted_73 rfl ?_
      refine x_topi (fun x74 e74 => ?_)
      replace h := h x74 e74
      refine x_istore (i := 4) (pc' := 76) (lv' := [(4, .int x74), (0, .ref q_this), (1, .int l1), (2, .int l2), (3, .int l3)]) hZ dX3_hunted_74 rfl (by decide) rfl ?_
      refine x_iload (pc' := 78) hZ dX3_hunted_76 rfl 0 rfl ?_
      refine x_if_eq (tgt := 90) (pc' := 81) hZ dX3_hunted_78 (by decide) rfl (fun c78 => ?_) (fun c78 => ?_)
      · replace h := h.1 c78
        obtain ⟨x90, e90⟩ : ∃ y : Int32, y = l3 + 1 := ⟨_, rfl⟩
        replace h := h x90 e90
        refine x_iinc (i := 3) (v := x90) (pc' := 93) (lv' := [(3, .int x90), (4, .int x74), (0, .ref q_this), (1, .int l1), (2, .int l2)]) hZ dX3_hunted_90 rfl 4 rfl (by rw [e90]; rfl) (by decide) rfl ?_
        refine x_goto (pc' := 37) hZ dX3_hunted_93 (by decide) ?_
        refine x_lv [2, 3, 4, 0] (lv' := [(0, .ref q_this), (1, .int l1), (2, .int l2), (3, .int x90)]) rfl ?_
        exact ih l2 x90 x55 h hK
      · replace h := h.2 c78
        refine x_iload_n (pc' := 82) hZ dX3_hunted_81 rfl 3 rfl ?_
        refine x_iconst (v := 1) (pc' := 83) hZ (by decide) dX3_hunted_82 rfl ?_
        refine x_iload (pc' := 85) hZ dX3_hunted_83 rfl 0 rfl ?_
        refine x_ishl (pc' := 86) hZ dX3_hunted_85 rfl ?_
        refine x_iconst (v := (-1)) (pc' := 87) hZ (by decide) dX3_hunted_86 rfl ?_
        refine x_ixor (pc' := 88) hZ dX3_hunted_87 rfl ?_
        refine x_iand (pc' := 89) hZ dX3_hunted_88 rfl ?_
        refine x_topi (fun x89 e89 => ?_)
        replace h := h x89 e89
        refine x_istore_n (i := 2) (pc' := 90) (lv' := [(2, .int x89), (4, .int x74), (0, .ref q_this), (1, .int l1), (3, .int l3)]) hZ dX3_hunted_89 rfl rfl (by decide) rfl ?_
        obtain ⟨x90, e90⟩ : ∃ y : Int32, y = l3 + 1 := ⟨_, rfl⟩
        replace h := h x90 e90
        refine x_iinc (i := 3) (v := x90) (pc' := 93) (lv' := [(3, .int x90), (2, .int x89), (4, .int x74), (0, .ref q_this), (1, .int l1)]) hZ dX3_hunted_90 rfl 4 rfl (by rw [e90]; rfl) (by decide) rfl ?_
        refine x_goto (pc' := 37) hZ dX3_hunted_93 (by decide) ?_
        refine x_lv [3, 4, 1, 0] (lv' := [(0, .ref q_this), (1, .int l1), (2, .int x89), (3, .int x90)]) rfl ?_
        exact ih x89 x90 x55 h hK
set_option maxHeartbeats 4000000 in
set_option maxRecDepth 100000 in
theorem c_X3_hunted (E : XE) (q_this : Nat) (q_text : Nat) (q_now : Nat) (q_trial : Nat) (q_choosing : Nat) (q_acts : Nat) (q_slots : Nat) (q_isKept : Nat) (q_heardPerson : Nat) (q_heardIs : Nat) (q_now_weights : Nat) (q_now_marks : Nat) (q_now_ageing : Nat) (v_nextAct : Int32) (v_actCount : Int32) (v_heardCount : Int32) (v_seed : Int64) (v_now_people : Int32) (v_now_alive : Int32) (v_now_reported : Int32) (v_now_mornings : Int32) (v_now_years : Int32) (l1 : Int32) (post : Int32 → Int64 → Prop) (h : p_X3_hunted v_seed v_now_people v_now_alive l1 post) : ConI E yX3_hunted cX3_hunted 5 .int { frames := 1, cells := 0, slots := 0, locals := 20 } 0 0 [.ref q_this, .int l1] [(q_this, cO 3 [.ref q_text, .ref q_now, .ref q_trial, .ref q_choosing, .ref q_acts, .int v_nextAct, .int v_actCount, .ref q_slots, .ref q_isKept, .ref q_heardPerson, .ref q_heardIs, .int v_heardCount, .long v_seed]), (q_now, cO 1 [.int v_now_people, .ref q_now_weights, .ref q_now_marks, .ref q_now_ageing, .int v_now_alive, .int v_now_reported, .int v_now_mornings, .int v_now_years])] (fun r w => ∃ (u_seed : Int64), w = [(q_this, cO 3 [.ref q_text, .ref q_now, .ref q_trial, .ref q_choosing, .ref q_acts, .int v_nextAct, .int v_actCount, .ref q_slots, .ref q_isKept, .ref q_heardPerson, .ref q_heardIs, .int v_heardCount, .long u_seed]), (q_now, cO 1 [.int v_now_people, .ref q_now_weights, .ref q_now_marks, .ref q_now_ageing, .int v_now_alive, .int v_now_reported, .int v_now_mornings, .int v_now_years])] ∧ post r u_seed) := by
  refine ConI.of (by decide +kernel) (Nat.le_of_ble_eq_true rfl) (fun Z hZ hI hRet => ?_)
  replace hZ : XOK E Z RX3 cX3_hunted 5 { frames := 1, cells := 0, slots := 0, locals := 20 } := hZ
  clear hI
  show XW E Z 0 0 [(q_this, cO 3 [.ref q_text, .ref q_now, .ref q_trial, .ref q_choosing, .ref q_acts, .int v_nextAct, .int v_actCount, .ref q_slots, .ref q_isKept, .ref q_heardPerson, .ref q_heardIs, .int v_heardCount, .long v_seed]), (q_now, cO 1 [.int v_now_people, .ref q_now_weights, .ref q_now_marks, .ref q_now_ageing, .int v_now_alive, .int v_now_reported, .int v_now_mornings, .int v_now_years])] [(0, .ref q_this), (1, .int l1)] [] 0
  unfold p_X3_hunted at h
  refine x_iload_n (pc' := 1) hZ dX3_hunted_0 rfl 1 rfl ?_
  refine x_iconst (v := 1) (pc' := 2) hZ (by decide) dX3_hunted_1 rfl ?_
  refine x_icmp_lt (tgt := 11) (pc' := 5) hZ dX3_hunted_2 (by decide) rfl (fun c2 => ?_) (fun c2 => ?_)
  · replace h := h.1 c2
    refine x_bipush (v := (-2)) (pc' := 13) hZ (by decide) dX3_hunted_11 rfl ?_
    exact hRet _ _ _ _ dX3_hunted_13 ⟨_, rfl, h⟩
  · replace h := h.2 c2
    refine x_iload_n (pc' := 6) hZ dX3_hunted_5 rfl 1 rfl ?_
    refine x_bipush (v := 30) (pc' := 8) hZ (by decide) dX3_hunted_6 rfl ?_
    refine x_icmp_le (tgt := 14) (pc' := 11) hZ dX3_hunted_8 (by decide) rfl (fun c8 => ?_) (fun c8 => ?_)
    · replace h := h.1 c8
      refine x_aload_n (pc' := 15) hZ dX3_hunted_14 rfl 0 rfl ?_
      refine g_RX3_19 (pc' := 18) hZ dX3_hunted_15 rfl 0 rfl rfl ?_
      refine g_RX3_82 (pc' := 21) hZ dX3_hunted_18 rfl 1 rfl rfl ?_
      refine x_if_ne (tgt := 27) (pc' := 24) hZ dX3_hunted_21 (by decide) rfl (fun c21 => ?_) (fun c21 => ?_)
      · replace h := h.1 c21
        refine x_aload_n (pc' := 28) hZ dX3_hunted_27 rfl 0 rfl ?_
        refine g_RX3_19 (pc' := 31) hZ dX3_hunted_28 rfl 0 rfl rfl ?_
        refine g_RX3_85 (pc' := 34) hZ dX3_hunted_31 rfl 1 rfl rfl ?_
        refine x_istore_n (i := 2) (pc' := 35) (lv' := [(2, .int v_now_alive), (0, .ref q_this), (1, .int l1)]) hZ dX3_hunted_34 rfl rfl (by decide) rfl ?_
        refine x_iconst (v := 0) (pc' := 36) hZ (by decide) dX3_hunted_35 rfl ?_
        refine x_istore_n (i := 3) (pc' := 37) (lv' := [(3, .int 0), (2, .int v_now_alive), (0, .ref q_this), (1, .int l1)]) hZ dX3_hunted_36 rfl rfl (by decide) rfl ?_
        refine x_lv [2, 3, 1, 0] (lv' := [(0, .ref q_this), (1, .int l1), (2, .int v_now_alive), (3, .int 0)]) rfl ?_
        obtain ⟨k37, h⟩ := h
        refine t_X3_hunted_37 E Z q_this q_text q_now q_trial q_choosing q_acts q_slots q_isKept q_heardPerson q_heardIs q_now_weights q_now_marks q_now_ageing v_nextAct v_actCount v_heardCount v_now_people v_now_alive v_now_reported v_now_mornings v_now_years l1 hZ  _ v_now_alive 0 v_seed h (fun l2_37 l3_37 v_seed_37 h => ?_)
        refine x_iload_n (pc' := 97) hZ dX3_hunted_96 rfl 0 rfl ?_
        refine k_RX3_164 (pc' := 100) (as := [.int l2_37]) (rest := []) (c' := 0) (n' := 0) (wr := [(q_this, cO 3 [.ref q_text, .ref q_now, .ref q_trial, .ref q_choosing, .ref q_acts, .int v_nextAct, .int v_actCount, .ref q_slots, .ref q_isKept, .ref q_heardPerson, .ref q_heardIs, .int v_heardCount, .long v_seed_37]), (q_now, cO 1 [.int v_now_people, .ref q_now_weights, .ref q_now_marks, .ref q_now_ageing, .int v_now_alive, .int v_now_reported, .int v_now_mornings, .int v_now_years])]) hZ (c_J6_bitCount_0f7a4 E l2_37 _ h) dX3_hunted_97 rfl rfl rfl rfl rfl (Nat.le_of_ble_eq_true rfl) (Nat.le_of_ble_eq_true rfl) (Nat.le_of_ble_eq_true rfl) rfl rfl (Nat.le_of_ble_eq_true rfl) (Nat.le_of_ble_eq_true rfl) [] [0, 1] rfl rfl (by decide) (by decide) (by decide) (fun r97 w97 hw => ?_)
        obtain ⟨rfl, h⟩ := hw
        refine x_ws (ws' := [(q_this, cO 3 [.ref q_text, .ref q_now, .ref q_trial, .ref q_choosing, .ref q_acts, .int v_nextAct, .int v_actCount, .ref q_slots, .ref q_isKept, .ref q_heardPerson, .ref q_heardIs, .int v_heardCount, .long v_seed_37]), (q_now, cO 1 [.int v_now_people, .ref q_now_weights, .ref q_now_marks, .ref q_now_ageing, .int v_now_alive, .int v_now_reported, .int v_now_mornings, .int v_now_years])]) [0, 1] rfl (by decide) ?_
        exact hRet _ _ _ _ dX3_hunted_100 ⟨_, rfl, h⟩
      · replace h := h.2 c21
        refine x_bipush (v := (-3)) (pc' := 26) hZ (by decide) dX3_hunted_24 rfl ?_
        exact hRet _ _ _ _ dX3_hunted_26 ⟨_, rfl, h⟩
    · replace h := h.2 c8
      refine x_bipush (v := (-2)) (pc' := 13) hZ (by decide) dX3_hunted_11 rfl ?_
      exact hRet _ _ _ _ dX3_hunted_13 ⟨_, rfl, h⟩
set_option maxHeartbeats 4000000 in
set_option maxRecDepth 100000 in
theorem c_X3_keep (E : XE) (q_this : Nat) (q_text : Nat) (q_now : Nat) (q_trial : Nat) (q_choosing : Nat) (q_acts : Nat) (q_slots : Nat) (q_isKept : Nat) (q_heardPerson : Nat) (q_heardIs : Nat) (q_now_weights : Nat) (q_now_marks : Nat) (q_now_ageing : Nat) (v_nextAct : Int32) (v_actCount : Int32) (v_heardCount : Int32) (v_seed : Int64) (v_now_people : Int32) (v_now_alive : Int32) (v_now_reported : Int32) (v_now_mornings : Int32) (v_now_years : Int32) (v_now_weights : Nat → Int32) (v_now_marks : Nat → Int32) (v_slots : Nat → Int32) (v_isKept : Nat → Int32) (l1 : Int32) (post : Int32 → (Nat → Int32) → (Nat → Int32) → Prop) (h : p_X3_keep v_now_alive v_now_reported v_now_mornings v_now_years v_now_weights v_now_marks v_slots v_isKept l1 post) : ConI E yX3_keep cX3_keep 2 .int { frames := 2, cells := 0, slots := 0, locals := 42 } 0 0 [.ref q_this, .int l1] [(q_this, cO 3 [.ref q_text, .ref q_now, .ref q_trial, .ref q_choosing, .ref q_acts, .int v_nextAct, .int v_actCount, .ref q_slots, .ref q_isKept, .ref q_heardPerson, .ref q_heardIs, .int v_heardCount, .long v_seed]), (q_now, cO 1 [.int v_now_people, .ref q_now_weights, .ref q_now_marks, .ref q_now_ageing, .int v_now_alive, .int v_now_reported, .int v_now_mornings, .int v_now_years]), (q_now_weights, cA E 3 v_now_weights), (q_now_marks, cA E 18 v_now_marks), (q_slots, cA E 50 v_slots), (q_isKept, cB E 2 v_isKept)] (fun r w => ∃ (u_slots : Nat → Int32) (u_isKept : Nat → Int32), w = [(q_this, cO 3 [.ref q_text, .ref q_now, .ref q_trial, .ref q_choosing, .ref q_acts, .int v_nextAct, .int v_actCount, .ref q_slots, .ref q_isKept, .ref q_heardPerson, .ref q_heardIs, .int v_heardCount, .long v_seed]), (q_now, cO 1 [.int v_now_people, .ref q_now_weights, .ref q_now_marks, .ref q_now_ageing, .int v_now_alive, .int v_now_reported, .int v_now_mornings, .int v_now_years]), (q_now_weights, cA E 3 v_now_weights), (q_now_marks, cA E 18 v_now_marks), (q_slots, cA E 50 u_slots), (q_isKept, cB E 2 u_isKept)] ∧ post r u_slots u_isKept) := by
  refine ConI.of (by decide +kernel) (Nat.le_of_ble_eq_true rfl) (fun Z hZ hI hRet => ?_)
  replace hZ : XOK E Z RX3 cX3_keep 2 { frames := 2, cells := 0, slots := 0, locals := 42 } := hZ
  clear hI
  show XW E Z 0 0 [(q_this, cO 3 [.ref q_text, .ref q_now, .ref q_trial, .ref q_choosing, .ref q_acts, .int v_nextAct, .int v_actCount, .ref q_slots, .ref q_isKept, .ref q_heardPerson, .ref q_heardIs, .int v_heardCount, .long v_seed]), (q_now, cO 1 [.int v_now_people, .ref q_now_weights, .ref q_now_marks, .ref q_now_ageing, .int v_now_alive, .int v_now_reported, .int v_now_mornings, .int v_now_years]), (q_now_weights, cA E 3 v_now_weights), (q_now_marks, cA E 18 v_now_marks), (q_slots, cA E 50 v_slots), (q_isKept, cB E 2 v_isKept)] [(0, .ref q_this), (1, .int l1)] [] 0
  unfold p_X3_keep at h
  refine x_iload_n (pc' := 1) hZ dX3_keep_0 rfl 1 rfl ?_
  refine x_if_lt (tgt := 9) (pc' := 4) hZ dX3_keep_1 (by decide) rfl (fun c1 => ?_) (fun c1 => ?_)
  · replace h := h.1 c1
    refine x_iconst (v := (-1)) (pc' := 10) hZ (by decide) dX3_keep_9 rfl ?_
    exact hRet _ _ _ _ dX3_keep_10 ⟨_, _, rfl, h⟩
  · replace h := h.2 c1
    refine x_iload_n (pc' := 5) hZ dX3_keep_4 rfl 1 rfl ?_
    refine x_iconst (v := 2) (pc' := 6) hZ (by decide) dX3_keep_5 rfl ?_
    refine x_icmp_lt (tgt := 11) (pc' := 9) hZ dX3_keep_6 (by decide) rfl (fun c6 => ?_) (fun c6 => ?_)
    · replace h := h.1 c6
      refine x_aload_n (pc' := 12) hZ dX3_keep_11 rfl 0 rfl ?_
      refine g_RX3_19 (pc' := 15) hZ dX3_keep_12 rfl 0 rfl rfl ?_
      refine x_aload_n (pc' := 16) hZ dX3_keep_15 rfl 0 rfl ?_
      refine g_RX3_44 (pc' := 19) hZ dX3_keep_16 rfl 0 rfl rfl ?_
      refine x_iload_n (pc' := 20) hZ dX3_keep_19 rfl 1 rfl ?_
      refine k_RX3_217 (pc' := 23) (q0 := 1) (as := [.ref q_slots, .int l1]) (rest := []) (c' := 0) (n' := 0) (wr := [(q_this, cO 3 [.ref q_text, .ref q_now, .ref q_trial, .ref q_choosing, .ref q_acts, .int v_nextAct, .int v_actCount, .ref q_slots, .ref q_isKept, .ref q_heardPerson, .ref q_heardIs, .int v_heardCount, .long v_seed]), (q_isKept, cB E 2 v_isKept)]) hZ (c_X1_packInto E q_now q_now_weights q_now_marks q_now_ageing q_slots 50 v_now_people v_now_alive v_now_reported v_now_mornings v_now_years v_now_weights v_now_marks v_slots l1 _ h) rfl dX3_keep_20 rfl rfl rfl rfl rfl (Nat.le_of_ble_eq_true rfl) (Nat.le_of_ble_eq_true rfl) (Nat.le_of_ble_eq_true rfl) rfl rfl (Nat.le_of_ble_eq_true rfl) (Nat.le_of_ble_eq_true rfl) [1, 2, 3, 4] [0, 5] rfl rfl (by decide) (by decide) (by decide) (fun w20 hw => ?_)
      obtain ⟨a20_0, rfl, h⟩ := hw
      refine x_ws (ws' := [(q_this, cO 3 [.ref q_text, .ref q_now, .ref q_trial, .ref q_choosing, .ref q_acts, .int v_nextAct, .int v_actCount, .ref q_slots, .ref q_isKept, .ref q_heardPerson, .ref q_heardIs, .int v_heardCount, .long v_seed]), (q_now, cO 1 [.int v_now_people, .ref q_now_weights, .ref q_now_marks, .ref q_now_ageing, .int v_now_alive, .int v_now_reported, .int v_now_mornings, .int v_now_years]), (q_now_weights, cA E 3 v_now_weights), (q_now_marks, cA E 18 v_now_marks), (q_slots, cA E 50 a20_0), (q_isKept, cB E 2 v_isKept)]) [0, 2, 3, 4, 5, 1] rfl (by decide) ?_
      refine x_aload_n (pc' := 24) hZ dX3_keep_23 rfl 0 rfl ?_
      refine g_RX3_47 (pc' := 27) hZ dX3_keep_24 rfl 0 rfl rfl ?_
      refine x_iload_n (pc' := 28) hZ dX3_keep_27 rfl 1 rfl ?_
      refine x_iconst (v := 1) (pc' := 29) hZ (by decide) dX3_keep_28 rfl ?_
      obtain ⟨h29, h⟩ := h
      refine x_zast (pc' := 30) (ws' := [(q_this, cO 3 [.ref q_text, .ref q_now, .ref q_trial, .ref q_choosing, .ref q_acts, .int v_nextAct, .int v_actCount, .ref q_slots, .ref q_isKept, .ref q_heardPerson, .ref q_heardIs, .int v_heardCount, .long v_seed]), (q_now, cO 1 [.int v_now_people, .ref q_now_weights, .ref q_now_marks, .ref q_now_ageing, .int v_now_alive, .int v_now_reported, .int v_now_mornings, .int v_now_years]), (q_now_weights, cA E 3 v_now_weights), (q_now_marks, cA E 18 v_now_marks), (q_slots, cA E 50 a20_0), (q_isKept, cB E 2 (upd v_isKept (ix l1) (jbool 1)))]) hZ h29 dX3_keep_29 rfl 5 rfl rfl ?_
      refine x_aload_n (pc' := 31) hZ dX3_keep_30 rfl 0 rfl ?_
      refine g_RX3_19 (pc' := 34) hZ dX3_keep_31 rfl 0 rfl rfl ?_
      refine k_RX3_132 (pc' := 37) (q0 := 1) (as := []) (rest := []) (c' := 0) (n' := 0) (wr := [(q_this, cO 3 [.ref q_text, .ref q_now, .ref q_trial, .ref q_choosing, .ref q_acts, .int v_nextAct, .int v_actCount, .ref q_slots, .ref q_isKept, .ref q_heardPerson, .ref q_heardIs, .int v_heardCount, .long v_seed]), (q_now_weights, cA E 3 v_now_weights), (q_now_marks, cA E 18 v_now_marks), (q_slots, cA E 50 a20_0), (q_isKept, cB E 2 (upd v_isKept (ix l1) (jbool 1)))]) hZ (c_X1_aliveCount E q_now q_now_weights q_now_marks q_now_ageing v_now_people v_now_alive v_now_reported v_now_mornings v_now_years _ h) rfl dX3_keep_34 rfl rfl rfl rfl rfl (Nat.le_of_ble_eq_true rfl) (Nat.le_of_ble_eq_true rfl) (Nat.le_of_ble_eq_true rfl) rfl rfl (Nat.le_of_ble_eq_true rfl) (Nat.le_of_ble_eq_true rfl) [1] [0, 2, 3, 4, 5] rfl rfl (by decide) (by decide) (by decide) (fun r34 w34 hw => ?_)
      obtain ⟨rfl, h⟩ := hw
      refine x_ws (ws' := [(q_this, cO 3 [.ref q_text, .ref q_now, .ref q_trial, .ref q_choosing, .ref q_acts, .int v_nextAct, .int v_actCount, .ref q_slots, .ref q_isKept, .ref q_heardPerson, .ref q_heardIs, .int v_heardCount, .long v_seed]), (q_now, cO 1 [.int v_now_people, .ref q_now_weights, .ref q_now_marks, .ref q_now_ageing, .int v_now_alive, .int v_now_reported, .int v_now_mornings, .int v_now_years]), (q_now_weights, cA E 3 v_now_weights), (q_now_marks, cA E 18 v_now_marks), (q_slots, cA E 50 a20_0), (q_isKept, cB E 2 (upd v_isKept (ix l1) (jbool 1)))]) [0, 5, 1, 2, 3, 4] rfl (by decide) ?_
      exact hRet _ _ _ _ dX3_keep_37 ⟨_, _, rfl, h⟩
    · replace h := h.2 c6
      refine x_iconst (v := (-1)) (pc' := 10) hZ (by decide) dX3_keep_9 rfl ?_
      exact hRet _ _ _ _ dX3_keep_10 ⟨_, _, rfl, h⟩
set_option maxHeartbeats 4000000 in
set_option maxRecDepth 100000 in
theorem c_X3_again (E : XE) (q_this : Nat) (q_text : Nat) (q_now : Nat) (q_trial : Nat) (q_choosing : Nat) (q_acts : Nat) (q_slots : Nat) (q_isKept : Nat) (q_heardPerson : Nat) (q_heardIs : Nat) (q_now_weights : Nat) (q_now_marks : Nat) (q_now_ageing : Nat) (v_nextAct : Int32) (v_actCount : Int32) (v_heardCount : Int32) (v_seed : Int64) (v_now_people : Int32) (v_now_alive : Int32) (v_now_reported : Int32) (v_now_mornings : Int32) (v_now_years : Int32) (v_now_weights : Nat → Int32) (v_now_marks : Nat → Int32) (v_slots : Nat → Int32) (v_isKept : Nat → Int32) (l1 : Int32) (post : Int32 → Int32 → Int32 → Int32 → Int32 → Int32 → Int32 → (Nat → Int32) → (Nat → Int32) → Prop) (h : p_X3_again v_nextAct v_actCount v_now_alive v_now_reported v_now_mornings v_now_years v_now_weights v_now_marks v_slots v_isKept l1 post) : ConI E yX3_again cX3_again 2 .int { frames := 2, cells := 0, slots := 0, locals := 42 } 0 0 [.ref q_this, .int l1] [(q_this, cO 3 [.ref q_text, .ref q_now, .ref q_trial, .ref q_choosing, .ref q_acts, .int v_nextAct, .int v_actCount, .ref q_slots, .ref q_isKept, .ref q_heardPerson, .ref q_heardIs, .int v_heardCount, .long v_seed]), (q_now, cO 1 [.int v_now_people, .ref q_now_weights, .ref q_now_marks, .ref q_now_ageing, .int v_now_alive, .int v_now_reported, .int v_now_mornings, .int v_now_years]), (q_now_weights, cA E 3 v_now_weights), (q_now_marks, cA E 18 v_now_marks), (q_slots, cA E 50 v_slots), (q_isKept, cB E 2 v_isKept)] (fun r w => ∃ (u_nextAct : Int32) (u_actCount : Int32) (u_now_alive : Int32) (u_now_reported : Int32) (u_now_mornings : Int32) (u_now_years : Int32) (u_now_weights : Nat → Int32) (u_now_marks : Nat → Int32), w = [(q_this, cO 3 [.ref q_text, .ref q_now, .ref q_trial, .ref q_choosing, .ref q_acts, .int u_nextAct, .int u_actCount, .ref q_slots, .ref q_isKept, .ref q_heardPerson, .ref q_heardIs, .int v_heardCount, .long v_seed]), (q_now, cO 1 [.int v_now_people, .ref q_now_weights, .ref q_now_marks, .ref q_now_ageing, .int u_now_alive, .int u_now_reported, .int u_now_mornings, .int u_now_years]), (q_now_weights, cA E 3 u_now_weights), (q_now_marks, cA E 18 u_now_marks), (q_slots, cA E 50 v_slots), (q_isKept, cB E 2 v_isKept)] ∧ post r u_nextAct u_actCount u_now_alive u_now_reported u_now_mornings u_now_years u_now_weights u_now_marks) := by
  refine ConI.of (by decide +kernel) (Nat.le_of_ble_eq_true rfl) (fun Z hZ hI hRet => ?_)
  replace hZ : XOK E Z RX3 cX3_again 2 { frames := 2, cells := 0, slots := 0, locals := 42 } := hZ
  clear hI
  show XW E Z 0 0 [(q_this, cO 3 [.ref q_text, .ref q_now, .ref q_trial, .ref q_choosing, .ref q_acts, .int v_nextAct, .int v_actCount, .ref q_slots, .ref q_isKept, .ref q_heardPerson, .ref q_heardIs, .int v_heardCount, .long v_seed]), (q_now, cO 1 [.int v_now_people, .ref q_now_weights, .ref q_now_marks, .ref q_now_ageing, .int v_now_alive, .int v_now_reported, .int v_now_mornings, .int v_now_years]), (q_now_weights, cA E 3 v_now_weights), (q_now_marks, cA E 18 v_now_marks), (q_slots, cA E 50 v_slots), (q_isKept, cB E 2 v_isKept)] [(0, .ref q_this), (1, .int l1)] [] 0
  unfold p_X3_again at h
  refine x_iload_n (pc' := 1) hZ dX3_again_0 rfl 1 rfl ?_
  refine x_if_lt (tgt := 9) (pc' := 4) hZ dX3_again_1 (by decide) rfl (fun c1 => ?_) (fun c1 => ?_)
  · replace h := h.1 c1
    refine x_iconst (v := (-1)) (pc' := 10) hZ (by decide) dX3_again_9 rfl ?_
    exact hRet _ _ _ _ dX3_again_10 ⟨_, _, _, _, _, _, _, _, rfl, h⟩
  · replace h := h.2 c1
    refine x_iload_n (pc' := 5) hZ dX3_again_4 rfl 1 rfl ?_
    refine x_iconst (v := 2) (pc' := 6) hZ (by decide) dX3_again_5 rfl ?_
    refine x_icmp_lt (tgt := 11) (pc' := 9) hZ dX3_again_6 (by decide) rfl (fun c6 => ?_) (fun c6 => ?_)
    · replace h := h.1 c6
      refine x_aload_n (pc' := 12) hZ dX3_again_11 rfl 0 rfl ?_
      refine g_RX3_47 (pc' := 15) hZ dX3_again_12 rfl 0 rfl rfl ?_
      refine x_iload_n (pc' := 16) hZ dX3_again_15 rfl 1 rfl ?_
      obtain ⟨h16, h⟩ := h
      refine x_zald (pc' := 17) hZ h16 dX3_again_16 rfl 5 rfl ?_
      refine x_if_ne (tgt := 23) (pc' := 20) hZ dX3_again_17 (by decide) rfl (fun c17 => ?_) (fun c17 => ?_)
      · replace h := h.1 c17
        refine x_aload_n (pc' := 24) hZ dX3_again_23 rfl 0 rfl ?_
        refine g_RX3_19 (pc' := 27) hZ dX3_again_24 rfl 0 rfl rfl ?_
        refine x_aload_n (pc' := 28) hZ dX3_again_27 rfl 0 rfl ?_
        refine g_RX3_44 (pc' := 31) hZ dX3_again_28 rfl 0 rfl rfl ?_
        refine x_iload_n (pc' := 32) hZ dX3_again_31 rfl 1 rfl ?_
        refine k_RX3_135 (pc' := 35) (q0 := 1) (as := [.ref q_slots, .int l1]) (rest := []) (c' := 0) (n' := 0) (wr := [(q_this, cO 3 [.ref q_text, .ref q_now, .ref q_trial, .ref q_choosing, .ref q_acts, .int v_nextAct, .int v_actCount, .ref q_slots, .ref q_isKept, .ref q_heardPerson, .ref q_heardIs, .int v_heardCount, .long v_seed]), (q_isKept, cB E 2 v_isKept)]) hZ (c_X1_unpackFrom E q_now q_now_weights q_now_marks q_now_ageing q_slots 50 v_now_people v_now_alive v_now_reported v_now_mornings v_now_years v_now_weights v_now_marks v_slots l1 _ h) rfl dX3_again_32 rfl rfl rfl rfl rfl (Nat.le_of_ble_eq_true rfl) (Nat.le_of_ble_eq_true rfl) (Nat.le_of_ble_eq_true rfl) rfl rfl (Nat.le_of_ble_eq_true rfl) (Nat.le_of_ble_eq_true rfl) [1, 2, 3, 4] [0, 5] rfl rfl (by decide) (by decide) (by decide) (fun w32 hw => ?_)
        obtain ⟨a32_0, a32_1, a32_2, a32_3, a32_4, a32_5, rfl, h⟩ := hw
        refine x_ws (ws' := [(q_this, cO 3 [.ref q_text, .ref q_now, .ref q_trial, .ref q_choosing, .ref q_acts, .int v_nextAct, .int v_actCount, .ref q_slots, .ref q_isKept, .ref q_heardPerson, .ref q_heardIs, .int v_heardCount, .long v_seed]), (q_now, cO 1 [.int v_now_people, .ref q_now_weights, .ref q_now_marks, .ref q_now_ageing, .int a32_0, .int a32_1, .int a32_2, .int a32_3]), (q_now_weights, cA E 3 a32_4), (q_now_marks, cA E 18 a32_5), (q_slots, cA E 50 v_slots), (q_isKept, cB E 2 v_isKept)]) [0, 2, 3, 4, 5, 1] rfl (by decide) ?_
        refine x_aload_n (pc' := 36) hZ dX3_again_35 rfl 0 rfl ?_
        refine k_RX3_79 (pc' := 39) (q0 := 0) (as := []) (rest := []) (c' := 0) (n' := 0) (wr := [(q_now, cO 1 [.int v_now_people, .ref q_now_weights, .ref q_now_marks, .ref q_now_ageing, .int a32_0, .int a32_1, .int a32_2, .int a32_3]), (q_now_weights, cA E 3 a32_4), (q_now_marks, cA E 18 a32_5), (q_slots, cA E 50 v_slots), (q_isKept, cB E 2 v_isKept)]) hZ (c_X3_forgetActs E q_this q_text q_now q_trial q_choosing q_acts q_slots q_isKept q_heardPerson q_heardIs v_nextAct v_actCount v_heardCount v_seed _ h) rfl dX3_again_36 rfl rfl rfl rfl rfl (Nat.le_of_ble_eq_true rfl) (Nat.le_of_ble_eq_true rfl) (Nat.le_of_ble_eq_true rfl) rfl rfl (Nat.le_of_ble_eq_true rfl) (Nat.le_of_ble_eq_true rfl) [0] [1, 2, 3, 4, 5] rfl rfl (by decide) (by decide) (by decide) (fun w36 hw => ?_)
        obtain ⟨a36_0, a36_1, rfl, h⟩ := hw
        refine x_ws (ws' := [(q_this, cO 3 [.ref q_text, .ref q_now, .ref q_trial, .ref q_choosing, .ref q_acts, .int a36_0, .int a36_1, .ref q_slots, .ref q_isKept, .ref q_heardPerson, .ref q_heardIs, .int v_heardCount, .long v_seed]), (q_now, cO 1 [.int v_now_people, .ref q_now_weights, .ref q_now_marks, .ref q_now_ageing, .int a32_0, .int a32_1, .int a32_2, .int a32_3]), (q_now_weights, cA E 3 a32_4), (q_now_marks, cA E 18 a32_5), (q_slots, cA E 50 v_slots), (q_isKept, cB E 2 v_isKept)]) [5, 0, 1, 2, 3, 4] rfl (by decide) ?_
        refine x_aload_n (pc' := 40) hZ dX3_again_39 rfl 0 rfl ?_
        refine g_RX3_19 (pc' := 43) hZ dX3_again_40 rfl 0 rfl rfl ?_
        refine k_RX3_132 (pc' := 46) (q0 := 1) (as := []) (rest := []) (c' := 0) (n' := 0) (wr := [(q_this, cO 3 [.ref q_text, .ref q_now, .ref q_trial, .ref q_choosing, .ref q_acts, .int a36_0, .int a36_1, .ref q_slots, .ref q_isKept, .ref q_heardPerson, .ref q_heardIs, .int v_heardCount, .long v_seed]), (q_now_weights, cA E 3 a32_4), (q_now_marks, cA E 18 a32_5), (q_slots, cA E 50 v_slots), (q_isKept, cB E 2 v_isKept)]) hZ (c_X1_aliveCount E q_now q_now_weights q_now_marks q_now_ageing v_now_people a32_0 a32_1 a32_2 a32_3 _ h) rfl dX3_again_43 rfl rfl rfl rfl rfl (Nat.le_of_ble_eq_true rfl) (Nat.le_of_ble_eq_true rfl) (Nat.le_of_ble_eq_true rfl) rfl rfl (Nat.le_of_ble_eq_true rfl) (Nat.le_of_ble_eq_true rfl) [1] [0, 2, 3, 4, 5] rfl rfl (by decide) (by decide) (by decide) (fun r43 w43 hw => ?_)
        obtain ⟨rfl, h⟩ := hw
        refine x_ws (ws' := [(q_this, cO 3 [.ref q_text, .ref q_now, .ref q_trial, .ref q_choosing, .ref q_acts, .int a36_0, .int a36_1, .ref q_slots, .ref q_isKept, .ref q_heardPerson, .ref q_heardIs, .int v_heardCount, .long v_seed]), (q_now, cO 1 [.int v_now_people, .ref q_now_weights, .ref q_now_marks, .ref q_now_ageing, .int a32_0, .int a32_1, .int a32_2, .int a32_3]), (q_now_weights, cA E 3 a32_4), (q_now_marks, cA E 18 a32_5), (q_slots, cA E 50 v_slots), (q_isKept, cB E 2 v_isKept)]) [0, 5, 1, 2, 3, 4] rfl (by decide) ?_
        exact hRet _ _ _ _ dX3_again_46 ⟨_, _, _, _, _, _, _, _, rfl, h⟩
      · replace h := h.2 c17
        refine x_bipush (v := (-3)) (pc' := 22) hZ (by decide) dX3_again_20 rfl ?_
        exact hRet _ _ _ _ dX3_again_22 ⟨_, _, _, _, _, _, _, _, rfl, h⟩
    · replace h := h.2 c6
      refine x_iconst (v := (-1)) (pc' := 10) hZ (by decide) dX3_again_9 rfl ?_
      exact hRet _ _ _ _ dX3_again_10 ⟨_, _, _, _, _, _, _, _, rfl, h⟩
