/-! walks, laid by program -/
set_option maxHeartbeats 4000000 in
set_option maxRecDepth 100000 in
theorem c_X0_init (E : XE) (q_this : Nat) (post : Int32 → Int32 → (Nat → Int32) → (Nat → Int32) → (Nat → Int32) → Prop) (h : p_X0_init  post) : ConV E yX0_init cX0_init 1 { frames := 1, cells := 3, slots := 264, locals := 12 } 3 264 [.ref q_this] [(q_this, cO 0 [.null, .null, .null, .int 0, .int 0])] (fun w => ∃ (q_values : Nat) (q_turnOf : Nat) (q_ends : Nat) (v_choosers : Int32) (v_queenValue : Int32) (v_values : Nat → Int32) (v_turnOf : Nat → Int32) (v_ends : Nat → Int32), w = [(q_this, cO 0 [.ref q_values, .ref q_turnOf, .ref q_ends, .int v_choosers, .int v_queenValue]), (q_values, cA E 15 v_values), (q_turnOf, cA E 6 v_turnOf), (q_ends, cA E 243 v_ends)] ∧ post v_choosers v_queenValue v_values v_turnOf v_ends) := by
  refine ConV.of (by decide +kernel) (Nat.le_of_ble_eq_true rfl) (fun Z hZ hI hRet => ?_)
  replace hZ : XOK E Z RX0 cX0_init 1 { frames := 1, cells := 3, slots := 264, locals := 12 } := hZ
  replace hI : XNm Z "<init>" := hI
  show XW E Z 0 0 [(q_this, cO 0 [.null, .null, .null, .int 0, .int 0])] [(0, .ref q_this)] [] 0
  unfold p_X0_init at h
  refine x_aload_n (pc' := 1) hZ dX0_init_0 rfl 0 rfl ?_
  refine x_objInit (pc' := 4) hZ kl_RX0_3 dX0_init_1 rfl (Nat.le_of_ble_eq_true rfl) (Nat.le_of_ble_eq_true rfl) ?_
  refine x_aload_n (pc' := 5) hZ dX0_init_4 rfl 0 rfl ?_
  refine x_bipush (v := 15) (pc' := 7) hZ (by decide) dX0_init_5 rfl ?_
  refine x_newi (pc' := 9) (z := 15) (c' := 1) (n' := 15) hZ kA_int dX0_init_7 rfl (by decide) (by decide) (Nat.le_of_ble_eq_true rfl) rfl rfl (Nat.le_of_ble_eq_true rfl) (Nat.le_of_ble_eq_true rfl) (fun q7 => ?_)
  refine x_ws (ws' := [(q_this, cO 0 [.null, .null, .null, .int 0, .int 0]), (q7, cA E 15 (fun _ => 0))]) [0, 1] rfl (by decide) ?_
  refine s_RX0_11 (pc' := 12) (ws' := [(q_this, cO 0 [.ref q7, .null, .null, .int 0, .int 0]), (q7, cA E 15 (fun _ => 0))]) hZ hI dX0_init_9 rfl 0 rfl (Nat.le_of_ble_eq_true rfl) rfl ?_
  refine x_aload_n (pc' := 13) hZ dX0_init_12 rfl 0 rfl ?_
  refine x_bipush (v := 6) (pc' := 15) hZ (by decide) dX0_init_13 rfl ?_
  refine x_newi (pc' := 17) (z := 6) (c' := 2) (n' := 21) hZ kA_int dX0_init_15 rfl (by decide) (by decide) (Nat.le_of_ble_eq_true rfl) rfl rfl (Nat.le_of_ble_eq_true rfl) (Nat.le_of_ble_eq_true rfl) (fun q15 => ?_)
  refine x_ws (ws' := [(q_this, cO 0 [.ref q7, .null, .null, .int 0, .int 0]), (q7, cA E 15 (fun _ => 0)), (q15, cA E 6 (fun _ => 0))]) [0, 1, 2] rfl (by decide) ?_
  refine s_RX0_15 (pc' := 20) (ws' := [(q_this, cO 0 [.ref q7, .ref q15, .null, .int 0, .int 0]), (q7, cA E 15 (fun _ => 0)), (q15, cA E 6 (fun _ => 0))]) hZ hI dX0_init_17 rfl 0 rfl (Nat.le_of_ble_eq_true rfl) rfl ?_
  refine x_aload_n (pc' := 21) hZ dX0_init_20 rfl 0 rfl ?_
  refine x_sipush (v := 243) (pc' := 24) hZ (by decide) dX0_init_21 rfl ?_
  refine x_newi (pc' := 26) (z := 243) (c' := 3) (n' := 264) hZ kA_int dX0_init_24 rfl (by decide) (by decide) (Nat.le_of_ble_eq_true rfl) rfl rfl (Nat.le_of_ble_eq_true rfl) (Nat.le_of_ble_eq_true rfl) (fun q24 => ?_)
  refine x_ws (ws' := [(q_this, cO 0 [.ref q7, .ref q15, .null, .int 0, .int 0]), (q7, cA E 15 (fun _ => 0)), (q15, cA E 6 (fun _ => 0)), (q24, cA E 243 (fun _ => 0))]) [0, 1, 2, 3] rfl (by decide) ?_
  refine s_RX0_18 (pc' := 29) (ws' := [(q_this, cO 0 [.ref q7, .ref q15, .ref q24, .int 0, .int 0]), (q7, cA E 15 (fun _ => 0)), (q15, cA E 6 (fun _ => 0)), (q24, cA E 243 (fun _ => 0))]) hZ hI dX0_init_26 rfl 0 rfl (Nat.le_of_ble_eq_true rfl) rfl ?_
  refine x_aload_n (pc' := 30) hZ dX0_init_29 rfl 0 rfl ?_
  refine x_iconst (v := 0) (pc' := 31) hZ (by decide) dX0_init_30 rfl ?_
  refine s_RX0_21 (pc' := 34) (ws' := [(q_this, cO 0 [.ref q7, .ref q15, .ref q24, .int 0, .int 0]), (q7, cA E 15 (fun _ => 0)), (q15, cA E 6 (fun _ => 0)), (q24, cA E 243 (fun _ => 0))]) hZ dX0_init_31 rfl 0 rfl (Nat.le_of_ble_eq_true rfl) rfl ?_
  refine x_aload_n (pc' := 35) hZ dX0_init_34 rfl 0 rfl ?_
  refine x_iconst (v := 0) (pc' := 36) hZ (by decide) dX0_init_35 rfl ?_
  refine s_RX0_25 (pc' := 39) (ws' := [(q_this, cO 0 [.ref q7, .ref q15, .ref q24, .int 0, .int 0]), (q7, cA E 15 (fun _ => 0)), (q15, cA E 6 (fun _ => 0)), (q24, cA E 243 (fun _ => 0))]) hZ dX0_init_36 rfl 0 rfl (Nat.le_of_ble_eq_true rfl) rfl ?_
  exact hRet _ _ _ dX0_init_39 ⟨_, _, _, _, _, _, _, _, rfl, h⟩
set_option maxHeartbeats 4000000 in
set_option maxRecDepth 100000 in
theorem t_X0_meet_44 (E : XE) (Z : ZC) (q_this : Nat) (q_values : Nat) (q_turnOf : Nat) (q_ends : Nat) (q_a1 : Nat) (q_a1_weights : Nat) (q_a1_marks : Nat) (q_a1_ageing : Nat) (v_choosers : Int32) (v_queenValue : Int32) (v_turnOf : Nat → Int32) (v_a1_people : Int32) (v_a1_alive : Int32) (v_a1_reported : Int32) (v_a1_mornings : Int32) (v_a1_years : Int32) (v_a1_weights : Nat → Int32) (v_a1_marks : Nat → Int32) (l2 : Int32) {K : Int32 → (Nat → Int32) → Prop} (hZ : XOK E Z RX0 cX0_meet 4 { frames := 2, cells := 0, slots := 0, locals := 39 }) : ∀ (k : Nat) (l3 : Int32) (v_values : (Nat → Int32)), wl (fun rec v => b_X0_meet_44 l2 v_choosers v_a1_weights v_a1_marks K rec v.1 v.2) k (l3, v_values) → (∀ (l3 : Int32) (v_values : (Nat → Int32)), K l3 v_values → XW E Z 0 0 [(q_this, cO 0 [.ref q_values, .ref q_turnOf, .ref q_ends, .int v_choosers, .int v_queenValue]), (q_values, cA E 15 v_values), (q_turnOf, cA E 6 v_turnOf), (q_a1, cO 1 [.int v_a1_people, .ref q_a1_weights, .ref q_a1_marks, .ref q_a1_ageing, .int v_a1_alive, .int v_a1_reported, .int v_a1_mornings, .int v_a1_years]), (q_a1_weights, cA E 3 v_a1_weights), (q_a1_marks, cA E 18 v_a1_marks)] [(0, .ref q_this), (1, .ref q_a1), (2, .int l2)] [] 74) → XW E Z 0 0 [(q_this, cO 0 [.ref q_values, .ref q_turnOf, .ref q_ends, .int v_choosers, .int v_queenValue]), (q_values, cA E 15 v_values), (q_turnOf, cA E 6 v_turnOf), (q_a1, cO 1 [.int v_a1_people, .ref q_a1_weights, .ref q_a1_marks, .ref q_a1_ageing, .int v_a1_alive, .int v_a1_reported, .int v_a1_mornings, .int v_a1_years]), (q_a1_weights, cA E 3 v_a1_weights), (q_a1_marks, cA E 18 v_a1_marks)] [(0, .ref q_this), (1, .ref q_a1), (2, .int l2), (3, .int l3)] [] 44 := by
  intro k
  induction k with
  | zero =>
    intro l3 v_values h
    exact h.elim
  | succ k ih =>
    intro l3 v_values h hK
    replace h := wl_succ h
    try dsimp only at h
    unfold b_X0_meet_44 at h
    refine x_iload_n (pc' := 45) hZ dX0_meet_44 rfl 3 rfl ?_
    refine x_iconst (v := 3) (pc' := 46) hZ (by decide) dX0_meet_45 rfl ?_
    refine x_icmp_ge (tgt := 74) (pc' := 49) hZ dX0_meet_46 (by decide) rfl (fun c46 => ?_) (fun c46 => ?_)
    · replace h := h.1 c46
      refine x_lv [0, 1, 2] (lv' := [(0, .ref q_this), (1, .ref q_a1), (2, .int l2)]) rfl ?_
      exact hK l3 v_values h
    · replace h := h.2 c46
      refine x_aload_n (pc' := 50) hZ dX0_meet_49 rfl 0 rfl ?_
      refine g_RX0_11 (pc' := 53) hZ dX0_meet_50 rfl 0 rfl rfl ?_
      refine x_aload_n (pc' := 54) hZ dX0_meet_53 rfl 0 rfl ?_
      refine g_RX0_21 (pc' := 57) hZ dX0_meet_54 rfl 0 rfl rfl ?_
      refine x_iconst (v := 3) (pc' := 58) hZ (by decide) dX0_meet_57 rfl ?_
      refine x_imul (pc' := 59) hZ dX0_meet_58 rfl ?_
      refine x_iload_n (pc' := 60) hZ dX0_meet_59 rfl 3 rfl ?_
      refine x_iadd (pc' := 61) hZ dX0_meet_60 rfl ?_
      refine x_aload_n (pc' := 62) hZ dX0_meet_61 rfl 1 rfl ?_
      refine x_iload_n (pc' := 63) hZ dX0_meet_62 rfl 2 rfl ?_
      refine x_iload_n (pc' := 64) hZ dX0_meet_63 rfl 3 rfl ?_
      refine k_RX0_52 (pc' := 67) (q0 := 3) (as := [.int l2, .int l3]) (rest := [.int ((v_choosers * 3) + l3), .ref q_values]) (c' := 0) (n' := 0) (wr := [(q_this, cO 0 [.ref q_values, .ref q_turnOf, .ref q_ends, .int v_choosers, .int v_queenValue]), (q_values, cA E 15 v_values), (q_turnOf, cA E 6 v_turnOf)]) hZ (c_X1_valueIfPlain E q_a1 q_a1_weights q_a1_marks q_a1_ageing v_a1_people v_a1_alive v_a1_reported v_a1_mornings v_a1_years v_a1_weights v_a1_marks l2 l3 _ h) rfl dX0_meet_64 rfl rfl rfl rfl rfl (Nat.le_of_ble_eq_true rfl) (Nat.le_of_ble_eq_true rfl) (Nat.le_of_ble_eq_true rfl) rfl rfl (Nat.le_of_ble_eq_true rfl) (Nat.le_of_ble_eq_true rfl) [3, 4, 5] [0, 1, 2] rfl rfl (by decide) (by decide) (by decide) (fun r64 w64 hw => ?_)
      obtain ⟨rfl, h⟩ := hw
      refine x_ws (ws' := [(q_this, cO 0 [.ref q_values, .ref q_turnOf, .ref q_ends, .int v_choosers, .int v_queenValue]), (q_values, cA E 15 v_values), (q_turnOf, cA E 6 v_turnOf), (q_a1, cO 1 [.int v_a1_people, .ref q_a1_weights, .ref q_a1_marks, .ref q_a1_ageing, .int v_a1_alive, .int v_a1_reported, .int v_a1_mornings, .int v_a1_years]), (q_a1_weights, cA E 3 v_a1_weights), (q_a1_marks, cA E 18 v_a1_marks)]) [0, 1, 2, 3, 4, 5] rfl (by decide) ?_
      obtain ⟨h67, h⟩ := h
      refine x_iast (pc' := 68) (ws' := [(q_this, cO 0 [.ref q_values, .ref q_turnOf, .ref q_ends, .int v_choosers, .int v_queenValue]), (q_values, cA E 15 (upd v_values (ix ((v_choosers * 3) + l3)) r64)), (q_turnOf, cA E 6 v_turnOf), (q_a1, cO 1 [.int v_a1_people, .ref q_a1_weights, .ref q_a1_marks, .ref q_a1_ageing, .int v_a1_alive, .int v_a1_reported, .int v_a1_mornings, .int v_a1_years]), (q_a1_weights, cA E 3 v_a1_weights), (q_a1_marks, cA E 18 v_a1_marks)]) hZ h67 dX0_meet_67 rfl 1 rfl rfl ?_
      obtain ⟨x68, e68⟩ : ∃ y : Int32, y = l3 + 1 := ⟨_, rfl⟩
      replace h := h x68 e68
      refine x_iinc (i := 3) (v := x68) (pc' := 71) (lv' := [(3, .int x68), (0, .ref q_this), (1, .ref q_a1), (2, .int l2)]) hZ dX0_meet_68 rfl 3 rfl (by rw [e68]; rfl) (by decide) rfl ?_
      refine x_goto (pc' := 44) hZ dX0_meet_71 (by decide) ?_
      refine x_lv [1, 2, 3, 0] (lv' := [(0, .ref q_this), (1, .ref q_a1), (2, .int l2), (3, .int x68)]) rfl ?_
      exact ih x68 (upd v_values (ix ((v_choosers * 3) + l3)) r64) h hK
set_option maxHeartbeats 4000000 in
set_option maxRecDepth 100000 in
theorem t_X0_meet_16 (E : XE) (Z : ZC) (q_this : Nat) (q_values : Nat) (q_turnOf : Nat) (q_ends : Nat) (q_a1 : Nat) (q_a1_weights : Nat) (q_a1_marks : Nat) (q_a1_ageing : Nat) (v_queenValue : Int32) (v_a1_people : Int32) (v_a1_alive : Int32) (v_a1_reported : Int32) (v_a1_mornings : Int32) (v_a1_years : Int32) (v_a1_weights : Nat → Int32) (v_a1_marks : Nat → Int32) {K : Int32 → Int32 → (Nat → Int32) → (Nat → Int32) → Prop} (hZ : XOK E Z RX0 cX0_meet 4 { frames := 2, cells := 0, slots := 0, locals := 39 }) : ∀ (k : Nat) (l2 : Int32) (v_choosers : Int32) (v_values : (Nat → Int32)) (v_turnOf : (Nat → Int32)), wl (fun rec v => b_X0_meet_16 v_a1_people v_a1_alive v_a1_weights v_a1_marks K rec v.1 v.2.1 v.2.2.1 v.2.2.2) k (l2, v_choosers, v_values, v_turnOf) → (∀ (l2 : Int32) (v_choosers : Int32) (v_values : (Nat → Int32)) (v_turnOf : (Nat → Int32)), K l2 v_choosers v_values v_turnOf → XW E Z 0 0 [(q_this, cO 0 [.ref q_values, .ref q_turnOf, .ref q_ends, .int v_choosers, .int v_queenValue]), (q_values, cA E 15 v_values), (q_turnOf, cA E 6 v_turnOf), (q_a1, cO 1 [.int v_a1_people, .ref q_a1_weights, .ref q_a1_marks, .ref q_a1_ageing, .int v_a1_alive, .int v_a1_reported, .int v_a1_mornings, .int v_a1_years]), (q_a1_weights, cA E 3 v_a1_weights), (q_a1_marks, cA E 18 v_a1_marks)] [] [] 90) → XW E Z 0 0 [(q_this, cO 0 [.ref q_values, .ref q_turnOf, .ref q_ends, .int v_choosers, .int v_queenValue]), (q_values, cA E 15 v_values), (q_turnOf, cA E 6 v_turnOf), (q_a1, cO 1 [.int v_a1_people, .ref q_a1_weights, .ref q_a1_marks, .ref q_a1_ageing, .int v_a1_alive, .int v_a1_reported, .int v_a1_mornings, .int v_a1_years]), (q_a1_weights, cA E 3 v_a1_weights), (q_a1_marks, cA E 18 v_a1_marks)] [(0, .ref q_this), (1, .ref q_a1), (2, .int l2)] [] 16 := by
  intro k
  induction k with
  | zero =>
    intro l2 v_choosers v_values v_turnOf h
    exact h.elim
  | succ k ih =>
    intro l2 v_choosers v_values v_turnOf h hK
    replace h := wl_succ h
    try dsimp only at h
    unfold b_X0_meet_16 at h
    refine x_iload_n (pc' := 17) hZ dX0_meet_16 rfl 2 rfl ?_
    refine x_aload_n (pc' := 18) hZ dX0_meet_17 rfl 1 rfl ?_
    refine g_RX0_45 (pc' := 21) hZ dX0_meet_18 rfl 3 rfl rfl ?_
    refine x_icmp_ge (tgt := 90) (pc' := 24) hZ dX0_meet_21 (by decide) rfl (fun c21 => ?_) (fun c21 => ?_)
    · replace h := h.1 c21
      refine x_lv [] (lv' := []) rfl ?_
      exact hK l2 v_choosers v_values v_turnOf h
    · replace h := h.2 c21
      refine x_aload_n (pc' := 25) hZ dX0_meet_24 rfl 1 rfl ?_
      refine x_iload_n (pc' := 26) hZ dX0_meet_25 rfl 2 rfl ?_
      refine k_RX0_48 (pc' := 29) (q0 := 3) (as := [.int l2]) (rest := []) (c' := 0) (n' := 0) (wr := [(q_this, cO 0 [.ref q_values, .ref q_turnOf, .ref q_ends, .int v_choosers, .int v_queenValue]), (q_values, cA E 15 v_values), (q_turnOf, cA E 6 v_turnOf), (q_a1_weights, cA E 3 v_a1_weights), (q_a1_marks, cA E 18 v_a1_marks)]) hZ (c_X1_isAlive E q_a1 q_a1_weights q_a1_marks q_a1_ageing v_a1_people v_a1_alive v_a1_reported v_a1_mornings v_a1_years l2 _ h) rfl dX0_meet_26 rfl rfl rfl rfl rfl (Nat.le_of_ble_eq_true rfl) (Nat.le_of_ble_eq_true rfl) (Nat.le_of_ble_eq_true rfl) rfl rfl (Nat.le_of_ble_eq_true rfl) (Nat.le_of_ble_eq_true rfl) [3] [0, 1, 2, 4, 5] rfl rfl (by decide) (by decide) (by decide) (fun r26 w26 hw => ?_)
      obtain ⟨rfl, h⟩ := hw
      refine x_ws (ws' := [(q_this, cO 0 [.ref q_values, .ref q_turnOf, .ref q_ends, .int v_choosers, .int v_queenValue]), (q_values, cA E 15 v_values), (q_turnOf, cA E 6 v_turnOf), (q_a1, cO 1 [.int v_a1_people, .ref q_a1_weights, .ref q_a1_marks, .ref q_a1_ageing, .int v_a1_alive, .int v_a1_reported, .int v_a1_mornings, .int v_a1_years]), (q_a1_weights, cA E 3 v_a1_weights), (q_a1_marks, cA E 18 v_a1_marks)]) [0, 1, 2, 5, 3, 4] rfl (by decide) ?_
      refine x_if_eq (tgt := 84) (pc' := 32) hZ dX0_meet_29 (by decide) rfl (fun c29 => ?_) (fun c29 => ?_)
      · replace h := h.1 c29
        obtain ⟨x84, e84⟩ : ∃ y : Int32, y = l2 + 1 := ⟨_, rfl⟩
        replace h := h x84 e84
        refine x_iinc (i := 2) (v := x84) (pc' := 87) (lv' := [(2, .int x84), (0, .ref q_this), (1, .ref q_a1)]) hZ dX0_meet_84 rfl 2 rfl (by rw [e84]; rfl) (by decide) rfl ?_
        refine x_goto (pc' := 16) hZ dX0_meet_87 (by decide) ?_
        refine x_lv [1, 2, 0] (lv' := [(0, .ref q_this), (1, .ref q_a1), (2, .int x84)]) rfl ?_
        exact ih x84 v_choosers v_values v_turnOf h hK
      · replace h := h.2 c29
        refine x_aload_n (pc' := 33) hZ dX0_meet_32 rfl 0 rfl ?_
        refine g_RX0_15 (pc' := 36) hZ dX0_meet_33 rfl 0 rfl rfl ?_
        refine x_iload_n (pc' := 37) hZ dX0_meet_36 rfl 2 rfl ?_
        refine x_aload_n (pc' := 38) hZ dX0_meet_37 rfl 0 rfl ?_
        refine g_RX0_21 (pc' := 41) hZ dX0_meet_38 rfl 0 rfl rfl ?_
        obtain ⟨h41, h⟩ := h
        refine x_iast (pc' := 42) (ws' := [(q_this, cO 0 [.ref q_values, .ref q_turnOf, .ref q_ends, .int v_choosers, .int v_queenValue]), (q_values, cA E 15 v_values), (q_turnOf, cA E 6 (upd v_turnOf (ix l2) v_choosers)), (q_a1, cO 1 [.int v_a1_people, .ref q_a1_weights, .ref q_a1_marks, .ref q_a1_ageing, .int v_a1_alive, .int v_a1_reported, .int v_a1_mornings, .int v_a1_years]), (q_a1_weights, cA E 3 v_a1_weights), (q_a1_marks, cA E 18 v_a1_marks)]) hZ h41 dX0_meet_41 rfl 2 rfl rfl ?_
        refine x_iconst (v := 0) (pc' := 43) hZ (by decide) dX0_meet_42 rfl ?_
        refine x_istore_n (i := 3) (pc' := 44) (lv' := [(3, .int 0), (0, .ref q_this), (1, .ref q_a1), (2, .int l2)]) hZ dX0_meet_43 rfl rfl (by decide) rfl ?_
        refine x_lv [1, 2, 3, 0] (lv' := [(0, .ref q_this), (1, .ref q_a1), (2, .int l2), (3, .int 0)]) rfl ?_
        obtain ⟨k44, h⟩ := h
        refine t_X0_meet_44 E Z q_this q_values q_turnOf q_ends q_a1 q_a1_weights q_a1_marks q_a1_ageing v_choosers v_queenValue (upd v_turnOf (ix l2) v_choosers) v_a1_people v_a1_alive v_a1_reported v_a1_mornings v_a1_years v_a1_weights v_a1_marks l2 hZ  _ 0 v_values h (fun l3_44 v_values_44 h => ?_)
        refine x_aload_n (pc' := 75) hZ dX0_meet_74 rfl 0 rfl ?_
        refine x_dup (pc' := 76) hZ dX0_meet_75 rfl rfl ?_
        refine g_RX0_21 (pc' := 79) hZ dX0_meet_76 rfl 0 rfl rfl ?_
        refine x_iconst (v := 1) (pc' := 80) hZ (by decide) dX0_meet_79 rfl ?_
        refine x_iadd (pc' := 81) hZ dX0_meet_80 rfl ?_
        refine x_topi (fun x81 e81 => ?_)
        replace h := h x81 e81
        refine s_RX0_21 (pc' := 84) (ws' := [(q_this, cO 0 [.ref q_values, .ref q_turnOf, .ref q_ends, .int x81, .int v_queenValue]), (q_values, cA E 15 v_values_44), (q_turnOf, cA E 6 (upd v_turnOf (ix l2) v_choosers)), (q_a1, cO 1 [.int v_a1_people, .ref q_a1_weights, .ref q_a1_marks, .ref q_a1_ageing, .int v_a1_alive, .int v_a1_reported, .int v_a1_mornings, .int v_a1_years]), (q_a1_weights, cA E 3 v_a1_weights), (q_a1_marks, cA E 18 v_a1_marks)]) hZ dX0_meet_81 rfl 0 rfl (Nat.le_of_ble_eq_true rfl) rfl ?_
        obtain ⟨x84, e84⟩ : ∃ y : Int32, y = l2 + 1 := ⟨_, rfl⟩
        replace h := h x84 e84
        refine x_iinc (i := 2) (v := x84) (pc' := 87) (lv' := [(2, .int x84), (0, .ref q_this), (1, .ref q_a1)]) hZ dX0_meet_84 rfl 2 rfl (by rw [e84]; rfl) (by decide) rfl ?_
        refine x_goto (pc' := 16) hZ dX0_meet_87 (by decide) ?_
        refine x_lv [1, 2, 0] (lv' := [(0, .ref q_this), (1, .ref q_a1), (2, .int x84)]) rfl ?_
        exact ih x84 x81 v_values_44 (upd v_turnOf (ix l2) v_choosers) h hK
set_option maxHeartbeats 4000000 in
set_option maxRecDepth 100000 in
theorem c_X0_meet (E : XE) (q_this : Nat) (q_values : Nat) (q_turnOf : Nat) (q_ends : Nat) (q_a1 : Nat) (q_a1_weights : Nat) (q_a1_marks : Nat) (q_a1_ageing : Nat) (v_choosers : Int32) (v_queenValue : Int32) (v_values : Nat → Int32) (v_turnOf : Nat → Int32) (v_a1_people : Int32) (v_a1_alive : Int32) (v_a1_reported : Int32) (v_a1_mornings : Int32) (v_a1_years : Int32) (v_a1_weights : Nat → Int32) (v_a1_marks : Nat → Int32) (post : Int32 → Int32 → (Nat → Int32) → (Nat → Int32) → Prop) (h : p_X0_meet v_choosers v_queenValue v_values v_turnOf v_a1_people v_a1_alive v_a1_weights v_a1_marks post) : ConV E yX0_meet cX0_meet 4 { frames := 2, cells := 0, slots := 0, locals := 39 } 0 0 [.ref q_this, .ref q_a1] [(q_this, cO 0 [.ref q_values, .ref q_turnOf, .ref q_ends, .int v_choosers, .int v_queenValue]), (q_values, cA E 15 v_values), (q_turnOf, cA E 6 v_turnOf), (q_a1, cO 1 [.int v_a1_people, .ref q_a1_weights, .ref q_a1_marks, .ref q_a1_ageing, .int v_a1_alive, .int v_a1_reported, .int v_a1_mornings, .int v_a1_years]), (q_a1_weights, cA E 3 v_a1_weights), (q_a1_marks, cA E 18 v_a1_marks)] (fun w => ∃ (u_choosers : Int32) (u_queenValue : Int32) (u_values : Nat → Int32) (u_turnOf : Nat → Int32), w = [(q_this, cO 0 [.ref q_values, .ref q_turnOf, .ref q_ends, .int u_choosers, .int u_queenValue]), (q_values, cA E 15 u_values), (q_turnOf, cA E 6 u_turnOf), (q_a1, cO 1 [.int v_a1_people, .ref q_a1_weights, .ref q_a1_marks, .ref q_a1_ageing, .int v_a1_alive, .int v_a1_reported, .int v_a1_mornings, .int v_a1_years]), (q_a1_weights, cA E 3 v_a1_weights), (q_a1_marks, cA E 18 v_a1_marks)] ∧ post u_choosers u_queenValue u_values u_turnOf) := by
  refine ConV.of (by decide +kernel) (Nat.le_of_ble_eq_true rfl) (fun Z hZ hI hRet => ?_)
  replace hZ : XOK E Z RX0 cX0_meet 4 { frames := 2, cells := 0, slots := 0, locals := 39 } := hZ
  clear hI
  show XW E Z 0 0 [(q_this, cO 0 [.ref q_values, .ref q_turnOf, .ref q_ends, .int v_choosers, .int v_queenValue]), (q_values, cA E 15 v_values), (q_turnOf, cA E 6 v_turnOf), (q_a1, cO 1 [.int v_a1_people, .ref q_a1_weights, .ref q_a1_marks, .ref q_a1_ageing, .int v_a1_alive, .int v_a1_reported, .int v_a1_mornings, .int v_a1_years]), (q_a1_weights, cA E 3 v_a1_weights), (q_a1_marks, cA E 18 v_a1_marks)] [(0, .ref q_this), (1, .ref q_a1)] [] 0
  unfold p_X0_meet at h
  refine x_aload_n (pc' := 1) hZ dX0_meet_0 rfl 0 rfl ?_
  refine x_aload_n (pc' := 2) hZ dX0_meet_1 rfl 1 rfl ?_
  refine x_iconst (v := 0) (pc' := 3) hZ (by decide) dX0_meet_2 rfl ?_
  refine k_RX0_39 (pc' := 6) (q0 := 3) (as := [.int 0]) (rest := [.ref q_this]) (c' := 0) (n' := 0) (wr := [(q_this, cO 0 [.ref q_values, .ref q_turnOf, .ref q_ends, .int v_choosers, .int v_queenValue]), (q_values, cA E 15 v_values), (q_turnOf, cA E 6 v_turnOf)]) hZ (c_X1_valueOf E q_a1 q_a1_weights q_a1_marks q_a1_ageing v_a1_people v_a1_alive v_a1_reported v_a1_mornings v_a1_years v_a1_weights v_a1_marks 0 _ h) rfl dX0_meet_3 rfl rfl rfl rfl rfl (Nat.le_of_ble_eq_true rfl) (Nat.le_of_ble_eq_true rfl) (Nat.le_of_ble_eq_true rfl) rfl rfl (Nat.le_of_ble_eq_true rfl) (Nat.le_of_ble_eq_true rfl) [3, 4, 5] [0, 1, 2] rfl rfl (by decide) (by decide) (by decide) (fun r3 w3 hw => ?_)
  obtain ⟨rfl, h⟩ := hw
  refine x_ws (ws' := [(q_this, cO 0 [.ref q_values, .ref q_turnOf, .ref q_ends, .int v_choosers, .int v_queenValue]), (q_values, cA E 15 v_values), (q_turnOf, cA E 6 v_turnOf), (q_a1, cO 1 [.int v_a1_people, .ref q_a1_weights, .ref q_a1_marks, .ref q_a1_ageing, .int v_a1_alive, .int v_a1_reported, .int v_a1_mornings, .int v_a1_years]), (q_a1_weights, cA E 3 v_a1_weights), (q_a1_marks, cA E 18 v_a1_marks)]) [0, 1, 2, 3, 4, 5] rfl (by decide) ?_
  refine s_RX0_25 (pc' := 9) (ws' := [(q_this, cO 0 [.ref q_values, .ref q_turnOf, .ref q_ends, .int v_choosers, .int r3]), (q_values, cA E 15 v_values), (q_turnOf, cA E 6 v_turnOf), (q_a1, cO 1 [.int v_a1_people, .ref q_a1_weights, .ref q_a1_marks, .ref q_a1_ageing, .int v_a1_alive, .int v_a1_reported, .int v_a1_mornings, .int v_a1_years]), (q_a1_weights, cA E 3 v_a1_weights), (q_a1_marks, cA E 18 v_a1_marks)]) hZ dX0_meet_6 rfl 0 rfl (Nat.le_of_ble_eq_true rfl) rfl ?_
  refine x_aload_n (pc' := 10) hZ dX0_meet_9 rfl 0 rfl ?_
  refine x_iconst (v := 0) (pc' := 11) hZ (by decide) dX0_meet_10 rfl ?_
  refine s_RX0_21 (pc' := 14) (ws' := [(q_this, cO 0 [.ref q_values, .ref q_turnOf, .ref q_ends, .int 0, .int r3]), (q_values, cA E 15 v_values), (q_turnOf, cA E 6 v_turnOf), (q_a1, cO 1 [.int v_a1_people, .ref q_a1_weights, .ref q_a1_marks, .ref q_a1_ageing, .int v_a1_alive, .int v_a1_reported, .int v_a1_mornings, .int v_a1_years]), (q_a1_weights, cA E 3 v_a1_weights), (q_a1_marks, cA E 18 v_a1_marks)]) hZ dX0_meet_11 rfl 0 rfl (Nat.le_of_ble_eq_true rfl) rfl ?_
  refine x_iconst (v := 1) (pc' := 15) hZ (by decide) dX0_meet_14 rfl ?_
  refine x_istore_n (i := 2) (pc' := 16) (lv' := [(2, .int 1), (0, .ref q_this), (1, .ref q_a1)]) hZ dX0_meet_15 rfl rfl (by decide) rfl ?_
  refine x_lv [1, 2, 0] (lv' := [(0, .ref q_this), (1, .ref q_a1), (2, .int 1)]) rfl ?_
  obtain ⟨k16, h⟩ := h
  refine t_X0_meet_16 E Z q_this q_values q_turnOf q_ends q_a1 q_a1_weights q_a1_marks q_a1_ageing r3 v_a1_people v_a1_alive v_a1_reported v_a1_mornings v_a1_years v_a1_weights v_a1_marks hZ  _ 1 0 v_values v_turnOf h (fun l2_16 v_choosers_16 v_values_16 v_turnOf_16 h => ?_)
  exact hRet _ _ _ dX0_meet_90 ⟨_, _, _, _, rfl, h⟩
set_option maxHeartbeats 4000000 in
set_option maxRecDepth 100000 in
theorem c_X0_choiceAt (E : XE) (q_this : Nat) (q_values : Nat) (q_turnOf : Nat) (q_ends : Nat) (v_choosers : Int32) (v_queenValue : Int32) (l1 : Int32) (l2 : Int32) (post : Int32 → Prop) (h : p_X0_choiceAt v_choosers l1 l2 post) : ConI E yX0_choiceAt cX0_choiceAt 3 .int { frames := 0, cells := 0, slots := 0, locals := 0 } 0 0 [.ref q_this, .int l1, .int l2] [(q_this, cO 0 [.ref q_values, .ref q_turnOf, .ref q_ends, .int v_choosers, .int v_queenValue])] (fun r w => w = [(q_this, cO 0 [.ref q_values, .ref q_turnOf, .ref q_ends, .int v_choosers, .int v_queenValue])] ∧ post r ) := by
  refine ConI.of (by decide +kernel) (Nat.le_of_ble_eq_true rfl) (fun Z hZ hI hRet => ?_)
  replace hZ : XOK E Z RX0 cX0_choiceAt 3 { frames := 0, cells := 0, slots := 0, locals := 0 } := hZ
  clear hI
  show XW E Z 0 0 [(q_this, cO 0 [.ref q_values, .ref q_turnOf, .ref q_ends, .int v_choosers, .int v_queenValue])] [(0, .ref q_this), (1, .int l1), (2, .int l2)] [] 0
  unfold p_X0_choiceAt at h
  refine x_iload_n (pc' := 1) hZ dX0_choiceAt_0 rfl 1 rfl ?_
  refine x_getsW (pc' := 4) hZ kl_RX0_32 dX0_choiceAt_1 rfl ?_
  refine x_aload_n (pc' := 5) hZ dX0_choiceAt_4 rfl 0 rfl ?_
  refine g_RX0_21 (pc' := 8) hZ dX0_choiceAt_5 rfl 0 rfl rfl ?_
  refine x_iconst (v := 1) (pc' := 9) hZ (by decide) dX0_choiceAt_8 rfl ?_
  refine x_isub (pc' := 10) hZ dX0_choiceAt_9 rfl ?_
  refine x_iload_n (pc' := 11) hZ dX0_choiceAt_10 rfl 2 rfl ?_
  refine x_isub (pc' := 12) hZ dX0_choiceAt_11 rfl ?_
  obtain ⟨h12, h⟩ := h
  refine x_tld (pc' := 13) hZ h12 dX0_choiceAt_12 rfl ?_
  obtain ⟨h13, h⟩ := h
  refine x_idiv (pc' := 14) hZ h13 dX0_choiceAt_13 rfl ?_
  refine x_iconst (v := 3) (pc' := 15) hZ (by decide) dX0_choiceAt_14 rfl ?_
  refine x_irem (pc' := 16) hZ (by decide) dX0_choiceAt_15 rfl ?_
  exact hRet _ _ _ _ dX0_choiceAt_16 ⟨rfl, h⟩
set_option maxHeartbeats 4000000 in
set_option maxRecDepth 100000 in
theorem c_X0_valueAt (E : XE) (q_this : Nat) (q_values : Nat) (q_turnOf : Nat) (q_ends : Nat) (v_choosers : Int32) (v_queenValue : Int32) (v_values : Nat → Int32) (l1 : Int32) (l2 : Int32) (post : Int32 → Prop) (h : p_X0_valueAt v_choosers v_values l1 l2 post) : ConI E yX0_valueAt cX0_valueAt 3 .int { frames := 1, cells := 0, slots := 0, locals := 22 } 0 0 [.ref q_this, .int l1, .int l2] [(q_this, cO 0 [.ref q_values, .ref q_turnOf, .ref q_ends, .int v_choosers, .int v_queenValue]), (q_values, cA E 15 v_values)] (fun r w => w = [(q_this, cO 0 [.ref q_values, .ref q_turnOf, .ref q_ends, .int v_choosers, .int v_queenValue]), (q_values, cA E 15 v_values)] ∧ post r ) := by
  refine ConI.of (by decide +kernel) (Nat.le_of_ble_eq_true rfl) (fun Z hZ hI hRet => ?_)
  replace hZ : XOK E Z RX0 cX0_valueAt 3 { frames := 1, cells := 0, slots := 0, locals := 22 } := hZ
  clear hI
  show XW E Z 0 0 [(q_this, cO 0 [.ref q_values, .ref q_turnOf, .ref q_ends, .int v_choosers, .int v_queenValue]), (q_values, cA E 15 v_values)] [(0, .ref q_this), (1, .int l1), (2, .int l2)] [] 0
  unfold p_X0_valueAt at h
  refine x_aload_n (pc' := 1) hZ dX0_valueAt_0 rfl 0 rfl ?_
  refine g_RX0_11 (pc' := 4) hZ dX0_valueAt_1 rfl 0 rfl rfl ?_
  refine x_iload_n (pc' := 5) hZ dX0_valueAt_4 rfl 2 rfl ?_
  refine x_iconst (v := 3) (pc' := 6) hZ (by decide) dX0_valueAt_5 rfl ?_
  refine x_imul (pc' := 7) hZ dX0_valueAt_6 rfl ?_
  refine x_aload_n (pc' := 8) hZ dX0_valueAt_7 rfl 0 rfl ?_
  refine x_iload_n (pc' := 9) hZ dX0_valueAt_8 rfl 1 rfl ?_
  refine x_iload_n (pc' := 10) hZ dX0_valueAt_9 rfl 2 rfl ?_
  refine k_RX0_61 (pc' := 13) (q0 := 0) (as := [.int l1, .int l2]) (rest := [.int (l2 * 3), .ref q_values]) (c' := 0) (n' := 0) (wr := [(q_values, cA E 15 v_values)]) hZ (c_X0_choiceAt E q_this q_values q_turnOf q_ends v_choosers v_queenValue l1 l2 _ h) rfl dX0_valueAt_10 rfl rfl rfl rfl rfl (Nat.le_of_ble_eq_true rfl) (Nat.le_of_ble_eq_true rfl) (Nat.le_of_ble_eq_true rfl) rfl rfl (Nat.le_of_ble_eq_true rfl) (Nat.le_of_ble_eq_true rfl) [0] [1] rfl rfl (by decide) (by decide) (by decide) (fun r10 w10 hw => ?_)
  obtain ⟨rfl, h⟩ := hw
  refine x_ws (ws' := [(q_this, cO 0 [.ref q_values, .ref q_turnOf, .ref q_ends, .int v_choosers, .int v_queenValue]), (q_values, cA E 15 v_values)]) [1, 0] rfl (by decide) ?_
  refine x_iadd (pc' := 14) hZ dX0_valueAt_13 rfl ?_
  obtain ⟨h14, h⟩ := h
  refine x_iald (pc' := 15) hZ h14 dX0_valueAt_14 rfl 1 rfl ?_
  exact hRet _ _ _ _ dX0_valueAt_15 ⟨rfl, h⟩
set_option maxHeartbeats 4000000 in
set_option maxRecDepth 100000 in
theorem t_X0_worthAt_20 (E : XE) (Z : ZC) (q_this : Nat) (q_values : Nat) (q_turnOf : Nat) (q_ends : Nat) (v_choosers : Int32) (v_queenValue : Int32) (v_values : Nat → Int32) (l1 : Int32) (l3 : Int32) {post : Int32 → Prop} {K : Int32 → Prop} (hZ : XOK E Z RX0 cX0_worthAt 5 { frames := 2, cells := 0, slots := 0, locals := 44 }) (hRet : RetI E Z cX0_worthAt 0 0 (fun r w => w = [(q_this, cO 0 [.ref q_values, .ref q_turnOf, .ref q_ends, .int v_choosers, .int v_queenValue]), (q_values, cA E 15 v_values)] ∧ post r )) : ∀ (k : Nat) (l4 : Int32), wl (fun rec v => b_X0_worthAt_20 l1 l3 v_choosers v_values post K rec v) k (l4) → (∀ (l4 : Int32), K l4 → XW E Z 0 0 [(q_this, cO 0 [.ref q_values, .ref q_turnOf, .ref q_ends, .int v_choosers, .int v_queenValue]), (q_values, cA E 15 v_values)] [] [] 48) → XW E Z 0 0 [(q_this, cO 0 [.ref q_values, .ref q_turnOf, .ref q_ends, .int v_choosers, .int v_queenValue]), (q_values, cA E 15 v_values)] [(0, .ref q_this), (1, .int l1), (3, .int l3), (4, .int l4)] [] 20 := by
  intro k
  induction k with
  | zero =>
    intro l4 h
    exact h.elim
  | succ k ih =>
    intro l4 h hK
    replace h := wl_succ h
    try dsimp only at h
    unfold b_X0_worthAt_20 at h
    refine x_iload (pc' := 22) hZ dX0_worthAt_20 rfl 3 rfl ?_
    refine x_aload_n (pc' := 23) hZ dX0_worthAt_22 rfl 0 rfl ?_
    refine g_RX0_21 (pc' := 26) hZ dX0_worthAt_23 rfl 0 rfl rfl ?_
    refine x_icmp_ge (tgt := 48) (pc' := 29) hZ dX0_worthAt_26 (by decide) rfl (fun c26 => ?_) (fun c26 => ?_)
    · replace h := h.1 c26
      refine x_lv [] (lv' := []) rfl ?_
      exact hK l4 h
    · replace h := h.2 c26
      refine x_aload_n (pc' := 30) hZ dX0_worthAt_29 rfl 0 rfl ?_
      refine x_iload_n (pc' := 31) hZ dX0_worthAt_30 rfl 1 rfl ?_
      refine x_iload (pc' := 33) hZ dX0_worthAt_31 rfl 3 rfl ?_
      refine k_RX0_58 (pc' := 36) (q0 := 0) (as := [.int l1, .int l4]) (rest := []) (c' := 0) (n' := 0) (wr := []) hZ (c_X0_valueAt E q_this q_values q_turnOf q_ends v_choosers v_queenValue v_values l1 l4 _ h) rfl dX0_worthAt_33 rfl rfl rfl rfl rfl (Nat.le_of_ble_eq_true rfl) (Nat.le_of_ble_eq_true rfl) (Nat.le_of_ble_eq_true rfl) rfl rfl (Nat.le_of_ble_eq_true rfl) (Nat.le_of_ble_eq_true rfl) [0, 1] [] rfl rfl (by decide) (by decide) (by decide) (fun r33 w33 hw => ?_)
      obtain ⟨rfl, h⟩ := hw
      refine x_ws (ws' := [(q_this, cO 0 [.ref q_values, .ref q_turnOf, .ref q_ends, .int v_choosers, .int v_queenValue]), (q_values, cA E 15 v_values)]) [0, 1] rfl (by decide) ?_
      refine x_iload_n (pc' := 37) hZ dX0_worthAt_36 rfl 2 rfl ?_
      refine x_icmp_le (tgt := 42) (pc' := 40) hZ dX0_worthAt_37 (by decide) rfl (fun c37 => ?_) (fun c37 => ?_)
      · replace h := h.1 c37
        obtain ⟨x42, e42⟩ : ∃ y : Int32, y = l4 + 1 := ⟨_, rfl⟩
        replace h := h x42 e42
        refine x_iinc (i := 4) (v := x42) (pc' := 45) (lv' := [(4, .int x42), (0, .ref q_this), (1, .int l1), (3, .int l3)]) hZ dX0_worthAt_42 rfl 3 rfl (by rw [e42]; rfl) (by decide) rfl ?_
        refine x_goto (pc' := 20) hZ dX0_worthAt_45 (by decide) ?_
        refine x_lv [1, 2, 3, 0] (lv' := [(0, .ref q_this), (1, .int l1), (3, .int l3), (4, .int x42)]) rfl ?_
        exact ih x42 h hK
      · replace h := h.2 c37
        refine x_iload_n (pc' := 41) hZ dX0_worthAt_40 rfl 2 rfl ?_
        exact hRet _ _ _ _ dX0_worthAt_41 ⟨rfl, h⟩
set_option maxHeartbeats 4000000 in
set_option maxRecDepth 100000 in
theorem c_X0_worthAt (E : XE) (q_this : Nat) (q_values : Nat) (q_turnOf : Nat) (q_ends : Nat) (v_choosers : Int32) (v_queenValue : Int32) (v_values : Nat → Int32) (l1 : Int32) (l2 : Int32) (post : Int32 → Prop) (h : p_X0_worthAt v_choosers v_queenValue v_values l1 l2 post) : ConI E yX0_worthAt cX0_worthAt 5 .int { frames := 2, cells := 0, slots := 0, locals := 44 } 0 0 [.ref q_this, .int l1, .int l2] [(q_this, cO 0 [.ref q_values, .ref q_turnOf, .ref q_ends, .int v_choosers, .int v_queenValue]), (q_values, cA E 15 v_values)] (fun r w => w = [(q_this, cO 0 [.ref q_values, .ref q_turnOf, .ref q_ends, .int v_choosers, .int v_queenValue]), (q_values, cA E 15 v_values)] ∧ post r ) := by
  refine ConI.of (by decide +kernel) (Nat.le_of_ble_eq_true rfl) (fun Z hZ hI hRet => ?_)
  replace hZ : XOK E Z RX0 cX0_worthAt 5 { frames := 2, cells := 0, slots := 0, locals := 44 } := hZ
  clear hI
  show XW E Z 0 0 [(q_this, cO 0 [.ref q_values, .ref q_turnOf, .ref q_ends, .int v_choosers, .int v_queenValue]), (q_values, cA E 15 v_values)] [(0, .ref q_this), (1, .int l1), (2, .int l2)] [] 0
  unfold p_X0_worthAt at h
  refine x_aload_n (pc' := 1) hZ dX0_worthAt_0 rfl 0 rfl ?_
  refine x_iload_n (pc' := 2) hZ dX0_worthAt_1 rfl 1 rfl ?_
  refine x_iload_n (pc' := 3) hZ dX0_worthAt_2 rfl 2 rfl ?_
  refine k_RX0_58 (pc' := 6) (q0 := 0) (as := [.int l1, .int l2]) (rest := []) (c' := 0) (n' := 0) (wr := []) hZ (c_X0_valueAt E q_this q_values q_turnOf q_ends v_choosers v_queenValue v_values l1 l2 _ h) rfl dX0_worthAt_3 rfl rfl rfl rfl rfl (Nat.le_of_ble_eq_true rfl) (Nat.le_of_ble_eq_true rfl) (Nat.le_of_ble_eq_true rfl) rfl rfl (Nat.le_of_ble_eq_true rfl) (Nat.le_of_ble_eq_true rfl) [0, 1] [] rfl rfl (by decide) (by decide) (by decide) (fun r3 w3 hw => ?_)
  obtain ⟨rfl, h⟩ := hw
  refine x_ws (ws' := [(q_this, cO 0 [.ref q_values, .ref q_turnOf, .ref q_ends, .int v_choosers, .int v_queenValue]), (q_values, cA E 15 v_values)]) [0, 1] rfl (by decide) ?_
  refine x_istore_n (i := 3) (pc' := 7) (lv' := [(3, .int r3), (0, .ref q_this), (1, .int l1), (2, .int l2)]) hZ dX0_worthAt_6 rfl rfl (by decide) rfl ?_
  refine x_aload_n (pc' := 8) hZ dX0_worthAt_7 rfl 1 rfl ?_
  refine g_RX0_25 (pc' := 11) hZ dX0_worthAt_8 rfl 0 rfl rfl ?_
  refine x_iload_n (pc' := 12) hZ dX0_worthAt_11 rfl 0 rfl ?_
  refine x_icmp_le (tgt := 17) (pc' := 15) hZ dX0_worthAt_12 (by decide) rfl (fun c12 => ?_) (fun c12 => ?_)
  · replace h := h.1 c12
    refine x_iconst (v := 0) (pc' := 18) hZ (by decide) dX0_worthAt_17 rfl ?_
    refine x_istore (i := 4) (pc' := 20) (lv' := [(4, .int 0), (3, .int r3), (0, .ref q_this), (1, .int l1), (2, .int l2)]) hZ dX0_worthAt_18 rfl (by decide) rfl ?_
    refine x_lv [2, 3, 1, 0] (lv' := [(0, .ref q_this), (1, .int l1), (3, .int r3), (4, .int 0)]) rfl ?_
    obtain ⟨k20, h⟩ := h
    refine t_X0_worthAt_20 E Z q_this q_values q_turnOf q_ends v_choosers v_queenValue v_values l1 r3 hZ hRet _ 0 h (fun l4_20 h => ?_)
    refine x_iconst (v := (-1)) (pc' := 49) hZ (by decide) dX0_worthAt_48 rfl ?_
    exact hRet _ _ _ _ dX0_worthAt_49 ⟨rfl, h⟩
  · replace h := h.2 c12
    refine x_iload_n (pc' := 16) hZ dX0_worthAt_15 rfl 0 rfl ?_
    exact hRet _ _ _ _ dX0_worthAt_16 ⟨rfl, h⟩
set_option maxHeartbeats 4000000 in
set_option maxRecDepth 100000 in
theorem t_X0_bestEnd_12 (E : XE) (Z : ZC) (q_this : Nat) (q_values : Nat) (q_turnOf : Nat) (q_ends : Nat) (v_choosers : Int32) (v_queenValue : Int32) (v_values : Nat → Int32) (v_ends : Nat → Int32) (l1 : Int32) (l2 : Int32) {K : Int32 → Int32 → Prop} (hZ : XOK E Z RX0 cX0_bestEnd 6 { frames := 3, cells := 0, slots := 0, locals := 68 }) : ∀ (k : Nat) (l3 : Int32) (l4 : Int32), wl (fun rec v => b_X0_bestEnd_12 l1 l2 v_choosers v_queenValue v_values v_ends K rec v.1 v.2) k (l3, l4) → (∀ (l3 : Int32) (l4 : Int32), K l3 l4 → XW E Z 0 0 [(q_this, cO 0 [.ref q_values, .ref q_turnOf, .ref q_ends, .int v_choosers, .int v_queenValue]), (q_values, cA E 15 v_values), (q_ends, cA E 243 v_ends)] [(3, .int l3)] [] 56) → XW E Z 0 0 [(q_this, cO 0 [.ref q_values, .ref q_turnOf, .ref q_ends, .int v_choosers, .int v_queenValue]), (q_values, cA E 15 v_values), (q_ends, cA E 243 v_ends)] [(0, .ref q_this), (1, .int l1), (2, .int l2), (3, .int l3), (4, .int l4)] [] 12 := by
  intro k
  induction k with
  | zero =>
    intro l3 l4 h
    exact h.elim
  | succ k ih =>
    intro l3 l4 h hK
    replace h := wl_succ h
    try dsimp only at h
    unfold b_X0_bestEnd_12 at h
    refine x_iload (pc' := 14) hZ dX0_bestEnd_12 rfl 4 rfl ?_
    refine x_iconst (v := 3) (pc' := 15) hZ (by decide) dX0_bestEnd_14 rfl ?_
    refine x_icmp_ge (tgt := 56) (pc' := 18) hZ dX0_bestEnd_15 (by decide) rfl (fun c15 => ?_) (fun c15 => ?_)
    · replace h := h.1 c15
      refine x_lv [3] (lv' := [(3, .int l3)]) rfl ?_
      exact hK l3 l4 h
    · replace h := h.2 c15
      refine x_aload_n (pc' := 19) hZ dX0_bestEnd_18 rfl 0 rfl ?_
      refine g_RX0_18 (pc' := 22) hZ dX0_bestEnd_19 rfl 0 rfl rfl ?_
      refine x_iload_n (pc' := 23) hZ dX0_bestEnd_22 rfl 2 rfl ?_
      refine x_iconst (v := 3) (pc' := 24) hZ (by decide) dX0_bestEnd_23 rfl ?_
      refine x_imul (pc' := 25) hZ dX0_bestEnd_24 rfl ?_
      refine x_iload (pc' := 27) hZ dX0_bestEnd_25 rfl 4 rfl ?_
      refine x_iadd (pc' := 28) hZ dX0_bestEnd_27 rfl ?_
      obtain ⟨h28, h⟩ := h
      refine x_iald (pc' := 29) hZ h28 dX0_bestEnd_28 rfl 2 rfl ?_
      refine x_topi (fun x29 e29 => ?_)
      replace h := h x29 e29
      refine x_istore (i := 5) (pc' := 31) (lv' := [(5, .int x29), (0, .ref q_this), (1, .int l1), (2, .int l2), (3, .int l3), (4, .int l4)]) hZ dX0_bestEnd_29 rfl (by decide) rfl ?_
      refine x_aload_n (pc' := 32) hZ dX0_bestEnd_31 rfl 1 rfl ?_
      refine x_iload (pc' := 34) hZ dX0_bestEnd_32 rfl 0 rfl ?_
      refine x_iload_n (pc' := 35) hZ dX0_bestEnd_34 rfl 2 rfl ?_
      refine k_RX0_55 (pc' := 38) (q0 := 0) (as := [.int x29, .int l1]) (rest := []) (c' := 0) (n' := 0) (wr := [(q_ends, cA E 243 v_ends)]) hZ (c_X0_worthAt E q_this q_values q_turnOf q_ends v_choosers v_queenValue v_values x29 l1 _ h) rfl dX0_bestEnd_35 rfl rfl rfl rfl rfl (Nat.le_of_ble_eq_true rfl) (Nat.le_of_ble_eq_true rfl) (Nat.le_of_ble_eq_true rfl) rfl rfl (Nat.le_of_ble_eq_true rfl) (Nat.le_of_ble_eq_true rfl) [0, 1] [2] rfl rfl (by decide) (by decide) (by decide) (fun r35 w35 hw => ?_)
      obtain ⟨rfl, h⟩ := hw
      refine x_ws (ws' := [(q_this, cO 0 [.ref q_values, .ref q_turnOf, .ref q_ends, .int v_choosers, .int v_queenValue]), (q_values, cA E 15 v_values), (q_ends, cA E 243 v_ends)]) [1, 2, 0] rfl (by decide) ?_
      refine x_aload_n (pc' := 39) hZ dX0_bestEnd_38 rfl 1 rfl ?_
      refine x_iload_n (pc' := 40) hZ dX0_bestEnd_39 rfl 4 rfl ?_
      refine x_iload_n (pc' := 41) hZ dX0_bestEnd_40 rfl 2 rfl ?_
      refine k_RX0_55 (pc' := 44) (q0 := 0) (as := [.int l3, .int l1]) (rest := [.int r35]) (c' := 0) (n' := 0) (wr := [(q_ends, cA E 243 v_ends)]) hZ (c_X0_worthAt E q_this q_values q_turnOf q_ends v_choosers v_queenValue v_values l3 l1 _ h) rfl dX0_bestEnd_41 rfl rfl rfl rfl rfl (Nat.le_of_ble_eq_true rfl) (Nat.le_of_ble_eq_true rfl) (Nat.le_of_ble_eq_true rfl) rfl rfl (Nat.le_of_ble_eq_true rfl) (Nat.le_of_ble_eq_true rfl) [0, 1] [2] rfl rfl (by decide) (by decide) (by decide) (fun r41 w41 hw => ?_)
      obtain ⟨rfl, h⟩ := hw
      refine x_ws (ws' := [(q_this, cO 0 [.ref q_values, .ref q_turnOf, .ref q_ends, .int v_choosers, .int v_queenValue]), (q_values, cA E 15 v_values), (q_ends, cA E 243 v_ends)]) [1, 2, 0] rfl (by decide) ?_
      refine x_icmp_le (tgt := 50) (pc' := 47) hZ dX0_bestEnd_44 (by decide) rfl (fun c44 => ?_) (fun c44 => ?_)
      · replace h := h.1 c44
        obtain ⟨x50, e50⟩ : ∃ y : Int32, y = l4 + 1 := ⟨_, rfl⟩
        replace h := h x50 e50
        refine x_iinc (i := 4) (v := x50) (pc' := 53) (lv' := [(4, .int x50), (5, .int x29), (0, .ref q_this), (1, .int l1), (2, .int l2), (3, .int l3)]) hZ dX0_bestEnd_50 rfl 5 rfl (by rw [e50]; rfl) (by decide) rfl ?_
        refine x_goto (pc' := 12) hZ dX0_bestEnd_53 (by decide) ?_
        refine x_lv [2, 3, 4, 5, 0] (lv' := [(0, .ref q_this), (1, .int l1), (2, .int l2), (3, .int l3), (4, .int x50)]) rfl ?_
        exact ih l3 x50 h hK
      · replace h := h.2 c44
        refine x_iload (pc' := 49) hZ dX0_bestEnd_47 rfl 0 rfl ?_
        refine x_istore_n (i := 3) (pc' := 50) (lv' := [(3, .int x29), (5, .int x29), (0, .ref q_this), (1, .int l1), (2, .int l2), (4, .int l4)]) hZ dX0_bestEnd_49 rfl rfl (by decide) rfl ?_
        obtain ⟨x50, e50⟩ : ∃ y : Int32, y = l4 + 1 := ⟨_, rfl⟩
        replace h := h x50 e50
        refine x_iinc (i := 4) (v := x50) (pc' := 53) (lv' := [(4, .int x50), (3, .int x29), (5, .int x29), (0, .ref q_this), (1, .int l1), (2, .int l2)]) hZ dX0_bestEnd_50 rfl 5 rfl (by rw [e50]; rfl) (by decide) rfl ?_
        refine x_goto (pc' := 12) hZ dX0_bestEnd_53 (by decide) ?_
        refine x_lv [3, 4, 5, 1, 0] (lv' := [(0, .ref q_this), (1, .int l1), (2, .int l2), (3, .int x29), (4, .int x50)]) rfl ?_
        exact ih x29 x50 h hK
set_option maxHeartbeats 4000000 in
set_option maxRecDepth 100000 in
theorem c_X0_bestEnd (E : XE) (q_this : Nat) (q_values : Nat) (q_turnOf : Nat) (q_ends : Nat) (v_choosers : Int32) (v_queenValue : Int32) (v_values : Nat → Int32) (v_ends : Nat → Int32) (l1 : Int32) (l2 : Int32) (post : Int32 → Prop) (h : p_X0_bestEnd v_choosers v_queenValue v_values v_ends l1 l2 post) : ConI E yX0_bestEnd cX0_bestEnd 6 .int { frames := 3, cells := 0, slots := 0, locals := 68 } 0 0 [.ref q_this, .int l1, .int l2] [(q_this, cO 0 [.ref q_values, .ref q_turnOf, .ref q_ends, .int v_choosers, .int v_queenValue]), (q_values, cA E 15 v_values), (q_ends, cA E 243 v_ends)] (fun r w => w = [(q_this, cO 0 [.ref q_values, .ref q_turnOf, .ref q_ends, .int v_choosers, .int v_queenValue]), (q_values, cA E 15 v_values), (q_ends, cA E 243 v_ends)] ∧ post r ) := by
  refine ConI.of (by decide +kernel) (Nat.le_of_ble_eq_true rfl) (fun Z hZ hI hRet => ?_)
  replace hZ : XOK E Z RX0 cX0_bestEnd 6 { frames := 3, cells := 0, slots := 0, locals := 68 } := hZ
  clear hI
  show XW E Z 0 0 [(q_this, cO 0 [.ref q_values, .ref q_turnOf, .ref q_ends, .int v_choosers, .int v_queenValue]), (q_values, cA E 15 v_values), (q_ends, cA E 243 v_ends)] [(0, .ref q_this), (1, .int l1), (2, .int l2)] [] 0
  unfold p_X0_bestEnd at h
  refine x_aload_n (pc' := 1) hZ dX0_bestEnd_0 rfl 0 rfl ?_
  refine g_RX0_18 (pc' := 4) hZ dX0_bestEnd_1 rfl 0 rfl rfl ?_
  refine x_iload_n (pc' := 5) hZ dX0_bestEnd_4 rfl 2 rfl ?_
  refine x_iconst (v := 3) (pc' := 6) hZ (by decide) dX0_bestEnd_5 rfl ?_
  refine x_imul (pc' := 7) hZ dX0_bestEnd_6 rfl ?_
  obtain ⟨h7, h⟩ := h
  refine x_iald (pc' := 8) hZ h7 dX0_bestEnd_7 rfl 2 rfl ?_
  refine x_topi (fun x8 e8 => ?_)
  replace h := h x8 e8
  refine x_istore_n (i := 3) (pc' := 9) (lv' := [(3, .int x8), (0, .ref q_this), (1, .int l1), (2, .int l2)]) hZ dX0_bestEnd_8 rfl rfl (by decide) rfl ?_
  refine x_iconst (v := 1) (pc' := 10) hZ (by decide) dX0_bestEnd_9 rfl ?_
  refine x_istore (i := 4) (pc' := 12) (lv' := [(4, .int 1), (3, .int x8), (0, .ref q_this), (1, .int l1), (2, .int l2)]) hZ dX0_bestEnd_10 rfl (by decide) rfl ?_
  refine x_lv [2, 3, 4, 1, 0] (lv' := [(0, .ref q_this), (1, .int l1), (2, .int l2), (3, .int x8), (4, .int 1)]) rfl ?_
  obtain ⟨k12, h⟩ := h
  refine t_X0_bestEnd_12 E Z q_this q_values q_turnOf q_ends v_choosers v_queenValue v_values v_ends l1 l2 hZ  _ x8 1 h (fun l3_12 l4_12 h => ?_)
  refine x_iload_n (pc' := 57) hZ dX0_bestEnd_56 rfl 0 rfl ?_
  exact hRet _ _ _ _ dX0_bestEnd_57 ⟨rfl, h⟩
set_option maxHeartbeats 4000000 in
set_option maxRecDepth 100000 in
theorem t_X0_solve_7 (E : XE) (Z : ZC) (q_this : Nat) (q_values : Nat) (q_turnOf : Nat) (q_ends : Nat) (q_a1 : Nat) (q_a1_weights : Nat) (q_a1_marks : Nat) (q_a1_ageing : Nat) (v_choosers : Int32) (v_queenValue : Int32) (v_values : Nat → Int32) (v_turnOf : Nat → Int32) (v_a1_people : Int32) (v_a1_alive : Int32) (v_a1_reported : Int32) (v_a1_mornings : Int32) (v_a1_years : Int32) (v_a1_weights : Nat → Int32) (v_a1_marks : Nat → Int32) {K : Int32 → (Nat → Int32) → Prop} (hZ : XOK E Z RX0 cX0_solve 4 { frames := 4, cells := 0, slots := 0, locals := 93 }) : ∀ (k : Nat) (l2 : Int32) (v_ends : (Nat → Int32)), wl (fun rec v => b_X0_solve_7 v_choosers K rec v.1 v.2) k (l2, v_ends) → (∀ (l2 : Int32) (v_ends : (Nat → Int32)), K l2 v_ends → XW E Z 0 0 [(q_this, cO 0 [.ref q_values, .ref q_turnOf, .ref q_ends, .int v_choosers, .int v_queenValue]), (q_values, cA E 15 v_values), (q_turnOf, cA E 6 v_turnOf), (q_ends, cA E 243 v_ends), (q_a1, cO 1 [.int v_a1_people, .ref q_a1_weights, .ref q_a1_marks, .ref q_a1_ageing, .int v_a1_alive, .int v_a1_reported, .int v_a1_mornings, .int v_a1_years]), (q_a1_weights, cA E 3 v_a1_weights), (q_a1_marks, cA E 18 v_a1_marks)] [(0, .ref q_this)] [] 32) → XW E Z 0 0 [(q_this, cO 0 [.ref q_values, .ref q_turnOf, .ref q_ends, .int v_choosers, .int v_queenValue]), (q_values, cA E 15 v_values), (q_turnOf, cA E 6 v_turnOf), (q_ends, cA E 243 v_ends), (q_a1, cO 1 [.int v_a1_people, .ref q_a1_weights, .ref q_a1_marks, .ref q_a1_ageing, .int v_a1_alive, .int v_a1_reported, .int v_a1_mornings, .int v_a1_years]), (q_a1_weights, cA E 3 v_a1_weights), (q_a1_marks, cA E 18 v_a1_marks)] [(0, .ref q_this), (2, .int l2)] [] 7 := by
  intro k
  induction k with
  | zero =>
    intro l2 v_ends h
    exact h.elim
  | succ k ih =>
    intro l2 v_ends h hK
    replace h := wl_succ h
    try dsimp only at h
    unfold b_X0_solve_7 at h
    refine x_iload_n (pc' := 8) hZ dX0_solve_7 rfl 1 rfl ?_
    refine x_getsW (pc' := 11) hZ kl_RX0_32 dX0_solve_8 rfl ?_
    refine x_aload_n (pc' := 12) hZ dX0_solve_11 rfl 0 rfl ?_
    refine g_RX0_21 (pc' := 15) hZ dX0_solve_12 rfl 0 rfl rfl ?_
    obtain ⟨h15, h⟩ := h
    refine x_tld (pc' := 16) hZ h15 dX0_solve_15 rfl ?_
    refine x_icmp_ge (tgt := 32) (pc' := 19) hZ dX0_solve_16 (by decide) rfl (fun c16 => ?_) (fun c16 => ?_)
    · replace h := h.1 c16
      refine x_lv [0] (lv' := [(0, .ref q_this)]) rfl ?_
      exact hK l2 v_ends h
    · replace h := h.2 c16
      refine x_aload_n (pc' := 20) hZ dX0_solve_19 rfl 0 rfl ?_
      refine g_RX0_18 (pc' := 23) hZ dX0_solve_20 rfl 0 rfl rfl ?_
      refine x_iload_n (pc' := 24) hZ dX0_solve_23 rfl 1 rfl ?_
      refine x_iload_n (pc' := 25) hZ dX0_solve_24 rfl 1 rfl ?_
      obtain ⟨h25, h⟩ := h
      refine x_iast (pc' := 26) (ws' := [(q_this, cO 0 [.ref q_values, .ref q_turnOf, .ref q_ends, .int v_choosers, .int v_queenValue]), (q_values, cA E 15 v_values), (q_turnOf, cA E 6 v_turnOf), (q_ends, cA E 243 (upd v_ends (ix l2) l2)), (q_a1, cO 1 [.int v_a1_people, .ref q_a1_weights, .ref q_a1_marks, .ref q_a1_ageing, .int v_a1_alive, .int v_a1_reported, .int v_a1_mornings, .int v_a1_years]), (q_a1_weights, cA E 3 v_a1_weights), (q_a1_marks, cA E 18 v_a1_marks)]) hZ h25 dX0_solve_25 rfl 3 rfl rfl ?_
      obtain ⟨x26, e26⟩ : ∃ y : Int32, y = l2 + 1 := ⟨_, rfl⟩
      replace h := h x26 e26
      refine x_iinc (i := 2) (v := x26) (pc' := 29) (lv' := [(2, .int x26), (0, .ref q_this)]) hZ dX0_solve_26 rfl 1 rfl (by rw [e26]; rfl) (by decide) rfl ?_
      refine x_goto (pc' := 7) hZ dX0_solve_29 (by decide) ?_
      refine x_lv [1, 0] (lv' := [(0, .ref q_this), (2, .int x26)]) rfl ?_
      exact ih x26 (upd v_ends (ix l2) l2) h hK
set_option maxHeartbeats 4000000 in
set_option maxRecDepth 100000 in
theorem t_X0_solve_45 (E : XE) (Z : ZC) (q_this : Nat) (q_values : Nat) (q_turnOf : Nat) (q_ends : Nat) (q_a1 : Nat) (q_a1_weights : Nat) (q_a1_marks : Nat) (q_a1_ageing : Nat) (v_choosers : Int32) (v_queenValue : Int32) (v_values : Nat → Int32) (v_turnOf : Nat → Int32) (v_a1_people : Int32) (v_a1_alive : Int32) (v_a1_reported : Int32) (v_a1_mornings : Int32) (v_a1_years : Int32) (v_a1_weights : Nat → Int32) (v_a1_marks : Nat → Int32) (l2 : Int32) {K : Int32 → (Nat → Int32) → Prop} (hZ : XOK E Z RX0 cX0_solve 4 { frames := 4, cells := 0, slots := 0, locals := 93 }) : ∀ (k : Nat) (l3 : Int32) (v_ends : (Nat → Int32)), wl (fun rec v => b_X0_solve_45 l2 v_choosers v_queenValue v_values K rec v.1 v.2) k (l3, v_ends) → (∀ (l3 : Int32) (v_ends : (Nat → Int32)), K l3 v_ends → XW E Z 0 0 [(q_this, cO 0 [.ref q_values, .ref q_turnOf, .ref q_ends, .int v_choosers, .int v_queenValue]), (q_values, cA E 15 v_values), (q_turnOf, cA E 6 v_turnOf), (q_ends, cA E 243 v_ends), (q_a1, cO 1 [.int v_a1_people, .ref q_a1_weights, .ref q_a1_marks, .ref q_a1_ageing, .int v_a1_alive, .int v_a1_reported, .int v_a1_mornings, .int v_a1_years]), (q_a1_weights, cA E 3 v_a1_weights), (q_a1_marks, cA E 18 v_a1_marks)] [(0, .ref q_this), (2, .int l2)] [] 72) → XW E Z 0 0 [(q_this, cO 0 [.ref q_values, .ref q_turnOf, .ref q_ends, .int v_choosers, .int v_queenValue]), (q_values, cA E 15 v_values), (q_turnOf, cA E 6 v_turnOf), (q_ends, cA E 243 v_ends), (q_a1, cO 1 [.int v_a1_people, .ref q_a1_weights, .ref q_a1_marks, .ref q_a1_ageing, .int v_a1_alive, .int v_a1_reported, .int v_a1_mornings, .int v_a1_years]), (q_a1_weights, cA E 3 v_a1_weights), (q_a1_marks, cA E 18 v_a1_marks)] [(0, .ref q_this), (2, .int l2), (3, .int l3)] [] 45 := by
  intro k
  induction k with
  | zero =>
    intro l3 v_ends h
    exact h.elim
  | succ k ih =>
    intro l3 v_ends h hK
    replace h := wl_succ h
    try dsimp only at h
    unfold b_X0_solve_45 at h
    refine x_iload_n (pc' := 46) hZ dX0_solve_45 rfl 2 rfl ?_
    refine x_getsW (pc' := 49) hZ kl_RX0_32 dX0_solve_46 rfl ?_
    refine x_iload_n (pc' := 50) hZ dX0_solve_49 rfl 1 rfl ?_
    obtain ⟨h50, h⟩ := h
    refine x_tld (pc' := 51) hZ h50 dX0_solve_50 rfl ?_
    refine x_icmp_ge (tgt := 72) (pc' := 54) hZ dX0_solve_51 (by decide) rfl (fun c51 => ?_) (fun c51 => ?_)
    · replace h := h.1 c51
      refine x_lv [0, 1] (lv' := [(0, .ref q_this), (2, .int l2)]) rfl ?_
      exact hK l3 v_ends h
    · replace h := h.2 c51
      refine x_aload_n (pc' := 55) hZ dX0_solve_54 rfl 0 rfl ?_
      refine g_RX0_18 (pc' := 58) hZ dX0_solve_55 rfl 0 rfl rfl ?_
      refine x_iload_n (pc' := 59) hZ dX0_solve_58 rfl 2 rfl ?_
      refine x_aload_n (pc' := 60) hZ dX0_solve_59 rfl 0 rfl ?_
      refine x_iload_n (pc' := 61) hZ dX0_solve_60 rfl 1 rfl ?_
      refine x_iload_n (pc' := 62) hZ dX0_solve_61 rfl 2 rfl ?_
      refine k_RX0_35 (pc' := 65) (q0 := 0) (as := [.int l2, .int l3]) (rest := [.int l3, .ref q_ends]) (c' := 0) (n' := 0) (wr := [(q_turnOf, cA E 6 v_turnOf), (q_a1, cO 1 [.int v_a1_people, .ref q_a1_weights, .ref q_a1_marks, .ref q_a1_ageing, .int v_a1_alive, .int v_a1_reported, .int v_a1_mornings, .int v_a1_years]), (q_a1_weights, cA E 3 v_a1_weights), (q_a1_marks, cA E 18 v_a1_marks)]) hZ (c_X0_bestEnd E q_this q_values q_turnOf q_ends v_choosers v_queenValue v_values v_ends l2 l3 _ h) rfl dX0_solve_62 rfl rfl rfl rfl rfl (Nat.le_of_ble_eq_true rfl) (Nat.le_of_ble_eq_true rfl) (Nat.le_of_ble_eq_true rfl) rfl rfl (Nat.le_of_ble_eq_true rfl) (Nat.le_of_ble_eq_true rfl) [0, 1, 3] [2, 4, 5, 6] rfl rfl (by decide) (by decide) (by decide) (fun r62 w62 hw => ?_)
      obtain ⟨rfl, h⟩ := hw
      refine x_ws (ws' := [(q_this, cO 0 [.ref q_values, .ref q_turnOf, .ref q_ends, .int v_choosers, .int v_queenValue]), (q_values, cA E 15 v_values), (q_turnOf, cA E 6 v_turnOf), (q_ends, cA E 243 v_ends), (q_a1, cO 1 [.int v_a1_people, .ref q_a1_weights, .ref q_a1_marks, .ref q_a1_ageing, .int v_a1_alive, .int v_a1_reported, .int v_a1_mornings, .int v_a1_years]), (q_a1_weights, cA E 3 v_a1_weights), (q_a1_marks, cA E 18 v_a1_marks)]) [4, 5, 0, 6, 1, 2, 3] rfl (by decide) ?_
      obtain ⟨h65, h⟩ := h
      refine x_iast (pc' := 66) (ws' := [(q_this, cO 0 [.ref q_values, .ref q_turnOf, .ref q_ends, .int v_choosers, .int v_queenValue]), (q_values, cA E 15 v_values), (q_turnOf, cA E 6 v_turnOf), (q_ends, cA E 243 (upd v_ends (ix l3) r62)), (q_a1, cO 1 [.int v_a1_people, .ref q_a1_weights, .ref q_a1_marks, .ref q_a1_ageing, .int v_a1_alive, .int v_a1_reported, .int v_a1_mornings, .int v_a1_years]), (q_a1_weights, cA E 3 v_a1_weights), (q_a1_marks, cA E 18 v_a1_marks)]) hZ h65 dX0_solve_65 rfl 3 rfl rfl ?_
      obtain ⟨x66, e66⟩ : ∃ y : Int32, y = l3 + 1 := ⟨_, rfl⟩
      replace h := h x66 e66
      refine x_iinc (i := 3) (v := x66) (pc' := 69) (lv' := [(3, .int x66), (0, .ref q_this), (2, .int l2)]) hZ dX0_solve_66 rfl 2 rfl (by rw [e66]; rfl) (by decide) rfl ?_
      refine x_goto (pc' := 45) hZ dX0_solve_69 (by decide) ?_
      refine x_lv [1, 2, 0] (lv' := [(0, .ref q_this), (2, .int l2), (3, .int x66)]) rfl ?_
      exact ih x66 (upd v_ends (ix l3) r62) h hK
set_option maxHeartbeats 4000000 in
set_option maxRecDepth 100000 in
theorem t_X0_solve_39 (E : XE) (Z : ZC) (q_this : Nat) (q_values : Nat) (q_turnOf : Nat) (q_ends : Nat) (q_a1 : Nat) (q_a1_weights : Nat) (q_a1_marks : Nat) (q_a1_ageing : Nat) (v_choosers : Int32) (v_queenValue : Int32) (v_values : Nat → Int32) (v_turnOf : Nat → Int32) (v_a1_people : Int32) (v_a1_alive : Int32) (v_a1_reported : Int32) (v_a1_mornings : Int32) (v_a1_years : Int32) (v_a1_weights : Nat → Int32) (v_a1_marks : Nat → Int32) {K : Int32 → (Nat → Int32) → Prop} (hZ : XOK E Z RX0 cX0_solve 4 { frames := 4, cells := 0, slots := 0, locals := 93 }) : ∀ (k : Nat) (l2 : Int32) (v_ends : (Nat → Int32)), wl (fun rec v => b_X0_solve_39 v_choosers v_queenValue v_values K rec v.1 v.2) k (l2, v_ends) → (∀ (l2 : Int32) (v_ends : (Nat → Int32)), K l2 v_ends → XW E Z 0 0 [(q_this, cO 0 [.ref q_values, .ref q_turnOf, .ref q_ends, .int v_choosers, .int v_queenValue]), (q_values, cA E 15 v_values), (q_turnOf, cA E 6 v_turnOf), (q_ends, cA E 243 v_ends), (q_a1, cO 1 [.int v_a1_people, .ref q_a1_weights, .ref q_a1_marks, .ref q_a1_ageing, .int v_a1_alive, .int v_a1_reported, .int v_a1_mornings, .int v_a1_years]), (q_a1_weights, cA E 3 v_a1_weights), (q_a1_marks, cA E 18 v_a1_marks)] [] [] 78) → XW E Z 0 0 [(q_this, cO 0 [.ref q_values, .ref q_turnOf, .ref q_ends, .int v_choosers, .int v_queenValue]), (q_values, cA E 15 v_values), (q_turnOf, cA E 6 v_turnOf), (q_ends, cA E 243 v_ends), (q_a1, cO 1 [.int v_a1_people, .ref q_a1_weights, .ref q_a1_marks, .ref q_a1_ageing, .int v_a1_alive, .int v_a1_reported, .int v_a1_mornings, .int v_a1_years]), (q_a1_weights, cA E 3 v_a1_weights), (q_a1_marks, cA E 18 v_a1_marks)] [(0, .ref q_this), (2, .int l2)] [] 39 := by
  intro k
  induction k with
  | zero =>
    intro l2 v_ends h
    exact h.elim
  | succ k ih =>
    intro l2 v_ends h hK
    replace h := wl_succ h
    try dsimp only at h
    unfold b_X0_solve_39 at h
    refine x_iload_n (pc' := 40) hZ dX0_solve_39 rfl 1 rfl ?_
    refine x_if_lt (tgt := 78) (pc' := 43) hZ dX0_solve_40 (by decide) rfl (fun c40 => ?_) (fun c40 => ?_)
    · replace h := h.1 c40
      refine x_lv [] (lv' := []) rfl ?_
      exact hK l2 v_ends h
    · replace h := h.2 c40
      refine x_iconst (v := 0) (pc' := 44) hZ (by decide) dX0_solve_43 rfl ?_
      refine x_istore_n (i := 3) (pc' := 45) (lv' := [(3, .int 0), (0, .ref q_this), (2, .int l2)]) hZ dX0_solve_44 rfl rfl (by decide) rfl ?_
      refine x_lv [1, 2, 0] (lv' := [(0, .ref q_this), (2, .int l2), (3, .int 0)]) rfl ?_
      obtain ⟨k45, h⟩ := h
      refine t_X0_solve_45 E Z q_this q_values q_turnOf q_ends q_a1 q_a1_weights q_a1_marks q_a1_ageing v_choosers v_queenValue v_values v_turnOf v_a1_people v_a1_alive v_a1_reported v_a1_mornings v_a1_years v_a1_weights v_a1_marks l2 hZ  _ 0 v_ends h (fun l3_45 v_ends_45 h => ?_)
      obtain ⟨x72, e72⟩ : ∃ y : Int32, y = l2 + (-1) := ⟨_, rfl⟩
      replace h := h x72 e72
      refine x_iinc (i := 2) (v := x72) (pc' := 75) (lv' := [(2, .int x72), (0, .ref q_this)]) hZ dX0_solve_72 rfl 1 rfl (by rw [e72]; rfl) (by decide) rfl ?_
      refine x_goto (pc' := 39) hZ dX0_solve_75 (by decide) ?_
      refine x_lv [1, 0] (lv' := [(0, .ref q_this), (2, .int x72)]) rfl ?_
      exact ih x72 v_ends_45 h hK
set_option maxHeartbeats 4000000 in
set_option maxRecDepth 100000 in
theorem c_X0_solve (E : XE) (q_this : Nat) (q_values : Nat) (q_turnOf : Nat) (q_ends : Nat) (q_a1 : Nat) (q_a1_weights : Nat) (q_a1_marks : Nat) (q_a1_ageing : Nat) (v_choosers : Int32) (v_queenValue : Int32) (v_values : Nat → Int32) (v_turnOf : Nat → Int32) (v_ends : Nat → Int32) (v_a1_people : Int32) (v_a1_alive : Int32) (v_a1_reported : Int32) (v_a1_mornings : Int32) (v_a1_years : Int32) (v_a1_weights : Nat → Int32) (v_a1_marks : Nat → Int32) (post : Int32 → Int32 → (Nat → Int32) → (Nat → Int32) → (Nat → Int32) → Prop) (h : p_X0_solve v_choosers v_queenValue v_values v_turnOf v_ends v_a1_people v_a1_alive v_a1_weights v_a1_marks post) : ConV E yX0_solve cX0_solve 4 { frames := 4, cells := 0, slots := 0, locals := 93 } 0 0 [.ref q_this, .ref q_a1] [(q_this, cO 0 [.ref q_values, .ref q_turnOf, .ref q_ends, .int v_choosers, .int v_queenValue]), (q_values, cA E 15 v_values), (q_turnOf, cA E 6 v_turnOf), (q_ends, cA E 243 v_ends), (q_a1, cO 1 [.int v_a1_people, .ref q_a1_weights, .ref q_a1_marks, .ref q_a1_ageing, .int v_a1_alive, .int v_a1_reported, .int v_a1_mornings, .int v_a1_years]), (q_a1_weights, cA E 3 v_a1_weights), (q_a1_marks, cA E 18 v_a1_marks)] (fun w => ∃ (u_choosers : Int32) (u_queenValue : Int32) (u_values : Nat → Int32) (u_turnOf : Nat → Int32) (u_ends : Nat → Int32), w = [(q_this, cO 0 [.ref q_values, .ref q_turnOf, .ref q_ends, .int u_choosers, .int u_queenValue]), (q_values, cA E 15 u_values), (q_turnOf, cA E 6 u_turnOf), (q_ends, cA E 243 u_ends), (q_a1, cO 1 [.int v_a1_people, .ref q_a1_weights, .ref q_a1_marks, .ref q_a1_ageing, .int v_a1_alive, .int v_a1_reported, .int v_a1_mornings, .int v_a1_years]), (q_a1_weights, cA E 3 v_a1_weights), (q_a1_marks, cA E 18 v_a1_marks)] ∧ post u_choosers u_queenValue u_values u_turnOf u_ends) := by
  refine ConV.of (by decide +kernel) (Nat.le_of_ble_eq_true rfl) (fun Z hZ hI hRet => ?_)
  replace hZ : XOK E Z RX0 cX0_solve 4 { frames := 4, cells := 0, slots := 0, locals := 93 } := hZ
  clear hI
  show XW E Z 0 0 [(q_this, cO 0 [.ref q_values, .ref q_turnOf, .ref q_ends, .int v_choosers, .int v_queenValue]), (q_values, cA E 15 v_values), (q_turnOf, cA E 6 v_turnOf), (q_ends, cA E 243 v_ends), (q_a1, cO 1 [.int v_a1_people, .ref q_a1_weights, .ref q_a1_marks, .ref q_a1_ageing, .int v_a1_alive, .int v_a1_reported, .int v_a1_mornings, .int v_a1_years]), (q_a1_weights, cA E 3 v_a1_weights), (q_a1_marks, cA E 18 v_a1_marks)] [(0, .ref q_this), (1, .ref q_a1)] [] 0
  unfold p_X0_solve at h
  refine x_aload_n (pc' := 1) hZ dX0_solve_0 rfl 0 rfl ?_
  refine x_aload_n (pc' := 2) hZ dX0_solve_1 rfl 1 rfl ?_
  refine k_RX0_28 (pc' := 5) (q0 := 0) (as := [.ref q_a1]) (rest := []) (c' := 0) (n' := 0) (wr := [(q_ends, cA E 243 v_ends)]) hZ (c_X0_meet E q_this q_values q_turnOf q_ends q_a1 q_a1_weights q_a1_marks q_a1_ageing v_choosers v_queenValue v_values v_turnOf v_a1_people v_a1_alive v_a1_reported v_a1_mornings v_a1_years v_a1_weights v_a1_marks _ h) rfl dX0_solve_2 rfl rfl rfl rfl rfl (Nat.le_of_ble_eq_true rfl) (Nat.le_of_ble_eq_true rfl) (Nat.le_of_ble_eq_true rfl) rfl rfl (Nat.le_of_ble_eq_true rfl) (Nat.le_of_ble_eq_true rfl) [0, 1, 2, 4, 5, 6] [3] rfl rfl (by decide) (by decide) (by decide) (fun w2 hw => ?_)
  obtain ⟨a2_0, a2_1, a2_2, a2_3, rfl, h⟩ := hw
  refine x_ws (ws' := [(q_this, cO 0 [.ref q_values, .ref q_turnOf, .ref q_ends, .int a2_0, .int a2_1]), (q_values, cA E 15 a2_2), (q_turnOf, cA E 6 a2_3), (q_ends, cA E 243 v_ends), (q_a1, cO 1 [.int v_a1_people, .ref q_a1_weights, .ref q_a1_marks, .ref q_a1_ageing, .int v_a1_alive, .int v_a1_reported, .int v_a1_mornings, .int v_a1_years]), (q_a1_weights, cA E 3 v_a1_weights), (q_a1_marks, cA E 18 v_a1_marks)]) [1, 2, 3, 0, 4, 5, 6] rfl (by decide) ?_
  refine x_iconst (v := 0) (pc' := 6) hZ (by decide) dX0_solve_5 rfl ?_
  refine x_istore_n (i := 2) (pc' := 7) (lv' := [(2, .int 0), (0, .ref q_this), (1, .ref q_a1)]) hZ dX0_solve_6 rfl rfl (by decide) rfl ?_
  refine x_lv [1, 0] (lv' := [(0, .ref q_this), (2, .int 0)]) rfl ?_
  obtain ⟨k7, h⟩ := h
  refine t_X0_solve_7 E Z q_this q_values q_turnOf q_ends q_a1 q_a1_weights q_a1_marks q_a1_ageing a2_0 a2_1 a2_2 a2_3 v_a1_people v_a1_alive v_a1_reported v_a1_mornings v_a1_years v_a1_weights v_a1_marks hZ  _ 0 v_ends h (fun l2_7 v_ends_7 h => ?_)
  refine x_aload_n (pc' := 33) hZ dX0_solve_32 rfl 0 rfl ?_
  refine g_RX0_21 (pc' := 36) hZ dX0_solve_33 rfl 0 rfl rfl ?_
  refine x_iconst (v := 1) (pc' := 37) hZ (by decide) dX0_solve_36 rfl ?_
  refine x_isub (pc' := 38) hZ dX0_solve_37 rfl ?_
  refine x_topi (fun x38 e38 => ?_)
  replace h := h x38 e38
  refine x_istore_n (i := 2) (pc' := 39) (lv' := [(2, .int x38), (0, .ref q_this)]) hZ dX0_solve_38 rfl rfl (by decide) rfl ?_
  refine x_lv [1, 0] (lv' := [(0, .ref q_this), (2, .int x38)]) rfl ?_
  obtain ⟨k39, h⟩ := h
  refine t_X0_solve_39 E Z q_this q_values q_turnOf q_ends q_a1 q_a1_weights q_a1_marks q_a1_ageing a2_0 a2_1 a2_2 a2_3 v_a1_people v_a1_alive v_a1_reported v_a1_mornings v_a1_years v_a1_weights v_a1_marks hZ  _ x38 v_ends_7 h (fun l2_39 v_ends_39 h => ?_)
  exact hRet _ _ _ dX0_solve_78 ⟨_, _, _, _, _, rfl, h⟩
set_option maxHeartbeats 4000000 in
set_option maxRecDepth 100000 in
theorem c_X0_choiceOf (E : XE) (q_this : Nat) (q_values : Nat) (q_turnOf : Nat) (q_ends : Nat) (v_choosers : Int32) (v_queenValue : Int32) (v_turnOf : Nat → Int32) (v_ends : Nat → Int32) (l1 : Int32) (post : Int32 → Prop) (h : p_X0_choiceOf v_choosers v_turnOf v_ends l1 post) : ConI E yX0_choiceOf cX0_choiceOf 2 .int { frames := 1, cells := 0, slots := 0, locals := 22 } 0 0 [.ref q_this, .int l1] [(q_this, cO 0 [.ref q_values, .ref q_turnOf, .ref q_ends, .int v_choosers, .int v_queenValue]), (q_turnOf, cA E 6 v_turnOf), (q_ends, cA E 243 v_ends)] (fun r w => w = [(q_this, cO 0 [.ref q_values, .ref q_turnOf, .ref q_ends, .int v_choosers, .int v_queenValue]), (q_turnOf, cA E 6 v_turnOf), (q_ends, cA E 243 v_ends)] ∧ post r ) := by
  refine ConI.of (by decide +kernel) (Nat.le_of_ble_eq_true rfl) (fun Z hZ hI hRet => ?_)
  replace hZ : XOK E Z RX0 cX0_choiceOf 2 { frames := 1, cells := 0, slots := 0, locals := 22 } := hZ
  clear hI
  show XW E Z 0 0 [(q_this, cO 0 [.ref q_values, .ref q_turnOf, .ref q_ends, .int v_choosers, .int v_queenValue]), (q_turnOf, cA E 6 v_turnOf), (q_ends, cA E 243 v_ends)] [(0, .ref q_this), (1, .int l1)] [] 0
  unfold p_X0_choiceOf at h
  refine x_aload_n (pc' := 1) hZ dX0_choiceOf_0 rfl 0 rfl ?_
  refine x_aload_n (pc' := 2) hZ dX0_choiceOf_1 rfl 0 rfl ?_
  refine g_RX0_18 (pc' := 5) hZ dX0_choiceOf_2 rfl 0 rfl rfl ?_
  refine x_iconst (v := 0) (pc' := 6) hZ (by decide) dX0_choiceOf_5 rfl ?_
  have h6 : vp_in 0 243 := by unfold vp_in; decide
  refine x_iald (pc' := 7) hZ h6 dX0_choiceOf_6 rfl 2 rfl ?_
  refine x_aload_n (pc' := 8) hZ dX0_choiceOf_7 rfl 0 rfl ?_
  refine g_RX0_15 (pc' := 11) hZ dX0_choiceOf_8 rfl 0 rfl rfl ?_
  refine x_iload_n (pc' := 12) hZ dX0_choiceOf_11 rfl 1 rfl ?_
  obtain ⟨h12, h⟩ := h
  refine x_iald (pc' := 13) hZ h12 dX0_choiceOf_12 rfl 1 rfl ?_
  refine k_RX0_61 (pc' := 16) (q0 := 0) (as := [.int (v_ends (ix 0)), .int (v_turnOf (ix l1))]) (rest := []) (c' := 0) (n' := 0) (wr := [(q_turnOf, cA E 6 v_turnOf), (q_ends, cA E 243 v_ends)]) hZ (c_X0_choiceAt E q_this q_values q_turnOf q_ends v_choosers v_queenValue (v_ends (ix 0)) (v_turnOf (ix l1)) _ h) rfl dX0_choiceOf_13 rfl rfl rfl rfl rfl (Nat.le_of_ble_eq_true rfl) (Nat.le_of_ble_eq_true rfl) (Nat.le_of_ble_eq_true rfl) rfl rfl (Nat.le_of_ble_eq_true rfl) (Nat.le_of_ble_eq_true rfl) [0] [1, 2] rfl rfl (by decide) (by decide) (by decide) (fun r13 w13 hw => ?_)
  obtain ⟨rfl, h⟩ := hw
  refine x_ws (ws' := [(q_this, cO 0 [.ref q_values, .ref q_turnOf, .ref q_ends, .int v_choosers, .int v_queenValue]), (q_turnOf, cA E 6 v_turnOf), (q_ends, cA E 243 v_ends)]) [2, 0, 1] rfl (by decide) ?_
  exact hRet _ _ _ _ dX0_choiceOf_16 ⟨rfl, h⟩
set_option maxHeartbeats 4000000 in
set_option maxRecDepth 100000 in
theorem c_X0_endOf (E : XE) (q_this : Nat) (q_values : Nat) (q_turnOf : Nat) (q_ends : Nat) (v_choosers : Int32) (v_queenValue : Int32) (v_values : Nat → Int32) (v_turnOf : Nat → Int32) (v_ends : Nat → Int32) (l1 : Int32) (post : Int32 → Prop) (h : p_X0_endOf v_choosers v_queenValue v_values v_turnOf v_ends l1 post) : ConI E yX0_endOf cX0_endOf 2 .int { frames := 3, cells := 0, slots := 0, locals := 68 } 0 0 [.ref q_this, .int l1] [(q_this, cO 0 [.ref q_values, .ref q_turnOf, .ref q_ends, .int v_choosers, .int v_queenValue]), (q_values, cA E 15 v_values), (q_turnOf, cA E 6 v_turnOf), (q_ends, cA E 243 v_ends)] (fun r w => w = [(q_this, cO 0 [.ref q_values, .ref q_turnOf, .ref q_ends, .int v_choosers, .int v_queenValue]), (q_values, cA E 15 v_values), (q_turnOf, cA E 6 v_turnOf), (q_ends, cA E 243 v_ends)] ∧ post r ) := by
  refine ConI.of (by decide +kernel) (Nat.le_of_ble_eq_true rfl) (fun Z hZ hI hRet => ?_)
  replace hZ : XOK E Z RX0 cX0_endOf 2 { frames := 3, cells := 0, slots := 0, locals := 68 } := hZ
  clear hI
  show XW E Z 0 0 [(q_this, cO 0 [.ref q_values, .ref q_turnOf, .ref q_ends, .int v_choosers, .int v_queenValue]), (q_values, cA E 15 v_values), (q_turnOf, cA E 6 v_turnOf), (q_ends, cA E 243 v_ends)] [(0, .ref q_this), (1, .int l1)] [] 0
  unfold p_X0_endOf at h
  refine x_aload_n (pc' := 1) hZ dX0_endOf_0 rfl 0 rfl ?_
  refine x_aload_n (pc' := 2) hZ dX0_endOf_1 rfl 0 rfl ?_
  refine g_RX0_18 (pc' := 5) hZ dX0_endOf_2 rfl 0 rfl rfl ?_
  refine x_iconst (v := 0) (pc' := 6) hZ (by decide) dX0_endOf_5 rfl ?_
  have h6 : vp_in 0 243 := by unfold vp_in; decide
  refine x_iald (pc' := 7) hZ h6 dX0_endOf_6 rfl 3 rfl ?_
  refine x_aload_n (pc' := 8) hZ dX0_endOf_7 rfl 0 rfl ?_
  refine g_RX0_15 (pc' := 11) hZ dX0_endOf_8 rfl 0 rfl rfl ?_
  refine x_iload_n (pc' := 12) hZ dX0_endOf_11 rfl 1 rfl ?_
  obtain ⟨h12, h⟩ := h
  refine x_iald (pc' := 13) hZ h12 dX0_endOf_12 rfl 2 rfl ?_
  refine k_RX0_55 (pc' := 16) (q0 := 0) (as := [.int (v_ends (ix 0)), .int (v_turnOf (ix l1))]) (rest := []) (c' := 0) (n' := 0) (wr := [(q_turnOf, cA E 6 v_turnOf), (q_ends, cA E 243 v_ends)]) hZ (c_X0_worthAt E q_this q_values q_turnOf q_ends v_choosers v_queenValue v_values (v_ends (ix 0)) (v_turnOf (ix l1)) _ h) rfl dX0_endOf_13 rfl rfl rfl rfl rfl (Nat.le_of_ble_eq_true rfl) (Nat.le_of_ble_eq_true rfl) (Nat.le_of_ble_eq_true rfl) rfl rfl (Nat.le_of_ble_eq_true rfl) (Nat.le_of_ble_eq_true rfl) [0, 1] [2, 3] rfl rfl (by decide) (by decide) (by decide) (fun r13 w13 hw => ?_)
  obtain ⟨rfl, h⟩ := hw
  refine x_ws (ws' := [(q_this, cO 0 [.ref q_values, .ref q_turnOf, .ref q_ends, .int v_choosers, .int v_queenValue]), (q_values, cA E 15 v_values), (q_turnOf, cA E 6 v_turnOf), (q_ends, cA E 243 v_ends)]) [2, 3, 0, 1] rfl (by decide) ?_
  exact hRet _ _ _ _ dX0_endOf_16 ⟨rfl, h⟩
