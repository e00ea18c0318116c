/-! walks, laid by program -/
set_option maxHeartbeats 4000000 in
set_option maxRecDepth 100000 in
theorem c_X1_init (E : XE) (q_this : Nat) (post : Int32 → Int32 → Int32 → Int32 → Int32 → (Nat → Int32) → (Nat → Int32) → (Nat → Int32) → Prop) (h : p_X1_init  post) : ConV E yX1_init cX1_init 1 { frames := 1, cells := 3, slots := 27, locals := 12 } 3 27 [.ref q_this] [(q_this, cO 1 [.int 0, .null, .null, .null, .int 0, .int 0, .int 0, .int 0])] (fun w => ∃ (q_weights : Nat) (q_marks : Nat) (q_ageing : Nat) (v_people : Int32) (v_alive : Int32) (v_reported : Int32) (v_mornings : Int32) (v_years : Int32) (v_weights : Nat → Int32) (v_marks : Nat → Int32) (v_ageing : Nat → Int32), w = [(q_this, cO 1 [.int v_people, .ref q_weights, .ref q_marks, .ref q_ageing, .int v_alive, .int v_reported, .int v_mornings, .int v_years]), (q_weights, cA E 3 v_weights), (q_marks, cA E 18 v_marks), (q_ageing, cA E 6 v_ageing)] ∧ post v_people v_alive v_reported v_mornings v_years v_weights v_marks v_ageing) := by
  refine ConV.of (by decide +kernel) (Nat.le_of_ble_eq_true rfl) (fun Z hZ hI hRet => ?_)
  replace hZ : XOK E Z RX1 cX1_init 1 { frames := 1, cells := 3, slots := 27, locals := 12 } := hZ
  replace hI : XNm Z "<init>" := hI
  show XW E Z 0 0 [(q_this, cO 1 [.int 0, .null, .null, .null, .int 0, .int 0, .int 0, .int 0])] [(0, .ref q_this)] [] 0
  unfold p_X1_init at h
  refine x_aload_n (pc' := 1) hZ dX1_init_0 rfl 0 rfl ?_
  refine x_objInit (pc' := 4) hZ kl_RX1_5 dX1_init_1 rfl (Nat.le_of_ble_eq_true rfl) (Nat.le_of_ble_eq_true rfl) ?_
  refine x_aload_n (pc' := 5) hZ dX1_init_4 rfl 0 rfl ?_
  refine x_iconst (v := 0) (pc' := 6) hZ (by decide) dX1_init_5 rfl ?_
  refine s_RX1_11 (pc' := 9) (ws' := [(q_this, cO 1 [.int 0, .null, .null, .null, .int 0, .int 0, .int 0, .int 0])]) hZ dX1_init_6 rfl 0 rfl (Nat.le_of_ble_eq_true rfl) rfl ?_
  refine x_aload_n (pc' := 10) hZ dX1_init_9 rfl 0 rfl ?_
  refine x_iconst (v := 3) (pc' := 11) hZ (by decide) dX1_init_10 rfl ?_
  refine x_newi (pc' := 13) (z := 3) (c' := 1) (n' := 3) hZ kA_int dX1_init_11 rfl (by decide) (by decide) (Nat.le_of_ble_eq_true rfl) rfl rfl (Nat.le_of_ble_eq_true rfl) (Nat.le_of_ble_eq_true rfl) (fun q11 => ?_)
  refine x_ws (ws' := [(q_this, cO 1 [.int 0, .null, .null, .null, .int 0, .int 0, .int 0, .int 0]), (q11, cA E 3 (fun _ => 0))]) [0, 1] rfl (by decide) ?_
  refine x_dup (pc' := 14) hZ dX1_init_13 rfl rfl ?_
  refine x_iconst (v := 0) (pc' := 15) hZ (by decide) dX1_init_14 rfl ?_
  refine x_iconst (v := 1) (pc' := 16) hZ (by decide) dX1_init_15 rfl ?_
  have h16 : vp_in 0 3 := by unfold vp_in; decide
  refine x_iast (pc' := 17) (ws' := [(q_this, cO 1 [.int 0, .null, .null, .null, .int 0, .int 0, .int 0, .int 0]), (q11, cA E 3 (upd (fun _ => 0) (ix 0) 1))]) hZ h16 dX1_init_16 rfl 1 rfl rfl ?_
  refine x_dup (pc' := 18) hZ dX1_init_17 rfl rfl ?_
  refine x_iconst (v := 1) (pc' := 19) hZ (by decide) dX1_init_18 rfl ?_
  refine x_iconst (v := 1) (pc' := 20) hZ (by decide) dX1_init_19 rfl ?_
  have h20 : vp_in 1 3 := by unfold vp_in; decide
  refine x_iast (pc' := 21) (ws' := [(q_this, cO 1 [.int 0, .null, .null, .null, .int 0, .int 0, .int 0, .int 0]), (q11, cA E 3 (upd (upd (fun _ => 0) (ix 0) 1) (ix 1) 1))]) hZ h20 dX1_init_20 rfl 1 rfl rfl ?_
  refine x_dup (pc' := 22) hZ dX1_init_21 rfl rfl ?_
  refine x_iconst (v := 2) (pc' := 23) hZ (by decide) dX1_init_22 rfl ?_
  refine x_iconst (v := 1) (pc' := 24) hZ (by decide) dX1_init_23 rfl ?_
  have h24 : vp_in 2 3 := by unfold vp_in; decide
  refine x_iast (pc' := 25) (ws' := [(q_this, cO 1 [.int 0, .null, .null, .null, .int 0, .int 0, .int 0, .int 0]), (q11, cA E 3 (upd (upd (upd (fun _ => 0) (ix 0) 1) (ix 1) 1) (ix 2) 1))]) hZ h24 dX1_init_24 rfl 1 rfl rfl ?_
  refine s_RX1_15 (pc' := 28) (ws' := [(q_this, cO 1 [.int 0, .ref q11, .null, .null, .int 0, .int 0, .int 0, .int 0]), (q11, cA E 3 (upd (upd (upd (fun _ => 0) (ix 0) 1) (ix 1) 1) (ix 2) 1))]) hZ hI dX1_init_25 rfl 0 rfl (Nat.le_of_ble_eq_true rfl) rfl ?_
  refine x_aload_n (pc' := 29) hZ dX1_init_28 rfl 0 rfl ?_
  refine x_bipush (v := 18) (pc' := 31) hZ (by decide) dX1_init_29 rfl ?_
  refine x_newi (pc' := 33) (z := 18) (c' := 2) (n' := 21) hZ kA_int dX1_init_31 rfl (by decide) (by decide) (Nat.le_of_ble_eq_true rfl) rfl rfl (Nat.le_of_ble_eq_true rfl) (Nat.le_of_ble_eq_true rfl) (fun q31 => ?_)
  refine x_ws (ws' := [(q_this, cO 1 [.int 0, .ref q11, .null, .null, .int 0, .int 0, .int 0, .int 0]), (q11, cA E 3 (upd (upd (upd (fun _ => 0) (ix 0) 1) (ix 1) 1) (ix 2) 1)), (q31, cA E 18 (fun _ => 0))]) [0, 1, 2] rfl (by decide) ?_
  refine s_RX1_19 (pc' := 36) (ws' := [(q_this, cO 1 [.int 0, .ref q11, .ref q31, .null, .int 0, .int 0, .int 0, .int 0]), (q11, cA E 3 (upd (upd (upd (fun _ => 0) (ix 0) 1) (ix 1) 1) (ix 2) 1)), (q31, cA E 18 (fun _ => 0))]) hZ hI dX1_init_33 rfl 0 rfl (Nat.le_of_ble_eq_true rfl) rfl ?_
  refine x_aload_n (pc' := 37) hZ dX1_init_36 rfl 0 rfl ?_
  refine x_bipush (v := 6) (pc' := 39) hZ (by decide) dX1_init_37 rfl ?_
  refine x_newi (pc' := 41) (z := 6) (c' := 3) (n' := 27) hZ kA_int dX1_init_39 rfl (by decide) (by decide) (Nat.le_of_ble_eq_true rfl) rfl rfl (Nat.le_of_ble_eq_true rfl) (Nat.le_of_ble_eq_true rfl) (fun q39 => ?_)
  refine x_ws (ws' := [(q_this, cO 1 [.int 0, .ref q11, .ref q31, .null, .int 0, .int 0, .int 0, .int 0]), (q11, cA E 3 (upd (upd (upd (fun _ => 0) (ix 0) 1) (ix 1) 1) (ix 2) 1)), (q31, cA E 18 (fun _ => 0)), (q39, cA E 6 (fun _ => 0))]) [0, 1, 2, 3] rfl (by decide) ?_
  refine s_RX1_22 (pc' := 44) (ws' := [(q_this, cO 1 [.int 0, .ref q11, .ref q31, .ref q39, .int 0, .int 0, .int 0, .int 0]), (q11, cA E 3 (upd (upd (upd (fun _ => 0) (ix 0) 1) (ix 1) 1) (ix 2) 1)), (q31, cA E 18 (fun _ => 0)), (q39, cA E 6 (fun _ => 0))]) hZ hI dX1_init_41 rfl 0 rfl (Nat.le_of_ble_eq_true rfl) rfl ?_
  refine x_aload_n (pc' := 45) hZ dX1_init_44 rfl 0 rfl ?_
  refine x_iconst (v := 0) (pc' := 46) hZ (by decide) dX1_init_45 rfl ?_
  refine s_RX1_25 (pc' := 49) (ws' := [(q_this, cO 1 [.int 0, .ref q11, .ref q31, .ref q39, .int 0, .int 0, .int 0, .int 0]), (q11, cA E 3 (upd (upd (upd (fun _ => 0) (ix 0) 1) (ix 1) 1) (ix 2) 1)), (q31, cA E 18 (fun _ => 0)), (q39, cA E 6 (fun _ => 0))]) hZ dX1_init_46 rfl 0 rfl (Nat.le_of_ble_eq_true rfl) rfl ?_
  refine x_aload_n (pc' := 50) hZ dX1_init_49 rfl 0 rfl ?_
  refine x_iconst (v := 0) (pc' := 51) hZ (by decide) dX1_init_50 rfl ?_
  refine s_RX1_28 (pc' := 54) (ws' := [(q_this, cO 1 [.int 0, .ref q11, .ref q31, .ref q39, .int 0, .int 0, .int 0, .int 0]), (q11, cA E 3 (upd (upd (upd (fun _ => 0) (ix 0) 1) (ix 1) 1) (ix 2) 1)), (q31, cA E 18 (fun _ => 0)), (q39, cA E 6 (fun _ => 0))]) hZ dX1_init_51 rfl 0 rfl (Nat.le_of_ble_eq_true rfl) rfl ?_
  refine x_aload_n (pc' := 55) hZ dX1_init_54 rfl 0 rfl ?_
  refine x_iconst (v := 0) (pc' := 56) hZ (by decide) dX1_init_55 rfl ?_
  refine s_RX1_31 (pc' := 59) (ws' := [(q_this, cO 1 [.int 0, .ref q11, .ref q31, .ref q39, .int 0, .int 0, .int 0, .int 0]), (q11, cA E 3 (upd (upd (upd (fun _ => 0) (ix 0) 1) (ix 1) 1) (ix 2) 1)), (q31, cA E 18 (fun _ => 0)), (q39, cA E 6 (fun _ => 0))]) hZ dX1_init_56 rfl 0 rfl (Nat.le_of_ble_eq_true rfl) rfl ?_
  refine x_aload_n (pc' := 60) hZ dX1_init_59 rfl 0 rfl ?_
  refine x_iconst (v := 0) (pc' := 61) hZ (by decide) dX1_init_60 rfl ?_
  refine s_RX1_34 (pc' := 64) (ws' := [(q_this, cO 1 [.int 0, .ref q11, .ref q31, .ref q39, .int 0, .int 0, .int 0, .int 0]), (q11, cA E 3 (upd (upd (upd (fun _ => 0) (ix 0) 1) (ix 1) 1) (ix 2) 1)), (q31, cA E 18 (fun _ => 0)), (q39, cA E 6 (fun _ => 0))]) hZ dX1_init_61 rfl 0 rfl (Nat.le_of_ble_eq_true rfl) rfl ?_
  exact hRet _ _ _ dX1_init_64 ⟨_, _, _, _, _, _, _, _, _, _, _, rfl, h⟩
set_option maxHeartbeats 4000000 in
set_option maxRecDepth 100000 in
theorem c_X1_everybody (E : XE) (q_this : Nat) (q_weights : Nat) (q_marks : Nat) (q_ageing : Nat) (v_people : Int32) (v_alive : Int32) (v_reported : Int32) (v_mornings : Int32) (v_years : Int32) (post : Int32 → Prop) (h : p_X1_everybody v_people post) : ConI E yX1_everybody cX1_everybody 1 .int { frames := 0, cells := 0, slots := 0, locals := 0 } 0 0 [.ref q_this] [(q_this, cO 1 [.int v_people, .ref q_weights, .ref q_marks, .ref q_ageing, .int v_alive, .int v_reported, .int v_mornings, .int v_years])] (fun r w => w = [(q_this, cO 1 [.int v_people, .ref q_weights, .ref q_marks, .ref q_ageing, .int v_alive, .int v_reported, .int v_mornings, .int v_years])] ∧ post r ) := by
  refine ConI.of (by decide +kernel) (Nat.le_of_ble_eq_true rfl) (fun Z hZ hI hRet => ?_)
  replace hZ : XOK E Z RX1 cX1_everybody 1 { frames := 0, cells := 0, slots := 0, locals := 0 } := hZ
  clear hI
  show XW E Z 0 0 [(q_this, cO 1 [.int v_people, .ref q_weights, .ref q_marks, .ref q_ageing, .int v_alive, .int v_reported, .int v_mornings, .int v_years])] [(0, .ref q_this)] [] 0
  unfold p_X1_everybody at h
  refine x_iconst (v := 1) (pc' := 1) hZ (by decide) dX1_everybody_0 rfl ?_
  refine x_aload_n (pc' := 2) hZ dX1_everybody_1 rfl 0 rfl ?_
  refine g_RX1_11 (pc' := 5) hZ dX1_everybody_2 rfl 0 rfl rfl ?_
  refine x_ishl (pc' := 6) hZ dX1_everybody_5 rfl ?_
  refine x_iconst (v := 1) (pc' := 7) hZ (by decide) dX1_everybody_6 rfl ?_
  refine x_isub (pc' := 8) hZ dX1_everybody_7 rfl ?_
  exact hRet _ _ _ _ dX1_everybody_8 ⟨rfl, h⟩
set_option maxHeartbeats 4000000 in
set_option maxRecDepth 100000 in
theorem t_X1_readFrom_15 (E : XE) (Z : ZC) (q_this : Nat) (q_weights : Nat) (q_marks : Nat) (q_ageing : Nat) (q_a1 : Nat) (q_a1_bytes : Nat) (v_people : Int32) (v_alive : Int32) (v_reported : Int32) (v_mornings : Int32) (v_years : Int32) (v_marks : Nat → Int32) (v_ageing : Nat → Int32) (v_a1_length : Int32) (v_a1_bytes : Nat → Int32) {K : Int32 → (Nat → Int32) → Prop} (hZ : XOK E Z RX1 cX1_readFrom 4 { frames := 2, cells := 0, slots := 0, locals := 33 }) : ∀ (k : Nat) (l2 : Int32) (v_weights : (Nat → Int32)), wl (fun rec v => b_X1_readFrom_15 v_a1_bytes K rec v.1 v.2) k (l2, v_weights) → (∀ (l2 : Int32) (v_weights : (Nat → Int32)), K l2 v_weights → XW E Z 0 0 [(q_this, cO 1 [.int v_people, .ref q_weights, .ref q_marks, .ref q_ageing, .int v_alive, .int v_reported, .int v_mornings, .int v_years]), (q_weights, cA E 3 v_weights), (q_marks, cA E 18 v_marks), (q_ageing, cA E 6 v_ageing), (q_a1, cO 2 [.ref q_a1_bytes, .int v_a1_length]), (q_a1_bytes, cA E 40 v_a1_bytes)] [(0, .ref q_this), (1, .ref q_a1)] [] 37) → XW E Z 0 0 [(q_this, cO 1 [.int v_people, .ref q_weights, .ref q_marks, .ref q_ageing, .int v_alive, .int v_reported, .int v_mornings, .int v_years]), (q_weights, cA E 3 v_weights), (q_marks, cA E 18 v_marks), (q_ageing, cA E 6 v_ageing), (q_a1, cO 2 [.ref q_a1_bytes, .int v_a1_length]), (q_a1_bytes, cA E 40 v_a1_bytes)] [(0, .ref q_this), (1, .ref q_a1), (2, .int l2)] [] 15 := by
  intro k
  induction k with
  | zero =>
    intro l2 v_weights h
    exact h.elim
  | succ k ih =>
    intro l2 v_weights h hK
    replace h := wl_succ h
    try dsimp only at h
    unfold b_X1_readFrom_15 at h
    refine x_iload_n (pc' := 16) hZ dX1_readFrom_15 rfl 2 rfl ?_
    refine x_iconst (v := 3) (pc' := 17) hZ (by decide) dX1_readFrom_16 rfl ?_
    refine x_icmp_ge (tgt := 37) (pc' := 20) hZ dX1_readFrom_17 (by decide) rfl (fun c17 => ?_) (fun c17 => ?_)
    · replace h := h.1 c17
      refine x_lv [0, 1] (lv' := [(0, .ref q_this), (1, .ref q_a1)]) rfl ?_
      exact hK l2 v_weights h
    · replace h := h.2 c17
      refine x_aload_n (pc' := 21) hZ dX1_readFrom_20 rfl 0 rfl ?_
      refine g_RX1_15 (pc' := 24) hZ dX1_readFrom_21 rfl 0 rfl rfl ?_
      refine x_iload_n (pc' := 25) hZ dX1_readFrom_24 rfl 2 rfl ?_
      refine x_aload_n (pc' := 26) hZ dX1_readFrom_25 rfl 1 rfl ?_
      refine x_iload_n (pc' := 27) hZ dX1_readFrom_26 rfl 2 rfl ?_
      refine k_RX1_49 (pc' := 30) (q0 := 4) (as := [.int l2]) (rest := [.int l2, .ref q_weights]) (c' := 0) (n' := 0) (wr := [(q_this, cO 1 [.int v_people, .ref q_weights, .ref q_marks, .ref q_ageing, .int v_alive, .int v_reported, .int v_mornings, .int v_years]), (q_weights, cA E 3 v_weights), (q_marks, cA E 18 v_marks), (q_ageing, cA E 6 v_ageing)]) hZ (c_X2_weight E q_a1 q_a1_bytes v_a1_length v_a1_bytes l2 _ h) rfl dX1_readFrom_27 rfl rfl rfl rfl rfl (Nat.le_of_ble_eq_true rfl) (Nat.le_of_ble_eq_true rfl) (Nat.le_of_ble_eq_true rfl) rfl rfl (Nat.le_of_ble_eq_true rfl) (Nat.le_of_ble_eq_true rfl) [4, 5] [0, 1, 2, 3] rfl rfl (by decide) (by decide) (by decide) (fun r27 w27 hw => ?_)
      obtain ⟨rfl, h⟩ := hw
      refine x_ws (ws' := [(q_this, cO 1 [.int v_people, .ref q_weights, .ref q_marks, .ref q_ageing, .int v_alive, .int v_reported, .int v_mornings, .int v_years]), (q_weights, cA E 3 v_weights), (q_marks, cA E 18 v_marks), (q_ageing, cA E 6 v_ageing), (q_a1, cO 2 [.ref q_a1_bytes, .int v_a1_length]), (q_a1_bytes, cA E 40 v_a1_bytes)]) [0, 1, 2, 3, 4, 5] rfl (by decide) ?_
      obtain ⟨h30, h⟩ := h
      refine x_iast (pc' := 31) (ws' := [(q_this, cO 1 [.int v_people, .ref q_weights, .ref q_marks, .ref q_ageing, .int v_alive, .int v_reported, .int v_mornings, .int v_years]), (q_weights, cA E 3 (upd v_weights (ix l2) r27)), (q_marks, cA E 18 v_marks), (q_ageing, cA E 6 v_ageing), (q_a1, cO 2 [.ref q_a1_bytes, .int v_a1_length]), (q_a1_bytes, cA E 40 v_a1_bytes)]) hZ h30 dX1_readFrom_30 rfl 1 rfl rfl ?_
      obtain ⟨x31, e31⟩ : ∃ y : Int32, y = l2 + 1 := ⟨_, rfl⟩
      replace h := h x31 e31
      refine x_iinc (i := 2) (v := x31) (pc' := 34) (lv' := [(2, .int x31), (0, .ref q_this), (1, .ref q_a1)]) hZ dX1_readFrom_31 rfl 2 rfl (by rw [e31]; rfl) (by decide) rfl ?_
      refine x_goto (pc' := 15) hZ dX1_readFrom_34 (by decide) ?_
      refine x_lv [1, 2, 0] (lv' := [(0, .ref q_this), (1, .ref q_a1), (2, .int x31)]) rfl ?_
      exact ih x31 (upd v_weights (ix l2) r27) h hK
set_option maxHeartbeats 4000000 in
set_option maxRecDepth 100000 in
theorem t_X1_readFrom_49 (E : XE) (Z : ZC) (q_this : Nat) (q_weights : Nat) (q_marks : Nat) (q_ageing : Nat) (q_a1 : Nat) (q_a1_bytes : Nat) (v_people : Int32) (v_alive : Int32) (v_reported : Int32) (v_mornings : Int32) (v_years : Int32) (v_weights : Nat → Int32) (v_ageing : Nat → Int32) (v_a1_length : Int32) (v_a1_bytes : Nat → Int32) (l2 : Int32) {K : Int32 → (Nat → Int32) → Prop} (hZ : XOK E Z RX1 cX1_readFrom 4 { frames := 2, cells := 0, slots := 0, locals := 33 }) : ∀ (k : Nat) (l3 : Int32) (v_marks : (Nat → Int32)), wl (fun rec v => b_X1_readFrom_49 l2 v_a1_bytes K rec v.1 v.2) k (l3, v_marks) → (∀ (l3 : Int32) (v_marks : (Nat → Int32)), K l3 v_marks → XW E Z 0 0 [(q_this, cO 1 [.int v_people, .ref q_weights, .ref q_marks, .ref q_ageing, .int v_alive, .int v_reported, .int v_mornings, .int v_years]), (q_weights, cA E 3 v_weights), (q_marks, cA E 18 v_marks), (q_ageing, cA E 6 v_ageing), (q_a1, cO 2 [.ref q_a1_bytes, .int v_a1_length]), (q_a1_bytes, cA E 40 v_a1_bytes)] [(0, .ref q_this), (1, .ref q_a1), (2, .int l2)] [] 76) → XW E Z 0 0 [(q_this, cO 1 [.int v_people, .ref q_weights, .ref q_marks, .ref q_ageing, .int v_alive, .int v_reported, .int v_mornings, .int v_years]), (q_weights, cA E 3 v_weights), (q_marks, cA E 18 v_marks), (q_ageing, cA E 6 v_ageing), (q_a1, cO 2 [.ref q_a1_bytes, .int v_a1_length]), (q_a1_bytes, cA E 40 v_a1_bytes)] [(0, .ref q_this), (1, .ref q_a1), (2, .int l2), (3, .int l3)] [] 49 := by
  intro k
  induction k with
  | zero =>
    intro l3 v_marks h
    exact h.elim
  | succ k ih =>
    intro l3 v_marks h hK
    replace h := wl_succ h
    try dsimp only at h
    unfold b_X1_readFrom_49 at h
    refine x_iload_n (pc' := 50) hZ dX1_readFrom_49 rfl 3 rfl ?_
    refine x_iconst (v := 3) (pc' := 51) hZ (by decide) dX1_readFrom_50 rfl ?_
    refine x_icmp_ge (tgt := 76) (pc' := 54) hZ dX1_readFrom_51 (by decide) rfl (fun c51 => ?_) (fun c51 => ?_)
    · replace h := h.1 c51
      refine x_lv [0, 1, 2] (lv' := [(0, .ref q_this), (1, .ref q_a1), (2, .int l2)]) rfl ?_
      exact hK l3 v_marks h
    · replace h := h.2 c51
      refine x_aload_n (pc' := 55) hZ dX1_readFrom_54 rfl 0 rfl ?_
      refine g_RX1_19 (pc' := 58) hZ dX1_readFrom_55 rfl 0 rfl rfl ?_
      refine x_iload_n (pc' := 59) hZ dX1_readFrom_58 rfl 2 rfl ?_
      refine x_iconst (v := 3) (pc' := 60) hZ (by decide) dX1_readFrom_59 rfl ?_
      refine x_imul (pc' := 61) hZ dX1_readFrom_60 rfl ?_
      refine x_iload_n (pc' := 62) hZ dX1_readFrom_61 rfl 3 rfl ?_
      refine x_iadd (pc' := 63) hZ dX1_readFrom_62 rfl ?_
      refine x_aload_n (pc' := 64) hZ dX1_readFrom_63 rfl 1 rfl ?_
      refine x_iload_n (pc' := 65) hZ dX1_readFrom_64 rfl 2 rfl ?_
      refine x_iload_n (pc' := 66) hZ dX1_readFrom_65 rfl 3 rfl ?_
      refine k_RX1_53 (pc' := 69) (q0 := 4) (as := [.int l2, .int l3]) (rest := [.int ((l2 * 3) + l3), .ref q_marks]) (c' := 0) (n' := 0) (wr := [(q_this, cO 1 [.int v_people, .ref q_weights, .ref q_marks, .ref q_ageing, .int v_alive, .int v_reported, .int v_mornings, .int v_years]), (q_weights, cA E 3 v_weights), (q_marks, cA E 18 v_marks), (q_ageing, cA E 6 v_ageing)]) hZ (c_X2_figureOf E q_a1 q_a1_bytes v_a1_length v_a1_bytes l2 l3 _ h) rfl dX1_readFrom_66 rfl rfl rfl rfl rfl (Nat.le_of_ble_eq_true rfl) (Nat.le_of_ble_eq_true rfl) (Nat.le_of_ble_eq_true rfl) rfl rfl (Nat.le_of_ble_eq_true rfl) (Nat.le_of_ble_eq_true rfl) [4, 5] [0, 1, 2, 3] rfl rfl (by decide) (by decide) (by decide) (fun r66 w66 hw => ?_)
      obtain ⟨rfl, h⟩ := hw
      refine x_ws (ws' := [(q_this, cO 1 [.int v_people, .ref q_weights, .ref q_marks, .ref q_ageing, .int v_alive, .int v_reported, .int v_mornings, .int v_years]), (q_weights, cA E 3 v_weights), (q_marks, cA E 18 v_marks), (q_ageing, cA E 6 v_ageing), (q_a1, cO 2 [.ref q_a1_bytes, .int v_a1_length]), (q_a1_bytes, cA E 40 v_a1_bytes)]) [0, 1, 2, 3, 4, 5] rfl (by decide) ?_
      obtain ⟨h69, h⟩ := h
      refine x_iast (pc' := 70) (ws' := [(q_this, cO 1 [.int v_people, .ref q_weights, .ref q_marks, .ref q_ageing, .int v_alive, .int v_reported, .int v_mornings, .int v_years]), (q_weights, cA E 3 v_weights), (q_marks, cA E 18 (upd v_marks (ix ((l2 * 3) + l3)) r66)), (q_ageing, cA E 6 v_ageing), (q_a1, cO 2 [.ref q_a1_bytes, .int v_a1_length]), (q_a1_bytes, cA E 40 v_a1_bytes)]) hZ h69 dX1_readFrom_69 rfl 2 rfl rfl ?_
      obtain ⟨x70, e70⟩ : ∃ y : Int32, y = l3 + 1 := ⟨_, rfl⟩
      replace h := h x70 e70
      refine x_iinc (i := 3) (v := x70) (pc' := 73) (lv' := [(3, .int x70), (0, .ref q_this), (1, .ref q_a1), (2, .int l2)]) hZ dX1_readFrom_70 rfl 3 rfl (by rw [e70]; rfl) (by decide) rfl ?_
      refine x_goto (pc' := 49) hZ dX1_readFrom_73 (by decide) ?_
      refine x_lv [1, 2, 3, 0] (lv' := [(0, .ref q_this), (1, .ref q_a1), (2, .int l2), (3, .int x70)]) rfl ?_
      exact ih x70 (upd v_marks (ix ((l2 * 3) + l3)) r66) h hK
set_option maxHeartbeats 4000000 in
set_option maxRecDepth 100000 in
theorem t_X1_readFrom_39 (E : XE) (Z : ZC) (q_this : Nat) (q_weights : Nat) (q_marks : Nat) (q_ageing : Nat) (q_a1 : Nat) (q_a1_bytes : Nat) (v_people : Int32) (v_alive : Int32) (v_reported : Int32) (v_mornings : Int32) (v_years : Int32) (v_weights : Nat → Int32) (v_a1_length : Int32) (v_a1_bytes : Nat → Int32) {K : Int32 → (Nat → Int32) → (Nat → Int32) → Prop} (hZ : XOK E Z RX1 cX1_readFrom 4 { frames := 2, cells := 0, slots := 0, locals := 33 }) : ∀ (k : Nat) (l2 : Int32) (v_marks : (Nat → Int32)) (v_ageing : (Nat → Int32)), wl (fun rec v => b_X1_readFrom_39 v_people v_a1_bytes K rec v.1 v.2.1 v.2.2) k (l2, v_marks, v_ageing) → (∀ (l2 : Int32) (v_marks : (Nat → Int32)) (v_ageing : (Nat → Int32)), K l2 v_marks v_ageing → XW E Z 0 0 [(q_this, cO 1 [.int v_people, .ref q_weights, .ref q_marks, .ref q_ageing, .int v_alive, .int v_reported, .int v_mornings, .int v_years]), (q_weights, cA E 3 v_weights), (q_marks, cA E 18 v_marks), (q_ageing, cA E 6 v_ageing), (q_a1, cO 2 [.ref q_a1_bytes, .int v_a1_length]), (q_a1_bytes, cA E 40 v_a1_bytes)] [(0, .ref q_this)] [] 94) → XW E Z 0 0 [(q_this, cO 1 [.int v_people, .ref q_weights, .ref q_marks, .ref q_ageing, .int v_alive, .int v_reported, .int v_mornings, .int v_years]), (q_weights, cA E 3 v_weights), (q_marks, cA E 18 v_marks), (q_ageing, cA E 6 v_ageing), (q_a1, cO 2 [.ref q_a1_bytes, .int v_a1_length]), (q_a1_bytes, cA E 40 v_a1_bytes)] [(0, .ref q_this), (1, .ref q_a1), (2, .int l2)] [] 39 := by
  intro k
  induction k with
  | zero =>
    intro l2 v_marks v_ageing h
    exact h.elim
  | succ k ih =>
    intro l2 v_marks v_ageing h hK
    replace h := wl_succ h
    try dsimp only at h
    unfold b_X1_readFrom_39 at h
    refine x_iload_n (pc' := 40) hZ dX1_readFrom_39 rfl 2 rfl ?_
    refine x_aload_n (pc' := 41) hZ dX1_readFrom_40 rfl 0 rfl ?_
    refine g_RX1_11 (pc' := 44) hZ dX1_readFrom_41 rfl 0 rfl rfl ?_
    refine x_icmp_ge (tgt := 94) (pc' := 47) hZ dX1_readFrom_44 (by decide) rfl (fun c44 => ?_) (fun c44 => ?_)
    · replace h := h.1 c44
      refine x_lv [0] (lv' := [(0, .ref q_this)]) rfl ?_
      exact hK l2 v_marks v_ageing h
    · replace h := h.2 c44
      refine x_iconst (v := 0) (pc' := 48) hZ (by decide) dX1_readFrom_47 rfl ?_
      refine x_istore_n (i := 3) (pc' := 49) (lv' := [(3, .int 0), (0, .ref q_this), (1, .ref q_a1), (2, .int l2)]) hZ dX1_readFrom_48 rfl rfl (by decide) rfl ?_
      refine x_lv [1, 2, 3, 0] (lv' := [(0, .ref q_this), (1, .ref q_a1), (2, .int l2), (3, .int 0)]) rfl ?_
      obtain ⟨k49, h⟩ := h
      refine t_X1_readFrom_49 E Z q_this q_weights q_marks q_ageing q_a1 q_a1_bytes v_people v_alive v_reported v_mornings v_years v_weights v_ageing v_a1_length v_a1_bytes l2 hZ  _ 0 v_marks h (fun l3_49 v_marks_49 h => ?_)
      refine x_aload_n (pc' := 77) hZ dX1_readFrom_76 rfl 0 rfl ?_
      refine g_RX1_22 (pc' := 80) hZ dX1_readFrom_77 rfl 0 rfl rfl ?_
      refine x_iload_n (pc' := 81) hZ dX1_readFrom_80 rfl 2 rfl ?_
      refine x_aload_n (pc' := 82) hZ dX1_readFrom_81 rfl 1 rfl ?_
      refine x_iload_n (pc' := 83) hZ dX1_readFrom_82 rfl 2 rfl ?_
      refine x_iconst (v := 3) (pc' := 84) hZ (by decide) dX1_readFrom_83 rfl ?_
      refine k_RX1_53 (pc' := 87) (q0 := 4) (as := [.int l2, .int 3]) (rest := [.int l2, .ref q_ageing]) (c' := 0) (n' := 0) (wr := [(q_this, cO 1 [.int v_people, .ref q_weights, .ref q_marks, .ref q_ageing, .int v_alive, .int v_reported, .int v_mornings, .int v_years]), (q_weights, cA E 3 v_weights), (q_marks, cA E 18 v_marks_49), (q_ageing, cA E 6 v_ageing)]) hZ (c_X2_figureOf E q_a1 q_a1_bytes v_a1_length v_a1_bytes l2 3 _ h) rfl dX1_readFrom_84 rfl rfl rfl rfl rfl (Nat.le_of_ble_eq_true rfl) (Nat.le_of_ble_eq_true rfl) (Nat.le_of_ble_eq_true rfl) rfl rfl (Nat.le_of_ble_eq_true rfl) (Nat.le_of_ble_eq_true rfl) [4, 5] [0, 1, 2, 3] rfl rfl (by decide) (by decide) (by decide) (fun r84 w84 hw => ?_)
      obtain ⟨rfl, h⟩ := hw
      refine x_ws (ws' := [(q_this, cO 1 [.int v_people, .ref q_weights, .ref q_marks, .ref q_ageing, .int v_alive, .int v_reported, .int v_mornings, .int v_years]), (q_weights, cA E 3 v_weights), (q_marks, cA E 18 v_marks_49), (q_ageing, cA E 6 v_ageing), (q_a1, cO 2 [.ref q_a1_bytes, .int v_a1_length]), (q_a1_bytes, cA E 40 v_a1_bytes)]) [0, 1, 2, 3, 4, 5] rfl (by decide) ?_
      obtain ⟨h87, h⟩ := h
      refine x_iast (pc' := 88) (ws' := [(q_this, cO 1 [.int v_people, .ref q_weights, .ref q_marks, .ref q_ageing, .int v_alive, .int v_reported, .int v_mornings, .int v_years]), (q_weights, cA E 3 v_weights), (q_marks, cA E 18 v_marks_49), (q_ageing, cA E 6 (upd v_ageing (ix l2) r84)), (q_a1, cO 2 [.ref q_a1_bytes, .int v_a1_length]), (q_a1_bytes, cA E 40 v_a1_bytes)]) hZ h87 dX1_readFrom_87 rfl 3 rfl rfl ?_
      obtain ⟨x88, e88⟩ : ∃ y : Int32, y = l2 + 1 := ⟨_, rfl⟩
      replace h := h x88 e88
      refine x_iinc (i := 2) (v := x88) (pc' := 91) (lv' := [(2, .int x88), (0, .ref q_this), (1, .ref q_a1)]) hZ dX1_readFrom_88 rfl 2 rfl (by rw [e88]; rfl) (by decide) rfl ?_
      refine x_goto (pc' := 39) hZ dX1_readFrom_91 (by decide) ?_
      refine x_lv [1, 2, 0] (lv' := [(0, .ref q_this), (1, .ref q_a1), (2, .int x88)]) rfl ?_
      exact ih x88 v_marks_49 (upd v_ageing (ix l2) r84) h hK
set_option maxHeartbeats 4000000 in
set_option maxRecDepth 100000 in
theorem c_X1_readFrom (E : XE) (q_this : Nat) (q_weights : Nat) (q_marks : Nat) (q_ageing : Nat) (q_a1 : Nat) (q_a1_bytes : Nat) (v_people : Int32) (v_alive : Int32) (v_reported : Int32) (v_mornings : Int32) (v_years : Int32) (v_weights : Nat → Int32) (v_marks : Nat → Int32) (v_ageing : Nat → Int32) (v_a1_length : Int32) (v_a1_bytes : Nat → Int32) (post : Int32 → Int32 → Int32 → Int32 → Int32 → (Nat → Int32) → (Nat → Int32) → (Nat → Int32) → Prop) (h : p_X1_readFrom v_people v_alive v_reported v_mornings v_years v_weights v_marks v_ageing v_a1_length v_a1_bytes post) : ConV E yX1_readFrom cX1_readFrom 4 { frames := 2, cells := 0, slots := 0, locals := 33 } 0 0 [.ref q_this, .ref q_a1] [(q_this, cO 1 [.int v_people, .ref q_weights, .ref q_marks, .ref q_ageing, .int v_alive, .int v_reported, .int v_mornings, .int v_years]), (q_weights, cA E 3 v_weights), (q_marks, cA E 18 v_marks), (q_ageing, cA E 6 v_ageing), (q_a1, cO 2 [.ref q_a1_bytes, .int v_a1_length]), (q_a1_bytes, cA E 40 v_a1_bytes)] (fun w => ∃ (u_people : Int32) (u_alive : Int32) (u_reported : Int32) (u_mornings : Int32) (u_years : Int32) (u_weights : Nat → Int32) (u_marks : Nat → Int32) (u_ageing : Nat → Int32), w = [(q_this, cO 1 [.int u_people, .ref q_weights, .ref q_marks, .ref q_ageing, .int u_alive, .int u_reported, .int u_mornings, .int u_years]), (q_weights, cA E 3 u_weights), (q_marks, cA E 18 u_marks), (q_ageing, cA E 6 u_ageing), (q_a1, cO 2 [.ref q_a1_bytes, .int v_a1_length]), (q_a1_bytes, cA E 40 v_a1_bytes)] ∧ post u_people u_alive u_reported u_mornings u_years u_weights u_marks u_ageing) := by
  refine ConV.of (by decide +kernel) (Nat.le_of_ble_eq_true rfl) (fun Z hZ hI hRet => ?_)
  replace hZ : XOK E Z RX1 cX1_readFrom 4 { frames := 2, cells := 0, slots := 0, locals := 33 } := hZ
  clear hI
  show XW E Z 0 0 [(q_this, cO 1 [.int v_people, .ref q_weights, .ref q_marks, .ref q_ageing, .int v_alive, .int v_reported, .int v_mornings, .int v_years]), (q_weights, cA E 3 v_weights), (q_marks, cA E 18 v_marks), (q_ageing, cA E 6 v_ageing), (q_a1, cO 2 [.ref q_a1_bytes, .int v_a1_length]), (q_a1_bytes, cA E 40 v_a1_bytes)] [(0, .ref q_this), (1, .ref q_a1)] [] 0
  unfold p_X1_readFrom at h
  refine x_aload_n (pc' := 1) hZ dX1_readFrom_0 rfl 0 rfl ?_
  refine x_aload_n (pc' := 2) hZ dX1_readFrom_1 rfl 1 rfl ?_
  refine k_RX1_37 (pc' := 5) (q0 := 4) (as := []) (rest := [.ref q_this]) (c' := 0) (n' := 0) (wr := [(q_this, cO 1 [.int v_people, .ref q_weights, .ref q_marks, .ref q_ageing, .int v_alive, .int v_reported, .int v_mornings, .int v_years]), (q_weights, cA E 3 v_weights), (q_marks, cA E 18 v_marks), (q_ageing, cA E 6 v_ageing), (q_a1_bytes, cA E 40 v_a1_bytes)]) hZ (c_X2_peopleTold E q_a1 q_a1_bytes v_a1_length _ h) rfl dX1_readFrom_2 rfl rfl rfl rfl rfl (Nat.le_of_ble_eq_true rfl) (Nat.le_of_ble_eq_true rfl) (Nat.le_of_ble_eq_true rfl) rfl rfl (Nat.le_of_ble_eq_true rfl) (Nat.le_of_ble_eq_true rfl) [4] [0, 1, 2, 3, 5] rfl rfl (by decide) (by decide) (by decide) (fun r2 w2 hw => ?_)
  obtain ⟨rfl, h⟩ := hw
  refine x_ws (ws' := [(q_this, cO 1 [.int v_people, .ref q_weights, .ref q_marks, .ref q_ageing, .int v_alive, .int v_reported, .int v_mornings, .int v_years]), (q_weights, cA E 3 v_weights), (q_marks, cA E 18 v_marks), (q_ageing, cA E 6 v_ageing), (q_a1, cO 2 [.ref q_a1_bytes, .int v_a1_length]), (q_a1_bytes, cA E 40 v_a1_bytes)]) [0, 1, 2, 3, 5, 4] rfl (by decide) ?_
  refine x_bipush (v := 6) (pc' := 7) hZ (by decide) dX1_readFrom_5 rfl ?_
  refine x_mmin (pc' := 10) hZ kl_RX1_43 dX1_readFrom_7 rfl (Nat.le_of_ble_eq_true rfl) (Nat.le_of_ble_eq_true rfl) (Nat.le_of_ble_eq_true rfl) (Nat.le_of_ble_eq_true rfl) ?_
  refine x_topi (fun x10 e10 => ?_)
  replace h := h x10 e10
  refine s_RX1_11 (pc' := 13) (ws' := [(q_this, cO 1 [.int x10, .ref q_weights, .ref q_marks, .ref q_ageing, .int v_alive, .int v_reported, .int v_mornings, .int v_years]), (q_weights, cA E 3 v_weights), (q_marks, cA E 18 v_marks), (q_ageing, cA E 6 v_ageing), (q_a1, cO 2 [.ref q_a1_bytes, .int v_a1_length]), (q_a1_bytes, cA E 40 v_a1_bytes)]) hZ dX1_readFrom_10 rfl 0 rfl (Nat.le_of_ble_eq_true rfl) rfl ?_
  refine x_iconst (v := 0) (pc' := 14) hZ (by decide) dX1_readFrom_13 rfl ?_
  refine x_istore_n (i := 2) (pc' := 15) (lv' := [(2, .int 0), (0, .ref q_this), (1, .ref q_a1)]) hZ dX1_readFrom_14 rfl rfl (by decide) rfl ?_
  refine x_lv [1, 2, 0] (lv' := [(0, .ref q_this), (1, .ref q_a1), (2, .int 0)]) rfl ?_
  obtain ⟨k15, h⟩ := h
  refine t_X1_readFrom_15 E Z q_this q_weights q_marks q_ageing q_a1 q_a1_bytes x10 v_alive v_reported v_mornings v_years v_marks v_ageing v_a1_length v_a1_bytes hZ  _ 0 v_weights h (fun l2_15 v_weights_15 h => ?_)
  refine x_iconst (v := 0) (pc' := 38) hZ (by decide) dX1_readFrom_37 rfl ?_
  refine x_istore_n (i := 2) (pc' := 39) (lv' := [(2, .int 0), (0, .ref q_this), (1, .ref q_a1)]) hZ dX1_readFrom_38 rfl rfl (by decide) rfl ?_
  refine x_lv [1, 2, 0] (lv' := [(0, .ref q_this), (1, .ref q_a1), (2, .int 0)]) rfl ?_
  obtain ⟨k39, h⟩ := h
  refine t_X1_readFrom_39 E Z q_this q_weights q_marks q_ageing q_a1 q_a1_bytes x10 v_alive v_reported v_mornings v_years v_weights_15 v_a1_length v_a1_bytes hZ  _ 0 v_marks v_ageing h (fun l2_39 v_marks_39 v_ageing_39 h => ?_)
  refine x_aload_n (pc' := 95) hZ dX1_readFrom_94 rfl 0 rfl ?_
  refine x_aload_n (pc' := 96) hZ dX1_readFrom_95 rfl 0 rfl ?_
  refine k_RX1_56 (pc' := 99) (q0 := 0) (as := []) (rest := [.ref q_this]) (c' := 0) (n' := 0) (wr := [(q_weights, cA E 3 v_weights_15), (q_marks, cA E 18 v_marks_39), (q_ageing, cA E 6 v_ageing_39), (q_a1, cO 2 [.ref q_a1_bytes, .int v_a1_length]), (q_a1_bytes, cA E 40 v_a1_bytes)]) hZ (c_X1_everybody E q_this q_weights q_marks q_ageing x10 v_alive v_reported v_mornings v_years _ h) rfl dX1_readFrom_96 rfl rfl rfl rfl rfl (Nat.le_of_ble_eq_true rfl) (Nat.le_of_ble_eq_true rfl) (Nat.le_of_ble_eq_true rfl) rfl rfl (Nat.le_of_ble_eq_true rfl) (Nat.le_of_ble_eq_true rfl) [0] [1, 2, 3, 4, 5] rfl rfl (by decide) (by decide) (by decide) (fun r96 w96 hw => ?_)
  obtain ⟨rfl, h⟩ := hw
  refine x_ws (ws' := [(q_this, cO 1 [.int x10, .ref q_weights, .ref q_marks, .ref q_ageing, .int v_alive, .int v_reported, .int v_mornings, .int v_years]), (q_weights, cA E 3 v_weights_15), (q_marks, cA E 18 v_marks_39), (q_ageing, cA E 6 v_ageing_39), (q_a1, cO 2 [.ref q_a1_bytes, .int v_a1_length]), (q_a1_bytes, cA E 40 v_a1_bytes)]) [5, 0, 1, 2, 3, 4] rfl (by decide) ?_
  refine s_RX1_25 (pc' := 102) (ws' := [(q_this, cO 1 [.int x10, .ref q_weights, .ref q_marks, .ref q_ageing, .int r96, .int v_reported, .int v_mornings, .int v_years]), (q_weights, cA E 3 v_weights_15), (q_marks, cA E 18 v_marks_39), (q_ageing, cA E 6 v_ageing_39), (q_a1, cO 2 [.ref q_a1_bytes, .int v_a1_length]), (q_a1_bytes, cA E 40 v_a1_bytes)]) hZ dX1_readFrom_99 rfl 0 rfl (Nat.le_of_ble_eq_true rfl) rfl ?_
  refine x_aload_n (pc' := 103) hZ dX1_readFrom_102 rfl 0 rfl ?_
  refine x_iconst (v := 0) (pc' := 104) hZ (by decide) dX1_readFrom_103 rfl ?_
  refine s_RX1_28 (pc' := 107) (ws' := [(q_this, cO 1 [.int x10, .ref q_weights, .ref q_marks, .ref q_ageing, .int r96, .int 0, .int v_mornings, .int v_years]), (q_weights, cA E 3 v_weights_15), (q_marks, cA E 18 v_marks_39), (q_ageing, cA E 6 v_ageing_39), (q_a1, cO 2 [.ref q_a1_bytes, .int v_a1_length]), (q_a1_bytes, cA E 40 v_a1_bytes)]) hZ dX1_readFrom_104 rfl 0 rfl (Nat.le_of_ble_eq_true rfl) rfl ?_
  refine x_aload_n (pc' := 108) hZ dX1_readFrom_107 rfl 0 rfl ?_
  refine x_iconst (v := 0) (pc' := 109) hZ (by decide) dX1_readFrom_108 rfl ?_
  refine s_RX1_31 (pc' := 112) (ws' := [(q_this, cO 1 [.int x10, .ref q_weights, .ref q_marks, .ref q_ageing, .int r96, .int 0, .int 0, .int v_years]), (q_weights, cA E 3 v_weights_15), (q_marks, cA E 18 v_marks_39), (q_ageing, cA E 6 v_ageing_39), (q_a1, cO 2 [.ref q_a1_bytes, .int v_a1_length]), (q_a1_bytes, cA E 40 v_a1_bytes)]) hZ dX1_readFrom_109 rfl 0 rfl (Nat.le_of_ble_eq_true rfl) rfl ?_
  refine x_aload_n (pc' := 113) hZ dX1_readFrom_112 rfl 0 rfl ?_
  refine x_iconst (v := 0) (pc' := 114) hZ (by decide) dX1_readFrom_113 rfl ?_
  refine s_RX1_34 (pc' := 117) (ws' := [(q_this, cO 1 [.int x10, .ref q_weights, .ref q_marks, .ref q_ageing, .int r96, .int 0, .int 0, .int 0]), (q_weights, cA E 3 v_weights_15), (q_marks, cA E 18 v_marks_39), (q_ageing, cA E 6 v_ageing_39), (q_a1, cO 2 [.ref q_a1_bytes, .int v_a1_length]), (q_a1_bytes, cA E 40 v_a1_bytes)]) hZ dX1_readFrom_114 rfl 0 rfl (Nat.le_of_ble_eq_true rfl) rfl ?_
  exact hRet _ _ _ dX1_readFrom_117 ⟨_, _, _, _, _, _, _, _, rfl, h⟩
set_option maxHeartbeats 4000000 in
set_option maxRecDepth 100000 in
theorem c_X1_valueOf (E : XE) (q_this : Nat) (q_weights : Nat) (q_marks : Nat) (q_ageing : Nat) (v_people : Int32) (v_alive : Int32) (v_reported : Int32) (v_mornings : Int32) (v_years : Int32) (v_weights : Nat → Int32) (v_marks : Nat → Int32) (l1 : Int32) (post : Int32 → Prop) (h : p_X1_valueOf v_weights v_marks l1 post) : ConI E yX1_valueOf cX1_valueOf 3 .int { frames := 0, cells := 0, slots := 0, locals := 0 } 0 0 [.ref q_this, .int l1] [(q_this, cO 1 [.int v_people, .ref q_weights, .ref q_marks, .ref q_ageing, .int v_alive, .int v_reported, .int v_mornings, .int v_years]), (q_weights, cA E 3 v_weights), (q_marks, cA E 18 v_marks)] (fun r w => w = [(q_this, cO 1 [.int v_people, .ref q_weights, .ref q_marks, .ref q_ageing, .int v_alive, .int v_reported, .int v_mornings, .int v_years]), (q_weights, cA E 3 v_weights), (q_marks, cA E 18 v_marks)] ∧ post r ) := by
  refine ConI.of (by decide +kernel) (Nat.le_of_ble_eq_true rfl) (fun Z hZ hI hRet => ?_)
  replace hZ : XOK E Z RX1 cX1_valueOf 3 { frames := 0, cells := 0, slots := 0, locals := 0 } := hZ
  clear hI
  show XW E Z 0 0 [(q_this, cO 1 [.int v_people, .ref q_weights, .ref q_marks, .ref q_ageing, .int v_alive, .int v_reported, .int v_mornings, .int v_years]), (q_weights, cA E 3 v_weights), (q_marks, cA E 18 v_marks)] [(0, .ref q_this), (1, .int l1)] [] 0
  unfold p_X1_valueOf at h
  refine x_iload_n (pc' := 1) hZ dX1_valueOf_0 rfl 1 rfl ?_
  refine x_iconst (v := 3) (pc' := 2) hZ (by decide) dX1_valueOf_1 rfl ?_
  refine x_imul (pc' := 3) hZ dX1_valueOf_2 rfl ?_
  refine x_topi (fun x3 e3 => ?_)
  replace h := h x3 e3
  refine x_istore_n (i := 2) (pc' := 4) (lv' := [(2, .int x3), (0, .ref q_this), (1, .int l1)]) hZ dX1_valueOf_3 rfl rfl (by decide) rfl ?_
  refine x_aload_n (pc' := 5) hZ dX1_valueOf_4 rfl 1 rfl ?_
  refine g_RX1_15 (pc' := 8) hZ dX1_valueOf_5 rfl 0 rfl rfl ?_
  refine x_iconst (v := 0) (pc' := 9) hZ (by decide) dX1_valueOf_8 rfl ?_
  have h9 : vp_in 0 3 := by unfold vp_in; decide
  refine x_iald (pc' := 10) hZ h9 dX1_valueOf_9 rfl 1 rfl ?_
  refine x_aload_n (pc' := 11) hZ dX1_valueOf_10 rfl 1 rfl ?_
  refine g_RX1_19 (pc' := 14) hZ dX1_valueOf_11 rfl 0 rfl rfl ?_
  refine x_iload_n (pc' := 15) hZ dX1_valueOf_14 rfl 0 rfl ?_
  obtain ⟨h15, h⟩ := h
  refine x_iald (pc' := 16) hZ h15 dX1_valueOf_15 rfl 2 rfl ?_
  refine x_imul (pc' := 17) hZ dX1_valueOf_16 rfl ?_
  refine x_aload_n (pc' := 18) hZ dX1_valueOf_17 rfl 1 rfl ?_
  refine g_RX1_15 (pc' := 21) hZ dX1_valueOf_18 rfl 0 rfl rfl ?_
  refine x_iconst (v := 1) (pc' := 22) hZ (by decide) dX1_valueOf_21 rfl ?_
  have h22 : vp_in 1 3 := by unfold vp_in; decide
  refine x_iald (pc' := 23) hZ h22 dX1_valueOf_22 rfl 1 rfl ?_
  refine x_aload_n (pc' := 24) hZ dX1_valueOf_23 rfl 1 rfl ?_
  refine g_RX1_19 (pc' := 27) hZ dX1_valueOf_24 rfl 0 rfl rfl ?_
  refine x_iload_n (pc' := 28) hZ dX1_valueOf_27 rfl 0 rfl ?_
  refine x_iconst (v := 1) (pc' := 29) hZ (by decide) dX1_valueOf_28 rfl ?_
  refine x_iadd (pc' := 30) hZ dX1_valueOf_29 rfl ?_
  obtain ⟨h30, h⟩ := h
  refine x_iald (pc' := 31) hZ h30 dX1_valueOf_30 rfl 2 rfl ?_
  refine x_imul (pc' := 32) hZ dX1_valueOf_31 rfl ?_
  refine x_iadd (pc' := 33) hZ dX1_valueOf_32 rfl ?_
  refine x_aload_n (pc' := 34) hZ dX1_valueOf_33 rfl 1 rfl ?_
  refine g_RX1_15 (pc' := 37) hZ dX1_valueOf_34 rfl 0 rfl rfl ?_
  refine x_iconst (v := 2) (pc' := 38) hZ (by decide) dX1_valueOf_37 rfl ?_
  have h38 : vp_in 2 3 := by unfold vp_in; decide
  refine x_iald (pc' := 39) hZ h38 dX1_valueOf_38 rfl 1 rfl ?_
  refine x_aload_n (pc' := 40) hZ dX1_valueOf_39 rfl 1 rfl ?_
  refine g_RX1_19 (pc' := 43) hZ dX1_valueOf_40 rfl 0 rfl rfl ?_
  refine x_iload_n (pc' := 44) hZ dX1_valueOf_43 rfl 0 rfl ?_
  refine x_iconst (v := 2) (pc' := 45) hZ (by decide) dX1_valueOf_44 rfl ?_
  refine x_iadd (pc' := 46) hZ dX1_valueOf_45 rfl ?_
  obtain ⟨h46, h⟩ := h
  refine x_iald (pc' := 47) hZ h46 dX1_valueOf_46 rfl 2 rfl ?_
  refine x_imul (pc' := 48) hZ dX1_valueOf_47 rfl ?_
  refine x_iadd (pc' := 49) hZ dX1_valueOf_48 rfl ?_
  exact hRet _ _ _ _ dX1_valueOf_49 ⟨rfl, h⟩
set_option maxHeartbeats 4000000 in
set_option maxRecDepth 100000 in
theorem t_X1_fairestOf_7 (E : XE) (Z : ZC) (q_this : Nat) (q_weights : Nat) (q_marks : Nat) (q_ageing : Nat) (v_people : Int32) (v_alive : Int32) (v_reported : Int32) (v_mornings : Int32) (v_years : Int32) (v_weights : Nat → Int32) (v_marks : Nat → Int32) (l1 : Int32) {K : Int32 → Int32 → Int32 → Prop} (hZ : XOK E Z RX1 cX1_fairestOf 6 { frames := 1, cells := 0, slots := 0, locals := 22 }) : ∀ (k : Nat) (l2 : Int32) (l3 : Int32) (l4 : Int32), wl (fun rec v => b_X1_fairestOf_7 l1 v_people v_weights v_marks K rec v.1 v.2.1 v.2.2) k (l2, l3, l4) → (∀ (l2 : Int32) (l3 : Int32) (l4 : Int32), K l2 l3 l4 → XW E Z 0 0 [(q_this, cO 1 [.int v_people, .ref q_weights, .ref q_marks, .ref q_ageing, .int v_alive, .int v_reported, .int v_mornings, .int v_years]), (q_weights, cA E 3 v_weights), (q_marks, cA E 18 v_marks)] [(3, .int l3)] [] 64) → XW E Z 0 0 [(q_this, cO 1 [.int v_people, .ref q_weights, .ref q_marks, .ref q_ageing, .int v_alive, .int v_reported, .int v_mornings, .int v_years]), (q_weights, cA E 3 v_weights), (q_marks, cA E 18 v_marks)] [(0, .ref q_this), (1, .int l1), (2, .int l2), (3, .int l3), (4, .int l4)] [] 7 := by
  intro k
  induction k with
  | zero =>
    intro l2 l3 l4 h
    exact h.elim
  | succ k ih =>
    intro l2 l3 l4 h hK
    replace h := wl_succ h
    try dsimp only at h
    unfold b_X1_fairestOf_7 at h
    refine x_iload (pc' := 9) hZ dX1_fairestOf_7 rfl 4 rfl ?_
    refine x_aload_n (pc' := 10) hZ dX1_fairestOf_9 rfl 0 rfl ?_
    refine g_RX1_11 (pc' := 13) hZ dX1_fairestOf_10 rfl 0 rfl rfl ?_
    refine x_icmp_ge (tgt := 64) (pc' := 16) hZ dX1_fairestOf_13 (by decide) rfl (fun c13 => ?_) (fun c13 => ?_)
    · replace h := h.1 c13
      refine x_lv [3] (lv' := [(3, .int l3)]) rfl ?_
      exact hK l2 l3 l4 h
    · replace h := h.2 c13
      refine x_iload_n (pc' := 17) hZ dX1_fairestOf_16 rfl 1 rfl ?_
      refine x_iload (pc' := 19) hZ dX1_fairestOf_17 rfl 4 rfl ?_
      refine x_ishr (pc' := 20) hZ dX1_fairestOf_19 rfl ?_
      refine x_iconst (v := 1) (pc' := 21) hZ (by decide) dX1_fairestOf_20 rfl ?_
      refine x_iand (pc' := 22) hZ dX1_fairestOf_21 rfl ?_
      refine x_iconst (v := 1) (pc' := 23) hZ (by decide) dX1_fairestOf_22 rfl ?_
      refine x_icmp_ne (tgt := 58) (pc' := 26) hZ dX1_fairestOf_23 (by decide) rfl (fun c23 => ?_) (fun c23 => ?_)
      · replace h := h.1 c23
        obtain ⟨x58, e58⟩ : ∃ y : Int32, y = l4 + 1 := ⟨_, rfl⟩
        replace h := h x58 e58
        refine x_iinc (i := 4) (v := x58) (pc' := 61) (lv' := [(4, .int x58), (0, .ref q_this), (1, .int l1), (2, .int l2), (3, .int l3)]) hZ dX1_fairestOf_58 rfl 4 rfl (by rw [e58]; rfl) (by decide) rfl ?_
        refine x_goto (pc' := 7) hZ dX1_fairestOf_61 (by decide) ?_
        refine x_lv [1, 2, 3, 4, 0] (lv' := [(0, .ref q_this), (1, .int l1), (2, .int l2), (3, .int l3), (4, .int x58)]) rfl ?_
        exact ih l2 l3 x58 h hK
      · replace h := h.2 c23
        refine x_aload_n (pc' := 27) hZ dX1_fairestOf_26 rfl 0 rfl ?_
        refine x_iload (pc' := 29) hZ dX1_fairestOf_27 rfl 4 rfl ?_
        refine k_RX1_76 (pc' := 32) (q0 := 0) (as := [.int l4]) (rest := []) (c' := 0) (n' := 0) (wr := []) hZ (c_X1_valueOf E q_this q_weights q_marks q_ageing v_people v_alive v_reported v_mornings v_years v_weights v_marks l4 _ h) rfl dX1_fairestOf_29 rfl rfl rfl rfl rfl (Nat.le_of_ble_eq_true rfl) (Nat.le_of_ble_eq_true rfl) (Nat.le_of_ble_eq_true rfl) rfl rfl (Nat.le_of_ble_eq_true rfl) (Nat.le_of_ble_eq_true rfl) [0, 1, 2] [] rfl rfl (by decide) (by decide) (by decide) (fun r29 w29 hw => ?_)
        obtain ⟨rfl, h⟩ := hw
        refine x_ws (ws' := [(q_this, cO 1 [.int v_people, .ref q_weights, .ref q_marks, .ref q_ageing, .int v_alive, .int v_reported, .int v_mornings, .int v_years]), (q_weights, cA E 3 v_weights), (q_marks, cA E 18 v_marks)]) [0, 1, 2] rfl (by decide) ?_
        refine x_istore (i := 5) (pc' := 34) (lv' := [(5, .int r29), (0, .ref q_this), (1, .int l1), (2, .int l2), (3, .int l3), (4, .int l4)]) hZ dX1_fairestOf_32 rfl (by decide) rfl ?_
        refine x_iload (pc' := 36) hZ dX1_fairestOf_34 rfl 0 rfl ?_
        refine x_iload_n (pc' := 37) hZ dX1_fairestOf_36 rfl 3 rfl ?_
        refine x_icmp_le (tgt := 45) (pc' := 40) hZ dX1_fairestOf_37 (by decide) rfl (fun c37 => ?_) (fun c37 => ?_)
        · replace h := h.1 c37
          refine x_iload (pc' := 47) hZ dX1_fairestOf_45 rfl 0 rfl ?_
          refine x_iload_n (pc' := 48) hZ dX1_fairestOf_47 rfl 3 rfl ?_
          refine x_icmp_ne (tgt := 58) (pc' := 51) hZ dX1_fairestOf_48 (by decide) rfl (fun c48 => ?_) (fun c48 => ?_)
          · replace h := h.1 c48
            obtain ⟨x58, e58⟩ : ∃ y : Int32, y = l4 + 1 := ⟨_, rfl⟩
            replace h := h x58 e58
            refine x_iinc (i := 4) (v := x58) (pc' := 61) (lv' := [(4, .int x58), (5, .int r29), (0, .ref q_this), (1, .int l1), (2, .int l2), (3, .int l3)]) hZ dX1_fairestOf_58 rfl 5 rfl (by rw [e58]; rfl) (by decide) rfl ?_
            refine x_goto (pc' := 7) hZ dX1_fairestOf_61 (by decide) ?_
            refine x_lv [2, 3, 4, 5, 0] (lv' := [(0, .ref q_this), (1, .int l1), (2, .int l2), (3, .int l3), (4, .int x58)]) rfl ?_
            exact ih l2 l3 x58 h hK
          · replace h := h.2 c48
            refine x_iload_n (pc' := 52) hZ dX1_fairestOf_51 rfl 4 rfl ?_
            refine x_iconst (v := 1) (pc' := 53) hZ (by decide) dX1_fairestOf_52 rfl ?_
            refine x_iload (pc' := 55) hZ dX1_fairestOf_53 rfl 5 rfl ?_
            refine x_ishl (pc' := 56) hZ dX1_fairestOf_55 rfl ?_
            refine x_ior (pc' := 57) hZ dX1_fairestOf_56 rfl ?_
            refine x_topi (fun x57 e57 => ?_)
            replace h := h x57 e57
            refine x_istore_n (i := 3) (pc' := 58) (lv' := [(3, .int x57), (5, .int r29), (0, .ref q_this), (1, .int l1), (2, .int l2), (4, .int l4)]) hZ dX1_fairestOf_57 rfl rfl (by decide) rfl ?_
            obtain ⟨x58, e58⟩ : ∃ y : Int32, y = l4 + 1 := ⟨_, rfl⟩
            replace h := h x58 e58
            refine x_iinc (i := 4) (v := x58) (pc' := 61) (lv' := [(4, .int x58), (3, .int x57), (5, .int r29), (0, .ref q_this), (1, .int l1), (2, .int l2)]) hZ dX1_fairestOf_58 rfl 5 rfl (by rw [e58]; rfl) (by decide) rfl ?_
            refine x_goto (pc' := 7) hZ dX1_fairestOf_61 (by decide) ?_
            refine x_lv [3, 4, 5, 1, 0] (lv' := [(0, .ref q_this), (1, .int l1), (2, .int l2), (3, .int x57), (4, .int x58)]) rfl ?_
            exact ih l2 x57 x58 h hK
        · replace h := h.2 c37
          refine x_iload (pc' := 42) hZ dX1_fairestOf_40 rfl 0 rfl ?_
          refine x_istore_n (i := 2) (pc' := 43) (lv' := [(2, .int r29), (5, .int r29), (0, .ref q_this), (1, .int l1), (3, .int l3), (4, .int l4)]) hZ dX1_fairestOf_42 rfl rfl (by decide) rfl ?_
          refine x_iconst (v := 0) (pc' := 44) hZ (by decide) dX1_fairestOf_43 rfl ?_
          refine x_istore_n (i := 3) (pc' := 45) (lv' := [(3, .int 0), (2, .int r29), (5, .int r29), (0, .ref q_this), (1, .int l1), (4, .int l4)]) hZ dX1_fairestOf_44 rfl rfl (by decide) rfl ?_
          refine x_iload (pc' := 47) hZ dX1_fairestOf_45 rfl 2 rfl ?_
          refine x_iload_n (pc' := 48) hZ dX1_fairestOf_47 rfl 1 rfl ?_
          refine x_icmp_ne (tgt := 58) (pc' := 51) hZ dX1_fairestOf_48 (by decide) rfl (fun c48 => ?_) (fun c48 => ?_)
          · replace h := h.1 c48
            obtain ⟨x58, e58⟩ : ∃ y : Int32, y = l4 + 1 := ⟨_, rfl⟩
            replace h := h x58 e58
            refine x_iinc (i := 4) (v := x58) (pc' := 61) (lv' := [(4, .int x58), (3, .int 0), (2, .int r29), (5, .int r29), (0, .ref q_this), (1, .int l1)]) hZ dX1_fairestOf_58 rfl 5 rfl (by rw [e58]; rfl) (by decide) rfl ?_
            refine x_goto (pc' := 7) hZ dX1_fairestOf_61 (by decide) ?_
            refine x_lv [4, 5, 2, 1, 0] (lv' := [(0, .ref q_this), (1, .int l1), (2, .int r29), (3, .int 0), (4, .int x58)]) rfl ?_
            exact ih r29 0 x58 h hK
          · replace h := h.2 c48
            refine x_iload_n (pc' := 52) hZ dX1_fairestOf_51 rfl 0 rfl ?_
            refine x_iconst (v := 1) (pc' := 53) hZ (by decide) dX1_fairestOf_52 rfl ?_
            refine x_iload (pc' := 55) hZ dX1_fairestOf_53 rfl 5 rfl ?_
            refine x_ishl (pc' := 56) hZ dX1_fairestOf_55 rfl ?_
            refine x_ior (pc' := 57) hZ dX1_fairestOf_56 rfl ?_
            refine x_topi (fun x57 e57 => ?_)
            replace h := h x57 e57
            refine x_istore_n (i := 3) (pc' := 58) (lv' := [(3, .int x57), (2, .int r29), (5, .int r29), (0, .ref q_this), (1, .int l1), (4, .int l4)]) hZ dX1_fairestOf_57 rfl rfl (by decide) rfl ?_
            obtain ⟨x58, e58⟩ : ∃ y : Int32, y = l4 + 1 := ⟨_, rfl⟩
            replace h := h x58 e58
            refine x_iinc (i := 4) (v := x58) (pc' := 61) (lv' := [(4, .int x58), (3, .int x57), (2, .int r29), (5, .int r29), (0, .ref q_this), (1, .int l1)]) hZ dX1_fairestOf_58 rfl 5 rfl (by rw [e58]; rfl) (by decide) rfl ?_
            refine x_goto (pc' := 7) hZ dX1_fairestOf_61 (by decide) ?_
            refine x_lv [4, 5, 2, 1, 0] (lv' := [(0, .ref q_this), (1, .int l1), (2, .int r29), (3, .int x57), (4, .int x58)]) rfl ?_
            exact ih r29 x57 x58 h hK
set_option maxHeartbeats 4000000 in
set_option maxRecDepth 100000 in
theorem c_X1_fairestOf (E : XE) (q_this : Nat) (q_weights : Nat) (q_marks : Nat) (q_ageing : Nat) (v_people : Int32) (v_alive : Int32) (v_reported : Int32) (v_mornings : Int32) (v_years : Int32) (v_weights : Nat → Int32) (v_marks : Nat → Int32) (l1 : Int32) (post : Int32 → Prop) (h : p_X1_fairestOf v_people v_weights v_marks l1 post) : ConI E yX1_fairestOf cX1_fairestOf 6 .int { frames := 1, cells := 0, slots := 0, locals := 22 } 0 0 [.ref q_this, .int l1] [(q_this, cO 1 [.int v_people, .ref q_weights, .ref q_marks, .ref q_ageing, .int v_alive, .int v_reported, .int v_mornings, .int v_years]), (q_weights, cA E 3 v_weights), (q_marks, cA E 18 v_marks)] (fun r w => w = [(q_this, cO 1 [.int v_people, .ref q_weights, .ref q_marks, .ref q_ageing, .int v_alive, .int v_reported, .int v_mornings, .int v_years]), (q_weights, cA E 3 v_weights), (q_marks, cA E 18 v_marks)] ∧ post r ) := by
  refine ConI.of (by decide +kernel) (Nat.le_of_ble_eq_true rfl) (fun Z hZ hI hRet => ?_)
  replace hZ : XOK E Z RX1 cX1_fairestOf 6 { frames := 1, cells := 0, slots := 0, locals := 22 } := hZ
  clear hI
  show XW E Z 0 0 [(q_this, cO 1 [.int v_people, .ref q_weights, .ref q_marks, .ref q_ageing, .int v_alive, .int v_reported, .int v_mornings, .int v_years]), (q_weights, cA E 3 v_weights), (q_marks, cA E 18 v_marks)] [(0, .ref q_this), (1, .int l1)] [] 0
  unfold p_X1_fairestOf at h
  refine x_iconst (v := (-1)) (pc' := 1) hZ (by decide) dX1_fairestOf_0 rfl ?_
  refine x_istore_n (i := 2) (pc' := 2) (lv' := [(2, .int (-1)), (0, .ref q_this), (1, .int l1)]) hZ dX1_fairestOf_1 rfl rfl (by decide) rfl ?_
  refine x_iconst (v := 0) (pc' := 3) hZ (by decide) dX1_fairestOf_2 rfl ?_
  refine x_istore_n (i := 3) (pc' := 4) (lv' := [(3, .int 0), (2, .int (-1)), (0, .ref q_this), (1, .int l1)]) hZ dX1_fairestOf_3 rfl rfl (by decide) rfl ?_
  refine x_iconst (v := 0) (pc' := 5) hZ (by decide) dX1_fairestOf_4 rfl ?_
  refine x_istore (i := 4) (pc' := 7) (lv' := [(4, .int 0), (3, .int 0), (2, .int (-1)), (0, .ref q_this), (1, .int l1)]) hZ dX1_fairestOf_5 rfl (by decide) rfl ?_
  refine x_lv [3, 4, 2, 1, 0] (lv' := [(0, .ref q_this), (1, .int l1), (2, .int (-1)), (3, .int 0), (4, .int 0)]) rfl ?_
  obtain ⟨k7, h⟩ := h
  refine t_X1_fairestOf_7 E Z q_this q_weights q_marks q_ageing v_people v_alive v_reported v_mornings v_years v_weights v_marks l1 hZ  _ (-1) 0 0 h (fun l2_7 l3_7 l4_7 h => ?_)
  refine x_iload_n (pc' := 65) hZ dX1_fairestOf_64 rfl 0 rfl ?_
  exact hRet _ _ _ _ dX1_fairestOf_65 ⟨rfl, h⟩
set_option maxHeartbeats 4000000 in
set_option maxRecDepth 100000 in
theorem c_X1_weightsAsFigures (E : XE) (q_this : Nat) (q_weights : Nat) (q_marks : Nat) (q_ageing : Nat) (v_people : Int32) (v_alive : Int32) (v_reported : Int32) (v_mornings : Int32) (v_years : Int32) (v_weights : Nat → Int32) (post : Int32 → Prop) (h : p_X1_weightsAsFigures v_weights post) : ConI E yX1_weightsAsFigures cX1_weightsAsFigures 1 .int { frames := 0, cells := 0, slots := 0, locals := 0 } 0 0 [.ref q_this] [(q_this, cO 1 [.int v_people, .ref q_weights, .ref q_marks, .ref q_ageing, .int v_alive, .int v_reported, .int v_mornings, .int v_years]), (q_weights, cA E 3 v_weights)] (fun r w => w = [(q_this, cO 1 [.int v_people, .ref q_weights, .ref q_marks, .ref q_ageing, .int v_alive, .int v_reported, .int v_mornings, .int v_years]), (q_weights, cA E 3 v_weights)] ∧ post r ) := by
  refine ConI.of (by decide +kernel) (Nat.le_of_ble_eq_true rfl) (fun Z hZ hI hRet => ?_)
  replace hZ : XOK E Z RX1 cX1_weightsAsFigures 1 { frames := 0, cells := 0, slots := 0, locals := 0 } := hZ
  clear hI
  show XW E Z 0 0 [(q_this, cO 1 [.int v_people, .ref q_weights, .ref q_marks, .ref q_ageing, .int v_alive, .int v_reported, .int v_mornings, .int v_years]), (q_weights, cA E 3 v_weights)] [(0, .ref q_this)] [] 0
  unfold p_X1_weightsAsFigures at h
  refine x_aload_n (pc' := 1) hZ dX1_weightsAsFigures_0 rfl 0 rfl ?_
  refine g_RX1_15 (pc' := 4) hZ dX1_weightsAsFigures_1 rfl 0 rfl rfl ?_
  refine x_iconst (v := 0) (pc' := 5) hZ (by decide) dX1_weightsAsFigures_4 rfl ?_
  have h5 : vp_in 0 3 := by unfold vp_in; decide
  refine x_iald (pc' := 6) hZ h5 dX1_weightsAsFigures_5 rfl 1 rfl ?_
  refine x_bipush (v := 100) (pc' := 8) hZ (by decide) dX1_weightsAsFigures_6 rfl ?_
  refine x_imul (pc' := 9) hZ dX1_weightsAsFigures_8 rfl ?_
  refine x_aload_n (pc' := 10) hZ dX1_weightsAsFigures_9 rfl 0 rfl ?_
  refine g_RX1_15 (pc' := 13) hZ dX1_weightsAsFigures_10 rfl 0 rfl rfl ?_
  refine x_iconst (v := 1) (pc' := 14) hZ (by decide) dX1_weightsAsFigures_13 rfl ?_
  have h14 : vp_in 1 3 := by unfold vp_in; decide
  refine x_iald (pc' := 15) hZ h14 dX1_weightsAsFigures_14 rfl 1 rfl ?_
  refine x_bipush (v := 10) (pc' := 17) hZ (by decide) dX1_weightsAsFigures_15 rfl ?_
  refine x_imul (pc' := 18) hZ dX1_weightsAsFigures_17 rfl ?_
  refine x_iadd (pc' := 19) hZ dX1_weightsAsFigures_18 rfl ?_
  refine x_aload_n (pc' := 20) hZ dX1_weightsAsFigures_19 rfl 0 rfl ?_
  refine g_RX1_15 (pc' := 23) hZ dX1_weightsAsFigures_20 rfl 0 rfl rfl ?_
  refine x_iconst (v := 2) (pc' := 24) hZ (by decide) dX1_weightsAsFigures_23 rfl ?_
  have h24 : vp_in 2 3 := by unfold vp_in; decide
  refine x_iald (pc' := 25) hZ h24 dX1_weightsAsFigures_24 rfl 1 rfl ?_
  refine x_iadd (pc' := 26) hZ dX1_weightsAsFigures_25 rfl ?_
  exact hRet _ _ _ _ dX1_weightsAsFigures_26 ⟨rfl, h⟩
set_option maxHeartbeats 4000000 in
set_option maxRecDepth 100000 in
theorem c_X1_has (E : XE) (q_this : Nat) (q_weights : Nat) (q_marks : Nat) (q_ageing : Nat) (v_people : Int32) (v_alive : Int32) (v_reported : Int32) (v_mornings : Int32) (v_years : Int32) (l1 : Int32) (post : Int32 → Prop) (h : p_X1_has v_people l1 post) : ConI E yX1_has cX1_has 2 .boolean { frames := 0, cells := 0, slots := 0, locals := 0 } 0 0 [.ref q_this, .int l1] [(q_this, cO 1 [.int v_people, .ref q_weights, .ref q_marks, .ref q_ageing, .int v_alive, .int v_reported, .int v_mornings, .int v_years])] (fun r w => w = [(q_this, cO 1 [.int v_people, .ref q_weights, .ref q_marks, .ref q_ageing, .int v_alive, .int v_reported, .int v_mornings, .int v_years])] ∧ post r ) := by
  refine ConIz.of (by decide +kernel) (Nat.le_of_ble_eq_true rfl) (fun Z hZ hI hRet => ?_)
  replace hZ : XOK E Z RX1 cX1_has 2 { frames := 0, cells := 0, slots := 0, locals := 0 } := hZ
  clear hI
  show XW E Z 0 0 [(q_this, cO 1 [.int v_people, .ref q_weights, .ref q_marks, .ref q_ageing, .int v_alive, .int v_reported, .int v_mornings, .int v_years])] [(0, .ref q_this), (1, .int l1)] [] 0
  unfold p_X1_has at h
  refine x_iload_n (pc' := 1) hZ dX1_has_0 rfl 1 rfl ?_
  refine x_if_lt (tgt := 16) (pc' := 4) hZ dX1_has_1 (by decide) rfl (fun c1 => ?_) (fun c1 => ?_)
  · replace h := h.1 c1
    refine x_iconst (v := 0) (pc' := 17) hZ (by decide) dX1_has_16 rfl ?_
    exact hRet _ _ _ _ dX1_has_17 (by decide) ⟨rfl, h⟩
  · replace h := h.2 c1
    refine x_iload_n (pc' := 5) hZ dX1_has_4 rfl 1 rfl ?_
    refine x_aload_n (pc' := 6) hZ dX1_has_5 rfl 0 rfl ?_
    refine g_RX1_11 (pc' := 9) hZ dX1_has_6 rfl 0 rfl rfl ?_
    refine x_icmp_ge (tgt := 16) (pc' := 12) hZ dX1_has_9 (by decide) rfl (fun c9 => ?_) (fun c9 => ?_)
    · replace h := h.1 c9
      refine x_iconst (v := 0) (pc' := 17) hZ (by decide) dX1_has_16 rfl ?_
      exact hRet _ _ _ _ dX1_has_17 (by decide) ⟨rfl, h⟩
    · replace h := h.2 c9
      refine x_iconst (v := 1) (pc' := 13) hZ (by decide) dX1_has_12 rfl ?_
      refine x_goto (pc' := 17) hZ dX1_has_13 (by decide) ?_
      exact hRet _ _ _ _ dX1_has_17 (by decide) ⟨rfl, h⟩
set_option maxHeartbeats 4000000 in
set_option maxRecDepth 100000 in
theorem c_X1_isAlive (E : XE) (q_this : Nat) (q_weights : Nat) (q_marks : Nat) (q_ageing : Nat) (v_people : Int32) (v_alive : Int32) (v_reported : Int32) (v_mornings : Int32) (v_years : Int32) (l1 : Int32) (post : Int32 → Prop) (h : p_X1_isAlive v_alive l1 post) : ConI E yX1_isAlive cX1_isAlive 2 .boolean { frames := 0, cells := 0, slots := 0, locals := 0 } 0 0 [.ref q_this, .int l1] [(q_this, cO 1 [.int v_people, .ref q_weights, .ref q_marks, .ref q_ageing, .int v_alive, .int v_reported, .int v_mornings, .int v_years])] (fun r w => w = [(q_this, cO 1 [.int v_people, .ref q_weights, .ref q_marks, .ref q_ageing, .int v_alive, .int v_reported, .int v_mornings, .int v_years])] ∧ post r ) := by
  refine ConIz.of (by decide +kernel) (Nat.le_of_ble_eq_true rfl) (fun Z hZ hI hRet => ?_)
  replace hZ : XOK E Z RX1 cX1_isAlive 2 { frames := 0, cells := 0, slots := 0, locals := 0 } := hZ
  clear hI
  show XW E Z 0 0 [(q_this, cO 1 [.int v_people, .ref q_weights, .ref q_marks, .ref q_ageing, .int v_alive, .int v_reported, .int v_mornings, .int v_years])] [(0, .ref q_this), (1, .int l1)] [] 0
  unfold p_X1_isAlive at h
  refine x_aload_n (pc' := 1) hZ dX1_isAlive_0 rfl 0 rfl ?_
  refine g_RX1_25 (pc' := 4) hZ dX1_isAlive_1 rfl 0 rfl rfl ?_
  refine x_iload_n (pc' := 5) hZ dX1_isAlive_4 rfl 1 rfl ?_
  refine x_ishr (pc' := 6) hZ dX1_isAlive_5 rfl ?_
  refine x_iconst (v := 1) (pc' := 7) hZ (by decide) dX1_isAlive_6 rfl ?_
  refine x_iand (pc' := 8) hZ dX1_isAlive_7 rfl ?_
  refine x_iconst (v := 1) (pc' := 9) hZ (by decide) dX1_isAlive_8 rfl ?_
  refine x_icmp_ne (tgt := 16) (pc' := 12) hZ dX1_isAlive_9 (by decide) rfl (fun c9 => ?_) (fun c9 => ?_)
  · replace h := h.1 c9
    refine x_iconst (v := 0) (pc' := 17) hZ (by decide) dX1_isAlive_16 rfl ?_
    exact hRet _ _ _ _ dX1_isAlive_17 (by decide) ⟨rfl, h⟩
  · replace h := h.2 c9
    refine x_iconst (v := 1) (pc' := 13) hZ (by decide) dX1_isAlive_12 rfl ?_
    refine x_goto (pc' := 17) hZ dX1_isAlive_13 (by decide) ?_
    exact hRet _ _ _ _ dX1_isAlive_17 (by decide) ⟨rfl, h⟩
set_option maxHeartbeats 4000000 in
set_option maxRecDepth 100000 in
theorem c_X1_isReported (E : XE) (q_this : Nat) (q_weights : Nat) (q_marks : Nat) (q_ageing : Nat) (v_people : Int32) (v_alive : Int32) (v_reported : Int32) (v_mornings : Int32) (v_years : Int32) (l1 : Int32) (post : Int32 → Prop) (h : p_X1_isReported v_reported l1 post) : ConI E yX1_isReported cX1_isReported 2 .boolean { frames := 0, cells := 0, slots := 0, locals := 0 } 0 0 [.ref q_this, .int l1] [(q_this, cO 1 [.int v_people, .ref q_weights, .ref q_marks, .ref q_ageing, .int v_alive, .int v_reported, .int v_mornings, .int v_years])] (fun r w => w = [(q_this, cO 1 [.int v_people, .ref q_weights, .ref q_marks, .ref q_ageing, .int v_alive, .int v_reported, .int v_mornings, .int v_years])] ∧ post r ) := by
  refine ConIz.of (by decide +kernel) (Nat.le_of_ble_eq_true rfl) (fun Z hZ hI hRet => ?_)
  replace hZ : XOK E Z RX1 cX1_isReported 2 { frames := 0, cells := 0, slots := 0, locals := 0 } := hZ
  clear hI
  show XW E Z 0 0 [(q_this, cO 1 [.int v_people, .ref q_weights, .ref q_marks, .ref q_ageing, .int v_alive, .int v_reported, .int v_mornings, .int v_years])] [(0, .ref q_this), (1, .int l1)] [] 0
  unfold p_X1_isReported at h
  refine x_aload_n (pc' := 1) hZ dX1_isReported_0 rfl 0 rfl ?_
  refine g_RX1_28 (pc' := 4) hZ dX1_isReported_1 rfl 0 rfl rfl ?_
  refine x_iload_n (pc' := 5) hZ dX1_isReported_4 rfl 1 rfl ?_
  refine x_ishr (pc' := 6) hZ dX1_isReported_5 rfl ?_
  refine x_iconst (v := 1) (pc' := 7) hZ (by decide) dX1_isReported_6 rfl ?_
  refine x_iand (pc' := 8) hZ dX1_isReported_7 rfl ?_
  refine x_iconst (v := 1) (pc' := 9) hZ (by decide) dX1_isReported_8 rfl ?_
  refine x_icmp_ne (tgt := 16) (pc' := 12) hZ dX1_isReported_9 (by decide) rfl (fun c9 => ?_) (fun c9 => ?_)
  · replace h := h.1 c9
    refine x_iconst (v := 0) (pc' := 17) hZ (by decide) dX1_isReported_16 rfl ?_
    exact hRet _ _ _ _ dX1_isReported_17 (by decide) ⟨rfl, h⟩
  · replace h := h.2 c9
    refine x_iconst (v := 1) (pc' := 13) hZ (by decide) dX1_isReported_12 rfl ?_
    refine x_goto (pc' := 17) hZ dX1_isReported_13 (by decide) ?_
    exact hRet _ _ _ _ dX1_isReported_17 (by decide) ⟨rfl, h⟩
set_option maxHeartbeats 4000000 in
set_option maxRecDepth 100000 in
theorem c_X1_packInto (E : XE) (q_this : Nat) (q_weights : Nat) (q_marks : Nat) (q_ageing : Nat) (q_a1 : Nat) (n_a1 : Nat) (v_people : Int32) (v_alive : Int32) (v_reported : Int32) (v_mornings : Int32) (v_years : Int32) (v_weights : Nat → Int32) (v_marks : Nat → Int32) (v_a1 : Nat → Int32) (l2 : Int32) (post : (Nat → Int32) → Prop) (h : p_X1_packInto n_a1 v_alive v_reported v_mornings v_years v_weights v_marks v_a1 l2 post) : ConV E yX1_packInto cX1_packInto 5 { frames := 1, cells := 0, slots := 0, locals := 18 } 0 0 [.ref q_this, .ref q_a1, .int l2] [(q_this, cO 1 [.int v_people, .ref q_weights, .ref q_marks, .ref q_ageing, .int v_alive, .int v_reported, .int v_mornings, .int v_years]), (q_weights, cA E 3 v_weights), (q_marks, cA E 18 v_marks), (q_a1, cA E n_a1 v_a1)] (fun w => ∃ (u_a1 : Nat → Int32), w = [(q_this, cO 1 [.int v_people, .ref q_weights, .ref q_marks, .ref q_ageing, .int v_alive, .int v_reported, .int v_mornings, .int v_years]), (q_weights, cA E 3 v_weights), (q_marks, cA E 18 v_marks), (q_a1, cA E n_a1 u_a1)] ∧ post u_a1) := by
  refine ConV.of (by decide +kernel) (Nat.le_of_ble_eq_true rfl) (fun Z hZ hI hRet => ?_)
  replace hZ : XOK E Z RX1 cX1_packInto 5 { frames := 1, cells := 0, slots := 0, locals := 18 } := hZ
  clear hI
  show XW E Z 0 0 [(q_this, cO 1 [.int v_people, .ref q_weights, .ref q_marks, .ref q_ageing, .int v_alive, .int v_reported, .int v_mornings, .int v_years]), (q_weights, cA E 3 v_weights), (q_marks, cA E 18 v_marks), (q_a1, cA E n_a1 v_a1)] [(0, .ref q_this), (1, .ref q_a1), (2, .int l2)] [] 0
  unfold p_X1_packInto at h
  refine x_iload_n (pc' := 1) hZ dX1_packInto_0 rfl 2 rfl ?_
  refine x_bipush (v := 25) (pc' := 3) hZ (by decide) dX1_packInto_1 rfl ?_
  refine x_imul (pc' := 4) hZ dX1_packInto_3 rfl ?_
  refine x_topi (fun x4 e4 => ?_)
  replace h := h x4 e4
  refine x_istore_n (i := 3) (pc' := 5) (lv' := [(3, .int x4), (0, .ref q_this), (1, .ref q_a1), (2, .int l2)]) hZ dX1_packInto_4 rfl rfl (by decide) rfl ?_
  refine x_aload_n (pc' := 6) hZ dX1_packInto_5 rfl 1 rfl ?_
  refine g_RX1_15 (pc' := 9) hZ dX1_packInto_6 rfl 0 rfl rfl ?_
  refine x_iconst (v := 0) (pc' := 10) hZ (by decide) dX1_packInto_9 rfl ?_
  refine x_aload_n (pc' := 11) hZ dX1_packInto_10 rfl 2 rfl ?_
  refine x_iload_n (pc' := 12) hZ dX1_packInto_11 rfl 0 rfl ?_
  refine x_iconst (v := 3) (pc' := 13) hZ (by decide) dX1_packInto_12 rfl ?_
  obtain ⟨h13, h⟩ := h
  refine x_copy (pc' := 16) (ws' := [(q_this, cO 1 [.int v_people, .ref q_weights, .ref q_marks, .ref q_ageing, .int v_alive, .int v_reported, .int v_mornings, .int v_years]), (q_weights, cA E 3 v_weights), (q_marks, cA E 18 v_marks), (q_a1, cA E n_a1 (va_cpy v_weights v_a1 (ix 0) (ix x4) (ix 3)))]) hZ kl_RX1_59 h13 dX1_packInto_13 rfl 1 3 rfl rfl (Nat.le_of_ble_eq_true rfl) (Nat.le_of_ble_eq_true rfl) rfl ?_
  refine x_aload_n (pc' := 17) hZ dX1_packInto_16 rfl 1 rfl ?_
  refine g_RX1_19 (pc' := 20) hZ dX1_packInto_17 rfl 0 rfl rfl ?_
  refine x_iconst (v := 0) (pc' := 21) hZ (by decide) dX1_packInto_20 rfl ?_
  refine x_aload_n (pc' := 22) hZ dX1_packInto_21 rfl 2 rfl ?_
  refine x_iload_n (pc' := 23) hZ dX1_packInto_22 rfl 0 rfl ?_
  refine x_iconst (v := 3) (pc' := 24) hZ (by decide) dX1_packInto_23 rfl ?_
  refine x_iadd (pc' := 25) hZ dX1_packInto_24 rfl ?_
  refine x_bipush (v := 18) (pc' := 27) hZ (by decide) dX1_packInto_25 rfl ?_
  obtain ⟨h27, h⟩ := h
  refine x_copy (pc' := 30) (ws' := [(q_this, cO 1 [.int v_people, .ref q_weights, .ref q_marks, .ref q_ageing, .int v_alive, .int v_reported, .int v_mornings, .int v_years]), (q_weights, cA E 3 v_weights), (q_marks, cA E 18 v_marks), (q_a1, cA E n_a1 (va_cpy v_marks (va_cpy v_weights v_a1 (ix 0) (ix x4) (ix 3)) (ix 0) (ix (x4 + 3)) (ix 18)))]) hZ kl_RX1_59 h27 dX1_packInto_27 rfl 2 3 rfl rfl (Nat.le_of_ble_eq_true rfl) (Nat.le_of_ble_eq_true rfl) rfl ?_
  refine x_iload_n (pc' := 31) hZ dX1_packInto_30 rfl 0 rfl ?_
  refine x_iconst (v := 3) (pc' := 32) hZ (by decide) dX1_packInto_31 rfl ?_
  refine x_iadd (pc' := 33) hZ dX1_packInto_32 rfl ?_
  refine x_bipush (v := 18) (pc' := 35) hZ (by decide) dX1_packInto_33 rfl ?_
  refine x_iadd (pc' := 36) hZ dX1_packInto_35 rfl ?_
  refine x_topi (fun x36 e36 => ?_)
  replace h := h x36 e36
  refine x_istore (i := 4) (pc' := 38) (lv' := [(4, .int x36), (3, .int x4), (0, .ref q_this), (1, .ref q_a1), (2, .int l2)]) hZ dX1_packInto_36 rfl (by decide) rfl ?_
  refine x_aload_n (pc' := 39) hZ dX1_packInto_38 rfl 3 rfl ?_
  refine x_iload (pc' := 41) hZ dX1_packInto_39 rfl 0 rfl ?_
  refine x_aload_n (pc' := 42) hZ dX1_packInto_41 rfl 2 rfl ?_
  refine g_RX1_25 (pc' := 45) hZ dX1_packInto_42 rfl 0 rfl rfl ?_
  obtain ⟨h45, h⟩ := h
  refine x_iast (pc' := 46) (ws' := [(q_this, cO 1 [.int v_people, .ref q_weights, .ref q_marks, .ref q_ageing, .int v_alive, .int v_reported, .int v_mornings, .int v_years]), (q_weights, cA E 3 v_weights), (q_marks, cA E 18 v_marks), (q_a1, cA E n_a1 (upd (va_cpy v_marks (va_cpy v_weights v_a1 (ix 0) (ix x4) (ix 3)) (ix 0) (ix (x4 + 3)) (ix 18)) (ix x36) v_alive))]) hZ h45 dX1_packInto_45 rfl 3 rfl rfl ?_
  refine x_aload_n (pc' := 47) hZ dX1_packInto_46 rfl 3 rfl ?_
  refine x_iload (pc' := 49) hZ dX1_packInto_47 rfl 0 rfl ?_
  refine x_iconst (v := 1) (pc' := 50) hZ (by decide) dX1_packInto_49 rfl ?_
  refine x_iadd (pc' := 51) hZ dX1_packInto_50 rfl ?_
  refine x_aload_n (pc' := 52) hZ dX1_packInto_51 rfl 2 rfl ?_
  refine g_RX1_28 (pc' := 55) hZ dX1_packInto_52 rfl 0 rfl rfl ?_
  obtain ⟨h55, h⟩ := h
  refine x_iast (pc' := 56) (ws' := [(q_this, cO 1 [.int v_people, .ref q_weights, .ref q_marks, .ref q_ageing, .int v_alive, .int v_reported, .int v_mornings, .int v_years]), (q_weights, cA E 3 v_weights), (q_marks, cA E 18 v_marks), (q_a1, cA E n_a1 (upd (upd (va_cpy v_marks (va_cpy v_weights v_a1 (ix 0) (ix x4) (ix 3)) (ix 0) (ix (x4 + 3)) (ix 18)) (ix x36) v_alive) (ix (x36 + 1)) v_reported))]) hZ h55 dX1_packInto_55 rfl 3 rfl rfl ?_
  refine x_aload_n (pc' := 57) hZ dX1_packInto_56 rfl 3 rfl ?_
  refine x_iload (pc' := 59) hZ dX1_packInto_57 rfl 0 rfl ?_
  refine x_iconst (v := 2) (pc' := 60) hZ (by decide) dX1_packInto_59 rfl ?_
  refine x_iadd (pc' := 61) hZ dX1_packInto_60 rfl ?_
  refine x_aload_n (pc' := 62) hZ dX1_packInto_61 rfl 2 rfl ?_
  refine g_RX1_31 (pc' := 65) hZ dX1_packInto_62 rfl 0 rfl rfl ?_
  obtain ⟨h65, h⟩ := h
  refine x_iast (pc' := 66) (ws' := [(q_this, cO 1 [.int v_people, .ref q_weights, .ref q_marks, .ref q_ageing, .int v_alive, .int v_reported, .int v_mornings, .int v_years]), (q_weights, cA E 3 v_weights), (q_marks, cA E 18 v_marks), (q_a1, cA E n_a1 (upd (upd (upd (va_cpy v_marks (va_cpy v_weights v_a1 (ix 0) (ix x4) (ix 3)) (ix 0) (ix (x4 + 3)) (ix 18)) (ix x36) v_alive) (ix (x36 + 1)) v_reported) (ix (x36 + 2)) v_mornings))]) hZ h65 dX1_packInto_65 rfl 3 rfl rfl ?_
  refine x_aload_n (pc' := 67) hZ dX1_packInto_66 rfl 3 rfl ?_
  refine x_iload (pc' := 69) hZ dX1_packInto_67 rfl 0 rfl ?_
  refine x_iconst (v := 3) (pc' := 70) hZ (by decide) dX1_packInto_69 rfl ?_
  refine x_iadd (pc' := 71) hZ dX1_packInto_70 rfl ?_
  refine x_aload_n (pc' := 72) hZ dX1_packInto_71 rfl 2 rfl ?_
  refine g_RX1_34 (pc' := 75) hZ dX1_packInto_72 rfl 0 rfl rfl ?_
  obtain ⟨h75, h⟩ := h
  refine x_iast (pc' := 76) (ws' := [(q_this, cO 1 [.int v_people, .ref q_weights, .ref q_marks, .ref q_ageing, .int v_alive, .int v_reported, .int v_mornings, .int v_years]), (q_weights, cA E 3 v_weights), (q_marks, cA E 18 v_marks), (q_a1, cA E n_a1 (upd (upd (upd (upd (va_cpy v_marks (va_cpy v_weights v_a1 (ix 0) (ix x4) (ix 3)) (ix 0) (ix (x4 + 3)) (ix 18)) (ix x36) v_alive) (ix (x36 + 1)) v_reported) (ix (x36 + 2)) v_mornings) (ix (x36 + 3)) v_years))]) hZ h75 dX1_packInto_75 rfl 3 rfl rfl ?_
  exact hRet _ _ _ dX1_packInto_76 ⟨_, rfl, h⟩
set_option maxHeartbeats 4000000 in
set_option maxRecDepth 100000 in
theorem t_X1_leastOf_2 (E : XE) (Z : ZC) (q_this : Nat) (q_weights : Nat) (q_marks : Nat) (q_ageing : Nat) (v_people : Int32) (v_alive : Int32) (v_reported : Int32) (v_mornings : Int32) (v_years : Int32) (l1 : Int32) {post : Int32 → Prop} {K : Int32 → Prop} (hZ : XOK E Z RX1 cX1_leastOf 3 { frames := 0, cells := 0, slots := 0, locals := 0 }) (hRet : RetI E Z cX1_leastOf 0 0 (fun r w => w = [(q_this, cO 1 [.int v_people, .ref q_weights, .ref q_marks, .ref q_ageing, .int v_alive, .int v_reported, .int v_mornings, .int v_years])] ∧ post r )) : ∀ (k : Nat) (l2 : Int32), wl (fun rec v => b_X1_leastOf_2 l1 v_people post K rec v) k (l2) → (∀ (l2 : Int32), K l2 → XW E Z 0 0 [(q_this, cO 1 [.int v_people, .ref q_weights, .ref q_marks, .ref q_ageing, .int v_alive, .int v_reported, .int v_mornings, .int v_years])] [] [] 27) → XW E Z 0 0 [(q_this, cO 1 [.int v_people, .ref q_weights, .ref q_marks, .ref q_ageing, .int v_alive, .int v_reported, .int v_mornings, .int v_years])] [(0, .ref q_this), (1, .int l1), (2, .int l2)] [] 2 := by
  intro k
  induction k with
  | zero =>
    intro l2 h
    exact h.elim
  | succ k ih =>
    intro l2 h hK
    replace h := wl_succ h
    try dsimp only at h
    unfold b_X1_leastOf_2 at h
    refine x_iload_n (pc' := 3) hZ dX1_leastOf_2 rfl 2 rfl ?_
    refine x_aload_n (pc' := 4) hZ dX1_leastOf_3 rfl 0 rfl ?_
    refine g_RX1_11 (pc' := 7) hZ dX1_leastOf_4 rfl 0 rfl rfl ?_
    refine x_icmp_ge (tgt := 27) (pc' := 10) hZ dX1_leastOf_7 (by decide) rfl (fun c7 => ?_) (fun c7 => ?_)
    · replace h := h.1 c7
      refine x_lv [] (lv' := []) rfl ?_
      exact hK l2 h
    · replace h := h.2 c7
      refine x_iload_n (pc' := 11) hZ dX1_leastOf_10 rfl 1 rfl ?_
      refine x_iload_n (pc' := 12) hZ dX1_leastOf_11 rfl 2 rfl ?_
      refine x_ishr (pc' := 13) hZ dX1_leastOf_12 rfl ?_
      refine x_iconst (v := 1) (pc' := 14) hZ (by decide) dX1_leastOf_13 rfl ?_
      refine x_iand (pc' := 15) hZ dX1_leastOf_14 rfl ?_
      refine x_iconst (v := 1) (pc' := 16) hZ (by decide) dX1_leastOf_15 rfl ?_
      refine x_icmp_ne (tgt := 21) (pc' := 19) hZ dX1_leastOf_16 (by decide) rfl (fun c16 => ?_) (fun c16 => ?_)
      · replace h := h.1 c16
        obtain ⟨x21, e21⟩ : ∃ y : Int32, y = l2 + 1 := ⟨_, rfl⟩
        replace h := h x21 e21
        refine x_iinc (i := 2) (v := x21) (pc' := 24) (lv' := [(2, .int x21), (0, .ref q_this), (1, .int l1)]) hZ dX1_leastOf_21 rfl 2 rfl (by rw [e21]; rfl) (by decide) rfl ?_
        refine x_goto (pc' := 2) hZ dX1_leastOf_24 (by decide) ?_
        refine x_lv [1, 2, 0] (lv' := [(0, .ref q_this), (1, .int l1), (2, .int x21)]) rfl ?_
        exact ih x21 h hK
      · replace h := h.2 c16
        refine x_iload_n (pc' := 20) hZ dX1_leastOf_19 rfl 2 rfl ?_
        exact hRet _ _ _ _ dX1_leastOf_20 ⟨rfl, h⟩
set_option maxHeartbeats 4000000 in
set_option maxRecDepth 100000 in
theorem c_X1_leastOf (E : XE) (q_this : Nat) (q_weights : Nat) (q_marks : Nat) (q_ageing : Nat) (v_people : Int32) (v_alive : Int32) (v_reported : Int32) (v_mornings : Int32) (v_years : Int32) (l1 : Int32) (post : Int32 → Prop) (h : p_X1_leastOf v_people l1 post) : ConI E yX1_leastOf cX1_leastOf 3 .int { frames := 0, cells := 0, slots := 0, locals := 0 } 0 0 [.ref q_this, .int l1] [(q_this, cO 1 [.int v_people, .ref q_weights, .ref q_marks, .ref q_ageing, .int v_alive, .int v_reported, .int v_mornings, .int v_years])] (fun r w => w = [(q_this, cO 1 [.int v_people, .ref q_weights, .ref q_marks, .ref q_ageing, .int v_alive, .int v_reported, .int v_mornings, .int v_years])] ∧ post r ) := by
  refine ConI.of (by decide +kernel) (Nat.le_of_ble_eq_true rfl) (fun Z hZ hI hRet => ?_)
  replace hZ : XOK E Z RX1 cX1_leastOf 3 { frames := 0, cells := 0, slots := 0, locals := 0 } := hZ
  clear hI
  show XW E Z 0 0 [(q_this, cO 1 [.int v_people, .ref q_weights, .ref q_marks, .ref q_ageing, .int v_alive, .int v_reported, .int v_mornings, .int v_years])] [(0, .ref q_this), (1, .int l1)] [] 0
  unfold p_X1_leastOf at h
  refine x_iconst (v := 0) (pc' := 1) hZ (by decide) dX1_leastOf_0 rfl ?_
  refine x_istore_n (i := 2) (pc' := 2) (lv' := [(2, .int 0), (0, .ref q_this), (1, .int l1)]) hZ dX1_leastOf_1 rfl rfl (by decide) rfl ?_
  refine x_lv [1, 2, 0] (lv' := [(0, .ref q_this), (1, .int l1), (2, .int 0)]) rfl ?_
  obtain ⟨k2, h⟩ := h
  refine t_X1_leastOf_2 E Z q_this q_weights q_marks q_ageing v_people v_alive v_reported v_mornings v_years l1 hZ hRet _ 0 h (fun l2_2 h => ?_)
  refine x_bipush (v := (-9)) (pc' := 29) hZ (by decide) dX1_leastOf_27 rfl ?_
  exact hRet _ _ _ _ dX1_leastOf_29 ⟨rfl, h⟩
set_option maxHeartbeats 4000000 in
set_option maxRecDepth 100000 in
theorem t_X1_weighFearOf_7 (E : XE) (Z : ZC) (q_this : Nat) (q_weights : Nat) (q_marks : Nat) (q_ageing : Nat) (v_people : Int32) (v_alive : Int32) (v_reported : Int32) (v_mornings : Int32) (v_years : Int32) (v_weights : Nat → Int32) (v_marks : Nat → Int32) (l1 : Int32) {K : Int32 → Int32 → Int32 → Prop} (hZ : XOK E Z RX1 cX1_weighFearOf 6 { frames := 0, cells := 0, slots := 0, locals := 0 }) : ∀ (k : Nat) (l2 : Int32) (l3 : Int32) (l4 : Int32), wl (fun rec v => b_X1_weighFearOf_7 l1 v_marks K rec v.1 v.2.1 v.2.2) k (l2, l3, l4) → (∀ (l2 : Int32) (l3 : Int32) (l4 : Int32), K l2 l3 l4 → XW E Z 0 0 [(q_this, cO 1 [.int v_people, .ref q_weights, .ref q_marks, .ref q_ageing, .int v_alive, .int v_reported, .int v_mornings, .int v_years]), (q_weights, cA E 3 v_weights), (q_marks, cA E 18 v_marks)] [(0, .ref q_this), (2, .int l2)] [] 54) → XW E Z 0 0 [(q_this, cO 1 [.int v_people, .ref q_weights, .ref q_marks, .ref q_ageing, .int v_alive, .int v_reported, .int v_mornings, .int v_years]), (q_weights, cA E 3 v_weights), (q_marks, cA E 18 v_marks)] [(0, .ref q_this), (1, .int l1), (2, .int l2), (3, .int l3), (4, .int l4)] [] 7 := by
  intro k
  induction k with
  | zero =>
    intro l2 l3 l4 h
    exact h.elim
  | succ k ih =>
    intro l2 l3 l4 h hK
    replace h := wl_succ h
    try dsimp only at h
    unfold b_X1_weighFearOf_7 at h
    refine x_iload (pc' := 9) hZ dX1_weighFearOf_7 rfl 4 rfl ?_
    refine x_iconst (v := 3) (pc' := 10) hZ (by decide) dX1_weighFearOf_9 rfl ?_
    refine x_icmp_ge (tgt := 54) (pc' := 13) hZ dX1_weighFearOf_10 (by decide) rfl (fun c10 => ?_) (fun c10 => ?_)
    · replace h := h.1 c10
      refine x_lv [0, 2] (lv' := [(0, .ref q_this), (2, .int l2)]) rfl ?_
      exact hK l2 l3 l4 h
    · replace h := h.2 c10
      refine x_aload_n (pc' := 14) hZ dX1_weighFearOf_13 rfl 0 rfl ?_
      refine g_RX1_19 (pc' := 17) hZ dX1_weighFearOf_14 rfl 0 rfl rfl ?_
      refine x_iload_n (pc' := 18) hZ dX1_weighFearOf_17 rfl 1 rfl ?_
      refine x_iconst (v := 3) (pc' := 19) hZ (by decide) dX1_weighFearOf_18 rfl ?_
      refine x_imul (pc' := 20) hZ dX1_weighFearOf_19 rfl ?_
      refine x_iload (pc' := 22) hZ dX1_weighFearOf_20 rfl 4 rfl ?_
      refine x_iadd (pc' := 23) hZ dX1_weighFearOf_22 rfl ?_
      obtain ⟨h23, h⟩ := h
      refine x_iald (pc' := 24) hZ h23 dX1_weighFearOf_23 rfl 2 rfl ?_
      refine x_aload_n (pc' := 25) hZ dX1_weighFearOf_24 rfl 0 rfl ?_
      refine g_RX1_19 (pc' := 28) hZ dX1_weighFearOf_25 rfl 0 rfl rfl ?_
      refine x_iconst (v := 0) (pc' := 29) hZ (by decide) dX1_weighFearOf_28 rfl ?_
      refine x_iload (pc' := 31) hZ dX1_weighFearOf_29 rfl 4 rfl ?_
      refine x_iadd (pc' := 32) hZ dX1_weighFearOf_31 rfl ?_
      obtain ⟨h32, h⟩ := h
      refine x_iald (pc' := 33) hZ h32 dX1_weighFearOf_32 rfl 2 rfl ?_
      refine x_isub (pc' := 34) hZ dX1_weighFearOf_33 rfl ?_
      refine x_topi (fun x34 e34 => ?_)
      replace h := h x34 e34
      refine x_istore (i := 5) (pc' := 36) (lv' := [(5, .int x34), (0, .ref q_this), (1, .int l1), (2, .int l2), (3, .int l3), (4, .int l4)]) hZ dX1_weighFearOf_34 rfl (by decide) rfl ?_
      refine x_iload (pc' := 38) hZ dX1_weighFearOf_36 rfl 0 rfl ?_
      refine x_iload_n (pc' := 39) hZ dX1_weighFearOf_38 rfl 4 rfl ?_
      refine x_icmp_le (tgt := 48) (pc' := 42) hZ dX1_weighFearOf_39 (by decide) rfl (fun c39 => ?_) (fun c39 => ?_)
      · replace h := h.1 c39
        obtain ⟨x48, e48⟩ : ∃ y : Int32, y = l4 + 1 := ⟨_, rfl⟩
        replace h := h x48 e48
        refine x_iinc (i := 4) (v := x48) (pc' := 51) (lv' := [(4, .int x48), (5, .int x34), (0, .ref q_this), (1, .int l1), (2, .int l2), (3, .int l3)]) hZ dX1_weighFearOf_48 rfl 5 rfl (by rw [e48]; rfl) (by decide) rfl ?_
        refine x_goto (pc' := 7) hZ dX1_weighFearOf_51 (by decide) ?_
        refine x_lv [2, 3, 4, 5, 0] (lv' := [(0, .ref q_this), (1, .int l1), (2, .int l2), (3, .int l3), (4, .int x48)]) rfl ?_
        exact ih l2 l3 x48 h hK
      · replace h := h.2 c39
        refine x_iload (pc' := 44) hZ dX1_weighFearOf_42 rfl 5 rfl ?_
        refine x_istore_n (i := 2) (pc' := 45) (lv' := [(2, .int l4), (5, .int x34), (0, .ref q_this), (1, .int l1), (3, .int l3), (4, .int l4)]) hZ dX1_weighFearOf_44 rfl rfl (by decide) rfl ?_
        refine x_iload (pc' := 47) hZ dX1_weighFearOf_45 rfl 1 rfl ?_
        refine x_istore_n (i := 3) (pc' := 48) (lv' := [(3, .int x34), (2, .int l4), (5, .int x34), (0, .ref q_this), (1, .int l1), (4, .int l4)]) hZ dX1_weighFearOf_47 rfl rfl (by decide) rfl ?_
        obtain ⟨x48, e48⟩ : ∃ y : Int32, y = l4 + 1 := ⟨_, rfl⟩
        replace h := h x48 e48
        refine x_iinc (i := 4) (v := x48) (pc' := 51) (lv' := [(4, .int x48), (3, .int x34), (2, .int l4), (5, .int x34), (0, .ref q_this), (1, .int l1)]) hZ dX1_weighFearOf_48 rfl 5 rfl (by rw [e48]; rfl) (by decide) rfl ?_
        refine x_goto (pc' := 7) hZ dX1_weighFearOf_51 (by decide) ?_
        refine x_lv [4, 5, 2, 1, 0] (lv' := [(0, .ref q_this), (1, .int l1), (2, .int l4), (3, .int x34), (4, .int x48)]) rfl ?_
        exact ih l4 x34 x48 h hK
set_option maxHeartbeats 4000000 in
set_option maxRecDepth 100000 in
theorem c_X1_weighFearOf (E : XE) (q_this : Nat) (q_weights : Nat) (q_marks : Nat) (q_ageing : Nat) (v_people : Int32) (v_alive : Int32) (v_reported : Int32) (v_mornings : Int32) (v_years : Int32) (v_weights : Nat → Int32) (v_marks : Nat → Int32) (l1 : Int32) (post : (Nat → Int32) → Prop) (h : p_X1_weighFearOf v_weights v_marks l1 post) : ConV E yX1_weighFearOf cX1_weighFearOf 6 { frames := 0, cells := 0, slots := 0, locals := 0 } 0 0 [.ref q_this, .int l1] [(q_this, cO 1 [.int v_people, .ref q_weights, .ref q_marks, .ref q_ageing, .int v_alive, .int v_reported, .int v_mornings, .int v_years]), (q_weights, cA E 3 v_weights), (q_marks, cA E 18 v_marks)] (fun w => ∃ (u_weights : Nat → Int32), w = [(q_this, cO 1 [.int v_people, .ref q_weights, .ref q_marks, .ref q_ageing, .int v_alive, .int v_reported, .int v_mornings, .int v_years]), (q_weights, cA E 3 u_weights), (q_marks, cA E 18 v_marks)] ∧ post u_weights) := by
  refine ConV.of (by decide +kernel) (Nat.le_of_ble_eq_true rfl) (fun Z hZ hI hRet => ?_)
  replace hZ : XOK E Z RX1 cX1_weighFearOf 6 { frames := 0, cells := 0, slots := 0, locals := 0 } := hZ
  clear hI
  show XW E Z 0 0 [(q_this, cO 1 [.int v_people, .ref q_weights, .ref q_marks, .ref q_ageing, .int v_alive, .int v_reported, .int v_mornings, .int v_years]), (q_weights, cA E 3 v_weights), (q_marks, cA E 18 v_marks)] [(0, .ref q_this), (1, .int l1)] [] 0
  unfold p_X1_weighFearOf at h
  refine x_iconst (v := (-1)) (pc' := 1) hZ (by decide) dX1_weighFearOf_0 rfl ?_
  refine x_istore_n (i := 2) (pc' := 2) (lv' := [(2, .int (-1)), (0, .ref q_this), (1, .int l1)]) hZ dX1_weighFearOf_1 rfl rfl (by decide) rfl ?_
  refine x_iconst (v := 0) (pc' := 3) hZ (by decide) dX1_weighFearOf_2 rfl ?_
  refine x_istore_n (i := 3) (pc' := 4) (lv' := [(3, .int 0), (2, .int (-1)), (0, .ref q_this), (1, .int l1)]) hZ dX1_weighFearOf_3 rfl rfl (by decide) rfl ?_
  refine x_iconst (v := 0) (pc' := 5) hZ (by decide) dX1_weighFearOf_4 rfl ?_
  refine x_istore (i := 4) (pc' := 7) (lv' := [(4, .int 0), (3, .int 0), (2, .int (-1)), (0, .ref q_this), (1, .int l1)]) hZ dX1_weighFearOf_5 rfl (by decide) rfl ?_
  refine x_lv [3, 4, 2, 1, 0] (lv' := [(0, .ref q_this), (1, .int l1), (2, .int (-1)), (3, .int 0), (4, .int 0)]) rfl ?_
  obtain ⟨k7, h⟩ := h
  refine t_X1_weighFearOf_7 E Z q_this q_weights q_marks q_ageing v_people v_alive v_reported v_mornings v_years v_weights v_marks l1 hZ  _ (-1) 0 0 h (fun l2_7 l3_7 l4_7 h => ?_)
  refine x_aload_n (pc' := 55) hZ dX1_weighFearOf_54 rfl 0 rfl ?_
  refine g_RX1_15 (pc' := 58) hZ dX1_weighFearOf_55 rfl 0 rfl rfl ?_
  refine x_iconst (v := 0) (pc' := 59) hZ (by decide) dX1_weighFearOf_58 rfl ?_
  have h59 : vp_in 0 3 := by unfold vp_in; decide
  refine x_iald (pc' := 60) hZ h59 dX1_weighFearOf_59 rfl 1 rfl ?_
  refine x_aload_n (pc' := 61) hZ dX1_weighFearOf_60 rfl 0 rfl ?_
  refine g_RX1_15 (pc' := 64) hZ dX1_weighFearOf_61 rfl 0 rfl rfl ?_
  refine x_iconst (v := 1) (pc' := 65) hZ (by decide) dX1_weighFearOf_64 rfl ?_
  have h65 : vp_in 1 3 := by unfold vp_in; decide
  refine x_iald (pc' := 66) hZ h65 dX1_weighFearOf_65 rfl 1 rfl ?_
  refine x_iadd (pc' := 67) hZ dX1_weighFearOf_66 rfl ?_
  refine x_aload_n (pc' := 68) hZ dX1_weighFearOf_67 rfl 0 rfl ?_
  refine g_RX1_15 (pc' := 71) hZ dX1_weighFearOf_68 rfl 0 rfl rfl ?_
  refine x_iconst (v := 2) (pc' := 72) hZ (by decide) dX1_weighFearOf_71 rfl ?_
  have h72 : vp_in 2 3 := by unfold vp_in; decide
  refine x_iald (pc' := 73) hZ h72 dX1_weighFearOf_72 rfl 1 rfl ?_
  refine x_iadd (pc' := 74) hZ dX1_weighFearOf_73 rfl ?_
  refine x_iconst (v := 1) (pc' := 75) hZ (by decide) dX1_weighFearOf_74 rfl ?_
  refine x_icmp_ne (tgt := 82) (pc' := 78) hZ dX1_weighFearOf_75 (by decide) rfl (fun c75 => ?_) (fun c75 => ?_)
  · replace h := h.1 c75
    refine x_iconst (v := 0) (pc' := 83) hZ (by decide) dX1_weighFearOf_82 rfl ?_
    refine x_istore (i := 4) (pc' := 85) (lv' := [(4, .int 0), (0, .ref q_this), (2, .int l2_7)]) hZ dX1_weighFearOf_83 rfl (by decide) rfl ?_
    refine x_iload_n (pc' := 86) hZ dX1_weighFearOf_85 rfl 2 rfl ?_
    refine x_if_lt (tgt := 113) (pc' := 89) hZ dX1_weighFearOf_86 (by decide) rfl (fun c86 => ?_) (fun c86 => ?_)
    · replace h := h.1 c86
      exact hRet _ _ _ dX1_weighFearOf_113 ⟨_, rfl, h⟩
    · replace h := h.2 c86
      refine x_aload_n (pc' := 90) hZ dX1_weighFearOf_89 rfl 1 rfl ?_
      refine g_RX1_15 (pc' := 93) hZ dX1_weighFearOf_90 rfl 0 rfl rfl ?_
      refine x_iload_n (pc' := 94) hZ dX1_weighFearOf_93 rfl 2 rfl ?_
      obtain ⟨h94, h⟩ := h
      refine x_iald (pc' := 95) hZ h94 dX1_weighFearOf_94 rfl 1 rfl ?_
      refine x_if_le (tgt := 113) (pc' := 98) hZ dX1_weighFearOf_95 (by decide) rfl (fun c95 => ?_) (fun c95 => ?_)
      · replace h := h.1 c95
        exact hRet _ _ _ dX1_weighFearOf_113 ⟨_, rfl, h⟩
      · replace h := h.2 c95
        refine x_iload (pc' := 100) hZ dX1_weighFearOf_98 rfl 0 rfl ?_
        refine x_if_ne (tgt := 113) (pc' := 103) hZ dX1_weighFearOf_100 (by decide) rfl (fun c100 => ?_) (fun c100 => ?_)
        · exact absurd c100 (by decide)
        · refine x_aload_n (pc' := 104) hZ dX1_weighFearOf_103 rfl 1 rfl ?_
          refine g_RX1_15 (pc' := 107) hZ dX1_weighFearOf_104 rfl 0 rfl rfl ?_
          refine x_iload_n (pc' := 108) hZ dX1_weighFearOf_107 rfl 2 rfl ?_
          refine x_dup2 (pc' := 109) hZ dX1_weighFearOf_108 rfl rfl rfl ?_
          obtain ⟨h109, h⟩ := h
          refine x_iald (pc' := 110) hZ h109 dX1_weighFearOf_109 rfl 1 rfl ?_
          refine x_iconst (v := 1) (pc' := 111) hZ (by decide) dX1_weighFearOf_110 rfl ?_
          refine x_isub (pc' := 112) hZ dX1_weighFearOf_111 rfl ?_
          refine x_topi (fun x112 e112 => ?_)
          replace h := h x112 e112
          obtain ⟨h112, h⟩ := h
          refine x_iast (pc' := 113) (ws' := [(q_this, cO 1 [.int v_people, .ref q_weights, .ref q_marks, .ref q_ageing, .int v_alive, .int v_reported, .int v_mornings, .int v_years]), (q_weights, cA E 3 (upd v_weights (ix l2_7) x112)), (q_marks, cA E 18 v_marks)]) hZ h112 dX1_weighFearOf_112 rfl 1 rfl rfl ?_
          exact hRet _ _ _ dX1_weighFearOf_113 ⟨_, rfl, h⟩
  · replace h := h.2 c75
    refine x_iconst (v := 1) (pc' := 79) hZ (by decide) dX1_weighFearOf_78 rfl ?_
    refine x_goto (pc' := 83) hZ dX1_weighFearOf_79 (by decide) ?_
    refine x_istore (i := 4) (pc' := 85) (lv' := [(4, .int 1), (0, .ref q_this), (2, .int l2_7)]) hZ dX1_weighFearOf_83 rfl (by decide) rfl ?_
    refine x_iload_n (pc' := 86) hZ dX1_weighFearOf_85 rfl 2 rfl ?_
    refine x_if_lt (tgt := 113) (pc' := 89) hZ dX1_weighFearOf_86 (by decide) rfl (fun c86 => ?_) (fun c86 => ?_)
    · replace h := h.1 c86
      exact hRet _ _ _ dX1_weighFearOf_113 ⟨_, rfl, h⟩
    · replace h := h.2 c86
      refine x_aload_n (pc' := 90) hZ dX1_weighFearOf_89 rfl 1 rfl ?_
      refine g_RX1_15 (pc' := 93) hZ dX1_weighFearOf_90 rfl 0 rfl rfl ?_
      refine x_iload_n (pc' := 94) hZ dX1_weighFearOf_93 rfl 2 rfl ?_
      obtain ⟨h94, h⟩ := h
      refine x_iald (pc' := 95) hZ h94 dX1_weighFearOf_94 rfl 1 rfl ?_
      refine x_if_le (tgt := 113) (pc' := 98) hZ dX1_weighFearOf_95 (by decide) rfl (fun c95 => ?_) (fun c95 => ?_)
      · replace h := h.1 c95
        exact hRet _ _ _ dX1_weighFearOf_113 ⟨_, rfl, h⟩
      · replace h := h.2 c95
        refine x_iload (pc' := 100) hZ dX1_weighFearOf_98 rfl 0 rfl ?_
        refine x_if_ne (tgt := 113) (pc' := 103) hZ dX1_weighFearOf_100 (by decide) rfl (fun c100 => ?_) (fun c100 => ?_)
        · exact hRet _ _ _ dX1_weighFearOf_113 ⟨_, rfl, h⟩
        · exact absurd c100 (by decide)
set_option maxHeartbeats 4000000 in
set_option maxRecDepth 100000 in
theorem c_X1_passMorning (E : XE) (q_this : Nat) (q_weights : Nat) (q_marks : Nat) (q_ageing : Nat) (v_people : Int32) (v_alive : Int32) (v_reported : Int32) (v_mornings : Int32) (v_years : Int32) (v_weights : Nat → Int32) (v_marks : Nat → Int32) (post : Int32 → (Nat → Int32) → Prop) (h : p_X1_passMorning v_people v_alive v_mornings v_weights v_marks post) : ConV E yX1_passMorning cX1_passMorning 2 { frames := 2, cells := 0, slots := 0, locals := 47 } 0 0 [.ref q_this] [(q_this, cO 1 [.int v_people, .ref q_weights, .ref q_marks, .ref q_ageing, .int v_alive, .int v_reported, .int v_mornings, .int v_years]), (q_weights, cA E 3 v_weights), (q_marks, cA E 18 v_marks)] (fun w => ∃ (u_mornings : Int32) (u_weights : Nat → Int32), w = [(q_this, cO 1 [.int v_people, .ref q_weights, .ref q_marks, .ref q_ageing, .int v_alive, .int v_reported, .int u_mornings, .int v_years]), (q_weights, cA E 3 u_weights), (q_marks, cA E 18 v_marks)] ∧ post u_mornings u_weights) := by
  refine ConV.of (by decide +kernel) (Nat.le_of_ble_eq_true rfl) (fun Z hZ hI hRet => ?_)
  replace hZ : XOK E Z RX1 cX1_passMorning 2 { frames := 2, cells := 0, slots := 0, locals := 47 } := hZ
  clear hI
  show XW E Z 0 0 [(q_this, cO 1 [.int v_people, .ref q_weights, .ref q_marks, .ref q_ageing, .int v_alive, .int v_reported, .int v_mornings, .int v_years]), (q_weights, cA E 3 v_weights), (q_marks, cA E 18 v_marks)] [(0, .ref q_this)] [] 0
  unfold p_X1_passMorning at h
  refine x_aload_n (pc' := 1) hZ dX1_passMorning_0 rfl 0 rfl ?_
  refine x_dup (pc' := 2) hZ dX1_passMorning_1 rfl rfl ?_
  refine g_RX1_31 (pc' := 5) hZ dX1_passMorning_2 rfl 0 rfl rfl ?_
  refine x_iconst (v := 1) (pc' := 6) hZ (by decide) dX1_passMorning_5 rfl ?_
  refine x_iadd (pc' := 7) hZ dX1_passMorning_6 rfl ?_
  refine x_topi (fun x7 e7 => ?_)
  replace h := h x7 e7
  refine s_RX1_31 (pc' := 10) (ws' := [(q_this, cO 1 [.int v_people, .ref q_weights, .ref q_marks, .ref q_ageing, .int v_alive, .int v_reported, .int x7, .int v_years]), (q_weights, cA E 3 v_weights), (q_marks, cA E 18 v_marks)]) hZ dX1_passMorning_7 rfl 0 rfl (Nat.le_of_ble_eq_true rfl) rfl ?_
  refine x_aload_n (pc' := 11) hZ dX1_passMorning_10 rfl 0 rfl ?_
  refine x_aload_n (pc' := 12) hZ dX1_passMorning_11 rfl 0 rfl ?_
  refine x_aload_n (pc' := 13) hZ dX1_passMorning_12 rfl 0 rfl ?_
  refine g_RX1_25 (pc' := 16) hZ dX1_passMorning_13 rfl 0 rfl rfl ?_
  refine x_bipush (v := (-2)) (pc' := 18) hZ (by decide) dX1_passMorning_16 rfl ?_
  refine x_iand (pc' := 19) hZ dX1_passMorning_18 rfl ?_
  refine k_RX1_83 (pc' := 22) (q0 := 0) (as := [.int (v_alive &&& (-2))]) (rest := [.ref q_this]) (c' := 0) (n' := 0) (wr := []) hZ (c_X1_fairestOf E q_this q_weights q_marks q_ageing v_people v_alive v_reported x7 v_years v_weights v_marks (v_alive &&& (-2)) _ h) rfl dX1_passMorning_19 rfl rfl rfl rfl rfl (Nat.le_of_ble_eq_true rfl) (Nat.le_of_ble_eq_true rfl) (Nat.le_of_ble_eq_true rfl) rfl rfl (Nat.le_of_ble_eq_true rfl) (Nat.le_of_ble_eq_true rfl) [0, 1, 2] [] rfl rfl (by decide) (by decide) (by decide) (fun r19 w19 hw => ?_)
  obtain ⟨rfl, h⟩ := hw
  refine x_ws (ws' := [(q_this, cO 1 [.int v_people, .ref q_weights, .ref q_marks, .ref q_ageing, .int v_alive, .int v_reported, .int x7, .int v_years]), (q_weights, cA E 3 v_weights), (q_marks, cA E 18 v_marks)]) [0, 1, 2] rfl (by decide) ?_
  refine k_RX1_86 (pc' := 25) (q0 := 0) (as := [.int r19]) (rest := []) (c' := 0) (n' := 0) (wr := [(q_weights, cA E 3 v_weights), (q_marks, cA E 18 v_marks)]) hZ (c_X1_leastOf E q_this q_weights q_marks q_ageing v_people v_alive v_reported x7 v_years r19 _ h) rfl dX1_passMorning_22 rfl rfl rfl rfl rfl (Nat.le_of_ble_eq_true rfl) (Nat.le_of_ble_eq_true rfl) (Nat.le_of_ble_eq_true rfl) rfl rfl (Nat.le_of_ble_eq_true rfl) (Nat.le_of_ble_eq_true rfl) [0] [1, 2] rfl rfl (by decide) (by decide) (by decide) (fun r22 w22 hw => ?_)
  obtain ⟨rfl, h⟩ := hw
  refine x_ws (ws' := [(q_this, cO 1 [.int v_people, .ref q_weights, .ref q_marks, .ref q_ageing, .int v_alive, .int v_reported, .int x7, .int v_years]), (q_weights, cA E 3 v_weights), (q_marks, cA E 18 v_marks)]) [2, 0, 1] rfl (by decide) ?_
  refine x_istore_n (i := 1) (pc' := 26) (lv' := [(1, .int r22), (0, .ref q_this)]) hZ dX1_passMorning_25 rfl rfl (by decide) rfl ?_
  refine x_iload_n (pc' := 27) hZ dX1_passMorning_26 rfl 0 rfl ?_
  refine x_bipush (v := (-9)) (pc' := 29) hZ (by decide) dX1_passMorning_27 rfl ?_
  refine x_icmp_eq (tgt := 37) (pc' := 32) hZ dX1_passMorning_29 (by decide) rfl (fun c29 => ?_) (fun c29 => ?_)
  · replace h := h.1 c29
    exact hRet _ _ _ dX1_passMorning_37 ⟨_, _, rfl, h⟩
  · replace h := h.2 c29
    refine x_aload_n (pc' := 33) hZ dX1_passMorning_32 rfl 1 rfl ?_
    refine x_iload_n (pc' := 34) hZ dX1_passMorning_33 rfl 0 rfl ?_
    refine k_RX1_89 (pc' := 37) (q0 := 0) (as := [.int r22]) (rest := []) (c' := 0) (n' := 0) (wr := []) hZ (c_X1_weighFearOf E q_this q_weights q_marks q_ageing v_people v_alive v_reported x7 v_years v_weights v_marks r22 _ h) rfl dX1_passMorning_34 rfl rfl rfl rfl rfl (Nat.le_of_ble_eq_true rfl) (Nat.le_of_ble_eq_true rfl) (Nat.le_of_ble_eq_true rfl) rfl rfl (Nat.le_of_ble_eq_true rfl) (Nat.le_of_ble_eq_true rfl) [0, 1, 2] [] rfl rfl (by decide) (by decide) (by decide) (fun w34 hw => ?_)
    obtain ⟨a34_0, rfl, h⟩ := hw
    refine x_ws (ws' := [(q_this, cO 1 [.int v_people, .ref q_weights, .ref q_marks, .ref q_ageing, .int v_alive, .int v_reported, .int x7, .int v_years]), (q_weights, cA E 3 a34_0), (q_marks, cA E 18 v_marks)]) [0, 1, 2] rfl (by decide) ?_
    exact hRet _ _ _ dX1_passMorning_37 ⟨_, _, rfl, h⟩
set_option maxHeartbeats 4000000 in
set_option maxRecDepth 100000 in
theorem t_X1_passYear_30 (E : XE) (Z : ZC) (q_this : Nat) (q_weights : Nat) (q_marks : Nat) (q_ageing : Nat) (v_people : Int32) (v_alive : Int32) (v_reported : Int32) (v_mornings : Int32) (v_years : Int32) (v_ageing : Nat → Int32) (l1 : Int32) {K : Int32 → (Nat → Int32) → Prop} (hZ : XOK E Z RX1 cX1_passYear 4 { frames := 1, cells := 0, slots := 0, locals := 21 }) : ∀ (k : Nat) (l2 : Int32) (v_marks : (Nat → Int32)), wl (fun rec v => b_X1_passYear_30 l1 v_ageing K rec v.1 v.2) k (l2, v_marks) → (∀ (l2 : Int32) (v_marks : (Nat → Int32)), K l2 v_marks → XW E Z 0 0 [(q_this, cO 1 [.int v_people, .ref q_weights, .ref q_marks, .ref q_ageing, .int v_alive, .int v_reported, .int v_mornings, .int v_years]), (q_marks, cA E 18 v_marks), (q_ageing, cA E 6 v_ageing)] [(0, .ref q_this), (1, .int l1)] [] 70) → XW E Z 0 0 [(q_this, cO 1 [.int v_people, .ref q_weights, .ref q_marks, .ref q_ageing, .int v_alive, .int v_reported, .int v_mornings, .int v_years]), (q_marks, cA E 18 v_marks), (q_ageing, cA E 6 v_ageing)] [(0, .ref q_this), (1, .int l1), (2, .int l2)] [] 30 := by
  intro k
  induction k with
  | zero =>
    intro l2 v_marks h
    exact h.elim
  | succ k ih =>
    intro l2 v_marks h hK
    replace h := wl_succ h
    try dsimp only at h
    unfold b_X1_passYear_30 at h
    refine x_iload_n (pc' := 31) hZ dX1_passYear_30 rfl 2 rfl ?_
    refine x_iconst (v := 3) (pc' := 32) hZ (by decide) dX1_passYear_31 rfl ?_
    refine x_icmp_ge (tgt := 70) (pc' := 35) hZ dX1_passYear_32 (by decide) rfl (fun c32 => ?_) (fun c32 => ?_)
    · replace h := h.1 c32
      refine x_lv [0, 1] (lv' := [(0, .ref q_this), (1, .int l1)]) rfl ?_
      exact hK l2 v_marks h
    · replace h := h.2 c32
      refine x_iload_n (pc' := 36) hZ dX1_passYear_35 rfl 1 rfl ?_
      refine x_iconst (v := 3) (pc' := 37) hZ (by decide) dX1_passYear_36 rfl ?_
      refine x_imul (pc' := 38) hZ dX1_passYear_37 rfl ?_
      refine x_iload_n (pc' := 39) hZ dX1_passYear_38 rfl 2 rfl ?_
      refine x_iadd (pc' := 40) hZ dX1_passYear_39 rfl ?_
      refine x_topi (fun x40 e40 => ?_)
      replace h := h x40 e40
      refine x_istore_n (i := 3) (pc' := 41) (lv' := [(3, .int x40), (0, .ref q_this), (1, .int l1), (2, .int l2)]) hZ dX1_passYear_40 rfl rfl (by decide) rfl ?_
      refine x_aload_n (pc' := 42) hZ dX1_passYear_41 rfl 1 rfl ?_
      refine g_RX1_19 (pc' := 45) hZ dX1_passYear_42 rfl 0 rfl rfl ?_
      refine x_iload_n (pc' := 46) hZ dX1_passYear_45 rfl 0 rfl ?_
      refine x_iconst (v := 0) (pc' := 47) hZ (by decide) dX1_passYear_46 rfl ?_
      refine x_aload_n (pc' := 48) hZ dX1_passYear_47 rfl 1 rfl ?_
      refine g_RX1_19 (pc' := 51) hZ dX1_passYear_48 rfl 0 rfl rfl ?_
      refine x_iload_n (pc' := 52) hZ dX1_passYear_51 rfl 0 rfl ?_
      obtain ⟨h52, h⟩ := h
      refine x_iald (pc' := 53) hZ h52 dX1_passYear_52 rfl 1 rfl ?_
      refine x_aload_n (pc' := 54) hZ dX1_passYear_53 rfl 1 rfl ?_
      refine g_RX1_22 (pc' := 57) hZ dX1_passYear_54 rfl 0 rfl rfl ?_
      refine x_iload_n (pc' := 58) hZ dX1_passYear_57 rfl 2 rfl ?_
      obtain ⟨h58, h⟩ := h
      refine x_iald (pc' := 59) hZ h58 dX1_passYear_58 rfl 2 rfl ?_
      refine x_isub (pc' := 60) hZ dX1_passYear_59 rfl ?_
      refine x_mmax (pc' := 63) hZ kl_RX1_73 dX1_passYear_60 rfl (Nat.le_of_ble_eq_true rfl) (Nat.le_of_ble_eq_true rfl) (Nat.le_of_ble_eq_true rfl) (Nat.le_of_ble_eq_true rfl) ?_
      refine x_topi (fun x63 e63 => ?_)
      replace h := h x63 e63
      obtain ⟨h63, h⟩ := h
      refine x_iast (pc' := 64) (ws' := [(q_this, cO 1 [.int v_people, .ref q_weights, .ref q_marks, .ref q_ageing, .int v_alive, .int v_reported, .int v_mornings, .int v_years]), (q_marks, cA E 18 (upd v_marks (ix x40) x63)), (q_ageing, cA E 6 v_ageing)]) hZ h63 dX1_passYear_63 rfl 1 rfl rfl ?_
      obtain ⟨x64, e64⟩ : ∃ y : Int32, y = l2 + 1 := ⟨_, rfl⟩
      replace h := h x64 e64
      refine x_iinc (i := 2) (v := x64) (pc' := 67) (lv' := [(2, .int x64), (3, .int x40), (0, .ref q_this), (1, .int l1)]) hZ dX1_passYear_64 rfl 3 rfl (by rw [e64]; rfl) (by decide) rfl ?_
      refine x_goto (pc' := 30) hZ dX1_passYear_67 (by decide) ?_
      refine x_lv [2, 3, 0] (lv' := [(0, .ref q_this), (1, .int l1), (2, .int x64)]) rfl ?_
      exact ih x64 (upd v_marks (ix x40) x63) h hK
set_option maxHeartbeats 4000000 in
set_option maxRecDepth 100000 in
theorem t_X1_passYear_12 (E : XE) (Z : ZC) (q_this : Nat) (q_weights : Nat) (q_marks : Nat) (q_ageing : Nat) (v_people : Int32) (v_alive : Int32) (v_reported : Int32) (v_mornings : Int32) (v_years : Int32) (v_ageing : Nat → Int32) {K : Int32 → (Nat → Int32) → Prop} (hZ : XOK E Z RX1 cX1_passYear 4 { frames := 1, cells := 0, slots := 0, locals := 21 }) : ∀ (k : Nat) (l1 : Int32) (v_marks : (Nat → Int32)), wl (fun rec v => b_X1_passYear_12 v_people v_alive v_ageing K rec v.1 v.2) k (l1, v_marks) → (∀ (l1 : Int32) (v_marks : (Nat → Int32)), K l1 v_marks → XW E Z 0 0 [(q_this, cO 1 [.int v_people, .ref q_weights, .ref q_marks, .ref q_ageing, .int v_alive, .int v_reported, .int v_mornings, .int v_years]), (q_marks, cA E 18 v_marks), (q_ageing, cA E 6 v_ageing)] [] [] 76) → XW E Z 0 0 [(q_this, cO 1 [.int v_people, .ref q_weights, .ref q_marks, .ref q_ageing, .int v_alive, .int v_reported, .int v_mornings, .int v_years]), (q_marks, cA E 18 v_marks), (q_ageing, cA E 6 v_ageing)] [(0, .ref q_this), (1, .int l1)] [] 12 := by
  intro k
  induction k with
  | zero =>
    intro l1 v_marks h
    exact h.elim
  | succ k ih =>
    intro l1 v_marks h hK
    replace h := wl_succ h
    try dsimp only at h
    unfold b_X1_passYear_12 at h
    refine x_iload_n (pc' := 13) hZ dX1_passYear_12 rfl 1 rfl ?_
    refine x_aload_n (pc' := 14) hZ dX1_passYear_13 rfl 0 rfl ?_
    refine g_RX1_11 (pc' := 17) hZ dX1_passYear_14 rfl 0 rfl rfl ?_
    refine x_icmp_ge (tgt := 76) (pc' := 20) hZ dX1_passYear_17 (by decide) rfl (fun c17 => ?_) (fun c17 => ?_)
    · replace h := h.1 c17
      refine x_lv [] (lv' := []) rfl ?_
      exact hK l1 v_marks h
    · replace h := h.2 c17
      refine x_aload_n (pc' := 21) hZ dX1_passYear_20 rfl 0 rfl ?_
      refine x_iload_n (pc' := 22) hZ dX1_passYear_21 rfl 1 rfl ?_
      refine k_RX1_79 (pc' := 25) (q0 := 0) (as := [.int l1]) (rest := []) (c' := 0) (n' := 0) (wr := [(q_marks, cA E 18 v_marks), (q_ageing, cA E 6 v_ageing)]) hZ (c_X1_isAlive E q_this q_weights q_marks q_ageing v_people v_alive v_reported v_mornings v_years l1 _ h) rfl dX1_passYear_22 rfl rfl rfl rfl rfl (Nat.le_of_ble_eq_true rfl) (Nat.le_of_ble_eq_true rfl) (Nat.le_of_ble_eq_true rfl) rfl rfl (Nat.le_of_ble_eq_true rfl) (Nat.le_of_ble_eq_true rfl) [0] [1, 2] rfl rfl (by decide) (by decide) (by decide) (fun r22 w22 hw => ?_)
      obtain ⟨rfl, h⟩ := hw
      refine x_ws (ws' := [(q_this, cO 1 [.int v_people, .ref q_weights, .ref q_marks, .ref q_ageing, .int v_alive, .int v_reported, .int v_mornings, .int v_years]), (q_marks, cA E 18 v_marks), (q_ageing, cA E 6 v_ageing)]) [2, 0, 1] rfl (by decide) ?_
      refine x_if_eq (tgt := 70) (pc' := 28) hZ dX1_passYear_25 (by decide) rfl (fun c25 => ?_) (fun c25 => ?_)
      · replace h := h.1 c25
        obtain ⟨x70, e70⟩ : ∃ y : Int32, y = l1 + 1 := ⟨_, rfl⟩
        replace h := h x70 e70
        refine x_iinc (i := 1) (v := x70) (pc' := 73) (lv' := [(1, .int x70), (0, .ref q_this)]) hZ dX1_passYear_70 rfl 1 rfl (by rw [e70]; rfl) (by decide) rfl ?_
        refine x_goto (pc' := 12) hZ dX1_passYear_73 (by decide) ?_
        refine x_lv [1, 0] (lv' := [(0, .ref q_this), (1, .int x70)]) rfl ?_
        exact ih x70 v_marks h hK
      · replace h := h.2 c25
        refine x_iconst (v := 0) (pc' := 29) hZ (by decide) dX1_passYear_28 rfl ?_
        refine x_istore_n (i := 2) (pc' := 30) (lv' := [(2, .int 0), (0, .ref q_this), (1, .int l1)]) hZ dX1_passYear_29 rfl rfl (by decide) rfl ?_
        refine x_lv [1, 2, 0] (lv' := [(0, .ref q_this), (1, .int l1), (2, .int 0)]) rfl ?_
        obtain ⟨k30, h⟩ := h
        refine t_X1_passYear_30 E Z q_this q_weights q_marks q_ageing v_people v_alive v_reported v_mornings v_years v_ageing l1 hZ  _ 0 v_marks h (fun l2_30 v_marks_30 h => ?_)
        obtain ⟨x70, e70⟩ : ∃ y : Int32, y = l1 + 1 := ⟨_, rfl⟩
        replace h := h x70 e70
        refine x_iinc (i := 1) (v := x70) (pc' := 73) (lv' := [(1, .int x70), (0, .ref q_this)]) hZ dX1_passYear_70 rfl 1 rfl (by rw [e70]; rfl) (by decide) rfl ?_
        refine x_goto (pc' := 12) hZ dX1_passYear_73 (by decide) ?_
        refine x_lv [1, 0] (lv' := [(0, .ref q_this), (1, .int x70)]) rfl ?_
        exact ih x70 v_marks_30 h hK
set_option maxHeartbeats 4000000 in
set_option maxRecDepth 100000 in
theorem c_X1_passYear (E : XE) (q_this : Nat) (q_weights : Nat) (q_marks : Nat) (q_ageing : Nat) (v_people : Int32) (v_alive : Int32) (v_reported : Int32) (v_mornings : Int32) (v_years : Int32) (v_marks : Nat → Int32) (v_ageing : Nat → Int32) (post : Int32 → (Nat → Int32) → Prop) (h : p_X1_passYear v_people v_alive v_years v_marks v_ageing post) : ConV E yX1_passYear cX1_passYear 4 { frames := 1, cells := 0, slots := 0, locals := 21 } 0 0 [.ref q_this] [(q_this, cO 1 [.int v_people, .ref q_weights, .ref q_marks, .ref q_ageing, .int v_alive, .int v_reported, .int v_mornings, .int v_years]), (q_marks, cA E 18 v_marks), (q_ageing, cA E 6 v_ageing)] (fun w => ∃ (u_years : Int32) (u_marks : Nat → Int32), w = [(q_this, cO 1 [.int v_people, .ref q_weights, .ref q_marks, .ref q_ageing, .int v_alive, .int v_reported, .int v_mornings, .int u_years]), (q_marks, cA E 18 u_marks), (q_ageing, cA E 6 v_ageing)] ∧ post u_years u_marks) := by
  refine ConV.of (by decide +kernel) (Nat.le_of_ble_eq_true rfl) (fun Z hZ hI hRet => ?_)
  replace hZ : XOK E Z RX1 cX1_passYear 4 { frames := 1, cells := 0, slots := 0, locals := 21 } := hZ
  clear hI
  show XW E Z 0 0 [(q_this, cO 1 [.int v_people, .ref q_weights, .ref q_marks, .ref q_ageing, .int v_alive, .int v_reported, .int v_mornings, .int v_years]), (q_marks, cA E 18 v_marks), (q_ageing, cA E 6 v_ageing)] [(0, .ref q_this)] [] 0
  unfold p_X1_passYear at h
  refine x_aload_n (pc' := 1) hZ dX1_passYear_0 rfl 0 rfl ?_
  refine x_dup (pc' := 2) hZ dX1_passYear_1 rfl rfl ?_
  refine g_RX1_34 (pc' := 5) hZ dX1_passYear_2 rfl 0 rfl rfl ?_
  refine x_iconst (v := 1) (pc' := 6) hZ (by decide) dX1_passYear_5 rfl ?_
  refine x_iadd (pc' := 7) hZ dX1_passYear_6 rfl ?_
  refine x_topi (fun x7 e7 => ?_)
  replace h := h x7 e7
  refine s_RX1_34 (pc' := 10) (ws' := [(q_this, cO 1 [.int v_people, .ref q_weights, .ref q_marks, .ref q_ageing, .int v_alive, .int v_reported, .int v_mornings, .int x7]), (q_marks, cA E 18 v_marks), (q_ageing, cA E 6 v_ageing)]) hZ dX1_passYear_7 rfl 0 rfl (Nat.le_of_ble_eq_true rfl) rfl ?_
  refine x_iconst (v := 0) (pc' := 11) hZ (by decide) dX1_passYear_10 rfl ?_
  refine x_istore_n (i := 1) (pc' := 12) (lv' := [(1, .int 0), (0, .ref q_this)]) hZ dX1_passYear_11 rfl rfl (by decide) rfl ?_
  refine x_lv [1, 0] (lv' := [(0, .ref q_this), (1, .int 0)]) rfl ?_
  obtain ⟨k12, h⟩ := h
  refine t_X1_passYear_12 E Z q_this q_weights q_marks q_ageing v_people v_alive v_reported v_mornings x7 v_ageing hZ  _ 0 v_marks h (fun l1_12 v_marks_12 h => ?_)
  exact hRet _ _ _ dX1_passYear_76 ⟨_, _, rfl, h⟩
set_option maxHeartbeats 4000000 in
set_option maxRecDepth 100000 in
theorem c_J6_bitCount_0f7a4 (E : XE) (l0 : Int32) (post : Int32 → Prop) (h : p_J6_bitCount_0f7a4 l0 post) : ConI E yJ6_bitCount_0f7a4 cJ6_bitCount_0f7a4 1 .int { frames := 0, cells := 0, slots := 0, locals := 0 } 0 0 [.int l0] [] (fun r w => w = [] ∧ post r ) := by
  refine ConI.of (by decide +kernel) (Nat.le_of_ble_eq_true rfl) (fun Z hZ hI hRet => ?_)
  replace hZ : XOK E Z RJ6 cJ6_bitCount_0f7a4 1 { frames := 0, cells := 0, slots := 0, locals := 0 } := hZ
  clear hI
  show XW E Z 0 0 [] [(0, .int l0)] [] 0
  unfold p_J6_bitCount_0f7a4 at h
  refine x_iload_n (pc' := 1) hZ dJ6_bitCount_0f7a4_0 rfl 0 rfl ?_
  refine x_iload_n (pc' := 2) hZ dJ6_bitCount_0f7a4_1 rfl 0 rfl ?_
  refine x_iconst (v := 1) (pc' := 3) hZ (by decide) dJ6_bitCount_0f7a4_2 rfl ?_
  refine x_iushr (pc' := 4) hZ dJ6_bitCount_0f7a4_3 rfl ?_
  refine x_ldcw (v := 1431655765) (pc' := 7) hZ kl_RJ6_265 dJ6_bitCount_0f7a4_4 rfl ?_
  refine x_iand (pc' := 8) hZ dJ6_bitCount_0f7a4_7 rfl ?_
  refine x_isub (pc' := 9) hZ dJ6_bitCount_0f7a4_8 rfl ?_
  refine x_topi (fun x9 e9 => ?_)
  replace h := h x9 e9
  refine x_istore_n (i := 0) (pc' := 10) (lv' := [(0, .int x9)]) hZ dJ6_bitCount_0f7a4_9 rfl rfl (by decide) rfl ?_
  refine x_iload_n (pc' := 11) hZ dJ6_bitCount_0f7a4_10 rfl 0 rfl ?_
  refine x_ldcw (v := 858993459) (pc' := 14) hZ kl_RJ6_266 dJ6_bitCount_0f7a4_11 rfl ?_
  refine x_iand (pc' := 15) hZ dJ6_bitCount_0f7a4_14 rfl ?_
  refine x_iload_n (pc' := 16) hZ dJ6_bitCount_0f7a4_15 rfl 0 rfl ?_
  refine x_iconst (v := 2) (pc' := 17) hZ (by decide) dJ6_bitCount_0f7a4_16 rfl ?_
  refine x_iushr (pc' := 18) hZ dJ6_bitCount_0f7a4_17 rfl ?_
  refine x_ldcw (v := 858993459) (pc' := 21) hZ kl_RJ6_266 dJ6_bitCount_0f7a4_18 rfl ?_
  refine x_iand (pc' := 22) hZ dJ6_bitCount_0f7a4_21 rfl ?_
  refine x_iadd (pc' := 23) hZ dJ6_bitCount_0f7a4_22 rfl ?_
  refine x_topi (fun x23 e23 => ?_)
  replace h := h x23 e23
  refine x_istore_n (i := 0) (pc' := 24) (lv' := [(0, .int x23)]) hZ dJ6_bitCount_0f7a4_23 rfl rfl (by decide) rfl ?_
  refine x_iload_n (pc' := 25) hZ dJ6_bitCount_0f7a4_24 rfl 0 rfl ?_
  refine x_iload_n (pc' := 26) hZ dJ6_bitCount_0f7a4_25 rfl 0 rfl ?_
  refine x_iconst (v := 4) (pc' := 27) hZ (by decide) dJ6_bitCount_0f7a4_26 rfl ?_
  refine x_iushr (pc' := 28) hZ dJ6_bitCount_0f7a4_27 rfl ?_
  refine x_iadd (pc' := 29) hZ dJ6_bitCount_0f7a4_28 rfl ?_
  refine x_ldcw (v := 252645135) (pc' := 32) hZ kl_RJ6_267 dJ6_bitCount_0f7a4_29 rfl ?_
  refine x_iand (pc' := 33) hZ dJ6_bitCount_0f7a4_32 rfl ?_
  refine x_topi (fun x33 e33 => ?_)
  replace h := h x33 e33
  refine x_istore_n (i := 0) (pc' := 34) (lv' := [(0, .int x33)]) hZ dJ6_bitCount_0f7a4_33 rfl rfl (by decide) rfl ?_
  refine x_iload_n (pc' := 35) hZ dJ6_bitCount_0f7a4_34 rfl 0 rfl ?_
  refine x_iload_n (pc' := 36) hZ dJ6_bitCount_0f7a4_35 rfl 0 rfl ?_
  refine x_bipush (v := 8) (pc' := 38) hZ (by decide) dJ6_bitCount_0f7a4_36 rfl ?_
  refine x_iushr (pc' := 39) hZ dJ6_bitCount_0f7a4_38 rfl ?_
  refine x_iadd (pc' := 40) hZ dJ6_bitCount_0f7a4_39 rfl ?_
  refine x_topi (fun x40 e40 => ?_)
  replace h := h x40 e40
  refine x_istore_n (i := 0) (pc' := 41) (lv' := [(0, .int x40)]) hZ dJ6_bitCount_0f7a4_40 rfl rfl (by decide) rfl ?_
  refine x_iload_n (pc' := 42) hZ dJ6_bitCount_0f7a4_41 rfl 0 rfl ?_
  refine x_iload_n (pc' := 43) hZ dJ6_bitCount_0f7a4_42 rfl 0 rfl ?_
  refine x_bipush (v := 16) (pc' := 45) hZ (by decide) dJ6_bitCount_0f7a4_43 rfl ?_
  refine x_iushr (pc' := 46) hZ dJ6_bitCount_0f7a4_45 rfl ?_
  refine x_iadd (pc' := 47) hZ dJ6_bitCount_0f7a4_46 rfl ?_
  refine x_topi (fun x47 e47 => ?_)
  replace h := h x47 e47
  refine x_istore_n (i := 0) (pc' := 48) (lv' := [(0, .int x47)]) hZ dJ6_bitCount_0f7a4_47 rfl rfl (by decide) rfl ?_
  refine x_iload_n (pc' := 49) hZ dJ6_bitCount_0f7a4_48 rfl 0 rfl ?_
  refine x_bipush (v := 63) (pc' := 51) hZ (by decide) dJ6_bitCount_0f7a4_49 rfl ?_
  refine x_iand (pc' := 52) hZ dJ6_bitCount_0f7a4_51 rfl ?_
  exact hRet _ _ _ _ dJ6_bitCount_0f7a4_52 ⟨rfl, h⟩
set_option maxHeartbeats 4000000 in
set_option maxRecDepth 100000 in
theorem c_X1_aliveCount (E : XE) (q_this : Nat) (q_weights : Nat) (q_marks : Nat) (q_ageing : Nat) (v_people : Int32) (v_alive : Int32) (v_reported : Int32) (v_mornings : Int32) (v_years : Int32) (post : Int32 → Prop) (h : p_X1_aliveCount v_alive post) : ConI E yX1_aliveCount cX1_aliveCount 1 .int { frames := 1, cells := 0, slots := 0, locals := 20 } 0 0 [.ref q_this] [(q_this, cO 1 [.int v_people, .ref q_weights, .ref q_marks, .ref q_ageing, .int v_alive, .int v_reported, .int v_mornings, .int v_years])] (fun r w => w = [(q_this, cO 1 [.int v_people, .ref q_weights, .ref q_marks, .ref q_ageing, .int v_alive, .int v_reported, .int v_mornings, .int v_years])] ∧ post r ) := by
  refine ConI.of (by decide +kernel) (Nat.le_of_ble_eq_true rfl) (fun Z hZ hI hRet => ?_)
  replace hZ : XOK E Z RX1 cX1_aliveCount 1 { frames := 1, cells := 0, slots := 0, locals := 20 } := hZ
  clear hI
  show XW E Z 0 0 [(q_this, cO 1 [.int v_people, .ref q_weights, .ref q_marks, .ref q_ageing, .int v_alive, .int v_reported, .int v_mornings, .int v_years])] [(0, .ref q_this)] [] 0
  unfold p_X1_aliveCount at h
  refine x_aload_n (pc' := 1) hZ dX1_aliveCount_0 rfl 0 rfl ?_
  refine g_RX1_25 (pc' := 4) hZ dX1_aliveCount_1 rfl 0 rfl rfl ?_
  refine k_RX1_65 (pc' := 7) (as := [.int v_alive]) (rest := []) (c' := 0) (n' := 0) (wr := [(q_this, cO 1 [.int v_people, .ref q_weights, .ref q_marks, .ref q_ageing, .int v_alive, .int v_reported, .int v_mornings, .int v_years])]) hZ (c_J6_bitCount_0f7a4 E v_alive _ h) dX1_aliveCount_4 rfl rfl rfl rfl rfl (Nat.le_of_ble_eq_true rfl) (Nat.le_of_ble_eq_true rfl) (Nat.le_of_ble_eq_true rfl) rfl rfl (Nat.le_of_ble_eq_true rfl) (Nat.le_of_ble_eq_true rfl) [] [0] rfl rfl (by decide) (by decide) (by decide) (fun r4 w4 hw => ?_)
  obtain ⟨rfl, h⟩ := hw
  refine x_ws (ws' := [(q_this, cO 1 [.int v_people, .ref q_weights, .ref q_marks, .ref q_ageing, .int v_alive, .int v_reported, .int v_mornings, .int v_years])]) [0] rfl (by decide) ?_
  exact hRet _ _ _ _ dX1_aliveCount_7 ⟨rfl, h⟩
set_option maxHeartbeats 4000000 in
set_option maxRecDepth 100000 in
theorem c_X1_unpackFrom (E : XE) (q_this : Nat) (q_weights : Nat) (q_marks : Nat) (q_ageing : Nat) (q_a1 : Nat) (n_a1 : Nat) (v_people : Int32) (v_alive : Int32) (v_reported : Int32) (v_mornings : Int32) (v_years : Int32) (v_weights : Nat → Int32) (v_marks : Nat → Int32) (v_a1 : Nat → Int32) (l2 : Int32) (post : Int32 → Int32 → Int32 → Int32 → (Nat → Int32) → (Nat → Int32) → Prop) (h : p_X1_unpackFrom n_a1 v_alive v_reported v_mornings v_years v_weights v_marks v_a1 l2 post) : ConV E yX1_unpackFrom cX1_unpackFrom 5 { frames := 1, cells := 0, slots := 0, locals := 18 } 0 0 [.ref q_this, .ref q_a1, .int l2] [(q_this, cO 1 [.int v_people, .ref q_weights, .ref q_marks, .ref q_ageing, .int v_alive, .int v_reported, .int v_mornings, .int v_years]), (q_weights, cA E 3 v_weights), (q_marks, cA E 18 v_marks), (q_a1, cA E n_a1 v_a1)] (fun w => ∃ (u_alive : Int32) (u_reported : Int32) (u_mornings : Int32) (u_years : Int32) (u_weights : Nat → Int32) (u_marks : Nat → Int32), w = [(q_this, cO 1 [.int v_people, .ref q_weights, .ref q_marks, .ref q_ageing, .int u_alive, .int u_reported, .int u_mornings, .int u_years]), (q_weights, cA E 3 u_weights), (q_marks, cA E 18 u_marks), (q_a1, cA E n_a1 v_a1)] ∧ post u_alive u_reported u_mornings u_years u_weights u_marks) := by
  refine ConV.of (by decide +kernel) (Nat.le_of_ble_eq_true rfl) (fun Z hZ hI hRet => ?_)
  replace hZ : XOK E Z RX1 cX1_unpackFrom 5 { frames := 1, cells := 0, slots := 0, locals := 18 } := hZ
  clear hI
  show XW E Z 0 0 [(q_this, cO 1 [.int v_people, .ref q_weights, .ref q_marks, .ref q_ageing, .int v_alive, .int v_reported, .int v_mornings, .int v_years]), (q_weights, cA E 3 v_weights), (q_marks, cA E 18 v_marks), (q_a1, cA E n_a1 v_a1)] [(0, .ref q_this), (1, .ref q_a1), (2, .int l2)] [] 0
  unfold p_X1_unpackFrom at h
  refine x_iload_n (pc' := 1) hZ dX1_unpackFrom_0 rfl 2 rfl ?_
  refine x_bipush (v := 25) (pc' := 3) hZ (by decide) dX1_unpackFrom_1 rfl ?_
  refine x_imul (pc' := 4) hZ dX1_unpackFrom_3 rfl ?_
  refine x_topi (fun x4 e4 => ?_)
  replace h := h x4 e4
  refine x_istore_n (i := 3) (pc' := 5) (lv' := [(3, .int x4), (0, .ref q_this), (1, .ref q_a1), (2, .int l2)]) hZ dX1_unpackFrom_4 rfl rfl (by decide) rfl ?_
  refine x_aload_n (pc' := 6) hZ dX1_unpackFrom_5 rfl 2 rfl ?_
  refine x_iload_n (pc' := 7) hZ dX1_unpackFrom_6 rfl 0 rfl ?_
  refine x_aload_n (pc' := 8) hZ dX1_unpackFrom_7 rfl 1 rfl ?_
  refine g_RX1_15 (pc' := 11) hZ dX1_unpackFrom_8 rfl 0 rfl rfl ?_
  refine x_iconst (v := 0) (pc' := 12) hZ (by decide) dX1_unpackFrom_11 rfl ?_
  refine x_iconst (v := 3) (pc' := 13) hZ (by decide) dX1_unpackFrom_12 rfl ?_
  obtain ⟨h13, h⟩ := h
  refine x_copy (pc' := 16) (ws' := [(q_this, cO 1 [.int v_people, .ref q_weights, .ref q_marks, .ref q_ageing, .int v_alive, .int v_reported, .int v_mornings, .int v_years]), (q_weights, cA E 3 (va_cpy v_a1 v_weights (ix x4) (ix 0) (ix 3))), (q_marks, cA E 18 v_marks), (q_a1, cA E n_a1 v_a1)]) hZ kl_RX1_59 h13 dX1_unpackFrom_13 rfl 3 1 rfl rfl (Nat.le_of_ble_eq_true rfl) (Nat.le_of_ble_eq_true rfl) rfl ?_
  refine x_aload_n (pc' := 17) hZ dX1_unpackFrom_16 rfl 2 rfl ?_
  refine x_iload_n (pc' := 18) hZ dX1_unpackFrom_17 rfl 0 rfl ?_
  refine x_iconst (v := 3) (pc' := 19) hZ (by decide) dX1_unpackFrom_18 rfl ?_
  refine x_iadd (pc' := 20) hZ dX1_unpackFrom_19 rfl ?_
  refine x_aload_n (pc' := 21) hZ dX1_unpackFrom_20 rfl 1 rfl ?_
  refine g_RX1_19 (pc' := 24) hZ dX1_unpackFrom_21 rfl 0 rfl rfl ?_
  refine x_iconst (v := 0) (pc' := 25) hZ (by decide) dX1_unpackFrom_24 rfl ?_
  refine x_bipush (v := 18) (pc' := 27) hZ (by decide) dX1_unpackFrom_25 rfl ?_
  obtain ⟨h27, h⟩ := h
  refine x_copy (pc' := 30) (ws' := [(q_this, cO 1 [.int v_people, .ref q_weights, .ref q_marks, .ref q_ageing, .int v_alive, .int v_reported, .int v_mornings, .int v_years]), (q_weights, cA E 3 (va_cpy v_a1 v_weights (ix x4) (ix 0) (ix 3))), (q_marks, cA E 18 (va_cpy v_a1 v_marks (ix (x4 + 3)) (ix 0) (ix 18))), (q_a1, cA E n_a1 v_a1)]) hZ kl_RX1_59 h27 dX1_unpackFrom_27 rfl 3 2 rfl rfl (Nat.le_of_ble_eq_true rfl) (Nat.le_of_ble_eq_true rfl) rfl ?_
  refine x_iload_n (pc' := 31) hZ dX1_unpackFrom_30 rfl 0 rfl ?_
  refine x_iconst (v := 3) (pc' := 32) hZ (by decide) dX1_unpackFrom_31 rfl ?_
  refine x_iadd (pc' := 33) hZ dX1_unpackFrom_32 rfl ?_
  refine x_bipush (v := 18) (pc' := 35) hZ (by decide) dX1_unpackFrom_33 rfl ?_
  refine x_iadd (pc' := 36) hZ dX1_unpackFrom_35 rfl ?_
  refine x_topi (fun x36 e36 => ?_)
  replace h := h x36 e36
  refine x_istore (i := 4) (pc' := 38) (lv' := [(4, .int x36), (3, .int x4), (0, .ref q_this), (1, .ref q_a1), (2, .int l2)]) hZ dX1_unpackFrom_36 rfl (by decide) rfl ?_
  refine x_aload_n (pc' := 39) hZ dX1_unpackFrom_38 rfl 2 rfl ?_
  refine x_aload_n (pc' := 40) hZ dX1_unpackFrom_39 rfl 3 rfl ?_
  refine x_iload (pc' := 42) hZ dX1_unpackFrom_40 rfl 0 rfl ?_
  obtain ⟨h42, h⟩ := h
  refine x_iald (pc' := 43) hZ h42 dX1_unpackFrom_42 rfl 3 rfl ?_
  refine x_topi (fun x43 e43 => ?_)
  replace h := h x43 e43
  refine s_RX1_25 (pc' := 46) (ws' := [(q_this, cO 1 [.int v_people, .ref q_weights, .ref q_marks, .ref q_ageing, .int x43, .int v_reported, .int v_mornings, .int v_years]), (q_weights, cA E 3 (va_cpy v_a1 v_weights (ix x4) (ix 0) (ix 3))), (q_marks, cA E 18 (va_cpy v_a1 v_marks (ix (x4 + 3)) (ix 0) (ix 18))), (q_a1, cA E n_a1 v_a1)]) hZ dX1_unpackFrom_43 rfl 0 rfl (Nat.le_of_ble_eq_true rfl) rfl ?_
  refine x_aload_n (pc' := 47) hZ dX1_unpackFrom_46 rfl 2 rfl ?_
  refine x_aload_n (pc' := 48) hZ dX1_unpackFrom_47 rfl 3 rfl ?_
  refine x_iload (pc' := 50) hZ dX1_unpackFrom_48 rfl 0 rfl ?_
  refine x_iconst (v := 1) (pc' := 51) hZ (by decide) dX1_unpackFrom_50 rfl ?_
  refine x_iadd (pc' := 52) hZ dX1_unpackFrom_51 rfl ?_
  obtain ⟨h52, h⟩ := h
  refine x_iald (pc' := 53) hZ h52 dX1_unpackFrom_52 rfl 3 rfl ?_
  refine x_topi (fun x53 e53 => ?_)
  replace h := h x53 e53
  refine s_RX1_28 (pc' := 56) (ws' := [(q_this, cO 1 [.int v_people, .ref q_weights, .ref q_marks, .ref q_ageing, .int x43, .int x53, .int v_mornings, .int v_years]), (q_weights, cA E 3 (va_cpy v_a1 v_weights (ix x4) (ix 0) (ix 3))), (q_marks, cA E 18 (va_cpy v_a1 v_marks (ix (x4 + 3)) (ix 0) (ix 18))), (q_a1, cA E n_a1 v_a1)]) hZ dX1_unpackFrom_53 rfl 0 rfl (Nat.le_of_ble_eq_true rfl) rfl ?_
  refine x_aload_n (pc' := 57) hZ dX1_unpackFrom_56 rfl 2 rfl ?_
  refine x_aload_n (pc' := 58) hZ dX1_unpackFrom_57 rfl 3 rfl ?_
  refine x_iload (pc' := 60) hZ dX1_unpackFrom_58 rfl 0 rfl ?_
  refine x_iconst (v := 2) (pc' := 61) hZ (by decide) dX1_unpackFrom_60 rfl ?_
  refine x_iadd (pc' := 62) hZ dX1_unpackFrom_61 rfl ?_
  obtain ⟨h62, h⟩ := h
  refine x_iald (pc' := 63) hZ h62 dX1_unpackFrom_62 rfl 3 rfl ?_
  refine x_topi (fun x63 e63 => ?_)
  replace h := h x63 e63
  refine s_RX1_31 (pc' := 66) (ws' := [(q_this, cO 1 [.int v_people, .ref q_weights, .ref q_marks, .ref q_ageing, .int x43, .int x53, .int x63, .int v_years]), (q_weights, cA E 3 (va_cpy v_a1 v_weights (ix x4) (ix 0) (ix 3))), (q_marks, cA E 18 (va_cpy v_a1 v_marks (ix (x4 + 3)) (ix 0) (ix 18))), (q_a1, cA E n_a1 v_a1)]) hZ dX1_unpackFrom_63 rfl 0 rfl (Nat.le_of_ble_eq_true rfl) rfl ?_
  refine x_aload_n (pc' := 67) hZ dX1_unpackFrom_66 rfl 2 rfl ?_
  refine x_aload_n (pc' := 68) hZ dX1_unpackFrom_67 rfl 3 rfl ?_
  refine x_iload (pc' := 70) hZ dX1_unpackFrom_68 rfl 0 rfl ?_
  refine x_iconst (v := 3) (pc' := 71) hZ (by decide) dX1_unpackFrom_70 rfl ?_
  refine x_iadd (pc' := 72) hZ dX1_unpackFrom_71 rfl ?_
  obtain ⟨h72, h⟩ := h
  refine x_iald (pc' := 73) hZ h72 dX1_unpackFrom_72 rfl 3 rfl ?_
  refine x_topi (fun x73 e73 => ?_)
  replace h := h x73 e73
  refine s_RX1_34 (pc' := 76) (ws' := [(q_this, cO 1 [.int v_people, .ref q_weights, .ref q_marks, .ref q_ageing, .int x43, .int x53, .int x63, .int x73]), (q_weights, cA E 3 (va_cpy v_a1 v_weights (ix x4) (ix 0) (ix 3))), (q_marks, cA E 18 (va_cpy v_a1 v_marks (ix (x4 + 3)) (ix 0) (ix 18))), (q_a1, cA E n_a1 v_a1)]) hZ dX1_unpackFrom_73 rfl 0 rfl (Nat.le_of_ble_eq_true rfl) rfl ?_
  exact hRet _ _ _ dX1_unpackFrom_76 ⟨_, _, _, _, _, _, rfl, h⟩
set_option maxHeartbeats 4000000 in
set_option maxRecDepth 100000 in
theorem c_X1_copyFrom (E : XE) (q_this : Nat) (q_weights : Nat) (q_marks : Nat) (q_ageing : Nat) (q_a1 : Nat) (q_a1_weights : Nat) (q_a1_marks : Nat) (q_a1_ageing : Nat) (v_people : Int32) (v_alive : Int32) (v_reported : Int32) (v_mornings : Int32) (v_years : Int32) (v_weights : Nat → Int32) (v_marks : Nat → Int32) (v_ageing : Nat → Int32) (v_a1_people : Int32) (v_a1_alive : Int32) (v_a1_reported : Int32) (v_a1_mornings : Int32) (v_a1_years : Int32) (v_a1_weights : Nat → Int32) (v_a1_marks : Nat → Int32) (v_a1_ageing : Nat → Int32) (post : Int32 → Int32 → Int32 → Int32 → Int32 → (Nat → Int32) → (Nat → Int32) → (Nat → Int32) → Prop) (h : p_X1_copyFrom v_people v_alive v_reported v_mornings v_years v_weights v_marks v_ageing v_a1_people v_a1_alive v_a1_reported v_a1_mornings v_a1_years v_a1_weights v_a1_marks v_a1_ageing post) : ConV E yX1_copyFrom cX1_copyFrom 2 { frames := 1, cells := 0, slots := 0, locals := 18 } 0 0 [.ref q_this, .ref q_a1] [(q_this, cO 1 [.int v_people, .ref q_weights, .ref q_marks, .ref q_ageing, .int v_alive, .int v_reported, .int v_mornings, .int v_years]), (q_weights, cA E 3 v_weights), (q_marks, cA E 18 v_marks), (q_ageing, cA E 6 v_ageing), (q_a1, cO 1 [.int v_a1_people, .ref q_a1_weights, .ref q_a1_marks, .ref q_a1_ageing, .int v_a1_alive, .int v_a1_reported, .int v_a1_mornings, .int v_a1_years]), (q_a1_weights, cA E 3 v_a1_weights), (q_a1_marks, cA E 18 v_a1_marks), (q_a1_ageing, cA E 6 v_a1_ageing)] (fun w => ∃ (u_people : Int32) (u_alive : Int32) (u_reported : Int32) (u_mornings : Int32) (u_years : Int32) (u_weights : Nat → Int32) (u_marks : Nat → Int32) (u_ageing : Nat → Int32), w = [(q_this, cO 1 [.int u_people, .ref q_weights, .ref q_marks, .ref q_ageing, .int u_alive, .int u_reported, .int u_mornings, .int u_years]), (q_weights, cA E 3 u_weights), (q_marks, cA E 18 u_marks), (q_ageing, cA E 6 u_ageing), (q_a1, cO 1 [.int v_a1_people, .ref q_a1_weights, .ref q_a1_marks, .ref q_a1_ageing, .int v_a1_alive, .int v_a1_reported, .int v_a1_mornings, .int v_a1_years]), (q_a1_weights, cA E 3 v_a1_weights), (q_a1_marks, cA E 18 v_a1_marks), (q_a1_ageing, cA E 6 v_a1_ageing)] ∧ post u_people u_alive u_reported u_mornings u_years u_weights u_marks u_ageing) := by
  refine ConV.of (by decide +kernel) (Nat.le_of_ble_eq_true rfl) (fun Z hZ hI hRet => ?_)
  replace hZ : XOK E Z RX1 cX1_copyFrom 2 { frames := 1, cells := 0, slots := 0, locals := 18 } := hZ
  clear hI
  show XW E Z 0 0 [(q_this, cO 1 [.int v_people, .ref q_weights, .ref q_marks, .ref q_ageing, .int v_alive, .int v_reported, .int v_mornings, .int v_years]), (q_weights, cA E 3 v_weights), (q_marks, cA E 18 v_marks), (q_ageing, cA E 6 v_ageing), (q_a1, cO 1 [.int v_a1_people, .ref q_a1_weights, .ref q_a1_marks, .ref q_a1_ageing, .int v_a1_alive, .int v_a1_reported, .int v_a1_mornings, .int v_a1_years]), (q_a1_weights, cA E 3 v_a1_weights), (q_a1_marks, cA E 18 v_a1_marks), (q_a1_ageing, cA E 6 v_a1_ageing)] [(0, .ref q_this), (1, .ref q_a1)] [] 0
  unfold p_X1_copyFrom at h
  refine x_aload_n (pc' := 1) hZ dX1_copyFrom_0 rfl 0 rfl ?_
  refine x_aload_n (pc' := 2) hZ dX1_copyFrom_1 rfl 1 rfl ?_
  refine g_RX1_11 (pc' := 5) hZ dX1_copyFrom_2 rfl 4 rfl rfl ?_
  refine s_RX1_11 (pc' := 8) (ws' := [(q_this, cO 1 [.int v_a1_people, .ref q_weights, .ref q_marks, .ref q_ageing, .int v_alive, .int v_reported, .int v_mornings, .int v_years]), (q_weights, cA E 3 v_weights), (q_marks, cA E 18 v_marks), (q_ageing, cA E 6 v_ageing), (q_a1, cO 1 [.int v_a1_people, .ref q_a1_weights, .ref q_a1_marks, .ref q_a1_ageing, .int v_a1_alive, .int v_a1_reported, .int v_a1_mornings, .int v_a1_years]), (q_a1_weights, cA E 3 v_a1_weights), (q_a1_marks, cA E 18 v_a1_marks), (q_a1_ageing, cA E 6 v_a1_ageing)]) hZ dX1_copyFrom_5 rfl 0 rfl (Nat.le_of_ble_eq_true rfl) rfl ?_
  refine x_aload_n (pc' := 9) hZ dX1_copyFrom_8 rfl 1 rfl ?_
  refine g_RX1_15 (pc' := 12) hZ dX1_copyFrom_9 rfl 4 rfl rfl ?_
  refine x_iconst (v := 0) (pc' := 13) hZ (by decide) dX1_copyFrom_12 rfl ?_
  refine x_aload_n (pc' := 14) hZ dX1_copyFrom_13 rfl 0 rfl ?_
  refine g_RX1_15 (pc' := 17) hZ dX1_copyFrom_14 rfl 0 rfl rfl ?_
  refine x_iconst (v := 0) (pc' := 18) hZ (by decide) dX1_copyFrom_17 rfl ?_
  refine x_iconst (v := 3) (pc' := 19) hZ (by decide) dX1_copyFrom_18 rfl ?_
  have h19 : ¬ (0 : Int32) < 0 ∧ ¬ (0 : Int32) < 0 ∧ ¬ (3 : Int32) < 0 ∧ ix 0 + ix 3 ≤ 3 ∧ ix 0 + ix 3 ≤ 3 := by decide
  refine x_copy (pc' := 22) (ws' := [(q_this, cO 1 [.int v_a1_people, .ref q_weights, .ref q_marks, .ref q_ageing, .int v_alive, .int v_reported, .int v_mornings, .int v_years]), (q_weights, cA E 3 (va_cpy v_a1_weights v_weights (ix 0) (ix 0) (ix 3))), (q_marks, cA E 18 v_marks), (q_ageing, cA E 6 v_ageing), (q_a1, cO 1 [.int v_a1_people, .ref q_a1_weights, .ref q_a1_marks, .ref q_a1_ageing, .int v_a1_alive, .int v_a1_reported, .int v_a1_mornings, .int v_a1_years]), (q_a1_weights, cA E 3 v_a1_weights), (q_a1_marks, cA E 18 v_a1_marks), (q_a1_ageing, cA E 6 v_a1_ageing)]) hZ kl_RX1_59 h19 dX1_copyFrom_19 rfl 5 1 rfl rfl (Nat.le_of_ble_eq_true rfl) (Nat.le_of_ble_eq_true rfl) rfl ?_
  refine x_aload_n (pc' := 23) hZ dX1_copyFrom_22 rfl 1 rfl ?_
  refine g_RX1_19 (pc' := 26) hZ dX1_copyFrom_23 rfl 4 rfl rfl ?_
  refine x_iconst (v := 0) (pc' := 27) hZ (by decide) dX1_copyFrom_26 rfl ?_
  refine x_aload_n (pc' := 28) hZ dX1_copyFrom_27 rfl 0 rfl ?_
  refine g_RX1_19 (pc' := 31) hZ dX1_copyFrom_28 rfl 0 rfl rfl ?_
  refine x_iconst (v := 0) (pc' := 32) hZ (by decide) dX1_copyFrom_31 rfl ?_
  refine x_bipush (v := 18) (pc' := 34) hZ (by decide) dX1_copyFrom_32 rfl ?_
  have h34 : ¬ (0 : Int32) < 0 ∧ ¬ (0 : Int32) < 0 ∧ ¬ (18 : Int32) < 0 ∧ ix 0 + ix 18 ≤ 18 ∧ ix 0 + ix 18 ≤ 18 := by decide
  refine x_copy (pc' := 37) (ws' := [(q_this, cO 1 [.int v_a1_people, .ref q_weights, .ref q_marks, .ref q_ageing, .int v_alive, .int v_reported, .int v_mornings, .int v_years]), (q_weights, cA E 3 (va_cpy v_a1_weights v_weights (ix 0) (ix 0) (ix 3))), (q_marks, cA E 18 (va_cpy v_a1_marks v_marks (ix 0) (ix 0) (ix 18))), (q_ageing, cA E 6 v_ageing), (q_a1, cO 1 [.int v_a1_people, .ref q_a1_weights, .ref q_a1_marks, .ref q_a1_ageing, .int v_a1_alive, .int v_a1_reported, .int v_a1_mornings, .int v_a1_years]), (q_a1_weights, cA E 3 v_a1_weights), (q_a1_marks, cA E 18 v_a1_marks), (q_a1_ageing, cA E 6 v_a1_ageing)]) hZ kl_RX1_59 h34 dX1_copyFrom_34 rfl 6 2 rfl rfl (Nat.le_of_ble_eq_true rfl) (Nat.le_of_ble_eq_true rfl) rfl ?_
  refine x_aload_n (pc' := 38) hZ dX1_copyFrom_37 rfl 1 rfl ?_
  refine g_RX1_22 (pc' := 41) hZ dX1_copyFrom_38 rfl 4 rfl rfl ?_
  refine x_iconst (v := 0) (pc' := 42) hZ (by decide) dX1_copyFrom_41 rfl ?_
  refine x_aload_n (pc' := 43) hZ dX1_copyFrom_42 rfl 0 rfl ?_
  refine g_RX1_22 (pc' := 46) hZ dX1_copyFrom_43 rfl 0 rfl rfl ?_
  refine x_iconst (v := 0) (pc' := 47) hZ (by decide) dX1_copyFrom_46 rfl ?_
  refine x_bipush (v := 6) (pc' := 49) hZ (by decide) dX1_copyFrom_47 rfl ?_
  have h49 : ¬ (0 : Int32) < 0 ∧ ¬ (0 : Int32) < 0 ∧ ¬ (6 : Int32) < 0 ∧ ix 0 + ix 6 ≤ 6 ∧ ix 0 + ix 6 ≤ 6 := by decide
  refine x_copy (pc' := 52) (ws' := [(q_this, cO 1 [.int v_a1_people, .ref q_weights, .ref q_marks, .ref q_ageing, .int v_alive, .int v_reported, .int v_mornings, .int v_years]), (q_weights, cA E 3 (va_cpy v_a1_weights v_weights (ix 0) (ix 0) (ix 3))), (q_marks, cA E 18 (va_cpy v_a1_marks v_marks (ix 0) (ix 0) (ix 18))), (q_ageing, cA E 6 (va_cpy v_a1_ageing v_ageing (ix 0) (ix 0) (ix 6))), (q_a1, cO 1 [.int v_a1_people, .ref q_a1_weights, .ref q_a1_marks, .ref q_a1_ageing, .int v_a1_alive, .int v_a1_reported, .int v_a1_mornings, .int v_a1_years]), (q_a1_weights, cA E 3 v_a1_weights), (q_a1_marks, cA E 18 v_a1_marks), (q_a1_ageing, cA E 6 v_a1_ageing)]) hZ kl_RX1_59 h49 dX1_copyFrom_49 rfl 7 3 rfl rfl (Nat.le_of_ble_eq_true rfl) (Nat.le_of_ble_eq_true rfl) rfl ?_
  refine x_aload_n (pc' := 53) hZ dX1_copyFrom_52 rfl 0 rfl ?_
  refine x_aload_n (pc' := 54) hZ dX1_copyFrom_53 rfl 1 rfl ?_
  refine g_RX1_25 (pc' := 57) hZ dX1_copyFrom_54 rfl 4 rfl rfl ?_
  refine s_RX1_25 (pc' := 60) (ws' := [(q_this, cO 1 [.int v_a1_people, .ref q_weights, .ref q_marks, .ref q_ageing, .int v_a1_alive, .int v_reported, .int v_mornings, .int v_years]), (q_weights, cA E 3 (va_cpy v_a1_weights v_weights (ix 0) (ix 0) (ix 3))), (q_marks, cA E 18 (va_cpy v_a1_marks v_marks (ix 0) (ix 0) (ix 18))), (q_ageing, cA E 6 (va_cpy v_a1_ageing v_ageing (ix 0) (ix 0) (ix 6))), (q_a1, cO 1 [.int v_a1_people, .ref q_a1_weights, .ref q_a1_marks, .ref q_a1_ageing, .int v_a1_alive, .int v_a1_reported, .int v_a1_mornings, .int v_a1_years]), (q_a1_weights, cA E 3 v_a1_weights), (q_a1_marks, cA E 18 v_a1_marks), (q_a1_ageing, cA E 6 v_a1_ageing)]) hZ dX1_copyFrom_57 rfl 0 rfl (Nat.le_of_ble_eq_true rfl) rfl ?_
  refine x_aload_n (pc' := 61) hZ dX1_copyFrom_60 rfl 0 rfl ?_
  refine x_aload_n (pc' := 62) hZ dX1_copyFrom_61 rfl 1 rfl ?_
  refine g_RX1_28 (pc' := 65) hZ dX1_copyFrom_62 rfl 4 rfl rfl ?_
  refine s_RX1_28 (pc' := 68) (ws' := [(q_this, cO 1 [.int v_a1_people, .ref q_weights, .ref q_marks, .ref q_ageing, .int v_a1_alive, .int v_a1_reported, .int v_mornings, .int v_years]), (q_weights, cA E 3 (va_cpy v_a1_weights v_weights (ix 0) (ix 0) (ix 3))), (q_marks, cA E 18 (va_cpy v_a1_marks v_marks (ix 0) (ix 0) (ix 18))), (q_ageing, cA E 6 (va_cpy v_a1_ageing v_ageing (ix 0) (ix 0) (ix 6))), (q_a1, cO 1 [.int v_a1_people, .ref q_a1_weights, .ref q_a1_marks, .ref q_a1_ageing, .int v_a1_alive, .int v_a1_reported, .int v_a1_mornings, .int v_a1_years]), (q_a1_weights, cA E 3 v_a1_weights), (q_a1_marks, cA E 18 v_a1_marks), (q_a1_ageing, cA E 6 v_a1_ageing)]) hZ dX1_copyFrom_65 rfl 0 rfl (Nat.le_of_ble_eq_true rfl) rfl ?_
  refine x_aload_n (pc' := 69) hZ dX1_copyFrom_68 rfl 0 rfl ?_
  refine x_aload_n (pc' := 70) hZ dX1_copyFrom_69 rfl 1 rfl ?_
  refine g_RX1_31 (pc' := 73) hZ dX1_copyFrom_70 rfl 4 rfl rfl ?_
  refine s_RX1_31 (pc' := 76) (ws' := [(q_this, cO 1 [.int v_a1_people, .ref q_weights, .ref q_marks, .ref q_ageing, .int v_a1_alive, .int v_a1_reported, .int v_a1_mornings, .int v_years]), (q_weights, cA E 3 (va_cpy v_a1_weights v_weights (ix 0) (ix 0) (ix 3))), (q_marks, cA E 18 (va_cpy v_a1_marks v_marks (ix 0) (ix 0) (ix 18))), (q_ageing, cA E 6 (va_cpy v_a1_ageing v_ageing (ix 0) (ix 0) (ix 6))), (q_a1, cO 1 [.int v_a1_people, .ref q_a1_weights, .ref q_a1_marks, .ref q_a1_ageing, .int v_a1_alive, .int v_a1_reported, .int v_a1_mornings, .int v_a1_years]), (q_a1_weights, cA E 3 v_a1_weights), (q_a1_marks, cA E 18 v_a1_marks), (q_a1_ageing, cA E 6 v_a1_ageing)]) hZ dX1_copyFrom_73 rfl 0 rfl (Nat.le_of_ble_eq_true rfl) rfl ?_
  refine x_aload_n (pc' := 77) hZ dX1_copyFrom_76 rfl 0 rfl ?_
  refine x_aload_n (pc' := 78) hZ dX1_copyFrom_77 rfl 1 rfl ?_
  refine g_RX1_34 (pc' := 81) hZ dX1_copyFrom_78 rfl 4 rfl rfl ?_
  refine s_RX1_34 (pc' := 84) (ws' := [(q_this, cO 1 [.int v_a1_people, .ref q_weights, .ref q_marks, .ref q_ageing, .int v_a1_alive, .int v_a1_reported, .int v_a1_mornings, .int v_a1_years]), (q_weights, cA E 3 (va_cpy v_a1_weights v_weights (ix 0) (ix 0) (ix 3))), (q_marks, cA E 18 (va_cpy v_a1_marks v_marks (ix 0) (ix 0) (ix 18))), (q_ageing, cA E 6 (va_cpy v_a1_ageing v_ageing (ix 0) (ix 0) (ix 6))), (q_a1, cO 1 [.int v_a1_people, .ref q_a1_weights, .ref q_a1_marks, .ref q_a1_ageing, .int v_a1_alive, .int v_a1_reported, .int v_a1_mornings, .int v_a1_years]), (q_a1_weights, cA E 3 v_a1_weights), (q_a1_marks, cA E 18 v_a1_marks), (q_a1_ageing, cA E 6 v_a1_ageing)]) hZ dX1_copyFrom_81 rfl 0 rfl (Nat.le_of_ble_eq_true rfl) rfl ?_
  exact hRet _ _ _ dX1_copyFrom_84 ⟨_, _, _, _, _, _, _, _, rfl, h⟩
set_option maxHeartbeats 4000000 in
set_option maxRecDepth 100000 in
theorem t_X1_valueIfPlain_5 (E : XE) (Z : ZC) (q_this : Nat) (q_weights : Nat) (q_marks : Nat) (q_ageing : Nat) (v_people : Int32) (v_alive : Int32) (v_reported : Int32) (v_mornings : Int32) (v_years : Int32) (v_weights : Nat → Int32) (v_marks : Nat → Int32) (l1 : Int32) (l2 : Int32) {K : Int32 → Int32 → Prop} (hZ : XOK E Z RX1 cX1_valueIfPlain 5 { frames := 1, cells := 0, slots := 0, locals := 15 }) : ∀ (k : Nat) (l3 : Int32) (l4 : Int32), wl (fun rec v => b_X1_valueIfPlain_5 l1 l2 v_weights v_marks K rec v.1 v.2) k (l3, l4) → (∀ (l3 : Int32) (l4 : Int32), K l3 l4 → XW E Z 0 0 [(q_this, cO 1 [.int v_people, .ref q_weights, .ref q_marks, .ref q_ageing, .int v_alive, .int v_reported, .int v_mornings, .int v_years]), (q_weights, cA E 3 v_weights), (q_marks, cA E 18 v_marks)] [(3, .int l3)] [] 45) → XW E Z 0 0 [(q_this, cO 1 [.int v_people, .ref q_weights, .ref q_marks, .ref q_ageing, .int v_alive, .int v_reported, .int v_mornings, .int v_years]), (q_weights, cA E 3 v_weights), (q_marks, cA E 18 v_marks)] [(0, .ref q_this), (1, .int l1), (2, .int l2), (3, .int l3), (4, .int l4)] [] 5 := by
  intro k
  induction k with
  | zero =>
    intro l3 l4 h
    exact h.elim
  | succ k ih =>
    intro l3 l4 h hK
    replace h := wl_succ h
    try dsimp only at h
    unfold b_X1_valueIfPlain_5 at h
    refine x_iload (pc' := 7) hZ dX1_valueIfPlain_5 rfl 4 rfl ?_
    refine x_iconst (v := 3) (pc' := 8) hZ (by decide) dX1_valueIfPlain_7 rfl ?_
    refine x_icmp_ge (tgt := 45) (pc' := 11) hZ dX1_valueIfPlain_8 (by decide) rfl (fun c8 => ?_) (fun c8 => ?_)
    · replace h := h.1 c8
      refine x_lv [3] (lv' := [(3, .int l3)]) rfl ?_
      exact hK l3 l4 h
    · replace h := h.2 c8
      refine x_iload_n (pc' := 12) hZ dX1_valueIfPlain_11 rfl 3 rfl ?_
      refine x_aload_n (pc' := 13) hZ dX1_valueIfPlain_12 rfl 0 rfl ?_
      refine g_RX1_15 (pc' := 16) hZ dX1_valueIfPlain_13 rfl 0 rfl rfl ?_
      refine x_iload (pc' := 18) hZ dX1_valueIfPlain_16 rfl 4 rfl ?_
      obtain ⟨h18, h⟩ := h
      refine x_iald (pc' := 19) hZ h18 dX1_valueIfPlain_18 rfl 1 rfl ?_
      refine x_iconst (v := 0) (pc' := 20) hZ (by decide) dX1_valueIfPlain_19 rfl ?_
      refine x_aload_n (pc' := 21) hZ dX1_valueIfPlain_20 rfl 0 rfl ?_
      refine g_RX1_19 (pc' := 24) hZ dX1_valueIfPlain_21 rfl 0 rfl rfl ?_
      refine x_iload_n (pc' := 25) hZ dX1_valueIfPlain_24 rfl 1 rfl ?_
      refine x_iconst (v := 3) (pc' := 26) hZ (by decide) dX1_valueIfPlain_25 rfl ?_
      refine x_imul (pc' := 27) hZ dX1_valueIfPlain_26 rfl ?_
      refine x_iload (pc' := 29) hZ dX1_valueIfPlain_27 rfl 4 rfl ?_
      refine x_iadd (pc' := 30) hZ dX1_valueIfPlain_29 rfl ?_
      obtain ⟨h30, h⟩ := h
      refine x_iald (pc' := 31) hZ h30 dX1_valueIfPlain_30 rfl 2 rfl ?_
      refine x_iload_n (pc' := 32) hZ dX1_valueIfPlain_31 rfl 2 rfl ?_
      refine x_isub (pc' := 33) hZ dX1_valueIfPlain_32 rfl ?_
      refine x_mmax (pc' := 36) hZ kl_RX1_73 dX1_valueIfPlain_33 rfl (Nat.le_of_ble_eq_true rfl) (Nat.le_of_ble_eq_true rfl) (Nat.le_of_ble_eq_true rfl) (Nat.le_of_ble_eq_true rfl) ?_
      refine x_imul (pc' := 37) hZ dX1_valueIfPlain_36 rfl ?_
      refine x_iadd (pc' := 38) hZ dX1_valueIfPlain_37 rfl ?_
      refine x_topi (fun x38 e38 => ?_)
      replace h := h x38 e38
      refine x_istore_n (i := 3) (pc' := 39) (lv' := [(3, .int x38), (0, .ref q_this), (1, .int l1), (2, .int l2), (4, .int l4)]) hZ dX1_valueIfPlain_38 rfl rfl (by decide) rfl ?_
      obtain ⟨x39, e39⟩ : ∃ y : Int32, y = l4 + 1 := ⟨_, rfl⟩
      replace h := h x39 e39
      refine x_iinc (i := 4) (v := x39) (pc' := 42) (lv' := [(4, .int x39), (3, .int x38), (0, .ref q_this), (1, .int l1), (2, .int l2)]) hZ dX1_valueIfPlain_39 rfl 4 rfl (by rw [e39]; rfl) (by decide) rfl ?_
      refine x_goto (pc' := 5) hZ dX1_valueIfPlain_42 (by decide) ?_
      refine x_lv [2, 3, 4, 1, 0] (lv' := [(0, .ref q_this), (1, .int l1), (2, .int l2), (3, .int x38), (4, .int x39)]) rfl ?_
      exact ih x38 x39 h hK
set_option maxHeartbeats 4000000 in
set_option maxRecDepth 100000 in
theorem c_X1_valueIfPlain (E : XE) (q_this : Nat) (q_weights : Nat) (q_marks : Nat) (q_ageing : Nat) (v_people : Int32) (v_alive : Int32) (v_reported : Int32) (v_mornings : Int32) (v_years : Int32) (v_weights : Nat → Int32) (v_marks : Nat → Int32) (l1 : Int32) (l2 : Int32) (post : Int32 → Prop) (h : p_X1_valueIfPlain v_weights v_marks l1 l2 post) : ConI E yX1_valueIfPlain cX1_valueIfPlain 5 .int { frames := 1, cells := 0, slots := 0, locals := 15 } 0 0 [.ref q_this, .int l1, .int l2] [(q_this, cO 1 [.int v_people, .ref q_weights, .ref q_marks, .ref q_ageing, .int v_alive, .int v_reported, .int v_mornings, .int v_years]), (q_weights, cA E 3 v_weights), (q_marks, cA E 18 v_marks)] (fun r w => w = [(q_this, cO 1 [.int v_people, .ref q_weights, .ref q_marks, .ref q_ageing, .int v_alive, .int v_reported, .int v_mornings, .int v_years]), (q_weights, cA E 3 v_weights), (q_marks, cA E 18 v_marks)] ∧ post r ) := by
  refine ConI.of (by decide +kernel) (Nat.le_of_ble_eq_true rfl) (fun Z hZ hI hRet => ?_)
  replace hZ : XOK E Z RX1 cX1_valueIfPlain 5 { frames := 1, cells := 0, slots := 0, locals := 15 } := hZ
  clear hI
  show XW E Z 0 0 [(q_this, cO 1 [.int v_people, .ref q_weights, .ref q_marks, .ref q_ageing, .int v_alive, .int v_reported, .int v_mornings, .int v_years]), (q_weights, cA E 3 v_weights), (q_marks, cA E 18 v_marks)] [(0, .ref q_this), (1, .int l1), (2, .int l2)] [] 0
  unfold p_X1_valueIfPlain at h
  refine x_iconst (v := 0) (pc' := 1) hZ (by decide) dX1_valueIfPlain_0 rfl ?_
  refine x_istore_n (i := 3) (pc' := 2) (lv' := [(3, .int 0), (0, .ref q_this), (1, .int l1), (2, .int l2)]) hZ dX1_valueIfPlain_1 rfl rfl (by decide) rfl ?_
  refine x_iconst (v := 0) (pc' := 3) hZ (by decide) dX1_valueIfPlain_2 rfl ?_
  refine x_istore (i := 4) (pc' := 5) (lv' := [(4, .int 0), (3, .int 0), (0, .ref q_this), (1, .int l1), (2, .int l2)]) hZ dX1_valueIfPlain_3 rfl (by decide) rfl ?_
  refine x_lv [2, 3, 4, 1, 0] (lv' := [(0, .ref q_this), (1, .int l1), (2, .int l2), (3, .int 0), (4, .int 0)]) rfl ?_
  obtain ⟨k5, h⟩ := h
  refine t_X1_valueIfPlain_5 E Z q_this q_weights q_marks q_ageing v_people v_alive v_reported v_mornings v_years v_weights v_marks l1 l2 hZ  _ 0 0 h (fun l3_5 l4_5 h => ?_)
  refine x_iload_n (pc' := 46) hZ dX1_valueIfPlain_45 rfl 0 rfl ?_
  exact hRet _ _ _ _ dX1_valueIfPlain_46 ⟨rfl, h⟩
set_option maxHeartbeats 4000000 in
set_option maxRecDepth 100000 in
theorem c_X1_weighBy (E : XE) (q_this : Nat) (q_weights : Nat) (q_marks : Nat) (q_ageing : Nat) (v_people : Int32) (v_alive : Int32) (v_reported : Int32) (v_mornings : Int32) (v_years : Int32) (v_weights : Nat → Int32) (l1 : Int32) (post : (Nat → Int32) → Prop) (h : p_X1_weighBy v_weights l1 post) : ConV E yX1_weighBy cX1_weighBy 2 { frames := 0, cells := 0, slots := 0, locals := 0 } 0 0 [.ref q_this, .int l1] [(q_this, cO 1 [.int v_people, .ref q_weights, .ref q_marks, .ref q_ageing, .int v_alive, .int v_reported, .int v_mornings, .int v_years]), (q_weights, cA E 3 v_weights)] (fun w => ∃ (u_weights : Nat → Int32), w = [(q_this, cO 1 [.int v_people, .ref q_weights, .ref q_marks, .ref q_ageing, .int v_alive, .int v_reported, .int v_mornings, .int v_years]), (q_weights, cA E 3 u_weights)] ∧ post u_weights) := by
  refine ConV.of (by decide +kernel) (Nat.le_of_ble_eq_true rfl) (fun Z hZ hI hRet => ?_)
  replace hZ : XOK E Z RX1 cX1_weighBy 2 { frames := 0, cells := 0, slots := 0, locals := 0 } := hZ
  clear hI
  show XW E Z 0 0 [(q_this, cO 1 [.int v_people, .ref q_weights, .ref q_marks, .ref q_ageing, .int v_alive, .int v_reported, .int v_mornings, .int v_years]), (q_weights, cA E 3 v_weights)] [(0, .ref q_this), (1, .int l1)] [] 0
  unfold p_X1_weighBy at h
  refine x_aload_n (pc' := 1) hZ dX1_weighBy_0 rfl 0 rfl ?_
  refine g_RX1_15 (pc' := 4) hZ dX1_weighBy_1 rfl 0 rfl rfl ?_
  refine x_iconst (v := 0) (pc' := 5) hZ (by decide) dX1_weighBy_4 rfl ?_
  refine x_iload_n (pc' := 6) hZ dX1_weighBy_5 rfl 1 rfl ?_
  refine x_bipush (v := 100) (pc' := 8) hZ (by decide) dX1_weighBy_6 rfl ?_
  refine x_idiv (pc' := 9) hZ (by decide) dX1_weighBy_8 rfl ?_
  refine x_topi (fun x9 e9 => ?_)
  replace h := h x9 e9
  have h9 : vp_in 0 3 := by unfold vp_in; decide
  refine x_iast (pc' := 10) (ws' := [(q_this, cO 1 [.int v_people, .ref q_weights, .ref q_marks, .ref q_ageing, .int v_alive, .int v_reported, .int v_mornings, .int v_years]), (q_weights, cA E 3 (upd v_weights (ix 0) x9))]) hZ h9 dX1_weighBy_9 rfl 1 rfl rfl ?_
  refine x_aload_n (pc' := 11) hZ dX1_weighBy_10 rfl 0 rfl ?_
  refine g_RX1_15 (pc' := 14) hZ dX1_weighBy_11 rfl 0 rfl rfl ?_
  refine x_iconst (v := 1) (pc' := 15) hZ (by decide) dX1_weighBy_14 rfl ?_
  refine x_iload_n (pc' := 16) hZ dX1_weighBy_15 rfl 1 rfl ?_
  refine x_bipush (v := 10) (pc' := 18) hZ (by decide) dX1_weighBy_16 rfl ?_
  refine x_idiv (pc' := 19) hZ (by decide) dX1_weighBy_18 rfl ?_
  refine x_bipush (v := 10) (pc' := 21) hZ (by decide) dX1_weighBy_19 rfl ?_
  refine x_irem (pc' := 22) hZ (by decide) dX1_weighBy_21 rfl ?_
  refine x_topi (fun x22 e22 => ?_)
  replace h := h x22 e22
  have h22 : vp_in 1 3 := by unfold vp_in; decide
  refine x_iast (pc' := 23) (ws' := [(q_this, cO 1 [.int v_people, .ref q_weights, .ref q_marks, .ref q_ageing, .int v_alive, .int v_reported, .int v_mornings, .int v_years]), (q_weights, cA E 3 (upd (upd v_weights (ix 0) x9) (ix 1) x22))]) hZ h22 dX1_weighBy_22 rfl 1 rfl rfl ?_
  refine x_aload_n (pc' := 24) hZ dX1_weighBy_23 rfl 0 rfl ?_
  refine g_RX1_15 (pc' := 27) hZ dX1_weighBy_24 rfl 0 rfl rfl ?_
  refine x_iconst (v := 2) (pc' := 28) hZ (by decide) dX1_weighBy_27 rfl ?_
  refine x_iload_n (pc' := 29) hZ dX1_weighBy_28 rfl 1 rfl ?_
  refine x_bipush (v := 10) (pc' := 31) hZ (by decide) dX1_weighBy_29 rfl ?_
  refine x_irem (pc' := 32) hZ (by decide) dX1_weighBy_31 rfl ?_
  refine x_topi (fun x32 e32 => ?_)
  replace h := h x32 e32
  have h32 : vp_in 2 3 := by unfold vp_in; decide
  refine x_iast (pc' := 33) (ws' := [(q_this, cO 1 [.int v_people, .ref q_weights, .ref q_marks, .ref q_ageing, .int v_alive, .int v_reported, .int v_mornings, .int v_years]), (q_weights, cA E 3 (upd (upd (upd v_weights (ix 0) x9) (ix 1) x22) (ix 2) x32))]) hZ h32 dX1_weighBy_32 rfl 1 rfl rfl ?_
  exact hRet _ _ _ dX1_weighBy_33 ⟨_, rfl, h⟩
set_option maxHeartbeats 4000000 in
set_option maxRecDepth 100000 in
theorem t_X1_isFairestAlone_8 (E : XE) (Z : ZC) (q_this : Nat) (q_weights : Nat) (q_marks : Nat) (q_ageing : Nat) (v_people : Int32) (v_alive : Int32) (v_reported : Int32) (v_mornings : Int32) (v_years : Int32) (v_weights : Nat → Int32) (v_marks : Nat → Int32) (l1 : Int32) (l2 : Int32) {post : Int32 → Prop} {K : Int32 → Prop} (hZ : XOK E Z RX1 cX1_isFairestAlone 4 { frames := 1, cells := 0, slots := 0, locals := 22 }) (hRet : RetZ E Z cX1_isFairestAlone 0 0 (fun r w => w = [(q_this, cO 1 [.int v_people, .ref q_weights, .ref q_marks, .ref q_ageing, .int v_alive, .int v_reported, .int v_mornings, .int v_years]), (q_weights, cA E 3 v_weights), (q_marks, cA E 18 v_marks)] ∧ post r )) : ∀ (k : Nat) (l3 : Int32), wl (fun rec v => b_X1_isFairestAlone_8 l1 l2 v_people v_alive v_weights v_marks post K rec v) k (l3) → (∀ (l3 : Int32), K l3 → XW E Z 0 0 [(q_this, cO 1 [.int v_people, .ref q_weights, .ref q_marks, .ref q_ageing, .int v_alive, .int v_reported, .int v_mornings, .int v_years]), (q_weights, cA E 3 v_weights), (q_marks, cA E 18 v_marks)] [] [] 46) → XW E Z 0 0 [(q_this, cO 1 [.int v_people, .ref q_weights, .ref q_marks, .ref q_ageing, .int v_alive, .int v_reported, .int v_mornings, .int v_years]), (q_weights, cA E 3 v_weights), (q_marks, cA E 18 v_marks)] [(0, .ref q_this), (1, .int l1), (2, .int l2), (3, .int l3)] [] 8 := by
  intro k
  induction k with
  | zero =>
    intro l3 h
    exact h.elim
  | succ k ih =>
    intro l3 h hK
    replace h := wl_succ h
    try dsimp only at h
    unfold b_X1_isFairestAlone_8 at h
    refine x_iload_n (pc' := 9) hZ dX1_isFairestAlone_8 rfl 3 rfl ?_
    refine x_aload_n (pc' := 10) hZ dX1_isFairestAlone_9 rfl 0 rfl ?_
    refine g_RX1_11 (pc' := 13) hZ dX1_isFairestAlone_10 rfl 0 rfl rfl ?_
    refine x_icmp_ge (tgt := 46) (pc' := 16) hZ dX1_isFairestAlone_13 (by decide) rfl (fun c13 => ?_) (fun c13 => ?_)
    · replace h := h.1 c13
      refine x_lv [] (lv' := []) rfl ?_
      exact hK l3 h
    · replace h := h.2 c13
      refine x_iload_n (pc' := 17) hZ dX1_isFairestAlone_16 rfl 3 rfl ?_
      refine x_iload_n (pc' := 18) hZ dX1_isFairestAlone_17 rfl 1 rfl ?_
      refine x_icmp_eq (tgt := 40) (pc' := 21) hZ dX1_isFairestAlone_18 (by decide) rfl (fun c18 => ?_) (fun c18 => ?_)
      · replace h := h.1 c18
        obtain ⟨x40, e40⟩ : ∃ y : Int32, y = l3 + 1 := ⟨_, rfl⟩
        replace h := h x40 e40
        refine x_iinc (i := 3) (v := x40) (pc' := 43) (lv' := [(3, .int x40), (0, .ref q_this), (1, .int l1), (2, .int l2)]) hZ dX1_isFairestAlone_40 rfl 3 rfl (by rw [e40]; rfl) (by decide) rfl ?_
        refine x_goto (pc' := 8) hZ dX1_isFairestAlone_43 (by decide) ?_
        refine x_lv [1, 2, 3, 0] (lv' := [(0, .ref q_this), (1, .int l1), (2, .int l2), (3, .int x40)]) rfl ?_
        exact ih x40 h hK
      · replace h := h.2 c18
        refine x_aload_n (pc' := 22) hZ dX1_isFairestAlone_21 rfl 0 rfl ?_
        refine x_iload_n (pc' := 23) hZ dX1_isFairestAlone_22 rfl 3 rfl ?_
        refine k_RX1_79 (pc' := 26) (q0 := 0) (as := [.int l3]) (rest := []) (c' := 0) (n' := 0) (wr := [(q_weights, cA E 3 v_weights), (q_marks, cA E 18 v_marks)]) hZ (c_X1_isAlive E q_this q_weights q_marks q_ageing v_people v_alive v_reported v_mornings v_years l3 _ h) rfl dX1_isFairestAlone_23 rfl rfl rfl rfl rfl (Nat.le_of_ble_eq_true rfl) (Nat.le_of_ble_eq_true rfl) (Nat.le_of_ble_eq_true rfl) rfl rfl (Nat.le_of_ble_eq_true rfl) (Nat.le_of_ble_eq_true rfl) [0] [1, 2] rfl rfl (by decide) (by decide) (by decide) (fun r23 w23 hw => ?_)
        obtain ⟨rfl, h⟩ := hw
        refine x_ws (ws' := [(q_this, cO 1 [.int v_people, .ref q_weights, .ref q_marks, .ref q_ageing, .int v_alive, .int v_reported, .int v_mornings, .int v_years]), (q_weights, cA E 3 v_weights), (q_marks, cA E 18 v_marks)]) [2, 0, 1] rfl (by decide) ?_
        refine x_if_eq (tgt := 40) (pc' := 29) hZ dX1_isFairestAlone_26 (by decide) rfl (fun c26 => ?_) (fun c26 => ?_)
        · replace h := h.1 c26
          obtain ⟨x40, e40⟩ : ∃ y : Int32, y = l3 + 1 := ⟨_, rfl⟩
          replace h := h x40 e40
          refine x_iinc (i := 3) (v := x40) (pc' := 43) (lv' := [(3, .int x40), (0, .ref q_this), (1, .int l1), (2, .int l2)]) hZ dX1_isFairestAlone_40 rfl 3 rfl (by rw [e40]; rfl) (by decide) rfl ?_
          refine x_goto (pc' := 8) hZ dX1_isFairestAlone_43 (by decide) ?_
          refine x_lv [1, 2, 3, 0] (lv' := [(0, .ref q_this), (1, .int l1), (2, .int l2), (3, .int x40)]) rfl ?_
          exact ih x40 h hK
        · replace h := h.2 c26
          refine x_aload_n (pc' := 30) hZ dX1_isFairestAlone_29 rfl 0 rfl ?_
          refine x_iload_n (pc' := 31) hZ dX1_isFairestAlone_30 rfl 3 rfl ?_
          refine k_RX1_76 (pc' := 34) (q0 := 0) (as := [.int l3]) (rest := []) (c' := 0) (n' := 0) (wr := []) hZ (c_X1_valueOf E q_this q_weights q_marks q_ageing v_people v_alive v_reported v_mornings v_years v_weights v_marks l3 _ h) rfl dX1_isFairestAlone_31 rfl rfl rfl rfl rfl (Nat.le_of_ble_eq_true rfl) (Nat.le_of_ble_eq_true rfl) (Nat.le_of_ble_eq_true rfl) rfl rfl (Nat.le_of_ble_eq_true rfl) (Nat.le_of_ble_eq_true rfl) [0, 1, 2] [] rfl rfl (by decide) (by decide) (by decide) (fun r31 w31 hw => ?_)
          obtain ⟨rfl, h⟩ := hw
          refine x_ws (ws' := [(q_this, cO 1 [.int v_people, .ref q_weights, .ref q_marks, .ref q_ageing, .int v_alive, .int v_reported, .int v_mornings, .int v_years]), (q_weights, cA E 3 v_weights), (q_marks, cA E 18 v_marks)]) [0, 1, 2] rfl (by decide) ?_
          refine x_iload_n (pc' := 35) hZ dX1_isFairestAlone_34 rfl 2 rfl ?_
          refine x_icmp_lt (tgt := 40) (pc' := 38) hZ dX1_isFairestAlone_35 (by decide) rfl (fun c35 => ?_) (fun c35 => ?_)
          · replace h := h.1 c35
            obtain ⟨x40, e40⟩ : ∃ y : Int32, y = l3 + 1 := ⟨_, rfl⟩
            replace h := h x40 e40
            refine x_iinc (i := 3) (v := x40) (pc' := 43) (lv' := [(3, .int x40), (0, .ref q_this), (1, .int l1), (2, .int l2)]) hZ dX1_isFairestAlone_40 rfl 3 rfl (by rw [e40]; rfl) (by decide) rfl ?_
            refine x_goto (pc' := 8) hZ dX1_isFairestAlone_43 (by decide) ?_
            refine x_lv [1, 2, 3, 0] (lv' := [(0, .ref q_this), (1, .int l1), (2, .int l2), (3, .int x40)]) rfl ?_
            exact ih x40 h hK
          · replace h := h.2 c35
            refine x_iconst (v := 0) (pc' := 39) hZ (by decide) dX1_isFairestAlone_38 rfl ?_
            exact hRet _ _ _ _ dX1_isFairestAlone_39 (by decide) ⟨rfl, h⟩
set_option maxHeartbeats 4000000 in
set_option maxRecDepth 100000 in
theorem c_X1_isFairestAlone (E : XE) (q_this : Nat) (q_weights : Nat) (q_marks : Nat) (q_ageing : Nat) (v_people : Int32) (v_alive : Int32) (v_reported : Int32) (v_mornings : Int32) (v_years : Int32) (v_weights : Nat → Int32) (v_marks : Nat → Int32) (l1 : Int32) (post : Int32 → Prop) (h : p_X1_isFairestAlone v_people v_alive v_weights v_marks l1 post) : ConI E yX1_isFairestAlone cX1_isFairestAlone 4 .boolean { frames := 1, cells := 0, slots := 0, locals := 22 } 0 0 [.ref q_this, .int l1] [(q_this, cO 1 [.int v_people, .ref q_weights, .ref q_marks, .ref q_ageing, .int v_alive, .int v_reported, .int v_mornings, .int v_years]), (q_weights, cA E 3 v_weights), (q_marks, cA E 18 v_marks)] (fun r w => w = [(q_this, cO 1 [.int v_people, .ref q_weights, .ref q_marks, .ref q_ageing, .int v_alive, .int v_reported, .int v_mornings, .int v_years]), (q_weights, cA E 3 v_weights), (q_marks, cA E 18 v_marks)] ∧ post r ) := by
  refine ConIz.of (by decide +kernel) (Nat.le_of_ble_eq_true rfl) (fun Z hZ hI hRet => ?_)
  replace hZ : XOK E Z RX1 cX1_isFairestAlone 4 { frames := 1, cells := 0, slots := 0, locals := 22 } := hZ
  clear hI
  show XW E Z 0 0 [(q_this, cO 1 [.int v_people, .ref q_weights, .ref q_marks, .ref q_ageing, .int v_alive, .int v_reported, .int v_mornings, .int v_years]), (q_weights, cA E 3 v_weights), (q_marks, cA E 18 v_marks)] [(0, .ref q_this), (1, .int l1)] [] 0
  unfold p_X1_isFairestAlone at h
  refine x_aload_n (pc' := 1) hZ dX1_isFairestAlone_0 rfl 0 rfl ?_
  refine x_iload_n (pc' := 2) hZ dX1_isFairestAlone_1 rfl 1 rfl ?_
  refine k_RX1_76 (pc' := 5) (q0 := 0) (as := [.int l1]) (rest := []) (c' := 0) (n' := 0) (wr := []) hZ (c_X1_valueOf E q_this q_weights q_marks q_ageing v_people v_alive v_reported v_mornings v_years v_weights v_marks l1 _ h) rfl dX1_isFairestAlone_2 rfl rfl rfl rfl rfl (Nat.le_of_ble_eq_true rfl) (Nat.le_of_ble_eq_true rfl) (Nat.le_of_ble_eq_true rfl) rfl rfl (Nat.le_of_ble_eq_true rfl) (Nat.le_of_ble_eq_true rfl) [0, 1, 2] [] rfl rfl (by decide) (by decide) (by decide) (fun r2 w2 hw => ?_)
  obtain ⟨rfl, h⟩ := hw
  refine x_ws (ws' := [(q_this, cO 1 [.int v_people, .ref q_weights, .ref q_marks, .ref q_ageing, .int v_alive, .int v_reported, .int v_mornings, .int v_years]), (q_weights, cA E 3 v_weights), (q_marks, cA E 18 v_marks)]) [0, 1, 2] rfl (by decide) ?_
  refine x_istore_n (i := 2) (pc' := 6) (lv' := [(2, .int r2), (0, .ref q_this), (1, .int l1)]) hZ dX1_isFairestAlone_5 rfl rfl (by decide) rfl ?_
  refine x_iconst (v := 0) (pc' := 7) hZ (by decide) dX1_isFairestAlone_6 rfl ?_
  refine x_istore_n (i := 3) (pc' := 8) (lv' := [(3, .int 0), (2, .int r2), (0, .ref q_this), (1, .int l1)]) hZ dX1_isFairestAlone_7 rfl rfl (by decide) rfl ?_
  refine x_lv [2, 3, 1, 0] (lv' := [(0, .ref q_this), (1, .int l1), (2, .int r2), (3, .int 0)]) rfl ?_
  obtain ⟨k8, h⟩ := h
  refine t_X1_isFairestAlone_8 E Z q_this q_weights q_marks q_ageing v_people v_alive v_reported v_mornings v_years v_weights v_marks l1 r2 hZ hRet _ 0 h (fun l3_8 h => ?_)
  refine x_iconst (v := 1) (pc' := 47) hZ (by decide) dX1_isFairestAlone_46 rfl ?_
  exact hRet _ _ _ _ dX1_isFairestAlone_47 (by decide) ⟨rfl, h⟩
set_option maxHeartbeats 4000000 in
set_option maxRecDepth 100000 in
theorem t_X1_weightsApartFrom_4 (E : XE) (Z : ZC) (q_this : Nat) (q_weights : Nat) (q_marks : Nat) (q_ageing : Nat) (q_a1 : Nat) (q_a1_weights : Nat) (q_a1_marks : Nat) (q_a1_ageing : Nat) (v_people : Int32) (v_alive : Int32) (v_reported : Int32) (v_mornings : Int32) (v_years : Int32) (v_weights : Nat → Int32) (v_a1_people : Int32) (v_a1_alive : Int32) (v_a1_reported : Int32) (v_a1_mornings : Int32) (v_a1_years : Int32) (v_a1_weights : Nat → Int32) {K : Int32 → Int32 → Prop} (hZ : XOK E Z RX1 cX1_weightsApartFrom 4 { frames := 1, cells := 0, slots := 0, locals := 14 }) : ∀ (k : Nat) (l2 : Int32) (l3 : Int32), wl (fun rec v => b_X1_weightsApartFrom_4 v_weights v_a1_weights K rec v.1 v.2) k (l2, l3) → (∀ (l2 : Int32) (l3 : Int32), K l2 l3 → XW E Z 0 0 [(q_this, cO 1 [.int v_people, .ref q_weights, .ref q_marks, .ref q_ageing, .int v_alive, .int v_reported, .int v_mornings, .int v_years]), (q_weights, cA E 3 v_weights), (q_a1, cO 1 [.int v_a1_people, .ref q_a1_weights, .ref q_a1_marks, .ref q_a1_ageing, .int v_a1_alive, .int v_a1_reported, .int v_a1_mornings, .int v_a1_years]), (q_a1_weights, cA E 3 v_a1_weights)] [(2, .int l2)] [] 34) → XW E Z 0 0 [(q_this, cO 1 [.int v_people, .ref q_weights, .ref q_marks, .ref q_ageing, .int v_alive, .int v_reported, .int v_mornings, .int v_years]), (q_weights, cA E 3 v_weights), (q_a1, cO 1 [.int v_a1_people, .ref q_a1_weights, .ref q_a1_marks, .ref q_a1_ageing, .int v_a1_alive, .int v_a1_reported, .int v_a1_mornings, .int v_a1_years]), (q_a1_weights, cA E 3 v_a1_weights)] [(0, .ref q_this), (1, .ref q_a1), (2, .int l2), (3, .int l3)] [] 4 := by
  intro k
  induction k with
  | zero =>
    intro l2 l3 h
    exact h.elim
  | succ k ih =>
    intro l2 l3 h hK
    replace h := wl_succ h
    try dsimp only at h
    unfold b_X1_weightsApartFrom_4 at h
    refine x_iload_n (pc' := 5) hZ dX1_weightsApartFrom_4 rfl 3 rfl ?_
    refine x_iconst (v := 3) (pc' := 6) hZ (by decide) dX1_weightsApartFrom_5 rfl ?_
    refine x_icmp_ge (tgt := 34) (pc' := 9) hZ dX1_weightsApartFrom_6 (by decide) rfl (fun c6 => ?_) (fun c6 => ?_)
    · replace h := h.1 c6
      refine x_lv [2] (lv' := [(2, .int l2)]) rfl ?_
      exact hK l2 l3 h
    · replace h := h.2 c6
      refine x_iload_n (pc' := 10) hZ dX1_weightsApartFrom_9 rfl 2 rfl ?_
      refine x_aload_n (pc' := 11) hZ dX1_weightsApartFrom_10 rfl 0 rfl ?_
      refine g_RX1_15 (pc' := 14) hZ dX1_weightsApartFrom_11 rfl 0 rfl rfl ?_
      refine x_iload_n (pc' := 15) hZ dX1_weightsApartFrom_14 rfl 3 rfl ?_
      obtain ⟨h15, h⟩ := h
      refine x_iald (pc' := 16) hZ h15 dX1_weightsApartFrom_15 rfl 1 rfl ?_
      refine x_aload_n (pc' := 17) hZ dX1_weightsApartFrom_16 rfl 1 rfl ?_
      refine g_RX1_15 (pc' := 20) hZ dX1_weightsApartFrom_17 rfl 2 rfl rfl ?_
      refine x_iload_n (pc' := 21) hZ dX1_weightsApartFrom_20 rfl 3 rfl ?_
      obtain ⟨h21, h⟩ := h
      refine x_iald (pc' := 22) hZ h21 dX1_weightsApartFrom_21 rfl 3 rfl ?_
      refine x_isub (pc' := 23) hZ dX1_weightsApartFrom_22 rfl ?_
      refine x_mabs (pc' := 26) hZ kl_RX1_70 dX1_weightsApartFrom_23 rfl (Nat.le_of_ble_eq_true rfl) (Nat.le_of_ble_eq_true rfl) (Nat.le_of_ble_eq_true rfl) (Nat.le_of_ble_eq_true rfl) ?_
      refine x_iadd (pc' := 27) hZ dX1_weightsApartFrom_26 rfl ?_
      refine x_topi (fun x27 e27 => ?_)
      replace h := h x27 e27
      refine x_istore_n (i := 2) (pc' := 28) (lv' := [(2, .int x27), (0, .ref q_this), (1, .ref q_a1), (3, .int l3)]) hZ dX1_weightsApartFrom_27 rfl rfl (by decide) rfl ?_
      obtain ⟨x28, e28⟩ : ∃ y : Int32, y = l3 + 1 := ⟨_, rfl⟩
      replace h := h x28 e28
      refine x_iinc (i := 3) (v := x28) (pc' := 31) (lv' := [(3, .int x28), (2, .int x27), (0, .ref q_this), (1, .ref q_a1)]) hZ dX1_weightsApartFrom_28 rfl 3 rfl (by rw [e28]; rfl) (by decide) rfl ?_
      refine x_goto (pc' := 4) hZ dX1_weightsApartFrom_31 (by decide) ?_
      refine x_lv [2, 3, 1, 0] (lv' := [(0, .ref q_this), (1, .ref q_a1), (2, .int x27), (3, .int x28)]) rfl ?_
      exact ih x27 x28 h hK
set_option maxHeartbeats 4000000 in
set_option maxRecDepth 100000 in
theorem c_X1_weightsApartFrom (E : XE) (q_this : Nat) (q_weights : Nat) (q_marks : Nat) (q_ageing : Nat) (q_a1 : Nat) (q_a1_weights : Nat) (q_a1_marks : Nat) (q_a1_ageing : Nat) (v_people : Int32) (v_alive : Int32) (v_reported : Int32) (v_mornings : Int32) (v_years : Int32) (v_weights : Nat → Int32) (v_a1_people : Int32) (v_a1_alive : Int32) (v_a1_reported : Int32) (v_a1_mornings : Int32) (v_a1_years : Int32) (v_a1_weights : Nat → Int32) (post : Int32 → Prop) (h : p_X1_weightsApartFrom v_weights v_a1_weights post) : ConI E yX1_weightsApartFrom cX1_weightsApartFrom 4 .int { frames := 1, cells := 0, slots := 0, locals := 14 } 0 0 [.ref q_this, .ref q_a1] [(q_this, cO 1 [.int v_people, .ref q_weights, .ref q_marks, .ref q_ageing, .int v_alive, .int v_reported, .int v_mornings, .int v_years]), (q_weights, cA E 3 v_weights), (q_a1, cO 1 [.int v_a1_people, .ref q_a1_weights, .ref q_a1_marks, .ref q_a1_ageing, .int v_a1_alive, .int v_a1_reported, .int v_a1_mornings, .int v_a1_years]), (q_a1_weights, cA E 3 v_a1_weights)] (fun r w => w = [(q_this, cO 1 [.int v_people, .ref q_weights, .ref q_marks, .ref q_ageing, .int v_alive, .int v_reported, .int v_mornings, .int v_years]), (q_weights, cA E 3 v_weights), (q_a1, cO 1 [.int v_a1_people, .ref q_a1_weights, .ref q_a1_marks, .ref q_a1_ageing, .int v_a1_alive, .int v_a1_reported, .int v_a1_mornings, .int v_a1_years]), (q_a1_weights, cA E 3 v_a1_weights)] ∧ post r ) := by
  refine ConI.of (by decide +kernel) (Nat.le_of_ble_eq_true rfl) (fun Z hZ hI hRet => ?_)
  replace hZ : XOK E Z RX1 cX1_weightsApartFrom 4 { frames := 1, cells := 0, slots := 0, locals := 14 } := hZ
  clear hI
  show XW E Z 0 0 [(q_this, cO 1 [.int v_people, .ref q_weights, .ref q_marks, .ref q_ageing, .int v_alive, .int v_reported, .int v_mornings, .int v_years]), (q_weights, cA E 3 v_weights), (q_a1, cO 1 [.int v_a1_people, .ref q_a1_weights, .ref q_a1_marks, .ref q_a1_ageing, .int v_a1_alive, .int v_a1_reported, .int v_a1_mornings, .int v_a1_years]), (q_a1_weights, cA E 3 v_a1_weights)] [(0, .ref q_this), (1, .ref q_a1)] [] 0
  unfold p_X1_weightsApartFrom at h
  refine x_iconst (v := 0) (pc' := 1) hZ (by decide) dX1_weightsApartFrom_0 rfl ?_
  refine x_istore_n (i := 2) (pc' := 2) (lv' := [(2, .int 0), (0, .ref q_this), (1, .ref q_a1)]) hZ dX1_weightsApartFrom_1 rfl rfl (by decide) rfl ?_
  refine x_iconst (v := 0) (pc' := 3) hZ (by decide) dX1_weightsApartFrom_2 rfl ?_
  refine x_istore_n (i := 3) (pc' := 4) (lv' := [(3, .int 0), (2, .int 0), (0, .ref q_this), (1, .ref q_a1)]) hZ dX1_weightsApartFrom_3 rfl rfl (by decide) rfl ?_
  refine x_lv [2, 3, 1, 0] (lv' := [(0, .ref q_this), (1, .ref q_a1), (2, .int 0), (3, .int 0)]) rfl ?_
  obtain ⟨k4, h⟩ := h
  refine t_X1_weightsApartFrom_4 E Z q_this q_weights q_marks q_ageing q_a1 q_a1_weights q_a1_marks q_a1_ageing v_people v_alive v_reported v_mornings v_years v_weights v_a1_people v_a1_alive v_a1_reported v_a1_mornings v_a1_years v_a1_weights hZ  _ 0 0 h (fun l2_4 l3_4 h => ?_)
  refine x_iload_n (pc' := 35) hZ dX1_weightsApartFrom_34 rfl 0 rfl ?_
  exact hRet _ _ _ _ dX1_weightsApartFrom_35 ⟨rfl, h⟩
