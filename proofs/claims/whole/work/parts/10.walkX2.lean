/-! walks, laid by program -/
set_option maxHeartbeats 4000000 in
set_option maxRecDepth 100000 in
theorem c_X2_init (E : XE) (q_this : Nat) (post : Int32 → (Nat → Int32) → Prop) (h : p_X2_init  post) : ConV E yX2_init cX2_init 1 { frames := 1, cells := 1, slots := 40, locals := 12 } 1 40 [.ref q_this] [(q_this, cO 2 [.null, .int 0])] (fun w => ∃ (q_bytes : Nat) (v_length : Int32) (v_bytes : Nat → Int32), w = [(q_this, cO 2 [.ref q_bytes, .int v_length]), (q_bytes, cA E 40 v_bytes)] ∧ post v_length v_bytes) := by
  refine ConV.of (by decide +kernel) (Nat.le_of_ble_eq_true rfl) (fun Z hZ hI hRet => ?_)
  replace hZ : XOK E Z RX2 cX2_init 1 { frames := 1, cells := 1, slots := 40, locals := 12 } := hZ
  replace hI : XNm Z "<init>" := hI
  show XW E Z 0 0 [(q_this, cO 2 [.null, .int 0])] [(0, .ref q_this)] [] 0
  unfold p_X2_init at h
  refine x_aload_n (pc' := 1) hZ dX2_init_0 rfl 0 rfl ?_
  refine x_objInit (pc' := 4) hZ kl_RX2_5 dX2_init_1 rfl (Nat.le_of_ble_eq_true rfl) (Nat.le_of_ble_eq_true rfl) ?_
  refine x_aload_n (pc' := 5) hZ dX2_init_4 rfl 0 rfl ?_
  refine x_bipush (v := 40) (pc' := 7) hZ (by decide) dX2_init_5 rfl ?_
  refine x_newi (pc' := 9) (z := 40) (c' := 1) (n' := 40) hZ kA_int dX2_init_7 rfl (by decide) (by decide) (Nat.le_of_ble_eq_true rfl) rfl rfl (Nat.le_of_ble_eq_true rfl) (Nat.le_of_ble_eq_true rfl) (fun q7 => ?_)
  refine x_ws (ws' := [(q_this, cO 2 [.null, .int 0]), (q7, cA E 40 (fun _ => 0))]) [0, 1] rfl (by decide) ?_
  refine s_RX2_11 (pc' := 12) (ws' := [(q_this, cO 2 [.ref q7, .int 0]), (q7, cA E 40 (fun _ => 0))]) hZ hI dX2_init_9 rfl 0 rfl (Nat.le_of_ble_eq_true rfl) rfl ?_
  refine x_aload_n (pc' := 13) hZ dX2_init_12 rfl 0 rfl ?_
  refine x_iconst (v := 0) (pc' := 14) hZ (by decide) dX2_init_13 rfl ?_
  refine s_RX2_15 (pc' := 17) (ws' := [(q_this, cO 2 [.ref q7, .int 0]), (q7, cA E 40 (fun _ => 0))]) hZ dX2_init_14 rfl 0 rfl (Nat.le_of_ble_eq_true rfl) rfl ?_
  exact hRet _ _ _ dX2_init_17 ⟨_, _, _, rfl, h⟩
set_option maxHeartbeats 4000000 in
set_option maxRecDepth 100000 in
theorem c_X2_append (E : XE) (q_this : Nat) (q_bytes : Nat) (v_length : Int32) (v_bytes : Nat → Int32) (l1 : Int32) (post : Int32 → (Nat → Int32) → Prop) (h : p_X2_append v_length v_bytes l1 post) : ConV E yX2_append cX2_append 2 { frames := 0, cells := 0, slots := 0, locals := 0 } 0 0 [.ref q_this, .int l1] [(q_this, cO 2 [.ref q_bytes, .int v_length]), (q_bytes, cA E 40 v_bytes)] (fun w => ∃ (u_length : Int32) (u_bytes : Nat → Int32), w = [(q_this, cO 2 [.ref q_bytes, .int u_length]), (q_bytes, cA E 40 u_bytes)] ∧ post u_length u_bytes) := by
  refine ConV.of (by decide +kernel) (Nat.le_of_ble_eq_true rfl) (fun Z hZ hI hRet => ?_)
  replace hZ : XOK E Z RX2 cX2_append 2 { frames := 0, cells := 0, slots := 0, locals := 0 } := hZ
  clear hI
  show XW E Z 0 0 [(q_this, cO 2 [.ref q_bytes, .int v_length]), (q_bytes, cA E 40 v_bytes)] [(0, .ref q_this), (1, .int l1)] [] 0
  unfold p_X2_append at h
  refine x_aload_n (pc' := 1) hZ dX2_append_0 rfl 0 rfl ?_
  refine g_RX2_15 (pc' := 4) hZ dX2_append_1 rfl 0 rfl rfl ?_
  refine x_bipush (v := 40) (pc' := 6) hZ (by decide) dX2_append_4 rfl ?_
  refine x_icmp_ge (tgt := 29) (pc' := 9) hZ dX2_append_6 (by decide) rfl (fun c6 => ?_) (fun c6 => ?_)
  · replace h := h.1 c6
    exact hRet _ _ _ dX2_append_29 ⟨_, _, rfl, h⟩
  · replace h := h.2 c6
    refine x_aload_n (pc' := 10) hZ dX2_append_9 rfl 0 rfl ?_
    refine g_RX2_11 (pc' := 13) hZ dX2_append_10 rfl 0 rfl rfl ?_
    refine x_aload_n (pc' := 14) hZ dX2_append_13 rfl 0 rfl ?_
    refine g_RX2_15 (pc' := 17) hZ dX2_append_14 rfl 0 rfl rfl ?_
    refine x_iload_n (pc' := 18) hZ dX2_append_17 rfl 1 rfl ?_
    obtain ⟨h18, h⟩ := h
    refine x_iast (pc' := 19) (ws' := [(q_this, cO 2 [.ref q_bytes, .int v_length]), (q_bytes, cA E 40 (upd v_bytes (ix v_length) l1))]) hZ h18 dX2_append_18 rfl 1 rfl rfl ?_
    refine x_aload_n (pc' := 20) hZ dX2_append_19 rfl 0 rfl ?_
    refine x_dup (pc' := 21) hZ dX2_append_20 rfl rfl ?_
    refine g_RX2_15 (pc' := 24) hZ dX2_append_21 rfl 0 rfl rfl ?_
    refine x_iconst (v := 1) (pc' := 25) hZ (by decide) dX2_append_24 rfl ?_
    refine x_iadd (pc' := 26) hZ dX2_append_25 rfl ?_
    refine x_topi (fun x26 e26 => ?_)
    replace h := h x26 e26
    refine s_RX2_15 (pc' := 29) (ws' := [(q_this, cO 2 [.ref q_bytes, .int x26]), (q_bytes, cA E 40 (upd v_bytes (ix v_length) l1))]) hZ dX2_append_26 rfl 0 rfl (Nat.le_of_ble_eq_true rfl) rfl ?_
    exact hRet _ _ _ dX2_append_29 ⟨_, _, rfl, h⟩
set_option maxHeartbeats 4000000 in
set_option maxRecDepth 100000 in
theorem c_X2_weight (E : XE) (q_this : Nat) (q_bytes : Nat) (v_length : Int32) (v_bytes : Nat → Int32) (l1 : Int32) (post : Int32 → Prop) (h : p_X2_weight v_bytes l1 post) : ConI E yX2_weight cX2_weight 2 .int { frames := 0, cells := 0, slots := 0, locals := 0 } 0 0 [.ref q_this, .int l1] [(q_this, cO 2 [.ref q_bytes, .int v_length]), (q_bytes, cA E 40 v_bytes)] (fun r w => w = [(q_this, cO 2 [.ref q_bytes, .int v_length]), (q_bytes, cA E 40 v_bytes)] ∧ post r ) := by
  refine ConI.of (by decide +kernel) (Nat.le_of_ble_eq_true rfl) (fun Z hZ hI hRet => ?_)
  replace hZ : XOK E Z RX2 cX2_weight 2 { frames := 0, cells := 0, slots := 0, locals := 0 } := hZ
  clear hI
  show XW E Z 0 0 [(q_this, cO 2 [.ref q_bytes, .int v_length]), (q_bytes, cA E 40 v_bytes)] [(0, .ref q_this), (1, .int l1)] [] 0
  unfold p_X2_weight at h
  refine x_aload_n (pc' := 1) hZ dX2_weight_0 rfl 0 rfl ?_
  refine g_RX2_11 (pc' := 4) hZ dX2_weight_1 rfl 0 rfl rfl ?_
  refine x_iconst (v := 1) (pc' := 5) hZ (by decide) dX2_weight_4 rfl ?_
  refine x_iload_n (pc' := 6) hZ dX2_weight_5 rfl 1 rfl ?_
  refine x_iadd (pc' := 7) hZ dX2_weight_6 rfl ?_
  obtain ⟨h7, h⟩ := h
  refine x_iald (pc' := 8) hZ h7 dX2_weight_7 rfl 1 rfl ?_
  refine x_bipush (v := 48) (pc' := 10) hZ (by decide) dX2_weight_8 rfl ?_
  refine x_isub (pc' := 11) hZ dX2_weight_10 rfl ?_
  exact hRet _ _ _ _ dX2_weight_11 ⟨rfl, h⟩
set_option maxHeartbeats 4000000 in
set_option maxRecDepth 100000 in
theorem t_X2_areWeightsNothing_2 (E : XE) (Z : ZC) (q_this : Nat) (q_bytes : Nat) (v_length : Int32) (v_bytes : Nat → Int32) {post : Int32 → Prop} {K : Int32 → Prop} (hZ : XOK E Z RX2 cX2_areWeightsNothing 2 { frames := 1, cells := 0, slots := 0, locals := 21 }) (hRet : RetZ E Z cX2_areWeightsNothing 0 0 (fun r w => w = [(q_this, cO 2 [.ref q_bytes, .int v_length]), (q_bytes, cA E 40 v_bytes)] ∧ post r )) : ∀ (k : Nat) (l1 : Int32), wl (fun rec v => b_X2_areWeightsNothing_2 v_bytes post K rec v) k (l1) → (∀ (l1 : Int32), K l1 → XW E Z 0 0 [(q_this, cO 2 [.ref q_bytes, .int v_length]), (q_bytes, cA E 40 v_bytes)] [] [] 23) → XW E Z 0 0 [(q_this, cO 2 [.ref q_bytes, .int v_length]), (q_bytes, cA E 40 v_bytes)] [(0, .ref q_this), (1, .int l1)] [] 2 := by
  intro k
  induction k with
  | zero =>
    intro l1 h
    exact h.elim
  | succ k ih =>
    intro l1 h hK
    replace h := wl_succ h
    try dsimp only at h
    unfold b_X2_areWeightsNothing_2 at h
    refine x_iload_n (pc' := 3) hZ dX2_areWeightsNothing_2 rfl 1 rfl ?_
    refine x_iconst (v := 3) (pc' := 4) hZ (by decide) dX2_areWeightsNothing_3 rfl ?_
    refine x_icmp_ge (tgt := 23) (pc' := 7) hZ dX2_areWeightsNothing_4 (by decide) rfl (fun c4 => ?_) (fun c4 => ?_)
    · replace h := h.1 c4
      refine x_lv [] (lv' := []) rfl ?_
      exact hK l1 h
    · replace h := h.2 c4
      refine x_aload_n (pc' := 8) hZ dX2_areWeightsNothing_7 rfl 0 rfl ?_
      refine x_iload_n (pc' := 9) hZ dX2_areWeightsNothing_8 rfl 1 rfl ?_
      refine k_RX2_27 (pc' := 12) (q0 := 0) (as := [.int l1]) (rest := []) (c' := 0) (n' := 0) (wr := []) hZ (c_X2_weight E q_this q_bytes v_length v_bytes l1 _ h) rfl dX2_areWeightsNothing_9 rfl rfl rfl rfl rfl (Nat.le_of_ble_eq_true rfl) (Nat.le_of_ble_eq_true rfl) (Nat.le_of_ble_eq_true rfl) rfl rfl (Nat.le_of_ble_eq_true rfl) (Nat.le_of_ble_eq_true rfl) [0, 1] [] rfl rfl (by decide) (by decide) (by decide) (fun r9 w9 hw => ?_)
      obtain ⟨rfl, h⟩ := hw
      refine x_ws (ws' := [(q_this, cO 2 [.ref q_bytes, .int v_length]), (q_bytes, cA E 40 v_bytes)]) [0, 1] rfl (by decide) ?_
      refine x_if_eq (tgt := 17) (pc' := 15) hZ dX2_areWeightsNothing_12 (by decide) rfl (fun c12 => ?_) (fun c12 => ?_)
      · replace h := h.1 c12
        obtain ⟨x17, e17⟩ : ∃ y : Int32, y = l1 + 1 := ⟨_, rfl⟩
        replace h := h x17 e17
        refine x_iinc (i := 1) (v := x17) (pc' := 20) (lv' := [(1, .int x17), (0, .ref q_this)]) hZ dX2_areWeightsNothing_17 rfl 1 rfl (by rw [e17]; rfl) (by decide) rfl ?_
        refine x_goto (pc' := 2) hZ dX2_areWeightsNothing_20 (by decide) ?_
        refine x_lv [1, 0] (lv' := [(0, .ref q_this), (1, .int x17)]) rfl ?_
        exact ih x17 h hK
      · replace h := h.2 c12
        refine x_iconst (v := 0) (pc' := 16) hZ (by decide) dX2_areWeightsNothing_15 rfl ?_
        exact hRet _ _ _ _ dX2_areWeightsNothing_16 (by decide) ⟨rfl, h⟩
set_option maxHeartbeats 4000000 in
set_option maxRecDepth 100000 in
theorem c_X2_areWeightsNothing (E : XE) (q_this : Nat) (q_bytes : Nat) (v_length : Int32) (v_bytes : Nat → Int32) (post : Int32 → Prop) (h : p_X2_areWeightsNothing v_bytes post) : ConI E yX2_areWeightsNothing cX2_areWeightsNothing 2 .boolean { frames := 1, cells := 0, slots := 0, locals := 21 } 0 0 [.ref q_this] [(q_this, cO 2 [.ref q_bytes, .int v_length]), (q_bytes, cA E 40 v_bytes)] (fun r w => w = [(q_this, cO 2 [.ref q_bytes, .int v_length]), (q_bytes, cA E 40 v_bytes)] ∧ post r ) := by
  refine ConIz.of (by decide +kernel) (Nat.le_of_ble_eq_true rfl) (fun Z hZ hI hRet => ?_)
  replace hZ : XOK E Z RX2 cX2_areWeightsNothing 2 { frames := 1, cells := 0, slots := 0, locals := 21 } := hZ
  clear hI
  show XW E Z 0 0 [(q_this, cO 2 [.ref q_bytes, .int v_length]), (q_bytes, cA E 40 v_bytes)] [(0, .ref q_this)] [] 0
  unfold p_X2_areWeightsNothing at h
  refine x_iconst (v := 0) (pc' := 1) hZ (by decide) dX2_areWeightsNothing_0 rfl ?_
  refine x_istore_n (i := 1) (pc' := 2) (lv' := [(1, .int 0), (0, .ref q_this)]) hZ dX2_areWeightsNothing_1 rfl rfl (by decide) rfl ?_
  refine x_lv [1, 0] (lv' := [(0, .ref q_this), (1, .int 0)]) rfl ?_
  obtain ⟨k2, h⟩ := h
  refine t_X2_areWeightsNothing_2 E Z q_this q_bytes v_length v_bytes hZ hRet _ 0 h (fun l1_2 h => ?_)
  refine x_iconst (v := 1) (pc' := 24) hZ (by decide) dX2_areWeightsNothing_23 rfl ?_
  exact hRet _ _ _ _ dX2_areWeightsNothing_24 (by decide) ⟨rfl, h⟩
set_option maxHeartbeats 4000000 in
set_option maxRecDepth 100000 in
theorem c_X2_fitsAt (E : XE) (q_this : Nat) (q_bytes : Nat) (v_length : Int32) (v_bytes : Nat → Int32) (l1 : Int32) (post : Int32 → Prop) (h : p_X2_fitsAt v_bytes l1 post) : ConI E yX2_fitsAt cX2_fitsAt 6 .boolean { frames := 2, cells := 0, slots := 0, locals := 42 } 0 0 [.ref q_this, .int l1] [(q_this, cO 2 [.ref q_bytes, .int v_length]), (q_bytes, cA E 40 v_bytes)] (fun r w => w = [(q_this, cO 2 [.ref q_bytes, .int v_length]), (q_bytes, cA E 40 v_bytes)] ∧ post r ) := by
  refine ConIz.of (by decide +kernel) (Nat.le_of_ble_eq_true rfl) (fun Z hZ hI hRet => ?_)
  replace hZ : XOK E Z RX2 cX2_fitsAt 6 { frames := 2, cells := 0, slots := 0, locals := 42 } := hZ
  clear hI
  show XW E Z 0 0 [(q_this, cO 2 [.ref q_bytes, .int v_length]), (q_bytes, cA E 40 v_bytes)] [(0, .ref q_this), (1, .int l1)] [] 0
  unfold p_X2_fitsAt at h
  refine x_iload_n (pc' := 1) hZ dX2_fitsAt_0 rfl 1 rfl ?_
  refine x_bipush (v := 34) (pc' := 3) hZ (by decide) dX2_fitsAt_1 rfl ?_
  refine x_icmp_lt (tgt := 8) (pc' := 6) hZ dX2_fitsAt_3 (by decide) rfl (fun c3 => ?_) (fun c3 => ?_)
  · replace h := h.1 c3
    refine x_aload_n (pc' := 9) hZ dX2_fitsAt_8 rfl 0 rfl ?_
    refine g_RX2_11 (pc' := 12) hZ dX2_fitsAt_9 rfl 0 rfl rfl ?_
    refine x_iload_n (pc' := 13) hZ dX2_fitsAt_12 rfl 1 rfl ?_
    obtain ⟨h13, h⟩ := h
    refine x_iald (pc' := 14) hZ h13 dX2_fitsAt_13 rfl 1 rfl ?_
    refine x_topi (fun x14 e14 => ?_)
    replace h := h x14 e14
    refine x_istore_n (i := 2) (pc' := 15) (lv' := [(2, .int x14), (0, .ref q_this), (1, .int l1)]) hZ dX2_fitsAt_14 rfl rfl (by decide) rfl ?_
    refine x_iload_n (pc' := 16) hZ dX2_fitsAt_15 rfl 2 rfl ?_
    refine x_if_ne (tgt := 31) (pc' := 19) hZ dX2_fitsAt_16 (by decide) rfl (fun c16 => ?_) (fun c16 => ?_)
    · replace h := h.1 c16
      refine x_iload_n (pc' := 32) hZ dX2_fitsAt_31 rfl 0 rfl ?_
      refine x_bipush (v := 48) (pc' := 34) hZ (by decide) dX2_fitsAt_32 rfl ?_
      refine x_icmp_lt (tgt := 47) (pc' := 37) hZ dX2_fitsAt_34 (by decide) rfl (fun c34 => ?_) (fun c34 => ?_)
      · replace h := h.1 c34
        refine x_iconst (v := 0) (pc' := 48) hZ (by decide) dX2_fitsAt_47 rfl ?_
        refine x_istore_n (i := 3) (pc' := 49) (lv' := [(3, .int 0), (2, .int x14), (0, .ref q_this), (1, .int l1)]) hZ dX2_fitsAt_48 rfl rfl (by decide) rfl ?_
        refine x_iload_n (pc' := 50) hZ dX2_fitsAt_49 rfl 3 rfl ?_
        refine x_iconst (v := 4) (pc' := 51) hZ (by decide) dX2_fitsAt_50 rfl ?_
        refine x_icmp_ge (tgt := 76) (pc' := 54) hZ dX2_fitsAt_51 (by decide) rfl (fun c51 => ?_) (fun c51 => ?_)
        · replace h := h.1 c51
          refine x_iload_n (pc' := 77) hZ dX2_fitsAt_76 rfl 3 rfl ?_
          refine x_iconst (v := 4) (pc' := 78) hZ (by decide) dX2_fitsAt_77 rfl ?_
          refine x_isub (pc' := 79) hZ dX2_fitsAt_78 rfl ?_
          refine x_iconst (v := 5) (pc' := 80) hZ (by decide) dX2_fitsAt_79 rfl ?_
          refine x_irem (pc' := 81) hZ (by decide) dX2_fitsAt_80 rfl ?_
          refine x_topi (fun x81 e81 => ?_)
          replace h := h x81 e81
          refine x_istore (i := 4) (pc' := 83) (lv' := [(4, .int x81), (3, .int 0), (2, .int x14), (0, .ref q_this), (1, .int l1)]) hZ dX2_fitsAt_81 rfl (by decide) rfl ?_
          refine x_iload (pc' := 85) hZ dX2_fitsAt_83 rfl 0 rfl ?_
          refine x_if_ne (tgt := 100) (pc' := 88) hZ dX2_fitsAt_85 (by decide) rfl (fun c85 => ?_) (fun c85 => ?_)
          · replace h := h.1 c85
            refine x_iload (pc' := 102) hZ dX2_fitsAt_100 rfl 0 rfl ?_
            refine x_iconst (v := 4) (pc' := 103) hZ (by decide) dX2_fitsAt_102 rfl ?_
            refine x_icmp_ne (tgt := 110) (pc' := 106) hZ dX2_fitsAt_103 (by decide) rfl (fun c103 => ?_) (fun c103 => ?_)
            · replace h := h.1 c103
              refine x_iconst (v := 0) (pc' := 111) hZ (by decide) dX2_fitsAt_110 rfl ?_
              refine x_istore (i := 5) (pc' := 113) (lv' := [(5, .int 0), (4, .int x81), (3, .int 0), (2, .int x14), (0, .ref q_this), (1, .int l1)]) hZ dX2_fitsAt_111 rfl (by decide) rfl ?_
              refine x_iload_n (pc' := 114) hZ dX2_fitsAt_113 rfl 2 rfl ?_
              refine x_if_eq (tgt := 134) (pc' := 117) hZ dX2_fitsAt_114 (by decide) rfl (fun c114 => ?_) (fun c114 => ?_)
              · refine x_iconst (v := 0) (pc' := 135) hZ (by decide) dX2_fitsAt_134 rfl ?_
                exact hRet _ _ _ _ dX2_fitsAt_135 (by decide) ⟨rfl, h⟩
              · exact absurd c114 (by decide)
            · replace h := h.2 c103
              refine x_iconst (v := 1) (pc' := 107) hZ (by decide) dX2_fitsAt_106 rfl ?_
              refine x_goto (pc' := 111) hZ dX2_fitsAt_107 (by decide) ?_
              refine x_istore (i := 5) (pc' := 113) (lv' := [(5, .int 1), (4, .int x81), (3, .int 0), (2, .int x14), (0, .ref q_this), (1, .int l1)]) hZ dX2_fitsAt_111 rfl (by decide) rfl ?_
              refine x_iload_n (pc' := 114) hZ dX2_fitsAt_113 rfl 2 rfl ?_
              refine x_if_eq (tgt := 134) (pc' := 117) hZ dX2_fitsAt_114 (by decide) rfl (fun c114 => ?_) (fun c114 => ?_)
              · refine x_iconst (v := 0) (pc' := 135) hZ (by decide) dX2_fitsAt_134 rfl ?_
                exact hRet _ _ _ _ dX2_fitsAt_135 (by decide) ⟨rfl, h⟩
              · exact absurd c114 (by decide)
          · replace h := h.2 c85
            refine x_iload_n (pc' := 89) hZ dX2_fitsAt_88 rfl 2 rfl ?_
            refine x_bipush (v := 80) (pc' := 91) hZ (by decide) dX2_fitsAt_89 rfl ?_
            refine x_icmp_ne (tgt := 98) (pc' := 94) hZ dX2_fitsAt_91 (by decide) rfl (fun c91 => ?_) (fun c91 => ?_)
            · replace h := h.1 c91
              refine x_iconst (v := 0) (pc' := 99) hZ (by decide) dX2_fitsAt_98 rfl ?_
              exact hRet _ _ _ _ dX2_fitsAt_99 (by decide) ⟨rfl, h⟩
            · replace h := h.2 c91
              refine x_iconst (v := 1) (pc' := 95) hZ (by decide) dX2_fitsAt_94 rfl ?_
              refine x_goto (pc' := 99) hZ dX2_fitsAt_95 (by decide) ?_
              exact hRet _ _ _ _ dX2_fitsAt_99 (by decide) ⟨rfl, h⟩
        · replace h := h.2 c51
          refine x_iload_n (pc' := 55) hZ dX2_fitsAt_54 rfl 0 rfl ?_
          refine x_if_eq (tgt := 74) (pc' := 58) hZ dX2_fitsAt_55 (by decide) rfl (fun c55 => ?_) (fun c55 => ?_)
          · refine x_iconst (v := 0) (pc' := 75) hZ (by decide) dX2_fitsAt_74 rfl ?_
            exact hRet _ _ _ _ dX2_fitsAt_75 (by decide) ⟨rfl, h⟩
          · exact absurd c55 (by decide)
      · replace h := h.2 c34
        refine x_iload_n (pc' := 38) hZ dX2_fitsAt_37 rfl 0 rfl ?_
        refine x_bipush (v := 57) (pc' := 40) hZ (by decide) dX2_fitsAt_38 rfl ?_
        refine x_icmp_gt (tgt := 47) (pc' := 43) hZ dX2_fitsAt_40 (by decide) rfl (fun c40 => ?_) (fun c40 => ?_)
        · replace h := h.1 c40
          refine x_iconst (v := 0) (pc' := 48) hZ (by decide) dX2_fitsAt_47 rfl ?_
          refine x_istore_n (i := 3) (pc' := 49) (lv' := [(3, .int 0), (2, .int x14), (0, .ref q_this), (1, .int l1)]) hZ dX2_fitsAt_48 rfl rfl (by decide) rfl ?_
          refine x_iload_n (pc' := 50) hZ dX2_fitsAt_49 rfl 3 rfl ?_
          refine x_iconst (v := 4) (pc' := 51) hZ (by decide) dX2_fitsAt_50 rfl ?_
          refine x_icmp_ge (tgt := 76) (pc' := 54) hZ dX2_fitsAt_51 (by decide) rfl (fun c51 => ?_) (fun c51 => ?_)
          · replace h := h.1 c51
            refine x_iload_n (pc' := 77) hZ dX2_fitsAt_76 rfl 3 rfl ?_
            refine x_iconst (v := 4) (pc' := 78) hZ (by decide) dX2_fitsAt_77 rfl ?_
            refine x_isub (pc' := 79) hZ dX2_fitsAt_78 rfl ?_
            refine x_iconst (v := 5) (pc' := 80) hZ (by decide) dX2_fitsAt_79 rfl ?_
            refine x_irem (pc' := 81) hZ (by decide) dX2_fitsAt_80 rfl ?_
            refine x_topi (fun x81 e81 => ?_)
            replace h := h x81 e81
            refine x_istore (i := 4) (pc' := 83) (lv' := [(4, .int x81), (3, .int 0), (2, .int x14), (0, .ref q_this), (1, .int l1)]) hZ dX2_fitsAt_81 rfl (by decide) rfl ?_
            refine x_iload (pc' := 85) hZ dX2_fitsAt_83 rfl 0 rfl ?_
            refine x_if_ne (tgt := 100) (pc' := 88) hZ dX2_fitsAt_85 (by decide) rfl (fun c85 => ?_) (fun c85 => ?_)
            · replace h := h.1 c85
              refine x_iload (pc' := 102) hZ dX2_fitsAt_100 rfl 0 rfl ?_
              refine x_iconst (v := 4) (pc' := 103) hZ (by decide) dX2_fitsAt_102 rfl ?_
              refine x_icmp_ne (tgt := 110) (pc' := 106) hZ dX2_fitsAt_103 (by decide) rfl (fun c103 => ?_) (fun c103 => ?_)
              · replace h := h.1 c103
                refine x_iconst (v := 0) (pc' := 111) hZ (by decide) dX2_fitsAt_110 rfl ?_
                refine x_istore (i := 5) (pc' := 113) (lv' := [(5, .int 0), (4, .int x81), (3, .int 0), (2, .int x14), (0, .ref q_this), (1, .int l1)]) hZ dX2_fitsAt_111 rfl (by decide) rfl ?_
                refine x_iload_n (pc' := 114) hZ dX2_fitsAt_113 rfl 2 rfl ?_
                refine x_if_eq (tgt := 134) (pc' := 117) hZ dX2_fitsAt_114 (by decide) rfl (fun c114 => ?_) (fun c114 => ?_)
                · refine x_iconst (v := 0) (pc' := 135) hZ (by decide) dX2_fitsAt_134 rfl ?_
                  exact hRet _ _ _ _ dX2_fitsAt_135 (by decide) ⟨rfl, h⟩
                · exact absurd c114 (by decide)
              · replace h := h.2 c103
                refine x_iconst (v := 1) (pc' := 107) hZ (by decide) dX2_fitsAt_106 rfl ?_
                refine x_goto (pc' := 111) hZ dX2_fitsAt_107 (by decide) ?_
                refine x_istore (i := 5) (pc' := 113) (lv' := [(5, .int 1), (4, .int x81), (3, .int 0), (2, .int x14), (0, .ref q_this), (1, .int l1)]) hZ dX2_fitsAt_111 rfl (by decide) rfl ?_
                refine x_iload_n (pc' := 114) hZ dX2_fitsAt_113 rfl 2 rfl ?_
                refine x_if_eq (tgt := 134) (pc' := 117) hZ dX2_fitsAt_114 (by decide) rfl (fun c114 => ?_) (fun c114 => ?_)
                · refine x_iconst (v := 0) (pc' := 135) hZ (by decide) dX2_fitsAt_134 rfl ?_
                  exact hRet _ _ _ _ dX2_fitsAt_135 (by decide) ⟨rfl, h⟩
                · exact absurd c114 (by decide)
            · replace h := h.2 c85
              refine x_iload_n (pc' := 89) hZ dX2_fitsAt_88 rfl 2 rfl ?_
              refine x_bipush (v := 80) (pc' := 91) hZ (by decide) dX2_fitsAt_89 rfl ?_
              refine x_icmp_ne (tgt := 98) (pc' := 94) hZ dX2_fitsAt_91 (by decide) rfl (fun c91 => ?_) (fun c91 => ?_)
              · replace h := h.1 c91
                refine x_iconst (v := 0) (pc' := 99) hZ (by decide) dX2_fitsAt_98 rfl ?_
                exact hRet _ _ _ _ dX2_fitsAt_99 (by decide) ⟨rfl, h⟩
              · replace h := h.2 c91
                refine x_iconst (v := 1) (pc' := 95) hZ (by decide) dX2_fitsAt_94 rfl ?_
                refine x_goto (pc' := 99) hZ dX2_fitsAt_95 (by decide) ?_
                exact hRet _ _ _ _ dX2_fitsAt_99 (by decide) ⟨rfl, h⟩
          · replace h := h.2 c51
            refine x_iload_n (pc' := 55) hZ dX2_fitsAt_54 rfl 0 rfl ?_
            refine x_if_eq (tgt := 74) (pc' := 58) hZ dX2_fitsAt_55 (by decide) rfl (fun c55 => ?_) (fun c55 => ?_)
            · refine x_iconst (v := 0) (pc' := 75) hZ (by decide) dX2_fitsAt_74 rfl ?_
              exact hRet _ _ _ _ dX2_fitsAt_75 (by decide) ⟨rfl, h⟩
            · exact absurd c55 (by decide)
        · replace h := h.2 c40
          refine x_iconst (v := 1) (pc' := 44) hZ (by decide) dX2_fitsAt_43 rfl ?_
          refine x_goto (pc' := 48) hZ dX2_fitsAt_44 (by decide) ?_
          refine x_istore_n (i := 3) (pc' := 49) (lv' := [(3, .int 1), (2, .int x14), (0, .ref q_this), (1, .int l1)]) hZ dX2_fitsAt_48 rfl rfl (by decide) rfl ?_
          refine x_iload_n (pc' := 50) hZ dX2_fitsAt_49 rfl 3 rfl ?_
          refine x_iconst (v := 4) (pc' := 51) hZ (by decide) dX2_fitsAt_50 rfl ?_
          refine x_icmp_ge (tgt := 76) (pc' := 54) hZ dX2_fitsAt_51 (by decide) rfl (fun c51 => ?_) (fun c51 => ?_)
          · replace h := h.1 c51
            refine x_iload_n (pc' := 77) hZ dX2_fitsAt_76 rfl 3 rfl ?_
            refine x_iconst (v := 4) (pc' := 78) hZ (by decide) dX2_fitsAt_77 rfl ?_
            refine x_isub (pc' := 79) hZ dX2_fitsAt_78 rfl ?_
            refine x_iconst (v := 5) (pc' := 80) hZ (by decide) dX2_fitsAt_79 rfl ?_
            refine x_irem (pc' := 81) hZ (by decide) dX2_fitsAt_80 rfl ?_
            refine x_topi (fun x81 e81 => ?_)
            replace h := h x81 e81
            refine x_istore (i := 4) (pc' := 83) (lv' := [(4, .int x81), (3, .int 1), (2, .int x14), (0, .ref q_this), (1, .int l1)]) hZ dX2_fitsAt_81 rfl (by decide) rfl ?_
            refine x_iload (pc' := 85) hZ dX2_fitsAt_83 rfl 0 rfl ?_
            refine x_if_ne (tgt := 100) (pc' := 88) hZ dX2_fitsAt_85 (by decide) rfl (fun c85 => ?_) (fun c85 => ?_)
            · replace h := h.1 c85
              refine x_iload (pc' := 102) hZ dX2_fitsAt_100 rfl 0 rfl ?_
              refine x_iconst (v := 4) (pc' := 103) hZ (by decide) dX2_fitsAt_102 rfl ?_
              refine x_icmp_ne (tgt := 110) (pc' := 106) hZ dX2_fitsAt_103 (by decide) rfl (fun c103 => ?_) (fun c103 => ?_)
              · replace h := h.1 c103
                refine x_iconst (v := 0) (pc' := 111) hZ (by decide) dX2_fitsAt_110 rfl ?_
                refine x_istore (i := 5) (pc' := 113) (lv' := [(5, .int 0), (4, .int x81), (3, .int 1), (2, .int x14), (0, .ref q_this), (1, .int l1)]) hZ dX2_fitsAt_111 rfl (by decide) rfl ?_
                refine x_iload_n (pc' := 114) hZ dX2_fitsAt_113 rfl 2 rfl ?_
                refine x_if_eq (tgt := 134) (pc' := 117) hZ dX2_fitsAt_114 (by decide) rfl (fun c114 => ?_) (fun c114 => ?_)
                · exact absurd c114 (by decide)
                · refine x_iload (pc' := 119) hZ dX2_fitsAt_117 rfl 0 rfl ?_
                  refine x_if_eq (tgt := 130) (pc' := 122) hZ dX2_fitsAt_119 (by decide) rfl (fun c119 => ?_) (fun c119 => ?_)
                  · refine x_iconst (v := 1) (pc' := 131) hZ (by decide) dX2_fitsAt_130 rfl ?_
                    refine x_goto (pc' := 135) hZ dX2_fitsAt_131 (by decide) ?_
                    exact hRet _ _ _ _ dX2_fitsAt_135 (by decide) ⟨rfl, h⟩
                  · exact absurd c119 (by decide)
              · replace h := h.2 c103
                refine x_iconst (v := 1) (pc' := 107) hZ (by decide) dX2_fitsAt_106 rfl ?_
                refine x_goto (pc' := 111) hZ dX2_fitsAt_107 (by decide) ?_
                refine x_istore (i := 5) (pc' := 113) (lv' := [(5, .int 1), (4, .int x81), (3, .int 1), (2, .int x14), (0, .ref q_this), (1, .int l1)]) hZ dX2_fitsAt_111 rfl (by decide) rfl ?_
                refine x_iload_n (pc' := 114) hZ dX2_fitsAt_113 rfl 2 rfl ?_
                refine x_if_eq (tgt := 134) (pc' := 117) hZ dX2_fitsAt_114 (by decide) rfl (fun c114 => ?_) (fun c114 => ?_)
                · exact absurd c114 (by decide)
                · refine x_iload (pc' := 119) hZ dX2_fitsAt_117 rfl 0 rfl ?_
                  refine x_if_eq (tgt := 130) (pc' := 122) hZ dX2_fitsAt_119 (by decide) rfl (fun c119 => ?_) (fun c119 => ?_)
                  · exact absurd c119 (by decide)
                  · refine x_iload_n (pc' := 123) hZ dX2_fitsAt_122 rfl 3 rfl ?_
                    refine x_bipush (v := 48) (pc' := 125) hZ (by decide) dX2_fitsAt_123 rfl ?_
                    refine x_isub (pc' := 126) hZ dX2_fitsAt_125 rfl ?_
                    refine x_iconst (v := 2) (pc' := 127) hZ (by decide) dX2_fitsAt_126 rfl ?_
                    refine x_icmp_gt (tgt := 134) (pc' := 130) hZ dX2_fitsAt_127 (by decide) rfl (fun c127 => ?_) (fun c127 => ?_)
                    · replace h := h.1 c127
                      refine x_iconst (v := 0) (pc' := 135) hZ (by decide) dX2_fitsAt_134 rfl ?_
                      exact hRet _ _ _ _ dX2_fitsAt_135 (by decide) ⟨rfl, h⟩
                    · replace h := h.2 c127
                      refine x_iconst (v := 1) (pc' := 131) hZ (by decide) dX2_fitsAt_130 rfl ?_
                      refine x_goto (pc' := 135) hZ dX2_fitsAt_131 (by decide) ?_
                      exact hRet _ _ _ _ dX2_fitsAt_135 (by decide) ⟨rfl, h⟩
            · replace h := h.2 c85
              refine x_iload_n (pc' := 89) hZ dX2_fitsAt_88 rfl 2 rfl ?_
              refine x_bipush (v := 80) (pc' := 91) hZ (by decide) dX2_fitsAt_89 rfl ?_
              refine x_icmp_ne (tgt := 98) (pc' := 94) hZ dX2_fitsAt_91 (by decide) rfl (fun c91 => ?_) (fun c91 => ?_)
              · replace h := h.1 c91
                refine x_iconst (v := 0) (pc' := 99) hZ (by decide) dX2_fitsAt_98 rfl ?_
                exact hRet _ _ _ _ dX2_fitsAt_99 (by decide) ⟨rfl, h⟩
              · replace h := h.2 c91
                refine x_iconst (v := 1) (pc' := 95) hZ (by decide) dX2_fitsAt_94 rfl ?_
                refine x_goto (pc' := 99) hZ dX2_fitsAt_95 (by decide) ?_
                exact hRet _ _ _ _ dX2_fitsAt_99 (by decide) ⟨rfl, h⟩
          · replace h := h.2 c51
            refine x_iload_n (pc' := 55) hZ dX2_fitsAt_54 rfl 0 rfl ?_
            refine x_if_eq (tgt := 74) (pc' := 58) hZ dX2_fitsAt_55 (by decide) rfl (fun c55 => ?_) (fun c55 => ?_)
            · exact absurd c55 (by decide)
            · refine x_iload_n (pc' := 59) hZ dX2_fitsAt_58 rfl 3 rfl ?_
              refine x_iconst (v := 3) (pc' := 60) hZ (by decide) dX2_fitsAt_59 rfl ?_
              refine x_icmp_ne (tgt := 70) (pc' := 63) hZ dX2_fitsAt_60 (by decide) rfl (fun c60 => ?_) (fun c60 => ?_)
              · replace h := h.1 c60
                refine x_iconst (v := 1) (pc' := 71) hZ (by decide) dX2_fitsAt_70 rfl ?_
                refine x_goto (pc' := 75) hZ dX2_fitsAt_71 (by decide) ?_
                exact hRet _ _ _ _ dX2_fitsAt_75 (by decide) ⟨rfl, h⟩
              · replace h := h.2 c60
                refine x_aload_n (pc' := 64) hZ dX2_fitsAt_63 rfl 2 rfl ?_
                refine k_RX2_23 (pc' := 67) (q0 := 0) (as := []) (rest := []) (c' := 0) (n' := 0) (wr := []) hZ (c_X2_areWeightsNothing E q_this q_bytes v_length v_bytes _ h) rfl dX2_fitsAt_64 rfl rfl rfl rfl rfl (Nat.le_of_ble_eq_true rfl) (Nat.le_of_ble_eq_true rfl) (Nat.le_of_ble_eq_true rfl) rfl rfl (Nat.le_of_ble_eq_true rfl) (Nat.le_of_ble_eq_true rfl) [0, 1] [] rfl rfl (by decide) (by decide) (by decide) (fun r64 w64 hw => ?_)
                obtain ⟨rfl, h⟩ := hw
                refine x_ws (ws' := [(q_this, cO 2 [.ref q_bytes, .int v_length]), (q_bytes, cA E 40 v_bytes)]) [0, 1] rfl (by decide) ?_
                refine x_if_ne (tgt := 74) (pc' := 70) hZ dX2_fitsAt_67 (by decide) rfl (fun c67 => ?_) (fun c67 => ?_)
                · replace h := h.1 c67
                  refine x_iconst (v := 0) (pc' := 75) hZ (by decide) dX2_fitsAt_74 rfl ?_
                  exact hRet _ _ _ _ dX2_fitsAt_75 (by decide) ⟨rfl, h⟩
                · replace h := h.2 c67
                  refine x_iconst (v := 1) (pc' := 71) hZ (by decide) dX2_fitsAt_70 rfl ?_
                  refine x_goto (pc' := 75) hZ dX2_fitsAt_71 (by decide) ?_
                  exact hRet _ _ _ _ dX2_fitsAt_75 (by decide) ⟨rfl, h⟩
    · replace h := h.2 c16
      refine x_iload_n (pc' := 20) hZ dX2_fitsAt_19 rfl 0 rfl ?_
      refine x_bipush (v := 81) (pc' := 22) hZ (by decide) dX2_fitsAt_20 rfl ?_
      refine x_icmp_ne (tgt := 29) (pc' := 25) hZ dX2_fitsAt_22 (by decide) rfl (fun c22 => ?_) (fun c22 => ?_)
      · replace h := h.1 c22
        refine x_iconst (v := 0) (pc' := 30) hZ (by decide) dX2_fitsAt_29 rfl ?_
        exact hRet _ _ _ _ dX2_fitsAt_30 (by decide) ⟨rfl, h⟩
      · replace h := h.2 c22
        refine x_iconst (v := 1) (pc' := 26) hZ (by decide) dX2_fitsAt_25 rfl ?_
        refine x_goto (pc' := 30) hZ dX2_fitsAt_26 (by decide) ?_
        exact hRet _ _ _ _ dX2_fitsAt_30 (by decide) ⟨rfl, h⟩
  · replace h := h.2 c3
    refine x_iconst (v := 0) (pc' := 7) hZ (by decide) dX2_fitsAt_6 rfl ?_
    exact hRet _ _ _ _ dX2_fitsAt_7 (by decide) ⟨rfl, h⟩
set_option maxHeartbeats 4000000 in
set_option maxRecDepth 100000 in
theorem t_X2_firstFault_2 (E : XE) (Z : ZC) (q_this : Nat) (q_bytes : Nat) (v_length : Int32) (v_bytes : Nat → Int32) {post : Int32 → Prop} {K : Int32 → Prop} (hZ : XOK E Z RX2 cX2_firstFault 2 { frames := 3, cells := 0, slots := 0, locals := 67 }) (hRet : RetI E Z cX2_firstFault 0 0 (fun r w => w = [(q_this, cO 2 [.ref q_bytes, .int v_length]), (q_bytes, cA E 40 v_bytes)] ∧ post r )) : ∀ (k : Nat) (l1 : Int32), wl (fun rec v => b_X2_firstFault_2 v_length v_bytes post K rec v) k (l1) → (∀ (l1 : Int32), K l1 → XW E Z 0 0 [(q_this, cO 2 [.ref q_bytes, .int v_length]), (q_bytes, cA E 40 v_bytes)] [(0, .ref q_this)] [] 26) → XW E Z 0 0 [(q_this, cO 2 [.ref q_bytes, .int v_length]), (q_bytes, cA E 40 v_bytes)] [(0, .ref q_this), (1, .int l1)] [] 2 := by
  intro k
  induction k with
  | zero =>
    intro l1 h
    exact h.elim
  | succ k ih =>
    intro l1 h hK
    replace h := wl_succ h
    try dsimp only at h
    unfold b_X2_firstFault_2 at h
    refine x_iload_n (pc' := 3) hZ dX2_firstFault_2 rfl 1 rfl ?_
    refine x_aload_n (pc' := 4) hZ dX2_firstFault_3 rfl 0 rfl ?_
    refine g_RX2_15 (pc' := 7) hZ dX2_firstFault_4 rfl 0 rfl rfl ?_
    refine x_icmp_ge (tgt := 26) (pc' := 10) hZ dX2_firstFault_7 (by decide) rfl (fun c7 => ?_) (fun c7 => ?_)
    · replace h := h.1 c7
      refine x_lv [0] (lv' := [(0, .ref q_this)]) rfl ?_
      exact hK l1 h
    · replace h := h.2 c7
      refine x_aload_n (pc' := 11) hZ dX2_firstFault_10 rfl 0 rfl ?_
      refine x_iload_n (pc' := 12) hZ dX2_firstFault_11 rfl 1 rfl ?_
      refine k_RX2_19 (pc' := 15) (q0 := 0) (as := [.int l1]) (rest := []) (c' := 0) (n' := 0) (wr := []) hZ (c_X2_fitsAt E q_this q_bytes v_length v_bytes l1 _ h) rfl dX2_firstFault_12 rfl rfl rfl rfl rfl (Nat.le_of_ble_eq_true rfl) (Nat.le_of_ble_eq_true rfl) (Nat.le_of_ble_eq_true rfl) rfl rfl (Nat.le_of_ble_eq_true rfl) (Nat.le_of_ble_eq_true rfl) [0, 1] [] rfl rfl (by decide) (by decide) (by decide) (fun r12 w12 hw => ?_)
      obtain ⟨rfl, h⟩ := hw
      refine x_ws (ws' := [(q_this, cO 2 [.ref q_bytes, .int v_length]), (q_bytes, cA E 40 v_bytes)]) [0, 1] rfl (by decide) ?_
      refine x_if_ne (tgt := 20) (pc' := 18) hZ dX2_firstFault_15 (by decide) rfl (fun c15 => ?_) (fun c15 => ?_)
      · replace h := h.1 c15
        obtain ⟨x20, e20⟩ : ∃ y : Int32, y = l1 + 1 := ⟨_, rfl⟩
        replace h := h x20 e20
        refine x_iinc (i := 1) (v := x20) (pc' := 23) (lv' := [(1, .int x20), (0, .ref q_this)]) hZ dX2_firstFault_20 rfl 1 rfl (by rw [e20]; rfl) (by decide) rfl ?_
        refine x_goto (pc' := 2) hZ dX2_firstFault_23 (by decide) ?_
        refine x_lv [1, 0] (lv' := [(0, .ref q_this), (1, .int x20)]) rfl ?_
        exact ih x20 h hK
      · replace h := h.2 c15
        refine x_iload_n (pc' := 19) hZ dX2_firstFault_18 rfl 1 rfl ?_
        exact hRet _ _ _ _ dX2_firstFault_19 ⟨rfl, h⟩
set_option maxHeartbeats 4000000 in
set_option maxRecDepth 100000 in
theorem c_X2_firstFault (E : XE) (q_this : Nat) (q_bytes : Nat) (v_length : Int32) (v_bytes : Nat → Int32) (post : Int32 → Prop) (h : p_X2_firstFault v_length v_bytes post) : ConI E yX2_firstFault cX2_firstFault 2 .int { frames := 3, cells := 0, slots := 0, locals := 67 } 0 0 [.ref q_this] [(q_this, cO 2 [.ref q_bytes, .int v_length]), (q_bytes, cA E 40 v_bytes)] (fun r w => w = [(q_this, cO 2 [.ref q_bytes, .int v_length]), (q_bytes, cA E 40 v_bytes)] ∧ post r ) := by
  refine ConI.of (by decide +kernel) (Nat.le_of_ble_eq_true rfl) (fun Z hZ hI hRet => ?_)
  replace hZ : XOK E Z RX2 cX2_firstFault 2 { frames := 3, cells := 0, slots := 0, locals := 67 } := hZ
  clear hI
  show XW E Z 0 0 [(q_this, cO 2 [.ref q_bytes, .int v_length]), (q_bytes, cA E 40 v_bytes)] [(0, .ref q_this)] [] 0
  unfold p_X2_firstFault at h
  refine x_iconst (v := 0) (pc' := 1) hZ (by decide) dX2_firstFault_0 rfl ?_
  refine x_istore_n (i := 1) (pc' := 2) (lv' := [(1, .int 0), (0, .ref q_this)]) hZ dX2_firstFault_1 rfl rfl (by decide) rfl ?_
  refine x_lv [1, 0] (lv' := [(0, .ref q_this), (1, .int 0)]) rfl ?_
  obtain ⟨k2, h⟩ := h
  refine t_X2_firstFault_2 E Z q_this q_bytes v_length v_bytes hZ hRet _ 0 h (fun l1_2 h => ?_)
  refine x_aload_n (pc' := 27) hZ dX2_firstFault_26 rfl 0 rfl ?_
  refine g_RX2_15 (pc' := 30) hZ dX2_firstFault_27 rfl 0 rfl rfl ?_
  refine x_iconst (v := 4) (pc' := 31) hZ (by decide) dX2_firstFault_30 rfl ?_
  refine x_icmp_lt (tgt := 49) (pc' := 34) hZ dX2_firstFault_31 (by decide) rfl (fun c31 => ?_) (fun c31 => ?_)
  · replace h := h.1 c31
    refine x_iconst (v := 0) (pc' := 50) hZ (by decide) dX2_firstFault_49 rfl ?_
    refine x_istore_n (i := 1) (pc' := 51) (lv' := [(1, .int 0), (0, .ref q_this)]) hZ dX2_firstFault_50 rfl rfl (by decide) rfl ?_
    refine x_iload_n (pc' := 52) hZ dX2_firstFault_51 rfl 0 rfl ?_
    refine x_if_eq (tgt := 60) (pc' := 55) hZ dX2_firstFault_52 (by decide) rfl (fun c52 => ?_) (fun c52 => ?_)
    · refine x_aload_n (pc' := 61) hZ dX2_firstFault_60 rfl 1 rfl ?_
      refine g_RX2_15 (pc' := 64) hZ dX2_firstFault_61 rfl 0 rfl rfl ?_
      exact hRet _ _ _ _ dX2_firstFault_64 ⟨rfl, h⟩
    · exact absurd c52 (by decide)
  · replace h := h.2 c31
    refine x_aload_n (pc' := 35) hZ dX2_firstFault_34 rfl 0 rfl ?_
    refine g_RX2_15 (pc' := 38) hZ dX2_firstFault_35 rfl 0 rfl rfl ?_
    refine x_iconst (v := 4) (pc' := 39) hZ (by decide) dX2_firstFault_38 rfl ?_
    refine x_isub (pc' := 40) hZ dX2_firstFault_39 rfl ?_
    refine x_iconst (v := 5) (pc' := 41) hZ (by decide) dX2_firstFault_40 rfl ?_
    refine x_irem (pc' := 42) hZ (by decide) dX2_firstFault_41 rfl ?_
    refine x_if_ne (tgt := 49) (pc' := 45) hZ dX2_firstFault_42 (by decide) rfl (fun c42 => ?_) (fun c42 => ?_)
    · replace h := h.1 c42
      refine x_iconst (v := 0) (pc' := 50) hZ (by decide) dX2_firstFault_49 rfl ?_
      refine x_istore_n (i := 1) (pc' := 51) (lv' := [(1, .int 0), (0, .ref q_this)]) hZ dX2_firstFault_50 rfl rfl (by decide) rfl ?_
      refine x_iload_n (pc' := 52) hZ dX2_firstFault_51 rfl 0 rfl ?_
      refine x_if_eq (tgt := 60) (pc' := 55) hZ dX2_firstFault_52 (by decide) rfl (fun c52 => ?_) (fun c52 => ?_)
      · refine x_aload_n (pc' := 61) hZ dX2_firstFault_60 rfl 1 rfl ?_
        refine g_RX2_15 (pc' := 64) hZ dX2_firstFault_61 rfl 0 rfl rfl ?_
        exact hRet _ _ _ _ dX2_firstFault_64 ⟨rfl, h⟩
      · exact absurd c52 (by decide)
    · replace h := h.2 c42
      refine x_iconst (v := 1) (pc' := 46) hZ (by decide) dX2_firstFault_45 rfl ?_
      refine x_goto (pc' := 50) hZ dX2_firstFault_46 (by decide) ?_
      refine x_istore_n (i := 1) (pc' := 51) (lv' := [(1, .int 1), (0, .ref q_this)]) hZ dX2_firstFault_50 rfl rfl (by decide) rfl ?_
      refine x_iload_n (pc' := 52) hZ dX2_firstFault_51 rfl 0 rfl ?_
      refine x_if_eq (tgt := 60) (pc' := 55) hZ dX2_firstFault_52 (by decide) rfl (fun c52 => ?_) (fun c52 => ?_)
      · exact absurd c52 (by decide)
      · refine x_bipush (v := (-9)) (pc' := 57) hZ (by decide) dX2_firstFault_55 rfl ?_
        refine x_goto (pc' := 64) hZ dX2_firstFault_57 (by decide) ?_
        exact hRet _ _ _ _ dX2_firstFault_64 ⟨rfl, h⟩
set_option maxHeartbeats 4000000 in
set_option maxRecDepth 100000 in
theorem c_X2_peopleTold (E : XE) (q_this : Nat) (q_bytes : Nat) (v_length : Int32) (post : Int32 → Prop) (h : p_X2_peopleTold v_length post) : ConI E yX2_peopleTold cX2_peopleTold 1 .int { frames := 1, cells := 0, slots := 0, locals := 13 } 0 0 [.ref q_this] [(q_this, cO 2 [.ref q_bytes, .int v_length])] (fun r w => w = [(q_this, cO 2 [.ref q_bytes, .int v_length])] ∧ post r ) := by
  refine ConI.of (by decide +kernel) (Nat.le_of_ble_eq_true rfl) (fun Z hZ hI hRet => ?_)
  replace hZ : XOK E Z RX2 cX2_peopleTold 1 { frames := 1, cells := 0, slots := 0, locals := 13 } := hZ
  clear hI
  show XW E Z 0 0 [(q_this, cO 2 [.ref q_bytes, .int v_length])] [(0, .ref q_this)] [] 0
  unfold p_X2_peopleTold at h
  refine x_iconst (v := 0) (pc' := 1) hZ (by decide) dX2_peopleTold_0 rfl ?_
  refine x_aload_n (pc' := 2) hZ dX2_peopleTold_1 rfl 0 rfl ?_
  refine g_RX2_15 (pc' := 5) hZ dX2_peopleTold_2 rfl 0 rfl rfl ?_
  refine x_iconst (v := 4) (pc' := 6) hZ (by decide) dX2_peopleTold_5 rfl ?_
  refine x_isub (pc' := 7) hZ dX2_peopleTold_6 rfl ?_
  refine x_mmax (pc' := 10) hZ kl_RX2_31 dX2_peopleTold_7 rfl (Nat.le_of_ble_eq_true rfl) (Nat.le_of_ble_eq_true rfl) (Nat.le_of_ble_eq_true rfl) (Nat.le_of_ble_eq_true rfl) ?_
  refine x_iconst (v := 5) (pc' := 11) hZ (by decide) dX2_peopleTold_10 rfl ?_
  refine x_idiv (pc' := 12) hZ (by decide) dX2_peopleTold_11 rfl ?_
  exact hRet _ _ _ _ dX2_peopleTold_12 ⟨rfl, h⟩
set_option maxHeartbeats 4000000 in
set_option maxRecDepth 100000 in
theorem c_X2_figureOf (E : XE) (q_this : Nat) (q_bytes : Nat) (v_length : Int32) (v_bytes : Nat → Int32) (l1 : Int32) (l2 : Int32) (post : Int32 → Prop) (h : p_X2_figureOf v_bytes l1 l2 post) : ConI E yX2_figureOf cX2_figureOf 3 .int { frames := 0, cells := 0, slots := 0, locals := 0 } 0 0 [.ref q_this, .int l1, .int l2] [(q_this, cO 2 [.ref q_bytes, .int v_length]), (q_bytes, cA E 40 v_bytes)] (fun r w => w = [(q_this, cO 2 [.ref q_bytes, .int v_length]), (q_bytes, cA E 40 v_bytes)] ∧ post r ) := by
  refine ConI.of (by decide +kernel) (Nat.le_of_ble_eq_true rfl) (fun Z hZ hI hRet => ?_)
  replace hZ : XOK E Z RX2 cX2_figureOf 3 { frames := 0, cells := 0, slots := 0, locals := 0 } := hZ
  clear hI
  show XW E Z 0 0 [(q_this, cO 2 [.ref q_bytes, .int v_length]), (q_bytes, cA E 40 v_bytes)] [(0, .ref q_this), (1, .int l1), (2, .int l2)] [] 0
  unfold p_X2_figureOf at h
  refine x_aload_n (pc' := 1) hZ dX2_figureOf_0 rfl 0 rfl ?_
  refine g_RX2_11 (pc' := 4) hZ dX2_figureOf_1 rfl 0 rfl rfl ?_
  refine x_iconst (v := 4) (pc' := 5) hZ (by decide) dX2_figureOf_4 rfl ?_
  refine x_iload_n (pc' := 6) hZ dX2_figureOf_5 rfl 1 rfl ?_
  refine x_iconst (v := 5) (pc' := 7) hZ (by decide) dX2_figureOf_6 rfl ?_
  refine x_imul (pc' := 8) hZ dX2_figureOf_7 rfl ?_
  refine x_iadd (pc' := 9) hZ dX2_figureOf_8 rfl ?_
  refine x_iconst (v := 1) (pc' := 10) hZ (by decide) dX2_figureOf_9 rfl ?_
  refine x_iadd (pc' := 11) hZ dX2_figureOf_10 rfl ?_
  refine x_iload_n (pc' := 12) hZ dX2_figureOf_11 rfl 2 rfl ?_
  refine x_iadd (pc' := 13) hZ dX2_figureOf_12 rfl ?_
  obtain ⟨h13, h⟩ := h
  refine x_iald (pc' := 14) hZ h13 dX2_figureOf_13 rfl 1 rfl ?_
  refine x_bipush (v := 48) (pc' := 16) hZ (by decide) dX2_figureOf_14 rfl ?_
  refine x_isub (pc' := 17) hZ dX2_figureOf_16 rfl ?_
  exact hRet _ _ _ _ dX2_figureOf_17 ⟨rfl, h⟩
