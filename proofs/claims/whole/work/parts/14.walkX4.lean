/-! walks, laid by program -/
set_option maxHeartbeats 4000000 in
set_option maxRecDepth 100000 in
theorem t_X4_init_118 (E : XE) (Z : ZC) (q_this : Nat) (q_text : Nat) (q_ageing : Nat) (q_page : Nat) (q_readAgeing : Nat) (q_readPage : Nat) (q_book : Nat) (q_kept : Nat) (q_isKept : Nat) (q_heardWho : Nat) (q_heardIs : Nat) (q_tried : Nat) (q_chooser : Nat) (q_best : Nat) (q_alives : Nat) (v_thrown : Int32) (v_textSize : Int32) (v_place : Int32) (v_people : Int32) (v_readPeople : Int32) (v_acts : Int32) (v_heard : Int32) (v_seed : Int64) (v_choosers : Int32) (v_sets : Int32) (v_surely : Int32) (v_text : Nat → Int32) (v_ageing : Nat → Int32) (v_readAgeing : Nat → Int32) (v_readPage : Nat → Int32) (v_book : Nat → Int32) (v_kept : Nat → Int32) (v_isKept : Nat → Int32) (v_heardWho : Nat → Int32) (v_heardIs : Nat → Int32) (v_tried : Nat → Int32) (v_chooser : Nat → Int32) (v_best : Nat → Int32) (v_alives : Nat → Int32) {K : Int32 → (Nat → Int32) → Prop} (hZ : XOK E Z RX4 cX4_init 2 { frames := 1, cells := 14, slots := 560, locals := 12 }) (hI : XNm Z "<init>") : ∀ (k : Nat) (l1 : Int32) (v_page : (Nat → Int32)), wl (fun rec v => b_X4_init_118  K rec v.1 v.2) k (l1, v_page) → (∀ (l1 : Int32) (v_page : (Nat → Int32)), K l1 v_page → XW E Z 14 560 [(q_this, cO 4 [.int v_thrown, .ref q_text, .int v_textSize, .int v_place, .int v_people, .ref q_ageing, .ref q_page, .int v_readPeople, .ref q_readAgeing, .ref q_readPage, .ref q_book, .int v_acts, .ref q_kept, .ref q_isKept, .int v_heard, .ref q_heardWho, .ref q_heardIs, .long v_seed, .ref q_tried, .ref q_chooser, .int v_choosers, .ref q_best, .int v_sets, .int v_surely, .ref q_alives]), (q_text, cA E 40 v_text), (q_ageing, cA E 6 v_ageing), (q_page, cA E 25 v_page), (q_readAgeing, cA E 6 v_readAgeing), (q_readPage, cA E 25 v_readPage), (q_book, cA E 350 v_book), (q_kept, cA E 50 v_kept), (q_isKept, cB E 2 v_isKept), (q_heardWho, cA E 6 v_heardWho), (q_heardIs, cB E 6 v_heardIs), (q_tried, cA E 25 v_tried), (q_chooser, cA E 6 v_chooser), (q_best, cA E 7 v_best), (q_alives, cA E 6 v_alives)] [] [] 136) → XW E Z 14 560 [(q_this, cO 4 [.int v_thrown, .ref q_text, .int v_textSize, .int v_place, .int v_people, .ref q_ageing, .ref q_page, .int v_readPeople, .ref q_readAgeing, .ref q_readPage, .ref q_book, .int v_acts, .ref q_kept, .ref q_isKept, .int v_heard, .ref q_heardWho, .ref q_heardIs, .long v_seed, .ref q_tried, .ref q_chooser, .int v_choosers, .ref q_best, .int v_sets, .int v_surely, .ref q_alives]), (q_text, cA E 40 v_text), (q_ageing, cA E 6 v_ageing), (q_page, cA E 25 v_page), (q_readAgeing, cA E 6 v_readAgeing), (q_readPage, cA E 25 v_readPage), (q_book, cA E 350 v_book), (q_kept, cA E 50 v_kept), (q_isKept, cB E 2 v_isKept), (q_heardWho, cA E 6 v_heardWho), (q_heardIs, cB E 6 v_heardIs), (q_tried, cA E 25 v_tried), (q_chooser, cA E 6 v_chooser), (q_best, cA E 7 v_best), (q_alives, cA E 6 v_alives)] [(0, .ref q_this), (1, .int l1)] [] 118 := by
  intro k
  induction k with
  | zero =>
    intro l1 v_page h
    exact h.elim
  | succ k ih =>
    intro l1 v_page h hK
    replace h := wl_succ h
    try dsimp only at h
    unfold b_X4_init_118 at h
    refine x_iload_n (pc' := 119) hZ dX4_init_118 rfl 1 rfl ?_
    refine x_iconst (v := 3) (pc' := 120) hZ (by decide) dX4_init_119 rfl ?_
    refine x_icmp_ge (tgt := 136) (pc' := 123) hZ dX4_init_120 (by decide) rfl (fun c120 => ?_) (fun c120 => ?_)
    · replace h := h.1 c120
      refine x_lv [] (lv' := []) rfl ?_
      exact hK l1 v_page h
    · replace h := h.2 c120
      refine x_aload_n (pc' := 124) hZ dX4_init_123 rfl 0 rfl ?_
      refine g_RX4_16 (pc' := 127) hZ dX4_init_124 rfl 0 rfl rfl ?_
      refine x_iload_n (pc' := 128) hZ dX4_init_127 rfl 1 rfl ?_
      refine x_iconst (v := 1) (pc' := 129) hZ (by decide) dX4_init_128 rfl ?_
      obtain ⟨h129, h⟩ := h
      refine x_iast (pc' := 130) (ws' := [(q_this, cO 4 [.int v_thrown, .ref q_text, .int v_textSize, .int v_place, .int v_people, .ref q_ageing, .ref q_page, .int v_readPeople, .ref q_readAgeing, .ref q_readPage, .ref q_book, .int v_acts, .ref q_kept, .ref q_isKept, .int v_heard, .ref q_heardWho, .ref q_heardIs, .long v_seed, .ref q_tried, .ref q_chooser, .int v_choosers, .ref q_best, .int v_sets, .int v_surely, .ref q_alives]), (q_text, cA E 40 v_text), (q_ageing, cA E 6 v_ageing), (q_page, cA E 25 (upd v_page (ix l1) 1)), (q_readAgeing, cA E 6 v_readAgeing), (q_readPage, cA E 25 v_readPage), (q_book, cA E 350 v_book), (q_kept, cA E 50 v_kept), (q_isKept, cB E 2 v_isKept), (q_heardWho, cA E 6 v_heardWho), (q_heardIs, cB E 6 v_heardIs), (q_tried, cA E 25 v_tried), (q_chooser, cA E 6 v_chooser), (q_best, cA E 7 v_best), (q_alives, cA E 6 v_alives)]) hZ h129 dX4_init_129 rfl 3 rfl rfl ?_
      obtain ⟨x130, e130⟩ : ∃ y : Int32, y = l1 + 1 := ⟨_, rfl⟩
      replace h := h x130 e130
      refine x_iinc (i := 1) (v := x130) (pc' := 133) (lv' := [(1, .int x130), (0, .ref q_this)]) hZ dX4_init_130 rfl 1 rfl (by rw [e130]; rfl) (by decide) rfl ?_
      refine x_goto (pc' := 118) hZ dX4_init_133 (by decide) ?_
      refine x_lv [1, 0] (lv' := [(0, .ref q_this), (1, .int x130)]) rfl ?_
      exact ih x130 (upd v_page (ix l1) 1) h hK
set_option maxHeartbeats 4000000 in
set_option maxRecDepth 100000 in
theorem c_X4_init (E : XE) (q_this : Nat) (post : Int32 → Int32 → Int32 → Int32 → Int32 → Int32 → Int32 → Int64 → Int32 → Int32 → Int32 → (Nat → Int32) → (Nat → Int32) → (Nat → Int32) → (Nat → Int32) → (Nat → Int32) → (Nat → Int32) → (Nat → Int32) → (Nat → Int32) → (Nat → Int32) → (Nat → Int32) → (Nat → Int32) → (Nat → Int32) → (Nat → Int32) → (Nat → Int32) → Prop) (h : p_X4_init  post) : ConV E yX4_init cX4_init 2 { frames := 1, cells := 14, slots := 560, locals := 12 } 14 560 [.ref q_this] [(q_this, cO 4 [.int 0, .null, .int 0, .int 0, .int 0, .null, .null, .int 0, .null, .null, .null, .int 0, .null, .null, .int 0, .null, .null, .long 0, .null, .null, .int 0, .null, .int 0, .int 0, .null])] (fun w => ∃ (q_text : Nat) (q_ageing : Nat) (q_page : Nat) (q_readAgeing : Nat) (q_readPage : Nat) (q_book : Nat) (q_kept : Nat) (q_isKept : Nat) (q_heardWho : Nat) (q_heardIs : Nat) (q_tried : Nat) (q_chooser : Nat) (q_best : Nat) (q_alives : Nat) (v_thrown : Int32) (v_textSize : Int32) (v_place : Int32) (v_people : Int32) (v_readPeople : Int32) (v_acts : Int32) (v_heard : Int32) (v_seed : Int64) (v_choosers : Int32) (v_sets : Int32) (v_surely : Int32) (v_text : Nat → Int32) (v_ageing : Nat → Int32) (v_page : Nat → Int32) (v_readAgeing : Nat → Int32) (v_readPage : Nat → Int32) (v_book : Nat → Int32) (v_kept : Nat → Int32) (v_isKept : Nat → Int32) (v_heardWho : Nat → Int32) (v_heardIs : Nat → Int32) (v_tried : Nat → Int32) (v_chooser : Nat → Int32) (v_best : Nat → Int32) (v_alives : Nat → Int32), w = [(q_this, cO 4 [.int v_thrown, .ref q_text, .int v_textSize, .int v_place, .int v_people, .ref q_ageing, .ref q_page, .int v_readPeople, .ref q_readAgeing, .ref q_readPage, .ref q_book, .int v_acts, .ref q_kept, .ref q_isKept, .int v_heard, .ref q_heardWho, .ref q_heardIs, .long v_seed, .ref q_tried, .ref q_chooser, .int v_choosers, .ref q_best, .int v_sets, .int v_surely, .ref q_alives]), (q_text, cA E 40 v_text), (q_ageing, cA E 6 v_ageing), (q_page, cA E 25 v_page), (q_readAgeing, cA E 6 v_readAgeing), (q_readPage, cA E 25 v_readPage), (q_book, cA E 350 v_book), (q_kept, cA E 50 v_kept), (q_isKept, cB E 2 v_isKept), (q_heardWho, cA E 6 v_heardWho), (q_heardIs, cB E 6 v_heardIs), (q_tried, cA E 25 v_tried), (q_chooser, cA E 6 v_chooser), (q_best, cA E 7 v_best), (q_alives, cA E 6 v_alives)] ∧ post v_thrown v_textSize v_place v_people v_readPeople v_acts v_heard v_seed v_choosers v_sets v_surely v_text v_ageing v_page v_readAgeing v_readPage v_book v_kept v_isKept v_heardWho v_heardIs v_tried v_chooser v_best v_alives) := by
  refine ConV.of (by decide +kernel) (Nat.le_of_ble_eq_true rfl) (fun Z hZ hI hRet => ?_)
  replace hZ : XOK E Z RX4 cX4_init 2 { frames := 1, cells := 14, slots := 560, locals := 12 } := hZ
  replace hI : XNm Z "<init>" := hI
  show XW E Z 0 0 [(q_this, cO 4 [.int 0, .null, .int 0, .int 0, .int 0, .null, .null, .int 0, .null, .null, .null, .int 0, .null, .null, .int 0, .null, .null, .long 0, .null, .null, .int 0, .null, .int 0, .int 0, .null])] [(0, .ref q_this)] [] 0
  unfold p_X4_init at h
  refine x_aload_n (pc' := 1) hZ dX4_init_0 rfl 0 rfl ?_
  refine x_objInit (pc' := 4) hZ kl_RX4_1 dX4_init_1 rfl (Nat.le_of_ble_eq_true rfl) (Nat.le_of_ble_eq_true rfl) ?_
  refine x_aload_n (pc' := 5) hZ dX4_init_4 rfl 0 rfl ?_
  refine x_bipush (v := 40) (pc' := 7) hZ (by decide) dX4_init_5 rfl ?_
  refine x_newi (pc' := 9) (z := 40) (c' := 1) (n' := 40) hZ kA_int dX4_init_7 rfl (by decide) (by decide) (Nat.le_of_ble_eq_true rfl) rfl rfl (Nat.le_of_ble_eq_true rfl) (Nat.le_of_ble_eq_true rfl) (fun q7 => ?_)
  refine x_ws (ws' := [(q_this, cO 4 [.int 0, .null, .int 0, .int 0, .int 0, .null, .null, .int 0, .null, .null, .null, .int 0, .null, .null, .int 0, .null, .null, .long 0, .null, .null, .int 0, .null, .int 0, .int 0, .null]), (q7, cA E 40 (fun _ => 0))]) [0, 1] rfl (by decide) ?_
  refine s_RX4_7 (pc' := 12) (ws' := [(q_this, cO 4 [.int 0, .ref q7, .int 0, .int 0, .int 0, .null, .null, .int 0, .null, .null, .null, .int 0, .null, .null, .int 0, .null, .null, .long 0, .null, .null, .int 0, .null, .int 0, .int 0, .null]), (q7, cA E 40 (fun _ => 0))]) hZ hI dX4_init_9 rfl 0 rfl (Nat.le_of_ble_eq_true rfl) rfl ?_
  refine x_aload_n (pc' := 13) hZ dX4_init_12 rfl 0 rfl ?_
  refine x_bipush (v := 6) (pc' := 15) hZ (by decide) dX4_init_13 rfl ?_
  refine x_newi (pc' := 17) (z := 6) (c' := 2) (n' := 46) hZ kA_int dX4_init_15 rfl (by decide) (by decide) (Nat.le_of_ble_eq_true rfl) rfl rfl (Nat.le_of_ble_eq_true rfl) (Nat.le_of_ble_eq_true rfl) (fun q15 => ?_)
  refine x_ws (ws' := [(q_this, cO 4 [.int 0, .ref q7, .int 0, .int 0, .int 0, .null, .null, .int 0, .null, .null, .null, .int 0, .null, .null, .int 0, .null, .null, .long 0, .null, .null, .int 0, .null, .int 0, .int 0, .null]), (q7, cA E 40 (fun _ => 0)), (q15, cA E 6 (fun _ => 0))]) [0, 1, 2] rfl (by decide) ?_
  refine s_RX4_13 (pc' := 20) (ws' := [(q_this, cO 4 [.int 0, .ref q7, .int 0, .int 0, .int 0, .ref q15, .null, .int 0, .null, .null, .null, .int 0, .null, .null, .int 0, .null, .null, .long 0, .null, .null, .int 0, .null, .int 0, .int 0, .null]), (q7, cA E 40 (fun _ => 0)), (q15, cA E 6 (fun _ => 0))]) hZ hI dX4_init_17 rfl 0 rfl (Nat.le_of_ble_eq_true rfl) rfl ?_
  refine x_aload_n (pc' := 21) hZ dX4_init_20 rfl 0 rfl ?_
  refine x_bipush (v := 25) (pc' := 23) hZ (by decide) dX4_init_21 rfl ?_
  refine x_newi (pc' := 25) (z := 25) (c' := 3) (n' := 71) hZ kA_int dX4_init_23 rfl (by decide) (by decide) (Nat.le_of_ble_eq_true rfl) rfl rfl (Nat.le_of_ble_eq_true rfl) (Nat.le_of_ble_eq_true rfl) (fun q23 => ?_)
  refine x_ws (ws' := [(q_this, cO 4 [.int 0, .ref q7, .int 0, .int 0, .int 0, .ref q15, .null, .int 0, .null, .null, .null, .int 0, .null, .null, .int 0, .null, .null, .long 0, .null, .null, .int 0, .null, .int 0, .int 0, .null]), (q7, cA E 40 (fun _ => 0)), (q15, cA E 6 (fun _ => 0)), (q23, cA E 25 (fun _ => 0))]) [0, 1, 2, 3] rfl (by decide) ?_
  refine s_RX4_16 (pc' := 28) (ws' := [(q_this, cO 4 [.int 0, .ref q7, .int 0, .int 0, .int 0, .ref q15, .ref q23, .int 0, .null, .null, .null, .int 0, .null, .null, .int 0, .null, .null, .long 0, .null, .null, .int 0, .null, .int 0, .int 0, .null]), (q7, cA E 40 (fun _ => 0)), (q15, cA E 6 (fun _ => 0)), (q23, cA E 25 (fun _ => 0))]) hZ hI dX4_init_25 rfl 0 rfl (Nat.le_of_ble_eq_true rfl) rfl ?_
  refine x_aload_n (pc' := 29) hZ dX4_init_28 rfl 0 rfl ?_
  refine x_bipush (v := 6) (pc' := 31) hZ (by decide) dX4_init_29 rfl ?_
  refine x_newi (pc' := 33) (z := 6) (c' := 4) (n' := 77) hZ kA_int dX4_init_31 rfl (by decide) (by decide) (Nat.le_of_ble_eq_true rfl) rfl rfl (Nat.le_of_ble_eq_true rfl) (Nat.le_of_ble_eq_true rfl) (fun q31 => ?_)
  refine x_ws (ws' := [(q_this, cO 4 [.int 0, .ref q7, .int 0, .int 0, .int 0, .ref q15, .ref q23, .int 0, .null, .null, .null, .int 0, .null, .null, .int 0, .null, .null, .long 0, .null, .null, .int 0, .null, .int 0, .int 0, .null]), (q7, cA E 40 (fun _ => 0)), (q15, cA E 6 (fun _ => 0)), (q23, cA E 25 (fun _ => 0)), (q31, cA E 6 (fun _ => 0))]) [0, 1, 2, 3, 4] rfl (by decide) ?_
  refine s_RX4_19 (pc' := 36) (ws' := [(q_this, cO 4 [.int 0, .ref q7, .int 0, .int 0, .int 0, .ref q15, .ref q23, .int 0, .ref q31, .null, .null, .int 0, .null, .null, .int 0, .null, .null, .long 0, .null, .null, .int 0, .null, .int 0, .int 0, .null]), (q7, cA E 40 (fun _ => 0)), (q15, cA E 6 (fun _ => 0)), (q23, cA E 25 (fun _ => 0)), (q31, cA E 6 (fun _ => 0))]) hZ hI dX4_init_33 rfl 0 rfl (Nat.le_of_ble_eq_true rfl) rfl ?_
  refine x_aload_n (pc' := 37) hZ dX4_init_36 rfl 0 rfl ?_
  refine x_bipush (v := 25) (pc' := 39) hZ (by decide) dX4_init_37 rfl ?_
  refine x_newi (pc' := 41) (z := 25) (c' := 5) (n' := 102) hZ kA_int dX4_init_39 rfl (by decide) (by decide) (Nat.le_of_ble_eq_true rfl) rfl rfl (Nat.le_of_ble_eq_true rfl) (Nat.le_of_ble_eq_true rfl) (fun q39 => ?_)
  refine x_ws (ws' := [(q_this, cO 4 [.int 0, .ref q7, .int 0, .int 0, .int 0, .ref q15, .ref q23, .int 0, .ref q31, .null, .null, .int 0, .null, .null, .int 0, .null, .null, .long 0, .null, .null, .int 0, .null, .int 0, .int 0, .null]), (q7, cA E 40 (fun _ => 0)), (q15, cA E 6 (fun _ => 0)), (q23, cA E 25 (fun _ => 0)), (q31, cA E 6 (fun _ => 0)), (q39, cA E 25 (fun _ => 0))]) [0, 1, 2, 3, 4, 5] rfl (by decide) ?_
  refine s_RX4_22 (pc' := 44) (ws' := [(q_this, cO 4 [.int 0, .ref q7, .int 0, .int 0, .int 0, .ref q15, .ref q23, .int 0, .ref q31, .ref q39, .null, .int 0, .null, .null, .int 0, .null, .null, .long 0, .null, .null, .int 0, .null, .int 0, .int 0, .null]), (q7, cA E 40 (fun _ => 0)), (q15, cA E 6 (fun _ => 0)), (q23, cA E 25 (fun _ => 0)), (q31, cA E 6 (fun _ => 0)), (q39, cA E 25 (fun _ => 0))]) hZ hI dX4_init_41 rfl 0 rfl (Nat.le_of_ble_eq_true rfl) rfl ?_
  refine x_aload_n (pc' := 45) hZ dX4_init_44 rfl 0 rfl ?_
  refine x_sipush (v := 350) (pc' := 48) hZ (by decide) dX4_init_45 rfl ?_
  refine x_newi (pc' := 50) (z := 350) (c' := 6) (n' := 452) hZ kA_int dX4_init_48 rfl (by decide) (by decide) (Nat.le_of_ble_eq_true rfl) rfl rfl (Nat.le_of_ble_eq_true rfl) (Nat.le_of_ble_eq_true rfl) (fun q48 => ?_)
  refine x_ws (ws' := [(q_this, cO 4 [.int 0, .ref q7, .int 0, .int 0, .int 0, .ref q15, .ref q23, .int 0, .ref q31, .ref q39, .null, .int 0, .null, .null, .int 0, .null, .null, .long 0, .null, .null, .int 0, .null, .int 0, .int 0, .null]), (q7, cA E 40 (fun _ => 0)), (q15, cA E 6 (fun _ => 0)), (q23, cA E 25 (fun _ => 0)), (q31, cA E 6 (fun _ => 0)), (q39, cA E 25 (fun _ => 0)), (q48, cA E 350 (fun _ => 0))]) [0, 1, 2, 3, 4, 5, 6] rfl (by decide) ?_
  refine s_RX4_25 (pc' := 53) (ws' := [(q_this, cO 4 [.int 0, .ref q7, .int 0, .int 0, .int 0, .ref q15, .ref q23, .int 0, .ref q31, .ref q39, .ref q48, .int 0, .null, .null, .int 0, .null, .null, .long 0, .null, .null, .int 0, .null, .int 0, .int 0, .null]), (q7, cA E 40 (fun _ => 0)), (q15, cA E 6 (fun _ => 0)), (q23, cA E 25 (fun _ => 0)), (q31, cA E 6 (fun _ => 0)), (q39, cA E 25 (fun _ => 0)), (q48, cA E 350 (fun _ => 0))]) hZ hI dX4_init_50 rfl 0 rfl (Nat.le_of_ble_eq_true rfl) rfl ?_
  refine x_aload_n (pc' := 54) hZ dX4_init_53 rfl 0 rfl ?_
  refine x_bipush (v := 50) (pc' := 56) hZ (by decide) dX4_init_54 rfl ?_
  refine x_newi (pc' := 58) (z := 50) (c' := 7) (n' := 502) hZ kA_int dX4_init_56 rfl (by decide) (by decide) (Nat.le_of_ble_eq_true rfl) rfl rfl (Nat.le_of_ble_eq_true rfl) (Nat.le_of_ble_eq_true rfl) (fun q56 => ?_)
  refine x_ws (ws' := [(q_this, cO 4 [.int 0, .ref q7, .int 0, .int 0, .int 0, .ref q15, .ref q23, .int 0, .ref q31, .ref q39, .ref q48, .int 0, .null, .null, .int 0, .null, .null, .long 0, .null, .null, .int 0, .null, .int 0, .int 0, .null]), (q7, cA E 40 (fun _ => 0)), (q15, cA E 6 (fun _ => 0)), (q23, cA E 25 (fun _ => 0)), (q31, cA E 6 (fun _ => 0)), (q39, cA E 25 (fun _ => 0)), (q48, cA E 350 (fun _ => 0)), (q56, cA E 50 (fun _ => 0))]) [0, 1, 2, 3, 4, 5, 6, 7] rfl (by decide) ?_
  refine s_RX4_28 (pc' := 61) (ws' := [(q_this, cO 4 [.int 0, .ref q7, .int 0, .int 0, .int 0, .ref q15, .ref q23, .int 0, .ref q31, .ref q39, .ref q48, .int 0, .ref q56, .null, .int 0, .null, .null, .long 0, .null, .null, .int 0, .null, .int 0, .int 0, .null]), (q7, cA E 40 (fun _ => 0)), (q15, cA E 6 (fun _ => 0)), (q23, cA E 25 (fun _ => 0)), (q31, cA E 6 (fun _ => 0)), (q39, cA E 25 (fun _ => 0)), (q48, cA E 350 (fun _ => 0)), (q56, cA E 50 (fun _ => 0))]) hZ hI dX4_init_58 rfl 0 rfl (Nat.le_of_ble_eq_true rfl) rfl ?_
  refine x_aload_n (pc' := 62) hZ dX4_init_61 rfl 0 rfl ?_
  refine x_iconst (v := 2) (pc' := 63) hZ (by decide) dX4_init_62 rfl ?_
  refine x_newz (pc' := 65) (z := 2) (c' := 8) (n' := 504) hZ kA_boolean dX4_init_63 rfl (by decide) (by decide) (Nat.le_of_ble_eq_true rfl) rfl rfl (Nat.le_of_ble_eq_true rfl) (Nat.le_of_ble_eq_true rfl) (fun q63 => ?_)
  refine x_ws (ws' := [(q_this, cO 4 [.int 0, .ref q7, .int 0, .int 0, .int 0, .ref q15, .ref q23, .int 0, .ref q31, .ref q39, .ref q48, .int 0, .ref q56, .null, .int 0, .null, .null, .long 0, .null, .null, .int 0, .null, .int 0, .int 0, .null]), (q7, cA E 40 (fun _ => 0)), (q15, cA E 6 (fun _ => 0)), (q23, cA E 25 (fun _ => 0)), (q31, cA E 6 (fun _ => 0)), (q39, cA E 25 (fun _ => 0)), (q48, cA E 350 (fun _ => 0)), (q56, cA E 50 (fun _ => 0)), (q63, cB E 2 (fun _ => 0))]) [0, 1, 2, 3, 4, 5, 6, 7, 8] rfl (by decide) ?_
  refine s_RX4_31 (pc' := 68) (ws' := [(q_this, cO 4 [.int 0, .ref q7, .int 0, .int 0, .int 0, .ref q15, .ref q23, .int 0, .ref q31, .ref q39, .ref q48, .int 0, .ref q56, .ref q63, .int 0, .null, .null, .long 0, .null, .null, .int 0, .null, .int 0, .int 0, .null]), (q7, cA E 40 (fun _ => 0)), (q15, cA E 6 (fun _ => 0)), (q23, cA E 25 (fun _ => 0)), (q31, cA E 6 (fun _ => 0)), (q39, cA E 25 (fun _ => 0)), (q48, cA E 350 (fun _ => 0)), (q56, cA E 50 (fun _ => 0)), (q63, cB E 2 (fun _ => 0))]) hZ hI dX4_init_65 rfl 0 rfl (Nat.le_of_ble_eq_true rfl) rfl ?_
  refine x_aload_n (pc' := 69) hZ dX4_init_68 rfl 0 rfl ?_
  refine x_bipush (v := 6) (pc' := 71) hZ (by decide) dX4_init_69 rfl ?_
  refine x_newi (pc' := 73) (z := 6) (c' := 9) (n' := 510) hZ kA_int dX4_init_71 rfl (by decide) (by decide) (Nat.le_of_ble_eq_true rfl) rfl rfl (Nat.le_of_ble_eq_true rfl) (Nat.le_of_ble_eq_true rfl) (fun q71 => ?_)
  refine x_ws (ws' := [(q_this, cO 4 [.int 0, .ref q7, .int 0, .int 0, .int 0, .ref q15, .ref q23, .int 0, .ref q31, .ref q39, .ref q48, .int 0, .ref q56, .ref q63, .int 0, .null, .null, .long 0, .null, .null, .int 0, .null, .int 0, .int 0, .null]), (q7, cA E 40 (fun _ => 0)), (q15, cA E 6 (fun _ => 0)), (q23, cA E 25 (fun _ => 0)), (q31, cA E 6 (fun _ => 0)), (q39, cA E 25 (fun _ => 0)), (q48, cA E 350 (fun _ => 0)), (q56, cA E 50 (fun _ => 0)), (q63, cB E 2 (fun _ => 0)), (q71, cA E 6 (fun _ => 0))]) [0, 1, 2, 3, 4, 5, 6, 7, 8, 9] rfl (by decide) ?_
  refine s_RX4_35 (pc' := 76) (ws' := [(q_this, cO 4 [.int 0, .ref q7, .int 0, .int 0, .int 0, .ref q15, .ref q23, .int 0, .ref q31, .ref q39, .ref q48, .int 0, .ref q56, .ref q63, .int 0, .ref q71, .null, .long 0, .null, .null, .int 0, .null, .int 0, .int 0, .null]), (q7, cA E 40 (fun _ => 0)), (q15, cA E 6 (fun _ => 0)), (q23, cA E 25 (fun _ => 0)), (q31, cA E 6 (fun _ => 0)), (q39, cA E 25 (fun _ => 0)), (q48, cA E 350 (fun _ => 0)), (q56, cA E 50 (fun _ => 0)), (q63, cB E 2 (fun _ => 0)), (q71, cA E 6 (fun _ => 0))]) hZ hI dX4_init_73 rfl 0 rfl (Nat.le_of_ble_eq_true rfl) rfl ?_
  refine x_aload_n (pc' := 77) hZ dX4_init_76 rfl 0 rfl ?_
  refine x_bipush (v := 6) (pc' := 79) hZ (by decide) dX4_init_77 rfl ?_
  refine x_newz (pc' := 81) (z := 6) (c' := 10) (n' := 516) hZ kA_boolean dX4_init_79 rfl (by decide) (by decide) (Nat.le_of_ble_eq_true rfl) rfl rfl (Nat.le_of_ble_eq_true rfl) (Nat.le_of_ble_eq_true rfl) (fun q79 => ?_)
  refine x_ws (ws' := [(q_this, cO 4 [.int 0, .ref q7, .int 0, .int 0, .int 0, .ref q15, .ref q23, .int 0, .ref q31, .ref q39, .ref q48, .int 0, .ref q56, .ref q63, .int 0, .ref q71, .null, .long 0, .null, .null, .int 0, .null, .int 0, .int 0, .null]), (q7, cA E 40 (fun _ => 0)), (q15, cA E 6 (fun _ => 0)), (q23, cA E 25 (fun _ => 0)), (q31, cA E 6 (fun _ => 0)), (q39, cA E 25 (fun _ => 0)), (q48, cA E 350 (fun _ => 0)), (q56, cA E 50 (fun _ => 0)), (q63, cB E 2 (fun _ => 0)), (q71, cA E 6 (fun _ => 0)), (q79, cB E 6 (fun _ => 0))]) [0, 1, 2, 3, 4, 5, 6, 7, 8, 9, 10] rfl (by decide) ?_
  refine s_RX4_38 (pc' := 84) (ws' := [(q_this, cO 4 [.int 0, .ref q7, .int 0, .int 0, .int 0, .ref q15, .ref q23, .int 0, .ref q31, .ref q39, .ref q48, .int 0, .ref q56, .ref q63, .int 0, .ref q71, .ref q79, .long 0, .null, .null, .int 0, .null, .int 0, .int 0, .null]), (q7, cA E 40 (fun _ => 0)), (q15, cA E 6 (fun _ => 0)), (q23, cA E 25 (fun _ => 0)), (q31, cA E 6 (fun _ => 0)), (q39, cA E 25 (fun _ => 0)), (q48, cA E 350 (fun _ => 0)), (q56, cA E 50 (fun _ => 0)), (q63, cB E 2 (fun _ => 0)), (q71, cA E 6 (fun _ => 0)), (q79, cB E 6 (fun _ => 0))]) hZ hI dX4_init_81 rfl 0 rfl (Nat.le_of_ble_eq_true rfl) rfl ?_
  refine x_aload_n (pc' := 85) hZ dX4_init_84 rfl 0 rfl ?_
  refine x_bipush (v := 25) (pc' := 87) hZ (by decide) dX4_init_85 rfl ?_
  refine x_newi (pc' := 89) (z := 25) (c' := 11) (n' := 541) hZ kA_int dX4_init_87 rfl (by decide) (by decide) (Nat.le_of_ble_eq_true rfl) rfl rfl (Nat.le_of_ble_eq_true rfl) (Nat.le_of_ble_eq_true rfl) (fun q87 => ?_)
  refine x_ws (ws' := [(q_this, cO 4 [.int 0, .ref q7, .int 0, .int 0, .int 0, .ref q15, .ref q23, .int 0, .ref q31, .ref q39, .ref q48, .int 0, .ref q56, .ref q63, .int 0, .ref q71, .ref q79, .long 0, .null, .null, .int 0, .null, .int 0, .int 0, .null]), (q7, cA E 40 (fun _ => 0)), (q15, cA E 6 (fun _ => 0)), (q23, cA E 25 (fun _ => 0)), (q31, cA E 6 (fun _ => 0)), (q39, cA E 25 (fun _ => 0)), (q48, cA E 350 (fun _ => 0)), (q56, cA E 50 (fun _ => 0)), (q63, cB E 2 (fun _ => 0)), (q71, cA E 6 (fun _ => 0)), (q79, cB E 6 (fun _ => 0)), (q87, cA E 25 (fun _ => 0))]) [0, 1, 2, 3, 4, 5, 6, 7, 8, 9, 10, 11] rfl (by decide) ?_
  refine s_RX4_41 (pc' := 92) (ws' := [(q_this, cO 4 [.int 0, .ref q7, .int 0, .int 0, .int 0, .ref q15, .ref q23, .int 0, .ref q31, .ref q39, .ref q48, .int 0, .ref q56, .ref q63, .int 0, .ref q71, .ref q79, .long 0, .ref q87, .null, .int 0, .null, .int 0, .int 0, .null]), (q7, cA E 40 (fun _ => 0)), (q15, cA E 6 (fun _ => 0)), (q23, cA E 25 (fun _ => 0)), (q31, cA E 6 (fun _ => 0)), (q39, cA E 25 (fun _ => 0)), (q48, cA E 350 (fun _ => 0)), (q56, cA E 50 (fun _ => 0)), (q63, cB E 2 (fun _ => 0)), (q71, cA E 6 (fun _ => 0)), (q79, cB E 6 (fun _ => 0)), (q87, cA E 25 (fun _ => 0))]) hZ hI dX4_init_89 rfl 0 rfl (Nat.le_of_ble_eq_true rfl) rfl ?_
  refine x_aload_n (pc' := 93) hZ dX4_init_92 rfl 0 rfl ?_
  refine x_bipush (v := 6) (pc' := 95) hZ (by decide) dX4_init_93 rfl ?_
  refine x_newi (pc' := 97) (z := 6) (c' := 12) (n' := 547) hZ kA_int dX4_init_95 rfl (by decide) (by decide) (Nat.le_of_ble_eq_true rfl) rfl rfl (Nat.le_of_ble_eq_true rfl) (Nat.le_of_ble_eq_true rfl) (fun q95 => ?_)
  refine x_ws (ws' := [(q_this, cO 4 [.int 0, .ref q7, .int 0, .int 0, .int 0, .ref q15, .ref q23, .int 0, .ref q31, .ref q39, .ref q48, .int 0, .ref q56, .ref q63, .int 0, .ref q71, .ref q79, .long 0, .ref q87, .null, .int 0, .null, .int 0, .int 0, .null]), (q7, cA E 40 (fun _ => 0)), (q15, cA E 6 (fun _ => 0)), (q23, cA E 25 (fun _ => 0)), (q31, cA E 6 (fun _ => 0)), (q39, cA E 25 (fun _ => 0)), (q48, cA E 350 (fun _ => 0)), (q56, cA E 50 (fun _ => 0)), (q63, cB E 2 (fun _ => 0)), (q71, cA E 6 (fun _ => 0)), (q79, cB E 6 (fun _ => 0)), (q87, cA E 25 (fun _ => 0)), (q95, cA E 6 (fun _ => 0))]) [0, 1, 2, 3, 4, 5, 6, 7, 8, 9, 10, 11, 12] rfl (by decide) ?_
  refine s_RX4_44 (pc' := 100) (ws' := [(q_this, cO 4 [.int 0, .ref q7, .int 0, .int 0, .int 0, .ref q15, .ref q23, .int 0, .ref q31, .ref q39, .ref q48, .int 0, .ref q56, .ref q63, .int 0, .ref q71, .ref q79, .long 0, .ref q87, .ref q95, .int 0, .null, .int 0, .int 0, .null]), (q7, cA E 40 (fun _ => 0)), (q15, cA E 6 (fun _ => 0)), (q23, cA E 25 (fun _ => 0)), (q31, cA E 6 (fun _ => 0)), (q39, cA E 25 (fun _ => 0)), (q48, cA E 350 (fun _ => 0)), (q56, cA E 50 (fun _ => 0)), (q63, cB E 2 (fun _ => 0)), (q71, cA E 6 (fun _ => 0)), (q79, cB E 6 (fun _ => 0)), (q87, cA E 25 (fun _ => 0)), (q95, cA E 6 (fun _ => 0))]) hZ hI dX4_init_97 rfl 0 rfl (Nat.le_of_ble_eq_true rfl) rfl ?_
  refine x_aload_n (pc' := 101) hZ dX4_init_100 rfl 0 rfl ?_
  refine x_bipush (v := 7) (pc' := 103) hZ (by decide) dX4_init_101 rfl ?_
  refine x_newi (pc' := 105) (z := 7) (c' := 13) (n' := 554) hZ kA_int dX4_init_103 rfl (by decide) (by decide) (Nat.le_of_ble_eq_true rfl) rfl rfl (Nat.le_of_ble_eq_true rfl) (Nat.le_of_ble_eq_true rfl) (fun q103 => ?_)
  refine x_ws (ws' := [(q_this, cO 4 [.int 0, .ref q7, .int 0, .int 0, .int 0, .ref q15, .ref q23, .int 0, .ref q31, .ref q39, .ref q48, .int 0, .ref q56, .ref q63, .int 0, .ref q71, .ref q79, .long 0, .ref q87, .ref q95, .int 0, .null, .int 0, .int 0, .null]), (q7, cA E 40 (fun _ => 0)), (q15, cA E 6 (fun _ => 0)), (q23, cA E 25 (fun _ => 0)), (q31, cA E 6 (fun _ => 0)), (q39, cA E 25 (fun _ => 0)), (q48, cA E 350 (fun _ => 0)), (q56, cA E 50 (fun _ => 0)), (q63, cB E 2 (fun _ => 0)), (q71, cA E 6 (fun _ => 0)), (q79, cB E 6 (fun _ => 0)), (q87, cA E 25 (fun _ => 0)), (q95, cA E 6 (fun _ => 0)), (q103, cA E 7 (fun _ => 0))]) [0, 1, 2, 3, 4, 5, 6, 7, 8, 9, 10, 11, 12, 13] rfl (by decide) ?_
  refine s_RX4_47 (pc' := 108) (ws' := [(q_this, cO 4 [.int 0, .ref q7, .int 0, .int 0, .int 0, .ref q15, .ref q23, .int 0, .ref q31, .ref q39, .ref q48, .int 0, .ref q56, .ref q63, .int 0, .ref q71, .ref q79, .long 0, .ref q87, .ref q95, .int 0, .ref q103, .int 0, .int 0, .null]), (q7, cA E 40 (fun _ => 0)), (q15, cA E 6 (fun _ => 0)), (q23, cA E 25 (fun _ => 0)), (q31, cA E 6 (fun _ => 0)), (q39, cA E 25 (fun _ => 0)), (q48, cA E 350 (fun _ => 0)), (q56, cA E 50 (fun _ => 0)), (q63, cB E 2 (fun _ => 0)), (q71, cA E 6 (fun _ => 0)), (q79, cB E 6 (fun _ => 0)), (q87, cA E 25 (fun _ => 0)), (q95, cA E 6 (fun _ => 0)), (q103, cA E 7 (fun _ => 0))]) hZ hI dX4_init_105 rfl 0 rfl (Nat.le_of_ble_eq_true rfl) rfl ?_
  refine x_aload_n (pc' := 109) hZ dX4_init_108 rfl 0 rfl ?_
  refine x_bipush (v := 6) (pc' := 111) hZ (by decide) dX4_init_109 rfl ?_
  refine x_newi (pc' := 113) (z := 6) (c' := 14) (n' := 560) hZ kA_int dX4_init_111 rfl (by decide) (by decide) (Nat.le_of_ble_eq_true rfl) rfl rfl (Nat.le_of_ble_eq_true rfl) (Nat.le_of_ble_eq_true rfl) (fun q111 => ?_)
  refine x_ws (ws' := [(q_this, cO 4 [.int 0, .ref q7, .int 0, .int 0, .int 0, .ref q15, .ref q23, .int 0, .ref q31, .ref q39, .ref q48, .int 0, .ref q56, .ref q63, .int 0, .ref q71, .ref q79, .long 0, .ref q87, .ref q95, .int 0, .ref q103, .int 0, .int 0, .null]), (q7, cA E 40 (fun _ => 0)), (q15, cA E 6 (fun _ => 0)), (q23, cA E 25 (fun _ => 0)), (q31, cA E 6 (fun _ => 0)), (q39, cA E 25 (fun _ => 0)), (q48, cA E 350 (fun _ => 0)), (q56, cA E 50 (fun _ => 0)), (q63, cB E 2 (fun _ => 0)), (q71, cA E 6 (fun _ => 0)), (q79, cB E 6 (fun _ => 0)), (q87, cA E 25 (fun _ => 0)), (q95, cA E 6 (fun _ => 0)), (q103, cA E 7 (fun _ => 0)), (q111, cA E 6 (fun _ => 0))]) [0, 1, 2, 3, 4, 5, 6, 7, 8, 9, 10, 11, 12, 13, 14] rfl (by decide) ?_
  refine s_RX4_50 (pc' := 116) (ws' := [(q_this, cO 4 [.int 0, .ref q7, .int 0, .int 0, .int 0, .ref q15, .ref q23, .int 0, .ref q31, .ref q39, .ref q48, .int 0, .ref q56, .ref q63, .int 0, .ref q71, .ref q79, .long 0, .ref q87, .ref q95, .int 0, .ref q103, .int 0, .int 0, .ref q111]), (q7, cA E 40 (fun _ => 0)), (q15, cA E 6 (fun _ => 0)), (q23, cA E 25 (fun _ => 0)), (q31, cA E 6 (fun _ => 0)), (q39, cA E 25 (fun _ => 0)), (q48, cA E 350 (fun _ => 0)), (q56, cA E 50 (fun _ => 0)), (q63, cB E 2 (fun _ => 0)), (q71, cA E 6 (fun _ => 0)), (q79, cB E 6 (fun _ => 0)), (q87, cA E 25 (fun _ => 0)), (q95, cA E 6 (fun _ => 0)), (q103, cA E 7 (fun _ => 0)), (q111, cA E 6 (fun _ => 0))]) hZ hI dX4_init_113 rfl 0 rfl (Nat.le_of_ble_eq_true rfl) rfl ?_
  refine x_iconst (v := 0) (pc' := 117) hZ (by decide) dX4_init_116 rfl ?_
  refine x_istore_n (i := 1) (pc' := 118) (lv' := [(1, .int 0), (0, .ref q_this)]) hZ dX4_init_117 rfl rfl (by decide) rfl ?_
  refine x_lv [1, 0] (lv' := [(0, .ref q_this), (1, .int 0)]) rfl ?_
  obtain ⟨k118, h⟩ := h
  refine t_X4_init_118 E Z q_this q7 q15 q23 q31 q39 q48 q56 q63 q71 q79 q87 q95 q103 q111 0 0 0 0 0 0 0 0 0 0 0 (fun _ => 0) (fun _ => 0) (fun _ => 0) (fun _ => 0) (fun _ => 0) (fun _ => 0) (fun _ => 0) (fun _ => 0) (fun _ => 0) (fun _ => 0) (fun _ => 0) (fun _ => 0) (fun _ => 0) hZ hI  _ 0 (fun _ => 0) h (fun l1_118 v_page_118 h => ?_)
  exact hRet _ _ _ dX4_init_136 ⟨_, _, _, _, _, _, _, _, _, _, _, _, _, _, _, _, _, _, _, _, _, _, _, _, _, _, _, _, _, _, _, _, _, _, _, _, _, _, _, rfl, h⟩
set_option maxHeartbeats 4000000 in
set_option maxRecDepth 100000 in
theorem c_X4_in (E : XE) (l0 : Int64) (l2 : Int64) (l4 : Int64) (post : Int32 → Prop) (h : p_X4_in l0 l2 l4 post) : ConI E yX4_in cX4_in 6 .boolean { frames := 0, cells := 0, slots := 0, locals := 0 } 0 0 [.long l0, .long l2, .long l4] [] (fun r w => w = [] ∧ post r ) := by
  refine ConIz.of (by decide +kernel) (Nat.le_of_ble_eq_true rfl) (fun Z hZ hI hRet => ?_)
  replace hZ : XOK E Z RX4 cX4_in 6 { frames := 0, cells := 0, slots := 0, locals := 0 } := hZ
  clear hI
  show XW E Z 0 0 [] [(0, .long l0), (2, .long l2), (4, .long l4)] [] 0
  unfold p_X4_in at h
  refine x_lload_n (pc' := 1) hZ dX4_in_0 rfl 0 rfl ?_
  refine x_lload_n (pc' := 2) hZ dX4_in_1 rfl 1 rfl ?_
  refine x_lcmp (pc' := 3) hZ dX4_in_2 rfl ?_
  refine x_if_lt (tgt := 17) (pc' := 6) hZ dX4_in_3 (by decide) rfl (fun c3 => ?_) (fun c3 => ?_)
  · replace h := h.1 c3
    refine x_iconst (v := 0) (pc' := 18) hZ (by decide) dX4_in_17 rfl ?_
    exact hRet _ _ _ _ dX4_in_18 (by decide) ⟨rfl, h⟩
  · replace h := h.2 c3
    refine x_lload_n (pc' := 7) hZ dX4_in_6 rfl 0 rfl ?_
    refine x_lload (pc' := 9) hZ dX4_in_7 rfl 2 rfl ?_
    refine x_lcmp (pc' := 10) hZ dX4_in_9 rfl ?_
    refine x_if_gt (tgt := 17) (pc' := 13) hZ dX4_in_10 (by decide) rfl (fun c10 => ?_) (fun c10 => ?_)
    · replace h := h.1 c10
      refine x_iconst (v := 0) (pc' := 18) hZ (by decide) dX4_in_17 rfl ?_
      exact hRet _ _ _ _ dX4_in_18 (by decide) ⟨rfl, h⟩
    · replace h := h.2 c10
      refine x_iconst (v := 1) (pc' := 14) hZ (by decide) dX4_in_13 rfl ?_
      refine x_goto (pc' := 18) hZ dX4_in_14 (by decide) ?_
      exact hRet _ _ _ _ dX4_in_18 (by decide) ⟨rfl, h⟩
set_option maxHeartbeats 4000000 in
set_option maxRecDepth 100000 in
theorem c_X4_write (E : XE) (q_this : Nat) (q_text : Nat) (q_ageing : Nat) (q_page : Nat) (q_readAgeing : Nat) (q_readPage : Nat) (q_book : Nat) (q_kept : Nat) (q_isKept : Nat) (q_heardWho : Nat) (q_heardIs : Nat) (q_tried : Nat) (q_chooser : Nat) (q_best : Nat) (q_alives : Nat) (v_thrown : Int32) (v_textSize : Int32) (v_place : Int32) (v_people : Int32) (v_readPeople : Int32) (v_acts : Int32) (v_heard : Int32) (v_seed : Int64) (v_choosers : Int32) (v_sets : Int32) (v_surely : Int32) (v_text : Nat → Int32) (l1 : Int32) (post : Int32 → Int32 → Int32 → (Nat → Int32) → Prop) (h : p_X4_write v_thrown v_textSize v_text l1 post) : ConI E yX4_write cX4_write 2 .int { frames := 1, cells := 0, slots := 0, locals := 25 } 0 0 [.ref q_this, .int l1] [(q_this, cO 4 [.int v_thrown, .ref q_text, .int v_textSize, .int v_place, .int v_people, .ref q_ageing, .ref q_page, .int v_readPeople, .ref q_readAgeing, .ref q_readPage, .ref q_book, .int v_acts, .ref q_kept, .ref q_isKept, .int v_heard, .ref q_heardWho, .ref q_heardIs, .long v_seed, .ref q_tried, .ref q_chooser, .int v_choosers, .ref q_best, .int v_sets, .int v_surely, .ref q_alives]), (q_text, cA E 40 v_text)] (fun r w => ∃ (u_thrown : Int32) (u_textSize : Int32) (u_text : Nat → Int32), w = [(q_this, cO 4 [.int u_thrown, .ref q_text, .int u_textSize, .int v_place, .int v_people, .ref q_ageing, .ref q_page, .int v_readPeople, .ref q_readAgeing, .ref q_readPage, .ref q_book, .int v_acts, .ref q_kept, .ref q_isKept, .int v_heard, .ref q_heardWho, .ref q_heardIs, .long v_seed, .ref q_tried, .ref q_chooser, .int v_choosers, .ref q_best, .int v_sets, .int v_surely, .ref q_alives]), (q_text, cA E 40 u_text)] ∧ post r u_thrown u_textSize u_text) := by
  refine ConI.of (by decide +kernel) (Nat.le_of_ble_eq_true rfl) (fun Z hZ hI hRet => ?_)
  replace hZ : XOK E Z RX4 cX4_write 2 { frames := 1, cells := 0, slots := 0, locals := 25 } := hZ
  clear hI
  show XW E Z 0 0 [(q_this, cO 4 [.int v_thrown, .ref q_text, .int v_textSize, .int v_place, .int v_people, .ref q_ageing, .ref q_page, .int v_readPeople, .ref q_readAgeing, .ref q_readPage, .ref q_book, .int v_acts, .ref q_kept, .ref q_isKept, .int v_heard, .ref q_heardWho, .ref q_heardIs, .long v_seed, .ref q_tried, .ref q_chooser, .int v_choosers, .ref q_best, .int v_sets, .int v_surely, .ref q_alives]), (q_text, cA E 40 v_text)] [(0, .ref q_this), (1, .int l1)] [] 0
  unfold p_X4_write at h
  refine x_aload_n (pc' := 1) hZ dX4_write_0 rfl 0 rfl ?_
  refine x_iconst (v := 0) (pc' := 2) hZ (by decide) dX4_write_1 rfl ?_
  refine s_RX4_53 (pc' := 5) (ws' := [(q_this, cO 4 [.int 0, .ref q_text, .int v_textSize, .int v_place, .int v_people, .ref q_ageing, .ref q_page, .int v_readPeople, .ref q_readAgeing, .ref q_readPage, .ref q_book, .int v_acts, .ref q_kept, .ref q_isKept, .int v_heard, .ref q_heardWho, .ref q_heardIs, .long v_seed, .ref q_tried, .ref q_chooser, .int v_choosers, .ref q_best, .int v_sets, .int v_surely, .ref q_alives]), (q_text, cA E 40 v_text)]) hZ dX4_write_2 rfl 0 rfl (Nat.le_of_ble_eq_true rfl) rfl ?_
  refine x_iload_n (pc' := 6) hZ dX4_write_5 rfl 1 rfl ?_
  refine x_i2l (pc' := 7) hZ dX4_write_6 rfl ?_
  refine x_lconst (v := 0) (pc' := 8) hZ (by decide) dX4_write_7 rfl ?_
  refine x_ldc2 (v := 255) (pc' := 11) hZ kl_RX4_64 dX4_write_8 rfl ?_
  refine k_RX4_60 (pc' := 14) (as := [.long l1.toInt64, .long 0, .long 255]) (rest := []) (c' := 0) (n' := 0) (wr := [(q_this, cO 4 [.int 0, .ref q_text, .int v_textSize, .int v_place, .int v_people, .ref q_ageing, .ref q_page, .int v_readPeople, .ref q_readAgeing, .ref q_readPage, .ref q_book, .int v_acts, .ref q_kept, .ref q_isKept, .int v_heard, .ref q_heardWho, .ref q_heardIs, .long v_seed, .ref q_tried, .ref q_chooser, .int v_choosers, .ref q_best, .int v_sets, .int v_surely, .ref q_alives]), (q_text, cA E 40 v_text)]) hZ (c_X4_in E l1.toInt64 0 255 _ h) dX4_write_11 rfl rfl rfl rfl rfl (Nat.le_of_ble_eq_true rfl) (Nat.le_of_ble_eq_true rfl) (Nat.le_of_ble_eq_true rfl) rfl rfl (Nat.le_of_ble_eq_true rfl) (Nat.le_of_ble_eq_true rfl) [] [0, 1] rfl rfl (by decide) (by decide) (by decide) (fun r11 w11 hw => ?_)
  obtain ⟨rfl, h⟩ := hw
  refine x_ws (ws' := [(q_this, cO 4 [.int 0, .ref q_text, .int v_textSize, .int v_place, .int v_people, .ref q_ageing, .ref q_page, .int v_readPeople, .ref q_readAgeing, .ref q_readPage, .ref q_book, .int v_acts, .ref q_kept, .ref q_isKept, .int v_heard, .ref q_heardWho, .ref q_heardIs, .long v_seed, .ref q_tried, .ref q_chooser, .int v_choosers, .ref q_best, .int v_sets, .int v_surely, .ref q_alives]), (q_text, cA E 40 v_text)]) [0, 1] rfl (by decide) ?_
  refine x_if_ne (tgt := 20) (pc' := 17) hZ dX4_write_14 (by decide) rfl (fun c14 => ?_) (fun c14 => ?_)
  · replace h := h.1 c14
    refine x_aload_n (pc' := 21) hZ dX4_write_20 rfl 0 rfl ?_
    refine g_RX4_66 (pc' := 24) hZ dX4_write_21 rfl 0 rfl rfl ?_
    refine x_bipush (v := 40) (pc' := 26) hZ (by decide) dX4_write_24 rfl ?_
    refine x_icmp_ne (tgt := 32) (pc' := 29) hZ dX4_write_26 (by decide) rfl (fun c26 => ?_) (fun c26 => ?_)
    · replace h := h.1 c26
      refine x_aload_n (pc' := 33) hZ dX4_write_32 rfl 0 rfl ?_
      refine g_RX4_7 (pc' := 36) hZ dX4_write_33 rfl 0 rfl rfl ?_
      refine x_aload_n (pc' := 37) hZ dX4_write_36 rfl 0 rfl ?_
      refine g_RX4_66 (pc' := 40) hZ dX4_write_37 rfl 0 rfl rfl ?_
      refine x_iload_n (pc' := 41) hZ dX4_write_40 rfl 1 rfl ?_
      obtain ⟨h41, h⟩ := h
      refine x_iast (pc' := 42) (ws' := [(q_this, cO 4 [.int 0, .ref q_text, .int v_textSize, .int v_place, .int v_people, .ref q_ageing, .ref q_page, .int v_readPeople, .ref q_readAgeing, .ref q_readPage, .ref q_book, .int v_acts, .ref q_kept, .ref q_isKept, .int v_heard, .ref q_heardWho, .ref q_heardIs, .long v_seed, .ref q_tried, .ref q_chooser, .int v_choosers, .ref q_best, .int v_sets, .int v_surely, .ref q_alives]), (q_text, cA E 40 (upd v_text (ix v_textSize) l1))]) hZ h41 dX4_write_41 rfl 1 rfl rfl ?_
      refine x_aload_n (pc' := 43) hZ dX4_write_42 rfl 0 rfl ?_
      refine x_dup (pc' := 44) hZ dX4_write_43 rfl rfl ?_
      refine g_RX4_66 (pc' := 47) hZ dX4_write_44 rfl 0 rfl rfl ?_
      refine x_iconst (v := 1) (pc' := 48) hZ (by decide) dX4_write_47 rfl ?_
      refine x_iadd (pc' := 49) hZ dX4_write_48 rfl ?_
      refine x_topi (fun x49 e49 => ?_)
      replace h := h x49 e49
      refine s_RX4_66 (pc' := 52) (ws' := [(q_this, cO 4 [.int 0, .ref q_text, .int x49, .int v_place, .int v_people, .ref q_ageing, .ref q_page, .int v_readPeople, .ref q_readAgeing, .ref q_readPage, .ref q_book, .int v_acts, .ref q_kept, .ref q_isKept, .int v_heard, .ref q_heardWho, .ref q_heardIs, .long v_seed, .ref q_tried, .ref q_chooser, .int v_choosers, .ref q_best, .int v_sets, .int v_surely, .ref q_alives]), (q_text, cA E 40 (upd v_text (ix v_textSize) l1))]) hZ dX4_write_49 rfl 0 rfl (Nat.le_of_ble_eq_true rfl) rfl ?_
      refine x_aload_n (pc' := 53) hZ dX4_write_52 rfl 0 rfl ?_
      refine g_RX4_66 (pc' := 56) hZ dX4_write_53 rfl 0 rfl rfl ?_
      exact hRet _ _ _ _ dX4_write_56 ⟨_, _, _, rfl, h⟩
    · replace h := h.2 c26
      refine x_bipush (v := (-4)) (pc' := 31) hZ (by decide) dX4_write_29 rfl ?_
      exact hRet _ _ _ _ dX4_write_31 ⟨_, _, _, rfl, h⟩
  · replace h := h.2 c14
    refine x_bipush (v := (-2)) (pc' := 19) hZ (by decide) dX4_write_17 rfl ?_
    exact hRet _ _ _ _ dX4_write_19 ⟨_, _, _, rfl, h⟩
set_option maxHeartbeats 4000000 in
set_option maxRecDepth 100000 in
theorem c_X4_wipe (E : XE) (q_this : Nat) (q_text : Nat) (q_ageing : Nat) (q_page : Nat) (q_readAgeing : Nat) (q_readPage : Nat) (q_book : Nat) (q_kept : Nat) (q_isKept : Nat) (q_heardWho : Nat) (q_heardIs : Nat) (q_tried : Nat) (q_chooser : Nat) (q_best : Nat) (q_alives : Nat) (v_thrown : Int32) (v_textSize : Int32) (v_place : Int32) (v_people : Int32) (v_readPeople : Int32) (v_acts : Int32) (v_heard : Int32) (v_seed : Int64) (v_choosers : Int32) (v_sets : Int32) (v_surely : Int32) (post : Int32 → Int32 → Int32 → Prop) (h : p_X4_wipe v_thrown v_textSize post) : ConI E yX4_wipe cX4_wipe 2 .int { frames := 0, cells := 0, slots := 0, locals := 0 } 0 0 [.ref q_this] [(q_this, cO 4 [.int v_thrown, .ref q_text, .int v_textSize, .int v_place, .int v_people, .ref q_ageing, .ref q_page, .int v_readPeople, .ref q_readAgeing, .ref q_readPage, .ref q_book, .int v_acts, .ref q_kept, .ref q_isKept, .int v_heard, .ref q_heardWho, .ref q_heardIs, .long v_seed, .ref q_tried, .ref q_chooser, .int v_choosers, .ref q_best, .int v_sets, .int v_surely, .ref q_alives])] (fun r w => ∃ (u_thrown : Int32) (u_textSize : Int32), w = [(q_this, cO 4 [.int u_thrown, .ref q_text, .int u_textSize, .int v_place, .int v_people, .ref q_ageing, .ref q_page, .int v_readPeople, .ref q_readAgeing, .ref q_readPage, .ref q_book, .int v_acts, .ref q_kept, .ref q_isKept, .int v_heard, .ref q_heardWho, .ref q_heardIs, .long v_seed, .ref q_tried, .ref q_chooser, .int v_choosers, .ref q_best, .int v_sets, .int v_surely, .ref q_alives])] ∧ post r u_thrown u_textSize) := by
  refine ConI.of (by decide +kernel) (Nat.le_of_ble_eq_true rfl) (fun Z hZ hI hRet => ?_)
  replace hZ : XOK E Z RX4 cX4_wipe 2 { frames := 0, cells := 0, slots := 0, locals := 0 } := hZ
  clear hI
  show XW E Z 0 0 [(q_this, cO 4 [.int v_thrown, .ref q_text, .int v_textSize, .int v_place, .int v_people, .ref q_ageing, .ref q_page, .int v_readPeople, .ref q_readAgeing, .ref q_readPage, .ref q_book, .int v_acts, .ref q_kept, .ref q_isKept, .int v_heard, .ref q_heardWho, .ref q_heardIs, .long v_seed, .ref q_tried, .ref q_chooser, .int v_choosers, .ref q_best, .int v_sets, .int v_surely, .ref q_alives])] [(0, .ref q_this)] [] 0
  unfold p_X4_wipe at h
  refine x_aload_n (pc' := 1) hZ dX4_wipe_0 rfl 0 rfl ?_
  refine x_iconst (v := 0) (pc' := 2) hZ (by decide) dX4_wipe_1 rfl ?_
  refine s_RX4_53 (pc' := 5) (ws' := [(q_this, cO 4 [.int 0, .ref q_text, .int v_textSize, .int v_place, .int v_people, .ref q_ageing, .ref q_page, .int v_readPeople, .ref q_readAgeing, .ref q_readPage, .ref q_book, .int v_acts, .ref q_kept, .ref q_isKept, .int v_heard, .ref q_heardWho, .ref q_heardIs, .long v_seed, .ref q_tried, .ref q_chooser, .int v_choosers, .ref q_best, .int v_sets, .int v_surely, .ref q_alives])]) hZ dX4_wipe_2 rfl 0 rfl (Nat.le_of_ble_eq_true rfl) rfl ?_
  refine x_aload_n (pc' := 6) hZ dX4_wipe_5 rfl 0 rfl ?_
  refine g_RX4_66 (pc' := 9) hZ dX4_wipe_6 rfl 0 rfl rfl ?_
  refine x_istore_n (i := 1) (pc' := 10) (lv' := [(1, .int v_textSize), (0, .ref q_this)]) hZ dX4_wipe_9 rfl rfl (by decide) rfl ?_
  refine x_aload_n (pc' := 11) hZ dX4_wipe_10 rfl 1 rfl ?_
  refine x_iconst (v := 0) (pc' := 12) hZ (by decide) dX4_wipe_11 rfl ?_
  refine s_RX4_66 (pc' := 15) (ws' := [(q_this, cO 4 [.int 0, .ref q_text, .int 0, .int v_place, .int v_people, .ref q_ageing, .ref q_page, .int v_readPeople, .ref q_readAgeing, .ref q_readPage, .ref q_book, .int v_acts, .ref q_kept, .ref q_isKept, .int v_heard, .ref q_heardWho, .ref q_heardIs, .long v_seed, .ref q_tried, .ref q_chooser, .int v_choosers, .ref q_best, .int v_sets, .int v_surely, .ref q_alives])]) hZ dX4_wipe_12 rfl 0 rfl (Nat.le_of_ble_eq_true rfl) rfl ?_
  refine x_iload_n (pc' := 16) hZ dX4_wipe_15 rfl 0 rfl ?_
  exact hRet _ _ _ _ dX4_wipe_16 ⟨_, _, rfl, h⟩
set_option maxHeartbeats 4000000 in
set_option maxRecDepth 100000 in
theorem c_X4_figure (E : XE) (q_this : Nat) (q_text : Nat) (q_ageing : Nat) (q_page : Nat) (q_readAgeing : Nat) (q_readPage : Nat) (q_book : Nat) (q_kept : Nat) (q_isKept : Nat) (q_heardWho : Nat) (q_heardIs : Nat) (q_tried : Nat) (q_chooser : Nat) (q_best : Nat) (q_alives : Nat) (v_thrown : Int32) (v_textSize : Int32) (v_place : Int32) (v_people : Int32) (v_readPeople : Int32) (v_acts : Int32) (v_heard : Int32) (v_seed : Int64) (v_choosers : Int32) (v_sets : Int32) (v_surely : Int32) (v_text : Nat → Int32) (l1 : Int32) (l2 : Int32) (post : Int32 → Int32 → Prop) (h : p_X4_figure v_textSize v_place v_text l1 l2 post) : ConI E yX4_figure cX4_figure 3 .int { frames := 1, cells := 0, slots := 0, locals := 25 } 0 0 [.ref q_this, .int l1, .int l2] [(q_this, cO 4 [.int v_thrown, .ref q_text, .int v_textSize, .int v_place, .int v_people, .ref q_ageing, .ref q_page, .int v_readPeople, .ref q_readAgeing, .ref q_readPage, .ref q_book, .int v_acts, .ref q_kept, .ref q_isKept, .int v_heard, .ref q_heardWho, .ref q_heardIs, .long v_seed, .ref q_tried, .ref q_chooser, .int v_choosers, .ref q_best, .int v_sets, .int v_surely, .ref q_alives]), (q_text, cA E 40 v_text)] (fun r w => ∃ (u_place : Int32), w = [(q_this, cO 4 [.int v_thrown, .ref q_text, .int v_textSize, .int u_place, .int v_people, .ref q_ageing, .ref q_page, .int v_readPeople, .ref q_readAgeing, .ref q_readPage, .ref q_book, .int v_acts, .ref q_kept, .ref q_isKept, .int v_heard, .ref q_heardWho, .ref q_heardIs, .long v_seed, .ref q_tried, .ref q_chooser, .int v_choosers, .ref q_best, .int v_sets, .int v_surely, .ref q_alives]), (q_text, cA E 40 v_text)] ∧ post r u_place) := by
  refine ConI.of (by decide +kernel) (Nat.le_of_ble_eq_true rfl) (fun Z hZ hI hRet => ?_)
  replace hZ : XOK E Z RX4 cX4_figure 3 { frames := 1, cells := 0, slots := 0, locals := 25 } := hZ
  clear hI
  show XW E Z 0 0 [(q_this, cO 4 [.int v_thrown, .ref q_text, .int v_textSize, .int v_place, .int v_people, .ref q_ageing, .ref q_page, .int v_readPeople, .ref q_readAgeing, .ref q_readPage, .ref q_book, .int v_acts, .ref q_kept, .ref q_isKept, .int v_heard, .ref q_heardWho, .ref q_heardIs, .long v_seed, .ref q_tried, .ref q_chooser, .int v_choosers, .ref q_best, .int v_sets, .int v_surely, .ref q_alives]), (q_text, cA E 40 v_text)] [(0, .ref q_this), (1, .int l1), (2, .int l2)] [] 0
  unfold p_X4_figure at h
  refine x_aload_n (pc' := 1) hZ dX4_figure_0 rfl 0 rfl ?_
  refine g_RX4_69 (pc' := 4) hZ dX4_figure_1 rfl 0 rfl rfl ?_
  refine x_aload_n (pc' := 5) hZ dX4_figure_4 rfl 0 rfl ?_
  refine g_RX4_66 (pc' := 8) hZ dX4_figure_5 rfl 0 rfl rfl ?_
  refine x_icmp_eq (tgt := 34) (pc' := 11) hZ dX4_figure_8 (by decide) rfl (fun c8 => ?_) (fun c8 => ?_)
  · replace h := h.1 c8
    refine x_bipush (v := (-9)) (pc' := 36) hZ (by decide) dX4_figure_34 rfl ?_
    exact hRet _ _ _ _ dX4_figure_36 ⟨_, rfl, h⟩
  · replace h := h.2 c8
    refine x_aload_n (pc' := 12) hZ dX4_figure_11 rfl 0 rfl ?_
    refine g_RX4_7 (pc' := 15) hZ dX4_figure_12 rfl 0 rfl rfl ?_
    refine x_aload_n (pc' := 16) hZ dX4_figure_15 rfl 0 rfl ?_
    refine g_RX4_69 (pc' := 19) hZ dX4_figure_16 rfl 0 rfl rfl ?_
    obtain ⟨h19, h⟩ := h
    refine x_iald (pc' := 20) hZ h19 dX4_figure_19 rfl 1 rfl ?_
    refine x_bipush (v := 48) (pc' := 22) hZ (by decide) dX4_figure_20 rfl ?_
    refine x_isub (pc' := 23) hZ dX4_figure_22 rfl ?_
    refine x_i2l (pc' := 24) hZ dX4_figure_23 rfl ?_
    refine x_iload_n (pc' := 25) hZ dX4_figure_24 rfl 1 rfl ?_
    refine x_i2l (pc' := 26) hZ dX4_figure_25 rfl ?_
    refine x_iload_n (pc' := 27) hZ dX4_figure_26 rfl 2 rfl ?_
    refine x_i2l (pc' := 28) hZ dX4_figure_27 rfl ?_
    refine k_RX4_60 (pc' := 31) (as := [.long (((v_text (ix v_place)) - 48).toInt64), .long l1.toInt64, .long l2.toInt64]) (rest := []) (c' := 0) (n' := 0) (wr := [(q_this, cO 4 [.int v_thrown, .ref q_text, .int v_textSize, .int v_place, .int v_people, .ref q_ageing, .ref q_page, .int v_readPeople, .ref q_readAgeing, .ref q_readPage, .ref q_book, .int v_acts, .ref q_kept, .ref q_isKept, .int v_heard, .ref q_heardWho, .ref q_heardIs, .long v_seed, .ref q_tried, .ref q_chooser, .int v_choosers, .ref q_best, .int v_sets, .int v_surely, .ref q_alives]), (q_text, cA E 40 v_text)]) hZ (c_X4_in E (((v_text (ix v_place)) - 48).toInt64) l1.toInt64 l2.toInt64 _ h) dX4_figure_28 rfl rfl rfl rfl rfl (Nat.le_of_ble_eq_true rfl) (Nat.le_of_ble_eq_true rfl) (Nat.le_of_ble_eq_true rfl) rfl rfl (Nat.le_of_ble_eq_true rfl) (Nat.le_of_ble_eq_true rfl) [] [0, 1] rfl rfl (by decide) (by decide) (by decide) (fun r28 w28 hw => ?_)
    obtain ⟨rfl, h⟩ := hw
    refine x_ws (ws' := [(q_this, cO 4 [.int v_thrown, .ref q_text, .int v_textSize, .int v_place, .int v_people, .ref q_ageing, .ref q_page, .int v_readPeople, .ref q_readAgeing, .ref q_readPage, .ref q_book, .int v_acts, .ref q_kept, .ref q_isKept, .int v_heard, .ref q_heardWho, .ref q_heardIs, .long v_seed, .ref q_tried, .ref q_chooser, .int v_choosers, .ref q_best, .int v_sets, .int v_surely, .ref q_alives]), (q_text, cA E 40 v_text)]) [0, 1] rfl (by decide) ?_
    refine x_if_ne (tgt := 37) (pc' := 34) hZ dX4_figure_31 (by decide) rfl (fun c31 => ?_) (fun c31 => ?_)
    · replace h := h.1 c31
      refine x_aload_n (pc' := 38) hZ dX4_figure_37 rfl 0 rfl ?_
      refine x_dup (pc' := 39) hZ dX4_figure_38 rfl rfl ?_
      refine g_RX4_69 (pc' := 42) hZ dX4_figure_39 rfl 0 rfl rfl ?_
      refine x_iconst (v := 1) (pc' := 43) hZ (by decide) dX4_figure_42 rfl ?_
      refine x_iadd (pc' := 44) hZ dX4_figure_43 rfl ?_
      refine x_topi (fun x44 e44 => ?_)
      replace h := h x44 e44
      refine s_RX4_69 (pc' := 47) (ws' := [(q_this, cO 4 [.int v_thrown, .ref q_text, .int v_textSize, .int x44, .int v_people, .ref q_ageing, .ref q_page, .int v_readPeople, .ref q_readAgeing, .ref q_readPage, .ref q_book, .int v_acts, .ref q_kept, .ref q_isKept, .int v_heard, .ref q_heardWho, .ref q_heardIs, .long v_seed, .ref q_tried, .ref q_chooser, .int v_choosers, .ref q_best, .int v_sets, .int v_surely, .ref q_alives]), (q_text, cA E 40 v_text)]) hZ dX4_figure_44 rfl 0 rfl (Nat.le_of_ble_eq_true rfl) rfl ?_
      refine x_aload_n (pc' := 48) hZ dX4_figure_47 rfl 0 rfl ?_
      refine g_RX4_7 (pc' := 51) hZ dX4_figure_48 rfl 0 rfl rfl ?_
      refine x_aload_n (pc' := 52) hZ dX4_figure_51 rfl 0 rfl ?_
      refine g_RX4_69 (pc' := 55) hZ dX4_figure_52 rfl 0 rfl rfl ?_
      refine x_iconst (v := 1) (pc' := 56) hZ (by decide) dX4_figure_55 rfl ?_
      refine x_isub (pc' := 57) hZ dX4_figure_56 rfl ?_
      obtain ⟨h57, h⟩ := h
      refine x_iald (pc' := 58) hZ h57 dX4_figure_57 rfl 1 rfl ?_
      refine x_bipush (v := 48) (pc' := 60) hZ (by decide) dX4_figure_58 rfl ?_
      refine x_isub (pc' := 61) hZ dX4_figure_60 rfl ?_
      exact hRet _ _ _ _ dX4_figure_61 ⟨_, rfl, h⟩
    · replace h := h.2 c31
      refine x_bipush (v := (-9)) (pc' := 36) hZ (by decide) dX4_figure_34 rfl ?_
      exact hRet _ _ _ _ dX4_figure_36 ⟨_, rfl, h⟩
set_option maxHeartbeats 4000000 in
set_option maxRecDepth 100000 in
theorem t_X4_readPerson_2 (E : XE) (Z : ZC) (q_this : Nat) (q_text : Nat) (q_ageing : Nat) (q_page : Nat) (q_readAgeing : Nat) (q_readPage : Nat) (q_book : Nat) (q_kept : Nat) (q_isKept : Nat) (q_heardWho : Nat) (q_heardIs : Nat) (q_tried : Nat) (q_chooser : Nat) (q_best : Nat) (q_alives : Nat) (v_thrown : Int32) (v_textSize : Int32) (v_people : Int32) (v_readPeople : Int32) (v_acts : Int32) (v_heard : Int32) (v_seed : Int64) (v_choosers : Int32) (v_sets : Int32) (v_surely : Int32) (v_text : Nat → Int32) (v_readAgeing : Nat → Int32) {post : Int32 → Int32 → Int32 → (Nat → Int32) → (Nat → Int32) → Prop} {K : Int32 → Int32 → (Nat → Int32) → Prop} (hZ : XOK E Z RX4 cX4_readPerson 3 { frames := 2, cells := 0, slots := 0, locals := 47 }) (hRet : RetZ E Z cX4_readPerson 0 0 (fun r w => ∃ (u_place : Int32) (u_readPeople : Int32) (u_readAgeing : Nat → Int32) (u_readPage : Nat → Int32), w = [(q_this, cO 4 [.int v_thrown, .ref q_text, .int v_textSize, .int u_place, .int v_people, .ref q_ageing, .ref q_page, .int u_readPeople, .ref q_readAgeing, .ref q_readPage, .ref q_book, .int v_acts, .ref q_kept, .ref q_isKept, .int v_heard, .ref q_heardWho, .ref q_heardIs, .long v_seed, .ref q_tried, .ref q_chooser, .int v_choosers, .ref q_best, .int v_sets, .int v_surely, .ref q_alives]), (q_text, cA E 40 v_text), (q_readAgeing, cA E 6 u_readAgeing), (q_readPage, cA E 25 u_readPage)] ∧ post r u_place u_readPeople u_readAgeing u_readPage)) : ∀ (k : Nat) (l1 : Int32) (v_place : Int32) (v_readPage : (Nat → Int32)), wl (fun rec v => b_X4_readPerson_2 v_textSize v_readPeople v_text v_readAgeing post K rec v.1 v.2.1 v.2.2) k (l1, v_place, v_readPage) → (∀ (l1 : Int32) (v_place : Int32) (v_readPage : (Nat → Int32)), K l1 v_place v_readPage → XW E Z 0 0 [(q_this, cO 4 [.int v_thrown, .ref q_text, .int v_textSize, .int v_place, .int v_people, .ref q_ageing, .ref q_page, .int v_readPeople, .ref q_readAgeing, .ref q_readPage, .ref q_book, .int v_acts, .ref q_kept, .ref q_isKept, .int v_heard, .ref q_heardWho, .ref q_heardIs, .long v_seed, .ref q_tried, .ref q_chooser, .int v_choosers, .ref q_best, .int v_sets, .int v_surely, .ref q_alives]), (q_text, cA E 40 v_text), (q_readAgeing, cA E 6 v_readAgeing), (q_readPage, cA E 25 v_readPage)] [(0, .ref q_this)] [] 45) → XW E Z 0 0 [(q_this, cO 4 [.int v_thrown, .ref q_text, .int v_textSize, .int v_place, .int v_people, .ref q_ageing, .ref q_page, .int v_readPeople, .ref q_readAgeing, .ref q_readPage, .ref q_book, .int v_acts, .ref q_kept, .ref q_isKept, .int v_heard, .ref q_heardWho, .ref q_heardIs, .long v_seed, .ref q_tried, .ref q_chooser, .int v_choosers, .ref q_best, .int v_sets, .int v_surely, .ref q_alives]), (q_text, cA E 40 v_text), (q_readAgeing, cA E 6 v_readAgeing), (q_readPage, cA E 25 v_readPage)] [(0, .ref q_this), (1, .int l1)] [] 2 := by
  intro k
  induction k with
  | zero =>
    intro l1 v_place v_readPage h
    exact h.elim
  | succ k ih =>
    intro l1 v_place v_readPage h hK
    replace h := wl_succ h
    try dsimp only at h
    unfold b_X4_readPerson_2 at h
    refine x_iload_n (pc' := 3) hZ dX4_readPerson_2 rfl 1 rfl ?_
    refine x_iconst (v := 3) (pc' := 4) hZ (by decide) dX4_readPerson_3 rfl ?_
    refine x_icmp_ge (tgt := 45) (pc' := 7) hZ dX4_readPerson_4 (by decide) rfl (fun c4 => ?_) (fun c4 => ?_)
    · replace h := h.1 c4
      refine x_lv [0] (lv' := [(0, .ref q_this)]) rfl ?_
      exact hK l1 v_place v_readPage h
    · replace h := h.2 c4
      refine x_aload_n (pc' := 8) hZ dX4_readPerson_7 rfl 0 rfl ?_
      refine x_iconst (v := 0) (pc' := 9) hZ (by decide) dX4_readPerson_8 rfl ?_
      refine x_bipush (v := 9) (pc' := 11) hZ (by decide) dX4_readPerson_9 rfl ?_
      refine k_RX4_72 (pc' := 14) (q0 := 0) (as := [.int 0, .int 9]) (rest := []) (c' := 0) (n' := 0) (wr := [(q_readAgeing, cA E 6 v_readAgeing), (q_readPage, cA E 25 v_readPage)]) hZ (c_X4_figure E q_this q_text q_ageing q_page q_readAgeing q_readPage q_book q_kept q_isKept q_heardWho q_heardIs q_tried q_chooser q_best q_alives v_thrown v_textSize v_place v_people v_readPeople v_acts v_heard v_seed v_choosers v_sets v_surely v_text 0 9 _ h) rfl dX4_readPerson_11 rfl rfl rfl rfl rfl (Nat.le_of_ble_eq_true rfl) (Nat.le_of_ble_eq_true rfl) (Nat.le_of_ble_eq_true rfl) rfl rfl (Nat.le_of_ble_eq_true rfl) (Nat.le_of_ble_eq_true rfl) [0, 1] [2, 3] rfl rfl (by decide) (by decide) (by decide) (fun r11 w11 hw => ?_)
      obtain ⟨a11_0, rfl, h⟩ := hw
      refine x_ws (ws' := [(q_this, cO 4 [.int v_thrown, .ref q_text, .int v_textSize, .int a11_0, .int v_people, .ref q_ageing, .ref q_page, .int v_readPeople, .ref q_readAgeing, .ref q_readPage, .ref q_book, .int v_acts, .ref q_kept, .ref q_isKept, .int v_heard, .ref q_heardWho, .ref q_heardIs, .long v_seed, .ref q_tried, .ref q_chooser, .int v_choosers, .ref q_best, .int v_sets, .int v_surely, .ref q_alives]), (q_text, cA E 40 v_text), (q_readAgeing, cA E 6 v_readAgeing), (q_readPage, cA E 25 v_readPage)]) [2, 3, 0, 1] rfl (by decide) ?_
      refine x_istore_n (i := 2) (pc' := 15) (lv' := [(2, .int r11), (0, .ref q_this), (1, .int l1)]) hZ dX4_readPerson_14 rfl rfl (by decide) rfl ?_
      refine x_iload_n (pc' := 16) hZ dX4_readPerson_15 rfl 0 rfl ?_
      refine x_bipush (v := (-9)) (pc' := 18) hZ (by decide) dX4_readPerson_16 rfl ?_
      refine x_icmp_ne (tgt := 23) (pc' := 21) hZ dX4_readPerson_18 (by decide) rfl (fun c18 => ?_) (fun c18 => ?_)
      · replace h := h.1 c18
        refine x_aload_n (pc' := 24) hZ dX4_readPerson_23 rfl 1 rfl ?_
        refine g_RX4_22 (pc' := 27) hZ dX4_readPerson_24 rfl 0 rfl rfl ?_
        refine x_iconst (v := 3) (pc' := 28) hZ (by decide) dX4_readPerson_27 rfl ?_
        refine x_iconst (v := 3) (pc' := 29) hZ (by decide) dX4_readPerson_28 rfl ?_
        refine x_aload_n (pc' := 30) hZ dX4_readPerson_29 rfl 1 rfl ?_
        refine g_RX4_76 (pc' := 33) hZ dX4_readPerson_30 rfl 0 rfl rfl ?_
        refine x_imul (pc' := 34) hZ dX4_readPerson_33 rfl ?_
        refine x_iadd (pc' := 35) hZ dX4_readPerson_34 rfl ?_
        refine x_iload_n (pc' := 36) hZ dX4_readPerson_35 rfl 2 rfl ?_
        refine x_iadd (pc' := 37) hZ dX4_readPerson_36 rfl ?_
        refine x_iload_n (pc' := 38) hZ dX4_readPerson_37 rfl 0 rfl ?_
        obtain ⟨h38, h⟩ := h
        refine x_iast (pc' := 39) (ws' := [(q_this, cO 4 [.int v_thrown, .ref q_text, .int v_textSize, .int a11_0, .int v_people, .ref q_ageing, .ref q_page, .int v_readPeople, .ref q_readAgeing, .ref q_readPage, .ref q_book, .int v_acts, .ref q_kept, .ref q_isKept, .int v_heard, .ref q_heardWho, .ref q_heardIs, .long v_seed, .ref q_tried, .ref q_chooser, .int v_choosers, .ref q_best, .int v_sets, .int v_surely, .ref q_alives]), (q_text, cA E 40 v_text), (q_readAgeing, cA E 6 v_readAgeing), (q_readPage, cA E 25 (upd v_readPage (ix ((3 + (3 * v_readPeople)) + l1)) r11))]) hZ h38 dX4_readPerson_38 rfl 3 rfl rfl ?_
        obtain ⟨x39, e39⟩ : ∃ y : Int32, y = l1 + 1 := ⟨_, rfl⟩
        replace h := h x39 e39
        refine x_iinc (i := 1) (v := x39) (pc' := 42) (lv' := [(1, .int x39), (2, .int r11), (0, .ref q_this)]) hZ dX4_readPerson_39 rfl 2 rfl (by rw [e39]; rfl) (by decide) rfl ?_
        refine x_goto (pc' := 2) hZ dX4_readPerson_42 (by decide) ?_
        refine x_lv [2, 0] (lv' := [(0, .ref q_this), (1, .int x39)]) rfl ?_
        exact ih x39 a11_0 (upd v_readPage (ix ((3 + (3 * v_readPeople)) + l1)) r11) h hK
      · replace h := h.2 c18
        refine x_iconst (v := 0) (pc' := 22) hZ (by decide) dX4_readPerson_21 rfl ?_
        exact hRet _ _ _ _ dX4_readPerson_22 (by decide) ⟨_, _, _, _, rfl, h⟩
set_option maxHeartbeats 4000000 in
set_option maxRecDepth 100000 in
theorem c_X4_readPerson (E : XE) (q_this : Nat) (q_text : Nat) (q_ageing : Nat) (q_page : Nat) (q_readAgeing : Nat) (q_readPage : Nat) (q_book : Nat) (q_kept : Nat) (q_isKept : Nat) (q_heardWho : Nat) (q_heardIs : Nat) (q_tried : Nat) (q_chooser : Nat) (q_best : Nat) (q_alives : Nat) (v_thrown : Int32) (v_textSize : Int32) (v_place : Int32) (v_people : Int32) (v_readPeople : Int32) (v_acts : Int32) (v_heard : Int32) (v_seed : Int64) (v_choosers : Int32) (v_sets : Int32) (v_surely : Int32) (v_text : Nat → Int32) (v_readAgeing : Nat → Int32) (v_readPage : Nat → Int32) (post : Int32 → Int32 → Int32 → (Nat → Int32) → (Nat → Int32) → Prop) (h : p_X4_readPerson v_textSize v_place v_readPeople v_text v_readAgeing v_readPage post) : ConI E yX4_readPerson cX4_readPerson 3 .boolean { frames := 2, cells := 0, slots := 0, locals := 47 } 0 0 [.ref q_this] [(q_this, cO 4 [.int v_thrown, .ref q_text, .int v_textSize, .int v_place, .int v_people, .ref q_ageing, .ref q_page, .int v_readPeople, .ref q_readAgeing, .ref q_readPage, .ref q_book, .int v_acts, .ref q_kept, .ref q_isKept, .int v_heard, .ref q_heardWho, .ref q_heardIs, .long v_seed, .ref q_tried, .ref q_chooser, .int v_choosers, .ref q_best, .int v_sets, .int v_surely, .ref q_alives]), (q_text, cA E 40 v_text), (q_readAgeing, cA E 6 v_readAgeing), (q_readPage, cA E 25 v_readPage)] (fun r w => ∃ (u_place : Int32) (u_readPeople : Int32) (u_readAgeing : Nat → Int32) (u_readPage : Nat → Int32), w = [(q_this, cO 4 [.int v_thrown, .ref q_text, .int v_textSize, .int u_place, .int v_people, .ref q_ageing, .ref q_page, .int u_readPeople, .ref q_readAgeing, .ref q_readPage, .ref q_book, .int v_acts, .ref q_kept, .ref q_isKept, .int v_heard, .ref q_heardWho, .ref q_heardIs, .long v_seed, .ref q_tried, .ref q_chooser, .int v_choosers, .ref q_best, .int v_sets, .int v_surely, .ref q_alives]), (q_text, cA E 40 v_text), (q_readAgeing, cA E 6 u_readAgeing), (q_readPage, cA E 25 u_readPage)] ∧ post r u_place u_readPeople u_readAgeing u_readPage) := by
  refine ConIz.of (by decide +kernel) (Nat.le_of_ble_eq_true rfl) (fun Z hZ hI hRet => ?_)
  replace hZ : XOK E Z RX4 cX4_readPerson 3 { frames := 2, cells := 0, slots := 0, locals := 47 } := hZ
  clear hI
  show XW E Z 0 0 [(q_this, cO 4 [.int v_thrown, .ref q_text, .int v_textSize, .int v_place, .int v_people, .ref q_ageing, .ref q_page, .int v_readPeople, .ref q_readAgeing, .ref q_readPage, .ref q_book, .int v_acts, .ref q_kept, .ref q_isKept, .int v_heard, .ref q_heardWho, .ref q_heardIs, .long v_seed, .ref q_tried, .ref q_chooser, .int v_choosers, .ref q_best, .int v_sets, .int v_surely, .ref q_alives]), (q_text, cA E 40 v_text), (q_readAgeing, cA E 6 v_readAgeing), (q_readPage, cA E 25 v_readPage)] [(0, .ref q_this)] [] 0
  unfold p_X4_readPerson at h
  refine x_iconst (v := 0) (pc' := 1) hZ (by decide) dX4_readPerson_0 rfl ?_
  refine x_istore_n (i := 1) (pc' := 2) (lv' := [(1, .int 0), (0, .ref q_this)]) hZ dX4_readPerson_1 rfl rfl (by decide) rfl ?_
  refine x_lv [1, 0] (lv' := [(0, .ref q_this), (1, .int 0)]) rfl ?_
  obtain ⟨k2, h⟩ := h
  refine t_X4_readPerson_2 E Z q_this q_text q_ageing q_page q_readAgeing q_readPage q_book q_kept q_isKept q_heardWho q_heardIs q_tried q_chooser q_best q_alives v_thrown v_textSize v_people v_readPeople v_acts v_heard v_seed v_choosers v_sets v_surely v_text v_readAgeing hZ hRet _ 0 v_place v_readPage h (fun l1_2 v_place_2 v_readPage_2 h => ?_)
  refine x_aload_n (pc' := 46) hZ dX4_readPerson_45 rfl 0 rfl ?_
  refine x_iconst (v := 0) (pc' := 47) hZ (by decide) dX4_readPerson_46 rfl ?_
  refine x_iconst (v := 2) (pc' := 48) hZ (by decide) dX4_readPerson_47 rfl ?_
  refine k_RX4_72 (pc' := 51) (q0 := 0) (as := [.int 0, .int 2]) (rest := []) (c' := 0) (n' := 0) (wr := [(q_readAgeing, cA E 6 v_readAgeing), (q_readPage, cA E 25 v_readPage_2)]) hZ (c_X4_figure E q_this q_text q_ageing q_page q_readAgeing q_readPage q_book q_kept q_isKept q_heardWho q_heardIs q_tried q_chooser q_best q_alives v_thrown v_textSize v_place_2 v_people v_readPeople v_acts v_heard v_seed v_choosers v_sets v_surely v_text 0 2 _ h) rfl dX4_readPerson_48 rfl rfl rfl rfl rfl (Nat.le_of_ble_eq_true rfl) (Nat.le_of_ble_eq_true rfl) (Nat.le_of_ble_eq_true rfl) rfl rfl (Nat.le_of_ble_eq_true rfl) (Nat.le_of_ble_eq_true rfl) [0, 1] [2, 3] rfl rfl (by decide) (by decide) (by decide) (fun r48 w48 hw => ?_)
  obtain ⟨a48_0, rfl, h⟩ := hw
  refine x_ws (ws' := [(q_this, cO 4 [.int v_thrown, .ref q_text, .int v_textSize, .int a48_0, .int v_people, .ref q_ageing, .ref q_page, .int v_readPeople, .ref q_readAgeing, .ref q_readPage, .ref q_book, .int v_acts, .ref q_kept, .ref q_isKept, .int v_heard, .ref q_heardWho, .ref q_heardIs, .long v_seed, .ref q_tried, .ref q_chooser, .int v_choosers, .ref q_best, .int v_sets, .int v_surely, .ref q_alives]), (q_text, cA E 40 v_text), (q_readAgeing, cA E 6 v_readAgeing), (q_readPage, cA E 25 v_readPage_2)]) [2, 3, 0, 1] rfl (by decide) ?_
  refine x_istore_n (i := 1) (pc' := 52) (lv' := [(1, .int r48), (0, .ref q_this)]) hZ dX4_readPerson_51 rfl rfl (by decide) rfl ?_
  refine x_iload_n (pc' := 53) hZ dX4_readPerson_52 rfl 0 rfl ?_
  refine x_bipush (v := (-9)) (pc' := 55) hZ (by decide) dX4_readPerson_53 rfl ?_
  refine x_icmp_ne (tgt := 60) (pc' := 58) hZ dX4_readPerson_55 (by decide) rfl (fun c55 => ?_) (fun c55 => ?_)
  · replace h := h.1 c55
    refine x_aload_n (pc' := 61) hZ dX4_readPerson_60 rfl 1 rfl ?_
    refine g_RX4_19 (pc' := 64) hZ dX4_readPerson_61 rfl 0 rfl rfl ?_
    refine x_aload_n (pc' := 65) hZ dX4_readPerson_64 rfl 1 rfl ?_
    refine g_RX4_76 (pc' := 68) hZ dX4_readPerson_65 rfl 0 rfl rfl ?_
    refine x_iload_n (pc' := 69) hZ dX4_readPerson_68 rfl 0 rfl ?_
    obtain ⟨h69, h⟩ := h
    refine x_iast (pc' := 70) (ws' := [(q_this, cO 4 [.int v_thrown, .ref q_text, .int v_textSize, .int a48_0, .int v_people, .ref q_ageing, .ref q_page, .int v_readPeople, .ref q_readAgeing, .ref q_readPage, .ref q_book, .int v_acts, .ref q_kept, .ref q_isKept, .int v_heard, .ref q_heardWho, .ref q_heardIs, .long v_seed, .ref q_tried, .ref q_chooser, .int v_choosers, .ref q_best, .int v_sets, .int v_surely, .ref q_alives]), (q_text, cA E 40 v_text), (q_readAgeing, cA E 6 (upd v_readAgeing (ix v_readPeople) r48)), (q_readPage, cA E 25 v_readPage_2)]) hZ h69 dX4_readPerson_69 rfl 2 rfl rfl ?_
    refine x_aload_n (pc' := 71) hZ dX4_readPerson_70 rfl 1 rfl ?_
    refine g_RX4_22 (pc' := 74) hZ dX4_readPerson_71 rfl 0 rfl rfl ?_
    refine x_bipush (v := 21) (pc' := 76) hZ (by decide) dX4_readPerson_74 rfl ?_
    refine x_dup2 (pc' := 77) hZ dX4_readPerson_76 rfl rfl rfl ?_
    have h77 : vp_in 21 25 := by unfold vp_in; decide
    refine x_iald (pc' := 78) hZ h77 dX4_readPerson_77 rfl 3 rfl ?_
    refine x_iconst (v := 1) (pc' := 79) hZ (by decide) dX4_readPerson_78 rfl ?_
    refine x_aload_n (pc' := 80) hZ dX4_readPerson_79 rfl 1 rfl ?_
    refine g_RX4_76 (pc' := 83) hZ dX4_readPerson_80 rfl 0 rfl rfl ?_
    refine x_ishl (pc' := 84) hZ dX4_readPerson_83 rfl ?_
    refine x_ior (pc' := 85) hZ dX4_readPerson_84 rfl ?_
    refine x_topi (fun x85 e85 => ?_)
    replace h := h x85 e85
    have h85 : vp_in 21 25 := by unfold vp_in; decide
    refine x_iast (pc' := 86) (ws' := [(q_this, cO 4 [.int v_thrown, .ref q_text, .int v_textSize, .int a48_0, .int v_people, .ref q_ageing, .ref q_page, .int v_readPeople, .ref q_readAgeing, .ref q_readPage, .ref q_book, .int v_acts, .ref q_kept, .ref q_isKept, .int v_heard, .ref q_heardWho, .ref q_heardIs, .long v_seed, .ref q_tried, .ref q_chooser, .int v_choosers, .ref q_best, .int v_sets, .int v_surely, .ref q_alives]), (q_text, cA E 40 v_text), (q_readAgeing, cA E 6 (upd v_readAgeing (ix v_readPeople) r48)), (q_readPage, cA E 25 (upd v_readPage_2 (ix 21) x85))]) hZ h85 dX4_readPerson_85 rfl 3 rfl rfl ?_
    refine x_aload_n (pc' := 87) hZ dX4_readPerson_86 rfl 1 rfl ?_
    refine x_dup (pc' := 88) hZ dX4_readPerson_87 rfl rfl ?_
    refine g_RX4_76 (pc' := 91) hZ dX4_readPerson_88 rfl 0 rfl rfl ?_
    refine x_iconst (v := 1) (pc' := 92) hZ (by decide) dX4_readPerson_91 rfl ?_
    refine x_iadd (pc' := 93) hZ dX4_readPerson_92 rfl ?_
    refine x_topi (fun x93 e93 => ?_)
    replace h := h x93 e93
    refine s_RX4_76 (pc' := 96) (ws' := [(q_this, cO 4 [.int v_thrown, .ref q_text, .int v_textSize, .int a48_0, .int v_people, .ref q_ageing, .ref q_page, .int x93, .ref q_readAgeing, .ref q_readPage, .ref q_book, .int v_acts, .ref q_kept, .ref q_isKept, .int v_heard, .ref q_heardWho, .ref q_heardIs, .long v_seed, .ref q_tried, .ref q_chooser, .int v_choosers, .ref q_best, .int v_sets, .int v_surely, .ref q_alives]), (q_text, cA E 40 v_text), (q_readAgeing, cA E 6 (upd v_readAgeing (ix v_readPeople) r48)), (q_readPage, cA E 25 (upd v_readPage_2 (ix 21) x85))]) hZ dX4_readPerson_93 rfl 0 rfl (Nat.le_of_ble_eq_true rfl) rfl ?_
    refine x_iconst (v := 1) (pc' := 97) hZ (by decide) dX4_readPerson_96 rfl ?_
    exact hRet _ _ _ _ dX4_readPerson_97 (by decide) ⟨_, _, _, _, rfl, h⟩
  · replace h := h.2 c55
    refine x_iconst (v := 0) (pc' := 59) hZ (by decide) dX4_readPerson_58 rfl ?_
    exact hRet _ _ _ _ dX4_readPerson_59 (by decide) ⟨_, _, _, _, rfl, h⟩
set_option maxHeartbeats 4000000 in
set_option maxRecDepth 100000 in
theorem t_X4_readCourt_12 (E : XE) (Z : ZC) (q_this : Nat) (q_text : Nat) (q_ageing : Nat) (q_page : Nat) (q_readAgeing : Nat) (q_readPage : Nat) (q_book : Nat) (q_kept : Nat) (q_isKept : Nat) (q_heardWho : Nat) (q_heardIs : Nat) (q_tried : Nat) (q_chooser : Nat) (q_best : Nat) (q_alives : Nat) (v_thrown : Int32) (v_textSize : Int32) (v_place : Int32) (v_people : Int32) (v_readPeople : Int32) (v_acts : Int32) (v_heard : Int32) (v_seed : Int64) (v_choosers : Int32) (v_sets : Int32) (v_surely : Int32) (v_text : Nat → Int32) (v_readAgeing : Nat → Int32) {K : Int32 → (Nat → Int32) → Prop} (hZ : XOK E Z RX4 cX4_readCourt 3 { frames := 3, cells := 0, slots := 0, locals := 69 }) : ∀ (k : Nat) (l1 : Int32) (v_readPage : (Nat → Int32)), wl (fun rec v => b_X4_readCourt_12  K rec v.1 v.2) k (l1, v_readPage) → (∀ (l1 : Int32) (v_readPage : (Nat → Int32)), K l1 v_readPage → XW E Z 0 0 [(q_this, cO 4 [.int v_thrown, .ref q_text, .int v_textSize, .int v_place, .int v_people, .ref q_ageing, .ref q_page, .int v_readPeople, .ref q_readAgeing, .ref q_readPage, .ref q_book, .int v_acts, .ref q_kept, .ref q_isKept, .int v_heard, .ref q_heardWho, .ref q_heardIs, .long v_seed, .ref q_tried, .ref q_chooser, .int v_choosers, .ref q_best, .int v_sets, .int v_surely, .ref q_alives]), (q_text, cA E 40 v_text), (q_readAgeing, cA E 6 v_readAgeing), (q_readPage, cA E 25 v_readPage)] [(0, .ref q_this)] [] 31) → XW E Z 0 0 [(q_this, cO 4 [.int v_thrown, .ref q_text, .int v_textSize, .int v_place, .int v_people, .ref q_ageing, .ref q_page, .int v_readPeople, .ref q_readAgeing, .ref q_readPage, .ref q_book, .int v_acts, .ref q_kept, .ref q_isKept, .int v_heard, .ref q_heardWho, .ref q_heardIs, .long v_seed, .ref q_tried, .ref q_chooser, .int v_choosers, .ref q_best, .int v_sets, .int v_surely, .ref q_alives]), (q_text, cA E 40 v_text), (q_readAgeing, cA E 6 v_readAgeing), (q_readPage, cA E 25 v_readPage)] [(0, .ref q_this), (1, .int l1)] [] 12 := by
  intro k
  induction k with
  | zero =>
    intro l1 v_readPage h
    exact h.elim
  | succ k ih =>
    intro l1 v_readPage h hK
    replace h := wl_succ h
    try dsimp only at h
    unfold b_X4_readCourt_12 at h
    refine x_iload_n (pc' := 13) hZ dX4_readCourt_12 rfl 1 rfl ?_
    refine x_bipush (v := 25) (pc' := 15) hZ (by decide) dX4_readCourt_13 rfl ?_
    refine x_icmp_ge (tgt := 31) (pc' := 18) hZ dX4_readCourt_15 (by decide) rfl (fun c15 => ?_) (fun c15 => ?_)
    · replace h := h.1 c15
      refine x_lv [0] (lv' := [(0, .ref q_this)]) rfl ?_
      exact hK l1 v_readPage h
    · replace h := h.2 c15
      refine x_aload_n (pc' := 19) hZ dX4_readCourt_18 rfl 0 rfl ?_
      refine g_RX4_22 (pc' := 22) hZ dX4_readCourt_19 rfl 0 rfl rfl ?_
      refine x_iload_n (pc' := 23) hZ dX4_readCourt_22 rfl 1 rfl ?_
      refine x_iconst (v := 0) (pc' := 24) hZ (by decide) dX4_readCourt_23 rfl ?_
      obtain ⟨h24, h⟩ := h
      refine x_iast (pc' := 25) (ws' := [(q_this, cO 4 [.int v_thrown, .ref q_text, .int v_textSize, .int v_place, .int v_people, .ref q_ageing, .ref q_page, .int v_readPeople, .ref q_readAgeing, .ref q_readPage, .ref q_book, .int v_acts, .ref q_kept, .ref q_isKept, .int v_heard, .ref q_heardWho, .ref q_heardIs, .long v_seed, .ref q_tried, .ref q_chooser, .int v_choosers, .ref q_best, .int v_sets, .int v_surely, .ref q_alives]), (q_text, cA E 40 v_text), (q_readAgeing, cA E 6 v_readAgeing), (q_readPage, cA E 25 (upd v_readPage (ix l1) 0))]) hZ h24 dX4_readCourt_24 rfl 3 rfl rfl ?_
      obtain ⟨x25, e25⟩ : ∃ y : Int32, y = l1 + 1 := ⟨_, rfl⟩
      replace h := h x25 e25
      refine x_iinc (i := 1) (v := x25) (pc' := 28) (lv' := [(1, .int x25), (0, .ref q_this)]) hZ dX4_readCourt_25 rfl 1 rfl (by rw [e25]; rfl) (by decide) rfl ?_
      refine x_goto (pc' := 12) hZ dX4_readCourt_28 (by decide) ?_
      refine x_lv [1, 0] (lv' := [(0, .ref q_this), (1, .int x25)]) rfl ?_
      exact ih x25 (upd v_readPage (ix l1) 0) h hK
set_option maxHeartbeats 4000000 in
set_option maxRecDepth 100000 in
theorem t_X4_readCourt_58 (E : XE) (Z : ZC) (q_this : Nat) (q_text : Nat) (q_ageing : Nat) (q_page : Nat) (q_readAgeing : Nat) (q_readPage : Nat) (q_book : Nat) (q_kept : Nat) (q_isKept : Nat) (q_heardWho : Nat) (q_heardIs : Nat) (q_tried : Nat) (q_chooser : Nat) (q_best : Nat) (q_alives : Nat) (v_thrown : Int32) (v_textSize : Int32) (v_people : Int32) (v_readPeople : Int32) (v_acts : Int32) (v_heard : Int32) (v_seed : Int64) (v_choosers : Int32) (v_sets : Int32) (v_surely : Int32) (v_text : Nat → Int32) (v_readAgeing : Nat → Int32) {post : Int32 → Int32 → Int32 → (Nat → Int32) → (Nat → Int32) → Prop} {K : Int32 → Int32 → (Nat → Int32) → Prop} (hZ : XOK E Z RX4 cX4_readCourt 3 { frames := 3, cells := 0, slots := 0, locals := 69 }) (hRet : RetI E Z cX4_readCourt 0 0 (fun r w => ∃ (u_place : Int32) (u_readPeople : Int32) (u_readAgeing : Nat → Int32) (u_readPage : Nat → Int32), w = [(q_this, cO 4 [.int v_thrown, .ref q_text, .int v_textSize, .int u_place, .int v_people, .ref q_ageing, .ref q_page, .int u_readPeople, .ref q_readAgeing, .ref q_readPage, .ref q_book, .int v_acts, .ref q_kept, .ref q_isKept, .int v_heard, .ref q_heardWho, .ref q_heardIs, .long v_seed, .ref q_tried, .ref q_chooser, .int v_choosers, .ref q_best, .int v_sets, .int v_surely, .ref q_alives]), (q_text, cA E 40 v_text), (q_readAgeing, cA E 6 u_readAgeing), (q_readPage, cA E 25 u_readPage)] ∧ post r u_place u_readPeople u_readAgeing u_readPage)) : ∀ (k : Nat) (l1 : Int32) (v_place : Int32) (v_readPage : (Nat → Int32)), wl (fun rec v => b_X4_readCourt_58 v_textSize v_readPeople v_text v_readAgeing post K rec v.1 v.2.1 v.2.2) k (l1, v_place, v_readPage) → (∀ (l1 : Int32) (v_place : Int32) (v_readPage : (Nat → Int32)), K l1 v_place v_readPage → XW E Z 0 0 [(q_this, cO 4 [.int v_thrown, .ref q_text, .int v_textSize, .int v_place, .int v_people, .ref q_ageing, .ref q_page, .int v_readPeople, .ref q_readAgeing, .ref q_readPage, .ref q_book, .int v_acts, .ref q_kept, .ref q_isKept, .int v_heard, .ref q_heardWho, .ref q_heardIs, .long v_seed, .ref q_tried, .ref q_chooser, .int v_choosers, .ref q_best, .int v_sets, .int v_surely, .ref q_alives]), (q_text, cA E 40 v_text), (q_readAgeing, cA E 6 v_readAgeing), (q_readPage, cA E 25 v_readPage)] [(0, .ref q_this)] [] 120) → XW E Z 0 0 [(q_this, cO 4 [.int v_thrown, .ref q_text, .int v_textSize, .int v_place, .int v_people, .ref q_ageing, .ref q_page, .int v_readPeople, .ref q_readAgeing, .ref q_readPage, .ref q_book, .int v_acts, .ref q_kept, .ref q_isKept, .int v_heard, .ref q_heardWho, .ref q_heardIs, .long v_seed, .ref q_tried, .ref q_chooser, .int v_choosers, .ref q_best, .int v_sets, .int v_surely, .ref q_alives]), (q_text, cA E 40 v_text), (q_readAgeing, cA E 6 v_readAgeing), (q_readPage, cA E 25 v_readPage)] [(0, .ref q_this), (1, .int l1)] [] 58 := by
  intro k
  induction k with
  | zero =>
    intro l1 v_place v_readPage h
    exact h.elim
  | succ k ih =>
    intro l1 v_place v_readPage h hK
    replace h := wl_succ h
    try dsimp only at h
    unfold b_X4_readCourt_58 at h
    refine x_iload_n (pc' := 59) hZ dX4_readCourt_58 rfl 1 rfl ?_
    refine x_iconst (v := 3) (pc' := 60) hZ (by decide) dX4_readCourt_59 rfl ?_
    refine x_icmp_ge (tgt := 120) (pc' := 63) hZ dX4_readCourt_60 (by decide) rfl (fun c60 => ?_) (fun c60 => ?_)
    · replace h := h.1 c60
      refine x_lv [0] (lv' := [(0, .ref q_this)]) rfl ?_
      exact hK l1 v_place v_readPage h
    · replace h := h.2 c60
      refine x_aload_n (pc' := 64) hZ dX4_readCourt_63 rfl 0 rfl ?_
      refine x_iload_n (pc' := 65) hZ dX4_readCourt_64 rfl 1 rfl ?_
      refine x_iconst (v := 2) (pc' := 66) hZ (by decide) dX4_readCourt_65 rfl ?_
      refine x_icmp_ne (tgt := 89) (pc' := 69) hZ dX4_readCourt_66 (by decide) rfl (fun c66 => ?_) (fun c66 => ?_)
      · replace h := h.1 c66
        refine x_iconst (v := 0) (pc' := 90) hZ (by decide) dX4_readCourt_89 rfl ?_
        refine x_bipush (v := 9) (pc' := 92) hZ (by decide) dX4_readCourt_90 rfl ?_
        refine k_RX4_72 (pc' := 95) (q0 := 0) (as := [.int 0, .int 9]) (rest := []) (c' := 0) (n' := 0) (wr := [(q_readAgeing, cA E 6 v_readAgeing), (q_readPage, cA E 25 v_readPage)]) hZ (c_X4_figure E q_this q_text q_ageing q_page q_readAgeing q_readPage q_book q_kept q_isKept q_heardWho q_heardIs q_tried q_chooser q_best q_alives v_thrown v_textSize v_place v_people v_readPeople v_acts v_heard v_seed v_choosers v_sets v_surely v_text 0 9 _ h) rfl dX4_readCourt_92 rfl rfl rfl rfl rfl (Nat.le_of_ble_eq_true rfl) (Nat.le_of_ble_eq_true rfl) (Nat.le_of_ble_eq_true rfl) rfl rfl (Nat.le_of_ble_eq_true rfl) (Nat.le_of_ble_eq_true rfl) [0, 1] [2, 3] rfl rfl (by decide) (by decide) (by decide) (fun r92 w92 hw => ?_)
        obtain ⟨a92_0, rfl, h⟩ := hw
        refine x_ws (ws' := [(q_this, cO 4 [.int v_thrown, .ref q_text, .int v_textSize, .int a92_0, .int v_people, .ref q_ageing, .ref q_page, .int v_readPeople, .ref q_readAgeing, .ref q_readPage, .ref q_book, .int v_acts, .ref q_kept, .ref q_isKept, .int v_heard, .ref q_heardWho, .ref q_heardIs, .long v_seed, .ref q_tried, .ref q_chooser, .int v_choosers, .ref q_best, .int v_sets, .int v_surely, .ref q_alives]), (q_text, cA E 40 v_text), (q_readAgeing, cA E 6 v_readAgeing), (q_readPage, cA E 25 v_readPage)]) [2, 3, 0, 1] rfl (by decide) ?_
        refine x_istore_n (i := 2) (pc' := 96) (lv' := [(2, .int r92), (0, .ref q_this), (1, .int l1)]) hZ dX4_readCourt_95 rfl rfl (by decide) rfl ?_
        refine x_iload_n (pc' := 97) hZ dX4_readCourt_96 rfl 0 rfl ?_
        refine x_bipush (v := (-9)) (pc' := 99) hZ (by decide) dX4_readCourt_97 rfl ?_
        refine x_icmp_ne (tgt := 107) (pc' := 102) hZ dX4_readCourt_99 (by decide) rfl (fun c99 => ?_) (fun c99 => ?_)
        · replace h := h.1 c99
          refine x_aload_n (pc' := 108) hZ dX4_readCourt_107 rfl 1 rfl ?_
          refine g_RX4_22 (pc' := 111) hZ dX4_readCourt_108 rfl 0 rfl rfl ?_
          refine x_iload_n (pc' := 112) hZ dX4_readCourt_111 rfl 2 rfl ?_
          refine x_iload_n (pc' := 113) hZ dX4_readCourt_112 rfl 0 rfl ?_
          obtain ⟨h113, h⟩ := h
          refine x_iast (pc' := 114) (ws' := [(q_this, cO 4 [.int v_thrown, .ref q_text, .int v_textSize, .int a92_0, .int v_people, .ref q_ageing, .ref q_page, .int v_readPeople, .ref q_readAgeing, .ref q_readPage, .ref q_book, .int v_acts, .ref q_kept, .ref q_isKept, .int v_heard, .ref q_heardWho, .ref q_heardIs, .long v_seed, .ref q_tried, .ref q_chooser, .int v_choosers, .ref q_best, .int v_sets, .int v_surely, .ref q_alives]), (q_text, cA E 40 v_text), (q_readAgeing, cA E 6 v_readAgeing), (q_readPage, cA E 25 (upd v_readPage (ix l1) r92))]) hZ h113 dX4_readCourt_113 rfl 3 rfl rfl ?_
          obtain ⟨x114, e114⟩ : ∃ y : Int32, y = l1 + 1 := ⟨_, rfl⟩
          replace h := h x114 e114
          refine x_iinc (i := 1) (v := x114) (pc' := 117) (lv' := [(1, .int x114), (2, .int r92), (0, .ref q_this)]) hZ dX4_readCourt_114 rfl 2 rfl (by rw [e114]; rfl) (by decide) rfl ?_
          refine x_goto (pc' := 58) hZ dX4_readCourt_117 (by decide) ?_
          refine x_lv [2, 0] (lv' := [(0, .ref q_this), (1, .int x114)]) rfl ?_
          exact ih x114 a92_0 (upd v_readPage (ix l1) r92) h hK
        · replace h := h.2 c99
          refine x_aload_n (pc' := 103) hZ dX4_readCourt_102 rfl 1 rfl ?_
          refine g_RX4_69 (pc' := 106) hZ dX4_readCourt_103 rfl 0 rfl rfl ?_
          exact hRet _ _ _ _ dX4_readCourt_106 ⟨_, _, _, _, rfl, h⟩
      · replace h := h.2 c66
        refine x_aload_n (pc' := 70) hZ dX4_readCourt_69 rfl 0 rfl ?_
        refine g_RX4_22 (pc' := 73) hZ dX4_readCourt_70 rfl 0 rfl rfl ?_
        refine x_iconst (v := 0) (pc' := 74) hZ (by decide) dX4_readCourt_73 rfl ?_
        have h74 : vp_in 0 25 := by unfold vp_in; decide
        refine x_iald (pc' := 75) hZ h74 dX4_readCourt_74 rfl 3 rfl ?_
        refine x_aload_n (pc' := 76) hZ dX4_readCourt_75 rfl 0 rfl ?_
        refine g_RX4_22 (pc' := 79) hZ dX4_readCourt_76 rfl 0 rfl rfl ?_
        refine x_iconst (v := 1) (pc' := 80) hZ (by decide) dX4_readCourt_79 rfl ?_
        have h80 : vp_in 1 25 := by unfold vp_in; decide
        refine x_iald (pc' := 81) hZ h80 dX4_readCourt_80 rfl 3 rfl ?_
        refine x_iadd (pc' := 82) hZ dX4_readCourt_81 rfl ?_
        refine x_if_ne (tgt := 89) (pc' := 85) hZ dX4_readCourt_82 (by decide) rfl (fun c82 => ?_) (fun c82 => ?_)
        · replace h := h.1 c82
          refine x_iconst (v := 0) (pc' := 90) hZ (by decide) dX4_readCourt_89 rfl ?_
          refine x_bipush (v := 9) (pc' := 92) hZ (by decide) dX4_readCourt_90 rfl ?_
          refine k_RX4_72 (pc' := 95) (q0 := 0) (as := [.int 0, .int 9]) (rest := []) (c' := 0) (n' := 0) (wr := [(q_readAgeing, cA E 6 v_readAgeing), (q_readPage, cA E 25 v_readPage)]) hZ (c_X4_figure E q_this q_text q_ageing q_page q_readAgeing q_readPage q_book q_kept q_isKept q_heardWho q_heardIs q_tried q_chooser q_best q_alives v_thrown v_textSize v_place v_people v_readPeople v_acts v_heard v_seed v_choosers v_sets v_surely v_text 0 9 _ h) rfl dX4_readCourt_92 rfl rfl rfl rfl rfl (Nat.le_of_ble_eq_true rfl) (Nat.le_of_ble_eq_true rfl) (Nat.le_of_ble_eq_true rfl) rfl rfl (Nat.le_of_ble_eq_true rfl) (Nat.le_of_ble_eq_true rfl) [0, 1] [2, 3] rfl rfl (by decide) (by decide) (by decide) (fun r92 w92 hw => ?_)
          obtain ⟨a92_0, rfl, h⟩ := hw
          refine x_ws (ws' := [(q_this, cO 4 [.int v_thrown, .ref q_text, .int v_textSize, .int a92_0, .int v_people, .ref q_ageing, .ref q_page, .int v_readPeople, .ref q_readAgeing, .ref q_readPage, .ref q_book, .int v_acts, .ref q_kept, .ref q_isKept, .int v_heard, .ref q_heardWho, .ref q_heardIs, .long v_seed, .ref q_tried, .ref q_chooser, .int v_choosers, .ref q_best, .int v_sets, .int v_surely, .ref q_alives]), (q_text, cA E 40 v_text), (q_readAgeing, cA E 6 v_readAgeing), (q_readPage, cA E 25 v_readPage)]) [2, 3, 0, 1] rfl (by decide) ?_
          refine x_istore_n (i := 2) (pc' := 96) (lv' := [(2, .int r92), (0, .ref q_this), (1, .int l1)]) hZ dX4_readCourt_95 rfl rfl (by decide) rfl ?_
          refine x_iload_n (pc' := 97) hZ dX4_readCourt_96 rfl 0 rfl ?_
          refine x_bipush (v := (-9)) (pc' := 99) hZ (by decide) dX4_readCourt_97 rfl ?_
          refine x_icmp_ne (tgt := 107) (pc' := 102) hZ dX4_readCourt_99 (by decide) rfl (fun c99 => ?_) (fun c99 => ?_)
          · replace h := h.1 c99
            refine x_aload_n (pc' := 108) hZ dX4_readCourt_107 rfl 1 rfl ?_
            refine g_RX4_22 (pc' := 111) hZ dX4_readCourt_108 rfl 0 rfl rfl ?_
            refine x_iload_n (pc' := 112) hZ dX4_readCourt_111 rfl 2 rfl ?_
            refine x_iload_n (pc' := 113) hZ dX4_readCourt_112 rfl 0 rfl ?_
            obtain ⟨h113, h⟩ := h
            refine x_iast (pc' := 114) (ws' := [(q_this, cO 4 [.int v_thrown, .ref q_text, .int v_textSize, .int a92_0, .int v_people, .ref q_ageing, .ref q_page, .int v_readPeople, .ref q_readAgeing, .ref q_readPage, .ref q_book, .int v_acts, .ref q_kept, .ref q_isKept, .int v_heard, .ref q_heardWho, .ref q_heardIs, .long v_seed, .ref q_tried, .ref q_chooser, .int v_choosers, .ref q_best, .int v_sets, .int v_surely, .ref q_alives]), (q_text, cA E 40 v_text), (q_readAgeing, cA E 6 v_readAgeing), (q_readPage, cA E 25 (upd v_readPage (ix l1) r92))]) hZ h113 dX4_readCourt_113 rfl 3 rfl rfl ?_
            obtain ⟨x114, e114⟩ : ∃ y : Int32, y = l1 + 1 := ⟨_, rfl⟩
            replace h := h x114 e114
            refine x_iinc (i := 1) (v := x114) (pc' := 117) (lv' := [(1, .int x114), (2, .int r92), (0, .ref q_this)]) hZ dX4_readCourt_114 rfl 2 rfl (by rw [e114]; rfl) (by decide) rfl ?_
            refine x_goto (pc' := 58) hZ dX4_readCourt_117 (by decide) ?_
            refine x_lv [2, 0] (lv' := [(0, .ref q_this), (1, .int x114)]) rfl ?_
            exact ih x114 a92_0 (upd v_readPage (ix l1) r92) h hK
          · replace h := h.2 c99
            refine x_aload_n (pc' := 103) hZ dX4_readCourt_102 rfl 1 rfl ?_
            refine g_RX4_69 (pc' := 106) hZ dX4_readCourt_103 rfl 0 rfl rfl ?_
            exact hRet _ _ _ _ dX4_readCourt_106 ⟨_, _, _, _, rfl, h⟩
        · replace h := h.2 c82
          refine x_iconst (v := 1) (pc' := 86) hZ (by decide) dX4_readCourt_85 rfl ?_
          refine x_goto (pc' := 90) hZ dX4_readCourt_86 (by decide) ?_
          refine x_bipush (v := 9) (pc' := 92) hZ (by decide) dX4_readCourt_90 rfl ?_
          refine k_RX4_72 (pc' := 95) (q0 := 0) (as := [.int 1, .int 9]) (rest := []) (c' := 0) (n' := 0) (wr := [(q_readAgeing, cA E 6 v_readAgeing), (q_readPage, cA E 25 v_readPage)]) hZ (c_X4_figure E q_this q_text q_ageing q_page q_readAgeing q_readPage q_book q_kept q_isKept q_heardWho q_heardIs q_tried q_chooser q_best q_alives v_thrown v_textSize v_place v_people v_readPeople v_acts v_heard v_seed v_choosers v_sets v_surely v_text 1 9 _ h) rfl dX4_readCourt_92 rfl rfl rfl rfl rfl (Nat.le_of_ble_eq_true rfl) (Nat.le_of_ble_eq_true rfl) (Nat.le_of_ble_eq_true rfl) rfl rfl (Nat.le_of_ble_eq_true rfl) (Nat.le_of_ble_eq_true rfl) [0, 1] [2, 3] rfl rfl (by decide) (by decide) (by decide) (fun r92 w92 hw => ?_)
          obtain ⟨a92_0, rfl, h⟩ := hw
          refine x_ws (ws' := [(q_this, cO 4 [.int v_thrown, .ref q_text, .int v_textSize, .int a92_0, .int v_people, .ref q_ageing, .ref q_page, .int v_readPeople, .ref q_readAgeing, .ref q_readPage, .ref q_book, .int v_acts, .ref q_kept, .ref q_isKept, .int v_heard, .ref q_heardWho, .ref q_heardIs, .long v_seed, .ref q_tried, .ref q_chooser, .int v_choosers, .ref q_best, .int v_sets, .int v_surely, .ref q_alives]), (q_text, cA E 40 v_text), (q_readAgeing, cA E 6 v_readAgeing), (q_readPage, cA E 25 v_readPage)]) [2, 3, 0, 1] rfl (by decide) ?_
          refine x_istore_n (i := 2) (pc' := 96) (lv' := [(2, .int r92), (0, .ref q_this), (1, .int l1)]) hZ dX4_readCourt_95 rfl rfl (by decide) rfl ?_
          refine x_iload_n (pc' := 97) hZ dX4_readCourt_96 rfl 0 rfl ?_
          refine x_bipush (v := (-9)) (pc' := 99) hZ (by decide) dX4_readCourt_97 rfl ?_
          refine x_icmp_ne (tgt := 107) (pc' := 102) hZ dX4_readCourt_99 (by decide) rfl (fun c99 => ?_) (fun c99 => ?_)
          · replace h := h.1 c99
            refine x_aload_n (pc' := 108) hZ dX4_readCourt_107 rfl 1 rfl ?_
            refine g_RX4_22 (pc' := 111) hZ dX4_readCourt_108 rfl 0 rfl rfl ?_
            refine x_iload_n (pc' := 112) hZ dX4_readCourt_111 rfl 2 rfl ?_
            refine x_iload_n (pc' := 113) hZ dX4_readCourt_112 rfl 0 rfl ?_
            obtain ⟨h113, h⟩ := h
            refine x_iast (pc' := 114) (ws' := [(q_this, cO 4 [.int v_thrown, .ref q_text, .int v_textSize, .int a92_0, .int v_people, .ref q_ageing, .ref q_page, .int v_readPeople, .ref q_readAgeing, .ref q_readPage, .ref q_book, .int v_acts, .ref q_kept, .ref q_isKept, .int v_heard, .ref q_heardWho, .ref q_heardIs, .long v_seed, .ref q_tried, .ref q_chooser, .int v_choosers, .ref q_best, .int v_sets, .int v_surely, .ref q_alives]), (q_text, cA E 40 v_text), (q_readAgeing, cA E 6 v_readAgeing), (q_readPage, cA E 25 (upd v_readPage (ix l1) r92))]) hZ h113 dX4_readCourt_113 rfl 3 rfl rfl ?_
            obtain ⟨x114, e114⟩ : ∃ y : Int32, y = l1 + 1 := ⟨_, rfl⟩
            replace h := h x114 e114
            refine x_iinc (i := 1) (v := x114) (pc' := 117) (lv' := [(1, .int x114), (2, .int r92), (0, .ref q_this)]) hZ dX4_readCourt_114 rfl 2 rfl (by rw [e114]; rfl) (by decide) rfl ?_
            refine x_goto (pc' := 58) hZ dX4_readCourt_117 (by decide) ?_
            refine x_lv [2, 0] (lv' := [(0, .ref q_this), (1, .int x114)]) rfl ?_
            exact ih x114 a92_0 (upd v_readPage (ix l1) r92) h hK
          · replace h := h.2 c99
            refine x_aload_n (pc' := 103) hZ dX4_readCourt_102 rfl 1 rfl ?_
            refine g_RX4_69 (pc' := 106) hZ dX4_readCourt_103 rfl 0 rfl rfl ?_
            exact hRet _ _ _ _ dX4_readCourt_106 ⟨_, _, _, _, rfl, h⟩
set_option maxHeartbeats 4000000 in
set_option maxRecDepth 100000 in
theorem t_X4_readCourt_120 (E : XE) (Z : ZC) (q_this : Nat) (q_text : Nat) (q_ageing : Nat) (q_page : Nat) (q_readAgeing : Nat) (q_readPage : Nat) (q_book : Nat) (q_kept : Nat) (q_isKept : Nat) (q_heardWho : Nat) (q_heardIs : Nat) (q_tried : Nat) (q_chooser : Nat) (q_best : Nat) (q_alives : Nat) (v_thrown : Int32) (v_textSize : Int32) (v_people : Int32) (v_acts : Int32) (v_heard : Int32) (v_seed : Int64) (v_choosers : Int32) (v_sets : Int32) (v_surely : Int32) (v_text : Nat → Int32) {post : Int32 → Int32 → Int32 → (Nat → Int32) → (Nat → Int32) → Prop} {K : Int32 → Int32 → (Nat → Int32) → (Nat → Int32) → Prop} (hZ : XOK E Z RX4 cX4_readCourt 3 { frames := 3, cells := 0, slots := 0, locals := 69 }) (hRet : RetI E Z cX4_readCourt 0 0 (fun r w => ∃ (u_place : Int32) (u_readPeople : Int32) (u_readAgeing : Nat → Int32) (u_readPage : Nat → Int32), w = [(q_this, cO 4 [.int v_thrown, .ref q_text, .int v_textSize, .int u_place, .int v_people, .ref q_ageing, .ref q_page, .int u_readPeople, .ref q_readAgeing, .ref q_readPage, .ref q_book, .int v_acts, .ref q_kept, .ref q_isKept, .int v_heard, .ref q_heardWho, .ref q_heardIs, .long v_seed, .ref q_tried, .ref q_chooser, .int v_choosers, .ref q_best, .int v_sets, .int v_surely, .ref q_alives]), (q_text, cA E 40 v_text), (q_readAgeing, cA E 6 u_readAgeing), (q_readPage, cA E 25 u_readPage)] ∧ post r u_place u_readPeople u_readAgeing u_readPage)) : ∀ (k : Nat) (v_place : Int32) (v_readPeople : Int32) (v_readAgeing : (Nat → Int32)) (v_readPage : (Nat → Int32)), wl (fun rec v => b_X4_readCourt_120 v_textSize v_text post K rec v.1 v.2.1 v.2.2.1 v.2.2.2) k (v_place, v_readPeople, v_readAgeing, v_readPage) → (∀ (v_place : Int32) (v_readPeople : Int32) (v_readAgeing : (Nat → Int32)) (v_readPage : (Nat → Int32)), K v_place v_readPeople v_readAgeing v_readPage → XW E Z 0 0 [(q_this, cO 4 [.int v_thrown, .ref q_text, .int v_textSize, .int v_place, .int v_people, .ref q_ageing, .ref q_page, .int v_readPeople, .ref q_readAgeing, .ref q_readPage, .ref q_book, .int v_acts, .ref q_kept, .ref q_isKept, .int v_heard, .ref q_heardWho, .ref q_heardIs, .long v_seed, .ref q_tried, .ref q_chooser, .int v_choosers, .ref q_best, .int v_sets, .int v_surely, .ref q_alives]), (q_text, cA E 40 v_text), (q_readAgeing, cA E 6 v_readAgeing), (q_readPage, cA E 25 v_readPage)] [] [] 181) → XW E Z 0 0 [(q_this, cO 4 [.int v_thrown, .ref q_text, .int v_textSize, .int v_place, .int v_people, .ref q_ageing, .ref q_page, .int v_readPeople, .ref q_readAgeing, .ref q_readPage, .ref q_book, .int v_acts, .ref q_kept, .ref q_isKept, .int v_heard, .ref q_heardWho, .ref q_heardIs, .long v_seed, .ref q_tried, .ref q_chooser, .int v_choosers, .ref q_best, .int v_sets, .int v_surely, .ref q_alives]), (q_text, cA E 40 v_text), (q_readAgeing, cA E 6 v_readAgeing), (q_readPage, cA E 25 v_readPage)] [(0, .ref q_this)] [] 120 := by
  intro k
  induction k with
  | zero =>
    intro v_place v_readPeople v_readAgeing v_readPage h
    exact h.elim
  | succ k ih =>
    intro v_place v_readPeople v_readAgeing v_readPage h hK
    replace h := wl_succ h
    try dsimp only at h
    unfold b_X4_readCourt_120 at h
    refine x_aload_n (pc' := 121) hZ dX4_readCourt_120 rfl 0 rfl ?_
    refine g_RX4_69 (pc' := 124) hZ dX4_readCourt_121 rfl 0 rfl rfl ?_
    refine x_aload_n (pc' := 125) hZ dX4_readCourt_124 rfl 0 rfl ?_
    refine g_RX4_66 (pc' := 128) hZ dX4_readCourt_125 rfl 0 rfl rfl ?_
    refine x_icmp_ge (tgt := 181) (pc' := 131) hZ dX4_readCourt_128 (by decide) rfl (fun c128 => ?_) (fun c128 => ?_)
    · replace h := h.1 c128
      refine x_lv [] (lv' := []) rfl ?_
      exact hK v_place v_readPeople v_readAgeing v_readPage h
    · replace h := h.2 c128
      refine x_aload_n (pc' := 132) hZ dX4_readCourt_131 rfl 0 rfl ?_
      refine g_RX4_7 (pc' := 135) hZ dX4_readCourt_132 rfl 0 rfl rfl ?_
      refine x_aload_n (pc' := 136) hZ dX4_readCourt_135 rfl 0 rfl ?_
      refine g_RX4_69 (pc' := 139) hZ dX4_readCourt_136 rfl 0 rfl rfl ?_
      obtain ⟨h139, h⟩ := h
      refine x_iald (pc' := 140) hZ h139 dX4_readCourt_139 rfl 1 rfl ?_
      refine x_bipush (v := 80) (pc' := 142) hZ (by decide) dX4_readCourt_140 rfl ?_
      refine x_icmp_ne (tgt := 154) (pc' := 145) hZ dX4_readCourt_142 (by decide) rfl (fun c142 => ?_) (fun c142 => ?_)
      · replace h := h.1 c142
        refine x_aload_n (pc' := 155) hZ dX4_readCourt_154 rfl 0 rfl ?_
        refine g_RX4_69 (pc' := 158) hZ dX4_readCourt_155 rfl 0 rfl rfl ?_
        exact hRet _ _ _ _ dX4_readCourt_158 ⟨_, _, _, _, rfl, h⟩
      · replace h := h.2 c142
        refine x_aload_n (pc' := 146) hZ dX4_readCourt_145 rfl 0 rfl ?_
        refine g_RX4_76 (pc' := 149) hZ dX4_readCourt_146 rfl 0 rfl rfl ?_
        refine x_bipush (v := 6) (pc' := 151) hZ (by decide) dX4_readCourt_149 rfl ?_
        refine x_icmp_ne (tgt := 159) (pc' := 154) hZ dX4_readCourt_151 (by decide) rfl (fun c151 => ?_) (fun c151 => ?_)
        · replace h := h.1 c151
          refine x_aload_n (pc' := 160) hZ dX4_readCourt_159 rfl 0 rfl ?_
          refine x_dup (pc' := 161) hZ dX4_readCourt_160 rfl rfl ?_
          refine g_RX4_69 (pc' := 164) hZ dX4_readCourt_161 rfl 0 rfl rfl ?_
          refine x_iconst (v := 1) (pc' := 165) hZ (by decide) dX4_readCourt_164 rfl ?_
          refine x_iadd (pc' := 166) hZ dX4_readCourt_165 rfl ?_
          refine x_topi (fun x166 e166 => ?_)
          replace h := h x166 e166
          refine s_RX4_69 (pc' := 169) (ws' := [(q_this, cO 4 [.int v_thrown, .ref q_text, .int v_textSize, .int x166, .int v_people, .ref q_ageing, .ref q_page, .int v_readPeople, .ref q_readAgeing, .ref q_readPage, .ref q_book, .int v_acts, .ref q_kept, .ref q_isKept, .int v_heard, .ref q_heardWho, .ref q_heardIs, .long v_seed, .ref q_tried, .ref q_chooser, .int v_choosers, .ref q_best, .int v_sets, .int v_surely, .ref q_alives]), (q_text, cA E 40 v_text), (q_readAgeing, cA E 6 v_readAgeing), (q_readPage, cA E 25 v_readPage)]) hZ dX4_readCourt_166 rfl 0 rfl (Nat.le_of_ble_eq_true rfl) rfl ?_
          refine x_aload_n (pc' := 170) hZ dX4_readCourt_169 rfl 0 rfl ?_
          refine k_RX4_79 (pc' := 173) (q0 := 0) (as := []) (rest := []) (c' := 0) (n' := 0) (wr := []) hZ (c_X4_readPerson E q_this q_text q_ageing q_page q_readAgeing q_readPage q_book q_kept q_isKept q_heardWho q_heardIs q_tried q_chooser q_best q_alives v_thrown v_textSize x166 v_people v_readPeople v_acts v_heard v_seed v_choosers v_sets v_surely v_text v_readAgeing v_readPage _ h) rfl dX4_readCourt_170 rfl rfl rfl rfl rfl (Nat.le_of_ble_eq_true rfl) (Nat.le_of_ble_eq_true rfl) (Nat.le_of_ble_eq_true rfl) rfl rfl (Nat.le_of_ble_eq_true rfl) (Nat.le_of_ble_eq_true rfl) [0, 1, 2, 3] [] rfl rfl (by decide) (by decide) (by decide) (fun r170 w170 hw => ?_)
          obtain ⟨a170_0, a170_1, a170_2, a170_3, rfl, h⟩ := hw
          refine x_ws (ws' := [(q_this, cO 4 [.int v_thrown, .ref q_text, .int v_textSize, .int a170_0, .int v_people, .ref q_ageing, .ref q_page, .int a170_1, .ref q_readAgeing, .ref q_readPage, .ref q_book, .int v_acts, .ref q_kept, .ref q_isKept, .int v_heard, .ref q_heardWho, .ref q_heardIs, .long v_seed, .ref q_tried, .ref q_chooser, .int v_choosers, .ref q_best, .int v_sets, .int v_surely, .ref q_alives]), (q_text, cA E 40 v_text), (q_readAgeing, cA E 6 a170_2), (q_readPage, cA E 25 a170_3)]) [0, 1, 2, 3] rfl (by decide) ?_
          refine x_if_ne (tgt := 120) (pc' := 176) hZ dX4_readCourt_173 (by decide) rfl (fun c173 => ?_) (fun c173 => ?_)
          · replace h := h.1 c173
            refine x_lv [0] (lv' := [(0, .ref q_this)]) rfl ?_
            exact ih a170_0 a170_1 a170_2 a170_3 h hK
          · replace h := h.2 c173
            refine x_aload_n (pc' := 177) hZ dX4_readCourt_176 rfl 0 rfl ?_
            refine g_RX4_69 (pc' := 180) hZ dX4_readCourt_177 rfl 0 rfl rfl ?_
            exact hRet _ _ _ _ dX4_readCourt_180 ⟨_, _, _, _, rfl, h⟩
        · replace h := h.2 c151
          refine x_aload_n (pc' := 155) hZ dX4_readCourt_154 rfl 0 rfl ?_
          refine g_RX4_69 (pc' := 158) hZ dX4_readCourt_155 rfl 0 rfl rfl ?_
          exact hRet _ _ _ _ dX4_readCourt_158 ⟨_, _, _, _, rfl, h⟩
set_option maxHeartbeats 4000000 in
set_option maxRecDepth 100000 in
theorem c_X4_readCourt (E : XE) (q_this : Nat) (q_text : Nat) (q_ageing : Nat) (q_page : Nat) (q_readAgeing : Nat) (q_readPage : Nat) (q_book : Nat) (q_kept : Nat) (q_isKept : Nat) (q_heardWho : Nat) (q_heardIs : Nat) (q_tried : Nat) (q_chooser : Nat) (q_best : Nat) (q_alives : Nat) (v_thrown : Int32) (v_textSize : Int32) (v_place : Int32) (v_people : Int32) (v_readPeople : Int32) (v_acts : Int32) (v_heard : Int32) (v_seed : Int64) (v_choosers : Int32) (v_sets : Int32) (v_surely : Int32) (v_text : Nat → Int32) (v_readAgeing : Nat → Int32) (v_readPage : Nat → Int32) (post : Int32 → Int32 → Int32 → (Nat → Int32) → (Nat → Int32) → Prop) (h : p_X4_readCourt v_textSize v_place v_readPeople v_text v_readAgeing v_readPage post) : ConI E yX4_readCourt cX4_readCourt 3 .int { frames := 3, cells := 0, slots := 0, locals := 69 } 0 0 [.ref q_this] [(q_this, cO 4 [.int v_thrown, .ref q_text, .int v_textSize, .int v_place, .int v_people, .ref q_ageing, .ref q_page, .int v_readPeople, .ref q_readAgeing, .ref q_readPage, .ref q_book, .int v_acts, .ref q_kept, .ref q_isKept, .int v_heard, .ref q_heardWho, .ref q_heardIs, .long v_seed, .ref q_tried, .ref q_chooser, .int v_choosers, .ref q_best, .int v_sets, .int v_surely, .ref q_alives]), (q_text, cA E 40 v_text), (q_readAgeing, cA E 6 v_readAgeing), (q_readPage, cA E 25 v_readPage)] (fun r w => ∃ (u_place : Int32) (u_readPeople : Int32) (u_readAgeing : Nat → Int32) (u_readPage : Nat → Int32), w = [(q_this, cO 4 [.int v_thrown, .ref q_text, .int v_textSize, .int u_place, .int v_people, .ref q_ageing, .ref q_page, .int u_readPeople, .ref q_readAgeing, .ref q_readPage, .ref q_book, .int v_acts, .ref q_kept, .ref q_isKept, .int v_heard, .ref q_heardWho, .ref q_heardIs, .long v_seed, .ref q_tried, .ref q_chooser, .int v_choosers, .ref q_best, .int v_sets, .int v_surely, .ref q_alives]), (q_text, cA E 40 v_text), (q_readAgeing, cA E 6 u_readAgeing), (q_readPage, cA E 25 u_readPage)] ∧ post r u_place u_readPeople u_readAgeing u_readPage) := by
  refine ConI.of (by decide +kernel) (Nat.le_of_ble_eq_true rfl) (fun Z hZ hI hRet => ?_)
  replace hZ : XOK E Z RX4 cX4_readCourt 3 { frames := 3, cells := 0, slots := 0, locals := 69 } := hZ
  clear hI
  show XW E Z 0 0 [(q_this, cO 4 [.int v_thrown, .ref q_text, .int v_textSize, .int v_place, .int v_people, .ref q_ageing, .ref q_page, .int v_readPeople, .ref q_readAgeing, .ref q_readPage, .ref q_book, .int v_acts, .ref q_kept, .ref q_isKept, .int v_heard, .ref q_heardWho, .ref q_heardIs, .long v_seed, .ref q_tried, .ref q_chooser, .int v_choosers, .ref q_best, .int v_sets, .int v_surely, .ref q_alives]), (q_text, cA E 40 v_text), (q_readAgeing, cA E 6 v_readAgeing), (q_readPage, cA E 25 v_readPage)] [(0, .ref q_this)] [] 0
  unfold p_X4_readCourt at h
  refine x_aload_n (pc' := 1) hZ dX4_readCourt_0 rfl 0 rfl ?_
  refine x_iconst (v := 0) (pc' := 2) hZ (by decide) dX4_readCourt_1 rfl ?_
  refine s_RX4_69 (pc' := 5) (ws' := [(q_this, cO 4 [.int v_thrown, .ref q_text, .int v_textSize, .int 0, .int v_people, .ref q_ageing, .ref q_page, .int v_readPeople, .ref q_readAgeing, .ref q_readPage, .ref q_book, .int v_acts, .ref q_kept, .ref q_isKept, .int v_heard, .ref q_heardWho, .ref q_heardIs, .long v_seed, .ref q_tried, .ref q_chooser, .int v_choosers, .ref q_best, .int v_sets, .int v_surely, .ref q_alives]), (q_text, cA E 40 v_text), (q_readAgeing, cA E 6 v_readAgeing), (q_readPage, cA E 25 v_readPage)]) hZ dX4_readCourt_2 rfl 0 rfl (Nat.le_of_ble_eq_true rfl) rfl ?_
  refine x_aload_n (pc' := 6) hZ dX4_readCourt_5 rfl 0 rfl ?_
  refine x_iconst (v := 0) (pc' := 7) hZ (by decide) dX4_readCourt_6 rfl ?_
  refine s_RX4_76 (pc' := 10) (ws' := [(q_this, cO 4 [.int v_thrown, .ref q_text, .int v_textSize, .int 0, .int v_people, .ref q_ageing, .ref q_page, .int 0, .ref q_readAgeing, .ref q_readPage, .ref q_book, .int v_acts, .ref q_kept, .ref q_isKept, .int v_heard, .ref q_heardWho, .ref q_heardIs, .long v_seed, .ref q_tried, .ref q_chooser, .int v_choosers, .ref q_best, .int v_sets, .int v_surely, .ref q_alives]), (q_text, cA E 40 v_text), (q_readAgeing, cA E 6 v_readAgeing), (q_readPage, cA E 25 v_readPage)]) hZ dX4_readCourt_7 rfl 0 rfl (Nat.le_of_ble_eq_true rfl) rfl ?_
  refine x_iconst (v := 0) (pc' := 11) hZ (by decide) dX4_readCourt_10 rfl ?_
  refine x_istore_n (i := 1) (pc' := 12) (lv' := [(1, .int 0), (0, .ref q_this)]) hZ dX4_readCourt_11 rfl rfl (by decide) rfl ?_
  refine x_lv [1, 0] (lv' := [(0, .ref q_this), (1, .int 0)]) rfl ?_
  obtain ⟨k12, h⟩ := h
  refine t_X4_readCourt_12 E Z q_this q_text q_ageing q_page q_readAgeing q_readPage q_book q_kept q_isKept q_heardWho q_heardIs q_tried q_chooser q_best q_alives v_thrown v_textSize 0 v_people 0 v_acts v_heard v_seed v_choosers v_sets v_surely v_text v_readAgeing hZ  _ 0 v_readPage h (fun l1_12 v_readPage_12 h => ?_)
  refine x_aload_n (pc' := 32) hZ dX4_readCourt_31 rfl 0 rfl ?_
  refine g_RX4_66 (pc' := 35) hZ dX4_readCourt_32 rfl 0 rfl rfl ?_
  refine x_if_eq (tgt := 49) (pc' := 38) hZ dX4_readCourt_35 (by decide) rfl (fun c35 => ?_) (fun c35 => ?_)
  · replace h := h.1 c35
    refine x_iconst (v := 0) (pc' := 50) hZ (by decide) dX4_readCourt_49 rfl ?_
    exact hRet _ _ _ _ dX4_readCourt_50 ⟨_, _, _, _, rfl, h⟩
  · replace h := h.2 c35
    refine x_aload_n (pc' := 39) hZ dX4_readCourt_38 rfl 0 rfl ?_
    refine g_RX4_7 (pc' := 42) hZ dX4_readCourt_39 rfl 0 rfl rfl ?_
    refine x_iconst (v := 0) (pc' := 43) hZ (by decide) dX4_readCourt_42 rfl ?_
    have h43 : vp_in 0 40 := by unfold vp_in; decide
    refine x_iald (pc' := 44) hZ h43 dX4_readCourt_43 rfl 1 rfl ?_
    refine x_bipush (v := 81) (pc' := 46) hZ (by decide) dX4_readCourt_44 rfl ?_
    refine x_icmp_eq (tgt := 51) (pc' := 49) hZ dX4_readCourt_46 (by decide) rfl (fun c46 => ?_) (fun c46 => ?_)
    · replace h := h.1 c46
      refine x_aload_n (pc' := 52) hZ dX4_readCourt_51 rfl 0 rfl ?_
      refine x_iconst (v := 1) (pc' := 53) hZ (by decide) dX4_readCourt_52 rfl ?_
      refine s_RX4_69 (pc' := 56) (ws' := [(q_this, cO 4 [.int v_thrown, .ref q_text, .int v_textSize, .int 1, .int v_people, .ref q_ageing, .ref q_page, .int 0, .ref q_readAgeing, .ref q_readPage, .ref q_book, .int v_acts, .ref q_kept, .ref q_isKept, .int v_heard, .ref q_heardWho, .ref q_heardIs, .long v_seed, .ref q_tried, .ref q_chooser, .int v_choosers, .ref q_best, .int v_sets, .int v_surely, .ref q_alives]), (q_text, cA E 40 v_text), (q_readAgeing, cA E 6 v_readAgeing), (q_readPage, cA E 25 v_readPage_12)]) hZ dX4_readCourt_53 rfl 0 rfl (Nat.le_of_ble_eq_true rfl) rfl ?_
      refine x_iconst (v := 0) (pc' := 57) hZ (by decide) dX4_readCourt_56 rfl ?_
      refine x_istore_n (i := 1) (pc' := 58) (lv' := [(1, .int 0), (0, .ref q_this)]) hZ dX4_readCourt_57 rfl rfl (by decide) rfl ?_
      refine x_lv [1, 0] (lv' := [(0, .ref q_this), (1, .int 0)]) rfl ?_
      obtain ⟨k58, h⟩ := h
      refine t_X4_readCourt_58 E Z q_this q_text q_ageing q_page q_readAgeing q_readPage q_book q_kept q_isKept q_heardWho q_heardIs q_tried q_chooser q_best q_alives v_thrown v_textSize v_people 0 v_acts v_heard v_seed v_choosers v_sets v_surely v_text v_readAgeing hZ hRet _ 0 1 v_readPage_12 h (fun l1_58 v_place_58 v_readPage_58 h => ?_)
      refine x_lv [0] (lv' := [(0, .ref q_this)]) rfl ?_
      obtain ⟨k120, h⟩ := h
      refine t_X4_readCourt_120 E Z q_this q_text q_ageing q_page q_readAgeing q_readPage q_book q_kept q_isKept q_heardWho q_heardIs q_tried q_chooser q_best q_alives v_thrown v_textSize v_people v_acts v_heard v_seed v_choosers v_sets v_surely v_text hZ hRet _ v_place_58 0 v_readAgeing v_readPage_58 h (fun v_place_120 v_readPeople_120 v_readAgeing_120 v_readPage_120 h => ?_)
      refine x_bipush (v := (-9)) (pc' := 183) hZ (by decide) dX4_readCourt_181 rfl ?_
      exact hRet _ _ _ _ dX4_readCourt_183 ⟨_, _, _, _, rfl, h⟩
    · replace h := h.2 c46
      refine x_iconst (v := 0) (pc' := 50) hZ (by decide) dX4_readCourt_49 rfl ?_
      exact hRet _ _ _ _ dX4_readCourt_50 ⟨_, _, _, _, rfl, h⟩
set_option maxHeartbeats 4000000 in
set_option maxRecDepth 100000 in
theorem c_X4_fault (E : XE) (q_this : Nat) (q_text : Nat) (q_ageing : Nat) (q_page : Nat) (q_readAgeing : Nat) (q_readPage : Nat) (q_book : Nat) (q_kept : Nat) (q_isKept : Nat) (q_heardWho : Nat) (q_heardIs : Nat) (q_tried : Nat) (q_chooser : Nat) (q_best : Nat) (q_alives : Nat) (v_thrown : Int32) (v_textSize : Int32) (v_place : Int32) (v_people : Int32) (v_readPeople : Int32) (v_acts : Int32) (v_heard : Int32) (v_seed : Int64) (v_choosers : Int32) (v_sets : Int32) (v_surely : Int32) (v_text : Nat → Int32) (v_readAgeing : Nat → Int32) (v_readPage : Nat → Int32) (post : Int32 → Int32 → Int32 → Int32 → (Nat → Int32) → (Nat → Int32) → Prop) (h : p_X4_fault v_thrown v_textSize v_place v_readPeople v_text v_readAgeing v_readPage post) : ConI E yX4_fault cX4_fault 1 .int { frames := 4, cells := 0, slots := 0, locals := 91 } 0 0 [.ref q_this] [(q_this, cO 4 [.int v_thrown, .ref q_text, .int v_textSize, .int v_place, .int v_people, .ref q_ageing, .ref q_page, .int v_readPeople, .ref q_readAgeing, .ref q_readPage, .ref q_book, .int v_acts, .ref q_kept, .ref q_isKept, .int v_heard, .ref q_heardWho, .ref q_heardIs, .long v_seed, .ref q_tried, .ref q_chooser, .int v_choosers, .ref q_best, .int v_sets, .int v_surely, .ref q_alives]), (q_text, cA E 40 v_text), (q_readAgeing, cA E 6 v_readAgeing), (q_readPage, cA E 25 v_readPage)] (fun r w => ∃ (u_thrown : Int32) (u_place : Int32) (u_readPeople : Int32) (u_readAgeing : Nat → Int32) (u_readPage : Nat → Int32), w = [(q_this, cO 4 [.int u_thrown, .ref q_text, .int v_textSize, .int u_place, .int v_people, .ref q_ageing, .ref q_page, .int u_readPeople, .ref q_readAgeing, .ref q_readPage, .ref q_book, .int v_acts, .ref q_kept, .ref q_isKept, .int v_heard, .ref q_heardWho, .ref q_heardIs, .long v_seed, .ref q_tried, .ref q_chooser, .int v_choosers, .ref q_best, .int v_sets, .int v_surely, .ref q_alives]), (q_text, cA E 40 v_text), (q_readAgeing, cA E 6 u_readAgeing), (q_readPage, cA E 25 u_readPage)] ∧ post r u_thrown u_place u_readPeople u_readAgeing u_readPage) := by
  refine ConI.of (by decide +kernel) (Nat.le_of_ble_eq_true rfl) (fun Z hZ hI hRet => ?_)
  replace hZ : XOK E Z RX4 cX4_fault 1 { frames := 4, cells := 0, slots := 0, locals := 91 } := hZ
  clear hI
  show XW E Z 0 0 [(q_this, cO 4 [.int v_thrown, .ref q_text, .int v_textSize, .int v_place, .int v_people, .ref q_ageing, .ref q_page, .int v_readPeople, .ref q_readAgeing, .ref q_readPage, .ref q_book, .int v_acts, .ref q_kept, .ref q_isKept, .int v_heard, .ref q_heardWho, .ref q_heardIs, .long v_seed, .ref q_tried, .ref q_chooser, .int v_choosers, .ref q_best, .int v_sets, .int v_surely, .ref q_alives]), (q_text, cA E 40 v_text), (q_readAgeing, cA E 6 v_readAgeing), (q_readPage, cA E 25 v_readPage)] [(0, .ref q_this)] [] 0
  unfold p_X4_fault at h
  refine x_aload_n (pc' := 1) hZ dX4_fault_0 rfl 0 rfl ?_
  refine x_iconst (v := 0) (pc' := 2) hZ (by decide) dX4_fault_1 rfl ?_
  refine s_RX4_53 (pc' := 5) (ws' := [(q_this, cO 4 [.int 0, .ref q_text, .int v_textSize, .int v_place, .int v_people, .ref q_ageing, .ref q_page, .int v_readPeople, .ref q_readAgeing, .ref q_readPage, .ref q_book, .int v_acts, .ref q_kept, .ref q_isKept, .int v_heard, .ref q_heardWho, .ref q_heardIs, .long v_seed, .ref q_tried, .ref q_chooser, .int v_choosers, .ref q_best, .int v_sets, .int v_surely, .ref q_alives]), (q_text, cA E 40 v_text), (q_readAgeing, cA E 6 v_readAgeing), (q_readPage, cA E 25 v_readPage)]) hZ dX4_fault_2 rfl 0 rfl (Nat.le_of_ble_eq_true rfl) rfl ?_
  refine x_aload_n (pc' := 6) hZ dX4_fault_5 rfl 0 rfl ?_
  refine k_RX4_83 (pc' := 9) (q0 := 0) (as := []) (rest := []) (c' := 0) (n' := 0) (wr := []) hZ (c_X4_readCourt E q_this q_text q_ageing q_page q_readAgeing q_readPage q_book q_kept q_isKept q_heardWho q_heardIs q_tried q_chooser q_best q_alives 0 v_textSize v_place v_people v_readPeople v_acts v_heard v_seed v_choosers v_sets v_surely v_text v_readAgeing v_readPage _ h) rfl dX4_fault_6 rfl rfl rfl rfl rfl (Nat.le_of_ble_eq_true rfl) (Nat.le_of_ble_eq_true rfl) (Nat.le_of_ble_eq_true rfl) rfl rfl (Nat.le_of_ble_eq_true rfl) (Nat.le_of_ble_eq_true rfl) [0, 1, 2, 3] [] rfl rfl (by decide) (by decide) (by decide) (fun r6 w6 hw => ?_)
  obtain ⟨a6_0, a6_1, a6_2, a6_3, rfl, h⟩ := hw
  refine x_ws (ws' := [(q_this, cO 4 [.int 0, .ref q_text, .int v_textSize, .int a6_0, .int v_people, .ref q_ageing, .ref q_page, .int a6_1, .ref q_readAgeing, .ref q_readPage, .ref q_book, .int v_acts, .ref q_kept, .ref q_isKept, .int v_heard, .ref q_heardWho, .ref q_heardIs, .long v_seed, .ref q_tried, .ref q_chooser, .int v_choosers, .ref q_best, .int v_sets, .int v_surely, .ref q_alives]), (q_text, cA E 40 v_text), (q_readAgeing, cA E 6 a6_2), (q_readPage, cA E 25 a6_3)]) [0, 1, 2, 3] rfl (by decide) ?_
  exact hRet _ _ _ _ dX4_fault_9 ⟨_, _, _, _, _, rfl, h⟩
set_option maxHeartbeats 4000000 in
set_option maxRecDepth 100000 in
theorem t_X4_court_27 (E : XE) (Z : ZC) (q_this : Nat) (q_text : Nat) (q_ageing : Nat) (q_page : Nat) (q_readAgeing : Nat) (q_readPage : Nat) (q_book : Nat) (q_kept : Nat) (q_isKept : Nat) (q_heardWho : Nat) (q_heardIs : Nat) (q_tried : Nat) (q_chooser : Nat) (q_best : Nat) (q_alives : Nat) (v_thrown : Int32) (v_textSize : Int32) (v_place : Int32) (v_people : Int32) (v_readPeople : Int32) (v_acts : Int32) (v_heard : Int32) (v_seed : Int64) (v_choosers : Int32) (v_sets : Int32) (v_surely : Int32) (v_text : Nat → Int32) (v_page : Nat → Int32) (v_readAgeing : Nat → Int32) (v_readPage : Nat → Int32) (v_isKept : Nat → Int32) {K : Int32 → (Nat → Int32) → Prop} (hZ : XOK E Z RX4 cX4_court 2 { frames := 4, cells := 0, slots := 0, locals := 91 }) : ∀ (k : Nat) (l1 : Int32) (v_ageing : (Nat → Int32)), wl (fun rec v => b_X4_court_27 v_people v_readAgeing K rec v.1 v.2) k (l1, v_ageing) → (∀ (l1 : Int32) (v_ageing : (Nat → Int32)), K l1 v_ageing → XW E Z 0 0 [(q_this, cO 4 [.int v_thrown, .ref q_text, .int v_textSize, .int v_place, .int v_people, .ref q_ageing, .ref q_page, .int v_readPeople, .ref q_readAgeing, .ref q_readPage, .ref q_book, .int v_acts, .ref q_kept, .ref q_isKept, .int v_heard, .ref q_heardWho, .ref q_heardIs, .long v_seed, .ref q_tried, .ref q_chooser, .int v_choosers, .ref q_best, .int v_sets, .int v_surely, .ref q_alives]), (q_text, cA E 40 v_text), (q_ageing, cA E 6 v_ageing), (q_page, cA E 25 v_page), (q_readAgeing, cA E 6 v_readAgeing), (q_readPage, cA E 25 v_readPage), (q_isKept, cB E 2 v_isKept)] [(0, .ref q_this)] [] 53) → XW E Z 0 0 [(q_this, cO 4 [.int v_thrown, .ref q_text, .int v_textSize, .int v_place, .int v_people, .ref q_ageing, .ref q_page, .int v_readPeople, .ref q_readAgeing, .ref q_readPage, .ref q_book, .int v_acts, .ref q_kept, .ref q_isKept, .int v_heard, .ref q_heardWho, .ref q_heardIs, .long v_seed, .ref q_tried, .ref q_chooser, .int v_choosers, .ref q_best, .int v_sets, .int v_surely, .ref q_alives]), (q_text, cA E 40 v_text), (q_ageing, cA E 6 v_ageing), (q_page, cA E 25 v_page), (q_readAgeing, cA E 6 v_readAgeing), (q_readPage, cA E 25 v_readPage), (q_isKept, cB E 2 v_isKept)] [(0, .ref q_this), (1, .int l1)] [] 27 := by
  intro k
  induction k with
  | zero =>
    intro l1 v_ageing h
    exact h.elim
  | succ k ih =>
    intro l1 v_ageing h hK
    replace h := wl_succ h
    try dsimp only at h
    unfold b_X4_court_27 at h
    refine x_iload_n (pc' := 28) hZ dX4_court_27 rfl 1 rfl ?_
    refine x_aload_n (pc' := 29) hZ dX4_court_28 rfl 0 rfl ?_
    refine g_RX4_57 (pc' := 32) hZ dX4_court_29 rfl 0 rfl rfl ?_
    refine x_icmp_ge (tgt := 53) (pc' := 35) hZ dX4_court_32 (by decide) rfl (fun c32 => ?_) (fun c32 => ?_)
    · replace h := h.1 c32
      refine x_lv [0] (lv' := [(0, .ref q_this)]) rfl ?_
      exact hK l1 v_ageing h
    · replace h := h.2 c32
      refine x_aload_n (pc' := 36) hZ dX4_court_35 rfl 0 rfl ?_
      refine g_RX4_13 (pc' := 39) hZ dX4_court_36 rfl 0 rfl rfl ?_
      refine x_iload_n (pc' := 40) hZ dX4_court_39 rfl 1 rfl ?_
      refine x_aload_n (pc' := 41) hZ dX4_court_40 rfl 0 rfl ?_
      refine g_RX4_19 (pc' := 44) hZ dX4_court_41 rfl 0 rfl rfl ?_
      refine x_iload_n (pc' := 45) hZ dX4_court_44 rfl 1 rfl ?_
      obtain ⟨h45, h⟩ := h
      refine x_iald (pc' := 46) hZ h45 dX4_court_45 rfl 4 rfl ?_
      refine x_topi (fun x46 e46 => ?_)
      replace h := h x46 e46
      obtain ⟨h46, h⟩ := h
      refine x_iast (pc' := 47) (ws' := [(q_this, cO 4 [.int v_thrown, .ref q_text, .int v_textSize, .int v_place, .int v_people, .ref q_ageing, .ref q_page, .int v_readPeople, .ref q_readAgeing, .ref q_readPage, .ref q_book, .int v_acts, .ref q_kept, .ref q_isKept, .int v_heard, .ref q_heardWho, .ref q_heardIs, .long v_seed, .ref q_tried, .ref q_chooser, .int v_choosers, .ref q_best, .int v_sets, .int v_surely, .ref q_alives]), (q_text, cA E 40 v_text), (q_ageing, cA E 6 (upd v_ageing (ix l1) x46)), (q_page, cA E 25 v_page), (q_readAgeing, cA E 6 v_readAgeing), (q_readPage, cA E 25 v_readPage), (q_isKept, cB E 2 v_isKept)]) hZ h46 dX4_court_46 rfl 2 rfl rfl ?_
      obtain ⟨x47, e47⟩ : ∃ y : Int32, y = l1 + 1 := ⟨_, rfl⟩
      replace h := h x47 e47
      refine x_iinc (i := 1) (v := x47) (pc' := 50) (lv' := [(1, .int x47), (0, .ref q_this)]) hZ dX4_court_47 rfl 1 rfl (by rw [e47]; rfl) (by decide) rfl ?_
      refine x_goto (pc' := 27) hZ dX4_court_50 (by decide) ?_
      refine x_lv [1, 0] (lv' := [(0, .ref q_this), (1, .int x47)]) rfl ?_
      exact ih x47 (upd v_ageing (ix l1) x46) h hK
set_option maxHeartbeats 4000000 in
set_option maxRecDepth 100000 in
theorem t_X4_court_55 (E : XE) (Z : ZC) (q_this : Nat) (q_text : Nat) (q_ageing : Nat) (q_page : Nat) (q_readAgeing : Nat) (q_readPage : Nat) (q_book : Nat) (q_kept : Nat) (q_isKept : Nat) (q_heardWho : Nat) (q_heardIs : Nat) (q_tried : Nat) (q_chooser : Nat) (q_best : Nat) (q_alives : Nat) (v_thrown : Int32) (v_textSize : Int32) (v_place : Int32) (v_people : Int32) (v_readPeople : Int32) (v_acts : Int32) (v_heard : Int32) (v_seed : Int64) (v_choosers : Int32) (v_sets : Int32) (v_surely : Int32) (v_text : Nat → Int32) (v_ageing : Nat → Int32) (v_readAgeing : Nat → Int32) (v_readPage : Nat → Int32) (v_isKept : Nat → Int32) {K : Int32 → (Nat → Int32) → Prop} (hZ : XOK E Z RX4 cX4_court 2 { frames := 4, cells := 0, slots := 0, locals := 91 }) : ∀ (k : Nat) (l1 : Int32) (v_page : (Nat → Int32)), wl (fun rec v => b_X4_court_55 v_readPage K rec v.1 v.2) k (l1, v_page) → (∀ (l1 : Int32) (v_page : (Nat → Int32)), K l1 v_page → XW E Z 0 0 [(q_this, cO 4 [.int v_thrown, .ref q_text, .int v_textSize, .int v_place, .int v_people, .ref q_ageing, .ref q_page, .int v_readPeople, .ref q_readAgeing, .ref q_readPage, .ref q_book, .int v_acts, .ref q_kept, .ref q_isKept, .int v_heard, .ref q_heardWho, .ref q_heardIs, .long v_seed, .ref q_tried, .ref q_chooser, .int v_choosers, .ref q_best, .int v_sets, .int v_surely, .ref q_alives]), (q_text, cA E 40 v_text), (q_ageing, cA E 6 v_ageing), (q_page, cA E 25 v_page), (q_readAgeing, cA E 6 v_readAgeing), (q_readPage, cA E 25 v_readPage), (q_isKept, cB E 2 v_isKept)] [(0, .ref q_this)] [] 79) → XW E Z 0 0 [(q_this, cO 4 [.int v_thrown, .ref q_text, .int v_textSize, .int v_place, .int v_people, .ref q_ageing, .ref q_page, .int v_readPeople, .ref q_readAgeing, .ref q_readPage, .ref q_book, .int v_acts, .ref q_kept, .ref q_isKept, .int v_heard, .ref q_heardWho, .ref q_heardIs, .long v_seed, .ref q_tried, .ref q_chooser, .int v_choosers, .ref q_best, .int v_sets, .int v_surely, .ref q_alives]), (q_text, cA E 40 v_text), (q_ageing, cA E 6 v_ageing), (q_page, cA E 25 v_page), (q_readAgeing, cA E 6 v_readAgeing), (q_readPage, cA E 25 v_readPage), (q_isKept, cB E 2 v_isKept)] [(0, .ref q_this), (1, .int l1)] [] 55 := by
  intro k
  induction k with
  | zero =>
    intro l1 v_page h
    exact h.elim
  | succ k ih =>
    intro l1 v_page h hK
    replace h := wl_succ h
    try dsimp only at h
    unfold b_X4_court_55 at h
    refine x_iload_n (pc' := 56) hZ dX4_court_55 rfl 1 rfl ?_
    refine x_bipush (v := 25) (pc' := 58) hZ (by decide) dX4_court_56 rfl ?_
    refine x_icmp_ge (tgt := 79) (pc' := 61) hZ dX4_court_58 (by decide) rfl (fun c58 => ?_) (fun c58 => ?_)
    · replace h := h.1 c58
      refine x_lv [0] (lv' := [(0, .ref q_this)]) rfl ?_
      exact hK l1 v_page h
    · replace h := h.2 c58
      refine x_aload_n (pc' := 62) hZ dX4_court_61 rfl 0 rfl ?_
      refine g_RX4_16 (pc' := 65) hZ dX4_court_62 rfl 0 rfl rfl ?_
      refine x_iload_n (pc' := 66) hZ dX4_court_65 rfl 1 rfl ?_
      refine x_aload_n (pc' := 67) hZ dX4_court_66 rfl 0 rfl ?_
      refine g_RX4_22 (pc' := 70) hZ dX4_court_67 rfl 0 rfl rfl ?_
      refine x_iload_n (pc' := 71) hZ dX4_court_70 rfl 1 rfl ?_
      obtain ⟨h71, h⟩ := h
      refine x_iald (pc' := 72) hZ h71 dX4_court_71 rfl 5 rfl ?_
      refine x_topi (fun x72 e72 => ?_)
      replace h := h x72 e72
      obtain ⟨h72, h⟩ := h
      refine x_iast (pc' := 73) (ws' := [(q_this, cO 4 [.int v_thrown, .ref q_text, .int v_textSize, .int v_place, .int v_people, .ref q_ageing, .ref q_page, .int v_readPeople, .ref q_readAgeing, .ref q_readPage, .ref q_book, .int v_acts, .ref q_kept, .ref q_isKept, .int v_heard, .ref q_heardWho, .ref q_heardIs, .long v_seed, .ref q_tried, .ref q_chooser, .int v_choosers, .ref q_best, .int v_sets, .int v_surely, .ref q_alives]), (q_text, cA E 40 v_text), (q_ageing, cA E 6 v_ageing), (q_page, cA E 25 (upd v_page (ix l1) x72)), (q_readAgeing, cA E 6 v_readAgeing), (q_readPage, cA E 25 v_readPage), (q_isKept, cB E 2 v_isKept)]) hZ h72 dX4_court_72 rfl 3 rfl rfl ?_
      obtain ⟨x73, e73⟩ : ∃ y : Int32, y = l1 + 1 := ⟨_, rfl⟩
      replace h := h x73 e73
      refine x_iinc (i := 1) (v := x73) (pc' := 76) (lv' := [(1, .int x73), (0, .ref q_this)]) hZ dX4_court_73 rfl 1 rfl (by rw [e73]; rfl) (by decide) rfl ?_
      refine x_goto (pc' := 55) hZ dX4_court_76 (by decide) ?_
      refine x_lv [1, 0] (lv' := [(0, .ref q_this), (1, .int x73)]) rfl ?_
      exact ih x73 (upd v_page (ix l1) x72) h hK
set_option maxHeartbeats 4000000 in
set_option maxRecDepth 100000 in
theorem c_X4_court (E : XE) (q_this : Nat) (q_text : Nat) (q_ageing : Nat) (q_page : Nat) (q_readAgeing : Nat) (q_readPage : Nat) (q_book : Nat) (q_kept : Nat) (q_isKept : Nat) (q_heardWho : Nat) (q_heardIs : Nat) (q_tried : Nat) (q_chooser : Nat) (q_best : Nat) (q_alives : Nat) (v_thrown : Int32) (v_textSize : Int32) (v_place : Int32) (v_people : Int32) (v_readPeople : Int32) (v_acts : Int32) (v_heard : Int32) (v_seed : Int64) (v_choosers : Int32) (v_sets : Int32) (v_surely : Int32) (v_text : Nat → Int32) (v_ageing : Nat → Int32) (v_page : Nat → Int32) (v_readAgeing : Nat → Int32) (v_readPage : Nat → Int32) (v_isKept : Nat → Int32) (post : Int32 → Int32 → Int32 → Int32 → Int32 → Int32 → (Nat → Int32) → (Nat → Int32) → (Nat → Int32) → (Nat → Int32) → (Nat → Int32) → Prop) (h : p_X4_court v_thrown v_textSize v_place v_people v_readPeople v_acts v_text v_ageing v_page v_readAgeing v_readPage v_isKept post) : ConI E yX4_court cX4_court 2 .int { frames := 4, cells := 0, slots := 0, locals := 91 } 0 0 [.ref q_this] [(q_this, cO 4 [.int v_thrown, .ref q_text, .int v_textSize, .int v_place, .int v_people, .ref q_ageing, .ref q_page, .int v_readPeople, .ref q_readAgeing, .ref q_readPage, .ref q_book, .int v_acts, .ref q_kept, .ref q_isKept, .int v_heard, .ref q_heardWho, .ref q_heardIs, .long v_seed, .ref q_tried, .ref q_chooser, .int v_choosers, .ref q_best, .int v_sets, .int v_surely, .ref q_alives]), (q_text, cA E 40 v_text), (q_ageing, cA E 6 v_ageing), (q_page, cA E 25 v_page), (q_readAgeing, cA E 6 v_readAgeing), (q_readPage, cA E 25 v_readPage), (q_isKept, cB E 2 v_isKept)] (fun r w => ∃ (u_thrown : Int32) (u_place : Int32) (u_people : Int32) (u_readPeople : Int32) (u_acts : Int32) (u_ageing : Nat → Int32) (u_page : Nat → Int32) (u_readAgeing : Nat → Int32) (u_readPage : Nat → Int32) (u_isKept : Nat → Int32), w = [(q_this, cO 4 [.int u_thrown, .ref q_text, .int v_textSize, .int u_place, .int u_people, .ref q_ageing, .ref q_page, .int u_readPeople, .ref q_readAgeing, .ref q_readPage, .ref q_book, .int u_acts, .ref q_kept, .ref q_isKept, .int v_heard, .ref q_heardWho, .ref q_heardIs, .long v_seed, .ref q_tried, .ref q_chooser, .int v_choosers, .ref q_best, .int v_sets, .int v_surely, .ref q_alives]), (q_text, cA E 40 v_text), (q_ageing, cA E 6 u_ageing), (q_page, cA E 25 u_page), (q_readAgeing, cA E 6 u_readAgeing), (q_readPage, cA E 25 u_readPage), (q_isKept, cB E 2 u_isKept)] ∧ post r u_thrown u_place u_people u_readPeople u_acts u_ageing u_page u_readAgeing u_readPage u_isKept) := by
  refine ConI.of (by decide +kernel) (Nat.le_of_ble_eq_true rfl) (fun Z hZ hI hRet => ?_)
  replace hZ : XOK E Z RX4 cX4_court 2 { frames := 4, cells := 0, slots := 0, locals := 91 } := hZ
  clear hI
  show XW E Z 0 0 [(q_this, cO 4 [.int v_thrown, .ref q_text, .int v_textSize, .int v_place, .int v_people, .ref q_ageing, .ref q_page, .int v_readPeople, .ref q_readAgeing, .ref q_readPage, .ref q_book, .int v_acts, .ref q_kept, .ref q_isKept, .int v_heard, .ref q_heardWho, .ref q_heardIs, .long v_seed, .ref q_tried, .ref q_chooser, .int v_choosers, .ref q_best, .int v_sets, .int v_surely, .ref q_alives]), (q_text, cA E 40 v_text), (q_ageing, cA E 6 v_ageing), (q_page, cA E 25 v_page), (q_readAgeing, cA E 6 v_readAgeing), (q_readPage, cA E 25 v_readPage), (q_isKept, cB E 2 v_isKept)] [(0, .ref q_this)] [] 0
  unfold p_X4_court at h
  refine x_aload_n (pc' := 1) hZ dX4_court_0 rfl 0 rfl ?_
  refine x_iconst (v := 0) (pc' := 2) hZ (by decide) dX4_court_1 rfl ?_
  refine s_RX4_53 (pc' := 5) (ws' := [(q_this, cO 4 [.int 0, .ref q_text, .int v_textSize, .int v_place, .int v_people, .ref q_ageing, .ref q_page, .int v_readPeople, .ref q_readAgeing, .ref q_readPage, .ref q_book, .int v_acts, .ref q_kept, .ref q_isKept, .int v_heard, .ref q_heardWho, .ref q_heardIs, .long v_seed, .ref q_tried, .ref q_chooser, .int v_choosers, .ref q_best, .int v_sets, .int v_surely, .ref q_alives]), (q_text, cA E 40 v_text), (q_ageing, cA E 6 v_ageing), (q_page, cA E 25 v_page), (q_readAgeing, cA E 6 v_readAgeing), (q_readPage, cA E 25 v_readPage), (q_isKept, cB E 2 v_isKept)]) hZ dX4_court_2 rfl 0 rfl (Nat.le_of_ble_eq_true rfl) rfl ?_
  refine x_aload_n (pc' := 6) hZ dX4_court_5 rfl 0 rfl ?_
  refine k_RX4_83 (pc' := 9) (q0 := 0) (as := []) (rest := []) (c' := 0) (n' := 0) (wr := [(q_ageing, cA E 6 v_ageing), (q_page, cA E 25 v_page), (q_isKept, cB E 2 v_isKept)]) hZ (c_X4_readCourt E q_this q_text q_ageing q_page q_readAgeing q_readPage q_book q_kept q_isKept q_heardWho q_heardIs q_tried q_chooser q_best q_alives 0 v_textSize v_place v_people v_readPeople v_acts v_heard v_seed v_choosers v_sets v_surely v_text v_readAgeing v_readPage _ h) rfl dX4_court_6 rfl rfl rfl rfl rfl (Nat.le_of_ble_eq_true rfl) (Nat.le_of_ble_eq_true rfl) (Nat.le_of_ble_eq_true rfl) rfl rfl (Nat.le_of_ble_eq_true rfl) (Nat.le_of_ble_eq_true rfl) [0, 1, 4, 5] [2, 3, 6] rfl rfl (by decide) (by decide) (by decide) (fun r6 w6 hw => ?_)
  obtain ⟨a6_0, a6_1, a6_2, a6_3, rfl, h⟩ := hw
  refine x_ws (ws' := [(q_this, cO 4 [.int 0, .ref q_text, .int v_textSize, .int a6_0, .int v_people, .ref q_ageing, .ref q_page, .int a6_1, .ref q_readAgeing, .ref q_readPage, .ref q_book, .int v_acts, .ref q_kept, .ref q_isKept, .int v_heard, .ref q_heardWho, .ref q_heardIs, .long v_seed, .ref q_tried, .ref q_chooser, .int v_choosers, .ref q_best, .int v_sets, .int v_surely, .ref q_alives]), (q_text, cA E 40 v_text), (q_ageing, cA E 6 v_ageing), (q_page, cA E 25 v_page), (q_readAgeing, cA E 6 a6_2), (q_readPage, cA E 25 a6_3), (q_isKept, cB E 2 v_isKept)]) [3, 4, 0, 1, 5, 6, 2] rfl (by decide) ?_
  refine x_bipush (v := (-9)) (pc' := 11) hZ (by decide) dX4_court_9 rfl ?_
  refine x_icmp_eq (tgt := 17) (pc' := 14) hZ dX4_court_11 (by decide) rfl (fun c11 => ?_) (fun c11 => ?_)
  · replace h := h.1 c11
    refine x_aload_n (pc' := 18) hZ dX4_court_17 rfl 0 rfl ?_
    refine x_aload_n (pc' := 19) hZ dX4_court_18 rfl 0 rfl ?_
    refine g_RX4_76 (pc' := 22) hZ dX4_court_19 rfl 0 rfl rfl ?_
    refine s_RX4_57 (pc' := 25) (ws' := [(q_this, cO 4 [.int 0, .ref q_text, .int v_textSize, .int a6_0, .int a6_1, .ref q_ageing, .ref q_page, .int a6_1, .ref q_readAgeing, .ref q_readPage, .ref q_book, .int v_acts, .ref q_kept, .ref q_isKept, .int v_heard, .ref q_heardWho, .ref q_heardIs, .long v_seed, .ref q_tried, .ref q_chooser, .int v_choosers, .ref q_best, .int v_sets, .int v_surely, .ref q_alives]), (q_text, cA E 40 v_text), (q_ageing, cA E 6 v_ageing), (q_page, cA E 25 v_page), (q_readAgeing, cA E 6 a6_2), (q_readPage, cA E 25 a6_3), (q_isKept, cB E 2 v_isKept)]) hZ dX4_court_22 rfl 0 rfl (Nat.le_of_ble_eq_true rfl) rfl ?_
    refine x_iconst (v := 0) (pc' := 26) hZ (by decide) dX4_court_25 rfl ?_
    refine x_istore_n (i := 1) (pc' := 27) (lv' := [(1, .int 0), (0, .ref q_this)]) hZ dX4_court_26 rfl rfl (by decide) rfl ?_
    refine x_lv [1, 0] (lv' := [(0, .ref q_this), (1, .int 0)]) rfl ?_
    obtain ⟨k27, h⟩ := h
    refine t_X4_court_27 E Z q_this q_text q_ageing q_page q_readAgeing q_readPage q_book q_kept q_isKept q_heardWho q_heardIs q_tried q_chooser q_best q_alives 0 v_textSize a6_0 a6_1 a6_1 v_acts v_heard v_seed v_choosers v_sets v_surely v_text v_page a6_2 a6_3 v_isKept hZ  _ 0 v_ageing h (fun l1_27 v_ageing_27 h => ?_)
    refine x_iconst (v := 0) (pc' := 54) hZ (by decide) dX4_court_53 rfl ?_
    refine x_istore_n (i := 1) (pc' := 55) (lv' := [(1, .int 0), (0, .ref q_this)]) hZ dX4_court_54 rfl rfl (by decide) rfl ?_
    refine x_lv [1, 0] (lv' := [(0, .ref q_this), (1, .int 0)]) rfl ?_
    obtain ⟨k55, h⟩ := h
    refine t_X4_court_55 E Z q_this q_text q_ageing q_page q_readAgeing q_readPage q_book q_kept q_isKept q_heardWho q_heardIs q_tried q_chooser q_best q_alives 0 v_textSize a6_0 a6_1 a6_1 v_acts v_heard v_seed v_choosers v_sets v_surely v_text v_ageing_27 a6_2 a6_3 v_isKept hZ  _ 0 v_page h (fun l1_55 v_page_55 h => ?_)
    refine x_aload_n (pc' := 80) hZ dX4_court_79 rfl 0 rfl ?_
    refine x_iconst (v := 0) (pc' := 81) hZ (by decide) dX4_court_80 rfl ?_
    refine s_RX4_87 (pc' := 84) (ws' := [(q_this, cO 4 [.int 0, .ref q_text, .int v_textSize, .int a6_0, .int a6_1, .ref q_ageing, .ref q_page, .int a6_1, .ref q_readAgeing, .ref q_readPage, .ref q_book, .int 0, .ref q_kept, .ref q_isKept, .int v_heard, .ref q_heardWho, .ref q_heardIs, .long v_seed, .ref q_tried, .ref q_chooser, .int v_choosers, .ref q_best, .int v_sets, .int v_surely, .ref q_alives]), (q_text, cA E 40 v_text), (q_ageing, cA E 6 v_ageing_27), (q_page, cA E 25 v_page_55), (q_readAgeing, cA E 6 a6_2), (q_readPage, cA E 25 a6_3), (q_isKept, cB E 2 v_isKept)]) hZ dX4_court_81 rfl 0 rfl (Nat.le_of_ble_eq_true rfl) rfl ?_
    refine x_aload_n (pc' := 85) hZ dX4_court_84 rfl 0 rfl ?_
    refine g_RX4_31 (pc' := 88) hZ dX4_court_85 rfl 0 rfl rfl ?_
    refine x_iconst (v := 0) (pc' := 89) hZ (by decide) dX4_court_88 rfl ?_
    refine x_iconst (v := 0) (pc' := 90) hZ (by decide) dX4_court_89 rfl ?_
    have h90 : vp_in 0 2 := by unfold vp_in; decide
    refine x_zast (pc' := 91) (ws' := [(q_this, cO 4 [.int 0, .ref q_text, .int v_textSize, .int a6_0, .int a6_1, .ref q_ageing, .ref q_page, .int a6_1, .ref q_readAgeing, .ref q_readPage, .ref q_book, .int 0, .ref q_kept, .ref q_isKept, .int v_heard, .ref q_heardWho, .ref q_heardIs, .long v_seed, .ref q_tried, .ref q_chooser, .int v_choosers, .ref q_best, .int v_sets, .int v_surely, .ref q_alives]), (q_text, cA E 40 v_text), (q_ageing, cA E 6 v_ageing_27), (q_page, cA E 25 v_page_55), (q_readAgeing, cA E 6 a6_2), (q_readPage, cA E 25 a6_3), (q_isKept, cB E 2 (upd v_isKept (ix 0) (jbool 0)))]) hZ h90 dX4_court_90 rfl 6 rfl rfl ?_
    refine x_aload_n (pc' := 92) hZ dX4_court_91 rfl 0 rfl ?_
    refine g_RX4_31 (pc' := 95) hZ dX4_court_92 rfl 0 rfl rfl ?_
    refine x_iconst (v := 1) (pc' := 96) hZ (by decide) dX4_court_95 rfl ?_
    refine x_iconst (v := 0) (pc' := 97) hZ (by decide) dX4_court_96 rfl ?_
    have h97 : vp_in 1 2 := by unfold vp_in; decide
    refine x_zast (pc' := 98) (ws' := [(q_this, cO 4 [.int 0, .ref q_text, .int v_textSize, .int a6_0, .int a6_1, .ref q_ageing, .ref q_page, .int a6_1, .ref q_readAgeing, .ref q_readPage, .ref q_book, .int 0, .ref q_kept, .ref q_isKept, .int v_heard, .ref q_heardWho, .ref q_heardIs, .long v_seed, .ref q_tried, .ref q_chooser, .int v_choosers, .ref q_best, .int v_sets, .int v_surely, .ref q_alives]), (q_text, cA E 40 v_text), (q_ageing, cA E 6 v_ageing_27), (q_page, cA E 25 v_page_55), (q_readAgeing, cA E 6 a6_2), (q_readPage, cA E 25 a6_3), (q_isKept, cB E 2 (upd (upd v_isKept (ix 0) (jbool 0)) (ix 1) (jbool 0)))]) hZ h97 dX4_court_97 rfl 6 rfl rfl ?_
    refine x_aload_n (pc' := 99) hZ dX4_court_98 rfl 0 rfl ?_
    refine g_RX4_57 (pc' := 102) hZ dX4_court_99 rfl 0 rfl rfl ?_
    exact hRet _ _ _ _ dX4_court_102 ⟨_, _, _, _, _, _, _, _, _, _, rfl, h⟩
  · replace h := h.2 c11
    refine x_bipush (v := (-3)) (pc' := 16) hZ (by decide) dX4_court_14 rfl ?_
    exact hRet _ _ _ _ dX4_court_16 ⟨_, _, _, _, _, _, _, _, _, _, rfl, h⟩
set_option maxHeartbeats 4000000 in
set_option maxRecDepth 100000 in
theorem c_X4_weightsOf (E : XE) (q_a0 : Nat) (v_a0 : Nat → Int32) (post : Int32 → Prop) (h : p_X4_weightsOf v_a0 post) : ConI E yX4_weightsOf cX4_weightsOf 1 .int { frames := 0, cells := 0, slots := 0, locals := 0 } 0 0 [.ref q_a0] [(q_a0, cA E 25 v_a0)] (fun r w => w = [(q_a0, cA E 25 v_a0)] ∧ post r ) := by
  refine ConI.of (by decide +kernel) (Nat.le_of_ble_eq_true rfl) (fun Z hZ hI hRet => ?_)
  replace hZ : XOK E Z RX4 cX4_weightsOf 1 { frames := 0, cells := 0, slots := 0, locals := 0 } := hZ
  clear hI
  show XW E Z 0 0 [(q_a0, cA E 25 v_a0)] [(0, .ref q_a0)] [] 0
  unfold p_X4_weightsOf at h
  refine x_bipush (v := 100) (pc' := 2) hZ (by decide) dX4_weightsOf_0 rfl ?_
  refine x_aload_n (pc' := 3) hZ dX4_weightsOf_2 rfl 0 rfl ?_
  refine x_iconst (v := 0) (pc' := 4) hZ (by decide) dX4_weightsOf_3 rfl ?_
  have h4 : vp_in 0 25 := by unfold vp_in; decide
  refine x_iald (pc' := 5) hZ h4 dX4_weightsOf_4 rfl 0 rfl ?_
  refine x_imul (pc' := 6) hZ dX4_weightsOf_5 rfl ?_
  refine x_bipush (v := 10) (pc' := 8) hZ (by decide) dX4_weightsOf_6 rfl ?_
  refine x_aload_n (pc' := 9) hZ dX4_weightsOf_8 rfl 0 rfl ?_
  refine x_iconst (v := 1) (pc' := 10) hZ (by decide) dX4_weightsOf_9 rfl ?_
  have h10 : vp_in 1 25 := by unfold vp_in; decide
  refine x_iald (pc' := 11) hZ h10 dX4_weightsOf_10 rfl 0 rfl ?_
  refine x_imul (pc' := 12) hZ dX4_weightsOf_11 rfl ?_
  refine x_iadd (pc' := 13) hZ dX4_weightsOf_12 rfl ?_
  refine x_aload_n (pc' := 14) hZ dX4_weightsOf_13 rfl 0 rfl ?_
  refine x_iconst (v := 2) (pc' := 15) hZ (by decide) dX4_weightsOf_14 rfl ?_
  have h15 : vp_in 2 25 := by unfold vp_in; decide
  refine x_iald (pc' := 16) hZ h15 dX4_weightsOf_15 rfl 0 rfl ?_
  refine x_iadd (pc' := 17) hZ dX4_weightsOf_16 rfl ?_
  exact hRet _ _ _ _ dX4_weightsOf_17 ⟨rfl, h⟩
set_option maxHeartbeats 4000000 in
set_option maxRecDepth 100000 in
theorem c_X4_has (E : XE) (l0 : Int32) (l1 : Int32) (post : Int32 → Prop) (h : p_X4_has l0 l1 post) : ConI E yX4_has cX4_has 2 .boolean { frames := 0, cells := 0, slots := 0, locals := 0 } 0 0 [.int l0, .int l1] [] (fun r w => w = [] ∧ post r ) := by
  refine ConIz.of (by decide +kernel) (Nat.le_of_ble_eq_true rfl) (fun Z hZ hI hRet => ?_)
  replace hZ : XOK E Z RX4 cX4_has 2 { frames := 0, cells := 0, slots := 0, locals := 0 } := hZ
  clear hI
  show XW E Z 0 0 [] [(0, .int l0), (1, .int l1)] [] 0
  unfold p_X4_has at h
  refine x_iload_n (pc' := 1) hZ dX4_has_0 rfl 0 rfl ?_
  refine x_iload_n (pc' := 2) hZ dX4_has_1 rfl 1 rfl ?_
  refine x_ishr (pc' := 3) hZ dX4_has_2 rfl ?_
  refine x_iconst (v := 1) (pc' := 4) hZ (by decide) dX4_has_3 rfl ?_
  refine x_iand (pc' := 5) hZ dX4_has_4 rfl ?_
  refine x_iconst (v := 1) (pc' := 6) hZ (by decide) dX4_has_5 rfl ?_
  refine x_icmp_ne (tgt := 13) (pc' := 9) hZ dX4_has_6 (by decide) rfl (fun c6 => ?_) (fun c6 => ?_)
  · replace h := h.1 c6
    refine x_iconst (v := 0) (pc' := 14) hZ (by decide) dX4_has_13 rfl ?_
    exact hRet _ _ _ _ dX4_has_14 (by decide) ⟨rfl, h⟩
  · replace h := h.2 c6
    refine x_iconst (v := 1) (pc' := 10) hZ (by decide) dX4_has_9 rfl ?_
    refine x_goto (pc' := 14) hZ dX4_has_10 (by decide) ?_
    exact hRet _ _ _ _ dX4_has_14 (by decide) ⟨rfl, h⟩
set_option maxHeartbeats 4000000 in
set_option maxRecDepth 100000 in
theorem c_X4_valueOf (E : XE) (q_a0 : Nat) (v_a0 : Nat → Int32) (l1 : Int32) (l2 : Int32) (post : Int32 → Prop) (h : p_X4_valueOf v_a0 l1 l2 post) : ConI E yX4_valueOf cX4_valueOf 3 .int { frames := 0, cells := 0, slots := 0, locals := 0 } 0 0 [.ref q_a0, .int l1, .int l2] [(q_a0, cA E 25 v_a0)] (fun r w => w = [(q_a0, cA E 25 v_a0)] ∧ post r ) := by
  refine ConI.of (by decide +kernel) (Nat.le_of_ble_eq_true rfl) (fun Z hZ hI hRet => ?_)
  replace hZ : XOK E Z RX4 cX4_valueOf 3 { frames := 0, cells := 0, slots := 0, locals := 0 } := hZ
  clear hI
  show XW E Z 0 0 [(q_a0, cA E 25 v_a0)] [(0, .ref q_a0), (1, .int l1), (2, .int l2)] [] 0
  unfold p_X4_valueOf at h
  refine x_aload_n (pc' := 1) hZ dX4_valueOf_0 rfl 0 rfl ?_
  refine x_iconst (v := 3) (pc' := 2) hZ (by decide) dX4_valueOf_1 rfl ?_
  refine x_iconst (v := 3) (pc' := 3) hZ (by decide) dX4_valueOf_2 rfl ?_
  refine x_iload_n (pc' := 4) hZ dX4_valueOf_3 rfl 1 rfl ?_
  refine x_imul (pc' := 5) hZ dX4_valueOf_4 rfl ?_
  refine x_iadd (pc' := 6) hZ dX4_valueOf_5 rfl ?_
  obtain ⟨h6, h⟩ := h
  refine x_iald (pc' := 7) hZ h6 dX4_valueOf_6 rfl 0 rfl ?_
  refine x_iload_n (pc' := 8) hZ dX4_valueOf_7 rfl 2 rfl ?_
  refine x_bipush (v := 100) (pc' := 10) hZ (by decide) dX4_valueOf_8 rfl ?_
  refine x_idiv (pc' := 11) hZ (by decide) dX4_valueOf_10 rfl ?_
  refine x_imul (pc' := 12) hZ dX4_valueOf_11 rfl ?_
  refine x_aload_n (pc' := 13) hZ dX4_valueOf_12 rfl 0 rfl ?_
  refine x_iconst (v := 4) (pc' := 14) hZ (by decide) dX4_valueOf_13 rfl ?_
  refine x_iconst (v := 3) (pc' := 15) hZ (by decide) dX4_valueOf_14 rfl ?_
  refine x_iload_n (pc' := 16) hZ dX4_valueOf_15 rfl 1 rfl ?_
  refine x_imul (pc' := 17) hZ dX4_valueOf_16 rfl ?_
  refine x_iadd (pc' := 18) hZ dX4_valueOf_17 rfl ?_
  obtain ⟨h18, h⟩ := h
  refine x_iald (pc' := 19) hZ h18 dX4_valueOf_18 rfl 0 rfl ?_
  refine x_iload_n (pc' := 20) hZ dX4_valueOf_19 rfl 2 rfl ?_
  refine x_bipush (v := 10) (pc' := 22) hZ (by decide) dX4_valueOf_20 rfl ?_
  refine x_idiv (pc' := 23) hZ (by decide) dX4_valueOf_22 rfl ?_
  refine x_bipush (v := 10) (pc' := 25) hZ (by decide) dX4_valueOf_23 rfl ?_
  refine x_irem (pc' := 26) hZ (by decide) dX4_valueOf_25 rfl ?_
  refine x_imul (pc' := 27) hZ dX4_valueOf_26 rfl ?_
  refine x_iadd (pc' := 28) hZ dX4_valueOf_27 rfl ?_
  refine x_aload_n (pc' := 29) hZ dX4_valueOf_28 rfl 0 rfl ?_
  refine x_iconst (v := 5) (pc' := 30) hZ (by decide) dX4_valueOf_29 rfl ?_
  refine x_iconst (v := 3) (pc' := 31) hZ (by decide) dX4_valueOf_30 rfl ?_
  refine x_iload_n (pc' := 32) hZ dX4_valueOf_31 rfl 1 rfl ?_
  refine x_imul (pc' := 33) hZ dX4_valueOf_32 rfl ?_
  refine x_iadd (pc' := 34) hZ dX4_valueOf_33 rfl ?_
  obtain ⟨h34, h⟩ := h
  refine x_iald (pc' := 35) hZ h34 dX4_valueOf_34 rfl 0 rfl ?_
  refine x_iload_n (pc' := 36) hZ dX4_valueOf_35 rfl 2 rfl ?_
  refine x_bipush (v := 10) (pc' := 38) hZ (by decide) dX4_valueOf_36 rfl ?_
  refine x_irem (pc' := 39) hZ (by decide) dX4_valueOf_38 rfl ?_
  refine x_imul (pc' := 40) hZ dX4_valueOf_39 rfl ?_
  refine x_iadd (pc' := 41) hZ dX4_valueOf_40 rfl ?_
  exact hRet _ _ _ _ dX4_valueOf_41 ⟨rfl, h⟩
set_option maxHeartbeats 4000000 in
set_option maxRecDepth 100000 in
theorem t_X4_fairestOf_10 (E : XE) (Z : ZC) (q_this : Nat) (q_text : Nat) (q_ageing : Nat) (q_page : Nat) (q_readAgeing : Nat) (q_readPage : Nat) (q_book : Nat) (q_kept : Nat) (q_isKept : Nat) (q_heardWho : Nat) (q_heardIs : Nat) (q_tried : Nat) (q_chooser : Nat) (q_best : Nat) (q_alives : Nat) (q_a1 : Nat) (v_thrown : Int32) (v_textSize : Int32) (v_place : Int32) (v_people : Int32) (v_readPeople : Int32) (v_acts : Int32) (v_heard : Int32) (v_seed : Int64) (v_choosers : Int32) (v_sets : Int32) (v_surely : Int32) (v_a1 : Nat → Int32) (l2 : Int32) (l3 : Int32) {K : Int32 → Int32 → Int32 → Prop} (hZ : XOK E Z RX4 cX4_fairestOf 8 { frames := 1, cells := 0, slots := 0, locals := 22 }) : ∀ (k : Nat) (l4 : Int32) (l5 : Int32) (l6 : Int32), wl (fun rec v => b_X4_fairestOf_10 l2 l3 v_people v_a1 K rec v.1 v.2.1 v.2.2) k (l4, l5, l6) → (∀ (l4 : Int32) (l5 : Int32) (l6 : Int32), K l4 l5 l6 → XW E Z 0 0 [(q_this, cO 4 [.int v_thrown, .ref q_text, .int v_textSize, .int v_place, .int v_people, .ref q_ageing, .ref q_page, .int v_readPeople, .ref q_readAgeing, .ref q_readPage, .ref q_book, .int v_acts, .ref q_kept, .ref q_isKept, .int v_heard, .ref q_heardWho, .ref q_heardIs, .long v_seed, .ref q_tried, .ref q_chooser, .int v_choosers, .ref q_best, .int v_sets, .int v_surely, .ref q_alives]), (q_a1, cA E 25 v_a1)] [(5, .int l5)] [] 94) → XW E Z 0 0 [(q_this, cO 4 [.int v_thrown, .ref q_text, .int v_textSize, .int v_place, .int v_people, .ref q_ageing, .ref q_page, .int v_readPeople, .ref q_readAgeing, .ref q_readPage, .ref q_book, .int v_acts, .ref q_kept, .ref q_isKept, .int v_heard, .ref q_heardWho, .ref q_heardIs, .long v_seed, .ref q_tried, .ref q_chooser, .int v_choosers, .ref q_best, .int v_sets, .int v_surely, .ref q_alives]), (q_a1, cA E 25 v_a1)] [(0, .ref q_this), (1, .ref q_a1), (2, .int l2), (3, .int l3), (4, .int l4), (5, .int l5), (6, .int l6)] [] 10 := by
  intro k
  induction k with
  | zero =>
    intro l4 l5 l6 h
    exact h.elim
  | succ k ih =>
    intro l4 l5 l6 h hK
    replace h := wl_succ h
    try dsimp only at h
    unfold b_X4_fairestOf_10 at h
    refine x_iload (pc' := 12) hZ dX4_fairestOf_10 rfl 6 rfl ?_
    refine x_aload_n (pc' := 13) hZ dX4_fairestOf_12 rfl 0 rfl ?_
    refine g_RX4_57 (pc' := 16) hZ dX4_fairestOf_13 rfl 0 rfl rfl ?_
    refine x_icmp_ge (tgt := 94) (pc' := 19) hZ dX4_fairestOf_16 (by decide) rfl (fun c16 => ?_) (fun c16 => ?_)
    · replace h := h.1 c16
      refine x_lv [5] (lv' := [(5, .int l5)]) rfl ?_
      exact hK l4 l5 l6 h
    · replace h := h.2 c16
      refine x_iload_n (pc' := 20) hZ dX4_fairestOf_19 rfl 2 rfl ?_
      refine x_iload (pc' := 22) hZ dX4_fairestOf_20 rfl 6 rfl ?_
      refine k_RX4_90 (pc' := 25) (as := [.int l2, .int l6]) (rest := []) (c' := 0) (n' := 0) (wr := [(q_this, cO 4 [.int v_thrown, .ref q_text, .int v_textSize, .int v_place, .int v_people, .ref q_ageing, .ref q_page, .int v_readPeople, .ref q_readAgeing, .ref q_readPage, .ref q_book, .int v_acts, .ref q_kept, .ref q_isKept, .int v_heard, .ref q_heardWho, .ref q_heardIs, .long v_seed, .ref q_tried, .ref q_chooser, .int v_choosers, .ref q_best, .int v_sets, .int v_surely, .ref q_alives]), (q_a1, cA E 25 v_a1)]) hZ (c_X4_has E l2 l6 _ h) dX4_fairestOf_22 rfl rfl rfl rfl rfl (Nat.le_of_ble_eq_true rfl) (Nat.le_of_ble_eq_true rfl) (Nat.le_of_ble_eq_true rfl) rfl rfl (Nat.le_of_ble_eq_true rfl) (Nat.le_of_ble_eq_true rfl) [] [0, 1] rfl rfl (by decide) (by decide) (by decide) (fun r22 w22 hw => ?_)
      obtain ⟨rfl, h⟩ := hw
      refine x_ws (ws' := [(q_this, cO 4 [.int v_thrown, .ref q_text, .int v_textSize, .int v_place, .int v_people, .ref q_ageing, .ref q_page, .int v_readPeople, .ref q_readAgeing, .ref q_readPage, .ref q_book, .int v_acts, .ref q_kept, .ref q_isKept, .int v_heard, .ref q_heardWho, .ref q_heardIs, .long v_seed, .ref q_tried, .ref q_chooser, .int v_choosers, .ref q_best, .int v_sets, .int v_surely, .ref q_alives]), (q_a1, cA E 25 v_a1)]) [0, 1] rfl (by decide) ?_
      refine x_if_eq (tgt := 88) (pc' := 28) hZ dX4_fairestOf_25 (by decide) rfl (fun c25 => ?_) (fun c25 => ?_)
      · replace h := h.1 c25
        obtain ⟨x88, e88⟩ : ∃ y : Int32, y = l6 + 1 := ⟨_, rfl⟩
        replace h := h x88 e88
        refine x_iinc (i := 6) (v := x88) (pc' := 91) (lv' := [(6, .int x88), (0, .ref q_this), (1, .ref q_a1), (2, .int l2), (3, .int l3), (4, .int l4), (5, .int l5)]) hZ dX4_fairestOf_88 rfl 6 rfl (by rw [e88]; rfl) (by decide) rfl ?_
        refine x_goto (pc' := 10) hZ dX4_fairestOf_91 (by decide) ?_
        refine x_lv [1, 2, 3, 4, 5, 6, 0] (lv' := [(0, .ref q_this), (1, .ref q_a1), (2, .int l2), (3, .int l3), (4, .int l4), (5, .int l5), (6, .int x88)]) rfl ?_
        exact ih l4 l5 x88 h hK
      · replace h := h.2 c25
        refine x_aload_n (pc' := 29) hZ dX4_fairestOf_28 rfl 1 rfl ?_
        refine x_iload (pc' := 31) hZ dX4_fairestOf_29 rfl 6 rfl ?_
        refine x_iload_n (pc' := 32) hZ dX4_fairestOf_31 rfl 3 rfl ?_
        refine k_RX4_94 (pc' := 35) (as := [.ref q_a1, .int l6, .int l3]) (rest := []) (c' := 0) (n' := 0) (wr := [(q_this, cO 4 [.int v_thrown, .ref q_text, .int v_textSize, .int v_place, .int v_people, .ref q_ageing, .ref q_page, .int v_readPeople, .ref q_readAgeing, .ref q_readPage, .ref q_book, .int v_acts, .ref q_kept, .ref q_isKept, .int v_heard, .ref q_heardWho, .ref q_heardIs, .long v_seed, .ref q_tried, .ref q_chooser, .int v_choosers, .ref q_best, .int v_sets, .int v_surely, .ref q_alives])]) hZ (c_X4_valueOf E q_a1 v_a1 l6 l3 _ h) dX4_fairestOf_32 rfl rfl rfl rfl rfl (Nat.le_of_ble_eq_true rfl) (Nat.le_of_ble_eq_true rfl) (Nat.le_of_ble_eq_true rfl) rfl rfl (Nat.le_of_ble_eq_true rfl) (Nat.le_of_ble_eq_true rfl) [1] [0] rfl rfl (by decide) (by decide) (by decide) (fun r32 w32 hw => ?_)
        obtain ⟨rfl, h⟩ := hw
        refine x_ws (ws' := [(q_this, cO 4 [.int v_thrown, .ref q_text, .int v_textSize, .int v_place, .int v_people, .ref q_ageing, .ref q_page, .int v_readPeople, .ref q_readAgeing, .ref q_readPage, .ref q_book, .int v_acts, .ref q_kept, .ref q_isKept, .int v_heard, .ref q_heardWho, .ref q_heardIs, .long v_seed, .ref q_tried, .ref q_chooser, .int v_choosers, .ref q_best, .int v_sets, .int v_surely, .ref q_alives]), (q_a1, cA E 25 v_a1)]) [0, 1] rfl (by decide) ?_
        refine x_istore (i := 7) (pc' := 37) (lv' := [(7, .int r32), (0, .ref q_this), (1, .ref q_a1), (2, .int l2), (3, .int l3), (4, .int l4), (5, .int l5), (6, .int l6)]) hZ dX4_fairestOf_35 rfl (by decide) rfl ?_
        refine x_iload (pc' := 39) hZ dX4_fairestOf_37 rfl 0 rfl ?_
        refine x_iload (pc' := 41) hZ dX4_fairestOf_39 rfl 5 rfl ?_
        refine x_icmp_le (tgt := 51) (pc' := 44) hZ dX4_fairestOf_41 (by decide) rfl (fun c41 => ?_) (fun c41 => ?_)
        · replace h := h.1 c41
          refine x_iload (pc' := 53) hZ dX4_fairestOf_51 rfl 0 rfl ?_
          refine x_iload (pc' := 55) hZ dX4_fairestOf_53 rfl 5 rfl ?_
          refine x_icmp_ne (tgt := 68) (pc' := 58) hZ dX4_fairestOf_55 (by decide) rfl (fun c55 => ?_) (fun c55 => ?_)
          · replace h := h.1 c55
            refine x_iload (pc' := 70) hZ dX4_fairestOf_68 rfl 6 rfl ?_
            refine x_istore (i := 5) (pc' := 72) (lv' := [(5, .int l5), (7, .int r32), (0, .ref q_this), (1, .ref q_a1), (2, .int l2), (3, .int l3), (4, .int l4), (6, .int l6)]) hZ dX4_fairestOf_70 rfl (by decide) rfl ?_
            refine x_iload (pc' := 74) hZ dX4_fairestOf_72 rfl 1 rfl ?_
            refine x_iload (pc' := 76) hZ dX4_fairestOf_74 rfl 6 rfl ?_
            refine x_icmp_le (tgt := 84) (pc' := 79) hZ dX4_fairestOf_76 (by decide) rfl (fun c76 => ?_) (fun c76 => ?_)
            · replace h := h.1 c76
              refine x_iload (pc' := 86) hZ dX4_fairestOf_84 rfl 6 rfl ?_
              refine x_istore (i := 4) (pc' := 88) (lv' := [(4, .int l4), (5, .int l5), (7, .int r32), (0, .ref q_this), (1, .ref q_a1), (2, .int l2), (3, .int l3), (6, .int l6)]) hZ dX4_fairestOf_86 rfl (by decide) rfl ?_
              obtain ⟨x88, e88⟩ : ∃ y : Int32, y = l6 + 1 := ⟨_, rfl⟩
              replace h := h x88 e88
              refine x_iinc (i := 6) (v := x88) (pc' := 91) (lv' := [(6, .int x88), (4, .int l4), (5, .int l5), (7, .int r32), (0, .ref q_this), (1, .ref q_a1), (2, .int l2), (3, .int l3)]) hZ dX4_fairestOf_88 rfl 7 rfl (by rw [e88]; rfl) (by decide) rfl ?_
              refine x_goto (pc' := 10) hZ dX4_fairestOf_91 (by decide) ?_
              refine x_lv [4, 5, 6, 7, 1, 2, 0] (lv' := [(0, .ref q_this), (1, .ref q_a1), (2, .int l2), (3, .int l3), (4, .int l4), (5, .int l5), (6, .int x88)]) rfl ?_
              exact ih l4 l5 x88 h hK
            · replace h := h.2 c76
              refine x_iload (pc' := 81) hZ dX4_fairestOf_79 rfl 1 rfl ?_
              refine x_goto (pc' := 86) hZ dX4_fairestOf_81 (by decide) ?_
              refine x_istore (i := 4) (pc' := 88) (lv' := [(4, .int r32), (5, .int l5), (7, .int r32), (0, .ref q_this), (1, .ref q_a1), (2, .int l2), (3, .int l3), (6, .int l6)]) hZ dX4_fairestOf_86 rfl (by decide) rfl ?_
              obtain ⟨x88, e88⟩ : ∃ y : Int32, y = l6 + 1 := ⟨_, rfl⟩
              replace h := h x88 e88
              refine x_iinc (i := 6) (v := x88) (pc' := 91) (lv' := [(6, .int x88), (4, .int r32), (5, .int l5), (7, .int r32), (0, .ref q_this), (1, .ref q_a1), (2, .int l2), (3, .int l3)]) hZ dX4_fairestOf_88 rfl 7 rfl (by rw [e88]; rfl) (by decide) rfl ?_
              refine x_goto (pc' := 10) hZ dX4_fairestOf_91 (by decide) ?_
              refine x_lv [4, 5, 6, 7, 1, 2, 0] (lv' := [(0, .ref q_this), (1, .ref q_a1), (2, .int l2), (3, .int l3), (4, .int r32), (5, .int l5), (6, .int x88)]) rfl ?_
              exact ih r32 l5 x88 h hK
          · replace h := h.2 c55
            refine x_iload (pc' := 60) hZ dX4_fairestOf_58 rfl 6 rfl ?_
            refine x_iconst (v := 1) (pc' := 61) hZ (by decide) dX4_fairestOf_60 rfl ?_
            refine x_iload (pc' := 63) hZ dX4_fairestOf_61 rfl 7 rfl ?_
            refine x_ishl (pc' := 64) hZ dX4_fairestOf_63 rfl ?_
            refine x_ior (pc' := 65) hZ dX4_fairestOf_64 rfl ?_
            refine x_goto (pc' := 70) hZ dX4_fairestOf_65 (by decide) ?_
            refine x_topi (fun x70 e70 => ?_)
            replace h := h x70 e70
            refine x_istore (i := 5) (pc' := 72) (lv' := [(5, .int x70), (7, .int r32), (0, .ref q_this), (1, .ref q_a1), (2, .int l2), (3, .int l3), (4, .int l4), (6, .int l6)]) hZ dX4_fairestOf_70 rfl (by decide) rfl ?_
            refine x_iload (pc' := 74) hZ dX4_fairestOf_72 rfl 1 rfl ?_
            refine x_iload (pc' := 76) hZ dX4_fairestOf_74 rfl 6 rfl ?_
            refine x_icmp_le (tgt := 84) (pc' := 79) hZ dX4_fairestOf_76 (by decide) rfl (fun c76 => ?_) (fun c76 => ?_)
            · replace h := h.1 c76
              refine x_iload (pc' := 86) hZ dX4_fairestOf_84 rfl 6 rfl ?_
              refine x_istore (i := 4) (pc' := 88) (lv' := [(4, .int l4), (5, .int x70), (7, .int r32), (0, .ref q_this), (1, .ref q_a1), (2, .int l2), (3, .int l3), (6, .int l6)]) hZ dX4_fairestOf_86 rfl (by decide) rfl ?_
              obtain ⟨x88, e88⟩ : ∃ y : Int32, y = l6 + 1 := ⟨_, rfl⟩
              replace h := h x88 e88
              refine x_iinc (i := 6) (v := x88) (pc' := 91) (lv' := [(6, .int x88), (4, .int l4), (5, .int x70), (7, .int r32), (0, .ref q_this), (1, .ref q_a1), (2, .int l2), (3, .int l3)]) hZ dX4_fairestOf_88 rfl 7 rfl (by rw [e88]; rfl) (by decide) rfl ?_
              refine x_goto (pc' := 10) hZ dX4_fairestOf_91 (by decide) ?_
              refine x_lv [4, 5, 6, 7, 1, 2, 0] (lv' := [(0, .ref q_this), (1, .ref q_a1), (2, .int l2), (3, .int l3), (4, .int l4), (5, .int x70), (6, .int x88)]) rfl ?_
              exact ih l4 x70 x88 h hK
            · replace h := h.2 c76
              refine x_iload (pc' := 81) hZ dX4_fairestOf_79 rfl 1 rfl ?_
              refine x_goto (pc' := 86) hZ dX4_fairestOf_81 (by decide) ?_
              refine x_istore (i := 4) (pc' := 88) (lv' := [(4, .int r32), (5, .int x70), (7, .int r32), (0, .ref q_this), (1, .ref q_a1), (2, .int l2), (3, .int l3), (6, .int l6)]) hZ dX4_fairestOf_86 rfl (by decide) rfl ?_
              obtain ⟨x88, e88⟩ : ∃ y : Int32, y = l6 + 1 := ⟨_, rfl⟩
              replace h := h x88 e88
              refine x_iinc (i := 6) (v := x88) (pc' := 91) (lv' := [(6, .int x88), (4, .int r32), (5, .int x70), (7, .int r32), (0, .ref q_this), (1, .ref q_a1), (2, .int l2), (3, .int l3)]) hZ dX4_fairestOf_88 rfl 7 rfl (by rw [e88]; rfl) (by decide) rfl ?_
              refine x_goto (pc' := 10) hZ dX4_fairestOf_91 (by decide) ?_
              refine x_lv [4, 5, 6, 7, 1, 2, 0] (lv' := [(0, .ref q_this), (1, .ref q_a1), (2, .int l2), (3, .int l3), (4, .int r32), (5, .int x70), (6, .int x88)]) rfl ?_
              exact ih r32 x70 x88 h hK
        · replace h := h.2 c41
          refine x_iconst (v := 1) (pc' := 45) hZ (by decide) dX4_fairestOf_44 rfl ?_
          refine x_iload (pc' := 47) hZ dX4_fairestOf_45 rfl 7 rfl ?_
          refine x_ishl (pc' := 48) hZ dX4_fairestOf_47 rfl ?_
          refine x_goto (pc' := 70) hZ dX4_fairestOf_48 (by decide) ?_
          refine x_topi (fun x70 e70 => ?_)
          replace h := h x70 e70
          refine x_istore (i := 5) (pc' := 72) (lv' := [(5, .int x70), (7, .int r32), (0, .ref q_this), (1, .ref q_a1), (2, .int l2), (3, .int l3), (4, .int l4), (6, .int l6)]) hZ dX4_fairestOf_70 rfl (by decide) rfl ?_
          refine x_iload (pc' := 74) hZ dX4_fairestOf_72 rfl 1 rfl ?_
          refine x_iload (pc' := 76) hZ dX4_fairestOf_74 rfl 6 rfl ?_
          refine x_icmp_le (tgt := 84) (pc' := 79) hZ dX4_fairestOf_76 (by decide) rfl (fun c76 => ?_) (fun c76 => ?_)
          · replace h := h.1 c76
            refine x_iload (pc' := 86) hZ dX4_fairestOf_84 rfl 6 rfl ?_
            refine x_istore (i := 4) (pc' := 88) (lv' := [(4, .int l4), (5, .int x70), (7, .int r32), (0, .ref q_this), (1, .ref q_a1), (2, .int l2), (3, .int l3), (6, .int l6)]) hZ dX4_fairestOf_86 rfl (by decide) rfl ?_
            obtain ⟨x88, e88⟩ : ∃ y : Int32, y = l6 + 1 := ⟨_, rfl⟩
            replace h := h x88 e88
            refine x_iinc (i := 6) (v := x88) (pc' := 91) (lv' := [(6, .int x88), (4, .int l4), (5, .int x70), (7, .int r32), (0, .ref q_this), (1, .ref q_a1), (2, .int l2), (3, .int l3)]) hZ dX4_fairestOf_88 rfl 7 rfl (by rw [e88]; rfl) (by decide) rfl ?_
            refine x_goto (pc' := 10) hZ dX4_fairestOf_91 (by decide) ?_
            refine x_lv [4, 5, 6, 7, 1, 2, 0] (lv' := [(0, .ref q_this), (1, .ref q_a1), (2, .int l2), (3, .int l3), (4, .int l4), (5, .int x70), (6, .int x88)]) rfl ?_
            exact ih l4 x70 x88 h hK
          · replace h := h.2 c76
            refine x_iload (pc' := 81) hZ dX4_fairestOf_79 rfl 1 rfl ?_
            refine x_goto (pc' := 86) hZ dX4_fairestOf_81 (by decide) ?_
            refine x_istore (i := 4) (pc' := 88) (lv' := [(4, .int r32), (5, .int x70), (7, .int r32), (0, .ref q_this), (1, .ref q_a1), (2, .int l2), (3, .int l3), (6, .int l6)]) hZ dX4_fairestOf_86 rfl (by decide) rfl ?_
            obtain ⟨x88, e88⟩ : ∃ y : Int32, y = l6 + 1 := ⟨_, rfl⟩
            replace h := h x88 e88
            refine x_iinc (i := 6) (v := x88) (pc' := 91) (lv' := [(6, .int x88), (4, .int r32), (5, .int x70), (7, .int r32), (0, .ref q_this), (1, .ref q_a1), (2, .int l2), (3, .int l3)]) hZ dX4_fairestOf_88 rfl 7 rfl (by rw [e88]; rfl) (by decide) rfl ?_
            refine x_goto (pc' := 10) hZ dX4_fairestOf_91 (by decide) ?_
            refine x_lv [4, 5, 6, 7, 1, 2, 0] (lv' := [(0, .ref q_this), (1, .ref q_a1), (2, .int l2), (3, .int l3), (4, .int r32), (5, .int x70), (6, .int x88)]) rfl ?_
            exact ih r32 x70 x88 h hK
set_option maxHeartbeats 4000000 in
set_option maxRecDepth 100000 in
theorem c_X4_fairestOf (E : XE) (q_this : Nat) (q_text : Nat) (q_ageing : Nat) (q_page : Nat) (q_readAgeing : Nat) (q_readPage : Nat) (q_book : Nat) (q_kept : Nat) (q_isKept : Nat) (q_heardWho : Nat) (q_heardIs : Nat) (q_tried : Nat) (q_chooser : Nat) (q_best : Nat) (q_alives : Nat) (q_a1 : Nat) (v_thrown : Int32) (v_textSize : Int32) (v_place : Int32) (v_people : Int32) (v_readPeople : Int32) (v_acts : Int32) (v_heard : Int32) (v_seed : Int64) (v_choosers : Int32) (v_sets : Int32) (v_surely : Int32) (v_a1 : Nat → Int32) (l2 : Int32) (l3 : Int32) (post : Int32 → Prop) (h : p_X4_fairestOf v_people v_a1 l2 l3 post) : ConI E yX4_fairestOf cX4_fairestOf 8 .int { frames := 1, cells := 0, slots := 0, locals := 22 } 0 0 [.ref q_this, .ref q_a1, .int l2, .int l3] [(q_this, cO 4 [.int v_thrown, .ref q_text, .int v_textSize, .int v_place, .int v_people, .ref q_ageing, .ref q_page, .int v_readPeople, .ref q_readAgeing, .ref q_readPage, .ref q_book, .int v_acts, .ref q_kept, .ref q_isKept, .int v_heard, .ref q_heardWho, .ref q_heardIs, .long v_seed, .ref q_tried, .ref q_chooser, .int v_choosers, .ref q_best, .int v_sets, .int v_surely, .ref q_alives]), (q_a1, cA E 25 v_a1)] (fun r w => w = [(q_this, cO 4 [.int v_thrown, .ref q_text, .int v_textSize, .int v_place, .int v_people, .ref q_ageing, .ref q_page, .int v_readPeople, .ref q_readAgeing, .ref q_readPage, .ref q_book, .int v_acts, .ref q_kept, .ref q_isKept, .int v_heard, .ref q_heardWho, .ref q_heardIs, .long v_seed, .ref q_tried, .ref q_chooser, .int v_choosers, .ref q_best, .int v_sets, .int v_surely, .ref q_alives]), (q_a1, cA E 25 v_a1)] ∧ post r ) := by
  refine ConI.of (by decide +kernel) (Nat.le_of_ble_eq_true rfl) (fun Z hZ hI hRet => ?_)
  replace hZ : XOK E Z RX4 cX4_fairestOf 8 { frames := 1, cells := 0, slots := 0, locals := 22 } := hZ
  clear hI
  show XW E Z 0 0 [(q_this, cO 4 [.int v_thrown, .ref q_text, .int v_textSize, .int v_place, .int v_people, .ref q_ageing, .ref q_page, .int v_readPeople, .ref q_readAgeing, .ref q_readPage, .ref q_book, .int v_acts, .ref q_kept, .ref q_isKept, .int v_heard, .ref q_heardWho, .ref q_heardIs, .long v_seed, .ref q_tried, .ref q_chooser, .int v_choosers, .ref q_best, .int v_sets, .int v_surely, .ref q_alives]), (q_a1, cA E 25 v_a1)] [(0, .ref q_this), (1, .ref q_a1), (2, .int l2), (3, .int l3)] [] 0
  unfold p_X4_fairestOf at h
  refine x_bipush (v := (-9)) (pc' := 2) hZ (by decide) dX4_fairestOf_0 rfl ?_
  refine x_istore (i := 4) (pc' := 4) (lv' := [(4, .int (-9)), (0, .ref q_this), (1, .ref q_a1), (2, .int l2), (3, .int l3)]) hZ dX4_fairestOf_2 rfl (by decide) rfl ?_
  refine x_iconst (v := 0) (pc' := 5) hZ (by decide) dX4_fairestOf_4 rfl ?_
  refine x_istore (i := 5) (pc' := 7) (lv' := [(5, .int 0), (4, .int (-9)), (0, .ref q_this), (1, .ref q_a1), (2, .int l2), (3, .int l3)]) hZ dX4_fairestOf_5 rfl (by decide) rfl ?_
  refine x_iconst (v := 0) (pc' := 8) hZ (by decide) dX4_fairestOf_7 rfl ?_
  refine x_istore (i := 6) (pc' := 10) (lv' := [(6, .int 0), (5, .int 0), (4, .int (-9)), (0, .ref q_this), (1, .ref q_a1), (2, .int l2), (3, .int l3)]) hZ dX4_fairestOf_8 rfl (by decide) rfl ?_
  refine x_lv [3, 4, 5, 6, 2, 1, 0] (lv' := [(0, .ref q_this), (1, .ref q_a1), (2, .int l2), (3, .int l3), (4, .int (-9)), (5, .int 0), (6, .int 0)]) rfl ?_
  obtain ⟨k10, h⟩ := h
  refine t_X4_fairestOf_10 E Z q_this q_text q_ageing q_page q_readAgeing q_readPage q_book q_kept q_isKept q_heardWho q_heardIs q_tried q_chooser q_best q_alives q_a1 v_thrown v_textSize v_place v_people v_readPeople v_acts v_heard v_seed v_choosers v_sets v_surely v_a1 l2 l3 hZ  _ (-9) 0 0 h (fun l4_10 l5_10 l6_10 h => ?_)
  refine x_iload (pc' := 96) hZ dX4_fairestOf_94 rfl 0 rfl ?_
  exact hRet _ _ _ _ dX4_fairestOf_96 ⟨rfl, h⟩
set_option maxHeartbeats 4000000 in
set_option maxRecDepth 100000 in
theorem c_X4_fairest (E : XE) (q_this : Nat) (q_text : Nat) (q_ageing : Nat) (q_page : Nat) (q_readAgeing : Nat) (q_readPage : Nat) (q_book : Nat) (q_kept : Nat) (q_isKept : Nat) (q_heardWho : Nat) (q_heardIs : Nat) (q_tried : Nat) (q_chooser : Nat) (q_best : Nat) (q_alives : Nat) (v_thrown : Int32) (v_textSize : Int32) (v_place : Int32) (v_people : Int32) (v_readPeople : Int32) (v_acts : Int32) (v_heard : Int32) (v_seed : Int64) (v_choosers : Int32) (v_sets : Int32) (v_surely : Int32) (v_page : Nat → Int32) (post : Int32 → Prop) (h : p_X4_fairest v_people v_page post) : ConI E yX4_fairest cX4_fairest 1 .int { frames := 2, cells := 0, slots := 0, locals := 49 } 0 0 [.ref q_this] [(q_this, cO 4 [.int v_thrown, .ref q_text, .int v_textSize, .int v_place, .int v_people, .ref q_ageing, .ref q_page, .int v_readPeople, .ref q_readAgeing, .ref q_readPage, .ref q_book, .int v_acts, .ref q_kept, .ref q_isKept, .int v_heard, .ref q_heardWho, .ref q_heardIs, .long v_seed, .ref q_tried, .ref q_chooser, .int v_choosers, .ref q_best, .int v_sets, .int v_surely, .ref q_alives]), (q_page, cA E 25 v_page)] (fun r w => w = [(q_this, cO 4 [.int v_thrown, .ref q_text, .int v_textSize, .int v_place, .int v_people, .ref q_ageing, .ref q_page, .int v_readPeople, .ref q_readAgeing, .ref q_readPage, .ref q_book, .int v_acts, .ref q_kept, .ref q_isKept, .int v_heard, .ref q_heardWho, .ref q_heardIs, .long v_seed, .ref q_tried, .ref q_chooser, .int v_choosers, .ref q_best, .int v_sets, .int v_surely, .ref q_alives]), (q_page, cA E 25 v_page)] ∧ post r ) := by
  refine ConI.of (by decide +kernel) (Nat.le_of_ble_eq_true rfl) (fun Z hZ hI hRet => ?_)
  replace hZ : XOK E Z RX4 cX4_fairest 1 { frames := 2, cells := 0, slots := 0, locals := 49 } := hZ
  clear hI
  show XW E Z 0 0 [(q_this, cO 4 [.int v_thrown, .ref q_text, .int v_textSize, .int v_place, .int v_people, .ref q_ageing, .ref q_page, .int v_readPeople, .ref q_readAgeing, .ref q_readPage, .ref q_book, .int v_acts, .ref q_kept, .ref q_isKept, .int v_heard, .ref q_heardWho, .ref q_heardIs, .long v_seed, .ref q_tried, .ref q_chooser, .int v_choosers, .ref q_best, .int v_sets, .int v_surely, .ref q_alives]), (q_page, cA E 25 v_page)] [(0, .ref q_this)] [] 0
  unfold p_X4_fairest at h
  refine x_aload_n (pc' := 1) hZ dX4_fairest_0 rfl 0 rfl ?_
  refine x_aload_n (pc' := 2) hZ dX4_fairest_1 rfl 0 rfl ?_
  refine g_RX4_16 (pc' := 5) hZ dX4_fairest_2 rfl 0 rfl rfl ?_
  refine x_aload_n (pc' := 6) hZ dX4_fairest_5 rfl 0 rfl ?_
  refine g_RX4_16 (pc' := 9) hZ dX4_fairest_6 rfl 0 rfl rfl ?_
  refine x_bipush (v := 21) (pc' := 11) hZ (by decide) dX4_fairest_9 rfl ?_
  have h11 : vp_in 21 25 := by unfold vp_in; decide
  refine x_iald (pc' := 12) hZ h11 dX4_fairest_11 rfl 1 rfl ?_
  refine x_aload_n (pc' := 13) hZ dX4_fairest_12 rfl 0 rfl ?_
  refine g_RX4_16 (pc' := 16) hZ dX4_fairest_13 rfl 0 rfl rfl ?_
  refine k_RX4_98 (pc' := 19) (as := [.ref q_page]) (rest := [.int (v_page (ix 21)), .ref q_page, .ref q_this]) (c' := 0) (n' := 0) (wr := [(q_this, cO 4 [.int v_thrown, .ref q_text, .int v_textSize, .int v_place, .int v_people, .ref q_ageing, .ref q_page, .int v_readPeople, .ref q_readAgeing, .ref q_readPage, .ref q_book, .int v_acts, .ref q_kept, .ref q_isKept, .int v_heard, .ref q_heardWho, .ref q_heardIs, .long v_seed, .ref q_tried, .ref q_chooser, .int v_choosers, .ref q_best, .int v_sets, .int v_surely, .ref q_alives])]) hZ (c_X4_weightsOf E q_page v_page _ h) dX4_fairest_16 rfl rfl rfl rfl rfl (Nat.le_of_ble_eq_true rfl) (Nat.le_of_ble_eq_true rfl) (Nat.le_of_ble_eq_true rfl) rfl rfl (Nat.le_of_ble_eq_true rfl) (Nat.le_of_ble_eq_true rfl) [1] [0] rfl rfl (by decide) (by decide) (by decide) (fun r16 w16 hw => ?_)
  obtain ⟨rfl, h⟩ := hw
  refine x_ws (ws' := [(q_this, cO 4 [.int v_thrown, .ref q_text, .int v_textSize, .int v_place, .int v_people, .ref q_ageing, .ref q_page, .int v_readPeople, .ref q_readAgeing, .ref q_readPage, .ref q_book, .int v_acts, .ref q_kept, .ref q_isKept, .int v_heard, .ref q_heardWho, .ref q_heardIs, .long v_seed, .ref q_tried, .ref q_chooser, .int v_choosers, .ref q_best, .int v_sets, .int v_surely, .ref q_alives]), (q_page, cA E 25 v_page)]) [0, 1] rfl (by decide) ?_
  refine k_RX4_102 (pc' := 22) (q0 := 0) (as := [.ref q_page, .int (v_page (ix 21)), .int r16]) (rest := []) (c' := 0) (n' := 0) (wr := []) hZ (c_X4_fairestOf E q_this q_text q_ageing q_page q_readAgeing q_readPage q_book q_kept q_isKept q_heardWho q_heardIs q_tried q_chooser q_best q_alives q_page v_thrown v_textSize v_place v_people v_readPeople v_acts v_heard v_seed v_choosers v_sets v_surely v_page (v_page (ix 21)) r16 _ h) rfl dX4_fairest_19 rfl rfl rfl rfl rfl (Nat.le_of_ble_eq_true rfl) (Nat.le_of_ble_eq_true rfl) (Nat.le_of_ble_eq_true rfl) rfl rfl (Nat.le_of_ble_eq_true rfl) (Nat.le_of_ble_eq_true rfl) [0, 1] [] rfl rfl (by decide) (by decide) (by decide) (fun r19 w19 hw => ?_)
  obtain ⟨rfl, h⟩ := hw
  refine x_ws (ws' := [(q_this, cO 4 [.int v_thrown, .ref q_text, .int v_textSize, .int v_place, .int v_people, .ref q_ageing, .ref q_page, .int v_readPeople, .ref q_readAgeing, .ref q_readPage, .ref q_book, .int v_acts, .ref q_kept, .ref q_isKept, .int v_heard, .ref q_heardWho, .ref q_heardIs, .long v_seed, .ref q_tried, .ref q_chooser, .int v_choosers, .ref q_best, .int v_sets, .int v_surely, .ref q_alives]), (q_page, cA E 25 v_page)]) [0, 1] rfl (by decide) ?_
  exact hRet _ _ _ _ dX4_fairest_22 ⟨rfl, h⟩
set_option maxHeartbeats 4000000 in
set_option maxRecDepth 100000 in
theorem c_X4_about (E : XE) (q_this : Nat) (q_text : Nat) (q_ageing : Nat) (q_page : Nat) (q_readAgeing : Nat) (q_readPage : Nat) (q_book : Nat) (q_kept : Nat) (q_isKept : Nat) (q_heardWho : Nat) (q_heardIs : Nat) (q_tried : Nat) (q_chooser : Nat) (q_best : Nat) (q_alives : Nat) (v_thrown : Int32) (v_textSize : Int32) (v_place : Int32) (v_people : Int32) (v_readPeople : Int32) (v_acts : Int32) (v_heard : Int32) (v_seed : Int64) (v_choosers : Int32) (v_sets : Int32) (v_surely : Int32) (v_page : Nat → Int32) (l1 : Int32) (post : Int32 → Int32 → Prop) (h : p_X4_about v_thrown v_textSize v_people v_acts v_heard v_page l1 post) : ConI E yX4_about cX4_about 2 .int { frames := 3, cells := 0, slots := 0, locals := 69 } 0 0 [.ref q_this, .int l1] [(q_this, cO 4 [.int v_thrown, .ref q_text, .int v_textSize, .int v_place, .int v_people, .ref q_ageing, .ref q_page, .int v_readPeople, .ref q_readAgeing, .ref q_readPage, .ref q_book, .int v_acts, .ref q_kept, .ref q_isKept, .int v_heard, .ref q_heardWho, .ref q_heardIs, .long v_seed, .ref q_tried, .ref q_chooser, .int v_choosers, .ref q_best, .int v_sets, .int v_surely, .ref q_alives]), (q_page, cA E 25 v_page)] (fun r w => ∃ (u_thrown : Int32), w = [(q_this, cO 4 [.int u_thrown, .ref q_text, .int v_textSize, .int v_place, .int v_people, .ref q_ageing, .ref q_page, .int v_readPeople, .ref q_readAgeing, .ref q_readPage, .ref q_book, .int v_acts, .ref q_kept, .ref q_isKept, .int v_heard, .ref q_heardWho, .ref q_heardIs, .long v_seed, .ref q_tried, .ref q_chooser, .int v_choosers, .ref q_best, .int v_sets, .int v_surely, .ref q_alives]), (q_page, cA E 25 v_page)] ∧ post r u_thrown) := by
  refine ConI.of (by decide +kernel) (Nat.le_of_ble_eq_true rfl) (fun Z hZ hI hRet => ?_)
  replace hZ : XOK E Z RX4 cX4_about 2 { frames := 3, cells := 0, slots := 0, locals := 69 } := hZ
  clear hI
  show XW E Z 0 0 [(q_this, cO 4 [.int v_thrown, .ref q_text, .int v_textSize, .int v_place, .int v_people, .ref q_ageing, .ref q_page, .int v_readPeople, .ref q_readAgeing, .ref q_readPage, .ref q_book, .int v_acts, .ref q_kept, .ref q_isKept, .int v_heard, .ref q_heardWho, .ref q_heardIs, .long v_seed, .ref q_tried, .ref q_chooser, .int v_choosers, .ref q_best, .int v_sets, .int v_surely, .ref q_alives]), (q_page, cA E 25 v_page)] [(0, .ref q_this), (1, .int l1)] [] 0
  unfold p_X4_about at h
  refine x_aload_n (pc' := 1) hZ dX4_about_0 rfl 0 rfl ?_
  refine x_iconst (v := 0) (pc' := 2) hZ (by decide) dX4_about_1 rfl ?_
  refine s_RX4_53 (pc' := 5) (ws' := [(q_this, cO 4 [.int 0, .ref q_text, .int v_textSize, .int v_place, .int v_people, .ref q_ageing, .ref q_page, .int v_readPeople, .ref q_readAgeing, .ref q_readPage, .ref q_book, .int v_acts, .ref q_kept, .ref q_isKept, .int v_heard, .ref q_heardWho, .ref q_heardIs, .long v_seed, .ref q_tried, .ref q_chooser, .int v_choosers, .ref q_best, .int v_sets, .int v_surely, .ref q_alives]), (q_page, cA E 25 v_page)]) hZ dX4_about_2 rfl 0 rfl (Nat.le_of_ble_eq_true rfl) rfl ?_
  refine x_iload_n (pc' := 6) hZ dX4_about_5 rfl 1 rfl ?_
  by_cases c6_0 : l1 = 0
  · refine x_tabIn (k := 0) (off := 54) (tgt := 60) hZ dX4_about_6 c6_0 (by decide) (by decide) (by decide +kernel) (by decide) ?_
    replace h := h.1 c6_0
    refine x_aload_n (pc' := 61) hZ dX4_about_60 rfl 0 rfl ?_
    refine g_RX4_57 (pc' := 64) hZ dX4_about_61 rfl 0 rfl rfl ?_
    exact hRet _ _ _ _ dX4_about_64 ⟨_, rfl, h⟩
  by_cases c6_1 : l1 = 1
  · refine x_tabIn (k := 1) (off := 59) (tgt := 65) hZ dX4_about_6 c6_1 (by decide) (by decide) (by decide +kernel) (by decide) ?_
    replace h := h.2.1 c6_1
    refine x_aload_n (pc' := 66) hZ dX4_about_65 rfl 0 rfl ?_
    refine g_RX4_16 (pc' := 69) hZ dX4_about_66 rfl 0 rfl rfl ?_
    refine x_bipush (v := 21) (pc' := 71) hZ (by decide) dX4_about_69 rfl ?_
    have h71 : vp_in 21 25 := by unfold vp_in; decide
    refine x_iald (pc' := 72) hZ h71 dX4_about_71 rfl 1 rfl ?_
    exact hRet _ _ _ _ dX4_about_72 ⟨_, rfl, h⟩
  by_cases c6_2 : l1 = 2
  · refine x_tabIn (k := 2) (off := 67) (tgt := 73) hZ dX4_about_6 c6_2 (by decide) (by decide) (by decide +kernel) (by decide) ?_
    replace h := h.2.2.1 c6_2
    refine x_aload_n (pc' := 74) hZ dX4_about_73 rfl 0 rfl ?_
    refine g_RX4_16 (pc' := 77) hZ dX4_about_74 rfl 0 rfl rfl ?_
    refine x_bipush (v := 22) (pc' := 79) hZ (by decide) dX4_about_77 rfl ?_
    have h79 : vp_in 22 25 := by unfold vp_in; decide
    refine x_iald (pc' := 80) hZ h79 dX4_about_79 rfl 1 rfl ?_
    exact hRet _ _ _ _ dX4_about_80 ⟨_, rfl, h⟩
  by_cases c6_3 : l1 = 3
  · refine x_tabIn (k := 3) (off := 75) (tgt := 81) hZ dX4_about_6 c6_3 (by decide) (by decide) (by decide +kernel) (by decide) ?_
    replace h := h.2.2.2.1 c6_3
    refine x_aload_n (pc' := 82) hZ dX4_about_81 rfl 0 rfl ?_
    refine k_RX4_105 (pc' := 85) (q0 := 0) (as := []) (rest := []) (c' := 0) (n' := 0) (wr := []) hZ (c_X4_fairest E q_this q_text q_ageing q_page q_readAgeing q_readPage q_book q_kept q_isKept q_heardWho q_heardIs q_tried q_chooser q_best q_alives 0 v_textSize v_place v_people v_readPeople v_acts v_heard v_seed v_choosers v_sets v_surely v_page _ h) rfl dX4_about_82 rfl rfl rfl rfl rfl (Nat.le_of_ble_eq_true rfl) (Nat.le_of_ble_eq_true rfl) (Nat.le_of_ble_eq_true rfl) rfl rfl (Nat.le_of_ble_eq_true rfl) (Nat.le_of_ble_eq_true rfl) [0, 1] [] rfl rfl (by decide) (by decide) (by decide) (fun r82 w82 hw => ?_)
    obtain ⟨rfl, h⟩ := hw
    refine x_ws (ws' := [(q_this, cO 4 [.int 0, .ref q_text, .int v_textSize, .int v_place, .int v_people, .ref q_ageing, .ref q_page, .int v_readPeople, .ref q_readAgeing, .ref q_readPage, .ref q_book, .int v_acts, .ref q_kept, .ref q_isKept, .int v_heard, .ref q_heardWho, .ref q_heardIs, .long v_seed, .ref q_tried, .ref q_chooser, .int v_choosers, .ref q_best, .int v_sets, .int v_surely, .ref q_alives]), (q_page, cA E 25 v_page)]) [0, 1] rfl (by decide) ?_
    exact hRet _ _ _ _ dX4_about_85 ⟨_, rfl, h⟩
  by_cases c6_4 : l1 = 4
  · refine x_tabIn (k := 4) (off := 80) (tgt := 86) hZ dX4_about_6 c6_4 (by decide) (by decide) (by decide +kernel) (by decide) ?_
    replace h := h.2.2.2.2.1 c6_4
    refine x_aload_n (pc' := 87) hZ dX4_about_86 rfl 0 rfl ?_
    refine g_RX4_16 (pc' := 90) hZ dX4_about_87 rfl 0 rfl rfl ?_
    refine x_bipush (v := 23) (pc' := 92) hZ (by decide) dX4_about_90 rfl ?_
    have h92 : vp_in 23 25 := by unfold vp_in; decide
    refine x_iald (pc' := 93) hZ h92 dX4_about_92 rfl 1 rfl ?_
    exact hRet _ _ _ _ dX4_about_93 ⟨_, rfl, h⟩
  by_cases c6_5 : l1 = 5
  · refine x_tabIn (k := 5) (off := 88) (tgt := 94) hZ dX4_about_6 c6_5 (by decide) (by decide) (by decide +kernel) (by decide) ?_
    replace h := h.2.2.2.2.2.1 c6_5
    refine x_aload_n (pc' := 95) hZ dX4_about_94 rfl 0 rfl ?_
    refine g_RX4_16 (pc' := 98) hZ dX4_about_95 rfl 0 rfl rfl ?_
    refine x_bipush (v := 24) (pc' := 100) hZ (by decide) dX4_about_98 rfl ?_
    have h100 : vp_in 24 25 := by unfold vp_in; decide
    refine x_iald (pc' := 101) hZ h100 dX4_about_100 rfl 1 rfl ?_
    exact hRet _ _ _ _ dX4_about_101 ⟨_, rfl, h⟩
  by_cases c6_6 : l1 = 6
  · refine x_tabIn (k := 6) (off := 96) (tgt := 102) hZ dX4_about_6 c6_6 (by decide) (by decide) (by decide +kernel) (by decide) ?_
    replace h := h.2.2.2.2.2.2.1 c6_6
    refine x_aload_n (pc' := 103) hZ dX4_about_102 rfl 0 rfl ?_
    refine g_RX4_16 (pc' := 106) hZ dX4_about_103 rfl 0 rfl rfl ?_
    refine k_RX4_98 (pc' := 109) (as := [.ref q_page]) (rest := []) (c' := 0) (n' := 0) (wr := [(q_this, cO 4 [.int 0, .ref q_text, .int v_textSize, .int v_place, .int v_people, .ref q_ageing, .ref q_page, .int v_readPeople, .ref q_readAgeing, .ref q_readPage, .ref q_book, .int v_acts, .ref q_kept, .ref q_isKept, .int v_heard, .ref q_heardWho, .ref q_heardIs, .long v_seed, .ref q_tried, .ref q_chooser, .int v_choosers, .ref q_best, .int v_sets, .int v_surely, .ref q_alives])]) hZ (c_X4_weightsOf E q_page v_page _ h) dX4_about_106 rfl rfl rfl rfl rfl (Nat.le_of_ble_eq_true rfl) (Nat.le_of_ble_eq_true rfl) (Nat.le_of_ble_eq_true rfl) rfl rfl (Nat.le_of_ble_eq_true rfl) (Nat.le_of_ble_eq_true rfl) [1] [0] rfl rfl (by decide) (by decide) (by decide) (fun r106 w106 hw => ?_)
    obtain ⟨rfl, h⟩ := hw
    refine x_ws (ws' := [(q_this, cO 4 [.int 0, .ref q_text, .int v_textSize, .int v_place, .int v_people, .ref q_ageing, .ref q_page, .int v_readPeople, .ref q_readAgeing, .ref q_readPage, .ref q_book, .int v_acts, .ref q_kept, .ref q_isKept, .int v_heard, .ref q_heardWho, .ref q_heardIs, .long v_seed, .ref q_tried, .ref q_chooser, .int v_choosers, .ref q_best, .int v_sets, .int v_surely, .ref q_alives]), (q_page, cA E 25 v_page)]) [0, 1] rfl (by decide) ?_
    exact hRet _ _ _ _ dX4_about_109 ⟨_, rfl, h⟩
  by_cases c6_7 : l1 = 7
  · refine x_tabIn (k := 7) (off := 104) (tgt := 110) hZ dX4_about_6 c6_7 (by decide) (by decide) (by decide +kernel) (by decide) ?_
    replace h := h.2.2.2.2.2.2.2.1 c6_7
    refine x_aload_n (pc' := 111) hZ dX4_about_110 rfl 0 rfl ?_
    refine g_RX4_87 (pc' := 114) hZ dX4_about_111 rfl 0 rfl rfl ?_
    exact hRet _ _ _ _ dX4_about_114 ⟨_, rfl, h⟩
  by_cases c6_8 : l1 = 8
  · refine x_tabIn (k := 8) (off := 109) (tgt := 115) hZ dX4_about_6 c6_8 (by decide) (by decide) (by decide +kernel) (by decide) ?_
    replace h := h.2.2.2.2.2.2.2.2.1 c6_8
    refine x_aload_n (pc' := 116) hZ dX4_about_115 rfl 0 rfl ?_
    refine g_RX4_108 (pc' := 119) hZ dX4_about_116 rfl 0 rfl rfl ?_
    exact hRet _ _ _ _ dX4_about_119 ⟨_, rfl, h⟩
  by_cases c6_9 : l1 = 9
  · refine x_tabIn (k := 9) (off := 114) (tgt := 120) hZ dX4_about_6 c6_9 (by decide) (by decide) (by decide +kernel) (by decide) ?_
    replace h := h.2.2.2.2.2.2.2.2.2.1 c6_9
    refine x_aload_n (pc' := 121) hZ dX4_about_120 rfl 0 rfl ?_
    refine g_RX4_66 (pc' := 124) hZ dX4_about_121 rfl 0 rfl rfl ?_
    exact hRet _ _ _ _ dX4_about_124 ⟨_, rfl, h⟩
  have t6_0 := lv_neT (a := 0) c6_0 (by decide)
  have t6_1 := lv_neT (a := 1) c6_1 (by decide)
  have t6_2 := lv_neT (a := 2) c6_2 (by decide)
  have t6_3 := lv_neT (a := 3) c6_3 (by decide)
  have t6_4 := lv_neT (a := 4) c6_4 (by decide)
  have t6_5 := lv_neT (a := 5) c6_5 (by decide)
  have t6_6 := lv_neT (a := 6) c6_6 (by decide)
  have t6_7 := lv_neT (a := 7) c6_7 (by decide)
  have t6_8 := lv_neT (a := 8) c6_8 (by decide)
  have t6_9 := lv_neT (a := 9) c6_9 (by decide)
  refine x_tabOut (tgt := 125) hZ dX4_about_6 (by omega) (by decide) ?_
  replace h := h.2.2.2.2.2.2.2.2.2.2 ⟨c6_0, c6_1, c6_2, c6_3, c6_4, c6_5, c6_6, c6_7, c6_8, c6_9⟩
  refine x_bipush (v := (-2)) (pc' := 127) hZ (by decide) dX4_about_125 rfl ?_
  exact hRet _ _ _ _ dX4_about_127 ⟨_, rfl, h⟩
set_option maxHeartbeats 4000000 in
set_option maxRecDepth 100000 in
theorem c_X4_noOne (E : XE) (q_this : Nat) (q_text : Nat) (q_ageing : Nat) (q_page : Nat) (q_readAgeing : Nat) (q_readPage : Nat) (q_book : Nat) (q_kept : Nat) (q_isKept : Nat) (q_heardWho : Nat) (q_heardIs : Nat) (q_tried : Nat) (q_chooser : Nat) (q_best : Nat) (q_alives : Nat) (v_thrown : Int32) (v_textSize : Int32) (v_place : Int32) (v_people : Int32) (v_readPeople : Int32) (v_acts : Int32) (v_heard : Int32) (v_seed : Int64) (v_choosers : Int32) (v_sets : Int32) (v_surely : Int32) (l1 : Int32) (post : Int32 → Prop) (h : p_X4_noOne v_people l1 post) : ConI E yX4_noOne cX4_noOne 2 .boolean { frames := 1, cells := 0, slots := 0, locals := 25 } 0 0 [.ref q_this, .int l1] [(q_this, cO 4 [.int v_thrown, .ref q_text, .int v_textSize, .int v_place, .int v_people, .ref q_ageing, .ref q_page, .int v_readPeople, .ref q_readAgeing, .ref q_readPage, .ref q_book, .int v_acts, .ref q_kept, .ref q_isKept, .int v_heard, .ref q_heardWho, .ref q_heardIs, .long v_seed, .ref q_tried, .ref q_chooser, .int v_choosers, .ref q_best, .int v_sets, .int v_surely, .ref q_alives])] (fun r w => w = [(q_this, cO 4 [.int v_thrown, .ref q_text, .int v_textSize, .int v_place, .int v_people, .ref q_ageing, .ref q_page, .int v_readPeople, .ref q_readAgeing, .ref q_readPage, .ref q_book, .int v_acts, .ref q_kept, .ref q_isKept, .int v_heard, .ref q_heardWho, .ref q_heardIs, .long v_seed, .ref q_tried, .ref q_chooser, .int v_choosers, .ref q_best, .int v_sets, .int v_surely, .ref q_alives])] ∧ post r ) := by
  refine ConIz.of (by decide +kernel) (Nat.le_of_ble_eq_true rfl) (fun Z hZ hI hRet => ?_)
  replace hZ : XOK E Z RX4 cX4_noOne 2 { frames := 1, cells := 0, slots := 0, locals := 25 } := hZ
  clear hI
  show XW E Z 0 0 [(q_this, cO 4 [.int v_thrown, .ref q_text, .int v_textSize, .int v_place, .int v_people, .ref q_ageing, .ref q_page, .int v_readPeople, .ref q_readAgeing, .ref q_readPage, .ref q_book, .int v_acts, .ref q_kept, .ref q_isKept, .int v_heard, .ref q_heardWho, .ref q_heardIs, .long v_seed, .ref q_tried, .ref q_chooser, .int v_choosers, .ref q_best, .int v_sets, .int v_surely, .ref q_alives])] [(0, .ref q_this), (1, .int l1)] [] 0
  unfold p_X4_noOne at h
  refine x_iload_n (pc' := 1) hZ dX4_noOne_0 rfl 1 rfl ?_
  refine x_i2l (pc' := 2) hZ dX4_noOne_1 rfl ?_
  refine x_lconst (v := 0) (pc' := 3) hZ (by decide) dX4_noOne_2 rfl ?_
  refine x_aload_n (pc' := 4) hZ dX4_noOne_3 rfl 0 rfl ?_
  refine g_RX4_57 (pc' := 7) hZ dX4_noOne_4 rfl 0 rfl rfl ?_
  refine x_iconst (v := 1) (pc' := 8) hZ (by decide) dX4_noOne_7 rfl ?_
  refine x_isub (pc' := 9) hZ dX4_noOne_8 rfl ?_
  refine x_i2l (pc' := 10) hZ dX4_noOne_9 rfl ?_
  refine k_RX4_60 (pc' := 13) (as := [.long l1.toInt64, .long 0, .long ((v_people - 1).toInt64)]) (rest := []) (c' := 0) (n' := 0) (wr := [(q_this, cO 4 [.int v_thrown, .ref q_text, .int v_textSize, .int v_place, .int v_people, .ref q_ageing, .ref q_page, .int v_readPeople, .ref q_readAgeing, .ref q_readPage, .ref q_book, .int v_acts, .ref q_kept, .ref q_isKept, .int v_heard, .ref q_heardWho, .ref q_heardIs, .long v_seed, .ref q_tried, .ref q_chooser, .int v_choosers, .ref q_best, .int v_sets, .int v_surely, .ref q_alives])]) hZ (c_X4_in E l1.toInt64 0 ((v_people - 1).toInt64) _ h) dX4_noOne_10 rfl rfl rfl rfl rfl (Nat.le_of_ble_eq_true rfl) (Nat.le_of_ble_eq_true rfl) (Nat.le_of_ble_eq_true rfl) rfl rfl (Nat.le_of_ble_eq_true rfl) (Nat.le_of_ble_eq_true rfl) [] [0] rfl rfl (by decide) (by decide) (by decide) (fun r10 w10 hw => ?_)
  obtain ⟨rfl, h⟩ := hw
  refine x_ws (ws' := [(q_this, cO 4 [.int v_thrown, .ref q_text, .int v_textSize, .int v_place, .int v_people, .ref q_ageing, .ref q_page, .int v_readPeople, .ref q_readAgeing, .ref q_readPage, .ref q_book, .int v_acts, .ref q_kept, .ref q_isKept, .int v_heard, .ref q_heardWho, .ref q_heardIs, .long v_seed, .ref q_tried, .ref q_chooser, .int v_choosers, .ref q_best, .int v_sets, .int v_surely, .ref q_alives])]) [0] rfl (by decide) ?_
  refine x_if_ne (tgt := 20) (pc' := 16) hZ dX4_noOne_13 (by decide) rfl (fun c13 => ?_) (fun c13 => ?_)
  · replace h := h.1 c13
    refine x_iconst (v := 0) (pc' := 21) hZ (by decide) dX4_noOne_20 rfl ?_
    exact hRet _ _ _ _ dX4_noOne_21 (by decide) ⟨rfl, h⟩
  · replace h := h.2 c13
    refine x_iconst (v := 1) (pc' := 17) hZ (by decide) dX4_noOne_16 rfl ?_
    refine x_goto (pc' := 21) hZ dX4_noOne_17 (by decide) ?_
    exact hRet _ _ _ _ dX4_noOne_21 (by decide) ⟨rfl, h⟩
set_option maxHeartbeats 4000000 in
set_option maxRecDepth 100000 in
theorem c_X4_person (E : XE) (q_this : Nat) (q_text : Nat) (q_ageing : Nat) (q_page : Nat) (q_readAgeing : Nat) (q_readPage : Nat) (q_book : Nat) (q_kept : Nat) (q_isKept : Nat) (q_heardWho : Nat) (q_heardIs : Nat) (q_tried : Nat) (q_chooser : Nat) (q_best : Nat) (q_alives : Nat) (v_thrown : Int32) (v_textSize : Int32) (v_place : Int32) (v_people : Int32) (v_readPeople : Int32) (v_acts : Int32) (v_heard : Int32) (v_seed : Int64) (v_choosers : Int32) (v_sets : Int32) (v_surely : Int32) (v_ageing : Nat → Int32) (v_page : Nat → Int32) (l1 : Int32) (l2 : Int32) (post : Int32 → Int32 → Prop) (h : p_X4_person v_thrown v_people v_ageing v_page l1 l2 post) : ConI E yX4_person cX4_person 3 .int { frames := 2, cells := 0, slots := 0, locals := 46 } 0 0 [.ref q_this, .int l1, .int l2] [(q_this, cO 4 [.int v_thrown, .ref q_text, .int v_textSize, .int v_place, .int v_people, .ref q_ageing, .ref q_page, .int v_readPeople, .ref q_readAgeing, .ref q_readPage, .ref q_book, .int v_acts, .ref q_kept, .ref q_isKept, .int v_heard, .ref q_heardWho, .ref q_heardIs, .long v_seed, .ref q_tried, .ref q_chooser, .int v_choosers, .ref q_best, .int v_sets, .int v_surely, .ref q_alives]), (q_ageing, cA E 6 v_ageing), (q_page, cA E 25 v_page)] (fun r w => ∃ (u_thrown : Int32), w = [(q_this, cO 4 [.int u_thrown, .ref q_text, .int v_textSize, .int v_place, .int v_people, .ref q_ageing, .ref q_page, .int v_readPeople, .ref q_readAgeing, .ref q_readPage, .ref q_book, .int v_acts, .ref q_kept, .ref q_isKept, .int v_heard, .ref q_heardWho, .ref q_heardIs, .long v_seed, .ref q_tried, .ref q_chooser, .int v_choosers, .ref q_best, .int v_sets, .int v_surely, .ref q_alives]), (q_ageing, cA E 6 v_ageing), (q_page, cA E 25 v_page)] ∧ post r u_thrown) := by
  refine ConI.of (by decide +kernel) (Nat.le_of_ble_eq_true rfl) (fun Z hZ hI hRet => ?_)
  replace hZ : XOK E Z RX4 cX4_person 3 { frames := 2, cells := 0, slots := 0, locals := 46 } := hZ
  clear hI
  show XW E Z 0 0 [(q_this, cO 4 [.int v_thrown, .ref q_text, .int v_textSize, .int v_place, .int v_people, .ref q_ageing, .ref q_page, .int v_readPeople, .ref q_readAgeing, .ref q_readPage, .ref q_book, .int v_acts, .ref q_kept, .ref q_isKept, .int v_heard, .ref q_heardWho, .ref q_heardIs, .long v_seed, .ref q_tried, .ref q_chooser, .int v_choosers, .ref q_best, .int v_sets, .int v_surely, .ref q_alives]), (q_ageing, cA E 6 v_ageing), (q_page, cA E 25 v_page)] [(0, .ref q_this), (1, .int l1), (2, .int l2)] [] 0
  unfold p_X4_person at h
  refine x_aload_n (pc' := 1) hZ dX4_person_0 rfl 0 rfl ?_
  refine x_iconst (v := 0) (pc' := 2) hZ (by decide) dX4_person_1 rfl ?_
  refine s_RX4_53 (pc' := 5) (ws' := [(q_this, cO 4 [.int 0, .ref q_text, .int v_textSize, .int v_place, .int v_people, .ref q_ageing, .ref q_page, .int v_readPeople, .ref q_readAgeing, .ref q_readPage, .ref q_book, .int v_acts, .ref q_kept, .ref q_isKept, .int v_heard, .ref q_heardWho, .ref q_heardIs, .long v_seed, .ref q_tried, .ref q_chooser, .int v_choosers, .ref q_best, .int v_sets, .int v_surely, .ref q_alives]), (q_ageing, cA E 6 v_ageing), (q_page, cA E 25 v_page)]) hZ dX4_person_2 rfl 0 rfl (Nat.le_of_ble_eq_true rfl) rfl ?_
  refine x_aload_n (pc' := 6) hZ dX4_person_5 rfl 0 rfl ?_
  refine x_iload_n (pc' := 7) hZ dX4_person_6 rfl 1 rfl ?_
  refine k_RX4_111 (pc' := 10) (q0 := 0) (as := [.int l1]) (rest := []) (c' := 0) (n' := 0) (wr := [(q_ageing, cA E 6 v_ageing), (q_page, cA E 25 v_page)]) hZ (c_X4_noOne E q_this q_text q_ageing q_page q_readAgeing q_readPage q_book q_kept q_isKept q_heardWho q_heardIs q_tried q_chooser q_best q_alives 0 v_textSize v_place v_people v_readPeople v_acts v_heard v_seed v_choosers v_sets v_surely l1 _ h) rfl dX4_person_7 rfl rfl rfl rfl rfl (Nat.le_of_ble_eq_true rfl) (Nat.le_of_ble_eq_true rfl) (Nat.le_of_ble_eq_true rfl) rfl rfl (Nat.le_of_ble_eq_true rfl) (Nat.le_of_ble_eq_true rfl) [0] [1, 2] rfl rfl (by decide) (by decide) (by decide) (fun r7 w7 hw => ?_)
  obtain ⟨rfl, h⟩ := hw
  refine x_ws (ws' := [(q_this, cO 4 [.int 0, .ref q_text, .int v_textSize, .int v_place, .int v_people, .ref q_ageing, .ref q_page, .int v_readPeople, .ref q_readAgeing, .ref q_readPage, .ref q_book, .int v_acts, .ref q_kept, .ref q_isKept, .int v_heard, .ref q_heardWho, .ref q_heardIs, .long v_seed, .ref q_tried, .ref q_chooser, .int v_choosers, .ref q_best, .int v_sets, .int v_surely, .ref q_alives]), (q_ageing, cA E 6 v_ageing), (q_page, cA E 25 v_page)]) [2, 0, 1] rfl (by decide) ?_
  refine x_if_eq (tgt := 15) (pc' := 13) hZ dX4_person_10 (by decide) rfl (fun c10 => ?_) (fun c10 => ?_)
  · replace h := h.1 c10
    refine x_iload_n (pc' := 16) hZ dX4_person_15 rfl 2 rfl ?_
    by_cases c16_0 : l2 = 0
    · refine x_tabIn (k := 0) (off := 44) (tgt := 60) hZ dX4_person_16 c16_0 (by decide) (by decide) (by decide +kernel) (by decide) ?_
      replace h := h.1 c16_0
      refine x_aload_n (pc' := 61) hZ dX4_person_60 rfl 0 rfl ?_
      refine g_RX4_16 (pc' := 64) hZ dX4_person_61 rfl 0 rfl rfl ?_
      refine x_iconst (v := 3) (pc' := 65) hZ (by decide) dX4_person_64 rfl ?_
      refine x_iconst (v := 3) (pc' := 66) hZ (by decide) dX4_person_65 rfl ?_
      refine x_iload_n (pc' := 67) hZ dX4_person_66 rfl 1 rfl ?_
      refine x_imul (pc' := 68) hZ dX4_person_67 rfl ?_
      refine x_iadd (pc' := 69) hZ dX4_person_68 rfl ?_
      refine x_iload_n (pc' := 70) hZ dX4_person_69 rfl 2 rfl ?_
      refine x_iadd (pc' := 71) hZ dX4_person_70 rfl ?_
      obtain ⟨h71, h⟩ := h
      refine x_iald (pc' := 72) hZ h71 dX4_person_71 rfl 2 rfl ?_
      exact hRet _ _ _ _ dX4_person_72 ⟨_, rfl, h⟩
    by_cases c16_1 : l2 = 1
    · refine x_tabIn (k := 1) (off := 44) (tgt := 60) hZ dX4_person_16 c16_1 (by decide) (by decide) (by decide +kernel) (by decide) ?_
      replace h := h.2.1 c16_1
      refine x_aload_n (pc' := 61) hZ dX4_person_60 rfl 0 rfl ?_
      refine g_RX4_16 (pc' := 64) hZ dX4_person_61 rfl 0 rfl rfl ?_
      refine x_iconst (v := 3) (pc' := 65) hZ (by decide) dX4_person_64 rfl ?_
      refine x_iconst (v := 3) (pc' := 66) hZ (by decide) dX4_person_65 rfl ?_
      refine x_iload_n (pc' := 67) hZ dX4_person_66 rfl 1 rfl ?_
      refine x_imul (pc' := 68) hZ dX4_person_67 rfl ?_
      refine x_iadd (pc' := 69) hZ dX4_person_68 rfl ?_
      refine x_iload_n (pc' := 70) hZ dX4_person_69 rfl 2 rfl ?_
      refine x_iadd (pc' := 71) hZ dX4_person_70 rfl ?_
      obtain ⟨h71, h⟩ := h
      refine x_iald (pc' := 72) hZ h71 dX4_person_71 rfl 2 rfl ?_
      exact hRet _ _ _ _ dX4_person_72 ⟨_, rfl, h⟩
    by_cases c16_2 : l2 = 2
    · refine x_tabIn (k := 2) (off := 44) (tgt := 60) hZ dX4_person_16 c16_2 (by decide) (by decide) (by decide +kernel) (by decide) ?_
      replace h := h.2.2.1 c16_2
      refine x_aload_n (pc' := 61) hZ dX4_person_60 rfl 0 rfl ?_
      refine g_RX4_16 (pc' := 64) hZ dX4_person_61 rfl 0 rfl rfl ?_
      refine x_iconst (v := 3) (pc' := 65) hZ (by decide) dX4_person_64 rfl ?_
      refine x_iconst (v := 3) (pc' := 66) hZ (by decide) dX4_person_65 rfl ?_
      refine x_iload_n (pc' := 67) hZ dX4_person_66 rfl 1 rfl ?_
      refine x_imul (pc' := 68) hZ dX4_person_67 rfl ?_
      refine x_iadd (pc' := 69) hZ dX4_person_68 rfl ?_
      refine x_iload_n (pc' := 70) hZ dX4_person_69 rfl 2 rfl ?_
      refine x_iadd (pc' := 71) hZ dX4_person_70 rfl ?_
      obtain ⟨h71, h⟩ := h
      refine x_iald (pc' := 72) hZ h71 dX4_person_71 rfl 2 rfl ?_
      exact hRet _ _ _ _ dX4_person_72 ⟨_, rfl, h⟩
    by_cases c16_3 : l2 = 3
    · refine x_tabIn (k := 3) (off := 57) (tgt := 73) hZ dX4_person_16 c16_3 (by decide) (by decide) (by decide +kernel) (by decide) ?_
      replace h := h.2.2.2.1 c16_3
      refine x_aload_n (pc' := 74) hZ dX4_person_73 rfl 0 rfl ?_
      refine g_RX4_13 (pc' := 77) hZ dX4_person_74 rfl 0 rfl rfl ?_
      refine x_iload_n (pc' := 78) hZ dX4_person_77 rfl 1 rfl ?_
      obtain ⟨h78, h⟩ := h
      refine x_iald (pc' := 79) hZ h78 dX4_person_78 rfl 1 rfl ?_
      exact hRet _ _ _ _ dX4_person_79 ⟨_, rfl, h⟩
    by_cases c16_4 : l2 = 4
    · refine x_tabIn (k := 4) (off := 64) (tgt := 80) hZ dX4_person_16 c16_4 (by decide) (by decide) (by decide +kernel) (by decide) ?_
      replace h := h.2.2.2.2.1 c16_4
      refine x_aload_n (pc' := 81) hZ dX4_person_80 rfl 0 rfl ?_
      refine g_RX4_16 (pc' := 84) hZ dX4_person_81 rfl 0 rfl rfl ?_
      refine x_bipush (v := 21) (pc' := 86) hZ (by decide) dX4_person_84 rfl ?_
      have h86 : vp_in 21 25 := by unfold vp_in; decide
      refine x_iald (pc' := 87) hZ h86 dX4_person_86 rfl 2 rfl ?_
      refine x_iload_n (pc' := 88) hZ dX4_person_87 rfl 1 rfl ?_
      refine k_RX4_90 (pc' := 91) (as := [.int (v_page (ix 21)), .int l1]) (rest := []) (c' := 0) (n' := 0) (wr := [(q_this, cO 4 [.int 0, .ref q_text, .int v_textSize, .int v_place, .int v_people, .ref q_ageing, .ref q_page, .int v_readPeople, .ref q_readAgeing, .ref q_readPage, .ref q_book, .int v_acts, .ref q_kept, .ref q_isKept, .int v_heard, .ref q_heardWho, .ref q_heardIs, .long v_seed, .ref q_tried, .ref q_chooser, .int v_choosers, .ref q_best, .int v_sets, .int v_surely, .ref q_alives]), (q_ageing, cA E 6 v_ageing), (q_page, cA E 25 v_page)]) hZ (c_X4_has E (v_page (ix 21)) l1 _ h) dX4_person_88 rfl rfl rfl rfl rfl (Nat.le_of_ble_eq_true rfl) (Nat.le_of_ble_eq_true rfl) (Nat.le_of_ble_eq_true rfl) rfl rfl (Nat.le_of_ble_eq_true rfl) (Nat.le_of_ble_eq_true rfl) [] [0, 1, 2] rfl rfl (by decide) (by decide) (by decide) (fun r88 w88 hw => ?_)
      obtain ⟨rfl, h⟩ := hw
      refine x_ws (ws' := [(q_this, cO 4 [.int 0, .ref q_text, .int v_textSize, .int v_place, .int v_people, .ref q_ageing, .ref q_page, .int v_readPeople, .ref q_readAgeing, .ref q_readPage, .ref q_book, .int v_acts, .ref q_kept, .ref q_isKept, .int v_heard, .ref q_heardWho, .ref q_heardIs, .long v_seed, .ref q_tried, .ref q_chooser, .int v_choosers, .ref q_best, .int v_sets, .int v_surely, .ref q_alives]), (q_ageing, cA E 6 v_ageing), (q_page, cA E 25 v_page)]) [0, 1, 2] rfl (by decide) ?_
      refine x_if_eq (tgt := 98) (pc' := 94) hZ dX4_person_91 (by decide) rfl (fun c91 => ?_) (fun c91 => ?_)
      · replace h := h.1 c91
        refine x_iconst (v := 0) (pc' := 99) hZ (by decide) dX4_person_98 rfl ?_
        exact hRet _ _ _ _ dX4_person_99 ⟨_, rfl, h⟩
      · replace h := h.2 c91
        refine x_iconst (v := 1) (pc' := 95) hZ (by decide) dX4_person_94 rfl ?_
        refine x_goto (pc' := 99) hZ dX4_person_95 (by decide) ?_
        exact hRet _ _ _ _ dX4_person_99 ⟨_, rfl, h⟩
    by_cases c16_5 : l2 = 5
    · refine x_tabIn (k := 5) (off := 84) (tgt := 100) hZ dX4_person_16 c16_5 (by decide) (by decide) (by decide +kernel) (by decide) ?_
      replace h := h.2.2.2.2.2.1 c16_5
      refine x_aload_n (pc' := 101) hZ dX4_person_100 rfl 0 rfl ?_
      refine g_RX4_16 (pc' := 104) hZ dX4_person_101 rfl 0 rfl rfl ?_
      refine x_bipush (v := 22) (pc' := 106) hZ (by decide) dX4_person_104 rfl ?_
      have h106 : vp_in 22 25 := by unfold vp_in; decide
      refine x_iald (pc' := 107) hZ h106 dX4_person_106 rfl 2 rfl ?_
      refine x_iload_n (pc' := 108) hZ dX4_person_107 rfl 1 rfl ?_
      refine k_RX4_90 (pc' := 111) (as := [.int (v_page (ix 22)), .int l1]) (rest := []) (c' := 0) (n' := 0) (wr := [(q_this, cO 4 [.int 0, .ref q_text, .int v_textSize, .int v_place, .int v_people, .ref q_ageing, .ref q_page, .int v_readPeople, .ref q_readAgeing, .ref q_readPage, .ref q_book, .int v_acts, .ref q_kept, .ref q_isKept, .int v_heard, .ref q_heardWho, .ref q_heardIs, .long v_seed, .ref q_tried, .ref q_chooser, .int v_choosers, .ref q_best, .int v_sets, .int v_surely, .ref q_alives]), (q_ageing, cA E 6 v_ageing), (q_page, cA E 25 v_page)]) hZ (c_X4_has E (v_page (ix 22)) l1 _ h) dX4_person_108 rfl rfl rfl rfl rfl (Nat.le_of_ble_eq_true rfl) (Nat.le_of_ble_eq_true rfl) (Nat.le_of_ble_eq_true rfl) rfl rfl (Nat.le_of_ble_eq_true rfl) (Nat.le_of_ble_eq_true rfl) [] [0, 1, 2] rfl rfl (by decide) (by decide) (by decide) (fun r108 w108 hw => ?_)
      obtain ⟨rfl, h⟩ := hw
      refine x_ws (ws' := [(q_this, cO 4 [.int 0, .ref q_text, .int v_textSize, .int v_place, .int v_people, .ref q_ageing, .ref q_page, .int v_readPeople, .ref q_readAgeing, .ref q_readPage, .ref q_book, .int v_acts, .ref q_kept, .ref q_isKept, .int v_heard, .ref q_heardWho, .ref q_heardIs, .long v_seed, .ref q_tried, .ref q_chooser, .int v_choosers, .ref q_best, .int v_sets, .int v_surely, .ref q_alives]), (q_ageing, cA E 6 v_ageing), (q_page, cA E 25 v_page)]) [0, 1, 2] rfl (by decide) ?_
      refine x_if_eq (tgt := 118) (pc' := 114) hZ dX4_person_111 (by decide) rfl (fun c111 => ?_) (fun c111 => ?_)
      · replace h := h.1 c111
        refine x_iconst (v := 0) (pc' := 119) hZ (by decide) dX4_person_118 rfl ?_
        exact hRet _ _ _ _ dX4_person_119 ⟨_, rfl, h⟩
      · replace h := h.2 c111
        refine x_iconst (v := 1) (pc' := 115) hZ (by decide) dX4_person_114 rfl ?_
        refine x_goto (pc' := 119) hZ dX4_person_115 (by decide) ?_
        exact hRet _ _ _ _ dX4_person_119 ⟨_, rfl, h⟩
    by_cases c16_6 : l2 = 6
    · refine x_tabIn (k := 6) (off := 104) (tgt := 120) hZ dX4_person_16 c16_6 (by decide) (by decide) (by decide +kernel) (by decide) ?_
      replace h := h.2.2.2.2.2.2.1 c16_6
      refine x_aload_n (pc' := 121) hZ dX4_person_120 rfl 0 rfl ?_
      refine g_RX4_16 (pc' := 124) hZ dX4_person_121 rfl 0 rfl rfl ?_
      refine x_iload_n (pc' := 125) hZ dX4_person_124 rfl 1 rfl ?_
      refine x_aload_n (pc' := 126) hZ dX4_person_125 rfl 0 rfl ?_
      refine g_RX4_16 (pc' := 129) hZ dX4_person_126 rfl 0 rfl rfl ?_
      refine k_RX4_98 (pc' := 132) (as := [.ref q_page]) (rest := [.int l1, .ref q_page]) (c' := 0) (n' := 0) (wr := [(q_this, cO 4 [.int 0, .ref q_text, .int v_textSize, .int v_place, .int v_people, .ref q_ageing, .ref q_page, .int v_readPeople, .ref q_readAgeing, .ref q_readPage, .ref q_book, .int v_acts, .ref q_kept, .ref q_isKept, .int v_heard, .ref q_heardWho, .ref q_heardIs, .long v_seed, .ref q_tried, .ref q_chooser, .int v_choosers, .ref q_best, .int v_sets, .int v_surely, .ref q_alives]), (q_ageing, cA E 6 v_ageing)]) hZ (c_X4_weightsOf E q_page v_page _ h) dX4_person_129 rfl rfl rfl rfl rfl (Nat.le_of_ble_eq_true rfl) (Nat.le_of_ble_eq_true rfl) (Nat.le_of_ble_eq_true rfl) rfl rfl (Nat.le_of_ble_eq_true rfl) (Nat.le_of_ble_eq_true rfl) [2] [0, 1] rfl rfl (by decide) (by decide) (by decide) (fun r129 w129 hw => ?_)
      obtain ⟨rfl, h⟩ := hw
      refine x_ws (ws' := [(q_this, cO 4 [.int 0, .ref q_text, .int v_textSize, .int v_place, .int v_people, .ref q_ageing, .ref q_page, .int v_readPeople, .ref q_readAgeing, .ref q_readPage, .ref q_book, .int v_acts, .ref q_kept, .ref q_isKept, .int v_heard, .ref q_heardWho, .ref q_heardIs, .long v_seed, .ref q_tried, .ref q_chooser, .int v_choosers, .ref q_best, .int v_sets, .int v_surely, .ref q_alives]), (q_ageing, cA E 6 v_ageing), (q_page, cA E 25 v_page)]) [0, 1, 2] rfl (by decide) ?_
      refine k_RX4_94 (pc' := 135) (as := [.ref q_page, .int l1, .int r129]) (rest := []) (c' := 0) (n' := 0) (wr := [(q_this, cO 4 [.int 0, .ref q_text, .int v_textSize, .int v_place, .int v_people, .ref q_ageing, .ref q_page, .int v_readPeople, .ref q_readAgeing, .ref q_readPage, .ref q_book, .int v_acts, .ref q_kept, .ref q_isKept, .int v_heard, .ref q_heardWho, .ref q_heardIs, .long v_seed, .ref q_tried, .ref q_chooser, .int v_choosers, .ref q_best, .int v_sets, .int v_surely, .ref q_alives]), (q_ageing, cA E 6 v_ageing)]) hZ (c_X4_valueOf E q_page v_page l1 r129 _ h) dX4_person_132 rfl rfl rfl rfl rfl (Nat.le_of_ble_eq_true rfl) (Nat.le_of_ble_eq_true rfl) (Nat.le_of_ble_eq_true rfl) rfl rfl (Nat.le_of_ble_eq_true rfl) (Nat.le_of_ble_eq_true rfl) [2] [0, 1] rfl rfl (by decide) (by decide) (by decide) (fun r132 w132 hw => ?_)
      obtain ⟨rfl, h⟩ := hw
      refine x_ws (ws' := [(q_this, cO 4 [.int 0, .ref q_text, .int v_textSize, .int v_place, .int v_people, .ref q_ageing, .ref q_page, .int v_readPeople, .ref q_readAgeing, .ref q_readPage, .ref q_book, .int v_acts, .ref q_kept, .ref q_isKept, .int v_heard, .ref q_heardWho, .ref q_heardIs, .long v_seed, .ref q_tried, .ref q_chooser, .int v_choosers, .ref q_best, .int v_sets, .int v_surely, .ref q_alives]), (q_ageing, cA E 6 v_ageing), (q_page, cA E 25 v_page)]) [0, 1, 2] rfl (by decide) ?_
      exact hRet _ _ _ _ dX4_person_135 ⟨_, rfl, h⟩
    have t16_0 := lv_neT (a := 0) c16_0 (by decide)
    have t16_1 := lv_neT (a := 1) c16_1 (by decide)
    have t16_2 := lv_neT (a := 2) c16_2 (by decide)
    have t16_3 := lv_neT (a := 3) c16_3 (by decide)
    have t16_4 := lv_neT (a := 4) c16_4 (by decide)
    have t16_5 := lv_neT (a := 5) c16_5 (by decide)
    have t16_6 := lv_neT (a := 6) c16_6 (by decide)
    refine x_tabOut (tgt := 136) hZ dX4_person_16 (by omega) (by decide) ?_
    replace h := h.2.2.2.2.2.2.2 ⟨c16_0, c16_1, c16_2, c16_3, c16_4, c16_5, c16_6⟩
    refine x_bipush (v := (-2)) (pc' := 138) hZ (by decide) dX4_person_136 rfl ?_
    exact hRet _ _ _ _ dX4_person_138 ⟨_, rfl, h⟩
  · replace h := h.2 c10
    refine x_iconst (v := (-1)) (pc' := 14) hZ (by decide) dX4_person_13 rfl ?_
    exact hRet _ _ _ _ dX4_person_14 ⟨_, rfl, h⟩
set_option maxHeartbeats 4000000 in
set_option maxRecDepth 100000 in
theorem t_X4_note_51 (E : XE) (Z : ZC) (q_this : Nat) (q_text : Nat) (q_ageing : Nat) (q_page : Nat) (q_readAgeing : Nat) (q_readPage : Nat) (q_book : Nat) (q_kept : Nat) (q_isKept : Nat) (q_heardWho : Nat) (q_heardIs : Nat) (q_tried : Nat) (q_chooser : Nat) (q_best : Nat) (q_alives : Nat) (v_thrown : Int32) (v_textSize : Int32) (v_place : Int32) (v_people : Int32) (v_readPeople : Int32) (v_acts : Int32) (v_heard : Int32) (v_seed : Int64) (v_choosers : Int32) (v_sets : Int32) (v_surely : Int32) (v_page : Nat → Int32) {K : Int32 → (Nat → Int32) → Prop} (hZ : XOK E Z RX4 cX4_note 2 { frames := 0, cells := 0, slots := 0, locals := 0 }) : ∀ (k : Nat) (l1 : Int32) (v_book : (Nat → Int32)), wl (fun rec v => b_X4_note_51 v_acts v_page K rec v.1 v.2) k (l1, v_book) → (∀ (l1 : Int32) (v_book : (Nat → Int32)), K l1 v_book → XW E Z 0 0 [(q_this, cO 4 [.int v_thrown, .ref q_text, .int v_textSize, .int v_place, .int v_people, .ref q_ageing, .ref q_page, .int v_readPeople, .ref q_readAgeing, .ref q_readPage, .ref q_book, .int v_acts, .ref q_kept, .ref q_isKept, .int v_heard, .ref q_heardWho, .ref q_heardIs, .long v_seed, .ref q_tried, .ref q_chooser, .int v_choosers, .ref q_best, .int v_sets, .int v_surely, .ref q_alives]), (q_page, cA E 25 v_page), (q_book, cA E 350 v_book)] [(0, .ref q_this)] [] 83) → XW E Z 0 0 [(q_this, cO 4 [.int v_thrown, .ref q_text, .int v_textSize, .int v_place, .int v_people, .ref q_ageing, .ref q_page, .int v_readPeople, .ref q_readAgeing, .ref q_readPage, .ref q_book, .int v_acts, .ref q_kept, .ref q_isKept, .int v_heard, .ref q_heardWho, .ref q_heardIs, .long v_seed, .ref q_tried, .ref q_chooser, .int v_choosers, .ref q_best, .int v_sets, .int v_surely, .ref q_alives]), (q_page, cA E 25 v_page), (q_book, cA E 350 v_book)] [(0, .ref q_this), (1, .int l1)] [] 51 := by
  intro k
  induction k with
  | zero =>
    intro l1 v_book h
    exact h.elim
  | succ k ih =>
    intro l1 v_book h hK
    replace h := wl_succ h
    try dsimp only at h
    unfold b_X4_note_51 at h
    refine x_iload_n (pc' := 52) hZ dX4_note_51 rfl 1 rfl ?_
    refine x_bipush (v := 25) (pc' := 54) hZ (by decide) dX4_note_52 rfl ?_
    refine x_icmp_ge (tgt := 83) (pc' := 57) hZ dX4_note_54 (by decide) rfl (fun c54 => ?_) (fun c54 => ?_)
    · replace h := h.1 c54
      refine x_lv [0] (lv' := [(0, .ref q_this)]) rfl ?_
      exact hK l1 v_book h
    · replace h := h.2 c54
      refine x_aload_n (pc' := 58) hZ dX4_note_57 rfl 0 rfl ?_
      refine g_RX4_25 (pc' := 61) hZ dX4_note_58 rfl 0 rfl rfl ?_
      refine x_bipush (v := 25) (pc' := 63) hZ (by decide) dX4_note_61 rfl ?_
      refine x_aload_n (pc' := 64) hZ dX4_note_63 rfl 0 rfl ?_
      refine g_RX4_87 (pc' := 67) hZ dX4_note_64 rfl 0 rfl rfl ?_
      refine x_imul (pc' := 68) hZ dX4_note_67 rfl ?_
      refine x_iload_n (pc' := 69) hZ dX4_note_68 rfl 1 rfl ?_
      refine x_iadd (pc' := 70) hZ dX4_note_69 rfl ?_
      refine x_aload_n (pc' := 71) hZ dX4_note_70 rfl 0 rfl ?_
      refine g_RX4_16 (pc' := 74) hZ dX4_note_71 rfl 0 rfl rfl ?_
      refine x_iload_n (pc' := 75) hZ dX4_note_74 rfl 1 rfl ?_
      obtain ⟨h75, h⟩ := h
      refine x_iald (pc' := 76) hZ h75 dX4_note_75 rfl 1 rfl ?_
      refine x_topi (fun x76 e76 => ?_)
      replace h := h x76 e76
      obtain ⟨h76, h⟩ := h
      refine x_iast (pc' := 77) (ws' := [(q_this, cO 4 [.int v_thrown, .ref q_text, .int v_textSize, .int v_place, .int v_people, .ref q_ageing, .ref q_page, .int v_readPeople, .ref q_readAgeing, .ref q_readPage, .ref q_book, .int v_acts, .ref q_kept, .ref q_isKept, .int v_heard, .ref q_heardWho, .ref q_heardIs, .long v_seed, .ref q_tried, .ref q_chooser, .int v_choosers, .ref q_best, .int v_sets, .int v_surely, .ref q_alives]), (q_page, cA E 25 v_page), (q_book, cA E 350 (upd v_book (ix ((25 * v_acts) + l1)) x76))]) hZ h76 dX4_note_76 rfl 2 rfl rfl ?_
      obtain ⟨x77, e77⟩ : ∃ y : Int32, y = l1 + 1 := ⟨_, rfl⟩
      replace h := h x77 e77
      refine x_iinc (i := 1) (v := x77) (pc' := 80) (lv' := [(1, .int x77), (0, .ref q_this)]) hZ dX4_note_77 rfl 1 rfl (by rw [e77]; rfl) (by decide) rfl ?_
      refine x_goto (pc' := 51) hZ dX4_note_80 (by decide) ?_
      refine x_lv [1, 0] (lv' := [(0, .ref q_this), (1, .int x77)]) rfl ?_
      exact ih x77 (upd v_book (ix ((25 * v_acts) + l1)) x76) h hK
set_option maxHeartbeats 4000000 in
set_option maxRecDepth 100000 in
theorem t_X4_note_11 (E : XE) (Z : ZC) (q_this : Nat) (q_text : Nat) (q_ageing : Nat) (q_page : Nat) (q_readAgeing : Nat) (q_readPage : Nat) (q_book : Nat) (q_kept : Nat) (q_isKept : Nat) (q_heardWho : Nat) (q_heardIs : Nat) (q_tried : Nat) (q_chooser : Nat) (q_best : Nat) (q_alives : Nat) (v_thrown : Int32) (v_textSize : Int32) (v_place : Int32) (v_people : Int32) (v_readPeople : Int32) (v_acts : Int32) (v_heard : Int32) (v_seed : Int64) (v_choosers : Int32) (v_sets : Int32) (v_surely : Int32) (v_page : Nat → Int32) {K : Int32 → (Nat → Int32) → Prop} (hZ : XOK E Z RX4 cX4_note 2 { frames := 0, cells := 0, slots := 0, locals := 0 }) : ∀ (k : Nat) (l1 : Int32) (v_book : (Nat → Int32)), wl (fun rec v => b_X4_note_11  K rec v.1 v.2) k (l1, v_book) → (∀ (l1 : Int32) (v_book : (Nat → Int32)), K l1 v_book → XW E Z 0 0 [(q_this, cO 4 [.int v_thrown, .ref q_text, .int v_textSize, .int v_place, .int v_people, .ref q_ageing, .ref q_page, .int v_readPeople, .ref q_readAgeing, .ref q_readPage, .ref q_book, .int v_acts, .ref q_kept, .ref q_isKept, .int v_heard, .ref q_heardWho, .ref q_heardIs, .long v_seed, .ref q_tried, .ref q_chooser, .int v_choosers, .ref q_best, .int v_sets, .int v_surely, .ref q_alives]), (q_page, cA E 25 v_page), (q_book, cA E 350 v_book)] [(0, .ref q_this)] [] 39) → XW E Z 0 0 [(q_this, cO 4 [.int v_thrown, .ref q_text, .int v_textSize, .int v_place, .int v_people, .ref q_ageing, .ref q_page, .int v_readPeople, .ref q_readAgeing, .ref q_readPage, .ref q_book, .int v_acts, .ref q_kept, .ref q_isKept, .int v_heard, .ref q_heardWho, .ref q_heardIs, .long v_seed, .ref q_tried, .ref q_chooser, .int v_choosers, .ref q_best, .int v_sets, .int v_surely, .ref q_alives]), (q_page, cA E 25 v_page), (q_book, cA E 350 v_book)] [(0, .ref q_this), (1, .int l1)] [] 11 := by
  intro k
  induction k with
  | zero =>
    intro l1 v_book h
    exact h.elim
  | succ k ih =>
    intro l1 v_book h hK
    replace h := wl_succ h
    try dsimp only at h
    unfold b_X4_note_11 at h
    refine x_iload_n (pc' := 12) hZ dX4_note_11 rfl 1 rfl ?_
    refine x_sipush (v := 325) (pc' := 15) hZ (by decide) dX4_note_12 rfl ?_
    refine x_icmp_ge (tgt := 39) (pc' := 18) hZ dX4_note_15 (by decide) rfl (fun c15 => ?_) (fun c15 => ?_)
    · replace h := h.1 c15
      refine x_lv [0] (lv' := [(0, .ref q_this)]) rfl ?_
      exact hK l1 v_book h
    · replace h := h.2 c15
      refine x_aload_n (pc' := 19) hZ dX4_note_18 rfl 0 rfl ?_
      refine g_RX4_25 (pc' := 22) hZ dX4_note_19 rfl 0 rfl rfl ?_
      refine x_iload_n (pc' := 23) hZ dX4_note_22 rfl 1 rfl ?_
      refine x_aload_n (pc' := 24) hZ dX4_note_23 rfl 0 rfl ?_
      refine g_RX4_25 (pc' := 27) hZ dX4_note_24 rfl 0 rfl rfl ?_
      refine x_iload_n (pc' := 28) hZ dX4_note_27 rfl 1 rfl ?_
      refine x_bipush (v := 25) (pc' := 30) hZ (by decide) dX4_note_28 rfl ?_
      refine x_iadd (pc' := 31) hZ dX4_note_30 rfl ?_
      obtain ⟨h31, h⟩ := h
      refine x_iald (pc' := 32) hZ h31 dX4_note_31 rfl 2 rfl ?_
      refine x_topi (fun x32 e32 => ?_)
      replace h := h x32 e32
      obtain ⟨h32, h⟩ := h
      refine x_iast (pc' := 33) (ws' := [(q_this, cO 4 [.int v_thrown, .ref q_text, .int v_textSize, .int v_place, .int v_people, .ref q_ageing, .ref q_page, .int v_readPeople, .ref q_readAgeing, .ref q_readPage, .ref q_book, .int v_acts, .ref q_kept, .ref q_isKept, .int v_heard, .ref q_heardWho, .ref q_heardIs, .long v_seed, .ref q_tried, .ref q_chooser, .int v_choosers, .ref q_best, .int v_sets, .int v_surely, .ref q_alives]), (q_page, cA E 25 v_page), (q_book, cA E 350 (upd v_book (ix l1) x32))]) hZ h32 dX4_note_32 rfl 2 rfl rfl ?_
      obtain ⟨x33, e33⟩ : ∃ y : Int32, y = l1 + 1 := ⟨_, rfl⟩
      replace h := h x33 e33
      refine x_iinc (i := 1) (v := x33) (pc' := 36) (lv' := [(1, .int x33), (0, .ref q_this)]) hZ dX4_note_33 rfl 1 rfl (by rw [e33]; rfl) (by decide) rfl ?_
      refine x_goto (pc' := 11) hZ dX4_note_36 (by decide) ?_
      refine x_lv [1, 0] (lv' := [(0, .ref q_this), (1, .int x33)]) rfl ?_
      exact ih x33 (upd v_book (ix l1) x32) h hK
set_option maxHeartbeats 4000000 in
set_option maxRecDepth 100000 in
theorem c_X4_note (E : XE) (q_this : Nat) (q_text : Nat) (q_ageing : Nat) (q_page : Nat) (q_readAgeing : Nat) (q_readPage : Nat) (q_book : Nat) (q_kept : Nat) (q_isKept : Nat) (q_heardWho : Nat) (q_heardIs : Nat) (q_tried : Nat) (q_chooser : Nat) (q_best : Nat) (q_alives : Nat) (v_thrown : Int32) (v_textSize : Int32) (v_place : Int32) (v_people : Int32) (v_readPeople : Int32) (v_acts : Int32) (v_heard : Int32) (v_seed : Int64) (v_choosers : Int32) (v_sets : Int32) (v_surely : Int32) (v_page : Nat → Int32) (v_book : Nat → Int32) (post : Int32 → (Nat → Int32) → Prop) (h : p_X4_note v_acts v_page v_book post) : ConV E yX4_note cX4_note 2 { frames := 0, cells := 0, slots := 0, locals := 0 } 0 0 [.ref q_this] [(q_this, cO 4 [.int v_thrown, .ref q_text, .int v_textSize, .int v_place, .int v_people, .ref q_ageing, .ref q_page, .int v_readPeople, .ref q_readAgeing, .ref q_readPage, .ref q_book, .int v_acts, .ref q_kept, .ref q_isKept, .int v_heard, .ref q_heardWho, .ref q_heardIs, .long v_seed, .ref q_tried, .ref q_chooser, .int v_choosers, .ref q_best, .int v_sets, .int v_surely, .ref q_alives]), (q_page, cA E 25 v_page), (q_book, cA E 350 v_book)] (fun w => ∃ (u_acts : Int32) (u_book : Nat → Int32), w = [(q_this, cO 4 [.int v_thrown, .ref q_text, .int v_textSize, .int v_place, .int v_people, .ref q_ageing, .ref q_page, .int v_readPeople, .ref q_readAgeing, .ref q_readPage, .ref q_book, .int u_acts, .ref q_kept, .ref q_isKept, .int v_heard, .ref q_heardWho, .ref q_heardIs, .long v_seed, .ref q_tried, .ref q_chooser, .int v_choosers, .ref q_best, .int v_sets, .int v_surely, .ref q_alives]), (q_page, cA E 25 v_page), (q_book, cA E 350 u_book)] ∧ post u_acts u_book) := by
  refine ConV.of (by decide +kernel) (Nat.le_of_ble_eq_true rfl) (fun Z hZ hI hRet => ?_)
  replace hZ : XOK E Z RX4 cX4_note 2 { frames := 0, cells := 0, slots := 0, locals := 0 } := hZ
  clear hI
  show XW E Z 0 0 [(q_this, cO 4 [.int v_thrown, .ref q_text, .int v_textSize, .int v_place, .int v_people, .ref q_ageing, .ref q_page, .int v_readPeople, .ref q_readAgeing, .ref q_readPage, .ref q_book, .int v_acts, .ref q_kept, .ref q_isKept, .int v_heard, .ref q_heardWho, .ref q_heardIs, .long v_seed, .ref q_tried, .ref q_chooser, .int v_choosers, .ref q_best, .int v_sets, .int v_surely, .ref q_alives]), (q_page, cA E 25 v_page), (q_book, cA E 350 v_book)] [(0, .ref q_this)] [] 0
  unfold p_X4_note at h
  refine x_aload_n (pc' := 1) hZ dX4_note_0 rfl 0 rfl ?_
  refine g_RX4_87 (pc' := 4) hZ dX4_note_1 rfl 0 rfl rfl ?_
  refine x_bipush (v := 14) (pc' := 6) hZ (by decide) dX4_note_4 rfl ?_
  refine x_icmp_ne (tgt := 49) (pc' := 9) hZ dX4_note_6 (by decide) rfl (fun c6 => ?_) (fun c6 => ?_)
  · replace h := h.1 c6
    refine x_iconst (v := 0) (pc' := 50) hZ (by decide) dX4_note_49 rfl ?_
    refine x_istore_n (i := 1) (pc' := 51) (lv' := [(1, .int 0), (0, .ref q_this)]) hZ dX4_note_50 rfl rfl (by decide) rfl ?_
    refine x_lv [1, 0] (lv' := [(0, .ref q_this), (1, .int 0)]) rfl ?_
    obtain ⟨k51, h⟩ := h
    refine t_X4_note_51 E Z q_this q_text q_ageing q_page q_readAgeing q_readPage q_book q_kept q_isKept q_heardWho q_heardIs q_tried q_chooser q_best q_alives v_thrown v_textSize v_place v_people v_readPeople v_acts v_heard v_seed v_choosers v_sets v_surely v_page hZ  _ 0 v_book h (fun l1_51 v_book_51 h => ?_)
    refine x_aload_n (pc' := 84) hZ dX4_note_83 rfl 0 rfl ?_
    refine x_dup (pc' := 85) hZ dX4_note_84 rfl rfl ?_
    refine g_RX4_87 (pc' := 88) hZ dX4_note_85 rfl 0 rfl rfl ?_
    refine x_iconst (v := 1) (pc' := 89) hZ (by decide) dX4_note_88 rfl ?_
    refine x_iadd (pc' := 90) hZ dX4_note_89 rfl ?_
    refine x_topi (fun x90 e90 => ?_)
    replace h := h x90 e90
    refine s_RX4_87 (pc' := 93) (ws' := [(q_this, cO 4 [.int v_thrown, .ref q_text, .int v_textSize, .int v_place, .int v_people, .ref q_ageing, .ref q_page, .int v_readPeople, .ref q_readAgeing, .ref q_readPage, .ref q_book, .int x90, .ref q_kept, .ref q_isKept, .int v_heard, .ref q_heardWho, .ref q_heardIs, .long v_seed, .ref q_tried, .ref q_chooser, .int v_choosers, .ref q_best, .int v_sets, .int v_surely, .ref q_alives]), (q_page, cA E 25 v_page), (q_book, cA E 350 v_book_51)]) hZ dX4_note_90 rfl 0 rfl (Nat.le_of_ble_eq_true rfl) rfl ?_
    exact hRet _ _ _ dX4_note_93 ⟨_, _, rfl, h⟩
  · replace h := h.2 c6
    refine x_iconst (v := 0) (pc' := 10) hZ (by decide) dX4_note_9 rfl ?_
    refine x_istore_n (i := 1) (pc' := 11) (lv' := [(1, .int 0), (0, .ref q_this)]) hZ dX4_note_10 rfl rfl (by decide) rfl ?_
    refine x_lv [1, 0] (lv' := [(0, .ref q_this), (1, .int 0)]) rfl ?_
    obtain ⟨k11, h⟩ := h
    refine t_X4_note_11 E Z q_this q_text q_ageing q_page q_readAgeing q_readPage q_book q_kept q_isKept q_heardWho q_heardIs q_tried q_chooser q_best q_alives v_thrown v_textSize v_place v_people v_readPeople v_acts v_heard v_seed v_choosers v_sets v_surely v_page hZ  _ 0 v_book h (fun l1_11 v_book_11 h => ?_)
    refine x_aload_n (pc' := 40) hZ dX4_note_39 rfl 0 rfl ?_
    refine x_dup (pc' := 41) hZ dX4_note_40 rfl rfl ?_
    refine g_RX4_87 (pc' := 44) hZ dX4_note_41 rfl 0 rfl rfl ?_
    refine x_iconst (v := 1) (pc' := 45) hZ (by decide) dX4_note_44 rfl ?_
    refine x_isub (pc' := 46) hZ dX4_note_45 rfl ?_
    refine x_topi (fun x46 e46 => ?_)
    replace h := h x46 e46
    refine s_RX4_87 (pc' := 49) (ws' := [(q_this, cO 4 [.int v_thrown, .ref q_text, .int v_textSize, .int v_place, .int v_people, .ref q_ageing, .ref q_page, .int v_readPeople, .ref q_readAgeing, .ref q_readPage, .ref q_book, .int x46, .ref q_kept, .ref q_isKept, .int v_heard, .ref q_heardWho, .ref q_heardIs, .long v_seed, .ref q_tried, .ref q_chooser, .int v_choosers, .ref q_best, .int v_sets, .int v_surely, .ref q_alives]), (q_page, cA E 25 v_page), (q_book, cA E 350 v_book_11)]) hZ dX4_note_46 rfl 0 rfl (Nat.le_of_ble_eq_true rfl) rfl ?_
    refine x_iconst (v := 0) (pc' := 50) hZ (by decide) dX4_note_49 rfl ?_
    refine x_istore_n (i := 1) (pc' := 51) (lv' := [(1, .int 0), (0, .ref q_this)]) hZ dX4_note_50 rfl rfl (by decide) rfl ?_
    refine x_lv [1, 0] (lv' := [(0, .ref q_this), (1, .int 0)]) rfl ?_
    obtain ⟨k51, h⟩ := h
    refine t_X4_note_51 E Z q_this q_text q_ageing q_page q_readAgeing q_readPage q_book q_kept q_isKept q_heardWho q_heardIs q_tried q_chooser q_best q_alives v_thrown v_textSize v_place v_people v_readPeople x46 v_heard v_seed v_choosers v_sets v_surely v_page hZ  _ 0 v_book_11 h (fun l1_51 v_book_51 h => ?_)
    refine x_aload_n (pc' := 84) hZ dX4_note_83 rfl 0 rfl ?_
    refine x_dup (pc' := 85) hZ dX4_note_84 rfl rfl ?_
    refine g_RX4_87 (pc' := 88) hZ dX4_note_85 rfl 0 rfl rfl ?_
    refine x_iconst (v := 1) (pc' := 89) hZ (by decide) dX4_note_88 rfl ?_
    refine x_iadd (pc' := 90) hZ dX4_note_89 rfl ?_
    refine x_topi (fun x90 e90 => ?_)
    replace h := h x90 e90
    refine s_RX4_87 (pc' := 93) (ws' := [(q_this, cO 4 [.int v_thrown, .ref q_text, .int v_textSize, .int v_place, .int v_people, .ref q_ageing, .ref q_page, .int v_readPeople, .ref q_readAgeing, .ref q_readPage, .ref q_book, .int x90, .ref q_kept, .ref q_isKept, .int v_heard, .ref q_heardWho, .ref q_heardIs, .long v_seed, .ref q_tried, .ref q_chooser, .int v_choosers, .ref q_best, .int v_sets, .int v_surely, .ref q_alives]), (q_page, cA E 25 v_page), (q_book, cA E 350 v_book_51)]) hZ dX4_note_90 rfl 0 rfl (Nat.le_of_ble_eq_true rfl) rfl ?_
    exact hRet _ _ _ dX4_note_93 ⟨_, _, rfl, h⟩
set_option maxHeartbeats 4000000 in
set_option maxRecDepth 100000 in
theorem t_X4_goMorning_32 (E : XE) (Z : ZC) (q_this : Nat) (q_text : Nat) (q_ageing : Nat) (q_page : Nat) (q_readAgeing : Nat) (q_readPage : Nat) (q_book : Nat) (q_kept : Nat) (q_isKept : Nat) (q_heardWho : Nat) (q_heardIs : Nat) (q_tried : Nat) (q_chooser : Nat) (q_best : Nat) (q_alives : Nat) (q_a1 : Nat) (v_thrown : Int32) (v_textSize : Int32) (v_place : Int32) (v_people : Int32) (v_readPeople : Int32) (v_acts : Int32) (v_heard : Int32) (v_seed : Int64) (v_choosers : Int32) (v_sets : Int32) (v_surely : Int32) (v_a1 : Nat → Int32) (l2 : Int32) {K : Int32 → Prop} (hZ : XOK E Z RX4 cX4_goMorning 8 { frames := 2, cells := 0, slots := 0, locals := 49 }) : ∀ (k : Nat) (l3 : Int32), wl (fun rec v => b_X4_goMorning_32 l2 K rec v) k (l3) → (∀ (l3 : Int32), K l3 → XW E Z 0 0 [(q_this, cO 4 [.int v_thrown, .ref q_text, .int v_textSize, .int v_place, .int v_people, .ref q_ageing, .ref q_page, .int v_readPeople, .ref q_readAgeing, .ref q_readPage, .ref q_book, .int v_acts, .ref q_kept, .ref q_isKept, .int v_heard, .ref q_heardWho, .ref q_heardIs, .long v_seed, .ref q_tried, .ref q_chooser, .int v_choosers, .ref q_best, .int v_sets, .int v_surely, .ref q_alives]), (q_a1, cA E 25 v_a1)] [(1, .ref q_a1), (3, .int l3)] [] 46) → XW E Z 0 0 [(q_this, cO 4 [.int v_thrown, .ref q_text, .int v_textSize, .int v_place, .int v_people, .ref q_ageing, .ref q_page, .int v_readPeople, .ref q_readAgeing, .ref q_readPage, .ref q_book, .int v_acts, .ref q_kept, .ref q_isKept, .int v_heard, .ref q_heardWho, .ref q_heardIs, .long v_seed, .ref q_tried, .ref q_chooser, .int v_choosers, .ref q_best, .int v_sets, .int v_surely, .ref q_alives]), (q_a1, cA E 25 v_a1)] [(1, .ref q_a1), (2, .int l2), (3, .int l3)] [] 32 := by
  intro k
  induction k with
  | zero =>
    intro l3 h
    exact h.elim
  | succ k ih =>
    intro l3 h hK
    replace h := wl_succ h
    try dsimp only at h
    unfold b_X4_goMorning_32 at h
    refine x_iload_n (pc' := 33) hZ dX4_goMorning_32 rfl 1 rfl ?_
    refine x_iload_n (pc' := 34) hZ dX4_goMorning_33 rfl 2 rfl ?_
    refine k_RX4_90 (pc' := 37) (as := [.int l2, .int l3]) (rest := []) (c' := 0) (n' := 0) (wr := [(q_this, cO 4 [.int v_thrown, .ref q_text, .int v_textSize, .int v_place, .int v_people, .ref q_ageing, .ref q_page, .int v_readPeople, .ref q_readAgeing, .ref q_readPage, .ref q_book, .int v_acts, .ref q_kept, .ref q_isKept, .int v_heard, .ref q_heardWho, .ref q_heardIs, .long v_seed, .ref q_tried, .ref q_chooser, .int v_choosers, .ref q_best, .int v_sets, .int v_surely, .ref q_alives]), (q_a1, cA E 25 v_a1)]) hZ (c_X4_has E l2 l3 _ h) dX4_goMorning_34 rfl rfl rfl rfl rfl (Nat.le_of_ble_eq_true rfl) (Nat.le_of_ble_eq_true rfl) (Nat.le_of_ble_eq_true rfl) rfl rfl (Nat.le_of_ble_eq_true rfl) (Nat.le_of_ble_eq_true rfl) [] [0, 1] rfl rfl (by decide) (by decide) (by decide) (fun r34 w34 hw => ?_)
    obtain ⟨rfl, h⟩ := hw
    refine x_ws (ws' := [(q_this, cO 4 [.int v_thrown, .ref q_text, .int v_textSize, .int v_place, .int v_people, .ref q_ageing, .ref q_page, .int v_readPeople, .ref q_readAgeing, .ref q_readPage, .ref q_book, .int v_acts, .ref q_kept, .ref q_isKept, .int v_heard, .ref q_heardWho, .ref q_heardIs, .long v_seed, .ref q_tried, .ref q_chooser, .int v_choosers, .ref q_best, .int v_sets, .int v_surely, .ref q_alives]), (q_a1, cA E 25 v_a1)]) [0, 1] rfl (by decide) ?_
    refine x_if_ne (tgt := 46) (pc' := 40) hZ dX4_goMorning_37 (by decide) rfl (fun c37 => ?_) (fun c37 => ?_)
    · replace h := h.1 c37
      refine x_lv [0, 2] (lv' := [(1, .ref q_a1), (3, .int l3)]) rfl ?_
      exact hK l3 h
    · replace h := h.2 c37
      obtain ⟨x40, e40⟩ : ∃ y : Int32, y = l3 + 1 := ⟨_, rfl⟩
      replace h := h x40 e40
      refine x_iinc (i := 3) (v := x40) (pc' := 43) (lv' := [(3, .int x40), (1, .ref q_a1), (2, .int l2)]) hZ dX4_goMorning_40 rfl 2 rfl (by rw [e40]; rfl) (by decide) rfl ?_
      refine x_goto (pc' := 32) hZ dX4_goMorning_43 (by decide) ?_
      refine x_lv [1, 2, 0] (lv' := [(1, .ref q_a1), (2, .int l2), (3, .int x40)]) rfl ?_
      exact ih x40 h hK
set_option maxHeartbeats 4000000 in
set_option maxRecDepth 100000 in
theorem t_X4_goMorning_56 (E : XE) (Z : ZC) (q_this : Nat) (q_text : Nat) (q_ageing : Nat) (q_page : Nat) (q_readAgeing : Nat) (q_readPage : Nat) (q_book : Nat) (q_kept : Nat) (q_isKept : Nat) (q_heardWho : Nat) (q_heardIs : Nat) (q_tried : Nat) (q_chooser : Nat) (q_best : Nat) (q_alives : Nat) (q_a1 : Nat) (v_thrown : Int32) (v_textSize : Int32) (v_place : Int32) (v_people : Int32) (v_readPeople : Int32) (v_acts : Int32) (v_heard : Int32) (v_seed : Int64) (v_choosers : Int32) (v_sets : Int32) (v_surely : Int32) (v_a1 : Nat → Int32) (l3 : Int32) {K : Int32 → Int32 → Int32 → Prop} (hZ : XOK E Z RX4 cX4_goMorning 8 { frames := 2, cells := 0, slots := 0, locals := 49 }) : ∀ (k : Nat) (l4 : Int32) (l5 : Int32) (l6 : Int32), wl (fun rec v => b_X4_goMorning_56 l3 v_a1 K rec v.1 v.2.1 v.2.2) k (l4, l5, l6) → (∀ (l4 : Int32) (l5 : Int32) (l6 : Int32), K l4 l5 l6 → XW E Z 0 0 [(q_this, cO 4 [.int v_thrown, .ref q_text, .int v_textSize, .int v_place, .int v_people, .ref q_ageing, .ref q_page, .int v_readPeople, .ref q_readAgeing, .ref q_readPage, .ref q_book, .int v_acts, .ref q_kept, .ref q_isKept, .int v_heard, .ref q_heardWho, .ref q_heardIs, .long v_seed, .ref q_tried, .ref q_chooser, .int v_choosers, .ref q_best, .int v_sets, .int v_surely, .ref q_alives]), (q_a1, cA E 25 v_a1)] [(1, .ref q_a1), (4, .int l4)] [] 119) → XW E Z 0 0 [(q_this, cO 4 [.int v_thrown, .ref q_text, .int v_textSize, .int v_place, .int v_people, .ref q_ageing, .ref q_page, .int v_readPeople, .ref q_readAgeing, .ref q_readPage, .ref q_book, .int v_acts, .ref q_kept, .ref q_isKept, .int v_heard, .ref q_heardWho, .ref q_heardIs, .long v_seed, .ref q_tried, .ref q_chooser, .int v_choosers, .ref q_best, .int v_sets, .int v_surely, .ref q_alives]), (q_a1, cA E 25 v_a1)] [(1, .ref q_a1), (3, .int l3), (4, .int l4), (5, .int l5), (6, .int l6)] [] 56 := by
  intro k
  induction k with
  | zero =>
    intro l4 l5 l6 h
    exact h.elim
  | succ k ih =>
    intro l4 l5 l6 h hK
    replace h := wl_succ h
    try dsimp only at h
    unfold b_X4_goMorning_56 at h
    refine x_iload (pc' := 58) hZ dX4_goMorning_56 rfl 4 rfl ?_
    refine x_iconst (v := 3) (pc' := 59) hZ (by decide) dX4_goMorning_58 rfl ?_
    refine x_icmp_ge (tgt := 119) (pc' := 62) hZ dX4_goMorning_59 (by decide) rfl (fun c59 => ?_) (fun c59 => ?_)
    · replace h := h.1 c59
      refine x_lv [0, 2] (lv' := [(1, .ref q_a1), (4, .int l4)]) rfl ?_
      exact hK l4 l5 l6 h
    · replace h := h.2 c59
      refine x_aload_n (pc' := 63) hZ dX4_goMorning_62 rfl 0 rfl ?_
      refine x_iconst (v := 3) (pc' := 64) hZ (by decide) dX4_goMorning_63 rfl ?_
      refine x_iconst (v := 3) (pc' := 65) hZ (by decide) dX4_goMorning_64 rfl ?_
      refine x_iload_n (pc' := 66) hZ dX4_goMorning_65 rfl 1 rfl ?_
      refine x_imul (pc' := 67) hZ dX4_goMorning_66 rfl ?_
      refine x_iadd (pc' := 68) hZ dX4_goMorning_67 rfl ?_
      refine x_iload (pc' := 70) hZ dX4_goMorning_68 rfl 4 rfl ?_
      refine x_iadd (pc' := 71) hZ dX4_goMorning_70 rfl ?_
      obtain ⟨h71, h⟩ := h
      refine x_iald (pc' := 72) hZ h71 dX4_goMorning_71 rfl 1 rfl ?_
      refine x_aload_n (pc' := 73) hZ dX4_goMorning_72 rfl 0 rfl ?_
      refine x_iconst (v := 3) (pc' := 74) hZ (by decide) dX4_goMorning_73 rfl ?_
      refine x_iload (pc' := 76) hZ dX4_goMorning_74 rfl 4 rfl ?_
      refine x_iadd (pc' := 77) hZ dX4_goMorning_76 rfl ?_
      obtain ⟨h77, h⟩ := h
      refine x_iald (pc' := 78) hZ h77 dX4_goMorning_77 rfl 1 rfl ?_
      refine x_isub (pc' := 79) hZ dX4_goMorning_78 rfl ?_
      refine x_topi (fun x79 e79 => ?_)
      replace h := h x79 e79
      refine x_istore (i := 7) (pc' := 81) (lv' := [(7, .int x79), (1, .ref q_a1), (3, .int l3), (4, .int l4), (5, .int l5), (6, .int l6)]) hZ dX4_goMorning_79 rfl (by decide) rfl ?_
      refine x_iload (pc' := 83) hZ dX4_goMorning_81 rfl 0 rfl ?_
      refine x_iload (pc' := 85) hZ dX4_goMorning_83 rfl 4 rfl ?_
      refine x_icmp_le (tgt := 93) (pc' := 88) hZ dX4_goMorning_85 (by decide) rfl (fun c85 => ?_) (fun c85 => ?_)
      · replace h := h.1 c85
        refine x_iload (pc' := 95) hZ dX4_goMorning_93 rfl 3 rfl ?_
        refine x_istore (i := 4) (pc' := 97) (lv' := [(4, .int l4), (7, .int x79), (1, .ref q_a1), (3, .int l3), (5, .int l5), (6, .int l6)]) hZ dX4_goMorning_95 rfl (by decide) rfl ?_
        refine x_iload (pc' := 99) hZ dX4_goMorning_97 rfl 1 rfl ?_
        refine x_iload (pc' := 101) hZ dX4_goMorning_99 rfl 4 rfl ?_
        refine x_icmp_le (tgt := 109) (pc' := 104) hZ dX4_goMorning_101 (by decide) rfl (fun c101 => ?_) (fun c101 => ?_)
        · replace h := h.1 c101
          refine x_iload (pc' := 111) hZ dX4_goMorning_109 rfl 4 rfl ?_
          refine x_istore (i := 5) (pc' := 113) (lv' := [(5, .int l5), (4, .int l4), (7, .int x79), (1, .ref q_a1), (3, .int l3), (6, .int l6)]) hZ dX4_goMorning_111 rfl (by decide) rfl ?_
          obtain ⟨x113, e113⟩ : ∃ y : Int32, y = l6 + 1 := ⟨_, rfl⟩
          replace h := h x113 e113
          refine x_iinc (i := 6) (v := x113) (pc' := 116) (lv' := [(6, .int x113), (5, .int l5), (4, .int l4), (7, .int x79), (1, .ref q_a1), (3, .int l3)]) hZ dX4_goMorning_113 rfl 5 rfl (by rw [e113]; rfl) (by decide) rfl ?_
          refine x_goto (pc' := 56) hZ dX4_goMorning_116 (by decide) ?_
          refine x_lv [4, 5, 2, 1, 0] (lv' := [(1, .ref q_a1), (3, .int l3), (4, .int l4), (5, .int l5), (6, .int x113)]) rfl ?_
          exact ih l4 l5 x113 h hK
        · replace h := h.2 c101
          refine x_iload (pc' := 106) hZ dX4_goMorning_104 rfl 1 rfl ?_
          refine x_goto (pc' := 111) hZ dX4_goMorning_106 (by decide) ?_
          refine x_istore (i := 5) (pc' := 113) (lv' := [(5, .int x79), (4, .int l4), (7, .int x79), (1, .ref q_a1), (3, .int l3), (6, .int l6)]) hZ dX4_goMorning_111 rfl (by decide) rfl ?_
          obtain ⟨x113, e113⟩ : ∃ y : Int32, y = l6 + 1 := ⟨_, rfl⟩
          replace h := h x113 e113
          refine x_iinc (i := 6) (v := x113) (pc' := 116) (lv' := [(6, .int x113), (5, .int x79), (4, .int l4), (7, .int x79), (1, .ref q_a1), (3, .int l3)]) hZ dX4_goMorning_113 rfl 5 rfl (by rw [e113]; rfl) (by decide) rfl ?_
          refine x_goto (pc' := 56) hZ dX4_goMorning_116 (by decide) ?_
          refine x_lv [4, 5, 2, 1, 0] (lv' := [(1, .ref q_a1), (3, .int l3), (4, .int l4), (5, .int x79), (6, .int x113)]) rfl ?_
          exact ih l4 x79 x113 h hK
      · replace h := h.2 c85
        refine x_iload (pc' := 90) hZ dX4_goMorning_88 rfl 5 rfl ?_
        refine x_goto (pc' := 95) hZ dX4_goMorning_90 (by decide) ?_
        refine x_istore (i := 4) (pc' := 97) (lv' := [(4, .int l6), (7, .int x79), (1, .ref q_a1), (3, .int l3), (5, .int l5), (6, .int l6)]) hZ dX4_goMorning_95 rfl (by decide) rfl ?_
        refine x_iload (pc' := 99) hZ dX4_goMorning_97 rfl 1 rfl ?_
        refine x_iload (pc' := 101) hZ dX4_goMorning_99 rfl 4 rfl ?_
        refine x_icmp_le (tgt := 109) (pc' := 104) hZ dX4_goMorning_101 (by decide) rfl (fun c101 => ?_) (fun c101 => ?_)
        · replace h := h.1 c101
          refine x_iload (pc' := 111) hZ dX4_goMorning_109 rfl 4 rfl ?_
          refine x_istore (i := 5) (pc' := 113) (lv' := [(5, .int l5), (4, .int l6), (7, .int x79), (1, .ref q_a1), (3, .int l3), (6, .int l6)]) hZ dX4_goMorning_111 rfl (by decide) rfl ?_
          obtain ⟨x113, e113⟩ : ∃ y : Int32, y = l6 + 1 := ⟨_, rfl⟩
          replace h := h x113 e113
          refine x_iinc (i := 6) (v := x113) (pc' := 116) (lv' := [(6, .int x113), (5, .int l5), (4, .int l6), (7, .int x79), (1, .ref q_a1), (3, .int l3)]) hZ dX4_goMorning_113 rfl 5 rfl (by rw [e113]; rfl) (by decide) rfl ?_
          refine x_goto (pc' := 56) hZ dX4_goMorning_116 (by decide) ?_
          refine x_lv [4, 5, 2, 1, 0] (lv' := [(1, .ref q_a1), (3, .int l3), (4, .int l6), (5, .int l5), (6, .int x113)]) rfl ?_
          exact ih l6 l5 x113 h hK
        · replace h := h.2 c101
          refine x_iload (pc' := 106) hZ dX4_goMorning_104 rfl 1 rfl ?_
          refine x_goto (pc' := 111) hZ dX4_goMorning_106 (by decide) ?_
          refine x_istore (i := 5) (pc' := 113) (lv' := [(5, .int x79), (4, .int l6), (7, .int x79), (1, .ref q_a1), (3, .int l3), (6, .int l6)]) hZ dX4_goMorning_111 rfl (by decide) rfl ?_
          obtain ⟨x113, e113⟩ : ∃ y : Int32, y = l6 + 1 := ⟨_, rfl⟩
          replace h := h x113 e113
          refine x_iinc (i := 6) (v := x113) (pc' := 116) (lv' := [(6, .int x113), (5, .int x79), (4, .int l6), (7, .int x79), (1, .ref q_a1), (3, .int l3)]) hZ dX4_goMorning_113 rfl 5 rfl (by rw [e113]; rfl) (by decide) rfl ?_
          refine x_goto (pc' := 56) hZ dX4_goMorning_116 (by decide) ?_
          refine x_lv [4, 5, 2, 1, 0] (lv' := [(1, .ref q_a1), (3, .int l3), (4, .int l6), (5, .int x79), (6, .int x113)]) rfl ?_
          exact ih l6 x79 x113 h hK
set_option maxHeartbeats 4000000 in
set_option maxRecDepth 100000 in
theorem c_X4_goMorning (E : XE) (q_this : Nat) (q_text : Nat) (q_ageing : Nat) (q_page : Nat) (q_readAgeing : Nat) (q_readPage : Nat) (q_book : Nat) (q_kept : Nat) (q_isKept : Nat) (q_heardWho : Nat) (q_heardIs : Nat) (q_tried : Nat) (q_chooser : Nat) (q_best : Nat) (q_alives : Nat) (q_a1 : Nat) (v_thrown : Int32) (v_textSize : Int32) (v_place : Int32) (v_people : Int32) (v_readPeople : Int32) (v_acts : Int32) (v_heard : Int32) (v_seed : Int64) (v_choosers : Int32) (v_sets : Int32) (v_surely : Int32) (v_a1 : Nat → Int32) (post : (Nat → Int32) → Prop) (h : p_X4_goMorning v_people v_a1 post) : ConV E yX4_goMorning cX4_goMorning 8 { frames := 2, cells := 0, slots := 0, locals := 49 } 0 0 [.ref q_this, .ref q_a1] [(q_this, cO 4 [.int v_thrown, .ref q_text, .int v_textSize, .int v_place, .int v_people, .ref q_ageing, .ref q_page, .int v_readPeople, .ref q_readAgeing, .ref q_readPage, .ref q_book, .int v_acts, .ref q_kept, .ref q_isKept, .int v_heard, .ref q_heardWho, .ref q_heardIs, .long v_seed, .ref q_tried, .ref q_chooser, .int v_choosers, .ref q_best, .int v_sets, .int v_surely, .ref q_alives]), (q_a1, cA E 25 v_a1)] (fun w => ∃ (u_a1 : Nat → Int32), w = [(q_this, cO 4 [.int v_thrown, .ref q_text, .int v_textSize, .int v_place, .int v_people, .ref q_ageing, .ref q_page, .int v_readPeople, .ref q_readAgeing, .ref q_readPage, .ref q_book, .int v_acts, .ref q_kept, .ref q_isKept, .int v_heard, .ref q_heardWho, .ref q_heardIs, .long v_seed, .ref q_tried, .ref q_chooser, .int v_choosers, .ref q_best, .int v_sets, .int v_surely, .ref q_alives]), (q_a1, cA E 25 u_a1)] ∧ post u_a1) := by
  refine ConV.of (by decide +kernel) (Nat.le_of_ble_eq_true rfl) (fun Z hZ hI hRet => ?_)
  replace hZ : XOK E Z RX4 cX4_goMorning 8 { frames := 2, cells := 0, slots := 0, locals := 49 } := hZ
  clear hI
  show XW E Z 0 0 [(q_this, cO 4 [.int v_thrown, .ref q_text, .int v_textSize, .int v_place, .int v_people, .ref q_ageing, .ref q_page, .int v_readPeople, .ref q_readAgeing, .ref q_readPage, .ref q_book, .int v_acts, .ref q_kept, .ref q_isKept, .int v_heard, .ref q_heardWho, .ref q_heardIs, .long v_seed, .ref q_tried, .ref q_chooser, .int v_choosers, .ref q_best, .int v_sets, .int v_surely, .ref q_alives]), (q_a1, cA E 25 v_a1)] [(0, .ref q_this), (1, .ref q_a1)] [] 0
  unfold p_X4_goMorning at h
  refine x_aload_n (pc' := 1) hZ dX4_goMorning_0 rfl 1 rfl ?_
  refine x_bipush (v := 23) (pc' := 3) hZ (by decide) dX4_goMorning_1 rfl ?_
  refine x_dup2 (pc' := 4) hZ dX4_goMorning_3 rfl rfl rfl ?_
  have h4 : vp_in 23 25 := by unfold vp_in; decide
  refine x_iald (pc' := 5) hZ h4 dX4_goMorning_4 rfl 1 rfl ?_
  refine x_iconst (v := 1) (pc' := 6) hZ (by decide) dX4_goMorning_5 rfl ?_
  refine x_iadd (pc' := 7) hZ dX4_goMorning_6 rfl ?_
  refine x_topi (fun x7 e7 => ?_)
  replace h := h x7 e7
  have h7 : vp_in 23 25 := by unfold vp_in; decide
  refine x_iast (pc' := 8) (ws' := [(q_this, cO 4 [.int v_thrown, .ref q_text, .int v_textSize, .int v_place, .int v_people, .ref q_ageing, .ref q_page, .int v_readPeople, .ref q_readAgeing, .ref q_readPage, .ref q_book, .int v_acts, .ref q_kept, .ref q_isKept, .int v_heard, .ref q_heardWho, .ref q_heardIs, .long v_seed, .ref q_tried, .ref q_chooser, .int v_choosers, .ref q_best, .int v_sets, .int v_surely, .ref q_alives]), (q_a1, cA E 25 (upd v_a1 (ix 23) x7))]) hZ h7 dX4_goMorning_7 rfl 1 rfl rfl ?_
  refine x_aload_n (pc' := 9) hZ dX4_goMorning_8 rfl 0 rfl ?_
  refine x_aload_n (pc' := 10) hZ dX4_goMorning_9 rfl 1 rfl ?_
  refine x_aload_n (pc' := 11) hZ dX4_goMorning_10 rfl 1 rfl ?_
  refine x_bipush (v := 21) (pc' := 13) hZ (by decide) dX4_goMorning_11 rfl ?_
  have h13 : vp_in 21 25 := by unfold vp_in; decide
  refine x_iald (pc' := 14) hZ h13 dX4_goMorning_13 rfl 1 rfl ?_
  refine x_bipush (v := (-2)) (pc' := 16) hZ (by decide) dX4_goMorning_14 rfl ?_
  refine x_iand (pc' := 17) hZ dX4_goMorning_16 rfl ?_
  refine x_aload_n (pc' := 18) hZ dX4_goMorning_17 rfl 1 rfl ?_
  refine k_RX4_98 (pc' := 21) (as := [.ref q_a1]) (rest := [.int (((upd v_a1 (ix 23) x7) (ix 21)) &&& (-2)), .ref q_a1, .ref q_this]) (c' := 0) (n' := 0) (wr := [(q_this, cO 4 [.int v_thrown, .ref q_text, .int v_textSize, .int v_place, .int v_people, .ref q_ageing, .ref q_page, .int v_readPeople, .ref q_readAgeing, .ref q_readPage, .ref q_book, .int v_acts, .ref q_kept, .ref q_isKept, .int v_heard, .ref q_heardWho, .ref q_heardIs, .long v_seed, .ref q_tried, .ref q_chooser, .int v_choosers, .ref q_best, .int v_sets, .int v_surely, .ref q_alives])]) hZ (c_X4_weightsOf E q_a1 (upd v_a1 (ix 23) x7) _ h) dX4_goMorning_18 rfl rfl rfl rfl rfl (Nat.le_of_ble_eq_true rfl) (Nat.le_of_ble_eq_true rfl) (Nat.le_of_ble_eq_true rfl) rfl rfl (Nat.le_of_ble_eq_true rfl) (Nat.le_of_ble_eq_true rfl) [1] [0] rfl rfl (by decide) (by decide) (by decide) (fun r18 w18 hw => ?_)
  obtain ⟨rfl, h⟩ := hw
  refine x_ws (ws' := [(q_this, cO 4 [.int v_thrown, .ref q_text, .int v_textSize, .int v_place, .int v_people, .ref q_ageing, .ref q_page, .int v_readPeople, .ref q_readAgeing, .ref q_readPage, .ref q_book, .int v_acts, .ref q_kept, .ref q_isKept, .int v_heard, .ref q_heardWho, .ref q_heardIs, .long v_seed, .ref q_tried, .ref q_chooser, .int v_choosers, .ref q_best, .int v_sets, .int v_surely, .ref q_alives]), (q_a1, cA E 25 (upd v_a1 (ix 23) x7))]) [0, 1] rfl (by decide) ?_
  refine k_RX4_102 (pc' := 24) (q0 := 0) (as := [.ref q_a1, .int (((upd v_a1 (ix 23) x7) (ix 21)) &&& (-2)), .int r18]) (rest := []) (c' := 0) (n' := 0) (wr := []) hZ (c_X4_fairestOf E q_this q_text q_ageing q_page q_readAgeing q_readPage q_book q_kept q_isKept q_heardWho q_heardIs q_tried q_chooser q_best q_alives q_a1 v_thrown v_textSize v_place v_people v_readPeople v_acts v_heard v_seed v_choosers v_sets v_surely (upd v_a1 (ix 23) x7) (((upd v_a1 (ix 23) x7) (ix 21)) &&& (-2)) r18 _ h) rfl dX4_goMorning_21 rfl rfl rfl rfl rfl (Nat.le_of_ble_eq_true rfl) (Nat.le_of_ble_eq_true rfl) (Nat.le_of_ble_eq_true rfl) rfl rfl (Nat.le_of_ble_eq_true rfl) (Nat.le_of_ble_eq_true rfl) [0, 1] [] rfl rfl (by decide) (by decide) (by decide) (fun r21 w21 hw => ?_)
  obtain ⟨rfl, h⟩ := hw
  refine x_ws (ws' := [(q_this, cO 4 [.int v_thrown, .ref q_text, .int v_textSize, .int v_place, .int v_people, .ref q_ageing, .ref q_page, .int v_readPeople, .ref q_readAgeing, .ref q_readPage, .ref q_book, .int v_acts, .ref q_kept, .ref q_isKept, .int v_heard, .ref q_heardWho, .ref q_heardIs, .long v_seed, .ref q_tried, .ref q_chooser, .int v_choosers, .ref q_best, .int v_sets, .int v_surely, .ref q_alives]), (q_a1, cA E 25 (upd v_a1 (ix 23) x7))]) [0, 1] rfl (by decide) ?_
  refine x_istore_n (i := 2) (pc' := 25) (lv' := [(2, .int r21), (0, .ref q_this), (1, .ref q_a1)]) hZ dX4_goMorning_24 rfl rfl (by decide) rfl ?_
  refine x_iload_n (pc' := 26) hZ dX4_goMorning_25 rfl 0 rfl ?_
  refine x_if_ne (tgt := 30) (pc' := 29) hZ dX4_goMorning_26 (by decide) rfl (fun c26 => ?_) (fun c26 => ?_)
  · replace h := h.1 c26
    refine x_iconst (v := 1) (pc' := 31) hZ (by decide) dX4_goMorning_30 rfl ?_
    refine x_istore_n (i := 3) (pc' := 32) (lv' := [(3, .int 1), (2, .int r21), (0, .ref q_this), (1, .ref q_a1)]) hZ dX4_goMorning_31 rfl rfl (by decide) rfl ?_
    refine x_lv [3, 1, 0] (lv' := [(1, .ref q_a1), (2, .int r21), (3, .int 1)]) rfl ?_
    obtain ⟨k32, h⟩ := h
    refine t_X4_goMorning_32 E Z q_this q_text q_ageing q_page q_readAgeing q_readPage q_book q_kept q_isKept q_heardWho q_heardIs q_tried q_chooser q_best q_alives q_a1 v_thrown v_textSize v_place v_people v_readPeople v_acts v_heard v_seed v_choosers v_sets v_surely (upd v_a1 (ix 23) x7) r21 hZ  _ 1 h (fun l3_32 h => ?_)
    refine x_bipush (v := (-9)) (pc' := 48) hZ (by decide) dX4_goMorning_46 rfl ?_
    refine x_istore (i := 4) (pc' := 50) (lv' := [(4, .int (-9)), (1, .ref q_a1), (3, .int l3_32)]) hZ dX4_goMorning_48 rfl (by decide) rfl ?_
    refine x_iconst (v := 0) (pc' := 51) hZ (by decide) dX4_goMorning_50 rfl ?_
    refine x_istore (i := 5) (pc' := 53) (lv' := [(5, .int 0), (4, .int (-9)), (1, .ref q_a1), (3, .int l3_32)]) hZ dX4_goMorning_51 rfl (by decide) rfl ?_
    refine x_iconst (v := 0) (pc' := 54) hZ (by decide) dX4_goMorning_53 rfl ?_
    refine x_istore (i := 6) (pc' := 56) (lv' := [(6, .int 0), (5, .int 0), (4, .int (-9)), (1, .ref q_a1), (3, .int l3_32)]) hZ dX4_goMorning_54 rfl (by decide) rfl ?_
    refine x_lv [3, 4, 2, 1, 0] (lv' := [(1, .ref q_a1), (3, .int l3_32), (4, .int (-9)), (5, .int 0), (6, .int 0)]) rfl ?_
    obtain ⟨k56, h⟩ := h
    refine t_X4_goMorning_56 E Z q_this q_text q_ageing q_page q_readAgeing q_readPage q_book q_kept q_isKept q_heardWho q_heardIs q_tried q_chooser q_best q_alives q_a1 v_thrown v_textSize v_place v_people v_readPeople v_acts v_heard v_seed v_choosers v_sets v_surely (upd v_a1 (ix 23) x7) l3_32 hZ  _ (-9) 0 0 h (fun l4_56 l5_56 l6_56 h => ?_)
    refine x_iload (pc' := 121) hZ dX4_goMorning_119 rfl 1 rfl ?_
    refine x_bipush (v := (-9)) (pc' := 123) hZ (by decide) dX4_goMorning_121 rfl ?_
    refine x_icmp_eq (tgt := 156) (pc' := 126) hZ dX4_goMorning_123 (by decide) rfl (fun c123 => ?_) (fun c123 => ?_)
    · replace h := h.1 c123
      exact hRet _ _ _ dX4_goMorning_156 ⟨_, rfl, h⟩
    · replace h := h.2 c123
      refine x_aload_n (pc' := 127) hZ dX4_goMorning_126 rfl 0 rfl ?_
      refine x_iload (pc' := 129) hZ dX4_goMorning_127 rfl 1 rfl ?_
      obtain ⟨h129, h⟩ := h
      refine x_iald (pc' := 130) hZ h129 dX4_goMorning_129 rfl 1 rfl ?_
      refine x_if_le (tgt := 156) (pc' := 133) hZ dX4_goMorning_130 (by decide) rfl (fun c130 => ?_) (fun c130 => ?_)
      · replace h := h.1 c130
        exact hRet _ _ _ dX4_goMorning_156 ⟨_, rfl, h⟩
      · replace h := h.2 c130
        refine x_aload_n (pc' := 134) hZ dX4_goMorning_133 rfl 0 rfl ?_
        refine x_iconst (v := 0) (pc' := 135) hZ (by decide) dX4_goMorning_134 rfl ?_
        have h135 : vp_in 0 25 := by unfold vp_in; decide
        refine x_iald (pc' := 136) hZ h135 dX4_goMorning_135 rfl 1 rfl ?_
        refine x_aload_n (pc' := 137) hZ dX4_goMorning_136 rfl 0 rfl ?_
        refine x_iconst (v := 1) (pc' := 138) hZ (by decide) dX4_goMorning_137 rfl ?_
        have h138 : vp_in 1 25 := by unfold vp_in; decide
        refine x_iald (pc' := 139) hZ h138 dX4_goMorning_138 rfl 1 rfl ?_
        refine x_iadd (pc' := 140) hZ dX4_goMorning_139 rfl ?_
        refine x_aload_n (pc' := 141) hZ dX4_goMorning_140 rfl 0 rfl ?_
        refine x_iconst (v := 2) (pc' := 142) hZ (by decide) dX4_goMorning_141 rfl ?_
        have h142 : vp_in 2 25 := by unfold vp_in; decide
        refine x_iald (pc' := 143) hZ h142 dX4_goMorning_142 rfl 1 rfl ?_
        refine x_iadd (pc' := 144) hZ dX4_goMorning_143 rfl ?_
        refine x_iconst (v := 1) (pc' := 145) hZ (by decide) dX4_goMorning_144 rfl ?_
        refine x_icmp_le (tgt := 156) (pc' := 148) hZ dX4_goMorning_145 (by decide) rfl (fun c145 => ?_) (fun c145 => ?_)
        · replace h := h.1 c145
          exact hRet _ _ _ dX4_goMorning_156 ⟨_, rfl, h⟩
        · replace h := h.2 c145
          refine x_aload_n (pc' := 149) hZ dX4_goMorning_148 rfl 0 rfl ?_
          refine x_iload (pc' := 151) hZ dX4_goMorning_149 rfl 1 rfl ?_
          refine x_dup2 (pc' := 152) hZ dX4_goMorning_151 rfl rfl rfl ?_
          obtain ⟨h152, h⟩ := h
          refine x_iald (pc' := 153) hZ h152 dX4_goMorning_152 rfl 1 rfl ?_
          refine x_iconst (v := 1) (pc' := 154) hZ (by decide) dX4_goMorning_153 rfl ?_
          refine x_isub (pc' := 155) hZ dX4_goMorning_154 rfl ?_
          refine x_topi (fun x155 e155 => ?_)
          replace h := h x155 e155
          obtain ⟨h155, h⟩ := h
          refine x_iast (pc' := 156) (ws' := [(q_this, cO 4 [.int v_thrown, .ref q_text, .int v_textSize, .int v_place, .int v_people, .ref q_ageing, .ref q_page, .int v_readPeople, .ref q_readAgeing, .ref q_readPage, .ref q_book, .int v_acts, .ref q_kept, .ref q_isKept, .int v_heard, .ref q_heardWho, .ref q_heardIs, .long v_seed, .ref q_tried, .ref q_chooser, .int v_choosers, .ref q_best, .int v_sets, .int v_surely, .ref q_alives]), (q_a1, cA E 25 (upd (upd v_a1 (ix 23) x7) (ix l4_56) x155))]) hZ h155 dX4_goMorning_155 rfl 1 rfl rfl ?_
          exact hRet _ _ _ dX4_goMorning_156 ⟨_, rfl, h⟩
  · replace h := h.2 c26
    exact hRet _ _ _ dX4_goMorning_29 ⟨_, rfl, h⟩
set_option maxHeartbeats 4000000 in
set_option maxRecDepth 100000 in
theorem c_X4_morning (E : XE) (q_this : Nat) (q_text : Nat) (q_ageing : Nat) (q_page : Nat) (q_readAgeing : Nat) (q_readPage : Nat) (q_book : Nat) (q_kept : Nat) (q_isKept : Nat) (q_heardWho : Nat) (q_heardIs : Nat) (q_tried : Nat) (q_chooser : Nat) (q_best : Nat) (q_alives : Nat) (v_thrown : Int32) (v_textSize : Int32) (v_place : Int32) (v_people : Int32) (v_readPeople : Int32) (v_acts : Int32) (v_heard : Int32) (v_seed : Int64) (v_choosers : Int32) (v_sets : Int32) (v_surely : Int32) (v_page : Nat → Int32) (v_book : Nat → Int32) (post : Int32 → Int32 → Int32 → (Nat → Int32) → (Nat → Int32) → Prop) (h : p_X4_morning v_thrown v_people v_acts v_page v_book post) : ConI E yX4_morning cX4_morning 2 .int { frames := 3, cells := 0, slots := 0, locals := 76 } 0 0 [.ref q_this] [(q_this, cO 4 [.int v_thrown, .ref q_text, .int v_textSize, .int v_place, .int v_people, .ref q_ageing, .ref q_page, .int v_readPeople, .ref q_readAgeing, .ref q_readPage, .ref q_book, .int v_acts, .ref q_kept, .ref q_isKept, .int v_heard, .ref q_heardWho, .ref q_heardIs, .long v_seed, .ref q_tried, .ref q_chooser, .int v_choosers, .ref q_best, .int v_sets, .int v_surely, .ref q_alives]), (q_page, cA E 25 v_page), (q_book, cA E 350 v_book)] (fun r w => ∃ (u_thrown : Int32) (u_acts : Int32) (u_page : Nat → Int32) (u_book : Nat → Int32), w = [(q_this, cO 4 [.int u_thrown, .ref q_text, .int v_textSize, .int v_place, .int v_people, .ref q_ageing, .ref q_page, .int v_readPeople, .ref q_readAgeing, .ref q_readPage, .ref q_book, .int u_acts, .ref q_kept, .ref q_isKept, .int v_heard, .ref q_heardWho, .ref q_heardIs, .long v_seed, .ref q_tried, .ref q_chooser, .int v_choosers, .ref q_best, .int v_sets, .int v_surely, .ref q_alives]), (q_page, cA E 25 u_page), (q_book, cA E 350 u_book)] ∧ post r u_thrown u_acts u_page u_book) := by
  refine ConI.of (by decide +kernel) (Nat.le_of_ble_eq_true rfl) (fun Z hZ hI hRet => ?_)
  replace hZ : XOK E Z RX4 cX4_morning 2 { frames := 3, cells := 0, slots := 0, locals := 76 } := hZ
  clear hI
  show XW E Z 0 0 [(q_this, cO 4 [.int v_thrown, .ref q_text, .int v_textSize, .int v_place, .int v_people, .ref q_ageing, .ref q_page, .int v_readPeople, .ref q_readAgeing, .ref q_readPage, .ref q_book, .int v_acts, .ref q_kept, .ref q_isKept, .int v_heard, .ref q_heardWho, .ref q_heardIs, .long v_seed, .ref q_tried, .ref q_chooser, .int v_choosers, .ref q_best, .int v_sets, .int v_surely, .ref q_alives]), (q_page, cA E 25 v_page), (q_book, cA E 350 v_book)] [(0, .ref q_this)] [] 0
  unfold p_X4_morning at h
  refine x_aload_n (pc' := 1) hZ dX4_morning_0 rfl 0 rfl ?_
  refine x_iconst (v := 0) (pc' := 2) hZ (by decide) dX4_morning_1 rfl ?_
  refine s_RX4_53 (pc' := 5) (ws' := [(q_this, cO 4 [.int 0, .ref q_text, .int v_textSize, .int v_place, .int v_people, .ref q_ageing, .ref q_page, .int v_readPeople, .ref q_readAgeing, .ref q_readPage, .ref q_book, .int v_acts, .ref q_kept, .ref q_isKept, .int v_heard, .ref q_heardWho, .ref q_heardIs, .long v_seed, .ref q_tried, .ref q_chooser, .int v_choosers, .ref q_best, .int v_sets, .int v_surely, .ref q_alives]), (q_page, cA E 25 v_page), (q_book, cA E 350 v_book)]) hZ dX4_morning_2 rfl 0 rfl (Nat.le_of_ble_eq_true rfl) rfl ?_
  refine x_aload_n (pc' := 6) hZ dX4_morning_5 rfl 0 rfl ?_
  refine g_RX4_57 (pc' := 9) hZ dX4_morning_6 rfl 0 rfl rfl ?_
  refine x_if_ne (tgt := 15) (pc' := 12) hZ dX4_morning_9 (by decide) rfl (fun c9 => ?_) (fun c9 => ?_)
  · replace h := h.1 c9
    refine x_aload_n (pc' := 16) hZ dX4_morning_15 rfl 0 rfl ?_
    refine k_RX4_115 (pc' := 19) (q0 := 0) (as := []) (rest := []) (c' := 0) (n' := 0) (wr := []) hZ (c_X4_note E q_this q_text q_ageing q_page q_readAgeing q_readPage q_book q_kept q_isKept q_heardWho q_heardIs q_tried q_chooser q_best q_alives 0 v_textSize v_place v_people v_readPeople v_acts v_heard v_seed v_choosers v_sets v_surely v_page v_book _ h) rfl dX4_morning_16 rfl rfl rfl rfl rfl (Nat.le_of_ble_eq_true rfl) (Nat.le_of_ble_eq_true rfl) (Nat.le_of_ble_eq_true rfl) rfl rfl (Nat.le_of_ble_eq_true rfl) (Nat.le_of_ble_eq_true rfl) [0, 1, 2] [] rfl rfl (by decide) (by decide) (by decide) (fun w16 hw => ?_)
    obtain ⟨a16_0, a16_1, rfl, h⟩ := hw
    refine x_ws (ws' := [(q_this, cO 4 [.int 0, .ref q_text, .int v_textSize, .int v_place, .int v_people, .ref q_ageing, .ref q_page, .int v_readPeople, .ref q_readAgeing, .ref q_readPage, .ref q_book, .int a16_0, .ref q_kept, .ref q_isKept, .int v_heard, .ref q_heardWho, .ref q_heardIs, .long v_seed, .ref q_tried, .ref q_chooser, .int v_choosers, .ref q_best, .int v_sets, .int v_surely, .ref q_alives]), (q_page, cA E 25 v_page), (q_book, cA E 350 a16_1)]) [0, 1, 2] rfl (by decide) ?_
    refine x_aload_n (pc' := 20) hZ dX4_morning_19 rfl 0 rfl ?_
    refine k_RX4_105 (pc' := 23) (q0 := 0) (as := []) (rest := []) (c' := 0) (n' := 0) (wr := [(q_book, cA E 350 a16_1)]) hZ (c_X4_fairest E q_this q_text q_ageing q_page q_readAgeing q_readPage q_book q_kept q_isKept q_heardWho q_heardIs q_tried q_chooser q_best q_alives 0 v_textSize v_place v_people v_readPeople a16_0 v_heard v_seed v_choosers v_sets v_surely v_page _ h) rfl dX4_morning_20 rfl rfl rfl rfl rfl (Nat.le_of_ble_eq_true rfl) (Nat.le_of_ble_eq_true rfl) (Nat.le_of_ble_eq_true rfl) rfl rfl (Nat.le_of_ble_eq_true rfl) (Nat.le_of_ble_eq_true rfl) [0, 1] [2] rfl rfl (by decide) (by decide) (by decide) (fun r20 w20 hw => ?_)
    obtain ⟨rfl, h⟩ := hw
    refine x_ws (ws' := [(q_this, cO 4 [.int 0, .ref q_text, .int v_textSize, .int v_place, .int v_people, .ref q_ageing, .ref q_page, .int v_readPeople, .ref q_readAgeing, .ref q_readPage, .ref q_book, .int a16_0, .ref q_kept, .ref q_isKept, .int v_heard, .ref q_heardWho, .ref q_heardIs, .long v_seed, .ref q_tried, .ref q_chooser, .int v_choosers, .ref q_best, .int v_sets, .int v_surely, .ref q_alives]), (q_page, cA E 25 v_page), (q_book, cA E 350 a16_1)]) [1, 2, 0] rfl (by decide) ?_
    refine x_istore_n (i := 1) (pc' := 24) (lv' := [(1, .int r20), (0, .ref q_this)]) hZ dX4_morning_23 rfl rfl (by decide) rfl ?_
    refine x_aload_n (pc' := 25) hZ dX4_morning_24 rfl 1 rfl ?_
    refine x_aload_n (pc' := 26) hZ dX4_morning_25 rfl 1 rfl ?_
    refine g_RX4_16 (pc' := 29) hZ dX4_morning_26 rfl 0 rfl rfl ?_
    refine k_RX4_118 (pc' := 32) (q0 := 0) (as := [.ref q_page]) (rest := []) (c' := 0) (n' := 0) (wr := [(q_book, cA E 350 a16_1)]) hZ (c_X4_goMorning E q_this q_text q_ageing q_page q_readAgeing q_readPage q_book q_kept q_isKept q_heardWho q_heardIs q_tried q_chooser q_best q_alives q_page 0 v_textSize v_place v_people v_readPeople a16_0 v_heard v_seed v_choosers v_sets v_surely v_page _ h) rfl dX4_morning_29 rfl rfl rfl rfl rfl (Nat.le_of_ble_eq_true rfl) (Nat.le_of_ble_eq_true rfl) (Nat.le_of_ble_eq_true rfl) rfl rfl (Nat.le_of_ble_eq_true rfl) (Nat.le_of_ble_eq_true rfl) [0, 1] [2] rfl rfl (by decide) (by decide) (by decide) (fun w29 hw => ?_)
    obtain ⟨a29_0, rfl, h⟩ := hw
    refine x_ws (ws' := [(q_this, cO 4 [.int 0, .ref q_text, .int v_textSize, .int v_place, .int v_people, .ref q_ageing, .ref q_page, .int v_readPeople, .ref q_readAgeing, .ref q_readPage, .ref q_book, .int a16_0, .ref q_kept, .ref q_isKept, .int v_heard, .ref q_heardWho, .ref q_heardIs, .long v_seed, .ref q_tried, .ref q_chooser, .int v_choosers, .ref q_best, .int v_sets, .int v_surely, .ref q_alives]), (q_page, cA E 25 a29_0), (q_book, cA E 350 a16_1)]) [1, 2, 0] rfl (by decide) ?_
    refine x_iload_n (pc' := 33) hZ dX4_morning_32 rfl 0 rfl ?_
    exact hRet _ _ _ _ dX4_morning_33 ⟨_, _, _, _, rfl, h⟩
  · replace h := h.2 c9
    refine x_bipush (v := (-3)) (pc' := 14) hZ (by decide) dX4_morning_12 rfl ?_
    exact hRet _ _ _ _ dX4_morning_14 ⟨_, _, _, _, rfl, h⟩
set_option maxHeartbeats 4000000 in
set_option maxRecDepth 100000 in
theorem t_X4_goYear_20 (E : XE) (Z : ZC) (q_this : Nat) (q_text : Nat) (q_ageing : Nat) (q_page : Nat) (q_readAgeing : Nat) (q_readPage : Nat) (q_book : Nat) (q_kept : Nat) (q_isKept : Nat) (q_heardWho : Nat) (q_heardIs : Nat) (q_tried : Nat) (q_chooser : Nat) (q_best : Nat) (q_alives : Nat) (q_a1 : Nat) (v_thrown : Int32) (v_textSize : Int32) (v_place : Int32) (v_people : Int32) (v_readPeople : Int32) (v_acts : Int32) (v_heard : Int32) (v_seed : Int64) (v_choosers : Int32) (v_sets : Int32) (v_surely : Int32) (v_ageing : Nat → Int32) (l2 : Int32) {K : Int32 → (Nat → Int32) → Prop} (hZ : XOK E Z RX4 cX4_goYear 5 { frames := 1, cells := 0, slots := 0, locals := 21 }) : ∀ (k : Nat) (l3 : Int32) (v_a1 : (Nat → Int32)), wl (fun rec v => b_X4_goYear_20 l2 v_ageing K rec v.1 v.2) k (l3, v_a1) → (∀ (l3 : Int32) (v_a1 : (Nat → Int32)), K l3 v_a1 → XW E Z 0 0 [(q_this, cO 4 [.int v_thrown, .ref q_text, .int v_textSize, .int v_place, .int v_people, .ref q_ageing, .ref q_page, .int v_readPeople, .ref q_readAgeing, .ref q_readPage, .ref q_book, .int v_acts, .ref q_kept, .ref q_isKept, .int v_heard, .ref q_heardWho, .ref q_heardIs, .long v_seed, .ref q_tried, .ref q_chooser, .int v_choosers, .ref q_best, .int v_sets, .int v_surely, .ref q_alives]), (q_ageing, cA E 6 v_ageing), (q_a1, cA E 25 v_a1)] [(0, .ref q_this), (1, .ref q_a1), (2, .int l2)] [] 80) → XW E Z 0 0 [(q_this, cO 4 [.int v_thrown, .ref q_text, .int v_textSize, .int v_place, .int v_people, .ref q_ageing, .ref q_page, .int v_readPeople, .ref q_readAgeing, .ref q_readPage, .ref q_book, .int v_acts, .ref q_kept, .ref q_isKept, .int v_heard, .ref q_heardWho, .ref q_heardIs, .long v_seed, .ref q_tried, .ref q_chooser, .int v_choosers, .ref q_best, .int v_sets, .int v_surely, .ref q_alives]), (q_ageing, cA E 6 v_ageing), (q_a1, cA E 25 v_a1)] [(0, .ref q_this), (1, .ref q_a1), (2, .int l2), (3, .int l3)] [] 20 := by
  intro k
  induction k with
  | zero =>
    intro l3 v_a1 h
    exact h.elim
  | succ k ih =>
    intro l3 v_a1 h hK
    replace h := wl_succ h
    try dsimp only at h
    unfold b_X4_goYear_20 at h
    refine x_iload_n (pc' := 21) hZ dX4_goYear_20 rfl 3 rfl ?_
    refine x_iconst (v := 3) (pc' := 22) hZ (by decide) dX4_goYear_21 rfl ?_
    refine x_icmp_ge (tgt := 80) (pc' := 25) hZ dX4_goYear_22 (by decide) rfl (fun c22 => ?_) (fun c22 => ?_)
    · replace h := h.1 c22
      refine x_lv [0, 1, 2] (lv' := [(0, .ref q_this), (1, .ref q_a1), (2, .int l2)]) rfl ?_
      exact hK l3 v_a1 h
    · replace h := h.2 c22
      refine x_aload_n (pc' := 26) hZ dX4_goYear_25 rfl 1 rfl ?_
      refine x_bipush (v := 21) (pc' := 28) hZ (by decide) dX4_goYear_26 rfl ?_
      have h28 : vp_in 21 25 := by unfold vp_in; decide
      refine x_iald (pc' := 29) hZ h28 dX4_goYear_28 rfl 2 rfl ?_
      refine x_iload_n (pc' := 30) hZ dX4_goYear_29 rfl 2 rfl ?_
      refine k_RX4_90 (pc' := 33) (as := [.int (v_a1 (ix 21)), .int l2]) (rest := []) (c' := 0) (n' := 0) (wr := [(q_this, cO 4 [.int v_thrown, .ref q_text, .int v_textSize, .int v_place, .int v_people, .ref q_ageing, .ref q_page, .int v_readPeople, .ref q_readAgeing, .ref q_readPage, .ref q_book, .int v_acts, .ref q_kept, .ref q_isKept, .int v_heard, .ref q_heardWho, .ref q_heardIs, .long v_seed, .ref q_tried, .ref q_chooser, .int v_choosers, .ref q_best, .int v_sets, .int v_surely, .ref q_alives]), (q_ageing, cA E 6 v_ageing), (q_a1, cA E 25 v_a1)]) hZ (c_X4_has E (v_a1 (ix 21)) l2 _ h) dX4_goYear_30 rfl rfl rfl rfl rfl (Nat.le_of_ble_eq_true rfl) (Nat.le_of_ble_eq_true rfl) (Nat.le_of_ble_eq_true rfl) rfl rfl (Nat.le_of_ble_eq_true rfl) (Nat.le_of_ble_eq_true rfl) [] [0, 1, 2] rfl rfl (by decide) (by decide) (by decide) (fun r30 w30 hw => ?_)
      obtain ⟨rfl, h⟩ := hw
      refine x_ws (ws' := [(q_this, cO 4 [.int v_thrown, .ref q_text, .int v_textSize, .int v_place, .int v_people, .ref q_ageing, .ref q_page, .int v_readPeople, .ref q_readAgeing, .ref q_readPage, .ref q_book, .int v_acts, .ref q_kept, .ref q_isKept, .int v_heard, .ref q_heardWho, .ref q_heardIs, .long v_seed, .ref q_tried, .ref q_chooser, .int v_choosers, .ref q_best, .int v_sets, .int v_surely, .ref q_alives]), (q_ageing, cA E 6 v_ageing), (q_a1, cA E 25 v_a1)]) [0, 1, 2] rfl (by decide) ?_
      refine x_if_eq (tgt := 80) (pc' := 36) hZ dX4_goYear_33 (by decide) rfl (fun c33 => ?_) (fun c33 => ?_)
      · replace h := h.1 c33
        refine x_lv [0, 1, 2] (lv' := [(0, .ref q_this), (1, .ref q_a1), (2, .int l2)]) rfl ?_
        exact hK l3 v_a1 h
      · replace h := h.2 c33
        refine x_aload_n (pc' := 37) hZ dX4_goYear_36 rfl 1 rfl ?_
        refine x_iconst (v := 3) (pc' := 38) hZ (by decide) dX4_goYear_37 rfl ?_
        refine x_iconst (v := 3) (pc' := 39) hZ (by decide) dX4_goYear_38 rfl ?_
        refine x_iload_n (pc' := 40) hZ dX4_goYear_39 rfl 2 rfl ?_
        refine x_imul (pc' := 41) hZ dX4_goYear_40 rfl ?_
        refine x_iadd (pc' := 42) hZ dX4_goYear_41 rfl ?_
        refine x_iload_n (pc' := 43) hZ dX4_goYear_42 rfl 3 rfl ?_
        refine x_iadd (pc' := 44) hZ dX4_goYear_43 rfl ?_
        obtain ⟨h44, h⟩ := h
        refine x_iald (pc' := 45) hZ h44 dX4_goYear_44 rfl 2 rfl ?_
        refine x_aload_n (pc' := 46) hZ dX4_goYear_45 rfl 0 rfl ?_
        refine g_RX4_13 (pc' := 49) hZ dX4_goYear_46 rfl 0 rfl rfl ?_
        refine x_iload_n (pc' := 50) hZ dX4_goYear_49 rfl 2 rfl ?_
        obtain ⟨h50, h⟩ := h
        refine x_iald (pc' := 51) hZ h50 dX4_goYear_50 rfl 1 rfl ?_
        refine x_isub (pc' := 52) hZ dX4_goYear_51 rfl ?_
        refine x_topi (fun x52 e52 => ?_)
        replace h := h x52 e52
        refine x_istore (i := 4) (pc' := 54) (lv' := [(4, .int x52), (0, .ref q_this), (1, .ref q_a1), (2, .int l2), (3, .int l3)]) hZ dX4_goYear_52 rfl (by decide) rfl ?_
        refine x_aload_n (pc' := 55) hZ dX4_goYear_54 rfl 2 rfl ?_
        refine x_iconst (v := 3) (pc' := 56) hZ (by decide) dX4_goYear_55 rfl ?_
        refine x_iconst (v := 3) (pc' := 57) hZ (by decide) dX4_goYear_56 rfl ?_
        refine x_iload_n (pc' := 58) hZ dX4_goYear_57 rfl 3 rfl ?_
        refine x_imul (pc' := 59) hZ dX4_goYear_58 rfl ?_
        refine x_iadd (pc' := 60) hZ dX4_goYear_59 rfl ?_
        refine x_iload_n (pc' := 61) hZ dX4_goYear_60 rfl 4 rfl ?_
        refine x_iadd (pc' := 62) hZ dX4_goYear_61 rfl ?_
        refine x_iload (pc' := 64) hZ dX4_goYear_62 rfl 0 rfl ?_
        refine x_if_ge (tgt := 71) (pc' := 67) hZ dX4_goYear_64 (by decide) rfl (fun c64 => ?_) (fun c64 => ?_)
        · replace h := h.1 c64
          refine x_iload (pc' := 73) hZ dX4_goYear_71 rfl 0 rfl ?_
          obtain ⟨h73, h⟩ := h
          refine x_iast (pc' := 74) (ws' := [(q_this, cO 4 [.int v_thrown, .ref q_text, .int v_textSize, .int v_place, .int v_people, .ref q_ageing, .ref q_page, .int v_readPeople, .ref q_readAgeing, .ref q_readPage, .ref q_book, .int v_acts, .ref q_kept, .ref q_isKept, .int v_heard, .ref q_heardWho, .ref q_heardIs, .long v_seed, .ref q_tried, .ref q_chooser, .int v_choosers, .ref q_best, .int v_sets, .int v_surely, .ref q_alives]), (q_ageing, cA E 6 v_ageing), (q_a1, cA E 25 (upd v_a1 (ix ((3 + (3 * l2)) + l3)) x52))]) hZ h73 dX4_goYear_73 rfl 2 rfl rfl ?_
          obtain ⟨x74, e74⟩ : ∃ y : Int32, y = l3 + 1 := ⟨_, rfl⟩
          replace h := h x74 e74
          refine x_iinc (i := 3) (v := x74) (pc' := 77) (lv' := [(3, .int x74), (4, .int x52), (0, .ref q_this), (1, .ref q_a1), (2, .int l2)]) hZ dX4_goYear_74 rfl 4 rfl (by rw [e74]; rfl) (by decide) rfl ?_
          refine x_goto (pc' := 20) hZ dX4_goYear_77 (by decide) ?_
          refine x_lv [2, 3, 4, 0] (lv' := [(0, .ref q_this), (1, .ref q_a1), (2, .int l2), (3, .int x74)]) rfl ?_
          exact ih x74 (upd v_a1 (ix ((3 + (3 * l2)) + l3)) x52) h hK
        · replace h := h.2 c64
          refine x_iconst (v := 0) (pc' := 68) hZ (by decide) dX4_goYear_67 rfl ?_
          refine x_goto (pc' := 73) hZ dX4_goYear_68 (by decide) ?_
          obtain ⟨h73, h⟩ := h
          refine x_iast (pc' := 74) (ws' := [(q_this, cO 4 [.int v_thrown, .ref q_text, .int v_textSize, .int v_place, .int v_people, .ref q_ageing, .ref q_page, .int v_readPeople, .ref q_readAgeing, .ref q_readPage, .ref q_book, .int v_acts, .ref q_kept, .ref q_isKept, .int v_heard, .ref q_heardWho, .ref q_heardIs, .long v_seed, .ref q_tried, .ref q_chooser, .int v_choosers, .ref q_best, .int v_sets, .int v_surely, .ref q_alives]), (q_ageing, cA E 6 v_ageing), (q_a1, cA E 25 (upd v_a1 (ix ((3 + (3 * l2)) + l3)) 0))]) hZ h73 dX4_goYear_73 rfl 2 rfl rfl ?_
          obtain ⟨x74, e74⟩ : ∃ y : Int32, y = l3 + 1 := ⟨_, rfl⟩
          replace h := h x74 e74
          refine x_iinc (i := 3) (v := x74) (pc' := 77) (lv' := [(3, .int x74), (4, .int x52), (0, .ref q_this), (1, .ref q_a1), (2, .int l2)]) hZ dX4_goYear_74 rfl 4 rfl (by rw [e74]; rfl) (by decide) rfl ?_
          refine x_goto (pc' := 20) hZ dX4_goYear_77 (by decide) ?_
          refine x_lv [2, 3, 4, 0] (lv' := [(0, .ref q_this), (1, .ref q_a1), (2, .int l2), (3, .int x74)]) rfl ?_
          exact ih x74 (upd v_a1 (ix ((3 + (3 * l2)) + l3)) 0) h hK
set_option maxHeartbeats 4000000 in
set_option maxRecDepth 100000 in
theorem t_X4_goYear_10 (E : XE) (Z : ZC) (q_this : Nat) (q_text : Nat) (q_ageing : Nat) (q_page : Nat) (q_readAgeing : Nat) (q_readPage : Nat) (q_book : Nat) (q_kept : Nat) (q_isKept : Nat) (q_heardWho : Nat) (q_heardIs : Nat) (q_tried : Nat) (q_chooser : Nat) (q_best : Nat) (q_alives : Nat) (q_a1 : Nat) (v_thrown : Int32) (v_textSize : Int32) (v_place : Int32) (v_people : Int32) (v_readPeople : Int32) (v_acts : Int32) (v_heard : Int32) (v_seed : Int64) (v_choosers : Int32) (v_sets : Int32) (v_surely : Int32) (v_ageing : Nat → Int32) {K : Int32 → (Nat → Int32) → Prop} (hZ : XOK E Z RX4 cX4_goYear 5 { frames := 1, cells := 0, slots := 0, locals := 21 }) : ∀ (k : Nat) (l2 : Int32) (v_a1 : (Nat → Int32)), wl (fun rec v => b_X4_goYear_10 v_people v_ageing K rec v.1 v.2) k (l2, v_a1) → (∀ (l2 : Int32) (v_a1 : (Nat → Int32)), K l2 v_a1 → XW E Z 0 0 [(q_this, cO 4 [.int v_thrown, .ref q_text, .int v_textSize, .int v_place, .int v_people, .ref q_ageing, .ref q_page, .int v_readPeople, .ref q_readAgeing, .ref q_readPage, .ref q_book, .int v_acts, .ref q_kept, .ref q_isKept, .int v_heard, .ref q_heardWho, .ref q_heardIs, .long v_seed, .ref q_tried, .ref q_chooser, .int v_choosers, .ref q_best, .int v_sets, .int v_surely, .ref q_alives]), (q_ageing, cA E 6 v_ageing), (q_a1, cA E 25 v_a1)] [] [] 86) → XW E Z 0 0 [(q_this, cO 4 [.int v_thrown, .ref q_text, .int v_textSize, .int v_place, .int v_people, .ref q_ageing, .ref q_page, .int v_readPeople, .ref q_readAgeing, .ref q_readPage, .ref q_book, .int v_acts, .ref q_kept, .ref q_isKept, .int v_heard, .ref q_heardWho, .ref q_heardIs, .long v_seed, .ref q_tried, .ref q_chooser, .int v_choosers, .ref q_best, .int v_sets, .int v_surely, .ref q_alives]), (q_ageing, cA E 6 v_ageing), (q_a1, cA E 25 v_a1)] [(0, .ref q_this), (1, .ref q_a1), (2, .int l2)] [] 10 := by
  intro k
  induction k with
  | zero =>
    intro l2 v_a1 h
    exact h.elim
  | succ k ih =>
    intro l2 v_a1 h hK
    replace h := wl_succ h
    try dsimp only at h
    unfold b_X4_goYear_10 at h
    refine x_iload_n (pc' := 11) hZ dX4_goYear_10 rfl 2 rfl ?_
    refine x_aload_n (pc' := 12) hZ dX4_goYear_11 rfl 0 rfl ?_
    refine g_RX4_57 (pc' := 15) hZ dX4_goYear_12 rfl 0 rfl rfl ?_
    refine x_icmp_ge (tgt := 86) (pc' := 18) hZ dX4_goYear_15 (by decide) rfl (fun c15 => ?_) (fun c15 => ?_)
    · replace h := h.1 c15
      refine x_lv [] (lv' := []) rfl ?_
      exact hK l2 v_a1 h
    · replace h := h.2 c15
      refine x_iconst (v := 0) (pc' := 19) hZ (by decide) dX4_goYear_18 rfl ?_
      refine x_istore_n (i := 3) (pc' := 20) (lv' := [(3, .int 0), (0, .ref q_this), (1, .ref q_a1), (2, .int l2)]) hZ dX4_goYear_19 rfl rfl (by decide) rfl ?_
      refine x_lv [1, 2, 3, 0] (lv' := [(0, .ref q_this), (1, .ref q_a1), (2, .int l2), (3, .int 0)]) rfl ?_
      obtain ⟨k20, h⟩ := h
      refine t_X4_goYear_20 E Z q_this q_text q_ageing q_page q_readAgeing q_readPage q_book q_kept q_isKept q_heardWho q_heardIs q_tried q_chooser q_best q_alives q_a1 v_thrown v_textSize v_place v_people v_readPeople v_acts v_heard v_seed v_choosers v_sets v_surely v_ageing l2 hZ  _ 0 v_a1 h (fun l3_20 v_a1_20 h => ?_)
      obtain ⟨x80, e80⟩ : ∃ y : Int32, y = l2 + 1 := ⟨_, rfl⟩
      replace h := h x80 e80
      refine x_iinc (i := 2) (v := x80) (pc' := 83) (lv' := [(2, .int x80), (0, .ref q_this), (1, .ref q_a1)]) hZ dX4_goYear_80 rfl 2 rfl (by rw [e80]; rfl) (by decide) rfl ?_
      refine x_goto (pc' := 10) hZ dX4_goYear_83 (by decide) ?_
      refine x_lv [1, 2, 0] (lv' := [(0, .ref q_this), (1, .ref q_a1), (2, .int x80)]) rfl ?_
      exact ih x80 v_a1_20 h hK
set_option maxHeartbeats 4000000 in
set_option maxRecDepth 100000 in
theorem c_X4_goYear (E : XE) (q_this : Nat) (q_text : Nat) (q_ageing : Nat) (q_page : Nat) (q_readAgeing : Nat) (q_readPage : Nat) (q_book : Nat) (q_kept : Nat) (q_isKept : Nat) (q_heardWho : Nat) (q_heardIs : Nat) (q_tried : Nat) (q_chooser : Nat) (q_best : Nat) (q_alives : Nat) (q_a1 : Nat) (v_thrown : Int32) (v_textSize : Int32) (v_place : Int32) (v_people : Int32) (v_readPeople : Int32) (v_acts : Int32) (v_heard : Int32) (v_seed : Int64) (v_choosers : Int32) (v_sets : Int32) (v_surely : Int32) (v_ageing : Nat → Int32) (v_a1 : Nat → Int32) (post : (Nat → Int32) → Prop) (h : p_X4_goYear v_people v_ageing v_a1 post) : ConV E yX4_goYear cX4_goYear 5 { frames := 1, cells := 0, slots := 0, locals := 21 } 0 0 [.ref q_this, .ref q_a1] [(q_this, cO 4 [.int v_thrown, .ref q_text, .int v_textSize, .int v_place, .int v_people, .ref q_ageing, .ref q_page, .int v_readPeople, .ref q_readAgeing, .ref q_readPage, .ref q_book, .int v_acts, .ref q_kept, .ref q_isKept, .int v_heard, .ref q_heardWho, .ref q_heardIs, .long v_seed, .ref q_tried, .ref q_chooser, .int v_choosers, .ref q_best, .int v_sets, .int v_surely, .ref q_alives]), (q_ageing, cA E 6 v_ageing), (q_a1, cA E 25 v_a1)] (fun w => ∃ (u_a1 : Nat → Int32), w = [(q_this, cO 4 [.int v_thrown, .ref q_text, .int v_textSize, .int v_place, .int v_people, .ref q_ageing, .ref q_page, .int v_readPeople, .ref q_readAgeing, .ref q_readPage, .ref q_book, .int v_acts, .ref q_kept, .ref q_isKept, .int v_heard, .ref q_heardWho, .ref q_heardIs, .long v_seed, .ref q_tried, .ref q_chooser, .int v_choosers, .ref q_best, .int v_sets, .int v_surely, .ref q_alives]), (q_ageing, cA E 6 v_ageing), (q_a1, cA E 25 u_a1)] ∧ post u_a1) := by
  refine ConV.of (by decide +kernel) (Nat.le_of_ble_eq_true rfl) (fun Z hZ hI hRet => ?_)
  replace hZ : XOK E Z RX4 cX4_goYear 5 { frames := 1, cells := 0, slots := 0, locals := 21 } := hZ
  clear hI
  show XW E Z 0 0 [(q_this, cO 4 [.int v_thrown, .ref q_text, .int v_textSize, .int v_place, .int v_people, .ref q_ageing, .ref q_page, .int v_readPeople, .ref q_readAgeing, .ref q_readPage, .ref q_book, .int v_acts, .ref q_kept, .ref q_isKept, .int v_heard, .ref q_heardWho, .ref q_heardIs, .long v_seed, .ref q_tried, .ref q_chooser, .int v_choosers, .ref q_best, .int v_sets, .int v_surely, .ref q_alives]), (q_ageing, cA E 6 v_ageing), (q_a1, cA E 25 v_a1)] [(0, .ref q_this), (1, .ref q_a1)] [] 0
  unfold p_X4_goYear at h
  refine x_aload_n (pc' := 1) hZ dX4_goYear_0 rfl 1 rfl ?_
  refine x_bipush (v := 24) (pc' := 3) hZ (by decide) dX4_goYear_1 rfl ?_
  refine x_dup2 (pc' := 4) hZ dX4_goYear_3 rfl rfl rfl ?_
  have h4 : vp_in 24 25 := by unfold vp_in; decide
  refine x_iald (pc' := 5) hZ h4 dX4_goYear_4 rfl 2 rfl ?_
  refine x_iconst (v := 1) (pc' := 6) hZ (by decide) dX4_goYear_5 rfl ?_
  refine x_iadd (pc' := 7) hZ dX4_goYear_6 rfl ?_
  refine x_topi (fun x7 e7 => ?_)
  replace h := h x7 e7
  have h7 : vp_in 24 25 := by unfold vp_in; decide
  refine x_iast (pc' := 8) (ws' := [(q_this, cO 4 [.int v_thrown, .ref q_text, .int v_textSize, .int v_place, .int v_people, .ref q_ageing, .ref q_page, .int v_readPeople, .ref q_readAgeing, .ref q_readPage, .ref q_book, .int v_acts, .ref q_kept, .ref q_isKept, .int v_heard, .ref q_heardWho, .ref q_heardIs, .long v_seed, .ref q_tried, .ref q_chooser, .int v_choosers, .ref q_best, .int v_sets, .int v_surely, .ref q_alives]), (q_ageing, cA E 6 v_ageing), (q_a1, cA E 25 (upd v_a1 (ix 24) x7))]) hZ h7 dX4_goYear_7 rfl 2 rfl rfl ?_
  refine x_iconst (v := 0) (pc' := 9) hZ (by decide) dX4_goYear_8 rfl ?_
  refine x_istore_n (i := 2) (pc' := 10) (lv' := [(2, .int 0), (0, .ref q_this), (1, .ref q_a1)]) hZ dX4_goYear_9 rfl rfl (by decide) rfl ?_
  refine x_lv [1, 2, 0] (lv' := [(0, .ref q_this), (1, .ref q_a1), (2, .int 0)]) rfl ?_
  obtain ⟨k10, h⟩ := h
  refine t_X4_goYear_10 E Z q_this q_text q_ageing q_page q_readAgeing q_readPage q_book q_kept q_isKept q_heardWho q_heardIs q_tried q_chooser q_best q_alives q_a1 v_thrown v_textSize v_place v_people v_readPeople v_acts v_heard v_seed v_choosers v_sets v_surely v_ageing hZ  _ 0 (upd v_a1 (ix 24) x7) h (fun l2_10 v_a1_10 h => ?_)
  exact hRet _ _ _ dX4_goYear_86 ⟨_, rfl, h⟩
set_option maxHeartbeats 4000000 in
set_option maxRecDepth 100000 in
theorem c_X4_year (E : XE) (q_this : Nat) (q_text : Nat) (q_ageing : Nat) (q_page : Nat) (q_readAgeing : Nat) (q_readPage : Nat) (q_book : Nat) (q_kept : Nat) (q_isKept : Nat) (q_heardWho : Nat) (q_heardIs : Nat) (q_tried : Nat) (q_chooser : Nat) (q_best : Nat) (q_alives : Nat) (v_thrown : Int32) (v_textSize : Int32) (v_place : Int32) (v_people : Int32) (v_readPeople : Int32) (v_acts : Int32) (v_heard : Int32) (v_seed : Int64) (v_choosers : Int32) (v_sets : Int32) (v_surely : Int32) (v_ageing : Nat → Int32) (v_page : Nat → Int32) (v_book : Nat → Int32) (post : Int32 → Int32 → Int32 → (Nat → Int32) → (Nat → Int32) → Prop) (h : p_X4_year v_thrown v_people v_acts v_ageing v_page v_book post) : ConI E yX4_year cX4_year 1 .int { frames := 2, cells := 0, slots := 0, locals := 45 } 0 0 [.ref q_this] [(q_this, cO 4 [.int v_thrown, .ref q_text, .int v_textSize, .int v_place, .int v_people, .ref q_ageing, .ref q_page, .int v_readPeople, .ref q_readAgeing, .ref q_readPage, .ref q_book, .int v_acts, .ref q_kept, .ref q_isKept, .int v_heard, .ref q_heardWho, .ref q_heardIs, .long v_seed, .ref q_tried, .ref q_chooser, .int v_choosers, .ref q_best, .int v_sets, .int v_surely, .ref q_alives]), (q_ageing, cA E 6 v_ageing), (q_page, cA E 25 v_page), (q_book, cA E 350 v_book)] (fun r w => ∃ (u_thrown : Int32) (u_acts : Int32) (u_page : Nat → Int32) (u_book : Nat → Int32), w = [(q_this, cO 4 [.int u_thrown, .ref q_text, .int v_textSize, .int v_place, .int v_people, .ref q_ageing, .ref q_page, .int v_readPeople, .ref q_readAgeing, .ref q_readPage, .ref q_book, .int u_acts, .ref q_kept, .ref q_isKept, .int v_heard, .ref q_heardWho, .ref q_heardIs, .long v_seed, .ref q_tried, .ref q_chooser, .int v_choosers, .ref q_best, .int v_sets, .int v_surely, .ref q_alives]), (q_ageing, cA E 6 v_ageing), (q_page, cA E 25 u_page), (q_book, cA E 350 u_book)] ∧ post r u_thrown u_acts u_page u_book) := by
  refine ConI.of (by decide +kernel) (Nat.le_of_ble_eq_true rfl) (fun Z hZ hI hRet => ?_)
  replace hZ : XOK E Z RX4 cX4_year 1 { frames := 2, cells := 0, slots := 0, locals := 45 } := hZ
  clear hI
  show XW E Z 0 0 [(q_this, cO 4 [.int v_thrown, .ref q_text, .int v_textSize, .int v_place, .int v_people, .ref q_ageing, .ref q_page, .int v_readPeople, .ref q_readAgeing, .ref q_readPage, .ref q_book, .int v_acts, .ref q_kept, .ref q_isKept, .int v_heard, .ref q_heardWho, .ref q_heardIs, .long v_seed, .ref q_tried, .ref q_chooser, .int v_choosers, .ref q_best, .int v_sets, .int v_surely, .ref q_alives]), (q_ageing, cA E 6 v_ageing), (q_page, cA E 25 v_page), (q_book, cA E 350 v_book)] [(0, .ref q_this)] [] 0
  unfold p_X4_year at h
  refine x_aload_n (pc' := 1) hZ dX4_year_0 rfl 0 rfl ?_
  refine x_iconst (v := 0) (pc' := 2) hZ (by decide) dX4_year_1 rfl ?_
  refine s_RX4_53 (pc' := 5) (ws' := [(q_this, cO 4 [.int 0, .ref q_text, .int v_textSize, .int v_place, .int v_people, .ref q_ageing, .ref q_page, .int v_readPeople, .ref q_readAgeing, .ref q_readPage, .ref q_book, .int v_acts, .ref q_kept, .ref q_isKept, .int v_heard, .ref q_heardWho, .ref q_heardIs, .long v_seed, .ref q_tried, .ref q_chooser, .int v_choosers, .ref q_best, .int v_sets, .int v_surely, .ref q_alives]), (q_ageing, cA E 6 v_ageing), (q_page, cA E 25 v_page), (q_book, cA E 350 v_book)]) hZ dX4_year_2 rfl 0 rfl (Nat.le_of_ble_eq_true rfl) rfl ?_
  refine x_aload_n (pc' := 6) hZ dX4_year_5 rfl 0 rfl ?_
  refine k_RX4_115 (pc' := 9) (q0 := 0) (as := []) (rest := []) (c' := 0) (n' := 0) (wr := [(q_ageing, cA E 6 v_ageing)]) hZ (c_X4_note E q_this q_text q_ageing q_page q_readAgeing q_readPage q_book q_kept q_isKept q_heardWho q_heardIs q_tried q_chooser q_best q_alives 0 v_textSize v_place v_people v_readPeople v_acts v_heard v_seed v_choosers v_sets v_surely v_page v_book _ h) rfl dX4_year_6 rfl rfl rfl rfl rfl (Nat.le_of_ble_eq_true rfl) (Nat.le_of_ble_eq_true rfl) (Nat.le_of_ble_eq_true rfl) rfl rfl (Nat.le_of_ble_eq_true rfl) (Nat.le_of_ble_eq_true rfl) [0, 2, 3] [1] rfl rfl (by decide) (by decide) (by decide) (fun w6 hw => ?_)
  obtain ⟨a6_0, a6_1, rfl, h⟩ := hw
  refine x_ws (ws' := [(q_this, cO 4 [.int 0, .ref q_text, .int v_textSize, .int v_place, .int v_people, .ref q_ageing, .ref q_page, .int v_readPeople, .ref q_readAgeing, .ref q_readPage, .ref q_book, .int a6_0, .ref q_kept, .ref q_isKept, .int v_heard, .ref q_heardWho, .ref q_heardIs, .long v_seed, .ref q_tried, .ref q_chooser, .int v_choosers, .ref q_best, .int v_sets, .int v_surely, .ref q_alives]), (q_ageing, cA E 6 v_ageing), (q_page, cA E 25 v_page), (q_book, cA E 350 a6_1)]) [1, 0, 2, 3] rfl (by decide) ?_
  refine x_aload_n (pc' := 10) hZ dX4_year_9 rfl 0 rfl ?_
  refine x_aload_n (pc' := 11) hZ dX4_year_10 rfl 0 rfl ?_
  refine g_RX4_16 (pc' := 14) hZ dX4_year_11 rfl 0 rfl rfl ?_
  refine k_RX4_122 (pc' := 17) (q0 := 0) (as := [.ref q_page]) (rest := []) (c' := 0) (n' := 0) (wr := [(q_book, cA E 350 a6_1)]) hZ (c_X4_goYear E q_this q_text q_ageing q_page q_readAgeing q_readPage q_book q_kept q_isKept q_heardWho q_heardIs q_tried q_chooser q_best q_alives q_page 0 v_textSize v_place v_people v_readPeople a6_0 v_heard v_seed v_choosers v_sets v_surely v_ageing v_page _ h) rfl dX4_year_14 rfl rfl rfl rfl rfl (Nat.le_of_ble_eq_true rfl) (Nat.le_of_ble_eq_true rfl) (Nat.le_of_ble_eq_true rfl) rfl rfl (Nat.le_of_ble_eq_true rfl) (Nat.le_of_ble_eq_true rfl) [0, 1, 2] [3] rfl rfl (by decide) (by decide) (by decide) (fun w14 hw => ?_)
  obtain ⟨a14_0, rfl, h⟩ := hw
  refine x_ws (ws' := [(q_this, cO 4 [.int 0, .ref q_text, .int v_textSize, .int v_place, .int v_people, .ref q_ageing, .ref q_page, .int v_readPeople, .ref q_readAgeing, .ref q_readPage, .ref q_book, .int a6_0, .ref q_kept, .ref q_isKept, .int v_heard, .ref q_heardWho, .ref q_heardIs, .long v_seed, .ref q_tried, .ref q_chooser, .int v_choosers, .ref q_best, .int v_sets, .int v_surely, .ref q_alives]), (q_ageing, cA E 6 v_ageing), (q_page, cA E 25 a14_0), (q_book, cA E 350 a6_1)]) [1, 2, 3, 0] rfl (by decide) ?_
  refine x_aload_n (pc' := 18) hZ dX4_year_17 rfl 0 rfl ?_
  refine g_RX4_16 (pc' := 21) hZ dX4_year_18 rfl 0 rfl rfl ?_
  refine x_bipush (v := 24) (pc' := 23) hZ (by decide) dX4_year_21 rfl ?_
  have h23 : vp_in 24 25 := by unfold vp_in; decide
  refine x_iald (pc' := 24) hZ h23 dX4_year_23 rfl 2 rfl ?_
  exact hRet _ _ _ _ dX4_year_24 ⟨_, _, _, _, rfl, h⟩
set_option maxHeartbeats 4000000 in
set_option maxRecDepth 100000 in
theorem c_X4_plain (E : XE) (q_this : Nat) (q_text : Nat) (q_ageing : Nat) (q_page : Nat) (q_readAgeing : Nat) (q_readPage : Nat) (q_book : Nat) (q_kept : Nat) (q_isKept : Nat) (q_heardWho : Nat) (q_heardIs : Nat) (q_tried : Nat) (q_chooser : Nat) (q_best : Nat) (q_alives : Nat) (v_thrown : Int32) (v_textSize : Int32) (v_place : Int32) (v_people : Int32) (v_readPeople : Int32) (v_acts : Int32) (v_heard : Int32) (v_seed : Int64) (v_choosers : Int32) (v_sets : Int32) (v_surely : Int32) (v_page : Nat → Int32) (v_book : Nat → Int32) (l1 : Int32) (l2 : Int32) (post : Int32 → Int32 → Int32 → (Nat → Int32) → (Nat → Int32) → Prop) (h : p_X4_plain v_thrown v_people v_acts v_page v_book l1 l2 post) : ConI E yX4_plain cX4_plain 3 .int { frames := 2, cells := 0, slots := 0, locals := 46 } 0 0 [.ref q_this, .int l1, .int l2] [(q_this, cO 4 [.int v_thrown, .ref q_text, .int v_textSize, .int v_place, .int v_people, .ref q_ageing, .ref q_page, .int v_readPeople, .ref q_readAgeing, .ref q_readPage, .ref q_book, .int v_acts, .ref q_kept, .ref q_isKept, .int v_heard, .ref q_heardWho, .ref q_heardIs, .long v_seed, .ref q_tried, .ref q_chooser, .int v_choosers, .ref q_best, .int v_sets, .int v_surely, .ref q_alives]), (q_page, cA E 25 v_page), (q_book, cA E 350 v_book)] (fun r w => ∃ (u_thrown : Int32) (u_acts : Int32) (u_page : Nat → Int32) (u_book : Nat → Int32), w = [(q_this, cO 4 [.int u_thrown, .ref q_text, .int v_textSize, .int v_place, .int v_people, .ref q_ageing, .ref q_page, .int v_readPeople, .ref q_readAgeing, .ref q_readPage, .ref q_book, .int u_acts, .ref q_kept, .ref q_isKept, .int v_heard, .ref q_heardWho, .ref q_heardIs, .long v_seed, .ref q_tried, .ref q_chooser, .int v_choosers, .ref q_best, .int v_sets, .int v_surely, .ref q_alives]), (q_page, cA E 25 u_page), (q_book, cA E 350 u_book)] ∧ post r u_thrown u_acts u_page u_book) := by
  refine ConI.of (by decide +kernel) (Nat.le_of_ble_eq_true rfl) (fun Z hZ hI hRet => ?_)
  replace hZ : XOK E Z RX4 cX4_plain 3 { frames := 2, cells := 0, slots := 0, locals := 46 } := hZ
  clear hI
  show XW E Z 0 0 [(q_this, cO 4 [.int v_thrown, .ref q_text, .int v_textSize, .int v_place, .int v_people, .ref q_ageing, .ref q_page, .int v_readPeople, .ref q_readAgeing, .ref q_readPage, .ref q_book, .int v_acts, .ref q_kept, .ref q_isKept, .int v_heard, .ref q_heardWho, .ref q_heardIs, .long v_seed, .ref q_tried, .ref q_chooser, .int v_choosers, .ref q_best, .int v_sets, .int v_surely, .ref q_alives]), (q_page, cA E 25 v_page), (q_book, cA E 350 v_book)] [(0, .ref q_this), (1, .int l1), (2, .int l2)] [] 0
  unfold p_X4_plain at h
  refine x_aload_n (pc' := 1) hZ dX4_plain_0 rfl 0 rfl ?_
  refine x_iconst (v := 0) (pc' := 2) hZ (by decide) dX4_plain_1 rfl ?_
  refine s_RX4_53 (pc' := 5) (ws' := [(q_this, cO 4 [.int 0, .ref q_text, .int v_textSize, .int v_place, .int v_people, .ref q_ageing, .ref q_page, .int v_readPeople, .ref q_readAgeing, .ref q_readPage, .ref q_book, .int v_acts, .ref q_kept, .ref q_isKept, .int v_heard, .ref q_heardWho, .ref q_heardIs, .long v_seed, .ref q_tried, .ref q_chooser, .int v_choosers, .ref q_best, .int v_sets, .int v_surely, .ref q_alives]), (q_page, cA E 25 v_page), (q_book, cA E 350 v_book)]) hZ dX4_plain_2 rfl 0 rfl (Nat.le_of_ble_eq_true rfl) rfl ?_
  refine x_aload_n (pc' := 6) hZ dX4_plain_5 rfl 0 rfl ?_
  refine x_iload_n (pc' := 7) hZ dX4_plain_6 rfl 1 rfl ?_
  refine k_RX4_111 (pc' := 10) (q0 := 0) (as := [.int l1]) (rest := []) (c' := 0) (n' := 0) (wr := [(q_page, cA E 25 v_page), (q_book, cA E 350 v_book)]) hZ (c_X4_noOne E q_this q_text q_ageing q_page q_readAgeing q_readPage q_book q_kept q_isKept q_heardWho q_heardIs q_tried q_chooser q_best q_alives 0 v_textSize v_place v_people v_readPeople v_acts v_heard v_seed v_choosers v_sets v_surely l1 _ h) rfl dX4_plain_7 rfl rfl rfl rfl rfl (Nat.le_of_ble_eq_true rfl) (Nat.le_of_ble_eq_true rfl) (Nat.le_of_ble_eq_true rfl) rfl rfl (Nat.le_of_ble_eq_true rfl) (Nat.le_of_ble_eq_true rfl) [0] [1, 2] rfl rfl (by decide) (by decide) (by decide) (fun r7 w7 hw => ?_)
  obtain ⟨rfl, h⟩ := hw
  refine x_ws (ws' := [(q_this, cO 4 [.int 0, .ref q_text, .int v_textSize, .int v_place, .int v_people, .ref q_ageing, .ref q_page, .int v_readPeople, .ref q_readAgeing, .ref q_readPage, .ref q_book, .int v_acts, .ref q_kept, .ref q_isKept, .int v_heard, .ref q_heardWho, .ref q_heardIs, .long v_seed, .ref q_tried, .ref q_chooser, .int v_choosers, .ref q_best, .int v_sets, .int v_surely, .ref q_alives]), (q_page, cA E 25 v_page), (q_book, cA E 350 v_book)]) [2, 0, 1] rfl (by decide) ?_
  refine x_if_ne (tgt := 25) (pc' := 13) hZ dX4_plain_10 (by decide) rfl (fun c10 => ?_) (fun c10 => ?_)
  · replace h := h.1 c10
    refine x_iconst (v := (-1)) (pc' := 26) hZ (by decide) dX4_plain_25 rfl ?_
    exact hRet _ _ _ _ dX4_plain_26 ⟨_, _, _, _, rfl, h⟩
  · replace h := h.2 c10
    refine x_iload_n (pc' := 14) hZ dX4_plain_13 rfl 2 rfl ?_
    refine x_i2l (pc' := 15) hZ dX4_plain_14 rfl ?_
    refine x_lconst (v := 0) (pc' := 16) hZ (by decide) dX4_plain_15 rfl ?_
    refine x_ldc2 (v := 2) (pc' := 19) hZ kl_RX4_125 dX4_plain_16 rfl ?_
    refine k_RX4_60 (pc' := 22) (as := [.long l2.toInt64, .long 0, .long 2]) (rest := []) (c' := 0) (n' := 0) (wr := [(q_this, cO 4 [.int 0, .ref q_text, .int v_textSize, .int v_place, .int v_people, .ref q_ageing, .ref q_page, .int v_readPeople, .ref q_readAgeing, .ref q_readPage, .ref q_book, .int v_acts, .ref q_kept, .ref q_isKept, .int v_heard, .ref q_heardWho, .ref q_heardIs, .long v_seed, .ref q_tried, .ref q_chooser, .int v_choosers, .ref q_best, .int v_sets, .int v_surely, .ref q_alives]), (q_page, cA E 25 v_page), (q_book, cA E 350 v_book)]) hZ (c_X4_in E l2.toInt64 0 2 _ h) dX4_plain_19 rfl rfl rfl rfl rfl (Nat.le_of_ble_eq_true rfl) (Nat.le_of_ble_eq_true rfl) (Nat.le_of_ble_eq_true rfl) rfl rfl (Nat.le_of_ble_eq_true rfl) (Nat.le_of_ble_eq_true rfl) [] [0, 1, 2] rfl rfl (by decide) (by decide) (by decide) (fun r19 w19 hw => ?_)
    obtain ⟨rfl, h⟩ := hw
    refine x_ws (ws' := [(q_this, cO 4 [.int 0, .ref q_text, .int v_textSize, .int v_place, .int v_people, .ref q_ageing, .ref q_page, .int v_readPeople, .ref q_readAgeing, .ref q_readPage, .ref q_book, .int v_acts, .ref q_kept, .ref q_isKept, .int v_heard, .ref q_heardWho, .ref q_heardIs, .long v_seed, .ref q_tried, .ref q_chooser, .int v_choosers, .ref q_best, .int v_sets, .int v_surely, .ref q_alives]), (q_page, cA E 25 v_page), (q_book, cA E 350 v_book)]) [0, 1, 2] rfl (by decide) ?_
    refine x_if_ne (tgt := 27) (pc' := 25) hZ dX4_plain_22 (by decide) rfl (fun c22 => ?_) (fun c22 => ?_)
    · replace h := h.1 c22
      refine x_aload_n (pc' := 28) hZ dX4_plain_27 rfl 0 rfl ?_
      refine g_RX4_16 (pc' := 31) hZ dX4_plain_28 rfl 0 rfl rfl ?_
      refine x_bipush (v := 21) (pc' := 33) hZ (by decide) dX4_plain_31 rfl ?_
      have h33 : vp_in 21 25 := by unfold vp_in; decide
      refine x_iald (pc' := 34) hZ h33 dX4_plain_33 rfl 1 rfl ?_
      refine x_iload_n (pc' := 35) hZ dX4_plain_34 rfl 1 rfl ?_
      refine k_RX4_90 (pc' := 38) (as := [.int (v_page (ix 21)), .int l1]) (rest := []) (c' := 0) (n' := 0) (wr := [(q_this, cO 4 [.int 0, .ref q_text, .int v_textSize, .int v_place, .int v_people, .ref q_ageing, .ref q_page, .int v_readPeople, .ref q_readAgeing, .ref q_readPage, .ref q_book, .int v_acts, .ref q_kept, .ref q_isKept, .int v_heard, .ref q_heardWho, .ref q_heardIs, .long v_seed, .ref q_tried, .ref q_chooser, .int v_choosers, .ref q_best, .int v_sets, .int v_surely, .ref q_alives]), (q_page, cA E 25 v_page), (q_book, cA E 350 v_book)]) hZ (c_X4_has E (v_page (ix 21)) l1 _ h) dX4_plain_35 rfl rfl rfl rfl rfl (Nat.le_of_ble_eq_true rfl) (Nat.le_of_ble_eq_true rfl) (Nat.le_of_ble_eq_true rfl) rfl rfl (Nat.le_of_ble_eq_true rfl) (Nat.le_of_ble_eq_true rfl) [] [0, 1, 2] rfl rfl (by decide) (by decide) (by decide) (fun r35 w35 hw => ?_)
      obtain ⟨rfl, h⟩ := hw
      refine x_ws (ws' := [(q_this, cO 4 [.int 0, .ref q_text, .int v_textSize, .int v_place, .int v_people, .ref q_ageing, .ref q_page, .int v_readPeople, .ref q_readAgeing, .ref q_readPage, .ref q_book, .int v_acts, .ref q_kept, .ref q_isKept, .int v_heard, .ref q_heardWho, .ref q_heardIs, .long v_seed, .ref q_tried, .ref q_chooser, .int v_choosers, .ref q_best, .int v_sets, .int v_surely, .ref q_alives]), (q_page, cA E 25 v_page), (q_book, cA E 350 v_book)]) [0, 1, 2] rfl (by decide) ?_
      refine x_if_eq (tgt := 56) (pc' := 41) hZ dX4_plain_38 (by decide) rfl (fun c38 => ?_) (fun c38 => ?_)
      · replace h := h.1 c38
        refine x_bipush (v := (-3)) (pc' := 58) hZ (by decide) dX4_plain_56 rfl ?_
        exact hRet _ _ _ _ dX4_plain_58 ⟨_, _, _, _, rfl, h⟩
      · replace h := h.2 c38
        refine x_aload_n (pc' := 42) hZ dX4_plain_41 rfl 0 rfl ?_
        refine g_RX4_16 (pc' := 45) hZ dX4_plain_42 rfl 0 rfl rfl ?_
        refine x_iconst (v := 3) (pc' := 46) hZ (by decide) dX4_plain_45 rfl ?_
        refine x_iconst (v := 3) (pc' := 47) hZ (by decide) dX4_plain_46 rfl ?_
        refine x_iload_n (pc' := 48) hZ dX4_plain_47 rfl 1 rfl ?_
        refine x_imul (pc' := 49) hZ dX4_plain_48 rfl ?_
        refine x_iadd (pc' := 50) hZ dX4_plain_49 rfl ?_
        refine x_iload_n (pc' := 51) hZ dX4_plain_50 rfl 2 rfl ?_
        refine x_iadd (pc' := 52) hZ dX4_plain_51 rfl ?_
        obtain ⟨h52, h⟩ := h
        refine x_iald (pc' := 53) hZ h52 dX4_plain_52 rfl 1 rfl ?_
        refine x_if_ne (tgt := 59) (pc' := 56) hZ dX4_plain_53 (by decide) rfl (fun c53 => ?_) (fun c53 => ?_)
        · replace h := h.1 c53
          refine x_aload_n (pc' := 60) hZ dX4_plain_59 rfl 0 rfl ?_
          refine k_RX4_115 (pc' := 63) (q0 := 0) (as := []) (rest := []) (c' := 0) (n' := 0) (wr := []) hZ (c_X4_note E q_this q_text q_ageing q_page q_readAgeing q_readPage q_book q_kept q_isKept q_heardWho q_heardIs q_tried q_chooser q_best q_alives 0 v_textSize v_place v_people v_readPeople v_acts v_heard v_seed v_choosers v_sets v_surely v_page v_book _ h) rfl dX4_plain_60 rfl rfl rfl rfl rfl (Nat.le_of_ble_eq_true rfl) (Nat.le_of_ble_eq_true rfl) (Nat.le_of_ble_eq_true rfl) rfl rfl (Nat.le_of_ble_eq_true rfl) (Nat.le_of_ble_eq_true rfl) [0, 1, 2] [] rfl rfl (by decide) (by decide) (by decide) (fun w60 hw => ?_)
          obtain ⟨a60_0, a60_1, rfl, h⟩ := hw
          refine x_ws (ws' := [(q_this, cO 4 [.int 0, .ref q_text, .int v_textSize, .int v_place, .int v_people, .ref q_ageing, .ref q_page, .int v_readPeople, .ref q_readAgeing, .ref q_readPage, .ref q_book, .int a60_0, .ref q_kept, .ref q_isKept, .int v_heard, .ref q_heardWho, .ref q_heardIs, .long v_seed, .ref q_tried, .ref q_chooser, .int v_choosers, .ref q_best, .int v_sets, .int v_surely, .ref q_alives]), (q_page, cA E 25 v_page), (q_book, cA E 350 a60_1)]) [0, 1, 2] rfl (by decide) ?_
          refine x_aload_n (pc' := 64) hZ dX4_plain_63 rfl 0 rfl ?_
          refine g_RX4_16 (pc' := 67) hZ dX4_plain_64 rfl 0 rfl rfl ?_
          refine x_iconst (v := 3) (pc' := 68) hZ (by decide) dX4_plain_67 rfl ?_
          refine x_iconst (v := 3) (pc' := 69) hZ (by decide) dX4_plain_68 rfl ?_
          refine x_iload_n (pc' := 70) hZ dX4_plain_69 rfl 1 rfl ?_
          refine x_imul (pc' := 71) hZ dX4_plain_70 rfl ?_
          refine x_iadd (pc' := 72) hZ dX4_plain_71 rfl ?_
          refine x_iload_n (pc' := 73) hZ dX4_plain_72 rfl 2 rfl ?_
          refine x_iadd (pc' := 74) hZ dX4_plain_73 rfl ?_
          refine x_dup2 (pc' := 75) hZ dX4_plain_74 rfl rfl rfl ?_
          obtain ⟨h75, h⟩ := h
          refine x_iald (pc' := 76) hZ h75 dX4_plain_75 rfl 1 rfl ?_
          refine x_iconst (v := 1) (pc' := 77) hZ (by decide) dX4_plain_76 rfl ?_
          refine x_isub (pc' := 78) hZ dX4_plain_77 rfl ?_
          refine x_topi (fun x78 e78 => ?_)
          replace h := h x78 e78
          obtain ⟨h78, h⟩ := h
          refine x_iast (pc' := 79) (ws' := [(q_this, cO 4 [.int 0, .ref q_text, .int v_textSize, .int v_place, .int v_people, .ref q_ageing, .ref q_page, .int v_readPeople, .ref q_readAgeing, .ref q_readPage, .ref q_book, .int a60_0, .ref q_kept, .ref q_isKept, .int v_heard, .ref q_heardWho, .ref q_heardIs, .long v_seed, .ref q_tried, .ref q_chooser, .int v_choosers, .ref q_best, .int v_sets, .int v_surely, .ref q_alives]), (q_page, cA E 25 (upd v_page (ix ((3 + (3 * l1)) + l2)) x78)), (q_book, cA E 350 a60_1)]) hZ h78 dX4_plain_78 rfl 1 rfl rfl ?_
          refine x_aload_n (pc' := 80) hZ dX4_plain_79 rfl 0 rfl ?_
          refine g_RX4_16 (pc' := 83) hZ dX4_plain_80 rfl 0 rfl rfl ?_
          refine x_iconst (v := 3) (pc' := 84) hZ (by decide) dX4_plain_83 rfl ?_
          refine x_iconst (v := 3) (pc' := 85) hZ (by decide) dX4_plain_84 rfl ?_
          refine x_iload_n (pc' := 86) hZ dX4_plain_85 rfl 1 rfl ?_
          refine x_imul (pc' := 87) hZ dX4_plain_86 rfl ?_
          refine x_iadd (pc' := 88) hZ dX4_plain_87 rfl ?_
          refine x_iload_n (pc' := 89) hZ dX4_plain_88 rfl 2 rfl ?_
          refine x_iadd (pc' := 90) hZ dX4_plain_89 rfl ?_
          obtain ⟨h90, h⟩ := h
          refine x_iald (pc' := 91) hZ h90 dX4_plain_90 rfl 1 rfl ?_
          exact hRet _ _ _ _ dX4_plain_91 ⟨_, _, _, _, rfl, h⟩
        · replace h := h.2 c53
          refine x_bipush (v := (-3)) (pc' := 58) hZ (by decide) dX4_plain_56 rfl ?_
          exact hRet _ _ _ _ dX4_plain_58 ⟨_, _, _, _, rfl, h⟩
    · replace h := h.2 c22
      refine x_iconst (v := (-1)) (pc' := 26) hZ (by decide) dX4_plain_25 rfl ?_
      exact hRet _ _ _ _ dX4_plain_26 ⟨_, _, _, _, rfl, h⟩
set_option maxHeartbeats 4000000 in
set_option maxRecDepth 100000 in
theorem t_X4_many_4 (E : XE) (Z : ZC) (l0 : Int32) {K : Int32 → Int32 → Prop} (hZ : XOK E Z RX4 cX4_many 3 { frames := 0, cells := 0, slots := 0, locals := 0 }) : ∀ (k : Nat) (l1 : Int32) (l2 : Int32), wl (fun rec v => b_X4_many_4 l0 K rec v.1 v.2) k (l1, l2) → (∀ (l1 : Int32) (l2 : Int32), K l1 l2 → XW E Z 0 0 [] [(1, .int l1)] [] 24) → XW E Z 0 0 [] [(0, .int l0), (1, .int l1), (2, .int l2)] [] 4 := by
  intro k
  induction k with
  | zero =>
    intro l1 l2 h
    exact h.elim
  | succ k ih =>
    intro l1 l2 h hK
    replace h := wl_succ h
    try dsimp only at h
    unfold b_X4_many_4 at h
    refine x_iload_n (pc' := 5) hZ dX4_many_4 rfl 2 rfl ?_
    refine x_bipush (v := 6) (pc' := 7) hZ (by decide) dX4_many_5 rfl ?_
    refine x_icmp_ge (tgt := 24) (pc' := 10) hZ dX4_many_7 (by decide) rfl (fun c7 => ?_) (fun c7 => ?_)
    · replace h := h.1 c7
      refine x_lv [1] (lv' := [(1, .int l1)]) rfl ?_
      exact hK l1 l2 h
    · replace h := h.2 c7
      refine x_iload_n (pc' := 11) hZ dX4_many_10 rfl 1 rfl ?_
      refine x_iload_n (pc' := 12) hZ dX4_many_11 rfl 0 rfl ?_
      refine x_iload_n (pc' := 13) hZ dX4_many_12 rfl 2 rfl ?_
      refine x_ishr (pc' := 14) hZ dX4_many_13 rfl ?_
      refine x_iconst (v := 1) (pc' := 15) hZ (by decide) dX4_many_14 rfl ?_
      refine x_iand (pc' := 16) hZ dX4_many_15 rfl ?_
      refine x_iadd (pc' := 17) hZ dX4_many_16 rfl ?_
      refine x_topi (fun x17 e17 => ?_)
      replace h := h x17 e17
      refine x_istore_n (i := 1) (pc' := 18) (lv' := [(1, .int x17), (0, .int l0), (2, .int l2)]) hZ dX4_many_17 rfl rfl (by decide) rfl ?_
      obtain ⟨x18, e18⟩ : ∃ y : Int32, y = l2 + 1 := ⟨_, rfl⟩
      replace h := h x18 e18
      refine x_iinc (i := 2) (v := x18) (pc' := 21) (lv' := [(2, .int x18), (1, .int x17), (0, .int l0)]) hZ dX4_many_18 rfl 2 rfl (by rw [e18]; rfl) (by decide) rfl ?_
      refine x_goto (pc' := 4) hZ dX4_many_21 (by decide) ?_
      refine x_lv [2, 1, 0] (lv' := [(0, .int l0), (1, .int x17), (2, .int x18)]) rfl ?_
      exact ih x17 x18 h hK
set_option maxHeartbeats 4000000 in
set_option maxRecDepth 100000 in
theorem c_X4_many (E : XE) (l0 : Int32) (post : Int32 → Prop) (h : p_X4_many l0 post) : ConI E yX4_many cX4_many 3 .int { frames := 0, cells := 0, slots := 0, locals := 0 } 0 0 [.int l0] [] (fun r w => w = [] ∧ post r ) := by
  refine ConI.of (by decide +kernel) (Nat.le_of_ble_eq_true rfl) (fun Z hZ hI hRet => ?_)
  replace hZ : XOK E Z RX4 cX4_many 3 { frames := 0, cells := 0, slots := 0, locals := 0 } := hZ
  clear hI
  show XW E Z 0 0 [] [(0, .int l0)] [] 0
  unfold p_X4_many at h
  refine x_iconst (v := 0) (pc' := 1) hZ (by decide) dX4_many_0 rfl ?_
  refine x_istore_n (i := 1) (pc' := 2) (lv' := [(1, .int 0), (0, .int l0)]) hZ dX4_many_1 rfl rfl (by decide) rfl ?_
  refine x_iconst (v := 0) (pc' := 3) hZ (by decide) dX4_many_2 rfl ?_
  refine x_istore_n (i := 2) (pc' := 4) (lv' := [(2, .int 0), (1, .int 0), (0, .int l0)]) hZ dX4_many_3 rfl rfl (by decide) rfl ?_
  refine x_lv [2, 1, 0] (lv' := [(0, .int l0), (1, .int 0), (2, .int 0)]) rfl ?_
  obtain ⟨k4, h⟩ := h
  refine t_X4_many_4 E Z l0 hZ  _ 0 0 h (fun l1_4 l2_4 h => ?_)
  refine x_iload_n (pc' := 25) hZ dX4_many_24 rfl 0 rfl ?_
  exact hRet _ _ _ _ dX4_many_25 ⟨rfl, h⟩
set_option maxHeartbeats 4000000 in
set_option maxRecDepth 100000 in
theorem c_X4_hunt (E : XE) (q_this : Nat) (q_text : Nat) (q_ageing : Nat) (q_page : Nat) (q_readAgeing : Nat) (q_readPage : Nat) (q_book : Nat) (q_kept : Nat) (q_isKept : Nat) (q_heardWho : Nat) (q_heardIs : Nat) (q_tried : Nat) (q_chooser : Nat) (q_best : Nat) (q_alives : Nat) (v_thrown : Int32) (v_textSize : Int32) (v_place : Int32) (v_people : Int32) (v_readPeople : Int32) (v_acts : Int32) (v_heard : Int32) (v_seed : Int64) (v_choosers : Int32) (v_sets : Int32) (v_surely : Int32) (v_page : Nat → Int32) (v_book : Nat → Int32) (l1 : Int32) (l2 : Int32) (post : Int32 → Int32 → Int32 → (Nat → Int32) → (Nat → Int32) → Prop) (h : p_X4_hunt v_thrown v_people v_acts v_page v_book l1 l2 post) : ConI E yX4_hunt cX4_hunt 3 .int { frames := 2, cells := 0, slots := 0, locals := 46 } 0 0 [.ref q_this, .int l1, .int l2] [(q_this, cO 4 [.int v_thrown, .ref q_text, .int v_textSize, .int v_place, .int v_people, .ref q_ageing, .ref q_page, .int v_readPeople, .ref q_readAgeing, .ref q_readPage, .ref q_book, .int v_acts, .ref q_kept, .ref q_isKept, .int v_heard, .ref q_heardWho, .ref q_heardIs, .long v_seed, .ref q_tried, .ref q_chooser, .int v_choosers, .ref q_best, .int v_sets, .int v_surely, .ref q_alives]), (q_page, cA E 25 v_page), (q_book, cA E 350 v_book)] (fun r w => ∃ (u_thrown : Int32) (u_acts : Int32) (u_page : Nat → Int32) (u_book : Nat → Int32), w = [(q_this, cO 4 [.int u_thrown, .ref q_text, .int v_textSize, .int v_place, .int v_people, .ref q_ageing, .ref q_page, .int v_readPeople, .ref q_readAgeing, .ref q_readPage, .ref q_book, .int u_acts, .ref q_kept, .ref q_isKept, .int v_heard, .ref q_heardWho, .ref q_heardIs, .long v_seed, .ref q_tried, .ref q_chooser, .int v_choosers, .ref q_best, .int v_sets, .int v_surely, .ref q_alives]), (q_page, cA E 25 u_page), (q_book, cA E 350 u_book)] ∧ post r u_thrown u_acts u_page u_book) := by
  refine ConI.of (by decide +kernel) (Nat.le_of_ble_eq_true rfl) (fun Z hZ hI hRet => ?_)
  replace hZ : XOK E Z RX4 cX4_hunt 3 { frames := 2, cells := 0, slots := 0, locals := 46 } := hZ
  clear hI
  show XW E Z 0 0 [(q_this, cO 4 [.int v_thrown, .ref q_text, .int v_textSize, .int v_place, .int v_people, .ref q_ageing, .ref q_page, .int v_readPeople, .ref q_readAgeing, .ref q_readPage, .ref q_book, .int v_acts, .ref q_kept, .ref q_isKept, .int v_heard, .ref q_heardWho, .ref q_heardIs, .long v_seed, .ref q_tried, .ref q_chooser, .int v_choosers, .ref q_best, .int v_sets, .int v_surely, .ref q_alives]), (q_page, cA E 25 v_page), (q_book, cA E 350 v_book)] [(0, .ref q_this), (1, .int l1), (2, .int l2)] [] 0
  unfold p_X4_hunt at h
  refine x_aload_n (pc' := 1) hZ dX4_hunt_0 rfl 0 rfl ?_
  refine x_iconst (v := 0) (pc' := 2) hZ (by decide) dX4_hunt_1 rfl ?_
  refine s_RX4_53 (pc' := 5) (ws' := [(q_this, cO 4 [.int 0, .ref q_text, .int v_textSize, .int v_place, .int v_people, .ref q_ageing, .ref q_page, .int v_readPeople, .ref q_readAgeing, .ref q_readPage, .ref q_book, .int v_acts, .ref q_kept, .ref q_isKept, .int v_heard, .ref q_heardWho, .ref q_heardIs, .long v_seed, .ref q_tried, .ref q_chooser, .int v_choosers, .ref q_best, .int v_sets, .int v_surely, .ref q_alives]), (q_page, cA E 25 v_page), (q_book, cA E 350 v_book)]) hZ dX4_hunt_2 rfl 0 rfl (Nat.le_of_ble_eq_true rfl) rfl ?_
  refine x_aload_n (pc' := 6) hZ dX4_hunt_5 rfl 0 rfl ?_
  refine x_iload_n (pc' := 7) hZ dX4_hunt_6 rfl 1 rfl ?_
  refine k_RX4_111 (pc' := 10) (q0 := 0) (as := [.int l1]) (rest := []) (c' := 0) (n' := 0) (wr := [(q_page, cA E 25 v_page), (q_book, cA E 350 v_book)]) hZ (c_X4_noOne E q_this q_text q_ageing q_page q_readAgeing q_readPage q_book q_kept q_isKept q_heardWho q_heardIs q_tried q_chooser q_best q_alives 0 v_textSize v_place v_people v_readPeople v_acts v_heard v_seed v_choosers v_sets v_surely l1 _ h) rfl dX4_hunt_7 rfl rfl rfl rfl rfl (Nat.le_of_ble_eq_true rfl) (Nat.le_of_ble_eq_true rfl) (Nat.le_of_ble_eq_true rfl) rfl rfl (Nat.le_of_ble_eq_true rfl) (Nat.le_of_ble_eq_true rfl) [0] [1, 2] rfl rfl (by decide) (by decide) (by decide) (fun r7 w7 hw => ?_)
  obtain ⟨rfl, h⟩ := hw
  refine x_ws (ws' := [(q_this, cO 4 [.int 0, .ref q_text, .int v_textSize, .int v_place, .int v_people, .ref q_ageing, .ref q_page, .int v_readPeople, .ref q_readAgeing, .ref q_readPage, .ref q_book, .int v_acts, .ref q_kept, .ref q_isKept, .int v_heard, .ref q_heardWho, .ref q_heardIs, .long v_seed, .ref q_tried, .ref q_chooser, .int v_choosers, .ref q_best, .int v_sets, .int v_surely, .ref q_alives]), (q_page, cA E 25 v_page), (q_book, cA E 350 v_book)]) [2, 0, 1] rfl (by decide) ?_
  refine x_if_eq (tgt := 15) (pc' := 13) hZ dX4_hunt_10 (by decide) rfl (fun c10 => ?_) (fun c10 => ?_)
  · replace h := h.1 c10
    refine x_iload_n (pc' := 16) hZ dX4_hunt_15 rfl 1 rfl ?_
    refine x_if_ne (tgt := 22) (pc' := 19) hZ dX4_hunt_16 (by decide) rfl (fun c16 => ?_) (fun c16 => ?_)
    · replace h := h.1 c16
      refine x_aload_n (pc' := 23) hZ dX4_hunt_22 rfl 0 rfl ?_
      refine g_RX4_16 (pc' := 26) hZ dX4_hunt_23 rfl 0 rfl rfl ?_
      refine x_bipush (v := 21) (pc' := 28) hZ (by decide) dX4_hunt_26 rfl ?_
      have h28 : vp_in 21 25 := by unfold vp_in; decide
      refine x_iald (pc' := 29) hZ h28 dX4_hunt_28 rfl 1 rfl ?_
      refine x_iload_n (pc' := 30) hZ dX4_hunt_29 rfl 1 rfl ?_
      refine k_RX4_90 (pc' := 33) (as := [.int (v_page (ix 21)), .int l1]) (rest := []) (c' := 0) (n' := 0) (wr := [(q_this, cO 4 [.int 0, .ref q_text, .int v_textSize, .int v_place, .int v_people, .ref q_ageing, .ref q_page, .int v_readPeople, .ref q_readAgeing, .ref q_readPage, .ref q_book, .int v_acts, .ref q_kept, .ref q_isKept, .int v_heard, .ref q_heardWho, .ref q_heardIs, .long v_seed, .ref q_tried, .ref q_chooser, .int v_choosers, .ref q_best, .int v_sets, .int v_surely, .ref q_alives]), (q_page, cA E 25 v_page), (q_book, cA E 350 v_book)]) hZ (c_X4_has E (v_page (ix 21)) l1 _ h) dX4_hunt_30 rfl rfl rfl rfl rfl (Nat.le_of_ble_eq_true rfl) (Nat.le_of_ble_eq_true rfl) (Nat.le_of_ble_eq_true rfl) rfl rfl (Nat.le_of_ble_eq_true rfl) (Nat.le_of_ble_eq_true rfl) [] [0, 1, 2] rfl rfl (by decide) (by decide) (by decide) (fun r30 w30 hw => ?_)
      obtain ⟨rfl, h⟩ := hw
      refine x_ws (ws' := [(q_this, cO 4 [.int 0, .ref q_text, .int v_textSize, .int v_place, .int v_people, .ref q_ageing, .ref q_page, .int v_readPeople, .ref q_readAgeing, .ref q_readPage, .ref q_book, .int v_acts, .ref q_kept, .ref q_isKept, .int v_heard, .ref q_heardWho, .ref q_heardIs, .long v_seed, .ref q_tried, .ref q_chooser, .int v_choosers, .ref q_best, .int v_sets, .int v_surely, .ref q_alives]), (q_page, cA E 25 v_page), (q_book, cA E 350 v_book)]) [0, 1, 2] rfl (by decide) ?_
      refine x_if_eq (tgt := 50) (pc' := 36) hZ dX4_hunt_33 (by decide) rfl (fun c33 => ?_) (fun c33 => ?_)
      · replace h := h.1 c33
        refine x_bipush (v := (-3)) (pc' := 52) hZ (by decide) dX4_hunt_50 rfl ?_
        exact hRet _ _ _ _ dX4_hunt_52 ⟨_, _, _, _, rfl, h⟩
      · replace h := h.2 c33
        refine x_aload_n (pc' := 37) hZ dX4_hunt_36 rfl 0 rfl ?_
        refine g_RX4_16 (pc' := 40) hZ dX4_hunt_37 rfl 0 rfl rfl ?_
        refine x_bipush (v := 22) (pc' := 42) hZ (by decide) dX4_hunt_40 rfl ?_
        have h42 : vp_in 22 25 := by unfold vp_in; decide
        refine x_iald (pc' := 43) hZ h42 dX4_hunt_42 rfl 1 rfl ?_
        refine x_iload_n (pc' := 44) hZ dX4_hunt_43 rfl 1 rfl ?_
        refine k_RX4_90 (pc' := 47) (as := [.int (v_page (ix 22)), .int l1]) (rest := []) (c' := 0) (n' := 0) (wr := [(q_this, cO 4 [.int 0, .ref q_text, .int v_textSize, .int v_place, .int v_people, .ref q_ageing, .ref q_page, .int v_readPeople, .ref q_readAgeing, .ref q_readPage, .ref q_book, .int v_acts, .ref q_kept, .ref q_isKept, .int v_heard, .ref q_heardWho, .ref q_heardIs, .long v_seed, .ref q_tried, .ref q_chooser, .int v_choosers, .ref q_best, .int v_sets, .int v_surely, .ref q_alives]), (q_page, cA E 25 v_page), (q_book, cA E 350 v_book)]) hZ (c_X4_has E (v_page (ix 22)) l1 _ h) dX4_hunt_44 rfl rfl rfl rfl rfl (Nat.le_of_ble_eq_true rfl) (Nat.le_of_ble_eq_true rfl) (Nat.le_of_ble_eq_true rfl) rfl rfl (Nat.le_of_ble_eq_true rfl) (Nat.le_of_ble_eq_true rfl) [] [0, 1, 2] rfl rfl (by decide) (by decide) (by decide) (fun r44 w44 hw => ?_)
        obtain ⟨rfl, h⟩ := hw
        refine x_ws (ws' := [(q_this, cO 4 [.int 0, .ref q_text, .int v_textSize, .int v_place, .int v_people, .ref q_ageing, .ref q_page, .int v_readPeople, .ref q_readAgeing, .ref q_readPage, .ref q_book, .int v_acts, .ref q_kept, .ref q_isKept, .int v_heard, .ref q_heardWho, .ref q_heardIs, .long v_seed, .ref q_tried, .ref q_chooser, .int v_choosers, .ref q_best, .int v_sets, .int v_surely, .ref q_alives]), (q_page, cA E 25 v_page), (q_book, cA E 350 v_book)]) [0, 1, 2] rfl (by decide) ?_
        refine x_if_eq (tgt := 53) (pc' := 50) hZ dX4_hunt_47 (by decide) rfl (fun c47 => ?_) (fun c47 => ?_)
        · replace h := h.1 c47
          refine x_aload_n (pc' := 54) hZ dX4_hunt_53 rfl 0 rfl ?_
          refine k_RX4_115 (pc' := 57) (q0 := 0) (as := []) (rest := []) (c' := 0) (n' := 0) (wr := []) hZ (c_X4_note E q_this q_text q_ageing q_page q_readAgeing q_readPage q_book q_kept q_isKept q_heardWho q_heardIs q_tried q_chooser q_best q_alives 0 v_textSize v_place v_people v_readPeople v_acts v_heard v_seed v_choosers v_sets v_surely v_page v_book _ h) rfl dX4_hunt_54 rfl rfl rfl rfl rfl (Nat.le_of_ble_eq_true rfl) (Nat.le_of_ble_eq_true rfl) (Nat.le_of_ble_eq_true rfl) rfl rfl (Nat.le_of_ble_eq_true rfl) (Nat.le_of_ble_eq_true rfl) [0, 1, 2] [] rfl rfl (by decide) (by decide) (by decide) (fun w54 hw => ?_)
          obtain ⟨a54_0, a54_1, rfl, h⟩ := hw
          refine x_ws (ws' := [(q_this, cO 4 [.int 0, .ref q_text, .int v_textSize, .int v_place, .int v_people, .ref q_ageing, .ref q_page, .int v_readPeople, .ref q_readAgeing, .ref q_readPage, .ref q_book, .int a54_0, .ref q_kept, .ref q_isKept, .int v_heard, .ref q_heardWho, .ref q_heardIs, .long v_seed, .ref q_tried, .ref q_chooser, .int v_choosers, .ref q_best, .int v_sets, .int v_surely, .ref q_alives]), (q_page, cA E 25 v_page), (q_book, cA E 350 a54_1)]) [0, 1, 2] rfl (by decide) ?_
          refine x_aload_n (pc' := 58) hZ dX4_hunt_57 rfl 0 rfl ?_
          refine g_RX4_16 (pc' := 61) hZ dX4_hunt_58 rfl 0 rfl rfl ?_
          refine x_bipush (v := 22) (pc' := 63) hZ (by decide) dX4_hunt_61 rfl ?_
          refine x_dup2 (pc' := 64) hZ dX4_hunt_63 rfl rfl rfl ?_
          have h64 : vp_in 22 25 := by unfold vp_in; decide
          refine x_iald (pc' := 65) hZ h64 dX4_hunt_64 rfl 1 rfl ?_
          refine x_iconst (v := 1) (pc' := 66) hZ (by decide) dX4_hunt_65 rfl ?_
          refine x_iload_n (pc' := 67) hZ dX4_hunt_66 rfl 1 rfl ?_
          refine x_ishl (pc' := 68) hZ dX4_hunt_67 rfl ?_
          refine x_ior (pc' := 69) hZ dX4_hunt_68 rfl ?_
          refine x_topi (fun x69 e69 => ?_)
          replace h := h x69 e69
          have h69 : vp_in 22 25 := by unfold vp_in; decide
          refine x_iast (pc' := 70) (ws' := [(q_this, cO 4 [.int 0, .ref q_text, .int v_textSize, .int v_place, .int v_people, .ref q_ageing, .ref q_page, .int v_readPeople, .ref q_readAgeing, .ref q_readPage, .ref q_book, .int a54_0, .ref q_kept, .ref q_isKept, .int v_heard, .ref q_heardWho, .ref q_heardIs, .long v_seed, .ref q_tried, .ref q_chooser, .int v_choosers, .ref q_best, .int v_sets, .int v_surely, .ref q_alives]), (q_page, cA E 25 (upd v_page (ix 22) x69)), (q_book, cA E 350 a54_1)]) hZ h69 dX4_hunt_69 rfl 1 rfl rfl ?_
          refine x_aload_n (pc' := 71) hZ dX4_hunt_70 rfl 0 rfl ?_
          refine g_RX4_16 (pc' := 74) hZ dX4_hunt_71 rfl 0 rfl rfl ?_
          refine x_bipush (v := 21) (pc' := 76) hZ (by decide) dX4_hunt_74 rfl ?_
          refine x_dup2 (pc' := 77) hZ dX4_hunt_76 rfl rfl rfl ?_
          have h77 : vp_in 21 25 := by unfold vp_in; decide
          refine x_iald (pc' := 78) hZ h77 dX4_hunt_77 rfl 1 rfl ?_
          refine x_iload_n (pc' := 79) hZ dX4_hunt_78 rfl 2 rfl ?_
          refine x_if_eq (tgt := 92) (pc' := 82) hZ dX4_hunt_79 (by decide) rfl (fun c79 => ?_) (fun c79 => ?_)
          · replace h := h.1 c79
            refine x_iconst (v := 1) (pc' := 93) hZ (by decide) dX4_hunt_92 rfl ?_
            refine x_iload_n (pc' := 94) hZ dX4_hunt_93 rfl 1 rfl ?_
            refine x_ishl (pc' := 95) hZ dX4_hunt_94 rfl ?_
            refine x_iconst (v := (-1)) (pc' := 96) hZ (by decide) dX4_hunt_95 rfl ?_
            refine x_ixor (pc' := 97) hZ dX4_hunt_96 rfl ?_
            refine x_iand (pc' := 98) hZ dX4_hunt_97 rfl ?_
            refine x_topi (fun x98 e98 => ?_)
            replace h := h x98 e98
            have h98 : vp_in 21 25 := by unfold vp_in; decide
            refine x_iast (pc' := 99) (ws' := [(q_this, cO 4 [.int 0, .ref q_text, .int v_textSize, .int v_place, .int v_people, .ref q_ageing, .ref q_page, .int v_readPeople, .ref q_readAgeing, .ref q_readPage, .ref q_book, .int a54_0, .ref q_kept, .ref q_isKept, .int v_heard, .ref q_heardWho, .ref q_heardIs, .long v_seed, .ref q_tried, .ref q_chooser, .int v_choosers, .ref q_best, .int v_sets, .int v_surely, .ref q_alives]), (q_page, cA E 25 (upd (upd v_page (ix 22) x69) (ix 21) x98)), (q_book, cA E 350 a54_1)]) hZ h98 dX4_hunt_98 rfl 1 rfl rfl ?_
            refine x_aload_n (pc' := 100) hZ dX4_hunt_99 rfl 0 rfl ?_
            refine g_RX4_16 (pc' := 103) hZ dX4_hunt_100 rfl 0 rfl rfl ?_
            refine x_bipush (v := 21) (pc' := 105) hZ (by decide) dX4_hunt_103 rfl ?_
            have h105 : vp_in 21 25 := by unfold vp_in; decide
            refine x_iald (pc' := 106) hZ h105 dX4_hunt_105 rfl 1 rfl ?_
            refine k_RX4_127 (pc' := 109) (as := [.int ((upd (upd v_page (ix 22) x69) (ix 21) x98) (ix 21))]) (rest := []) (c' := 0) (n' := 0) (wr := [(q_this, cO 4 [.int 0, .ref q_text, .int v_textSize, .int v_place, .int v_people, .ref q_ageing, .ref q_page, .int v_readPeople, .ref q_readAgeing, .ref q_readPage, .ref q_book, .int a54_0, .ref q_kept, .ref q_isKept, .int v_heard, .ref q_heardWho, .ref q_heardIs, .long v_seed, .ref q_tried, .ref q_chooser, .int v_choosers, .ref q_best, .int v_sets, .int v_surely, .ref q_alives]), (q_page, cA E 25 (upd (upd v_page (ix 22) x69) (ix 21) x98)), (q_book, cA E 350 a54_1)]) hZ (c_X4_many E ((upd (upd v_page (ix 22) x69) (ix 21) x98) (ix 21)) _ h) dX4_hunt_106 rfl rfl rfl rfl rfl (Nat.le_of_ble_eq_true rfl) (Nat.le_of_ble_eq_true rfl) (Nat.le_of_ble_eq_true rfl) rfl rfl (Nat.le_of_ble_eq_true rfl) (Nat.le_of_ble_eq_true rfl) [] [0, 1, 2] rfl rfl (by decide) (by decide) (by decide) (fun r106 w106 hw => ?_)
            obtain ⟨rfl, h⟩ := hw
            refine x_ws (ws' := [(q_this, cO 4 [.int 0, .ref q_text, .int v_textSize, .int v_place, .int v_people, .ref q_ageing, .ref q_page, .int v_readPeople, .ref q_readAgeing, .ref q_readPage, .ref q_book, .int a54_0, .ref q_kept, .ref q_isKept, .int v_heard, .ref q_heardWho, .ref q_heardIs, .long v_seed, .ref q_tried, .ref q_chooser, .int v_choosers, .ref q_best, .int v_sets, .int v_surely, .ref q_alives]), (q_page, cA E 25 (upd (upd v_page (ix 22) x69) (ix 21) x98)), (q_book, cA E 350 a54_1)]) [0, 1, 2] rfl (by decide) ?_
            exact hRet _ _ _ _ dX4_hunt_109 ⟨_, _, _, _, rfl, h⟩
          · replace h := h.2 c79
            refine x_aload_n (pc' := 83) hZ dX4_hunt_82 rfl 0 rfl ?_
            refine g_RX4_16 (pc' := 86) hZ dX4_hunt_83 rfl 0 rfl rfl ?_
            refine x_bipush (v := 21) (pc' := 88) hZ (by decide) dX4_hunt_86 rfl ?_
            have h88 : vp_in 21 25 := by unfold vp_in; decide
            refine x_iald (pc' := 89) hZ h88 dX4_hunt_88 rfl 1 rfl ?_
            refine x_goto (pc' := 97) hZ dX4_hunt_89 (by decide) ?_
            refine x_iand (pc' := 98) hZ dX4_hunt_97 rfl ?_
            refine x_topi (fun x98 e98 => ?_)
            replace h := h x98 e98
            have h98 : vp_in 21 25 := by unfold vp_in; decide
            refine x_iast (pc' := 99) (ws' := [(q_this, cO 4 [.int 0, .ref q_text, .int v_textSize, .int v_place, .int v_people, .ref q_ageing, .ref q_page, .int v_readPeople, .ref q_readAgeing, .ref q_readPage, .ref q_book, .int a54_0, .ref q_kept, .ref q_isKept, .int v_heard, .ref q_heardWho, .ref q_heardIs, .long v_seed, .ref q_tried, .ref q_chooser, .int v_choosers, .ref q_best, .int v_sets, .int v_surely, .ref q_alives]), (q_page, cA E 25 (upd (upd v_page (ix 22) x69) (ix 21) x98)), (q_book, cA E 350 a54_1)]) hZ h98 dX4_hunt_98 rfl 1 rfl rfl ?_
            refine x_aload_n (pc' := 100) hZ dX4_hunt_99 rfl 0 rfl ?_
            refine g_RX4_16 (pc' := 103) hZ dX4_hunt_100 rfl 0 rfl rfl ?_
            refine x_bipush (v := 21) (pc' := 105) hZ (by decide) dX4_hunt_103 rfl ?_
            have h105 : vp_in 21 25 := by unfold vp_in; decide
            refine x_iald (pc' := 106) hZ h105 dX4_hunt_105 rfl 1 rfl ?_
            refine k_RX4_127 (pc' := 109) (as := [.int ((upd (upd v_page (ix 22) x69) (ix 21) x98) (ix 21))]) (rest := []) (c' := 0) (n' := 0) (wr := [(q_this, cO 4 [.int 0, .ref q_text, .int v_textSize, .int v_place, .int v_people, .ref q_ageing, .ref q_page, .int v_readPeople, .ref q_readAgeing, .ref q_readPage, .ref q_book, .int a54_0, .ref q_kept, .ref q_isKept, .int v_heard, .ref q_heardWho, .ref q_heardIs, .long v_seed, .ref q_tried, .ref q_chooser, .int v_choosers, .ref q_best, .int v_sets, .int v_surely, .ref q_alives]), (q_page, cA E 25 (upd (upd v_page (ix 22) x69) (ix 21) x98)), (q_book, cA E 350 a54_1)]) hZ (c_X4_many E ((upd (upd v_page (ix 22) x69) (ix 21) x98) (ix 21)) _ h) dX4_hunt_106 rfl rfl rfl rfl rfl (Nat.le_of_ble_eq_true rfl) (Nat.le_of_ble_eq_true rfl) (Nat.le_of_ble_eq_true rfl) rfl rfl (Nat.le_of_ble_eq_true rfl) (Nat.le_of_ble_eq_true rfl) [] [0, 1, 2] rfl rfl (by decide) (by decide) (by decide) (fun r106 w106 hw => ?_)
            obtain ⟨rfl, h⟩ := hw
            refine x_ws (ws' := [(q_this, cO 4 [.int 0, .ref q_text, .int v_textSize, .int v_place, .int v_people, .ref q_ageing, .ref q_page, .int v_readPeople, .ref q_readAgeing, .ref q_readPage, .ref q_book, .int a54_0, .ref q_kept, .ref q_isKept, .int v_heard, .ref q_heardWho, .ref q_heardIs, .long v_seed, .ref q_tried, .ref q_chooser, .int v_choosers, .ref q_best, .int v_sets, .int v_surely, .ref q_alives]), (q_page, cA E 25 (upd (upd v_page (ix 22) x69) (ix 21) x98)), (q_book, cA E 350 a54_1)]) [0, 1, 2] rfl (by decide) ?_
            exact hRet _ _ _ _ dX4_hunt_109 ⟨_, _, _, _, rfl, h⟩
        · replace h := h.2 c47
          refine x_bipush (v := (-3)) (pc' := 52) hZ (by decide) dX4_hunt_50 rfl ?_
          exact hRet _ _ _ _ dX4_hunt_52 ⟨_, _, _, _, rfl, h⟩
    · replace h := h.2 c16
      refine x_bipush (v := (-2)) (pc' := 21) hZ (by decide) dX4_hunt_19 rfl ?_
      exact hRet _ _ _ _ dX4_hunt_21 ⟨_, _, _, _, rfl, h⟩
  · replace h := h.2 c10
    refine x_iconst (v := (-1)) (pc' := 14) hZ (by decide) dX4_hunt_13 rfl ?_
    exact hRet _ _ _ _ dX4_hunt_14 ⟨_, _, _, _, rfl, h⟩
set_option maxHeartbeats 4000000 in
set_option maxRecDepth 100000 in
theorem t_X4_undo_27 (E : XE) (Z : ZC) (q_this : Nat) (q_text : Nat) (q_ageing : Nat) (q_page : Nat) (q_readAgeing : Nat) (q_readPage : Nat) (q_book : Nat) (q_kept : Nat) (q_isKept : Nat) (q_heardWho : Nat) (q_heardIs : Nat) (q_tried : Nat) (q_chooser : Nat) (q_best : Nat) (q_alives : Nat) (v_thrown : Int32) (v_textSize : Int32) (v_place : Int32) (v_people : Int32) (v_readPeople : Int32) (v_acts : Int32) (v_heard : Int32) (v_seed : Int64) (v_choosers : Int32) (v_sets : Int32) (v_surely : Int32) (v_book : Nat → Int32) {K : Int32 → (Nat → Int32) → Prop} (hZ : XOK E Z RX4 cX4_undo 2 { frames := 0, cells := 0, slots := 0, locals := 0 }) : ∀ (k : Nat) (l1 : Int32) (v_page : (Nat → Int32)), wl (fun rec v => b_X4_undo_27 v_acts v_book K rec v.1 v.2) k (l1, v_page) → (∀ (l1 : Int32) (v_page : (Nat → Int32)), K l1 v_page → XW E Z 0 0 [(q_this, cO 4 [.int v_thrown, .ref q_text, .int v_textSize, .int v_place, .int v_people, .ref q_ageing, .ref q_page, .int v_readPeople, .ref q_readAgeing, .ref q_readPage, .ref q_book, .int v_acts, .ref q_kept, .ref q_isKept, .int v_heard, .ref q_heardWho, .ref q_heardIs, .long v_seed, .ref q_tried, .ref q_chooser, .int v_choosers, .ref q_best, .int v_sets, .int v_surely, .ref q_alives]), (q_page, cA E 25 v_page), (q_book, cA E 350 v_book)] [(0, .ref q_this)] [] 59) → XW E Z 0 0 [(q_this, cO 4 [.int v_thrown, .ref q_text, .int v_textSize, .int v_place, .int v_people, .ref q_ageing, .ref q_page, .int v_readPeople, .ref q_readAgeing, .ref q_readPage, .ref q_book, .int v_acts, .ref q_kept, .ref q_isKept, .int v_heard, .ref q_heardWho, .ref q_heardIs, .long v_seed, .ref q_tried, .ref q_chooser, .int v_choosers, .ref q_best, .int v_sets, .int v_surely, .ref q_alives]), (q_page, cA E 25 v_page), (q_book, cA E 350 v_book)] [(0, .ref q_this), (1, .int l1)] [] 27 := by
  intro k
  induction k with
  | zero =>
    intro l1 v_page h
    exact h.elim
  | succ k ih =>
    intro l1 v_page h hK
    replace h := wl_succ h
    try dsimp only at h
    unfold b_X4_undo_27 at h
    refine x_iload_n (pc' := 28) hZ dX4_undo_27 rfl 1 rfl ?_
    refine x_bipush (v := 25) (pc' := 30) hZ (by decide) dX4_undo_28 rfl ?_
    refine x_icmp_ge (tgt := 59) (pc' := 33) hZ dX4_undo_30 (by decide) rfl (fun c30 => ?_) (fun c30 => ?_)
    · replace h := h.1 c30
      refine x_lv [0] (lv' := [(0, .ref q_this)]) rfl ?_
      exact hK l1 v_page h
    · replace h := h.2 c30
      refine x_aload_n (pc' := 34) hZ dX4_undo_33 rfl 0 rfl ?_
      refine g_RX4_16 (pc' := 37) hZ dX4_undo_34 rfl 0 rfl rfl ?_
      refine x_iload_n (pc' := 38) hZ dX4_undo_37 rfl 1 rfl ?_
      refine x_aload_n (pc' := 39) hZ dX4_undo_38 rfl 0 rfl ?_
      refine g_RX4_25 (pc' := 42) hZ dX4_undo_39 rfl 0 rfl rfl ?_
      refine x_bipush (v := 25) (pc' := 44) hZ (by decide) dX4_undo_42 rfl ?_
      refine x_aload_n (pc' := 45) hZ dX4_undo_44 rfl 0 rfl ?_
      refine g_RX4_87 (pc' := 48) hZ dX4_undo_45 rfl 0 rfl rfl ?_
      refine x_imul (pc' := 49) hZ dX4_undo_48 rfl ?_
      refine x_iload_n (pc' := 50) hZ dX4_undo_49 rfl 1 rfl ?_
      refine x_iadd (pc' := 51) hZ dX4_undo_50 rfl ?_
      obtain ⟨h51, h⟩ := h
      refine x_iald (pc' := 52) hZ h51 dX4_undo_51 rfl 2 rfl ?_
      refine x_topi (fun x52 e52 => ?_)
      replace h := h x52 e52
      obtain ⟨h52, h⟩ := h
      refine x_iast (pc' := 53) (ws' := [(q_this, cO 4 [.int v_thrown, .ref q_text, .int v_textSize, .int v_place, .int v_people, .ref q_ageing, .ref q_page, .int v_readPeople, .ref q_readAgeing, .ref q_readPage, .ref q_book, .int v_acts, .ref q_kept, .ref q_isKept, .int v_heard, .ref q_heardWho, .ref q_heardIs, .long v_seed, .ref q_tried, .ref q_chooser, .int v_choosers, .ref q_best, .int v_sets, .int v_surely, .ref q_alives]), (q_page, cA E 25 (upd v_page (ix l1) x52)), (q_book, cA E 350 v_book)]) hZ h52 dX4_undo_52 rfl 1 rfl rfl ?_
      obtain ⟨x53, e53⟩ : ∃ y : Int32, y = l1 + 1 := ⟨_, rfl⟩
      replace h := h x53 e53
      refine x_iinc (i := 1) (v := x53) (pc' := 56) (lv' := [(1, .int x53), (0, .ref q_this)]) hZ dX4_undo_53 rfl 1 rfl (by rw [e53]; rfl) (by decide) rfl ?_
      refine x_goto (pc' := 27) hZ dX4_undo_56 (by decide) ?_
      refine x_lv [1, 0] (lv' := [(0, .ref q_this), (1, .int x53)]) rfl ?_
      exact ih x53 (upd v_page (ix l1) x52) h hK
set_option maxHeartbeats 4000000 in
set_option maxRecDepth 100000 in
theorem c_X4_undo (E : XE) (q_this : Nat) (q_text : Nat) (q_ageing : Nat) (q_page : Nat) (q_readAgeing : Nat) (q_readPage : Nat) (q_book : Nat) (q_kept : Nat) (q_isKept : Nat) (q_heardWho : Nat) (q_heardIs : Nat) (q_tried : Nat) (q_chooser : Nat) (q_best : Nat) (q_alives : Nat) (v_thrown : Int32) (v_textSize : Int32) (v_place : Int32) (v_people : Int32) (v_readPeople : Int32) (v_acts : Int32) (v_heard : Int32) (v_seed : Int64) (v_choosers : Int32) (v_sets : Int32) (v_surely : Int32) (v_page : Nat → Int32) (v_book : Nat → Int32) (post : Int32 → Int32 → Int32 → (Nat → Int32) → Prop) (h : p_X4_undo v_thrown v_acts v_page v_book post) : ConI E yX4_undo cX4_undo 2 .int { frames := 0, cells := 0, slots := 0, locals := 0 } 0 0 [.ref q_this] [(q_this, cO 4 [.int v_thrown, .ref q_text, .int v_textSize, .int v_place, .int v_people, .ref q_ageing, .ref q_page, .int v_readPeople, .ref q_readAgeing, .ref q_readPage, .ref q_book, .int v_acts, .ref q_kept, .ref q_isKept, .int v_heard, .ref q_heardWho, .ref q_heardIs, .long v_seed, .ref q_tried, .ref q_chooser, .int v_choosers, .ref q_best, .int v_sets, .int v_surely, .ref q_alives]), (q_page, cA E 25 v_page), (q_book, cA E 350 v_book)] (fun r w => ∃ (u_thrown : Int32) (u_acts : Int32) (u_page : Nat → Int32), w = [(q_this, cO 4 [.int u_thrown, .ref q_text, .int v_textSize, .int v_place, .int v_people, .ref q_ageing, .ref q_page, .int v_readPeople, .ref q_readAgeing, .ref q_readPage, .ref q_book, .int u_acts, .ref q_kept, .ref q_isKept, .int v_heard, .ref q_heardWho, .ref q_heardIs, .long v_seed, .ref q_tried, .ref q_chooser, .int v_choosers, .ref q_best, .int v_sets, .int v_surely, .ref q_alives]), (q_page, cA E 25 u_page), (q_book, cA E 350 v_book)] ∧ post r u_thrown u_acts u_page) := by
  refine ConI.of (by decide +kernel) (Nat.le_of_ble_eq_true rfl) (fun Z hZ hI hRet => ?_)
  replace hZ : XOK E Z RX4 cX4_undo 2 { frames := 0, cells := 0, slots := 0, locals := 0 } := hZ
  clear hI
  show XW E Z 0 0 [(q_this, cO 4 [.int v_thrown, .ref q_text, .int v_textSize, .int v_place, .int v_people, .ref q_ageing, .ref q_page, .int v_readPeople, .ref q_readAgeing, .ref q_readPage, .ref q_book, .int v_acts, .ref q_kept, .ref q_isKept, .int v_heard, .ref q_heardWho, .ref q_heardIs, .long v_seed, .ref q_tried, .ref q_chooser, .int v_choosers, .ref q_best, .int v_sets, .int v_surely, .ref q_alives]), (q_page, cA E 25 v_page), (q_book, cA E 350 v_book)] [(0, .ref q_this)] [] 0
  unfold p_X4_undo at h
  refine x_aload_n (pc' := 1) hZ dX4_undo_0 rfl 0 rfl ?_
  refine x_iconst (v := 0) (pc' := 2) hZ (by decide) dX4_undo_1 rfl ?_
  refine s_RX4_53 (pc' := 5) (ws' := [(q_this, cO 4 [.int 0, .ref q_text, .int v_textSize, .int v_place, .int v_people, .ref q_ageing, .ref q_page, .int v_readPeople, .ref q_readAgeing, .ref q_readPage, .ref q_book, .int v_acts, .ref q_kept, .ref q_isKept, .int v_heard, .ref q_heardWho, .ref q_heardIs, .long v_seed, .ref q_tried, .ref q_chooser, .int v_choosers, .ref q_best, .int v_sets, .int v_surely, .ref q_alives]), (q_page, cA E 25 v_page), (q_book, cA E 350 v_book)]) hZ dX4_undo_2 rfl 0 rfl (Nat.le_of_ble_eq_true rfl) rfl ?_
  refine x_aload_n (pc' := 6) hZ dX4_undo_5 rfl 0 rfl ?_
  refine g_RX4_87 (pc' := 9) hZ dX4_undo_6 rfl 0 rfl rfl ?_
  refine x_if_ne (tgt := 15) (pc' := 12) hZ dX4_undo_9 (by decide) rfl (fun c9 => ?_) (fun c9 => ?_)
  · replace h := h.1 c9
    refine x_aload_n (pc' := 16) hZ dX4_undo_15 rfl 0 rfl ?_
    refine x_dup (pc' := 17) hZ dX4_undo_16 rfl rfl ?_
    refine g_RX4_87 (pc' := 20) hZ dX4_undo_17 rfl 0 rfl rfl ?_
    refine x_iconst (v := 1) (pc' := 21) hZ (by decide) dX4_undo_20 rfl ?_
    refine x_isub (pc' := 22) hZ dX4_undo_21 rfl ?_
    refine x_topi (fun x22 e22 => ?_)
    replace h := h x22 e22
    refine s_RX4_87 (pc' := 25) (ws' := [(q_this, cO 4 [.int 0, .ref q_text, .int v_textSize, .int v_place, .int v_people, .ref q_ageing, .ref q_page, .int v_readPeople, .ref q_readAgeing, .ref q_readPage, .ref q_book, .int x22, .ref q_kept, .ref q_isKept, .int v_heard, .ref q_heardWho, .ref q_heardIs, .long v_seed, .ref q_tried, .ref q_chooser, .int v_choosers, .ref q_best, .int v_sets, .int v_surely, .ref q_alives]), (q_page, cA E 25 v_page), (q_book, cA E 350 v_book)]) hZ dX4_undo_22 rfl 0 rfl (Nat.le_of_ble_eq_true rfl) rfl ?_
    refine x_iconst (v := 0) (pc' := 26) hZ (by decide) dX4_undo_25 rfl ?_
    refine x_istore_n (i := 1) (pc' := 27) (lv' := [(1, .int 0), (0, .ref q_this)]) hZ dX4_undo_26 rfl rfl (by decide) rfl ?_
    refine x_lv [1, 0] (lv' := [(0, .ref q_this), (1, .int 0)]) rfl ?_
    obtain ⟨k27, h⟩ := h
    refine t_X4_undo_27 E Z q_this q_text q_ageing q_page q_readAgeing q_readPage q_book q_kept q_isKept q_heardWho q_heardIs q_tried q_chooser q_best q_alives 0 v_textSize v_place v_people v_readPeople x22 v_heard v_seed v_choosers v_sets v_surely v_book hZ  _ 0 v_page h (fun l1_27 v_page_27 h => ?_)
    refine x_aload_n (pc' := 60) hZ dX4_undo_59 rfl 0 rfl ?_
    refine g_RX4_87 (pc' := 63) hZ dX4_undo_60 rfl 0 rfl rfl ?_
    exact hRet _ _ _ _ dX4_undo_63 ⟨_, _, _, rfl, h⟩
  · replace h := h.2 c9
    refine x_bipush (v := (-3)) (pc' := 14) hZ (by decide) dX4_undo_12 rfl ?_
    exact hRet _ _ _ _ dX4_undo_14 ⟨_, _, _, rfl, h⟩
set_option maxHeartbeats 4000000 in
set_option maxRecDepth 100000 in
theorem t_X4_ten_4 (E : XE) (Z : ZC) (l0 : Int32) {K : Int32 → Int32 → Prop} (hZ : XOK E Z RX4 cX4_ten 3 { frames := 0, cells := 0, slots := 0, locals := 0 }) : ∀ (k : Nat) (l1 : Int32) (l2 : Int32), wl (fun rec v => b_X4_ten_4 l0 K rec v.1 v.2) k (l1, l2) → (∀ (l1 : Int32) (l2 : Int32), K l1 l2 → XW E Z 0 0 [] [(1, .int l1)] [] 20) → XW E Z 0 0 [] [(0, .int l0), (1, .int l1), (2, .int l2)] [] 4 := by
  intro k
  induction k with
  | zero =>
    intro l1 l2 h
    exact h.elim
  | succ k ih =>
    intro l1 l2 h hK
    replace h := wl_succ h
    try dsimp only at h
    unfold b_X4_ten_4 at h
    refine x_iload_n (pc' := 5) hZ dX4_ten_4 rfl 2 rfl ?_
    refine x_iload_n (pc' := 6) hZ dX4_ten_5 rfl 0 rfl ?_
    refine x_icmp_ge (tgt := 20) (pc' := 9) hZ dX4_ten_6 (by decide) rfl (fun c6 => ?_) (fun c6 => ?_)
    · replace h := h.1 c6
      refine x_lv [1] (lv' := [(1, .int l1)]) rfl ?_
      exact hK l1 l2 h
    · replace h := h.2 c6
      refine x_iload_n (pc' := 10) hZ dX4_ten_9 rfl 1 rfl ?_
      refine x_bipush (v := 10) (pc' := 12) hZ (by decide) dX4_ten_10 rfl ?_
      refine x_imul (pc' := 13) hZ dX4_ten_12 rfl ?_
      refine x_topi (fun x13 e13 => ?_)
      replace h := h x13 e13
      refine x_istore_n (i := 1) (pc' := 14) (lv' := [(1, .int x13), (0, .int l0), (2, .int l2)]) hZ dX4_ten_13 rfl rfl (by decide) rfl ?_
      obtain ⟨x14, e14⟩ : ∃ y : Int32, y = l2 + 1 := ⟨_, rfl⟩
      replace h := h x14 e14
      refine x_iinc (i := 2) (v := x14) (pc' := 17) (lv' := [(2, .int x14), (1, .int x13), (0, .int l0)]) hZ dX4_ten_14 rfl 2 rfl (by rw [e14]; rfl) (by decide) rfl ?_
      refine x_goto (pc' := 4) hZ dX4_ten_17 (by decide) ?_
      refine x_lv [2, 1, 0] (lv' := [(0, .int l0), (1, .int x13), (2, .int x14)]) rfl ?_
      exact ih x13 x14 h hK
set_option maxHeartbeats 4000000 in
set_option maxRecDepth 100000 in
theorem c_X4_ten (E : XE) (l0 : Int32) (post : Int32 → Prop) (h : p_X4_ten l0 post) : ConI E yX4_ten cX4_ten 3 .int { frames := 0, cells := 0, slots := 0, locals := 0 } 0 0 [.int l0] [] (fun r w => w = [] ∧ post r ) := by
  refine ConI.of (by decide +kernel) (Nat.le_of_ble_eq_true rfl) (fun Z hZ hI hRet => ?_)
  replace hZ : XOK E Z RX4 cX4_ten 3 { frames := 0, cells := 0, slots := 0, locals := 0 } := hZ
  clear hI
  show XW E Z 0 0 [] [(0, .int l0)] [] 0
  unfold p_X4_ten at h
  refine x_iconst (v := 1) (pc' := 1) hZ (by decide) dX4_ten_0 rfl ?_
  refine x_istore_n (i := 1) (pc' := 2) (lv' := [(1, .int 1), (0, .int l0)]) hZ dX4_ten_1 rfl rfl (by decide) rfl ?_
  refine x_iconst (v := 0) (pc' := 3) hZ (by decide) dX4_ten_2 rfl ?_
  refine x_istore_n (i := 2) (pc' := 4) (lv' := [(2, .int 0), (1, .int 1), (0, .int l0)]) hZ dX4_ten_3 rfl rfl (by decide) rfl ?_
  refine x_lv [2, 1, 0] (lv' := [(0, .int l0), (1, .int 1), (2, .int 0)]) rfl ?_
  obtain ⟨k4, h⟩ := h
  refine t_X4_ten_4 E Z l0 hZ  _ 1 0 h (fun l1_4 l2_4 h => ?_)
  refine x_iload_n (pc' := 21) hZ dX4_ten_20 rfl 0 rfl ?_
  exact hRet _ _ _ _ dX4_ten_21 ⟨rfl, h⟩
set_option maxHeartbeats 4000000 in
set_option maxRecDepth 100000 in
theorem t_X4_begin_2 (E : XE) (Z : ZC) (q_this : Nat) (q_text : Nat) (q_ageing : Nat) (q_page : Nat) (q_readAgeing : Nat) (q_readPage : Nat) (q_book : Nat) (q_kept : Nat) (q_isKept : Nat) (q_heardWho : Nat) (q_heardIs : Nat) (q_tried : Nat) (q_chooser : Nat) (q_best : Nat) (q_alives : Nat) (v_thrown : Int32) (v_textSize : Int32) (v_place : Int32) (v_people : Int32) (v_readPeople : Int32) (v_acts : Int32) (v_heard : Int32) (v_seed : Int64) (v_choosers : Int32) (v_sets : Int32) (v_surely : Int32) (v_page : Nat → Int32) {K : Int32 → (Nat → Int32) → Prop} (hZ : XOK E Z RX4 cX4_begin 2 { frames := 0, cells := 0, slots := 0, locals := 0 }) : ∀ (k : Nat) (l1 : Int32) (v_tried : (Nat → Int32)), wl (fun rec v => b_X4_begin_2 v_page K rec v.1 v.2) k (l1, v_tried) → (∀ (l1 : Int32) (v_tried : (Nat → Int32)), K l1 v_tried → XW E Z 0 0 [(q_this, cO 4 [.int v_thrown, .ref q_text, .int v_textSize, .int v_place, .int v_people, .ref q_ageing, .ref q_page, .int v_readPeople, .ref q_readAgeing, .ref q_readPage, .ref q_book, .int v_acts, .ref q_kept, .ref q_isKept, .int v_heard, .ref q_heardWho, .ref q_heardIs, .long v_seed, .ref q_tried, .ref q_chooser, .int v_choosers, .ref q_best, .int v_sets, .int v_surely, .ref q_alives]), (q_page, cA E 25 v_page), (q_tried, cA E 25 v_tried)] [] [] 26) → XW E Z 0 0 [(q_this, cO 4 [.int v_thrown, .ref q_text, .int v_textSize, .int v_place, .int v_people, .ref q_ageing, .ref q_page, .int v_readPeople, .ref q_readAgeing, .ref q_readPage, .ref q_book, .int v_acts, .ref q_kept, .ref q_isKept, .int v_heard, .ref q_heardWho, .ref q_heardIs, .long v_seed, .ref q_tried, .ref q_chooser, .int v_choosers, .ref q_best, .int v_sets, .int v_surely, .ref q_alives]), (q_page, cA E 25 v_page), (q_tried, cA E 25 v_tried)] [(0, .ref q_this), (1, .int l1)] [] 2 := by
  intro k
  induction k with
  | zero =>
    intro l1 v_tried h
    exact h.elim
  | succ k ih =>
    intro l1 v_tried h hK
    replace h := wl_succ h
    try dsimp only at h
    unfold b_X4_begin_2 at h
    refine x_iload_n (pc' := 3) hZ dX4_begin_2 rfl 1 rfl ?_
    refine x_bipush (v := 25) (pc' := 5) hZ (by decide) dX4_begin_3 rfl ?_
    refine x_icmp_ge (tgt := 26) (pc' := 8) hZ dX4_begin_5 (by decide) rfl (fun c5 => ?_) (fun c5 => ?_)
    · replace h := h.1 c5
      refine x_lv [] (lv' := []) rfl ?_
      exact hK l1 v_tried h
    · replace h := h.2 c5
      refine x_aload_n (pc' := 9) hZ dX4_begin_8 rfl 0 rfl ?_
      refine g_RX4_41 (pc' := 12) hZ dX4_begin_9 rfl 0 rfl rfl ?_
      refine x_iload_n (pc' := 13) hZ dX4_begin_12 rfl 1 rfl ?_
      refine x_aload_n (pc' := 14) hZ dX4_begin_13 rfl 0 rfl ?_
      refine g_RX4_16 (pc' := 17) hZ dX4_begin_14 rfl 0 rfl rfl ?_
      refine x_iload_n (pc' := 18) hZ dX4_begin_17 rfl 1 rfl ?_
      obtain ⟨h18, h⟩ := h
      refine x_iald (pc' := 19) hZ h18 dX4_begin_18 rfl 1 rfl ?_
      refine x_topi (fun x19 e19 => ?_)
      replace h := h x19 e19
      obtain ⟨h19, h⟩ := h
      refine x_iast (pc' := 20) (ws' := [(q_this, cO 4 [.int v_thrown, .ref q_text, .int v_textSize, .int v_place, .int v_people, .ref q_ageing, .ref q_page, .int v_readPeople, .ref q_readAgeing, .ref q_readPage, .ref q_book, .int v_acts, .ref q_kept, .ref q_isKept, .int v_heard, .ref q_heardWho, .ref q_heardIs, .long v_seed, .ref q_tried, .ref q_chooser, .int v_choosers, .ref q_best, .int v_sets, .int v_surely, .ref q_alives]), (q_page, cA E 25 v_page), (q_tried, cA E 25 (upd v_tried (ix l1) x19))]) hZ h19 dX4_begin_19 rfl 2 rfl rfl ?_
      obtain ⟨x20, e20⟩ : ∃ y : Int32, y = l1 + 1 := ⟨_, rfl⟩
      replace h := h x20 e20
      refine x_iinc (i := 1) (v := x20) (pc' := 23) (lv' := [(1, .int x20), (0, .ref q_this)]) hZ dX4_begin_20 rfl 1 rfl (by rw [e20]; rfl) (by decide) rfl ?_
      refine x_goto (pc' := 2) hZ dX4_begin_23 (by decide) ?_
      refine x_lv [1, 0] (lv' := [(0, .ref q_this), (1, .int x20)]) rfl ?_
      exact ih x20 (upd v_tried (ix l1) x19) h hK
set_option maxHeartbeats 4000000 in
set_option maxRecDepth 100000 in
theorem c_X4_begin (E : XE) (q_this : Nat) (q_text : Nat) (q_ageing : Nat) (q_page : Nat) (q_readAgeing : Nat) (q_readPage : Nat) (q_book : Nat) (q_kept : Nat) (q_isKept : Nat) (q_heardWho : Nat) (q_heardIs : Nat) (q_tried : Nat) (q_chooser : Nat) (q_best : Nat) (q_alives : Nat) (v_thrown : Int32) (v_textSize : Int32) (v_place : Int32) (v_people : Int32) (v_readPeople : Int32) (v_acts : Int32) (v_heard : Int32) (v_seed : Int64) (v_choosers : Int32) (v_sets : Int32) (v_surely : Int32) (v_page : Nat → Int32) (v_tried : Nat → Int32) (post : (Nat → Int32) → Prop) (h : p_X4_begin v_page v_tried post) : ConV E yX4_begin cX4_begin 2 { frames := 0, cells := 0, slots := 0, locals := 0 } 0 0 [.ref q_this] [(q_this, cO 4 [.int v_thrown, .ref q_text, .int v_textSize, .int v_place, .int v_people, .ref q_ageing, .ref q_page, .int v_readPeople, .ref q_readAgeing, .ref q_readPage, .ref q_book, .int v_acts, .ref q_kept, .ref q_isKept, .int v_heard, .ref q_heardWho, .ref q_heardIs, .long v_seed, .ref q_tried, .ref q_chooser, .int v_choosers, .ref q_best, .int v_sets, .int v_surely, .ref q_alives]), (q_page, cA E 25 v_page), (q_tried, cA E 25 v_tried)] (fun w => ∃ (u_tried : Nat → Int32), w = [(q_this, cO 4 [.int v_thrown, .ref q_text, .int v_textSize, .int v_place, .int v_people, .ref q_ageing, .ref q_page, .int v_readPeople, .ref q_readAgeing, .ref q_readPage, .ref q_book, .int v_acts, .ref q_kept, .ref q_isKept, .int v_heard, .ref q_heardWho, .ref q_heardIs, .long v_seed, .ref q_tried, .ref q_chooser, .int v_choosers, .ref q_best, .int v_sets, .int v_surely, .ref q_alives]), (q_page, cA E 25 v_page), (q_tried, cA E 25 u_tried)] ∧ post u_tried) := by
  refine ConV.of (by decide +kernel) (Nat.le_of_ble_eq_true rfl) (fun Z hZ hI hRet => ?_)
  replace hZ : XOK E Z RX4 cX4_begin 2 { frames := 0, cells := 0, slots := 0, locals := 0 } := hZ
  clear hI
  show XW E Z 0 0 [(q_this, cO 4 [.int v_thrown, .ref q_text, .int v_textSize, .int v_place, .int v_people, .ref q_ageing, .ref q_page, .int v_readPeople, .ref q_readAgeing, .ref q_readPage, .ref q_book, .int v_acts, .ref q_kept, .ref q_isKept, .int v_heard, .ref q_heardWho, .ref q_heardIs, .long v_seed, .ref q_tried, .ref q_chooser, .int v_choosers, .ref q_best, .int v_sets, .int v_surely, .ref q_alives]), (q_page, cA E 25 v_page), (q_tried, cA E 25 v_tried)] [(0, .ref q_this)] [] 0
  unfold p_X4_begin at h
  refine x_iconst (v := 0) (pc' := 1) hZ (by decide) dX4_begin_0 rfl ?_
  refine x_istore_n (i := 1) (pc' := 2) (lv' := [(1, .int 0), (0, .ref q_this)]) hZ dX4_begin_1 rfl rfl (by decide) rfl ?_
  refine x_lv [1, 0] (lv' := [(0, .ref q_this), (1, .int 0)]) rfl ?_
  obtain ⟨k2, h⟩ := h
  refine t_X4_begin_2 E Z q_this q_text q_ageing q_page q_readAgeing q_readPage q_book q_kept q_isKept q_heardWho q_heardIs q_tried q_chooser q_best q_alives v_thrown v_textSize v_place v_people v_readPeople v_acts v_heard v_seed v_choosers v_sets v_surely v_page hZ  _ 0 v_tried h (fun l1_2 v_tried_2 h => ?_)
  exact hRet _ _ _ dX4_begin_26 ⟨_, rfl, h⟩
set_option maxHeartbeats 4000000 in
set_option maxRecDepth 100000 in
theorem t_X4_judged_42 (E : XE) (Z : ZC) (q_this : Nat) (q_text : Nat) (q_ageing : Nat) (q_page : Nat) (q_readAgeing : Nat) (q_readPage : Nat) (q_book : Nat) (q_kept : Nat) (q_isKept : Nat) (q_heardWho : Nat) (q_heardIs : Nat) (q_tried : Nat) (q_chooser : Nat) (q_best : Nat) (q_alives : Nat) (v_thrown : Int32) (v_textSize : Int32) (v_place : Int32) (v_people : Int32) (v_readPeople : Int32) (v_acts : Int32) (v_heard : Int32) (v_seed : Int64) (v_choosers : Int32) (v_sets : Int32) (v_surely : Int32) (v_page : Nat → Int32) (l1 : Int32) (l2 : Int32) {post : Int32 → Int32 → (Nat → Int32) → Prop} {K : Int32 → (Nat → Int32) → Prop} (hZ : XOK E Z RX4 cX4_judged 5 { frames := 3, cells := 0, slots := 0, locals := 76 }) (hRet : RetI E Z cX4_judged 0 0 (fun r w => ∃ (u_thrown : Int32) (u_tried : Nat → Int32), w = [(q_this, cO 4 [.int u_thrown, .ref q_text, .int v_textSize, .int v_place, .int v_people, .ref q_ageing, .ref q_page, .int v_readPeople, .ref q_readAgeing, .ref q_readPage, .ref q_book, .int v_acts, .ref q_kept, .ref q_isKept, .int v_heard, .ref q_heardWho, .ref q_heardIs, .long v_seed, .ref q_tried, .ref q_chooser, .int v_choosers, .ref q_best, .int v_sets, .int v_surely, .ref q_alives]), (q_page, cA E 25 v_page), (q_tried, cA E 25 u_tried)] ∧ post r u_thrown u_tried)) : ∀ (k : Nat) (l3 : Int32) (v_tried : (Nat → Int32)), wl (fun rec v => b_X4_judged_42 l1 l2 v_thrown v_people post K rec v.1 v.2) k (l3, v_tried) → (∀ (l3 : Int32) (v_tried : (Nat → Int32)), K l3 v_tried → XW E Z 0 0 [(q_this, cO 4 [.int v_thrown, .ref q_text, .int v_textSize, .int v_place, .int v_people, .ref q_ageing, .ref q_page, .int v_readPeople, .ref q_readAgeing, .ref q_readPage, .ref q_book, .int v_acts, .ref q_kept, .ref q_isKept, .int v_heard, .ref q_heardWho, .ref q_heardIs, .long v_seed, .ref q_tried, .ref q_chooser, .int v_choosers, .ref q_best, .int v_sets, .int v_surely, .ref q_alives]), (q_page, cA E 25 v_page), (q_tried, cA E 25 v_tried)] [] [] 108) → XW E Z 0 0 [(q_this, cO 4 [.int v_thrown, .ref q_text, .int v_textSize, .int v_place, .int v_people, .ref q_ageing, .ref q_page, .int v_readPeople, .ref q_readAgeing, .ref q_readPage, .ref q_book, .int v_acts, .ref q_kept, .ref q_isKept, .int v_heard, .ref q_heardWho, .ref q_heardIs, .long v_seed, .ref q_tried, .ref q_chooser, .int v_choosers, .ref q_best, .int v_sets, .int v_surely, .ref q_alives]), (q_page, cA E 25 v_page), (q_tried, cA E 25 v_tried)] [(0, .ref q_this), (1, .int l1), (2, .int l2), (3, .int l3)] [] 42 := by
  intro k
  induction k with
  | zero =>
    intro l3 v_tried h
    exact h.elim
  | succ k ih =>
    intro l3 v_tried h hK
    replace h := wl_succ h
    try dsimp only at h
    unfold b_X4_judged_42 at h
    refine x_iload_n (pc' := 43) hZ dX4_judged_42 rfl 3 rfl ?_
    refine x_iload_n (pc' := 44) hZ dX4_judged_43 rfl 1 rfl ?_
    refine x_icmp_ge (tgt := 108) (pc' := 47) hZ dX4_judged_44 (by decide) rfl (fun c44 => ?_) (fun c44 => ?_)
    · replace h := h.1 c44
      refine x_lv [] (lv' := []) rfl ?_
      exact hK l3 v_tried h
    · replace h := h.2 c44
      refine x_iload_n (pc' := 48) hZ dX4_judged_47 rfl 2 rfl ?_
      refine x_iload_n (pc' := 49) hZ dX4_judged_48 rfl 1 rfl ?_
      refine x_iconst (v := 1) (pc' := 50) hZ (by decide) dX4_judged_49 rfl ?_
      refine x_isub (pc' := 51) hZ dX4_judged_50 rfl ?_
      refine x_iload_n (pc' := 52) hZ dX4_judged_51 rfl 3 rfl ?_
      refine x_isub (pc' := 53) hZ dX4_judged_52 rfl ?_
      refine k_RX4_133 (pc' := 56) (as := [.int ((l1 - 1) - l3)]) (rest := [.int l2]) (c' := 0) (n' := 0) (wr := [(q_this, cO 4 [.int v_thrown, .ref q_text, .int v_textSize, .int v_place, .int v_people, .ref q_ageing, .ref q_page, .int v_readPeople, .ref q_readAgeing, .ref q_readPage, .ref q_book, .int v_acts, .ref q_kept, .ref q_isKept, .int v_heard, .ref q_heardWho, .ref q_heardIs, .long v_seed, .ref q_tried, .ref q_chooser, .int v_choosers, .ref q_best, .int v_sets, .int v_surely, .ref q_alives]), (q_page, cA E 25 v_page), (q_tried, cA E 25 v_tried)]) hZ (c_X4_ten E ((l1 - 1) - l3) _ h) dX4_judged_53 rfl rfl rfl rfl rfl (Nat.le_of_ble_eq_true rfl) (Nat.le_of_ble_eq_true rfl) (Nat.le_of_ble_eq_true rfl) rfl rfl (Nat.le_of_ble_eq_true rfl) (Nat.le_of_ble_eq_true rfl) [] [0, 1, 2] rfl rfl (by decide) (by decide) (by decide) (fun r53 w53 hw => ?_)
      obtain ⟨rfl, h⟩ := hw
      refine x_ws (ws' := [(q_this, cO 4 [.int v_thrown, .ref q_text, .int v_textSize, .int v_place, .int v_people, .ref q_ageing, .ref q_page, .int v_readPeople, .ref q_readAgeing, .ref q_readPage, .ref q_book, .int v_acts, .ref q_kept, .ref q_isKept, .int v_heard, .ref q_heardWho, .ref q_heardIs, .long v_seed, .ref q_tried, .ref q_chooser, .int v_choosers, .ref q_best, .int v_sets, .int v_surely, .ref q_alives]), (q_page, cA E 25 v_page), (q_tried, cA E 25 v_tried)]) [0, 1, 2] rfl (by decide) ?_
      obtain ⟨h56, h⟩ := h
      refine x_idiv (pc' := 57) hZ h56 dX4_judged_56 rfl ?_
      refine x_bipush (v := 10) (pc' := 59) hZ (by decide) dX4_judged_57 rfl ?_
      refine x_irem (pc' := 60) hZ (by decide) dX4_judged_59 rfl ?_
      refine x_topi (fun x60 e60 => ?_)
      replace h := h x60 e60
      refine x_istore (i := 4) (pc' := 62) (lv' := [(4, .int x60), (0, .ref q_this), (1, .int l1), (2, .int l2), (3, .int l3)]) hZ dX4_judged_60 rfl (by decide) rfl ?_
      refine x_aload_n (pc' := 63) hZ dX4_judged_62 rfl 1 rfl ?_
      refine x_aload_n (pc' := 64) hZ dX4_judged_63 rfl 1 rfl ?_
      refine g_RX4_41 (pc' := 67) hZ dX4_judged_64 rfl 0 rfl rfl ?_
      refine x_aload_n (pc' := 68) hZ dX4_judged_67 rfl 1 rfl ?_
      refine g_RX4_41 (pc' := 71) hZ dX4_judged_68 rfl 0 rfl rfl ?_
      refine x_bipush (v := 21) (pc' := 73) hZ (by decide) dX4_judged_71 rfl ?_
      have h73 : vp_in 21 25 := by unfold vp_in; decide
      refine x_iald (pc' := 74) hZ h73 dX4_judged_73 rfl 2 rfl ?_
      refine x_aload_n (pc' := 75) hZ dX4_judged_74 rfl 1 rfl ?_
      refine g_RX4_41 (pc' := 78) hZ dX4_judged_75 rfl 0 rfl rfl ?_
      refine k_RX4_98 (pc' := 81) (as := [.ref q_tried]) (rest := [.int (v_tried (ix 21)), .ref q_tried, .ref q_this]) (c' := 0) (n' := 0) (wr := [(q_this, cO 4 [.int v_thrown, .ref q_text, .int v_textSize, .int v_place, .int v_people, .ref q_ageing, .ref q_page, .int v_readPeople, .ref q_readAgeing, .ref q_readPage, .ref q_book, .int v_acts, .ref q_kept, .ref q_isKept, .int v_heard, .ref q_heardWho, .ref q_heardIs, .long v_seed, .ref q_tried, .ref q_chooser, .int v_choosers, .ref q_best, .int v_sets, .int v_surely, .ref q_alives]), (q_page, cA E 25 v_page)]) hZ (c_X4_weightsOf E q_tried v_tried _ h) dX4_judged_78 rfl rfl rfl rfl rfl (Nat.le_of_ble_eq_true rfl) (Nat.le_of_ble_eq_true rfl) (Nat.le_of_ble_eq_true rfl) rfl rfl (Nat.le_of_ble_eq_true rfl) (Nat.le_of_ble_eq_true rfl) [2] [0, 1] rfl rfl (by decide) (by decide) (by decide) (fun r78 w78 hw => ?_)
      obtain ⟨rfl, h⟩ := hw
      refine x_ws (ws' := [(q_this, cO 4 [.int v_thrown, .ref q_text, .int v_textSize, .int v_place, .int v_people, .ref q_ageing, .ref q_page, .int v_readPeople, .ref q_readAgeing, .ref q_readPage, .ref q_book, .int v_acts, .ref q_kept, .ref q_isKept, .int v_heard, .ref q_heardWho, .ref q_heardIs, .long v_seed, .ref q_tried, .ref q_chooser, .int v_choosers, .ref q_best, .int v_sets, .int v_surely, .ref q_alives]), (q_page, cA E 25 v_page), (q_tried, cA E 25 v_tried)]) [0, 1, 2] rfl (by decide) ?_
      refine k_RX4_102 (pc' := 84) (q0 := 0) (as := [.ref q_tried, .int (v_tried (ix 21)), .int r78]) (rest := []) (c' := 0) (n' := 0) (wr := [(q_page, cA E 25 v_page)]) hZ (c_X4_fairestOf E q_this q_text q_ageing q_page q_readAgeing q_readPage q_book q_kept q_isKept q_heardWho q_heardIs q_tried q_chooser q_best q_alives q_tried v_thrown v_textSize v_place v_people v_readPeople v_acts v_heard v_seed v_choosers v_sets v_surely v_tried (v_tried (ix 21)) r78 _ h) rfl dX4_judged_81 rfl rfl rfl rfl rfl (Nat.le_of_ble_eq_true rfl) (Nat.le_of_ble_eq_true rfl) (Nat.le_of_ble_eq_true rfl) rfl rfl (Nat.le_of_ble_eq_true rfl) (Nat.le_of_ble_eq_true rfl) [0, 2] [1] rfl rfl (by decide) (by decide) (by decide) (fun r81 w81 hw => ?_)
      obtain ⟨rfl, h⟩ := hw
      refine x_ws (ws' := [(q_this, cO 4 [.int v_thrown, .ref q_text, .int v_textSize, .int v_place, .int v_people, .ref q_ageing, .ref q_page, .int v_readPeople, .ref q_readAgeing, .ref q_readPage, .ref q_book, .int v_acts, .ref q_kept, .ref q_isKept, .int v_heard, .ref q_heardWho, .ref q_heardIs, .long v_seed, .ref q_tried, .ref q_chooser, .int v_choosers, .ref q_best, .int v_sets, .int v_surely, .ref q_alives]), (q_page, cA E 25 v_page), (q_tried, cA E 25 v_tried)]) [1, 0, 2] rfl (by decide) ?_
      refine x_iload (pc' := 86) hZ dX4_judged_84 rfl 0 rfl ?_
      refine k_RX4_90 (pc' := 89) (as := [.int r81, .int x60]) (rest := []) (c' := 0) (n' := 0) (wr := [(q_this, cO 4 [.int v_thrown, .ref q_text, .int v_textSize, .int v_place, .int v_people, .ref q_ageing, .ref q_page, .int v_readPeople, .ref q_readAgeing, .ref q_readPage, .ref q_book, .int v_acts, .ref q_kept, .ref q_isKept, .int v_heard, .ref q_heardWho, .ref q_heardIs, .long v_seed, .ref q_tried, .ref q_chooser, .int v_choosers, .ref q_best, .int v_sets, .int v_surely, .ref q_alives]), (q_page, cA E 25 v_page), (q_tried, cA E 25 v_tried)]) hZ (c_X4_has E r81 x60 _ h) dX4_judged_86 rfl rfl rfl rfl rfl (Nat.le_of_ble_eq_true rfl) (Nat.le_of_ble_eq_true rfl) (Nat.le_of_ble_eq_true rfl) rfl rfl (Nat.le_of_ble_eq_true rfl) (Nat.le_of_ble_eq_true rfl) [] [0, 1, 2] rfl rfl (by decide) (by decide) (by decide) (fun r86 w86 hw => ?_)
      obtain ⟨rfl, h⟩ := hw
      refine x_ws (ws' := [(q_this, cO 4 [.int v_thrown, .ref q_text, .int v_textSize, .int v_place, .int v_people, .ref q_ageing, .ref q_page, .int v_readPeople, .ref q_readAgeing, .ref q_readPage, .ref q_book, .int v_acts, .ref q_kept, .ref q_isKept, .int v_heard, .ref q_heardWho, .ref q_heardIs, .long v_seed, .ref q_tried, .ref q_chooser, .int v_choosers, .ref q_best, .int v_sets, .int v_surely, .ref q_alives]), (q_page, cA E 25 v_page), (q_tried, cA E 25 v_tried)]) [0, 1, 2] rfl (by decide) ?_
      refine x_if_ne (tgt := 94) (pc' := 92) hZ dX4_judged_89 (by decide) rfl (fun c89 => ?_) (fun c89 => ?_)
      · replace h := h.1 c89
        refine x_aload_n (pc' := 95) hZ dX4_judged_94 rfl 1 rfl ?_
        refine x_aload_n (pc' := 96) hZ dX4_judged_95 rfl 1 rfl ?_
        refine g_RX4_41 (pc' := 99) hZ dX4_judged_96 rfl 0 rfl rfl ?_
        refine k_RX4_118 (pc' := 102) (q0 := 0) (as := [.ref q_tried]) (rest := []) (c' := 0) (n' := 0) (wr := [(q_page, cA E 25 v_page)]) hZ (c_X4_goMorning E q_this q_text q_ageing q_page q_readAgeing q_readPage q_book q_kept q_isKept q_heardWho q_heardIs q_tried q_chooser q_best q_alives q_tried v_thrown v_textSize v_place v_people v_readPeople v_acts v_heard v_seed v_choosers v_sets v_surely v_tried _ h) rfl dX4_judged_99 rfl rfl rfl rfl rfl (Nat.le_of_ble_eq_true rfl) (Nat.le_of_ble_eq_true rfl) (Nat.le_of_ble_eq_true rfl) rfl rfl (Nat.le_of_ble_eq_true rfl) (Nat.le_of_ble_eq_true rfl) [0, 2] [1] rfl rfl (by decide) (by decide) (by decide) (fun w99 hw => ?_)
        obtain ⟨a99_0, rfl, h⟩ := hw
        refine x_ws (ws' := [(q_this, cO 4 [.int v_thrown, .ref q_text, .int v_textSize, .int v_place, .int v_people, .ref q_ageing, .ref q_page, .int v_readPeople, .ref q_readAgeing, .ref q_readPage, .ref q_book, .int v_acts, .ref q_kept, .ref q_isKept, .int v_heard, .ref q_heardWho, .ref q_heardIs, .long v_seed, .ref q_tried, .ref q_chooser, .int v_choosers, .ref q_best, .int v_sets, .int v_surely, .ref q_alives]), (q_page, cA E 25 v_page), (q_tried, cA E 25 a99_0)]) [1, 0, 2] rfl (by decide) ?_
        obtain ⟨x102, e102⟩ : ∃ y : Int32, y = l3 + 1 := ⟨_, rfl⟩
        replace h := h x102 e102
        refine x_iinc (i := 3) (v := x102) (pc' := 105) (lv' := [(3, .int x102), (4, .int x60), (0, .ref q_this), (1, .int l1), (2, .int l2)]) hZ dX4_judged_102 rfl 4 rfl (by rw [e102]; rfl) (by decide) rfl ?_
        refine x_goto (pc' := 42) hZ dX4_judged_105 (by decide) ?_
        refine x_lv [2, 3, 4, 0] (lv' := [(0, .ref q_this), (1, .int l1), (2, .int l2), (3, .int x102)]) rfl ?_
        exact ih x102 a99_0 h hK
      · replace h := h.2 c89
        refine x_iload_n (pc' := 93) hZ dX4_judged_92 rfl 4 rfl ?_
        exact hRet _ _ _ _ dX4_judged_93 ⟨_, _, rfl, h⟩
set_option maxHeartbeats 4000000 in
set_option maxRecDepth 100000 in
theorem c_X4_judged (E : XE) (q_this : Nat) (q_text : Nat) (q_ageing : Nat) (q_page : Nat) (q_readAgeing : Nat) (q_readPage : Nat) (q_book : Nat) (q_kept : Nat) (q_isKept : Nat) (q_heardWho : Nat) (q_heardIs : Nat) (q_tried : Nat) (q_chooser : Nat) (q_best : Nat) (q_alives : Nat) (v_thrown : Int32) (v_textSize : Int32) (v_place : Int32) (v_people : Int32) (v_readPeople : Int32) (v_acts : Int32) (v_heard : Int32) (v_seed : Int64) (v_choosers : Int32) (v_sets : Int32) (v_surely : Int32) (v_page : Nat → Int32) (v_tried : Nat → Int32) (l1 : Int32) (l2 : Int32) (post : Int32 → Int32 → (Nat → Int32) → Prop) (h : p_X4_judged v_thrown v_people v_page v_tried l1 l2 post) : ConI E yX4_judged cX4_judged 5 .int { frames := 3, cells := 0, slots := 0, locals := 76 } 0 0 [.ref q_this, .int l1, .int l2] [(q_this, cO 4 [.int v_thrown, .ref q_text, .int v_textSize, .int v_place, .int v_people, .ref q_ageing, .ref q_page, .int v_readPeople, .ref q_readAgeing, .ref q_readPage, .ref q_book, .int v_acts, .ref q_kept, .ref q_isKept, .int v_heard, .ref q_heardWho, .ref q_heardIs, .long v_seed, .ref q_tried, .ref q_chooser, .int v_choosers, .ref q_best, .int v_sets, .int v_surely, .ref q_alives]), (q_page, cA E 25 v_page), (q_tried, cA E 25 v_tried)] (fun r w => ∃ (u_thrown : Int32) (u_tried : Nat → Int32), w = [(q_this, cO 4 [.int u_thrown, .ref q_text, .int v_textSize, .int v_place, .int v_people, .ref q_ageing, .ref q_page, .int v_readPeople, .ref q_readAgeing, .ref q_readPage, .ref q_book, .int v_acts, .ref q_kept, .ref q_isKept, .int v_heard, .ref q_heardWho, .ref q_heardIs, .long v_seed, .ref q_tried, .ref q_chooser, .int v_choosers, .ref q_best, .int v_sets, .int v_surely, .ref q_alives]), (q_page, cA E 25 v_page), (q_tried, cA E 25 u_tried)] ∧ post r u_thrown u_tried) := by
  refine ConI.of (by decide +kernel) (Nat.le_of_ble_eq_true rfl) (fun Z hZ hI hRet => ?_)
  replace hZ : XOK E Z RX4 cX4_judged 5 { frames := 3, cells := 0, slots := 0, locals := 76 } := hZ
  clear hI
  show XW E Z 0 0 [(q_this, cO 4 [.int v_thrown, .ref q_text, .int v_textSize, .int v_place, .int v_people, .ref q_ageing, .ref q_page, .int v_readPeople, .ref q_readAgeing, .ref q_readPage, .ref q_book, .int v_acts, .ref q_kept, .ref q_isKept, .int v_heard, .ref q_heardWho, .ref q_heardIs, .long v_seed, .ref q_tried, .ref q_chooser, .int v_choosers, .ref q_best, .int v_sets, .int v_surely, .ref q_alives]), (q_page, cA E 25 v_page), (q_tried, cA E 25 v_tried)] [(0, .ref q_this), (1, .int l1), (2, .int l2)] [] 0
  unfold p_X4_judged at h
  refine x_aload_n (pc' := 1) hZ dX4_judged_0 rfl 0 rfl ?_
  refine x_iconst (v := 0) (pc' := 2) hZ (by decide) dX4_judged_1 rfl ?_
  refine s_RX4_53 (pc' := 5) (ws' := [(q_this, cO 4 [.int 0, .ref q_text, .int v_textSize, .int v_place, .int v_people, .ref q_ageing, .ref q_page, .int v_readPeople, .ref q_readAgeing, .ref q_readPage, .ref q_book, .int v_acts, .ref q_kept, .ref q_isKept, .int v_heard, .ref q_heardWho, .ref q_heardIs, .long v_seed, .ref q_tried, .ref q_chooser, .int v_choosers, .ref q_best, .int v_sets, .int v_surely, .ref q_alives]), (q_page, cA E 25 v_page), (q_tried, cA E 25 v_tried)]) hZ dX4_judged_2 rfl 0 rfl (Nat.le_of_ble_eq_true rfl) rfl ?_
  refine x_iload_n (pc' := 6) hZ dX4_judged_5 rfl 1 rfl ?_
  refine x_i2l (pc' := 7) hZ dX4_judged_6 rfl ?_
  refine x_lconst (v := 1) (pc' := 8) hZ (by decide) dX4_judged_7 rfl ?_
  refine x_ldc2 (v := 8) (pc' := 11) hZ kl_RX4_131 dX4_judged_8 rfl ?_
  refine k_RX4_60 (pc' := 14) (as := [.long l1.toInt64, .long 1, .long 8]) (rest := []) (c' := 0) (n' := 0) (wr := [(q_this, cO 4 [.int 0, .ref q_text, .int v_textSize, .int v_place, .int v_people, .ref q_ageing, .ref q_page, .int v_readPeople, .ref q_readAgeing, .ref q_readPage, .ref q_book, .int v_acts, .ref q_kept, .ref q_isKept, .int v_heard, .ref q_heardWho, .ref q_heardIs, .long v_seed, .ref q_tried, .ref q_chooser, .int v_choosers, .ref q_best, .int v_sets, .int v_surely, .ref q_alives]), (q_page, cA E 25 v_page), (q_tried, cA E 25 v_tried)]) hZ (c_X4_in E l1.toInt64 1 8 _ h) dX4_judged_11 rfl rfl rfl rfl rfl (Nat.le_of_ble_eq_true rfl) (Nat.le_of_ble_eq_true rfl) (Nat.le_of_ble_eq_true rfl) rfl rfl (Nat.le_of_ble_eq_true rfl) (Nat.le_of_ble_eq_true rfl) [] [0, 1, 2] rfl rfl (by decide) (by decide) (by decide) (fun r11 w11 hw => ?_)
  obtain ⟨rfl, h⟩ := hw
  refine x_ws (ws' := [(q_this, cO 4 [.int 0, .ref q_text, .int v_textSize, .int v_place, .int v_people, .ref q_ageing, .ref q_page, .int v_readPeople, .ref q_readAgeing, .ref q_readPage, .ref q_book, .int v_acts, .ref q_kept, .ref q_isKept, .int v_heard, .ref q_heardWho, .ref q_heardIs, .long v_seed, .ref q_tried, .ref q_chooser, .int v_choosers, .ref q_best, .int v_sets, .int v_surely, .ref q_alives]), (q_page, cA E 25 v_page), (q_tried, cA E 25 v_tried)]) [0, 1, 2] rfl (by decide) ?_
  refine x_if_eq (tgt := 33) (pc' := 17) hZ dX4_judged_14 (by decide) rfl (fun c14 => ?_) (fun c14 => ?_)
  · replace h := h.1 c14
    refine x_bipush (v := (-2)) (pc' := 35) hZ (by decide) dX4_judged_33 rfl ?_
    exact hRet _ _ _ _ dX4_judged_35 ⟨_, _, rfl, h⟩
  · replace h := h.2 c14
    refine x_iload_n (pc' := 18) hZ dX4_judged_17 rfl 2 rfl ?_
    refine x_i2l (pc' := 19) hZ dX4_judged_18 rfl ?_
    refine x_lconst (v := 0) (pc' := 20) hZ (by decide) dX4_judged_19 rfl ?_
    refine x_iload_n (pc' := 21) hZ dX4_judged_20 rfl 1 rfl ?_
    refine k_RX4_133 (pc' := 24) (as := [.int l1]) (rest := [.long 0, .long l2.toInt64]) (c' := 0) (n' := 0) (wr := [(q_this, cO 4 [.int 0, .ref q_text, .int v_textSize, .int v_place, .int v_people, .ref q_ageing, .ref q_page, .int v_readPeople, .ref q_readAgeing, .ref q_readPage, .ref q_book, .int v_acts, .ref q_kept, .ref q_isKept, .int v_heard, .ref q_heardWho, .ref q_heardIs, .long v_seed, .ref q_tried, .ref q_chooser, .int v_choosers, .ref q_best, .int v_sets, .int v_surely, .ref q_alives]), (q_page, cA E 25 v_page), (q_tried, cA E 25 v_tried)]) hZ (c_X4_ten E l1 _ h) dX4_judged_21 rfl rfl rfl rfl rfl (Nat.le_of_ble_eq_true rfl) (Nat.le_of_ble_eq_true rfl) (Nat.le_of_ble_eq_true rfl) rfl rfl (Nat.le_of_ble_eq_true rfl) (Nat.le_of_ble_eq_true rfl) [] [0, 1, 2] rfl rfl (by decide) (by decide) (by decide) (fun r21 w21 hw => ?_)
    obtain ⟨rfl, h⟩ := hw
    refine x_ws (ws' := [(q_this, cO 4 [.int 0, .ref q_text, .int v_textSize, .int v_place, .int v_people, .ref q_ageing, .ref q_page, .int v_readPeople, .ref q_readAgeing, .ref q_readPage, .ref q_book, .int v_acts, .ref q_kept, .ref q_isKept, .int v_heard, .ref q_heardWho, .ref q_heardIs, .long v_seed, .ref q_tried, .ref q_chooser, .int v_choosers, .ref q_best, .int v_sets, .int v_surely, .ref q_alives]), (q_page, cA E 25 v_page), (q_tried, cA E 25 v_tried)]) [0, 1, 2] rfl (by decide) ?_
    refine x_iconst (v := 1) (pc' := 25) hZ (by decide) dX4_judged_24 rfl ?_
    refine x_isub (pc' := 26) hZ dX4_judged_25 rfl ?_
    refine x_i2l (pc' := 27) hZ dX4_judged_26 rfl ?_
    refine k_RX4_60 (pc' := 30) (as := [.long l2.toInt64, .long 0, .long ((r21 - 1).toInt64)]) (rest := []) (c' := 0) (n' := 0) (wr := [(q_this, cO 4 [.int 0, .ref q_text, .int v_textSize, .int v_place, .int v_people, .ref q_ageing, .ref q_page, .int v_readPeople, .ref q_readAgeing, .ref q_readPage, .ref q_book, .int v_acts, .ref q_kept, .ref q_isKept, .int v_heard, .ref q_heardWho, .ref q_heardIs, .long v_seed, .ref q_tried, .ref q_chooser, .int v_choosers, .ref q_best, .int v_sets, .int v_surely, .ref q_alives]), (q_page, cA E 25 v_page), (q_tried, cA E 25 v_tried)]) hZ (c_X4_in E l2.toInt64 0 ((r21 - 1).toInt64) _ h) dX4_judged_27 rfl rfl rfl rfl rfl (Nat.le_of_ble_eq_true rfl) (Nat.le_of_ble_eq_true rfl) (Nat.le_of_ble_eq_true rfl) rfl rfl (Nat.le_of_ble_eq_true rfl) (Nat.le_of_ble_eq_true rfl) [] [0, 1, 2] rfl rfl (by decide) (by decide) (by decide) (fun r27 w27 hw => ?_)
    obtain ⟨rfl, h⟩ := hw
    refine x_ws (ws' := [(q_this, cO 4 [.int 0, .ref q_text, .int v_textSize, .int v_place, .int v_people, .ref q_ageing, .ref q_page, .int v_readPeople, .ref q_readAgeing, .ref q_readPage, .ref q_book, .int v_acts, .ref q_kept, .ref q_isKept, .int v_heard, .ref q_heardWho, .ref q_heardIs, .long v_seed, .ref q_tried, .ref q_chooser, .int v_choosers, .ref q_best, .int v_sets, .int v_surely, .ref q_alives]), (q_page, cA E 25 v_page), (q_tried, cA E 25 v_tried)]) [0, 1, 2] rfl (by decide) ?_
    refine x_if_ne (tgt := 36) (pc' := 33) hZ dX4_judged_30 (by decide) rfl (fun c30 => ?_) (fun c30 => ?_)
    · replace h := h.1 c30
      refine x_aload_n (pc' := 37) hZ dX4_judged_36 rfl 0 rfl ?_
      refine k_RX4_136 (pc' := 40) (q0 := 0) (as := []) (rest := []) (c' := 0) (n' := 0) (wr := []) hZ (c_X4_begin E q_this q_text q_ageing q_page q_readAgeing q_readPage q_book q_kept q_isKept q_heardWho q_heardIs q_tried q_chooser q_best q_alives 0 v_textSize v_place v_people v_readPeople v_acts v_heard v_seed v_choosers v_sets v_surely v_page v_tried _ h) rfl dX4_judged_37 rfl rfl rfl rfl rfl (Nat.le_of_ble_eq_true rfl) (Nat.le_of_ble_eq_true rfl) (Nat.le_of_ble_eq_true rfl) rfl rfl (Nat.le_of_ble_eq_true rfl) (Nat.le_of_ble_eq_true rfl) [0, 1, 2] [] rfl rfl (by decide) (by decide) (by decide) (fun w37 hw => ?_)
      obtain ⟨a37_0, rfl, h⟩ := hw
      refine x_ws (ws' := [(q_this, cO 4 [.int 0, .ref q_text, .int v_textSize, .int v_place, .int v_people, .ref q_ageing, .ref q_page, .int v_readPeople, .ref q_readAgeing, .ref q_readPage, .ref q_book, .int v_acts, .ref q_kept, .ref q_isKept, .int v_heard, .ref q_heardWho, .ref q_heardIs, .long v_seed, .ref q_tried, .ref q_chooser, .int v_choosers, .ref q_best, .int v_sets, .int v_surely, .ref q_alives]), (q_page, cA E 25 v_page), (q_tried, cA E 25 a37_0)]) [0, 1, 2] rfl (by decide) ?_
      refine x_iconst (v := 0) (pc' := 41) hZ (by decide) dX4_judged_40 rfl ?_
      refine x_istore_n (i := 3) (pc' := 42) (lv' := [(3, .int 0), (0, .ref q_this), (1, .int l1), (2, .int l2)]) hZ dX4_judged_41 rfl rfl (by decide) rfl ?_
      refine x_lv [1, 2, 3, 0] (lv' := [(0, .ref q_this), (1, .int l1), (2, .int l2), (3, .int 0)]) rfl ?_
      obtain ⟨k42, h⟩ := h
      refine t_X4_judged_42 E Z q_this q_text q_ageing q_page q_readAgeing q_readPage q_book q_kept q_isKept q_heardWho q_heardIs q_tried q_chooser q_best q_alives 0 v_textSize v_place v_people v_readPeople v_acts v_heard v_seed v_choosers v_sets v_surely v_page l1 l2 hZ hRet _ 0 a37_0 h (fun l3_42 v_tried_42 h => ?_)
      refine x_bipush (v := (-9)) (pc' := 110) hZ (by decide) dX4_judged_108 rfl ?_
      exact hRet _ _ _ _ dX4_judged_110 ⟨_, _, rfl, h⟩
    · replace h := h.2 c30
      refine x_bipush (v := (-2)) (pc' := 35) hZ (by decide) dX4_judged_33 rfl ?_
      exact hRet _ _ _ _ dX4_judged_35 ⟨_, _, rfl, h⟩
set_option maxHeartbeats 4000000 in
set_option maxRecDepth 100000 in
theorem c_X4_hear (E : XE) (q_this : Nat) (q_text : Nat) (q_ageing : Nat) (q_page : Nat) (q_readAgeing : Nat) (q_readPage : Nat) (q_book : Nat) (q_kept : Nat) (q_isKept : Nat) (q_heardWho : Nat) (q_heardIs : Nat) (q_tried : Nat) (q_chooser : Nat) (q_best : Nat) (q_alives : Nat) (v_thrown : Int32) (v_textSize : Int32) (v_place : Int32) (v_people : Int32) (v_readPeople : Int32) (v_acts : Int32) (v_heard : Int32) (v_seed : Int64) (v_choosers : Int32) (v_sets : Int32) (v_surely : Int32) (v_heardWho : Nat → Int32) (v_heardIs : Nat → Int32) (l1 : Int32) (l2 : Int32) (post : Int32 → Int32 → Int32 → (Nat → Int32) → (Nat → Int32) → Prop) (h : p_X4_hear v_thrown v_people v_heard v_heardWho v_heardIs l1 l2 post) : ConI E yX4_hear cX4_hear 3 .int { frames := 2, cells := 0, slots := 0, locals := 46 } 0 0 [.ref q_this, .int l1, .int l2] [(q_this, cO 4 [.int v_thrown, .ref q_text, .int v_textSize, .int v_place, .int v_people, .ref q_ageing, .ref q_page, .int v_readPeople, .ref q_readAgeing, .ref q_readPage, .ref q_book, .int v_acts, .ref q_kept, .ref q_isKept, .int v_heard, .ref q_heardWho, .ref q_heardIs, .long v_seed, .ref q_tried, .ref q_chooser, .int v_choosers, .ref q_best, .int v_sets, .int v_surely, .ref q_alives]), (q_heardWho, cA E 6 v_heardWho), (q_heardIs, cB E 6 v_heardIs)] (fun r w => ∃ (u_thrown : Int32) (u_heard : Int32) (u_heardWho : Nat → Int32) (u_heardIs : Nat → Int32), w = [(q_this, cO 4 [.int u_thrown, .ref q_text, .int v_textSize, .int v_place, .int v_people, .ref q_ageing, .ref q_page, .int v_readPeople, .ref q_readAgeing, .ref q_readPage, .ref q_book, .int v_acts, .ref q_kept, .ref q_isKept, .int u_heard, .ref q_heardWho, .ref q_heardIs, .long v_seed, .ref q_tried, .ref q_chooser, .int v_choosers, .ref q_best, .int v_sets, .int v_surely, .ref q_alives]), (q_heardWho, cA E 6 u_heardWho), (q_heardIs, cB E 6 u_heardIs)] ∧ post r u_thrown u_heard u_heardWho u_heardIs) := by
  refine ConI.of (by decide +kernel) (Nat.le_of_ble_eq_true rfl) (fun Z hZ hI hRet => ?_)
  replace hZ : XOK E Z RX4 cX4_hear 3 { frames := 2, cells := 0, slots := 0, locals := 46 } := hZ
  clear hI
  show XW E Z 0 0 [(q_this, cO 4 [.int v_thrown, .ref q_text, .int v_textSize, .int v_place, .int v_people, .ref q_ageing, .ref q_page, .int v_readPeople, .ref q_readAgeing, .ref q_readPage, .ref q_book, .int v_acts, .ref q_kept, .ref q_isKept, .int v_heard, .ref q_heardWho, .ref q_heardIs, .long v_seed, .ref q_tried, .ref q_chooser, .int v_choosers, .ref q_best, .int v_sets, .int v_surely, .ref q_alives]), (q_heardWho, cA E 6 v_heardWho), (q_heardIs, cB E 6 v_heardIs)] [(0, .ref q_this), (1, .int l1), (2, .int l2)] [] 0
  unfold p_X4_hear at h
  refine x_aload_n (pc' := 1) hZ dX4_hear_0 rfl 0 rfl ?_
  refine x_iconst (v := 0) (pc' := 2) hZ (by decide) dX4_hear_1 rfl ?_
  refine s_RX4_53 (pc' := 5) (ws' := [(q_this, cO 4 [.int 0, .ref q_text, .int v_textSize, .int v_place, .int v_people, .ref q_ageing, .ref q_page, .int v_readPeople, .ref q_readAgeing, .ref q_readPage, .ref q_book, .int v_acts, .ref q_kept, .ref q_isKept, .int v_heard, .ref q_heardWho, .ref q_heardIs, .long v_seed, .ref q_tried, .ref q_chooser, .int v_choosers, .ref q_best, .int v_sets, .int v_surely, .ref q_alives]), (q_heardWho, cA E 6 v_heardWho), (q_heardIs, cB E 6 v_heardIs)]) hZ dX4_hear_2 rfl 0 rfl (Nat.le_of_ble_eq_true rfl) rfl ?_
  refine x_aload_n (pc' := 6) hZ dX4_hear_5 rfl 0 rfl ?_
  refine x_iload_n (pc' := 7) hZ dX4_hear_6 rfl 1 rfl ?_
  refine k_RX4_111 (pc' := 10) (q0 := 0) (as := [.int l1]) (rest := []) (c' := 0) (n' := 0) (wr := [(q_heardWho, cA E 6 v_heardWho), (q_heardIs, cB E 6 v_heardIs)]) hZ (c_X4_noOne E q_this q_text q_ageing q_page q_readAgeing q_readPage q_book q_kept q_isKept q_heardWho q_heardIs q_tried q_chooser q_best q_alives 0 v_textSize v_place v_people v_readPeople v_acts v_heard v_seed v_choosers v_sets v_surely l1 _ h) rfl dX4_hear_7 rfl rfl rfl rfl rfl (Nat.le_of_ble_eq_true rfl) (Nat.le_of_ble_eq_true rfl) (Nat.le_of_ble_eq_true rfl) rfl rfl (Nat.le_of_ble_eq_true rfl) (Nat.le_of_ble_eq_true rfl) [0] [1, 2] rfl rfl (by decide) (by decide) (by decide) (fun r7 w7 hw => ?_)
  obtain ⟨rfl, h⟩ := hw
  refine x_ws (ws' := [(q_this, cO 4 [.int 0, .ref q_text, .int v_textSize, .int v_place, .int v_people, .ref q_ageing, .ref q_page, .int v_readPeople, .ref q_readAgeing, .ref q_readPage, .ref q_book, .int v_acts, .ref q_kept, .ref q_isKept, .int v_heard, .ref q_heardWho, .ref q_heardIs, .long v_seed, .ref q_tried, .ref q_chooser, .int v_choosers, .ref q_best, .int v_sets, .int v_surely, .ref q_alives]), (q_heardWho, cA E 6 v_heardWho), (q_heardIs, cB E 6 v_heardIs)]) [2, 0, 1] rfl (by decide) ?_
  refine x_if_eq (tgt := 15) (pc' := 13) hZ dX4_hear_10 (by decide) rfl (fun c10 => ?_) (fun c10 => ?_)
  · replace h := h.1 c10
    refine x_aload_n (pc' := 16) hZ dX4_hear_15 rfl 0 rfl ?_
    refine g_RX4_108 (pc' := 19) hZ dX4_hear_16 rfl 0 rfl rfl ?_
    refine x_bipush (v := 6) (pc' := 21) hZ (by decide) dX4_hear_19 rfl ?_
    refine x_icmp_ne (tgt := 27) (pc' := 24) hZ dX4_hear_21 (by decide) rfl (fun c21 => ?_) (fun c21 => ?_)
    · replace h := h.1 c21
      refine x_aload_n (pc' := 28) hZ dX4_hear_27 rfl 0 rfl ?_
      refine g_RX4_35 (pc' := 31) hZ dX4_hear_28 rfl 0 rfl rfl ?_
      refine x_aload_n (pc' := 32) hZ dX4_hear_31 rfl 0 rfl ?_
      refine g_RX4_108 (pc' := 35) hZ dX4_hear_32 rfl 0 rfl rfl ?_
      refine x_iload_n (pc' := 36) hZ dX4_hear_35 rfl 1 rfl ?_
      obtain ⟨h36, h⟩ := h
      refine x_iast (pc' := 37) (ws' := [(q_this, cO 4 [.int 0, .ref q_text, .int v_textSize, .int v_place, .int v_people, .ref q_ageing, .ref q_page, .int v_readPeople, .ref q_readAgeing, .ref q_readPage, .ref q_book, .int v_acts, .ref q_kept, .ref q_isKept, .int v_heard, .ref q_heardWho, .ref q_heardIs, .long v_seed, .ref q_tried, .ref q_chooser, .int v_choosers, .ref q_best, .int v_sets, .int v_surely, .ref q_alives]), (q_heardWho, cA E 6 (upd v_heardWho (ix v_heard) l1)), (q_heardIs, cB E 6 v_heardIs)]) hZ h36 dX4_hear_36 rfl 1 rfl rfl ?_
      refine x_aload_n (pc' := 38) hZ dX4_hear_37 rfl 0 rfl ?_
      refine g_RX4_38 (pc' := 41) hZ dX4_hear_38 rfl 0 rfl rfl ?_
      refine x_aload_n (pc' := 42) hZ dX4_hear_41 rfl 0 rfl ?_
      refine g_RX4_108 (pc' := 45) hZ dX4_hear_42 rfl 0 rfl rfl ?_
      refine x_iload_n (pc' := 46) hZ dX4_hear_45 rfl 2 rfl ?_
      obtain ⟨h46, h⟩ := h
      refine x_zast (pc' := 47) (ws' := [(q_this, cO 4 [.int 0, .ref q_text, .int v_textSize, .int v_place, .int v_people, .ref q_ageing, .ref q_page, .int v_readPeople, .ref q_readAgeing, .ref q_readPage, .ref q_book, .int v_acts, .ref q_kept, .ref q_isKept, .int v_heard, .ref q_heardWho, .ref q_heardIs, .long v_seed, .ref q_tried, .ref q_chooser, .int v_choosers, .ref q_best, .int v_sets, .int v_surely, .ref q_alives]), (q_heardWho, cA E 6 (upd v_heardWho (ix v_heard) l1)), (q_heardIs, cB E 6 (upd v_heardIs (ix v_heard) (jbool l2)))]) hZ h46 dX4_hear_46 rfl 2 rfl rfl ?_
      refine x_aload_n (pc' := 48) hZ dX4_hear_47 rfl 0 rfl ?_
      refine x_dup (pc' := 49) hZ dX4_hear_48 rfl rfl ?_
      refine g_RX4_108 (pc' := 52) hZ dX4_hear_49 rfl 0 rfl rfl ?_
      refine x_iconst (v := 1) (pc' := 53) hZ (by decide) dX4_hear_52 rfl ?_
      refine x_iadd (pc' := 54) hZ dX4_hear_53 rfl ?_
      refine x_topi (fun x54 e54 => ?_)
      replace h := h x54 e54
      refine s_RX4_108 (pc' := 57) (ws' := [(q_this, cO 4 [.int 0, .ref q_text, .int v_textSize, .int v_place, .int v_people, .ref q_ageing, .ref q_page, .int v_readPeople, .ref q_readAgeing, .ref q_readPage, .ref q_book, .int v_acts, .ref q_kept, .ref q_isKept, .int x54, .ref q_heardWho, .ref q_heardIs, .long v_seed, .ref q_tried, .ref q_chooser, .int v_choosers, .ref q_best, .int v_sets, .int v_surely, .ref q_alives]), (q_heardWho, cA E 6 (upd v_heardWho (ix v_heard) l1)), (q_heardIs, cB E 6 (upd v_heardIs (ix v_heard) (jbool l2)))]) hZ dX4_hear_54 rfl 0 rfl (Nat.le_of_ble_eq_true rfl) rfl ?_
      refine x_aload_n (pc' := 58) hZ dX4_hear_57 rfl 0 rfl ?_
      refine g_RX4_108 (pc' := 61) hZ dX4_hear_58 rfl 0 rfl rfl ?_
      exact hRet _ _ _ _ dX4_hear_61 ⟨_, _, _, _, rfl, h⟩
    · replace h := h.2 c21
      refine x_bipush (v := (-4)) (pc' := 26) hZ (by decide) dX4_hear_24 rfl ?_
      exact hRet _ _ _ _ dX4_hear_26 ⟨_, _, _, _, rfl, h⟩
  · replace h := h.2 c10
    refine x_iconst (v := (-1)) (pc' := 14) hZ (by decide) dX4_hear_13 rfl ?_
    exact hRet _ _ _ _ dX4_hear_14 ⟨_, _, _, _, rfl, h⟩
set_option maxHeartbeats 4000000 in
set_option maxRecDepth 100000 in
theorem c_X4_unhear (E : XE) (q_this : Nat) (q_text : Nat) (q_ageing : Nat) (q_page : Nat) (q_readAgeing : Nat) (q_readPage : Nat) (q_book : Nat) (q_kept : Nat) (q_isKept : Nat) (q_heardWho : Nat) (q_heardIs : Nat) (q_tried : Nat) (q_chooser : Nat) (q_best : Nat) (q_alives : Nat) (v_thrown : Int32) (v_textSize : Int32) (v_place : Int32) (v_people : Int32) (v_readPeople : Int32) (v_acts : Int32) (v_heard : Int32) (v_seed : Int64) (v_choosers : Int32) (v_sets : Int32) (v_surely : Int32) (post : Int32 → Int32 → Int32 → Prop) (h : p_X4_unhear v_thrown v_heard post) : ConI E yX4_unhear cX4_unhear 2 .int { frames := 0, cells := 0, slots := 0, locals := 0 } 0 0 [.ref q_this] [(q_this, cO 4 [.int v_thrown, .ref q_text, .int v_textSize, .int v_place, .int v_people, .ref q_ageing, .ref q_page, .int v_readPeople, .ref q_readAgeing, .ref q_readPage, .ref q_book, .int v_acts, .ref q_kept, .ref q_isKept, .int v_heard, .ref q_heardWho, .ref q_heardIs, .long v_seed, .ref q_tried, .ref q_chooser, .int v_choosers, .ref q_best, .int v_sets, .int v_surely, .ref q_alives])] (fun r w => ∃ (u_thrown : Int32) (u_heard : Int32), w = [(q_this, cO 4 [.int u_thrown, .ref q_text, .int v_textSize, .int v_place, .int v_people, .ref q_ageing, .ref q_page, .int v_readPeople, .ref q_readAgeing, .ref q_readPage, .ref q_book, .int v_acts, .ref q_kept, .ref q_isKept, .int u_heard, .ref q_heardWho, .ref q_heardIs, .long v_seed, .ref q_tried, .ref q_chooser, .int v_choosers, .ref q_best, .int v_sets, .int v_surely, .ref q_alives])] ∧ post r u_thrown u_heard) := by
  refine ConI.of (by decide +kernel) (Nat.le_of_ble_eq_true rfl) (fun Z hZ hI hRet => ?_)
  replace hZ : XOK E Z RX4 cX4_unhear 2 { frames := 0, cells := 0, slots := 0, locals := 0 } := hZ
  clear hI
  show XW E Z 0 0 [(q_this, cO 4 [.int v_thrown, .ref q_text, .int v_textSize, .int v_place, .int v_people, .ref q_ageing, .ref q_page, .int v_readPeople, .ref q_readAgeing, .ref q_readPage, .ref q_book, .int v_acts, .ref q_kept, .ref q_isKept, .int v_heard, .ref q_heardWho, .ref q_heardIs, .long v_seed, .ref q_tried, .ref q_chooser, .int v_choosers, .ref q_best, .int v_sets, .int v_surely, .ref q_alives])] [(0, .ref q_this)] [] 0
  unfold p_X4_unhear at h
  refine x_aload_n (pc' := 1) hZ dX4_unhear_0 rfl 0 rfl ?_
  refine x_iconst (v := 0) (pc' := 2) hZ (by decide) dX4_unhear_1 rfl ?_
  refine s_RX4_53 (pc' := 5) (ws' := [(q_this, cO 4 [.int 0, .ref q_text, .int v_textSize, .int v_place, .int v_people, .ref q_ageing, .ref q_page, .int v_readPeople, .ref q_readAgeing, .ref q_readPage, .ref q_book, .int v_acts, .ref q_kept, .ref q_isKept, .int v_heard, .ref q_heardWho, .ref q_heardIs, .long v_seed, .ref q_tried, .ref q_chooser, .int v_choosers, .ref q_best, .int v_sets, .int v_surely, .ref q_alives])]) hZ dX4_unhear_2 rfl 0 rfl (Nat.le_of_ble_eq_true rfl) rfl ?_
  refine x_aload_n (pc' := 6) hZ dX4_unhear_5 rfl 0 rfl ?_
  refine g_RX4_108 (pc' := 9) hZ dX4_unhear_6 rfl 0 rfl rfl ?_
  refine x_istore_n (i := 1) (pc' := 10) (lv' := [(1, .int v_heard), (0, .ref q_this)]) hZ dX4_unhear_9 rfl rfl (by decide) rfl ?_
  refine x_aload_n (pc' := 11) hZ dX4_unhear_10 rfl 1 rfl ?_
  refine x_iconst (v := 0) (pc' := 12) hZ (by decide) dX4_unhear_11 rfl ?_
  refine s_RX4_108 (pc' := 15) (ws' := [(q_this, cO 4 [.int 0, .ref q_text, .int v_textSize, .int v_place, .int v_people, .ref q_ageing, .ref q_page, .int v_readPeople, .ref q_readAgeing, .ref q_readPage, .ref q_book, .int v_acts, .ref q_kept, .ref q_isKept, .int 0, .ref q_heardWho, .ref q_heardIs, .long v_seed, .ref q_tried, .ref q_chooser, .int v_choosers, .ref q_best, .int v_sets, .int v_surely, .ref q_alives])]) hZ dX4_unhear_12 rfl 0 rfl (Nat.le_of_ble_eq_true rfl) rfl ?_
  refine x_iload_n (pc' := 16) hZ dX4_unhear_15 rfl 0 rfl ?_
  exact hRet _ _ _ _ dX4_unhear_16 ⟨_, _, rfl, h⟩
set_option maxHeartbeats 4000000 in
set_option maxRecDepth 100000 in
theorem t_X4_laySets_21 (E : XE) (Z : ZC) (q_this : Nat) (q_text : Nat) (q_ageing : Nat) (q_page : Nat) (q_readAgeing : Nat) (q_readPage : Nat) (q_book : Nat) (q_kept : Nat) (q_isKept : Nat) (q_heardWho : Nat) (q_heardIs : Nat) (q_tried : Nat) (q_chooser : Nat) (q_best : Nat) (q_alives : Nat) (v_thrown : Int32) (v_textSize : Int32) (v_place : Int32) (v_people : Int32) (v_readPeople : Int32) (v_acts : Int32) (v_heard : Int32) (v_seed : Int64) (v_choosers : Int32) (v_sets : Int32) (v_surely : Int32) (v_page : Nat → Int32) (v_heardWho : Nat → Int32) (v_heardIs : Nat → Int32) (l1 : Int32) {K : Int32 → (Nat → Int32) → Prop} (hZ : XOK E Z RX4 cX4_laySets 6 { frames := 2, cells := 0, slots := 0, locals := 49 }) : ∀ (k : Nat) (l2 : Int32) (v_alives : (Nat → Int32)), wl (fun rec v => b_X4_laySets_21  K rec v.1 v.2) k (l2, v_alives) → (∀ (l2 : Int32) (v_alives : (Nat → Int32)), K l2 v_alives → XW E Z 0 0 [(q_this, cO 4 [.int v_thrown, .ref q_text, .int v_textSize, .int v_place, .int v_people, .ref q_ageing, .ref q_page, .int v_readPeople, .ref q_readAgeing, .ref q_readPage, .ref q_book, .int v_acts, .ref q_kept, .ref q_isKept, .int v_heard, .ref q_heardWho, .ref q_heardIs, .long v_seed, .ref q_tried, .ref q_chooser, .int v_choosers, .ref q_best, .int v_sets, .int v_surely, .ref q_alives]), (q_page, cA E 25 v_page), (q_heardWho, cA E 6 v_heardWho), (q_heardIs, cB E 6 v_heardIs), (q_alives, cA E 6 v_alives)] [(0, .ref q_this), (1, .int l1)] [] 40) → XW E Z 0 0 [(q_this, cO 4 [.int v_thrown, .ref q_text, .int v_textSize, .int v_place, .int v_people, .ref q_ageing, .ref q_page, .int v_readPeople, .ref q_readAgeing, .ref q_readPage, .ref q_book, .int v_acts, .ref q_kept, .ref q_isKept, .int v_heard, .ref q_heardWho, .ref q_heardIs, .long v_seed, .ref q_tried, .ref q_chooser, .int v_choosers, .ref q_best, .int v_sets, .int v_surely, .ref q_alives]), (q_page, cA E 25 v_page), (q_heardWho, cA E 6 v_heardWho), (q_heardIs, cB E 6 v_heardIs), (q_alives, cA E 6 v_alives)] [(0, .ref q_this), (1, .int l1), (2, .int l2)] [] 21 := by
  intro k
  induction k with
  | zero =>
    intro l2 v_alives h
    exact h.elim
  | succ k ih =>
    intro l2 v_alives h hK
    replace h := wl_succ h
    try dsimp only at h
    unfold b_X4_laySets_21 at h
    refine x_iload_n (pc' := 22) hZ dX4_laySets_21 rfl 2 rfl ?_
    refine x_bipush (v := 6) (pc' := 24) hZ (by decide) dX4_laySets_22 rfl ?_
    refine x_icmp_ge (tgt := 40) (pc' := 27) hZ dX4_laySets_24 (by decide) rfl (fun c24 => ?_) (fun c24 => ?_)
    · replace h := h.1 c24
      refine x_lv [0, 1] (lv' := [(0, .ref q_this), (1, .int l1)]) rfl ?_
      exact hK l2 v_alives h
    · replace h := h.2 c24
      refine x_aload_n (pc' := 28) hZ dX4_laySets_27 rfl 0 rfl ?_
      refine g_RX4_50 (pc' := 31) hZ dX4_laySets_28 rfl 0 rfl rfl ?_
      refine x_iload_n (pc' := 32) hZ dX4_laySets_31 rfl 2 rfl ?_
      refine x_iconst (v := 0) (pc' := 33) hZ (by decide) dX4_laySets_32 rfl ?_
      obtain ⟨h33, h⟩ := h
      refine x_iast (pc' := 34) (ws' := [(q_this, cO 4 [.int v_thrown, .ref q_text, .int v_textSize, .int v_place, .int v_people, .ref q_ageing, .ref q_page, .int v_readPeople, .ref q_readAgeing, .ref q_readPage, .ref q_book, .int v_acts, .ref q_kept, .ref q_isKept, .int v_heard, .ref q_heardWho, .ref q_heardIs, .long v_seed, .ref q_tried, .ref q_chooser, .int v_choosers, .ref q_best, .int v_sets, .int v_surely, .ref q_alives]), (q_page, cA E 25 v_page), (q_heardWho, cA E 6 v_heardWho), (q_heardIs, cB E 6 v_heardIs), (q_alives, cA E 6 (upd v_alives (ix l2) 0))]) hZ h33 dX4_laySets_33 rfl 4 rfl rfl ?_
      obtain ⟨x34, e34⟩ : ∃ y : Int32, y = l2 + 1 := ⟨_, rfl⟩
      replace h := h x34 e34
      refine x_iinc (i := 2) (v := x34) (pc' := 37) (lv' := [(2, .int x34), (0, .ref q_this), (1, .int l1)]) hZ dX4_laySets_34 rfl 2 rfl (by rw [e34]; rfl) (by decide) rfl ?_
      refine x_goto (pc' := 21) hZ dX4_laySets_37 (by decide) ?_
      refine x_lv [1, 2, 0] (lv' := [(0, .ref q_this), (1, .int l1), (2, .int x34)]) rfl ?_
      exact ih x34 (upd v_alives (ix l2) 0) h hK
set_option maxHeartbeats 4000000 in
set_option maxRecDepth 100000 in
theorem t_X4_laySets_92 (E : XE) (Z : ZC) (q_this : Nat) (q_text : Nat) (q_ageing : Nat) (q_page : Nat) (q_readAgeing : Nat) (q_readPage : Nat) (q_book : Nat) (q_kept : Nat) (q_isKept : Nat) (q_heardWho : Nat) (q_heardIs : Nat) (q_tried : Nat) (q_chooser : Nat) (q_best : Nat) (q_alives : Nat) (v_thrown : Int32) (v_textSize : Int32) (v_place : Int32) (v_people : Int32) (v_readPeople : Int32) (v_acts : Int32) (v_heard : Int32) (v_seed : Int64) (v_choosers : Int32) (v_sets : Int32) (v_surely : Int32) (v_page : Nat → Int32) (v_heardWho : Nat → Int32) (v_heardIs : Nat → Int32) (v_alives : Nat → Int32) (l1 : Int32) (l2 : Int32) (l4 : Int32) {K : Int32 → Int32 → Prop} (hZ : XOK E Z RX4 cX4_laySets 6 { frames := 2, cells := 0, slots := 0, locals := 49 }) : ∀ (k : Nat) (l3 : Int32) (l5 : Int32), wl (fun rec v => b_X4_laySets_92 l4 v_people v_heard v_heardWho v_heardIs K rec v.1 v.2) k (l3, l5) → (∀ (l3 : Int32) (l5 : Int32), K l3 l5 → XW E Z 0 0 [(q_this, cO 4 [.int v_thrown, .ref q_text, .int v_textSize, .int v_place, .int v_people, .ref q_ageing, .ref q_page, .int v_readPeople, .ref q_readAgeing, .ref q_readPage, .ref q_book, .int v_acts, .ref q_kept, .ref q_isKept, .int v_heard, .ref q_heardWho, .ref q_heardIs, .long v_seed, .ref q_tried, .ref q_chooser, .int v_choosers, .ref q_best, .int v_sets, .int v_surely, .ref q_alives]), (q_page, cA E 25 v_page), (q_heardWho, cA E 6 v_heardWho), (q_heardIs, cB E 6 v_heardIs), (q_alives, cA E 6 v_alives)] [(0, .ref q_this), (1, .int l1), (2, .int l2), (3, .int l3)] [] 153) → XW E Z 0 0 [(q_this, cO 4 [.int v_thrown, .ref q_text, .int v_textSize, .int v_place, .int v_people, .ref q_ageing, .ref q_page, .int v_readPeople, .ref q_readAgeing, .ref q_readPage, .ref q_book, .int v_acts, .ref q_kept, .ref q_isKept, .int v_heard, .ref q_heardWho, .ref q_heardIs, .long v_seed, .ref q_tried, .ref q_chooser, .int v_choosers, .ref q_best, .int v_sets, .int v_surely, .ref q_alives]), (q_page, cA E 25 v_page), (q_heardWho, cA E 6 v_heardWho), (q_heardIs, cB E 6 v_heardIs), (q_alives, cA E 6 v_alives)] [(0, .ref q_this), (1, .int l1), (2, .int l2), (3, .int l3), (4, .int l4), (5, .int l5)] [] 92 := by
  intro k
  induction k with
  | zero =>
    intro l3 l5 h
    exact h.elim
  | succ k ih =>
    intro l3 l5 h hK
    replace h := wl_succ h
    try dsimp only at h
    unfold b_X4_laySets_92 at h
    refine x_iload (pc' := 94) hZ dX4_laySets_92 rfl 5 rfl ?_
    refine x_aload_n (pc' := 95) hZ dX4_laySets_94 rfl 0 rfl ?_
    refine g_RX4_108 (pc' := 98) hZ dX4_laySets_95 rfl 0 rfl rfl ?_
    refine x_icmp_ge (tgt := 153) (pc' := 101) hZ dX4_laySets_98 (by decide) rfl (fun c98 => ?_) (fun c98 => ?_)
    · replace h := h.1 c98
      refine x_lv [0, 1, 2, 3] (lv' := [(0, .ref q_this), (1, .int l1), (2, .int l2), (3, .int l3)]) rfl ?_
      exact hK l3 l5 h
    · replace h := h.2 c98
      refine x_iload_n (pc' := 102) hZ dX4_laySets_101 rfl 3 rfl ?_
      refine x_if_eq (tgt := 153) (pc' := 105) hZ dX4_laySets_102 (by decide) rfl (fun c102 => ?_) (fun c102 => ?_)
      · replace h := h.1 c102
        refine x_lv [0, 1, 2, 3] (lv' := [(0, .ref q_this), (1, .int l1), (2, .int l2), (3, .int l3)]) rfl ?_
        exact hK l3 l5 h
      · replace h := h.2 c102
        refine x_aload_n (pc' := 106) hZ dX4_laySets_105 rfl 0 rfl ?_
        refine g_RX4_35 (pc' := 109) hZ dX4_laySets_106 rfl 0 rfl rfl ?_
        refine x_iload (pc' := 111) hZ dX4_laySets_109 rfl 5 rfl ?_
        obtain ⟨h111, h⟩ := h
        refine x_iald (pc' := 112) hZ h111 dX4_laySets_111 rfl 2 rfl ?_
        refine x_aload_n (pc' := 113) hZ dX4_laySets_112 rfl 0 rfl ?_
        refine g_RX4_57 (pc' := 116) hZ dX4_laySets_113 rfl 0 rfl rfl ?_
        refine x_icmp_ge (tgt := 141) (pc' := 119) hZ dX4_laySets_116 (by decide) rfl (fun c116 => ?_) (fun c116 => ?_)
        · replace h := h.1 c116
          refine x_iconst (v := 1) (pc' := 142) hZ (by decide) dX4_laySets_141 rfl ?_
          refine x_goto (pc' := 146) hZ dX4_laySets_142 (by decide) ?_
          refine x_istore_n (i := 3) (pc' := 147) (lv' := [(3, .int 1), (0, .ref q_this), (1, .int l1), (2, .int l2), (4, .int l4), (5, .int l5)]) hZ dX4_laySets_146 rfl rfl (by decide) rfl ?_
          obtain ⟨x147, e147⟩ : ∃ y : Int32, y = l5 + 1 := ⟨_, rfl⟩
          replace h := h x147 e147
          refine x_iinc (i := 5) (v := x147) (pc' := 150) (lv' := [(5, .int x147), (3, .int 1), (0, .ref q_this), (1, .int l1), (2, .int l2), (4, .int l4)]) hZ dX4_laySets_147 rfl 5 rfl (by rw [e147]; rfl) (by decide) rfl ?_
          refine x_goto (pc' := 92) hZ dX4_laySets_150 (by decide) ?_
          refine x_lv [2, 3, 4, 1, 5, 0] (lv' := [(0, .ref q_this), (1, .int l1), (2, .int l2), (3, .int 1), (4, .int l4), (5, .int x147)]) rfl ?_
          exact ih 1 x147 h hK
        · replace h := h.2 c116
          refine x_iload (pc' := 121) hZ dX4_laySets_119 rfl 4 rfl ?_
          refine x_aload_n (pc' := 122) hZ dX4_laySets_121 rfl 0 rfl ?_
          refine g_RX4_35 (pc' := 125) hZ dX4_laySets_122 rfl 0 rfl rfl ?_
          refine x_iload (pc' := 127) hZ dX4_laySets_125 rfl 5 rfl ?_
          obtain ⟨h127, h⟩ := h
          refine x_iald (pc' := 128) hZ h127 dX4_laySets_127 rfl 2 rfl ?_
          refine k_RX4_90 (pc' := 131) (as := [.int l4, .int (v_heardWho (ix l5))]) (rest := []) (c' := 0) (n' := 0) (wr := [(q_this, cO 4 [.int v_thrown, .ref q_text, .int v_textSize, .int v_place, .int v_people, .ref q_ageing, .ref q_page, .int v_readPeople, .ref q_readAgeing, .ref q_readPage, .ref q_book, .int v_acts, .ref q_kept, .ref q_isKept, .int v_heard, .ref q_heardWho, .ref q_heardIs, .long v_seed, .ref q_tried, .ref q_chooser, .int v_choosers, .ref q_best, .int v_sets, .int v_surely, .ref q_alives]), (q_page, cA E 25 v_page), (q_heardWho, cA E 6 v_heardWho), (q_heardIs, cB E 6 v_heardIs), (q_alives, cA E 6 v_alives)]) hZ (c_X4_has E l4 (v_heardWho (ix l5)) _ h) dX4_laySets_128 rfl rfl rfl rfl rfl (Nat.le_of_ble_eq_true rfl) (Nat.le_of_ble_eq_true rfl) (Nat.le_of_ble_eq_true rfl) rfl rfl (Nat.le_of_ble_eq_true rfl) (Nat.le_of_ble_eq_true rfl) [] [0, 1, 2, 3, 4] rfl rfl (by decide) (by decide) (by decide) (fun r128 w128 hw => ?_)
          obtain ⟨rfl, h⟩ := hw
          refine x_ws (ws' := [(q_this, cO 4 [.int v_thrown, .ref q_text, .int v_textSize, .int v_place, .int v_people, .ref q_ageing, .ref q_page, .int v_readPeople, .ref q_readAgeing, .ref q_readPage, .ref q_book, .int v_acts, .ref q_kept, .ref q_isKept, .int v_heard, .ref q_heardWho, .ref q_heardIs, .long v_seed, .ref q_tried, .ref q_chooser, .int v_choosers, .ref q_best, .int v_sets, .int v_surely, .ref q_alives]), (q_page, cA E 25 v_page), (q_heardWho, cA E 6 v_heardWho), (q_heardIs, cB E 6 v_heardIs), (q_alives, cA E 6 v_alives)]) [0, 1, 2, 3, 4] rfl (by decide) ?_
          refine x_aload_n (pc' := 132) hZ dX4_laySets_131 rfl 0 rfl ?_
          refine g_RX4_38 (pc' := 135) hZ dX4_laySets_132 rfl 0 rfl rfl ?_
          refine x_iload (pc' := 137) hZ dX4_laySets_135 rfl 5 rfl ?_
          obtain ⟨h137, h⟩ := h
          refine x_zald (pc' := 138) hZ h137 dX4_laySets_137 rfl 3 rfl ?_
          refine x_icmp_ne (tgt := 145) (pc' := 141) hZ dX4_laySets_138 (by decide) rfl (fun c138 => ?_) (fun c138 => ?_)
          · replace h := h.1 c138
            refine x_iconst (v := 0) (pc' := 146) hZ (by decide) dX4_laySets_145 rfl ?_
            refine x_istore_n (i := 3) (pc' := 147) (lv' := [(3, .int 0), (0, .ref q_this), (1, .int l1), (2, .int l2), (4, .int l4), (5, .int l5)]) hZ dX4_laySets_146 rfl rfl (by decide) rfl ?_
            obtain ⟨x147, e147⟩ : ∃ y : Int32, y = l5 + 1 := ⟨_, rfl⟩
            replace h := h x147 e147
            refine x_iinc (i := 5) (v := x147) (pc' := 150) (lv' := [(5, .int x147), (3, .int 0), (0, .ref q_this), (1, .int l1), (2, .int l2), (4, .int l4)]) hZ dX4_laySets_147 rfl 5 rfl (by rw [e147]; rfl) (by decide) rfl ?_
            refine x_goto (pc' := 92) hZ dX4_laySets_150 (by decide) ?_
            refine x_lv [2, 3, 4, 1, 5, 0] (lv' := [(0, .ref q_this), (1, .int l1), (2, .int l2), (3, .int 0), (4, .int l4), (5, .int x147)]) rfl ?_
            exact ih 0 x147 h hK
          · replace h := h.2 c138
            refine x_iconst (v := 1) (pc' := 142) hZ (by decide) dX4_laySets_141 rfl ?_
            refine x_goto (pc' := 146) hZ dX4_laySets_142 (by decide) ?_
            refine x_istore_n (i := 3) (pc' := 147) (lv' := [(3, .int 1), (0, .ref q_this), (1, .int l1), (2, .int l2), (4, .int l4), (5, .int l5)]) hZ dX4_laySets_146 rfl rfl (by decide) rfl ?_
            obtain ⟨x147, e147⟩ : ∃ y : Int32, y = l5 + 1 := ⟨_, rfl⟩
            replace h := h x147 e147
            refine x_iinc (i := 5) (v := x147) (pc' := 150) (lv' := [(5, .int x147), (3, .int 1), (0, .ref q_this), (1, .int l1), (2, .int l2), (4, .int l4)]) hZ dX4_laySets_147 rfl 5 rfl (by rw [e147]; rfl) (by decide) rfl ?_
            refine x_goto (pc' := 92) hZ dX4_laySets_150 (by decide) ?_
            refine x_lv [2, 3, 4, 1, 5, 0] (lv' := [(0, .ref q_this), (1, .int l1), (2, .int l2), (3, .int 1), (4, .int l4), (5, .int x147)]) rfl ?_
            exact ih 1 x147 h hK
set_option maxHeartbeats 4000000 in
set_option maxRecDepth 100000 in
theorem t_X4_laySets_180 (E : XE) (Z : ZC) (q_this : Nat) (q_text : Nat) (q_ageing : Nat) (q_page : Nat) (q_readAgeing : Nat) (q_readPage : Nat) (q_book : Nat) (q_kept : Nat) (q_isKept : Nat) (q_heardWho : Nat) (q_heardIs : Nat) (q_tried : Nat) (q_chooser : Nat) (q_best : Nat) (q_alives : Nat) (v_thrown : Int32) (v_textSize : Int32) (v_place : Int32) (v_people : Int32) (v_readPeople : Int32) (v_acts : Int32) (v_heard : Int32) (v_seed : Int64) (v_choosers : Int32) (v_sets : Int32) (v_surely : Int32) (v_page : Nat → Int32) (v_heardWho : Nat → Int32) (v_heardIs : Nat → Int32) (l1 : Int32) (l2 : Int32) {K : Int32 → (Nat → Int32) → Prop} (hZ : XOK E Z RX4 cX4_laySets 6 { frames := 2, cells := 0, slots := 0, locals := 49 }) : ∀ (k : Nat) (l5 : Int32) (v_alives : (Nat → Int32)), wl (fun rec v => b_X4_laySets_180 l2 v_people K rec v.1 v.2) k (l5, v_alives) → (∀ (l5 : Int32) (v_alives : (Nat → Int32)), K l5 v_alives → XW E Z 0 0 [(q_this, cO 4 [.int v_thrown, .ref q_text, .int v_textSize, .int v_place, .int v_people, .ref q_ageing, .ref q_page, .int v_readPeople, .ref q_readAgeing, .ref q_readPage, .ref q_book, .int v_acts, .ref q_kept, .ref q_isKept, .int v_heard, .ref q_heardWho, .ref q_heardIs, .long v_seed, .ref q_tried, .ref q_chooser, .int v_choosers, .ref q_best, .int v_sets, .int v_surely, .ref q_alives]), (q_page, cA E 25 v_page), (q_heardWho, cA E 6 v_heardWho), (q_heardIs, cB E 6 v_heardIs), (q_alives, cA E 6 v_alives)] [(0, .ref q_this), (1, .int l1), (2, .int l2)] [] 219) → XW E Z 0 0 [(q_this, cO 4 [.int v_thrown, .ref q_text, .int v_textSize, .int v_place, .int v_people, .ref q_ageing, .ref q_page, .int v_readPeople, .ref q_readAgeing, .ref q_readPage, .ref q_book, .int v_acts, .ref q_kept, .ref q_isKept, .int v_heard, .ref q_heardWho, .ref q_heardIs, .long v_seed, .ref q_tried, .ref q_chooser, .int v_choosers, .ref q_best, .int v_sets, .int v_surely, .ref q_alives]), (q_page, cA E 25 v_page), (q_heardWho, cA E 6 v_heardWho), (q_heardIs, cB E 6 v_heardIs), (q_alives, cA E 6 v_alives)] [(0, .ref q_this), (1, .int l1), (2, .int l2), (5, .int l5)] [] 180 := by
  intro k
  induction k with
  | zero =>
    intro l5 v_alives h
    exact h.elim
  | succ k ih =>
    intro l5 v_alives h hK
    replace h := wl_succ h
    try dsimp only at h
    unfold b_X4_laySets_180 at h
    refine x_iload (pc' := 182) hZ dX4_laySets_180 rfl 3 rfl ?_
    refine x_aload_n (pc' := 183) hZ dX4_laySets_182 rfl 0 rfl ?_
    refine g_RX4_57 (pc' := 186) hZ dX4_laySets_183 rfl 0 rfl rfl ?_
    refine x_icmp_ge (tgt := 219) (pc' := 189) hZ dX4_laySets_186 (by decide) rfl (fun c186 => ?_) (fun c186 => ?_)
    · replace h := h.1 c186
      refine x_lv [0, 1, 2] (lv' := [(0, .ref q_this), (1, .int l1), (2, .int l2)]) rfl ?_
      exact hK l5 v_alives h
    · replace h := h.2 c186
      refine x_aload_n (pc' := 190) hZ dX4_laySets_189 rfl 0 rfl ?_
      refine g_RX4_50 (pc' := 193) hZ dX4_laySets_190 rfl 0 rfl rfl ?_
      refine x_iload (pc' := 195) hZ dX4_laySets_193 rfl 3 rfl ?_
      refine x_dup2 (pc' := 196) hZ dX4_laySets_195 rfl rfl rfl ?_
      obtain ⟨h196, h⟩ := h
      refine x_iald (pc' := 197) hZ h196 dX4_laySets_196 rfl 4 rfl ?_
      refine x_iload_n (pc' := 198) hZ dX4_laySets_197 rfl 2 rfl ?_
      refine x_iload (pc' := 200) hZ dX4_laySets_198 rfl 3 rfl ?_
      refine k_RX4_90 (pc' := 203) (as := [.int l2, .int l5]) (rest := [.int (v_alives (ix l5)), .int l5, .ref q_alives]) (c' := 0) (n' := 0) (wr := [(q_this, cO 4 [.int v_thrown, .ref q_text, .int v_textSize, .int v_place, .int v_people, .ref q_ageing, .ref q_page, .int v_readPeople, .ref q_readAgeing, .ref q_readPage, .ref q_book, .int v_acts, .ref q_kept, .ref q_isKept, .int v_heard, .ref q_heardWho, .ref q_heardIs, .long v_seed, .ref q_tried, .ref q_chooser, .int v_choosers, .ref q_best, .int v_sets, .int v_surely, .ref q_alives]), (q_page, cA E 25 v_page), (q_heardWho, cA E 6 v_heardWho), (q_heardIs, cB E 6 v_heardIs), (q_alives, cA E 6 v_alives)]) hZ (c_X4_has E l2 l5 _ h) dX4_laySets_200 rfl rfl rfl rfl rfl (Nat.le_of_ble_eq_true rfl) (Nat.le_of_ble_eq_true rfl) (Nat.le_of_ble_eq_true rfl) rfl rfl (Nat.le_of_ble_eq_true rfl) (Nat.le_of_ble_eq_true rfl) [] [0, 1, 2, 3, 4] rfl rfl (by decide) (by decide) (by decide) (fun r200 w200 hw => ?_)
      obtain ⟨rfl, h⟩ := hw
      refine x_ws (ws' := [(q_this, cO 4 [.int v_thrown, .ref q_text, .int v_textSize, .int v_place, .int v_people, .ref q_ageing, .ref q_page, .int v_readPeople, .ref q_readAgeing, .ref q_readPage, .ref q_book, .int v_acts, .ref q_kept, .ref q_isKept, .int v_heard, .ref q_heardWho, .ref q_heardIs, .long v_seed, .ref q_tried, .ref q_chooser, .int v_choosers, .ref q_best, .int v_sets, .int v_surely, .ref q_alives]), (q_page, cA E 25 v_page), (q_heardWho, cA E 6 v_heardWho), (q_heardIs, cB E 6 v_heardIs), (q_alives, cA E 6 v_alives)]) [0, 1, 2, 3, 4] rfl (by decide) ?_
      refine x_if_eq (tgt := 210) (pc' := 206) hZ dX4_laySets_203 (by decide) rfl (fun c203 => ?_) (fun c203 => ?_)
      · replace h := h.1 c203
        refine x_iconst (v := 0) (pc' := 211) hZ (by decide) dX4_laySets_210 rfl ?_
        refine x_iadd (pc' := 212) hZ dX4_laySets_211 rfl ?_
        refine x_topi (fun x212 e212 => ?_)
        replace h := h x212 e212
        obtain ⟨h212, h⟩ := h
        refine x_iast (pc' := 213) (ws' := [(q_this, cO 4 [.int v_thrown, .ref q_text, .int v_textSize, .int v_place, .int v_people, .ref q_ageing, .ref q_page, .int v_readPeople, .ref q_readAgeing, .ref q_readPage, .ref q_book, .int v_acts, .ref q_kept, .ref q_isKept, .int v_heard, .ref q_heardWho, .ref q_heardIs, .long v_seed, .ref q_tried, .ref q_chooser, .int v_choosers, .ref q_best, .int v_sets, .int v_surely, .ref q_alives]), (q_page, cA E 25 v_page), (q_heardWho, cA E 6 v_heardWho), (q_heardIs, cB E 6 v_heardIs), (q_alives, cA E 6 (upd v_alives (ix l5) x212))]) hZ h212 dX4_laySets_212 rfl 4 rfl rfl ?_
        obtain ⟨x213, e213⟩ : ∃ y : Int32, y = l5 + 1 := ⟨_, rfl⟩
        replace h := h x213 e213
        refine x_iinc (i := 5) (v := x213) (pc' := 216) (lv' := [(5, .int x213), (0, .ref q_this), (1, .int l1), (2, .int l2)]) hZ dX4_laySets_213 rfl 3 rfl (by rw [e213]; rfl) (by decide) rfl ?_
        refine x_goto (pc' := 180) hZ dX4_laySets_216 (by decide) ?_
        refine x_lv [1, 2, 3, 0] (lv' := [(0, .ref q_this), (1, .int l1), (2, .int l2), (5, .int x213)]) rfl ?_
        exact ih x213 (upd v_alives (ix l5) x212) h hK
      · replace h := h.2 c203
        refine x_iconst (v := 1) (pc' := 207) hZ (by decide) dX4_laySets_206 rfl ?_
        refine x_goto (pc' := 211) hZ dX4_laySets_207 (by decide) ?_
        refine x_iadd (pc' := 212) hZ dX4_laySets_211 rfl ?_
        refine x_topi (fun x212 e212 => ?_)
        replace h := h x212 e212
        obtain ⟨h212, h⟩ := h
        refine x_iast (pc' := 213) (ws' := [(q_this, cO 4 [.int v_thrown, .ref q_text, .int v_textSize, .int v_place, .int v_people, .ref q_ageing, .ref q_page, .int v_readPeople, .ref q_readAgeing, .ref q_readPage, .ref q_book, .int v_acts, .ref q_kept, .ref q_isKept, .int v_heard, .ref q_heardWho, .ref q_heardIs, .long v_seed, .ref q_tried, .ref q_chooser, .int v_choosers, .ref q_best, .int v_sets, .int v_surely, .ref q_alives]), (q_page, cA E 25 v_page), (q_heardWho, cA E 6 v_heardWho), (q_heardIs, cB E 6 v_heardIs), (q_alives, cA E 6 (upd v_alives (ix l5) x212))]) hZ h212 dX4_laySets_212 rfl 4 rfl rfl ?_
        obtain ⟨x213, e213⟩ : ∃ y : Int32, y = l5 + 1 := ⟨_, rfl⟩
        replace h := h x213 e213
        refine x_iinc (i := 5) (v := x213) (pc' := 216) (lv' := [(5, .int x213), (0, .ref q_this), (1, .int l1), (2, .int l2)]) hZ dX4_laySets_213 rfl 3 rfl (by rw [e213]; rfl) (by decide) rfl ?_
        refine x_goto (pc' := 180) hZ dX4_laySets_216 (by decide) ?_
        refine x_lv [1, 2, 3, 0] (lv' := [(0, .ref q_this), (1, .int l1), (2, .int l2), (5, .int x213)]) rfl ?_
        exact ih x213 (upd v_alives (ix l5) x212) h hK
set_option maxHeartbeats 4000000 in
set_option maxRecDepth 100000 in
theorem t_X4_laySets_42 (E : XE) (Z : ZC) (q_this : Nat) (q_text : Nat) (q_ageing : Nat) (q_page : Nat) (q_readAgeing : Nat) (q_readPage : Nat) (q_book : Nat) (q_kept : Nat) (q_isKept : Nat) (q_heardWho : Nat) (q_heardIs : Nat) (q_tried : Nat) (q_chooser : Nat) (q_best : Nat) (q_alives : Nat) (v_thrown : Int32) (v_textSize : Int32) (v_place : Int32) (v_people : Int32) (v_readPeople : Int32) (v_acts : Int32) (v_heard : Int32) (v_seed : Int64) (v_choosers : Int32) (v_page : Nat → Int32) (v_heardWho : Nat → Int32) (v_heardIs : Nat → Int32) (l1 : Int32) {K : Int32 → Int32 → Int32 → (Nat → Int32) → Prop} (hZ : XOK E Z RX4 cX4_laySets 6 { frames := 2, cells := 0, slots := 0, locals := 49 }) : ∀ (k : Nat) (l2 : Int32) (v_sets : Int32) (v_surely : Int32) (v_alives : (Nat → Int32)), wl (fun rec v => b_X4_laySets_42 l1 v_people v_heard v_page v_heardWho v_heardIs K rec v.1 v.2.1 v.2.2.1 v.2.2.2) k (l2, v_sets, v_surely, v_alives) → (∀ (l2 : Int32) (v_sets : Int32) (v_surely : Int32) (v_alives : (Nat → Int32)), K l2 v_sets v_surely v_alives → XW E Z 0 0 [(q_this, cO 4 [.int v_thrown, .ref q_text, .int v_textSize, .int v_place, .int v_people, .ref q_ageing, .ref q_page, .int v_readPeople, .ref q_readAgeing, .ref q_readPage, .ref q_book, .int v_acts, .ref q_kept, .ref q_isKept, .int v_heard, .ref q_heardWho, .ref q_heardIs, .long v_seed, .ref q_tried, .ref q_chooser, .int v_choosers, .ref q_best, .int v_sets, .int v_surely, .ref q_alives]), (q_page, cA E 25 v_page), (q_heardWho, cA E 6 v_heardWho), (q_heardIs, cB E 6 v_heardIs), (q_alives, cA E 6 v_alives)] [] [] 225) → XW E Z 0 0 [(q_this, cO 4 [.int v_thrown, .ref q_text, .int v_textSize, .int v_place, .int v_people, .ref q_ageing, .ref q_page, .int v_readPeople, .ref q_readAgeing, .ref q_readPage, .ref q_book, .int v_acts, .ref q_kept, .ref q_isKept, .int v_heard, .ref q_heardWho, .ref q_heardIs, .long v_seed, .ref q_tried, .ref q_chooser, .int v_choosers, .ref q_best, .int v_sets, .int v_surely, .ref q_alives]), (q_page, cA E 25 v_page), (q_heardWho, cA E 6 v_heardWho), (q_heardIs, cB E 6 v_heardIs), (q_alives, cA E 6 v_alives)] [(0, .ref q_this), (1, .int l1), (2, .int l2)] [] 42 := by
  intro k
  induction k with
  | zero =>
    intro l2 v_sets v_surely v_alives h
    exact h.elim
  | succ k ih =>
    intro l2 v_sets v_surely v_alives h hK
    replace h := wl_succ h
    try dsimp only at h
    unfold b_X4_laySets_42 at h
    refine x_iload_n (pc' := 43) hZ dX4_laySets_42 rfl 2 rfl ?_
    refine x_iload_n (pc' := 44) hZ dX4_laySets_43 rfl 1 rfl ?_
    refine x_icmp_gt (tgt := 225) (pc' := 47) hZ dX4_laySets_44 (by decide) rfl (fun c44 => ?_) (fun c44 => ?_)
    · replace h := h.1 c44
      refine x_lv [] (lv' := []) rfl ?_
      exact hK l2 v_sets v_surely v_alives h
    · replace h := h.2 c44
      refine x_iload_n (pc' := 48) hZ dX4_laySets_47 rfl 2 rfl ?_
      refine x_iconst (v := (-1)) (pc' := 49) hZ (by decide) dX4_laySets_48 rfl ?_
      refine x_ixor (pc' := 50) hZ dX4_laySets_49 rfl ?_
      refine x_iload_n (pc' := 51) hZ dX4_laySets_50 rfl 1 rfl ?_
      refine x_iand (pc' := 52) hZ dX4_laySets_51 rfl ?_
      refine x_aload_n (pc' := 53) hZ dX4_laySets_52 rfl 0 rfl ?_
      refine g_RX4_16 (pc' := 56) hZ dX4_laySets_53 rfl 0 rfl rfl ?_
      refine x_bipush (v := 22) (pc' := 58) hZ (by decide) dX4_laySets_56 rfl ?_
      have h58 : vp_in 22 25 := by unfold vp_in; decide
      refine x_iald (pc' := 59) hZ h58 dX4_laySets_58 rfl 1 rfl ?_
      refine x_iconst (v := (-1)) (pc' := 60) hZ (by decide) dX4_laySets_59 rfl ?_
      refine x_ixor (pc' := 61) hZ dX4_laySets_60 rfl ?_
      refine x_iand (pc' := 62) hZ dX4_laySets_61 rfl ?_
      refine x_if_ne (tgt := 69) (pc' := 65) hZ dX4_laySets_62 (by decide) rfl (fun c62 => ?_) (fun c62 => ?_)
      · replace h := h.1 c62
        refine x_iconst (v := 0) (pc' := 70) hZ (by decide) dX4_laySets_69 rfl ?_
        refine x_istore_n (i := 3) (pc' := 71) (lv' := [(3, .int 0), (0, .ref q_this), (1, .int l1), (2, .int l2)]) hZ dX4_laySets_70 rfl rfl (by decide) rfl ?_
        refine x_aload_n (pc' := 72) hZ dX4_laySets_71 rfl 1 rfl ?_
        refine x_aload_n (pc' := 73) hZ dX4_laySets_72 rfl 1 rfl ?_
        refine g_RX4_16 (pc' := 76) hZ dX4_laySets_73 rfl 0 rfl rfl ?_
        refine x_iload_n (pc' := 77) hZ dX4_laySets_76 rfl 3 rfl ?_
        refine x_aload_n (pc' := 78) hZ dX4_laySets_77 rfl 1 rfl ?_
        refine g_RX4_16 (pc' := 81) hZ dX4_laySets_78 rfl 0 rfl rfl ?_
        refine k_RX4_98 (pc' := 84) (as := [.ref q_page]) (rest := [.int l2, .ref q_page, .ref q_this]) (c' := 0) (n' := 0) (wr := [(q_this, cO 4 [.int v_thrown, .ref q_text, .int v_textSize, .int v_place, .int v_people, .ref q_ageing, .ref q_page, .int v_readPeople, .ref q_readAgeing, .ref q_readPage, .ref q_book, .int v_acts, .ref q_kept, .ref q_isKept, .int v_heard, .ref q_heardWho, .ref q_heardIs, .long v_seed, .ref q_tried, .ref q_chooser, .int v_choosers, .ref q_best, .int v_sets, .int v_surely, .ref q_alives]), (q_heardWho, cA E 6 v_heardWho), (q_heardIs, cB E 6 v_heardIs), (q_alives, cA E 6 v_alives)]) hZ (c_X4_weightsOf E q_page v_page _ h) dX4_laySets_81 rfl rfl rfl rfl rfl (Nat.le_of_ble_eq_true rfl) (Nat.le_of_ble_eq_true rfl) (Nat.le_of_ble_eq_true rfl) rfl rfl (Nat.le_of_ble_eq_true rfl) (Nat.le_of_ble_eq_true rfl) [1] [0, 2, 3, 4] rfl rfl (by decide) (by decide) (by decide) (fun r81 w81 hw => ?_)
        obtain ⟨rfl, h⟩ := hw
        refine x_ws (ws' := [(q_this, cO 4 [.int v_thrown, .ref q_text, .int v_textSize, .int v_place, .int v_people, .ref q_ageing, .ref q_page, .int v_readPeople, .ref q_readAgeing, .ref q_readPage, .ref q_book, .int v_acts, .ref q_kept, .ref q_isKept, .int v_heard, .ref q_heardWho, .ref q_heardIs, .long v_seed, .ref q_tried, .ref q_chooser, .int v_choosers, .ref q_best, .int v_sets, .int v_surely, .ref q_alives]), (q_page, cA E 25 v_page), (q_heardWho, cA E 6 v_heardWho), (q_heardIs, cB E 6 v_heardIs), (q_alives, cA E 6 v_alives)]) [0, 4, 1, 2, 3] rfl (by decide) ?_
        refine k_RX4_102 (pc' := 87) (q0 := 0) (as := [.ref q_page, .int l2, .int r81]) (rest := []) (c' := 0) (n' := 0) (wr := [(q_heardWho, cA E 6 v_heardWho), (q_heardIs, cB E 6 v_heardIs), (q_alives, cA E 6 v_alives)]) hZ (c_X4_fairestOf E q_this q_text q_ageing q_page q_readAgeing q_readPage q_book q_kept q_isKept q_heardWho q_heardIs q_tried q_chooser q_best q_alives q_page v_thrown v_textSize v_place v_people v_readPeople v_acts v_heard v_seed v_choosers v_sets v_surely v_page l2 r81 _ h) rfl dX4_laySets_84 rfl rfl rfl rfl rfl (Nat.le_of_ble_eq_true rfl) (Nat.le_of_ble_eq_true rfl) (Nat.le_of_ble_eq_true rfl) rfl rfl (Nat.le_of_ble_eq_true rfl) (Nat.le_of_ble_eq_true rfl) [0, 1] [2, 3, 4] rfl rfl (by decide) (by decide) (by decide) (fun r84 w84 hw => ?_)
        obtain ⟨rfl, h⟩ := hw
        refine x_ws (ws' := [(q_this, cO 4 [.int v_thrown, .ref q_text, .int v_textSize, .int v_place, .int v_people, .ref q_ageing, .ref q_page, .int v_readPeople, .ref q_readAgeing, .ref q_readPage, .ref q_book, .int v_acts, .ref q_kept, .ref q_isKept, .int v_heard, .ref q_heardWho, .ref q_heardIs, .long v_seed, .ref q_tried, .ref q_chooser, .int v_choosers, .ref q_best, .int v_sets, .int v_surely, .ref q_alives]), (q_page, cA E 25 v_page), (q_heardWho, cA E 6 v_heardWho), (q_heardIs, cB E 6 v_heardIs), (q_alives, cA E 6 v_alives)]) [3, 4, 0, 1, 2] rfl (by decide) ?_
        refine x_istore (i := 4) (pc' := 89) (lv' := [(4, .int r84), (3, .int 0), (0, .ref q_this), (1, .int l1), (2, .int l2)]) hZ dX4_laySets_87 rfl (by decide) rfl ?_
        refine x_iconst (v := 0) (pc' := 90) hZ (by decide) dX4_laySets_89 rfl ?_
        refine x_istore (i := 5) (pc' := 92) (lv' := [(5, .int 0), (4, .int r84), (3, .int 0), (0, .ref q_this), (1, .int l1), (2, .int l2)]) hZ dX4_laySets_90 rfl (by decide) rfl ?_
        refine x_lv [3, 4, 5, 2, 1, 0] (lv' := [(0, .ref q_this), (1, .int l1), (2, .int l2), (3, .int 0), (4, .int r84), (5, .int 0)]) rfl ?_
        obtain ⟨k92, h⟩ := h
        refine t_X4_laySets_92 E Z q_this q_text q_ageing q_page q_readAgeing q_readPage q_book q_kept q_isKept q_heardWho q_heardIs q_tried q_chooser q_best q_alives v_thrown v_textSize v_place v_people v_readPeople v_acts v_heard v_seed v_choosers v_sets v_surely v_page v_heardWho v_heardIs v_alives l1 l2 r84 hZ  _ 0 0 h (fun l3_92 l5_92 h => ?_)
        refine x_iload_n (pc' := 154) hZ dX4_laySets_153 rfl 3 rfl ?_
        refine x_if_eq (tgt := 219) (pc' := 157) hZ dX4_laySets_154 (by decide) rfl (fun c154 => ?_) (fun c154 => ?_)
        · replace h := h.1 c154
          obtain ⟨x219, e219⟩ : ∃ y : Int32, y = l2 + 1 := ⟨_, rfl⟩
          replace h := h x219 e219
          refine x_iinc (i := 2) (v := x219) (pc' := 222) (lv' := [(2, .int x219), (0, .ref q_this), (1, .int l1), (3, .int l3_92)]) hZ dX4_laySets_219 rfl 2 rfl (by rw [e219]; rfl) (by decide) rfl ?_
          refine x_goto (pc' := 42) hZ dX4_laySets_222 (by decide) ?_
          refine x_lv [1, 2, 0] (lv' := [(0, .ref q_this), (1, .int l1), (2, .int x219)]) rfl ?_
          exact ih x219 v_sets v_surely v_alives h hK
        · replace h := h.2 c154
          refine x_aload_n (pc' := 158) hZ dX4_laySets_157 rfl 0 rfl ?_
          refine x_dup (pc' := 159) hZ dX4_laySets_158 rfl rfl ?_
          refine g_RX4_139 (pc' := 162) hZ dX4_laySets_159 rfl 0 rfl rfl ?_
          refine x_iconst (v := 1) (pc' := 163) hZ (by decide) dX4_laySets_162 rfl ?_
          refine x_iadd (pc' := 164) hZ dX4_laySets_163 rfl ?_
          refine x_topi (fun x164 e164 => ?_)
          replace h := h x164 e164
          refine s_RX4_139 (pc' := 167) (ws' := [(q_this, cO 4 [.int v_thrown, .ref q_text, .int v_textSize, .int v_place, .int v_people, .ref q_ageing, .ref q_page, .int v_readPeople, .ref q_readAgeing, .ref q_readPage, .ref q_book, .int v_acts, .ref q_kept, .ref q_isKept, .int v_heard, .ref q_heardWho, .ref q_heardIs, .long v_seed, .ref q_tried, .ref q_chooser, .int v_choosers, .ref q_best, .int x164, .int v_surely, .ref q_alives]), (q_page, cA E 25 v_page), (q_heardWho, cA E 6 v_heardWho), (q_heardIs, cB E 6 v_heardIs), (q_alives, cA E 6 v_alives)]) hZ dX4_laySets_164 rfl 0 rfl (Nat.le_of_ble_eq_true rfl) rfl ?_
          refine x_aload_n (pc' := 168) hZ dX4_laySets_167 rfl 0 rfl ?_
          refine x_dup (pc' := 169) hZ dX4_laySets_168 rfl rfl ?_
          refine g_RX4_142 (pc' := 172) hZ dX4_laySets_169 rfl 0 rfl rfl ?_
          refine x_iload_n (pc' := 173) hZ dX4_laySets_172 rfl 2 rfl ?_
          refine x_iand (pc' := 174) hZ dX4_laySets_173 rfl ?_
          refine x_topi (fun x174 e174 => ?_)
          replace h := h x174 e174
          refine s_RX4_142 (pc' := 177) (ws' := [(q_this, cO 4 [.int v_thrown, .ref q_text, .int v_textSize, .int v_place, .int v_people, .ref q_ageing, .ref q_page, .int v_readPeople, .ref q_readAgeing, .ref q_readPage, .ref q_book, .int v_acts, .ref q_kept, .ref q_isKept, .int v_heard, .ref q_heardWho, .ref q_heardIs, .long v_seed, .ref q_tried, .ref q_chooser, .int v_choosers, .ref q_best, .int x164, .int x174, .ref q_alives]), (q_page, cA E 25 v_page), (q_heardWho, cA E 6 v_heardWho), (q_heardIs, cB E 6 v_heardIs), (q_alives, cA E 6 v_alives)]) hZ dX4_laySets_174 rfl 0 rfl (Nat.le_of_ble_eq_true rfl) rfl ?_
          refine x_iconst (v := 0) (pc' := 178) hZ (by decide) dX4_laySets_177 rfl ?_
          refine x_istore (i := 5) (pc' := 180) (lv' := [(5, .int 0), (0, .ref q_this), (1, .int l1), (2, .int l2), (3, .int l3_92)]) hZ dX4_laySets_178 rfl (by decide) rfl ?_
          refine x_lv [1, 2, 3, 0] (lv' := [(0, .ref q_this), (1, .int l1), (2, .int l2), (5, .int 0)]) rfl ?_
          obtain ⟨k180, h⟩ := h
          refine t_X4_laySets_180 E Z q_this q_text q_ageing q_page q_readAgeing q_readPage q_book q_kept q_isKept q_heardWho q_heardIs q_tried q_chooser q_best q_alives v_thrown v_textSize v_place v_people v_readPeople v_acts v_heard v_seed v_choosers x164 x174 v_page v_heardWho v_heardIs l1 l2 hZ  _ 0 v_alives h (fun l5_180 v_alives_180 h => ?_)
          obtain ⟨x219, e219⟩ : ∃ y : Int32, y = l2 + 1 := ⟨_, rfl⟩
          replace h := h x219 e219
          refine x_iinc (i := 2) (v := x219) (pc' := 222) (lv' := [(2, .int x219), (0, .ref q_this), (1, .int l1)]) hZ dX4_laySets_219 rfl 2 rfl (by rw [e219]; rfl) (by decide) rfl ?_
          refine x_goto (pc' := 42) hZ dX4_laySets_222 (by decide) ?_
          refine x_lv [1, 2, 0] (lv' := [(0, .ref q_this), (1, .int l1), (2, .int x219)]) rfl ?_
          exact ih x219 x164 x174 v_alives_180 h hK
      · replace h := h.2 c62
        refine x_iconst (v := 1) (pc' := 66) hZ (by decide) dX4_laySets_65 rfl ?_
        refine x_goto (pc' := 70) hZ dX4_laySets_66 (by decide) ?_
        refine x_istore_n (i := 3) (pc' := 71) (lv' := [(3, .int 1), (0, .ref q_this), (1, .int l1), (2, .int l2)]) hZ dX4_laySets_70 rfl rfl (by decide) rfl ?_
        refine x_aload_n (pc' := 72) hZ dX4_laySets_71 rfl 1 rfl ?_
        refine x_aload_n (pc' := 73) hZ dX4_laySets_72 rfl 1 rfl ?_
        refine g_RX4_16 (pc' := 76) hZ dX4_laySets_73 rfl 0 rfl rfl ?_
        refine x_iload_n (pc' := 77) hZ dX4_laySets_76 rfl 3 rfl ?_
        refine x_aload_n (pc' := 78) hZ dX4_laySets_77 rfl 1 rfl ?_
        refine g_RX4_16 (pc' := 81) hZ dX4_laySets_78 rfl 0 rfl rfl ?_
        refine k_RX4_98 (pc' := 84) (as := [.ref q_page]) (rest := [.int l2, .ref q_page, .ref q_this]) (c' := 0) (n' := 0) (wr := [(q_this, cO 4 [.int v_thrown, .ref q_text, .int v_textSize, .int v_place, .int v_people, .ref q_ageing, .ref q_page, .int v_readPeople, .ref q_readAgeing, .ref q_readPage, .ref q_book, .int v_acts, .ref q_kept, .ref q_isKept, .int v_heard, .ref q_heardWho, .ref q_heardIs, .long v_seed, .ref q_tried, .ref q_chooser, .int v_choosers, .ref q_best, .int v_sets, .int v_surely, .ref q_alives]), (q_heardWho, cA E 6 v_heardWho), (q_heardIs, cB E 6 v_heardIs), (q_alives, cA E 6 v_alives)]) hZ (c_X4_weightsOf E q_page v_page _ h) dX4_laySets_81 rfl rfl rfl rfl rfl (Nat.le_of_ble_eq_true rfl) (Nat.le_of_ble_eq_true rfl) (Nat.le_of_ble_eq_true rfl) rfl rfl (Nat.le_of_ble_eq_true rfl) (Nat.le_of_ble_eq_true rfl) [1] [0, 2, 3, 4] rfl rfl (by decide) (by decide) (by decide) (fun r81 w81 hw => ?_)
        obtain ⟨rfl, h⟩ := hw
        refine x_ws (ws' := [(q_this, cO 4 [.int v_thrown, .ref q_text, .int v_textSize, .int v_place, .int v_people, .ref q_ageing, .ref q_page, .int v_readPeople, .ref q_readAgeing, .ref q_readPage, .ref q_book, .int v_acts, .ref q_kept, .ref q_isKept, .int v_heard, .ref q_heardWho, .ref q_heardIs, .long v_seed, .ref q_tried, .ref q_chooser, .int v_choosers, .ref q_best, .int v_sets, .int v_surely, .ref q_alives]), (q_page, cA E 25 v_page), (q_heardWho, cA E 6 v_heardWho), (q_heardIs, cB E 6 v_heardIs), (q_alives, cA E 6 v_alives)]) [0, 4, 1, 2, 3] rfl (by decide) ?_
        refine k_RX4_102 (pc' := 87) (q0 := 0) (as := [.ref q_page, .int l2, .int r81]) (rest := []) (c' := 0) (n' := 0) (wr := [(q_heardWho, cA E 6 v_heardWho), (q_heardIs, cB E 6 v_heardIs), (q_alives, cA E 6 v_alives)]) hZ (c_X4_fairestOf E q_this q_text q_ageing q_page q_readAgeing q_readPage q_book q_kept q_isKept q_heardWho q_heardIs q_tried q_chooser q_best q_alives q_page v_thrown v_textSize v_place v_people v_readPeople v_acts v_heard v_seed v_choosers v_sets v_surely v_page l2 r81 _ h) rfl dX4_laySets_84 rfl rfl rfl rfl rfl (Nat.le_of_ble_eq_true rfl) (Nat.le_of_ble_eq_true rfl) (Nat.le_of_ble_eq_true rfl) rfl rfl (Nat.le_of_ble_eq_true rfl) (Nat.le_of_ble_eq_true rfl) [0, 1] [2, 3, 4] rfl rfl (by decide) (by decide) (by decide) (fun r84 w84 hw => ?_)
        obtain ⟨rfl, h⟩ := hw
        refine x_ws (ws' := [(q_this, cO 4 [.int v_thrown, .ref q_text, .int v_textSize, .int v_place, .int v_people, .ref q_ageing, .ref q_page, .int v_readPeople, .ref q_readAgeing, .ref q_readPage, .ref q_book, .int v_acts, .ref q_kept, .ref q_isKept, .int v_heard, .ref q_heardWho, .ref q_heardIs, .long v_seed, .ref q_tried, .ref q_chooser, .int v_choosers, .ref q_best, .int v_sets, .int v_surely, .ref q_alives]), (q_page, cA E 25 v_page), (q_heardWho, cA E 6 v_heardWho), (q_heardIs, cB E 6 v_heardIs), (q_alives, cA E 6 v_alives)]) [3, 4, 0, 1, 2] rfl (by decide) ?_
        refine x_istore (i := 4) (pc' := 89) (lv' := [(4, .int r84), (3, .int 1), (0, .ref q_this), (1, .int l1), (2, .int l2)]) hZ dX4_laySets_87 rfl (by decide) rfl ?_
        refine x_iconst (v := 0) (pc' := 90) hZ (by decide) dX4_laySets_89 rfl ?_
        refine x_istore (i := 5) (pc' := 92) (lv' := [(5, .int 0), (4, .int r84), (3, .int 1), (0, .ref q_this), (1, .int l1), (2, .int l2)]) hZ dX4_laySets_90 rfl (by decide) rfl ?_
        refine x_lv [3, 4, 5, 2, 1, 0] (lv' := [(0, .ref q_this), (1, .int l1), (2, .int l2), (3, .int 1), (4, .int r84), (5, .int 0)]) rfl ?_
        obtain ⟨k92, h⟩ := h
        refine t_X4_laySets_92 E Z q_this q_text q_ageing q_page q_readAgeing q_readPage q_book q_kept q_isKept q_heardWho q_heardIs q_tried q_chooser q_best q_alives v_thrown v_textSize v_place v_people v_readPeople v_acts v_heard v_seed v_choosers v_sets v_surely v_page v_heardWho v_heardIs v_alives l1 l2 r84 hZ  _ 1 0 h (fun l3_92 l5_92 h => ?_)
        refine x_iload_n (pc' := 154) hZ dX4_laySets_153 rfl 3 rfl ?_
        refine x_if_eq (tgt := 219) (pc' := 157) hZ dX4_laySets_154 (by decide) rfl (fun c154 => ?_) (fun c154 => ?_)
        · replace h := h.1 c154
          obtain ⟨x219, e219⟩ : ∃ y : Int32, y = l2 + 1 := ⟨_, rfl⟩
          replace h := h x219 e219
          refine x_iinc (i := 2) (v := x219) (pc' := 222) (lv' := [(2, .int x219), (0, .ref q_this), (1, .int l1), (3, .int l3_92)]) hZ dX4_laySets_219 rfl 2 rfl (by rw [e219]; rfl) (by decide) rfl ?_
          refine x_goto (pc' := 42) hZ dX4_laySets_222 (by decide) ?_
          refine x_lv [1, 2, 0] (lv' := [(0, .ref q_this), (1, .int l1), (2, .int x219)]) rfl ?_
          exact ih x219 v_sets v_surely v_alives h hK
        · replace h := h.2 c154
          refine x_aload_n (pc' := 158) hZ dX4_laySets_157 rfl 0 rfl ?_
          refine x_dup (pc' := 159) hZ dX4_laySets_158 rfl rfl ?_
          refine g_RX4_139 (pc' := 162) hZ dX4_laySets_159 rfl 0 rfl rfl ?_
          refine x_iconst (v := 1) (pc' := 163) hZ (by decide) dX4_laySets_162 rfl ?_
          refine x_iadd (pc' := 164) hZ dX4_laySets_163 rfl ?_
          refine x_topi (fun x164 e164 => ?_)
          replace h := h x164 e164
          refine s_RX4_139 (pc' := 167) (ws' := [(q_this, cO 4 [.int v_thrown, .ref q_text, .int v_textSize, .int v_place, .int v_people, .ref q_ageing, .ref q_page, .int v_readPeople, .ref q_readAgeing, .ref q_readPage, .ref q_book, .int v_acts, .ref q_kept, .ref q_isKept, .int v_heard, .ref q_heardWho, .ref q_heardIs, .long v_seed, .ref q_tried, .ref q_chooser, .int v_choosers, .ref q_best, .int x164, .int v_surely, .ref q_alives]), (q_page, cA E 25 v_page), (q_heardWho, cA E 6 v_heardWho), (q_heardIs, cB E 6 v_heardIs), (q_alives, cA E 6 v_alives)]) hZ dX4_laySets_164 rfl 0 rfl (Nat.le_of_ble_eq_true rfl) rfl ?_
          refine x_aload_n (pc' := 168) hZ dX4_laySets_167 rfl 0 rfl ?_
          refine x_dup (pc' := 169) hZ dX4_laySets_168 rfl rfl ?_
          refine g_RX4_142 (pc' := 172) hZ dX4_laySets_169 rfl 0 rfl rfl ?_
          refine x_iload_n (pc' := 173) hZ dX4_laySets_172 rfl 2 rfl ?_
          refine x_iand (pc' := 174) hZ dX4_laySets_173 rfl ?_
          refine x_topi (fun x174 e174 => ?_)
          replace h := h x174 e174
          refine s_RX4_142 (pc' := 177) (ws' := [(q_this, cO 4 [.int v_thrown, .ref q_text, .int v_textSize, .int v_place, .int v_people, .ref q_ageing, .ref q_page, .int v_readPeople, .ref q_readAgeing, .ref q_readPage, .ref q_book, .int v_acts, .ref q_kept, .ref q_isKept, .int v_heard, .ref q_heardWho, .ref q_heardIs, .long v_seed, .ref q_tried, .ref q_chooser, .int v_choosers, .ref q_best, .int x164, .int x174, .ref q_alives]), (q_page, cA E 25 v_page), (q_heardWho, cA E 6 v_heardWho), (q_heardIs, cB E 6 v_heardIs), (q_alives, cA E 6 v_alives)]) hZ dX4_laySets_174 rfl 0 rfl (Nat.le_of_ble_eq_true rfl) rfl ?_
          refine x_iconst (v := 0) (pc' := 178) hZ (by decide) dX4_laySets_177 rfl ?_
          refine x_istore (i := 5) (pc' := 180) (lv' := [(5, .int 0), (0, .ref q_this), (1, .int l1), (2, .int l2), (3, .int l3_92)]) hZ dX4_laySets_178 rfl (by decide) rfl ?_
          refine x_lv [1, 2, 3, 0] (lv' := [(0, .ref q_this), (1, .int l1), (2, .int l2), (5, .int 0)]) rfl ?_
          obtain ⟨k180, h⟩ := h
          refine t_X4_laySets_180 E Z q_this q_text q_ageing q_page q_readAgeing q_readPage q_book q_kept q_isKept q_heardWho q_heardIs q_tried q_chooser q_best q_alives v_thrown v_textSize v_place v_people v_readPeople v_acts v_heard v_seed v_choosers x164 x174 v_page v_heardWho v_heardIs l1 l2 hZ  _ 0 v_alives h (fun l5_180 v_alives_180 h => ?_)
          obtain ⟨x219, e219⟩ : ∃ y : Int32, y = l2 + 1 := ⟨_, rfl⟩
          replace h := h x219 e219
          refine x_iinc (i := 2) (v := x219) (pc' := 222) (lv' := [(2, .int x219), (0, .ref q_this), (1, .int l1)]) hZ dX4_laySets_219 rfl 2 rfl (by rw [e219]; rfl) (by decide) rfl ?_
          refine x_goto (pc' := 42) hZ dX4_laySets_222 (by decide) ?_
          refine x_lv [1, 2, 0] (lv' := [(0, .ref q_this), (1, .int l1), (2, .int x219)]) rfl ?_
          exact ih x219 x164 x174 v_alives_180 h hK
set_option maxHeartbeats 4000000 in
set_option maxRecDepth 100000 in
theorem c_X4_laySets (E : XE) (q_this : Nat) (q_text : Nat) (q_ageing : Nat) (q_page : Nat) (q_readAgeing : Nat) (q_readPage : Nat) (q_book : Nat) (q_kept : Nat) (q_isKept : Nat) (q_heardWho : Nat) (q_heardIs : Nat) (q_tried : Nat) (q_chooser : Nat) (q_best : Nat) (q_alives : Nat) (v_thrown : Int32) (v_textSize : Int32) (v_place : Int32) (v_people : Int32) (v_readPeople : Int32) (v_acts : Int32) (v_heard : Int32) (v_seed : Int64) (v_choosers : Int32) (v_sets : Int32) (v_surely : Int32) (v_page : Nat → Int32) (v_heardWho : Nat → Int32) (v_heardIs : Nat → Int32) (v_alives : Nat → Int32) (post : Int32 → Int32 → (Nat → Int32) → Prop) (h : p_X4_laySets v_people v_heard v_sets v_surely v_page v_heardWho v_heardIs v_alives post) : ConV E yX4_laySets cX4_laySets 6 { frames := 2, cells := 0, slots := 0, locals := 49 } 0 0 [.ref q_this] [(q_this, cO 4 [.int v_thrown, .ref q_text, .int v_textSize, .int v_place, .int v_people, .ref q_ageing, .ref q_page, .int v_readPeople, .ref q_readAgeing, .ref q_readPage, .ref q_book, .int v_acts, .ref q_kept, .ref q_isKept, .int v_heard, .ref q_heardWho, .ref q_heardIs, .long v_seed, .ref q_tried, .ref q_chooser, .int v_choosers, .ref q_best, .int v_sets, .int v_surely, .ref q_alives]), (q_page, cA E 25 v_page), (q_heardWho, cA E 6 v_heardWho), (q_heardIs, cB E 6 v_heardIs), (q_alives, cA E 6 v_alives)] (fun w => ∃ (u_sets : Int32) (u_surely : Int32) (u_alives : Nat → Int32), w = [(q_this, cO 4 [.int v_thrown, .ref q_text, .int v_textSize, .int v_place, .int v_people, .ref q_ageing, .ref q_page, .int v_readPeople, .ref q_readAgeing, .ref q_readPage, .ref q_book, .int v_acts, .ref q_kept, .ref q_isKept, .int v_heard, .ref q_heardWho, .ref q_heardIs, .long v_seed, .ref q_tried, .ref q_chooser, .int v_choosers, .ref q_best, .int u_sets, .int u_surely, .ref q_alives]), (q_page, cA E 25 v_page), (q_heardWho, cA E 6 v_heardWho), (q_heardIs, cB E 6 v_heardIs), (q_alives, cA E 6 u_alives)] ∧ post u_sets u_surely u_alives) := by
  refine ConV.of (by decide +kernel) (Nat.le_of_ble_eq_true rfl) (fun Z hZ hI hRet => ?_)
  replace hZ : XOK E Z RX4 cX4_laySets 6 { frames := 2, cells := 0, slots := 0, locals := 49 } := hZ
  clear hI
  show XW E Z 0 0 [(q_this, cO 4 [.int v_thrown, .ref q_text, .int v_textSize, .int v_place, .int v_people, .ref q_ageing, .ref q_page, .int v_readPeople, .ref q_readAgeing, .ref q_readPage, .ref q_book, .int v_acts, .ref q_kept, .ref q_isKept, .int v_heard, .ref q_heardWho, .ref q_heardIs, .long v_seed, .ref q_tried, .ref q_chooser, .int v_choosers, .ref q_best, .int v_sets, .int v_surely, .ref q_alives]), (q_page, cA E 25 v_page), (q_heardWho, cA E 6 v_heardWho), (q_heardIs, cB E 6 v_heardIs), (q_alives, cA E 6 v_alives)] [(0, .ref q_this)] [] 0
  unfold p_X4_laySets at h
  refine x_iconst (v := 1) (pc' := 1) hZ (by decide) dX4_laySets_0 rfl ?_
  refine x_aload_n (pc' := 2) hZ dX4_laySets_1 rfl 0 rfl ?_
  refine g_RX4_57 (pc' := 5) hZ dX4_laySets_2 rfl 0 rfl rfl ?_
  refine x_ishl (pc' := 6) hZ dX4_laySets_5 rfl ?_
  refine x_iconst (v := 1) (pc' := 7) hZ (by decide) dX4_laySets_6 rfl ?_
  refine x_isub (pc' := 8) hZ dX4_laySets_7 rfl ?_
  refine x_topi (fun x8 e8 => ?_)
  replace h := h x8 e8
  refine x_istore_n (i := 1) (pc' := 9) (lv' := [(1, .int x8), (0, .ref q_this)]) hZ dX4_laySets_8 rfl rfl (by decide) rfl ?_
  refine x_aload_n (pc' := 10) hZ dX4_laySets_9 rfl 1 rfl ?_
  refine x_iconst (v := 0) (pc' := 11) hZ (by decide) dX4_laySets_10 rfl ?_
  refine s_RX4_139 (pc' := 14) (ws' := [(q_this, cO 4 [.int v_thrown, .ref q_text, .int v_textSize, .int v_place, .int v_people, .ref q_ageing, .ref q_page, .int v_readPeople, .ref q_readAgeing, .ref q_readPage, .ref q_book, .int v_acts, .ref q_kept, .ref q_isKept, .int v_heard, .ref q_heardWho, .ref q_heardIs, .long v_seed, .ref q_tried, .ref q_chooser, .int v_choosers, .ref q_best, .int 0, .int v_surely, .ref q_alives]), (q_page, cA E 25 v_page), (q_heardWho, cA E 6 v_heardWho), (q_heardIs, cB E 6 v_heardIs), (q_alives, cA E 6 v_alives)]) hZ dX4_laySets_11 rfl 0 rfl (Nat.le_of_ble_eq_true rfl) rfl ?_
  refine x_aload_n (pc' := 15) hZ dX4_laySets_14 rfl 1 rfl ?_
  refine x_iload_n (pc' := 16) hZ dX4_laySets_15 rfl 0 rfl ?_
  refine s_RX4_142 (pc' := 19) (ws' := [(q_this, cO 4 [.int v_thrown, .ref q_text, .int v_textSize, .int v_place, .int v_people, .ref q_ageing, .ref q_page, .int v_readPeople, .ref q_readAgeing, .ref q_readPage, .ref q_book, .int v_acts, .ref q_kept, .ref q_isKept, .int v_heard, .ref q_heardWho, .ref q_heardIs, .long v_seed, .ref q_tried, .ref q_chooser, .int v_choosers, .ref q_best, .int 0, .int x8, .ref q_alives]), (q_page, cA E 25 v_page), (q_heardWho, cA E 6 v_heardWho), (q_heardIs, cB E 6 v_heardIs), (q_alives, cA E 6 v_alives)]) hZ dX4_laySets_16 rfl 0 rfl (Nat.le_of_ble_eq_true rfl) rfl ?_
  refine x_iconst (v := 0) (pc' := 20) hZ (by decide) dX4_laySets_19 rfl ?_
  refine x_istore_n (i := 2) (pc' := 21) (lv' := [(2, .int 0), (1, .int x8), (0, .ref q_this)]) hZ dX4_laySets_20 rfl rfl (by decide) rfl ?_
  refine x_lv [2, 1, 0] (lv' := [(0, .ref q_this), (1, .int x8), (2, .int 0)]) rfl ?_
  obtain ⟨k21, h⟩ := h
  refine t_X4_laySets_21 E Z q_this q_text q_ageing q_page q_readAgeing q_readPage q_book q_kept q_isKept q_heardWho q_heardIs q_tried q_chooser q_best q_alives v_thrown v_textSize v_place v_people v_readPeople v_acts v_heard v_seed v_choosers 0 x8 v_page v_heardWho v_heardIs x8 hZ  _ 0 v_alives h (fun l2_21 v_alives_21 h => ?_)
  refine x_iconst (v := 0) (pc' := 41) hZ (by decide) dX4_laySets_40 rfl ?_
  refine x_istore_n (i := 2) (pc' := 42) (lv' := [(2, .int 0), (0, .ref q_this), (1, .int x8)]) hZ dX4_laySets_41 rfl rfl (by decide) rfl ?_
  refine x_lv [1, 2, 0] (lv' := [(0, .ref q_this), (1, .int x8), (2, .int 0)]) rfl ?_
  obtain ⟨k42, h⟩ := h
  refine t_X4_laySets_42 E Z q_this q_text q_ageing q_page q_readAgeing q_readPage q_book q_kept q_isKept q_heardWho q_heardIs q_tried q_chooser q_best q_alives v_thrown v_textSize v_place v_people v_readPeople v_acts v_heard v_seed v_choosers v_page v_heardWho v_heardIs x8 hZ  _ 0 0 x8 v_alives_21 h (fun l2_42 v_sets_42 v_surely_42 v_alives_42 h => ?_)
  exact hRet _ _ _ dX4_laySets_225 ⟨_, _, _, rfl, h⟩
set_option maxHeartbeats 4000000 in
set_option maxRecDepth 100000 in
theorem c_X4_worlds (E : XE) (q_this : Nat) (q_text : Nat) (q_ageing : Nat) (q_page : Nat) (q_readAgeing : Nat) (q_readPage : Nat) (q_book : Nat) (q_kept : Nat) (q_isKept : Nat) (q_heardWho : Nat) (q_heardIs : Nat) (q_tried : Nat) (q_chooser : Nat) (q_best : Nat) (q_alives : Nat) (v_thrown : Int32) (v_textSize : Int32) (v_place : Int32) (v_people : Int32) (v_readPeople : Int32) (v_acts : Int32) (v_heard : Int32) (v_seed : Int64) (v_choosers : Int32) (v_sets : Int32) (v_surely : Int32) (v_page : Nat → Int32) (v_heardWho : Nat → Int32) (v_heardIs : Nat → Int32) (v_alives : Nat → Int32) (l1 : Int32) (post : Int32 → Int32 → Int32 → Int32 → (Nat → Int32) → Prop) (h : p_X4_worlds v_thrown v_people v_heard v_sets v_surely v_page v_heardWho v_heardIs v_alives l1 post) : ConI E yX4_worlds cX4_worlds 2 .int { frames := 3, cells := 0, slots := 0, locals := 74 } 0 0 [.ref q_this, .int l1] [(q_this, cO 4 [.int v_thrown, .ref q_text, .int v_textSize, .int v_place, .int v_people, .ref q_ageing, .ref q_page, .int v_readPeople, .ref q_readAgeing, .ref q_readPage, .ref q_book, .int v_acts, .ref q_kept, .ref q_isKept, .int v_heard, .ref q_heardWho, .ref q_heardIs, .long v_seed, .ref q_tried, .ref q_chooser, .int v_choosers, .ref q_best, .int v_sets, .int v_surely, .ref q_alives]), (q_page, cA E 25 v_page), (q_heardWho, cA E 6 v_heardWho), (q_heardIs, cB E 6 v_heardIs), (q_alives, cA E 6 v_alives)] (fun r w => ∃ (u_thrown : Int32) (u_sets : Int32) (u_surely : Int32) (u_alives : Nat → Int32), w = [(q_this, cO 4 [.int u_thrown, .ref q_text, .int v_textSize, .int v_place, .int v_people, .ref q_ageing, .ref q_page, .int v_readPeople, .ref q_readAgeing, .ref q_readPage, .ref q_book, .int v_acts, .ref q_kept, .ref q_isKept, .int v_heard, .ref q_heardWho, .ref q_heardIs, .long v_seed, .ref q_tried, .ref q_chooser, .int v_choosers, .ref q_best, .int u_sets, .int u_surely, .ref q_alives]), (q_page, cA E 25 v_page), (q_heardWho, cA E 6 v_heardWho), (q_heardIs, cB E 6 v_heardIs), (q_alives, cA E 6 u_alives)] ∧ post r u_thrown u_sets u_surely u_alives) := by
  refine ConI.of (by decide +kernel) (Nat.le_of_ble_eq_true rfl) (fun Z hZ hI hRet => ?_)
  replace hZ : XOK E Z RX4 cX4_worlds 2 { frames := 3, cells := 0, slots := 0, locals := 74 } := hZ
  clear hI
  show XW E Z 0 0 [(q_this, cO 4 [.int v_thrown, .ref q_text, .int v_textSize, .int v_place, .int v_people, .ref q_ageing, .ref q_page, .int v_readPeople, .ref q_readAgeing, .ref q_readPage, .ref q_book, .int v_acts, .ref q_kept, .ref q_isKept, .int v_heard, .ref q_heardWho, .ref q_heardIs, .long v_seed, .ref q_tried, .ref q_chooser, .int v_choosers, .ref q_best, .int v_sets, .int v_surely, .ref q_alives]), (q_page, cA E 25 v_page), (q_heardWho, cA E 6 v_heardWho), (q_heardIs, cB E 6 v_heardIs), (q_alives, cA E 6 v_alives)] [(0, .ref q_this), (1, .int l1)] [] 0
  unfold p_X4_worlds at h
  refine x_aload_n (pc' := 1) hZ dX4_worlds_0 rfl 0 rfl ?_
  refine x_iconst (v := 0) (pc' := 2) hZ (by decide) dX4_worlds_1 rfl ?_
  refine s_RX4_53 (pc' := 5) (ws' := [(q_this, cO 4 [.int 0, .ref q_text, .int v_textSize, .int v_place, .int v_people, .ref q_ageing, .ref q_page, .int v_readPeople, .ref q_readAgeing, .ref q_readPage, .ref q_book, .int v_acts, .ref q_kept, .ref q_isKept, .int v_heard, .ref q_heardWho, .ref q_heardIs, .long v_seed, .ref q_tried, .ref q_chooser, .int v_choosers, .ref q_best, .int v_sets, .int v_surely, .ref q_alives]), (q_page, cA E 25 v_page), (q_heardWho, cA E 6 v_heardWho), (q_heardIs, cB E 6 v_heardIs), (q_alives, cA E 6 v_alives)]) hZ dX4_worlds_2 rfl 0 rfl (Nat.le_of_ble_eq_true rfl) rfl ?_
  refine x_iload_n (pc' := 6) hZ dX4_worlds_5 rfl 1 rfl ?_
  refine x_i2l (pc' := 7) hZ dX4_worlds_6 rfl ?_
  refine x_lconst (v := 0) (pc' := 8) hZ (by decide) dX4_worlds_7 rfl ?_
  refine x_lconst (v := 1) (pc' := 9) hZ (by decide) dX4_worlds_8 rfl ?_
  refine k_RX4_60 (pc' := 12) (as := [.long l1.toInt64, .long 0, .long 1]) (rest := []) (c' := 0) (n' := 0) (wr := [(q_this, cO 4 [.int 0, .ref q_text, .int v_textSize, .int v_place, .int v_people, .ref q_ageing, .ref q_page, .int v_readPeople, .ref q_readAgeing, .ref q_readPage, .ref q_book, .int v_acts, .ref q_kept, .ref q_isKept, .int v_heard, .ref q_heardWho, .ref q_heardIs, .long v_seed, .ref q_tried, .ref q_chooser, .int v_choosers, .ref q_best, .int v_sets, .int v_surely, .ref q_alives]), (q_page, cA E 25 v_page), (q_heardWho, cA E 6 v_heardWho), (q_heardIs, cB E 6 v_heardIs), (q_alives, cA E 6 v_alives)]) hZ (c_X4_in E l1.toInt64 0 1 _ h) dX4_worlds_9 rfl rfl rfl rfl rfl (Nat.le_of_ble_eq_true rfl) (Nat.le_of_ble_eq_true rfl) (Nat.le_of_ble_eq_true rfl) rfl rfl (Nat.le_of_ble_eq_true rfl) (Nat.le_of_ble_eq_true rfl) [] [0, 1, 2, 3, 4] rfl rfl (by decide) (by decide) (by decide) (fun r9 w9 hw => ?_)
  obtain ⟨rfl, h⟩ := hw
  refine x_ws (ws' := [(q_this, cO 4 [.int 0, .ref q_text, .int v_textSize, .int v_place, .int v_people, .ref q_ageing, .ref q_page, .int v_readPeople, .ref q_readAgeing, .ref q_readPage, .ref q_book, .int v_acts, .ref q_kept, .ref q_isKept, .int v_heard, .ref q_heardWho, .ref q_heardIs, .long v_seed, .ref q_tried, .ref q_chooser, .int v_choosers, .ref q_best, .int v_sets, .int v_surely, .ref q_alives]), (q_page, cA E 25 v_page), (q_heardWho, cA E 6 v_heardWho), (q_heardIs, cB E 6 v_heardIs), (q_alives, cA E 6 v_alives)]) [0, 1, 2, 3, 4] rfl (by decide) ?_
  refine x_if_ne (tgt := 18) (pc' := 15) hZ dX4_worlds_12 (by decide) rfl (fun c12 => ?_) (fun c12 => ?_)
  · replace h := h.1 c12
    refine x_aload_n (pc' := 19) hZ dX4_worlds_18 rfl 0 rfl ?_
    refine k_RX4_145 (pc' := 22) (q0 := 0) (as := []) (rest := []) (c' := 0) (n' := 0) (wr := []) hZ (c_X4_laySets E q_this q_text q_ageing q_page q_readAgeing q_readPage q_book q_kept q_isKept q_heardWho q_heardIs q_tried q_chooser q_best q_alives 0 v_textSize v_place v_people v_readPeople v_acts v_heard v_seed v_choosers v_sets v_surely v_page v_heardWho v_heardIs v_alives _ h) rfl dX4_worlds_19 rfl rfl rfl rfl rfl (Nat.le_of_ble_eq_true rfl) (Nat.le_of_ble_eq_true rfl) (Nat.le_of_ble_eq_true rfl) rfl rfl (Nat.le_of_ble_eq_true rfl) (Nat.le_of_ble_eq_true rfl) [0, 1, 2, 3, 4] [] rfl rfl (by decide) (by decide) (by decide) (fun w19 hw => ?_)
    obtain ⟨a19_0, a19_1, a19_2, rfl, h⟩ := hw
    refine x_ws (ws' := [(q_this, cO 4 [.int 0, .ref q_text, .int v_textSize, .int v_place, .int v_people, .ref q_ageing, .ref q_page, .int v_readPeople, .ref q_readAgeing, .ref q_readPage, .ref q_book, .int v_acts, .ref q_kept, .ref q_isKept, .int v_heard, .ref q_heardWho, .ref q_heardIs, .long v_seed, .ref q_tried, .ref q_chooser, .int v_choosers, .ref q_best, .int a19_0, .int a19_1, .ref q_alives]), (q_page, cA E 25 v_page), (q_heardWho, cA E 6 v_heardWho), (q_heardIs, cB E 6 v_heardIs), (q_alives, cA E 6 a19_2)]) [0, 1, 2, 3, 4] rfl (by decide) ?_
    refine x_iload_n (pc' := 23) hZ dX4_worlds_22 rfl 1 rfl ?_
    refine x_if_ne (tgt := 33) (pc' := 26) hZ dX4_worlds_23 (by decide) rfl (fun c23 => ?_) (fun c23 => ?_)
    · replace h := h.1 c23
      refine x_aload_n (pc' := 34) hZ dX4_worlds_33 rfl 0 rfl ?_
      refine g_RX4_139 (pc' := 37) hZ dX4_worlds_34 rfl 0 rfl rfl ?_
      refine x_if_ne (tgt := 45) (pc' := 40) hZ dX4_worlds_37 (by decide) rfl (fun c37 => ?_) (fun c37 => ?_)
      · replace h := h.1 c37
        refine x_aload_n (pc' := 46) hZ dX4_worlds_45 rfl 0 rfl ?_
        refine g_RX4_142 (pc' := 49) hZ dX4_worlds_46 rfl 0 rfl rfl ?_
        exact hRet _ _ _ _ dX4_worlds_49 ⟨_, _, _, _, rfl, h⟩
      · replace h := h.2 c37
        refine x_bipush (v := (-9)) (pc' := 42) hZ (by decide) dX4_worlds_40 rfl ?_
        refine x_goto (pc' := 49) hZ dX4_worlds_42 (by decide) ?_
        exact hRet _ _ _ _ dX4_worlds_49 ⟨_, _, _, _, rfl, h⟩
    · replace h := h.2 c23
      refine x_aload_n (pc' := 27) hZ dX4_worlds_26 rfl 0 rfl ?_
      refine g_RX4_139 (pc' := 30) hZ dX4_worlds_27 rfl 0 rfl rfl ?_
      refine x_goto (pc' := 49) hZ dX4_worlds_30 (by decide) ?_
      exact hRet _ _ _ _ dX4_worlds_49 ⟨_, _, _, _, rfl, h⟩
  · replace h := h.2 c12
    refine x_bipush (v := (-2)) (pc' := 17) hZ (by decide) dX4_worlds_15 rfl ?_
    exact hRet _ _ _ _ dX4_worlds_17 ⟨_, _, _, _, rfl, h⟩
set_option maxHeartbeats 4000000 in
set_option maxRecDepth 100000 in
theorem t_X4_toAsk_17 (E : XE) (Z : ZC) (q_this : Nat) (q_text : Nat) (q_ageing : Nat) (q_page : Nat) (q_readAgeing : Nat) (q_readPage : Nat) (q_book : Nat) (q_kept : Nat) (q_isKept : Nat) (q_heardWho : Nat) (q_heardIs : Nat) (q_tried : Nat) (q_chooser : Nat) (q_best : Nat) (q_alives : Nat) (v_thrown : Int32) (v_textSize : Int32) (v_place : Int32) (v_people : Int32) (v_readPeople : Int32) (v_acts : Int32) (v_heard : Int32) (v_seed : Int64) (v_choosers : Int32) (v_sets : Int32) (v_surely : Int32) (v_page : Nat → Int32) (v_heardWho : Nat → Int32) (v_heardIs : Nat → Int32) (v_alives : Nat → Int32) {K : Int32 → Int32 → Int32 → Prop} (hZ : XOK E Z RX4 cX4_toAsk 5 { frames := 3, cells := 0, slots := 0, locals := 74 }) : ∀ (k : Nat) (l1 : Int32) (l2 : Int32) (l3 : Int32), wl (fun rec v => b_X4_toAsk_17 v_people v_sets v_page v_alives K rec v.1 v.2.1 v.2.2) k (l1, l2, l3) → (∀ (l1 : Int32) (l2 : Int32) (l3 : Int32), K l1 l2 l3 → XW E Z 0 0 [(q_this, cO 4 [.int v_thrown, .ref q_text, .int v_textSize, .int v_place, .int v_people, .ref q_ageing, .ref q_page, .int v_readPeople, .ref q_readAgeing, .ref q_readPage, .ref q_book, .int v_acts, .ref q_kept, .ref q_isKept, .int v_heard, .ref q_heardWho, .ref q_heardIs, .long v_seed, .ref q_tried, .ref q_chooser, .int v_choosers, .ref q_best, .int v_sets, .int v_surely, .ref q_alives]), (q_page, cA E 25 v_page), (q_heardWho, cA E 6 v_heardWho), (q_heardIs, cB E 6 v_heardIs), (q_alives, cA E 6 v_alives)] [(1, .int l1)] [] 105) → XW E Z 0 0 [(q_this, cO 4 [.int v_thrown, .ref q_text, .int v_textSize, .int v_place, .int v_people, .ref q_ageing, .ref q_page, .int v_readPeople, .ref q_readAgeing, .ref q_readPage, .ref q_book, .int v_acts, .ref q_kept, .ref q_isKept, .int v_heard, .ref q_heardWho, .ref q_heardIs, .long v_seed, .ref q_tried, .ref q_chooser, .int v_choosers, .ref q_best, .int v_sets, .int v_surely, .ref q_alives]), (q_page, cA E 25 v_page), (q_heardWho, cA E 6 v_heardWho), (q_heardIs, cB E 6 v_heardIs), (q_alives, cA E 6 v_alives)] [(0, .ref q_this), (1, .int l1), (2, .int l2), (3, .int l3)] [] 17 := by
  intro k
  induction k with
  | zero =>
    intro l1 l2 l3 h
    exact h.elim
  | succ k ih =>
    intro l1 l2 l3 h hK
    replace h := wl_succ h
    try dsimp only at h
    unfold b_X4_toAsk_17 at h
    refine x_iload_n (pc' := 18) hZ dX4_toAsk_17 rfl 3 rfl ?_
    refine x_aload_n (pc' := 19) hZ dX4_toAsk_18 rfl 0 rfl ?_
    refine g_RX4_57 (pc' := 22) hZ dX4_toAsk_19 rfl 0 rfl rfl ?_
    refine x_icmp_ge (tgt := 105) (pc' := 25) hZ dX4_toAsk_22 (by decide) rfl (fun c22 => ?_) (fun c22 => ?_)
    · replace h := h.1 c22
      refine x_lv [1] (lv' := [(1, .int l1)]) rfl ?_
      exact hK l1 l2 l3 h
    · replace h := h.2 c22
      refine x_aload_n (pc' := 26) hZ dX4_toAsk_25 rfl 0 rfl ?_
      refine g_RX4_139 (pc' := 29) hZ dX4_toAsk_26 rfl 0 rfl rfl ?_
      refine x_if_le (tgt := 105) (pc' := 32) hZ dX4_toAsk_29 (by decide) rfl (fun c29 => ?_) (fun c29 => ?_)
      · replace h := h.1 c29
        refine x_lv [1] (lv' := [(1, .int l1)]) rfl ?_
        exact hK l1 l2 l3 h
      · replace h := h.2 c29
        refine x_aload_n (pc' := 33) hZ dX4_toAsk_32 rfl 0 rfl ?_
        refine g_RX4_50 (pc' := 36) hZ dX4_toAsk_33 rfl 0 rfl rfl ?_
        refine x_iload_n (pc' := 37) hZ dX4_toAsk_36 rfl 3 rfl ?_
        obtain ⟨h37, h⟩ := h
        refine x_iald (pc' := 38) hZ h37 dX4_toAsk_37 rfl 4 rfl ?_
        refine x_aload_n (pc' := 39) hZ dX4_toAsk_38 rfl 0 rfl ?_
        refine g_RX4_139 (pc' := 42) hZ dX4_toAsk_39 rfl 0 rfl rfl ?_
        refine x_aload_n (pc' := 43) hZ dX4_toAsk_42 rfl 0 rfl ?_
        refine g_RX4_50 (pc' := 46) hZ dX4_toAsk_43 rfl 0 rfl rfl ?_
        refine x_iload_n (pc' := 47) hZ dX4_toAsk_46 rfl 3 rfl ?_
        obtain ⟨h47, h⟩ := h
        refine x_iald (pc' := 48) hZ h47 dX4_toAsk_47 rfl 4 rfl ?_
        refine x_isub (pc' := 49) hZ dX4_toAsk_48 rfl ?_
        refine x_icmp_ge (tgt := 61) (pc' := 52) hZ dX4_toAsk_49 (by decide) rfl (fun c49 => ?_) (fun c49 => ?_)
        · replace h := h.1 c49
          refine x_aload_n (pc' := 62) hZ dX4_toAsk_61 rfl 0 rfl ?_
          refine g_RX4_139 (pc' := 65) hZ dX4_toAsk_62 rfl 0 rfl rfl ?_
          refine x_aload_n (pc' := 66) hZ dX4_toAsk_65 rfl 0 rfl ?_
          refine g_RX4_50 (pc' := 69) hZ dX4_toAsk_66 rfl 0 rfl rfl ?_
          refine x_iload_n (pc' := 70) hZ dX4_toAsk_69 rfl 3 rfl ?_
          obtain ⟨h70, h⟩ := h
          refine x_iald (pc' := 71) hZ h70 dX4_toAsk_70 rfl 4 rfl ?_
          refine x_isub (pc' := 72) hZ dX4_toAsk_71 rfl ?_
          refine x_topi (fun x72 e72 => ?_)
          replace h := h x72 e72
          refine x_istore (i := 4) (pc' := 74) (lv' := [(4, .int x72), (0, .ref q_this), (1, .int l1), (2, .int l2), (3, .int l3)]) hZ dX4_toAsk_72 rfl (by decide) rfl ?_
          refine x_aload_n (pc' := 75) hZ dX4_toAsk_74 rfl 1 rfl ?_
          refine g_RX4_16 (pc' := 78) hZ dX4_toAsk_75 rfl 0 rfl rfl ?_
          refine x_bipush (v := 22) (pc' := 80) hZ (by decide) dX4_toAsk_78 rfl ?_
          have h80 : vp_in 22 25 := by unfold vp_in; decide
          refine x_iald (pc' := 81) hZ h80 dX4_toAsk_80 rfl 1 rfl ?_
          refine x_iload_n (pc' := 82) hZ dX4_toAsk_81 rfl 4 rfl ?_
          refine k_RX4_90 (pc' := 85) (as := [.int (v_page (ix 22)), .int l3]) (rest := []) (c' := 0) (n' := 0) (wr := [(q_this, cO 4 [.int v_thrown, .ref q_text, .int v_textSize, .int v_place, .int v_people, .ref q_ageing, .ref q_page, .int v_readPeople, .ref q_readAgeing, .ref q_readPage, .ref q_book, .int v_acts, .ref q_kept, .ref q_isKept, .int v_heard, .ref q_heardWho, .ref q_heardIs, .long v_seed, .ref q_tried, .ref q_chooser, .int v_choosers, .ref q_best, .int v_sets, .int v_surely, .ref q_alives]), (q_page, cA E 25 v_page), (q_heardWho, cA E 6 v_heardWho), (q_heardIs, cB E 6 v_heardIs), (q_alives, cA E 6 v_alives)]) hZ (c_X4_has E (v_page (ix 22)) l3 _ h) dX4_toAsk_82 rfl rfl rfl rfl rfl (Nat.le_of_ble_eq_true rfl) (Nat.le_of_ble_eq_true rfl) (Nat.le_of_ble_eq_true rfl) rfl rfl (Nat.le_of_ble_eq_true rfl) (Nat.le_of_ble_eq_true rfl) [] [0, 1, 2, 3, 4] rfl rfl (by decide) (by decide) (by decide) (fun r82 w82 hw => ?_)
          obtain ⟨rfl, h⟩ := hw
          refine x_ws (ws' := [(q_this, cO 4 [.int v_thrown, .ref q_text, .int v_textSize, .int v_place, .int v_people, .ref q_ageing, .ref q_page, .int v_readPeople, .ref q_readAgeing, .ref q_readPage, .ref q_book, .int v_acts, .ref q_kept, .ref q_isKept, .int v_heard, .ref q_heardWho, .ref q_heardIs, .long v_seed, .ref q_tried, .ref q_chooser, .int v_choosers, .ref q_best, .int v_sets, .int v_surely, .ref q_alives]), (q_page, cA E 25 v_page), (q_heardWho, cA E 6 v_heardWho), (q_heardIs, cB E 6 v_heardIs), (q_alives, cA E 6 v_alives)]) [0, 1, 2, 3, 4] rfl (by decide) ?_
          refine x_if_eq (tgt := 99) (pc' := 88) hZ dX4_toAsk_85 (by decide) rfl (fun c85 => ?_) (fun c85 => ?_)
          · replace h := h.1 c85
            obtain ⟨x99, e99⟩ : ∃ y : Int32, y = l3 + 1 := ⟨_, rfl⟩
            replace h := h x99 e99
            refine x_iinc (i := 3) (v := x99) (pc' := 102) (lv' := [(3, .int x99), (4, .int x72), (0, .ref q_this), (1, .int l1), (2, .int l2)]) hZ dX4_toAsk_99 rfl 4 rfl (by rw [e99]; rfl) (by decide) rfl ?_
            refine x_goto (pc' := 17) hZ dX4_toAsk_102 (by decide) ?_
            refine x_lv [2, 3, 4, 0] (lv' := [(0, .ref q_this), (1, .int l1), (2, .int l2), (3, .int x99)]) rfl ?_
            exact ih l1 l2 x99 h hK
          · replace h := h.2 c85
            refine x_iload (pc' := 90) hZ dX4_toAsk_88 rfl 0 rfl ?_
            refine x_iload_n (pc' := 91) hZ dX4_toAsk_90 rfl 3 rfl ?_
            refine x_icmp_le (tgt := 99) (pc' := 94) hZ dX4_toAsk_91 (by decide) rfl (fun c91 => ?_) (fun c91 => ?_)
            · replace h := h.1 c91
              obtain ⟨x99, e99⟩ : ∃ y : Int32, y = l3 + 1 := ⟨_, rfl⟩
              replace h := h x99 e99
              refine x_iinc (i := 3) (v := x99) (pc' := 102) (lv' := [(3, .int x99), (4, .int x72), (0, .ref q_this), (1, .int l1), (2, .int l2)]) hZ dX4_toAsk_99 rfl 4 rfl (by rw [e99]; rfl) (by decide) rfl ?_
              refine x_goto (pc' := 17) hZ dX4_toAsk_102 (by decide) ?_
              refine x_lv [2, 3, 4, 0] (lv' := [(0, .ref q_this), (1, .int l1), (2, .int l2), (3, .int x99)]) rfl ?_
              exact ih l1 l2 x99 h hK
            · replace h := h.2 c91
              refine x_iload_n (pc' := 95) hZ dX4_toAsk_94 rfl 4 rfl ?_
              refine x_istore_n (i := 1) (pc' := 96) (lv' := [(1, .int l3), (4, .int x72), (0, .ref q_this), (2, .int l2), (3, .int l3)]) hZ dX4_toAsk_95 rfl rfl (by decide) rfl ?_
              refine x_iload (pc' := 98) hZ dX4_toAsk_96 rfl 1 rfl ?_
              refine x_istore_n (i := 2) (pc' := 99) (lv' := [(2, .int x72), (1, .int l3), (4, .int x72), (0, .ref q_this), (3, .int l3)]) hZ dX4_toAsk_98 rfl rfl (by decide) rfl ?_
              obtain ⟨x99, e99⟩ : ∃ y : Int32, y = l3 + 1 := ⟨_, rfl⟩
              replace h := h x99 e99
              refine x_iinc (i := 3) (v := x99) (pc' := 102) (lv' := [(3, .int x99), (2, .int x72), (1, .int l3), (4, .int x72), (0, .ref q_this)]) hZ dX4_toAsk_99 rfl 4 rfl (by rw [e99]; rfl) (by decide) rfl ?_
              refine x_goto (pc' := 17) hZ dX4_toAsk_102 (by decide) ?_
              refine x_lv [4, 2, 1, 0] (lv' := [(0, .ref q_this), (1, .int l3), (2, .int x72), (3, .int x99)]) rfl ?_
              exact ih l3 x72 x99 h hK
        · replace h := h.2 c49
          refine x_aload_n (pc' := 53) hZ dX4_toAsk_52 rfl 0 rfl ?_
          refine g_RX4_50 (pc' := 56) hZ dX4_toAsk_53 rfl 0 rfl rfl ?_
          refine x_iload_n (pc' := 57) hZ dX4_toAsk_56 rfl 3 rfl ?_
          obtain ⟨h57, h⟩ := h
          refine x_iald (pc' := 58) hZ h57 dX4_toAsk_57 rfl 4 rfl ?_
          refine x_goto (pc' := 72) hZ dX4_toAsk_58 (by decide) ?_
          refine x_topi (fun x72 e72 => ?_)
          replace h := h x72 e72
          refine x_istore (i := 4) (pc' := 74) (lv' := [(4, .int x72), (0, .ref q_this), (1, .int l1), (2, .int l2), (3, .int l3)]) hZ dX4_toAsk_72 rfl (by decide) rfl ?_
          refine x_aload_n (pc' := 75) hZ dX4_toAsk_74 rfl 1 rfl ?_
          refine g_RX4_16 (pc' := 78) hZ dX4_toAsk_75 rfl 0 rfl rfl ?_
          refine x_bipush (v := 22) (pc' := 80) hZ (by decide) dX4_toAsk_78 rfl ?_
          have h80 : vp_in 22 25 := by unfold vp_in; decide
          refine x_iald (pc' := 81) hZ h80 dX4_toAsk_80 rfl 1 rfl ?_
          refine x_iload_n (pc' := 82) hZ dX4_toAsk_81 rfl 4 rfl ?_
          refine k_RX4_90 (pc' := 85) (as := [.int (v_page (ix 22)), .int l3]) (rest := []) (c' := 0) (n' := 0) (wr := [(q_this, cO 4 [.int v_thrown, .ref q_text, .int v_textSize, .int v_place, .int v_people, .ref q_ageing, .ref q_page, .int v_readPeople, .ref q_readAgeing, .ref q_readPage, .ref q_book, .int v_acts, .ref q_kept, .ref q_isKept, .int v_heard, .ref q_heardWho, .ref q_heardIs, .long v_seed, .ref q_tried, .ref q_chooser, .int v_choosers, .ref q_best, .int v_sets, .int v_surely, .ref q_alives]), (q_page, cA E 25 v_page), (q_heardWho, cA E 6 v_heardWho), (q_heardIs, cB E 6 v_heardIs), (q_alives, cA E 6 v_alives)]) hZ (c_X4_has E (v_page (ix 22)) l3 _ h) dX4_toAsk_82 rfl rfl rfl rfl rfl (Nat.le_of_ble_eq_true rfl) (Nat.le_of_ble_eq_true rfl) (Nat.le_of_ble_eq_true rfl) rfl rfl (Nat.le_of_ble_eq_true rfl) (Nat.le_of_ble_eq_true rfl) [] [0, 1, 2, 3, 4] rfl rfl (by decide) (by decide) (by decide) (fun r82 w82 hw => ?_)
          obtain ⟨rfl, h⟩ := hw
          refine x_ws (ws' := [(q_this, cO 4 [.int v_thrown, .ref q_text, .int v_textSize, .int v_place, .int v_people, .ref q_ageing, .ref q_page, .int v_readPeople, .ref q_readAgeing, .ref q_readPage, .ref q_book, .int v_acts, .ref q_kept, .ref q_isKept, .int v_heard, .ref q_heardWho, .ref q_heardIs, .long v_seed, .ref q_tried, .ref q_chooser, .int v_choosers, .ref q_best, .int v_sets, .int v_surely, .ref q_alives]), (q_page, cA E 25 v_page), (q_heardWho, cA E 6 v_heardWho), (q_heardIs, cB E 6 v_heardIs), (q_alives, cA E 6 v_alives)]) [0, 1, 2, 3, 4] rfl (by decide) ?_
          refine x_if_eq (tgt := 99) (pc' := 88) hZ dX4_toAsk_85 (by decide) rfl (fun c85 => ?_) (fun c85 => ?_)
          · replace h := h.1 c85
            obtain ⟨x99, e99⟩ : ∃ y : Int32, y = l3 + 1 := ⟨_, rfl⟩
            replace h := h x99 e99
            refine x_iinc (i := 3) (v := x99) (pc' := 102) (lv' := [(3, .int x99), (4, .int x72), (0, .ref q_this), (1, .int l1), (2, .int l2)]) hZ dX4_toAsk_99 rfl 4 rfl (by rw [e99]; rfl) (by decide) rfl ?_
            refine x_goto (pc' := 17) hZ dX4_toAsk_102 (by decide) ?_
            refine x_lv [2, 3, 4, 0] (lv' := [(0, .ref q_this), (1, .int l1), (2, .int l2), (3, .int x99)]) rfl ?_
            exact ih l1 l2 x99 h hK
          · replace h := h.2 c85
            refine x_iload (pc' := 90) hZ dX4_toAsk_88 rfl 0 rfl ?_
            refine x_iload_n (pc' := 91) hZ dX4_toAsk_90 rfl 3 rfl ?_
            refine x_icmp_le (tgt := 99) (pc' := 94) hZ dX4_toAsk_91 (by decide) rfl (fun c91 => ?_) (fun c91 => ?_)
            · replace h := h.1 c91
              obtain ⟨x99, e99⟩ : ∃ y : Int32, y = l3 + 1 := ⟨_, rfl⟩
              replace h := h x99 e99
              refine x_iinc (i := 3) (v := x99) (pc' := 102) (lv' := [(3, .int x99), (4, .int x72), (0, .ref q_this), (1, .int l1), (2, .int l2)]) hZ dX4_toAsk_99 rfl 4 rfl (by rw [e99]; rfl) (by decide) rfl ?_
              refine x_goto (pc' := 17) hZ dX4_toAsk_102 (by decide) ?_
              refine x_lv [2, 3, 4, 0] (lv' := [(0, .ref q_this), (1, .int l1), (2, .int l2), (3, .int x99)]) rfl ?_
              exact ih l1 l2 x99 h hK
            · replace h := h.2 c91
              refine x_iload_n (pc' := 95) hZ dX4_toAsk_94 rfl 4 rfl ?_
              refine x_istore_n (i := 1) (pc' := 96) (lv' := [(1, .int l3), (4, .int x72), (0, .ref q_this), (2, .int l2), (3, .int l3)]) hZ dX4_toAsk_95 rfl rfl (by decide) rfl ?_
              refine x_iload (pc' := 98) hZ dX4_toAsk_96 rfl 1 rfl ?_
              refine x_istore_n (i := 2) (pc' := 99) (lv' := [(2, .int x72), (1, .int l3), (4, .int x72), (0, .ref q_this), (3, .int l3)]) hZ dX4_toAsk_98 rfl rfl (by decide) rfl ?_
              obtain ⟨x99, e99⟩ : ∃ y : Int32, y = l3 + 1 := ⟨_, rfl⟩
              replace h := h x99 e99
              refine x_iinc (i := 3) (v := x99) (pc' := 102) (lv' := [(3, .int x99), (2, .int x72), (1, .int l3), (4, .int x72), (0, .ref q_this)]) hZ dX4_toAsk_99 rfl 4 rfl (by rw [e99]; rfl) (by decide) rfl ?_
              refine x_goto (pc' := 17) hZ dX4_toAsk_102 (by decide) ?_
              refine x_lv [4, 2, 1, 0] (lv' := [(0, .ref q_this), (1, .int l3), (2, .int x72), (3, .int x99)]) rfl ?_
              exact ih l3 x72 x99 h hK
set_option maxHeartbeats 4000000 in
set_option maxRecDepth 100000 in
theorem c_X4_toAsk (E : XE) (q_this : Nat) (q_text : Nat) (q_ageing : Nat) (q_page : Nat) (q_readAgeing : Nat) (q_readPage : Nat) (q_book : Nat) (q_kept : Nat) (q_isKept : Nat) (q_heardWho : Nat) (q_heardIs : Nat) (q_tried : Nat) (q_chooser : Nat) (q_best : Nat) (q_alives : Nat) (v_thrown : Int32) (v_textSize : Int32) (v_place : Int32) (v_people : Int32) (v_readPeople : Int32) (v_acts : Int32) (v_heard : Int32) (v_seed : Int64) (v_choosers : Int32) (v_sets : Int32) (v_surely : Int32) (v_page : Nat → Int32) (v_heardWho : Nat → Int32) (v_heardIs : Nat → Int32) (v_alives : Nat → Int32) (post : Int32 → Int32 → Int32 → Int32 → (Nat → Int32) → Prop) (h : p_X4_toAsk v_thrown v_people v_heard v_sets v_surely v_page v_heardWho v_heardIs v_alives post) : ConI E yX4_toAsk cX4_toAsk 5 .int { frames := 3, cells := 0, slots := 0, locals := 74 } 0 0 [.ref q_this] [(q_this, cO 4 [.int v_thrown, .ref q_text, .int v_textSize, .int v_place, .int v_people, .ref q_ageing, .ref q_page, .int v_readPeople, .ref q_readAgeing, .ref q_readPage, .ref q_book, .int v_acts, .ref q_kept, .ref q_isKept, .int v_heard, .ref q_heardWho, .ref q_heardIs, .long v_seed, .ref q_tried, .ref q_chooser, .int v_choosers, .ref q_best, .int v_sets, .int v_surely, .ref q_alives]), (q_page, cA E 25 v_page), (q_heardWho, cA E 6 v_heardWho), (q_heardIs, cB E 6 v_heardIs), (q_alives, cA E 6 v_alives)] (fun r w => ∃ (u_thrown : Int32) (u_sets : Int32) (u_surely : Int32) (u_alives : Nat → Int32), w = [(q_this, cO 4 [.int u_thrown, .ref q_text, .int v_textSize, .int v_place, .int v_people, .ref q_ageing, .ref q_page, .int v_readPeople, .ref q_readAgeing, .ref q_readPage, .ref q_book, .int v_acts, .ref q_kept, .ref q_isKept, .int v_heard, .ref q_heardWho, .ref q_heardIs, .long v_seed, .ref q_tried, .ref q_chooser, .int v_choosers, .ref q_best, .int u_sets, .int u_surely, .ref q_alives]), (q_page, cA E 25 v_page), (q_heardWho, cA E 6 v_heardWho), (q_heardIs, cB E 6 v_heardIs), (q_alives, cA E 6 u_alives)] ∧ post r u_thrown u_sets u_surely u_alives) := by
  refine ConI.of (by decide +kernel) (Nat.le_of_ble_eq_true rfl) (fun Z hZ hI hRet => ?_)
  replace hZ : XOK E Z RX4 cX4_toAsk 5 { frames := 3, cells := 0, slots := 0, locals := 74 } := hZ
  clear hI
  show XW E Z 0 0 [(q_this, cO 4 [.int v_thrown, .ref q_text, .int v_textSize, .int v_place, .int v_people, .ref q_ageing, .ref q_page, .int v_readPeople, .ref q_readAgeing, .ref q_readPage, .ref q_book, .int v_acts, .ref q_kept, .ref q_isKept, .int v_heard, .ref q_heardWho, .ref q_heardIs, .long v_seed, .ref q_tried, .ref q_chooser, .int v_choosers, .ref q_best, .int v_sets, .int v_surely, .ref q_alives]), (q_page, cA E 25 v_page), (q_heardWho, cA E 6 v_heardWho), (q_heardIs, cB E 6 v_heardIs), (q_alives, cA E 6 v_alives)] [(0, .ref q_this)] [] 0
  unfold p_X4_toAsk at h
  refine x_aload_n (pc' := 1) hZ dX4_toAsk_0 rfl 0 rfl ?_
  refine x_iconst (v := 0) (pc' := 2) hZ (by decide) dX4_toAsk_1 rfl ?_
  refine s_RX4_53 (pc' := 5) (ws' := [(q_this, cO 4 [.int 0, .ref q_text, .int v_textSize, .int v_place, .int v_people, .ref q_ageing, .ref q_page, .int v_readPeople, .ref q_readAgeing, .ref q_readPage, .ref q_book, .int v_acts, .ref q_kept, .ref q_isKept, .int v_heard, .ref q_heardWho, .ref q_heardIs, .long v_seed, .ref q_tried, .ref q_chooser, .int v_choosers, .ref q_best, .int v_sets, .int v_surely, .ref q_alives]), (q_page, cA E 25 v_page), (q_heardWho, cA E 6 v_heardWho), (q_heardIs, cB E 6 v_heardIs), (q_alives, cA E 6 v_alives)]) hZ dX4_toAsk_2 rfl 0 rfl (Nat.le_of_ble_eq_true rfl) rfl ?_
  refine x_aload_n (pc' := 6) hZ dX4_toAsk_5 rfl 0 rfl ?_
  refine k_RX4_145 (pc' := 9) (q0 := 0) (as := []) (rest := []) (c' := 0) (n' := 0) (wr := []) hZ (c_X4_laySets E q_this q_text q_ageing q_page q_readAgeing q_readPage q_book q_kept q_isKept q_heardWho q_heardIs q_tried q_chooser q_best q_alives 0 v_textSize v_place v_people v_readPeople v_acts v_heard v_seed v_choosers v_sets v_surely v_page v_heardWho v_heardIs v_alives _ h) rfl dX4_toAsk_6 rfl rfl rfl rfl rfl (Nat.le_of_ble_eq_true rfl) (Nat.le_of_ble_eq_true rfl) (Nat.le_of_ble_eq_true rfl) rfl rfl (Nat.le_of_ble_eq_true rfl) (Nat.le_of_ble_eq_true rfl) [0, 1, 2, 3, 4] [] rfl rfl (by decide) (by decide) (by decide) (fun w6 hw => ?_)
  obtain ⟨a6_0, a6_1, a6_2, rfl, h⟩ := hw
  refine x_ws (ws' := [(q_this, cO 4 [.int 0, .ref q_text, .int v_textSize, .int v_place, .int v_people, .ref q_ageing, .ref q_page, .int v_readPeople, .ref q_readAgeing, .ref q_readPage, .ref q_book, .int v_acts, .ref q_kept, .ref q_isKept, .int v_heard, .ref q_heardWho, .ref q_heardIs, .long v_seed, .ref q_tried, .ref q_chooser, .int v_choosers, .ref q_best, .int a6_0, .int a6_1, .ref q_alives]), (q_page, cA E 25 v_page), (q_heardWho, cA E 6 v_heardWho), (q_heardIs, cB E 6 v_heardIs), (q_alives, cA E 6 a6_2)]) [0, 1, 2, 3, 4] rfl (by decide) ?_
  refine x_bipush (v := (-9)) (pc' := 11) hZ (by decide) dX4_toAsk_9 rfl ?_
  refine x_istore_n (i := 1) (pc' := 12) (lv' := [(1, .int (-9)), (0, .ref q_this)]) hZ dX4_toAsk_11 rfl rfl (by decide) rfl ?_
  refine x_bipush (v := (-9)) (pc' := 14) hZ (by decide) dX4_toAsk_12 rfl ?_
  refine x_istore_n (i := 2) (pc' := 15) (lv' := [(2, .int (-9)), (1, .int (-9)), (0, .ref q_this)]) hZ dX4_toAsk_14 rfl rfl (by decide) rfl ?_
  refine x_iconst (v := 0) (pc' := 16) hZ (by decide) dX4_toAsk_15 rfl ?_
  refine x_istore_n (i := 3) (pc' := 17) (lv' := [(3, .int 0), (2, .int (-9)), (1, .int (-9)), (0, .ref q_this)]) hZ dX4_toAsk_16 rfl rfl (by decide) rfl ?_
  refine x_lv [3, 2, 1, 0] (lv' := [(0, .ref q_this), (1, .int (-9)), (2, .int (-9)), (3, .int 0)]) rfl ?_
  obtain ⟨k17, h⟩ := h
  refine t_X4_toAsk_17 E Z q_this q_text q_ageing q_page q_readAgeing q_readPage q_book q_kept q_isKept q_heardWho q_heardIs q_tried q_chooser q_best q_alives 0 v_textSize v_place v_people v_readPeople v_acts v_heard v_seed v_choosers a6_0 a6_1 v_page v_heardWho v_heardIs a6_2 hZ  _ (-9) (-9) 0 h (fun l1_17 l2_17 l3_17 h => ?_)
  refine x_iload_n (pc' := 106) hZ dX4_toAsk_105 rfl 0 rfl ?_
  exact hRet _ _ _ _ dX4_toAsk_106 ⟨_, _, _, _, rfl, h⟩
set_option maxHeartbeats 4000000 in
set_option maxRecDepth 100000 in
theorem t_X4_answer_29 (E : XE) (Z : ZC) (q_this : Nat) (q_text : Nat) (q_ageing : Nat) (q_page : Nat) (q_readAgeing : Nat) (q_readPage : Nat) (q_book : Nat) (q_kept : Nat) (q_isKept : Nat) (q_heardWho : Nat) (q_heardIs : Nat) (q_tried : Nat) (q_chooser : Nat) (q_best : Nat) (q_alives : Nat) (v_thrown : Int32) (v_textSize : Int32) (v_place : Int32) (v_people : Int32) (v_readPeople : Int32) (v_acts : Int32) (v_heard : Int32) (v_seed : Int64) (v_choosers : Int32) (v_sets : Int32) (v_surely : Int32) (v_page : Nat → Int32) (l1 : Int32) (l2 : Int32) {K : Int32 → Int32 → Int32 → Prop} (hZ : XOK E Z RX4 cX4_answer 6 { frames := 3, cells := 0, slots := 0, locals := 69 }) : ∀ (k : Nat) (l3 : Int32) (l4 : Int32) (l5 : Int32), wl (fun rec v => b_X4_answer_29 l1 v_people v_page K rec v.1 v.2.1 v.2.2) k (l3, l4, l5) → (∀ (l3 : Int32) (l4 : Int32) (l5 : Int32), K l3 l4 l5 → XW E Z 0 0 [(q_this, cO 4 [.int v_thrown, .ref q_text, .int v_textSize, .int v_place, .int v_people, .ref q_ageing, .ref q_page, .int v_readPeople, .ref q_readAgeing, .ref q_readPage, .ref q_book, .int v_acts, .ref q_kept, .ref q_isKept, .int v_heard, .ref q_heardWho, .ref q_heardIs, .long v_seed, .ref q_tried, .ref q_chooser, .int v_choosers, .ref q_best, .int v_sets, .int v_surely, .ref q_alives]), (q_page, cA E 25 v_page)] [(2, .int l2), (3, .int l3), (4, .int l4)] [] 89) → XW E Z 0 0 [(q_this, cO 4 [.int v_thrown, .ref q_text, .int v_textSize, .int v_place, .int v_people, .ref q_ageing, .ref q_page, .int v_readPeople, .ref q_readAgeing, .ref q_readPage, .ref q_book, .int v_acts, .ref q_kept, .ref q_isKept, .int v_heard, .ref q_heardWho, .ref q_heardIs, .long v_seed, .ref q_tried, .ref q_chooser, .int v_choosers, .ref q_best, .int v_sets, .int v_surely, .ref q_alives]), (q_page, cA E 25 v_page)] [(0, .ref q_this), (1, .int l1), (2, .int l2), (3, .int l3), (4, .int l4), (5, .int l5)] [] 29 := by
  intro k
  induction k with
  | zero =>
    intro l3 l4 l5 h
    exact h.elim
  | succ k ih =>
    intro l3 l4 l5 h hK
    replace h := wl_succ h
    try dsimp only at h
    unfold b_X4_answer_29 at h
    refine x_iload (pc' := 31) hZ dX4_answer_29 rfl 5 rfl ?_
    refine x_iconst (v := 1) (pc' := 32) hZ (by decide) dX4_answer_31 rfl ?_
    refine x_aload_n (pc' := 33) hZ dX4_answer_32 rfl 0 rfl ?_
    refine g_RX4_57 (pc' := 36) hZ dX4_answer_33 rfl 0 rfl rfl ?_
    refine x_ishl (pc' := 37) hZ dX4_answer_36 rfl ?_
    refine x_icmp_ge (tgt := 89) (pc' := 40) hZ dX4_answer_37 (by decide) rfl (fun c37 => ?_) (fun c37 => ?_)
    · replace h := h.1 c37
      refine x_lv [2, 3, 4] (lv' := [(2, .int l2), (3, .int l3), (4, .int l4)]) rfl ?_
      exact hK l3 l4 l5 h
    · replace h := h.2 c37
      refine x_iload (pc' := 42) hZ dX4_answer_40 rfl 5 rfl ?_
      refine k_RX4_127 (pc' := 45) (as := [.int l5]) (rest := []) (c' := 0) (n' := 0) (wr := [(q_this, cO 4 [.int v_thrown, .ref q_text, .int v_textSize, .int v_place, .int v_people, .ref q_ageing, .ref q_page, .int v_readPeople, .ref q_readAgeing, .ref q_readPage, .ref q_book, .int v_acts, .ref q_kept, .ref q_isKept, .int v_heard, .ref q_heardWho, .ref q_heardIs, .long v_seed, .ref q_tried, .ref q_chooser, .int v_choosers, .ref q_best, .int v_sets, .int v_surely, .ref q_alives]), (q_page, cA E 25 v_page)]) hZ (c_X4_many E l5 _ h) dX4_answer_42 rfl rfl rfl rfl rfl (Nat.le_of_ble_eq_true rfl) (Nat.le_of_ble_eq_true rfl) (Nat.le_of_ble_eq_true rfl) rfl rfl (Nat.le_of_ble_eq_true rfl) (Nat.le_of_ble_eq_true rfl) [] [0, 1] rfl rfl (by decide) (by decide) (by decide) (fun r42 w42 hw => ?_)
      obtain ⟨rfl, h⟩ := hw
      refine x_ws (ws' := [(q_this, cO 4 [.int v_thrown, .ref q_text, .int v_textSize, .int v_place, .int v_people, .ref q_ageing, .ref q_page, .int v_readPeople, .ref q_readAgeing, .ref q_readPage, .ref q_book, .int v_acts, .ref q_kept, .ref q_isKept, .int v_heard, .ref q_heardWho, .ref q_heardIs, .long v_seed, .ref q_tried, .ref q_chooser, .int v_choosers, .ref q_best, .int v_sets, .int v_surely, .ref q_alives]), (q_page, cA E 25 v_page)]) [0, 1] rfl (by decide) ?_
      refine x_iload_n (pc' := 46) hZ dX4_answer_45 rfl 1 rfl ?_
      refine x_icmp_ne (tgt := 83) (pc' := 49) hZ dX4_answer_46 (by decide) rfl (fun c46 => ?_) (fun c46 => ?_)
      · replace h := h.1 c46
        obtain ⟨x83, e83⟩ : ∃ y : Int32, y = l5 + 1 := ⟨_, rfl⟩
        replace h := h x83 e83
        refine x_iinc (i := 5) (v := x83) (pc' := 86) (lv' := [(5, .int x83), (0, .ref q_this), (1, .int l1), (2, .int l2), (3, .int l3), (4, .int l4)]) hZ dX4_answer_83 rfl 5 rfl (by rw [e83]; rfl) (by decide) rfl ?_
        refine x_goto (pc' := 29) hZ dX4_answer_86 (by decide) ?_
        refine x_lv [1, 2, 3, 4, 5, 0] (lv' := [(0, .ref q_this), (1, .int l1), (2, .int l2), (3, .int l3), (4, .int l4), (5, .int x83)]) rfl ?_
        exact ih l3 l4 x83 h hK
      · replace h := h.2 c46
        refine x_iload (pc' := 51) hZ dX4_answer_49 rfl 5 rfl ?_
        refine x_aload_n (pc' := 52) hZ dX4_answer_51 rfl 0 rfl ?_
        refine g_RX4_16 (pc' := 55) hZ dX4_answer_52 rfl 0 rfl rfl ?_
        refine x_bipush (v := 21) (pc' := 57) hZ (by decide) dX4_answer_55 rfl ?_
        have h57 : vp_in 21 25 := by unfold vp_in; decide
        refine x_iald (pc' := 58) hZ h57 dX4_answer_57 rfl 1 rfl ?_
        refine x_iconst (v := (-1)) (pc' := 59) hZ (by decide) dX4_answer_58 rfl ?_
        refine x_ixor (pc' := 60) hZ dX4_answer_59 rfl ?_
        refine x_iand (pc' := 61) hZ dX4_answer_60 rfl ?_
        refine x_if_ne (tgt := 83) (pc' := 64) hZ dX4_answer_61 (by decide) rfl (fun c61 => ?_) (fun c61 => ?_)
        · replace h := h.1 c61
          obtain ⟨x83, e83⟩ : ∃ y : Int32, y = l5 + 1 := ⟨_, rfl⟩
          replace h := h x83 e83
          refine x_iinc (i := 5) (v := x83) (pc' := 86) (lv' := [(5, .int x83), (0, .ref q_this), (1, .int l1), (2, .int l2), (3, .int l3), (4, .int l4)]) hZ dX4_answer_83 rfl 5 rfl (by rw [e83]; rfl) (by decide) rfl ?_
          refine x_goto (pc' := 29) hZ dX4_answer_86 (by decide) ?_
          refine x_lv [1, 2, 3, 4, 5, 0] (lv' := [(0, .ref q_this), (1, .int l1), (2, .int l2), (3, .int l3), (4, .int l4), (5, .int x83)]) rfl ?_
          exact ih l3 l4 x83 h hK
        · replace h := h.2 c61
          refine x_aload_n (pc' := 65) hZ dX4_answer_64 rfl 0 rfl ?_
          refine k_RX4_105 (pc' := 68) (q0 := 0) (as := []) (rest := []) (c' := 0) (n' := 0) (wr := []) hZ (c_X4_fairest E q_this q_text q_ageing q_page q_readAgeing q_readPage q_book q_kept q_isKept q_heardWho q_heardIs q_tried q_chooser q_best q_alives v_thrown v_textSize v_place v_people v_readPeople v_acts v_heard v_seed v_choosers v_sets v_surely v_page _ h) rfl dX4_answer_65 rfl rfl rfl rfl rfl (Nat.le_of_ble_eq_true rfl) (Nat.le_of_ble_eq_true rfl) (Nat.le_of_ble_eq_true rfl) rfl rfl (Nat.le_of_ble_eq_true rfl) (Nat.le_of_ble_eq_true rfl) [0, 1] [] rfl rfl (by decide) (by decide) (by decide) (fun r65 w65 hw => ?_)
          obtain ⟨rfl, h⟩ := hw
          refine x_ws (ws' := [(q_this, cO 4 [.int v_thrown, .ref q_text, .int v_textSize, .int v_place, .int v_people, .ref q_ageing, .ref q_page, .int v_readPeople, .ref q_readAgeing, .ref q_readPage, .ref q_book, .int v_acts, .ref q_kept, .ref q_isKept, .int v_heard, .ref q_heardWho, .ref q_heardIs, .long v_seed, .ref q_tried, .ref q_chooser, .int v_choosers, .ref q_best, .int v_sets, .int v_surely, .ref q_alives]), (q_page, cA E 25 v_page)]) [0, 1] rfl (by decide) ?_
          refine x_iload (pc' := 70) hZ dX4_answer_68 rfl 5 rfl ?_
          refine x_iconst (v := (-1)) (pc' := 71) hZ (by decide) dX4_answer_70 rfl ?_
          refine x_ixor (pc' := 72) hZ dX4_answer_71 rfl ?_
          refine x_iand (pc' := 73) hZ dX4_answer_72 rfl ?_
          refine x_if_ne (tgt := 83) (pc' := 76) hZ dX4_answer_73 (by decide) rfl (fun c73 => ?_) (fun c73 => ?_)
          · replace h := h.1 c73
            obtain ⟨x83, e83⟩ : ∃ y : Int32, y = l5 + 1 := ⟨_, rfl⟩
            replace h := h x83 e83
            refine x_iinc (i := 5) (v := x83) (pc' := 86) (lv' := [(5, .int x83), (0, .ref q_this), (1, .int l1), (2, .int l2), (3, .int l3), (4, .int l4)]) hZ dX4_answer_83 rfl 5 rfl (by rw [e83]; rfl) (by decide) rfl ?_
            refine x_goto (pc' := 29) hZ dX4_answer_86 (by decide) ?_
            refine x_lv [1, 2, 3, 4, 5, 0] (lv' := [(0, .ref q_this), (1, .int l1), (2, .int l2), (3, .int l3), (4, .int l4), (5, .int x83)]) rfl ?_
            exact ih l3 l4 x83 h hK
          · replace h := h.2 c73
            obtain ⟨x76, e76⟩ : ∃ y : Int32, y = l3 + 1 := ⟨_, rfl⟩
            replace h := h x76 e76
            refine x_iinc (i := 3) (v := x76) (pc' := 79) (lv' := [(3, .int x76), (0, .ref q_this), (1, .int l1), (2, .int l2), (4, .int l4), (5, .int l5)]) hZ dX4_answer_76 rfl 3 rfl (by rw [e76]; rfl) (by decide) rfl ?_
            refine x_iload (pc' := 81) hZ dX4_answer_79 rfl 5 rfl ?_
            refine x_istore (i := 4) (pc' := 83) (lv' := [(4, .int l5), (3, .int x76), (0, .ref q_this), (1, .int l1), (2, .int l2), (5, .int l5)]) hZ dX4_answer_81 rfl (by decide) rfl ?_
            obtain ⟨x83, e83⟩ : ∃ y : Int32, y = l5 + 1 := ⟨_, rfl⟩
            replace h := h x83 e83
            refine x_iinc (i := 5) (v := x83) (pc' := 86) (lv' := [(5, .int x83), (4, .int l5), (3, .int x76), (0, .ref q_this), (1, .int l1), (2, .int l2)]) hZ dX4_answer_83 rfl 5 rfl (by rw [e83]; rfl) (by decide) rfl ?_
            refine x_goto (pc' := 29) hZ dX4_answer_86 (by decide) ?_
            refine x_lv [3, 4, 5, 2, 1, 0] (lv' := [(0, .ref q_this), (1, .int l1), (2, .int l2), (3, .int x76), (4, .int l5), (5, .int x83)]) rfl ?_
            exact ih x76 l5 x83 h hK
set_option maxHeartbeats 4000000 in
set_option maxRecDepth 100000 in
theorem c_X4_answer (E : XE) (q_this : Nat) (q_text : Nat) (q_ageing : Nat) (q_page : Nat) (q_readAgeing : Nat) (q_readPage : Nat) (q_book : Nat) (q_kept : Nat) (q_isKept : Nat) (q_heardWho : Nat) (q_heardIs : Nat) (q_tried : Nat) (q_chooser : Nat) (q_best : Nat) (q_alives : Nat) (v_thrown : Int32) (v_textSize : Int32) (v_place : Int32) (v_people : Int32) (v_readPeople : Int32) (v_acts : Int32) (v_heard : Int32) (v_seed : Int64) (v_choosers : Int32) (v_sets : Int32) (v_surely : Int32) (v_page : Nat → Int32) (l1 : Int32) (l2 : Int32) (post : Int32 → Int32 → Prop) (h : p_X4_answer v_thrown v_people v_page l1 l2 post) : ConI E yX4_answer cX4_answer 6 .int { frames := 3, cells := 0, slots := 0, locals := 69 } 0 0 [.ref q_this, .int l1, .int l2] [(q_this, cO 4 [.int v_thrown, .ref q_text, .int v_textSize, .int v_place, .int v_people, .ref q_ageing, .ref q_page, .int v_readPeople, .ref q_readAgeing, .ref q_readPage, .ref q_book, .int v_acts, .ref q_kept, .ref q_isKept, .int v_heard, .ref q_heardWho, .ref q_heardIs, .long v_seed, .ref q_tried, .ref q_chooser, .int v_choosers, .ref q_best, .int v_sets, .int v_surely, .ref q_alives]), (q_page, cA E 25 v_page)] (fun r w => ∃ (u_thrown : Int32), w = [(q_this, cO 4 [.int u_thrown, .ref q_text, .int v_textSize, .int v_place, .int v_people, .ref q_ageing, .ref q_page, .int v_readPeople, .ref q_readAgeing, .ref q_readPage, .ref q_book, .int v_acts, .ref q_kept, .ref q_isKept, .int v_heard, .ref q_heardWho, .ref q_heardIs, .long v_seed, .ref q_tried, .ref q_chooser, .int v_choosers, .ref q_best, .int v_sets, .int v_surely, .ref q_alives]), (q_page, cA E 25 v_page)] ∧ post r u_thrown) := by
  refine ConI.of (by decide +kernel) (Nat.le_of_ble_eq_true rfl) (fun Z hZ hI hRet => ?_)
  replace hZ : XOK E Z RX4 cX4_answer 6 { frames := 3, cells := 0, slots := 0, locals := 69 } := hZ
  clear hI
  show XW E Z 0 0 [(q_this, cO 4 [.int v_thrown, .ref q_text, .int v_textSize, .int v_place, .int v_people, .ref q_ageing, .ref q_page, .int v_readPeople, .ref q_readAgeing, .ref q_readPage, .ref q_book, .int v_acts, .ref q_kept, .ref q_isKept, .int v_heard, .ref q_heardWho, .ref q_heardIs, .long v_seed, .ref q_tried, .ref q_chooser, .int v_choosers, .ref q_best, .int v_sets, .int v_surely, .ref q_alives]), (q_page, cA E 25 v_page)] [(0, .ref q_this), (1, .int l1), (2, .int l2)] [] 0
  unfold p_X4_answer at h
  refine x_aload_n (pc' := 1) hZ dX4_answer_0 rfl 0 rfl ?_
  refine x_iconst (v := 0) (pc' := 2) hZ (by decide) dX4_answer_1 rfl ?_
  refine s_RX4_53 (pc' := 5) (ws' := [(q_this, cO 4 [.int 0, .ref q_text, .int v_textSize, .int v_place, .int v_people, .ref q_ageing, .ref q_page, .int v_readPeople, .ref q_readAgeing, .ref q_readPage, .ref q_book, .int v_acts, .ref q_kept, .ref q_isKept, .int v_heard, .ref q_heardWho, .ref q_heardIs, .long v_seed, .ref q_tried, .ref q_chooser, .int v_choosers, .ref q_best, .int v_sets, .int v_surely, .ref q_alives]), (q_page, cA E 25 v_page)]) hZ dX4_answer_2 rfl 0 rfl (Nat.le_of_ble_eq_true rfl) rfl ?_
  refine x_iload_n (pc' := 6) hZ dX4_answer_5 rfl 1 rfl ?_
  refine x_i2l (pc' := 7) hZ dX4_answer_6 rfl ?_
  refine x_lconst (v := 0) (pc' := 8) hZ (by decide) dX4_answer_7 rfl ?_
  refine x_ldc2 (v := 6) (pc' := 11) hZ kl_RX4_148 dX4_answer_8 rfl ?_
  refine k_RX4_60 (pc' := 14) (as := [.long l1.toInt64, .long 0, .long 6]) (rest := []) (c' := 0) (n' := 0) (wr := [(q_this, cO 4 [.int 0, .ref q_text, .int v_textSize, .int v_place, .int v_people, .ref q_ageing, .ref q_page, .int v_readPeople, .ref q_readAgeing, .ref q_readPage, .ref q_book, .int v_acts, .ref q_kept, .ref q_isKept, .int v_heard, .ref q_heardWho, .ref q_heardIs, .long v_seed, .ref q_tried, .ref q_chooser, .int v_choosers, .ref q_best, .int v_sets, .int v_surely, .ref q_alives]), (q_page, cA E 25 v_page)]) hZ (c_X4_in E l1.toInt64 0 6 _ h) dX4_answer_11 rfl rfl rfl rfl rfl (Nat.le_of_ble_eq_true rfl) (Nat.le_of_ble_eq_true rfl) (Nat.le_of_ble_eq_true rfl) rfl rfl (Nat.le_of_ble_eq_true rfl) (Nat.le_of_ble_eq_true rfl) [] [0, 1] rfl rfl (by decide) (by decide) (by decide) (fun r11 w11 hw => ?_)
  obtain ⟨rfl, h⟩ := hw
  refine x_ws (ws' := [(q_this, cO 4 [.int 0, .ref q_text, .int v_textSize, .int v_place, .int v_people, .ref q_ageing, .ref q_page, .int v_readPeople, .ref q_readAgeing, .ref q_readPage, .ref q_book, .int v_acts, .ref q_kept, .ref q_isKept, .int v_heard, .ref q_heardWho, .ref q_heardIs, .long v_seed, .ref q_tried, .ref q_chooser, .int v_choosers, .ref q_best, .int v_sets, .int v_surely, .ref q_alives]), (q_page, cA E 25 v_page)]) [0, 1] rfl (by decide) ?_
  refine x_if_ne (tgt := 20) (pc' := 17) hZ dX4_answer_14 (by decide) rfl (fun c14 => ?_) (fun c14 => ?_)
  · replace h := h.1 c14
    refine x_iconst (v := 0) (pc' := 21) hZ (by decide) dX4_answer_20 rfl ?_
    refine x_istore_n (i := 3) (pc' := 22) (lv' := [(3, .int 0), (0, .ref q_this), (1, .int l1), (2, .int l2)]) hZ dX4_answer_21 rfl rfl (by decide) rfl ?_
    refine x_bipush (v := (-9)) (pc' := 24) hZ (by decide) dX4_answer_22 rfl ?_
    refine x_istore (i := 4) (pc' := 26) (lv' := [(4, .int (-9)), (3, .int 0), (0, .ref q_this), (1, .int l1), (2, .int l2)]) hZ dX4_answer_24 rfl (by decide) rfl ?_
    refine x_iconst (v := 0) (pc' := 27) hZ (by decide) dX4_answer_26 rfl ?_
    refine x_istore (i := 5) (pc' := 29) (lv' := [(5, .int 0), (4, .int (-9)), (3, .int 0), (0, .ref q_this), (1, .int l1), (2, .int l2)]) hZ dX4_answer_27 rfl (by decide) rfl ?_
    refine x_lv [3, 4, 5, 2, 1, 0] (lv' := [(0, .ref q_this), (1, .int l1), (2, .int l2), (3, .int 0), (4, .int (-9)), (5, .int 0)]) rfl ?_
    obtain ⟨k29, h⟩ := h
    refine t_X4_answer_29 E Z q_this q_text q_ageing q_page q_readAgeing q_readPage q_book q_kept q_isKept q_heardWho q_heardIs q_tried q_chooser q_best q_alives 0 v_textSize v_place v_people v_readPeople v_acts v_heard v_seed v_choosers v_sets v_surely v_page l1 l2 hZ  _ 0 (-9) 0 h (fun l3_29 l4_29 l5_29 h => ?_)
    refine x_iload_n (pc' := 90) hZ dX4_answer_89 rfl 0 rfl ?_
    refine x_if_eq (tgt := 98) (pc' := 93) hZ dX4_answer_90 (by decide) rfl (fun c90 => ?_) (fun c90 => ?_)
    · replace h := h.1 c90
      refine x_iload_n (pc' := 99) hZ dX4_answer_98 rfl 1 rfl ?_
      exact hRet _ _ _ _ dX4_answer_99 ⟨_, rfl, h⟩
    · replace h := h.2 c90
      refine x_iload (pc' := 95) hZ dX4_answer_93 rfl 2 rfl ?_
      refine x_goto (pc' := 99) hZ dX4_answer_95 (by decide) ?_
      exact hRet _ _ _ _ dX4_answer_99 ⟨_, rfl, h⟩
  · replace h := h.2 c14
    refine x_bipush (v := (-2)) (pc' := 19) hZ (by decide) dX4_answer_17 rfl ?_
    exact hRet _ _ _ _ dX4_answer_19 ⟨_, rfl, h⟩
set_option maxHeartbeats 4000000 in
set_option maxRecDepth 100000 in
theorem c_X4_chooserOf (E : XE) (q_this : Nat) (q_text : Nat) (q_ageing : Nat) (q_page : Nat) (q_readAgeing : Nat) (q_readPage : Nat) (q_book : Nat) (q_kept : Nat) (q_isKept : Nat) (q_heardWho : Nat) (q_heardIs : Nat) (q_tried : Nat) (q_chooser : Nat) (q_best : Nat) (q_alives : Nat) (v_thrown : Int32) (v_textSize : Int32) (v_place : Int32) (v_people : Int32) (v_readPeople : Int32) (v_acts : Int32) (v_heard : Int32) (v_seed : Int64) (v_choosers : Int32) (v_sets : Int32) (v_surely : Int32) (v_page : Nat → Int32) (l1 : Int32) (post : Int32 → Prop) (h : p_X4_chooserOf v_people v_page l1 post) : ConI E yX4_chooserOf cX4_chooserOf 2 .int { frames := 2, cells := 0, slots := 0, locals := 46 } 0 0 [.ref q_this, .int l1] [(q_this, cO 4 [.int v_thrown, .ref q_text, .int v_textSize, .int v_place, .int v_people, .ref q_ageing, .ref q_page, .int v_readPeople, .ref q_readAgeing, .ref q_readPage, .ref q_book, .int v_acts, .ref q_kept, .ref q_isKept, .int v_heard, .ref q_heardWho, .ref q_heardIs, .long v_seed, .ref q_tried, .ref q_chooser, .int v_choosers, .ref q_best, .int v_sets, .int v_surely, .ref q_alives]), (q_page, cA E 25 v_page)] (fun r w => w = [(q_this, cO 4 [.int v_thrown, .ref q_text, .int v_textSize, .int v_place, .int v_people, .ref q_ageing, .ref q_page, .int v_readPeople, .ref q_readAgeing, .ref q_readPage, .ref q_book, .int v_acts, .ref q_kept, .ref q_isKept, .int v_heard, .ref q_heardWho, .ref q_heardIs, .long v_seed, .ref q_tried, .ref q_chooser, .int v_choosers, .ref q_best, .int v_sets, .int v_surely, .ref q_alives]), (q_page, cA E 25 v_page)] ∧ post r ) := by
  refine ConI.of (by decide +kernel) (Nat.le_of_ble_eq_true rfl) (fun Z hZ hI hRet => ?_)
  replace hZ : XOK E Z RX4 cX4_chooserOf 2 { frames := 2, cells := 0, slots := 0, locals := 46 } := hZ
  clear hI
  show XW E Z 0 0 [(q_this, cO 4 [.int v_thrown, .ref q_text, .int v_textSize, .int v_place, .int v_people, .ref q_ageing, .ref q_page, .int v_readPeople, .ref q_readAgeing, .ref q_readPage, .ref q_book, .int v_acts, .ref q_kept, .ref q_isKept, .int v_heard, .ref q_heardWho, .ref q_heardIs, .long v_seed, .ref q_tried, .ref q_chooser, .int v_choosers, .ref q_best, .int v_sets, .int v_surely, .ref q_alives]), (q_page, cA E 25 v_page)] [(0, .ref q_this), (1, .int l1)] [] 0
  unfold p_X4_chooserOf at h
  refine x_aload_n (pc' := 1) hZ dX4_chooserOf_0 rfl 0 rfl ?_
  refine x_iload_n (pc' := 2) hZ dX4_chooserOf_1 rfl 1 rfl ?_
  refine k_RX4_111 (pc' := 5) (q0 := 0) (as := [.int l1]) (rest := []) (c' := 0) (n' := 0) (wr := [(q_page, cA E 25 v_page)]) hZ (c_X4_noOne E q_this q_text q_ageing q_page q_readAgeing q_readPage q_book q_kept q_isKept q_heardWho q_heardIs q_tried q_chooser q_best q_alives v_thrown v_textSize v_place v_people v_readPeople v_acts v_heard v_seed v_choosers v_sets v_surely l1 _ h) rfl dX4_chooserOf_2 rfl rfl rfl rfl rfl (Nat.le_of_ble_eq_true rfl) (Nat.le_of_ble_eq_true rfl) (Nat.le_of_ble_eq_true rfl) rfl rfl (Nat.le_of_ble_eq_true rfl) (Nat.le_of_ble_eq_true rfl) [0] [1] rfl rfl (by decide) (by decide) (by decide) (fun r2 w2 hw => ?_)
  obtain ⟨rfl, h⟩ := hw
  refine x_ws (ws' := [(q_this, cO 4 [.int v_thrown, .ref q_text, .int v_textSize, .int v_place, .int v_people, .ref q_ageing, .ref q_page, .int v_readPeople, .ref q_readAgeing, .ref q_readPage, .ref q_book, .int v_acts, .ref q_kept, .ref q_isKept, .int v_heard, .ref q_heardWho, .ref q_heardIs, .long v_seed, .ref q_tried, .ref q_chooser, .int v_choosers, .ref q_best, .int v_sets, .int v_surely, .ref q_alives]), (q_page, cA E 25 v_page)]) [1, 0] rfl (by decide) ?_
  refine x_if_eq (tgt := 10) (pc' := 8) hZ dX4_chooserOf_5 (by decide) rfl (fun c5 => ?_) (fun c5 => ?_)
  · replace h := h.1 c5
    refine x_iload_n (pc' := 11) hZ dX4_chooserOf_10 rfl 1 rfl ?_
    refine x_if_ne (tgt := 17) (pc' := 14) hZ dX4_chooserOf_11 (by decide) rfl (fun c11 => ?_) (fun c11 => ?_)
    · replace h := h.1 c11
      refine x_aload_n (pc' := 18) hZ dX4_chooserOf_17 rfl 0 rfl ?_
      refine g_RX4_16 (pc' := 21) hZ dX4_chooserOf_18 rfl 0 rfl rfl ?_
      refine x_bipush (v := 21) (pc' := 23) hZ (by decide) dX4_chooserOf_21 rfl ?_
      have h23 : vp_in 21 25 := by unfold vp_in; decide
      refine x_iald (pc' := 24) hZ h23 dX4_chooserOf_23 rfl 1 rfl ?_
      refine x_iload_n (pc' := 25) hZ dX4_chooserOf_24 rfl 1 rfl ?_
      refine k_RX4_90 (pc' := 28) (as := [.int (v_page (ix 21)), .int l1]) (rest := []) (c' := 0) (n' := 0) (wr := [(q_this, cO 4 [.int v_thrown, .ref q_text, .int v_textSize, .int v_place, .int v_people, .ref q_ageing, .ref q_page, .int v_readPeople, .ref q_readAgeing, .ref q_readPage, .ref q_book, .int v_acts, .ref q_kept, .ref q_isKept, .int v_heard, .ref q_heardWho, .ref q_heardIs, .long v_seed, .ref q_tried, .ref q_chooser, .int v_choosers, .ref q_best, .int v_sets, .int v_surely, .ref q_alives]), (q_page, cA E 25 v_page)]) hZ (c_X4_has E (v_page (ix 21)) l1 _ h) dX4_chooserOf_25 rfl rfl rfl rfl rfl (Nat.le_of_ble_eq_true rfl) (Nat.le_of_ble_eq_true rfl) (Nat.le_of_ble_eq_true rfl) rfl rfl (Nat.le_of_ble_eq_true rfl) (Nat.le_of_ble_eq_true rfl) [] [0, 1] rfl rfl (by decide) (by decide) (by decide) (fun r25 w25 hw => ?_)
      obtain ⟨rfl, h⟩ := hw
      refine x_ws (ws' := [(q_this, cO 4 [.int v_thrown, .ref q_text, .int v_textSize, .int v_place, .int v_people, .ref q_ageing, .ref q_page, .int v_readPeople, .ref q_readAgeing, .ref q_readPage, .ref q_book, .int v_acts, .ref q_kept, .ref q_isKept, .int v_heard, .ref q_heardWho, .ref q_heardIs, .long v_seed, .ref q_tried, .ref q_chooser, .int v_choosers, .ref q_best, .int v_sets, .int v_surely, .ref q_alives]), (q_page, cA E 25 v_page)]) [0, 1] rfl (by decide) ?_
      refine x_if_ne (tgt := 34) (pc' := 31) hZ dX4_chooserOf_28 (by decide) rfl (fun c28 => ?_) (fun c28 => ?_)
      · replace h := h.1 c28
        refine x_aload_n (pc' := 35) hZ dX4_chooserOf_34 rfl 0 rfl ?_
        refine g_RX4_16 (pc' := 38) hZ dX4_chooserOf_35 rfl 0 rfl rfl ?_
        refine x_bipush (v := 21) (pc' := 40) hZ (by decide) dX4_chooserOf_38 rfl ?_
        have h40 : vp_in 21 25 := by unfold vp_in; decide
        refine x_iald (pc' := 41) hZ h40 dX4_chooserOf_40 rfl 1 rfl ?_
        refine x_iconst (v := 1) (pc' := 42) hZ (by decide) dX4_chooserOf_41 rfl ?_
        refine x_iload_n (pc' := 43) hZ dX4_chooserOf_42 rfl 1 rfl ?_
        refine x_ishl (pc' := 44) hZ dX4_chooserOf_43 rfl ?_
        refine x_iconst (v := 2) (pc' := 45) hZ (by decide) dX4_chooserOf_44 rfl ?_
        refine x_isub (pc' := 46) hZ dX4_chooserOf_45 rfl ?_
        refine x_iand (pc' := 47) hZ dX4_chooserOf_46 rfl ?_
        refine k_RX4_127 (pc' := 50) (as := [.int ((v_page (ix 21)) &&& ((jshl 1 l1) - 2))]) (rest := []) (c' := 0) (n' := 0) (wr := [(q_this, cO 4 [.int v_thrown, .ref q_text, .int v_textSize, .int v_place, .int v_people, .ref q_ageing, .ref q_page, .int v_readPeople, .ref q_readAgeing, .ref q_readPage, .ref q_book, .int v_acts, .ref q_kept, .ref q_isKept, .int v_heard, .ref q_heardWho, .ref q_heardIs, .long v_seed, .ref q_tried, .ref q_chooser, .int v_choosers, .ref q_best, .int v_sets, .int v_surely, .ref q_alives]), (q_page, cA E 25 v_page)]) hZ (c_X4_many E ((v_page (ix 21)) &&& ((jshl 1 l1) - 2)) _ h) dX4_chooserOf_47 rfl rfl rfl rfl rfl (Nat.le_of_ble_eq_true rfl) (Nat.le_of_ble_eq_true rfl) (Nat.le_of_ble_eq_true rfl) rfl rfl (Nat.le_of_ble_eq_true rfl) (Nat.le_of_ble_eq_true rfl) [] [0, 1] rfl rfl (by decide) (by decide) (by decide) (fun r47 w47 hw => ?_)
        obtain ⟨rfl, h⟩ := hw
        refine x_ws (ws' := [(q_this, cO 4 [.int v_thrown, .ref q_text, .int v_textSize, .int v_place, .int v_people, .ref q_ageing, .ref q_page, .int v_readPeople, .ref q_readAgeing, .ref q_readPage, .ref q_book, .int v_acts, .ref q_kept, .ref q_isKept, .int v_heard, .ref q_heardWho, .ref q_heardIs, .long v_seed, .ref q_tried, .ref q_chooser, .int v_choosers, .ref q_best, .int v_sets, .int v_surely, .ref q_alives]), (q_page, cA E 25 v_page)]) [0, 1] rfl (by decide) ?_
        exact hRet _ _ _ _ dX4_chooserOf_50 ⟨rfl, h⟩
      · replace h := h.2 c28
        refine x_bipush (v := (-3)) (pc' := 33) hZ (by decide) dX4_chooserOf_31 rfl ?_
        exact hRet _ _ _ _ dX4_chooserOf_33 ⟨rfl, h⟩
    · replace h := h.2 c11
      refine x_bipush (v := (-2)) (pc' := 16) hZ (by decide) dX4_chooserOf_14 rfl ?_
      exact hRet _ _ _ _ dX4_chooserOf_16 ⟨rfl, h⟩
  · replace h := h.2 c5
    refine x_iconst (v := (-1)) (pc' := 9) hZ (by decide) dX4_chooserOf_8 rfl ?_
    exact hRet _ _ _ _ dX4_chooserOf_9 ⟨rfl, h⟩
set_option maxHeartbeats 4000000 in
set_option maxRecDepth 100000 in
theorem t_X4_plainIn_10 (E : XE) (Z : ZC) (q_this : Nat) (q_text : Nat) (q_ageing : Nat) (q_page : Nat) (q_readAgeing : Nat) (q_readPage : Nat) (q_book : Nat) (q_kept : Nat) (q_isKept : Nat) (q_heardWho : Nat) (q_heardIs : Nat) (q_tried : Nat) (q_chooser : Nat) (q_best : Nat) (q_alives : Nat) (v_thrown : Int32) (v_textSize : Int32) (v_place : Int32) (v_people : Int32) (v_readPeople : Int32) (v_acts : Int32) (v_heard : Int32) (v_seed : Int64) (v_choosers : Int32) (v_sets : Int32) (v_surely : Int32) (l2 : Int32) {K : Int32 → Int32 → Prop} (hZ : XOK E Z RX4 cX4_plainIn 5 { frames := 0, cells := 0, slots := 0, locals := 0 }) : ∀ (k : Nat) (l3 : Int32) (l4 : Int32), wl (fun rec v => b_X4_plainIn_10 l2 K rec v.1 v.2) k (l3, l4) → (∀ (l3 : Int32) (l4 : Int32), K l3 l4 → XW E Z 0 0 [(q_this, cO 4 [.int v_thrown, .ref q_text, .int v_textSize, .int v_place, .int v_people, .ref q_ageing, .ref q_page, .int v_readPeople, .ref q_readAgeing, .ref q_readPage, .ref q_book, .int v_acts, .ref q_kept, .ref q_isKept, .int v_heard, .ref q_heardWho, .ref q_heardIs, .long v_seed, .ref q_tried, .ref q_chooser, .int v_choosers, .ref q_best, .int v_sets, .int v_surely, .ref q_alives])] [(3, .int l3)] [] 26) → XW E Z 0 0 [(q_this, cO 4 [.int v_thrown, .ref q_text, .int v_textSize, .int v_place, .int v_people, .ref q_ageing, .ref q_page, .int v_readPeople, .ref q_readAgeing, .ref q_readPage, .ref q_book, .int v_acts, .ref q_kept, .ref q_isKept, .int v_heard, .ref q_heardWho, .ref q_heardIs, .long v_seed, .ref q_tried, .ref q_chooser, .int v_choosers, .ref q_best, .int v_sets, .int v_surely, .ref q_alives])] [(2, .int l2), (3, .int l3), (4, .int l4)] [] 10 := by
  intro k
  induction k with
  | zero =>
    intro l3 l4 h
    exact h.elim
  | succ k ih =>
    intro l3 l4 h hK
    replace h := wl_succ h
    try dsimp only at h
    unfold b_X4_plainIn_10 at h
    refine x_iload (pc' := 12) hZ dX4_plainIn_10 rfl 2 rfl ?_
    refine x_iload_n (pc' := 13) hZ dX4_plainIn_12 rfl 0 rfl ?_
    refine x_icmp_le (tgt := 26) (pc' := 16) hZ dX4_plainIn_13 (by decide) rfl (fun c13 => ?_) (fun c13 => ?_)
    · replace h := h.1 c13
      refine x_lv [1] (lv' := [(3, .int l3)]) rfl ?_
      exact hK l3 l4 h
    · replace h := h.2 c13
      refine x_iload_n (pc' := 17) hZ dX4_plainIn_16 rfl 1 rfl ?_
      refine x_iconst (v := 3) (pc' := 18) hZ (by decide) dX4_plainIn_17 rfl ?_
      refine x_idiv (pc' := 19) hZ (by decide) dX4_plainIn_18 rfl ?_
      refine x_topi (fun x19 e19 => ?_)
      replace h := h x19 e19
      refine x_istore_n (i := 3) (pc' := 20) (lv' := [(3, .int x19), (2, .int l2), (4, .int l4)]) hZ dX4_plainIn_19 rfl rfl (by decide) rfl ?_
      obtain ⟨x20, e20⟩ : ∃ y : Int32, y = l4 + (-1) := ⟨_, rfl⟩
      replace h := h x20 e20
      refine x_iinc (i := 4) (v := x20) (pc' := 23) (lv' := [(4, .int x20), (3, .int x19), (2, .int l2)]) hZ dX4_plainIn_20 rfl 2 rfl (by rw [e20]; rfl) (by decide) rfl ?_
      refine x_goto (pc' := 10) hZ dX4_plainIn_23 (by decide) ?_
      refine x_lv [2, 1, 0] (lv' := [(2, .int l2), (3, .int x19), (4, .int x20)]) rfl ?_
      exact ih x19 x20 h hK
set_option maxHeartbeats 4000000 in
set_option maxRecDepth 100000 in
theorem c_X4_plainIn (E : XE) (q_this : Nat) (q_text : Nat) (q_ageing : Nat) (q_page : Nat) (q_readAgeing : Nat) (q_readPage : Nat) (q_book : Nat) (q_kept : Nat) (q_isKept : Nat) (q_heardWho : Nat) (q_heardIs : Nat) (q_tried : Nat) (q_chooser : Nat) (q_best : Nat) (q_alives : Nat) (v_thrown : Int32) (v_textSize : Int32) (v_place : Int32) (v_people : Int32) (v_readPeople : Int32) (v_acts : Int32) (v_heard : Int32) (v_seed : Int64) (v_choosers : Int32) (v_sets : Int32) (v_surely : Int32) (l1 : Int32) (l2 : Int32) (post : Int32 → Prop) (h : p_X4_plainIn v_choosers l1 l2 post) : ConI E yX4_plainIn cX4_plainIn 5 .int { frames := 0, cells := 0, slots := 0, locals := 0 } 0 0 [.ref q_this, .int l1, .int l2] [(q_this, cO 4 [.int v_thrown, .ref q_text, .int v_textSize, .int v_place, .int v_people, .ref q_ageing, .ref q_page, .int v_readPeople, .ref q_readAgeing, .ref q_readPage, .ref q_book, .int v_acts, .ref q_kept, .ref q_isKept, .int v_heard, .ref q_heardWho, .ref q_heardIs, .long v_seed, .ref q_tried, .ref q_chooser, .int v_choosers, .ref q_best, .int v_sets, .int v_surely, .ref q_alives])] (fun r w => w = [(q_this, cO 4 [.int v_thrown, .ref q_text, .int v_textSize, .int v_place, .int v_people, .ref q_ageing, .ref q_page, .int v_readPeople, .ref q_readAgeing, .ref q_readPage, .ref q_book, .int v_acts, .ref q_kept, .ref q_isKept, .int v_heard, .ref q_heardWho, .ref q_heardIs, .long v_seed, .ref q_tried, .ref q_chooser, .int v_choosers, .ref q_best, .int v_sets, .int v_surely, .ref q_alives])] ∧ post r ) := by
  refine ConI.of (by decide +kernel) (Nat.le_of_ble_eq_true rfl) (fun Z hZ hI hRet => ?_)
  replace hZ : XOK E Z RX4 cX4_plainIn 5 { frames := 0, cells := 0, slots := 0, locals := 0 } := hZ
  clear hI
  show XW E Z 0 0 [(q_this, cO 4 [.int v_thrown, .ref q_text, .int v_textSize, .int v_place, .int v_people, .ref q_ageing, .ref q_page, .int v_readPeople, .ref q_readAgeing, .ref q_readPage, .ref q_book, .int v_acts, .ref q_kept, .ref q_isKept, .int v_heard, .ref q_heardWho, .ref q_heardIs, .long v_seed, .ref q_tried, .ref q_chooser, .int v_choosers, .ref q_best, .int v_sets, .int v_surely, .ref q_alives])] [(0, .ref q_this), (1, .int l1), (2, .int l2)] [] 0
  unfold p_X4_plainIn at h
  refine x_iload_n (pc' := 1) hZ dX4_plainIn_0 rfl 1 rfl ?_
  refine x_istore_n (i := 3) (pc' := 2) (lv' := [(3, .int l1), (0, .ref q_this), (1, .int l1), (2, .int l2)]) hZ dX4_plainIn_1 rfl rfl (by decide) rfl ?_
  refine x_aload_n (pc' := 3) hZ dX4_plainIn_2 rfl 1 rfl ?_
  refine g_RX4_150 (pc' := 6) hZ dX4_plainIn_3 rfl 0 rfl rfl ?_
  refine x_iconst (v := 1) (pc' := 7) hZ (by decide) dX4_plainIn_6 rfl ?_
  refine x_isub (pc' := 8) hZ dX4_plainIn_7 rfl ?_
  refine x_topi (fun x8 e8 => ?_)
  replace h := h x8 e8
  refine x_istore (i := 4) (pc' := 10) (lv' := [(4, .int x8), (3, .int l1), (0, .ref q_this), (1, .int l1), (2, .int l2)]) hZ dX4_plainIn_8 rfl (by decide) rfl ?_
  refine x_lv [4, 1, 0] (lv' := [(2, .int l2), (3, .int l1), (4, .int x8)]) rfl ?_
  obtain ⟨k10, h⟩ := h
  refine t_X4_plainIn_10 E Z q_this q_text q_ageing q_page q_readAgeing q_readPage q_book q_kept q_isKept q_heardWho q_heardIs q_tried q_chooser q_best q_alives v_thrown v_textSize v_place v_people v_readPeople v_acts v_heard v_seed v_choosers v_sets v_surely l2 hZ  _ l1 x8 h (fun l3_10 l4_10 h => ?_)
  refine x_iload_n (pc' := 27) hZ dX4_plainIn_26 rfl 0 rfl ?_
  refine x_iconst (v := 3) (pc' := 28) hZ (by decide) dX4_plainIn_27 rfl ?_
  refine x_irem (pc' := 29) hZ (by decide) dX4_plainIn_28 rfl ?_
  exact hRet _ _ _ _ dX4_plainIn_29 ⟨rfl, h⟩
set_option maxHeartbeats 4000000 in
set_option maxRecDepth 100000 in
theorem t_X4_worthIn_17 (E : XE) (Z : ZC) (q_this : Nat) (q_text : Nat) (q_ageing : Nat) (q_page : Nat) (q_readAgeing : Nat) (q_readPage : Nat) (q_book : Nat) (q_kept : Nat) (q_isKept : Nat) (q_heardWho : Nat) (q_heardIs : Nat) (q_tried : Nat) (q_chooser : Nat) (q_best : Nat) (q_alives : Nat) (v_thrown : Int32) (v_textSize : Int32) (v_place : Int32) (v_people : Int32) (v_readPeople : Int32) (v_acts : Int32) (v_heard : Int32) (v_seed : Int64) (v_choosers : Int32) (v_sets : Int32) (v_surely : Int32) (v_page : Nat → Int32) (v_chooser : Nat → Int32) (l1 : Int32) (l2 : Int32) (l3 : Int32) {K : Int32 → (Nat → Int32) → Prop} (hZ : XOK E Z RX4 cX4_worthIn 7 { frames := 2, cells := 0, slots := 0, locals := 49 }) : ∀ (k : Nat) (l4 : Int32) (v_tried : (Nat → Int32)), wl (fun rec v => b_X4_worthIn_17 l1 l3 v_choosers v_chooser K rec v.1 v.2) k (l4, v_tried) → (∀ (l4 : Int32) (v_tried : (Nat → Int32)), K l4 v_tried → XW E Z 0 0 [(q_this, cO 4 [.int v_thrown, .ref q_text, .int v_textSize, .int v_place, .int v_people, .ref q_ageing, .ref q_page, .int v_readPeople, .ref q_readAgeing, .ref q_readPage, .ref q_book, .int v_acts, .ref q_kept, .ref q_isKept, .int v_heard, .ref q_heardWho, .ref q_heardIs, .long v_seed, .ref q_tried, .ref q_chooser, .int v_choosers, .ref q_best, .int v_sets, .int v_surely, .ref q_alives]), (q_page, cA E 25 v_page), (q_tried, cA E 25 v_tried), (q_chooser, cA E 6 v_chooser)] [(0, .ref q_this), (1, .int l1), (2, .int l2), (3, .int l3)] [] 78) → XW E Z 0 0 [(q_this, cO 4 [.int v_thrown, .ref q_text, .int v_textSize, .int v_place, .int v_people, .ref q_ageing, .ref q_page, .int v_readPeople, .ref q_readAgeing, .ref q_readPage, .ref q_book, .int v_acts, .ref q_kept, .ref q_isKept, .int v_heard, .ref q_heardWho, .ref q_heardIs, .long v_seed, .ref q_tried, .ref q_chooser, .int v_choosers, .ref q_best, .int v_sets, .int v_surely, .ref q_alives]), (q_page, cA E 25 v_page), (q_tried, cA E 25 v_tried), (q_chooser, cA E 6 v_chooser)] [(0, .ref q_this), (1, .int l1), (2, .int l2), (3, .int l3), (4, .int l4)] [] 17 := by
  intro k
  induction k with
  | zero =>
    intro l4 v_tried h
    exact h.elim
  | succ k ih =>
    intro l4 v_tried h hK
    replace h := wl_succ h
    try dsimp only at h
    unfold b_X4_worthIn_17 at h
    refine x_iload (pc' := 19) hZ dX4_worthIn_17 rfl 4 rfl ?_
    refine x_iconst (v := 3) (pc' := 20) hZ (by decide) dX4_worthIn_19 rfl ?_
    refine x_icmp_ge (tgt := 78) (pc' := 23) hZ dX4_worthIn_20 (by decide) rfl (fun c20 => ?_) (fun c20 => ?_)
    · replace h := h.1 c20
      refine x_lv [0, 1, 2, 3] (lv' := [(0, .ref q_this), (1, .int l1), (2, .int l2), (3, .int l3)]) rfl ?_
      exact hK l4 v_tried h
    · replace h := h.2 c20
      refine x_iconst (v := 3) (pc' := 24) hZ (by decide) dX4_worthIn_23 rfl ?_
      refine x_iconst (v := 3) (pc' := 25) hZ (by decide) dX4_worthIn_24 rfl ?_
      refine x_aload_n (pc' := 26) hZ dX4_worthIn_25 rfl 0 rfl ?_
      refine g_RX4_44 (pc' := 29) hZ dX4_worthIn_26 rfl 0 rfl rfl ?_
      refine x_iload_n (pc' := 30) hZ dX4_worthIn_29 rfl 3 rfl ?_
      obtain ⟨h30, h⟩ := h
      refine x_iald (pc' := 31) hZ h30 dX4_worthIn_30 rfl 3 rfl ?_
      refine x_imul (pc' := 32) hZ dX4_worthIn_31 rfl ?_
      refine x_iadd (pc' := 33) hZ dX4_worthIn_32 rfl ?_
      refine x_iload (pc' := 35) hZ dX4_worthIn_33 rfl 4 rfl ?_
      refine x_iadd (pc' := 36) hZ dX4_worthIn_35 rfl ?_
      refine x_topi (fun x36 e36 => ?_)
      replace h := h x36 e36
      refine x_istore (i := 5) (pc' := 38) (lv' := [(5, .int x36), (0, .ref q_this), (1, .int l1), (2, .int l2), (3, .int l3), (4, .int l4)]) hZ dX4_worthIn_36 rfl (by decide) rfl ?_
      refine x_aload_n (pc' := 39) hZ dX4_worthIn_38 rfl 1 rfl ?_
      refine g_RX4_41 (pc' := 42) hZ dX4_worthIn_39 rfl 0 rfl rfl ?_
      refine x_iload (pc' := 44) hZ dX4_worthIn_42 rfl 0 rfl ?_
      obtain ⟨h44, h⟩ := h
      refine x_iald (pc' := 45) hZ h44 dX4_worthIn_44 rfl 2 rfl ?_
      refine x_aload_n (pc' := 46) hZ dX4_worthIn_45 rfl 1 rfl ?_
      refine x_iload_n (pc' := 47) hZ dX4_worthIn_46 rfl 2 rfl ?_
      refine x_iload_n (pc' := 48) hZ dX4_worthIn_47 rfl 4 rfl ?_
      refine k_RX4_153 (pc' := 51) (q0 := 0) (as := [.int l1, .int l3]) (rest := [.int (v_tried (ix x36))]) (c' := 0) (n' := 0) (wr := [(q_page, cA E 25 v_page), (q_tried, cA E 25 v_tried), (q_chooser, cA E 6 v_chooser)]) hZ (c_X4_plainIn E q_this q_text q_ageing q_page q_readAgeing q_readPage q_book q_kept q_isKept q_heardWho q_heardIs q_tried q_chooser q_best q_alives v_thrown v_textSize v_place v_people v_readPeople v_acts v_heard v_seed v_choosers v_sets v_surely l1 l3 _ h) rfl dX4_worthIn_48 rfl rfl rfl rfl rfl (Nat.le_of_ble_eq_true rfl) (Nat.le_of_ble_eq_true rfl) (Nat.le_of_ble_eq_true rfl) rfl rfl (Nat.le_of_ble_eq_true rfl) (Nat.le_of_ble_eq_true rfl) [0] [1, 2, 3] rfl rfl (by decide) (by decide) (by decide) (fun r48 w48 hw => ?_)
      obtain ⟨rfl, h⟩ := hw
      refine x_ws (ws' := [(q_this, cO 4 [.int v_thrown, .ref q_text, .int v_textSize, .int v_place, .int v_people, .ref q_ageing, .ref q_page, .int v_readPeople, .ref q_readAgeing, .ref q_readPage, .ref q_book, .int v_acts, .ref q_kept, .ref q_isKept, .int v_heard, .ref q_heardWho, .ref q_heardIs, .long v_seed, .ref q_tried, .ref q_chooser, .int v_choosers, .ref q_best, .int v_sets, .int v_surely, .ref q_alives]), (q_page, cA E 25 v_page), (q_tried, cA E 25 v_tried), (q_chooser, cA E 6 v_chooser)]) [3, 0, 1, 2] rfl (by decide) ?_
      refine x_isub (pc' := 52) hZ dX4_worthIn_51 rfl ?_
      refine x_topi (fun x52 e52 => ?_)
      replace h := h x52 e52
      refine x_istore (i := 6) (pc' := 54) (lv' := [(6, .int x52), (5, .int x36), (0, .ref q_this), (1, .int l1), (2, .int l2), (3, .int l3), (4, .int l4)]) hZ dX4_worthIn_52 rfl (by decide) rfl ?_
      refine x_aload_n (pc' := 55) hZ dX4_worthIn_54 rfl 2 rfl ?_
      refine g_RX4_41 (pc' := 58) hZ dX4_worthIn_55 rfl 0 rfl rfl ?_
      refine x_iload (pc' := 60) hZ dX4_worthIn_58 rfl 1 rfl ?_
      refine x_iload (pc' := 62) hZ dX4_worthIn_60 rfl 0 rfl ?_
      refine x_if_ge (tgt := 69) (pc' := 65) hZ dX4_worthIn_62 (by decide) rfl (fun c62 => ?_) (fun c62 => ?_)
      · replace h := h.1 c62
        refine x_iload (pc' := 71) hZ dX4_worthIn_69 rfl 0 rfl ?_
        obtain ⟨h71, h⟩ := h
        refine x_iast (pc' := 72) (ws' := [(q_this, cO 4 [.int v_thrown, .ref q_text, .int v_textSize, .int v_place, .int v_people, .ref q_ageing, .ref q_page, .int v_readPeople, .ref q_readAgeing, .ref q_readPage, .ref q_book, .int v_acts, .ref q_kept, .ref q_isKept, .int v_heard, .ref q_heardWho, .ref q_heardIs, .long v_seed, .ref q_tried, .ref q_chooser, .int v_choosers, .ref q_best, .int v_sets, .int v_surely, .ref q_alives]), (q_page, cA E 25 v_page), (q_tried, cA E 25 (upd v_tried (ix x36) x52)), (q_chooser, cA E 6 v_chooser)]) hZ h71 dX4_worthIn_71 rfl 2 rfl rfl ?_
        obtain ⟨x72, e72⟩ : ∃ y : Int32, y = l4 + 1 := ⟨_, rfl⟩
        replace h := h x72 e72
        refine x_iinc (i := 4) (v := x72) (pc' := 75) (lv' := [(4, .int x72), (6, .int x52), (5, .int x36), (0, .ref q_this), (1, .int l1), (2, .int l2), (3, .int l3)]) hZ dX4_worthIn_72 rfl 6 rfl (by rw [e72]; rfl) (by decide) rfl ?_
        refine x_goto (pc' := 17) hZ dX4_worthIn_75 (by decide) ?_
        refine x_lv [3, 4, 5, 6, 0] (lv' := [(0, .ref q_this), (1, .int l1), (2, .int l2), (3, .int l3), (4, .int x72)]) rfl ?_
        exact ih x72 (upd v_tried (ix x36) x52) h hK
      · replace h := h.2 c62
        refine x_iconst (v := 0) (pc' := 66) hZ (by decide) dX4_worthIn_65 rfl ?_
        refine x_goto (pc' := 71) hZ dX4_worthIn_66 (by decide) ?_
        obtain ⟨h71, h⟩ := h
        refine x_iast (pc' := 72) (ws' := [(q_this, cO 4 [.int v_thrown, .ref q_text, .int v_textSize, .int v_place, .int v_people, .ref q_ageing, .ref q_page, .int v_readPeople, .ref q_readAgeing, .ref q_readPage, .ref q_book, .int v_acts, .ref q_kept, .ref q_isKept, .int v_heard, .ref q_heardWho, .ref q_heardIs, .long v_seed, .ref q_tried, .ref q_chooser, .int v_choosers, .ref q_best, .int v_sets, .int v_surely, .ref q_alives]), (q_page, cA E 25 v_page), (q_tried, cA E 25 (upd v_tried (ix x36) 0)), (q_chooser, cA E 6 v_chooser)]) hZ h71 dX4_worthIn_71 rfl 2 rfl rfl ?_
        obtain ⟨x72, e72⟩ : ∃ y : Int32, y = l4 + 1 := ⟨_, rfl⟩
        replace h := h x72 e72
        refine x_iinc (i := 4) (v := x72) (pc' := 75) (lv' := [(4, .int x72), (6, .int x52), (5, .int x36), (0, .ref q_this), (1, .int l1), (2, .int l2), (3, .int l3)]) hZ dX4_worthIn_72 rfl 6 rfl (by rw [e72]; rfl) (by decide) rfl ?_
        refine x_goto (pc' := 17) hZ dX4_worthIn_75 (by decide) ?_
        refine x_lv [3, 4, 5, 6, 0] (lv' := [(0, .ref q_this), (1, .int l1), (2, .int l2), (3, .int l3), (4, .int x72)]) rfl ?_
        exact ih x72 (upd v_tried (ix x36) 0) h hK
set_option maxHeartbeats 4000000 in
set_option maxRecDepth 100000 in
theorem t_X4_worthIn_6 (E : XE) (Z : ZC) (q_this : Nat) (q_text : Nat) (q_ageing : Nat) (q_page : Nat) (q_readAgeing : Nat) (q_readPage : Nat) (q_book : Nat) (q_kept : Nat) (q_isKept : Nat) (q_heardWho : Nat) (q_heardIs : Nat) (q_tried : Nat) (q_chooser : Nat) (q_best : Nat) (q_alives : Nat) (v_thrown : Int32) (v_textSize : Int32) (v_place : Int32) (v_people : Int32) (v_readPeople : Int32) (v_acts : Int32) (v_heard : Int32) (v_seed : Int64) (v_choosers : Int32) (v_sets : Int32) (v_surely : Int32) (v_page : Nat → Int32) (v_chooser : Nat → Int32) (l1 : Int32) (l2 : Int32) {K : Int32 → (Nat → Int32) → Prop} (hZ : XOK E Z RX4 cX4_worthIn 7 { frames := 2, cells := 0, slots := 0, locals := 49 }) : ∀ (k : Nat) (l3 : Int32) (v_tried : (Nat → Int32)), wl (fun rec v => b_X4_worthIn_6 l1 v_choosers v_chooser K rec v.1 v.2) k (l3, v_tried) → (∀ (l3 : Int32) (v_tried : (Nat → Int32)), K l3 v_tried → XW E Z 0 0 [(q_this, cO 4 [.int v_thrown, .ref q_text, .int v_textSize, .int v_place, .int v_people, .ref q_ageing, .ref q_page, .int v_readPeople, .ref q_readAgeing, .ref q_readPage, .ref q_book, .int v_acts, .ref q_kept, .ref q_isKept, .int v_heard, .ref q_heardWho, .ref q_heardIs, .long v_seed, .ref q_tried, .ref q_chooser, .int v_choosers, .ref q_best, .int v_sets, .int v_surely, .ref q_alives]), (q_page, cA E 25 v_page), (q_tried, cA E 25 v_tried), (q_chooser, cA E 6 v_chooser)] [(0, .ref q_this), (2, .int l2)] [] 84) → XW E Z 0 0 [(q_this, cO 4 [.int v_thrown, .ref q_text, .int v_textSize, .int v_place, .int v_people, .ref q_ageing, .ref q_page, .int v_readPeople, .ref q_readAgeing, .ref q_readPage, .ref q_book, .int v_acts, .ref q_kept, .ref q_isKept, .int v_heard, .ref q_heardWho, .ref q_heardIs, .long v_seed, .ref q_tried, .ref q_chooser, .int v_choosers, .ref q_best, .int v_sets, .int v_surely, .ref q_alives]), (q_page, cA E 25 v_page), (q_tried, cA E 25 v_tried), (q_chooser, cA E 6 v_chooser)] [(0, .ref q_this), (1, .int l1), (2, .int l2), (3, .int l3)] [] 6 := by
  intro k
  induction k with
  | zero =>
    intro l3 v_tried h
    exact h.elim
  | succ k ih =>
    intro l3 v_tried h hK
    replace h := wl_succ h
    try dsimp only at h
    unfold b_X4_worthIn_6 at h
    refine x_iload_n (pc' := 7) hZ dX4_worthIn_6 rfl 3 rfl ?_
    refine x_aload_n (pc' := 8) hZ dX4_worthIn_7 rfl 0 rfl ?_
    refine g_RX4_150 (pc' := 11) hZ dX4_worthIn_8 rfl 0 rfl rfl ?_
    refine x_icmp_ge (tgt := 84) (pc' := 14) hZ dX4_worthIn_11 (by decide) rfl (fun c11 => ?_) (fun c11 => ?_)
    · replace h := h.1 c11
      refine x_lv [0, 2] (lv' := [(0, .ref q_this), (2, .int l2)]) rfl ?_
      exact hK l3 v_tried h
    · replace h := h.2 c11
      refine x_iconst (v := 0) (pc' := 15) hZ (by decide) dX4_worthIn_14 rfl ?_
      refine x_istore (i := 4) (pc' := 17) (lv' := [(4, .int 0), (0, .ref q_this), (1, .int l1), (2, .int l2), (3, .int l3)]) hZ dX4_worthIn_15 rfl (by decide) rfl ?_
      refine x_lv [1, 2, 3, 4, 0] (lv' := [(0, .ref q_this), (1, .int l1), (2, .int l2), (3, .int l3), (4, .int 0)]) rfl ?_
      obtain ⟨k17, h⟩ := h
      refine t_X4_worthIn_17 E Z q_this q_text q_ageing q_page q_readAgeing q_readPage q_book q_kept q_isKept q_heardWho q_heardIs q_tried q_chooser q_best q_alives v_thrown v_textSize v_place v_people v_readPeople v_acts v_heard v_seed v_choosers v_sets v_surely v_page v_chooser l1 l2 l3 hZ  _ 0 v_tried h (fun l4_17 v_tried_17 h => ?_)
      obtain ⟨x78, e78⟩ : ∃ y : Int32, y = l3 + 1 := ⟨_, rfl⟩
      replace h := h x78 e78
      refine x_iinc (i := 3) (v := x78) (pc' := 81) (lv' := [(3, .int x78), (0, .ref q_this), (1, .int l1), (2, .int l2)]) hZ dX4_worthIn_78 rfl 3 rfl (by rw [e78]; rfl) (by decide) rfl ?_
      refine x_goto (pc' := 6) hZ dX4_worthIn_81 (by decide) ?_
      refine x_lv [1, 2, 3, 0] (lv' := [(0, .ref q_this), (1, .int l1), (2, .int l2), (3, .int x78)]) rfl ?_
      exact ih x78 v_tried_17 h hK
set_option maxHeartbeats 4000000 in
set_option maxRecDepth 100000 in
theorem c_X4_worthIn (E : XE) (q_this : Nat) (q_text : Nat) (q_ageing : Nat) (q_page : Nat) (q_readAgeing : Nat) (q_readPage : Nat) (q_book : Nat) (q_kept : Nat) (q_isKept : Nat) (q_heardWho : Nat) (q_heardIs : Nat) (q_tried : Nat) (q_chooser : Nat) (q_best : Nat) (q_alives : Nat) (v_thrown : Int32) (v_textSize : Int32) (v_place : Int32) (v_people : Int32) (v_readPeople : Int32) (v_acts : Int32) (v_heard : Int32) (v_seed : Int64) (v_choosers : Int32) (v_sets : Int32) (v_surely : Int32) (v_page : Nat → Int32) (v_tried : Nat → Int32) (v_chooser : Nat → Int32) (l1 : Int32) (l2 : Int32) (post : Int32 → (Nat → Int32) → Prop) (h : p_X4_worthIn v_people v_choosers v_page v_tried v_chooser l1 l2 post) : ConI E yX4_worthIn cX4_worthIn 7 .int { frames := 2, cells := 0, slots := 0, locals := 49 } 0 0 [.ref q_this, .int l1, .int l2] [(q_this, cO 4 [.int v_thrown, .ref q_text, .int v_textSize, .int v_place, .int v_people, .ref q_ageing, .ref q_page, .int v_readPeople, .ref q_readAgeing, .ref q_readPage, .ref q_book, .int v_acts, .ref q_kept, .ref q_isKept, .int v_heard, .ref q_heardWho, .ref q_heardIs, .long v_seed, .ref q_tried, .ref q_chooser, .int v_choosers, .ref q_best, .int v_sets, .int v_surely, .ref q_alives]), (q_page, cA E 25 v_page), (q_tried, cA E 25 v_tried), (q_chooser, cA E 6 v_chooser)] (fun r w => ∃ (u_tried : Nat → Int32), w = [(q_this, cO 4 [.int v_thrown, .ref q_text, .int v_textSize, .int v_place, .int v_people, .ref q_ageing, .ref q_page, .int v_readPeople, .ref q_readAgeing, .ref q_readPage, .ref q_book, .int v_acts, .ref q_kept, .ref q_isKept, .int v_heard, .ref q_heardWho, .ref q_heardIs, .long v_seed, .ref q_tried, .ref q_chooser, .int v_choosers, .ref q_best, .int v_sets, .int v_surely, .ref q_alives]), (q_page, cA E 25 v_page), (q_tried, cA E 25 u_tried), (q_chooser, cA E 6 v_chooser)] ∧ post r u_tried) := by
  refine ConI.of (by decide +kernel) (Nat.le_of_ble_eq_true rfl) (fun Z hZ hI hRet => ?_)
  replace hZ : XOK E Z RX4 cX4_worthIn 7 { frames := 2, cells := 0, slots := 0, locals := 49 } := hZ
  clear hI
  show XW E Z 0 0 [(q_this, cO 4 [.int v_thrown, .ref q_text, .int v_textSize, .int v_place, .int v_people, .ref q_ageing, .ref q_page, .int v_readPeople, .ref q_readAgeing, .ref q_readPage, .ref q_book, .int v_acts, .ref q_kept, .ref q_isKept, .int v_heard, .ref q_heardWho, .ref q_heardIs, .long v_seed, .ref q_tried, .ref q_chooser, .int v_choosers, .ref q_best, .int v_sets, .int v_surely, .ref q_alives]), (q_page, cA E 25 v_page), (q_tried, cA E 25 v_tried), (q_chooser, cA E 6 v_chooser)] [(0, .ref q_this), (1, .int l1), (2, .int l2)] [] 0
  unfold p_X4_worthIn at h
  refine x_aload_n (pc' := 1) hZ dX4_worthIn_0 rfl 0 rfl ?_
  refine k_RX4_136 (pc' := 4) (q0 := 0) (as := []) (rest := []) (c' := 0) (n' := 0) (wr := [(q_chooser, cA E 6 v_chooser)]) hZ (c_X4_begin E q_this q_text q_ageing q_page q_readAgeing q_readPage q_book q_kept q_isKept q_heardWho q_heardIs q_tried q_chooser q_best q_alives v_thrown v_textSize v_place v_people v_readPeople v_acts v_heard v_seed v_choosers v_sets v_surely v_page v_tried _ h) rfl dX4_worthIn_1 rfl rfl rfl rfl rfl (Nat.le_of_ble_eq_true rfl) (Nat.le_of_ble_eq_true rfl) (Nat.le_of_ble_eq_true rfl) rfl rfl (Nat.le_of_ble_eq_true rfl) (Nat.le_of_ble_eq_true rfl) [0, 1, 2] [3] rfl rfl (by decide) (by decide) (by decide) (fun w1 hw => ?_)
  obtain ⟨a1_0, rfl, h⟩ := hw
  refine x_ws (ws' := [(q_this, cO 4 [.int v_thrown, .ref q_text, .int v_textSize, .int v_place, .int v_people, .ref q_ageing, .ref q_page, .int v_readPeople, .ref q_readAgeing, .ref q_readPage, .ref q_book, .int v_acts, .ref q_kept, .ref q_isKept, .int v_heard, .ref q_heardWho, .ref q_heardIs, .long v_seed, .ref q_tried, .ref q_chooser, .int v_choosers, .ref q_best, .int v_sets, .int v_surely, .ref q_alives]), (q_page, cA E 25 v_page), (q_tried, cA E 25 a1_0), (q_chooser, cA E 6 v_chooser)]) [1, 2, 3, 0] rfl (by decide) ?_
  refine x_iconst (v := 0) (pc' := 5) hZ (by decide) dX4_worthIn_4 rfl ?_
  refine x_istore_n (i := 3) (pc' := 6) (lv' := [(3, .int 0), (0, .ref q_this), (1, .int l1), (2, .int l2)]) hZ dX4_worthIn_5 rfl rfl (by decide) rfl ?_
  refine x_lv [1, 2, 3, 0] (lv' := [(0, .ref q_this), (1, .int l1), (2, .int l2), (3, .int 0)]) rfl ?_
  obtain ⟨k6, h⟩ := h
  refine t_X4_worthIn_6 E Z q_this q_text q_ageing q_page q_readAgeing q_readPage q_book q_kept q_isKept q_heardWho q_heardIs q_tried q_chooser q_best q_alives v_thrown v_textSize v_place v_people v_readPeople v_acts v_heard v_seed v_choosers v_sets v_surely v_page v_chooser l1 l2 hZ  _ 0 a1_0 h (fun l3_6 v_tried_6 h => ?_)
  refine x_aload_n (pc' := 85) hZ dX4_worthIn_84 rfl 0 rfl ?_
  refine g_RX4_44 (pc' := 88) hZ dX4_worthIn_85 rfl 0 rfl rfl ?_
  refine x_iload_n (pc' := 89) hZ dX4_worthIn_88 rfl 1 rfl ?_
  obtain ⟨h89, h⟩ := h
  refine x_iald (pc' := 90) hZ h89 dX4_worthIn_89 rfl 3 rfl ?_
  refine x_topi (fun x90 e90 => ?_)
  replace h := h x90 e90
  refine x_istore_n (i := 3) (pc' := 91) (lv' := [(3, .int x90), (0, .ref q_this), (2, .int l2)]) hZ dX4_worthIn_90 rfl rfl (by decide) rfl ?_
  refine x_aload_n (pc' := 92) hZ dX4_worthIn_91 rfl 1 rfl ?_
  refine x_aload_n (pc' := 93) hZ dX4_worthIn_92 rfl 1 rfl ?_
  refine g_RX4_41 (pc' := 96) hZ dX4_worthIn_93 rfl 0 rfl rfl ?_
  refine x_aload_n (pc' := 97) hZ dX4_worthIn_96 rfl 1 rfl ?_
  refine g_RX4_41 (pc' := 100) hZ dX4_worthIn_97 rfl 0 rfl rfl ?_
  refine x_bipush (v := 21) (pc' := 102) hZ (by decide) dX4_worthIn_100 rfl ?_
  have h102 : vp_in 21 25 := by unfold vp_in; decide
  refine x_iald (pc' := 103) hZ h102 dX4_worthIn_102 rfl 2 rfl ?_
  refine x_aload_n (pc' := 104) hZ dX4_worthIn_103 rfl 1 rfl ?_
  refine g_RX4_41 (pc' := 107) hZ dX4_worthIn_104 rfl 0 rfl rfl ?_
  refine k_RX4_98 (pc' := 110) (as := [.ref q_tried]) (rest := [.int (v_tried_6 (ix 21)), .ref q_tried, .ref q_this]) (c' := 0) (n' := 0) (wr := [(q_this, cO 4 [.int v_thrown, .ref q_text, .int v_textSize, .int v_place, .int v_people, .ref q_ageing, .ref q_page, .int v_readPeople, .ref q_readAgeing, .ref q_readPage, .ref q_book, .int v_acts, .ref q_kept, .ref q_isKept, .int v_heard, .ref q_heardWho, .ref q_heardIs, .long v_seed, .ref q_tried, .ref q_chooser, .int v_choosers, .ref q_best, .int v_sets, .int v_surely, .ref q_alives]), (q_page, cA E 25 v_page), (q_chooser, cA E 6 v_chooser)]) hZ (c_X4_weightsOf E q_tried v_tried_6 _ h) dX4_worthIn_107 rfl rfl rfl rfl rfl (Nat.le_of_ble_eq_true rfl) (Nat.le_of_ble_eq_true rfl) (Nat.le_of_ble_eq_true rfl) rfl rfl (Nat.le_of_ble_eq_true rfl) (Nat.le_of_ble_eq_true rfl) [2] [0, 1, 3] rfl rfl (by decide) (by decide) (by decide) (fun r107 w107 hw => ?_)
  obtain ⟨rfl, h⟩ := hw
  refine x_ws (ws' := [(q_this, cO 4 [.int v_thrown, .ref q_text, .int v_textSize, .int v_place, .int v_people, .ref q_ageing, .ref q_page, .int v_readPeople, .ref q_readAgeing, .ref q_readPage, .ref q_book, .int v_acts, .ref q_kept, .ref q_isKept, .int v_heard, .ref q_heardWho, .ref q_heardIs, .long v_seed, .ref q_tried, .ref q_chooser, .int v_choosers, .ref q_best, .int v_sets, .int v_surely, .ref q_alives]), (q_page, cA E 25 v_page), (q_tried, cA E 25 v_tried_6), (q_chooser, cA E 6 v_chooser)]) [0, 1, 3, 2] rfl (by decide) ?_
  refine k_RX4_102 (pc' := 113) (q0 := 0) (as := [.ref q_tried, .int (v_tried_6 (ix 21)), .int r107]) (rest := []) (c' := 0) (n' := 0) (wr := [(q_page, cA E 25 v_page), (q_chooser, cA E 6 v_chooser)]) hZ (c_X4_fairestOf E q_this q_text q_ageing q_page q_readAgeing q_readPage q_book q_kept q_isKept q_heardWho q_heardIs q_tried q_chooser q_best q_alives q_tried v_thrown v_textSize v_place v_people v_readPeople v_acts v_heard v_seed v_choosers v_sets v_surely v_tried_6 (v_tried_6 (ix 21)) r107 _ h) rfl dX4_worthIn_110 rfl rfl rfl rfl rfl (Nat.le_of_ble_eq_true rfl) (Nat.le_of_ble_eq_true rfl) (Nat.le_of_ble_eq_true rfl) rfl rfl (Nat.le_of_ble_eq_true rfl) (Nat.le_of_ble_eq_true rfl) [0, 2] [1, 3] rfl rfl (by decide) (by decide) (by decide) (fun r110 w110 hw => ?_)
  obtain ⟨rfl, h⟩ := hw
  refine x_ws (ws' := [(q_this, cO 4 [.int v_thrown, .ref q_text, .int v_textSize, .int v_place, .int v_people, .ref q_ageing, .ref q_page, .int v_readPeople, .ref q_readAgeing, .ref q_readPage, .ref q_book, .int v_acts, .ref q_kept, .ref q_isKept, .int v_heard, .ref q_heardWho, .ref q_heardIs, .long v_seed, .ref q_tried, .ref q_chooser, .int v_choosers, .ref q_best, .int v_sets, .int v_surely, .ref q_alives]), (q_page, cA E 25 v_page), (q_tried, cA E 25 v_tried_6), (q_chooser, cA E 6 v_chooser)]) [2, 0, 3, 1] rfl (by decide) ?_
  refine x_iload_n (pc' := 114) hZ dX4_worthIn_113 rfl 0 rfl ?_
  refine k_RX4_90 (pc' := 117) (as := [.int r110, .int x90]) (rest := []) (c' := 0) (n' := 0) (wr := [(q_this, cO 4 [.int v_thrown, .ref q_text, .int v_textSize, .int v_place, .int v_people, .ref q_ageing, .ref q_page, .int v_readPeople, .ref q_readAgeing, .ref q_readPage, .ref q_book, .int v_acts, .ref q_kept, .ref q_isKept, .int v_heard, .ref q_heardWho, .ref q_heardIs, .long v_seed, .ref q_tried, .ref q_chooser, .int v_choosers, .ref q_best, .int v_sets, .int v_surely, .ref q_alives]), (q_page, cA E 25 v_page), (q_tried, cA E 25 v_tried_6), (q_chooser, cA E 6 v_chooser)]) hZ (c_X4_has E r110 x90 _ h) dX4_worthIn_114 rfl rfl rfl rfl rfl (Nat.le_of_ble_eq_true rfl) (Nat.le_of_ble_eq_true rfl) (Nat.le_of_ble_eq_true rfl) rfl rfl (Nat.le_of_ble_eq_true rfl) (Nat.le_of_ble_eq_true rfl) [] [0, 1, 2, 3] rfl rfl (by decide) (by decide) (by decide) (fun r114 w114 hw => ?_)
  obtain ⟨rfl, h⟩ := hw
  refine x_ws (ws' := [(q_this, cO 4 [.int v_thrown, .ref q_text, .int v_textSize, .int v_place, .int v_people, .ref q_ageing, .ref q_page, .int v_readPeople, .ref q_readAgeing, .ref q_readPage, .ref q_book, .int v_acts, .ref q_kept, .ref q_isKept, .int v_heard, .ref q_heardWho, .ref q_heardIs, .long v_seed, .ref q_tried, .ref q_chooser, .int v_choosers, .ref q_best, .int v_sets, .int v_surely, .ref q_alives]), (q_page, cA E 25 v_page), (q_tried, cA E 25 v_tried_6), (q_chooser, cA E 6 v_chooser)]) [0, 1, 2, 3] rfl (by decide) ?_
  refine x_istore (i := 4) (pc' := 119) (lv' := [(4, .int r114), (3, .int x90), (0, .ref q_this), (2, .int l2)]) hZ dX4_worthIn_117 rfl (by decide) rfl ?_
  refine x_iload (pc' := 121) hZ dX4_worthIn_119 rfl 0 rfl ?_
  refine x_if_eq (tgt := 128) (pc' := 124) hZ dX4_worthIn_121 (by decide) rfl (fun c121 => ?_) (fun c121 => ?_)
  · replace h := h.1 c121
    refine x_aload_n (pc' := 129) hZ dX4_worthIn_128 rfl 2 rfl ?_
    refine g_RX4_41 (pc' := 132) hZ dX4_worthIn_129 rfl 0 rfl rfl ?_
    refine x_iload_n (pc' := 133) hZ dX4_worthIn_132 rfl 1 rfl ?_
    refine x_aload_n (pc' := 134) hZ dX4_worthIn_133 rfl 2 rfl ?_
    refine g_RX4_41 (pc' := 137) hZ dX4_worthIn_134 rfl 0 rfl rfl ?_
    refine k_RX4_98 (pc' := 140) (as := [.ref q_tried]) (rest := [.int x90, .ref q_tried]) (c' := 0) (n' := 0) (wr := [(q_this, cO 4 [.int v_thrown, .ref q_text, .int v_textSize, .int v_place, .int v_people, .ref q_ageing, .ref q_page, .int v_readPeople, .ref q_readAgeing, .ref q_readPage, .ref q_book, .int v_acts, .ref q_kept, .ref q_isKept, .int v_heard, .ref q_heardWho, .ref q_heardIs, .long v_seed, .ref q_tried, .ref q_chooser, .int v_choosers, .ref q_best, .int v_sets, .int v_surely, .ref q_alives]), (q_page, cA E 25 v_page), (q_chooser, cA E 6 v_chooser)]) hZ (c_X4_weightsOf E q_tried v_tried_6 _ h) dX4_worthIn_137 rfl rfl rfl rfl rfl (Nat.le_of_ble_eq_true rfl) (Nat.le_of_ble_eq_true rfl) (Nat.le_of_ble_eq_true rfl) rfl rfl (Nat.le_of_ble_eq_true rfl) (Nat.le_of_ble_eq_true rfl) [2] [0, 1, 3] rfl rfl (by decide) (by decide) (by decide) (fun r137 w137 hw => ?_)
    obtain ⟨rfl, h⟩ := hw
    refine x_ws (ws' := [(q_this, cO 4 [.int v_thrown, .ref q_text, .int v_textSize, .int v_place, .int v_people, .ref q_ageing, .ref q_page, .int v_readPeople, .ref q_readAgeing, .ref q_readPage, .ref q_book, .int v_acts, .ref q_kept, .ref q_isKept, .int v_heard, .ref q_heardWho, .ref q_heardIs, .long v_seed, .ref q_tried, .ref q_chooser, .int v_choosers, .ref q_best, .int v_sets, .int v_surely, .ref q_alives]), (q_page, cA E 25 v_page), (q_tried, cA E 25 v_tried_6), (q_chooser, cA E 6 v_chooser)]) [0, 1, 3, 2] rfl (by decide) ?_
    refine k_RX4_94 (pc' := 143) (as := [.ref q_tried, .int x90, .int r137]) (rest := []) (c' := 0) (n' := 0) (wr := [(q_this, cO 4 [.int v_thrown, .ref q_text, .int v_textSize, .int v_place, .int v_people, .ref q_ageing, .ref q_page, .int v_readPeople, .ref q_readAgeing, .ref q_readPage, .ref q_book, .int v_acts, .ref q_kept, .ref q_isKept, .int v_heard, .ref q_heardWho, .ref q_heardIs, .long v_seed, .ref q_tried, .ref q_chooser, .int v_choosers, .ref q_best, .int v_sets, .int v_surely, .ref q_alives]), (q_page, cA E 25 v_page), (q_chooser, cA E 6 v_chooser)]) hZ (c_X4_valueOf E q_tried v_tried_6 x90 r137 _ h) dX4_worthIn_140 rfl rfl rfl rfl rfl (Nat.le_of_ble_eq_true rfl) (Nat.le_of_ble_eq_true rfl) (Nat.le_of_ble_eq_true rfl) rfl rfl (Nat.le_of_ble_eq_true rfl) (Nat.le_of_ble_eq_true rfl) [2] [0, 1, 3] rfl rfl (by decide) (by decide) (by decide) (fun r140 w140 hw => ?_)
    obtain ⟨rfl, h⟩ := hw
    refine x_ws (ws' := [(q_this, cO 4 [.int v_thrown, .ref q_text, .int v_textSize, .int v_place, .int v_people, .ref q_ageing, .ref q_page, .int v_readPeople, .ref q_readAgeing, .ref q_readPage, .ref q_book, .int v_acts, .ref q_kept, .ref q_isKept, .int v_heard, .ref q_heardWho, .ref q_heardIs, .long v_seed, .ref q_tried, .ref q_chooser, .int v_choosers, .ref q_best, .int v_sets, .int v_surely, .ref q_alives]), (q_page, cA E 25 v_page), (q_tried, cA E 25 v_tried_6), (q_chooser, cA E 6 v_chooser)]) [0, 1, 3, 2] rfl (by decide) ?_
    exact hRet _ _ _ _ dX4_worthIn_143 ⟨_, rfl, h⟩
  · replace h := h.2 c121
    refine x_iconst (v := (-1)) (pc' := 125) hZ (by decide) dX4_worthIn_124 rfl ?_
    refine x_goto (pc' := 143) hZ dX4_worthIn_125 (by decide) ?_
    exact hRet _ _ _ _ dX4_worthIn_143 ⟨_, rfl, h⟩
set_option maxHeartbeats 4000000 in
set_option maxRecDepth 100000 in
theorem t_X4_findRow_9 (E : XE) (Z : ZC) (q_this : Nat) (q_text : Nat) (q_ageing : Nat) (q_page : Nat) (q_readAgeing : Nat) (q_readPage : Nat) (q_book : Nat) (q_kept : Nat) (q_isKept : Nat) (q_heardWho : Nat) (q_heardIs : Nat) (q_tried : Nat) (q_chooser : Nat) (q_best : Nat) (q_alives : Nat) (v_thrown : Int32) (v_textSize : Int32) (v_place : Int32) (v_people : Int32) (v_readPeople : Int32) (v_acts : Int32) (v_heard : Int32) (v_seed : Int64) (v_sets : Int32) (v_surely : Int32) (v_page : Nat → Int32) (v_tried : Nat → Int32) (v_best : Nat → Int32) {K : Int32 → Int32 → Int32 → (Nat → Int32) → Prop} (hZ : XOK E Z RX4 cX4_findRow 7 { frames := 3, cells := 0, slots := 0, locals := 75 }) : ∀ (k : Nat) (l1 : Int32) (l2 : Int32) (v_choosers : Int32) (v_chooser : (Nat → Int32)), wl (fun rec v => b_X4_findRow_9 v_people v_page K rec v.1 v.2.1 v.2.2.1 v.2.2.2) k (l1, l2, v_choosers, v_chooser) → (∀ (l1 : Int32) (l2 : Int32) (v_choosers : Int32) (v_chooser : (Nat → Int32)), K l1 l2 v_choosers v_chooser → XW E Z 0 0 [(q_this, cO 4 [.int v_thrown, .ref q_text, .int v_textSize, .int v_place, .int v_people, .ref q_ageing, .ref q_page, .int v_readPeople, .ref q_readAgeing, .ref q_readPage, .ref q_book, .int v_acts, .ref q_kept, .ref q_isKept, .int v_heard, .ref q_heardWho, .ref q_heardIs, .long v_seed, .ref q_tried, .ref q_chooser, .int v_choosers, .ref q_best, .int v_sets, .int v_surely, .ref q_alives]), (q_page, cA E 25 v_page), (q_tried, cA E 25 v_tried), (q_chooser, cA E 6 v_chooser), (q_best, cA E 7 v_best)] [(0, .ref q_this), (1, .int l1)] [] 61) → XW E Z 0 0 [(q_this, cO 4 [.int v_thrown, .ref q_text, .int v_textSize, .int v_place, .int v_people, .ref q_ageing, .ref q_page, .int v_readPeople, .ref q_readAgeing, .ref q_readPage, .ref q_book, .int v_acts, .ref q_kept, .ref q_isKept, .int v_heard, .ref q_heardWho, .ref q_heardIs, .long v_seed, .ref q_tried, .ref q_chooser, .int v_choosers, .ref q_best, .int v_sets, .int v_surely, .ref q_alives]), (q_page, cA E 25 v_page), (q_tried, cA E 25 v_tried), (q_chooser, cA E 6 v_chooser), (q_best, cA E 7 v_best)] [(0, .ref q_this), (1, .int l1), (2, .int l2)] [] 9 := by
  intro k
  induction k with
  | zero =>
    intro l1 l2 v_choosers v_chooser h
    exact h.elim
  | succ k ih =>
    intro l1 l2 v_choosers v_chooser h hK
    replace h := wl_succ h
    try dsimp only at h
    unfold b_X4_findRow_9 at h
    refine x_iload_n (pc' := 10) hZ dX4_findRow_9 rfl 2 rfl ?_
    refine x_aload_n (pc' := 11) hZ dX4_findRow_10 rfl 0 rfl ?_
    refine g_RX4_57 (pc' := 14) hZ dX4_findRow_11 rfl 0 rfl rfl ?_
    refine x_icmp_ge (tgt := 61) (pc' := 17) hZ dX4_findRow_14 (by decide) rfl (fun c14 => ?_) (fun c14 => ?_)
    · replace h := h.1 c14
      refine x_lv [0, 1] (lv' := [(0, .ref q_this), (1, .int l1)]) rfl ?_
      exact hK l1 l2 v_choosers v_chooser h
    · replace h := h.2 c14
      refine x_aload_n (pc' := 18) hZ dX4_findRow_17 rfl 0 rfl ?_
      refine g_RX4_16 (pc' := 21) hZ dX4_findRow_18 rfl 0 rfl rfl ?_
      refine x_bipush (v := 21) (pc' := 23) hZ (by decide) dX4_findRow_21 rfl ?_
      have h23 : vp_in 21 25 := by unfold vp_in; decide
      refine x_iald (pc' := 24) hZ h23 dX4_findRow_23 rfl 1 rfl ?_
      refine x_iload_n (pc' := 25) hZ dX4_findRow_24 rfl 2 rfl ?_
      refine k_RX4_90 (pc' := 28) (as := [.int (v_page (ix 21)), .int l2]) (rest := []) (c' := 0) (n' := 0) (wr := [(q_this, cO 4 [.int v_thrown, .ref q_text, .int v_textSize, .int v_place, .int v_people, .ref q_ageing, .ref q_page, .int v_readPeople, .ref q_readAgeing, .ref q_readPage, .ref q_book, .int v_acts, .ref q_kept, .ref q_isKept, .int v_heard, .ref q_heardWho, .ref q_heardIs, .long v_seed, .ref q_tried, .ref q_chooser, .int v_choosers, .ref q_best, .int v_sets, .int v_surely, .ref q_alives]), (q_page, cA E 25 v_page), (q_tried, cA E 25 v_tried), (q_chooser, cA E 6 v_chooser), (q_best, cA E 7 v_best)]) hZ (c_X4_has E (v_page (ix 21)) l2 _ h) dX4_findRow_25 rfl rfl rfl rfl rfl (Nat.le_of_ble_eq_true rfl) (Nat.le_of_ble_eq_true rfl) (Nat.le_of_ble_eq_true rfl) rfl rfl (Nat.le_of_ble_eq_true rfl) (Nat.le_of_ble_eq_true rfl) [] [0, 1, 2, 3, 4] rfl rfl (by decide) (by decide) (by decide) (fun r25 w25 hw => ?_)
      obtain ⟨rfl, h⟩ := hw
      refine x_ws (ws' := [(q_this, cO 4 [.int v_thrown, .ref q_text, .int v_textSize, .int v_place, .int v_people, .ref q_ageing, .ref q_page, .int v_readPeople, .ref q_readAgeing, .ref q_readPage, .ref q_book, .int v_acts, .ref q_kept, .ref q_isKept, .int v_heard, .ref q_heardWho, .ref q_heardIs, .long v_seed, .ref q_tried, .ref q_chooser, .int v_choosers, .ref q_best, .int v_sets, .int v_surely, .ref q_alives]), (q_page, cA E 25 v_page), (q_tried, cA E 25 v_tried), (q_chooser, cA E 6 v_chooser), (q_best, cA E 7 v_best)]) [0, 1, 2, 3, 4] rfl (by decide) ?_
      refine x_if_eq (tgt := 55) (pc' := 31) hZ dX4_findRow_28 (by decide) rfl (fun c28 => ?_) (fun c28 => ?_)
      · replace h := h.1 c28
        obtain ⟨x55, e55⟩ : ∃ y : Int32, y = l2 + 1 := ⟨_, rfl⟩
        replace h := h x55 e55
        refine x_iinc (i := 2) (v := x55) (pc' := 58) (lv' := [(2, .int x55), (0, .ref q_this), (1, .int l1)]) hZ dX4_findRow_55 rfl 2 rfl (by rw [e55]; rfl) (by decide) rfl ?_
        refine x_goto (pc' := 9) hZ dX4_findRow_58 (by decide) ?_
        refine x_lv [1, 2, 0] (lv' := [(0, .ref q_this), (1, .int l1), (2, .int x55)]) rfl ?_
        exact ih l1 x55 v_choosers v_chooser h hK
      · replace h := h.2 c28
        refine x_aload_n (pc' := 32) hZ dX4_findRow_31 rfl 0 rfl ?_
        refine g_RX4_44 (pc' := 35) hZ dX4_findRow_32 rfl 0 rfl rfl ?_
        refine x_aload_n (pc' := 36) hZ dX4_findRow_35 rfl 0 rfl ?_
        refine g_RX4_150 (pc' := 39) hZ dX4_findRow_36 rfl 0 rfl rfl ?_
        refine x_iload_n (pc' := 40) hZ dX4_findRow_39 rfl 2 rfl ?_
        obtain ⟨h40, h⟩ := h
        refine x_iast (pc' := 41) (ws' := [(q_this, cO 4 [.int v_thrown, .ref q_text, .int v_textSize, .int v_place, .int v_people, .ref q_ageing, .ref q_page, .int v_readPeople, .ref q_readAgeing, .ref q_readPage, .ref q_book, .int v_acts, .ref q_kept, .ref q_isKept, .int v_heard, .ref q_heardWho, .ref q_heardIs, .long v_seed, .ref q_tried, .ref q_chooser, .int v_choosers, .ref q_best, .int v_sets, .int v_surely, .ref q_alives]), (q_page, cA E 25 v_page), (q_tried, cA E 25 v_tried), (q_chooser, cA E 6 (upd v_chooser (ix v_choosers) l2)), (q_best, cA E 7 v_best)]) hZ h40 dX4_findRow_40 rfl 3 rfl rfl ?_
        refine x_aload_n (pc' := 42) hZ dX4_findRow_41 rfl 0 rfl ?_
        refine x_dup (pc' := 43) hZ dX4_findRow_42 rfl rfl ?_
        refine g_RX4_150 (pc' := 46) hZ dX4_findRow_43 rfl 0 rfl rfl ?_
        refine x_iconst (v := 1) (pc' := 47) hZ (by decide) dX4_findRow_46 rfl ?_
        refine x_iadd (pc' := 48) hZ dX4_findRow_47 rfl ?_
        refine x_topi (fun x48 e48 => ?_)
        replace h := h x48 e48
        refine s_RX4_150 (pc' := 51) (ws' := [(q_this, cO 4 [.int v_thrown, .ref q_text, .int v_textSize, .int v_place, .int v_people, .ref q_ageing, .ref q_page, .int v_readPeople, .ref q_readAgeing, .ref q_readPage, .ref q_book, .int v_acts, .ref q_kept, .ref q_isKept, .int v_heard, .ref q_heardWho, .ref q_heardIs, .long v_seed, .ref q_tried, .ref q_chooser, .int x48, .ref q_best, .int v_sets, .int v_surely, .ref q_alives]), (q_page, cA E 25 v_page), (q_tried, cA E 25 v_tried), (q_chooser, cA E 6 (upd v_chooser (ix v_choosers) l2)), (q_best, cA E 7 v_best)]) hZ dX4_findRow_48 rfl 0 rfl (Nat.le_of_ble_eq_true rfl) rfl ?_
        refine x_iload_n (pc' := 52) hZ dX4_findRow_51 rfl 1 rfl ?_
        refine x_iconst (v := 3) (pc' := 53) hZ (by decide) dX4_findRow_52 rfl ?_
        refine x_imul (pc' := 54) hZ dX4_findRow_53 rfl ?_
        refine x_topi (fun x54 e54 => ?_)
        replace h := h x54 e54
        refine x_istore_n (i := 1) (pc' := 55) (lv' := [(1, .int x54), (0, .ref q_this), (2, .int l2)]) hZ dX4_findRow_54 rfl rfl (by decide) rfl ?_
        obtain ⟨x55, e55⟩ : ∃ y : Int32, y = l2 + 1 := ⟨_, rfl⟩
        replace h := h x55 e55
        refine x_iinc (i := 2) (v := x55) (pc' := 58) (lv' := [(2, .int x55), (1, .int x54), (0, .ref q_this)]) hZ dX4_findRow_55 rfl 2 rfl (by rw [e55]; rfl) (by decide) rfl ?_
        refine x_goto (pc' := 9) hZ dX4_findRow_58 (by decide) ?_
        refine x_lv [2, 1, 0] (lv' := [(0, .ref q_this), (1, .int x54), (2, .int x55)]) rfl ?_
        exact ih x54 x55 x48 (upd v_chooser (ix v_choosers) l2) h hK
set_option maxHeartbeats 4000000 in
set_option maxRecDepth 100000 in
theorem t_X4_findRow_63 (E : XE) (Z : ZC) (q_this : Nat) (q_text : Nat) (q_ageing : Nat) (q_page : Nat) (q_readAgeing : Nat) (q_readPage : Nat) (q_book : Nat) (q_kept : Nat) (q_isKept : Nat) (q_heardWho : Nat) (q_heardIs : Nat) (q_tried : Nat) (q_chooser : Nat) (q_best : Nat) (q_alives : Nat) (v_thrown : Int32) (v_textSize : Int32) (v_place : Int32) (v_people : Int32) (v_readPeople : Int32) (v_acts : Int32) (v_heard : Int32) (v_seed : Int64) (v_choosers : Int32) (v_sets : Int32) (v_surely : Int32) (v_page : Nat → Int32) (v_tried : Nat → Int32) (v_chooser : Nat → Int32) (l1 : Int32) {K : Int32 → (Nat → Int32) → Prop} (hZ : XOK E Z RX4 cX4_findRow 7 { frames := 3, cells := 0, slots := 0, locals := 75 }) : ∀ (k : Nat) (l2 : Int32) (v_best : (Nat → Int32)), wl (fun rec v => b_X4_findRow_63  K rec v.1 v.2) k (l2, v_best) → (∀ (l2 : Int32) (v_best : (Nat → Int32)), K l2 v_best → XW E Z 0 0 [(q_this, cO 4 [.int v_thrown, .ref q_text, .int v_textSize, .int v_place, .int v_people, .ref q_ageing, .ref q_page, .int v_readPeople, .ref q_readAgeing, .ref q_readPage, .ref q_book, .int v_acts, .ref q_kept, .ref q_isKept, .int v_heard, .ref q_heardWho, .ref q_heardIs, .long v_seed, .ref q_tried, .ref q_chooser, .int v_choosers, .ref q_best, .int v_sets, .int v_surely, .ref q_alives]), (q_page, cA E 25 v_page), (q_tried, cA E 25 v_tried), (q_chooser, cA E 6 v_chooser), (q_best, cA E 7 v_best)] [(0, .ref q_this), (1, .int l1)] [] 83) → XW E Z 0 0 [(q_this, cO 4 [.int v_thrown, .ref q_text, .int v_textSize, .int v_place, .int v_people, .ref q_ageing, .ref q_page, .int v_readPeople, .ref q_readAgeing, .ref q_readPage, .ref q_book, .int v_acts, .ref q_kept, .ref q_isKept, .int v_heard, .ref q_heardWho, .ref q_heardIs, .long v_seed, .ref q_tried, .ref q_chooser, .int v_choosers, .ref q_best, .int v_sets, .int v_surely, .ref q_alives]), (q_page, cA E 25 v_page), (q_tried, cA E 25 v_tried), (q_chooser, cA E 6 v_chooser), (q_best, cA E 7 v_best)] [(0, .ref q_this), (1, .int l1), (2, .int l2)] [] 63 := by
  intro k
  induction k with
  | zero =>
    intro l2 v_best h
    exact h.elim
  | succ k ih =>
    intro l2 v_best h hK
    replace h := wl_succ h
    try dsimp only at h
    unfold b_X4_findRow_63 at h
    refine x_iload_n (pc' := 64) hZ dX4_findRow_63 rfl 2 rfl ?_
    refine x_bipush (v := 6) (pc' := 66) hZ (by decide) dX4_findRow_64 rfl ?_
    refine x_icmp_gt (tgt := 83) (pc' := 69) hZ dX4_findRow_66 (by decide) rfl (fun c66 => ?_) (fun c66 => ?_)
    · replace h := h.1 c66
      refine x_lv [0, 1] (lv' := [(0, .ref q_this), (1, .int l1)]) rfl ?_
      exact hK l2 v_best h
    · replace h := h.2 c66
      refine x_aload_n (pc' := 70) hZ dX4_findRow_69 rfl 0 rfl ?_
      refine g_RX4_47 (pc' := 73) hZ dX4_findRow_70 rfl 0 rfl rfl ?_
      refine x_iload_n (pc' := 74) hZ dX4_findRow_73 rfl 2 rfl ?_
      refine x_bipush (v := (-9)) (pc' := 76) hZ (by decide) dX4_findRow_74 rfl ?_
      obtain ⟨h76, h⟩ := h
      refine x_iast (pc' := 77) (ws' := [(q_this, cO 4 [.int v_thrown, .ref q_text, .int v_textSize, .int v_place, .int v_people, .ref q_ageing, .ref q_page, .int v_readPeople, .ref q_readAgeing, .ref q_readPage, .ref q_book, .int v_acts, .ref q_kept, .ref q_isKept, .int v_heard, .ref q_heardWho, .ref q_heardIs, .long v_seed, .ref q_tried, .ref q_chooser, .int v_choosers, .ref q_best, .int v_sets, .int v_surely, .ref q_alives]), (q_page, cA E 25 v_page), (q_tried, cA E 25 v_tried), (q_chooser, cA E 6 v_chooser), (q_best, cA E 7 (upd v_best (ix l2) (-9)))]) hZ h76 dX4_findRow_76 rfl 4 rfl rfl ?_
      obtain ⟨x77, e77⟩ : ∃ y : Int32, y = l2 + 1 := ⟨_, rfl⟩
      replace h := h x77 e77
      refine x_iinc (i := 2) (v := x77) (pc' := 80) (lv' := [(2, .int x77), (0, .ref q_this), (1, .int l1)]) hZ dX4_findRow_77 rfl 2 rfl (by rw [e77]; rfl) (by decide) rfl ?_
      refine x_goto (pc' := 63) hZ dX4_findRow_80 (by decide) ?_
      refine x_lv [1, 2, 0] (lv' := [(0, .ref q_this), (1, .int l1), (2, .int x77)]) rfl ?_
      exact ih x77 (upd v_best (ix l2) (-9)) h hK
set_option maxHeartbeats 4000000 in
set_option maxRecDepth 100000 in
theorem t_X4_findRow_106 (E : XE) (Z : ZC) (q_this : Nat) (q_text : Nat) (q_ageing : Nat) (q_page : Nat) (q_readAgeing : Nat) (q_readPage : Nat) (q_book : Nat) (q_kept : Nat) (q_isKept : Nat) (q_heardWho : Nat) (q_heardIs : Nat) (q_tried : Nat) (q_chooser : Nat) (q_best : Nat) (q_alives : Nat) (v_thrown : Int32) (v_textSize : Int32) (v_place : Int32) (v_people : Int32) (v_readPeople : Int32) (v_acts : Int32) (v_heard : Int32) (v_seed : Int64) (v_choosers : Int32) (v_sets : Int32) (v_surely : Int32) (v_page : Nat → Int32) (v_chooser : Nat → Int32) (l1 : Int32) (l2 : Int32) {K : Int32 → Int32 → Int32 → Int32 → (Nat → Int32) → (Nat → Int32) → Prop} (hZ : XOK E Z RX4 cX4_findRow 7 { frames := 3, cells := 0, slots := 0, locals := 75 }) : ∀ (k : Nat) (l3 : Int32) (l4 : Int32) (l5 : Int32) (l6 : Int32) (v_tried : (Nat → Int32)) (v_best : (Nat → Int32)), wl (fun rec v => b_X4_findRow_106 l2 v_people v_choosers v_page v_chooser K rec v.1 v.2.1 v.2.2.1 v.2.2.2.1 v.2.2.2.2.1 v.2.2.2.2.2) k (l3, l4, l5, l6, v_tried, v_best) → (∀ (l3 : Int32) (l4 : Int32) (l5 : Int32) (l6 : Int32) (v_tried : (Nat → Int32)) (v_best : (Nat → Int32)), K l3 l4 l5 l6 v_tried v_best → XW E Z 0 0 [(q_this, cO 4 [.int v_thrown, .ref q_text, .int v_textSize, .int v_place, .int v_people, .ref q_ageing, .ref q_page, .int v_readPeople, .ref q_readAgeing, .ref q_readPage, .ref q_book, .int v_acts, .ref q_kept, .ref q_isKept, .int v_heard, .ref q_heardWho, .ref q_heardIs, .long v_seed, .ref q_tried, .ref q_chooser, .int v_choosers, .ref q_best, .int v_sets, .int v_surely, .ref q_alives]), (q_page, cA E 25 v_page), (q_tried, cA E 25 v_tried), (q_chooser, cA E 6 v_chooser), (q_best, cA E 7 v_best)] [(0, .ref q_this), (1, .int l1), (2, .int l2)] [] 224) → XW E Z 0 0 [(q_this, cO 4 [.int v_thrown, .ref q_text, .int v_textSize, .int v_place, .int v_people, .ref q_ageing, .ref q_page, .int v_readPeople, .ref q_readAgeing, .ref q_readPage, .ref q_book, .int v_acts, .ref q_kept, .ref q_isKept, .int v_heard, .ref q_heardWho, .ref q_heardIs, .long v_seed, .ref q_tried, .ref q_chooser, .int v_choosers, .ref q_best, .int v_sets, .int v_surely, .ref q_alives]), (q_page, cA E 25 v_page), (q_tried, cA E 25 v_tried), (q_chooser, cA E 6 v_chooser), (q_best, cA E 7 v_best)] [(0, .ref q_this), (1, .int l1), (2, .int l2), (3, .int l3), (4, .int l4), (5, .int l5), (6, .int l6)] [] 106 := by
  intro k
  induction k with
  | zero =>
    intro l3 l4 l5 l6 v_tried v_best h
    exact h.elim
  | succ k ih =>
    intro l3 l4 l5 l6 v_tried v_best h hK
    replace h := wl_succ h
    try dsimp only at h
    unfold b_X4_findRow_106 at h
    refine x_iload (pc' := 108) hZ dX4_findRow_106 rfl 6 rfl ?_
    refine x_if_lt (tgt := 224) (pc' := 111) hZ dX4_findRow_108 (by decide) rfl (fun c108 => ?_) (fun c108 => ?_)
    · replace h := h.1 c108
      refine x_lv [0, 1, 2] (lv' := [(0, .ref q_this), (1, .int l1), (2, .int l2)]) rfl ?_
      exact hK l3 l4 l5 l6 v_tried v_best h
    · replace h := h.2 c108
      refine x_iload (pc' := 113) hZ dX4_findRow_111 rfl 5 rfl ?_
      refine x_if_eq (tgt := 224) (pc' := 116) hZ dX4_findRow_113 (by decide) rfl (fun c113 => ?_) (fun c113 => ?_)
      · replace h := h.1 c113
        refine x_lv [0, 1, 2] (lv' := [(0, .ref q_this), (1, .int l1), (2, .int l2)]) rfl ?_
        exact hK l3 l4 l5 l6 v_tried v_best h
      · replace h := h.2 c113
        refine x_aload_n (pc' := 117) hZ dX4_findRow_116 rfl 0 rfl ?_
        refine g_RX4_47 (pc' := 120) hZ dX4_findRow_117 rfl 0 rfl rfl ?_
        refine x_iload (pc' := 122) hZ dX4_findRow_120 rfl 6 rfl ?_
        refine x_aload_n (pc' := 123) hZ dX4_findRow_122 rfl 0 rfl ?_
        refine g_RX4_47 (pc' := 126) hZ dX4_findRow_123 rfl 0 rfl rfl ?_
        refine x_iload (pc' := 128) hZ dX4_findRow_126 rfl 6 rfl ?_
        obtain ⟨h128, h⟩ := h
        refine x_iald (pc' := 129) hZ h128 dX4_findRow_128 rfl 4 rfl ?_
        refine x_bipush (v := (-9)) (pc' := 131) hZ (by decide) dX4_findRow_129 rfl ?_
        refine x_icmp_eq (tgt := 157) (pc' := 134) hZ dX4_findRow_131 (by decide) rfl (fun c131 => ?_) (fun c131 => ?_)
        · replace h := h.1 c131
          refine x_iload_n (pc' := 158) hZ dX4_findRow_157 rfl 3 rfl ?_
          refine x_goto (pc' := 168) hZ dX4_findRow_158 (by decide) ?_
          obtain ⟨h168, h⟩ := h
          refine x_iast (pc' := 169) (ws' := [(q_this, cO 4 [.int v_thrown, .ref q_text, .int v_textSize, .int v_place, .int v_people, .ref q_ageing, .ref q_page, .int v_readPeople, .ref q_readAgeing, .ref q_readPage, .ref q_book, .int v_acts, .ref q_kept, .ref q_isKept, .int v_heard, .ref q_heardWho, .ref q_heardIs, .long v_seed, .ref q_tried, .ref q_chooser, .int v_choosers, .ref q_best, .int v_sets, .int v_surely, .ref q_alives]), (q_page, cA E 25 v_page), (q_tried, cA E 25 v_tried), (q_chooser, cA E 6 v_chooser), (q_best, cA E 7 (upd v_best (ix l6) l3))]) hZ h168 dX4_findRow_168 rfl 4 rfl rfl ?_
          refine x_iload (pc' := 171) hZ dX4_findRow_169 rfl 4 rfl ?_
          refine x_iconst (v := 3) (pc' := 172) hZ (by decide) dX4_findRow_171 rfl ?_
          refine x_imul (pc' := 173) hZ dX4_findRow_172 rfl ?_
          refine x_topi (fun x173 e173 => ?_)
          replace h := h x173 e173
          refine x_istore (i := 4) (pc' := 175) (lv' := [(4, .int x173), (0, .ref q_this), (1, .int l1), (2, .int l2), (3, .int l3), (5, .int l5), (6, .int l6)]) hZ dX4_findRow_173 rfl (by decide) rfl ?_
          refine x_iload_n (pc' := 176) hZ dX4_findRow_175 rfl 3 rfl ?_
          refine x_iconst (v := 1) (pc' := 177) hZ (by decide) dX4_findRow_176 rfl ?_
          refine x_iadd (pc' := 178) hZ dX4_findRow_177 rfl ?_
          refine x_iload (pc' := 180) hZ dX4_findRow_178 rfl 0 rfl ?_
          obtain ⟨h180, h⟩ := h
          refine x_irem (pc' := 181) hZ h180 dX4_findRow_180 rfl ?_
          refine x_if_ne (tgt := 188) (pc' := 184) hZ dX4_findRow_181 (by decide) rfl (fun c181 => ?_) (fun c181 => ?_)
          · replace h := h.1 c181
            refine x_iconst (v := 0) (pc' := 189) hZ (by decide) dX4_findRow_188 rfl ?_
            refine x_istore (i := 5) (pc' := 191) (lv' := [(5, .int 0), (4, .int x173), (0, .ref q_this), (1, .int l1), (2, .int l2), (3, .int l3), (6, .int l6)]) hZ dX4_findRow_189 rfl (by decide) rfl ?_
            refine x_iload (pc' := 193) hZ dX4_findRow_191 rfl 0 rfl ?_
            refine x_if_eq (tgt := 218) (pc' := 196) hZ dX4_findRow_193 (by decide) rfl (fun c193 => ?_) (fun c193 => ?_)
            · obtain ⟨x218, e218⟩ : ∃ y : Int32, y = l6 + (-1) := ⟨_, rfl⟩
              replace h := h x218 e218
              refine x_iinc (i := 6) (v := x218) (pc' := 221) (lv' := [(6, .int x218), (5, .int 0), (4, .int x173), (0, .ref q_this), (1, .int l1), (2, .int l2), (3, .int l3)]) hZ dX4_findRow_218 rfl 6 rfl (by rw [e218]; rfl) (by decide) rfl ?_
              refine x_goto (pc' := 106) hZ dX4_findRow_221 (by decide) ?_
              refine x_lv [3, 4, 5, 6, 2, 1, 0] (lv' := [(0, .ref q_this), (1, .int l1), (2, .int l2), (3, .int l3), (4, .int x173), (5, .int 0), (6, .int x218)]) rfl ?_
              exact ih l3 x173 0 x218 v_tried (upd v_best (ix l6) l3) h hK
            · exact absurd c193 (by decide)
          · replace h := h.2 c181
            refine x_iconst (v := 1) (pc' := 185) hZ (by decide) dX4_findRow_184 rfl ?_
            refine x_goto (pc' := 189) hZ dX4_findRow_185 (by decide) ?_
            refine x_istore (i := 5) (pc' := 191) (lv' := [(5, .int 1), (4, .int x173), (0, .ref q_this), (1, .int l1), (2, .int l2), (3, .int l3), (6, .int l6)]) hZ dX4_findRow_189 rfl (by decide) rfl ?_
            refine x_iload (pc' := 193) hZ dX4_findRow_191 rfl 0 rfl ?_
            refine x_if_eq (tgt := 218) (pc' := 196) hZ dX4_findRow_193 (by decide) rfl (fun c193 => ?_) (fun c193 => ?_)
            · exact absurd c193 (by decide)
            · refine x_iload (pc' := 198) hZ dX4_findRow_196 rfl 6 rfl ?_
              refine x_if_le (tgt := 218) (pc' := 201) hZ dX4_findRow_198 (by decide) rfl (fun c198 => ?_) (fun c198 => ?_)
              · replace h := h.1 c198
                obtain ⟨x218, e218⟩ : ∃ y : Int32, y = l6 + (-1) := ⟨_, rfl⟩
                replace h := h x218 e218
                refine x_iinc (i := 6) (v := x218) (pc' := 221) (lv' := [(6, .int x218), (5, .int 1), (4, .int x173), (0, .ref q_this), (1, .int l1), (2, .int l2), (3, .int l3)]) hZ dX4_findRow_218 rfl 6 rfl (by rw [e218]; rfl) (by decide) rfl ?_
                refine x_goto (pc' := 106) hZ dX4_findRow_221 (by decide) ?_
                refine x_lv [3, 4, 5, 6, 2, 1, 0] (lv' := [(0, .ref q_this), (1, .int l1), (2, .int l2), (3, .int l3), (4, .int x173), (5, .int 1), (6, .int x218)]) rfl ?_
                exact ih l3 x173 1 x218 v_tried (upd v_best (ix l6) l3) h hK
              · replace h := h.2 c198
                refine x_aload_n (pc' := 202) hZ dX4_findRow_201 rfl 2 rfl ?_
                refine g_RX4_47 (pc' := 205) hZ dX4_findRow_202 rfl 0 rfl rfl ?_
                refine x_iload (pc' := 207) hZ dX4_findRow_205 rfl 6 rfl ?_
                obtain ⟨h207, h⟩ := h
                refine x_iald (pc' := 208) hZ h207 dX4_findRow_207 rfl 4 rfl ?_
                refine x_topi (fun x208 e208 => ?_)
                replace h := h x208 e208
                refine x_istore_n (i := 3) (pc' := 209) (lv' := [(3, .int x208), (5, .int 1), (4, .int x173), (0, .ref q_this), (1, .int l1), (2, .int l2), (6, .int l6)]) hZ dX4_findRow_208 rfl rfl (by decide) rfl ?_
                refine x_aload_n (pc' := 210) hZ dX4_findRow_209 rfl 3 rfl ?_
                refine g_RX4_47 (pc' := 213) hZ dX4_findRow_210 rfl 0 rfl rfl ?_
                refine x_iload (pc' := 215) hZ dX4_findRow_213 rfl 6 rfl ?_
                refine x_bipush (v := (-9)) (pc' := 217) hZ (by decide) dX4_findRow_215 rfl ?_
                obtain ⟨h217, h⟩ := h
                refine x_iast (pc' := 218) (ws' := [(q_this, cO 4 [.int v_thrown, .ref q_text, .int v_textSize, .int v_place, .int v_people, .ref q_ageing, .ref q_page, .int v_readPeople, .ref q_readAgeing, .ref q_readPage, .ref q_book, .int v_acts, .ref q_kept, .ref q_isKept, .int v_heard, .ref q_heardWho, .ref q_heardIs, .long v_seed, .ref q_tried, .ref q_chooser, .int v_choosers, .ref q_best, .int v_sets, .int v_surely, .ref q_alives]), (q_page, cA E 25 v_page), (q_tried, cA E 25 v_tried), (q_chooser, cA E 6 v_chooser), (q_best, cA E 7 (upd (upd v_best (ix l6) l3) (ix l6) (-9)))]) hZ h217 dX4_findRow_217 rfl 4 rfl rfl ?_
                obtain ⟨x218, e218⟩ : ∃ y : Int32, y = l6 + (-1) := ⟨_, rfl⟩
                replace h := h x218 e218
                refine x_iinc (i := 6) (v := x218) (pc' := 221) (lv' := [(6, .int x218), (3, .int x208), (5, .int 1), (4, .int x173), (0, .ref q_this), (1, .int l1), (2, .int l2)]) hZ dX4_findRow_218 rfl 6 rfl (by rw [e218]; rfl) (by decide) rfl ?_
                refine x_goto (pc' := 106) hZ dX4_findRow_221 (by decide) ?_
                refine x_lv [4, 5, 6, 1, 3, 2, 0] (lv' := [(0, .ref q_this), (1, .int l1), (2, .int l2), (3, .int x208), (4, .int x173), (5, .int 1), (6, .int x218)]) rfl ?_
                exact ih x208 x173 1 x218 v_tried (upd (upd v_best (ix l6) l3) (ix l6) (-9)) h hK
        · replace h := h.2 c131
          refine x_aload_n (pc' := 135) hZ dX4_findRow_134 rfl 0 rfl ?_
          refine x_iload_n (pc' := 136) hZ dX4_findRow_135 rfl 3 rfl ?_
          refine x_iload (pc' := 138) hZ dX4_findRow_136 rfl 6 rfl ?_
          refine k_RX4_156 (pc' := 141) (q0 := 0) (as := [.int l3, .int l6]) (rest := [.int l6, .ref q_best]) (c' := 0) (n' := 0) (wr := [(q_best, cA E 7 v_best)]) hZ (c_X4_worthIn E q_this q_text q_ageing q_page q_readAgeing q_readPage q_book q_kept q_isKept q_heardWho q_heardIs q_tried q_chooser q_best q_alives v_thrown v_textSize v_place v_people v_readPeople v_acts v_heard v_seed v_choosers v_sets v_surely v_page v_tried v_chooser l3 l6 _ h) rfl dX4_findRow_138 rfl rfl rfl rfl rfl (Nat.le_of_ble_eq_true rfl) (Nat.le_of_ble_eq_true rfl) (Nat.le_of_ble_eq_true rfl) rfl rfl (Nat.le_of_ble_eq_true rfl) (Nat.le_of_ble_eq_true rfl) [0, 1, 2, 3] [4] rfl rfl (by decide) (by decide) (by decide) (fun r138 w138 hw => ?_)
          obtain ⟨a138_0, rfl, h⟩ := hw
          refine x_ws (ws' := [(q_this, cO 4 [.int v_thrown, .ref q_text, .int v_textSize, .int v_place, .int v_people, .ref q_ageing, .ref q_page, .int v_readPeople, .ref q_readAgeing, .ref q_readPage, .ref q_book, .int v_acts, .ref q_kept, .ref q_isKept, .int v_heard, .ref q_heardWho, .ref q_heardIs, .long v_seed, .ref q_tried, .ref q_chooser, .int v_choosers, .ref q_best, .int v_sets, .int v_surely, .ref q_alives]), (q_page, cA E 25 v_page), (q_tried, cA E 25 a138_0), (q_chooser, cA E 6 v_chooser), (q_best, cA E 7 v_best)]) [1, 2, 3, 4, 0] rfl (by decide) ?_
          refine x_aload_n (pc' := 142) hZ dX4_findRow_141 rfl 0 rfl ?_
          refine x_aload_n (pc' := 143) hZ dX4_findRow_142 rfl 0 rfl ?_
          refine g_RX4_47 (pc' := 146) hZ dX4_findRow_143 rfl 0 rfl rfl ?_
          refine x_iload (pc' := 148) hZ dX4_findRow_146 rfl 6 rfl ?_
          obtain ⟨h148, h⟩ := h
          refine x_iald (pc' := 149) hZ h148 dX4_findRow_148 rfl 4 rfl ?_
          refine x_iload (pc' := 151) hZ dX4_findRow_149 rfl 6 rfl ?_
          refine k_RX4_156 (pc' := 154) (q0 := 0) (as := [.int (v_best (ix l6)), .int l6]) (rest := [.int r138, .int l6, .ref q_best]) (c' := 0) (n' := 0) (wr := [(q_best, cA E 7 v_best)]) hZ (c_X4_worthIn E q_this q_text q_ageing q_page q_readAgeing q_readPage q_book q_kept q_isKept q_heardWho q_heardIs q_tried q_chooser q_best q_alives v_thrown v_textSize v_place v_people v_readPeople v_acts v_heard v_seed v_choosers v_sets v_surely v_page a138_0 v_chooser (v_best (ix l6)) l6 _ h) rfl dX4_findRow_151 rfl rfl rfl rfl rfl (Nat.le_of_ble_eq_true rfl) (Nat.le_of_ble_eq_true rfl) (Nat.le_of_ble_eq_true rfl) rfl rfl (Nat.le_of_ble_eq_true rfl) (Nat.le_of_ble_eq_true rfl) [0, 1, 2, 3] [4] rfl rfl (by decide) (by decide) (by decide) (fun r151 w151 hw => ?_)
          obtain ⟨a151_0, rfl, h⟩ := hw
          refine x_ws (ws' := [(q_this, cO 4 [.int v_thrown, .ref q_text, .int v_textSize, .int v_place, .int v_people, .ref q_ageing, .ref q_page, .int v_readPeople, .ref q_readAgeing, .ref q_readPage, .ref q_book, .int v_acts, .ref q_kept, .ref q_isKept, .int v_heard, .ref q_heardWho, .ref q_heardIs, .long v_seed, .ref q_tried, .ref q_chooser, .int v_choosers, .ref q_best, .int v_sets, .int v_surely, .ref q_alives]), (q_page, cA E 25 v_page), (q_tried, cA E 25 a151_0), (q_chooser, cA E 6 v_chooser), (q_best, cA E 7 v_best)]) [1, 2, 3, 4, 0] rfl (by decide) ?_
          refine x_icmp_le (tgt := 161) (pc' := 157) hZ dX4_findRow_154 (by decide) rfl (fun c154 => ?_) (fun c154 => ?_)
          · replace h := h.1 c154
            refine x_aload_n (pc' := 162) hZ dX4_findRow_161 rfl 0 rfl ?_
            refine g_RX4_47 (pc' := 165) hZ dX4_findRow_162 rfl 0 rfl rfl ?_
            refine x_iload (pc' := 167) hZ dX4_findRow_165 rfl 6 rfl ?_
            obtain ⟨h167, h⟩ := h
            refine x_iald (pc' := 168) hZ h167 dX4_findRow_167 rfl 4 rfl ?_
            refine x_topi (fun x168 e168 => ?_)
            replace h := h x168 e168
            obtain ⟨h168, h⟩ := h
            refine x_iast (pc' := 169) (ws' := [(q_this, cO 4 [.int v_thrown, .ref q_text, .int v_textSize, .int v_place, .int v_people, .ref q_ageing, .ref q_page, .int v_readPeople, .ref q_readAgeing, .ref q_readPage, .ref q_book, .int v_acts, .ref q_kept, .ref q_isKept, .int v_heard, .ref q_heardWho, .ref q_heardIs, .long v_seed, .ref q_tried, .ref q_chooser, .int v_choosers, .ref q_best, .int v_sets, .int v_surely, .ref q_alives]), (q_page, cA E 25 v_page), (q_tried, cA E 25 a151_0), (q_chooser, cA E 6 v_chooser), (q_best, cA E 7 (upd v_best (ix l6) x168))]) hZ h168 dX4_findRow_168 rfl 4 rfl rfl ?_
            refine x_iload (pc' := 171) hZ dX4_findRow_169 rfl 4 rfl ?_
            refine x_iconst (v := 3) (pc' := 172) hZ (by decide) dX4_findRow_171 rfl ?_
            refine x_imul (pc' := 173) hZ dX4_findRow_172 rfl ?_
            refine x_topi (fun x173 e173 => ?_)
            replace h := h x173 e173
            refine x_istore (i := 4) (pc' := 175) (lv' := [(4, .int x173), (0, .ref q_this), (1, .int l1), (2, .int l2), (3, .int l3), (5, .int l5), (6, .int l6)]) hZ dX4_findRow_173 rfl (by decide) rfl ?_
            refine x_iload_n (pc' := 176) hZ dX4_findRow_175 rfl 3 rfl ?_
            refine x_iconst (v := 1) (pc' := 177) hZ (by decide) dX4_findRow_176 rfl ?_
            refine x_iadd (pc' := 178) hZ dX4_findRow_177 rfl ?_
            refine x_iload (pc' := 180) hZ dX4_findRow_178 rfl 0 rfl ?_
            obtain ⟨h180, h⟩ := h
            refine x_irem (pc' := 181) hZ h180 dX4_findRow_180 rfl ?_
            refine x_if_ne (tgt := 188) (pc' := 184) hZ dX4_findRow_181 (by decide) rfl (fun c181 => ?_) (fun c181 => ?_)
            · replace h := h.1 c181
              refine x_iconst (v := 0) (pc' := 189) hZ (by decide) dX4_findRow_188 rfl ?_
              refine x_istore (i := 5) (pc' := 191) (lv' := [(5, .int 0), (4, .int x173), (0, .ref q_this), (1, .int l1), (2, .int l2), (3, .int l3), (6, .int l6)]) hZ dX4_findRow_189 rfl (by decide) rfl ?_
              refine x_iload (pc' := 193) hZ dX4_findRow_191 rfl 0 rfl ?_
              refine x_if_eq (tgt := 218) (pc' := 196) hZ dX4_findRow_193 (by decide) rfl (fun c193 => ?_) (fun c193 => ?_)
              · obtain ⟨x218, e218⟩ : ∃ y : Int32, y = l6 + (-1) := ⟨_, rfl⟩
                replace h := h x218 e218
                refine x_iinc (i := 6) (v := x218) (pc' := 221) (lv' := [(6, .int x218), (5, .int 0), (4, .int x173), (0, .ref q_this), (1, .int l1), (2, .int l2), (3, .int l3)]) hZ dX4_findRow_218 rfl 6 rfl (by rw [e218]; rfl) (by decide) rfl ?_
                refine x_goto (pc' := 106) hZ dX4_findRow_221 (by decide) ?_
                refine x_lv [3, 4, 5, 6, 2, 1, 0] (lv' := [(0, .ref q_this), (1, .int l1), (2, .int l2), (3, .int l3), (4, .int x173), (5, .int 0), (6, .int x218)]) rfl ?_
                exact ih l3 x173 0 x218 a151_0 (upd v_best (ix l6) x168) h hK
              · exact absurd c193 (by decide)
            · replace h := h.2 c181
              refine x_iconst (v := 1) (pc' := 185) hZ (by decide) dX4_findRow_184 rfl ?_
              refine x_goto (pc' := 189) hZ dX4_findRow_185 (by decide) ?_
              refine x_istore (i := 5) (pc' := 191) (lv' := [(5, .int 1), (4, .int x173), (0, .ref q_this), (1, .int l1), (2, .int l2), (3, .int l3), (6, .int l6)]) hZ dX4_findRow_189 rfl (by decide) rfl ?_
              refine x_iload (pc' := 193) hZ dX4_findRow_191 rfl 0 rfl ?_
              refine x_if_eq (tgt := 218) (pc' := 196) hZ dX4_findRow_193 (by decide) rfl (fun c193 => ?_) (fun c193 => ?_)
              · exact absurd c193 (by decide)
              · refine x_iload (pc' := 198) hZ dX4_findRow_196 rfl 6 rfl ?_
                refine x_if_le (tgt := 218) (pc' := 201) hZ dX4_findRow_198 (by decide) rfl (fun c198 => ?_) (fun c198 => ?_)
                · replace h := h.1 c198
                  obtain ⟨x218, e218⟩ : ∃ y : Int32, y = l6 + (-1) := ⟨_, rfl⟩
                  replace h := h x218 e218
                  refine x_iinc (i := 6) (v := x218) (pc' := 221) (lv' := [(6, .int x218), (5, .int 1), (4, .int x173), (0, .ref q_this), (1, .int l1), (2, .int l2), (3, .int l3)]) hZ dX4_findRow_218 rfl 6 rfl (by rw [e218]; rfl) (by decide) rfl ?_
                  refine x_goto (pc' := 106) hZ dX4_findRow_221 (by decide) ?_
                  refine x_lv [3, 4, 5, 6, 2, 1, 0] (lv' := [(0, .ref q_this), (1, .int l1), (2, .int l2), (3, .int l3), (4, .int x173), (5, .int 1), (6, .int x218)]) rfl ?_
                  exact ih l3 x173 1 x218 a151_0 (upd v_best (ix l6) x168) h hK
                · replace h := h.2 c198
                  refine x_aload_n (pc' := 202) hZ dX4_findRow_201 rfl 2 rfl ?_
                  refine g_RX4_47 (pc' := 205) hZ dX4_findRow_202 rfl 0 rfl rfl ?_
                  refine x_iload (pc' := 207) hZ dX4_findRow_205 rfl 6 rfl ?_
                  obtain ⟨h207, h⟩ := h
                  refine x_iald (pc' := 208) hZ h207 dX4_findRow_207 rfl 4 rfl ?_
                  refine x_topi (fun x208 e208 => ?_)
                  replace h := h x208 e208
                  refine x_istore_n (i := 3) (pc' := 209) (lv' := [(3, .int x208), (5, .int 1), (4, .int x173), (0, .ref q_this), (1, .int l1), (2, .int l2), (6, .int l6)]) hZ dX4_findRow_208 rfl rfl (by decide) rfl ?_
                  refine x_aload_n (pc' := 210) hZ dX4_findRow_209 rfl 3 rfl ?_
                  refine g_RX4_47 (pc' := 213) hZ dX4_findRow_210 rfl 0 rfl rfl ?_
                  refine x_iload (pc' := 215) hZ dX4_findRow_213 rfl 6 rfl ?_
                  refine x_bipush (v := (-9)) (pc' := 217) hZ (by decide) dX4_findRow_215 rfl ?_
                  obtain ⟨h217, h⟩ := h
                  refine x_iast (pc' := 218) (ws' := [(q_this, cO 4 [.int v_thrown, .ref q_text, .int v_textSize, .int v_place, .int v_people, .ref q_ageing, .ref q_page, .int v_readPeople, .ref q_readAgeing, .ref q_readPage, .ref q_book, .int v_acts, .ref q_kept, .ref q_isKept, .int v_heard, .ref q_heardWho, .ref q_heardIs, .long v_seed, .ref q_tried, .ref q_chooser, .int v_choosers, .ref q_best, .int v_sets, .int v_surely, .ref q_alives]), (q_page, cA E 25 v_page), (q_tried, cA E 25 a151_0), (q_chooser, cA E 6 v_chooser), (q_best, cA E 7 (upd (upd v_best (ix l6) x168) (ix l6) (-9)))]) hZ h217 dX4_findRow_217 rfl 4 rfl rfl ?_
                  obtain ⟨x218, e218⟩ : ∃ y : Int32, y = l6 + (-1) := ⟨_, rfl⟩
                  replace h := h x218 e218
                  refine x_iinc (i := 6) (v := x218) (pc' := 221) (lv' := [(6, .int x218), (3, .int x208), (5, .int 1), (4, .int x173), (0, .ref q_this), (1, .int l1), (2, .int l2)]) hZ dX4_findRow_218 rfl 6 rfl (by rw [e218]; rfl) (by decide) rfl ?_
                  refine x_goto (pc' := 106) hZ dX4_findRow_221 (by decide) ?_
                  refine x_lv [4, 5, 6, 1, 3, 2, 0] (lv' := [(0, .ref q_this), (1, .int l1), (2, .int l2), (3, .int x208), (4, .int x173), (5, .int 1), (6, .int x218)]) rfl ?_
                  exact ih x208 x173 1 x218 a151_0 (upd (upd v_best (ix l6) x168) (ix l6) (-9)) h hK
          · replace h := h.2 c154
            refine x_iload_n (pc' := 158) hZ dX4_findRow_157 rfl 3 rfl ?_
            refine x_goto (pc' := 168) hZ dX4_findRow_158 (by decide) ?_
            obtain ⟨h168, h⟩ := h
            refine x_iast (pc' := 169) (ws' := [(q_this, cO 4 [.int v_thrown, .ref q_text, .int v_textSize, .int v_place, .int v_people, .ref q_ageing, .ref q_page, .int v_readPeople, .ref q_readAgeing, .ref q_readPage, .ref q_book, .int v_acts, .ref q_kept, .ref q_isKept, .int v_heard, .ref q_heardWho, .ref q_heardIs, .long v_seed, .ref q_tried, .ref q_chooser, .int v_choosers, .ref q_best, .int v_sets, .int v_surely, .ref q_alives]), (q_page, cA E 25 v_page), (q_tried, cA E 25 a151_0), (q_chooser, cA E 6 v_chooser), (q_best, cA E 7 (upd v_best (ix l6) l3))]) hZ h168 dX4_findRow_168 rfl 4 rfl rfl ?_
            refine x_iload (pc' := 171) hZ dX4_findRow_169 rfl 4 rfl ?_
            refine x_iconst (v := 3) (pc' := 172) hZ (by decide) dX4_findRow_171 rfl ?_
            refine x_imul (pc' := 173) hZ dX4_findRow_172 rfl ?_
            refine x_topi (fun x173 e173 => ?_)
            replace h := h x173 e173
            refine x_istore (i := 4) (pc' := 175) (lv' := [(4, .int x173), (0, .ref q_this), (1, .int l1), (2, .int l2), (3, .int l3), (5, .int l5), (6, .int l6)]) hZ dX4_findRow_173 rfl (by decide) rfl ?_
            refine x_iload_n (pc' := 176) hZ dX4_findRow_175 rfl 3 rfl ?_
            refine x_iconst (v := 1) (pc' := 177) hZ (by decide) dX4_findRow_176 rfl ?_
            refine x_iadd (pc' := 178) hZ dX4_findRow_177 rfl ?_
            refine x_iload (pc' := 180) hZ dX4_findRow_178 rfl 0 rfl ?_
            obtain ⟨h180, h⟩ := h
            refine x_irem (pc' := 181) hZ h180 dX4_findRow_180 rfl ?_
            refine x_if_ne (tgt := 188) (pc' := 184) hZ dX4_findRow_181 (by decide) rfl (fun c181 => ?_) (fun c181 => ?_)
            · replace h := h.1 c181
              refine x_iconst (v := 0) (pc' := 189) hZ (by decide) dX4_findRow_188 rfl ?_
              refine x_istore (i := 5) (pc' := 191) (lv' := [(5, .int 0), (4, .int x173), (0, .ref q_this), (1, .int l1), (2, .int l2), (3, .int l3), (6, .int l6)]) hZ dX4_findRow_189 rfl (by decide) rfl ?_
              refine x_iload (pc' := 193) hZ dX4_findRow_191 rfl 0 rfl ?_
              refine x_if_eq (tgt := 218) (pc' := 196) hZ dX4_findRow_193 (by decide) rfl (fun c193 => ?_) (fun c193 => ?_)
              · obtain ⟨x218, e218⟩ : ∃ y : Int32, y = l6 + (-1) := ⟨_, rfl⟩
                replace h := h x218 e218
                refine x_iinc (i := 6) (v := x218) (pc' := 221) (lv' := [(6, .int x218), (5, .int 0), (4, .int x173), (0, .ref q_this), (1, .int l1), (2, .int l2), (3, .int l3)]) hZ dX4_findRow_218 rfl 6 rfl (by rw [e218]; rfl) (by decide) rfl ?_
                refine x_goto (pc' := 106) hZ dX4_findRow_221 (by decide) ?_
                refine x_lv [3, 4, 5, 6, 2, 1, 0] (lv' := [(0, .ref q_this), (1, .int l1), (2, .int l2), (3, .int l3), (4, .int x173), (5, .int 0), (6, .int x218)]) rfl ?_
                exact ih l3 x173 0 x218 a151_0 (upd v_best (ix l6) l3) h hK
              · exact absurd c193 (by decide)
            · replace h := h.2 c181
              refine x_iconst (v := 1) (pc' := 185) hZ (by decide) dX4_findRow_184 rfl ?_
              refine x_goto (pc' := 189) hZ dX4_findRow_185 (by decide) ?_
              refine x_istore (i := 5) (pc' := 191) (lv' := [(5, .int 1), (4, .int x173), (0, .ref q_this), (1, .int l1), (2, .int l2), (3, .int l3), (6, .int l6)]) hZ dX4_findRow_189 rfl (by decide) rfl ?_
              refine x_iload (pc' := 193) hZ dX4_findRow_191 rfl 0 rfl ?_
              refine x_if_eq (tgt := 218) (pc' := 196) hZ dX4_findRow_193 (by decide) rfl (fun c193 => ?_) (fun c193 => ?_)
              · exact absurd c193 (by decide)
              · refine x_iload (pc' := 198) hZ dX4_findRow_196 rfl 6 rfl ?_
                refine x_if_le (tgt := 218) (pc' := 201) hZ dX4_findRow_198 (by decide) rfl (fun c198 => ?_) (fun c198 => ?_)
                · replace h := h.1 c198
                  obtain ⟨x218, e218⟩ : ∃ y : Int32, y = l6 + (-1) := ⟨_, rfl⟩
                  replace h := h x218 e218
                  refine x_iinc (i := 6) (v := x218) (pc' := 221) (lv' := [(6, .int x218), (5, .int 1), (4, .int x173), (0, .ref q_this), (1, .int l1), (2, .int l2), (3, .int l3)]) hZ dX4_findRow_218 rfl 6 rfl (by rw [e218]; rfl) (by decide) rfl ?_
                  refine x_goto (pc' := 106) hZ dX4_findRow_221 (by decide) ?_
                  refine x_lv [3, 4, 5, 6, 2, 1, 0] (lv' := [(0, .ref q_this), (1, .int l1), (2, .int l2), (3, .int l3), (4, .int x173), (5, .int 1), (6, .int x218)]) rfl ?_
                  exact ih l3 x173 1 x218 a151_0 (upd v_best (ix l6) l3) h hK
                · replace h := h.2 c198
                  refine x_aload_n (pc' := 202) hZ dX4_findRow_201 rfl 2 rfl ?_
                  refine g_RX4_47 (pc' := 205) hZ dX4_findRow_202 rfl 0 rfl rfl ?_
                  refine x_iload (pc' := 207) hZ dX4_findRow_205 rfl 6 rfl ?_
                  obtain ⟨h207, h⟩ := h
                  refine x_iald (pc' := 208) hZ h207 dX4_findRow_207 rfl 4 rfl ?_
                  refine x_topi (fun x208 e208 => ?_)
                  replace h := h x208 e208
                  refine x_istore_n (i := 3) (pc' := 209) (lv' := [(3, .int x208), (5, .int 1), (4, .int x173), (0, .ref q_this), (1, .int l1), (2, .int l2), (6, .int l6)]) hZ dX4_findRow_208 rfl rfl (by decide) rfl ?_
                  refine x_aload_n (pc' := 210) hZ dX4_findRow_209 rfl 3 rfl ?_
                  refine g_RX4_47 (pc' := 213) hZ dX4_findRow_210 rfl 0 rfl rfl ?_
                  refine x_iload (pc' := 215) hZ dX4_findRow_213 rfl 6 rfl ?_
                  refine x_bipush (v := (-9)) (pc' := 217) hZ (by decide) dX4_findRow_215 rfl ?_
                  obtain ⟨h217, h⟩ := h
                  refine x_iast (pc' := 218) (ws' := [(q_this, cO 4 [.int v_thrown, .ref q_text, .int v_textSize, .int v_place, .int v_people, .ref q_ageing, .ref q_page, .int v_readPeople, .ref q_readAgeing, .ref q_readPage, .ref q_book, .int v_acts, .ref q_kept, .ref q_isKept, .int v_heard, .ref q_heardWho, .ref q_heardIs, .long v_seed, .ref q_tried, .ref q_chooser, .int v_choosers, .ref q_best, .int v_sets, .int v_surely, .ref q_alives]), (q_page, cA E 25 v_page), (q_tried, cA E 25 a151_0), (q_chooser, cA E 6 v_chooser), (q_best, cA E 7 (upd (upd v_best (ix l6) l3) (ix l6) (-9)))]) hZ h217 dX4_findRow_217 rfl 4 rfl rfl ?_
                  obtain ⟨x218, e218⟩ : ∃ y : Int32, y = l6 + (-1) := ⟨_, rfl⟩
                  replace h := h x218 e218
                  refine x_iinc (i := 6) (v := x218) (pc' := 221) (lv' := [(6, .int x218), (3, .int x208), (5, .int 1), (4, .int x173), (0, .ref q_this), (1, .int l1), (2, .int l2)]) hZ dX4_findRow_218 rfl 6 rfl (by rw [e218]; rfl) (by decide) rfl ?_
                  refine x_goto (pc' := 106) hZ dX4_findRow_221 (by decide) ?_
                  refine x_lv [4, 5, 6, 1, 3, 2, 0] (lv' := [(0, .ref q_this), (1, .int l1), (2, .int l2), (3, .int x208), (4, .int x173), (5, .int 1), (6, .int x218)]) rfl ?_
                  exact ih x208 x173 1 x218 a151_0 (upd (upd v_best (ix l6) l3) (ix l6) (-9)) h hK
set_option maxHeartbeats 4000000 in
set_option maxRecDepth 100000 in
theorem t_X4_findRow_85 (E : XE) (Z : ZC) (q_this : Nat) (q_text : Nat) (q_ageing : Nat) (q_page : Nat) (q_readAgeing : Nat) (q_readPage : Nat) (q_book : Nat) (q_kept : Nat) (q_isKept : Nat) (q_heardWho : Nat) (q_heardIs : Nat) (q_tried : Nat) (q_chooser : Nat) (q_best : Nat) (q_alives : Nat) (v_thrown : Int32) (v_textSize : Int32) (v_place : Int32) (v_people : Int32) (v_readPeople : Int32) (v_acts : Int32) (v_heard : Int32) (v_seed : Int64) (v_choosers : Int32) (v_sets : Int32) (v_surely : Int32) (v_page : Nat → Int32) (v_chooser : Nat → Int32) (l1 : Int32) {K : Int32 → (Nat → Int32) → (Nat → Int32) → Prop} (hZ : XOK E Z RX4 cX4_findRow 7 { frames := 3, cells := 0, slots := 0, locals := 75 }) : ∀ (k : Nat) (l2 : Int32) (v_tried : (Nat → Int32)) (v_best : (Nat → Int32)), wl (fun rec v => b_X4_findRow_85 l1 v_people v_choosers v_page v_chooser K rec v.1 v.2.1 v.2.2) k (l2, v_tried, v_best) → (∀ (l2 : Int32) (v_tried : (Nat → Int32)) (v_best : (Nat → Int32)), K l2 v_tried v_best → XW E Z 0 0 [(q_this, cO 4 [.int v_thrown, .ref q_text, .int v_textSize, .int v_place, .int v_people, .ref q_ageing, .ref q_page, .int v_readPeople, .ref q_readAgeing, .ref q_readPage, .ref q_book, .int v_acts, .ref q_kept, .ref q_isKept, .int v_heard, .ref q_heardWho, .ref q_heardIs, .long v_seed, .ref q_tried, .ref q_chooser, .int v_choosers, .ref q_best, .int v_sets, .int v_surely, .ref q_alives]), (q_page, cA E 25 v_page), (q_tried, cA E 25 v_tried), (q_chooser, cA E 6 v_chooser), (q_best, cA E 7 v_best)] [(0, .ref q_this)] [] 230) → XW E Z 0 0 [(q_this, cO 4 [.int v_thrown, .ref q_text, .int v_textSize, .int v_place, .int v_people, .ref q_ageing, .ref q_page, .int v_readPeople, .ref q_readAgeing, .ref q_readPage, .ref q_book, .int v_acts, .ref q_kept, .ref q_isKept, .int v_heard, .ref q_heardWho, .ref q_heardIs, .long v_seed, .ref q_tried, .ref q_chooser, .int v_choosers, .ref q_best, .int v_sets, .int v_surely, .ref q_alives]), (q_page, cA E 25 v_page), (q_tried, cA E 25 v_tried), (q_chooser, cA E 6 v_chooser), (q_best, cA E 7 v_best)] [(0, .ref q_this), (1, .int l1), (2, .int l2)] [] 85 := by
  intro k
  induction k with
  | zero =>
    intro l2 v_tried v_best h
    exact h.elim
  | succ k ih =>
    intro l2 v_tried v_best h hK
    replace h := wl_succ h
    try dsimp only at h
    unfold b_X4_findRow_85 at h
    refine x_iload_n (pc' := 86) hZ dX4_findRow_85 rfl 2 rfl ?_
    refine x_iload_n (pc' := 87) hZ dX4_findRow_86 rfl 1 rfl ?_
    refine x_icmp_ge (tgt := 230) (pc' := 90) hZ dX4_findRow_87 (by decide) rfl (fun c87 => ?_) (fun c87 => ?_)
    · replace h := h.1 c87
      refine x_lv [0] (lv' := [(0, .ref q_this)]) rfl ?_
      exact hK l2 v_tried v_best h
    · replace h := h.2 c87
      refine x_iload_n (pc' := 91) hZ dX4_findRow_90 rfl 2 rfl ?_
      refine x_istore_n (i := 3) (pc' := 92) (lv' := [(3, .int l2), (0, .ref q_this), (1, .int l1), (2, .int l2)]) hZ dX4_findRow_91 rfl rfl (by decide) rfl ?_
      refine x_iconst (v := 1) (pc' := 93) hZ (by decide) dX4_findRow_92 rfl ?_
      refine x_istore (i := 4) (pc' := 95) (lv' := [(4, .int 1), (3, .int l2), (0, .ref q_this), (1, .int l1), (2, .int l2)]) hZ dX4_findRow_93 rfl (by decide) rfl ?_
      refine x_iconst (v := 1) (pc' := 96) hZ (by decide) dX4_findRow_95 rfl ?_
      refine x_istore (i := 5) (pc' := 98) (lv' := [(5, .int 1), (4, .int 1), (3, .int l2), (0, .ref q_this), (1, .int l1), (2, .int l2)]) hZ dX4_findRow_96 rfl (by decide) rfl ?_
      refine x_aload_n (pc' := 99) hZ dX4_findRow_98 rfl 3 rfl ?_
      refine g_RX4_150 (pc' := 102) hZ dX4_findRow_99 rfl 0 rfl rfl ?_
      refine x_iconst (v := 1) (pc' := 103) hZ (by decide) dX4_findRow_102 rfl ?_
      refine x_isub (pc' := 104) hZ dX4_findRow_103 rfl ?_
      refine x_topi (fun x104 e104 => ?_)
      replace h := h x104 e104
      refine x_istore (i := 6) (pc' := 106) (lv' := [(6, .int x104), (5, .int 1), (4, .int 1), (3, .int l2), (0, .ref q_this), (1, .int l1), (2, .int l2)]) hZ dX4_findRow_104 rfl (by decide) rfl ?_
      refine x_lv [4, 5, 6, 3, 2, 1, 0] (lv' := [(0, .ref q_this), (1, .int l1), (2, .int l2), (3, .int l2), (4, .int 1), (5, .int 1), (6, .int x104)]) rfl ?_
      obtain ⟨k106, h⟩ := h
      refine t_X4_findRow_106 E Z q_this q_text q_ageing q_page q_readAgeing q_readPage q_book q_kept q_isKept q_heardWho q_heardIs q_tried q_chooser q_best q_alives v_thrown v_textSize v_place v_people v_readPeople v_acts v_heard v_seed v_choosers v_sets v_surely v_page v_chooser l1 l2 hZ  _ l2 1 1 x104 v_tried v_best h (fun l3_106 l4_106 l5_106 l6_106 v_tried_106 v_best_106 h => ?_)
      obtain ⟨x224, e224⟩ : ∃ y : Int32, y = l2 + 1 := ⟨_, rfl⟩
      replace h := h x224 e224
      refine x_iinc (i := 2) (v := x224) (pc' := 227) (lv' := [(2, .int x224), (0, .ref q_this), (1, .int l1)]) hZ dX4_findRow_224 rfl 2 rfl (by rw [e224]; rfl) (by decide) rfl ?_
      refine x_goto (pc' := 85) hZ dX4_findRow_227 (by decide) ?_
      refine x_lv [1, 2, 0] (lv' := [(0, .ref q_this), (1, .int l1), (2, .int x224)]) rfl ?_
      exact ih x224 v_tried_106 v_best_106 h hK
set_option maxHeartbeats 4000000 in
set_option maxRecDepth 100000 in
theorem c_X4_findRow (E : XE) (q_this : Nat) (q_text : Nat) (q_ageing : Nat) (q_page : Nat) (q_readAgeing : Nat) (q_readPage : Nat) (q_book : Nat) (q_kept : Nat) (q_isKept : Nat) (q_heardWho : Nat) (q_heardIs : Nat) (q_tried : Nat) (q_chooser : Nat) (q_best : Nat) (q_alives : Nat) (v_thrown : Int32) (v_textSize : Int32) (v_place : Int32) (v_people : Int32) (v_readPeople : Int32) (v_acts : Int32) (v_heard : Int32) (v_seed : Int64) (v_choosers : Int32) (v_sets : Int32) (v_surely : Int32) (v_page : Nat → Int32) (v_tried : Nat → Int32) (v_chooser : Nat → Int32) (v_best : Nat → Int32) (post : Int32 → Int32 → (Nat → Int32) → (Nat → Int32) → (Nat → Int32) → Prop) (h : p_X4_findRow v_people v_choosers v_page v_tried v_chooser v_best post) : ConI E yX4_findRow cX4_findRow 7 .int { frames := 3, cells := 0, slots := 0, locals := 75 } 0 0 [.ref q_this] [(q_this, cO 4 [.int v_thrown, .ref q_text, .int v_textSize, .int v_place, .int v_people, .ref q_ageing, .ref q_page, .int v_readPeople, .ref q_readAgeing, .ref q_readPage, .ref q_book, .int v_acts, .ref q_kept, .ref q_isKept, .int v_heard, .ref q_heardWho, .ref q_heardIs, .long v_seed, .ref q_tried, .ref q_chooser, .int v_choosers, .ref q_best, .int v_sets, .int v_surely, .ref q_alives]), (q_page, cA E 25 v_page), (q_tried, cA E 25 v_tried), (q_chooser, cA E 6 v_chooser), (q_best, cA E 7 v_best)] (fun r w => ∃ (u_choosers : Int32) (u_tried : Nat → Int32) (u_chooser : Nat → Int32) (u_best : Nat → Int32), w = [(q_this, cO 4 [.int v_thrown, .ref q_text, .int v_textSize, .int v_place, .int v_people, .ref q_ageing, .ref q_page, .int v_readPeople, .ref q_readAgeing, .ref q_readPage, .ref q_book, .int v_acts, .ref q_kept, .ref q_isKept, .int v_heard, .ref q_heardWho, .ref q_heardIs, .long v_seed, .ref q_tried, .ref q_chooser, .int u_choosers, .ref q_best, .int v_sets, .int v_surely, .ref q_alives]), (q_page, cA E 25 v_page), (q_tried, cA E 25 u_tried), (q_chooser, cA E 6 u_chooser), (q_best, cA E 7 u_best)] ∧ post r u_choosers u_tried u_chooser u_best) := by
  refine ConI.of (by decide +kernel) (Nat.le_of_ble_eq_true rfl) (fun Z hZ hI hRet => ?_)
  replace hZ : XOK E Z RX4 cX4_findRow 7 { frames := 3, cells := 0, slots := 0, locals := 75 } := hZ
  clear hI
  show XW E Z 0 0 [(q_this, cO 4 [.int v_thrown, .ref q_text, .int v_textSize, .int v_place, .int v_people, .ref q_ageing, .ref q_page, .int v_readPeople, .ref q_readAgeing, .ref q_readPage, .ref q_book, .int v_acts, .ref q_kept, .ref q_isKept, .int v_heard, .ref q_heardWho, .ref q_heardIs, .long v_seed, .ref q_tried, .ref q_chooser, .int v_choosers, .ref q_best, .int v_sets, .int v_surely, .ref q_alives]), (q_page, cA E 25 v_page), (q_tried, cA E 25 v_tried), (q_chooser, cA E 6 v_chooser), (q_best, cA E 7 v_best)] [(0, .ref q_this)] [] 0
  unfold p_X4_findRow at h
  refine x_aload_n (pc' := 1) hZ dX4_findRow_0 rfl 0 rfl ?_
  refine x_iconst (v := 0) (pc' := 2) hZ (by decide) dX4_findRow_1 rfl ?_
  refine s_RX4_150 (pc' := 5) (ws' := [(q_this, cO 4 [.int v_thrown, .ref q_text, .int v_textSize, .int v_place, .int v_people, .ref q_ageing, .ref q_page, .int v_readPeople, .ref q_readAgeing, .ref q_readPage, .ref q_book, .int v_acts, .ref q_kept, .ref q_isKept, .int v_heard, .ref q_heardWho, .ref q_heardIs, .long v_seed, .ref q_tried, .ref q_chooser, .int 0, .ref q_best, .int v_sets, .int v_surely, .ref q_alives]), (q_page, cA E 25 v_page), (q_tried, cA E 25 v_tried), (q_chooser, cA E 6 v_chooser), (q_best, cA E 7 v_best)]) hZ dX4_findRow_2 rfl 0 rfl (Nat.le_of_ble_eq_true rfl) rfl ?_
  refine x_iconst (v := 1) (pc' := 6) hZ (by decide) dX4_findRow_5 rfl ?_
  refine x_istore_n (i := 1) (pc' := 7) (lv' := [(1, .int 1), (0, .ref q_this)]) hZ dX4_findRow_6 rfl rfl (by decide) rfl ?_
  refine x_iconst (v := 1) (pc' := 8) hZ (by decide) dX4_findRow_7 rfl ?_
  refine x_istore_n (i := 2) (pc' := 9) (lv' := [(2, .int 1), (1, .int 1), (0, .ref q_this)]) hZ dX4_findRow_8 rfl rfl (by decide) rfl ?_
  refine x_lv [2, 1, 0] (lv' := [(0, .ref q_this), (1, .int 1), (2, .int 1)]) rfl ?_
  obtain ⟨k9, h⟩ := h
  refine t_X4_findRow_9 E Z q_this q_text q_ageing q_page q_readAgeing q_readPage q_book q_kept q_isKept q_heardWho q_heardIs q_tried q_chooser q_best q_alives v_thrown v_textSize v_place v_people v_readPeople v_acts v_heard v_seed v_sets v_surely v_page v_tried v_best hZ  _ 1 1 0 v_chooser h (fun l1_9 l2_9 v_choosers_9 v_chooser_9 h => ?_)
  refine x_iconst (v := 0) (pc' := 62) hZ (by decide) dX4_findRow_61 rfl ?_
  refine x_istore_n (i := 2) (pc' := 63) (lv' := [(2, .int 0), (0, .ref q_this), (1, .int l1_9)]) hZ dX4_findRow_62 rfl rfl (by decide) rfl ?_
  refine x_lv [1, 2, 0] (lv' := [(0, .ref q_this), (1, .int l1_9), (2, .int 0)]) rfl ?_
  obtain ⟨k63, h⟩ := h
  refine t_X4_findRow_63 E Z q_this q_text q_ageing q_page q_readAgeing q_readPage q_book q_kept q_isKept q_heardWho q_heardIs q_tried q_chooser q_best q_alives v_thrown v_textSize v_place v_people v_readPeople v_acts v_heard v_seed v_choosers_9 v_sets v_surely v_page v_tried v_chooser_9 l1_9 hZ  _ 0 v_best h (fun l2_63 v_best_63 h => ?_)
  refine x_iconst (v := 0) (pc' := 84) hZ (by decide) dX4_findRow_83 rfl ?_
  refine x_istore_n (i := 2) (pc' := 85) (lv' := [(2, .int 0), (0, .ref q_this), (1, .int l1_9)]) hZ dX4_findRow_84 rfl rfl (by decide) rfl ?_
  refine x_lv [1, 2, 0] (lv' := [(0, .ref q_this), (1, .int l1_9), (2, .int 0)]) rfl ?_
  obtain ⟨k85, h⟩ := h
  refine t_X4_findRow_85 E Z q_this q_text q_ageing q_page q_readAgeing q_readPage q_book q_kept q_isKept q_heardWho q_heardIs q_tried q_chooser q_best q_alives v_thrown v_textSize v_place v_people v_readPeople v_acts v_heard v_seed v_choosers_9 v_sets v_surely v_page v_chooser_9 l1_9 hZ  _ 0 v_tried v_best_63 h (fun l2_85 v_tried_85 v_best_85 h => ?_)
  refine x_aload_n (pc' := 231) hZ dX4_findRow_230 rfl 0 rfl ?_
  refine g_RX4_47 (pc' := 234) hZ dX4_findRow_231 rfl 0 rfl rfl ?_
  refine x_iconst (v := 0) (pc' := 235) hZ (by decide) dX4_findRow_234 rfl ?_
  have h235 : vp_in 0 7 := by unfold vp_in; decide
  refine x_iald (pc' := 236) hZ h235 dX4_findRow_235 rfl 4 rfl ?_
  exact hRet _ _ _ _ dX4_findRow_236 ⟨_, _, _, _, rfl, h⟩
set_option maxHeartbeats 4000000 in
set_option maxRecDepth 100000 in
theorem c_X4_chosen (E : XE) (q_this : Nat) (q_text : Nat) (q_ageing : Nat) (q_page : Nat) (q_readAgeing : Nat) (q_readPage : Nat) (q_book : Nat) (q_kept : Nat) (q_isKept : Nat) (q_heardWho : Nat) (q_heardIs : Nat) (q_tried : Nat) (q_chooser : Nat) (q_best : Nat) (q_alives : Nat) (v_thrown : Int32) (v_textSize : Int32) (v_place : Int32) (v_people : Int32) (v_readPeople : Int32) (v_acts : Int32) (v_heard : Int32) (v_seed : Int64) (v_choosers : Int32) (v_sets : Int32) (v_surely : Int32) (v_page : Nat → Int32) (v_tried : Nat → Int32) (v_chooser : Nat → Int32) (v_best : Nat → Int32) (l1 : Int32) (post : Int32 → Int32 → Int32 → (Nat → Int32) → (Nat → Int32) → (Nat → Int32) → Prop) (h : p_X4_chosen v_thrown v_people v_choosers v_page v_tried v_chooser v_best l1 post) : ConI E yX4_chosen cX4_chosen 3 .int { frames := 4, cells := 0, slots := 0, locals := 101 } 0 0 [.ref q_this, .int l1] [(q_this, cO 4 [.int v_thrown, .ref q_text, .int v_textSize, .int v_place, .int v_people, .ref q_ageing, .ref q_page, .int v_readPeople, .ref q_readAgeing, .ref q_readPage, .ref q_book, .int v_acts, .ref q_kept, .ref q_isKept, .int v_heard, .ref q_heardWho, .ref q_heardIs, .long v_seed, .ref q_tried, .ref q_chooser, .int v_choosers, .ref q_best, .int v_sets, .int v_surely, .ref q_alives]), (q_page, cA E 25 v_page), (q_tried, cA E 25 v_tried), (q_chooser, cA E 6 v_chooser), (q_best, cA E 7 v_best)] (fun r w => ∃ (u_thrown : Int32) (u_choosers : Int32) (u_tried : Nat → Int32) (u_chooser : Nat → Int32) (u_best : Nat → Int32), w = [(q_this, cO 4 [.int u_thrown, .ref q_text, .int v_textSize, .int v_place, .int v_people, .ref q_ageing, .ref q_page, .int v_readPeople, .ref q_readAgeing, .ref q_readPage, .ref q_book, .int v_acts, .ref q_kept, .ref q_isKept, .int v_heard, .ref q_heardWho, .ref q_heardIs, .long v_seed, .ref q_tried, .ref q_chooser, .int u_choosers, .ref q_best, .int v_sets, .int v_surely, .ref q_alives]), (q_page, cA E 25 v_page), (q_tried, cA E 25 u_tried), (q_chooser, cA E 6 u_chooser), (q_best, cA E 7 u_best)] ∧ post r u_thrown u_choosers u_tried u_chooser u_best) := by
  refine ConI.of (by decide +kernel) (Nat.le_of_ble_eq_true rfl) (fun Z hZ hI hRet => ?_)
  replace hZ : XOK E Z RX4 cX4_chosen 3 { frames := 4, cells := 0, slots := 0, locals := 101 } := hZ
  clear hI
  show XW E Z 0 0 [(q_this, cO 4 [.int v_thrown, .ref q_text, .int v_textSize, .int v_place, .int v_people, .ref q_ageing, .ref q_page, .int v_readPeople, .ref q_readAgeing, .ref q_readPage, .ref q_book, .int v_acts, .ref q_kept, .ref q_isKept, .int v_heard, .ref q_heardWho, .ref q_heardIs, .long v_seed, .ref q_tried, .ref q_chooser, .int v_choosers, .ref q_best, .int v_sets, .int v_surely, .ref q_alives]), (q_page, cA E 25 v_page), (q_tried, cA E 25 v_tried), (q_chooser, cA E 6 v_chooser), (q_best, cA E 7 v_best)] [(0, .ref q_this), (1, .int l1)] [] 0
  unfold p_X4_chosen at h
  refine x_aload_n (pc' := 1) hZ dX4_chosen_0 rfl 0 rfl ?_
  refine x_iconst (v := 0) (pc' := 2) hZ (by decide) dX4_chosen_1 rfl ?_
  refine s_RX4_53 (pc' := 5) (ws' := [(q_this, cO 4 [.int 0, .ref q_text, .int v_textSize, .int v_place, .int v_people, .ref q_ageing, .ref q_page, .int v_readPeople, .ref q_readAgeing, .ref q_readPage, .ref q_book, .int v_acts, .ref q_kept, .ref q_isKept, .int v_heard, .ref q_heardWho, .ref q_heardIs, .long v_seed, .ref q_tried, .ref q_chooser, .int v_choosers, .ref q_best, .int v_sets, .int v_surely, .ref q_alives]), (q_page, cA E 25 v_page), (q_tried, cA E 25 v_tried), (q_chooser, cA E 6 v_chooser), (q_best, cA E 7 v_best)]) hZ dX4_chosen_2 rfl 0 rfl (Nat.le_of_ble_eq_true rfl) rfl ?_
  refine x_aload_n (pc' := 6) hZ dX4_chosen_5 rfl 0 rfl ?_
  refine x_iload_n (pc' := 7) hZ dX4_chosen_6 rfl 1 rfl ?_
  refine k_RX4_159 (pc' := 10) (q0 := 0) (as := [.int l1]) (rest := []) (c' := 0) (n' := 0) (wr := [(q_tried, cA E 25 v_tried), (q_chooser, cA E 6 v_chooser), (q_best, cA E 7 v_best)]) hZ (c_X4_chooserOf E q_this q_text q_ageing q_page q_readAgeing q_readPage q_book q_kept q_isKept q_heardWho q_heardIs q_tried q_chooser q_best q_alives 0 v_textSize v_place v_people v_readPeople v_acts v_heard v_seed v_choosers v_sets v_surely v_page l1 _ h) rfl dX4_chosen_7 rfl rfl rfl rfl rfl (Nat.le_of_ble_eq_true rfl) (Nat.le_of_ble_eq_true rfl) (Nat.le_of_ble_eq_true rfl) rfl rfl (Nat.le_of_ble_eq_true rfl) (Nat.le_of_ble_eq_true rfl) [0, 1] [2, 3, 4] rfl rfl (by decide) (by decide) (by decide) (fun r7 w7 hw => ?_)
  obtain ⟨rfl, h⟩ := hw
  refine x_ws (ws' := [(q_this, cO 4 [.int 0, .ref q_text, .int v_textSize, .int v_place, .int v_people, .ref q_ageing, .ref q_page, .int v_readPeople, .ref q_readAgeing, .ref q_readPage, .ref q_book, .int v_acts, .ref q_kept, .ref q_isKept, .int v_heard, .ref q_heardWho, .ref q_heardIs, .long v_seed, .ref q_tried, .ref q_chooser, .int v_choosers, .ref q_best, .int v_sets, .int v_surely, .ref q_alives]), (q_page, cA E 25 v_page), (q_tried, cA E 25 v_tried), (q_chooser, cA E 6 v_chooser), (q_best, cA E 7 v_best)]) [3, 4, 0, 1, 2] rfl (by decide) ?_
  refine x_istore_n (i := 2) (pc' := 11) (lv' := [(2, .int r7), (0, .ref q_this), (1, .int l1)]) hZ dX4_chosen_10 rfl rfl (by decide) rfl ?_
  refine x_iload_n (pc' := 12) hZ dX4_chosen_11 rfl 0 rfl ?_
  refine x_if_ge (tgt := 19) (pc' := 15) hZ dX4_chosen_12 (by decide) rfl (fun c12 => ?_) (fun c12 => ?_)
  · replace h := h.1 c12
    refine x_aload_n (pc' := 20) hZ dX4_chosen_19 rfl 1 rfl ?_
    refine x_aload_n (pc' := 21) hZ dX4_chosen_20 rfl 1 rfl ?_
    refine k_RX4_162 (pc' := 24) (q0 := 0) (as := []) (rest := [.ref q_this]) (c' := 0) (n' := 0) (wr := []) hZ (c_X4_findRow E q_this q_text q_ageing q_page q_readAgeing q_readPage q_book q_kept q_isKept q_heardWho q_heardIs q_tried q_chooser q_best q_alives 0 v_textSize v_place v_people v_readPeople v_acts v_heard v_seed v_choosers v_sets v_surely v_page v_tried v_chooser v_best _ h) rfl dX4_chosen_21 rfl rfl rfl rfl rfl (Nat.le_of_ble_eq_true rfl) (Nat.le_of_ble_eq_true rfl) (Nat.le_of_ble_eq_true rfl) rfl rfl (Nat.le_of_ble_eq_true rfl) (Nat.le_of_ble_eq_true rfl) [0, 1, 2, 3, 4] [] rfl rfl (by decide) (by decide) (by decide) (fun r21 w21 hw => ?_)
    obtain ⟨a21_0, a21_1, a21_2, a21_3, rfl, h⟩ := hw
    refine x_ws (ws' := [(q_this, cO 4 [.int 0, .ref q_text, .int v_textSize, .int v_place, .int v_people, .ref q_ageing, .ref q_page, .int v_readPeople, .ref q_readAgeing, .ref q_readPage, .ref q_book, .int v_acts, .ref q_kept, .ref q_isKept, .int v_heard, .ref q_heardWho, .ref q_heardIs, .long v_seed, .ref q_tried, .ref q_chooser, .int a21_0, .ref q_best, .int v_sets, .int v_surely, .ref q_alives]), (q_page, cA E 25 v_page), (q_tried, cA E 25 a21_1), (q_chooser, cA E 6 a21_2), (q_best, cA E 7 a21_3)]) [0, 1, 2, 3, 4] rfl (by decide) ?_
    refine x_iload_n (pc' := 25) hZ dX4_chosen_24 rfl 0 rfl ?_
    refine k_RX4_153 (pc' := 28) (q0 := 0) (as := [.int r21, .int r7]) (rest := []) (c' := 0) (n' := 0) (wr := [(q_page, cA E 25 v_page), (q_tried, cA E 25 a21_1), (q_chooser, cA E 6 a21_2), (q_best, cA E 7 a21_3)]) hZ (c_X4_plainIn E q_this q_text q_ageing q_page q_readAgeing q_readPage q_book q_kept q_isKept q_heardWho q_heardIs q_tried q_chooser q_best q_alives 0 v_textSize v_place v_people v_readPeople v_acts v_heard v_seed a21_0 v_sets v_surely r21 r7 _ h) rfl dX4_chosen_25 rfl rfl rfl rfl rfl (Nat.le_of_ble_eq_true rfl) (Nat.le_of_ble_eq_true rfl) (Nat.le_of_ble_eq_true rfl) rfl rfl (Nat.le_of_ble_eq_true rfl) (Nat.le_of_ble_eq_true rfl) [0] [1, 2, 3, 4] rfl rfl (by decide) (by decide) (by decide) (fun r25 w25 hw => ?_)
    obtain ⟨rfl, h⟩ := hw
    refine x_ws (ws' := [(q_this, cO 4 [.int 0, .ref q_text, .int v_textSize, .int v_place, .int v_people, .ref q_ageing, .ref q_page, .int v_readPeople, .ref q_readAgeing, .ref q_readPage, .ref q_book, .int v_acts, .ref q_kept, .ref q_isKept, .int v_heard, .ref q_heardWho, .ref q_heardIs, .long v_seed, .ref q_tried, .ref q_chooser, .int a21_0, .ref q_best, .int v_sets, .int v_surely, .ref q_alives]), (q_page, cA E 25 v_page), (q_tried, cA E 25 a21_1), (q_chooser, cA E 6 a21_2), (q_best, cA E 7 a21_3)]) [4, 0, 1, 2, 3] rfl (by decide) ?_
    exact hRet _ _ _ _ dX4_chosen_28 ⟨_, _, _, _, _, rfl, h⟩
  · replace h := h.2 c12
    refine x_iload_n (pc' := 16) hZ dX4_chosen_15 rfl 0 rfl ?_
    refine x_goto (pc' := 28) hZ dX4_chosen_16 (by decide) ?_
    exact hRet _ _ _ _ dX4_chosen_28 ⟨_, _, _, _, _, rfl, h⟩
set_option maxHeartbeats 4000000 in
set_option maxRecDepth 100000 in
theorem c_X4_chosenWorth (E : XE) (q_this : Nat) (q_text : Nat) (q_ageing : Nat) (q_page : Nat) (q_readAgeing : Nat) (q_readPage : Nat) (q_book : Nat) (q_kept : Nat) (q_isKept : Nat) (q_heardWho : Nat) (q_heardIs : Nat) (q_tried : Nat) (q_chooser : Nat) (q_best : Nat) (q_alives : Nat) (v_thrown : Int32) (v_textSize : Int32) (v_place : Int32) (v_people : Int32) (v_readPeople : Int32) (v_acts : Int32) (v_heard : Int32) (v_seed : Int64) (v_choosers : Int32) (v_sets : Int32) (v_surely : Int32) (v_page : Nat → Int32) (v_tried : Nat → Int32) (v_chooser : Nat → Int32) (v_best : Nat → Int32) (l1 : Int32) (post : Int32 → Int32 → Int32 → (Nat → Int32) → (Nat → Int32) → (Nat → Int32) → Prop) (h : p_X4_chosenWorth v_thrown v_people v_choosers v_page v_tried v_chooser v_best l1 post) : ConI E yX4_chosenWorth cX4_chosenWorth 3 .int { frames := 4, cells := 0, slots := 0, locals := 101 } 0 0 [.ref q_this, .int l1] [(q_this, cO 4 [.int v_thrown, .ref q_text, .int v_textSize, .int v_place, .int v_people, .ref q_ageing, .ref q_page, .int v_readPeople, .ref q_readAgeing, .ref q_readPage, .ref q_book, .int v_acts, .ref q_kept, .ref q_isKept, .int v_heard, .ref q_heardWho, .ref q_heardIs, .long v_seed, .ref q_tried, .ref q_chooser, .int v_choosers, .ref q_best, .int v_sets, .int v_surely, .ref q_alives]), (q_page, cA E 25 v_page), (q_tried, cA E 25 v_tried), (q_chooser, cA E 6 v_chooser), (q_best, cA E 7 v_best)] (fun r w => ∃ (u_thrown : Int32) (u_choosers : Int32) (u_tried : Nat → Int32) (u_chooser : Nat → Int32) (u_best : Nat → Int32), w = [(q_this, cO 4 [.int u_thrown, .ref q_text, .int v_textSize, .int v_place, .int v_people, .ref q_ageing, .ref q_page, .int v_readPeople, .ref q_readAgeing, .ref q_readPage, .ref q_book, .int v_acts, .ref q_kept, .ref q_isKept, .int v_heard, .ref q_heardWho, .ref q_heardIs, .long v_seed, .ref q_tried, .ref q_chooser, .int u_choosers, .ref q_best, .int v_sets, .int v_surely, .ref q_alives]), (q_page, cA E 25 v_page), (q_tried, cA E 25 u_tried), (q_chooser, cA E 6 u_chooser), (q_best, cA E 7 u_best)] ∧ post r u_thrown u_choosers u_tried u_chooser u_best) := by
  refine ConI.of (by decide +kernel) (Nat.le_of_ble_eq_true rfl) (fun Z hZ hI hRet => ?_)
  replace hZ : XOK E Z RX4 cX4_chosenWorth 3 { frames := 4, cells := 0, slots := 0, locals := 101 } := hZ
  clear hI
  show XW E Z 0 0 [(q_this, cO 4 [.int v_thrown, .ref q_text, .int v_textSize, .int v_place, .int v_people, .ref q_ageing, .ref q_page, .int v_readPeople, .ref q_readAgeing, .ref q_readPage, .ref q_book, .int v_acts, .ref q_kept, .ref q_isKept, .int v_heard, .ref q_heardWho, .ref q_heardIs, .long v_seed, .ref q_tried, .ref q_chooser, .int v_choosers, .ref q_best, .int v_sets, .int v_surely, .ref q_alives]), (q_page, cA E 25 v_page), (q_tried, cA E 25 v_tried), (q_chooser, cA E 6 v_chooser), (q_best, cA E 7 v_best)] [(0, .ref q_this), (1, .int l1)] [] 0
  unfold p_X4_chosenWorth at h
  refine x_aload_n (pc' := 1) hZ dX4_chosenWorth_0 rfl 0 rfl ?_
  refine x_iconst (v := 0) (pc' := 2) hZ (by decide) dX4_chosenWorth_1 rfl ?_
  refine s_RX4_53 (pc' := 5) (ws' := [(q_this, cO 4 [.int 0, .ref q_text, .int v_textSize, .int v_place, .int v_people, .ref q_ageing, .ref q_page, .int v_readPeople, .ref q_readAgeing, .ref q_readPage, .ref q_book, .int v_acts, .ref q_kept, .ref q_isKept, .int v_heard, .ref q_heardWho, .ref q_heardIs, .long v_seed, .ref q_tried, .ref q_chooser, .int v_choosers, .ref q_best, .int v_sets, .int v_surely, .ref q_alives]), (q_page, cA E 25 v_page), (q_tried, cA E 25 v_tried), (q_chooser, cA E 6 v_chooser), (q_best, cA E 7 v_best)]) hZ dX4_chosenWorth_2 rfl 0 rfl (Nat.le_of_ble_eq_true rfl) rfl ?_
  refine x_aload_n (pc' := 6) hZ dX4_chosenWorth_5 rfl 0 rfl ?_
  refine x_iload_n (pc' := 7) hZ dX4_chosenWorth_6 rfl 1 rfl ?_
  refine k_RX4_159 (pc' := 10) (q0 := 0) (as := [.int l1]) (rest := []) (c' := 0) (n' := 0) (wr := [(q_tried, cA E 25 v_tried), (q_chooser, cA E 6 v_chooser), (q_best, cA E 7 v_best)]) hZ (c_X4_chooserOf E q_this q_text q_ageing q_page q_readAgeing q_readPage q_book q_kept q_isKept q_heardWho q_heardIs q_tried q_chooser q_best q_alives 0 v_textSize v_place v_people v_readPeople v_acts v_heard v_seed v_choosers v_sets v_surely v_page l1 _ h) rfl dX4_chosenWorth_7 rfl rfl rfl rfl rfl (Nat.le_of_ble_eq_true rfl) (Nat.le_of_ble_eq_true rfl) (Nat.le_of_ble_eq_true rfl) rfl rfl (Nat.le_of_ble_eq_true rfl) (Nat.le_of_ble_eq_true rfl) [0, 1] [2, 3, 4] rfl rfl (by decide) (by decide) (by decide) (fun r7 w7 hw => ?_)
  obtain ⟨rfl, h⟩ := hw
  refine x_ws (ws' := [(q_this, cO 4 [.int 0, .ref q_text, .int v_textSize, .int v_place, .int v_people, .ref q_ageing, .ref q_page, .int v_readPeople, .ref q_readAgeing, .ref q_readPage, .ref q_book, .int v_acts, .ref q_kept, .ref q_isKept, .int v_heard, .ref q_heardWho, .ref q_heardIs, .long v_seed, .ref q_tried, .ref q_chooser, .int v_choosers, .ref q_best, .int v_sets, .int v_surely, .ref q_alives]), (q_page, cA E 25 v_page), (q_tried, cA E 25 v_tried), (q_chooser, cA E 6 v_chooser), (q_best, cA E 7 v_best)]) [3, 4, 0, 1, 2] rfl (by decide) ?_
  refine x_istore_n (i := 2) (pc' := 11) (lv' := [(2, .int r7), (0, .ref q_this), (1, .int l1)]) hZ dX4_chosenWorth_10 rfl rfl (by decide) rfl ?_
  refine x_iload_n (pc' := 12) hZ dX4_chosenWorth_11 rfl 0 rfl ?_
  refine x_if_ge (tgt := 19) (pc' := 15) hZ dX4_chosenWorth_12 (by decide) rfl (fun c12 => ?_) (fun c12 => ?_)
  · replace h := h.1 c12
    refine x_aload_n (pc' := 20) hZ dX4_chosenWorth_19 rfl 1 rfl ?_
    refine x_aload_n (pc' := 21) hZ dX4_chosenWorth_20 rfl 1 rfl ?_
    refine k_RX4_162 (pc' := 24) (q0 := 0) (as := []) (rest := [.ref q_this]) (c' := 0) (n' := 0) (wr := []) hZ (c_X4_findRow E q_this q_text q_ageing q_page q_readAgeing q_readPage q_book q_kept q_isKept q_heardWho q_heardIs q_tried q_chooser q_best q_alives 0 v_textSize v_place v_people v_readPeople v_acts v_heard v_seed v_choosers v_sets v_surely v_page v_tried v_chooser v_best _ h) rfl dX4_chosenWorth_21 rfl rfl rfl rfl rfl (Nat.le_of_ble_eq_true rfl) (Nat.le_of_ble_eq_true rfl) (Nat.le_of_ble_eq_true rfl) rfl rfl (Nat.le_of_ble_eq_true rfl) (Nat.le_of_ble_eq_true rfl) [0, 1, 2, 3, 4] [] rfl rfl (by decide) (by decide) (by decide) (fun r21 w21 hw => ?_)
    obtain ⟨a21_0, a21_1, a21_2, a21_3, rfl, h⟩ := hw
    refine x_ws (ws' := [(q_this, cO 4 [.int 0, .ref q_text, .int v_textSize, .int v_place, .int v_people, .ref q_ageing, .ref q_page, .int v_readPeople, .ref q_readAgeing, .ref q_readPage, .ref q_book, .int v_acts, .ref q_kept, .ref q_isKept, .int v_heard, .ref q_heardWho, .ref q_heardIs, .long v_seed, .ref q_tried, .ref q_chooser, .int a21_0, .ref q_best, .int v_sets, .int v_surely, .ref q_alives]), (q_page, cA E 25 v_page), (q_tried, cA E 25 a21_1), (q_chooser, cA E 6 a21_2), (q_best, cA E 7 a21_3)]) [0, 1, 2, 3, 4] rfl (by decide) ?_
    refine x_iload_n (pc' := 25) hZ dX4_chosenWorth_24 rfl 0 rfl ?_
    refine k_RX4_156 (pc' := 28) (q0 := 0) (as := [.int r21, .int r7]) (rest := []) (c' := 0) (n' := 0) (wr := [(q_best, cA E 7 a21_3)]) hZ (c_X4_worthIn E q_this q_text q_ageing q_page q_readAgeing q_readPage q_book q_kept q_isKept q_heardWho q_heardIs q_tried q_chooser q_best q_alives 0 v_textSize v_place v_people v_readPeople v_acts v_heard v_seed a21_0 v_sets v_surely v_page a21_1 a21_2 r21 r7 _ h) rfl dX4_chosenWorth_25 rfl rfl rfl rfl rfl (Nat.le_of_ble_eq_true rfl) (Nat.le_of_ble_eq_true rfl) (Nat.le_of_ble_eq_true rfl) rfl rfl (Nat.le_of_ble_eq_true rfl) (Nat.le_of_ble_eq_true rfl) [0, 1, 2, 3] [4] rfl rfl (by decide) (by decide) (by decide) (fun r25 w25 hw => ?_)
    obtain ⟨a25_0, rfl, h⟩ := hw
    refine x_ws (ws' := [(q_this, cO 4 [.int 0, .ref q_text, .int v_textSize, .int v_place, .int v_people, .ref q_ageing, .ref q_page, .int v_readPeople, .ref q_readAgeing, .ref q_readPage, .ref q_book, .int v_acts, .ref q_kept, .ref q_isKept, .int v_heard, .ref q_heardWho, .ref q_heardIs, .long v_seed, .ref q_tried, .ref q_chooser, .int a21_0, .ref q_best, .int v_sets, .int v_surely, .ref q_alives]), (q_page, cA E 25 v_page), (q_tried, cA E 25 a25_0), (q_chooser, cA E 6 a21_2), (q_best, cA E 7 a21_3)]) [1, 2, 3, 4, 0] rfl (by decide) ?_
    exact hRet _ _ _ _ dX4_chosenWorth_28 ⟨_, _, _, _, _, rfl, h⟩
  · replace h := h.2 c12
    refine x_iload_n (pc' := 16) hZ dX4_chosenWorth_15 rfl 0 rfl ?_
    refine x_goto (pc' := 28) hZ dX4_chosenWorth_16 (by decide) ?_
    exact hRet _ _ _ _ dX4_chosenWorth_28 ⟨_, _, _, _, _, rfl, h⟩
set_option maxHeartbeats 4000000 in
set_option maxRecDepth 100000 in
theorem c_X4_isAlone (E : XE) (q_this : Nat) (q_text : Nat) (q_ageing : Nat) (q_page : Nat) (q_readAgeing : Nat) (q_readPage : Nat) (q_book : Nat) (q_kept : Nat) (q_isKept : Nat) (q_heardWho : Nat) (q_heardIs : Nat) (q_tried : Nat) (q_chooser : Nat) (q_best : Nat) (q_alives : Nat) (v_thrown : Int32) (v_textSize : Int32) (v_place : Int32) (v_people : Int32) (v_readPeople : Int32) (v_acts : Int32) (v_heard : Int32) (v_seed : Int64) (v_choosers : Int32) (v_sets : Int32) (v_surely : Int32) (v_page : Nat → Int32) (l1 : Int32) (l2 : Int32) (l3 : Int32) (post : Int32 → Prop) (h : p_X4_isAlone v_people v_page l1 l2 l3 post) : ConI E yX4_isAlone cX4_isAlone 4 .boolean { frames := 2, cells := 0, slots := 0, locals := 49 } 0 0 [.ref q_this, .int l1, .int l2, .int l3] [(q_this, cO 4 [.int v_thrown, .ref q_text, .int v_textSize, .int v_place, .int v_people, .ref q_ageing, .ref q_page, .int v_readPeople, .ref q_readAgeing, .ref q_readPage, .ref q_book, .int v_acts, .ref q_kept, .ref q_isKept, .int v_heard, .ref q_heardWho, .ref q_heardIs, .long v_seed, .ref q_tried, .ref q_chooser, .int v_choosers, .ref q_best, .int v_sets, .int v_surely, .ref q_alives]), (q_page, cA E 25 v_page)] (fun r w => w = [(q_this, cO 4 [.int v_thrown, .ref q_text, .int v_textSize, .int v_place, .int v_people, .ref q_ageing, .ref q_page, .int v_readPeople, .ref q_readAgeing, .ref q_readPage, .ref q_book, .int v_acts, .ref q_kept, .ref q_isKept, .int v_heard, .ref q_heardWho, .ref q_heardIs, .long v_seed, .ref q_tried, .ref q_chooser, .int v_choosers, .ref q_best, .int v_sets, .int v_surely, .ref q_alives]), (q_page, cA E 25 v_page)] ∧ post r ) := by
  refine ConIz.of (by decide +kernel) (Nat.le_of_ble_eq_true rfl) (fun Z hZ hI hRet => ?_)
  replace hZ : XOK E Z RX4 cX4_isAlone 4 { frames := 2, cells := 0, slots := 0, locals := 49 } := hZ
  clear hI
  show XW E Z 0 0 [(q_this, cO 4 [.int v_thrown, .ref q_text, .int v_textSize, .int v_place, .int v_people, .ref q_ageing, .ref q_page, .int v_readPeople, .ref q_readAgeing, .ref q_readPage, .ref q_book, .int v_acts, .ref q_kept, .ref q_isKept, .int v_heard, .ref q_heardWho, .ref q_heardIs, .long v_seed, .ref q_tried, .ref q_chooser, .int v_choosers, .ref q_best, .int v_sets, .int v_surely, .ref q_alives]), (q_page, cA E 25 v_page)] [(0, .ref q_this), (1, .int l1), (2, .int l2), (3, .int l3)] [] 0
  unfold p_X4_isAlone at h
  refine x_aload_n (pc' := 1) hZ dX4_isAlone_0 rfl 0 rfl ?_
  refine x_aload_n (pc' := 2) hZ dX4_isAlone_1 rfl 0 rfl ?_
  refine g_RX4_16 (pc' := 5) hZ dX4_isAlone_2 rfl 0 rfl rfl ?_
  refine x_iload_n (pc' := 6) hZ dX4_isAlone_5 rfl 2 rfl ?_
  refine x_iload_n (pc' := 7) hZ dX4_isAlone_6 rfl 3 rfl ?_
  refine k_RX4_102 (pc' := 10) (q0 := 0) (as := [.ref q_page, .int l2, .int l3]) (rest := []) (c' := 0) (n' := 0) (wr := []) hZ (c_X4_fairestOf E q_this q_text q_ageing q_page q_readAgeing q_readPage q_book q_kept q_isKept q_heardWho q_heardIs q_tried q_chooser q_best q_alives q_page v_thrown v_textSize v_place v_people v_readPeople v_acts v_heard v_seed v_choosers v_sets v_surely v_page l2 l3 _ h) rfl dX4_isAlone_7 rfl rfl rfl rfl rfl (Nat.le_of_ble_eq_true rfl) (Nat.le_of_ble_eq_true rfl) (Nat.le_of_ble_eq_true rfl) rfl rfl (Nat.le_of_ble_eq_true rfl) (Nat.le_of_ble_eq_true rfl) [0, 1] [] rfl rfl (by decide) (by decide) (by decide) (fun r7 w7 hw => ?_)
  obtain ⟨rfl, h⟩ := hw
  refine x_ws (ws' := [(q_this, cO 4 [.int v_thrown, .ref q_text, .int v_textSize, .int v_place, .int v_people, .ref q_ageing, .ref q_page, .int v_readPeople, .ref q_readAgeing, .ref q_readPage, .ref q_book, .int v_acts, .ref q_kept, .ref q_isKept, .int v_heard, .ref q_heardWho, .ref q_heardIs, .long v_seed, .ref q_tried, .ref q_chooser, .int v_choosers, .ref q_best, .int v_sets, .int v_surely, .ref q_alives]), (q_page, cA E 25 v_page)]) [0, 1] rfl (by decide) ?_
  refine x_iconst (v := 1) (pc' := 11) hZ (by decide) dX4_isAlone_10 rfl ?_
  refine x_iload_n (pc' := 12) hZ dX4_isAlone_11 rfl 1 rfl ?_
  refine x_ishl (pc' := 13) hZ dX4_isAlone_12 rfl ?_
  refine x_icmp_ne (tgt := 20) (pc' := 16) hZ dX4_isAlone_13 (by decide) rfl (fun c13 => ?_) (fun c13 => ?_)
  · replace h := h.1 c13
    refine x_iconst (v := 0) (pc' := 21) hZ (by decide) dX4_isAlone_20 rfl ?_
    exact hRet _ _ _ _ dX4_isAlone_21 (by decide) ⟨rfl, h⟩
  · replace h := h.2 c13
    refine x_iconst (v := 1) (pc' := 17) hZ (by decide) dX4_isAlone_16 rfl ?_
    refine x_goto (pc' := 21) hZ dX4_isAlone_17 (by decide) ?_
    exact hRet _ _ _ _ dX4_isAlone_21 (by decide) ⟨rfl, h⟩
set_option maxHeartbeats 4000000 in
set_option maxRecDepth 100000 in
theorem t_X4_measures_36 (E : XE) (Z : ZC) (q_this : Nat) (q_text : Nat) (q_ageing : Nat) (q_page : Nat) (q_readAgeing : Nat) (q_readPage : Nat) (q_book : Nat) (q_kept : Nat) (q_isKept : Nat) (q_heardWho : Nat) (q_heardIs : Nat) (q_tried : Nat) (q_chooser : Nat) (q_best : Nat) (q_alives : Nat) (v_thrown : Int32) (v_textSize : Int32) (v_place : Int32) (v_people : Int32) (v_readPeople : Int32) (v_acts : Int32) (v_heard : Int32) (v_seed : Int64) (v_choosers : Int32) (v_sets : Int32) (v_surely : Int32) (v_page : Nat → Int32) (l1 : Int32) {K : Int32 → Int32 → Prop} (hZ : XOK E Z RX4 cX4_measures 4 { frames := 3, cells := 0, slots := 0, locals := 72 }) : ∀ (k : Nat) (l2 : Int32) (l3 : Int32), wl (fun rec v => b_X4_measures_36 l1 v_people v_page K rec v.1 v.2) k (l2, l3) → (∀ (l2 : Int32) (l3 : Int32), K l2 l3 → XW E Z 0 0 [(q_this, cO 4 [.int v_thrown, .ref q_text, .int v_textSize, .int v_place, .int v_people, .ref q_ageing, .ref q_page, .int v_readPeople, .ref q_readAgeing, .ref q_readPage, .ref q_book, .int v_acts, .ref q_kept, .ref q_isKept, .int v_heard, .ref q_heardWho, .ref q_heardIs, .long v_seed, .ref q_tried, .ref q_chooser, .int v_choosers, .ref q_best, .int v_sets, .int v_surely, .ref q_alives]), (q_page, cA E 25 v_page)] [(2, .int l2)] [] 73) → XW E Z 0 0 [(q_this, cO 4 [.int v_thrown, .ref q_text, .int v_textSize, .int v_place, .int v_people, .ref q_ageing, .ref q_page, .int v_readPeople, .ref q_readAgeing, .ref q_readPage, .ref q_book, .int v_acts, .ref q_kept, .ref q_isKept, .int v_heard, .ref q_heardWho, .ref q_heardIs, .long v_seed, .ref q_tried, .ref q_chooser, .int v_choosers, .ref q_best, .int v_sets, .int v_surely, .ref q_alives]), (q_page, cA E 25 v_page)] [(0, .ref q_this), (1, .int l1), (2, .int l2), (3, .int l3)] [] 36 := by
  intro k
  induction k with
  | zero =>
    intro l2 l3 h
    exact h.elim
  | succ k ih =>
    intro l2 l3 h hK
    replace h := wl_succ h
    try dsimp only at h
    unfold b_X4_measures_36 at h
    refine x_iload_n (pc' := 37) hZ dX4_measures_36 rfl 3 rfl ?_
    refine x_sipush (v := 999) (pc' := 40) hZ (by decide) dX4_measures_37 rfl ?_
    refine x_icmp_gt (tgt := 73) (pc' := 43) hZ dX4_measures_40 (by decide) rfl (fun c40 => ?_) (fun c40 => ?_)
    · replace h := h.1 c40
      refine x_lv [2] (lv' := [(2, .int l2)]) rfl ?_
      exact hK l2 l3 h
    · replace h := h.2 c40
      refine x_iload_n (pc' := 44) hZ dX4_measures_43 rfl 2 rfl ?_
      refine x_aload_n (pc' := 45) hZ dX4_measures_44 rfl 0 rfl ?_
      refine x_iload_n (pc' := 46) hZ dX4_measures_45 rfl 1 rfl ?_
      refine x_aload_n (pc' := 47) hZ dX4_measures_46 rfl 0 rfl ?_
      refine g_RX4_16 (pc' := 50) hZ dX4_measures_47 rfl 0 rfl rfl ?_
      refine x_bipush (v := 21) (pc' := 52) hZ (by decide) dX4_measures_50 rfl ?_
      have h52 : vp_in 21 25 := by unfold vp_in; decide
      refine x_iald (pc' := 53) hZ h52 dX4_measures_52 rfl 1 rfl ?_
      refine x_iload_n (pc' := 54) hZ dX4_measures_53 rfl 3 rfl ?_
      refine k_RX4_165 (pc' := 57) (q0 := 0) (as := [.int l1, .int (v_page (ix 21)), .int l3]) (rest := [.int l2]) (c' := 0) (n' := 0) (wr := []) hZ (c_X4_isAlone E q_this q_text q_ageing q_page q_readAgeing q_readPage q_book q_kept q_isKept q_heardWho q_heardIs q_tried q_chooser q_best q_alives v_thrown v_textSize v_place v_people v_readPeople v_acts v_heard v_seed v_choosers v_sets v_surely v_page l1 (v_page (ix 21)) l3 _ h) rfl dX4_measures_54 rfl rfl rfl rfl rfl (Nat.le_of_ble_eq_true rfl) (Nat.le_of_ble_eq_true rfl) (Nat.le_of_ble_eq_true rfl) rfl rfl (Nat.le_of_ble_eq_true rfl) (Nat.le_of_ble_eq_true rfl) [0, 1] [] rfl rfl (by decide) (by decide) (by decide) (fun r54 w54 hw => ?_)
      obtain ⟨rfl, h⟩ := hw
      refine x_ws (ws' := [(q_this, cO 4 [.int v_thrown, .ref q_text, .int v_textSize, .int v_place, .int v_people, .ref q_ageing, .ref q_page, .int v_readPeople, .ref q_readAgeing, .ref q_readPage, .ref q_book, .int v_acts, .ref q_kept, .ref q_isKept, .int v_heard, .ref q_heardWho, .ref q_heardIs, .long v_seed, .ref q_tried, .ref q_chooser, .int v_choosers, .ref q_best, .int v_sets, .int v_surely, .ref q_alives]), (q_page, cA E 25 v_page)]) [0, 1] rfl (by decide) ?_
      refine x_if_eq (tgt := 64) (pc' := 60) hZ dX4_measures_57 (by decide) rfl (fun c57 => ?_) (fun c57 => ?_)
      · replace h := h.1 c57
        refine x_iconst (v := 0) (pc' := 65) hZ (by decide) dX4_measures_64 rfl ?_
        refine x_iadd (pc' := 66) hZ dX4_measures_65 rfl ?_
        refine x_topi (fun x66 e66 => ?_)
        replace h := h x66 e66
        refine x_istore_n (i := 2) (pc' := 67) (lv' := [(2, .int x66), (0, .ref q_this), (1, .int l1), (3, .int l3)]) hZ dX4_measures_66 rfl rfl (by decide) rfl ?_
        obtain ⟨x67, e67⟩ : ∃ y : Int32, y = l3 + 1 := ⟨_, rfl⟩
        replace h := h x67 e67
        refine x_iinc (i := 3) (v := x67) (pc' := 70) (lv' := [(3, .int x67), (2, .int x66), (0, .ref q_this), (1, .int l1)]) hZ dX4_measures_67 rfl 3 rfl (by rw [e67]; rfl) (by decide) rfl ?_
        refine x_goto (pc' := 36) hZ dX4_measures_70 (by decide) ?_
        refine x_lv [2, 3, 1, 0] (lv' := [(0, .ref q_this), (1, .int l1), (2, .int x66), (3, .int x67)]) rfl ?_
        exact ih x66 x67 h hK
      · replace h := h.2 c57
        refine x_iconst (v := 1) (pc' := 61) hZ (by decide) dX4_measures_60 rfl ?_
        refine x_goto (pc' := 65) hZ dX4_measures_61 (by decide) ?_
        refine x_iadd (pc' := 66) hZ dX4_measures_65 rfl ?_
        refine x_topi (fun x66 e66 => ?_)
        replace h := h x66 e66
        refine x_istore_n (i := 2) (pc' := 67) (lv' := [(2, .int x66), (0, .ref q_this), (1, .int l1), (3, .int l3)]) hZ dX4_measures_66 rfl rfl (by decide) rfl ?_
        obtain ⟨x67, e67⟩ : ∃ y : Int32, y = l3 + 1 := ⟨_, rfl⟩
        replace h := h x67 e67
        refine x_iinc (i := 3) (v := x67) (pc' := 70) (lv' := [(3, .int x67), (2, .int x66), (0, .ref q_this), (1, .int l1)]) hZ dX4_measures_67 rfl 3 rfl (by rw [e67]; rfl) (by decide) rfl ?_
        refine x_goto (pc' := 36) hZ dX4_measures_70 (by decide) ?_
        refine x_lv [2, 3, 1, 0] (lv' := [(0, .ref q_this), (1, .int l1), (2, .int x66), (3, .int x67)]) rfl ?_
        exact ih x66 x67 h hK
set_option maxHeartbeats 4000000 in
set_option maxRecDepth 100000 in
theorem c_X4_measures (E : XE) (q_this : Nat) (q_text : Nat) (q_ageing : Nat) (q_page : Nat) (q_readAgeing : Nat) (q_readPage : Nat) (q_book : Nat) (q_kept : Nat) (q_isKept : Nat) (q_heardWho : Nat) (q_heardIs : Nat) (q_tried : Nat) (q_chooser : Nat) (q_best : Nat) (q_alives : Nat) (v_thrown : Int32) (v_textSize : Int32) (v_place : Int32) (v_people : Int32) (v_readPeople : Int32) (v_acts : Int32) (v_heard : Int32) (v_seed : Int64) (v_choosers : Int32) (v_sets : Int32) (v_surely : Int32) (v_page : Nat → Int32) (l1 : Int32) (post : Int32 → Int32 → Prop) (h : p_X4_measures v_thrown v_people v_page l1 post) : ConI E yX4_measures cX4_measures 4 .int { frames := 3, cells := 0, slots := 0, locals := 72 } 0 0 [.ref q_this, .int l1] [(q_this, cO 4 [.int v_thrown, .ref q_text, .int v_textSize, .int v_place, .int v_people, .ref q_ageing, .ref q_page, .int v_readPeople, .ref q_readAgeing, .ref q_readPage, .ref q_book, .int v_acts, .ref q_kept, .ref q_isKept, .int v_heard, .ref q_heardWho, .ref q_heardIs, .long v_seed, .ref q_tried, .ref q_chooser, .int v_choosers, .ref q_best, .int v_sets, .int v_surely, .ref q_alives]), (q_page, cA E 25 v_page)] (fun r w => ∃ (u_thrown : Int32), w = [(q_this, cO 4 [.int u_thrown, .ref q_text, .int v_textSize, .int v_place, .int v_people, .ref q_ageing, .ref q_page, .int v_readPeople, .ref q_readAgeing, .ref q_readPage, .ref q_book, .int v_acts, .ref q_kept, .ref q_isKept, .int v_heard, .ref q_heardWho, .ref q_heardIs, .long v_seed, .ref q_tried, .ref q_chooser, .int v_choosers, .ref q_best, .int v_sets, .int v_surely, .ref q_alives]), (q_page, cA E 25 v_page)] ∧ post r u_thrown) := by
  refine ConI.of (by decide +kernel) (Nat.le_of_ble_eq_true rfl) (fun Z hZ hI hRet => ?_)
  replace hZ : XOK E Z RX4 cX4_measures 4 { frames := 3, cells := 0, slots := 0, locals := 72 } := hZ
  clear hI
  show XW E Z 0 0 [(q_this, cO 4 [.int v_thrown, .ref q_text, .int v_textSize, .int v_place, .int v_people, .ref q_ageing, .ref q_page, .int v_readPeople, .ref q_readAgeing, .ref q_readPage, .ref q_book, .int v_acts, .ref q_kept, .ref q_isKept, .int v_heard, .ref q_heardWho, .ref q_heardIs, .long v_seed, .ref q_tried, .ref q_chooser, .int v_choosers, .ref q_best, .int v_sets, .int v_surely, .ref q_alives]), (q_page, cA E 25 v_page)] [(0, .ref q_this), (1, .int l1)] [] 0
  unfold p_X4_measures at h
  refine x_aload_n (pc' := 1) hZ dX4_measures_0 rfl 0 rfl ?_
  refine x_iconst (v := 0) (pc' := 2) hZ (by decide) dX4_measures_1 rfl ?_
  refine s_RX4_53 (pc' := 5) (ws' := [(q_this, cO 4 [.int 0, .ref q_text, .int v_textSize, .int v_place, .int v_people, .ref q_ageing, .ref q_page, .int v_readPeople, .ref q_readAgeing, .ref q_readPage, .ref q_book, .int v_acts, .ref q_kept, .ref q_isKept, .int v_heard, .ref q_heardWho, .ref q_heardIs, .long v_seed, .ref q_tried, .ref q_chooser, .int v_choosers, .ref q_best, .int v_sets, .int v_surely, .ref q_alives]), (q_page, cA E 25 v_page)]) hZ dX4_measures_2 rfl 0 rfl (Nat.le_of_ble_eq_true rfl) rfl ?_
  refine x_aload_n (pc' := 6) hZ dX4_measures_5 rfl 0 rfl ?_
  refine x_iload_n (pc' := 7) hZ dX4_measures_6 rfl 1 rfl ?_
  refine k_RX4_111 (pc' := 10) (q0 := 0) (as := [.int l1]) (rest := []) (c' := 0) (n' := 0) (wr := [(q_page, cA E 25 v_page)]) hZ (c_X4_noOne E q_this q_text q_ageing q_page q_readAgeing q_readPage q_book q_kept q_isKept q_heardWho q_heardIs q_tried q_chooser q_best q_alives 0 v_textSize v_place v_people v_readPeople v_acts v_heard v_seed v_choosers v_sets v_surely l1 _ h) rfl dX4_measures_7 rfl rfl rfl rfl rfl (Nat.le_of_ble_eq_true rfl) (Nat.le_of_ble_eq_true rfl) (Nat.le_of_ble_eq_true rfl) rfl rfl (Nat.le_of_ble_eq_true rfl) (Nat.le_of_ble_eq_true rfl) [0] [1] rfl rfl (by decide) (by decide) (by decide) (fun r7 w7 hw => ?_)
  obtain ⟨rfl, h⟩ := hw
  refine x_ws (ws' := [(q_this, cO 4 [.int 0, .ref q_text, .int v_textSize, .int v_place, .int v_people, .ref q_ageing, .ref q_page, .int v_readPeople, .ref q_readAgeing, .ref q_readPage, .ref q_book, .int v_acts, .ref q_kept, .ref q_isKept, .int v_heard, .ref q_heardWho, .ref q_heardIs, .long v_seed, .ref q_tried, .ref q_chooser, .int v_choosers, .ref q_best, .int v_sets, .int v_surely, .ref q_alives]), (q_page, cA E 25 v_page)]) [1, 0] rfl (by decide) ?_
  refine x_if_eq (tgt := 15) (pc' := 13) hZ dX4_measures_10 (by decide) rfl (fun c10 => ?_) (fun c10 => ?_)
  · replace h := h.1 c10
    refine x_aload_n (pc' := 16) hZ dX4_measures_15 rfl 0 rfl ?_
    refine g_RX4_16 (pc' := 19) hZ dX4_measures_16 rfl 0 rfl rfl ?_
    refine x_bipush (v := 21) (pc' := 21) hZ (by decide) dX4_measures_19 rfl ?_
    have h21 : vp_in 21 25 := by unfold vp_in; decide
    refine x_iald (pc' := 22) hZ h21 dX4_measures_21 rfl 1 rfl ?_
    refine x_iload_n (pc' := 23) hZ dX4_measures_22 rfl 1 rfl ?_
    refine k_RX4_90 (pc' := 26) (as := [.int (v_page (ix 21)), .int l1]) (rest := []) (c' := 0) (n' := 0) (wr := [(q_this, cO 4 [.int 0, .ref q_text, .int v_textSize, .int v_place, .int v_people, .ref q_ageing, .ref q_page, .int v_readPeople, .ref q_readAgeing, .ref q_readPage, .ref q_book, .int v_acts, .ref q_kept, .ref q_isKept, .int v_heard, .ref q_heardWho, .ref q_heardIs, .long v_seed, .ref q_tried, .ref q_chooser, .int v_choosers, .ref q_best, .int v_sets, .int v_surely, .ref q_alives]), (q_page, cA E 25 v_page)]) hZ (c_X4_has E (v_page (ix 21)) l1 _ h) dX4_measures_23 rfl rfl rfl rfl rfl (Nat.le_of_ble_eq_true rfl) (Nat.le_of_ble_eq_true rfl) (Nat.le_of_ble_eq_true rfl) rfl rfl (Nat.le_of_ble_eq_true rfl) (Nat.le_of_ble_eq_true rfl) [] [0, 1] rfl rfl (by decide) (by decide) (by decide) (fun r23 w23 hw => ?_)
    obtain ⟨rfl, h⟩ := hw
    refine x_ws (ws' := [(q_this, cO 4 [.int 0, .ref q_text, .int v_textSize, .int v_place, .int v_people, .ref q_ageing, .ref q_page, .int v_readPeople, .ref q_readAgeing, .ref q_readPage, .ref q_book, .int v_acts, .ref q_kept, .ref q_isKept, .int v_heard, .ref q_heardWho, .ref q_heardIs, .long v_seed, .ref q_tried, .ref q_chooser, .int v_choosers, .ref q_best, .int v_sets, .int v_surely, .ref q_alives]), (q_page, cA E 25 v_page)]) [0, 1] rfl (by decide) ?_
    refine x_if_ne (tgt := 32) (pc' := 29) hZ dX4_measures_26 (by decide) rfl (fun c26 => ?_) (fun c26 => ?_)
    · replace h := h.1 c26
      refine x_iconst (v := 0) (pc' := 33) hZ (by decide) dX4_measures_32 rfl ?_
      refine x_istore_n (i := 2) (pc' := 34) (lv' := [(2, .int 0), (0, .ref q_this), (1, .int l1)]) hZ dX4_measures_33 rfl rfl (by decide) rfl ?_
      refine x_iconst (v := 1) (pc' := 35) hZ (by decide) dX4_measures_34 rfl ?_
      refine x_istore_n (i := 3) (pc' := 36) (lv' := [(3, .int 1), (2, .int 0), (0, .ref q_this), (1, .int l1)]) hZ dX4_measures_35 rfl rfl (by decide) rfl ?_
      refine x_lv [2, 3, 1, 0] (lv' := [(0, .ref q_this), (1, .int l1), (2, .int 0), (3, .int 1)]) rfl ?_
      obtain ⟨k36, h⟩ := h
      refine t_X4_measures_36 E Z q_this q_text q_ageing q_page q_readAgeing q_readPage q_book q_kept q_isKept q_heardWho q_heardIs q_tried q_chooser q_best q_alives 0 v_textSize v_place v_people v_readPeople v_acts v_heard v_seed v_choosers v_sets v_surely v_page l1 hZ  _ 0 1 h (fun l2_36 l3_36 h => ?_)
      refine x_iload_n (pc' := 74) hZ dX4_measures_73 rfl 0 rfl ?_
      exact hRet _ _ _ _ dX4_measures_74 ⟨_, rfl, h⟩
    · replace h := h.2 c26
      refine x_bipush (v := (-3)) (pc' := 31) hZ (by decide) dX4_measures_29 rfl ?_
      exact hRet _ _ _ _ dX4_measures_31 ⟨_, rfl, h⟩
  · replace h := h.2 c10
    refine x_iconst (v := (-1)) (pc' := 14) hZ (by decide) dX4_measures_13 rfl ?_
    exact hRet _ _ _ _ dX4_measures_14 ⟨_, rfl, h⟩
set_option maxHeartbeats 4000000 in
set_option maxRecDepth 100000 in
theorem c_X4_apart (E : XE) (l0 : Int32) (l1 : Int32) (post : Int32 → Prop) (h : p_X4_apart l0 l1 post) : ConI E yX4_apart cX4_apart 2 .int { frames := 0, cells := 0, slots := 0, locals := 0 } 0 0 [.int l0, .int l1] [] (fun r w => w = [] ∧ post r ) := by
  refine ConI.of (by decide +kernel) (Nat.le_of_ble_eq_true rfl) (fun Z hZ hI hRet => ?_)
  replace hZ : XOK E Z RX4 cX4_apart 2 { frames := 0, cells := 0, slots := 0, locals := 0 } := hZ
  clear hI
  show XW E Z 0 0 [] [(0, .int l0), (1, .int l1)] [] 0
  unfold p_X4_apart at h
  refine x_iload_n (pc' := 1) hZ dX4_apart_0 rfl 0 rfl ?_
  refine x_iload_n (pc' := 2) hZ dX4_apart_1 rfl 1 rfl ?_
  refine x_icmp_ge (tgt := 11) (pc' := 5) hZ dX4_apart_2 (by decide) rfl (fun c2 => ?_) (fun c2 => ?_)
  · replace h := h.1 c2
    refine x_iload_n (pc' := 12) hZ dX4_apart_11 rfl 0 rfl ?_
    refine x_iload_n (pc' := 13) hZ dX4_apart_12 rfl 1 rfl ?_
    refine x_isub (pc' := 14) hZ dX4_apart_13 rfl ?_
    exact hRet _ _ _ _ dX4_apart_14 ⟨rfl, h⟩
  · replace h := h.2 c2
    refine x_iload_n (pc' := 6) hZ dX4_apart_5 rfl 1 rfl ?_
    refine x_iload_n (pc' := 7) hZ dX4_apart_6 rfl 0 rfl ?_
    refine x_isub (pc' := 8) hZ dX4_apart_7 rfl ?_
    refine x_goto (pc' := 14) hZ dX4_apart_8 (by decide) ?_
    exact hRet _ _ _ _ dX4_apart_14 ⟨rfl, h⟩
set_option maxHeartbeats 4000000 in
set_option maxRecDepth 100000 in
theorem t_X4_nearest_42 (E : XE) (Z : ZC) (q_this : Nat) (q_text : Nat) (q_ageing : Nat) (q_page : Nat) (q_readAgeing : Nat) (q_readPage : Nat) (q_book : Nat) (q_kept : Nat) (q_isKept : Nat) (q_heardWho : Nat) (q_heardIs : Nat) (q_tried : Nat) (q_chooser : Nat) (q_best : Nat) (q_alives : Nat) (v_thrown : Int32) (v_textSize : Int32) (v_place : Int32) (v_people : Int32) (v_readPeople : Int32) (v_acts : Int32) (v_heard : Int32) (v_seed : Int64) (v_choosers : Int32) (v_sets : Int32) (v_surely : Int32) (v_page : Nat → Int32) (l1 : Int32) {K : Int32 → Int32 → Int32 → Prop} (hZ : XOK E Z RX4 cX4_nearest 6 { frames := 3, cells := 0, slots := 0, locals := 72 }) : ∀ (k : Nat) (l2 : Int32) (l3 : Int32) (l4 : Int32), wl (fun rec v => b_X4_nearest_42 l1 v_people v_page K rec v.1 v.2.1 v.2.2) k (l2, l3, l4) → (∀ (l2 : Int32) (l3 : Int32) (l4 : Int32), K l2 l3 l4 → XW E Z 0 0 [(q_this, cO 4 [.int v_thrown, .ref q_text, .int v_textSize, .int v_place, .int v_people, .ref q_ageing, .ref q_page, .int v_readPeople, .ref q_readAgeing, .ref q_readPage, .ref q_book, .int v_acts, .ref q_kept, .ref q_isKept, .int v_heard, .ref q_heardWho, .ref q_heardIs, .long v_seed, .ref q_tried, .ref q_chooser, .int v_choosers, .ref q_best, .int v_sets, .int v_surely, .ref q_alives]), (q_page, cA E 25 v_page)] [(2, .int l2)] [] 134) → XW E Z 0 0 [(q_this, cO 4 [.int v_thrown, .ref q_text, .int v_textSize, .int v_place, .int v_people, .ref q_ageing, .ref q_page, .int v_readPeople, .ref q_readAgeing, .ref q_readPage, .ref q_book, .int v_acts, .ref q_kept, .ref q_isKept, .int v_heard, .ref q_heardWho, .ref q_heardIs, .long v_seed, .ref q_tried, .ref q_chooser, .int v_choosers, .ref q_best, .int v_sets, .int v_surely, .ref q_alives]), (q_page, cA E 25 v_page)] [(0, .ref q_this), (1, .int l1), (2, .int l2), (3, .int l3), (4, .int l4)] [] 42 := by
  intro k
  induction k with
  | zero =>
    intro l2 l3 l4 h
    exact h.elim
  | succ k ih =>
    intro l2 l3 l4 h hK
    replace h := wl_succ h
    try dsimp only at h
    unfold b_X4_nearest_42 at h
    refine x_iload (pc' := 44) hZ dX4_nearest_42 rfl 4 rfl ?_
    refine x_sipush (v := 999) (pc' := 47) hZ (by decide) dX4_nearest_44 rfl ?_
    refine x_icmp_gt (tgt := 134) (pc' := 50) hZ dX4_nearest_47 (by decide) rfl (fun c47 => ?_) (fun c47 => ?_)
    · replace h := h.1 c47
      refine x_lv [2] (lv' := [(2, .int l2)]) rfl ?_
      exact hK l2 l3 l4 h
    · replace h := h.2 c47
      refine x_iload (pc' := 52) hZ dX4_nearest_50 rfl 4 rfl ?_
      refine x_bipush (v := 100) (pc' := 54) hZ (by decide) dX4_nearest_52 rfl ?_
      refine x_idiv (pc' := 55) hZ (by decide) dX4_nearest_54 rfl ?_
      refine x_aload_n (pc' := 56) hZ dX4_nearest_55 rfl 0 rfl ?_
      refine g_RX4_16 (pc' := 59) hZ dX4_nearest_56 rfl 0 rfl rfl ?_
      refine x_iconst (v := 0) (pc' := 60) hZ (by decide) dX4_nearest_59 rfl ?_
      have h60 : vp_in 0 25 := by unfold vp_in; decide
      refine x_iald (pc' := 61) hZ h60 dX4_nearest_60 rfl 1 rfl ?_
      refine k_RX4_169 (pc' := 64) (as := [.int (l4 / 100), .int (v_page (ix 0))]) (rest := []) (c' := 0) (n' := 0) (wr := [(q_this, cO 4 [.int v_thrown, .ref q_text, .int v_textSize, .int v_place, .int v_people, .ref q_ageing, .ref q_page, .int v_readPeople, .ref q_readAgeing, .ref q_readPage, .ref q_book, .int v_acts, .ref q_kept, .ref q_isKept, .int v_heard, .ref q_heardWho, .ref q_heardIs, .long v_seed, .ref q_tried, .ref q_chooser, .int v_choosers, .ref q_best, .int v_sets, .int v_surely, .ref q_alives]), (q_page, cA E 25 v_page)]) hZ (c_X4_apart E (l4 / 100) (v_page (ix 0)) _ h) dX4_nearest_61 rfl rfl rfl rfl rfl (Nat.le_of_ble_eq_true rfl) (Nat.le_of_ble_eq_true rfl) (Nat.le_of_ble_eq_true rfl) rfl rfl (Nat.le_of_ble_eq_true rfl) (Nat.le_of_ble_eq_true rfl) [] [0, 1] rfl rfl (by decide) (by decide) (by decide) (fun r61 w61 hw => ?_)
      obtain ⟨rfl, h⟩ := hw
      refine x_ws (ws' := [(q_this, cO 4 [.int v_thrown, .ref q_text, .int v_textSize, .int v_place, .int v_people, .ref q_ageing, .ref q_page, .int v_readPeople, .ref q_readAgeing, .ref q_readPage, .ref q_book, .int v_acts, .ref q_kept, .ref q_isKept, .int v_heard, .ref q_heardWho, .ref q_heardIs, .long v_seed, .ref q_tried, .ref q_chooser, .int v_choosers, .ref q_best, .int v_sets, .int v_surely, .ref q_alives]), (q_page, cA E 25 v_page)]) [0, 1] rfl (by decide) ?_
      refine x_iload (pc' := 66) hZ dX4_nearest_64 rfl 4 rfl ?_
      refine x_bipush (v := 10) (pc' := 68) hZ (by decide) dX4_nearest_66 rfl ?_
      refine x_idiv (pc' := 69) hZ (by decide) dX4_nearest_68 rfl ?_
      refine x_bipush (v := 10) (pc' := 71) hZ (by decide) dX4_nearest_69 rfl ?_
      refine x_irem (pc' := 72) hZ (by decide) dX4_nearest_71 rfl ?_
      refine x_aload_n (pc' := 73) hZ dX4_nearest_72 rfl 0 rfl ?_
      refine g_RX4_16 (pc' := 76) hZ dX4_nearest_73 rfl 0 rfl rfl ?_
      refine x_iconst (v := 1) (pc' := 77) hZ (by decide) dX4_nearest_76 rfl ?_
      have h77 : vp_in 1 25 := by unfold vp_in; decide
      refine x_iald (pc' := 78) hZ h77 dX4_nearest_77 rfl 1 rfl ?_
      refine k_RX4_169 (pc' := 81) (as := [.int (jrem (l4 / 10) 10), .int (v_page (ix 1))]) (rest := [.int r61]) (c' := 0) (n' := 0) (wr := [(q_this, cO 4 [.int v_thrown, .ref q_text, .int v_textSize, .int v_place, .int v_people, .ref q_ageing, .ref q_page, .int v_readPeople, .ref q_readAgeing, .ref q_readPage, .ref q_book, .int v_acts, .ref q_kept, .ref q_isKept, .int v_heard, .ref q_heardWho, .ref q_heardIs, .long v_seed, .ref q_tried, .ref q_chooser, .int v_choosers, .ref q_best, .int v_sets, .int v_surely, .ref q_alives]), (q_page, cA E 25 v_page)]) hZ (c_X4_apart E (jrem (l4 / 10) 10) (v_page (ix 1)) _ h) dX4_nearest_78 rfl rfl rfl rfl rfl (Nat.le_of_ble_eq_true rfl) (Nat.le_of_ble_eq_true rfl) (Nat.le_of_ble_eq_true rfl) rfl rfl (Nat.le_of_ble_eq_true rfl) (Nat.le_of_ble_eq_true rfl) [] [0, 1] rfl rfl (by decide) (by decide) (by decide) (fun r78 w78 hw => ?_)
      obtain ⟨rfl, h⟩ := hw
      refine x_ws (ws' := [(q_this, cO 4 [.int v_thrown, .ref q_text, .int v_textSize, .int v_place, .int v_people, .ref q_ageing, .ref q_page, .int v_readPeople, .ref q_readAgeing, .ref q_readPage, .ref q_book, .int v_acts, .ref q_kept, .ref q_isKept, .int v_heard, .ref q_heardWho, .ref q_heardIs, .long v_seed, .ref q_tried, .ref q_chooser, .int v_choosers, .ref q_best, .int v_sets, .int v_surely, .ref q_alives]), (q_page, cA E 25 v_page)]) [0, 1] rfl (by decide) ?_
      refine x_iadd (pc' := 82) hZ dX4_nearest_81 rfl ?_
      refine x_iload (pc' := 84) hZ dX4_nearest_82 rfl 4 rfl ?_
      refine x_bipush (v := 10) (pc' := 86) hZ (by decide) dX4_nearest_84 rfl ?_
      refine x_irem (pc' := 87) hZ (by decide) dX4_nearest_86 rfl ?_
      refine x_aload_n (pc' := 88) hZ dX4_nearest_87 rfl 0 rfl ?_
      refine g_RX4_16 (pc' := 91) hZ dX4_nearest_88 rfl 0 rfl rfl ?_
      refine x_iconst (v := 2) (pc' := 92) hZ (by decide) dX4_nearest_91 rfl ?_
      have h92 : vp_in 2 25 := by unfold vp_in; decide
      refine x_iald (pc' := 93) hZ h92 dX4_nearest_92 rfl 1 rfl ?_
      refine k_RX4_169 (pc' := 96) (as := [.int (jrem l4 10), .int (v_page (ix 2))]) (rest := [.int (r61 + r78)]) (c' := 0) (n' := 0) (wr := [(q_this, cO 4 [.int v_thrown, .ref q_text, .int v_textSize, .int v_place, .int v_people, .ref q_ageing, .ref q_page, .int v_readPeople, .ref q_readAgeing, .ref q_readPage, .ref q_book, .int v_acts, .ref q_kept, .ref q_isKept, .int v_heard, .ref q_heardWho, .ref q_heardIs, .long v_seed, .ref q_tried, .ref q_chooser, .int v_choosers, .ref q_best, .int v_sets, .int v_surely, .ref q_alives]), (q_page, cA E 25 v_page)]) hZ (c_X4_apart E (jrem l4 10) (v_page (ix 2)) _ h) dX4_nearest_93 rfl rfl rfl rfl rfl (Nat.le_of_ble_eq_true rfl) (Nat.le_of_ble_eq_true rfl) (Nat.le_of_ble_eq_true rfl) rfl rfl (Nat.le_of_ble_eq_true rfl) (Nat.le_of_ble_eq_true rfl) [] [0, 1] rfl rfl (by decide) (by decide) (by decide) (fun r93 w93 hw => ?_)
      obtain ⟨rfl, h⟩ := hw
      refine x_ws (ws' := [(q_this, cO 4 [.int v_thrown, .ref q_text, .int v_textSize, .int v_place, .int v_people, .ref q_ageing, .ref q_page, .int v_readPeople, .ref q_readAgeing, .ref q_readPage, .ref q_book, .int v_acts, .ref q_kept, .ref q_isKept, .int v_heard, .ref q_heardWho, .ref q_heardIs, .long v_seed, .ref q_tried, .ref q_chooser, .int v_choosers, .ref q_best, .int v_sets, .int v_surely, .ref q_alives]), (q_page, cA E 25 v_page)]) [0, 1] rfl (by decide) ?_
      refine x_iadd (pc' := 97) hZ dX4_nearest_96 rfl ?_
      refine x_topi (fun x97 e97 => ?_)
      replace h := h x97 e97
      refine x_istore (i := 5) (pc' := 99) (lv' := [(5, .int x97), (0, .ref q_this), (1, .int l1), (2, .int l2), (3, .int l3), (4, .int l4)]) hZ dX4_nearest_97 rfl (by decide) rfl ?_
      refine x_iload (pc' := 101) hZ dX4_nearest_99 rfl 0 rfl ?_
      refine x_iload_n (pc' := 102) hZ dX4_nearest_101 rfl 4 rfl ?_
      refine x_icmp_ge (tgt := 128) (pc' := 105) hZ dX4_nearest_102 (by decide) rfl (fun c102 => ?_) (fun c102 => ?_)
      · replace h := h.1 c102
        obtain ⟨x128, e128⟩ : ∃ y : Int32, y = l4 + 1 := ⟨_, rfl⟩
        replace h := h x128 e128
        refine x_iinc (i := 4) (v := x128) (pc' := 131) (lv' := [(4, .int x128), (5, .int x97), (0, .ref q_this), (1, .int l1), (2, .int l2), (3, .int l3)]) hZ dX4_nearest_128 rfl 5 rfl (by rw [e128]; rfl) (by decide) rfl ?_
        refine x_goto (pc' := 42) hZ dX4_nearest_131 (by decide) ?_
        refine x_lv [2, 3, 4, 5, 0] (lv' := [(0, .ref q_this), (1, .int l1), (2, .int l2), (3, .int l3), (4, .int x128)]) rfl ?_
        exact ih l2 l3 x128 h hK
      · replace h := h.2 c102
        refine x_aload_n (pc' := 106) hZ dX4_nearest_105 rfl 1 rfl ?_
        refine x_iload_n (pc' := 107) hZ dX4_nearest_106 rfl 2 rfl ?_
        refine x_aload_n (pc' := 108) hZ dX4_nearest_107 rfl 1 rfl ?_
        refine g_RX4_16 (pc' := 111) hZ dX4_nearest_108 rfl 0 rfl rfl ?_
        refine x_bipush (v := 21) (pc' := 113) hZ (by decide) dX4_nearest_111 rfl ?_
        have h113 : vp_in 21 25 := by unfold vp_in; decide
        refine x_iald (pc' := 114) hZ h113 dX4_nearest_113 rfl 1 rfl ?_
        refine x_iload (pc' := 116) hZ dX4_nearest_114 rfl 5 rfl ?_
        refine k_RX4_165 (pc' := 119) (q0 := 0) (as := [.int l1, .int (v_page (ix 21)), .int l4]) (rest := []) (c' := 0) (n' := 0) (wr := []) hZ (c_X4_isAlone E q_this q_text q_ageing q_page q_readAgeing q_readPage q_book q_kept q_isKept q_heardWho q_heardIs q_tried q_chooser q_best q_alives v_thrown v_textSize v_place v_people v_readPeople v_acts v_heard v_seed v_choosers v_sets v_surely v_page l1 (v_page (ix 21)) l4 _ h) rfl dX4_nearest_116 rfl rfl rfl rfl rfl (Nat.le_of_ble_eq_true rfl) (Nat.le_of_ble_eq_true rfl) (Nat.le_of_ble_eq_true rfl) rfl rfl (Nat.le_of_ble_eq_true rfl) (Nat.le_of_ble_eq_true rfl) [0, 1] [] rfl rfl (by decide) (by decide) (by decide) (fun r116 w116 hw => ?_)
        obtain ⟨rfl, h⟩ := hw
        refine x_ws (ws' := [(q_this, cO 4 [.int v_thrown, .ref q_text, .int v_textSize, .int v_place, .int v_people, .ref q_ageing, .ref q_page, .int v_readPeople, .ref q_readAgeing, .ref q_readPage, .ref q_book, .int v_acts, .ref q_kept, .ref q_isKept, .int v_heard, .ref q_heardWho, .ref q_heardIs, .long v_seed, .ref q_tried, .ref q_chooser, .int v_choosers, .ref q_best, .int v_sets, .int v_surely, .ref q_alives]), (q_page, cA E 25 v_page)]) [0, 1] rfl (by decide) ?_
        refine x_if_eq (tgt := 128) (pc' := 122) hZ dX4_nearest_119 (by decide) rfl (fun c119 => ?_) (fun c119 => ?_)
        · replace h := h.1 c119
          obtain ⟨x128, e128⟩ : ∃ y : Int32, y = l4 + 1 := ⟨_, rfl⟩
          replace h := h x128 e128
          refine x_iinc (i := 4) (v := x128) (pc' := 131) (lv' := [(4, .int x128), (5, .int x97), (0, .ref q_this), (1, .int l1), (2, .int l2), (3, .int l3)]) hZ dX4_nearest_128 rfl 5 rfl (by rw [e128]; rfl) (by decide) rfl ?_
          refine x_goto (pc' := 42) hZ dX4_nearest_131 (by decide) ?_
          refine x_lv [2, 3, 4, 5, 0] (lv' := [(0, .ref q_this), (1, .int l1), (2, .int l2), (3, .int l3), (4, .int x128)]) rfl ?_
          exact ih l2 l3 x128 h hK
        · replace h := h.2 c119
          refine x_iload (pc' := 124) hZ dX4_nearest_122 rfl 5 rfl ?_
          refine x_istore_n (i := 2) (pc' := 125) (lv' := [(2, .int l4), (5, .int x97), (0, .ref q_this), (1, .int l1), (3, .int l3), (4, .int l4)]) hZ dX4_nearest_124 rfl rfl (by decide) rfl ?_
          refine x_iload (pc' := 127) hZ dX4_nearest_125 rfl 1 rfl ?_
          refine x_istore_n (i := 3) (pc' := 128) (lv' := [(3, .int x97), (2, .int l4), (5, .int x97), (0, .ref q_this), (1, .int l1), (4, .int l4)]) hZ dX4_nearest_127 rfl rfl (by decide) rfl ?_
          obtain ⟨x128, e128⟩ : ∃ y : Int32, y = l4 + 1 := ⟨_, rfl⟩
          replace h := h x128 e128
          refine x_iinc (i := 4) (v := x128) (pc' := 131) (lv' := [(4, .int x128), (3, .int x97), (2, .int l4), (5, .int x97), (0, .ref q_this), (1, .int l1)]) hZ dX4_nearest_128 rfl 5 rfl (by rw [e128]; rfl) (by decide) rfl ?_
          refine x_goto (pc' := 42) hZ dX4_nearest_131 (by decide) ?_
          refine x_lv [4, 5, 2, 1, 0] (lv' := [(0, .ref q_this), (1, .int l1), (2, .int l4), (3, .int x97), (4, .int x128)]) rfl ?_
          exact ih l4 x97 x128 h hK
set_option maxHeartbeats 4000000 in
set_option maxRecDepth 100000 in
theorem c_X4_nearest (E : XE) (q_this : Nat) (q_text : Nat) (q_ageing : Nat) (q_page : Nat) (q_readAgeing : Nat) (q_readPage : Nat) (q_book : Nat) (q_kept : Nat) (q_isKept : Nat) (q_heardWho : Nat) (q_heardIs : Nat) (q_tried : Nat) (q_chooser : Nat) (q_best : Nat) (q_alives : Nat) (v_thrown : Int32) (v_textSize : Int32) (v_place : Int32) (v_people : Int32) (v_readPeople : Int32) (v_acts : Int32) (v_heard : Int32) (v_seed : Int64) (v_choosers : Int32) (v_sets : Int32) (v_surely : Int32) (v_page : Nat → Int32) (l1 : Int32) (post : Int32 → Int32 → Prop) (h : p_X4_nearest v_thrown v_people v_page l1 post) : ConI E yX4_nearest cX4_nearest 6 .int { frames := 3, cells := 0, slots := 0, locals := 72 } 0 0 [.ref q_this, .int l1] [(q_this, cO 4 [.int v_thrown, .ref q_text, .int v_textSize, .int v_place, .int v_people, .ref q_ageing, .ref q_page, .int v_readPeople, .ref q_readAgeing, .ref q_readPage, .ref q_book, .int v_acts, .ref q_kept, .ref q_isKept, .int v_heard, .ref q_heardWho, .ref q_heardIs, .long v_seed, .ref q_tried, .ref q_chooser, .int v_choosers, .ref q_best, .int v_sets, .int v_surely, .ref q_alives]), (q_page, cA E 25 v_page)] (fun r w => ∃ (u_thrown : Int32), w = [(q_this, cO 4 [.int u_thrown, .ref q_text, .int v_textSize, .int v_place, .int v_people, .ref q_ageing, .ref q_page, .int v_readPeople, .ref q_readAgeing, .ref q_readPage, .ref q_book, .int v_acts, .ref q_kept, .ref q_isKept, .int v_heard, .ref q_heardWho, .ref q_heardIs, .long v_seed, .ref q_tried, .ref q_chooser, .int v_choosers, .ref q_best, .int v_sets, .int v_surely, .ref q_alives]), (q_page, cA E 25 v_page)] ∧ post r u_thrown) := by
  refine ConI.of (by decide +kernel) (Nat.le_of_ble_eq_true rfl) (fun Z hZ hI hRet => ?_)
  replace hZ : XOK E Z RX4 cX4_nearest 6 { frames := 3, cells := 0, slots := 0, locals := 72 } := hZ
  clear hI
  show XW E Z 0 0 [(q_this, cO 4 [.int v_thrown, .ref q_text, .int v_textSize, .int v_place, .int v_people, .ref q_ageing, .ref q_page, .int v_readPeople, .ref q_readAgeing, .ref q_readPage, .ref q_book, .int v_acts, .ref q_kept, .ref q_isKept, .int v_heard, .ref q_heardWho, .ref q_heardIs, .long v_seed, .ref q_tried, .ref q_chooser, .int v_choosers, .ref q_best, .int v_sets, .int v_surely, .ref q_alives]), (q_page, cA E 25 v_page)] [(0, .ref q_this), (1, .int l1)] [] 0
  unfold p_X4_nearest at h
  refine x_aload_n (pc' := 1) hZ dX4_nearest_0 rfl 0 rfl ?_
  refine x_iconst (v := 0) (pc' := 2) hZ (by decide) dX4_nearest_1 rfl ?_
  refine s_RX4_53 (pc' := 5) (ws' := [(q_this, cO 4 [.int 0, .ref q_text, .int v_textSize, .int v_place, .int v_people, .ref q_ageing, .ref q_page, .int v_readPeople, .ref q_readAgeing, .ref q_readPage, .ref q_book, .int v_acts, .ref q_kept, .ref q_isKept, .int v_heard, .ref q_heardWho, .ref q_heardIs, .long v_seed, .ref q_tried, .ref q_chooser, .int v_choosers, .ref q_best, .int v_sets, .int v_surely, .ref q_alives]), (q_page, cA E 25 v_page)]) hZ dX4_nearest_2 rfl 0 rfl (Nat.le_of_ble_eq_true rfl) rfl ?_
  refine x_aload_n (pc' := 6) hZ dX4_nearest_5 rfl 0 rfl ?_
  refine x_iload_n (pc' := 7) hZ dX4_nearest_6 rfl 1 rfl ?_
  refine k_RX4_111 (pc' := 10) (q0 := 0) (as := [.int l1]) (rest := []) (c' := 0) (n' := 0) (wr := [(q_page, cA E 25 v_page)]) hZ (c_X4_noOne E q_this q_text q_ageing q_page q_readAgeing q_readPage q_book q_kept q_isKept q_heardWho q_heardIs q_tried q_chooser q_best q_alives 0 v_textSize v_place v_people v_readPeople v_acts v_heard v_seed v_choosers v_sets v_surely l1 _ h) rfl dX4_nearest_7 rfl rfl rfl rfl rfl (Nat.le_of_ble_eq_true rfl) (Nat.le_of_ble_eq_true rfl) (Nat.le_of_ble_eq_true rfl) rfl rfl (Nat.le_of_ble_eq_true rfl) (Nat.le_of_ble_eq_true rfl) [0] [1] rfl rfl (by decide) (by decide) (by decide) (fun r7 w7 hw => ?_)
  obtain ⟨rfl, h⟩ := hw
  refine x_ws (ws' := [(q_this, cO 4 [.int 0, .ref q_text, .int v_textSize, .int v_place, .int v_people, .ref q_ageing, .ref q_page, .int v_readPeople, .ref q_readAgeing, .ref q_readPage, .ref q_book, .int v_acts, .ref q_kept, .ref q_isKept, .int v_heard, .ref q_heardWho, .ref q_heardIs, .long v_seed, .ref q_tried, .ref q_chooser, .int v_choosers, .ref q_best, .int v_sets, .int v_surely, .ref q_alives]), (q_page, cA E 25 v_page)]) [1, 0] rfl (by decide) ?_
  refine x_if_eq (tgt := 15) (pc' := 13) hZ dX4_nearest_10 (by decide) rfl (fun c10 => ?_) (fun c10 => ?_)
  · replace h := h.1 c10
    refine x_aload_n (pc' := 16) hZ dX4_nearest_15 rfl 0 rfl ?_
    refine g_RX4_16 (pc' := 19) hZ dX4_nearest_16 rfl 0 rfl rfl ?_
    refine x_bipush (v := 21) (pc' := 21) hZ (by decide) dX4_nearest_19 rfl ?_
    have h21 : vp_in 21 25 := by unfold vp_in; decide
    refine x_iald (pc' := 22) hZ h21 dX4_nearest_21 rfl 1 rfl ?_
    refine x_iload_n (pc' := 23) hZ dX4_nearest_22 rfl 1 rfl ?_
    refine k_RX4_90 (pc' := 26) (as := [.int (v_page (ix 21)), .int l1]) (rest := []) (c' := 0) (n' := 0) (wr := [(q_this, cO 4 [.int 0, .ref q_text, .int v_textSize, .int v_place, .int v_people, .ref q_ageing, .ref q_page, .int v_readPeople, .ref q_readAgeing, .ref q_readPage, .ref q_book, .int v_acts, .ref q_kept, .ref q_isKept, .int v_heard, .ref q_heardWho, .ref q_heardIs, .long v_seed, .ref q_tried, .ref q_chooser, .int v_choosers, .ref q_best, .int v_sets, .int v_surely, .ref q_alives]), (q_page, cA E 25 v_page)]) hZ (c_X4_has E (v_page (ix 21)) l1 _ h) dX4_nearest_23 rfl rfl rfl rfl rfl (Nat.le_of_ble_eq_true rfl) (Nat.le_of_ble_eq_true rfl) (Nat.le_of_ble_eq_true rfl) rfl rfl (Nat.le_of_ble_eq_true rfl) (Nat.le_of_ble_eq_true rfl) [] [0, 1] rfl rfl (by decide) (by decide) (by decide) (fun r23 w23 hw => ?_)
    obtain ⟨rfl, h⟩ := hw
    refine x_ws (ws' := [(q_this, cO 4 [.int 0, .ref q_text, .int v_textSize, .int v_place, .int v_people, .ref q_ageing, .ref q_page, .int v_readPeople, .ref q_readAgeing, .ref q_readPage, .ref q_book, .int v_acts, .ref q_kept, .ref q_isKept, .int v_heard, .ref q_heardWho, .ref q_heardIs, .long v_seed, .ref q_tried, .ref q_chooser, .int v_choosers, .ref q_best, .int v_sets, .int v_surely, .ref q_alives]), (q_page, cA E 25 v_page)]) [0, 1] rfl (by decide) ?_
    refine x_if_ne (tgt := 32) (pc' := 29) hZ dX4_nearest_26 (by decide) rfl (fun c26 => ?_) (fun c26 => ?_)
    · replace h := h.1 c26
      refine x_bipush (v := (-9)) (pc' := 34) hZ (by decide) dX4_nearest_32 rfl ?_
      refine x_istore_n (i := 2) (pc' := 35) (lv' := [(2, .int (-9)), (0, .ref q_this), (1, .int l1)]) hZ dX4_nearest_34 rfl rfl (by decide) rfl ?_
      refine x_sipush (v := 999) (pc' := 38) hZ (by decide) dX4_nearest_35 rfl ?_
      refine x_istore_n (i := 3) (pc' := 39) (lv' := [(3, .int 999), (2, .int (-9)), (0, .ref q_this), (1, .int l1)]) hZ dX4_nearest_38 rfl rfl (by decide) rfl ?_
      refine x_iconst (v := 1) (pc' := 40) hZ (by decide) dX4_nearest_39 rfl ?_
      refine x_istore (i := 4) (pc' := 42) (lv' := [(4, .int 1), (3, .int 999), (2, .int (-9)), (0, .ref q_this), (1, .int l1)]) hZ dX4_nearest_40 rfl (by decide) rfl ?_
      refine x_lv [3, 4, 2, 1, 0] (lv' := [(0, .ref q_this), (1, .int l1), (2, .int (-9)), (3, .int 999), (4, .int 1)]) rfl ?_
      obtain ⟨k42, h⟩ := h
      refine t_X4_nearest_42 E Z q_this q_text q_ageing q_page q_readAgeing q_readPage q_book q_kept q_isKept q_heardWho q_heardIs q_tried q_chooser q_best q_alives 0 v_textSize v_place v_people v_readPeople v_acts v_heard v_seed v_choosers v_sets v_surely v_page l1 hZ  _ (-9) 999 1 h (fun l2_42 l3_42 l4_42 h => ?_)
      refine x_iload_n (pc' := 135) hZ dX4_nearest_134 rfl 0 rfl ?_
      exact hRet _ _ _ _ dX4_nearest_135 ⟨_, rfl, h⟩
    · replace h := h.2 c26
      refine x_bipush (v := (-3)) (pc' := 31) hZ (by decide) dX4_nearest_29 rfl ?_
      exact hRet _ _ _ _ dX4_nearest_31 ⟨_, rfl, h⟩
  · replace h := h.2 c10
    refine x_iconst (v := (-1)) (pc' := 14) hZ (by decide) dX4_nearest_13 rfl ?_
    exact hRet _ _ _ _ dX4_nearest_14 ⟨_, rfl, h⟩
set_option maxHeartbeats 4000000 in
set_option maxRecDepth 100000 in
theorem t_X4_reign_21 (E : XE) (Z : ZC) (q_this : Nat) (q_text : Nat) (q_ageing : Nat) (q_page : Nat) (q_readAgeing : Nat) (q_readPage : Nat) (q_book : Nat) (q_kept : Nat) (q_isKept : Nat) (q_heardWho : Nat) (q_heardIs : Nat) (q_tried : Nat) (q_chooser : Nat) (q_best : Nat) (q_alives : Nat) (v_thrown : Int32) (v_textSize : Int32) (v_place : Int32) (v_people : Int32) (v_readPeople : Int32) (v_acts : Int32) (v_heard : Int32) (v_seed : Int64) (v_choosers : Int32) (v_sets : Int32) (v_surely : Int32) (v_ageing : Nat → Int32) (v_page : Nat → Int32) (l1 : Int32) {post : Int32 → Int32 → (Nat → Int32) → Prop} {K : Int32 → (Nat → Int32) → Prop} (hZ : XOK E Z RX4 cX4_reign 3 { frames := 3, cells := 0, slots := 0, locals := 76 }) (hRet : RetI E Z cX4_reign 0 0 (fun r w => ∃ (u_thrown : Int32) (u_tried : Nat → Int32), w = [(q_this, cO 4 [.int u_thrown, .ref q_text, .int v_textSize, .int v_place, .int v_people, .ref q_ageing, .ref q_page, .int v_readPeople, .ref q_readAgeing, .ref q_readPage, .ref q_book, .int v_acts, .ref q_kept, .ref q_isKept, .int v_heard, .ref q_heardWho, .ref q_heardIs, .long v_seed, .ref q_tried, .ref q_chooser, .int v_choosers, .ref q_best, .int v_sets, .int v_surely, .ref q_alives]), (q_ageing, cA E 6 v_ageing), (q_page, cA E 25 v_page), (q_tried, cA E 25 u_tried)] ∧ post r u_thrown u_tried)) : ∀ (k : Nat) (l2 : Int32) (v_tried : (Nat → Int32)), wl (fun rec v => b_X4_reign_21 l1 v_thrown v_people v_ageing post K rec v.1 v.2) k (l2, v_tried) → (∀ (l2 : Int32) (v_tried : (Nat → Int32)), K l2 v_tried → XW E Z 0 0 [(q_this, cO 4 [.int v_thrown, .ref q_text, .int v_textSize, .int v_place, .int v_people, .ref q_ageing, .ref q_page, .int v_readPeople, .ref q_readAgeing, .ref q_readPage, .ref q_book, .int v_acts, .ref q_kept, .ref q_isKept, .int v_heard, .ref q_heardWho, .ref q_heardIs, .long v_seed, .ref q_tried, .ref q_chooser, .int v_choosers, .ref q_best, .int v_sets, .int v_surely, .ref q_alives]), (q_ageing, cA E 6 v_ageing), (q_page, cA E 25 v_page), (q_tried, cA E 25 v_tried)] [] [] 81) → XW E Z 0 0 [(q_this, cO 4 [.int v_thrown, .ref q_text, .int v_textSize, .int v_place, .int v_people, .ref q_ageing, .ref q_page, .int v_readPeople, .ref q_readAgeing, .ref q_readPage, .ref q_book, .int v_acts, .ref q_kept, .ref q_isKept, .int v_heard, .ref q_heardWho, .ref q_heardIs, .long v_seed, .ref q_tried, .ref q_chooser, .int v_choosers, .ref q_best, .int v_sets, .int v_surely, .ref q_alives]), (q_ageing, cA E 6 v_ageing), (q_page, cA E 25 v_page), (q_tried, cA E 25 v_tried)] [(0, .ref q_this), (1, .int l1), (2, .int l2)] [] 21 := by
  intro k
  induction k with
  | zero =>
    intro l2 v_tried h
    exact h.elim
  | succ k ih =>
    intro l2 v_tried h hK
    replace h := wl_succ h
    try dsimp only at h
    unfold b_X4_reign_21 at h
    refine x_iload_n (pc' := 22) hZ dX4_reign_21 rfl 2 rfl ?_
    refine x_bipush (v := 30) (pc' := 24) hZ (by decide) dX4_reign_22 rfl ?_
    refine x_icmp_gt (tgt := 81) (pc' := 27) hZ dX4_reign_24 (by decide) rfl (fun c24 => ?_) (fun c24 => ?_)
    · replace h := h.1 c24
      refine x_lv [] (lv' := []) rfl ?_
      exact hK l2 v_tried h
    · replace h := h.2 c24
      refine x_aload_n (pc' := 28) hZ dX4_reign_27 rfl 0 rfl ?_
      refine x_aload_n (pc' := 29) hZ dX4_reign_28 rfl 0 rfl ?_
      refine g_RX4_41 (pc' := 32) hZ dX4_reign_29 rfl 0 rfl rfl ?_
      refine x_aload_n (pc' := 33) hZ dX4_reign_32 rfl 0 rfl ?_
      refine g_RX4_41 (pc' := 36) hZ dX4_reign_33 rfl 0 rfl rfl ?_
      refine x_bipush (v := 21) (pc' := 38) hZ (by decide) dX4_reign_36 rfl ?_
      have h38 : vp_in 21 25 := by unfold vp_in; decide
      refine x_iald (pc' := 39) hZ h38 dX4_reign_38 rfl 3 rfl ?_
      refine x_aload_n (pc' := 40) hZ dX4_reign_39 rfl 0 rfl ?_
      refine g_RX4_41 (pc' := 43) hZ dX4_reign_40 rfl 0 rfl rfl ?_
      refine k_RX4_98 (pc' := 46) (as := [.ref q_tried]) (rest := [.int (v_tried (ix 21)), .ref q_tried, .ref q_this]) (c' := 0) (n' := 0) (wr := [(q_this, cO 4 [.int v_thrown, .ref q_text, .int v_textSize, .int v_place, .int v_people, .ref q_ageing, .ref q_page, .int v_readPeople, .ref q_readAgeing, .ref q_readPage, .ref q_book, .int v_acts, .ref q_kept, .ref q_isKept, .int v_heard, .ref q_heardWho, .ref q_heardIs, .long v_seed, .ref q_tried, .ref q_chooser, .int v_choosers, .ref q_best, .int v_sets, .int v_surely, .ref q_alives]), (q_ageing, cA E 6 v_ageing), (q_page, cA E 25 v_page)]) hZ (c_X4_weightsOf E q_tried v_tried _ h) dX4_reign_43 rfl rfl rfl rfl rfl (Nat.le_of_ble_eq_true rfl) (Nat.le_of_ble_eq_true rfl) (Nat.le_of_ble_eq_true rfl) rfl rfl (Nat.le_of_ble_eq_true rfl) (Nat.le_of_ble_eq_true rfl) [3] [0, 1, 2] rfl rfl (by decide) (by decide) (by decide) (fun r43 w43 hw => ?_)
      obtain ⟨rfl, h⟩ := hw
      refine x_ws (ws' := [(q_this, cO 4 [.int v_thrown, .ref q_text, .int v_textSize, .int v_place, .int v_people, .ref q_ageing, .ref q_page, .int v_readPeople, .ref q_readAgeing, .ref q_readPage, .ref q_book, .int v_acts, .ref q_kept, .ref q_isKept, .int v_heard, .ref q_heardWho, .ref q_heardIs, .long v_seed, .ref q_tried, .ref q_chooser, .int v_choosers, .ref q_best, .int v_sets, .int v_surely, .ref q_alives]), (q_ageing, cA E 6 v_ageing), (q_page, cA E 25 v_page), (q_tried, cA E 25 v_tried)]) [0, 1, 2, 3] rfl (by decide) ?_
      refine k_RX4_102 (pc' := 49) (q0 := 0) (as := [.ref q_tried, .int (v_tried (ix 21)), .int r43]) (rest := []) (c' := 0) (n' := 0) (wr := [(q_ageing, cA E 6 v_ageing), (q_page, cA E 25 v_page)]) hZ (c_X4_fairestOf E q_this q_text q_ageing q_page q_readAgeing q_readPage q_book q_kept q_isKept q_heardWho q_heardIs q_tried q_chooser q_best q_alives q_tried v_thrown v_textSize v_place v_people v_readPeople v_acts v_heard v_seed v_choosers v_sets v_surely v_tried (v_tried (ix 21)) r43 _ h) rfl dX4_reign_46 rfl rfl rfl rfl rfl (Nat.le_of_ble_eq_true rfl) (Nat.le_of_ble_eq_true rfl) (Nat.le_of_ble_eq_true rfl) rfl rfl (Nat.le_of_ble_eq_true rfl) (Nat.le_of_ble_eq_true rfl) [0, 3] [1, 2] rfl rfl (by decide) (by decide) (by decide) (fun r46 w46 hw => ?_)
      obtain ⟨rfl, h⟩ := hw
      refine x_ws (ws' := [(q_this, cO 4 [.int v_thrown, .ref q_text, .int v_textSize, .int v_place, .int v_people, .ref q_ageing, .ref q_page, .int v_readPeople, .ref q_readAgeing, .ref q_readPage, .ref q_book, .int v_acts, .ref q_kept, .ref q_isKept, .int v_heard, .ref q_heardWho, .ref q_heardIs, .long v_seed, .ref q_tried, .ref q_chooser, .int v_choosers, .ref q_best, .int v_sets, .int v_surely, .ref q_alives]), (q_ageing, cA E 6 v_ageing), (q_page, cA E 25 v_page), (q_tried, cA E 25 v_tried)]) [2, 0, 1, 3] rfl (by decide) ?_
      refine x_iconst (v := 1) (pc' := 50) hZ (by decide) dX4_reign_49 rfl ?_
      refine x_icmp_eq (tgt := 55) (pc' := 53) hZ dX4_reign_50 (by decide) rfl (fun c50 => ?_) (fun c50 => ?_)
      · replace h := h.1 c50
        refine x_iload_n (pc' := 56) hZ dX4_reign_55 rfl 1 rfl ?_
        refine x_if_eq (tgt := 67) (pc' := 59) hZ dX4_reign_56 (by decide) rfl (fun c56 => ?_) (fun c56 => ?_)
        · replace h := h.1 c56
          refine x_aload_n (pc' := 68) hZ dX4_reign_67 rfl 0 rfl ?_
          refine x_aload_n (pc' := 69) hZ dX4_reign_68 rfl 0 rfl ?_
          refine g_RX4_41 (pc' := 72) hZ dX4_reign_69 rfl 0 rfl rfl ?_
          refine k_RX4_122 (pc' := 75) (q0 := 0) (as := [.ref q_tried]) (rest := []) (c' := 0) (n' := 0) (wr := [(q_page, cA E 25 v_page)]) hZ (c_X4_goYear E q_this q_text q_ageing q_page q_readAgeing q_readPage q_book q_kept q_isKept q_heardWho q_heardIs q_tried q_chooser q_best q_alives q_tried v_thrown v_textSize v_place v_people v_readPeople v_acts v_heard v_seed v_choosers v_sets v_surely v_ageing v_tried _ h) rfl dX4_reign_72 rfl rfl rfl rfl rfl (Nat.le_of_ble_eq_true rfl) (Nat.le_of_ble_eq_true rfl) (Nat.le_of_ble_eq_true rfl) rfl rfl (Nat.le_of_ble_eq_true rfl) (Nat.le_of_ble_eq_true rfl) [0, 1, 3] [2] rfl rfl (by decide) (by decide) (by decide) (fun w72 hw => ?_)
          obtain ⟨a72_0, rfl, h⟩ := hw
          refine x_ws (ws' := [(q_this, cO 4 [.int v_thrown, .ref q_text, .int v_textSize, .int v_place, .int v_people, .ref q_ageing, .ref q_page, .int v_readPeople, .ref q_readAgeing, .ref q_readPage, .ref q_book, .int v_acts, .ref q_kept, .ref q_isKept, .int v_heard, .ref q_heardWho, .ref q_heardIs, .long v_seed, .ref q_tried, .ref q_chooser, .int v_choosers, .ref q_best, .int v_sets, .int v_surely, .ref q_alives]), (q_ageing, cA E 6 v_ageing), (q_page, cA E 25 v_page), (q_tried, cA E 25 a72_0)]) [1, 2, 0, 3] rfl (by decide) ?_
          obtain ⟨x75, e75⟩ : ∃ y : Int32, y = l2 + 1 := ⟨_, rfl⟩
          replace h := h x75 e75
          refine x_iinc (i := 2) (v := x75) (pc' := 78) (lv' := [(2, .int x75), (0, .ref q_this), (1, .int l1)]) hZ dX4_reign_75 rfl 2 rfl (by rw [e75]; rfl) (by decide) rfl ?_
          refine x_goto (pc' := 21) hZ dX4_reign_78 (by decide) ?_
          refine x_lv [1, 2, 0] (lv' := [(0, .ref q_this), (1, .int l1), (2, .int x75)]) rfl ?_
          exact ih x75 a72_0 h hK
        · replace h := h.2 c56
          refine x_aload_n (pc' := 60) hZ dX4_reign_59 rfl 0 rfl ?_
          refine x_aload_n (pc' := 61) hZ dX4_reign_60 rfl 0 rfl ?_
          refine g_RX4_41 (pc' := 64) hZ dX4_reign_61 rfl 0 rfl rfl ?_
          refine k_RX4_118 (pc' := 67) (q0 := 0) (as := [.ref q_tried]) (rest := []) (c' := 0) (n' := 0) (wr := [(q_ageing, cA E 6 v_ageing), (q_page, cA E 25 v_page)]) hZ (c_X4_goMorning E q_this q_text q_ageing q_page q_readAgeing q_readPage q_book q_kept q_isKept q_heardWho q_heardIs q_tried q_chooser q_best q_alives q_tried v_thrown v_textSize v_place v_people v_readPeople v_acts v_heard v_seed v_choosers v_sets v_surely v_tried _ h) rfl dX4_reign_64 rfl rfl rfl rfl rfl (Nat.le_of_ble_eq_true rfl) (Nat.le_of_ble_eq_true rfl) (Nat.le_of_ble_eq_true rfl) rfl rfl (Nat.le_of_ble_eq_true rfl) (Nat.le_of_ble_eq_true rfl) [0, 3] [1, 2] rfl rfl (by decide) (by decide) (by decide) (fun w64 hw => ?_)
          obtain ⟨a64_0, rfl, h⟩ := hw
          refine x_ws (ws' := [(q_this, cO 4 [.int v_thrown, .ref q_text, .int v_textSize, .int v_place, .int v_people, .ref q_ageing, .ref q_page, .int v_readPeople, .ref q_readAgeing, .ref q_readPage, .ref q_book, .int v_acts, .ref q_kept, .ref q_isKept, .int v_heard, .ref q_heardWho, .ref q_heardIs, .long v_seed, .ref q_tried, .ref q_chooser, .int v_choosers, .ref q_best, .int v_sets, .int v_surely, .ref q_alives]), (q_ageing, cA E 6 v_ageing), (q_page, cA E 25 v_page), (q_tried, cA E 25 a64_0)]) [2, 0, 1, 3] rfl (by decide) ?_
          refine x_aload_n (pc' := 68) hZ dX4_reign_67 rfl 0 rfl ?_
          refine x_aload_n (pc' := 69) hZ dX4_reign_68 rfl 0 rfl ?_
          refine g_RX4_41 (pc' := 72) hZ dX4_reign_69 rfl 0 rfl rfl ?_
          refine k_RX4_122 (pc' := 75) (q0 := 0) (as := [.ref q_tried]) (rest := []) (c' := 0) (n' := 0) (wr := [(q_page, cA E 25 v_page)]) hZ (c_X4_goYear E q_this q_text q_ageing q_page q_readAgeing q_readPage q_book q_kept q_isKept q_heardWho q_heardIs q_tried q_chooser q_best q_alives q_tried v_thrown v_textSize v_place v_people v_readPeople v_acts v_heard v_seed v_choosers v_sets v_surely v_ageing a64_0 _ h) rfl dX4_reign_72 rfl rfl rfl rfl rfl (Nat.le_of_ble_eq_true rfl) (Nat.le_of_ble_eq_true rfl) (Nat.le_of_ble_eq_true rfl) rfl rfl (Nat.le_of_ble_eq_true rfl) (Nat.le_of_ble_eq_true rfl) [0, 1, 3] [2] rfl rfl (by decide) (by decide) (by decide) (fun w72 hw => ?_)
          obtain ⟨a72_0, rfl, h⟩ := hw
          refine x_ws (ws' := [(q_this, cO 4 [.int v_thrown, .ref q_text, .int v_textSize, .int v_place, .int v_people, .ref q_ageing, .ref q_page, .int v_readPeople, .ref q_readAgeing, .ref q_readPage, .ref q_book, .int v_acts, .ref q_kept, .ref q_isKept, .int v_heard, .ref q_heardWho, .ref q_heardIs, .long v_seed, .ref q_tried, .ref q_chooser, .int v_choosers, .ref q_best, .int v_sets, .int v_surely, .ref q_alives]), (q_ageing, cA E 6 v_ageing), (q_page, cA E 25 v_page), (q_tried, cA E 25 a72_0)]) [1, 2, 0, 3] rfl (by decide) ?_
          obtain ⟨x75, e75⟩ : ∃ y : Int32, y = l2 + 1 := ⟨_, rfl⟩
          replace h := h x75 e75
          refine x_iinc (i := 2) (v := x75) (pc' := 78) (lv' := [(2, .int x75), (0, .ref q_this), (1, .int l1)]) hZ dX4_reign_75 rfl 2 rfl (by rw [e75]; rfl) (by decide) rfl ?_
          refine x_goto (pc' := 21) hZ dX4_reign_78 (by decide) ?_
          refine x_lv [1, 2, 0] (lv' := [(0, .ref q_this), (1, .int l1), (2, .int x75)]) rfl ?_
          exact ih x75 a72_0 h hK
      · replace h := h.2 c50
        refine x_iload_n (pc' := 54) hZ dX4_reign_53 rfl 2 rfl ?_
        exact hRet _ _ _ _ dX4_reign_54 ⟨_, _, rfl, h⟩
set_option maxHeartbeats 4000000 in
set_option maxRecDepth 100000 in
theorem c_X4_reign (E : XE) (q_this : Nat) (q_text : Nat) (q_ageing : Nat) (q_page : Nat) (q_readAgeing : Nat) (q_readPage : Nat) (q_book : Nat) (q_kept : Nat) (q_isKept : Nat) (q_heardWho : Nat) (q_heardIs : Nat) (q_tried : Nat) (q_chooser : Nat) (q_best : Nat) (q_alives : Nat) (v_thrown : Int32) (v_textSize : Int32) (v_place : Int32) (v_people : Int32) (v_readPeople : Int32) (v_acts : Int32) (v_heard : Int32) (v_seed : Int64) (v_choosers : Int32) (v_sets : Int32) (v_surely : Int32) (v_ageing : Nat → Int32) (v_page : Nat → Int32) (v_tried : Nat → Int32) (l1 : Int32) (post : Int32 → Int32 → (Nat → Int32) → Prop) (h : p_X4_reign v_thrown v_people v_ageing v_page v_tried l1 post) : ConI E yX4_reign cX4_reign 3 .int { frames := 3, cells := 0, slots := 0, locals := 76 } 0 0 [.ref q_this, .int l1] [(q_this, cO 4 [.int v_thrown, .ref q_text, .int v_textSize, .int v_place, .int v_people, .ref q_ageing, .ref q_page, .int v_readPeople, .ref q_readAgeing, .ref q_readPage, .ref q_book, .int v_acts, .ref q_kept, .ref q_isKept, .int v_heard, .ref q_heardWho, .ref q_heardIs, .long v_seed, .ref q_tried, .ref q_chooser, .int v_choosers, .ref q_best, .int v_sets, .int v_surely, .ref q_alives]), (q_ageing, cA E 6 v_ageing), (q_page, cA E 25 v_page), (q_tried, cA E 25 v_tried)] (fun r w => ∃ (u_thrown : Int32) (u_tried : Nat → Int32), w = [(q_this, cO 4 [.int u_thrown, .ref q_text, .int v_textSize, .int v_place, .int v_people, .ref q_ageing, .ref q_page, .int v_readPeople, .ref q_readAgeing, .ref q_readPage, .ref q_book, .int v_acts, .ref q_kept, .ref q_isKept, .int v_heard, .ref q_heardWho, .ref q_heardIs, .long v_seed, .ref q_tried, .ref q_chooser, .int v_choosers, .ref q_best, .int v_sets, .int v_surely, .ref q_alives]), (q_ageing, cA E 6 v_ageing), (q_page, cA E 25 v_page), (q_tried, cA E 25 u_tried)] ∧ post r u_thrown u_tried) := by
  refine ConI.of (by decide +kernel) (Nat.le_of_ble_eq_true rfl) (fun Z hZ hI hRet => ?_)
  replace hZ : XOK E Z RX4 cX4_reign 3 { frames := 3, cells := 0, slots := 0, locals := 76 } := hZ
  clear hI
  show XW E Z 0 0 [(q_this, cO 4 [.int v_thrown, .ref q_text, .int v_textSize, .int v_place, .int v_people, .ref q_ageing, .ref q_page, .int v_readPeople, .ref q_readAgeing, .ref q_readPage, .ref q_book, .int v_acts, .ref q_kept, .ref q_isKept, .int v_heard, .ref q_heardWho, .ref q_heardIs, .long v_seed, .ref q_tried, .ref q_chooser, .int v_choosers, .ref q_best, .int v_sets, .int v_surely, .ref q_alives]), (q_ageing, cA E 6 v_ageing), (q_page, cA E 25 v_page), (q_tried, cA E 25 v_tried)] [(0, .ref q_this), (1, .int l1)] [] 0
  unfold p_X4_reign at h
  refine x_aload_n (pc' := 1) hZ dX4_reign_0 rfl 0 rfl ?_
  refine x_iconst (v := 0) (pc' := 2) hZ (by decide) dX4_reign_1 rfl ?_
  refine s_RX4_53 (pc' := 5) (ws' := [(q_this, cO 4 [.int 0, .ref q_text, .int v_textSize, .int v_place, .int v_people, .ref q_ageing, .ref q_page, .int v_readPeople, .ref q_readAgeing, .ref q_readPage, .ref q_book, .int v_acts, .ref q_kept, .ref q_isKept, .int v_heard, .ref q_heardWho, .ref q_heardIs, .long v_seed, .ref q_tried, .ref q_chooser, .int v_choosers, .ref q_best, .int v_sets, .int v_surely, .ref q_alives]), (q_ageing, cA E 6 v_ageing), (q_page, cA E 25 v_page), (q_tried, cA E 25 v_tried)]) hZ dX4_reign_2 rfl 0 rfl (Nat.le_of_ble_eq_true rfl) rfl ?_
  refine x_aload_n (pc' := 6) hZ dX4_reign_5 rfl 0 rfl ?_
  refine g_RX4_57 (pc' := 9) hZ dX4_reign_6 rfl 0 rfl rfl ?_
  refine x_if_ne (tgt := 15) (pc' := 12) hZ dX4_reign_9 (by decide) rfl (fun c9 => ?_) (fun c9 => ?_)
  · replace h := h.1 c9
    refine x_aload_n (pc' := 16) hZ dX4_reign_15 rfl 0 rfl ?_
    refine k_RX4_136 (pc' := 19) (q0 := 0) (as := []) (rest := []) (c' := 0) (n' := 0) (wr := [(q_ageing, cA E 6 v_ageing)]) hZ (c_X4_begin E q_this q_text q_ageing q_page q_readAgeing q_readPage q_book q_kept q_isKept q_heardWho q_heardIs q_tried q_chooser q_best q_alives 0 v_textSize v_place v_people v_readPeople v_acts v_heard v_seed v_choosers v_sets v_surely v_page v_tried _ h) rfl dX4_reign_16 rfl rfl rfl rfl rfl (Nat.le_of_ble_eq_true rfl) (Nat.le_of_ble_eq_true rfl) (Nat.le_of_ble_eq_true rfl) rfl rfl (Nat.le_of_ble_eq_true rfl) (Nat.le_of_ble_eq_true rfl) [0, 2, 3] [1] rfl rfl (by decide) (by decide) (by decide) (fun w16 hw => ?_)
    obtain ⟨a16_0, rfl, h⟩ := hw
    refine x_ws (ws' := [(q_this, cO 4 [.int 0, .ref q_text, .int v_textSize, .int v_place, .int v_people, .ref q_ageing, .ref q_page, .int v_readPeople, .ref q_readAgeing, .ref q_readPage, .ref q_book, .int v_acts, .ref q_kept, .ref q_isKept, .int v_heard, .ref q_heardWho, .ref q_heardIs, .long v_seed, .ref q_tried, .ref q_chooser, .int v_choosers, .ref q_best, .int v_sets, .int v_surely, .ref q_alives]), (q_ageing, cA E 6 v_ageing), (q_page, cA E 25 v_page), (q_tried, cA E 25 a16_0)]) [1, 0, 2, 3] rfl (by decide) ?_
    refine x_iconst (v := 0) (pc' := 20) hZ (by decide) dX4_reign_19 rfl ?_
    refine x_istore_n (i := 2) (pc' := 21) (lv' := [(2, .int 0), (0, .ref q_this), (1, .int l1)]) hZ dX4_reign_20 rfl rfl (by decide) rfl ?_
    refine x_lv [1, 2, 0] (lv' := [(0, .ref q_this), (1, .int l1), (2, .int 0)]) rfl ?_
    obtain ⟨k21, h⟩ := h
    refine t_X4_reign_21 E Z q_this q_text q_ageing q_page q_readAgeing q_readPage q_book q_kept q_isKept q_heardWho q_heardIs q_tried q_chooser q_best q_alives 0 v_textSize v_place v_people v_readPeople v_acts v_heard v_seed v_choosers v_sets v_surely v_ageing v_page l1 hZ hRet _ 0 a16_0 h (fun l2_21 v_tried_21 h => ?_)
    refine x_bipush (v := (-9)) (pc' := 83) hZ (by decide) dX4_reign_81 rfl ?_
    exact hRet _ _ _ _ dX4_reign_83 ⟨_, _, rfl, h⟩
  · replace h := h.2 c9
    refine x_bipush (v := (-3)) (pc' := 14) hZ (by decide) dX4_reign_12 rfl ?_
    exact hRet _ _ _ _ dX4_reign_14 ⟨_, _, rfl, h⟩
set_option maxHeartbeats 4000000 in
set_option maxRecDepth 100000 in
theorem c_X4_differs (E : XE) (q_this : Nat) (q_text : Nat) (q_ageing : Nat) (q_page : Nat) (q_readAgeing : Nat) (q_readPage : Nat) (q_book : Nat) (q_kept : Nat) (q_isKept : Nat) (q_heardWho : Nat) (q_heardIs : Nat) (q_tried : Nat) (q_chooser : Nat) (q_best : Nat) (q_alives : Nat) (v_thrown : Int32) (v_textSize : Int32) (v_place : Int32) (v_people : Int32) (v_readPeople : Int32) (v_acts : Int32) (v_heard : Int32) (v_seed : Int64) (v_choosers : Int32) (v_sets : Int32) (v_surely : Int32) (v_page : Nat → Int32) (l1 : Int32) (post : Int32 → Int32 → Prop) (h : p_X4_differs v_thrown v_people v_page l1 post) : ConI E yX4_differs cX4_differs 2 .int { frames := 3, cells := 0, slots := 0, locals := 69 } 0 0 [.ref q_this, .int l1] [(q_this, cO 4 [.int v_thrown, .ref q_text, .int v_textSize, .int v_place, .int v_people, .ref q_ageing, .ref q_page, .int v_readPeople, .ref q_readAgeing, .ref q_readPage, .ref q_book, .int v_acts, .ref q_kept, .ref q_isKept, .int v_heard, .ref q_heardWho, .ref q_heardIs, .long v_seed, .ref q_tried, .ref q_chooser, .int v_choosers, .ref q_best, .int v_sets, .int v_surely, .ref q_alives]), (q_page, cA E 25 v_page)] (fun r w => ∃ (u_thrown : Int32), w = [(q_this, cO 4 [.int u_thrown, .ref q_text, .int v_textSize, .int v_place, .int v_people, .ref q_ageing, .ref q_page, .int v_readPeople, .ref q_readAgeing, .ref q_readPage, .ref q_book, .int v_acts, .ref q_kept, .ref q_isKept, .int v_heard, .ref q_heardWho, .ref q_heardIs, .long v_seed, .ref q_tried, .ref q_chooser, .int v_choosers, .ref q_best, .int v_sets, .int v_surely, .ref q_alives]), (q_page, cA E 25 v_page)] ∧ post r u_thrown) := by
  refine ConI.of (by decide +kernel) (Nat.le_of_ble_eq_true rfl) (fun Z hZ hI hRet => ?_)
  replace hZ : XOK E Z RX4 cX4_differs 2 { frames := 3, cells := 0, slots := 0, locals := 69 } := hZ
  clear hI
  show XW E Z 0 0 [(q_this, cO 4 [.int v_thrown, .ref q_text, .int v_textSize, .int v_place, .int v_people, .ref q_ageing, .ref q_page, .int v_readPeople, .ref q_readAgeing, .ref q_readPage, .ref q_book, .int v_acts, .ref q_kept, .ref q_isKept, .int v_heard, .ref q_heardWho, .ref q_heardIs, .long v_seed, .ref q_tried, .ref q_chooser, .int v_choosers, .ref q_best, .int v_sets, .int v_surely, .ref q_alives]), (q_page, cA E 25 v_page)] [(0, .ref q_this), (1, .int l1)] [] 0
  unfold p_X4_differs at h
  refine x_aload_n (pc' := 1) hZ dX4_differs_0 rfl 0 rfl ?_
  refine x_iconst (v := 0) (pc' := 2) hZ (by decide) dX4_differs_1 rfl ?_
  refine s_RX4_53 (pc' := 5) (ws' := [(q_this, cO 4 [.int 0, .ref q_text, .int v_textSize, .int v_place, .int v_people, .ref q_ageing, .ref q_page, .int v_readPeople, .ref q_readAgeing, .ref q_readPage, .ref q_book, .int v_acts, .ref q_kept, .ref q_isKept, .int v_heard, .ref q_heardWho, .ref q_heardIs, .long v_seed, .ref q_tried, .ref q_chooser, .int v_choosers, .ref q_best, .int v_sets, .int v_surely, .ref q_alives]), (q_page, cA E 25 v_page)]) hZ dX4_differs_2 rfl 0 rfl (Nat.le_of_ble_eq_true rfl) rfl ?_
  refine x_iload_n (pc' := 6) hZ dX4_differs_5 rfl 1 rfl ?_
  refine x_i2l (pc' := 7) hZ dX4_differs_6 rfl ?_
  refine x_lconst (v := 1) (pc' := 8) hZ (by decide) dX4_differs_7 rfl ?_
  refine x_ldc2 (v := 999) (pc' := 11) hZ kl_RX4_172 dX4_differs_8 rfl ?_
  refine k_RX4_60 (pc' := 14) (as := [.long l1.toInt64, .long 1, .long 999]) (rest := []) (c' := 0) (n' := 0) (wr := [(q_this, cO 4 [.int 0, .ref q_text, .int v_textSize, .int v_place, .int v_people, .ref q_ageing, .ref q_page, .int v_readPeople, .ref q_readAgeing, .ref q_readPage, .ref q_book, .int v_acts, .ref q_kept, .ref q_isKept, .int v_heard, .ref q_heardWho, .ref q_heardIs, .long v_seed, .ref q_tried, .ref q_chooser, .int v_choosers, .ref q_best, .int v_sets, .int v_surely, .ref q_alives]), (q_page, cA E 25 v_page)]) hZ (c_X4_in E l1.toInt64 1 999 _ h) dX4_differs_11 rfl rfl rfl rfl rfl (Nat.le_of_ble_eq_true rfl) (Nat.le_of_ble_eq_true rfl) (Nat.le_of_ble_eq_true rfl) rfl rfl (Nat.le_of_ble_eq_true rfl) (Nat.le_of_ble_eq_true rfl) [] [0, 1] rfl rfl (by decide) (by decide) (by decide) (fun r11 w11 hw => ?_)
  obtain ⟨rfl, h⟩ := hw
  refine x_ws (ws' := [(q_this, cO 4 [.int 0, .ref q_text, .int v_textSize, .int v_place, .int v_people, .ref q_ageing, .ref q_page, .int v_readPeople, .ref q_readAgeing, .ref q_readPage, .ref q_book, .int v_acts, .ref q_kept, .ref q_isKept, .int v_heard, .ref q_heardWho, .ref q_heardIs, .long v_seed, .ref q_tried, .ref q_chooser, .int v_choosers, .ref q_best, .int v_sets, .int v_surely, .ref q_alives]), (q_page, cA E 25 v_page)]) [0, 1] rfl (by decide) ?_
  refine x_if_eq (tgt := 41) (pc' := 17) hZ dX4_differs_14 (by decide) rfl (fun c14 => ?_) (fun c14 => ?_)
  · replace h := h.1 c14
    refine x_bipush (v := (-2)) (pc' := 43) hZ (by decide) dX4_differs_41 rfl ?_
    exact hRet _ _ _ _ dX4_differs_43 ⟨_, rfl, h⟩
  · replace h := h.2 c14
    refine x_aload_n (pc' := 18) hZ dX4_differs_17 rfl 0 rfl ?_
    refine k_RX4_105 (pc' := 21) (q0 := 0) (as := []) (rest := []) (c' := 0) (n' := 0) (wr := []) hZ (c_X4_fairest E q_this q_text q_ageing q_page q_readAgeing q_readPage q_book q_kept q_isKept q_heardWho q_heardIs q_tried q_chooser q_best q_alives 0 v_textSize v_place v_people v_readPeople v_acts v_heard v_seed v_choosers v_sets v_surely v_page _ h) rfl dX4_differs_18 rfl rfl rfl rfl rfl (Nat.le_of_ble_eq_true rfl) (Nat.le_of_ble_eq_true rfl) (Nat.le_of_ble_eq_true rfl) rfl rfl (Nat.le_of_ble_eq_true rfl) (Nat.le_of_ble_eq_true rfl) [0, 1] [] rfl rfl (by decide) (by decide) (by decide) (fun r18 w18 hw => ?_)
    obtain ⟨rfl, h⟩ := hw
    refine x_ws (ws' := [(q_this, cO 4 [.int 0, .ref q_text, .int v_textSize, .int v_place, .int v_people, .ref q_ageing, .ref q_page, .int v_readPeople, .ref q_readAgeing, .ref q_readPage, .ref q_book, .int v_acts, .ref q_kept, .ref q_isKept, .int v_heard, .ref q_heardWho, .ref q_heardIs, .long v_seed, .ref q_tried, .ref q_chooser, .int v_choosers, .ref q_best, .int v_sets, .int v_surely, .ref q_alives]), (q_page, cA E 25 v_page)]) [0, 1] rfl (by decide) ?_
    refine x_aload_n (pc' := 22) hZ dX4_differs_21 rfl 0 rfl ?_
    refine x_aload_n (pc' := 23) hZ dX4_differs_22 rfl 0 rfl ?_
    refine g_RX4_16 (pc' := 26) hZ dX4_differs_23 rfl 0 rfl rfl ?_
    refine x_aload_n (pc' := 27) hZ dX4_differs_26 rfl 0 rfl ?_
    refine g_RX4_16 (pc' := 30) hZ dX4_differs_27 rfl 0 rfl rfl ?_
    refine x_bipush (v := 21) (pc' := 32) hZ (by decide) dX4_differs_30 rfl ?_
    have h32 : vp_in 21 25 := by unfold vp_in; decide
    refine x_iald (pc' := 33) hZ h32 dX4_differs_32 rfl 1 rfl ?_
    refine x_iload_n (pc' := 34) hZ dX4_differs_33 rfl 1 rfl ?_
    refine k_RX4_102 (pc' := 37) (q0 := 0) (as := [.ref q_page, .int (v_page (ix 21)), .int l1]) (rest := [.int r18]) (c' := 0) (n' := 0) (wr := []) hZ (c_X4_fairestOf E q_this q_text q_ageing q_page q_readAgeing q_readPage q_book q_kept q_isKept q_heardWho q_heardIs q_tried q_chooser q_best q_alives q_page 0 v_textSize v_place v_people v_readPeople v_acts v_heard v_seed v_choosers v_sets v_surely v_page (v_page (ix 21)) l1 _ h) rfl dX4_differs_34 rfl rfl rfl rfl rfl (Nat.le_of_ble_eq_true rfl) (Nat.le_of_ble_eq_true rfl) (Nat.le_of_ble_eq_true rfl) rfl rfl (Nat.le_of_ble_eq_true rfl) (Nat.le_of_ble_eq_true rfl) [0, 1] [] rfl rfl (by decide) (by decide) (by decide) (fun r34 w34 hw => ?_)
    obtain ⟨rfl, h⟩ := hw
    refine x_ws (ws' := [(q_this, cO 4 [.int 0, .ref q_text, .int v_textSize, .int v_place, .int v_people, .ref q_ageing, .ref q_page, .int v_readPeople, .ref q_readAgeing, .ref q_readPage, .ref q_book, .int v_acts, .ref q_kept, .ref q_isKept, .int v_heard, .ref q_heardWho, .ref q_heardIs, .long v_seed, .ref q_tried, .ref q_chooser, .int v_choosers, .ref q_best, .int v_sets, .int v_surely, .ref q_alives]), (q_page, cA E 25 v_page)]) [0, 1] rfl (by decide) ?_
    refine x_ixor (pc' := 38) hZ dX4_differs_37 rfl ?_
    refine x_goto (pc' := 43) hZ dX4_differs_38 (by decide) ?_
    exact hRet _ _ _ _ dX4_differs_43 ⟨_, rfl, h⟩
set_option maxHeartbeats 4000000 in
set_option maxRecDepth 100000 in
theorem t_X4_divisor_6 (E : XE) (Z : ZC)  {K : Int64 → Int64 → Prop} (hZ : XOK E Z RX4 cX4_divisor 10 { frames := 0, cells := 0, slots := 0, locals := 0 }) : ∀ (k : Nat) (l4 : Int64) (l6 : Int64), wl (fun rec v => b_X4_divisor_6  K rec v.1 v.2) k (l4, l6) → (∀ (l4 : Int64) (l6 : Int64), K l4 l6 → XW E Z 0 0 [] [(4, .long l4)] [] 31) → XW E Z 0 0 [] [(4, .long l4), (6, .long l6)] [] 6 := by
  intro k
  induction k with
  | zero =>
    intro l4 l6 h
    exact h.elim
  | succ k ih =>
    intro l4 l6 h hK
    replace h := wl_succ h
    try dsimp only at h
    unfold b_X4_divisor_6 at h
    refine x_lload (pc' := 8) hZ dX4_divisor_6 rfl 1 rfl ?_
    refine x_lconst (v := 0) (pc' := 9) hZ (by decide) dX4_divisor_8 rfl ?_
    refine x_lcmp (pc' := 10) hZ dX4_divisor_9 rfl ?_
    refine x_if_eq (tgt := 31) (pc' := 13) hZ dX4_divisor_10 (by decide) rfl (fun c10 => ?_) (fun c10 => ?_)
    · replace h := h.1 c10
      refine x_lv [0] (lv' := [(4, .long l4)]) rfl ?_
      exact hK l4 l6 h
    · replace h := h.2 c10
      refine x_lload (pc' := 15) hZ dX4_divisor_13 rfl 0 rfl ?_
      refine x_lload (pc' := 17) hZ dX4_divisor_15 rfl 1 rfl ?_
      obtain ⟨h17, h⟩ := h
      refine x_lrem (pc' := 18) hZ h17 dX4_divisor_17 rfl ?_
      refine x_topl (fun x18 e18 => ?_)
      replace h := h x18 e18
      refine x_lstore (i := 8) (pc' := 20) (lv' := [(8, .long x18), (4, .long l4), (6, .long l6)]) hZ dX4_divisor_18 rfl (by decide) rfl ?_
      refine x_lload (pc' := 22) hZ dX4_divisor_20 rfl 2 rfl ?_
      refine x_lstore (i := 4) (pc' := 24) (lv' := [(4, .long l6), (8, .long x18), (6, .long l6)]) hZ dX4_divisor_22 rfl (by decide) rfl ?_
      refine x_lload (pc' := 26) hZ dX4_divisor_24 rfl 1 rfl ?_
      refine x_lstore (i := 6) (pc' := 28) (lv' := [(6, .long x18), (4, .long l6), (8, .long x18)]) hZ dX4_divisor_26 rfl (by decide) rfl ?_
      refine x_goto (pc' := 6) hZ dX4_divisor_28 (by decide) ?_
      refine x_lv [1, 0] (lv' := [(4, .long l6), (6, .long x18)]) rfl ?_
      exact ih l6 x18 h hK
set_option maxHeartbeats 4000000 in
set_option maxRecDepth 100000 in
theorem c_X4_divisor (E : XE) (l0 : Int64) (l2 : Int64) (post : Int64 → Prop) (h : p_X4_divisor l0 l2 post) : ConL E yX4_divisor cX4_divisor 10 { frames := 0, cells := 0, slots := 0, locals := 0 } 0 0 [.long l0, .long l2] [] (fun r w => w = [] ∧ post r ) := by
  refine ConL.of (by decide +kernel) (Nat.le_of_ble_eq_true rfl) (fun Z hZ hI hRet => ?_)
  replace hZ : XOK E Z RX4 cX4_divisor 10 { frames := 0, cells := 0, slots := 0, locals := 0 } := hZ
  clear hI
  show XW E Z 0 0 [] [(0, .long l0), (2, .long l2)] [] 0
  unfold p_X4_divisor at h
  refine x_lload_n (pc' := 1) hZ dX4_divisor_0 rfl 0 rfl ?_
  refine x_lstore (i := 4) (pc' := 3) (lv' := [(4, .long l0), (0, .long l0), (2, .long l2)]) hZ dX4_divisor_1 rfl (by decide) rfl ?_
  refine x_lload_n (pc' := 4) hZ dX4_divisor_3 rfl 2 rfl ?_
  refine x_lstore (i := 6) (pc' := 6) (lv' := [(6, .long l2), (4, .long l0), (0, .long l0), (2, .long l2)]) hZ dX4_divisor_4 rfl (by decide) rfl ?_
  refine x_lv [1, 0] (lv' := [(4, .long l0), (6, .long l2)]) rfl ?_
  obtain ⟨k6, h⟩ := h
  refine t_X4_divisor_6 E Z  hZ  _ l0 l2 h (fun l4_6 l6_6 h => ?_)
  refine x_lload (pc' := 33) hZ dX4_divisor_31 rfl 0 rfl ?_
  exact hRet _ _ _ _ dX4_divisor_33 ⟨rfl, h⟩
set_option maxHeartbeats 4000000 in
set_option maxRecDepth 100000 in
theorem c_X4_fraction (E : XE) (l0 : Int64) (l2 : Int64) (l4 : Int32) (post : Int32 → Prop) (h : p_X4_fraction l0 l2 l4 post) : ConI E yX4_fraction cX4_fraction 7 .int { frames := 1, cells := 0, slots := 0, locals := 29 } 0 0 [.long l0, .long l2, .int l4] [] (fun r w => w = [] ∧ post r ) := by
  refine ConI.of (by decide +kernel) (Nat.le_of_ble_eq_true rfl) (fun Z hZ hI hRet => ?_)
  replace hZ : XOK E Z RX4 cX4_fraction 7 { frames := 1, cells := 0, slots := 0, locals := 29 } := hZ
  clear hI
  show XW E Z 0 0 [] [(0, .long l0), (2, .long l2), (4, .int l4)] [] 0
  unfold p_X4_fraction at h
  refine x_lload_n (pc' := 1) hZ dX4_fraction_0 rfl 0 rfl ?_
  refine x_lload_n (pc' := 2) hZ dX4_fraction_1 rfl 1 rfl ?_
  refine k_RX4_174 (pc' := 5) (as := [.long l0, .long l2]) (rest := []) (c' := 0) (n' := 0) (wr := []) hZ (c_X4_divisor E l0 l2 _ h) dX4_fraction_2 rfl rfl rfl rfl rfl (Nat.le_of_ble_eq_true rfl) (Nat.le_of_ble_eq_true rfl) (Nat.le_of_ble_eq_true rfl) rfl rfl (Nat.le_of_ble_eq_true rfl) (Nat.le_of_ble_eq_true rfl) [] [] rfl rfl (by decide) (by decide) (by decide) (fun r2 w2 hw => ?_)
  obtain ⟨rfl, h⟩ := hw
  refine x_ws (ws' := []) [] rfl (by decide) ?_
  refine x_lstore (i := 5) (pc' := 7) (lv' := [(5, .long r2), (0, .long l0), (2, .long l2), (4, .int l4)]) hZ dX4_fraction_5 rfl (by decide) rfl ?_
  refine x_iload (pc' := 9) hZ dX4_fraction_7 rfl 3 rfl ?_
  refine x_if_eq (tgt := 19) (pc' := 12) hZ dX4_fraction_9 (by decide) rfl (fun c9 => ?_) (fun c9 => ?_)
  · replace h := h.1 c9
    refine x_lload_n (pc' := 20) hZ dX4_fraction_19 rfl 2 rfl ?_
    refine x_lload (pc' := 22) hZ dX4_fraction_20 rfl 0 rfl ?_
    obtain ⟨h22, h⟩ := h
    refine x_ldiv (pc' := 23) hZ h22 dX4_fraction_22 rfl ?_
    refine x_l2i (pc' := 24) hZ dX4_fraction_23 rfl ?_
    exact hRet _ _ _ _ dX4_fraction_24 ⟨rfl, h⟩
  · replace h := h.2 c9
    refine x_lload_n (pc' := 13) hZ dX4_fraction_12 rfl 1 rfl ?_
    refine x_lload (pc' := 15) hZ dX4_fraction_13 rfl 0 rfl ?_
    obtain ⟨h15, h⟩ := h
    refine x_ldiv (pc' := 16) hZ h15 dX4_fraction_15 rfl ?_
    refine x_goto (pc' := 23) hZ dX4_fraction_16 (by decide) ?_
    refine x_l2i (pc' := 24) hZ dX4_fraction_23 rfl ?_
    exact hRet _ _ _ _ dX4_fraction_24 ⟨rfl, h⟩
set_option maxHeartbeats 4000000 in
set_option maxRecDepth 100000 in
theorem t_X4_rate_37 (E : XE) (Z : ZC) (q_this : Nat) (q_text : Nat) (q_ageing : Nat) (q_page : Nat) (q_readAgeing : Nat) (q_readPage : Nat) (q_book : Nat) (q_kept : Nat) (q_isKept : Nat) (q_heardWho : Nat) (q_heardIs : Nat) (q_tried : Nat) (q_chooser : Nat) (q_best : Nat) (q_alives : Nat) (v_thrown : Int32) (v_textSize : Int32) (v_place : Int32) (v_people : Int32) (v_readPeople : Int32) (v_acts : Int32) (v_heard : Int32) (v_seed : Int64) (v_choosers : Int32) (v_sets : Int32) (v_surely : Int32) (v_page : Nat → Int32) (l1 : Int32) (l2 : Int32) (l3 : Int32) {K : Int32 → Int32 → Prop} (hZ : XOK E Z RX4 cX4_rate 6 { frames := 2, cells := 0, slots := 0, locals := 55 }) : ∀ (k : Nat) (l4 : Int32) (l5 : Int32), wl (fun rec v => b_X4_rate_37 l1 l2 v_page K rec v.1 v.2) k (l4, l5) → (∀ (l4 : Int32) (l5 : Int32), K l4 l5 → XW E Z 0 0 [(q_this, cO 4 [.int v_thrown, .ref q_text, .int v_textSize, .int v_place, .int v_people, .ref q_ageing, .ref q_page, .int v_readPeople, .ref q_readAgeing, .ref q_readPage, .ref q_book, .int v_acts, .ref q_kept, .ref q_isKept, .int v_heard, .ref q_heardWho, .ref q_heardIs, .long v_seed, .ref q_tried, .ref q_chooser, .int v_choosers, .ref q_best, .int v_sets, .int v_surely, .ref q_alives]), (q_page, cA E 25 v_page)] [(3, .int l3), (4, .int l4)] [] 84) → XW E Z 0 0 [(q_this, cO 4 [.int v_thrown, .ref q_text, .int v_textSize, .int v_place, .int v_people, .ref q_ageing, .ref q_page, .int v_readPeople, .ref q_readAgeing, .ref q_readPage, .ref q_book, .int v_acts, .ref q_kept, .ref q_isKept, .int v_heard, .ref q_heardWho, .ref q_heardIs, .long v_seed, .ref q_tried, .ref q_chooser, .int v_choosers, .ref q_best, .int v_sets, .int v_surely, .ref q_alives]), (q_page, cA E 25 v_page)] [(0, .ref q_this), (1, .int l1), (2, .int l2), (3, .int l3), (4, .int l4), (5, .int l5)] [] 37 := by
  intro k
  induction k with
  | zero =>
    intro l4 l5 h
    exact h.elim
  | succ k ih =>
    intro l4 l5 h hK
    replace h := wl_succ h
    try dsimp only at h
    unfold b_X4_rate_37 at h
    refine x_iload (pc' := 39) hZ dX4_rate_37 rfl 5 rfl ?_
    refine x_sipush (v := 999) (pc' := 42) hZ (by decide) dX4_rate_39 rfl ?_
    refine x_icmp_gt (tgt := 84) (pc' := 45) hZ dX4_rate_42 (by decide) rfl (fun c42 => ?_) (fun c42 => ?_)
    · replace h := h.1 c42
      refine x_lv [3, 4] (lv' := [(3, .int l3), (4, .int l4)]) rfl ?_
      exact hK l4 l5 h
    · replace h := h.2 c42
      refine x_iload (pc' := 47) hZ dX4_rate_45 rfl 4 rfl ?_
      refine x_aload_n (pc' := 48) hZ dX4_rate_47 rfl 0 rfl ?_
      refine g_RX4_16 (pc' := 51) hZ dX4_rate_48 rfl 0 rfl rfl ?_
      refine x_iload_n (pc' := 52) hZ dX4_rate_51 rfl 1 rfl ?_
      refine x_iload (pc' := 54) hZ dX4_rate_52 rfl 5 rfl ?_
      refine k_RX4_94 (pc' := 57) (as := [.ref q_page, .int l1, .int l5]) (rest := [.int l4]) (c' := 0) (n' := 0) (wr := [(q_this, cO 4 [.int v_thrown, .ref q_text, .int v_textSize, .int v_place, .int v_people, .ref q_ageing, .ref q_page, .int v_readPeople, .ref q_readAgeing, .ref q_readPage, .ref q_book, .int v_acts, .ref q_kept, .ref q_isKept, .int v_heard, .ref q_heardWho, .ref q_heardIs, .long v_seed, .ref q_tried, .ref q_chooser, .int v_choosers, .ref q_best, .int v_sets, .int v_surely, .ref q_alives])]) hZ (c_X4_valueOf E q_page v_page l1 l5 _ h) dX4_rate_54 rfl rfl rfl rfl rfl (Nat.le_of_ble_eq_true rfl) (Nat.le_of_ble_eq_true rfl) (Nat.le_of_ble_eq_true rfl) rfl rfl (Nat.le_of_ble_eq_true rfl) (Nat.le_of_ble_eq_true rfl) [1] [0] rfl rfl (by decide) (by decide) (by decide) (fun r54 w54 hw => ?_)
      obtain ⟨rfl, h⟩ := hw
      refine x_ws (ws' := [(q_this, cO 4 [.int v_thrown, .ref q_text, .int v_textSize, .int v_place, .int v_people, .ref q_ageing, .ref q_page, .int v_readPeople, .ref q_readAgeing, .ref q_readPage, .ref q_book, .int v_acts, .ref q_kept, .ref q_isKept, .int v_heard, .ref q_heardWho, .ref q_heardIs, .long v_seed, .ref q_tried, .ref q_chooser, .int v_choosers, .ref q_best, .int v_sets, .int v_surely, .ref q_alives]), (q_page, cA E 25 v_page)]) [0, 1] rfl (by decide) ?_
      refine x_aload_n (pc' := 58) hZ dX4_rate_57 rfl 0 rfl ?_
      refine g_RX4_16 (pc' := 61) hZ dX4_rate_58 rfl 0 rfl rfl ?_
      refine x_iload_n (pc' := 62) hZ dX4_rate_61 rfl 2 rfl ?_
      refine x_iload (pc' := 64) hZ dX4_rate_62 rfl 5 rfl ?_
      refine k_RX4_94 (pc' := 67) (as := [.ref q_page, .int l2, .int l5]) (rest := [.int r54, .int l4]) (c' := 0) (n' := 0) (wr := [(q_this, cO 4 [.int v_thrown, .ref q_text, .int v_textSize, .int v_place, .int v_people, .ref q_ageing, .ref q_page, .int v_readPeople, .ref q_readAgeing, .ref q_readPage, .ref q_book, .int v_acts, .ref q_kept, .ref q_isKept, .int v_heard, .ref q_heardWho, .ref q_heardIs, .long v_seed, .ref q_tried, .ref q_chooser, .int v_choosers, .ref q_best, .int v_sets, .int v_surely, .ref q_alives])]) hZ (c_X4_valueOf E q_page v_page l2 l5 _ h) dX4_rate_64 rfl rfl rfl rfl rfl (Nat.le_of_ble_eq_true rfl) (Nat.le_of_ble_eq_true rfl) (Nat.le_of_ble_eq_true rfl) rfl rfl (Nat.le_of_ble_eq_true rfl) (Nat.le_of_ble_eq_true rfl) [1] [0] rfl rfl (by decide) (by decide) (by decide) (fun r64 w64 hw => ?_)
      obtain ⟨rfl, h⟩ := hw
      refine x_ws (ws' := [(q_this, cO 4 [.int v_thrown, .ref q_text, .int v_textSize, .int v_place, .int v_people, .ref q_ageing, .ref q_page, .int v_readPeople, .ref q_readAgeing, .ref q_readPage, .ref q_book, .int v_acts, .ref q_kept, .ref q_isKept, .int v_heard, .ref q_heardWho, .ref q_heardIs, .long v_seed, .ref q_tried, .ref q_chooser, .int v_choosers, .ref q_best, .int v_sets, .int v_surely, .ref q_alives]), (q_page, cA E 25 v_page)]) [0, 1] rfl (by decide) ?_
      refine x_icmp_le (tgt := 74) (pc' := 70) hZ dX4_rate_67 (by decide) rfl (fun c67 => ?_) (fun c67 => ?_)
      · replace h := h.1 c67
        refine x_iconst (v := 0) (pc' := 75) hZ (by decide) dX4_rate_74 rfl ?_
        refine x_iadd (pc' := 76) hZ dX4_rate_75 rfl ?_
        refine x_topi (fun x76 e76 => ?_)
        replace h := h x76 e76
        refine x_istore (i := 4) (pc' := 78) (lv' := [(4, .int x76), (0, .ref q_this), (1, .int l1), (2, .int l2), (3, .int l3), (5, .int l5)]) hZ dX4_rate_76 rfl (by decide) rfl ?_
        obtain ⟨x78, e78⟩ : ∃ y : Int32, y = l5 + 1 := ⟨_, rfl⟩
        replace h := h x78 e78
        refine x_iinc (i := 5) (v := x78) (pc' := 81) (lv' := [(5, .int x78), (4, .int x76), (0, .ref q_this), (1, .int l1), (2, .int l2), (3, .int l3)]) hZ dX4_rate_78 rfl 5 rfl (by rw [e78]; rfl) (by decide) rfl ?_
        refine x_goto (pc' := 37) hZ dX4_rate_81 (by decide) ?_
        refine x_lv [2, 3, 4, 5, 1, 0] (lv' := [(0, .ref q_this), (1, .int l1), (2, .int l2), (3, .int l3), (4, .int x76), (5, .int x78)]) rfl ?_
        exact ih x76 x78 h hK
      · replace h := h.2 c67
        refine x_iconst (v := 1) (pc' := 71) hZ (by decide) dX4_rate_70 rfl ?_
        refine x_goto (pc' := 75) hZ dX4_rate_71 (by decide) ?_
        refine x_iadd (pc' := 76) hZ dX4_rate_75 rfl ?_
        refine x_topi (fun x76 e76 => ?_)
        replace h := h x76 e76
        refine x_istore (i := 4) (pc' := 78) (lv' := [(4, .int x76), (0, .ref q_this), (1, .int l1), (2, .int l2), (3, .int l3), (5, .int l5)]) hZ dX4_rate_76 rfl (by decide) rfl ?_
        obtain ⟨x78, e78⟩ : ∃ y : Int32, y = l5 + 1 := ⟨_, rfl⟩
        replace h := h x78 e78
        refine x_iinc (i := 5) (v := x78) (pc' := 81) (lv' := [(5, .int x78), (4, .int x76), (0, .ref q_this), (1, .int l1), (2, .int l2), (3, .int l3)]) hZ dX4_rate_78 rfl 5 rfl (by rw [e78]; rfl) (by decide) rfl ?_
        refine x_goto (pc' := 37) hZ dX4_rate_81 (by decide) ?_
        refine x_lv [2, 3, 4, 5, 1, 0] (lv' := [(0, .ref q_this), (1, .int l1), (2, .int l2), (3, .int l3), (4, .int x76), (5, .int x78)]) rfl ?_
        exact ih x76 x78 h hK
set_option maxHeartbeats 4000000 in
set_option maxRecDepth 100000 in
theorem c_X4_rate (E : XE) (q_this : Nat) (q_text : Nat) (q_ageing : Nat) (q_page : Nat) (q_readAgeing : Nat) (q_readPage : Nat) (q_book : Nat) (q_kept : Nat) (q_isKept : Nat) (q_heardWho : Nat) (q_heardIs : Nat) (q_tried : Nat) (q_chooser : Nat) (q_best : Nat) (q_alives : Nat) (v_thrown : Int32) (v_textSize : Int32) (v_place : Int32) (v_people : Int32) (v_readPeople : Int32) (v_acts : Int32) (v_heard : Int32) (v_seed : Int64) (v_choosers : Int32) (v_sets : Int32) (v_surely : Int32) (v_page : Nat → Int32) (l1 : Int32) (l2 : Int32) (l3 : Int32) (post : Int32 → Int32 → Prop) (h : p_X4_rate v_thrown v_people v_page l1 l2 l3 post) : ConI E yX4_rate cX4_rate 6 .int { frames := 2, cells := 0, slots := 0, locals := 55 } 0 0 [.ref q_this, .int l1, .int l2, .int l3] [(q_this, cO 4 [.int v_thrown, .ref q_text, .int v_textSize, .int v_place, .int v_people, .ref q_ageing, .ref q_page, .int v_readPeople, .ref q_readAgeing, .ref q_readPage, .ref q_book, .int v_acts, .ref q_kept, .ref q_isKept, .int v_heard, .ref q_heardWho, .ref q_heardIs, .long v_seed, .ref q_tried, .ref q_chooser, .int v_choosers, .ref q_best, .int v_sets, .int v_surely, .ref q_alives]), (q_page, cA E 25 v_page)] (fun r w => ∃ (u_thrown : Int32), w = [(q_this, cO 4 [.int u_thrown, .ref q_text, .int v_textSize, .int v_place, .int v_people, .ref q_ageing, .ref q_page, .int v_readPeople, .ref q_readAgeing, .ref q_readPage, .ref q_book, .int v_acts, .ref q_kept, .ref q_isKept, .int v_heard, .ref q_heardWho, .ref q_heardIs, .long v_seed, .ref q_tried, .ref q_chooser, .int v_choosers, .ref q_best, .int v_sets, .int v_surely, .ref q_alives]), (q_page, cA E 25 v_page)] ∧ post r u_thrown) := by
  refine ConI.of (by decide +kernel) (Nat.le_of_ble_eq_true rfl) (fun Z hZ hI hRet => ?_)
  replace hZ : XOK E Z RX4 cX4_rate 6 { frames := 2, cells := 0, slots := 0, locals := 55 } := hZ
  clear hI
  show XW E Z 0 0 [(q_this, cO 4 [.int v_thrown, .ref q_text, .int v_textSize, .int v_place, .int v_people, .ref q_ageing, .ref q_page, .int v_readPeople, .ref q_readAgeing, .ref q_readPage, .ref q_book, .int v_acts, .ref q_kept, .ref q_isKept, .int v_heard, .ref q_heardWho, .ref q_heardIs, .long v_seed, .ref q_tried, .ref q_chooser, .int v_choosers, .ref q_best, .int v_sets, .int v_surely, .ref q_alives]), (q_page, cA E 25 v_page)] [(0, .ref q_this), (1, .int l1), (2, .int l2), (3, .int l3)] [] 0
  unfold p_X4_rate at h
  refine x_aload_n (pc' := 1) hZ dX4_rate_0 rfl 0 rfl ?_
  refine x_iconst (v := 0) (pc' := 2) hZ (by decide) dX4_rate_1 rfl ?_
  refine s_RX4_53 (pc' := 5) (ws' := [(q_this, cO 4 [.int 0, .ref q_text, .int v_textSize, .int v_place, .int v_people, .ref q_ageing, .ref q_page, .int v_readPeople, .ref q_readAgeing, .ref q_readPage, .ref q_book, .int v_acts, .ref q_kept, .ref q_isKept, .int v_heard, .ref q_heardWho, .ref q_heardIs, .long v_seed, .ref q_tried, .ref q_chooser, .int v_choosers, .ref q_best, .int v_sets, .int v_surely, .ref q_alives]), (q_page, cA E 25 v_page)]) hZ dX4_rate_2 rfl 0 rfl (Nat.le_of_ble_eq_true rfl) rfl ?_
  refine x_aload_n (pc' := 6) hZ dX4_rate_5 rfl 0 rfl ?_
  refine x_iload_n (pc' := 7) hZ dX4_rate_6 rfl 1 rfl ?_
  refine k_RX4_111 (pc' := 10) (q0 := 0) (as := [.int l1]) (rest := []) (c' := 0) (n' := 0) (wr := [(q_page, cA E 25 v_page)]) hZ (c_X4_noOne E q_this q_text q_ageing q_page q_readAgeing q_readPage q_book q_kept q_isKept q_heardWho q_heardIs q_tried q_chooser q_best q_alives 0 v_textSize v_place v_people v_readPeople v_acts v_heard v_seed v_choosers v_sets v_surely l1 _ h) rfl dX4_rate_7 rfl rfl rfl rfl rfl (Nat.le_of_ble_eq_true rfl) (Nat.le_of_ble_eq_true rfl) (Nat.le_of_ble_eq_true rfl) rfl rfl (Nat.le_of_ble_eq_true rfl) (Nat.le_of_ble_eq_true rfl) [0] [1] rfl rfl (by decide) (by decide) (by decide) (fun r7 w7 hw => ?_)
  obtain ⟨rfl, h⟩ := hw
  refine x_ws (ws' := [(q_this, cO 4 [.int 0, .ref q_text, .int v_textSize, .int v_place, .int v_people, .ref q_ageing, .ref q_page, .int v_readPeople, .ref q_readAgeing, .ref q_readPage, .ref q_book, .int v_acts, .ref q_kept, .ref q_isKept, .int v_heard, .ref q_heardWho, .ref q_heardIs, .long v_seed, .ref q_tried, .ref q_chooser, .int v_choosers, .ref q_best, .int v_sets, .int v_surely, .ref q_alives]), (q_page, cA E 25 v_page)]) [1, 0] rfl (by decide) ?_
  refine x_if_ne (tgt := 21) (pc' := 13) hZ dX4_rate_10 (by decide) rfl (fun c10 => ?_) (fun c10 => ?_)
  · replace h := h.1 c10
    refine x_iconst (v := (-1)) (pc' := 22) hZ (by decide) dX4_rate_21 rfl ?_
    exact hRet _ _ _ _ dX4_rate_22 ⟨_, rfl, h⟩
  · replace h := h.2 c10
    refine x_aload_n (pc' := 14) hZ dX4_rate_13 rfl 0 rfl ?_
    refine x_iload_n (pc' := 15) hZ dX4_rate_14 rfl 2 rfl ?_
    refine k_RX4_111 (pc' := 18) (q0 := 0) (as := [.int l2]) (rest := []) (c' := 0) (n' := 0) (wr := [(q_page, cA E 25 v_page)]) hZ (c_X4_noOne E q_this q_text q_ageing q_page q_readAgeing q_readPage q_book q_kept q_isKept q_heardWho q_heardIs q_tried q_chooser q_best q_alives 0 v_textSize v_place v_people v_readPeople v_acts v_heard v_seed v_choosers v_sets v_surely l2 _ h) rfl dX4_rate_15 rfl rfl rfl rfl rfl (Nat.le_of_ble_eq_true rfl) (Nat.le_of_ble_eq_true rfl) (Nat.le_of_ble_eq_true rfl) rfl rfl (Nat.le_of_ble_eq_true rfl) (Nat.le_of_ble_eq_true rfl) [0] [1] rfl rfl (by decide) (by decide) (by decide) (fun r15 w15 hw => ?_)
    obtain ⟨rfl, h⟩ := hw
    refine x_ws (ws' := [(q_this, cO 4 [.int 0, .ref q_text, .int v_textSize, .int v_place, .int v_people, .ref q_ageing, .ref q_page, .int v_readPeople, .ref q_readAgeing, .ref q_readPage, .ref q_book, .int v_acts, .ref q_kept, .ref q_isKept, .int v_heard, .ref q_heardWho, .ref q_heardIs, .long v_seed, .ref q_tried, .ref q_chooser, .int v_choosers, .ref q_best, .int v_sets, .int v_surely, .ref q_alives]), (q_page, cA E 25 v_page)]) [1, 0] rfl (by decide) ?_
    refine x_if_eq (tgt := 23) (pc' := 21) hZ dX4_rate_18 (by decide) rfl (fun c18 => ?_) (fun c18 => ?_)
    · replace h := h.1 c18
      refine x_iload_n (pc' := 24) hZ dX4_rate_23 rfl 1 rfl ?_
      refine x_iload_n (pc' := 25) hZ dX4_rate_24 rfl 2 rfl ?_
      refine x_icmp_ne (tgt := 31) (pc' := 28) hZ dX4_rate_25 (by decide) rfl (fun c25 => ?_) (fun c25 => ?_)
      · replace h := h.1 c25
        refine x_iconst (v := 0) (pc' := 32) hZ (by decide) dX4_rate_31 rfl ?_
        refine x_istore (i := 4) (pc' := 34) (lv' := [(4, .int 0), (0, .ref q_this), (1, .int l1), (2, .int l2), (3, .int l3)]) hZ dX4_rate_32 rfl (by decide) rfl ?_
        refine x_iconst (v := 1) (pc' := 35) hZ (by decide) dX4_rate_34 rfl ?_
        refine x_istore (i := 5) (pc' := 37) (lv' := [(5, .int 1), (4, .int 0), (0, .ref q_this), (1, .int l1), (2, .int l2), (3, .int l3)]) hZ dX4_rate_35 rfl (by decide) rfl ?_
        refine x_lv [2, 3, 4, 5, 1, 0] (lv' := [(0, .ref q_this), (1, .int l1), (2, .int l2), (3, .int l3), (4, .int 0), (5, .int 1)]) rfl ?_
        obtain ⟨k37, h⟩ := h
        refine t_X4_rate_37 E Z q_this q_text q_ageing q_page q_readAgeing q_readPage q_book q_kept q_isKept q_heardWho q_heardIs q_tried q_chooser q_best q_alives 0 v_textSize v_place v_people v_readPeople v_acts v_heard v_seed v_choosers v_sets v_surely v_page l1 l2 l3 hZ  _ 0 1 h (fun l4_37 l5_37 h => ?_)
        refine x_iload (pc' := 86) hZ dX4_rate_84 rfl 1 rfl ?_
        refine x_i2l (pc' := 87) hZ dX4_rate_86 rfl ?_
        refine x_ldc2 (v := 999) (pc' := 90) hZ kl_RX4_172 dX4_rate_87 rfl ?_
        refine x_iload_n (pc' := 91) hZ dX4_rate_90 rfl 0 rfl ?_
        refine k_RX4_178 (pc' := 94) (as := [.long l4_37.toInt64, .long 999, .int l3]) (rest := []) (c' := 0) (n' := 0) (wr := [(q_this, cO 4 [.int 0, .ref q_text, .int v_textSize, .int v_place, .int v_people, .ref q_ageing, .ref q_page, .int v_readPeople, .ref q_readAgeing, .ref q_readPage, .ref q_book, .int v_acts, .ref q_kept, .ref q_isKept, .int v_heard, .ref q_heardWho, .ref q_heardIs, .long v_seed, .ref q_tried, .ref q_chooser, .int v_choosers, .ref q_best, .int v_sets, .int v_surely, .ref q_alives]), (q_page, cA E 25 v_page)]) hZ (c_X4_fraction E l4_37.toInt64 999 l3 _ h) dX4_rate_91 rfl rfl rfl rfl rfl (Nat.le_of_ble_eq_true rfl) (Nat.le_of_ble_eq_true rfl) (Nat.le_of_ble_eq_true rfl) rfl rfl (Nat.le_of_ble_eq_true rfl) (Nat.le_of_ble_eq_true rfl) [] [0, 1] rfl rfl (by decide) (by decide) (by decide) (fun r91 w91 hw => ?_)
        obtain ⟨rfl, h⟩ := hw
        refine x_ws (ws' := [(q_this, cO 4 [.int 0, .ref q_text, .int v_textSize, .int v_place, .int v_people, .ref q_ageing, .ref q_page, .int v_readPeople, .ref q_readAgeing, .ref q_readPage, .ref q_book, .int v_acts, .ref q_kept, .ref q_isKept, .int v_heard, .ref q_heardWho, .ref q_heardIs, .long v_seed, .ref q_tried, .ref q_chooser, .int v_choosers, .ref q_best, .int v_sets, .int v_surely, .ref q_alives]), (q_page, cA E 25 v_page)]) [0, 1] rfl (by decide) ?_
        exact hRet _ _ _ _ dX4_rate_94 ⟨_, rfl, h⟩
      · replace h := h.2 c25
        refine x_bipush (v := (-2)) (pc' := 30) hZ (by decide) dX4_rate_28 rfl ?_
        exact hRet _ _ _ _ dX4_rate_30 ⟨_, rfl, h⟩
    · replace h := h.2 c18
      refine x_iconst (v := (-1)) (pc' := 22) hZ (by decide) dX4_rate_21 rfl ?_
      exact hRet _ _ _ _ dX4_rate_22 ⟨_, rfl, h⟩
set_option maxHeartbeats 4000000 in
set_option maxRecDepth 100000 in
theorem c_X4_saying (E : XE) (q_this : Nat) (q_text : Nat) (q_ageing : Nat) (q_page : Nat) (q_readAgeing : Nat) (q_readPage : Nat) (q_book : Nat) (q_kept : Nat) (q_isKept : Nat) (q_heardWho : Nat) (q_heardIs : Nat) (q_tried : Nat) (q_chooser : Nat) (q_best : Nat) (q_alives : Nat) (v_thrown : Int32) (v_textSize : Int32) (v_place : Int32) (v_people : Int32) (v_readPeople : Int32) (v_acts : Int32) (v_heard : Int32) (v_seed : Int64) (v_choosers : Int32) (v_sets : Int32) (v_surely : Int32) (v_page : Nat → Int32) (l1 : Int32) (l2 : Int32) (l3 : Int32) (post : Int32 → Int32 → Prop) (h : p_X4_saying v_thrown v_people v_page l1 l2 l3 post) : ConI E yX4_saying cX4_saying 6 .int { frames := 3, cells := 0, slots := 0, locals := 69 } 0 0 [.ref q_this, .int l1, .int l2, .int l3] [(q_this, cO 4 [.int v_thrown, .ref q_text, .int v_textSize, .int v_place, .int v_people, .ref q_ageing, .ref q_page, .int v_readPeople, .ref q_readAgeing, .ref q_readPage, .ref q_book, .int v_acts, .ref q_kept, .ref q_isKept, .int v_heard, .ref q_heardWho, .ref q_heardIs, .long v_seed, .ref q_tried, .ref q_chooser, .int v_choosers, .ref q_best, .int v_sets, .int v_surely, .ref q_alives]), (q_page, cA E 25 v_page)] (fun r w => ∃ (u_thrown : Int32), w = [(q_this, cO 4 [.int u_thrown, .ref q_text, .int v_textSize, .int v_place, .int v_people, .ref q_ageing, .ref q_page, .int v_readPeople, .ref q_readAgeing, .ref q_readPage, .ref q_book, .int v_acts, .ref q_kept, .ref q_isKept, .int v_heard, .ref q_heardWho, .ref q_heardIs, .long v_seed, .ref q_tried, .ref q_chooser, .int v_choosers, .ref q_best, .int v_sets, .int v_surely, .ref q_alives]), (q_page, cA E 25 v_page)] ∧ post r u_thrown) := by
  refine ConI.of (by decide +kernel) (Nat.le_of_ble_eq_true rfl) (fun Z hZ hI hRet => ?_)
  replace hZ : XOK E Z RX4 cX4_saying 6 { frames := 3, cells := 0, slots := 0, locals := 69 } := hZ
  clear hI
  show XW E Z 0 0 [(q_this, cO 4 [.int v_thrown, .ref q_text, .int v_textSize, .int v_place, .int v_people, .ref q_ageing, .ref q_page, .int v_readPeople, .ref q_readAgeing, .ref q_readPage, .ref q_book, .int v_acts, .ref q_kept, .ref q_isKept, .int v_heard, .ref q_heardWho, .ref q_heardIs, .long v_seed, .ref q_tried, .ref q_chooser, .int v_choosers, .ref q_best, .int v_sets, .int v_surely, .ref q_alives]), (q_page, cA E 25 v_page)] [(0, .ref q_this), (1, .int l1), (2, .int l2), (3, .int l3)] [] 0
  unfold p_X4_saying at h
  refine x_aload_n (pc' := 1) hZ dX4_saying_0 rfl 0 rfl ?_
  refine x_iconst (v := 0) (pc' := 2) hZ (by decide) dX4_saying_1 rfl ?_
  refine s_RX4_53 (pc' := 5) (ws' := [(q_this, cO 4 [.int 0, .ref q_text, .int v_textSize, .int v_place, .int v_people, .ref q_ageing, .ref q_page, .int v_readPeople, .ref q_readAgeing, .ref q_readPage, .ref q_book, .int v_acts, .ref q_kept, .ref q_isKept, .int v_heard, .ref q_heardWho, .ref q_heardIs, .long v_seed, .ref q_tried, .ref q_chooser, .int v_choosers, .ref q_best, .int v_sets, .int v_surely, .ref q_alives]), (q_page, cA E 25 v_page)]) hZ dX4_saying_2 rfl 0 rfl (Nat.le_of_ble_eq_true rfl) rfl ?_
  refine x_aload_n (pc' := 6) hZ dX4_saying_5 rfl 0 rfl ?_
  refine x_iload_n (pc' := 7) hZ dX4_saying_6 rfl 1 rfl ?_
  refine k_RX4_111 (pc' := 10) (q0 := 0) (as := [.int l1]) (rest := []) (c' := 0) (n' := 0) (wr := [(q_page, cA E 25 v_page)]) hZ (c_X4_noOne E q_this q_text q_ageing q_page q_readAgeing q_readPage q_book q_kept q_isKept q_heardWho q_heardIs q_tried q_chooser q_best q_alives 0 v_textSize v_place v_people v_readPeople v_acts v_heard v_seed v_choosers v_sets v_surely l1 _ h) rfl dX4_saying_7 rfl rfl rfl rfl rfl (Nat.le_of_ble_eq_true rfl) (Nat.le_of_ble_eq_true rfl) (Nat.le_of_ble_eq_true rfl) rfl rfl (Nat.le_of_ble_eq_true rfl) (Nat.le_of_ble_eq_true rfl) [0] [1] rfl rfl (by decide) (by decide) (by decide) (fun r7 w7 hw => ?_)
  obtain ⟨rfl, h⟩ := hw
  refine x_ws (ws' := [(q_this, cO 4 [.int 0, .ref q_text, .int v_textSize, .int v_place, .int v_people, .ref q_ageing, .ref q_page, .int v_readPeople, .ref q_readAgeing, .ref q_readPage, .ref q_book, .int v_acts, .ref q_kept, .ref q_isKept, .int v_heard, .ref q_heardWho, .ref q_heardIs, .long v_seed, .ref q_tried, .ref q_chooser, .int v_choosers, .ref q_best, .int v_sets, .int v_surely, .ref q_alives]), (q_page, cA E 25 v_page)]) [1, 0] rfl (by decide) ?_
  refine x_if_eq (tgt := 15) (pc' := 13) hZ dX4_saying_10 (by decide) rfl (fun c10 => ?_) (fun c10 => ?_)
  · replace h := h.1 c10
    refine x_iload_n (pc' := 16) hZ dX4_saying_15 rfl 2 rfl ?_
    refine x_i2l (pc' := 17) hZ dX4_saying_16 rfl ?_
    refine x_lconst (v := 0) (pc' := 18) hZ (by decide) dX4_saying_17 rfl ?_
    refine x_ldc2 (v := 10) (pc' := 21) hZ kl_RX4_182 dX4_saying_18 rfl ?_
    refine k_RX4_60 (pc' := 24) (as := [.long l2.toInt64, .long 0, .long 10]) (rest := []) (c' := 0) (n' := 0) (wr := [(q_this, cO 4 [.int 0, .ref q_text, .int v_textSize, .int v_place, .int v_people, .ref q_ageing, .ref q_page, .int v_readPeople, .ref q_readAgeing, .ref q_readPage, .ref q_book, .int v_acts, .ref q_kept, .ref q_isKept, .int v_heard, .ref q_heardWho, .ref q_heardIs, .long v_seed, .ref q_tried, .ref q_chooser, .int v_choosers, .ref q_best, .int v_sets, .int v_surely, .ref q_alives]), (q_page, cA E 25 v_page)]) hZ (c_X4_in E l2.toInt64 0 10 _ h) dX4_saying_21 rfl rfl rfl rfl rfl (Nat.le_of_ble_eq_true rfl) (Nat.le_of_ble_eq_true rfl) (Nat.le_of_ble_eq_true rfl) rfl rfl (Nat.le_of_ble_eq_true rfl) (Nat.le_of_ble_eq_true rfl) [] [0, 1] rfl rfl (by decide) (by decide) (by decide) (fun r21 w21 hw => ?_)
    obtain ⟨rfl, h⟩ := hw
    refine x_ws (ws' := [(q_this, cO 4 [.int 0, .ref q_text, .int v_textSize, .int v_place, .int v_people, .ref q_ageing, .ref q_page, .int v_readPeople, .ref q_readAgeing, .ref q_readPage, .ref q_book, .int v_acts, .ref q_kept, .ref q_isKept, .int v_heard, .ref q_heardWho, .ref q_heardIs, .long v_seed, .ref q_tried, .ref q_chooser, .int v_choosers, .ref q_best, .int v_sets, .int v_surely, .ref q_alives]), (q_page, cA E 25 v_page)]) [0, 1] rfl (by decide) ?_
    refine x_if_ne (tgt := 30) (pc' := 27) hZ dX4_saying_24 (by decide) rfl (fun c24 => ?_) (fun c24 => ?_)
    · replace h := h.1 c24
      refine x_aload_n (pc' := 31) hZ dX4_saying_30 rfl 0 rfl ?_
      refine g_RX4_16 (pc' := 34) hZ dX4_saying_31 rfl 0 rfl rfl ?_
      refine x_bipush (v := 21) (pc' := 36) hZ (by decide) dX4_saying_34 rfl ?_
      have h36 : vp_in 21 25 := by unfold vp_in; decide
      refine x_iald (pc' := 37) hZ h36 dX4_saying_36 rfl 1 rfl ?_
      refine x_iload_n (pc' := 38) hZ dX4_saying_37 rfl 1 rfl ?_
      refine k_RX4_90 (pc' := 41) (as := [.int (v_page (ix 21)), .int l1]) (rest := []) (c' := 0) (n' := 0) (wr := [(q_this, cO 4 [.int 0, .ref q_text, .int v_textSize, .int v_place, .int v_people, .ref q_ageing, .ref q_page, .int v_readPeople, .ref q_readAgeing, .ref q_readPage, .ref q_book, .int v_acts, .ref q_kept, .ref q_isKept, .int v_heard, .ref q_heardWho, .ref q_heardIs, .long v_seed, .ref q_tried, .ref q_chooser, .int v_choosers, .ref q_best, .int v_sets, .int v_surely, .ref q_alives]), (q_page, cA E 25 v_page)]) hZ (c_X4_has E (v_page (ix 21)) l1 _ h) dX4_saying_38 rfl rfl rfl rfl rfl (Nat.le_of_ble_eq_true rfl) (Nat.le_of_ble_eq_true rfl) (Nat.le_of_ble_eq_true rfl) rfl rfl (Nat.le_of_ble_eq_true rfl) (Nat.le_of_ble_eq_true rfl) [] [0, 1] rfl rfl (by decide) (by decide) (by decide) (fun r38 w38 hw => ?_)
      obtain ⟨rfl, h⟩ := hw
      refine x_ws (ws' := [(q_this, cO 4 [.int 0, .ref q_text, .int v_textSize, .int v_place, .int v_people, .ref q_ageing, .ref q_page, .int v_readPeople, .ref q_readAgeing, .ref q_readPage, .ref q_book, .int v_acts, .ref q_kept, .ref q_isKept, .int v_heard, .ref q_heardWho, .ref q_heardIs, .long v_seed, .ref q_tried, .ref q_chooser, .int v_choosers, .ref q_best, .int v_sets, .int v_surely, .ref q_alives]), (q_page, cA E 25 v_page)]) [0, 1] rfl (by decide) ?_
      refine x_if_ne (tgt := 47) (pc' := 44) hZ dX4_saying_41 (by decide) rfl (fun c41 => ?_) (fun c41 => ?_)
      · replace h := h.1 c41
        refine x_aload_n (pc' := 48) hZ dX4_saying_47 rfl 0 rfl ?_
        refine g_RX4_16 (pc' := 51) hZ dX4_saying_48 rfl 0 rfl rfl ?_
        refine x_bipush (v := 21) (pc' := 53) hZ (by decide) dX4_saying_51 rfl ?_
        have h53 : vp_in 21 25 := by unfold vp_in; decide
        refine x_iald (pc' := 54) hZ h53 dX4_saying_53 rfl 1 rfl ?_
        refine k_RX4_127 (pc' := 57) (as := [.int (v_page (ix 21))]) (rest := []) (c' := 0) (n' := 0) (wr := [(q_this, cO 4 [.int 0, .ref q_text, .int v_textSize, .int v_place, .int v_people, .ref q_ageing, .ref q_page, .int v_readPeople, .ref q_readAgeing, .ref q_readPage, .ref q_book, .int v_acts, .ref q_kept, .ref q_isKept, .int v_heard, .ref q_heardWho, .ref q_heardIs, .long v_seed, .ref q_tried, .ref q_chooser, .int v_choosers, .ref q_best, .int v_sets, .int v_surely, .ref q_alives]), (q_page, cA E 25 v_page)]) hZ (c_X4_many E (v_page (ix 21)) _ h) dX4_saying_54 rfl rfl rfl rfl rfl (Nat.le_of_ble_eq_true rfl) (Nat.le_of_ble_eq_true rfl) (Nat.le_of_ble_eq_true rfl) rfl rfl (Nat.le_of_ble_eq_true rfl) (Nat.le_of_ble_eq_true rfl) [] [0, 1] rfl rfl (by decide) (by decide) (by decide) (fun r54 w54 hw => ?_)
        obtain ⟨rfl, h⟩ := hw
        refine x_ws (ws' := [(q_this, cO 4 [.int 0, .ref q_text, .int v_textSize, .int v_place, .int v_people, .ref q_ageing, .ref q_page, .int v_readPeople, .ref q_readAgeing, .ref q_readPage, .ref q_book, .int v_acts, .ref q_kept, .ref q_isKept, .int v_heard, .ref q_heardWho, .ref q_heardIs, .long v_seed, .ref q_tried, .ref q_chooser, .int v_choosers, .ref q_best, .int v_sets, .int v_surely, .ref q_alives]), (q_page, cA E 25 v_page)]) [0, 1] rfl (by decide) ?_
        refine x_istore (i := 4) (pc' := 59) (lv' := [(4, .int r54), (0, .ref q_this), (1, .int l1), (2, .int l2), (3, .int l3)]) hZ dX4_saying_57 rfl (by decide) rfl ?_
        refine x_aload_n (pc' := 60) hZ dX4_saying_59 rfl 1 rfl ?_
        refine k_RX4_105 (pc' := 63) (q0 := 0) (as := []) (rest := []) (c' := 0) (n' := 0) (wr := []) hZ (c_X4_fairest E q_this q_text q_ageing q_page q_readAgeing q_readPage q_book q_kept q_isKept q_heardWho q_heardIs q_tried q_chooser q_best q_alives 0 v_textSize v_place v_people v_readPeople v_acts v_heard v_seed v_choosers v_sets v_surely v_page _ h) rfl dX4_saying_60 rfl rfl rfl rfl rfl (Nat.le_of_ble_eq_true rfl) (Nat.le_of_ble_eq_true rfl) (Nat.le_of_ble_eq_true rfl) rfl rfl (Nat.le_of_ble_eq_true rfl) (Nat.le_of_ble_eq_true rfl) [0, 1] [] rfl rfl (by decide) (by decide) (by decide) (fun r60 w60 hw => ?_)
        obtain ⟨rfl, h⟩ := hw
        refine x_ws (ws' := [(q_this, cO 4 [.int 0, .ref q_text, .int v_textSize, .int v_place, .int v_people, .ref q_ageing, .ref q_page, .int v_readPeople, .ref q_readAgeing, .ref q_readPage, .ref q_book, .int v_acts, .ref q_kept, .ref q_isKept, .int v_heard, .ref q_heardWho, .ref q_heardIs, .long v_seed, .ref q_tried, .ref q_chooser, .int v_choosers, .ref q_best, .int v_sets, .int v_surely, .ref q_alives]), (q_page, cA E 25 v_page)]) [0, 1] rfl (by decide) ?_
        refine x_iload_n (pc' := 64) hZ dX4_saying_63 rfl 2 rfl ?_
        refine k_RX4_90 (pc' := 67) (as := [.int r60, .int l1]) (rest := []) (c' := 0) (n' := 0) (wr := [(q_this, cO 4 [.int 0, .ref q_text, .int v_textSize, .int v_place, .int v_people, .ref q_ageing, .ref q_page, .int v_readPeople, .ref q_readAgeing, .ref q_readPage, .ref q_book, .int v_acts, .ref q_kept, .ref q_isKept, .int v_heard, .ref q_heardWho, .ref q_heardIs, .long v_seed, .ref q_tried, .ref q_chooser, .int v_choosers, .ref q_best, .int v_sets, .int v_surely, .ref q_alives]), (q_page, cA E 25 v_page)]) hZ (c_X4_has E r60 l1 _ h) dX4_saying_64 rfl rfl rfl rfl rfl (Nat.le_of_ble_eq_true rfl) (Nat.le_of_ble_eq_true rfl) (Nat.le_of_ble_eq_true rfl) rfl rfl (Nat.le_of_ble_eq_true rfl) (Nat.le_of_ble_eq_true rfl) [] [0, 1] rfl rfl (by decide) (by decide) (by decide) (fun r64 w64 hw => ?_)
        obtain ⟨rfl, h⟩ := hw
        refine x_ws (ws' := [(q_this, cO 4 [.int 0, .ref q_text, .int v_textSize, .int v_place, .int v_people, .ref q_ageing, .ref q_page, .int v_readPeople, .ref q_readAgeing, .ref q_readPage, .ref q_book, .int v_acts, .ref q_kept, .ref q_isKept, .int v_heard, .ref q_heardWho, .ref q_heardIs, .long v_seed, .ref q_tried, .ref q_chooser, .int v_choosers, .ref q_best, .int v_sets, .int v_surely, .ref q_alives]), (q_page, cA E 25 v_page)]) [0, 1] rfl (by decide) ?_
        refine x_if_eq (tgt := 87) (pc' := 70) hZ dX4_saying_67 (by decide) rfl (fun c67 => ?_) (fun c67 => ?_)
        · replace h := h.1 c67
          refine x_iconst (v := 0) (pc' := 88) hZ (by decide) dX4_saying_87 rfl ?_
          refine x_istore (i := 5) (pc' := 90) (lv' := [(5, .int 0), (4, .int r54), (0, .ref q_this), (1, .int l1), (2, .int l2), (3, .int l3)]) hZ dX4_saying_88 rfl (by decide) rfl ?_
          refine x_iload (pc' := 92) hZ dX4_saying_90 rfl 0 rfl ?_
          refine x_if_eq (tgt := 102) (pc' := 95) hZ dX4_saying_92 (by decide) rfl (fun c92 => ?_) (fun c92 => ?_)
          · refine x_iconst (v := 0) (pc' := 103) hZ (by decide) dX4_saying_102 rfl ?_
            refine x_bipush (v := 10) (pc' := 105) hZ (by decide) dX4_saying_103 rfl ?_
            refine x_iadd (pc' := 106) hZ dX4_saying_105 rfl ?_
            refine x_iload_n (pc' := 107) hZ dX4_saying_106 rfl 4 rfl ?_
            refine x_isub (pc' := 108) hZ dX4_saying_107 rfl ?_
            refine x_i2l (pc' := 109) hZ dX4_saying_108 rfl ?_
            refine x_ldc2 (v := 10) (pc' := 112) hZ kl_RX4_182 dX4_saying_109 rfl ?_
            refine x_iload (pc' := 114) hZ dX4_saying_112 rfl 1 rfl ?_
            refine x_i2l (pc' := 115) hZ dX4_saying_114 rfl ?_
            refine x_lmul (pc' := 116) hZ dX4_saying_115 rfl ?_
            refine x_iload_n (pc' := 117) hZ dX4_saying_116 rfl 5 rfl ?_
            refine k_RX4_178 (pc' := 120) (as := [.long (((0 + 10) - l2).toInt64), .long (10 * r54.toInt64), .int l3]) (rest := []) (c' := 0) (n' := 0) (wr := [(q_this, cO 4 [.int 0, .ref q_text, .int v_textSize, .int v_place, .int v_people, .ref q_ageing, .ref q_page, .int v_readPeople, .ref q_readAgeing, .ref q_readPage, .ref q_book, .int v_acts, .ref q_kept, .ref q_isKept, .int v_heard, .ref q_heardWho, .ref q_heardIs, .long v_seed, .ref q_tried, .ref q_chooser, .int v_choosers, .ref q_best, .int v_sets, .int v_surely, .ref q_alives]), (q_page, cA E 25 v_page)]) hZ (c_X4_fraction E (((0 + 10) - l2).toInt64) (10 * r54.toInt64) l3 _ h) dX4_saying_117 rfl rfl rfl rfl rfl (Nat.le_of_ble_eq_true rfl) (Nat.le_of_ble_eq_true rfl) (Nat.le_of_ble_eq_true rfl) rfl rfl (Nat.le_of_ble_eq_true rfl) (Nat.le_of_ble_eq_true rfl) [] [0, 1] rfl rfl (by decide) (by decide) (by decide) (fun r117 w117 hw => ?_)
            obtain ⟨rfl, h⟩ := hw
            refine x_ws (ws' := [(q_this, cO 4 [.int 0, .ref q_text, .int v_textSize, .int v_place, .int v_people, .ref q_ageing, .ref q_page, .int v_readPeople, .ref q_readAgeing, .ref q_readPage, .ref q_book, .int v_acts, .ref q_kept, .ref q_isKept, .int v_heard, .ref q_heardWho, .ref q_heardIs, .long v_seed, .ref q_tried, .ref q_chooser, .int v_choosers, .ref q_best, .int v_sets, .int v_surely, .ref q_alives]), (q_page, cA E 25 v_page)]) [0, 1] rfl (by decide) ?_
            exact hRet _ _ _ _ dX4_saying_120 ⟨_, rfl, h⟩
          · exact absurd c92 (by decide)
        · replace h := h.2 c67
          refine x_aload_n (pc' := 71) hZ dX4_saying_70 rfl 1 rfl ?_
          refine k_RX4_105 (pc' := 74) (q0 := 0) (as := []) (rest := []) (c' := 0) (n' := 0) (wr := []) hZ (c_X4_fairest E q_this q_text q_ageing q_page q_readAgeing q_readPage q_book q_kept q_isKept q_heardWho q_heardIs q_tried q_chooser q_best q_alives 0 v_textSize v_place v_people v_readPeople v_acts v_heard v_seed v_choosers v_sets v_surely v_page _ h) rfl dX4_saying_71 rfl rfl rfl rfl rfl (Nat.le_of_ble_eq_true rfl) (Nat.le_of_ble_eq_true rfl) (Nat.le_of_ble_eq_true rfl) rfl rfl (Nat.le_of_ble_eq_true rfl) (Nat.le_of_ble_eq_true rfl) [0, 1] [] rfl rfl (by decide) (by decide) (by decide) (fun r71 w71 hw => ?_)
          obtain ⟨rfl, h⟩ := hw
          refine x_ws (ws' := [(q_this, cO 4 [.int 0, .ref q_text, .int v_textSize, .int v_place, .int v_people, .ref q_ageing, .ref q_page, .int v_readPeople, .ref q_readAgeing, .ref q_readPage, .ref q_book, .int v_acts, .ref q_kept, .ref q_isKept, .int v_heard, .ref q_heardWho, .ref q_heardIs, .long v_seed, .ref q_tried, .ref q_chooser, .int v_choosers, .ref q_best, .int v_sets, .int v_surely, .ref q_alives]), (q_page, cA E 25 v_page)]) [0, 1] rfl (by decide) ?_
          refine x_iconst (v := 1) (pc' := 75) hZ (by decide) dX4_saying_74 rfl ?_
          refine x_iload_n (pc' := 76) hZ dX4_saying_75 rfl 2 rfl ?_
          refine x_ishl (pc' := 77) hZ dX4_saying_76 rfl ?_
          refine x_iconst (v := 1) (pc' := 78) hZ (by decide) dX4_saying_77 rfl ?_
          refine x_isub (pc' := 79) hZ dX4_saying_78 rfl ?_
          refine x_iand (pc' := 80) hZ dX4_saying_79 rfl ?_
          refine x_if_ne (tgt := 87) (pc' := 83) hZ dX4_saying_80 (by decide) rfl (fun c80 => ?_) (fun c80 => ?_)
          · replace h := h.1 c80
            refine x_iconst (v := 0) (pc' := 88) hZ (by decide) dX4_saying_87 rfl ?_
            refine x_istore (i := 5) (pc' := 90) (lv' := [(5, .int 0), (4, .int r54), (0, .ref q_this), (1, .int l1), (2, .int l2), (3, .int l3)]) hZ dX4_saying_88 rfl (by decide) rfl ?_
            refine x_iload (pc' := 92) hZ dX4_saying_90 rfl 0 rfl ?_
            refine x_if_eq (tgt := 102) (pc' := 95) hZ dX4_saying_92 (by decide) rfl (fun c92 => ?_) (fun c92 => ?_)
            · refine x_iconst (v := 0) (pc' := 103) hZ (by decide) dX4_saying_102 rfl ?_
              refine x_bipush (v := 10) (pc' := 105) hZ (by decide) dX4_saying_103 rfl ?_
              refine x_iadd (pc' := 106) hZ dX4_saying_105 rfl ?_
              refine x_iload_n (pc' := 107) hZ dX4_saying_106 rfl 4 rfl ?_
              refine x_isub (pc' := 108) hZ dX4_saying_107 rfl ?_
              refine x_i2l (pc' := 109) hZ dX4_saying_108 rfl ?_
              refine x_ldc2 (v := 10) (pc' := 112) hZ kl_RX4_182 dX4_saying_109 rfl ?_
              refine x_iload (pc' := 114) hZ dX4_saying_112 rfl 1 rfl ?_
              refine x_i2l (pc' := 115) hZ dX4_saying_114 rfl ?_
              refine x_lmul (pc' := 116) hZ dX4_saying_115 rfl ?_
              refine x_iload_n (pc' := 117) hZ dX4_saying_116 rfl 5 rfl ?_
              refine k_RX4_178 (pc' := 120) (as := [.long (((0 + 10) - l2).toInt64), .long (10 * r54.toInt64), .int l3]) (rest := []) (c' := 0) (n' := 0) (wr := [(q_this, cO 4 [.int 0, .ref q_text, .int v_textSize, .int v_place, .int v_people, .ref q_ageing, .ref q_page, .int v_readPeople, .ref q_readAgeing, .ref q_readPage, .ref q_book, .int v_acts, .ref q_kept, .ref q_isKept, .int v_heard, .ref q_heardWho, .ref q_heardIs, .long v_seed, .ref q_tried, .ref q_chooser, .int v_choosers, .ref q_best, .int v_sets, .int v_surely, .ref q_alives]), (q_page, cA E 25 v_page)]) hZ (c_X4_fraction E (((0 + 10) - l2).toInt64) (10 * r54.toInt64) l3 _ h) dX4_saying_117 rfl rfl rfl rfl rfl (Nat.le_of_ble_eq_true rfl) (Nat.le_of_ble_eq_true rfl) (Nat.le_of_ble_eq_true rfl) rfl rfl (Nat.le_of_ble_eq_true rfl) (Nat.le_of_ble_eq_true rfl) [] [0, 1] rfl rfl (by decide) (by decide) (by decide) (fun r117 w117 hw => ?_)
              obtain ⟨rfl, h⟩ := hw
              refine x_ws (ws' := [(q_this, cO 4 [.int 0, .ref q_text, .int v_textSize, .int v_place, .int v_people, .ref q_ageing, .ref q_page, .int v_readPeople, .ref q_readAgeing, .ref q_readPage, .ref q_book, .int v_acts, .ref q_kept, .ref q_isKept, .int v_heard, .ref q_heardWho, .ref q_heardIs, .long v_seed, .ref q_tried, .ref q_chooser, .int v_choosers, .ref q_best, .int v_sets, .int v_surely, .ref q_alives]), (q_page, cA E 25 v_page)]) [0, 1] rfl (by decide) ?_
              exact hRet _ _ _ _ dX4_saying_120 ⟨_, rfl, h⟩
            · exact absurd c92 (by decide)
          · replace h := h.2 c80
            refine x_iconst (v := 1) (pc' := 84) hZ (by decide) dX4_saying_83 rfl ?_
            refine x_goto (pc' := 88) hZ dX4_saying_84 (by decide) ?_
            refine x_istore (i := 5) (pc' := 90) (lv' := [(5, .int 1), (4, .int r54), (0, .ref q_this), (1, .int l1), (2, .int l2), (3, .int l3)]) hZ dX4_saying_88 rfl (by decide) rfl ?_
            refine x_iload (pc' := 92) hZ dX4_saying_90 rfl 0 rfl ?_
            refine x_if_eq (tgt := 102) (pc' := 95) hZ dX4_saying_92 (by decide) rfl (fun c92 => ?_) (fun c92 => ?_)
            · exact absurd c92 (by decide)
            · refine x_iload_n (pc' := 96) hZ dX4_saying_95 rfl 4 rfl ?_
              refine x_iload (pc' := 98) hZ dX4_saying_96 rfl 1 rfl ?_
              refine x_imul (pc' := 99) hZ dX4_saying_98 rfl ?_
              refine x_goto (pc' := 103) hZ dX4_saying_99 (by decide) ?_
              refine x_bipush (v := 10) (pc' := 105) hZ (by decide) dX4_saying_103 rfl ?_
              refine x_iadd (pc' := 106) hZ dX4_saying_105 rfl ?_
              refine x_iload_n (pc' := 107) hZ dX4_saying_106 rfl 4 rfl ?_
              refine x_isub (pc' := 108) hZ dX4_saying_107 rfl ?_
              refine x_i2l (pc' := 109) hZ dX4_saying_108 rfl ?_
              refine x_ldc2 (v := 10) (pc' := 112) hZ kl_RX4_182 dX4_saying_109 rfl ?_
              refine x_iload (pc' := 114) hZ dX4_saying_112 rfl 1 rfl ?_
              refine x_i2l (pc' := 115) hZ dX4_saying_114 rfl ?_
              refine x_lmul (pc' := 116) hZ dX4_saying_115 rfl ?_
              refine x_iload_n (pc' := 117) hZ dX4_saying_116 rfl 5 rfl ?_
              refine k_RX4_178 (pc' := 120) (as := [.long ((((l2 * r54) + 10) - l2).toInt64), .long (10 * r54.toInt64), .int l3]) (rest := []) (c' := 0) (n' := 0) (wr := [(q_this, cO 4 [.int 0, .ref q_text, .int v_textSize, .int v_place, .int v_people, .ref q_ageing, .ref q_page, .int v_readPeople, .ref q_readAgeing, .ref q_readPage, .ref q_book, .int v_acts, .ref q_kept, .ref q_isKept, .int v_heard, .ref q_heardWho, .ref q_heardIs, .long v_seed, .ref q_tried, .ref q_chooser, .int v_choosers, .ref q_best, .int v_sets, .int v_surely, .ref q_alives]), (q_page, cA E 25 v_page)]) hZ (c_X4_fraction E ((((l2 * r54) + 10) - l2).toInt64) (10 * r54.toInt64) l3 _ h) dX4_saying_117 rfl rfl rfl rfl rfl (Nat.le_of_ble_eq_true rfl) (Nat.le_of_ble_eq_true rfl) (Nat.le_of_ble_eq_true rfl) rfl rfl (Nat.le_of_ble_eq_true rfl) (Nat.le_of_ble_eq_true rfl) [] [0, 1] rfl rfl (by decide) (by decide) (by decide) (fun r117 w117 hw => ?_)
              obtain ⟨rfl, h⟩ := hw
              refine x_ws (ws' := [(q_this, cO 4 [.int 0, .ref q_text, .int v_textSize, .int v_place, .int v_people, .ref q_ageing, .ref q_page, .int v_readPeople, .ref q_readAgeing, .ref q_readPage, .ref q_book, .int v_acts, .ref q_kept, .ref q_isKept, .int v_heard, .ref q_heardWho, .ref q_heardIs, .long v_seed, .ref q_tried, .ref q_chooser, .int v_choosers, .ref q_best, .int v_sets, .int v_surely, .ref q_alives]), (q_page, cA E 25 v_page)]) [0, 1] rfl (by decide) ?_
              exact hRet _ _ _ _ dX4_saying_120 ⟨_, rfl, h⟩
      · replace h := h.2 c41
        refine x_bipush (v := (-3)) (pc' := 46) hZ (by decide) dX4_saying_44 rfl ?_
        exact hRet _ _ _ _ dX4_saying_46 ⟨_, rfl, h⟩
    · replace h := h.2 c24
      refine x_bipush (v := (-2)) (pc' := 29) hZ (by decide) dX4_saying_27 rfl ?_
      exact hRet _ _ _ _ dX4_saying_29 ⟨_, rfl, h⟩
  · replace h := h.2 c10
    refine x_iconst (v := (-1)) (pc' := 14) hZ (by decide) dX4_saying_13 rfl ?_
    exact hRet _ _ _ _ dX4_saying_14 ⟨_, rfl, h⟩
set_option maxHeartbeats 4000000 in
set_option maxRecDepth 100000 in
theorem c_X4_believed (E : XE) (q_this : Nat) (q_text : Nat) (q_ageing : Nat) (q_page : Nat) (q_readAgeing : Nat) (q_readPage : Nat) (q_book : Nat) (q_kept : Nat) (q_isKept : Nat) (q_heardWho : Nat) (q_heardIs : Nat) (q_tried : Nat) (q_chooser : Nat) (q_best : Nat) (q_alives : Nat) (v_thrown : Int32) (v_textSize : Int32) (v_place : Int32) (v_people : Int32) (v_readPeople : Int32) (v_acts : Int32) (v_heard : Int32) (v_seed : Int64) (v_choosers : Int32) (v_sets : Int32) (v_surely : Int32) (v_page : Nat → Int32) (l1 : Int32) (l2 : Int32) (l3 : Int32) (l4 : Int32) (post : Int32 → Int32 → Prop) (h : p_X4_believed v_thrown v_people v_page l1 l2 l3 l4 post) : ConI E yX4_believed cX4_believed 10 .int { frames := 2, cells := 0, slots := 0, locals := 55 } 0 0 [.ref q_this, .int l1, .int l2, .int l3, .int l4] [(q_this, cO 4 [.int v_thrown, .ref q_text, .int v_textSize, .int v_place, .int v_people, .ref q_ageing, .ref q_page, .int v_readPeople, .ref q_readAgeing, .ref q_readPage, .ref q_book, .int v_acts, .ref q_kept, .ref q_isKept, .int v_heard, .ref q_heardWho, .ref q_heardIs, .long v_seed, .ref q_tried, .ref q_chooser, .int v_choosers, .ref q_best, .int v_sets, .int v_surely, .ref q_alives]), (q_page, cA E 25 v_page)] (fun r w => ∃ (u_thrown : Int32), w = [(q_this, cO 4 [.int u_thrown, .ref q_text, .int v_textSize, .int v_place, .int v_people, .ref q_ageing, .ref q_page, .int v_readPeople, .ref q_readAgeing, .ref q_readPage, .ref q_book, .int v_acts, .ref q_kept, .ref q_isKept, .int v_heard, .ref q_heardWho, .ref q_heardIs, .long v_seed, .ref q_tried, .ref q_chooser, .int v_choosers, .ref q_best, .int v_sets, .int v_surely, .ref q_alives]), (q_page, cA E 25 v_page)] ∧ post r u_thrown) := by
  refine ConI.of (by decide +kernel) (Nat.le_of_ble_eq_true rfl) (fun Z hZ hI hRet => ?_)
  replace hZ : XOK E Z RX4 cX4_believed 10 { frames := 2, cells := 0, slots := 0, locals := 55 } := hZ
  clear hI
  show XW E Z 0 0 [(q_this, cO 4 [.int v_thrown, .ref q_text, .int v_textSize, .int v_place, .int v_people, .ref q_ageing, .ref q_page, .int v_readPeople, .ref q_readAgeing, .ref q_readPage, .ref q_book, .int v_acts, .ref q_kept, .ref q_isKept, .int v_heard, .ref q_heardWho, .ref q_heardIs, .long v_seed, .ref q_tried, .ref q_chooser, .int v_choosers, .ref q_best, .int v_sets, .int v_surely, .ref q_alives]), (q_page, cA E 25 v_page)] [(0, .ref q_this), (1, .int l1), (2, .int l2), (3, .int l3), (4, .int l4)] [] 0
  unfold p_X4_believed at h
  refine x_aload_n (pc' := 1) hZ dX4_believed_0 rfl 0 rfl ?_
  refine x_iconst (v := 0) (pc' := 2) hZ (by decide) dX4_believed_1 rfl ?_
  refine s_RX4_53 (pc' := 5) (ws' := [(q_this, cO 4 [.int 0, .ref q_text, .int v_textSize, .int v_place, .int v_people, .ref q_ageing, .ref q_page, .int v_readPeople, .ref q_readAgeing, .ref q_readPage, .ref q_book, .int v_acts, .ref q_kept, .ref q_isKept, .int v_heard, .ref q_heardWho, .ref q_heardIs, .long v_seed, .ref q_tried, .ref q_chooser, .int v_choosers, .ref q_best, .int v_sets, .int v_surely, .ref q_alives]), (q_page, cA E 25 v_page)]) hZ dX4_believed_2 rfl 0 rfl (Nat.le_of_ble_eq_true rfl) rfl ?_
  refine x_aload_n (pc' := 6) hZ dX4_believed_5 rfl 0 rfl ?_
  refine x_iload_n (pc' := 7) hZ dX4_believed_6 rfl 1 rfl ?_
  refine k_RX4_111 (pc' := 10) (q0 := 0) (as := [.int l1]) (rest := []) (c' := 0) (n' := 0) (wr := [(q_page, cA E 25 v_page)]) hZ (c_X4_noOne E q_this q_text q_ageing q_page q_readAgeing q_readPage q_book q_kept q_isKept q_heardWho q_heardIs q_tried q_chooser q_best q_alives 0 v_textSize v_place v_people v_readPeople v_acts v_heard v_seed v_choosers v_sets v_surely l1 _ h) rfl dX4_believed_7 rfl rfl rfl rfl rfl (Nat.le_of_ble_eq_true rfl) (Nat.le_of_ble_eq_true rfl) (Nat.le_of_ble_eq_true rfl) rfl rfl (Nat.le_of_ble_eq_true rfl) (Nat.le_of_ble_eq_true rfl) [0] [1] rfl rfl (by decide) (by decide) (by decide) (fun r7 w7 hw => ?_)
  obtain ⟨rfl, h⟩ := hw
  refine x_ws (ws' := [(q_this, cO 4 [.int 0, .ref q_text, .int v_textSize, .int v_place, .int v_people, .ref q_ageing, .ref q_page, .int v_readPeople, .ref q_readAgeing, .ref q_readPage, .ref q_book, .int v_acts, .ref q_kept, .ref q_isKept, .int v_heard, .ref q_heardWho, .ref q_heardIs, .long v_seed, .ref q_tried, .ref q_chooser, .int v_choosers, .ref q_best, .int v_sets, .int v_surely, .ref q_alives]), (q_page, cA E 25 v_page)]) [1, 0] rfl (by decide) ?_
  refine x_if_eq (tgt := 15) (pc' := 13) hZ dX4_believed_10 (by decide) rfl (fun c10 => ?_) (fun c10 => ?_)
  · replace h := h.1 c10
    refine x_iload_n (pc' := 16) hZ dX4_believed_15 rfl 2 rfl ?_
    refine x_i2l (pc' := 17) hZ dX4_believed_16 rfl ?_
    refine x_lconst (v := 0) (pc' := 18) hZ (by decide) dX4_believed_17 rfl ?_
    refine x_ldc2 (v := 10) (pc' := 21) hZ kl_RX4_182 dX4_believed_18 rfl ?_
    refine k_RX4_60 (pc' := 24) (as := [.long l2.toInt64, .long 0, .long 10]) (rest := []) (c' := 0) (n' := 0) (wr := [(q_this, cO 4 [.int 0, .ref q_text, .int v_textSize, .int v_place, .int v_people, .ref q_ageing, .ref q_page, .int v_readPeople, .ref q_readAgeing, .ref q_readPage, .ref q_book, .int v_acts, .ref q_kept, .ref q_isKept, .int v_heard, .ref q_heardWho, .ref q_heardIs, .long v_seed, .ref q_tried, .ref q_chooser, .int v_choosers, .ref q_best, .int v_sets, .int v_surely, .ref q_alives]), (q_page, cA E 25 v_page)]) hZ (c_X4_in E l2.toInt64 0 10 _ h) dX4_believed_21 rfl rfl rfl rfl rfl (Nat.le_of_ble_eq_true rfl) (Nat.le_of_ble_eq_true rfl) (Nat.le_of_ble_eq_true rfl) rfl rfl (Nat.le_of_ble_eq_true rfl) (Nat.le_of_ble_eq_true rfl) [] [0, 1] rfl rfl (by decide) (by decide) (by decide) (fun r21 w21 hw => ?_)
    obtain ⟨rfl, h⟩ := hw
    refine x_ws (ws' := [(q_this, cO 4 [.int 0, .ref q_text, .int v_textSize, .int v_place, .int v_people, .ref q_ageing, .ref q_page, .int v_readPeople, .ref q_readAgeing, .ref q_readPage, .ref q_book, .int v_acts, .ref q_kept, .ref q_isKept, .int v_heard, .ref q_heardWho, .ref q_heardIs, .long v_seed, .ref q_tried, .ref q_chooser, .int v_choosers, .ref q_best, .int v_sets, .int v_surely, .ref q_alives]), (q_page, cA E 25 v_page)]) [0, 1] rfl (by decide) ?_
    refine x_if_eq (tgt := 39) (pc' := 27) hZ dX4_believed_24 (by decide) rfl (fun c24 => ?_) (fun c24 => ?_)
    · replace h := h.1 c24
      refine x_bipush (v := (-2)) (pc' := 41) hZ (by decide) dX4_believed_39 rfl ?_
      exact hRet _ _ _ _ dX4_believed_41 ⟨_, rfl, h⟩
    · replace h := h.2 c24
      refine x_iload_n (pc' := 28) hZ dX4_believed_27 rfl 3 rfl ?_
      refine x_i2l (pc' := 29) hZ dX4_believed_28 rfl ?_
      refine x_lconst (v := 0) (pc' := 30) hZ (by decide) dX4_believed_29 rfl ?_
      refine x_ldc2 (v := 10) (pc' := 33) hZ kl_RX4_182 dX4_believed_30 rfl ?_
      refine k_RX4_60 (pc' := 36) (as := [.long l3.toInt64, .long 0, .long 10]) (rest := []) (c' := 0) (n' := 0) (wr := [(q_this, cO 4 [.int 0, .ref q_text, .int v_textSize, .int v_place, .int v_people, .ref q_ageing, .ref q_page, .int v_readPeople, .ref q_readAgeing, .ref q_readPage, .ref q_book, .int v_acts, .ref q_kept, .ref q_isKept, .int v_heard, .ref q_heardWho, .ref q_heardIs, .long v_seed, .ref q_tried, .ref q_chooser, .int v_choosers, .ref q_best, .int v_sets, .int v_surely, .ref q_alives]), (q_page, cA E 25 v_page)]) hZ (c_X4_in E l3.toInt64 0 10 _ h) dX4_believed_33 rfl rfl rfl rfl rfl (Nat.le_of_ble_eq_true rfl) (Nat.le_of_ble_eq_true rfl) (Nat.le_of_ble_eq_true rfl) rfl rfl (Nat.le_of_ble_eq_true rfl) (Nat.le_of_ble_eq_true rfl) [] [0, 1] rfl rfl (by decide) (by decide) (by decide) (fun r33 w33 hw => ?_)
      obtain ⟨rfl, h⟩ := hw
      refine x_ws (ws' := [(q_this, cO 4 [.int 0, .ref q_text, .int v_textSize, .int v_place, .int v_people, .ref q_ageing, .ref q_page, .int v_readPeople, .ref q_readAgeing, .ref q_readPage, .ref q_book, .int v_acts, .ref q_kept, .ref q_isKept, .int v_heard, .ref q_heardWho, .ref q_heardIs, .long v_seed, .ref q_tried, .ref q_chooser, .int v_choosers, .ref q_best, .int v_sets, .int v_surely, .ref q_alives]), (q_page, cA E 25 v_page)]) [0, 1] rfl (by decide) ?_
      refine x_if_ne (tgt := 42) (pc' := 39) hZ dX4_believed_36 (by decide) rfl (fun c36 => ?_) (fun c36 => ?_)
      · replace h := h.1 c36
        refine x_aload_n (pc' := 43) hZ dX4_believed_42 rfl 0 rfl ?_
        refine g_RX4_16 (pc' := 46) hZ dX4_believed_43 rfl 0 rfl rfl ?_
        refine x_bipush (v := 21) (pc' := 48) hZ (by decide) dX4_believed_46 rfl ?_
        have h48 : vp_in 21 25 := by unfold vp_in; decide
        refine x_iald (pc' := 49) hZ h48 dX4_believed_48 rfl 1 rfl ?_
        refine x_iload_n (pc' := 50) hZ dX4_believed_49 rfl 1 rfl ?_
        refine k_RX4_90 (pc' := 53) (as := [.int (v_page (ix 21)), .int l1]) (rest := []) (c' := 0) (n' := 0) (wr := [(q_this, cO 4 [.int 0, .ref q_text, .int v_textSize, .int v_place, .int v_people, .ref q_ageing, .ref q_page, .int v_readPeople, .ref q_readAgeing, .ref q_readPage, .ref q_book, .int v_acts, .ref q_kept, .ref q_isKept, .int v_heard, .ref q_heardWho, .ref q_heardIs, .long v_seed, .ref q_tried, .ref q_chooser, .int v_choosers, .ref q_best, .int v_sets, .int v_surely, .ref q_alives]), (q_page, cA E 25 v_page)]) hZ (c_X4_has E (v_page (ix 21)) l1 _ h) dX4_believed_50 rfl rfl rfl rfl rfl (Nat.le_of_ble_eq_true rfl) (Nat.le_of_ble_eq_true rfl) (Nat.le_of_ble_eq_true rfl) rfl rfl (Nat.le_of_ble_eq_true rfl) (Nat.le_of_ble_eq_true rfl) [] [0, 1] rfl rfl (by decide) (by decide) (by decide) (fun r50 w50 hw => ?_)
        obtain ⟨rfl, h⟩ := hw
        refine x_ws (ws' := [(q_this, cO 4 [.int 0, .ref q_text, .int v_textSize, .int v_place, .int v_people, .ref q_ageing, .ref q_page, .int v_readPeople, .ref q_readAgeing, .ref q_readPage, .ref q_book, .int v_acts, .ref q_kept, .ref q_isKept, .int v_heard, .ref q_heardWho, .ref q_heardIs, .long v_seed, .ref q_tried, .ref q_chooser, .int v_choosers, .ref q_best, .int v_sets, .int v_surely, .ref q_alives]), (q_page, cA E 25 v_page)]) [0, 1] rfl (by decide) ?_
        refine x_if_ne (tgt := 59) (pc' := 56) hZ dX4_believed_53 (by decide) rfl (fun c53 => ?_) (fun c53 => ?_)
        · replace h := h.1 c53
          refine x_aload_n (pc' := 60) hZ dX4_believed_59 rfl 0 rfl ?_
          refine g_RX4_16 (pc' := 63) hZ dX4_believed_60 rfl 0 rfl rfl ?_
          refine x_bipush (v := 21) (pc' := 65) hZ (by decide) dX4_believed_63 rfl ?_
          have h65 : vp_in 21 25 := by unfold vp_in; decide
          refine x_iald (pc' := 66) hZ h65 dX4_believed_65 rfl 1 rfl ?_
          refine k_RX4_127 (pc' := 69) (as := [.int (v_page (ix 21))]) (rest := []) (c' := 0) (n' := 0) (wr := [(q_this, cO 4 [.int 0, .ref q_text, .int v_textSize, .int v_place, .int v_people, .ref q_ageing, .ref q_page, .int v_readPeople, .ref q_readAgeing, .ref q_readPage, .ref q_book, .int v_acts, .ref q_kept, .ref q_isKept, .int v_heard, .ref q_heardWho, .ref q_heardIs, .long v_seed, .ref q_tried, .ref q_chooser, .int v_choosers, .ref q_best, .int v_sets, .int v_surely, .ref q_alives]), (q_page, cA E 25 v_page)]) hZ (c_X4_many E (v_page (ix 21)) _ h) dX4_believed_66 rfl rfl rfl rfl rfl (Nat.le_of_ble_eq_true rfl) (Nat.le_of_ble_eq_true rfl) (Nat.le_of_ble_eq_true rfl) rfl rfl (Nat.le_of_ble_eq_true rfl) (Nat.le_of_ble_eq_true rfl) [] [0, 1] rfl rfl (by decide) (by decide) (by decide) (fun r66 w66 hw => ?_)
          obtain ⟨rfl, h⟩ := hw
          refine x_ws (ws' := [(q_this, cO 4 [.int 0, .ref q_text, .int v_textSize, .int v_place, .int v_people, .ref q_ageing, .ref q_page, .int v_readPeople, .ref q_readAgeing, .ref q_readPage, .ref q_book, .int v_acts, .ref q_kept, .ref q_isKept, .int v_heard, .ref q_heardWho, .ref q_heardIs, .long v_seed, .ref q_tried, .ref q_chooser, .int v_choosers, .ref q_best, .int v_sets, .int v_surely, .ref q_alives]), (q_page, cA E 25 v_page)]) [0, 1] rfl (by decide) ?_
          refine x_istore (i := 5) (pc' := 71) (lv' := [(5, .int r66), (0, .ref q_this), (1, .int l1), (2, .int l2), (3, .int l3), (4, .int l4)]) hZ dX4_believed_69 rfl (by decide) rfl ?_
          refine x_iload_n (pc' := 72) hZ dX4_believed_71 rfl 3 rfl ?_
          refine x_iload (pc' := 74) hZ dX4_believed_72 rfl 0 rfl ?_
          refine x_imul (pc' := 75) hZ dX4_believed_74 rfl ?_
          refine x_i2l (pc' := 76) hZ dX4_believed_75 rfl ?_
          refine x_ldc2 (v := 10) (pc' := 79) hZ kl_RX4_182 dX4_believed_76 rfl ?_
          refine x_ladd (pc' := 80) hZ dX4_believed_79 rfl ?_
          refine x_iload_n (pc' := 81) hZ dX4_believed_80 rfl 3 rfl ?_
          refine x_i2l (pc' := 82) hZ dX4_believed_81 rfl ?_
          refine x_lsub (pc' := 83) hZ dX4_believed_82 rfl ?_
          refine x_iload_n (pc' := 84) hZ dX4_believed_83 rfl 4 rfl ?_
          refine x_iload (pc' := 86) hZ dX4_believed_84 rfl 0 rfl ?_
          refine x_imul (pc' := 87) hZ dX4_believed_86 rfl ?_
          refine x_i2l (pc' := 88) hZ dX4_believed_87 rfl ?_
          refine x_ldc2 (v := 10) (pc' := 91) hZ kl_RX4_182 dX4_believed_88 rfl ?_
          refine x_ladd (pc' := 92) hZ dX4_believed_91 rfl ?_
          refine x_iload_n (pc' := 93) hZ dX4_believed_92 rfl 4 rfl ?_
          refine x_i2l (pc' := 94) hZ dX4_believed_93 rfl ?_
          refine x_lsub (pc' := 95) hZ dX4_believed_94 rfl ?_
          refine x_lmul (pc' := 96) hZ dX4_believed_95 rfl ?_
          refine x_topl (fun x96 e96 => ?_)
          replace h := h x96 e96
          refine x_lstore (i := 6) (pc' := 98) (lv' := [(6, .long x96), (5, .int r66), (0, .ref q_this), (1, .int l1), (2, .int l2), (3, .int l3), (4, .int l4)]) hZ dX4_believed_96 rfl (by decide) rfl ?_
          refine x_iload (pc' := 100) hZ dX4_believed_98 rfl 1 rfl ?_
          refine x_i2l (pc' := 101) hZ dX4_believed_100 rfl ?_
          refine x_lconst (v := 1) (pc' := 102) hZ (by decide) dX4_believed_101 rfl ?_
          refine x_lsub (pc' := 103) hZ dX4_believed_102 rfl ?_
          refine x_bipush (v := 10) (pc' := 105) hZ (by decide) dX4_believed_103 rfl ?_
          refine x_iload_n (pc' := 106) hZ dX4_believed_105 rfl 4 rfl ?_
          refine x_isub (pc' := 107) hZ dX4_believed_106 rfl ?_
          refine x_i2l (pc' := 108) hZ dX4_believed_107 rfl ?_
          refine x_lmul (pc' := 109) hZ dX4_believed_108 rfl ?_
          refine x_bipush (v := 10) (pc' := 111) hZ (by decide) dX4_believed_109 rfl ?_
          refine x_iload_n (pc' := 112) hZ dX4_believed_111 rfl 5 rfl ?_
          refine x_isub (pc' := 113) hZ dX4_believed_112 rfl ?_
          refine x_i2l (pc' := 114) hZ dX4_believed_113 rfl ?_
          refine x_lmul (pc' := 115) hZ dX4_believed_114 rfl ?_
          refine x_topl (fun x115 e115 => ?_)
          replace h := h x115 e115
          refine x_lstore (i := 8) (pc' := 117) (lv' := [(8, .long x115), (6, .long x96), (5, .int r66), (0, .ref q_this), (1, .int l1), (2, .int l2), (3, .int l3), (4, .int l4)]) hZ dX4_believed_115 rfl (by decide) rfl ?_
          refine x_lload (pc' := 119) hZ dX4_believed_117 rfl 1 rfl ?_
          refine x_lload (pc' := 121) hZ dX4_believed_119 rfl 1 rfl ?_
          refine x_lload (pc' := 123) hZ dX4_believed_121 rfl 0 rfl ?_
          refine x_ladd (pc' := 124) hZ dX4_believed_123 rfl ?_
          refine x_iload (pc' := 126) hZ dX4_believed_124 rfl 7 rfl ?_
          refine k_RX4_178 (pc' := 129) (as := [.long x96, .long (x96 + x115), .int l4]) (rest := []) (c' := 0) (n' := 0) (wr := [(q_this, cO 4 [.int 0, .ref q_text, .int v_textSize, .int v_place, .int v_people, .ref q_ageing, .ref q_page, .int v_readPeople, .ref q_readAgeing, .ref q_readPage, .ref q_book, .int v_acts, .ref q_kept, .ref q_isKept, .int v_heard, .ref q_heardWho, .ref q_heardIs, .long v_seed, .ref q_tried, .ref q_chooser, .int v_choosers, .ref q_best, .int v_sets, .int v_surely, .ref q_alives]), (q_page, cA E 25 v_page)]) hZ (c_X4_fraction E x96 (x96 + x115) l4 _ h) dX4_believed_126 rfl rfl rfl rfl rfl (Nat.le_of_ble_eq_true rfl) (Nat.le_of_ble_eq_true rfl) (Nat.le_of_ble_eq_true rfl) rfl rfl (Nat.le_of_ble_eq_true rfl) (Nat.le_of_ble_eq_true rfl) [] [0, 1] rfl rfl (by decide) (by decide) (by decide) (fun r126 w126 hw => ?_)
          obtain ⟨rfl, h⟩ := hw
          refine x_ws (ws' := [(q_this, cO 4 [.int 0, .ref q_text, .int v_textSize, .int v_place, .int v_people, .ref q_ageing, .ref q_page, .int v_readPeople, .ref q_readAgeing, .ref q_readPage, .ref q_book, .int v_acts, .ref q_kept, .ref q_isKept, .int v_heard, .ref q_heardWho, .ref q_heardIs, .long v_seed, .ref q_tried, .ref q_chooser, .int v_choosers, .ref q_best, .int v_sets, .int v_surely, .ref q_alives]), (q_page, cA E 25 v_page)]) [0, 1] rfl (by decide) ?_
          exact hRet _ _ _ _ dX4_believed_129 ⟨_, rfl, h⟩
        · replace h := h.2 c53
          refine x_bipush (v := (-3)) (pc' := 58) hZ (by decide) dX4_believed_56 rfl ?_
          exact hRet _ _ _ _ dX4_believed_58 ⟨_, rfl, h⟩
      · replace h := h.2 c36
        refine x_bipush (v := (-2)) (pc' := 41) hZ (by decide) dX4_believed_39 rfl ?_
        exact hRet _ _ _ _ dX4_believed_41 ⟨_, rfl, h⟩
  · replace h := h.2 c10
    refine x_iconst (v := (-1)) (pc' := 14) hZ (by decide) dX4_believed_13 rfl ?_
    exact hRet _ _ _ _ dX4_believed_14 ⟨_, rfl, h⟩
set_option maxHeartbeats 4000000 in
set_option maxRecDepth 100000 in
theorem t_X4_chance_93 (E : XE) (Z : ZC) (q_this : Nat) (q_text : Nat) (q_ageing : Nat) (q_page : Nat) (q_readAgeing : Nat) (q_readPage : Nat) (q_book : Nat) (q_kept : Nat) (q_isKept : Nat) (q_heardWho : Nat) (q_heardIs : Nat) (q_tried : Nat) (q_chooser : Nat) (q_best : Nat) (q_alives : Nat) (v_thrown : Int32) (v_textSize : Int32) (v_place : Int32) (v_people : Int32) (v_readPeople : Int32) (v_acts : Int32) (v_heard : Int32) (v_seed : Int64) (v_choosers : Int32) (v_sets : Int32) (v_surely : Int32) (v_page : Nat → Int32) (l1 : Int32) (l2 : Int32) (l3 : Int32) (l4 : Int64) (l6 : Int32) {K : Int64 → Int32 → Prop} (hZ : XOK E Z RX4 cX4_chance 10 { frames := 3, cells := 0, slots := 0, locals := 72 }) : ∀ (k : Nat) (l7 : Int64) (l9 : Int32), wl (fun rec v => b_X4_chance_93 l1 l6 v_people v_page K rec v.1 v.2) k (l7, l9) → (∀ (l7 : Int64) (l9 : Int32), K l7 l9 → XW E Z 0 0 [(q_this, cO 4 [.int v_thrown, .ref q_text, .int v_textSize, .int v_place, .int v_people, .ref q_ageing, .ref q_page, .int v_readPeople, .ref q_readAgeing, .ref q_readPage, .ref q_book, .int v_acts, .ref q_kept, .ref q_isKept, .int v_heard, .ref q_heardWho, .ref q_heardIs, .long v_seed, .ref q_tried, .ref q_chooser, .int v_choosers, .ref q_best, .int v_sets, .int v_surely, .ref q_alives]), (q_page, cA E 25 v_page)] [(0, .ref q_this), (1, .int l1), (2, .int l2), (3, .int l3), (4, .long l4), (6, .int l6), (7, .long l7)] [] 152) → XW E Z 0 0 [(q_this, cO 4 [.int v_thrown, .ref q_text, .int v_textSize, .int v_place, .int v_people, .ref q_ageing, .ref q_page, .int v_readPeople, .ref q_readAgeing, .ref q_readPage, .ref q_book, .int v_acts, .ref q_kept, .ref q_isKept, .int v_heard, .ref q_heardWho, .ref q_heardIs, .long v_seed, .ref q_tried, .ref q_chooser, .int v_choosers, .ref q_best, .int v_sets, .int v_surely, .ref q_alives]), (q_page, cA E 25 v_page)] [(0, .ref q_this), (1, .int l1), (2, .int l2), (3, .int l3), (4, .long l4), (6, .int l6), (7, .long l7), (9, .int l9)] [] 93 := by
  intro k
  induction k with
  | zero =>
    intro l7 l9 h
    exact h.elim
  | succ k ih =>
    intro l7 l9 h hK
    replace h := wl_succ h
    try dsimp only at h
    unfold b_X4_chance_93 at h
    refine x_iload (pc' := 95) hZ dX4_chance_93 rfl 7 rfl ?_
    refine x_aload_n (pc' := 96) hZ dX4_chance_95 rfl 0 rfl ?_
    refine g_RX4_57 (pc' := 99) hZ dX4_chance_96 rfl 0 rfl rfl ?_
    refine x_icmp_ge (tgt := 152) (pc' := 102) hZ dX4_chance_99 (by decide) rfl (fun c99 => ?_) (fun c99 => ?_)
    · replace h := h.1 c99
      refine x_lv [0, 1, 2, 3, 4, 5, 6] (lv' := [(0, .ref q_this), (1, .int l1), (2, .int l2), (3, .int l3), (4, .long l4), (6, .int l6), (7, .long l7)]) rfl ?_
      exact hK l7 l9 h
    · replace h := h.2 c99
      refine x_lload (pc' := 104) hZ dX4_chance_102 rfl 6 rfl ?_
      refine x_aload_n (pc' := 105) hZ dX4_chance_104 rfl 0 rfl ?_
      refine g_RX4_16 (pc' := 108) hZ dX4_chance_105 rfl 0 rfl rfl ?_
      refine x_bipush (v := 22) (pc' := 110) hZ (by decide) dX4_chance_108 rfl ?_
      have h110 : vp_in 22 25 := by unfold vp_in; decide
      refine x_iald (pc' := 111) hZ h110 dX4_chance_110 rfl 1 rfl ?_
      refine x_iload (pc' := 113) hZ dX4_chance_111 rfl 7 rfl ?_
      refine k_RX4_90 (pc' := 116) (as := [.int (v_page (ix 22)), .int l9]) (rest := [.long l7]) (c' := 0) (n' := 0) (wr := [(q_this, cO 4 [.int v_thrown, .ref q_text, .int v_textSize, .int v_place, .int v_people, .ref q_ageing, .ref q_page, .int v_readPeople, .ref q_readAgeing, .ref q_readPage, .ref q_book, .int v_acts, .ref q_kept, .ref q_isKept, .int v_heard, .ref q_heardWho, .ref q_heardIs, .long v_seed, .ref q_tried, .ref q_chooser, .int v_choosers, .ref q_best, .int v_sets, .int v_surely, .ref q_alives]), (q_page, cA E 25 v_page)]) hZ (c_X4_has E (v_page (ix 22)) l9 _ h) dX4_chance_113 rfl rfl rfl rfl rfl (Nat.le_of_ble_eq_true rfl) (Nat.le_of_ble_eq_true rfl) (Nat.le_of_ble_eq_true rfl) rfl rfl (Nat.le_of_ble_eq_true rfl) (Nat.le_of_ble_eq_true rfl) [] [0, 1] rfl rfl (by decide) (by decide) (by decide) (fun r113 w113 hw => ?_)
      obtain ⟨rfl, h⟩ := hw
      refine x_ws (ws' := [(q_this, cO 4 [.int v_thrown, .ref q_text, .int v_textSize, .int v_place, .int v_people, .ref q_ageing, .ref q_page, .int v_readPeople, .ref q_readAgeing, .ref q_readPage, .ref q_book, .int v_acts, .ref q_kept, .ref q_isKept, .int v_heard, .ref q_heardWho, .ref q_heardIs, .long v_seed, .ref q_tried, .ref q_chooser, .int v_choosers, .ref q_best, .int v_sets, .int v_surely, .ref q_alives]), (q_page, cA E 25 v_page)]) [0, 1] rfl (by decide) ?_
      refine x_if_ne (tgt := 123) (pc' := 119) hZ dX4_chance_116 (by decide) rfl (fun c116 => ?_) (fun c116 => ?_)
      · replace h := h.1 c116
        refine x_iload (pc' := 125) hZ dX4_chance_123 rfl 5 rfl ?_
        refine x_iload (pc' := 127) hZ dX4_chance_125 rfl 7 rfl ?_
        refine k_RX4_90 (pc' := 130) (as := [.int l6, .int l9]) (rest := [.long l7]) (c' := 0) (n' := 0) (wr := [(q_this, cO 4 [.int v_thrown, .ref q_text, .int v_textSize, .int v_place, .int v_people, .ref q_ageing, .ref q_page, .int v_readPeople, .ref q_readAgeing, .ref q_readPage, .ref q_book, .int v_acts, .ref q_kept, .ref q_isKept, .int v_heard, .ref q_heardWho, .ref q_heardIs, .long v_seed, .ref q_tried, .ref q_chooser, .int v_choosers, .ref q_best, .int v_sets, .int v_surely, .ref q_alives]), (q_page, cA E 25 v_page)]) hZ (c_X4_has E l6 l9 _ h) dX4_chance_127 rfl rfl rfl rfl rfl (Nat.le_of_ble_eq_true rfl) (Nat.le_of_ble_eq_true rfl) (Nat.le_of_ble_eq_true rfl) rfl rfl (Nat.le_of_ble_eq_true rfl) (Nat.le_of_ble_eq_true rfl) [] [0, 1] rfl rfl (by decide) (by decide) (by decide) (fun r127 w127 hw => ?_)
        obtain ⟨rfl, h⟩ := hw
        refine x_ws (ws' := [(q_this, cO 4 [.int v_thrown, .ref q_text, .int v_textSize, .int v_place, .int v_people, .ref q_ageing, .ref q_page, .int v_readPeople, .ref q_readAgeing, .ref q_readPage, .ref q_book, .int v_acts, .ref q_kept, .ref q_isKept, .int v_heard, .ref q_heardWho, .ref q_heardIs, .long v_seed, .ref q_tried, .ref q_chooser, .int v_choosers, .ref q_best, .int v_sets, .int v_surely, .ref q_alives]), (q_page, cA E 25 v_page)]) [0, 1] rfl (by decide) ?_
        refine x_if_eq (tgt := 138) (pc' := 133) hZ dX4_chance_130 (by decide) rfl (fun c130 => ?_) (fun c130 => ?_)
        · replace h := h.1 c130
          refine x_bipush (v := 10) (pc' := 140) hZ (by decide) dX4_chance_138 rfl ?_
          refine x_iload_n (pc' := 141) hZ dX4_chance_140 rfl 1 rfl ?_
          refine x_isub (pc' := 142) hZ dX4_chance_141 rfl ?_
          refine x_i2l (pc' := 143) hZ dX4_chance_142 rfl ?_
          refine x_lmul (pc' := 144) hZ dX4_chance_143 rfl ?_
          refine x_topl (fun x144 e144 => ?_)
          replace h := h x144 e144
          refine x_lstore (i := 7) (pc' := 146) (lv' := [(7, .long x144), (0, .ref q_this), (1, .int l1), (2, .int l2), (3, .int l3), (4, .long l4), (6, .int l6), (9, .int l9)]) hZ dX4_chance_144 rfl (by decide) rfl ?_
          obtain ⟨x146, e146⟩ : ∃ y : Int32, y = l9 + 1 := ⟨_, rfl⟩
          replace h := h x146 e146
          refine x_iinc (i := 9) (v := x146) (pc' := 149) (lv' := [(9, .int x146), (7, .long x144), (0, .ref q_this), (1, .int l1), (2, .int l2), (3, .int l3), (4, .long l4), (6, .int l6)]) hZ dX4_chance_146 rfl 7 rfl (by rw [e146]; rfl) (by decide) rfl ?_
          refine x_goto (pc' := 93) hZ dX4_chance_149 (by decide) ?_
          refine x_lv [2, 3, 4, 5, 6, 7, 1, 0] (lv' := [(0, .ref q_this), (1, .int l1), (2, .int l2), (3, .int l3), (4, .long l4), (6, .int l6), (7, .long x144), (9, .int x146)]) rfl ?_
          exact ih x144 x146 h hK
        · replace h := h.2 c130
          refine x_iload_n (pc' := 134) hZ dX4_chance_133 rfl 1 rfl ?_
          refine x_i2l (pc' := 135) hZ dX4_chance_134 rfl ?_
          refine x_goto (pc' := 143) hZ dX4_chance_135 (by decide) ?_
          refine x_lmul (pc' := 144) hZ dX4_chance_143 rfl ?_
          refine x_topl (fun x144 e144 => ?_)
          replace h := h x144 e144
          refine x_lstore (i := 7) (pc' := 146) (lv' := [(7, .long x144), (0, .ref q_this), (1, .int l1), (2, .int l2), (3, .int l3), (4, .long l4), (6, .int l6), (9, .int l9)]) hZ dX4_chance_144 rfl (by decide) rfl ?_
          obtain ⟨x146, e146⟩ : ∃ y : Int32, y = l9 + 1 := ⟨_, rfl⟩
          replace h := h x146 e146
          refine x_iinc (i := 9) (v := x146) (pc' := 149) (lv' := [(9, .int x146), (7, .long x144), (0, .ref q_this), (1, .int l1), (2, .int l2), (3, .int l3), (4, .long l4), (6, .int l6)]) hZ dX4_chance_146 rfl 7 rfl (by rw [e146]; rfl) (by decide) rfl ?_
          refine x_goto (pc' := 93) hZ dX4_chance_149 (by decide) ?_
          refine x_lv [2, 3, 4, 5, 6, 7, 1, 0] (lv' := [(0, .ref q_this), (1, .int l1), (2, .int l2), (3, .int l3), (4, .long l4), (6, .int l6), (7, .long x144), (9, .int x146)]) rfl ?_
          exact ih x144 x146 h hK
      · replace h := h.2 c116
        refine x_lconst (v := 1) (pc' := 120) hZ (by decide) dX4_chance_119 rfl ?_
        refine x_goto (pc' := 143) hZ dX4_chance_120 (by decide) ?_
        refine x_lmul (pc' := 144) hZ dX4_chance_143 rfl ?_
        refine x_topl (fun x144 e144 => ?_)
        replace h := h x144 e144
        refine x_lstore (i := 7) (pc' := 146) (lv' := [(7, .long x144), (0, .ref q_this), (1, .int l1), (2, .int l2), (3, .int l3), (4, .long l4), (6, .int l6), (9, .int l9)]) hZ dX4_chance_144 rfl (by decide) rfl ?_
        obtain ⟨x146, e146⟩ : ∃ y : Int32, y = l9 + 1 := ⟨_, rfl⟩
        replace h := h x146 e146
        refine x_iinc (i := 9) (v := x146) (pc' := 149) (lv' := [(9, .int x146), (7, .long x144), (0, .ref q_this), (1, .int l1), (2, .int l2), (3, .int l3), (4, .long l4), (6, .int l6)]) hZ dX4_chance_146 rfl 7 rfl (by rw [e146]; rfl) (by decide) rfl ?_
        refine x_goto (pc' := 93) hZ dX4_chance_149 (by decide) ?_
        refine x_lv [2, 3, 4, 5, 6, 7, 1, 0] (lv' := [(0, .ref q_this), (1, .int l1), (2, .int l2), (3, .int l3), (4, .long l4), (6, .int l6), (7, .long x144), (9, .int x146)]) rfl ?_
        exact ih x144 x146 h hK
set_option maxHeartbeats 4000000 in
set_option maxRecDepth 100000 in
theorem t_X4_chance_45 (E : XE) (Z : ZC) (q_this : Nat) (q_text : Nat) (q_ageing : Nat) (q_page : Nat) (q_readAgeing : Nat) (q_readPage : Nat) (q_book : Nat) (q_kept : Nat) (q_isKept : Nat) (q_heardWho : Nat) (q_heardIs : Nat) (q_tried : Nat) (q_chooser : Nat) (q_best : Nat) (q_alives : Nat) (v_thrown : Int32) (v_textSize : Int32) (v_place : Int32) (v_people : Int32) (v_readPeople : Int32) (v_acts : Int32) (v_heard : Int32) (v_seed : Int64) (v_choosers : Int32) (v_sets : Int32) (v_surely : Int32) (v_page : Nat → Int32) (l1 : Int32) (l2 : Int32) (l3 : Int32) {K : Int64 → Int32 → Prop} (hZ : XOK E Z RX4 cX4_chance 10 { frames := 3, cells := 0, slots := 0, locals := 72 }) : ∀ (k : Nat) (l4 : Int64) (l6 : Int32), wl (fun rec v => b_X4_chance_45 l1 l3 v_people v_page K rec v.1 v.2) k (l4, l6) → (∀ (l4 : Int64) (l6 : Int32), K l4 l6 → XW E Z 0 0 [(q_this, cO 4 [.int v_thrown, .ref q_text, .int v_textSize, .int v_place, .int v_people, .ref q_ageing, .ref q_page, .int v_readPeople, .ref q_readAgeing, .ref q_readPage, .ref q_book, .int v_acts, .ref q_kept, .ref q_isKept, .int v_heard, .ref q_heardWho, .ref q_heardIs, .long v_seed, .ref q_tried, .ref q_chooser, .int v_choosers, .ref q_best, .int v_sets, .int v_surely, .ref q_alives]), (q_page, cA E 25 v_page)] [(0, .ref q_this), (2, .int l2), (4, .long l4)] [] 165) → XW E Z 0 0 [(q_this, cO 4 [.int v_thrown, .ref q_text, .int v_textSize, .int v_place, .int v_people, .ref q_ageing, .ref q_page, .int v_readPeople, .ref q_readAgeing, .ref q_readPage, .ref q_book, .int v_acts, .ref q_kept, .ref q_isKept, .int v_heard, .ref q_heardWho, .ref q_heardIs, .long v_seed, .ref q_tried, .ref q_chooser, .int v_choosers, .ref q_best, .int v_sets, .int v_surely, .ref q_alives]), (q_page, cA E 25 v_page)] [(0, .ref q_this), (1, .int l1), (2, .int l2), (3, .int l3), (4, .long l4), (6, .int l6)] [] 45 := by
  intro k
  induction k with
  | zero =>
    intro l4 l6 h
    exact h.elim
  | succ k ih =>
    intro l4 l6 h hK
    replace h := wl_succ h
    try dsimp only at h
    unfold b_X4_chance_45 at h
    refine x_iload (pc' := 47) hZ dX4_chance_45 rfl 5 rfl ?_
    refine x_iload_n (pc' := 48) hZ dX4_chance_47 rfl 3 rfl ?_
    refine x_icmp_gt (tgt := 165) (pc' := 51) hZ dX4_chance_48 (by decide) rfl (fun c48 => ?_) (fun c48 => ?_)
    · replace h := h.1 c48
      refine x_lv [0, 2, 4] (lv' := [(0, .ref q_this), (2, .int l2), (4, .long l4)]) rfl ?_
      exact hK l4 l6 h
    · replace h := h.2 c48
      refine x_iload (pc' := 53) hZ dX4_chance_51 rfl 5 rfl ?_
      refine x_iconst (v := (-1)) (pc' := 54) hZ (by decide) dX4_chance_53 rfl ?_
      refine x_ixor (pc' := 55) hZ dX4_chance_54 rfl ?_
      refine x_iload_n (pc' := 56) hZ dX4_chance_55 rfl 3 rfl ?_
      refine x_iand (pc' := 57) hZ dX4_chance_56 rfl ?_
      refine x_aload_n (pc' := 58) hZ dX4_chance_57 rfl 0 rfl ?_
      refine g_RX4_16 (pc' := 61) hZ dX4_chance_58 rfl 0 rfl rfl ?_
      refine x_bipush (v := 22) (pc' := 63) hZ (by decide) dX4_chance_61 rfl ?_
      have h63 : vp_in 22 25 := by unfold vp_in; decide
      refine x_iald (pc' := 64) hZ h63 dX4_chance_63 rfl 1 rfl ?_
      refine x_iconst (v := (-1)) (pc' := 65) hZ (by decide) dX4_chance_64 rfl ?_
      refine x_ixor (pc' := 66) hZ dX4_chance_65 rfl ?_
      refine x_iand (pc' := 67) hZ dX4_chance_66 rfl ?_
      refine x_if_ne (tgt := 159) (pc' := 70) hZ dX4_chance_67 (by decide) rfl (fun c67 => ?_) (fun c67 => ?_)
      · replace h := h.1 c67
        obtain ⟨x159, e159⟩ : ∃ y : Int32, y = l6 + 1 := ⟨_, rfl⟩
        replace h := h x159 e159
        refine x_iinc (i := 6) (v := x159) (pc' := 162) (lv' := [(6, .int x159), (0, .ref q_this), (1, .int l1), (2, .int l2), (3, .int l3), (4, .long l4)]) hZ dX4_chance_159 rfl 5 rfl (by rw [e159]; rfl) (by decide) rfl ?_
        refine x_goto (pc' := 45) hZ dX4_chance_162 (by decide) ?_
        refine x_lv [1, 2, 3, 4, 5, 0] (lv' := [(0, .ref q_this), (1, .int l1), (2, .int l2), (3, .int l3), (4, .long l4), (6, .int x159)]) rfl ?_
        exact ih l4 x159 h hK
      · replace h := h.2 c67
        refine x_aload_n (pc' := 71) hZ dX4_chance_70 rfl 0 rfl ?_
        refine x_iconst (v := 0) (pc' := 72) hZ (by decide) dX4_chance_71 rfl ?_
        refine x_iload (pc' := 74) hZ dX4_chance_72 rfl 5 rfl ?_
        refine x_aload_n (pc' := 75) hZ dX4_chance_74 rfl 0 rfl ?_
        refine g_RX4_16 (pc' := 78) hZ dX4_chance_75 rfl 0 rfl rfl ?_
        refine k_RX4_98 (pc' := 81) (as := [.ref q_page]) (rest := [.int l6, .int 0, .ref q_this]) (c' := 0) (n' := 0) (wr := [(q_this, cO 4 [.int v_thrown, .ref q_text, .int v_textSize, .int v_place, .int v_people, .ref q_ageing, .ref q_page, .int v_readPeople, .ref q_readAgeing, .ref q_readPage, .ref q_book, .int v_acts, .ref q_kept, .ref q_isKept, .int v_heard, .ref q_heardWho, .ref q_heardIs, .long v_seed, .ref q_tried, .ref q_chooser, .int v_choosers, .ref q_best, .int v_sets, .int v_surely, .ref q_alives])]) hZ (c_X4_weightsOf E q_page v_page _ h) dX4_chance_78 rfl rfl rfl rfl rfl (Nat.le_of_ble_eq_true rfl) (Nat.le_of_ble_eq_true rfl) (Nat.le_of_ble_eq_true rfl) rfl rfl (Nat.le_of_ble_eq_true rfl) (Nat.le_of_ble_eq_true rfl) [1] [0] rfl rfl (by decide) (by decide) (by decide) (fun r78 w78 hw => ?_)
        obtain ⟨rfl, h⟩ := hw
        refine x_ws (ws' := [(q_this, cO 4 [.int v_thrown, .ref q_text, .int v_textSize, .int v_place, .int v_people, .ref q_ageing, .ref q_page, .int v_readPeople, .ref q_readAgeing, .ref q_readPage, .ref q_book, .int v_acts, .ref q_kept, .ref q_isKept, .int v_heard, .ref q_heardWho, .ref q_heardIs, .long v_seed, .ref q_tried, .ref q_chooser, .int v_choosers, .ref q_best, .int v_sets, .int v_surely, .ref q_alives]), (q_page, cA E 25 v_page)]) [0, 1] rfl (by decide) ?_
        refine k_RX4_165 (pc' := 84) (q0 := 0) (as := [.int 0, .int l6, .int r78]) (rest := []) (c' := 0) (n' := 0) (wr := []) hZ (c_X4_isAlone E q_this q_text q_ageing q_page q_readAgeing q_readPage q_book q_kept q_isKept q_heardWho q_heardIs q_tried q_chooser q_best q_alives v_thrown v_textSize v_place v_people v_readPeople v_acts v_heard v_seed v_choosers v_sets v_surely v_page 0 l6 r78 _ h) rfl dX4_chance_81 rfl rfl rfl rfl rfl (Nat.le_of_ble_eq_true rfl) (Nat.le_of_ble_eq_true rfl) (Nat.le_of_ble_eq_true rfl) rfl rfl (Nat.le_of_ble_eq_true rfl) (Nat.le_of_ble_eq_true rfl) [0, 1] [] rfl rfl (by decide) (by decide) (by decide) (fun r81 w81 hw => ?_)
        obtain ⟨rfl, h⟩ := hw
        refine x_ws (ws' := [(q_this, cO 4 [.int v_thrown, .ref q_text, .int v_textSize, .int v_place, .int v_people, .ref q_ageing, .ref q_page, .int v_readPeople, .ref q_readAgeing, .ref q_readPage, .ref q_book, .int v_acts, .ref q_kept, .ref q_isKept, .int v_heard, .ref q_heardWho, .ref q_heardIs, .long v_seed, .ref q_tried, .ref q_chooser, .int v_choosers, .ref q_best, .int v_sets, .int v_surely, .ref q_alives]), (q_page, cA E 25 v_page)]) [0, 1] rfl (by decide) ?_
        refine x_if_eq (tgt := 159) (pc' := 87) hZ dX4_chance_84 (by decide) rfl (fun c84 => ?_) (fun c84 => ?_)
        · replace h := h.1 c84
          obtain ⟨x159, e159⟩ : ∃ y : Int32, y = l6 + 1 := ⟨_, rfl⟩
          replace h := h x159 e159
          refine x_iinc (i := 6) (v := x159) (pc' := 162) (lv' := [(6, .int x159), (0, .ref q_this), (1, .int l1), (2, .int l2), (3, .int l3), (4, .long l4)]) hZ dX4_chance_159 rfl 5 rfl (by rw [e159]; rfl) (by decide) rfl ?_
          refine x_goto (pc' := 45) hZ dX4_chance_162 (by decide) ?_
          refine x_lv [1, 2, 3, 4, 5, 0] (lv' := [(0, .ref q_this), (1, .int l1), (2, .int l2), (3, .int l3), (4, .long l4), (6, .int x159)]) rfl ?_
          exact ih l4 x159 h hK
        · replace h := h.2 c84
          refine x_lconst (v := 1) (pc' := 88) hZ (by decide) dX4_chance_87 rfl ?_
          refine x_lstore (i := 7) (pc' := 90) (lv' := [(7, .long 1), (0, .ref q_this), (1, .int l1), (2, .int l2), (3, .int l3), (4, .long l4), (6, .int l6)]) hZ dX4_chance_88 rfl (by decide) rfl ?_
          refine x_iconst (v := 0) (pc' := 91) hZ (by decide) dX4_chance_90 rfl ?_
          refine x_istore (i := 9) (pc' := 93) (lv' := [(9, .int 0), (7, .long 1), (0, .ref q_this), (1, .int l1), (2, .int l2), (3, .int l3), (4, .long l4), (6, .int l6)]) hZ dX4_chance_91 rfl (by decide) rfl ?_
          refine x_lv [2, 3, 4, 5, 6, 7, 1, 0] (lv' := [(0, .ref q_this), (1, .int l1), (2, .int l2), (3, .int l3), (4, .long l4), (6, .int l6), (7, .long 1), (9, .int 0)]) rfl ?_
          obtain ⟨k93, h⟩ := h
          refine t_X4_chance_93 E Z q_this q_text q_ageing q_page q_readAgeing q_readPage q_book q_kept q_isKept q_heardWho q_heardIs q_tried q_chooser q_best q_alives v_thrown v_textSize v_place v_people v_readPeople v_acts v_heard v_seed v_choosers v_sets v_surely v_page l1 l2 l3 l4 l6 hZ  _ 1 0 h (fun l7_93 l9_93 h => ?_)
          refine x_lload (pc' := 154) hZ dX4_chance_152 rfl 4 rfl ?_
          refine x_lload (pc' := 156) hZ dX4_chance_154 rfl 6 rfl ?_
          refine x_ladd (pc' := 157) hZ dX4_chance_156 rfl ?_
          refine x_topl (fun x157 e157 => ?_)
          replace h := h x157 e157
          refine x_lstore (i := 4) (pc' := 159) (lv' := [(4, .long x157), (0, .ref q_this), (1, .int l1), (2, .int l2), (3, .int l3), (6, .int l6), (7, .long l7_93)]) hZ dX4_chance_157 rfl (by decide) rfl ?_
          obtain ⟨x159, e159⟩ : ∃ y : Int32, y = l6 + 1 := ⟨_, rfl⟩
          replace h := h x159 e159
          refine x_iinc (i := 6) (v := x159) (pc' := 162) (lv' := [(6, .int x159), (4, .long x157), (0, .ref q_this), (1, .int l1), (2, .int l2), (3, .int l3), (7, .long l7_93)]) hZ dX4_chance_159 rfl 5 rfl (by rw [e159]; rfl) (by decide) rfl ?_
          refine x_goto (pc' := 45) hZ dX4_chance_162 (by decide) ?_
          refine x_lv [2, 3, 4, 5, 1, 0] (lv' := [(0, .ref q_this), (1, .int l1), (2, .int l2), (3, .int l3), (4, .long x157), (6, .int x159)]) rfl ?_
          exact ih x157 x159 h hK
set_option maxHeartbeats 4000000 in
set_option maxRecDepth 100000 in
theorem c_X4_chance (E : XE) (q_this : Nat) (q_text : Nat) (q_ageing : Nat) (q_page : Nat) (q_readAgeing : Nat) (q_readPage : Nat) (q_book : Nat) (q_kept : Nat) (q_isKept : Nat) (q_heardWho : Nat) (q_heardIs : Nat) (q_tried : Nat) (q_chooser : Nat) (q_best : Nat) (q_alives : Nat) (v_thrown : Int32) (v_textSize : Int32) (v_place : Int32) (v_people : Int32) (v_readPeople : Int32) (v_acts : Int32) (v_heard : Int32) (v_seed : Int64) (v_choosers : Int32) (v_sets : Int32) (v_surely : Int32) (v_page : Nat → Int32) (l1 : Int32) (l2 : Int32) (post : Int32 → Int32 → Prop) (h : p_X4_chance v_thrown v_people v_page l1 l2 post) : ConI E yX4_chance cX4_chance 10 .int { frames := 3, cells := 0, slots := 0, locals := 72 } 0 0 [.ref q_this, .int l1, .int l2] [(q_this, cO 4 [.int v_thrown, .ref q_text, .int v_textSize, .int v_place, .int v_people, .ref q_ageing, .ref q_page, .int v_readPeople, .ref q_readAgeing, .ref q_readPage, .ref q_book, .int v_acts, .ref q_kept, .ref q_isKept, .int v_heard, .ref q_heardWho, .ref q_heardIs, .long v_seed, .ref q_tried, .ref q_chooser, .int v_choosers, .ref q_best, .int v_sets, .int v_surely, .ref q_alives]), (q_page, cA E 25 v_page)] (fun r w => ∃ (u_thrown : Int32), w = [(q_this, cO 4 [.int u_thrown, .ref q_text, .int v_textSize, .int v_place, .int v_people, .ref q_ageing, .ref q_page, .int v_readPeople, .ref q_readAgeing, .ref q_readPage, .ref q_book, .int v_acts, .ref q_kept, .ref q_isKept, .int v_heard, .ref q_heardWho, .ref q_heardIs, .long v_seed, .ref q_tried, .ref q_chooser, .int v_choosers, .ref q_best, .int v_sets, .int v_surely, .ref q_alives]), (q_page, cA E 25 v_page)] ∧ post r u_thrown) := by
  refine ConI.of (by decide +kernel) (Nat.le_of_ble_eq_true rfl) (fun Z hZ hI hRet => ?_)
  replace hZ : XOK E Z RX4 cX4_chance 10 { frames := 3, cells := 0, slots := 0, locals := 72 } := hZ
  clear hI
  show XW E Z 0 0 [(q_this, cO 4 [.int v_thrown, .ref q_text, .int v_textSize, .int v_place, .int v_people, .ref q_ageing, .ref q_page, .int v_readPeople, .ref q_readAgeing, .ref q_readPage, .ref q_book, .int v_acts, .ref q_kept, .ref q_isKept, .int v_heard, .ref q_heardWho, .ref q_heardIs, .long v_seed, .ref q_tried, .ref q_chooser, .int v_choosers, .ref q_best, .int v_sets, .int v_surely, .ref q_alives]), (q_page, cA E 25 v_page)] [(0, .ref q_this), (1, .int l1), (2, .int l2)] [] 0
  unfold p_X4_chance at h
  refine x_aload_n (pc' := 1) hZ dX4_chance_0 rfl 0 rfl ?_
  refine x_iconst (v := 0) (pc' := 2) hZ (by decide) dX4_chance_1 rfl ?_
  refine s_RX4_53 (pc' := 5) (ws' := [(q_this, cO 4 [.int 0, .ref q_text, .int v_textSize, .int v_place, .int v_people, .ref q_ageing, .ref q_page, .int v_readPeople, .ref q_readAgeing, .ref q_readPage, .ref q_book, .int v_acts, .ref q_kept, .ref q_isKept, .int v_heard, .ref q_heardWho, .ref q_heardIs, .long v_seed, .ref q_tried, .ref q_chooser, .int v_choosers, .ref q_best, .int v_sets, .int v_surely, .ref q_alives]), (q_page, cA E 25 v_page)]) hZ dX4_chance_2 rfl 0 rfl (Nat.le_of_ble_eq_true rfl) rfl ?_
  refine x_iload_n (pc' := 6) hZ dX4_chance_5 rfl 1 rfl ?_
  refine x_i2l (pc' := 7) hZ dX4_chance_6 rfl ?_
  refine x_lconst (v := 0) (pc' := 8) hZ (by decide) dX4_chance_7 rfl ?_
  refine x_ldc2 (v := 10) (pc' := 11) hZ kl_RX4_182 dX4_chance_8 rfl ?_
  refine k_RX4_60 (pc' := 14) (as := [.long l1.toInt64, .long 0, .long 10]) (rest := []) (c' := 0) (n' := 0) (wr := [(q_this, cO 4 [.int 0, .ref q_text, .int v_textSize, .int v_place, .int v_people, .ref q_ageing, .ref q_page, .int v_readPeople, .ref q_readAgeing, .ref q_readPage, .ref q_book, .int v_acts, .ref q_kept, .ref q_isKept, .int v_heard, .ref q_heardWho, .ref q_heardIs, .long v_seed, .ref q_tried, .ref q_chooser, .int v_choosers, .ref q_best, .int v_sets, .int v_surely, .ref q_alives]), (q_page, cA E 25 v_page)]) hZ (c_X4_in E l1.toInt64 0 10 _ h) dX4_chance_11 rfl rfl rfl rfl rfl (Nat.le_of_ble_eq_true rfl) (Nat.le_of_ble_eq_true rfl) (Nat.le_of_ble_eq_true rfl) rfl rfl (Nat.le_of_ble_eq_true rfl) (Nat.le_of_ble_eq_true rfl) [] [0, 1] rfl rfl (by decide) (by decide) (by decide) (fun r11 w11 hw => ?_)
  obtain ⟨rfl, h⟩ := hw
  refine x_ws (ws' := [(q_this, cO 4 [.int 0, .ref q_text, .int v_textSize, .int v_place, .int v_people, .ref q_ageing, .ref q_page, .int v_readPeople, .ref q_readAgeing, .ref q_readPage, .ref q_book, .int v_acts, .ref q_kept, .ref q_isKept, .int v_heard, .ref q_heardWho, .ref q_heardIs, .long v_seed, .ref q_tried, .ref q_chooser, .int v_choosers, .ref q_best, .int v_sets, .int v_surely, .ref q_alives]), (q_page, cA E 25 v_page)]) [0, 1] rfl (by decide) ?_
  refine x_if_ne (tgt := 20) (pc' := 17) hZ dX4_chance_14 (by decide) rfl (fun c14 => ?_) (fun c14 => ?_)
  · replace h := h.1 c14
    refine x_aload_n (pc' := 21) hZ dX4_chance_20 rfl 0 rfl ?_
    refine g_RX4_57 (pc' := 24) hZ dX4_chance_21 rfl 0 rfl rfl ?_
    refine x_if_ne (tgt := 30) (pc' := 27) hZ dX4_chance_24 (by decide) rfl (fun c24 => ?_) (fun c24 => ?_)
    · replace h := h.1 c24
      refine x_iconst (v := 1) (pc' := 31) hZ (by decide) dX4_chance_30 rfl ?_
      refine x_aload_n (pc' := 32) hZ dX4_chance_31 rfl 0 rfl ?_
      refine g_RX4_57 (pc' := 35) hZ dX4_chance_32 rfl 0 rfl rfl ?_
      refine x_ishl (pc' := 36) hZ dX4_chance_35 rfl ?_
      refine x_iconst (v := 1) (pc' := 37) hZ (by decide) dX4_chance_36 rfl ?_
      refine x_isub (pc' := 38) hZ dX4_chance_37 rfl ?_
      refine x_topi (fun x38 e38 => ?_)
      replace h := h x38 e38
      refine x_istore_n (i := 3) (pc' := 39) (lv' := [(3, .int x38), (0, .ref q_this), (1, .int l1), (2, .int l2)]) hZ dX4_chance_38 rfl rfl (by decide) rfl ?_
      refine x_lconst (v := 0) (pc' := 40) hZ (by decide) dX4_chance_39 rfl ?_
      refine x_lstore (i := 4) (pc' := 42) (lv' := [(4, .long 0), (3, .int x38), (0, .ref q_this), (1, .int l1), (2, .int l2)]) hZ dX4_chance_40 rfl (by decide) rfl ?_
      refine x_iconst (v := 0) (pc' := 43) hZ (by decide) dX4_chance_42 rfl ?_
      refine x_istore (i := 6) (pc' := 45) (lv' := [(6, .int 0), (4, .long 0), (3, .int x38), (0, .ref q_this), (1, .int l1), (2, .int l2)]) hZ dX4_chance_43 rfl (by decide) rfl ?_
      refine x_lv [3, 4, 5, 2, 1, 0] (lv' := [(0, .ref q_this), (1, .int l1), (2, .int l2), (3, .int x38), (4, .long 0), (6, .int 0)]) rfl ?_
      obtain ⟨k45, h⟩ := h
      refine t_X4_chance_45 E Z q_this q_text q_ageing q_page q_readAgeing q_readPage q_book q_kept q_isKept q_heardWho q_heardIs q_tried q_chooser q_best q_alives 0 v_textSize v_place v_people v_readPeople v_acts v_heard v_seed v_choosers v_sets v_surely v_page l1 l2 x38 hZ  _ 0 0 h (fun l4_45 l6_45 h => ?_)
      refine x_lload (pc' := 167) hZ dX4_chance_165 rfl 2 rfl ?_
      refine x_aload_n (pc' := 168) hZ dX4_chance_167 rfl 0 rfl ?_
      refine g_RX4_16 (pc' := 171) hZ dX4_chance_168 rfl 0 rfl rfl ?_
      refine x_bipush (v := 22) (pc' := 173) hZ (by decide) dX4_chance_171 rfl ?_
      have h173 : vp_in 22 25 := by unfold vp_in; decide
      refine x_iald (pc' := 174) hZ h173 dX4_chance_173 rfl 1 rfl ?_
      refine k_RX4_127 (pc' := 177) (as := [.int (v_page (ix 22))]) (rest := [.long l4_45]) (c' := 0) (n' := 0) (wr := [(q_this, cO 4 [.int 0, .ref q_text, .int v_textSize, .int v_place, .int v_people, .ref q_ageing, .ref q_page, .int v_readPeople, .ref q_readAgeing, .ref q_readPage, .ref q_book, .int v_acts, .ref q_kept, .ref q_isKept, .int v_heard, .ref q_heardWho, .ref q_heardIs, .long v_seed, .ref q_tried, .ref q_chooser, .int v_choosers, .ref q_best, .int v_sets, .int v_surely, .ref q_alives]), (q_page, cA E 25 v_page)]) hZ (c_X4_many E (v_page (ix 22)) _ h) dX4_chance_174 rfl rfl rfl rfl rfl (Nat.le_of_ble_eq_true rfl) (Nat.le_of_ble_eq_true rfl) (Nat.le_of_ble_eq_true rfl) rfl rfl (Nat.le_of_ble_eq_true rfl) (Nat.le_of_ble_eq_true rfl) [] [0, 1] rfl rfl (by decide) (by decide) (by decide) (fun r174 w174 hw => ?_)
      obtain ⟨rfl, h⟩ := hw
      refine x_ws (ws' := [(q_this, cO 4 [.int 0, .ref q_text, .int v_textSize, .int v_place, .int v_people, .ref q_ageing, .ref q_page, .int v_readPeople, .ref q_readAgeing, .ref q_readPage, .ref q_book, .int v_acts, .ref q_kept, .ref q_isKept, .int v_heard, .ref q_heardWho, .ref q_heardIs, .long v_seed, .ref q_tried, .ref q_chooser, .int v_choosers, .ref q_best, .int v_sets, .int v_surely, .ref q_alives]), (q_page, cA E 25 v_page)]) [0, 1] rfl (by decide) ?_
      refine k_RX4_133 (pc' := 180) (as := [.int r174]) (rest := [.long l4_45]) (c' := 0) (n' := 0) (wr := [(q_this, cO 4 [.int 0, .ref q_text, .int v_textSize, .int v_place, .int v_people, .ref q_ageing, .ref q_page, .int v_readPeople, .ref q_readAgeing, .ref q_readPage, .ref q_book, .int v_acts, .ref q_kept, .ref q_isKept, .int v_heard, .ref q_heardWho, .ref q_heardIs, .long v_seed, .ref q_tried, .ref q_chooser, .int v_choosers, .ref q_best, .int v_sets, .int v_surely, .ref q_alives]), (q_page, cA E 25 v_page)]) hZ (c_X4_ten E r174 _ h) dX4_chance_177 rfl rfl rfl rfl rfl (Nat.le_of_ble_eq_true rfl) (Nat.le_of_ble_eq_true rfl) (Nat.le_of_ble_eq_true rfl) rfl rfl (Nat.le_of_ble_eq_true rfl) (Nat.le_of_ble_eq_true rfl) [] [0, 1] rfl rfl (by decide) (by decide) (by decide) (fun r177 w177 hw => ?_)
      obtain ⟨rfl, h⟩ := hw
      refine x_ws (ws' := [(q_this, cO 4 [.int 0, .ref q_text, .int v_textSize, .int v_place, .int v_people, .ref q_ageing, .ref q_page, .int v_readPeople, .ref q_readAgeing, .ref q_readPage, .ref q_book, .int v_acts, .ref q_kept, .ref q_isKept, .int v_heard, .ref q_heardWho, .ref q_heardIs, .long v_seed, .ref q_tried, .ref q_chooser, .int v_choosers, .ref q_best, .int v_sets, .int v_surely, .ref q_alives]), (q_page, cA E 25 v_page)]) [0, 1] rfl (by decide) ?_
      refine x_i2l (pc' := 181) hZ dX4_chance_180 rfl ?_
      refine x_iload_n (pc' := 182) hZ dX4_chance_181 rfl 1 rfl ?_
      refine k_RX4_178 (pc' := 185) (as := [.long l4_45, .long r177.toInt64, .int l2]) (rest := []) (c' := 0) (n' := 0) (wr := [(q_this, cO 4 [.int 0, .ref q_text, .int v_textSize, .int v_place, .int v_people, .ref q_ageing, .ref q_page, .int v_readPeople, .ref q_readAgeing, .ref q_readPage, .ref q_book, .int v_acts, .ref q_kept, .ref q_isKept, .int v_heard, .ref q_heardWho, .ref q_heardIs, .long v_seed, .ref q_tried, .ref q_chooser, .int v_choosers, .ref q_best, .int v_sets, .int v_surely, .ref q_alives]), (q_page, cA E 25 v_page)]) hZ (c_X4_fraction E l4_45 r177.toInt64 l2 _ h) dX4_chance_182 rfl rfl rfl rfl rfl (Nat.le_of_ble_eq_true rfl) (Nat.le_of_ble_eq_true rfl) (Nat.le_of_ble_eq_true rfl) rfl rfl (Nat.le_of_ble_eq_true rfl) (Nat.le_of_ble_eq_true rfl) [] [0, 1] rfl rfl (by decide) (by decide) (by decide) (fun r182 w182 hw => ?_)
      obtain ⟨rfl, h⟩ := hw
      refine x_ws (ws' := [(q_this, cO 4 [.int 0, .ref q_text, .int v_textSize, .int v_place, .int v_people, .ref q_ageing, .ref q_page, .int v_readPeople, .ref q_readAgeing, .ref q_readPage, .ref q_book, .int v_acts, .ref q_kept, .ref q_isKept, .int v_heard, .ref q_heardWho, .ref q_heardIs, .long v_seed, .ref q_tried, .ref q_chooser, .int v_choosers, .ref q_best, .int v_sets, .int v_surely, .ref q_alives]), (q_page, cA E 25 v_page)]) [0, 1] rfl (by decide) ?_
      exact hRet _ _ _ _ dX4_chance_185 ⟨_, rfl, h⟩
    · replace h := h.2 c24
      refine x_bipush (v := (-3)) (pc' := 29) hZ (by decide) dX4_chance_27 rfl ?_
      exact hRet _ _ _ _ dX4_chance_29 ⟨_, rfl, h⟩
  · replace h := h.2 c14
    refine x_bipush (v := (-2)) (pc' := 19) hZ (by decide) dX4_chance_17 rfl ?_
    exact hRet _ _ _ _ dX4_chance_19 ⟨_, rfl, h⟩
set_option maxHeartbeats 4000000 in
set_option maxRecDepth 100000 in
theorem c_X4_seed (E : XE) (q_this : Nat) (q_text : Nat) (q_ageing : Nat) (q_page : Nat) (q_readAgeing : Nat) (q_readPage : Nat) (q_book : Nat) (q_kept : Nat) (q_isKept : Nat) (q_heardWho : Nat) (q_heardIs : Nat) (q_tried : Nat) (q_chooser : Nat) (q_best : Nat) (q_alives : Nat) (v_thrown : Int32) (v_textSize : Int32) (v_place : Int32) (v_people : Int32) (v_readPeople : Int32) (v_acts : Int32) (v_heard : Int32) (v_seed : Int64) (v_choosers : Int32) (v_sets : Int32) (v_surely : Int32) (l1 : Int64) (post : Int64 → Int32 → Int64 → Prop) (h : p_X4_seed v_thrown v_seed l1 post) : ConL E yX4_seed cX4_seed 5 { frames := 0, cells := 0, slots := 0, locals := 0 } 0 0 [.ref q_this, .long l1] [(q_this, cO 4 [.int v_thrown, .ref q_text, .int v_textSize, .int v_place, .int v_people, .ref q_ageing, .ref q_page, .int v_readPeople, .ref q_readAgeing, .ref q_readPage, .ref q_book, .int v_acts, .ref q_kept, .ref q_isKept, .int v_heard, .ref q_heardWho, .ref q_heardIs, .long v_seed, .ref q_tried, .ref q_chooser, .int v_choosers, .ref q_best, .int v_sets, .int v_surely, .ref q_alives])] (fun r w => ∃ (u_thrown : Int32) (u_seed : Int64), w = [(q_this, cO 4 [.int u_thrown, .ref q_text, .int v_textSize, .int v_place, .int v_people, .ref q_ageing, .ref q_page, .int v_readPeople, .ref q_readAgeing, .ref q_readPage, .ref q_book, .int v_acts, .ref q_kept, .ref q_isKept, .int v_heard, .ref q_heardWho, .ref q_heardIs, .long u_seed, .ref q_tried, .ref q_chooser, .int v_choosers, .ref q_best, .int v_sets, .int v_surely, .ref q_alives])] ∧ post r u_thrown u_seed) := by
  refine ConL.of (by decide +kernel) (Nat.le_of_ble_eq_true rfl) (fun Z hZ hI hRet => ?_)
  replace hZ : XOK E Z RX4 cX4_seed 5 { frames := 0, cells := 0, slots := 0, locals := 0 } := hZ
  clear hI
  show XW E Z 0 0 [(q_this, cO 4 [.int v_thrown, .ref q_text, .int v_textSize, .int v_place, .int v_people, .ref q_ageing, .ref q_page, .int v_readPeople, .ref q_readAgeing, .ref q_readPage, .ref q_book, .int v_acts, .ref q_kept, .ref q_isKept, .int v_heard, .ref q_heardWho, .ref q_heardIs, .long v_seed, .ref q_tried, .ref q_chooser, .int v_choosers, .ref q_best, .int v_sets, .int v_surely, .ref q_alives])] [(0, .ref q_this), (1, .long l1)] [] 0
  unfold p_X4_seed at h
  refine x_aload_n (pc' := 1) hZ dX4_seed_0 rfl 0 rfl ?_
  refine x_iconst (v := 0) (pc' := 2) hZ (by decide) dX4_seed_1 rfl ?_
  refine s_RX4_53 (pc' := 5) (ws' := [(q_this, cO 4 [.int 0, .ref q_text, .int v_textSize, .int v_place, .int v_people, .ref q_ageing, .ref q_page, .int v_readPeople, .ref q_readAgeing, .ref q_readPage, .ref q_book, .int v_acts, .ref q_kept, .ref q_isKept, .int v_heard, .ref q_heardWho, .ref q_heardIs, .long v_seed, .ref q_tried, .ref q_chooser, .int v_choosers, .ref q_best, .int v_sets, .int v_surely, .ref q_alives])]) hZ dX4_seed_2 rfl 0 rfl (Nat.le_of_ble_eq_true rfl) rfl ?_
  refine x_aload_n (pc' := 6) hZ dX4_seed_5 rfl 0 rfl ?_
  refine g_RX4_184 (pc' := 9) hZ dX4_seed_6 rfl 0 rfl rfl ?_
  refine x_lstore_n (i := 3) (pc' := 10) (lv' := [(3, .long v_seed), (0, .ref q_this), (1, .long l1)]) hZ dX4_seed_9 rfl rfl (by decide) rfl ?_
  refine x_aload_n (pc' := 11) hZ dX4_seed_10 rfl 1 rfl ?_
  refine x_lload_n (pc' := 12) hZ dX4_seed_11 rfl 2 rfl ?_
  refine s_RX4_184 (pc' := 15) (ws' := [(q_this, cO 4 [.int 0, .ref q_text, .int v_textSize, .int v_place, .int v_people, .ref q_ageing, .ref q_page, .int v_readPeople, .ref q_readAgeing, .ref q_readPage, .ref q_book, .int v_acts, .ref q_kept, .ref q_isKept, .int v_heard, .ref q_heardWho, .ref q_heardIs, .long l1, .ref q_tried, .ref q_chooser, .int v_choosers, .ref q_best, .int v_sets, .int v_surely, .ref q_alives])]) hZ dX4_seed_12 rfl 0 rfl (Nat.le_of_ble_eq_true rfl) rfl ?_
  refine x_lload_n (pc' := 16) hZ dX4_seed_15 rfl 0 rfl ?_
  exact hRet _ _ _ _ dX4_seed_16 ⟨_, _, rfl, h⟩
set_option maxHeartbeats 4000000 in
set_option maxRecDepth 100000 in
theorem t_X4_hunted_40 (E : XE) (Z : ZC) (q_this : Nat) (q_text : Nat) (q_ageing : Nat) (q_page : Nat) (q_readAgeing : Nat) (q_readPage : Nat) (q_book : Nat) (q_kept : Nat) (q_isKept : Nat) (q_heardWho : Nat) (q_heardIs : Nat) (q_tried : Nat) (q_chooser : Nat) (q_best : Nat) (q_alives : Nat) (v_thrown : Int32) (v_textSize : Int32) (v_place : Int32) (v_people : Int32) (v_readPeople : Int32) (v_acts : Int32) (v_heard : Int32) (v_choosers : Int32) (v_sets : Int32) (v_surely : Int32) (v_page : Nat → Int32) (l1 : Int32) {K : Int32 → Int32 → Int64 → Prop} (hZ : XOK E Z RX4 cX4_hunted 5 { frames := 1, cells := 0, slots := 0, locals := 25 }) : ∀ (k : Nat) (l2 : Int32) (l3 : Int32) (v_seed : Int64), wl (fun rec v => b_X4_hunted_40 l1 v_people K rec v.1 v.2.1 v.2.2) k (l2, l3, v_seed) → (∀ (l2 : Int32) (l3 : Int32) (v_seed : Int64), K l2 l3 v_seed → XW E Z 0 0 [(q_this, cO 4 [.int v_thrown, .ref q_text, .int v_textSize, .int v_place, .int v_people, .ref q_ageing, .ref q_page, .int v_readPeople, .ref q_readAgeing, .ref q_readPage, .ref q_book, .int v_acts, .ref q_kept, .ref q_isKept, .int v_heard, .ref q_heardWho, .ref q_heardIs, .long v_seed, .ref q_tried, .ref q_chooser, .int v_choosers, .ref q_best, .int v_sets, .int v_surely, .ref q_alives]), (q_page, cA E 25 v_page)] [(2, .int l2)] [] 101) → XW E Z 0 0 [(q_this, cO 4 [.int v_thrown, .ref q_text, .int v_textSize, .int v_place, .int v_people, .ref q_ageing, .ref q_page, .int v_readPeople, .ref q_readAgeing, .ref q_readPage, .ref q_book, .int v_acts, .ref q_kept, .ref q_isKept, .int v_heard, .ref q_heardWho, .ref q_heardIs, .long v_seed, .ref q_tried, .ref q_chooser, .int v_choosers, .ref q_best, .int v_sets, .int v_surely, .ref q_alives]), (q_page, cA E 25 v_page)] [(0, .ref q_this), (1, .int l1), (2, .int l2), (3, .int l3)] [] 40 := by
  intro k
  induction k with
  | zero =>
    intro l2 l3 v_seed h
    exact h.elim
  | succ k ih =>
    intro l2 l3 v_seed h hK
    replace h := wl_succ h
    try dsimp only at h
    unfold b_X4_hunted_40 at h
    refine x_iload_n (pc' := 41) hZ dX4_hunted_40 rfl 3 rfl ?_
    refine x_iload_n (pc' := 42) hZ dX4_hunted_41 rfl 1 rfl ?_
    refine x_icmp_ge (tgt := 101) (pc' := 45) hZ dX4_hunted_42 (by decide) rfl (fun c42 => ?_) (fun c42 => ?_)
    · replace h := h.1 c42
      refine x_lv [2] (lv' := [(2, .int l2)]) rfl ?_
      exact hK l2 l3 v_seed h
    · replace h := h.2 c42
      refine x_aload_n (pc' := 46) hZ dX4_hunted_45 rfl 0 rfl ?_
      refine x_aload_n (pc' := 47) hZ dX4_hunted_46 rfl 0 rfl ?_
      refine g_RX4_184 (pc' := 50) hZ dX4_hunted_47 rfl 0 rfl rfl ?_
      refine x_ldc2 (v := 6364136223846793005) (pc' := 53) hZ kl_RX4_190 dX4_hunted_50 rfl ?_
      refine x_lmul (pc' := 54) hZ dX4_hunted_53 rfl ?_
      refine x_ldc2 (v := 1442695040888963407) (pc' := 57) hZ kl_RX4_192 dX4_hunted_54 rfl ?_
      refine x_ladd (pc' := 58) hZ dX4_hunted_57 rfl ?_
      refine x_topl (fun x58 e58 => ?_)
      replace h := h x58 e58
      refine s_RX4_184 (pc' := 61) (ws' := [(q_this, cO 4 [.int v_thrown, .ref q_text, .int v_textSize, .int v_place, .int v_people, .ref q_ageing, .ref q_page, .int v_readPeople, .ref q_readAgeing, .ref q_readPage, .ref q_book, .int v_acts, .ref q_kept, .ref q_isKept, .int v_heard, .ref q_heardWho, .ref q_heardIs, .long x58, .ref q_tried, .ref q_chooser, .int v_choosers, .ref q_best, .int v_sets, .int v_surely, .ref q_alives]), (q_page, cA E 25 v_page)]) hZ dX4_hunted_58 rfl 0 rfl (Nat.le_of_ble_eq_true rfl) rfl ?_
      refine x_aload_n (pc' := 62) hZ dX4_hunted_61 rfl 0 rfl ?_
      refine g_RX4_184 (pc' := 65) hZ dX4_hunted_62 rfl 0 rfl rfl ?_
      refine x_bipush (v := 33) (pc' := 67) hZ (by decide) dX4_hunted_65 rfl ?_
      refine x_lushr (pc' := 68) hZ dX4_hunted_67 rfl ?_
      refine x_aload_n (pc' := 69) hZ dX4_hunted_68 rfl 0 rfl ?_
      refine g_RX4_57 (pc' := 72) hZ dX4_hunted_69 rfl 0 rfl rfl ?_
      refine x_i2l (pc' := 73) hZ dX4_hunted_72 rfl ?_
      obtain ⟨h73, h⟩ := h
      refine x_lrem (pc' := 74) hZ h73 dX4_hunted_73 rfl ?_
      refine x_l2i (pc' := 75) hZ dX4_hunted_74 rfl ?_
      refine x_topi (fun x75 e75 => ?_)
      replace h := h x75 e75
      refine x_istore (i := 4) (pc' := 77) (lv' := [(4, .int x75), (0, .ref q_this), (1, .int l1), (2, .int l2), (3, .int l3)]) hZ dX4_hunted_75 rfl (by decide) rfl ?_
      refine x_iload_n (pc' := 78) hZ dX4_hunted_77 rfl 3 rfl ?_
      refine x_iload (pc' := 80) hZ dX4_hunted_78 rfl 0 rfl ?_
      refine x_if_ne (tgt := 87) (pc' := 83) hZ dX4_hunted_80 (by decide) rfl (fun c80 => ?_) (fun c80 => ?_)
      · replace h := h.1 c80
        refine x_iconst (v := 1) (pc' := 88) hZ (by decide) dX4_hunted_87 rfl ?_
        refine x_iload (pc' := 90) hZ dX4_hunted_88 rfl 0 rfl ?_
        refine x_ishl (pc' := 91) hZ dX4_hunted_90 rfl ?_
        refine x_iconst (v := (-1)) (pc' := 92) hZ (by decide) dX4_hunted_91 rfl ?_
        refine x_ixor (pc' := 93) hZ dX4_hunted_92 rfl ?_
        refine x_iand (pc' := 94) hZ dX4_hunted_93 rfl ?_
        refine x_topi (fun x94 e94 => ?_)
        replace h := h x94 e94
        refine x_istore_n (i := 2) (pc' := 95) (lv' := [(2, .int x94), (4, .int x75), (0, .ref q_this), (1, .int l1), (3, .int l3)]) hZ dX4_hunted_94 rfl rfl (by decide) rfl ?_
        obtain ⟨x95, e95⟩ : ∃ y : Int32, y = l3 + 1 := ⟨_, rfl⟩
        replace h := h x95 e95
        refine x_iinc (i := 3) (v := x95) (pc' := 98) (lv' := [(3, .int x95), (2, .int x94), (4, .int x75), (0, .ref q_this), (1, .int l1)]) hZ dX4_hunted_95 rfl 4 rfl (by rw [e95]; rfl) (by decide) rfl ?_
        refine x_goto (pc' := 40) hZ dX4_hunted_98 (by decide) ?_
        refine x_lv [3, 4, 1, 0] (lv' := [(0, .ref q_this), (1, .int l1), (2, .int x94), (3, .int x95)]) rfl ?_
        exact ih x94 x95 x58 h hK
      · replace h := h.2 c80
        refine x_iload_n (pc' := 84) hZ dX4_hunted_83 rfl 3 rfl ?_
        refine x_goto (pc' := 93) hZ dX4_hunted_84 (by decide) ?_
        refine x_iand (pc' := 94) hZ dX4_hunted_93 rfl ?_
        refine x_topi (fun x94 e94 => ?_)
        replace h := h x94 e94
        refine x_istore_n (i := 2) (pc' := 95) (lv' := [(2, .int x94), (4, .int x75), (0, .ref q_this), (1, .int l1), (3, .int l3)]) hZ dX4_hunted_94 rfl rfl (by decide) rfl ?_
        obtain ⟨x95, e95⟩ : ∃ y : Int32, y = l3 + 1 := ⟨_, rfl⟩
        replace h := h x95 e95
        refine x_iinc (i := 3) (v := x95) (pc' := 98) (lv' := [(3, .int x95), (2, .int x94), (4, .int x75), (0, .ref q_this), (1, .int l1)]) hZ dX4_hunted_95 rfl 4 rfl (by rw [e95]; rfl) (by decide) rfl ?_
        refine x_goto (pc' := 40) hZ dX4_hunted_98 (by decide) ?_
        refine x_lv [3, 4, 1, 0] (lv' := [(0, .ref q_this), (1, .int l1), (2, .int x94), (3, .int x95)]) rfl ?_
        exact ih x94 x95 x58 h hK
set_option maxHeartbeats 4000000 in
set_option maxRecDepth 100000 in
theorem c_X4_hunted (E : XE) (q_this : Nat) (q_text : Nat) (q_ageing : Nat) (q_page : Nat) (q_readAgeing : Nat) (q_readPage : Nat) (q_book : Nat) (q_kept : Nat) (q_isKept : Nat) (q_heardWho : Nat) (q_heardIs : Nat) (q_tried : Nat) (q_chooser : Nat) (q_best : Nat) (q_alives : Nat) (v_thrown : Int32) (v_textSize : Int32) (v_place : Int32) (v_people : Int32) (v_readPeople : Int32) (v_acts : Int32) (v_heard : Int32) (v_seed : Int64) (v_choosers : Int32) (v_sets : Int32) (v_surely : Int32) (v_page : Nat → Int32) (l1 : Int32) (post : Int32 → Int32 → Int64 → Prop) (h : p_X4_hunted v_thrown v_people v_seed v_page l1 post) : ConI E yX4_hunted cX4_hunted 5 .int { frames := 1, cells := 0, slots := 0, locals := 25 } 0 0 [.ref q_this, .int l1] [(q_this, cO 4 [.int v_thrown, .ref q_text, .int v_textSize, .int v_place, .int v_people, .ref q_ageing, .ref q_page, .int v_readPeople, .ref q_readAgeing, .ref q_readPage, .ref q_book, .int v_acts, .ref q_kept, .ref q_isKept, .int v_heard, .ref q_heardWho, .ref q_heardIs, .long v_seed, .ref q_tried, .ref q_chooser, .int v_choosers, .ref q_best, .int v_sets, .int v_surely, .ref q_alives]), (q_page, cA E 25 v_page)] (fun r w => ∃ (u_thrown : Int32) (u_seed : Int64), w = [(q_this, cO 4 [.int u_thrown, .ref q_text, .int v_textSize, .int v_place, .int v_people, .ref q_ageing, .ref q_page, .int v_readPeople, .ref q_readAgeing, .ref q_readPage, .ref q_book, .int v_acts, .ref q_kept, .ref q_isKept, .int v_heard, .ref q_heardWho, .ref q_heardIs, .long u_seed, .ref q_tried, .ref q_chooser, .int v_choosers, .ref q_best, .int v_sets, .int v_surely, .ref q_alives]), (q_page, cA E 25 v_page)] ∧ post r u_thrown u_seed) := by
  refine ConI.of (by decide +kernel) (Nat.le_of_ble_eq_true rfl) (fun Z hZ hI hRet => ?_)
  replace hZ : XOK E Z RX4 cX4_hunted 5 { frames := 1, cells := 0, slots := 0, locals := 25 } := hZ
  clear hI
  show XW E Z 0 0 [(q_this, cO 4 [.int v_thrown, .ref q_text, .int v_textSize, .int v_place, .int v_people, .ref q_ageing, .ref q_page, .int v_readPeople, .ref q_readAgeing, .ref q_readPage, .ref q_book, .int v_acts, .ref q_kept, .ref q_isKept, .int v_heard, .ref q_heardWho, .ref q_heardIs, .long v_seed, .ref q_tried, .ref q_chooser, .int v_choosers, .ref q_best, .int v_sets, .int v_surely, .ref q_alives]), (q_page, cA E 25 v_page)] [(0, .ref q_this), (1, .int l1)] [] 0
  unfold p_X4_hunted at h
  refine x_aload_n (pc' := 1) hZ dX4_hunted_0 rfl 0 rfl ?_
  refine x_iconst (v := 0) (pc' := 2) hZ (by decide) dX4_hunted_1 rfl ?_
  refine s_RX4_53 (pc' := 5) (ws' := [(q_this, cO 4 [.int 0, .ref q_text, .int v_textSize, .int v_place, .int v_people, .ref q_ageing, .ref q_page, .int v_readPeople, .ref q_readAgeing, .ref q_readPage, .ref q_book, .int v_acts, .ref q_kept, .ref q_isKept, .int v_heard, .ref q_heardWho, .ref q_heardIs, .long v_seed, .ref q_tried, .ref q_chooser, .int v_choosers, .ref q_best, .int v_sets, .int v_surely, .ref q_alives]), (q_page, cA E 25 v_page)]) hZ dX4_hunted_2 rfl 0 rfl (Nat.le_of_ble_eq_true rfl) rfl ?_
  refine x_iload_n (pc' := 6) hZ dX4_hunted_5 rfl 1 rfl ?_
  refine x_i2l (pc' := 7) hZ dX4_hunted_6 rfl ?_
  refine x_lconst (v := 1) (pc' := 8) hZ (by decide) dX4_hunted_7 rfl ?_
  refine x_ldc2 (v := 30) (pc' := 11) hZ kl_RX4_188 dX4_hunted_8 rfl ?_
  refine k_RX4_60 (pc' := 14) (as := [.long l1.toInt64, .long 1, .long 30]) (rest := []) (c' := 0) (n' := 0) (wr := [(q_this, cO 4 [.int 0, .ref q_text, .int v_textSize, .int v_place, .int v_people, .ref q_ageing, .ref q_page, .int v_readPeople, .ref q_readAgeing, .ref q_readPage, .ref q_book, .int v_acts, .ref q_kept, .ref q_isKept, .int v_heard, .ref q_heardWho, .ref q_heardIs, .long v_seed, .ref q_tried, .ref q_chooser, .int v_choosers, .ref q_best, .int v_sets, .int v_surely, .ref q_alives]), (q_page, cA E 25 v_page)]) hZ (c_X4_in E l1.toInt64 1 30 _ h) dX4_hunted_11 rfl rfl rfl rfl rfl (Nat.le_of_ble_eq_true rfl) (Nat.le_of_ble_eq_true rfl) (Nat.le_of_ble_eq_true rfl) rfl rfl (Nat.le_of_ble_eq_true rfl) (Nat.le_of_ble_eq_true rfl) [] [0, 1] rfl rfl (by decide) (by decide) (by decide) (fun r11 w11 hw => ?_)
  obtain ⟨rfl, h⟩ := hw
  refine x_ws (ws' := [(q_this, cO 4 [.int 0, .ref q_text, .int v_textSize, .int v_place, .int v_people, .ref q_ageing, .ref q_page, .int v_readPeople, .ref q_readAgeing, .ref q_readPage, .ref q_book, .int v_acts, .ref q_kept, .ref q_isKept, .int v_heard, .ref q_heardWho, .ref q_heardIs, .long v_seed, .ref q_tried, .ref q_chooser, .int v_choosers, .ref q_best, .int v_sets, .int v_surely, .ref q_alives]), (q_page, cA E 25 v_page)]) [0, 1] rfl (by decide) ?_
  refine x_if_ne (tgt := 20) (pc' := 17) hZ dX4_hunted_14 (by decide) rfl (fun c14 => ?_) (fun c14 => ?_)
  · replace h := h.1 c14
    refine x_aload_n (pc' := 21) hZ dX4_hunted_20 rfl 0 rfl ?_
    refine g_RX4_57 (pc' := 24) hZ dX4_hunted_21 rfl 0 rfl rfl ?_
    refine x_if_ne (tgt := 30) (pc' := 27) hZ dX4_hunted_24 (by decide) rfl (fun c24 => ?_) (fun c24 => ?_)
    · replace h := h.1 c24
      refine x_aload_n (pc' := 31) hZ dX4_hunted_30 rfl 0 rfl ?_
      refine g_RX4_16 (pc' := 34) hZ dX4_hunted_31 rfl 0 rfl rfl ?_
      refine x_bipush (v := 21) (pc' := 36) hZ (by decide) dX4_hunted_34 rfl ?_
      have h36 : vp_in 21 25 := by unfold vp_in; decide
      refine x_iald (pc' := 37) hZ h36 dX4_hunted_36 rfl 1 rfl ?_
      refine x_topi (fun x37 e37 => ?_)
      replace h := h x37 e37
      refine x_istore_n (i := 2) (pc' := 38) (lv' := [(2, .int x37), (0, .ref q_this), (1, .int l1)]) hZ dX4_hunted_37 rfl rfl (by decide) rfl ?_
      refine x_iconst (v := 0) (pc' := 39) hZ (by decide) dX4_hunted_38 rfl ?_
      refine x_istore_n (i := 3) (pc' := 40) (lv' := [(3, .int 0), (2, .int x37), (0, .ref q_this), (1, .int l1)]) hZ dX4_hunted_39 rfl rfl (by decide) rfl ?_
      refine x_lv [2, 3, 1, 0] (lv' := [(0, .ref q_this), (1, .int l1), (2, .int x37), (3, .int 0)]) rfl ?_
      obtain ⟨k40, h⟩ := h
      refine t_X4_hunted_40 E Z q_this q_text q_ageing q_page q_readAgeing q_readPage q_book q_kept q_isKept q_heardWho q_heardIs q_tried q_chooser q_best q_alives 0 v_textSize v_place v_people v_readPeople v_acts v_heard v_choosers v_sets v_surely v_page l1 hZ  _ x37 0 v_seed h (fun l2_40 l3_40 v_seed_40 h => ?_)
      refine x_iload_n (pc' := 102) hZ dX4_hunted_101 rfl 0 rfl ?_
      refine k_RX4_127 (pc' := 105) (as := [.int l2_40]) (rest := []) (c' := 0) (n' := 0) (wr := [(q_this, cO 4 [.int 0, .ref q_text, .int v_textSize, .int v_place, .int v_people, .ref q_ageing, .ref q_page, .int v_readPeople, .ref q_readAgeing, .ref q_readPage, .ref q_book, .int v_acts, .ref q_kept, .ref q_isKept, .int v_heard, .ref q_heardWho, .ref q_heardIs, .long v_seed_40, .ref q_tried, .ref q_chooser, .int v_choosers, .ref q_best, .int v_sets, .int v_surely, .ref q_alives]), (q_page, cA E 25 v_page)]) hZ (c_X4_many E l2_40 _ h) dX4_hunted_102 rfl rfl rfl rfl rfl (Nat.le_of_ble_eq_true rfl) (Nat.le_of_ble_eq_true rfl) (Nat.le_of_ble_eq_true rfl) rfl rfl (Nat.le_of_ble_eq_true rfl) (Nat.le_of_ble_eq_true rfl) [] [0, 1] rfl rfl (by decide) (by decide) (by decide) (fun r102 w102 hw => ?_)
      obtain ⟨rfl, h⟩ := hw
      refine x_ws (ws' := [(q_this, cO 4 [.int 0, .ref q_text, .int v_textSize, .int v_place, .int v_people, .ref q_ageing, .ref q_page, .int v_readPeople, .ref q_readAgeing, .ref q_readPage, .ref q_book, .int v_acts, .ref q_kept, .ref q_isKept, .int v_heard, .ref q_heardWho, .ref q_heardIs, .long v_seed_40, .ref q_tried, .ref q_chooser, .int v_choosers, .ref q_best, .int v_sets, .int v_surely, .ref q_alives]), (q_page, cA E 25 v_page)]) [0, 1] rfl (by decide) ?_
      exact hRet _ _ _ _ dX4_hunted_105 ⟨_, _, rfl, h⟩
    · replace h := h.2 c24
      refine x_bipush (v := (-3)) (pc' := 29) hZ (by decide) dX4_hunted_27 rfl ?_
      exact hRet _ _ _ _ dX4_hunted_29 ⟨_, _, rfl, h⟩
  · replace h := h.2 c14
    refine x_bipush (v := (-2)) (pc' := 19) hZ (by decide) dX4_hunted_17 rfl ?_
    exact hRet _ _ _ _ dX4_hunted_19 ⟨_, _, rfl, h⟩
set_option maxHeartbeats 4000000 in
set_option maxRecDepth 100000 in
theorem t_X4_keep_26 (E : XE) (Z : ZC) (q_this : Nat) (q_text : Nat) (q_ageing : Nat) (q_page : Nat) (q_readAgeing : Nat) (q_readPage : Nat) (q_book : Nat) (q_kept : Nat) (q_isKept : Nat) (q_heardWho : Nat) (q_heardIs : Nat) (q_tried : Nat) (q_chooser : Nat) (q_best : Nat) (q_alives : Nat) (v_thrown : Int32) (v_textSize : Int32) (v_place : Int32) (v_people : Int32) (v_readPeople : Int32) (v_acts : Int32) (v_heard : Int32) (v_seed : Int64) (v_choosers : Int32) (v_sets : Int32) (v_surely : Int32) (v_page : Nat → Int32) (v_isKept : Nat → Int32) (l1 : Int32) {K : Int32 → (Nat → Int32) → Prop} (hZ : XOK E Z RX4 cX4_keep 3 { frames := 1, cells := 0, slots := 0, locals := 25 }) : ∀ (k : Nat) (l2 : Int32) (v_kept : (Nat → Int32)), wl (fun rec v => b_X4_keep_26 l1 v_page K rec v.1 v.2) k (l2, v_kept) → (∀ (l2 : Int32) (v_kept : (Nat → Int32)), K l2 v_kept → XW E Z 0 0 [(q_this, cO 4 [.int v_thrown, .ref q_text, .int v_textSize, .int v_place, .int v_people, .ref q_ageing, .ref q_page, .int v_readPeople, .ref q_readAgeing, .ref q_readPage, .ref q_book, .int v_acts, .ref q_kept, .ref q_isKept, .int v_heard, .ref q_heardWho, .ref q_heardIs, .long v_seed, .ref q_tried, .ref q_chooser, .int v_choosers, .ref q_best, .int v_sets, .int v_surely, .ref q_alives]), (q_page, cA E 25 v_page), (q_kept, cA E 50 v_kept), (q_isKept, cB E 2 v_isKept)] [(0, .ref q_this)] [] 55) → XW E Z 0 0 [(q_this, cO 4 [.int v_thrown, .ref q_text, .int v_textSize, .int v_place, .int v_people, .ref q_ageing, .ref q_page, .int v_readPeople, .ref q_readAgeing, .ref q_readPage, .ref q_book, .int v_acts, .ref q_kept, .ref q_isKept, .int v_heard, .ref q_heardWho, .ref q_heardIs, .long v_seed, .ref q_tried, .ref q_chooser, .int v_choosers, .ref q_best, .int v_sets, .int v_surely, .ref q_alives]), (q_page, cA E 25 v_page), (q_kept, cA E 50 v_kept), (q_isKept, cB E 2 v_isKept)] [(0, .ref q_this), (1, .int l1), (2, .int l2)] [] 26 := by
  intro k
  induction k with
  | zero =>
    intro l2 v_kept h
    exact h.elim
  | succ k ih =>
    intro l2 v_kept h hK
    replace h := wl_succ h
    try dsimp only at h
    unfold b_X4_keep_26 at h
    refine x_iload_n (pc' := 27) hZ dX4_keep_26 rfl 2 rfl ?_
    refine x_bipush (v := 25) (pc' := 29) hZ (by decide) dX4_keep_27 rfl ?_
    refine x_icmp_ge (tgt := 55) (pc' := 32) hZ dX4_keep_29 (by decide) rfl (fun c29 => ?_) (fun c29 => ?_)
    · replace h := h.1 c29
      refine x_lv [0] (lv' := [(0, .ref q_this)]) rfl ?_
      exact hK l2 v_kept h
    · replace h := h.2 c29
      refine x_aload_n (pc' := 33) hZ dX4_keep_32 rfl 0 rfl ?_
      refine g_RX4_28 (pc' := 36) hZ dX4_keep_33 rfl 0 rfl rfl ?_
      refine x_bipush (v := 25) (pc' := 38) hZ (by decide) dX4_keep_36 rfl ?_
      refine x_iload_n (pc' := 39) hZ dX4_keep_38 rfl 1 rfl ?_
      refine x_imul (pc' := 40) hZ dX4_keep_39 rfl ?_
      refine x_iload_n (pc' := 41) hZ dX4_keep_40 rfl 2 rfl ?_
      refine x_iadd (pc' := 42) hZ dX4_keep_41 rfl ?_
      refine x_aload_n (pc' := 43) hZ dX4_keep_42 rfl 0 rfl ?_
      refine g_RX4_16 (pc' := 46) hZ dX4_keep_43 rfl 0 rfl rfl ?_
      refine x_iload_n (pc' := 47) hZ dX4_keep_46 rfl 2 rfl ?_
      obtain ⟨h47, h⟩ := h
      refine x_iald (pc' := 48) hZ h47 dX4_keep_47 rfl 1 rfl ?_
      refine x_topi (fun x48 e48 => ?_)
      replace h := h x48 e48
      obtain ⟨h48, h⟩ := h
      refine x_iast (pc' := 49) (ws' := [(q_this, cO 4 [.int v_thrown, .ref q_text, .int v_textSize, .int v_place, .int v_people, .ref q_ageing, .ref q_page, .int v_readPeople, .ref q_readAgeing, .ref q_readPage, .ref q_book, .int v_acts, .ref q_kept, .ref q_isKept, .int v_heard, .ref q_heardWho, .ref q_heardIs, .long v_seed, .ref q_tried, .ref q_chooser, .int v_choosers, .ref q_best, .int v_sets, .int v_surely, .ref q_alives]), (q_page, cA E 25 v_page), (q_kept, cA E 50 (upd v_kept (ix ((25 * l1) + l2)) x48)), (q_isKept, cB E 2 v_isKept)]) hZ h48 dX4_keep_48 rfl 2 rfl rfl ?_
      obtain ⟨x49, e49⟩ : ∃ y : Int32, y = l2 + 1 := ⟨_, rfl⟩
      replace h := h x49 e49
      refine x_iinc (i := 2) (v := x49) (pc' := 52) (lv' := [(2, .int x49), (0, .ref q_this), (1, .int l1)]) hZ dX4_keep_49 rfl 2 rfl (by rw [e49]; rfl) (by decide) rfl ?_
      refine x_goto (pc' := 26) hZ dX4_keep_52 (by decide) ?_
      refine x_lv [1, 2, 0] (lv' := [(0, .ref q_this), (1, .int l1), (2, .int x49)]) rfl ?_
      exact ih x49 (upd v_kept (ix ((25 * l1) + l2)) x48) h hK
set_option maxHeartbeats 4000000 in
set_option maxRecDepth 100000 in
theorem c_X4_keep (E : XE) (q_this : Nat) (q_text : Nat) (q_ageing : Nat) (q_page : Nat) (q_readAgeing : Nat) (q_readPage : Nat) (q_book : Nat) (q_kept : Nat) (q_isKept : Nat) (q_heardWho : Nat) (q_heardIs : Nat) (q_tried : Nat) (q_chooser : Nat) (q_best : Nat) (q_alives : Nat) (v_thrown : Int32) (v_textSize : Int32) (v_place : Int32) (v_people : Int32) (v_readPeople : Int32) (v_acts : Int32) (v_heard : Int32) (v_seed : Int64) (v_choosers : Int32) (v_sets : Int32) (v_surely : Int32) (v_page : Nat → Int32) (v_kept : Nat → Int32) (v_isKept : Nat → Int32) (l1 : Int32) (post : Int32 → Int32 → (Nat → Int32) → (Nat → Int32) → Prop) (h : p_X4_keep v_thrown v_page v_kept v_isKept l1 post) : ConI E yX4_keep cX4_keep 3 .int { frames := 1, cells := 0, slots := 0, locals := 25 } 0 0 [.ref q_this, .int l1] [(q_this, cO 4 [.int v_thrown, .ref q_text, .int v_textSize, .int v_place, .int v_people, .ref q_ageing, .ref q_page, .int v_readPeople, .ref q_readAgeing, .ref q_readPage, .ref q_book, .int v_acts, .ref q_kept, .ref q_isKept, .int v_heard, .ref q_heardWho, .ref q_heardIs, .long v_seed, .ref q_tried, .ref q_chooser, .int v_choosers, .ref q_best, .int v_sets, .int v_surely, .ref q_alives]), (q_page, cA E 25 v_page), (q_kept, cA E 50 v_kept), (q_isKept, cB E 2 v_isKept)] (fun r w => ∃ (u_thrown : Int32) (u_kept : Nat → Int32) (u_isKept : Nat → Int32), w = [(q_this, cO 4 [.int u_thrown, .ref q_text, .int v_textSize, .int v_place, .int v_people, .ref q_ageing, .ref q_page, .int v_readPeople, .ref q_readAgeing, .ref q_readPage, .ref q_book, .int v_acts, .ref q_kept, .ref q_isKept, .int v_heard, .ref q_heardWho, .ref q_heardIs, .long v_seed, .ref q_tried, .ref q_chooser, .int v_choosers, .ref q_best, .int v_sets, .int v_surely, .ref q_alives]), (q_page, cA E 25 v_page), (q_kept, cA E 50 u_kept), (q_isKept, cB E 2 u_isKept)] ∧ post r u_thrown u_kept u_isKept) := by
  refine ConI.of (by decide +kernel) (Nat.le_of_ble_eq_true rfl) (fun Z hZ hI hRet => ?_)
  replace hZ : XOK E Z RX4 cX4_keep 3 { frames := 1, cells := 0, slots := 0, locals := 25 } := hZ
  clear hI
  show XW E Z 0 0 [(q_this, cO 4 [.int v_thrown, .ref q_text, .int v_textSize, .int v_place, .int v_people, .ref q_ageing, .ref q_page, .int v_readPeople, .ref q_readAgeing, .ref q_readPage, .ref q_book, .int v_acts, .ref q_kept, .ref q_isKept, .int v_heard, .ref q_heardWho, .ref q_heardIs, .long v_seed, .ref q_tried, .ref q_chooser, .int v_choosers, .ref q_best, .int v_sets, .int v_surely, .ref q_alives]), (q_page, cA E 25 v_page), (q_kept, cA E 50 v_kept), (q_isKept, cB E 2 v_isKept)] [(0, .ref q_this), (1, .int l1)] [] 0
  unfold p_X4_keep at h
  refine x_aload_n (pc' := 1) hZ dX4_keep_0 rfl 0 rfl ?_
  refine x_iconst (v := 0) (pc' := 2) hZ (by decide) dX4_keep_1 rfl ?_
  refine s_RX4_53 (pc' := 5) (ws' := [(q_this, cO 4 [.int 0, .ref q_text, .int v_textSize, .int v_place, .int v_people, .ref q_ageing, .ref q_page, .int v_readPeople, .ref q_readAgeing, .ref q_readPage, .ref q_book, .int v_acts, .ref q_kept, .ref q_isKept, .int v_heard, .ref q_heardWho, .ref q_heardIs, .long v_seed, .ref q_tried, .ref q_chooser, .int v_choosers, .ref q_best, .int v_sets, .int v_surely, .ref q_alives]), (q_page, cA E 25 v_page), (q_kept, cA E 50 v_kept), (q_isKept, cB E 2 v_isKept)]) hZ dX4_keep_2 rfl 0 rfl (Nat.le_of_ble_eq_true rfl) rfl ?_
  refine x_iload_n (pc' := 6) hZ dX4_keep_5 rfl 1 rfl ?_
  refine x_i2l (pc' := 7) hZ dX4_keep_6 rfl ?_
  refine x_lconst (v := 0) (pc' := 8) hZ (by decide) dX4_keep_7 rfl ?_
  refine x_lconst (v := 1) (pc' := 9) hZ (by decide) dX4_keep_8 rfl ?_
  refine k_RX4_60 (pc' := 12) (as := [.long l1.toInt64, .long 0, .long 1]) (rest := []) (c' := 0) (n' := 0) (wr := [(q_this, cO 4 [.int 0, .ref q_text, .int v_textSize, .int v_place, .int v_people, .ref q_ageing, .ref q_page, .int v_readPeople, .ref q_readAgeing, .ref q_readPage, .ref q_book, .int v_acts, .ref q_kept, .ref q_isKept, .int v_heard, .ref q_heardWho, .ref q_heardIs, .long v_seed, .ref q_tried, .ref q_chooser, .int v_choosers, .ref q_best, .int v_sets, .int v_surely, .ref q_alives]), (q_page, cA E 25 v_page), (q_kept, cA E 50 v_kept), (q_isKept, cB E 2 v_isKept)]) hZ (c_X4_in E l1.toInt64 0 1 _ h) dX4_keep_9 rfl rfl rfl rfl rfl (Nat.le_of_ble_eq_true rfl) (Nat.le_of_ble_eq_true rfl) (Nat.le_of_ble_eq_true rfl) rfl rfl (Nat.le_of_ble_eq_true rfl) (Nat.le_of_ble_eq_true rfl) [] [0, 1, 2, 3] rfl rfl (by decide) (by decide) (by decide) (fun r9 w9 hw => ?_)
  obtain ⟨rfl, h⟩ := hw
  refine x_ws (ws' := [(q_this, cO 4 [.int 0, .ref q_text, .int v_textSize, .int v_place, .int v_people, .ref q_ageing, .ref q_page, .int v_readPeople, .ref q_readAgeing, .ref q_readPage, .ref q_book, .int v_acts, .ref q_kept, .ref q_isKept, .int v_heard, .ref q_heardWho, .ref q_heardIs, .long v_seed, .ref q_tried, .ref q_chooser, .int v_choosers, .ref q_best, .int v_sets, .int v_surely, .ref q_alives]), (q_page, cA E 25 v_page), (q_kept, cA E 50 v_kept), (q_isKept, cB E 2 v_isKept)]) [0, 1, 2, 3] rfl (by decide) ?_
  refine x_if_ne (tgt := 17) (pc' := 15) hZ dX4_keep_12 (by decide) rfl (fun c12 => ?_) (fun c12 => ?_)
  · replace h := h.1 c12
    refine x_aload_n (pc' := 18) hZ dX4_keep_17 rfl 0 rfl ?_
    refine g_RX4_31 (pc' := 21) hZ dX4_keep_18 rfl 0 rfl rfl ?_
    refine x_iload_n (pc' := 22) hZ dX4_keep_21 rfl 1 rfl ?_
    refine x_iconst (v := 1) (pc' := 23) hZ (by decide) dX4_keep_22 rfl ?_
    obtain ⟨h23, h⟩ := h
    refine x_zast (pc' := 24) (ws' := [(q_this, cO 4 [.int 0, .ref q_text, .int v_textSize, .int v_place, .int v_people, .ref q_ageing, .ref q_page, .int v_readPeople, .ref q_readAgeing, .ref q_readPage, .ref q_book, .int v_acts, .ref q_kept, .ref q_isKept, .int v_heard, .ref q_heardWho, .ref q_heardIs, .long v_seed, .ref q_tried, .ref q_chooser, .int v_choosers, .ref q_best, .int v_sets, .int v_surely, .ref q_alives]), (q_page, cA E 25 v_page), (q_kept, cA E 50 v_kept), (q_isKept, cB E 2 (upd v_isKept (ix l1) (jbool 1)))]) hZ h23 dX4_keep_23 rfl 3 rfl rfl ?_
    refine x_iconst (v := 0) (pc' := 25) hZ (by decide) dX4_keep_24 rfl ?_
    refine x_istore_n (i := 2) (pc' := 26) (lv' := [(2, .int 0), (0, .ref q_this), (1, .int l1)]) hZ dX4_keep_25 rfl rfl (by decide) rfl ?_
    refine x_lv [1, 2, 0] (lv' := [(0, .ref q_this), (1, .int l1), (2, .int 0)]) rfl ?_
    obtain ⟨k26, h⟩ := h
    refine t_X4_keep_26 E Z q_this q_text q_ageing q_page q_readAgeing q_readPage q_book q_kept q_isKept q_heardWho q_heardIs q_tried q_chooser q_best q_alives 0 v_textSize v_place v_people v_readPeople v_acts v_heard v_seed v_choosers v_sets v_surely v_page (upd v_isKept (ix l1) (jbool 1)) l1 hZ  _ 0 v_kept h (fun l2_26 v_kept_26 h => ?_)
    refine x_aload_n (pc' := 56) hZ dX4_keep_55 rfl 0 rfl ?_
    refine g_RX4_16 (pc' := 59) hZ dX4_keep_56 rfl 0 rfl rfl ?_
    refine x_bipush (v := 21) (pc' := 61) hZ (by decide) dX4_keep_59 rfl ?_
    have h61 : vp_in 21 25 := by unfold vp_in; decide
    refine x_iald (pc' := 62) hZ h61 dX4_keep_61 rfl 1 rfl ?_
    refine k_RX4_127 (pc' := 65) (as := [.int (v_page (ix 21))]) (rest := []) (c' := 0) (n' := 0) (wr := [(q_this, cO 4 [.int 0, .ref q_text, .int v_textSize, .int v_place, .int v_people, .ref q_ageing, .ref q_page, .int v_readPeople, .ref q_readAgeing, .ref q_readPage, .ref q_book, .int v_acts, .ref q_kept, .ref q_isKept, .int v_heard, .ref q_heardWho, .ref q_heardIs, .long v_seed, .ref q_tried, .ref q_chooser, .int v_choosers, .ref q_best, .int v_sets, .int v_surely, .ref q_alives]), (q_page, cA E 25 v_page), (q_kept, cA E 50 v_kept_26), (q_isKept, cB E 2 (upd v_isKept (ix l1) (jbool 1)))]) hZ (c_X4_many E (v_page (ix 21)) _ h) dX4_keep_62 rfl rfl rfl rfl rfl (Nat.le_of_ble_eq_true rfl) (Nat.le_of_ble_eq_true rfl) (Nat.le_of_ble_eq_true rfl) rfl rfl (Nat.le_of_ble_eq_true rfl) (Nat.le_of_ble_eq_true rfl) [] [0, 1, 2, 3] rfl rfl (by decide) (by decide) (by decide) (fun r62 w62 hw => ?_)
    obtain ⟨rfl, h⟩ := hw
    refine x_ws (ws' := [(q_this, cO 4 [.int 0, .ref q_text, .int v_textSize, .int v_place, .int v_people, .ref q_ageing, .ref q_page, .int v_readPeople, .ref q_readAgeing, .ref q_readPage, .ref q_book, .int v_acts, .ref q_kept, .ref q_isKept, .int v_heard, .ref q_heardWho, .ref q_heardIs, .long v_seed, .ref q_tried, .ref q_chooser, .int v_choosers, .ref q_best, .int v_sets, .int v_surely, .ref q_alives]), (q_page, cA E 25 v_page), (q_kept, cA E 50 v_kept_26), (q_isKept, cB E 2 (upd v_isKept (ix l1) (jbool 1)))]) [0, 1, 2, 3] rfl (by decide) ?_
    exact hRet _ _ _ _ dX4_keep_65 ⟨_, _, _, rfl, h⟩
  · replace h := h.2 c12
    refine x_iconst (v := (-1)) (pc' := 16) hZ (by decide) dX4_keep_15 rfl ?_
    exact hRet _ _ _ _ dX4_keep_16 ⟨_, _, _, rfl, h⟩
set_option maxHeartbeats 4000000 in
set_option maxRecDepth 100000 in
theorem t_X4_again_31 (E : XE) (Z : ZC) (q_this : Nat) (q_text : Nat) (q_ageing : Nat) (q_page : Nat) (q_readAgeing : Nat) (q_readPage : Nat) (q_book : Nat) (q_kept : Nat) (q_isKept : Nat) (q_heardWho : Nat) (q_heardIs : Nat) (q_tried : Nat) (q_chooser : Nat) (q_best : Nat) (q_alives : Nat) (v_thrown : Int32) (v_textSize : Int32) (v_place : Int32) (v_people : Int32) (v_readPeople : Int32) (v_acts : Int32) (v_heard : Int32) (v_seed : Int64) (v_choosers : Int32) (v_sets : Int32) (v_surely : Int32) (v_kept : Nat → Int32) (v_isKept : Nat → Int32) (l1 : Int32) {K : Int32 → (Nat → Int32) → Prop} (hZ : XOK E Z RX4 cX4_again 3 { frames := 1, cells := 0, slots := 0, locals := 25 }) : ∀ (k : Nat) (l2 : Int32) (v_page : (Nat → Int32)), wl (fun rec v => b_X4_again_31 l1 v_kept K rec v.1 v.2) k (l2, v_page) → (∀ (l2 : Int32) (v_page : (Nat → Int32)), K l2 v_page → XW E Z 0 0 [(q_this, cO 4 [.int v_thrown, .ref q_text, .int v_textSize, .int v_place, .int v_people, .ref q_ageing, .ref q_page, .int v_readPeople, .ref q_readAgeing, .ref q_readPage, .ref q_book, .int v_acts, .ref q_kept, .ref q_isKept, .int v_heard, .ref q_heardWho, .ref q_heardIs, .long v_seed, .ref q_tried, .ref q_chooser, .int v_choosers, .ref q_best, .int v_sets, .int v_surely, .ref q_alives]), (q_page, cA E 25 v_page), (q_kept, cA E 50 v_kept), (q_isKept, cB E 2 v_isKept)] [(0, .ref q_this)] [] 60) → XW E Z 0 0 [(q_this, cO 4 [.int v_thrown, .ref q_text, .int v_textSize, .int v_place, .int v_people, .ref q_ageing, .ref q_page, .int v_readPeople, .ref q_readAgeing, .ref q_readPage, .ref q_book, .int v_acts, .ref q_kept, .ref q_isKept, .int v_heard, .ref q_heardWho, .ref q_heardIs, .long v_seed, .ref q_tried, .ref q_chooser, .int v_choosers, .ref q_best, .int v_sets, .int v_surely, .ref q_alives]), (q_page, cA E 25 v_page), (q_kept, cA E 50 v_kept), (q_isKept, cB E 2 v_isKept)] [(0, .ref q_this), (1, .int l1), (2, .int l2)] [] 31 := by
  intro k
  induction k with
  | zero =>
    intro l2 v_page h
    exact h.elim
  | succ k ih =>
    intro l2 v_page h hK
    replace h := wl_succ h
    try dsimp only at h
    unfold b_X4_again_31 at h
    refine x_iload_n (pc' := 32) hZ dX4_again_31 rfl 2 rfl ?_
    refine x_bipush (v := 25) (pc' := 34) hZ (by decide) dX4_again_32 rfl ?_
    refine x_icmp_ge (tgt := 60) (pc' := 37) hZ dX4_again_34 (by decide) rfl (fun c34 => ?_) (fun c34 => ?_)
    · replace h := h.1 c34
      refine x_lv [0] (lv' := [(0, .ref q_this)]) rfl ?_
      exact hK l2 v_page h
    · replace h := h.2 c34
      refine x_aload_n (pc' := 38) hZ dX4_again_37 rfl 0 rfl ?_
      refine g_RX4_16 (pc' := 41) hZ dX4_again_38 rfl 0 rfl rfl ?_
      refine x_iload_n (pc' := 42) hZ dX4_again_41 rfl 2 rfl ?_
      refine x_aload_n (pc' := 43) hZ dX4_again_42 rfl 0 rfl ?_
      refine g_RX4_28 (pc' := 46) hZ dX4_again_43 rfl 0 rfl rfl ?_
      refine x_bipush (v := 25) (pc' := 48) hZ (by decide) dX4_again_46 rfl ?_
      refine x_iload_n (pc' := 49) hZ dX4_again_48 rfl 1 rfl ?_
      refine x_imul (pc' := 50) hZ dX4_again_49 rfl ?_
      refine x_iload_n (pc' := 51) hZ dX4_again_50 rfl 2 rfl ?_
      refine x_iadd (pc' := 52) hZ dX4_again_51 rfl ?_
      obtain ⟨h52, h⟩ := h
      refine x_iald (pc' := 53) hZ h52 dX4_again_52 rfl 2 rfl ?_
      refine x_topi (fun x53 e53 => ?_)
      replace h := h x53 e53
      obtain ⟨h53, h⟩ := h
      refine x_iast (pc' := 54) (ws' := [(q_this, cO 4 [.int v_thrown, .ref q_text, .int v_textSize, .int v_place, .int v_people, .ref q_ageing, .ref q_page, .int v_readPeople, .ref q_readAgeing, .ref q_readPage, .ref q_book, .int v_acts, .ref q_kept, .ref q_isKept, .int v_heard, .ref q_heardWho, .ref q_heardIs, .long v_seed, .ref q_tried, .ref q_chooser, .int v_choosers, .ref q_best, .int v_sets, .int v_surely, .ref q_alives]), (q_page, cA E 25 (upd v_page (ix l2) x53)), (q_kept, cA E 50 v_kept), (q_isKept, cB E 2 v_isKept)]) hZ h53 dX4_again_53 rfl 1 rfl rfl ?_
      obtain ⟨x54, e54⟩ : ∃ y : Int32, y = l2 + 1 := ⟨_, rfl⟩
      replace h := h x54 e54
      refine x_iinc (i := 2) (v := x54) (pc' := 57) (lv' := [(2, .int x54), (0, .ref q_this), (1, .int l1)]) hZ dX4_again_54 rfl 2 rfl (by rw [e54]; rfl) (by decide) rfl ?_
      refine x_goto (pc' := 31) hZ dX4_again_57 (by decide) ?_
      refine x_lv [1, 2, 0] (lv' := [(0, .ref q_this), (1, .int l1), (2, .int x54)]) rfl ?_
      exact ih x54 (upd v_page (ix l2) x53) h hK
set_option maxHeartbeats 4000000 in
set_option maxRecDepth 100000 in
theorem c_X4_again (E : XE) (q_this : Nat) (q_text : Nat) (q_ageing : Nat) (q_page : Nat) (q_readAgeing : Nat) (q_readPage : Nat) (q_book : Nat) (q_kept : Nat) (q_isKept : Nat) (q_heardWho : Nat) (q_heardIs : Nat) (q_tried : Nat) (q_chooser : Nat) (q_best : Nat) (q_alives : Nat) (v_thrown : Int32) (v_textSize : Int32) (v_place : Int32) (v_people : Int32) (v_readPeople : Int32) (v_acts : Int32) (v_heard : Int32) (v_seed : Int64) (v_choosers : Int32) (v_sets : Int32) (v_surely : Int32) (v_page : Nat → Int32) (v_kept : Nat → Int32) (v_isKept : Nat → Int32) (l1 : Int32) (post : Int32 → Int32 → Int32 → (Nat → Int32) → Prop) (h : p_X4_again v_thrown v_acts v_page v_kept v_isKept l1 post) : ConI E yX4_again cX4_again 3 .int { frames := 1, cells := 0, slots := 0, locals := 25 } 0 0 [.ref q_this, .int l1] [(q_this, cO 4 [.int v_thrown, .ref q_text, .int v_textSize, .int v_place, .int v_people, .ref q_ageing, .ref q_page, .int v_readPeople, .ref q_readAgeing, .ref q_readPage, .ref q_book, .int v_acts, .ref q_kept, .ref q_isKept, .int v_heard, .ref q_heardWho, .ref q_heardIs, .long v_seed, .ref q_tried, .ref q_chooser, .int v_choosers, .ref q_best, .int v_sets, .int v_surely, .ref q_alives]), (q_page, cA E 25 v_page), (q_kept, cA E 50 v_kept), (q_isKept, cB E 2 v_isKept)] (fun r w => ∃ (u_thrown : Int32) (u_acts : Int32) (u_page : Nat → Int32), w = [(q_this, cO 4 [.int u_thrown, .ref q_text, .int v_textSize, .int v_place, .int v_people, .ref q_ageing, .ref q_page, .int v_readPeople, .ref q_readAgeing, .ref q_readPage, .ref q_book, .int u_acts, .ref q_kept, .ref q_isKept, .int v_heard, .ref q_heardWho, .ref q_heardIs, .long v_seed, .ref q_tried, .ref q_chooser, .int v_choosers, .ref q_best, .int v_sets, .int v_surely, .ref q_alives]), (q_page, cA E 25 u_page), (q_kept, cA E 50 v_kept), (q_isKept, cB E 2 v_isKept)] ∧ post r u_thrown u_acts u_page) := by
  refine ConI.of (by decide +kernel) (Nat.le_of_ble_eq_true rfl) (fun Z hZ hI hRet => ?_)
  replace hZ : XOK E Z RX4 cX4_again 3 { frames := 1, cells := 0, slots := 0, locals := 25 } := hZ
  clear hI
  show XW E Z 0 0 [(q_this, cO 4 [.int v_thrown, .ref q_text, .int v_textSize, .int v_place, .int v_people, .ref q_ageing, .ref q_page, .int v_readPeople, .ref q_readAgeing, .ref q_readPage, .ref q_book, .int v_acts, .ref q_kept, .ref q_isKept, .int v_heard, .ref q_heardWho, .ref q_heardIs, .long v_seed, .ref q_tried, .ref q_chooser, .int v_choosers, .ref q_best, .int v_sets, .int v_surely, .ref q_alives]), (q_page, cA E 25 v_page), (q_kept, cA E 50 v_kept), (q_isKept, cB E 2 v_isKept)] [(0, .ref q_this), (1, .int l1)] [] 0
  unfold p_X4_again at h
  refine x_aload_n (pc' := 1) hZ dX4_again_0 rfl 0 rfl ?_
  refine x_iconst (v := 0) (pc' := 2) hZ (by decide) dX4_again_1 rfl ?_
  refine s_RX4_53 (pc' := 5) (ws' := [(q_this, cO 4 [.int 0, .ref q_text, .int v_textSize, .int v_place, .int v_people, .ref q_ageing, .ref q_page, .int v_readPeople, .ref q_readAgeing, .ref q_readPage, .ref q_book, .int v_acts, .ref q_kept, .ref q_isKept, .int v_heard, .ref q_heardWho, .ref q_heardIs, .long v_seed, .ref q_tried, .ref q_chooser, .int v_choosers, .ref q_best, .int v_sets, .int v_surely, .ref q_alives]), (q_page, cA E 25 v_page), (q_kept, cA E 50 v_kept), (q_isKept, cB E 2 v_isKept)]) hZ dX4_again_2 rfl 0 rfl (Nat.le_of_ble_eq_true rfl) rfl ?_
  refine x_iload_n (pc' := 6) hZ dX4_again_5 rfl 1 rfl ?_
  refine x_i2l (pc' := 7) hZ dX4_again_6 rfl ?_
  refine x_lconst (v := 0) (pc' := 8) hZ (by decide) dX4_again_7 rfl ?_
  refine x_lconst (v := 1) (pc' := 9) hZ (by decide) dX4_again_8 rfl ?_
  refine k_RX4_60 (pc' := 12) (as := [.long l1.toInt64, .long 0, .long 1]) (rest := []) (c' := 0) (n' := 0) (wr := [(q_this, cO 4 [.int 0, .ref q_text, .int v_textSize, .int v_place, .int v_people, .ref q_ageing, .ref q_page, .int v_readPeople, .ref q_readAgeing, .ref q_readPage, .ref q_book, .int v_acts, .ref q_kept, .ref q_isKept, .int v_heard, .ref q_heardWho, .ref q_heardIs, .long v_seed, .ref q_tried, .ref q_chooser, .int v_choosers, .ref q_best, .int v_sets, .int v_surely, .ref q_alives]), (q_page, cA E 25 v_page), (q_kept, cA E 50 v_kept), (q_isKept, cB E 2 v_isKept)]) hZ (c_X4_in E l1.toInt64 0 1 _ h) dX4_again_9 rfl rfl rfl rfl rfl (Nat.le_of_ble_eq_true rfl) (Nat.le_of_ble_eq_true rfl) (Nat.le_of_ble_eq_true rfl) rfl rfl (Nat.le_of_ble_eq_true rfl) (Nat.le_of_ble_eq_true rfl) [] [0, 1, 2, 3] rfl rfl (by decide) (by decide) (by decide) (fun r9 w9 hw => ?_)
  obtain ⟨rfl, h⟩ := hw
  refine x_ws (ws' := [(q_this, cO 4 [.int 0, .ref q_text, .int v_textSize, .int v_place, .int v_people, .ref q_ageing, .ref q_page, .int v_readPeople, .ref q_readAgeing, .ref q_readPage, .ref q_book, .int v_acts, .ref q_kept, .ref q_isKept, .int v_heard, .ref q_heardWho, .ref q_heardIs, .long v_seed, .ref q_tried, .ref q_chooser, .int v_choosers, .ref q_best, .int v_sets, .int v_surely, .ref q_alives]), (q_page, cA E 25 v_page), (q_kept, cA E 50 v_kept), (q_isKept, cB E 2 v_isKept)]) [0, 1, 2, 3] rfl (by decide) ?_
  refine x_if_ne (tgt := 17) (pc' := 15) hZ dX4_again_12 (by decide) rfl (fun c12 => ?_) (fun c12 => ?_)
  · replace h := h.1 c12
    refine x_aload_n (pc' := 18) hZ dX4_again_17 rfl 0 rfl ?_
    refine g_RX4_31 (pc' := 21) hZ dX4_again_18 rfl 0 rfl rfl ?_
    refine x_iload_n (pc' := 22) hZ dX4_again_21 rfl 1 rfl ?_
    obtain ⟨h22, h⟩ := h
    refine x_zald (pc' := 23) hZ h22 dX4_again_22 rfl 3 rfl ?_
    refine x_if_ne (tgt := 29) (pc' := 26) hZ dX4_again_23 (by decide) rfl (fun c23 => ?_) (fun c23 => ?_)
    · replace h := h.1 c23
      refine x_iconst (v := 0) (pc' := 30) hZ (by decide) dX4_again_29 rfl ?_
      refine x_istore_n (i := 2) (pc' := 31) (lv' := [(2, .int 0), (0, .ref q_this), (1, .int l1)]) hZ dX4_again_30 rfl rfl (by decide) rfl ?_
      refine x_lv [1, 2, 0] (lv' := [(0, .ref q_this), (1, .int l1), (2, .int 0)]) rfl ?_
      obtain ⟨k31, h⟩ := h
      refine t_X4_again_31 E Z q_this q_text q_ageing q_page q_readAgeing q_readPage q_book q_kept q_isKept q_heardWho q_heardIs q_tried q_chooser q_best q_alives 0 v_textSize v_place v_people v_readPeople v_acts v_heard v_seed v_choosers v_sets v_surely v_kept v_isKept l1 hZ  _ 0 v_page h (fun l2_31 v_page_31 h => ?_)
      refine x_aload_n (pc' := 61) hZ dX4_again_60 rfl 0 rfl ?_
      refine x_iconst (v := 0) (pc' := 62) hZ (by decide) dX4_again_61 rfl ?_
      refine s_RX4_87 (pc' := 65) (ws' := [(q_this, cO 4 [.int 0, .ref q_text, .int v_textSize, .int v_place, .int v_people, .ref q_ageing, .ref q_page, .int v_readPeople, .ref q_readAgeing, .ref q_readPage, .ref q_book, .int 0, .ref q_kept, .ref q_isKept, .int v_heard, .ref q_heardWho, .ref q_heardIs, .long v_seed, .ref q_tried, .ref q_chooser, .int v_choosers, .ref q_best, .int v_sets, .int v_surely, .ref q_alives]), (q_page, cA E 25 v_page_31), (q_kept, cA E 50 v_kept), (q_isKept, cB E 2 v_isKept)]) hZ dX4_again_62 rfl 0 rfl (Nat.le_of_ble_eq_true rfl) rfl ?_
      refine x_aload_n (pc' := 66) hZ dX4_again_65 rfl 0 rfl ?_
      refine g_RX4_16 (pc' := 69) hZ dX4_again_66 rfl 0 rfl rfl ?_
      refine x_bipush (v := 21) (pc' := 71) hZ (by decide) dX4_again_69 rfl ?_
      have h71 : vp_in 21 25 := by unfold vp_in; decide
      refine x_iald (pc' := 72) hZ h71 dX4_again_71 rfl 1 rfl ?_
      refine k_RX4_127 (pc' := 75) (as := [.int (v_page_31 (ix 21))]) (rest := []) (c' := 0) (n' := 0) (wr := [(q_this, cO 4 [.int 0, .ref q_text, .int v_textSize, .int v_place, .int v_people, .ref q_ageing, .ref q_page, .int v_readPeople, .ref q_readAgeing, .ref q_readPage, .ref q_book, .int 0, .ref q_kept, .ref q_isKept, .int v_heard, .ref q_heardWho, .ref q_heardIs, .long v_seed, .ref q_tried, .ref q_chooser, .int v_choosers, .ref q_best, .int v_sets, .int v_surely, .ref q_alives]), (q_page, cA E 25 v_page_31), (q_kept, cA E 50 v_kept), (q_isKept, cB E 2 v_isKept)]) hZ (c_X4_many E (v_page_31 (ix 21)) _ h) dX4_again_72 rfl rfl rfl rfl rfl (Nat.le_of_ble_eq_true rfl) (Nat.le_of_ble_eq_true rfl) (Nat.le_of_ble_eq_true rfl) rfl rfl (Nat.le_of_ble_eq_true rfl) (Nat.le_of_ble_eq_true rfl) [] [0, 1, 2, 3] rfl rfl (by decide) (by decide) (by decide) (fun r72 w72 hw => ?_)
      obtain ⟨rfl, h⟩ := hw
      refine x_ws (ws' := [(q_this, cO 4 [.int 0, .ref q_text, .int v_textSize, .int v_place, .int v_people, .ref q_ageing, .ref q_page, .int v_readPeople, .ref q_readAgeing, .ref q_readPage, .ref q_book, .int 0, .ref q_kept, .ref q_isKept, .int v_heard, .ref q_heardWho, .ref q_heardIs, .long v_seed, .ref q_tried, .ref q_chooser, .int v_choosers, .ref q_best, .int v_sets, .int v_surely, .ref q_alives]), (q_page, cA E 25 v_page_31), (q_kept, cA E 50 v_kept), (q_isKept, cB E 2 v_isKept)]) [0, 1, 2, 3] rfl (by decide) ?_
      exact hRet _ _ _ _ dX4_again_75 ⟨_, _, _, rfl, h⟩
    · replace h := h.2 c23
      refine x_bipush (v := (-3)) (pc' := 28) hZ (by decide) dX4_again_26 rfl ?_
      exact hRet _ _ _ _ dX4_again_28 ⟨_, _, _, rfl, h⟩
  · replace h := h.2 c12
    refine x_iconst (v := (-1)) (pc' := 16) hZ (by decide) dX4_again_15 rfl ?_
    exact hRet _ _ _ _ dX4_again_16 ⟨_, _, _, rfl, h⟩
