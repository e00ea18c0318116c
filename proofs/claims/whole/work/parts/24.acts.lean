/-! rows of what was: packing, noting, undoing, keeping -/
theorem Row.cong {n : Nat} {C : CV} {f g : Nat → Int32} (hn : n ≤ 6) (h : Row n C f) (e : ∀ k, k < 25 → g k = f k) : Row n C g := by
  obtain ⟨h1, h2, h3, h4, h5, h6⟩ := h
  refine ⟨fun k hk => (e k (by omega)).trans (h1 k hk), fun k hk => ?_, (e 21 (by omega)).trans h3, (e 22 (by omega)).trans h4, (e 23 (by omega)).trans h5, (e 24 (by omega)).trans h6⟩
  show g (3 + k) = _
  rw [e (3 + k) (by omega)]
  exact h2 k hk
theorem nI_tri {a b c : Nat} (h : c < 2 ^ 31) : (¬ (nI c) < 0) := nI_pos h
theorem s_X1_packInto {n N t : Nat} {C : CV} {al re mo ye : Int32} {weights marks : Nat → Int32} (hC : Crt n C al re mo ye weights marks) (hn : n ≤ 6) {a1 : Nat → Int32} (hN : N < 2 ^ 20) (ht : 25 * t + 25 ≤ N) {post : (Nat → Int32) → Prop} (h : ∀ a2 : Nat → Int32, (∀ j, (j < 25 * t ∨ 25 * t + 25 ≤ j) → a2 j = a1 j) → Row n C (fun k => a2 (25 * t + k)) → post a2) : p_X1_packInto N al re mo ye weights marks a1 (nI t) post := by
  unfold p_X1_packInto
  intro x4 e4
  have e4 : x4 = nI (25 * t) := by rw [e4, show (25 : Int32) = nI 25 from rfl, pk_mul, Nat.mul_comm]
  subst e4
  rw [show (3 : Int32) = nI 3 from rfl, show (18 : Int32) = nI 18 from rfl, show (0 : Int32) = nI 0 from rfl, nI_add, ix_nI (by omega), ix_nI (by omega), ix_nI (by omega), ix_nI (by omega), ix_nI (by omega)]
  refine ⟨⟨nI_nlt (by omega) (by omega), nI_nlt (by omega) (by omega), nI_nlt (by omega) (by omega), by omega, by omega⟩, ⟨nI_nlt (by omega) (by omega), nI_nlt (by omega) (by omega), nI_nlt (by omega) (by omega), by omega, by omega⟩, fun x36 e36 => ?_⟩
  rw [nI_add] at e36
  subst e36
  rw [show (1 : Int32) = nI 1 from rfl, show (2 : Int32) = nI 2 from rfl, nI_add, nI_add, nI_add, ix_nI (by omega), ix_nI (by omega), ix_nI (by omega), ix_nI (by omega)]
  refine ⟨vp_in_nI (by omega) (by omega), vp_in_nI (by omega) (by omega), vp_in_nI (by omega) (by omega), vp_in_nI (by omega) (by omega), h _ (fun j hj => ?_) ?_⟩
  · simp only [upd, va_cpy]
    rw [if_neg (by omega), if_neg (by omega), if_neg (by omega), if_neg (by omega), if_neg (by omega), if_neg (by omega)]
  · obtain ⟨h1, h2, h3, h4, h5, h6⟩ := hC
    refine ⟨fun k hk => ?_, fun k hk => ?_, ?_, ?_, ?_, ?_⟩
    · simp only [upd, va_cpy]
      rw [if_neg (by omega), if_neg (by omega), if_neg (by omega), if_neg (by omega), if_neg (by omega), if_pos (by omega), show 0 + (25 * t + k - 25 * t) = k by omega]
      exact h5 k hk
    · simp only [upd, va_cpy]
      rw [if_neg (by omega), if_neg (by omega), if_neg (by omega), if_neg (by omega), if_pos (by omega), show 0 + (25 * t + (3 + k) - (25 * t + 3)) = k by omega]
      exact h6 k hk
    · show upd _ _ _ (25 * t + 21) = _
      rw [upd_at, if_neg (by omega), upd_at, if_neg (by omega), upd_at, if_neg (by omega), upd_at, if_pos (by omega), h1]
    · show upd _ _ _ (25 * t + 22) = _
      rw [upd_at, if_neg (by omega), upd_at, if_neg (by omega), upd_at, if_pos (by omega), h2]
    · show upd _ _ _ (25 * t + 23) = _
      rw [upd_at, if_neg (by omega), upd_at, if_pos (by omega), h3]
    · show upd _ _ _ (25 * t + 24) = _
      rw [upd_at, if_pos (by omega), h4]
theorem s_X1_unpackFrom {n N t : Nat} {C : CV} {al re mo ye : Int32} {weights marks : Nat → Int32} (hn : n ≤ 6) {a1 : Nat → Int32} (hN : N < 2 ^ 20) (ht : 25 * t + 25 ≤ N) (hC : Row n C (fun k => a1 (25 * t + k))) {post : Int32 → Int32 → Int32 → Int32 → (Nat → Int32) → (Nat → Int32) → Prop} (h : ∀ (al re mo ye : Int32) (weights marks : Nat → Int32), Crt n C al re mo ye weights marks → post al re mo ye weights marks) : p_X1_unpackFrom N al re mo ye weights marks a1 (nI t) post := by
  unfold p_X1_unpackFrom
  intro x4 e4
  have e4 : x4 = nI (25 * t) := by rw [e4, show (25 : Int32) = nI 25 from rfl, pk_mul, Nat.mul_comm]
  subst e4
  rw [show (3 : Int32) = nI 3 from rfl, show (18 : Int32) = nI 18 from rfl, show (0 : Int32) = nI 0 from rfl, nI_add, ix_nI (by omega), ix_nI (by omega), ix_nI (by omega), ix_nI (by omega), ix_nI (by omega)]
  refine ⟨⟨nI_nlt (by omega) (by omega), nI_nlt (by omega) (by omega), nI_nlt (by omega) (by omega), by omega, by omega⟩, ⟨nI_nlt (by omega) (by omega), nI_nlt (by omega) (by omega), nI_nlt (by omega) (by omega), by omega, by omega⟩, fun x36 e36 => ?_⟩
  rw [nI_add] at e36
  subst e36
  rw [show (1 : Int32) = nI 1 from rfl, show (2 : Int32) = nI 2 from rfl, nI_add, nI_add, nI_add, ix_nI (by omega), ix_nI (by omega), ix_nI (by omega), ix_nI (by omega)]
  obtain ⟨h1, h2, h3, h4, h5, h6⟩ := hC
  refine ⟨vp_in_nI (by omega) (by omega), fun x e1 => ⟨vp_in_nI (by omega) (by omega), fun y e2 => ⟨vp_in_nI (by omega) (by omega), fun z e3 => ⟨vp_in_nI (by omega) (by omega), fun u e4 => h _ _ _ _ _ _ ⟨?_, ?_, ?_, ?_, fun k hk => ?_, fun k hk => ?_⟩⟩⟩⟩⟩
  · rw [e1]; exact h3
  · rw [e2]; exact h4
  · rw [e3]; exact h5
  · rw [e4]; exact h6
  · simp only [va_cpy]
    rw [if_pos (by omega), show 25 * t + (k - 0) = 25 * t + k by omega]
    exact h1 k hk
  · simp only [va_cpy]
    rw [if_pos (by omega), show 25 * t + 3 + (k - 0) = 25 * t + (3 + k) by omega]
    exact h2 k hk
theorem jmin_nI {a b : Nat} (ha : a < 2 ^ 31) (hb : b < 2 ^ 31) : jmin (nI a) (nI b) = nI (min a b) := by
  unfold jmin
  by_cases h : b < a
  · rw [if_pos ((nI_ltI hb ha).mpr h), Nat.min_eq_right (by omega)]
  · rw [if_neg (fun q => h ((nI_ltI hb ha).mp q)), Nat.min_eq_left (by omega)]
theorem jmax_nI {a b : Nat} (ha : a < 2 ^ 31) (hb : b < 2 ^ 31) : jmax (nI a) (nI b) = nI (max a b) := by
  unfold jmax
  by_cases h : a < b
  · rw [if_pos ((nI_ltI ha hb).mpr h), Nat.max_eq_right (by omega)]
  · rw [if_neg (fun q => h ((nI_ltI ha hb).mp q)), Nat.max_eq_left (by omega)]
theorem s_X3_rememberAct {n c t : Nat} {C : CV} {al re mo ye : Int32} {weights marks acts : Nat → Int32} (hC : Crt n C al re mo ye weights marks) (hn : n ≤ 6) (hc : c ≤ 14) (ht : t < 14) {post : Int32 → Int32 → (Nat → Int32) → Prop} (h : ∀ a2 : Nat → Int32, (∀ j, (j < 25 * t ∨ 25 * t + 25 ≤ j) → a2 j = acts j) → Row n C (fun k => a2 (25 * t + k)) → post (nI ((t + 1) % 14)) (nI (min (c + 1) 14)) a2) : p_X3_rememberAct (nI t) (nI c) al re mo ye weights marks acts post := by
  unfold p_X3_rememberAct
  refine s_X1_packInto hC hn (by omega) (by omega) (fun a2 h1 h2 x25 e25 x40 e40 => ?_)
  rw [nI_1, show (14 : Int32) = nI 14 from rfl, q_rem (by omega) (by omega) (by omega)] at e25
  rw [nI_1, show (14 : Int32) = nI 14 from rfl, jmin_nI (by omega) (by omega)] at e40
  rw [e25, e40]
  exact h a2 h1 h2
theorem s_X4_note51 {c : Nat} (hc : c < 14) {page book : Nat → Int32} {K : Int32 → (Nat → Int32) → Prop} (h : ∀ (l : Int32) (b2 : Nat → Int32), (∀ j, j < 25 * c → b2 j = book j) → (∀ k, k < 25 → b2 (25 * c + k) = page k) → K l b2) : wle (fun ρ ν => b_X4_note_51 (nI c) page K ρ ν.1 ν.2) (0, book) := by
  refine wle_cnt 25 (fun i (v : Int32 × (Nat → Int32)) => v.1 = nI i ∧ (∀ j, j < 25 * c → v.2 j = book j) ∧ (∀ k, k < i → v.2 (25 * c + k) = page k)) ?_ _ 0 (Nat.zero_le _) ⟨rfl, fun j hj => rfl, fun k hk => by omega⟩
  rintro rec i ⟨l1, b⟩ hi ⟨e1, h1, h2⟩ hrec
  dsimp only at e1 h1 h2 ⊢
  subst e1
  unfold b_X4_note_51
  rw [show (25 : Int32) = nI 25 from rfl, nI_leI (by omega) (by omega), pk_mul, nI_add, ix_nI (by omega), ix_nI (by omega)]
  refine ⟨fun hni => ?_, fun hni => ⟨vp_in_nI (by omega) (by omega), fun x76 e76 => ⟨vp_in_nI (by omega) (by omega), fun x77 e77 => ?_⟩⟩⟩
  · have e : i = 25 := by omega
    subst e
    exact h _ _ h1 h2
  · rw [nI_1] at e77
    refine hrec (by omega) _ ⟨e77, fun j hj => ?_, fun k hk => ?_⟩
    · show upd b _ _ j = _
      rw [upd_at, if_neg (by omega)]; exact h1 j hj
    · show upd b _ _ (25 * c + k) = _
      rw [upd_at]
      by_cases e : k = i
      · rw [if_pos (by omega), e76, e]
      · rw [if_neg (by omega)]; exact h2 k (by omega)
theorem s_X4_note11 {book : Nat → Int32} {K : Int32 → (Nat → Int32) → Prop} (h : ∀ (l : Int32) (b2 : Nat → Int32), (∀ j, j < 325 → b2 j = book (j + 25)) → K l b2) : wle (fun ρ ν => b_X4_note_11 K ρ ν.1 ν.2) (0, book) := by
  refine wle_cnt 325 (fun i (v : Int32 × (Nat → Int32)) => v.1 = nI i ∧ (∀ j, j < i → v.2 j = book (j + 25)) ∧ (∀ j, i ≤ j → v.2 j = book j)) ?_ _ 0 (Nat.zero_le _) ⟨rfl, fun j hj => by omega, fun k hk => rfl⟩
  rintro rec i ⟨l1, b⟩ hi ⟨e1, h1, h2⟩ hrec
  dsimp only at e1 h1 h2 ⊢
  subst e1
  unfold b_X4_note_11
  rw [show (25 : Int32) = nI 25 from rfl, show (325 : Int32) = nI 325 from rfl, nI_leI (by omega) (by omega), nI_add, ix_nI (by omega), ix_nI (by omega)]
  refine ⟨fun hni => ?_, fun hni => ⟨vp_in_nI (by omega) (by omega), fun x76 e76 => ⟨vp_in_nI (by omega) (by omega), fun x77 e77 => ?_⟩⟩⟩
  · have e : i = 325 := by omega
    subst e
    exact h _ _ h1
  · rw [nI_1] at e77
    refine hrec (by omega) _ ⟨e77, fun j hj => ?_, fun j hj => ?_⟩
    · show upd b _ _ j = _
      rw [upd_at]
      by_cases e : j = i
      · rw [if_pos e, e76, e, h2 _ (by omega)]
      · rw [if_neg e]; exact h1 j (by omega)
    · show upd b _ _ j = _
      rw [upd_at, if_neg (by omega)]
      exact h2 j (by omega)
theorem s_X4_note {c : Nat} (hc : c ≤ 14) {page book : Nat → Int32} {post : Int32 → (Nat → Int32) → Prop} (h : ∀ b2 : Nat → Int32, (∀ j, j < 25 * (min c 13) → b2 j = if c = 14 then book (j + 25) else book j) → (∀ k, k < 25 → b2 (25 * (min c 13) + k) = page k) → post (nI (min (c + 1) 14)) b2) : p_X4_note (nI c) page book post := by
  unfold p_X4_note
  rw [show (14 : Int32) = nI 14 from rfl, nI_eq (by omega) (by omega)]
  refine ⟨fun h14 => ?_, fun h14 => ?_⟩
  · refine s_X4_note51 (by omega) (fun l b2 h1 h2 x90 e90 => ?_)
    have e1 : min c 13 = c := by omega
    rw [e90, nI_1, show c + 1 = min (c + 1) 14 by omega]
    rw [e1] at h
    exact h b2 (fun j hj => by rw [if_neg h14]; exact h1 j hj) h2
  · subst h14
    refine s_X4_note11 (fun l b2 h1 x46 e46 => ?_)
    have e46 : x46 = nI 13 := by rw [e46]; decide
    subst e46
    refine s_X4_note51 (by omega) (fun l b3 h3 h4 x90 e90 => ?_)
    have e90 : x90 = nI 14 := by rw [e90]; decide
    rw [e90]
    exact h b3 (fun j hj => by rw [if_pos rfl, h3 j hj]; exact h1 j (by omega)) h4
theorem ActR.push {n c t : Nat} {C : CV} {acts book a2 b2 : Nat → Int32} {page : Nat → Int32} (hn : n ≤ 6) (hA : ActR n c t acts book) (hR : Rg n C) (hP : Row n C page) (h1 : ∀ j, (j < 25 * t ∨ 25 * t + 25 ≤ j) → a2 j = acts j) (h2 : Row n C (fun k => a2 (25 * t + k))) (h3 : ∀ j, j < 25 * (min c 13) → b2 j = if c = 14 then book (j + 25) else book j) (h4 : ∀ k, k < 25 → b2 (25 * (min c 13) + k) = page k) : ActR n (min (c + 1) 14) ((t + 1) % 14) a2 b2 := by
  obtain ⟨hc, ht, hA⟩ := hA
  refine ⟨by omega, by omega, fun i hi => ?_⟩
  by_cases e : i = min c 13
  · refine ⟨C, hR, ?_, ?_⟩
    · have e1 : ((t + 1) % 14 + 14 - min (c + 1) 14 + i) % 14 = t := by omega
      rw [e1]; exact h2
    · rw [e]; exact hP.cong hn h4
  · by_cases e14 : c = 14
    · obtain ⟨C', r1, r2, r3⟩ := hA (i + 1) (by omega)
      have e1 : ((t + 1) % 14 + 14 - min (c + 1) 14 + i) % 14 = (t + 14 - c + (i + 1)) % 14 := by omega
      have e2 : (t + 14 - c + (i + 1)) % 14 ≠ t := by omega
      refine ⟨C', r1, ?_, ?_⟩
      · rw [e1]
        refine r2.cong hn (fun k hk => h1 _ ?_)
        omega
      · refine r3.cong hn (fun k hk => ?_)
        rw [h3 _ (by omega), if_pos e14]
        congr 1
        omega
    · obtain ⟨C', r1, r2, r3⟩ := hA i (by omega)
      have e1 : ((t + 1) % 14 + 14 - min (c + 1) 14 + i) % 14 = (t + 14 - c + i) % 14 := by omega
      have e2 : (t + 14 - c + i) % 14 ≠ t := by omega
      refine ⟨C', r1, ?_, ?_⟩
      · rw [e1]
        refine r2.cong hn (fun k hk => h1 _ ?_)
        omega
      · refine r3.cong hn (fun k hk => ?_)
        rw [h3 _ (by omega), if_neg e14]
theorem s_X3_undo {n c t : Nat} {al re mo ye : Int32} {weights marks acts book : Nat → Int32} (hn : n ≤ 6) (hA : ActR n c t acts book) {post : Int32 → Int32 → Int32 → Int32 → Int32 → Int32 → Int32 → (Nat → Int32) → (Nat → Int32) → Prop} (h0 : c = 0 → post (-3) (nI t) (nI c) al re mo ye weights marks) (h1 : ∀ (C : CV), 0 < c → Rg n C → Row n C (fun k => book (25 * (c - 1) + k)) → ∀ (al re mo ye : Int32) (weights marks : Nat → Int32), Crt n C al re mo ye weights marks → post (nI (c - 1)) (nI ((t + 13) % 14)) (nI (c - 1)) al re mo ye weights marks) : p_X3_undo (nI t) (nI c) al re mo ye weights marks acts post := by
  unfold p_X3_undo
  obtain ⟨hc, ht, hA⟩ := hA
  rw [show (0 : Int32) = nI 0 from rfl, nI_eq (by omega) (by omega)]
  refine ⟨fun h x23 e23 x33 e33 => ?_, h0⟩
  rw [show (14 : Int32) = nI 14 from rfl, show (1 : Int32) = nI 1 from rfl, nI_add, pk_sub (by omega), q_rem (by omega) (by omega) (by omega)] at e23
  rw [show (1 : Int32) = nI 1 from rfl, pk_sub (by omega)] at e33
  obtain ⟨C, r1, r2, r3⟩ := hA (c - 1) (by omega)
  have e1 : (t + 14 - c + (c - 1)) % 14 = (t + 14 - 1) % 14 := by omega
  rw [e1] at r2
  rw [e23, e33]
  refine s_X1_unpackFrom hn (by omega) (by omega) r2 (fun al re mo ye weights marks hC => ?_)
  rw [show (t + 14 - 1) % 14 = (t + 13) % 14 by omega]
  exact h1 C (by omega) r1 r3 al re mo ye weights marks hC
/-- a loop that copies 25 numbers -/
theorem s_X4_undo {c : Nat} (hc : c ≤ 14) {th : Int32} {page book : Nat → Int32} {post : Int32 → Int32 → Int32 → (Nat → Int32) → Prop} (h0 : c = 0 → post (-3) 0 (nI c) page) (h1 : 0 < c → ∀ page2 : Nat → Int32, (∀ k, k < 25 → page2 k = book (25 * (c - 1) + k)) → post (nI (c - 1)) 0 (nI (c - 1)) page2) : p_X4_undo th (nI c) page book post := by
  unfold p_X4_undo
  rw [show (0 : Int32) = nI 0 from rfl, nI_eq (by omega) (by omega)]
  refine ⟨fun h x22 e22 => ?_, h0⟩
  rw [show (1 : Int32) = nI 1 from rfl, pk_sub (by omega)] at e22
  subst e22
  refine wle_cnt 25 (fun i (v : Int32 × (Nat → Int32)) => v.1 = nI i ∧ (∀ k, k < i → v.2 k = book (25 * (c - 1) + k))) ?_ _ 0 (Nat.zero_le _) ⟨rfl, fun k hk => by omega⟩
  rintro rec i ⟨l1, b⟩ hi ⟨e1, h2⟩ hrec
  dsimp only at e1 h2 ⊢
  subst e1
  unfold b_X4_undo_27
  rw [show (25 : Int32) = nI 25 from rfl, nI_leI (by omega) (by omega), pk_mul, nI_add, ix_nI (by omega), ix_nI (by omega)]
  refine ⟨fun hni => ?_, fun hni => ⟨vp_in_nI (by omega) (by omega), fun x52 e52 => ⟨vp_in_nI (by omega) (by omega), fun x53 e53 => ?_⟩⟩⟩
  · have e : i = 25 := by omega
    subst e
    exact h1 (by omega) _ h2
  · rw [nI_1] at e53
    refine hrec (by omega) _ ⟨e53, fun k hk => ?_⟩
    show upd b _ _ k = _
    rw [upd_at]
    by_cases e : k = i
    · rw [if_pos e, e52, e]
    · rw [if_neg e]; exact h2 k (by omega)
theorem ActR.pop {n c t : Nat} {acts book : Nat → Int32} (hA : ActR n c t acts book) (h : 0 < c) : ActR n (c - 1) ((t + 13) % 14) acts book := by
  obtain ⟨hc, ht, hA⟩ := hA
  refine ⟨by omega, by omega, fun i hi => ?_⟩
  have := hA i (by omega)
  rwa [show ((t + 13) % 14 + 14 - (c - 1) + i) % 14 = (t + 14 - c + i) % 14 by omega]
theorem ActR.none {n t : Nat} (ht : t < 14) (acts book : Nat → Int32) : ActR n 0 t acts book := ⟨by omega, ht, fun i hi => by omega⟩
