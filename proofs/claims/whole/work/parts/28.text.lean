/-! the text: what fits, the first fault, what is read -/
def okAt (T : Nat → Nat) (j : Nat) : Prop := (j = 0 → T j = 81) ∧ (j ≠ 0 ∧ j < 4 → 48 ≤ T j ∧ T j ≤ 57) ∧ (j = 3 → ¬ (T 1 = 48 ∧ T 2 = 48 ∧ T 3 = 48)) ∧ (4 ≤ j ∧ (j - 4) % 5 = 0 → T j = 80) ∧ (4 ≤ j ∧ (j - 4) % 5 ≠ 0 → 48 ≤ T j ∧ T j ≤ 57) ∧ (4 ≤ j ∧ (j - 4) % 5 = 4 → T j ≤ 50) ∧ j < 34
def full (tl : Nat) : Prop := 4 ≤ tl ∧ (tl - 4) % 5 = 0
def IsGood (T : Nat → Nat) (tl : Nat) : Prop := (∀ j, j < tl → okAt T j) ∧ full tl
def IsFault (T : Nat → Nat) (tl f : Nat) : Prop := f ≤ tl ∧ (∀ j, j < f → okAt T j) ∧ (f < tl → ¬ okAt T f) ∧ (f = tl → ¬ full tl)
theorem IsFault.one {T : Nat → Nat} {tl f g : Nat} (h : IsFault T tl f) (h2 : IsFault T tl g) : f = g := by
  obtain ⟨a1, a2, a3, a4⟩ := h
  obtain ⟨b1, b2, b3, b4⟩ := h2
  rcases Nat.lt_trichotomy f g with q | q | q
  · exact absurd (b2 f q) (a3 (by omega))
  · exact q
  · exact absurd (a2 g q) (b3 (by omega))
theorem IsGood.no {T : Nat → Nat} {tl f : Nat} (h : IsGood T tl) (h2 : IsFault T tl f) : False := by
  obtain ⟨a1, a2, a3, a4⟩ := h2
  rcases Nat.lt_or_ge f tl with q | q
  · exact a3 q (h.1 f q)
  · exact a4 (by omega) h.2
theorem sub48 {a : Nat} (h : a < 2 ^ 30) : nI a - 48 = 0 ↔ a = 48 := by
  have e := pk_sub_toInt (a := a) (b := 48) h (by omega)
  rw [fa_eq]
  show (nI a - nI 48).toInt = (0 : Int32).toInt ↔ _
  rw [e, show (0 : Int32).toInt = 0 from rfl]
  omega
theorem s_X2_weight {T : Nat → Nat} {bytes : Nat → Int32} {tl k : Nat} (hb : Av bytes T tl) (hk : k < 3) (hl : 4 ≤ tl) {post : Int32 → Prop} (h : post (nI (T (1 + k)) - 48)) : p_X2_weight bytes (nI k) post := by
  unfold p_X2_weight
  rw [show (1 : Int32) = nI 1 from rfl, nI_add, ix_nI (by omega)]
  refine ⟨vp_in_nI (by omega) (by omega), ?_⟩
  rw [hb (1 + k) (by omega)]
  exact h
theorem s_X2_areWeightsNothing {T : Nat → Nat} {bytes : Nat → Int32} {tl : Nat} (hb : Av bytes T tl) (hT : ∀ j, j < tl → T j ≤ 255) (hl : 4 ≤ tl) {post : Int32 → Prop} (h1 : (T 1 = 48 ∧ T 2 = 48 ∧ T 3 = 48) → post 1) (h0 : ¬ (T 1 = 48 ∧ T 2 = 48 ∧ T 3 = 48) → post 0) : p_X2_areWeightsNothing bytes post := by
  unfold p_X2_areWeightsNothing
  refine wle_cnt 3 (fun i (v : Int32) => v = nI i ∧ ∀ k, k < i → T (1 + k) = 48) ?_ _ 0 (Nat.zero_le _) ⟨rfl, fun k hk => by omega⟩
  rintro rec i l1 hi ⟨e1, hv⟩ hrec
  subst e1
  unfold b_X2_areWeightsNothing_2
  rw [show (3 : Int32) = nI 3 from rfl, nI_leI (by omega) (by omega)]
  refine ⟨fun hni => h1 ⟨hv 0 (by omega), hv 1 (by omega), hv 2 (by omega)⟩, fun hni => ?_⟩
  have := hT (1 + i) (by omega)
  refine s_X2_weight hb (by omega) hl ?_
  rw [sub48 (by omega)]
  refine ⟨fun h48 x ex => ?_, fun h48 => h0 fun q => ?_⟩
  · rw [nI_1] at ex
    refine hrec (by omega) _ ⟨ex, fun k hk => ?_⟩
    rcases lt_succ_cases hk with e | rfl
    · exact hv k e
    · exact h48
  · rcases (by omega : i = 0 ∨ i = 1 ∨ i = 2) with rfl | rfl | rfl
    · exact h48 q.1
    · exact h48 q.2.1
    · exact h48 q.2.2
theorem s_X2_fitsAt {T : Nat → Nat} {bytes : Nat → Int32} {tl j : Nat} (hb : Av bytes T tl) (hT : ∀ j, j < tl → T j ≤ 255) (ht : tl ≤ 40) (hj : j < tl) {post : Int32 → Prop} (h1 : okAt T j → post 1) (h0 : ¬ okAt T j → post 0) : p_X2_fitsAt bytes (nI j) post := by
  unfold p_X2_fitsAt
  have hTj := hT j hj
  have c34 : nI j < 34 ↔ j < 34 := nI_ltI (b := 34) (by omega) (by omega)
  have cb : bytes (ix (nI j)) = nI (T j) := by rw [ix_nI (by omega)]; exact hb j hj
  have c0 : nI j = 0 ↔ j = 0 := nI_eq (b := 0) (by omega) (by omega)
  have c3 : nI j = 3 ↔ j = 3 := nI_eq (b := 3) (by omega) (by omega)
  have c4 : 4 ≤ nI j ↔ 4 ≤ j := nI_leI (a := 4) (by omega) (by omega)
  have c48 : nI (T j) < 48 ↔ T j < 48 := nI_ltI (b := 48) (by omega) (by omega)
  have c57 : 57 < nI (T j) ↔ 57 < T j := nI_ltI (a := 57) (by omega) (by omega)
  have c80 : nI (T j) = 80 ↔ T j = 80 := nI_eq (b := 80) (by omega) (by omega)
  have c81 : nI (T j) = 81 ↔ T j = 81 := nI_eq (b := 81) (by omega) (by omega)
  have cv : vp_in (nI j) 40 := vp_in_nI (by omega) (by omega)
  have cW : T j < 48 ∨ (2 < nI (T j) - 48 ↔ 50 < T j) := by
    rcases Nat.lt_or_ge (T j) 48 with q | q
    · exact Or.inl q
    · refine Or.inr ?_
      rw [show nI (T j) - 48 = nI (T j - 48) from pk_sub (b := 48) q, show (2 : Int32) = nI 2 from rfl, nI_ltI (by omega) (by omega)]
      omega
  have cR : j < 4 ∨ ((jrem (nI j - 4) 5 = 0 ↔ (j - 4) % 5 = 0) ∧ (jrem (nI j - 4) 5 = 4 ↔ (j - 4) % 5 = 4)) := by
    rcases Nat.lt_or_ge j 4 with q | q
    · exact Or.inl q
    · refine Or.inr ?_
      have e : jrem (nI j - 4) 5 = nI ((j - 4) % 5) := by
        rw [show nI j - 4 = nI (j - 4) from pk_sub (b := 4) q]
        exact q_rem (d := 5) (by omega) (by omega) (by omega)
      rw [e]
      exact ⟨nI_eq (b := 0) (by omega) (by omega), nI_eq (b := 4) (by omega) (by omega)⟩
  simp only [forall_eq, cb, c34, c0, c3, c4, c48, c57, c80, c81]
  refine ⟨fun g34 => ⟨cv, ?_⟩, fun g34 => h0 (fun q => g34 q.2.2.2.2.2.2)⟩
  refine ⟨fun g0 => ?_, fun g0 => ⟨fun g => h0 (fun q => g (q.1 g0)), fun g => h1 ⟨fun _ => g, by omega, by omega, by omega, by omega, by omega, g34⟩⟩⟩
  rcases Nat.lt_or_ge j 4 with q4 | q4
  · refine ⟨fun g48 => ⟨fun _ => by omega, fun _ => h0 (fun q => ?_)⟩, fun g48 => ⟨fun g57 => ⟨fun _ => by omega, fun _ => h0 (fun q => ?_)⟩, fun g57 => ⟨fun _ => by omega, fun _ => ⟨fun g3 => h1 ⟨by omega, fun _ => ⟨by omega, by omega⟩, by omega, by omega, by omega, by omega, g34⟩, fun g3 => ?_⟩⟩⟩⟩
    · have := q.2.1 ⟨g0, q4⟩; omega
    · have := q.2.1 ⟨g0, q4⟩; omega
    · refine s_X2_areWeightsNothing hb hT (by omega) (fun g => ⟨fun _ => h0 (fun q => q.2.2.1 g3 g), fun h => absurd h (by decide)⟩) (fun g => ⟨fun h => absurd rfl h, fun _ => h1 ⟨by omega, fun _ => ⟨by omega, by omega⟩, fun _ => g, by omega, by omega, by omega, g34⟩⟩)
  · rcases cR with cR | ⟨r0, r4⟩
    · omega
    simp only [r0, r4]
    have bad : (T j < 48 ∨ 57 < T j) → (((¬ (j - 4) % 5 = 0 → ((¬ (j - 4) % 5 = 4 → post 0) ∧ ((j - 4) % 5 = 4 → post 0))) ∧ ((j - 4) % 5 = 0 → ((¬ T j = 80 → post 0) ∧ (T j = 80 → post 1))))) := fun hz => by
      refine ⟨fun g => ?_, fun g => ⟨fun g8 => h0 (fun q => g8 (q.2.2.2.1 ⟨q4, g⟩)), fun g8 => h1 ⟨by omega, by omega, by omega, fun _ => g8, by omega, by omega, g34⟩⟩⟩
      have : post 0 := h0 (fun q => by have := q.2.2.2.2.1 ⟨q4, g⟩; omega)
      exact ⟨fun _ => this, fun _ => this⟩
    refine ⟨fun g48 => ⟨fun _ => bad (Or.inl g48), fun g => absurd q4 g⟩, fun g48 => ⟨fun g57 => ⟨fun _ => bad (Or.inr g57), fun g => absurd q4 g⟩, fun g57 => ⟨fun _ => ?_, fun g => absurd q4 g⟩⟩⟩
    rcases cW with cW | cW
    · omega
    rw [cW]
    refine ⟨fun g => ⟨fun g4 => h1 ⟨by omega, by omega, by omega, by omega, fun _ => ⟨by omega, by omega⟩, by omega, g34⟩, fun g4 => ⟨fun g2 => h0 (fun q => by have := q.2.2.2.2.2.1 ⟨q4, g4⟩; omega), fun g2 => h1 ⟨by omega, by omega, by omega, by omega, fun _ => ⟨by omega, by omega⟩, fun _ => by omega, g34⟩⟩⟩, fun g => ⟨fun g8 => h0 (fun q => g8 (q.2.2.2.1 ⟨q4, g⟩)), fun g8 => h1 ⟨by omega, by omega, by omega, fun _ => g8, by omega, by omega, g34⟩⟩⟩
theorem s_X2_firstFault {T : Nat → Nat} {bytes : Nat → Int32} {tl : Nat} (hb : Av bytes T tl) (hT : ∀ j, j < tl → T j ≤ 255) (ht : tl ≤ 40) {post : Int32 → Prop} (hg : IsGood T tl → post (-9)) (hf : ∀ f, IsFault T tl f → post (nI f)) : p_X2_firstFault (nI tl) bytes post := by
  unfold p_X2_firstFault
  refine wle_cnt tl (fun i (v : Int32) => v = nI i ∧ ∀ k, k < i → okAt T k) ?_ _ 0 (Nat.zero_le _) ⟨rfl, fun k hk => by omega⟩
  rintro rec i l1 hi ⟨e1, hv⟩ hrec
  subst e1
  unfold b_X2_firstFault_2
  rw [nI_leI (by omega) (by omega)]
  refine ⟨fun hni => ?_, fun hni => ?_⟩
  · have e : i = tl := by omega
    subst e
    have c4 : nI i < 4 ↔ i < 4 := nI_ltI (b := 4) (by omega) (by omega)
    rw [c4]
    refine ⟨fun g => hf i ⟨Nat.le_refl _, hv, fun h => by omega, fun _ q => by have := q.1; omega⟩, fun g => ?_⟩
    have e : jrem (nI i - 4) 5 = nI ((i - 4) % 5) := by
      rw [show nI i - 4 = nI (i - 4) from pk_sub (b := 4) (by omega)]
      exact q_rem (d := 5) (by omega) (by omega) (by omega)
    have c0 : nI ((i - 4) % 5) = 0 ↔ (i - 4) % 5 = 0 := nI_eq (b := 0) (by omega) (by omega)
    rw [e, c0]
    exact ⟨fun g => hf i ⟨Nat.le_refl _, hv, fun h => by omega, fun _ q => g q.2⟩, fun g => hg ⟨hv, by unfold full; omega⟩⟩
  · refine s_X2_fitsAt hb hT ht (by omega) (fun g => ⟨fun _ x ex => ?_, fun h => absurd h (by decide)⟩) (fun g => ⟨fun h => absurd rfl h, fun _ => hf i ⟨hi, hv, fun _ => g, fun e => by omega⟩⟩)
    rw [nI_1] at ex
    refine hrec (by omega) _ ⟨ex, fun k hk => ?_⟩
    rcases lt_succ_cases hk with e | rfl
    · exact hv k e
    · exact g
theorem s_X4_figure {T : Nat → Nat} {text : Nat → Int32} {tl pl lo hi : Nat} (hb : Av text T tl) (hT : ∀ j, j < tl → T j ≤ 255) (ht : tl ≤ 40) (hp : pl ≤ tl) (hl : lo < 9) (hh : hi ≤ 9) {post : Int32 → Int32 → Prop} (h1 : pl < tl → 48 + lo ≤ T pl → T pl ≤ 48 + hi → post (nI (T pl - 48)) (nI (pl + 1))) (h0 : (pl < tl → ¬ (48 + lo ≤ T pl ∧ T pl ≤ 48 + hi)) → post (-9) (nI pl)) : p_X4_figure (nI tl) (nI pl) text (nI lo) (nI hi) post := by
  unfold p_X4_figure
  rw [nI_eq (by omega) (by omega)]
  refine ⟨fun e => h0 (fun h => by omega), fun e => ⟨vp_in_nI (by omega) (by omega), ?_⟩⟩
  have hTp := hT pl (by omega)
  rw [ix_nI (by omega), hb pl (by omega)]
  have eS : (nI (T pl) - 48).toInt = (T pl : Int) - 48 := pk_sub_toInt (b := 48) (by omega) (by omega)
  refine s_X4_in (fun g1 g2 => ⟨fun _ x44 e44 => ?_, fun h => absurd h (by decide)⟩) (fun g => ⟨fun h => absurd rfl h, fun _ => h0 (fun _ q => g ?_)⟩)
  · rw [Int32.toInt_toInt64, Int32.toInt_toInt64, eS, nI_toInt (by omega)] at g1 g2
    rw [nI_1] at e44
    subst e44
    rw [show nI (pl + 1) - 1 = nI pl from (pk_sub (a := pl + 1) (b := 1) (by omega)).trans (by rw [Nat.add_sub_cancel]), ix_nI (by omega), hb pl (by omega), show nI (T pl) - 48 = nI (T pl - 48) from pk_sub (b := 48) (by omega)]
    exact ⟨vp_in_nI (by omega) (by omega), h1 (by omega) (by omega) (by omega)⟩
  · rw [Int32.toInt_toInt64, Int32.toInt_toInt64, Int32.toInt_toInt64, eS, nI_toInt (by omega), nI_toInt (by omega)]
    omega
