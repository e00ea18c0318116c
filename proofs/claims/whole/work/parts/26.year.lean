/-! a year; one made plain; a hunt; slots -/
def yearM (a : Nat) (ag m : Nat → Nat) : Nat → Nat := fun k => if a.testBit (k / 3) then m k - ag (k / 3) else m k
def midM (a : Nat) (ag m : Nat → Nat) (b : Nat) : Nat → Nat := fun k => if k < b then yearM a ag m k else m k
def yearC (C : CV) (ag : Nat → Nat) : CV := (cw C, yearM (ca C) ag (cm C), ca C, cr C, cmo C, cye C + 1)
theorem Rg.year {n : Nat} {C : CV} {ag : Nat → Nat} (h : Rg n C) : Rg n (yearC C ag) := by
  obtain ⟨h1, h2, h3, h4, h5, h6⟩ := h
  refine ⟨h1, h2, fun k hk => ?_, h4, h5, h6⟩
  show (if _ then _ else _) ≤ 9
  have := h3 k hk
  split
  · exact Nat.le_trans (Nat.sub_le _ _) this
  · exact this
theorem jmax0 {a b : Nat} (ha : a < 2 ^ 30) (hb : b < 2 ^ 30) : jmax 0 (nI a - nI b) = nI (a - b) := by
  unfold jmax
  have e := pk_sub_toInt ha hb
  by_cases h : b < a
  · rw [if_pos, pk_sub (by omega)]
    rw [fa_lt, e, show (0 : Int32).toInt = 0 from rfl]; omega
  · rw [if_neg, show a - b = 0 by omega]; rfl
    rw [fa_lt, e, show (0 : Int32).toInt = 0 from rfl]; omega
theorem nonneg_sub {a b : Nat} (ha : a < 2 ^ 30) (hb : b < 2 ^ 30) : (0 ≤ nI a - nI b) ↔ b ≤ a := by
  rw [fa_le, pk_sub_toInt ha hb, show (0 : Int32).toInt = 0 from rfl]; omega
theorem mid_succ (a : Nat) (ag m : Nat → Nat) (b k : Nat) : midM a ag m (b + 1) k = if k = b then yearM a ag m b else midM a ag m b k := by
  unfold midM
  by_cases e : k = b
  · rw [if_pos e, if_pos (by omega), e]
  · rw [if_neg e]
    by_cases h : k < b
    · rw [if_pos h, if_pos (by omega)]
    · rw [if_neg h, if_neg (by omega)]
theorem mid_skip {a : Nat} {ag m : Nat → Nat} {i : Nat} (h : a.testBit i = false) (k : Nat) : midM a ag m (3 * (i + 1)) k = midM a ag m (3 * i) k := by
  unfold midM
  by_cases h1 : k < 3 * i
  · rw [if_pos (by omega), if_pos h1]
  · rw [if_neg h1]
    by_cases h2 : k < 3 * (i + 1)
    · rw [if_pos h2]
      unfold yearM
      rw [show k / 3 = i by omega, h]; rfl
    · rw [if_neg h2]
theorem mid_all {a : Nat} {ag m : Nat → Nat} {b k : Nat} (h : k < b) : midM a ag m b k = yearM a ag m k := by
  unfold midM
  rw [if_pos h]
theorem s_X1_passYear {n : Nat} {C : CV} {ag : Nat → Nat} {al re mo ye : Int32} {weights marks ageing : Nat → Int32} (hn : n ≤ 6) (hR : Rg n C) (hC : Crt n C al re mo ye weights marks) (hA : Av ageing ag n) (hag : ∀ p, p < n → ag p ≤ 2) {post : Int32 → (Nat → Int32) → Prop} (h : ∀ (ye2 : Int32) (m2 : Nat → Int32), Crt n (yearC C ag) al re mo ye2 weights m2 → ye2 = cye C + 1 → post ye2 m2) : p_X1_passYear (nI n) al ye marks ageing post := by
  unfold p_X1_passYear
  intro x7 e7
  obtain ⟨rfl, rfl, rfl, rfl, hw, hm⟩ := id hC
  have ha := hR.a31 hn
  refine wle_cnt n (fun i (v : Int32 × (Nat → Int32)) => v.1 = nI i ∧ Av v.2 (midM (ca C) ag (cm C) (3 * i)) (3 * n)) ?_ _ 0 (Nat.zero_le _) ⟨rfl, hm⟩
  rintro rec i ⟨l1, mk⟩ hi ⟨e1, hv⟩ hrec
  dsimp only at e1 hv ⊢
  subst e1
  unfold b_X1_passYear_12
  rw [nI_leI (by omega) (by omega)]
  refine ⟨fun hni => ?_, fun hni => ?_⟩
  · have e : i = n := by omega
    subst e
    refine h _ _ ⟨rfl, rfl, rfl, e7, hw, fun k hk => ?_⟩ e7
    rw [hv k hk, mid_all hk]; rfl
  · refine s_X1_isAlive ha (by omega) (fun hb => ⟨fun h => absurd h (by decide), fun _ => ?_⟩) (fun hb => ⟨fun _ x ex => ?_, fun h => absurd rfl h⟩)
    · refine wle_cnt 3 (fun j (v : Int32 × (Nat → Int32)) => v.1 = nI j ∧ Av v.2 (midM (ca C) ag (cm C) (3 * i + j)) (3 * n)) ?_ _ 0 (Nat.zero_le _) ⟨rfl, hv⟩
      rintro rec2 j ⟨l2, mk2⟩ hj ⟨e2, hv2⟩ hrec2
      dsimp only at e2 hv2 ⊢
      subst e2
      unfold b_X1_passYear_30
      rw [show (3 : Int32) = nI 3 from rfl, nI_leI (by omega) (by omega)]
      refine ⟨fun hnj x ex => ?_, fun hnj x40 e40 => ?_⟩
      · have e : j = 3 := by omega
        subst e
        rw [nI_1] at ex
        exact hrec (by omega) _ ⟨ex, hv2⟩
      · rw [pk_mul, nI_add, Nat.mul_comm i 3] at e40
        subst e40
        rw [ix_nI (by omega), ix_nI (by omega)]
        refine ⟨vp_in_nI (by omega) (by omega), vp_in_nI (by omega) (by omega), fun x63 e63 => ⟨vp_in_nI (by omega) (by omega), fun x64 e64 => ?_⟩⟩
        rw [nI_1] at e64
        have hk := hv2 (3 * i + j) (by omega)
        have h9 := hR.2.2.1 (3 * i + j) (by omega)
        have ha2 := hag i (by omega)
        have em : midM (ca C) ag (cm C) (3 * i + j) (3 * i + j) = cm C (3 * i + j) := by unfold midM; rw [if_neg (by omega)]
        rw [hk, em, hA i (by omega), jmax0 (by omega) (by omega)] at e63
        refine hrec2 (by omega) _ ⟨e64, fun k hk2 => ?_⟩
        show upd mk2 _ _ k = _
        rw [upd_at, show 3 * i + (j + 1) = 3 * i + j + 1 by omega, mid_succ]
        by_cases e : k = 3 * i + j
        · rw [if_pos e, if_pos e, e63]
          unfold yearM
          rw [show (3 * i + j) / 3 = i by omega, if_pos hb]
        · rw [if_neg e, if_neg e]; exact hv2 k hk2
    · rw [nI_1] at ex
      exact hrec (by omega) _ ⟨ex, fun k hk => (hv k hk).trans (by rw [mid_skip hb])⟩
theorem s_X4_goYear {n : Nat} {C : CV} {ag : Nat → Nat} {page ageing : Nat → Int32} (hn : n ≤ 6) (hR : Rg n C) (hC : Row n C page) (hA : Av ageing ag n) (hag : ∀ p, p < n → ag p ≤ 2) {post : (Nat → Int32) → Prop} (h : ∀ p2 : Nat → Int32, Row n (yearC C ag) p2 → post p2) : p_X4_goYear (nI n) ageing page post := by
  unfold p_X4_goYear
  intro x7 e7
  rw [show ix 24 = 24 from rfl] at *
  obtain ⟨hw, hm, h21, h22, h23, h24⟩ := id hC
  rw [h24] at e7
  have ha := hR.a31 hn
  have hC1 : Row n (cw C, midM (ca C) ag (cm C) (3 * 0), ca C, cr C, cmo C, cye C + 1) (upd page 24 x7) := by
    refine ⟨fun k hk => ?_, fun k hk => ?_, ?_, ?_, ?_, ?_⟩
    · rw [upd_at, if_neg (by omega)]; exact hw k hk
    · show upd page 24 x7 (3 + k) = _
      rw [upd_at, if_neg (by omega)]; exact hm k hk
    · rw [upd_at, if_neg (by omega)]; exact h21
    · rw [upd_at, if_neg (by omega)]; exact h22
    · rw [upd_at, if_neg (by omega)]; exact h23
    · rw [upd_at, if_pos rfl]; exact e7
  refine wle_cnt n (fun i (v : Int32 × (Nat → Int32)) => v.1 = nI i ∧ Row n (cw C, midM (ca C) ag (cm C) (3 * i), ca C, cr C, cmo C, cye C + 1) v.2) ?_ _ 0 (Nat.zero_le _) ⟨rfl, hC1⟩
  rintro rec i ⟨l2, pg⟩ hi ⟨e2, hv⟩ hrec
  dsimp only at e2 hv ⊢
  subst e2
  unfold b_X4_goYear_10
  rw [nI_leI (by omega) (by omega)]
  refine ⟨fun hni => ?_, fun hni => ?_⟩
  · have e : i = n := by omega
    subst e
    refine h _ ⟨hv.1, fun k hk => ?_, hv.2.2⟩
    rw [hv.2.1 k hk]
    show nI (midM _ _ _ _ k) = _
    rw [mid_all hk]; rfl
  · refine wle_cnt 3 (fun j (v : Int32 × (Nat → Int32)) => v.1 = nI j ∧ Row n (cw C, midM (ca C) ag (cm C) (3 * i + j), ca C, cr C, cmo C, cye C + 1) v.2) ?_ _ 0 (Nat.zero_le _) ⟨rfl, hv⟩
    rintro rec2 j ⟨l3, pg2⟩ hj ⟨e3, hv2⟩ hrec2
    dsimp only at e3 hv2 ⊢
    subst e3
    unfold b_X4_goYear_20
    rw [show (3 : Int32) = nI 3 from rfl, nI_leI (by omega) (by omega), show ix 21 = 21 from rfl, hv2.2.2.1]
    refine ⟨fun hnj x ex => ?_, fun hnj => ?_⟩
    · have e : j = 3 := by omega
      subst e
      rw [nI_1] at ex
      exact hrec (by omega) _ ⟨ex, hv2⟩
    · refine s_X4_has ha (by omega) (fun hb => ⟨fun h => absurd h (by decide), fun _ => ?_⟩) (fun hb => ⟨fun _ x ex => ?_, fun h => absurd rfl h⟩)
      · rw [pk_mul, nI_add, nI_add, ix_nI (by omega), ix_nI (by omega)]
        have hk : pg2 (3 + 3 * i + j) = nI (cm C (3 * i + j)) := by
          have := hv2.2.1 (3 * i + j) (by omega)
          rw [show 3 + 3 * i + j = 3 + (3 * i + j) by omega]
          refine this.trans ?_
          show nI (midM _ _ _ _ _) = _
          unfold midM
          rw [if_neg (by omega)]
        have h9 := hR.2.2.1 (3 * i + j) (by omega)
        have ha2 := hag i (by omega)
        have fin : ∀ z : Nat, z = cm C (3 * i + j) - ag i → ∀ x : Int32, x = nI (j + 1) → rec2 (x, upd pg2 (3 + 3 * i + j) (nI z)) := by
          intro z ez x ex
          refine hrec2 (by omega) _ ⟨ex, fun k hk => ?_, fun k hk => ?_, ?_, ?_, ?_, ?_⟩
          · show upd pg2 _ _ k = _
            rw [upd_at, if_neg (by omega)]; exact hv2.1 k hk
          · show upd pg2 _ _ (3 + k) = nI (midM _ _ _ _ _)
            rw [upd_at, show 3 * i + (j + 1) = 3 * i + j + 1 by omega, mid_succ]
            by_cases e : k = 3 * i + j
            · rw [if_pos (by omega), if_pos e, ez]
              unfold yearM
              rw [show (3 * i + j) / 3 = i by omega, if_pos hb]
            · rw [if_neg (by omega), if_neg e]; exact hv2.2.1 k hk
          · show upd pg2 _ _ 21 = _
            rw [upd_at, if_neg (by omega)]; exact hv2.2.2.1
          · show upd pg2 _ _ 22 = _
            rw [upd_at, if_neg (by omega)]; exact hv2.2.2.2.1
          · show upd pg2 _ _ 23 = _
            rw [upd_at, if_neg (by omega)]; exact hv2.2.2.2.2.1
          · show upd pg2 _ _ 24 = _
            rw [upd_at, if_neg (by omega)]; exact hv2.2.2.2.2.2
        refine ⟨vp_in_nI (by omega) (by omega), vp_in_nI (by omega) (by omega), fun x52 e52 => ?_⟩
        rw [hk, hA i (by omega)] at e52
        refine ⟨fun hge => ⟨vp_in_nI (by omega) (by omega), fun x ex => ?_⟩, fun hlt => ⟨vp_in_nI (by omega) (by omega), fun x ex => ?_⟩⟩
        · rw [e52, nonneg_sub (by omega) (by omega)] at hge
          rw [nI_1] at ex
          rw [e52, pk_sub hge]
          exact fin _ rfl x ex
        · rw [e52, nonneg_sub (by omega) (by omega)] at hlt
          rw [nI_1] at ex
          exact fin 0 (by omega) x ex
      · rw [nI_1] at ex
        have hj0 : ∀ k, midM (ca C) ag (cm C) (3 * (i + 1)) k = midM (ca C) ag (cm C) (3 * i + j) k := fun k => by
          rw [mid_skip hb]
          unfold midM
          by_cases h1 : k < 3 * i
          · rw [if_pos h1, if_pos (by omega)]
          · rw [if_neg h1]
            by_cases h2 : k < 3 * i + j
            · rw [if_pos h2]
              unfold yearM
              rw [show k / 3 = i by omega, hb]; rfl
            · rw [if_neg h2]
        refine hrec (by omega) _ ⟨ex, hv2.1, fun k hk => ?_, hv2.2.2⟩
        refine (hv2.2.1 k hk).trans ?_
        show nI (midM _ _ _ _ _) = nI (midM _ _ _ _ _)
        rw [hj0]
def plainC (C : CV) (k : Nat) : CV := (cw C, (fun j => if j = k then cm C k - 1 else cm C j), ca C, cr C, cmo C, cye C)
theorem Rg.plain {n : Nat} {C : CV} {k : Nat} (h : Rg n C) : Rg n (plainC C k) := by
  obtain ⟨h1, h2, h3, h4, h5, h6⟩ := h
  refine ⟨h1, h2, fun j hj => ?_, h4, h5, h6⟩
  show (if _ then _ else _) ≤ 9
  have := h3 j hj
  split
  · rename_i e; rw [e] at this; exact Nat.le_trans (Nat.sub_le _ _) this
  · exact this
def huntC (C : CV) (p : Nat) (lies : Bool) : CV := (cw C, cm C, (if lies then ca C else ca C ^^^ (ca C &&& 2 ^ p)), cr C ||| 2 ^ p, cmo C, cye C)
theorem clr_tb (a p i : Nat) : (a ^^^ (a &&& 2 ^ p)).testBit i = (a.testBit i && decide (i ≠ p)) := by
  rw [Nat.testBit_xor, Nat.testBit_and, Nat.testBit_two_pow]
  by_cases h : i = p
  · subst h; cases a.testBit i <;> simp
  · have : ¬ p = i := fun q => h q.symm
    simp [h, this]
theorem Rg.hunt {n p : Nat} {C : CV} {lies : Bool} (h : Rg n C) (hp : p < n) (hp0 : p ≠ 0) : Rg n (huntC C p lies) := by
  obtain ⟨h1, h2, h3, h4, h5, h6⟩ := h
  refine ⟨h1, h2, h3, ?_, ?_, fun hn => ?_⟩
  · show (if _ then _ else _) < _
    split
    · exact h4
    · exact Nat.xor_lt_two_pow h4 (Nat.lt_of_le_of_lt Nat.and_le_left h4)
  · exact Nat.or_lt_two_pow h5 (Nat.pow_lt_pow_right (by decide) hp)
  · show (if _ then _ else _ : Nat).testBit 0 = true
    split
    · exact h6 hn
    · rw [clr_tb, h6 hn]
      have : (0 : Nat) ≠ p := fun q => hp0 q.symm
      simp [this]
