/-! what the choosers choose: the reference -/
theorem s_X4_plainIn {n r j : Nat} {C : CV} (hc : cN n C ≤ 5) (hr : r < 2 ^ 31) (hj : j < cN n C) {post : Int32 → Prop} (h : post (nI (chR n C r j))) : p_X4_plainIn (nI (cN n C)) (nI r) (nI j) post := by
  unfold p_X4_plainIn
  rw [show nI (cN n C) - 1 = nI (cN n C - 1) from pk_sub (b := 1) (by omega)]
  intro x8 e8
  subst e8
  refine wle_cnt (cN n C - 1 - j) (fun t (v : Int32 × Int32) => v.1 = nI (r / 3 ^ t) ∧ v.2 = nI (cN n C - 1 - t)) ?_ _ 0 (Nat.zero_le _) ⟨by rw [Nat.pow_zero, Nat.div_one], rfl⟩
  rintro rec t ⟨l3, l4⟩ ht ⟨e3, e4⟩ hrec
  dsimp only at e3 e4 ⊢
  subst e3 e4
  unfold b_X4_plainIn_10
  have hd := Nat.div_le_self r (3 ^ t)
  rw [nI_leI (by omega) (by omega)]
  refine ⟨fun hnt => ?_, fun hnt x19 e19 x20 e20 => ?_⟩
  · have e : t = cN n C - 1 - j := by omega
    subst e
    dsimp only
    rw [show jrem (nI (r / 3 ^ (cN n C - 1 - j))) 3 = nI (chR n C r j) from q_rem (d := 3) (by omega) (by omega) (by omega)]
    exact h
  · rw [show nI (r / 3 ^ t) / 3 = nI (r / 3 ^ t / 3) from q_div (d := 3) (by omega) (by omega) (by omega), Nat.div_div_eq_div_mul, ← Nat.pow_succ] at e19
    have e : nI (cN n C - 1 - t) = nI (cN n C - 1 - (t + 1) + 1) := by congr 1; omega
    rw [e, pk_m1] at e20
    exact hrec (by omega) _ ⟨e19, e20⟩
def mm (n : Nat) (C : CV) (r i k : Nat) : Nat → Nat := fun x => if 1 ≤ x / 3 ∧ (ca C).testBit (x / 3) = true ∧ (tn (ca C) (x / 3) < i ∨ (tn (ca C) (x / 3) = i ∧ x % 3 < k)) then cm C x - chR n C r (tn (ca C) (x / 3)) else cm C x
theorem mm_0 (n : Nat) (C : CV) (r x : Nat) : mm n C r 0 0 x = cm C x := by
  unfold mm
  rw [if_neg (fun q => by omega)]
theorem mm_next (n : Nat) (C : CV) (r i x : Nat) : mm n C r i 3 x = mm n C r (i + 1) 0 x := by
  unfold mm
  by_cases h : 1 ≤ x / 3 ∧ (ca C).testBit (x / 3) = true ∧ tn (ca C) (x / 3) ≤ i
  · rw [if_pos ⟨h.1, h.2.1, by omega⟩, if_pos ⟨h.1, h.2.1, by omega⟩]
  · rw [if_neg (fun q => h ⟨q.1, q.2.1, by omega⟩), if_neg (fun q => h ⟨q.1, q.2.1, by omega⟩)]
theorem mm_same {n : Nat} {C : CV} {r i k : Nat} (hi : i < cN n C) (hk : k < 3) : mm n C r i k (3 * P n C i + k) = cm C (3 * P n C i + k) := by
  obtain ⟨h1, h2, h3, h4⟩ := P_is hi
  unfold mm
  rw [if_neg]
  rintro ⟨a, b, c⟩
  rw [show (3 * P n C i + k) / 3 = P n C i by omega, h4] at c
  omega
theorem mm_step {n : Nat} {C : CV} {r i k x : Nat} (hi : i < cN n C) (hk : k < 3) (hx : x < 3 * n) : mm n C r i (k + 1) x = if x = 3 * P n C i + k then cm C x - chR n C r i else mm n C r i k x := by
  obtain ⟨h1, h2, h3, h4⟩ := P_is hi
  by_cases e : x = 3 * P n C i + k
  · rw [if_pos e]
    have e1 : x / 3 = P n C i := by omega
    unfold mm
    rw [e1, h4, if_pos ⟨h2, h3, Or.inr ⟨rfl, by omega⟩⟩]
  · rw [if_neg e]
    unfold mm
    by_cases hA : 1 ≤ x / 3 ∧ (ca C).testBit (x / 3) = true
    · have hP := P_tn hA.1 (show x / 3 < n by omega) hA.2
      have hiff : (tn (ca C) (x / 3) < i ∨ (tn (ca C) (x / 3) = i ∧ x % 3 < k + 1)) ↔ (tn (ca C) (x / 3) < i ∨ (tn (ca C) (x / 3) = i ∧ x % 3 < k)) := by
        constructor
        · rintro (z | ⟨z, w⟩)
          · exact Or.inl z
          · refine Or.inr ⟨z, ?_⟩
            have := hP.2
            rw [z] at this
            omega
        · rintro (z | ⟨z, w⟩)
          · exact Or.inl z
          · exact Or.inr ⟨z, by omega⟩
      by_cases hB : tn (ca C) (x / 3) < i ∨ (tn (ca C) (x / 3) = i ∧ x % 3 < k)
      · rw [if_pos ⟨hA.1, hA.2, hiff.mpr hB⟩, if_pos ⟨hA.1, hA.2, hB⟩]
      · rw [if_neg (fun q => hB (hiff.mp q.2.2)), if_neg (fun q => hB q.2.2)]
    · rw [if_neg (fun q => hA ⟨q.1, q.2.1⟩), if_neg (fun q => hA ⟨q.1, q.2.1⟩)]
def CM (n : Nat) (C : CV) (r i k : Nat) : CV := (cw C, mm n C r i k, ca C, cr C, cmo C, cye C)
theorem CM_rg {n : Nat} {C : CV} {r i k : Nat} (hR : Rg n C) : Rg n (CM n C r i k) := by
  obtain ⟨h1, h2, h3, h4, h5, h6⟩ := hR
  refine ⟨h1, h2, fun x hx => ?_, h4, h5, h6⟩
  show (if _ then _ else _) ≤ 9
  have := h3 x hx
  split
  · exact Nat.le_trans (Nat.sub_le _ _) this
  · exact this
theorem CM_v0 (n : Nat) (C : CV) (r i k : Nat) : vl (CM n C r i k) 0 = vl C 0 := by
  have e : ∀ x, x < 3 → mm n C r i k x = cm C x := fun x hx => by
    unfold mm
    rw [if_neg (fun q => by omega)]
  show cw C 0 * mm n C r i k 0 + cw C 1 * mm n C r i k 1 + cw C 2 * mm n C r i k 2 = cw C 0 * cm C 0 + cw C 1 * cm C 1 + cw C 2 * cm C 2
  rw [e 0 (by omega), e 1 (by omega), e 2 (by omega)]
theorem CM_vP {n j : Nat} {C : CV} {r : Nat} (hj : j < cN n C) : vl (CM n C r (cN n C) 0) (P n C j) = wv n C r j := by
  obtain ⟨h1, h2, h3, h4⟩ := P_is hj
  have e : ∀ k, k < 3 → mm n C r (cN n C) 0 (3 * P n C j + k) = cm C (3 * P n C j + k) - chR n C r j := fun k hk => by
    unfold mm
    rw [show (3 * P n C j + k) / 3 = P n C j by omega, h4, if_pos ⟨h2, h3, Or.inl hj⟩]
  show cw C 0 * mm n C r (cN n C) 0 (3 * P n C j + 0) + cw C 1 * mm n C r (cN n C) 0 (3 * P n C j + 1) + cw C 2 * mm n C r (cN n C) 0 (3 * P n C j + 2) = _
  rw [e 0 (by omega), e 1 (by omega), e 2 (by omega)]
  rfl
theorem wo_bit {n j : Nat} {C : CV} {r : Nat} (h0 : 0 < n) (hR : Rg n C) (hj : j < cN n C) : (fr n (CM n C r (cN n C) 0) (ca C)).testBit (P n C j) = true ↔ (vl C 0 ≤ wv n C r j ∧ (∀ i, i < cN n C → wv n C r i ≤ wv n C r j)) := by
  obtain ⟨h1, h2, h3, h4⟩ := P_is hj
  have hF := (fair_is (vl (CM n C r (cN n C) 0)) (ca C) n).2 (P n C j)
  rw [CM_vP hj] at hF
  refine Iff.trans hF ⟨fun q => ⟨?_, fun i hi => ?_⟩, fun q => ⟨h1, h3, fun x hx hb => ?_⟩⟩
  · have := q.2.2 0 h0 (hR.2.2.2.2.2 h0)
    rw [CM_v0] at this
    exact this
  · obtain ⟨i1, i2, i3, i4⟩ := P_is hi
    have := q.2.2 (P n C i) i1 i3
    rw [CM_vP hi] at this
    exact this
  · rcases Nat.eq_zero_or_pos x with z | z
    · rw [z, CM_v0]; exact q.1
    · obtain ⟨t1, t2⟩ := P_tn z hx hb
      have := q.2 _ t1
      rw [← CM_vP t1, t2] at this
      exact this
def CHs (n : Nat) (C : CV) (chooser : Nat → Int32) : Prop := ∀ j, j < cN n C → chooser j = nI (P n C j)
theorem s_X4_worthIn {n r j : Nat} {C : CV} {page tried chooser : Nat → Int32} (hn : n ≤ 6) (h0 : 0 < n) (hR : Rg n C) (hC : Row n C page) (hH : CHs n C chooser) (hr : r < 2 ^ 31) (hj : j < cN n C) {post : Int32 → (Nat → Int32) → Prop} (h : ∀ t2, post (woI n C r j) t2) : p_X4_worthIn (nI n) (nI (cN n C)) page tried chooser (nI r) (nI j) post := by
  unfold p_X4_worthIn
  have hc := cN_le hn h0 C
  refine s_X4_begin (fun t2 ht2 => ?_)
  have hC0 : Row n (CM n C r 0 0) t2 := by
    have := hC.cong hn ht2
    exact ⟨this.1, fun k hk => (this.2.1 k hk).trans (by show _ = nI (mm n C r 0 0 k); rw [mm_0]), this.2.2⟩
  refine wle_cnt (cN n C) (fun i (v : Int32 × (Nat → Int32)) => v.1 = nI i ∧ Row n (CM n C r i 0) v.2) ?_ _ 0 (Nat.zero_le _) ⟨rfl, hC0⟩
  rintro rec i ⟨l3, tv⟩ hi ⟨e3, hT⟩ hrec
  dsimp only at e3 hT ⊢
  subst e3
  unfold b_X4_worthIn_6
  rw [nI_leI (by omega) (by omega)]
  refine ⟨fun hni => ?_, fun hni => ?_⟩
  · have e : i = cN n C := by omega
    subst e
    obtain ⟨p1, p2, p3, p4⟩ := P_is hj
    have hRM := CM_rg (r := r) (i := cN n C) (k := 0) hR
    have hfl := fr_lt n (CM n C r (cN n C) 0) (ca C)
    have h64 := p2_6 hn
    have hbit := wo_bit (r := r) h0 hR hj
    unfold woI at h
    rw [ix_nI (by omega), hH j hj]
    refine ⟨vp_in_nI (by omega) (by omega), fun x90 e90 => ?_⟩
    subst e90
    refine sM_weightsOf hT ?_
    rw [show ix 21 = 21 from rfl, hT.2.2.1]
    refine sM_fair hn hRM hT (hRM.a31 hn) ?_
    refine s_X4_has (by show fr n (CM n C r (cN n C) 0) (ca C) < _; omega) (by omega) (fun hb => ⟨fun h => absurd h (by decide), fun _ => ?_⟩) (fun hb => ⟨fun _ => ?_, fun h => absurd rfl h⟩)
    · rw [if_pos (hbit.mp hb)] at h
      exact h _
    · have hb2 : ¬ (fr n (CM n C r (cN n C) 0) (ca C)).testBit (P n C j) = true := by
        show ¬ (fr n (CM n C r (cN n C) 0) (ca (CM n C r (cN n C) 0))).testBit (P n C j) = true
        rw [hb]; decide
      rw [if_neg (fun q => hb2 (hbit.mpr q))] at h
      refine sM_weightsOf hT ?_
      have hf := hRM.fig_le
      refine s_X4_valueOf hT.2.1 p1 hn (by omega) ?_
      have e : val3 (dg (fig (cw (CM n C r (cN n C) 0)))) (cm (CM n C r (cN n C) 0)) (P n C j) = wv n C r j := by
        rw [hRM.dgv]; exact CM_vP hj
      rw [e]
      exact h _
  · have hi2 : i < cN n C := by omega
    obtain ⟨p1, p2, p3, p4⟩ := P_is hi2
    refine wle_cnt 3 (fun k (v : Int32 × (Nat → Int32)) => v.1 = nI k ∧ Row n (CM n C r i k) v.2) ?_ _ 0 (Nat.zero_le _) ⟨rfl, hT⟩
    rintro rec2 k ⟨l4, tv2⟩ hk ⟨e4, hT2⟩ hrec2
    dsimp only at e4 hT2 ⊢
    subst e4
    unfold b_X4_worthIn_17
    rw [ix_nI (by omega), hH i hi2, show (3 : Int32) = nI 3 from rfl, nI_leI (by omega) (by omega), pk_mul, nI_add, nI_add]
    refine ⟨fun hnk x78 e78 => ?_, fun hnk => ⟨vp_in_nI (by omega) (by omega), fun x36 e36 => ?_⟩⟩
    · have e : k = 3 := by omega
      subst e
      rw [nI_1] at e78
      refine hrec hi2 _ ⟨e78, hT2.1, fun x hx => (hT2.2.1 x hx).trans ?_, hT2.2.2⟩
      show nI (mm n C r i 3 x) = nI (mm n C r (i + 1) 0 x)
      rw [mm_next]
    · subst e36
      refine ⟨vp_in_nI (by omega) (by omega), ?_⟩
      refine s_X4_plainIn hc hr hi2 (fun x52 e52 => ?_)
      have h9 := hR.2.2.1 (3 * P n C i + k) (by omega)
      have h3 := chR_lt n C r i
      have hpg : tv2 (3 + 3 * P n C i + k) = nI (cm C (3 * P n C i + k)) := by
        have := hT2.2.1 (3 * P n C i + k) (by omega)
        rw [show 3 + 3 * P n C i + k = 3 + (3 * P n C i + k) by omega]
        refine this.trans ?_
        show nI (mm n C r i k (3 * P n C i + k)) = _
        rw [mm_same hi2 (by omega)]
      rw [ix_nI (by omega), hpg] at e52
      rw [ix_nI (by omega)]
      have fin : ∀ z : Nat, z = cm C (3 * P n C i + k) - chR n C r i → ∀ x : Int32, x = nI (k + 1) → rec2 (x, upd tv2 (3 + 3 * P n C i + k) (nI z)) := by
        intro z ez x ex
        refine hrec2 (by omega) _ ⟨ex, fun y hy => ?_, fun y hy => ?_, ?_, ?_, ?_, ?_⟩
        · show upd tv2 _ _ y = _
          rw [upd_at, if_neg (by omega)]; exact hT2.1 y hy
        · show upd tv2 _ _ (3 + y) = nI (mm n C r i (k + 1) y)
          rw [upd_at, mm_step hi2 (by omega) hy]
          by_cases e : y = 3 * P n C i + k
          · rw [if_pos (by omega), if_pos e, ez, e]
          · rw [if_neg (by omega), if_neg e]; exact hT2.2.1 y hy
        · show upd tv2 _ _ 21 = _
          rw [upd_at, if_neg (by omega)]; exact hT2.2.2.1
        · show upd tv2 _ _ 22 = _
          rw [upd_at, if_neg (by omega)]; exact hT2.2.2.2.1
        · show upd tv2 _ _ 23 = _
          rw [upd_at, if_neg (by omega)]; exact hT2.2.2.2.2.1
        · show upd tv2 _ _ 24 = _
          rw [upd_at, if_neg (by omega)]; exact hT2.2.2.2.2.2
      refine ⟨fun hge => ⟨vp_in_nI (by omega) (by omega), fun x ex => ?_⟩, fun hlt => ⟨vp_in_nI (by omega) (by omega), fun x ex => ?_⟩⟩
      · rw [e52, nonneg_sub (by omega) (by omega)] at hge
        rw [nI_1] at ex
        rw [e52, pk_sub hge]
        exact fin _ rfl x ex
      · rw [e52, nonneg_sub (by omega) (by omega)] at hlt
        rw [nI_1] at ex
        exact fin 0 (by omega) x ex
/-! the best of rows, one after another -/
theorem div_succ {r D : Nat} (hD : 0 < D) : ((r + 1) % D = 0 → (r + 1) / D = r / D + 1) ∧ ((r + 1) % D ≠ 0 → (r + 1) / D = r / D) := by
  have h1 := Nat.div_add_mod r D
  have h2 := Nat.mod_lt r hD
  have h3 := Nat.div_add_mod (r + 1) D
  have h4 := Nat.mod_lt (r + 1) hD
  generalize r / D = q at *
  generalize (r + 1) / D = u at *
  generalize r % D = m at *
  generalize (r + 1) % D = m2 at *
  constructor
  · intro h
    rcases Nat.lt_trichotomy u (q + 1) with z | z | z
    · have := Nat.mul_le_mul_left D (show u ≤ q by omega); omega
    · exact z
    · have := Nat.mul_le_mul_left D (show q + 1 + 1 ≤ u from z)
      rw [Nat.mul_succ, Nat.mul_succ] at this
      omega
  · intro h
    rcases Nat.lt_trichotomy u q with z | z | z
    · have := Nat.mul_le_mul_left D (show u + 1 ≤ q from z)
      rw [Nat.mul_succ] at this
      omega
    · exact z
    · have := Nat.mul_le_mul_left D (show q + 1 ≤ u from z)
      rw [Nat.mul_succ] at this
      omega
theorem dz {x t : Nat} (h : x % 3 ^ (t + 1) = 0) : x / 3 ^ t % 3 = 0 := by
  obtain ⟨u, hu⟩ := Nat.dvd_of_mod_eq_zero h
  rw [hu, Nat.pow_succ, Nat.mul_assoc, Nat.mul_div_cancel_left _ (p3p t)]
  omega
theorem dz2 {x t : Nat} (h : x % 3 ^ t = 0) (h2 : x / 3 ^ t % 3 = 0) : x % 3 ^ (t + 1) = 0 := by
  obtain ⟨u, hu⟩ := Nat.dvd_of_mod_eq_zero h
  have e : x / 3 ^ t = u := by rw [hu, Nat.mul_div_cancel_left _ (p3p t)]
  rw [e] at h2
  obtain ⟨w, hw⟩ := Nat.dvd_of_mod_eq_zero h2
  rw [hu, hw, ← Nat.mul_assoc, ← Nat.pow_succ]
  exact Nat.mul_mod_right _ _
theorem dz3 {x s t : Nat} (hst : s ≤ t) (h : x % 3 ^ t = 0) : x % 3 ^ s = 0 :=
  Nat.mod_eq_zero_of_dvd (Nat.dvd_trans (Nat.pow_dvd_pow 3 hst) (Nat.dvd_of_mod_eq_zero h))
def pb (n : Nat) (C : CV) (t q : Nat) : Option Nat := if q % 3 = 0 then none else if q % 3 = 1 then some (Ev n C t (3 * (q / 3))) else some (pick n C (cN n C - (t + 1)) (Ev n C t (3 * (q / 3))) (Ev n C t (3 * (q / 3) + 1)))
def nb (n : Nat) (C : CV) (t q : Nat) : Nat := match pb n C t q with
  | none => Ev n C t q
  | some b => pick n C (cN n C - (t + 1)) b (Ev n C t q)
theorem pb_0 {n t q : Nat} {C : CV} (h : q % 3 = 0) : pb n C t q = none := by unfold pb; rw [if_pos h]
theorem pb_1 {n t q : Nat} {C : CV} (h : q % 3 = 1) : pb n C t q = some (Ev n C t (3 * (q / 3))) := by unfold pb; rw [if_neg (by omega), if_pos h]
theorem pb_2 {n t q : Nat} {C : CV} (h : q % 3 = 2) : pb n C t q = some (pick n C (cN n C - (t + 1)) (Ev n C t (3 * (q / 3))) (Ev n C t (3 * (q / 3) + 1))) := by unfold pb; rw [if_neg (by omega), if_neg (by omega)]
theorem nb_none {n t q : Nat} {C : CV} (h : pb n C t q = none) : nb n C t q = Ev n C t q := by unfold nb; rw [h]
theorem nb_some {n t q b : Nat} {C : CV} (h : pb n C t q = some b) : nb n C t q = pick n C (cN n C - (t + 1)) b (Ev n C t q) := by unfold nb; rw [h]
theorem pb_next {n t q : Nat} {C : CV} (h : q % 3 ≠ 2) : pb n C t (q + 1) = some (nb n C t q) := by
  rcases (by omega : q % 3 = 0 ∨ q % 3 = 1) with z | z
  · rw [pb_1 (by omega), nb_none (pb_0 z), show 3 * ((q + 1) / 3) = q by omega]
  · rw [pb_2 (by omega), nb_some (pb_1 z), show (q + 1) / 3 = q / 3 by omega, show 3 * (q / 3) + 1 = q by omega]
theorem nb_last {n t q : Nat} {C : CV} (h : q % 3 = 2) : nb n C t q = Ev n C (t + 1) (q / 3) := by
  rw [nb_some (pb_2 h)]
  simp only [Ev]
  rw [show 3 * (q / 3) + 2 = q by omega]
theorem pb_lt {n t q b : Nat} {C : CV} (ht : t ≤ cN n C) (hq : q < 3 ^ (cN n C - t)) (h : pb n C t q = some b) : b < 3 ^ cN n C := by
  rcases (by omega : q % 3 = 0 ∨ q % 3 = 1 ∨ q % 3 = 2) with z | z | z
  · rw [pb_0 z] at h; cases h
  · rw [pb_1 z] at h; cases h; exact Ev_row ht (by omega)
  · rw [pb_2 z] at h; cases h; exact pick_lt (Ev_row ht (by omega)) (Ev_row ht (by omega))
def StR (n : Nat) (C : CV) (r : Nat) (best : Nat → Int32) : Prop := ∀ t, t < cN n C → best (cN n C - (t + 1)) = feI (-9) (pb n C t (r / 3 ^ t))
def RowDone (n : Nat) (C : CV) (r : Nat) (best : Nat → Int32) : Prop := (r < 3 ^ cN n C → StR n C r best) ∧ (r = 3 ^ cN n C → best 0 = nI (Ev n C (cN n C) 0))
theorem s_X4_find106 {n r : Nat} {C : CV} {page chooser : Nat → Int32} (hn : n ≤ 6) (h0 : 0 < n) (hR : Rg n C) (hC : Row n C page) (hH : CHs n C chooser) (hc1 : 0 < cN n C) (hr : r < 3 ^ cN n C) {tried best : Nat → Int32} (hS : StR n C r best) {K : Int32 → Int32 → Int32 → Int32 → (Nat → Int32) → (Nat → Int32) → Prop} (hK : ∀ l3 l4 l5 l6 tr be, RowDone n C (r + 1) be → K l3 l4 l5 l6 tr be) : wle (fun ρ ν => b_X4_findRow_106 (nI r) (nI n) (nI (cN n C)) page chooser K ρ ν.1 ν.2.1 ν.2.2.1 ν.2.2.2.1 ν.2.2.2.2.1 ν.2.2.2.2.2) (nI r, 1, 1, nI (cN n C) - 1, tried, best) := by
  have hc := cN_le hn h0 C
  have b5 := p3 hc
  refine wle_cnt (cN n C) (fun t (v : Int32 × Int32 × Int32 × Int32 × (Nat → Int32) × (Nat → Int32)) => (t < cN n C ∧ v.1 = nI (Ev n C t (r / 3 ^ t)) ∧ v.2.1 = nI (3 ^ t) ∧ v.2.2.1 = 1 ∧ v.2.2.2.1 = nI (cN n C - (t + 1)) ∧ (r + 1) % 3 ^ t = 0 ∧ (∀ s, s < t → v.2.2.2.2.2 (cN n C - (s + 1)) = -9) ∧ (∀ s, t ≤ s → s < cN n C → v.2.2.2.2.2 (cN n C - (s + 1)) = feI (-9) (pb n C s (r / 3 ^ s)))) ∨ (RowDone n C (r + 1) v.2.2.2.2.2 ∧ (v.2.2.1 = 0 ∨ v.2.2.2.1 < 0))) ?_ _ 0 (Nat.zero_le _) (Or.inl ⟨hc1, ?_, rfl, rfl, ?_, ?_, fun s hs => by omega, fun s _ hs => hS s hs⟩)
  · rintro rec t ⟨l3, l4, l5, l6, tr, be⟩ ht hI hrec
    dsimp only at hI ⊢
    unfold b_X4_findRow_106
    rcases hI with ⟨htc, e3, e4, e5, e6, hmod, hlow, hup⟩ | ⟨hD, hx⟩
    · subst e3 e4 e5 e6
      have b4 := p3 (k := t) (by omega)
      have b6 := p3 (k := t + 1) (by omega)
      have b7 := p3p t
      have b8 := p3p (t + 1)
      have hq : r / 3 ^ t < 3 ^ (cN n C - t) := by
        have e : 3 ^ cN n C = 3 ^ t * 3 ^ (cN n C - t) := by rw [← Nat.pow_add]; congr 1; omega
        rw [e] at hr
        exact Nat.div_lt_of_lt_mul hr
      have hEv := Ev_row (n := n) (C := C) (d := t) (by omega) hq
      have hbe := hup t (Nat.le_refl _) htc
      have lev : cN n C - (t + 1) < cN n C := by omega
      refine ⟨fun g => absurd g (nI_pos (by omega)), fun _ => ⟨fun g => absurd g (by decide), fun _ => ⟨vp_in_nI (by omega) (by omega), ?_⟩⟩⟩
      rw [ix_nI (show cN n C - (t + 1) < 2 ^ 31 by omega), hbe]
      have e173 : nI (3 ^ t) * 3 = nI (3 ^ (t + 1)) := by rw [show (3 : Int32) = nI 3 from rfl, pk_mul, ← Nat.pow_succ]
      have c173 : nI (3 ^ (t + 1)) = 0 ↔ 3 ^ (t + 1) = 0 := nI_eq (b := 0) (by omega) (by omega)
      have erem : jrem (nI r + 1) (nI (3 ^ (t + 1))) = nI ((r + 1) % 3 ^ (t + 1)) := by
        rw [nI_1, q_rem (by omega) b8 (by omega)]
      have hml := Nat.mod_lt (r + 1) b8
      have crem : nI ((r + 1) % 3 ^ (t + 1)) = 0 ↔ (r + 1) % 3 ^ (t + 1) = 0 := nI_eq (b := 0) (by omega) (by omega)
      have c6 : nI (cN n C - (t + 1)) ≤ 0 ↔ cN n C - (t + 1) ≤ 0 := nI_leI (b := 0) (by omega) (by omega)
      have hds := div_succ (r := r) b7
      have tail : ∀ (tr : Nat → Int32) (x : Int32), x = nI (nb n C t (r / 3 ^ t)) → (∀ x173 : Int32, x173 = nI (3 ^ t) * 3 → (¬ x173 = 0 ∧ ((¬ (jrem (nI r + 1) x173) = 0 → (∀ x218 : Int32, x218 = nI (cN n C - (t + 1)) + (-1) → rec (nI (Ev n C t (r / 3 ^ t)), x173, 0, x218, tr, upd be (cN n C - (t + 1)) x))) ∧ ((jrem (nI r + 1) x173) = 0 → ((nI (cN n C - (t + 1)) ≤ 0 → (∀ x218 : Int32, x218 = nI (cN n C - (t + 1)) + (-1) → rec (nI (Ev n C t (r / 3 ^ t)), x173, 1, x218, tr, upd be (cN n C - (t + 1)) x))) ∧ (¬ nI (cN n C - (t + 1)) ≤ 0 → (vp_in (nI (cN n C - (t + 1))) 7 ∧ (∀ x208 : Int32, x208 = ((upd be (cN n C - (t + 1)) x) (cN n C - (t + 1))) → (vp_in (nI (cN n C - (t + 1))) 7 ∧ (∀ x218 : Int32, x218 = nI (cN n C - (t + 1)) + (-1) → rec (x208, x173, 1, x218, tr, upd (upd be (cN n C - (t + 1)) x) (cN n C - (t + 1)) (-9)))))))))))) := fun tr x ex x173 e => by
        rw [e173] at e
        subst e
        rw [c173, erem, crem, c6]
        refine ⟨by omega, fun gm x218 e218 => ?_, fun gm => ⟨fun gl x218 e218 => ?_, fun gl => ⟨vp_in_nI (by omega) (by omega), fun x208 e208 => ⟨vp_in_nI (by omega) (by omega), fun x218 e218 => ?_⟩⟩⟩⟩
        · -- the row ends here
          refine hrec htc _ (Or.inr ⟨⟨fun hlt s hs => ?_, fun heq => ?_⟩, Or.inl rfl⟩)
          · show upd be _ _ _ = _
            rw [upd_at]
            rcases Nat.lt_trichotomy s t with z | z | z
            · rw [if_neg (by omega), hlow s z, pb_0 (dz (dz3 (show s + 1 ≤ t from z) hmod))]; rfl
            · subst z
              rw [if_pos rfl, hds.1 hmod, pb_next, ex]; rfl
              intro z2
              apply gm
              apply dz2 hmod
              rw [hds.1 hmod]; omega
            · rw [if_neg (by omega), hup s (by omega) hs, (div_succ (r := r) (p3p s)).2 (fun q => gm (dz3 (show t + 1 ≤ s from z) q))]
          · exfalso
            apply gm
            rw [heq]
            exact dz3 (show t + 1 ≤ cN n C from htc) (Nat.mod_self _)
        · have hge : 3 ^ (t + 1) ≤ r + 1 := Nat.le_of_dvd (by omega) (Nat.dvd_of_mod_eq_zero gm)
          have etc : t + 1 = cN n C := by omega
          refine hrec htc _ (Or.inr ⟨⟨fun hlt => ?_, fun heq => ?_⟩, Or.inr ?_⟩)
          · rw [etc] at hge; omega
          · have z2 : r / 3 ^ t % 3 = 2 := by
              have := dz gm
              rw [hds.1 hmod] at this; omega
            show upd be _ _ 0 = _
            rw [upd_at, if_pos (by omega), ex, nb_last z2, Nat.div_div_eq_div_mul, ← Nat.pow_succ, etc, show t.succ = cN n C from etc, Nat.div_eq_of_lt hr]
          · show x218 < 0
            rw [e218, show cN n C - (t + 1) = 0 by omega]
            decide
        · have z2 : r / 3 ^ t % 3 = 2 := by
            have := dz gm
            rw [hds.1 hmod] at this; omega
          refine hrec htc _ (Or.inl ⟨by omega, ?_, rfl, rfl, ?_, gm, fun s hs => ?_, fun s hs1 hs2 => ?_⟩)
          · show x208 = _
            rw [e208, upd_at, if_pos rfl, ex, nb_last z2, Nat.div_div_eq_div_mul, ← Nat.pow_succ]
          · show x218 = _
            rw [e218, show cN n C - (t + 1) = cN n C - (t + 1 + 1) + 1 by omega, pk_m1]
          · show upd (upd be _ _) _ _ _ = _
            rw [upd_at, upd_at]
            by_cases e : s = t
            · rw [if_pos (by omega)]
            · rw [if_neg (by omega), if_neg (by omega)]; exact hlow s (by omega)
          · show upd (upd be _ _) _ _ _ = _
            rw [upd_at, upd_at, if_neg (by omega), if_neg (by omega)]
            exact hup s (by omega) hs2
      rcases hpb : pb n C t (r / 3 ^ t) with _ | b
      · refine ⟨fun _ => ⟨vp_in_nI (by omega) (by omega), tail tr _ (by rw [nb_none hpb])⟩, fun g => absurd rfl g⟩
      · have hb := pb_lt (by omega) hq hpb
        rw [feI_some]
        refine ⟨fun g => absurd g (nI_n9 (by omega)), fun _ => ?_⟩
        refine s_X4_worthIn hn h0 hR hC hH (by omega) lev (fun t2 => ⟨vp_in_nI (by omega) (by omega), ?_⟩)
        refine s_X4_worthIn hn h0 hR hC hH (by omega) lev (fun t3 => ⟨fun g => ⟨vp_in_nI (by omega) (by omega), fun x168 e168 => ⟨vp_in_nI (by omega) (by omega), tail t3 x168 ?_⟩⟩, fun g => ⟨vp_in_nI (by omega) (by omega), tail t3 _ ?_⟩⟩)
        · rw [e168, nb_some hpb]
          unfold pick
          rw [if_pos g]
        · rw [nb_some hpb]
          unfold pick
          rw [if_neg g]
    · have hk := hK l3 l4 l5 l6 tr be hD
      refine ⟨fun _ => hk, fun g => ⟨fun _ => hk, fun g2 => ?_⟩⟩
      rcases hx with z | z
      · exact absurd z g2
      · exact absurd z g
  · show nI r = nI (r / 3 ^ 0)
    rw [Nat.pow_zero, Nat.div_one]
  · exact pk_sub (b := 1) hc1
  · rw [Nat.pow_zero]; exact Nat.mod_one _
theorem s_X4_findRow {n : Nat} {C : CV} {page tried chooser best : Nat → Int32} {x1 : Int32} (hn : n ≤ 6) (h0 : 0 < n) (hR : Rg n C) (hC : Row n C page) (hc1 : 0 < cN n C) {post : Int32 → Int32 → (Nat → Int32) → (Nat → Int32) → (Nat → Int32) → Prop} (h : ∀ tr ch be, CHs n C ch → post (nI (Ev n C (cN n C) 0)) (nI (cN n C)) tr ch be) : p_X4_findRow (nI n) x1 page tried chooser best post := by
  unfold p_X4_findRow
  have hc := cN_le hn h0 C
  have b5 := p3 hc
  refine wle_cnt n (fun i (v : Int32 × Int32 × Int32 × (Nat → Int32)) => v.1 = nI (3 ^ tn (ca C) i) ∧ v.2.1 = nI i ∧ v.2.2.1 = nI (tn (ca C) i) ∧ 1 ≤ i ∧ ∀ p, 1 ≤ p → p < i → (ca C).testBit p = true → v.2.2.2 (tn (ca C) p) = nI p) ?_ _ 1 h0 ⟨?_, rfl, ?_, Nat.le_refl _, fun p h1 h2 => by omega⟩
  · rintro rec i ⟨l1, l2, cs, ch⟩ hi ⟨e1, e2, e3, h1, hch⟩ hrec
    dsimp only at e1 e2 e3 hch ⊢
    subst e1 e2 e3
    unfold b_X4_findRow_9
    rw [nI_leI (by omega) (by omega), show ix 21 = 21 from rfl, hC.2.2.1]
    refine ⟨fun hni => ?_, fun hni => ?_⟩
    · have e : i = n := by omega
      subst e
      have hH : CHs i C ch := fun j hj => by
        obtain ⟨p1, p2, p3, p4⟩ := P_is hj
        have := hch _ p2 p1 p3
        rw [p4] at this
        exact this
      refine wle_cnt 7 (fun k (v : Int32 × (Nat → Int32)) => v.1 = nI k ∧ ∀ x, x < k → v.2 x = -9) ?_ _ 0 (Nat.zero_le _) ⟨rfl, fun x hx => by omega⟩
      rintro rec2 k ⟨l2, be⟩ hk ⟨e2, hbe⟩ hrec2
      dsimp only at e2 hbe ⊢
      subst e2
      unfold b_X4_findRow_63
      have c6 : 6 < nI k ↔ 6 < k := nI_ltI (a := 6) (by omega) (by omega)
      rw [c6]
      refine ⟨fun hnk => ?_, fun hnk => ⟨vp_in_nI (by omega) (by omega), fun x ex => ?_⟩⟩
      · have ek : k = 7 := by omega
        subst ek
        refine wle_cnt (3 ^ cN i C) (fun r (v : Int32 × (Nat → Int32) × (Nat → Int32)) => v.1 = nI r ∧ RowDone i C r v.2.2) ?_ _ 0 (Nat.zero_le _) ⟨rfl, fun _ t ht => ?_, fun e => ?_⟩
        · rintro rec3 r ⟨l2, tr, be⟩ hr ⟨e2, hD⟩ hrec3
          dsimp only at e2 hD ⊢
          subst e2
          unfold b_X4_findRow_85
          show (nI (3 ^ cN i C) ≤ nI r → _) ∧ (¬ nI (3 ^ cN i C) ≤ nI r → _)
          rw [nI_leI (by omega) (by omega)]
          refine ⟨fun hnr => ?_, fun hnr x104 e104 => ?_⟩
          · have er : r = 3 ^ cN i C := by omega
            have := hD.2 er
            show post (be 0) _ _ _ _
            rw [this]
            exact h _ _ _ hH
          · subst e104
            refine s_X4_find106 hn h0 hR hC hH hc1 (by omega) (hD.1 (by omega)) (fun l3 l4 l5 l6 tr be q x ex => ?_)
            rw [nI_1] at ex
            exact hrec3 (by omega) _ ⟨ex, q⟩
        · show be _ = _
          rw [hbe _ (by omega), Nat.zero_div, pb_0 (by omega)]; rfl
        · have := p3p (cN i C); omega
      · rw [nI_1] at ex
        rw [ix_nI (by omega)]
        refine hrec2 (by omega) _ ⟨ex, fun y hy => ?_⟩
        show upd be _ _ y = _
        rw [upd_at]
        by_cases e : y = k
        · rw [if_pos e]
        · rw [if_neg e]; exact hbe y (by omega)
    · have htl := tn_le (ca C) i h1
      refine s_X4_has (hR.a31 hn) (by omega) (fun hb => ⟨fun h => absurd h (by decide), fun _ => ⟨vp_in_nI (by omega) (by omega), fun x48 e48 x54 e54 x55 e55 => ?_⟩⟩) (fun hb => ⟨fun _ x ex => ?_, fun h => absurd rfl h⟩)
      · rw [nI_1] at e48 e55
        rw [show (3 : Int32) = nI 3 from rfl, pk_mul, ← Nat.pow_succ] at e54
        rw [ix_nI (by omega)]
        refine hrec (by omega) _ ⟨by rw [tn_t h1 hb]; exact e54, e55, by rw [tn_t h1 hb]; exact e48, by omega, fun p hp1 hp2 hpb => ?_⟩
        show upd ch _ _ _ = _
        rw [upd_at]
        rcases lt_succ_cases hp2 with z | z
        · have := tn_lt hp1 hpb z
          rw [if_neg (by omega)]; exact hch p hp1 z hpb
        · rw [z, if_pos rfl]
      · rw [nI_1] at ex
        refine hrec (by omega) _ ⟨by rw [tn_f hb], ex, by rw [tn_f hb], by omega, fun p hp1 hp2 hpb => ?_⟩
        refine hch p hp1 ?_ hpb
        rcases lt_succ_cases hp2 with z | z
        · exact z
        · rw [z, hb] at hpb; cases hpb
  · simp [tn]; rfl
  · simp [tn]; rfl
theorem mask_bits : ∀ p, p < 7 → 1 ≤ p → ∀ k, k < 6 → (2 ^ p - 2).testBit k = decide (1 ≤ k ∧ k < p) := by decide +kernel
theorem turn_pc {a p : Nat} (h1 : 1 ≤ p) (h7 : p < 7) : ∀ k, k ≤ 6 → pcU (a &&& (2 ^ p - 2)) k = tn a (min k p)
  | 0, _ => by simp [pcU, tn]
  | k + 1, h => by
    have ih := turn_pc (a := a) h1 h7 k (by omega)
    simp only [pcU]
    rw [ih, Nat.testBit_and, mask_bits p h7 h1 k (by omega)]
    by_cases e : k < p
    · rw [show min k p = k by omega, show min (k + 1) p = k + 1 by omega]
      simp only [tn]
      by_cases e1 : 1 ≤ k
      · cases a.testBit k <;> simp [e, e1]
      · simp [e1]
    · rw [show min k p = p by omega, show min (k + 1) p = p by omega]
      simp [e]
theorem s_X4_chooserOf {n : Nat} {C : CV} {page : Nat → Int32} (hn : n ≤ 6) (hR : Rg n C) (hC : Row n C page) {l1 : Int32} {post : Int32 → Prop} (hun : (∀ p, p < n → l1 ≠ nI p) → post (-1)) (hq : 0 < n → l1 = nI 0 → post (-2)) (hl : ∀ p, p < n → l1 = nI p → 1 ≤ p → (ca C).testBit p = false → post (-3)) (h : ∀ p, p < n → l1 = nI p → 1 ≤ p → (ca C).testBit p = true → post (nI (tn (ca C) p))) : p_X4_chooserOf (nI n) page l1 post := by
  unfold p_X4_chooserOf
  rw [show ix 21 = 21 from rfl, hC.2.2.1]
  refine s_X4_noOne (by omega) (fun p hp e => ⟨fun _ => ?_, fun h => absurd rfl h⟩) (fun g => ⟨fun h => absurd h (by decide), fun _ => hun g⟩)
  subst e
  have c0 : nI p = 0 ↔ p = 0 := nI_eq (b := 0) (by omega) (by omega)
  rw [c0]
  refine ⟨fun g => ?_, fun g => hq (by omega) (by rw [g])⟩
  refine s_X4_has (hR.a31 hn) (by omega) (fun hb => ⟨fun _ => ?_, fun h => absurd h (by decide)⟩) (fun hb => ⟨fun h => absurd rfl h, fun _ => hl p hp rfl (by omega) hb⟩)
  have h2p : 2 ≤ 2 ^ p := by
    have := Nat.pow_le_pow_right (n := 2) (by decide) (show 1 ≤ p by omega)
    omega
  have ha := hR.a31 hn
  have hle : ca C &&& (2 ^ p - 2) ≤ ca C := Nat.and_le_left
  rw [q_shl1 (by omega), show nI (2 ^ p) - 2 = nI (2 ^ p - 2) from pk_sub (b := 2) h2p, fa_and]
  refine s_X4_many (by omega) ?_
  have e : pcn (ca C &&& (2 ^ p - 2)) = tn (ca C) p := by
    show pcU _ 6 = _
    rw [turn_pc (by omega) (by omega) 6 (Nat.le_refl _), show min 6 p = p by omega]
  rw [e]
  exact h p hp rfl (by omega) hb
theorem s_X4_chosen {n : Nat} {C : CV} {th x1 : Int32} {page x2 x3 x4 : Nat → Int32} (hn : n ≤ 6) (hR : Rg n C) (hC : Row n C page) {l1 : Int32} {post : Int32 → Int32 → Int32 → (Nat → Int32) → (Nat → Int32) → (Nat → Int32) → Prop} (hun : (∀ p, p < n → l1 ≠ nI p) → post (-1) 0 x1 x2 x3 x4) (hq : 0 < n → l1 = nI 0 → post (-2) 0 x1 x2 x3 x4) (hl : ∀ p, p < n → l1 = nI p → 1 ≤ p → (ca C).testBit p = false → post (-3) 0 x1 x2 x3 x4) (h : ∀ p, p < n → l1 = nI p → 1 ≤ p → (ca C).testBit p = true → ∀ x1 x2 x3 x4, post (nI (chR n C (Ev n C (cN n C) 0) (tn (ca C) p))) 0 x1 x2 x3 x4) : p_X4_chosen th (nI n) x1 page x2 x3 x4 l1 post := by
  unfold p_X4_chosen
  refine s_X4_chooserOf hn hR hC (fun g => ⟨fun h => absurd h (by decide), fun _ => hun g⟩) (fun g1 g2 => ⟨fun h => absurd h (by decide), fun _ => hq g1 g2⟩) (fun p g1 g2 g3 g4 => ⟨fun h => absurd h (by decide), fun _ => hl p g1 g2 g3 g4⟩) (fun p g1 g2 g3 g4 => ?_)
  obtain ⟨t1, t2⟩ := P_tn g3 g1 g4
  have hc := cN_le hn (by omega) C
  have b5 := p3 hc
  have hr := Ev_row (n := n) (C := C) (d := cN n C) (i := 0) (Nat.le_refl _) (p3p _)
  have c0 : 0 ≤ nI (tn (ca C) p) ↔ 0 ≤ tn (ca C) p := nI_leI (a := 0) (by omega) (by omega)
  rw [c0]
  refine ⟨fun _ => ?_, fun g => absurd (Nat.zero_le _) g⟩
  exact s_X4_findRow hn (by omega) hR hC (by omega) (fun tr ch be hH => s_X4_plainIn hc (by omega) t1 (h p g1 g2 g3 g4 _ _ _ _))
theorem s_X4_chosenWorth {n : Nat} {C : CV} {th x1 : Int32} {page x2 x3 x4 : Nat → Int32} (hn : n ≤ 6) (hR : Rg n C) (hC : Row n C page) {l1 : Int32} {post : Int32 → Int32 → Int32 → (Nat → Int32) → (Nat → Int32) → (Nat → Int32) → Prop} (hun : (∀ p, p < n → l1 ≠ nI p) → post (-1) 0 x1 x2 x3 x4) (hq : 0 < n → l1 = nI 0 → post (-2) 0 x1 x2 x3 x4) (hl : ∀ p, p < n → l1 = nI p → 1 ≤ p → (ca C).testBit p = false → post (-3) 0 x1 x2 x3 x4) (h : ∀ p, p < n → l1 = nI p → 1 ≤ p → (ca C).testBit p = true → ∀ x1 x2 x3 x4, post (woI n C (Ev n C (cN n C) 0) (tn (ca C) p)) 0 x1 x2 x3 x4) : p_X4_chosenWorth th (nI n) x1 page x2 x3 x4 l1 post := by
  unfold p_X4_chosenWorth
  refine s_X4_chooserOf hn hR hC (fun g => ⟨fun h => absurd h (by decide), fun _ => hun g⟩) (fun g1 g2 => ⟨fun h => absurd h (by decide), fun _ => hq g1 g2⟩) (fun p g1 g2 g3 g4 => ⟨fun h => absurd h (by decide), fun _ => hl p g1 g2 g3 g4⟩) (fun p g1 g2 g3 g4 => ?_)
  obtain ⟨t1, t2⟩ := P_tn g3 g1 g4
  have hc := cN_le hn (by omega) C
  have b5 := p3 hc
  have hr := Ev_row (n := n) (C := C) (d := cN n C) (i := 0) (Nat.le_refl _) (p3p _)
  have c0 : 0 ≤ nI (tn (ca C) p) ↔ 0 ≤ tn (ca C) p := nI_leI (a := 0) (by omega) (by omega)
  rw [c0]
  refine ⟨fun _ => ?_, fun g => absurd (Nat.zero_le _) g⟩
  exact s_X4_findRow hn (by omega) hR hC (by omega) (fun tr ch be hH => s_X4_worthIn hn (by omega) hR hC hH (by omega) t1 (fun t2 => h p g1 g2 g3 g4 _ _ _ _))
