/-! a morning -/
def lbf (t : Nat) : Nat → Nat
  | 0 => 0
  | k + 1 => if lbf t k < k then lbf t k else if t.testBit k then k else k + 1
theorem lbf_le (t : Nat) : ∀ n, lbf t n ≤ n
  | 0 => Nat.le_refl _
  | k + 1 => by have := lbf_le t k; simp only [lbf]; split <;> (try split) <;> omega
theorem lbf_no (t : Nat) : ∀ n k, k < lbf t n → t.testBit k = false
  | 0, k, h => by simp [lbf] at h
  | n + 1, k, h => by
    have ih := lbf_no t n k
    have hle := lbf_le t n
    simp only [lbf] at h
    split at h
    · exact ih h
    · split at h
      · exact ih (by omega)
      · rename_i h1 h2
        by_cases e : k = n
        · subst e; simpa using h2
        · exact ih (by omega)
theorem lbf_yes (t : Nat) : ∀ n, lbf t n < n → t.testBit (lbf t n) = true
  | 0, h => absurd h (Nat.not_lt_zero _)
  | n + 1, h => by
    have ih := lbf_yes t n
    simp only [lbf] at h ⊢
    split at h
    · rename_i h1
      rw [if_pos h1]; exact ih h1
    · rename_i h1
      rw [if_neg h1]
      split at h
      · rename_i h2; rw [if_pos h2]; exact h2
      · omega
theorem lbf_is {t n p : Nat} (hp : p < n) (ht : t.testBit p = true) (hno : ∀ q, q < p → t.testBit q = false) : lbf t n = p := by
  rcases Nat.lt_trichotomy (lbf t n) p with h | h | h
  · have h1 := lbf_yes t n (by omega)
    rw [hno _ h] at h1; cases h1
  · exact h
  · have h1 := lbf_no t n p h
    rw [ht] at h1; cases h1
theorem lbf_lt {t n : Nat} (ht : t ≠ 0) (hl : t < 2 ^ n) : lbf t n < n := by
  rcases Nat.lt_or_ge (lbf t n) n with h | h
  · exact h
  · exfalso
    apply ht
    apply Nat.eq_of_testBit_eq
    intro i
    rw [Nat.zero_testBit]
    rcases Nat.lt_or_ge i n with q | q
    · exact lbf_no t n i (by omega)
    · exact Nat.testBit_lt_two_pow (Nat.lt_of_lt_of_le hl (Nat.pow_le_pow_right (by decide) q))
theorem s_X1_leastOf {n t : Nat} (hn : n ≤ 6) (ht : t < 2 ^ n) {post : Int32 → Prop} (h0 : t = 0 → post (-9)) (h1 : t ≠ 0 → lbf t n < n → t.testBit (lbf t n) = true → post (nI (lbf t n))) : p_X1_leastOf (nI n) (nI t) post := by
  have ht31 : t < 2 ^ 31 := by have := p2_6 hn; omega
  unfold p_X1_leastOf
  refine wle_cnt n (fun i (v : Int32) => v = nI i ∧ ∀ q, q < i → t.testBit q = false) ?_ _ 0 (Nat.zero_le _) ⟨rfl, fun q hq => by omega⟩
  rintro rec i l2 hi ⟨e2, hno⟩ hrec
  subst e2
  unfold b_X1_leastOf_2
  rw [nI_leI (by omega) (by omega), q_has (by omega) ht31]
  refine ⟨fun hni => h0 ?_, fun hni => ⟨fun hb x ex => ?_, fun hb => ?_⟩⟩
  · apply Nat.eq_of_testBit_eq
    intro j
    rw [Nat.zero_testBit]
    rcases Nat.lt_or_ge j n with q | q
    · exact hno j (by omega)
    · exact Nat.testBit_lt_two_pow (Nat.lt_of_lt_of_le ht (Nat.pow_le_pow_right (by decide) q))
  · rw [nI_1] at ex
    refine hrec (by omega) _ ⟨ex, fun q hq => ?_⟩
    rcases lt_succ_cases hq with e | rfl
    · exact hno q e
    · simpa using hb
  · have e : lbf t n = i := lbf_is (by omega) hb hno
    rw [e] at h1
    exact h1 (fun z => by rw [z, Nat.zero_testBit] at hb; cases hb) (by omega) hb
/-- the mark by which one is most above -/
def fe (d : Nat → Int) : Nat → Option Nat × Int
  | 0 => (none, 0)
  | k + 1 => if (fe d k).2 < d k then (some k, d k) else fe d k
theorem fe_lt (d : Nat → Int) : ∀ n k, (fe d n).1 = some k → k < n
  | 0, k, h => by simp [fe] at h
  | n + 1, k, h => by
    simp only [fe] at h
    split at h
    · simp at h; omega
    · have := fe_lt d n k h; omega
def feI (z : Int32) (o : Option Nat) : Int32 := match o with
  | none => z
  | some k => nI k
theorem feI_some (z : Int32) (k : Nat) : feI z (some k) = nI k := rfl
def mornW (w m : Nat → Nat) (p : Nat) : Nat → Nat := match (fe (fun k => (m (3 * p + k) : Int) - m k) 3).1 with
  | none => w
  | some k => if 0 < w k ∧ w 0 + w 1 + w 2 ≠ 1 then (fun i => if i = k then w k - 1 else w i) else w
def rivals (C : CV) : Nat := ca C ^^^ (ca C &&& 1)
def morn (n : Nat) (C : CV) : CV := (if fr n C (rivals C) = 0 then cw C else mornW (cw C) (cm C) (lbf (fr n C (rivals C)) n), cm C, ca C, cr C, cmo C + 1, cye C)
theorem rivals_tb (C : CV) (i : Nat) : (rivals C).testBit i = ((ca C).testBit i && decide (i ≠ 0)) := by
  unfold rivals
  rw [Nat.testBit_xor, Nat.testBit_and]
  have e : (1 : Nat).testBit i = decide (i = 0) := by
    have := Nat.testBit_two_pow (n := 0) (m := i)
    rw [Nat.pow_zero] at this
    rw [this]
    by_cases h : i = 0
    · subst h; rfl
    · have : ¬ 0 = i := fun q => h q.symm
      simp [h, this]
  rw [e]
  by_cases h : i = 0
  · subst h; cases (ca C).testBit 0 <;> rfl
  · simp [h]
theorem rivals_lt {n : Nat} {C : CV} (h : ca C < 2 ^ n) : rivals C < 2 ^ n := Nat.xor_lt_two_pow h (Nat.lt_of_le_of_lt Nat.and_le_left h)
theorem rivals_int (C : CV) : nI (ca C) &&& (-2) = nI (rivals C) := by
  have e : (-2 : Int32) = nI 1 ^^^ (-1) := by decide
  rw [e, fa_andnot]
  rfl
theorem fe3 {w : Nat → Nat} {weights : Nat → Int32} (hw : Av weights w 3) (hw9 : ∀ i, i < 3 → w i ≤ 9) : ((weights 0) + (weights 1)) + (weights 2) = nI (w 0 + w 1 + w 2) := by
  rw [hw 0 (by omega), hw 1 (by omega), hw 2 (by omega), nI_add, nI_add]
theorem s_X1_weighFearOf {n : Nat} {w m : Nat → Nat} {weights marks : Nat → Int32} (hn : n ≤ 6) (hw : Av weights w 3) (hw9 : ∀ i, i < 3 → w i ≤ 9) (hm : Av marks m (3 * n)) (hm9 : ∀ k, k < 3 * n → m k ≤ 9) {p : Nat} (hp : p < n) {post : (Nat → Int32) → Prop} (h : ∀ w2 : Nat → Int32, Av w2 (mornW w m p) 3 → post w2) : p_X1_weighFearOf weights marks (nI p) post := by
  unfold p_X1_weighFearOf
  have hd : ∀ k, k < 3 → (nI (m (3 * p + k)) - nI (m k)).toInt = (m (3 * p + k) : Int) - m k := fun k hk => by
    have h1 := hm9 (3 * p + k) (by omega)
    have h2 := hm9 k (by omega)
    exact pk_sub_toInt (by omega) (by omega)
  refine wle_cnt 3 (fun i (v : Int32 × Int32 × Int32) => v.2.2 = nI i ∧ v.2.1.toInt = (fe (fun k => (m (3 * p + k) : Int) - m k) i).2 ∧ v.1 = feI (-1) (fe (fun k => (m (3 * p + k) : Int) - m k) i).1) ?_ _ 0 (Nat.zero_le _) ⟨rfl, rfl, rfl⟩
  rintro rec i ⟨l2, l3, l4⟩ hi ⟨e4, e3, e2⟩ hrec
  dsimp only at e2 e3 e4 ⊢
  subst e2 e4
  unfold b_X1_weighFearOf_7
  rw [show (3 : Int32) = nI 3 from rfl, nI_leI (by omega) (by omega)]
  refine ⟨fun hni => ?_, fun hni => ?_⟩
  · have e : i = 3 := by omega
    subst e
    rw [show ix 0 = 0 from rfl, show ix 1 = 1 from rfl, show ix 2 = 2 from rfl, fe3 hw hw9]
    have h0 := hw9 0 (by omega)
    have h1 := hw9 1 (by omega)
    have h2 := hw9 2 (by omega)
    rw [show (1 : Int32) = nI 1 from rfl, nI_eq (by omega) (by omega)]
    rcases hk : (fe (fun k => (m (3 * p + k) : Int) - m k) 3).1 with _ | k
    · have key : post weights := h _ (by unfold mornW; rw [hk]; exact hw)
      exact ⟨fun _ => ⟨fun _ => key, fun h => absurd (by decide) h⟩, fun _ => ⟨fun _ => key, fun h => absurd (by decide) h⟩⟩
    · have hk3 := fe_lt _ _ _ hk
      have hwk := hw k hk3
      have hwk9 := hw9 k hk3
      simp only [feI_some]
      rw [ix_nI (show k < 2 ^ 31 by omega), hwk, show (0 : Int32) = nI 0 from rfl, nI_leI (by omega) (by omega)]
      refine ⟨fun hs => ⟨fun h => absurd h (nI_nlt (by omega) (by omega)), fun _ => ⟨vp_in_nI hk3 (by omega), fun h0 => h _ ?_, fun hpos => ⟨vp_in_nI hk3 (by omega), fun x ex => ⟨vp_in_nI hk3 (by omega), h _ ?_⟩⟩⟩⟩, fun hs => ⟨fun h => absurd h (nI_nlt (by omega) (by omega)), fun _ => ⟨vp_in_nI hk3 (by omega), fun h0 => h _ ?_, fun hpos => h _ ?_⟩⟩⟩
      · unfold mornW; rw [hk]; dsimp only; rw [if_neg (by omega)]; exact hw
      · unfold mornW; rw [hk]; dsimp only; rw [if_pos ⟨by omega, hs⟩]
        intro j hj
        rw [upd_at]
        dsimp only
        by_cases e : j = k
        · rw [if_pos e, if_pos e, ex, pk_sub (by omega)]
        · rw [if_neg e, if_neg e]; exact hw j hj
      · unfold mornW; rw [hk]; dsimp only; rw [if_neg (by omega)]; exact hw
      · unfold mornW; rw [hk]; dsimp only; rw [if_neg (by omega)]; exact hw
  · have hlt : i < 3 := by omega
    rw [pk_mul, nI_add, show (0 : Int32) = nI 0 from rfl, nI_add, ix_nI (by omega), ix_nI (by omega)]
    refine ⟨vp_in_nI (by omega) (by omega), vp_in_nI (by omega) (by omega), fun x34 e34 => ?_⟩
    rw [Nat.zero_add, Nat.mul_comm p 3, hm (3 * p + i) (by omega), hm i (by omega)] at e34
    have e34' : x34.toInt = (m (3 * p + i) : Int) - m i := by rw [e34]; exact hd i hlt
    rw [fa_le, e34', e3]
    refine ⟨fun hle x ex => ?_, fun hgt x ex => ?_⟩
    · rw [nI_1] at ex
      have ef : fe (fun k => (m (3 * p + k) : Int) - m k) (i + 1) = fe (fun k => (m (3 * p + k) : Int) - m k) i := by simp only [fe]; rw [if_neg (by omega)]
      exact hrec hlt _ ⟨ex, by rw [ef]; exact e3, by rw [ef]⟩
    · rw [nI_1] at ex
      have ef : fe (fun k => (m (3 * p + k) : Int) - m k) (i + 1) = (some i, (m (3 * p + i) : Int) - m i) := by simp only [fe]; rw [if_pos (by omega)]
      exact hrec hlt _ ⟨ex, by rw [ef]; exact e34', by rw [ef]; rfl⟩
theorem s_X1_passMorning {n : Nat} {C : CV} {al re mo ye : Int32} {weights marks : Nat → Int32} (hn : n ≤ 6) (hR : Rg n C) (hC : Crt n C al re mo ye weights marks) {post : Int32 → (Nat → Int32) → Prop} (h : ∀ (mo2 : Int32) (w2 : Nat → Int32), Crt n (morn n C) al re mo2 ye w2 marks → post mo2 w2) : p_X1_passMorning (nI n) al mo weights marks post := by
  unfold p_X1_passMorning
  intro x7 e7
  obtain ⟨rfl, rfl, rfl, rfl, hw, hm⟩ := id hC
  have hs : rivals C < 2 ^ 31 := by have := p2_6 hn; have := rivals_lt hR.2.2.2.1; omega
  rw [rivals_int]
  refine sX_fair hn hR hC hs ?_
  refine s_X1_leastOf hn (fr_lt n C _) (fun h0 => ⟨fun _ => ?_, fun h => absurd rfl h⟩) (fun h0 hl hb => ⟨fun h => ?_, fun _ => ?_⟩)
  · refine h _ _ ⟨rfl, rfl, e7, rfl, ?_, hm⟩
    show Av weights (if _ then _ else _) 3
    rw [if_pos h0]; exact hw
  · exfalso
    rw [fa_eq, nI_toInt (by omega)] at h
    have : (-9 : Int32).toInt = -9 := rfl
    omega
  · refine s_X1_weighFearOf hn hw hR.1 hm hR.2.2.1 hl (fun w2 hw2 => ?_)
    refine h _ _ ⟨rfl, rfl, e7, rfl, ?_, hm⟩
    show Av w2 (if _ then _ else _) 3
    rw [if_neg h0]; exact hw2
theorem mornW_le {w m : Nat → Nat} {p : Nat} (h : ∀ i, i < 3 → w i ≤ 9) : ∀ i, i < 3 → mornW w m p i ≤ 9 := by
  intro i hi
  unfold mornW
  rcases (fe (fun k => (m (3 * p + k) : Int) - m k) 3).1 with _ | k
  · exact h i hi
  · dsimp only
    split
    · dsimp only
      split
      · rename_i h1 h2; have := h i hi; rw [h2] at this; omega
      · exact h i hi
    · exact h i hi
theorem mornW_pos {w m : Nat → Nat} {p : Nat} (h : 0 < w 0 + w 1 + w 2) : 0 < mornW w m p 0 + mornW w m p 1 + mornW w m p 2 := by
  unfold mornW
  rcases hk : (fe (fun k => (m (3 * p + k) : Int) - m k) 3).1 with _ | k
  · exact h
  · have hk3 := fe_lt _ _ _ hk
    dsimp only
    split
    · rename_i hc
      dsimp only
      rcases (by omega : k = 0 ∨ k = 1 ∨ k = 2) with rfl | rfl | rfl <;> simp <;> omega
    · exact h
theorem Rg.morn {n : Nat} {C : CV} (h : Rg n C) : Rg n (morn n C) := by
  obtain ⟨h1, h2, h3, h4, h5, h6⟩ := h
  refine ⟨fun i hi => ?_, ?_, h3, h4, h5, h6⟩
  · show (if _ then _ else _ : Nat → Nat) i ≤ 9
    split
    · exact h1 i hi
    · exact mornW_le h1 i hi
  · show 0 < (if _ then _ else _ : Nat → Nat) 0 + (if _ then _ else _ : Nat → Nat) 1 + (if _ then _ else _ : Nat → Nat) 2
    split
    · exact h2
    · exact mornW_pos h2
theorem s_X4_goMorning {n : Nat} {C : CV} {page : Nat → Int32} (hn : n ≤ 6) (hR : Rg n C) (hC : Row n C page) {post : (Nat → Int32) → Prop} (h : ∀ p2 : Nat → Int32, Row n (morn n C) p2 → post p2) : p_X4_goMorning (nI n) page post := by
  unfold p_X4_goMorning
  intro x7 e7
  rw [show ix 23 = 23 from rfl, show ix 21 = 21 from rfl] at *
  obtain ⟨hw, hm, h21, h22, h23, h24⟩ := id hC
  rw [h23] at e7
  generalize hpg : upd page 23 x7 = pg
  have pat : ∀ j, j ≠ 23 → pg j = page j := fun j hj => by rw [← hpg, upd_at, if_neg hj]
  have hC1 : Row n (cw C, cm C, ca C, cr C, cmo C + 1, cye C) pg := by
    refine ⟨fun k hk => (pat k (by omega)).trans (hw k hk), fun k hk => (pat (3 + k) (by omega)).trans (hm k hk), (pat 21 (by omega)).trans h21, (pat 22 (by omega)).trans h22, ?_, (pat 24 (by omega)).trans h24⟩
    rw [← hpg, upd_at, if_pos rfl, e7]; rfl
  have hR1 : Rg n (cw C, cm C, ca C, cr C, cmo C + 1, cye C) := hR
  have hs : rivals C < 2 ^ 31 := by have := p2_6 hn; have := rivals_lt hR.2.2.2.1; omega
  refine sM_weightsOf hC1 ?_
  rw [pat 21 (by omega), h21, rivals_int]
  refine sM_fair hn hR1 hC1 hs ?_
  rw [show fr n (cw C, cm C, ca C, cr C, cmo C + 1, cye C) (rivals C) = fr n C (rivals C) from rfl]
  have hfl := fr_lt n C (rivals C)
  have h26 := p2_6 hn
  rw [show (0 : Int32) = nI 0 from rfl, nI_eq (by omega) (by omega)]
  refine ⟨fun h0 => ?_, fun h0 => h _ ⟨?_, hC1.2⟩⟩
  · -- the rival
    have hl := lbf_lt h0 hfl
    have hb := lbf_yes _ _ hl
    have hb0 : (fr n C (rivals C)).testBit 0 = false := by
      rcases hz : (fr n C (rivals C)).testBit 0 with _ | _
      · rfl
      · have := ((fair_is (vl C) (rivals C) n).2 0).mp hz
        have h9 := this.2.1
        rw [rivals_tb] at h9
        simp at h9
    generalize hp : lbf (fr n C (rivals C)) n = p at hl hb
    have hp0 : p ≠ 0 := fun e => by rw [e, hb0] at hb; cases hb
    refine wle_cnt p (fun i (v : Int32) => v = nI i ∧ 1 ≤ i) ?_ _ 1 (by omega) ⟨rfl, Nat.le_refl _⟩
    rintro rec i l3 hi ⟨e3, hi1⟩ hrec
    subst e3
    unfold b_X4_goMorning_32
    refine s_X4_has (by omega) (by omega) (fun hbi => ⟨fun _ => ?_, fun h => absurd h (by decide)⟩) (fun hbi => ⟨fun h => absurd rfl h, fun _ x ex => ?_⟩)
    · have ei : i = p := by
        rcases Nat.lt_or_ge i p with q | q
        · have := lbf_no (fr n C (rivals C)) n i (by omega)
          rw [this] at hbi; cases hbi
        · omega
      subst ei
      have hm9 := hR.2.2.1
      have hw9 := hR.1
      have hd : ∀ k, k < 3 → (nI (cm C (3 * i + k)) - nI (cm C k)).toInt = (cm C (3 * i + k) : Int) - cm C k := fun k hk => by
        have h1 := hm9 (3 * i + k) (by omega)
        have h2 := hm9 k (by omega)
        exact pk_sub_toInt (by omega) (by omega)
      refine wle_cnt 3 (fun j (v : Int32 × Int32 × Int32) => v.2.2 = nI j ∧ v.2.1.toInt = (fe (fun k => (cm C (3 * i + k) : Int) - cm C k) j).2 ∧ v.1 = feI (-9) (fe (fun k => (cm C (3 * i + k) : Int) - cm C k) j).1) ?_ _ 0 (Nat.zero_le _) ⟨rfl, rfl, rfl⟩
      rintro rec2 j ⟨l4, l5, l6⟩ hj ⟨e6, e5, e4⟩ hrec2
      dsimp only at e4 e5 e6 ⊢
      subst e4 e6
      unfold b_X4_goMorning_56
      rw [show (3 : Int32) = nI 3 from rfl, nI_leI (by omega) (by omega)]
      refine ⟨fun hnj => ?_, fun hnj => ?_⟩
      · have e : j = 3 := by omega
        subst e
        have hcw : ∀ k, k < 3 → pg k = nI (cw C k) := hC1.1
        rw [show ix (nI 0) = 0 from rfl, show ix 1 = 1 from rfl, show ix 2 = 2 from rfl, fe3 hcw hw9]
        have g0 := hw9 0 (by omega)
        have g1 := hw9 1 (by omega)
        have g2 := hw9 2 (by omega)
        rw [show (1 : Int32) = nI 1 from rfl, nI_leI (by omega) (by omega)]
        have fin : ∀ p2 : Nat → Int32, Av p2 (mornW (cw C) (cm C) i) 3 → (∀ j, 3 ≤ j → p2 j = pg j) → post p2 := fun p2 q1 q2 => by
          refine h _ ⟨?_, fun k hk => (q2 (3 + k) (by omega)).trans (hC1.2.1 k hk), (q2 21 (by omega)).trans hC1.2.2.1, (q2 22 (by omega)).trans hC1.2.2.2.1, (q2 23 (by omega)).trans hC1.2.2.2.2.1, (q2 24 (by omega)).trans hC1.2.2.2.2.2⟩
          show Av p2 (if _ then _ else _) 3
          rw [if_neg h0, hp]; exact q1
        rcases hk : (fe (fun k => (cm C (3 * i + k) : Int) - cm C k) 3).1 with _ | k
        · refine ⟨fun _ => fin _ ?_ (fun j hj => rfl), fun h => absurd rfl h⟩
          unfold mornW; rw [hk]; exact hcw
        · have hk3 := fe_lt _ _ _ hk
          have hwk := hcw k hk3
          have hwk9 := hw9 k hk3
          simp only [feI_some]
          refine ⟨fun h => ?_, fun _ => ⟨vp_in_nI (by omega) (by omega), ?_⟩⟩
          · exfalso
            rw [fa_eq, nI_toInt (by omega)] at h
            have : (-9 : Int32).toInt = -9 := rfl
            omega
          · rw [ix_nI (show k < 2 ^ 31 by omega), hwk, nI_leI (by omega) (by omega)]
            refine ⟨fun h0 => fin _ ?_ (fun j hj => rfl), fun hpos => ⟨fun hs => fin _ ?_ (fun j hj => rfl), fun hs => ⟨vp_in_nI (by omega) (by omega), fun x ex => ⟨vp_in_nI (by omega) (by omega), fin _ ?_ (fun j hj => ?_)⟩⟩⟩⟩
            · unfold mornW; rw [hk]; dsimp only; rw [if_neg (by omega)]; exact hcw
            · have := hR.2.1
              unfold mornW; rw [hk]; dsimp only; rw [if_neg (by omega)]; exact hcw
            · unfold mornW; rw [hk]; dsimp only; rw [if_pos ⟨by omega, by omega⟩]
              intro j hj
              rw [upd_at]
              dsimp only
              by_cases e : j = k
              · rw [if_pos e, if_pos e, ex, pk_sub (by omega)]
              · rw [if_neg e, if_neg e]; exact hcw j hj
            · rw [upd_at, if_neg (by omega)]
      · have hlt : j < 3 := by omega
        rw [pk_mul, nI_add, nI_add, nI_add, ix_nI (by omega), ix_nI (by omega)]
        refine ⟨vp_in_nI (by omega) (by omega), vp_in_nI (by omega) (by omega), fun x79 e79 => ?_⟩
        have q1 : pg (3 + 3 * i + j) = nI (cm C (3 * i + j)) := by
          have := hC1.2.1 (3 * i + j) (by omega)
          rw [show 3 + 3 * i + j = 3 + (3 * i + j) by omega]; exact this
        have q2 : pg (3 + j) = nI (cm C j) := hC1.2.1 j (by omega)
        rw [q1, q2] at e79
        have e79' : x79.toInt = (cm C (3 * i + j) : Int) - cm C j := by rw [e79]; exact hd j hlt
        rw [fa_le, e79', e5]
        refine ⟨fun hle => ⟨fun _ x ex => ?_, fun h => absurd hle h⟩, fun hgt => ⟨fun h => absurd h hgt, fun _ x ex => ?_⟩⟩
        · rw [nI_1] at ex
          have ef : fe (fun k => (cm C (3 * i + k) : Int) - cm C k) (j + 1) = fe (fun k => (cm C (3 * i + k) : Int) - cm C k) j := by simp only [fe]; rw [if_neg (by omega)]
          exact hrec2 hlt _ ⟨ex, by rw [ef]; exact e5, by rw [ef]⟩
        · rw [nI_1] at ex
          have ef : fe (fun k => (cm C (3 * i + k) : Int) - cm C k) (j + 1) = (some j, (cm C (3 * i + j) : Int) - cm C j) := by simp only [fe]; rw [if_pos (by omega)]
          exact hrec2 hlt _ ⟨ex, by rw [ef]; exact e79', by rw [ef]; rfl⟩
    · rw [nI_1] at ex
      have ei : i ≠ p := fun e => by rw [e, hb] at hbi; cases hbi
      exact hrec (by omega) _ ⟨ex, by omega⟩
  · show Av pg (if _ then _ else _) 3
    rw [if_pos h0]; exact hC1.1
