/-! how many are alive; persons; what was heard; the seed -/
def pcU (a : Nat) : Nat → Nat
  | 0 => 0
  | k + 1 => pcU a k + (if a.testBit k then 1 else 0)
def pcn (a : Nat) : Nat := pcU a 6
theorem pcU_le (a : Nat) : ∀ k, pcU a k ≤ k
  | 0 => Nat.le_refl _
  | k + 1 => by have := pcU_le a k; simp only [pcU]; split <;> omega
def bcf (l0 : Int32) : Int32 :=
  let x9 := l0 - ((jushr l0 1) &&& 1431655765)
  let x23 := (x9 &&& 858993459) + ((jushr x9 2) &&& 858993459)
  let x33 := (x23 + (jushr x23 4)) &&& 252645135
  let x40 := x33 + (jushr x33 8)
  let x47 := x40 + (jushr x40 16)
  x47 &&& 63
theorem bcf_val : ∀ a, a < 64 → bcf (nI a) = nI (pcn a) := by decide +kernel
theorem s_J6_bitCount {a : Nat} (ha : a < 64) {post : Int32 → Prop} (h : post (nI (pcn a))) : p_J6_bitCount_0f7a4 (nI a) post := by
  unfold p_J6_bitCount_0f7a4
  intro x9 e9 x23 e23 x33 e33 x40 e40 x47 e47
  have := bcf_val a ha
  unfold bcf at this
  dsimp only at this
  rw [← e9, ← e23, ← e33, ← e40, ← e47] at this
  rw [this]
  exact h
theorem s_X1_aliveCount {a : Nat} (ha : a < 64) {post : Int32 → Prop} (h : post (nI (pcn a))) : p_X1_aliveCount (nI a) post := s_J6_bitCount ha h
theorem s_X4_many {a : Nat} (ha : a < 2 ^ 31) {post : Int32 → Prop} (h : post (nI (pcn a))) : p_X4_many (nI a) post := by
  unfold p_X4_many
  refine wle_cnt 6 (fun i (v : Int32 × Int32) => v.2 = nI i ∧ v.1 = nI (pcU a i)) ?_ _ 0 (Nat.zero_le _) ⟨rfl, rfl⟩
  rintro rec i ⟨l1, l2⟩ hi ⟨e2, e1⟩ hrec
  dsimp only at e1 e2
  subst e1 e2
  unfold b_X4_many_4
  rw [show (6 : Int32) = nI 6 from rfl, nI_leI (by omega) (by omega)]
  refine ⟨fun hni => ?_, fun hni x17 e17 x18 e18 => ?_⟩
  · have e : i = 6 := by omega
    subst e
    exact h
  · dsimp only at e17 e18 ⊢
    rw [q_bit (by omega) ha, nI_add] at e17
    rw [nI_1] at e18
    exact hrec (by omega) _ ⟨e18, e17⟩
theorem s_X3_person {n : Nat} {C : CV} {ag : Nat → Nat} {al re mo ye : Int32} {weights marks ageing : Nat → Int32} (hn : n ≤ 6) (hR : Rg n C) (hC : Crt n C al re mo ye weights marks) (hA : Av ageing ag n) {l1 l2 : Int32} {post : Int32 → Prop} (hun : (∀ p, p < n → l1 ≠ nI p) → post (-1))
    (h012 : ∀ p k, p < n → l1 = nI p → k < 3 → l2 = nI k → post (nI (cm C (3 * p + k)))) (h3 : ∀ p, p < n → l1 = nI p → l2 = 3 → post (nI (ag p))) (h4 : ∀ p, p < n → l1 = nI p → l2 = 4 → post (if (ca C).testBit p then 1 else 0)) (h5 : ∀ p, p < n → l1 = nI p → l2 = 5 → post (if (cr C).testBit p then 1 else 0)) (h6 : ∀ p, p < n → l1 = nI p → l2 = 6 → post (nI (vl C p)))
    (hd : ∀ p, p < n → l1 = nI p → ¬ l2 = 0 ∧ ¬ l2 = 1 ∧ ¬ l2 = 2 ∧ ¬ l2 = 3 ∧ ¬ l2 = 4 ∧ ¬ l2 = 5 ∧ ¬ l2 = 6 → post (-2)) : p_X3_person (nI n) al re weights marks ageing l1 l2 post := by
  unfold p_X3_person
  obtain ⟨rfl, rfl, -, -, hw, hm⟩ := hC
  refine s_X1_has (by omega) (fun p hp e => ?_) (fun h => ?_)
  · subst e
    have mk : ∀ k, k < 3 → l2 = nI k → (vp_in ((nI p * 3) + l2) 18 ∧ post (marks (ix ((nI p * 3) + l2)))) := fun k hk e => by
      have h9 := h012 p k hp rfl hk e
      subst e
      rw [show (3 : Int32) = nI 3 from rfl, pk_mul, nI_add, ix_nI (by omega)]
      refine ⟨vp_in_nI (by omega) (by omega), ?_⟩
      have e2 := hm (p * 3 + k) (by omega)
      rw [e2, Nat.mul_comm p 3]
      exact h9
    refine ⟨fun _ => ⟨fun e => mk 0 (by omega) e, fun e => mk 1 (by omega) e, fun e => mk 2 (by omega) e, fun e => ⟨vp_in_nI (by omega) (by omega), ?_⟩, fun e => ?_, fun e => ?_, fun e => ?_, fun h => hd p hp rfl h⟩, fun h => absurd h (by decide)⟩
    · rw [ix_nI (by omega), hA p hp]; exact h3 p hp rfl e
    · have h9 := h4 p hp rfl e
      refine s_X1_isAlive (hR.a31 hn) (by omega) (fun hb => ?_) (fun hb => ?_)
      · rw [hb] at h9; exact ⟨fun h => absurd h (by decide), fun _ => h9⟩
      · rw [hb] at h9; exact ⟨fun _ => h9, fun h => absurd rfl h⟩
    · have h9 := h5 p hp rfl e
      refine s_X1_isReported (hR.r31 hn) (by omega) (fun hb => ?_) (fun hb => ?_)
      · rw [hb] at h9; exact ⟨fun h => absurd h (by decide), fun _ => h9⟩
      · rw [hb] at h9; exact ⟨fun _ => h9, fun h => absurd rfl h⟩
    · exact s_X1_valueOf hw hm hp hn (h6 p hp rfl e)
  · exact ⟨fun h2 => absurd rfl h2, fun _ => hun h⟩
theorem s_X4_person {n : Nat} {C : CV} {ag : Nat → Nat} {th : Int32} {page ageing : Nat → Int32} (hn : n ≤ 6) (hR : Rg n C) (hC : Row n C page) (hA : Av ageing ag n) {l1 l2 : Int32} {post : Int32 → Int32 → Prop} (hun : (∀ p, p < n → l1 ≠ nI p) → post (-1) 0)
    (h012 : ∀ p k, p < n → l1 = nI p → k < 3 → l2 = nI k → post (nI (cm C (3 * p + k))) 0) (h3 : ∀ p, p < n → l1 = nI p → l2 = 3 → post (nI (ag p)) 0) (h4 : ∀ p, p < n → l1 = nI p → l2 = 4 → post (if (ca C).testBit p then 1 else 0) 0) (h5 : ∀ p, p < n → l1 = nI p → l2 = 5 → post (if (cr C).testBit p then 1 else 0) 0) (h6 : ∀ p, p < n → l1 = nI p → l2 = 6 → post (nI (vl C p)) 0)
    (hd : ∀ p, p < n → l1 = nI p → ¬ l2 = 0 ∧ ¬ l2 = 1 ∧ ¬ l2 = 2 ∧ ¬ l2 = 3 ∧ ¬ l2 = 4 ∧ ¬ l2 = 5 ∧ ¬ l2 = 6 → post (-2) 0) : p_X4_person th (nI n) ageing page l1 l2 post := by
  unfold p_X4_person
  rw [show ix 21 = 21 from rfl, show ix 22 = 22 from rfl, hC.2.2.1, hC.2.2.2.1]
  refine s_X4_noOne (by omega) (fun p hp e => ?_) (fun h => ?_)
  · subst e
    have mk : ∀ k, k < 3 → l2 = nI k → (vp_in ((3 + (3 * nI p)) + l2) 25 ∧ post (page (ix ((3 + (3 * nI p)) + l2))) 0) := fun k hk e => by
      have h9 := h012 p k hp rfl hk e
      subst e
      rw [show (3 : Int32) = nI 3 from rfl, pk_mul, nI_add, nI_add, ix_nI (by omega)]
      refine ⟨vp_in_nI (by omega) (by omega), ?_⟩
      have e2 : page (3 + (3 * p + k)) = nI (cm C (3 * p + k)) := hC.2.1 (3 * p + k) (by omega)
      rw [show 3 + 3 * p + k = 3 + (3 * p + k) by omega, e2]
      exact h9
    refine ⟨fun _ => ⟨fun e => mk 0 (by omega) e, fun e => mk 1 (by omega) e, fun e => mk 2 (by omega) e, fun e => ⟨vp_in_nI (by omega) (by omega), ?_⟩, fun e => ?_, fun e => ?_, fun e => ?_, fun h => hd p hp rfl h⟩, fun h => absurd rfl h⟩
    · rw [ix_nI (by omega), hA p hp]; exact h3 p hp rfl e
    · have h9 := h4 p hp rfl e
      refine s_X4_has (hR.a31 hn) (by omega) (fun hb => ?_) (fun hb => ?_)
      · rw [hb] at h9; exact ⟨fun h => absurd h (by decide), fun _ => h9⟩
      · rw [hb] at h9; exact ⟨fun _ => h9, fun h => absurd rfl h⟩
    · have h9 := h5 p hp rfl e
      refine s_X4_has (hR.r31 hn) (by omega) (fun hb => ?_) (fun hb => ?_)
      · rw [hb] at h9; exact ⟨fun h => absurd h (by decide), fun _ => h9⟩
      · rw [hb] at h9; exact ⟨fun _ => h9, fun h => absurd rfl h⟩
    · refine sM_weightsOf hC ?_
      have := hR.fig_le
      refine s_X4_valueOf hC.2.1 hp hn (by omega) ?_
      rw [hR.dgv]
      exact h6 p hp rfl e
  · exact ⟨fun h2 => absurd h2 (by decide), fun _ => hun h⟩
theorem s_X3_hear {n h : Nat} {hp hi : Nat → Int32} (hn : n ≤ 6) (hh : h ≤ 6) {l1 l2 : Int32} {post : Int32 → Int32 → (Nat → Int32) → (Nat → Int32) → Prop} (hun : (∀ p, p < n → l1 ≠ nI p) → post (-1) (nI h) hp hi) (hf : ∀ p, p < n → l1 = nI p → h = 6 → post (-4) (nI h) hp hi) (hok : ∀ p, p < n → l1 = nI p → h < 6 → post (nI (h + 1)) (nI (h + 1)) (upd hp h (nI p)) (upd hi h (jbool l2))) : p_X3_hear (nI h) (nI n) hp hi l1 l2 post := by
  unfold p_X3_hear
  refine s_X1_has (by omega) (fun p hp1 e => ?_) (fun h => ?_)
  · rw [show (6 : Int32) = nI 6 from rfl, nI_ltI (by omega) (by omega)]
    refine ⟨fun _ => ⟨fun h6 => ⟨vp_in_nI h6 (by omega), vp_in_nI h6 (by omega), fun x ex => ?_⟩, fun h6 => hf p hp1 e (by omega)⟩, fun h => absurd h (by decide)⟩
    rw [ex, nI_1, ix_nI (by omega), e]
    exact hok p hp1 e h6
  · exact ⟨fun h2 => absurd rfl h2, fun _ => hun h⟩
theorem s_X4_hear {n h : Nat} {th : Int32} {hp hi : Nat → Int32} (hn : n ≤ 6) (hh : h ≤ 6) {l1 l2 : Int32} {post : Int32 → Int32 → Int32 → (Nat → Int32) → (Nat → Int32) → Prop} (hun : (∀ p, p < n → l1 ≠ nI p) → post (-1) 0 (nI h) hp hi) (hf : ∀ p, p < n → l1 = nI p → h = 6 → post (-4) 0 (nI h) hp hi) (hok : ∀ p, p < n → l1 = nI p → h < 6 → post (nI (h + 1)) 0 (nI (h + 1)) (upd hp h (nI p)) (upd hi h (jbool l2))) : p_X4_hear th (nI n) (nI h) hp hi l1 l2 post := by
  unfold p_X4_hear
  refine s_X4_noOne (by omega) (fun p hp1 e => ?_) (fun h => ?_)
  · rw [show (6 : Int32) = nI 6 from rfl, nI_eq (by omega) (by omega)]
    refine ⟨fun _ => ⟨fun h6 => ⟨vp_in_nI (by omega) (by omega), vp_in_nI (by omega) (by omega), fun x ex => ?_⟩, fun h6 => hf p hp1 e (by omega)⟩, fun h => absurd rfl h⟩
    rw [ex, nI_1, ix_nI (by omega), e]
    exact hok p hp1 e (by omega)
  · exact ⟨fun h2 => absurd h2 (by decide), fun _ => hun h⟩
theorem HeardR.push {h : Nat} {hp hi wp wi : Nat → Int32} (hh : HeardR h hp hi wp wi) (h6 : h < 6) {p : Nat} (hp6 : p < 6) {b : Int32} (hb : b = 0 ∨ b = 1) : HeardR (h + 1) (upd hp h (nI p)) (upd hi h (jbool b)) (upd wp h (nI p)) (upd wi h (jbool b)) := by
  have hj : jbool b = b := by rcases hb with rfl | rfl <;> decide
  refine ⟨by omega, fun j hj1 => ?_⟩
  rw [upd_at, upd_at, upd_at, upd_at, hj]
  by_cases e : j = h
  · rw [if_pos e, if_pos e, if_pos e, if_pos e]; exact ⟨rfl, rfl, ⟨p, hp6, rfl⟩, hb⟩
  · rw [if_neg e, if_neg e, if_neg e, if_neg e]; exact hh.2 j (by omega)
