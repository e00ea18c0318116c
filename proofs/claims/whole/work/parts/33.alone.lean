/-! fairest alone: measures, the nearest, a reign, what differs -/
def alB (n : Nat) (m : Nat → Nat) (s W p : Nat) : Bool := decide (fair (val3 (dg W) m) s n = 2 ^ p)
theorem alone_iff {v : Nat → Nat} {s n p : Nat} (hp : p < n) (hs : s.testBit p = true) : fair v s n = 2 ^ p ↔ ∀ q, q < n → q ≠ p → s.testBit q = true → v q < v p := by
  have hF := fair_is v s n
  constructor
  · intro h q hq hqp hb
    rw [h] at hF
    have h1 := (hF.2 p).mp (Nat.testBit_two_pow_self)
    have h2 := h1.2.2 q hq hb
    rcases Nat.lt_or_ge (v q) (v p) with z | z
    · exact z
    · exfalso
      have h3 := (hF.2 q).mpr ⟨hq, hb, fun r hr hrb => by have := h1.2.2 r hr hrb; omega⟩
      rw [Nat.testBit_two_pow] at h3
      simp at h3
      exact hqp h3.symm
  · intro h
    refine hF.one ⟨Nat.pow_lt_pow_right (by decide) hp, fun i => ?_⟩
    rw [Nat.testBit_two_pow]
    constructor
    · intro e
      have e : p = i := by simpa using e
      subst e
      refine ⟨hp, hs, fun q hq hb => ?_⟩
      by_cases z : q = p
      · rw [z]; exact Nat.le_refl _
      · have := h q hq z hb; omega
    · rintro ⟨h1, h2, h3⟩
      have h4 := h3 p hp hs
      by_cases z : i = p
      · subst z; simp
      · have := h i h1 z h2; omega
theorem s_X1_isFairestAlone {w m : Nat → Nat} {weights marks : Nat → Int32} {n s p : Nat} (hw : Av weights w 3) (hm : Av marks m (3 * n)) (hn : n ≤ 6) (hs : s < 2 ^ 31) (hv : ∀ p, p < n → val3 w m p < 2 ^ 31) (hp : p < n) (hb : s.testBit p = true) {post : Int32 → Prop} (h1 : fair (val3 w m) s n = 2 ^ p → post 1) (h0 : ¬ fair (val3 w m) s n = 2 ^ p → post 0) : p_X1_isFairestAlone (nI n) (nI s) weights marks (nI p) post := by
  rw [alone_iff hp hb] at h1 h0
  unfold p_X1_isFairestAlone
  refine s_X1_valueOf hw hm hp hn ?_
  refine wle_cnt n (fun i (v : Int32) => v = nI i ∧ ∀ q, q < i → q ≠ p → s.testBit q = true → val3 w m q < val3 w m p) ?_ _ 0 (Nat.zero_le _) ⟨rfl, fun q hq => by omega⟩
  rintro rec i l3 hi ⟨e3, hh⟩ hrec
  subst e3
  unfold b_X1_isFairestAlone_8
  rw [nI_leI (by omega) (by omega), nI_eq (by omega) (by omega)]
  refine ⟨fun hni => h1 (fun q hq => hh q (by omega)), fun hni => ⟨fun e x ex => ?_, fun e => ?_⟩⟩
  · rw [nI_1] at ex
    refine hrec (by omega) _ ⟨ex, fun q hq z => ?_⟩
    rcases lt_succ_cases hq with y | rfl
    · exact hh q y z
    · exact absurd e z
  · refine s_X1_isAlive hs (by omega) (fun g => ⟨fun h => absurd h (by decide), fun _ => ?_⟩) (fun g => ⟨fun _ x ex => ?_, fun h => absurd rfl h⟩)
    · refine s_X1_valueOf hw hm (by omega) hn ?_
      rw [nI_ltI (hv i (by omega)) (hv p hp)]
      refine ⟨fun hl x ex => ?_, fun hl => h0 fun q => hl (q i (by omega) e g)⟩
      rw [nI_1] at ex
      refine hrec (by omega) _ ⟨ex, fun q hq z => ?_⟩
      rcases lt_succ_cases hq with y | rfl
      · exact hh q y z
      · exact fun _ => hl
    · rw [nI_1] at ex
      refine hrec (by omega) _ ⟨ex, fun q hq z => ?_⟩
      rcases lt_succ_cases hq with y | rfl
      · exact hh q y z
      · exact fun r => by rw [g] at r; cases r
theorem s_X1_weighBy {W : Nat} (hW : W < 2 ^ 31) {weights : Nat → Int32} {post : (Nat → Int32) → Prop} (h : ∀ w2 : Nat → Int32, Av w2 (dg W) 3 → post w2) : p_X1_weighBy weights (nI W) post := by
  unfold p_X1_weighBy
  intro x9 e9 x22 e22 x32 e32
  rw [show nI W / 100 = nI (W / 100) from q_div (d := 100) hW (by omega) (by omega)] at e9
  rw [show nI W / 10 = nI (W / 10) from q_div (d := 10) hW (by omega) (by omega), show jrem (nI (W / 10)) 10 = nI (W / 10 % 10) from q_rem (d := 10) (by omega) (by omega) (by omega)] at e22
  rw [show jrem (nI W) 10 = nI (W % 10) from q_rem (d := 10) hW (by omega) (by omega)] at e32
  refine h _ (fun k hk => ?_)
  rw [show ix 0 = 0 from rfl, show ix 1 = 1 from rfl, show ix 2 = 2 from rfl, upd_at, upd_at, upd_at]
  rcases (by omega : k = 0 ∨ k = 1 ∨ k = 2) with rfl | rfl | rfl
  · rw [if_neg (by omega), if_neg (by omega), if_pos rfl]; exact e9
  · rw [if_neg (by omega), if_pos rfl]; exact e22
  · rw [if_pos rfl]; exact e32
theorem dgv31 {n W : Nat} {C : CV} (hR : Rg n C) (hW : W ≤ 999) : ∀ p, p < n → val3 (dg W) (cm C) p < 2 ^ 31 := fun p hp => by
  have := val3_le hp (dg_le hW) hR.2.2.1
  omega
theorem s_X4_isAlone {n s p W : Nat} {C : CV} {page : Nat → Int32} (hn : n ≤ 6) (hR : Rg n C) (hC : Row n C page) (hs : s < 2 ^ 31) (hW : W ≤ 999) (hp : p < n) {post : Int32 → Prop} (h1 : fair (val3 (dg W) (cm C)) s n = 2 ^ p → post 1) (h0 : ¬ fair (val3 (dg W) (cm C)) s n = 2 ^ p → post 0) : p_X4_isAlone (nI n) page (nI p) (nI s) (nI W) post := by
  unfold p_X4_isAlone
  refine s_X4_fairestOf hC.2.1 hn hs (by omega) (dgv31 hR hW) ?_
  have h64 := p2_6 hn
  have hf := fair_lt (val3 (dg W) (cm C)) s n
  have hp2 : 2 ^ p < 2 ^ n := Nat.pow_lt_pow_right (by decide) hp
  rw [q_shl1 (by omega), nI_eq (by omega) (by omega)]
  exact ⟨h0, h1⟩
theorem s_X3_refuseDead {n : Nat} {C : CV} (hn : n ≤ 6) (hR : Rg n C) {l1 : Int32} {post : Int32 → Prop} (hun : (∀ p, p < n → l1 ≠ nI p) → post (-1)) (hl : ∀ p, p < n → l1 = nI p → (ca C).testBit p = false → post (-3)) (h : ∀ p, p < n → l1 = nI p → (ca C).testBit p = true → post 0) : p_X3_refuseDead (nI n) (nI (ca C)) l1 post := by
  unfold p_X3_refuseDead
  refine s_X1_has (by omega) (fun p hp e => ⟨fun _ => ?_, fun h => absurd h (by decide)⟩) (fun g => ⟨fun h => absurd rfl h, fun _ => hun g⟩)
  subst e
  exact s_X1_isAlive (hR.a31 hn) (by omega) (fun hb => ⟨fun h => absurd h (by decide), fun _ => h p hp rfl hb⟩) (fun hb => ⟨fun _ => hl p hp rfl hb, fun h => absurd rfl h⟩)
def meQ (n : Nat) (C : CV) (p W : Nat) : Bool := decide (W ≠ 0) && alB n (cm C) (ca C) W p
theorem me1 (n : Nat) (C : CV) (p : Nat) : cnt (meQ n C p) 1 = 0 := by
  rw [cnt_f]
  · rfl
  · simp [meQ]
theorem s_X3_measures {n : Nat} {C : CV} {ag : Nat → Nat} {al re mo ye y1 y2 y3 y4 y5 : Int32} {weights marks ageing y6 y7 y8 : Nat → Int32} (hn : n ≤ 6) (hR : Rg n C) (hC : Crt n C al re mo ye weights marks) (hA : Av ageing ag n) {l1 : Int32} {post : Int32 → Int32 → Int32 → Int32 → Int32 → Int32 → (Nat → Int32) → (Nat → Int32) → (Nat → Int32) → Prop} (hun : (∀ p, p < n → l1 ≠ nI p) → post (-1) y1 y2 y3 y4 y5 y6 y7 y8) (hl : ∀ p, p < n → l1 = nI p → (ca C).testBit p = false → post (-3) y1 y2 y3 y4 y5 y6 y7 y8) (h : ∀ p, p < n → l1 = nI p → (ca C).testBit p = true → ∀ (y1 y2 y3 y4 y5 : Int32) (y6 y7 y8 : Nat → Int32), post (nI (cnt (meQ n C p) 1000)) y1 y2 y3 y4 y5 y6 y7 y8) : p_X3_measures (nI n) al re mo ye weights marks ageing y1 y2 y3 y4 y5 y6 y7 y8 l1 post := by
  unfold p_X3_measures
  obtain ⟨rfl, -⟩ := id hC
  refine s_X3_refuseDead hn hR (fun g => ⟨fun h => absurd h (by decide), fun _ => hun g⟩) (fun p hp e g => ⟨fun h => absurd h (by decide), fun _ => hl p hp e g⟩) (fun p hp e g => ⟨fun _ => ?_, fun h => absurd rfl h⟩)
  subst e
  refine s_X1_copyFrom hn hC hA (fun we mk a2 q1 q2 => ?_)
  refine wle_cnt 1000 (fun i (v : Int32 × Int32 × (Nat → Int32)) => v.1 = nI (cnt (meQ n C p) i) ∧ v.2.1 = nI i ∧ 1 ≤ i) ?_ _ 1 (by omega) ⟨by rw [me1]; rfl, rfl, Nat.le_refl _⟩
  rintro rec i ⟨l3, l4, wv⟩ hi ⟨e3, e4, h1⟩ hrec
  dsimp only at e3 e4 ⊢
  subst e3 e4
  unfold b_X3_measures_28
  have c : 999 < nI i ↔ 999 < i := nI_ltI (a := 999) (by omega) (by omega)
  rw [c]
  refine ⟨fun hni => ?_, fun hni => ?_⟩
  · have e : i = 1000 := by omega
    subst e
    exact h p hp rfl g _ _ _ _ _ _ _ _
  · refine s_X1_weighBy (by omega) (fun w2 hw2 => ?_)
    refine s_X1_isFairestAlone hw2 q1.2.2.2.2.2 hn (hR.a31 hn) (dgv31 hR (by omega)) hp g (fun q => ⟨fun h => absurd h (by decide), fun _ x ex x2 ex2 => ?_⟩) (fun q => ⟨fun _ x ex => ?_, fun h => absurd rfl h⟩)
    · have hq : meQ n C p i = true := by
        unfold meQ alB
        rw [decide_eq_true q, decide_eq_true (show i ≠ 0 by omega)]; rfl
      rw [nI_1] at ex ex2
      exact hrec (by omega) _ ⟨by rw [cnt_t hq]; exact ex, ex2, by omega⟩
    · have hq : meQ n C p i = false := by
        unfold meQ alB
        rw [decide_eq_false q, Bool.and_false]
      rw [nI_1] at ex
      exact hrec (by omega) _ ⟨by rw [cnt_f hq], ex, by omega⟩
theorem s_X4_measures {n : Nat} {C : CV} {th : Int32} {page : Nat → Int32} (hn : n ≤ 6) (hR : Rg n C) (hC : Row n C page) {l1 : Int32} {post : Int32 → Int32 → Prop} (hun : (∀ p, p < n → l1 ≠ nI p) → post (-1) 0) (hl : ∀ p, p < n → l1 = nI p → (ca C).testBit p = false → post (-3) 0) (h : ∀ p, p < n → l1 = nI p → (ca C).testBit p = true → post (nI (cnt (meQ n C p) 1000)) 0) : p_X4_measures th (nI n) page l1 post := by
  unfold p_X4_measures
  rw [show ix 21 = 21 from rfl, hC.2.2.1]
  refine s_X4_noOne (by omega) (fun p hp e => ⟨fun _ => ?_, fun h => absurd rfl h⟩) (fun g => ⟨fun h => absurd h (by decide), fun _ => hun g⟩)
  subst e
  refine s_X4_has (hR.a31 hn) (by omega) (fun g => ⟨fun _ => ?_, fun h => absurd h (by decide)⟩) (fun g => ⟨fun h => absurd rfl h, fun _ => hl p hp rfl g⟩)
  refine wle_cnt 1000 (fun i (v : Int32 × Int32) => v.1 = nI (cnt (meQ n C p) i) ∧ v.2 = nI i ∧ 1 ≤ i) ?_ _ 1 (by omega) ⟨by rw [me1]; rfl, rfl, Nat.le_refl _⟩
  rintro rec i ⟨l3, l4⟩ hi ⟨e3, e4, h1⟩ hrec
  dsimp only at e3 e4 ⊢
  subst e3 e4
  unfold b_X4_measures_36
  have c : 999 < nI i ↔ 999 < i := nI_ltI (a := 999) (by omega) (by omega)
  rw [c, show ix 21 = 21 from rfl, hC.2.2.1]
  refine ⟨fun hni => ?_, fun hni => ?_⟩
  · have e : i = 1000 := by omega
    subst e
    exact h p hp rfl g
  · refine s_X4_isAlone hn hR hC (hR.a31 hn) (by omega) hp (fun q => ⟨fun h => absurd h (by decide), fun _ x ex x2 ex2 => ?_⟩) (fun q => ⟨fun _ x ex x2 ex2 => ?_, fun h => absurd rfl h⟩)
    · have hq : meQ n C p i = true := by
        unfold meQ alB
        rw [decide_eq_true q, decide_eq_true (show i ≠ 0 by omega)]; rfl
      rw [nI_1] at ex ex2
      exact hrec (by omega) _ ⟨by rw [cnt_t hq]; exact ex, ex2, by omega⟩
    · have hq : meQ n C p i = false := by
        unfold meQ alB
        rw [decide_eq_false q, Bool.and_false]
      rw [show (0 : Int32) = nI 0 from rfl, nI_add] at ex
      rw [nI_1] at ex2
      exact hrec (by omega) _ ⟨by rw [cnt_f hq]; exact ex, ex2, by omega⟩
/-! the nearest -/
def dist (a b : Nat) : Nat := (a - b) + (b - a)
def apU (w u : Nat → Nat) : Nat → Nat
  | 0 => 0
  | k + 1 => apU w u k + dist (w k) (u k)
theorem jabs_nI {a b : Nat} (ha : a < 2 ^ 30) (hb : b < 2 ^ 30) : jabs (nI a - nI b) = nI (dist a b) := by
  unfold jabs
  by_cases h : b ≤ a
  · rw [if_pos ((nonneg_sub ha hb).mpr h), pk_sub h]; congr 1; unfold dist; omega
  · rw [if_neg (fun q => h ((nonneg_sub ha hb).mp q))]
    have e : (0 : Int32) - (nI a - nI b) = nI b - nI a := by
      apply Int32.toBitVec_inj.1
      show (0 : BitVec 32) - (_ - _) = _ - _
      simp [BitVec.neg_sub]
      rw [BitVec.sub_eq_add_neg, BitVec.add_comm]
    rw [e, pk_sub (by omega)]; congr 1; unfold dist; omega
theorem s_X1_weightsApartFrom {w u : Nat → Nat} {a b : Nat → Int32} (ha : Av a w 3) (hb : Av b u 3) (hw : ∀ i, i < 3 → w i ≤ 9) (hu : ∀ i, i < 3 → u i ≤ 9) {post : Int32 → Prop} (h : post (nI (apU w u 3))) : p_X1_weightsApartFrom a b post := by
  unfold p_X1_weightsApartFrom
  refine wle_cnt 3 (fun i (v : Int32 × Int32) => v.1 = nI (apU w u i) ∧ v.2 = nI i) ?_ _ 0 (by omega) ⟨rfl, rfl⟩
  rintro rec i ⟨l2, l3⟩ hi ⟨e2, e3⟩ hrec
  dsimp only at e2 e3 ⊢
  subst e2 e3
  unfold b_X1_weightsApartFrom_4
  have c : 3 ≤ nI i ↔ 3 ≤ i := nI_leI (a := 3) (by omega) (by omega)
  rw [c, ix_nI (by omega)]
  refine ⟨fun hni => ?_, fun hni => ⟨vp_in_nI (by omega) (by omega), vp_in_nI (by omega) (by omega), fun x ex x2 ex2 => ?_⟩⟩
  · have e : i = 3 := by omega
    subst e
    exact h
  · have h1 := hw i (by omega)
    have h2 := hu i (by omega)
    rw [ha i (by omega), hb i (by omega), jabs_nI (by omega) (by omega), nI_add] at ex
    rw [nI_1] at ex2
    exact hrec (by omega) _ ⟨ex, ex2⟩
theorem s_X4_apart {a b : Nat} (ha : a < 2 ^ 30) (hb : b < 2 ^ 30) {post : Int32 → Prop} (h : post (nI (dist a b))) : p_X4_apart (nI a) (nI b) post := by
  unfold p_X4_apart
  rw [nI_leI (by omega) (by omega)]
  refine ⟨fun g => ?_, fun g => ?_⟩
  · rw [pk_sub g, show a - b = dist a b by unfold dist; omega]; exact h
  · rw [pk_sub (by omega), show b - a = dist a b by unfold dist; omega]; exact h
def nrW (Q : Nat → Bool) (ap : Nat → Nat) : Nat → Option (Nat × Nat)
  | 0 => none
  | k + 1 => if Q k = true ∧ (∀ x, nrW Q ap k = some x → ap k < x.2) then some (k, ap k) else nrW Q ap k
theorem nrW_skip {Q : Nat → Bool} {ap : Nat → Nat} {k : Nat} (h : Q k = false ∨ ∃ x, nrW Q ap k = some x ∧ x.2 ≤ ap k) : nrW Q ap (k + 1) = nrW Q ap k := by
  simp only [nrW]
  rw [if_neg]
  rintro ⟨h1, h2⟩
  rcases h with h | ⟨x, hx, hl⟩
  · rw [h1] at h; cases h
  · have := h2 x hx; omega
theorem nrW_take {Q : Nat → Bool} {ap : Nat → Nat} {k : Nat} (h : Q k = true) (h2 : ¬ ∃ x, nrW Q ap k = some x ∧ x.2 ≤ ap k) : nrW Q ap (k + 1) = some (k, ap k) := by
  have h3 : ∀ x, nrW Q ap k = some x → ap k < x.2 := fun x hx => by
    rcases Nat.lt_or_ge (ap k) x.2 with z | z
    · exact z
    · exact absurd ⟨x, hx, z⟩ h2
  simp only [nrW]
  rw [if_pos ⟨h, h3⟩]
theorem nrW_le {Q : Nat → Bool} {ap : Nat → Nat} {B : Nat} : ∀ k, (∀ j, j < k → ap j < B) → ∀ x, nrW Q ap k = some x → x.2 < B
  | 0, _, x, h => by simp [nrW] at h
  | k + 1, hB, x, h => by
    simp only [nrW] at h
    split at h
    · cases h; exact hB k (by omega)
    · exact nrW_le k (fun j hj => hB j (by omega)) x h
theorem nr_cmp {Q : Nat → Bool} {ap : Nat → Nat} {k : Nat} {z : Int32} (hB : ∀ j, j ≤ k → ap j < 28) (hz : 28 ≤ z.toInt) : askM z (nrW Q ap k) ≤ nI (ap k) ↔ ∃ x, nrW Q ap k = some x ∧ x.2 ≤ ap k := by
  have h1 := hB k (Nat.le_refl _)
  rcases h : nrW Q ap k with _ | x
  · show z ≤ nI (ap k) ↔ _
    rw [fa_le, nI_toInt (by omega)]
    constructor
    · intro q; omega
    · rintro ⟨x, hx, -⟩; cases hx
  · show nI x.2 ≤ nI (ap k) ↔ _
    have h2 := nrW_le k (fun j hj => hB j (by omega)) x h
    rw [nI_leI (by omega) (by omega)]
    constructor
    · intro q; exact ⟨x, rfl, q⟩
    · rintro ⟨y, hy, q⟩; cases hy; exact q
def apW (C : CV) (W : Nat) : Nat := apU (dg W) (cw C) 3
theorem apW_lt {n W : Nat} {C : CV} (hR : Rg n C) (hW : W ≤ 999) : apW C W < 28 := by
  have d0 := dg_le hW 0 (by omega)
  have d1 := dg_le hW 1 (by omega)
  have d2 := dg_le hW 2 (by omega)
  have c0 := hR.1 0 (by omega)
  have c1 := hR.1 1 (by omega)
  have c2 := hR.1 2 (by omega)
  unfold apW
  simp only [apU, dist]
  omega
theorem nr1 (n : Nat) (C : CV) (p : Nat) : nrW (meQ n C p) (apW C) 1 = none := by
  rw [nrW_skip]
  · rfl
  · exact Or.inl (by simp [meQ])
theorem s_X3_nearest {n : Nat} {C : CV} {ag : Nat → Nat} {al re mo ye y1 y2 y3 y4 y5 : Int32} {weights marks ageing y6 y7 y8 : Nat → Int32} (hn : n ≤ 6) (hR : Rg n C) (hC : Crt n C al re mo ye weights marks) (hA : Av ageing ag n) {l1 : Int32} {post : Int32 → Int32 → Int32 → Int32 → Int32 → Int32 → (Nat → Int32) → (Nat → Int32) → (Nat → Int32) → Prop} (hun : (∀ p, p < n → l1 ≠ nI p) → post (-1) y1 y2 y3 y4 y5 y6 y7 y8) (hl : ∀ p, p < n → l1 = nI p → (ca C).testBit p = false → post (-3) y1 y2 y3 y4 y5 y6 y7 y8) (h : ∀ p, p < n → l1 = nI p → (ca C).testBit p = true → ∀ (y1 y2 y3 y4 y5 : Int32) (y6 y7 y8 : Nat → Int32), post (askI (-9) (nrW (meQ n C p) (apW C) 1000)) y1 y2 y3 y4 y5 y6 y7 y8) : p_X3_nearest (nI n) al re mo ye weights marks ageing y1 y2 y3 y4 y5 y6 y7 y8 l1 post := by
  unfold p_X3_nearest
  obtain ⟨rfl, -⟩ := id hC
  refine s_X3_refuseDead hn hR (fun g => ⟨fun h => absurd h (by decide), fun _ => hun g⟩) (fun p hp e g => ⟨fun h => absurd h (by decide), fun _ => hl p hp e g⟩) (fun p hp e g => ⟨fun _ => ?_, fun h => absurd rfl h⟩)
  subst e
  refine s_X1_copyFrom hn hC hA (fun we mk a2 q1 q2 => ?_)
  refine wle_cnt 1000 (fun i (v : Int32 × Int32 × Int32 × (Nat → Int32)) => v.1 = askI (-9) (nrW (meQ n C p) (apW C) i) ∧ v.2.1 = askM 28 (nrW (meQ n C p) (apW C) i) ∧ v.2.2.1 = nI i ∧ 1 ≤ i) ?_ _ 1 (by omega) ⟨by rw [nr1]; rfl, by rw [nr1]; rfl, rfl, Nat.le_refl _⟩
  rintro rec i ⟨l3, l4, l5, wv⟩ hi ⟨e3, e4, e5, h1⟩ hrec
  dsimp only at e3 e4 e5 ⊢
  subst e3 e4 e5
  unfold b_X3_nearest_33
  have c : 999 < nI i ↔ 999 < i := nI_ltI (a := 999) (by omega) (by omega)
  rw [c]
  refine ⟨fun hni => ?_, fun hni => ?_⟩
  · have e : i = 1000 := by omega
    subst e
    exact h p hp rfl g _ _ _ _ _ _ _ _
  · refine s_X1_weighBy (by omega) (fun w2 hw2 => ?_)
    refine s_X1_weightsApartFrom hw2 hC.2.2.2.2.1 (dg_le (by omega)) hR.1 ?_
    show (askM 28 (nrW (meQ n C p) (apW C) i) ≤ nI (apW C i) → _) ∧ (¬ askM 28 (nrW (meQ n C p) (apW C) i) ≤ nI (apW C i) → _)
    rw [nr_cmp (fun j hj => apW_lt hR (by omega)) (by decide)]
    refine ⟨fun q x ex => ?_, fun q0 => ?_⟩
    · rw [nI_1] at ex
      exact hrec (by omega) _ ⟨by rw [nrW_skip (Or.inr q)], by rw [nrW_skip (Or.inr q)], ex, by omega⟩
    · refine s_X1_isFairestAlone hw2 q1.2.2.2.2.2 hn (hR.a31 hn) (dgv31 hR (by omega)) hp g (fun q => ⟨fun h => absurd h (by decide), fun _ x ex => ?_⟩) (fun q => ⟨fun _ x ex => ?_, fun h => absurd rfl h⟩)
      · have hq : meQ n C p i = true := by
          unfold meQ alB
          rw [decide_eq_true q, decide_eq_true (show i ≠ 0 by omega)]; rfl
        rw [nI_1] at ex
        exact hrec (by omega) _ ⟨by rw [nrW_take hq q0]; rfl, by rw [nrW_take hq q0]; rfl, ex, by omega⟩
      · have hq : meQ n C p i = false := by
          unfold meQ alB
          rw [decide_eq_false q, Bool.and_false]
        rw [nI_1] at ex
        exact hrec (by omega) _ ⟨by rw [nrW_skip (Or.inl hq)], by rw [nrW_skip (Or.inl hq)], ex, by omega⟩
theorem s_X4_nearest {n : Nat} {C : CV} {th : Int32} {page : Nat → Int32} (hn : n ≤ 6) (hR : Rg n C) (hC : Row n C page) {l1 : Int32} {post : Int32 → Int32 → Prop} (hun : (∀ p, p < n → l1 ≠ nI p) → post (-1) 0) (hl : ∀ p, p < n → l1 = nI p → (ca C).testBit p = false → post (-3) 0) (h : ∀ p, p < n → l1 = nI p → (ca C).testBit p = true → post (askI (-9) (nrW (meQ n C p) (apW C) 1000)) 0) : p_X4_nearest th (nI n) page l1 post := by
  unfold p_X4_nearest
  rw [show ix 21 = 21 from rfl, hC.2.2.1]
  refine s_X4_noOne (by omega) (fun p hp e => ⟨fun _ => ?_, fun h => absurd rfl h⟩) (fun g => ⟨fun h => absurd h (by decide), fun _ => hun g⟩)
  subst e
  refine s_X4_has (hR.a31 hn) (by omega) (fun g => ⟨fun _ => ?_, fun h => absurd h (by decide)⟩) (fun g => ⟨fun h => absurd rfl h, fun _ => hl p hp rfl g⟩)
  refine wle_cnt 1000 (fun i (v : Int32 × Int32 × Int32) => v.1 = askI (-9) (nrW (meQ n C p) (apW C) i) ∧ v.2.1 = askM 999 (nrW (meQ n C p) (apW C) i) ∧ v.2.2 = nI i ∧ 1 ≤ i) ?_ _ 1 (by omega) ⟨by rw [nr1]; rfl, by rw [nr1]; rfl, rfl, Nat.le_refl _⟩
  rintro rec i ⟨l3, l4, l5⟩ hi ⟨e3, e4, e5, h1⟩ hrec
  dsimp only at e3 e4 e5 ⊢
  subst e3 e4 e5
  unfold b_X4_nearest_42
  have c : 999 < nI i ↔ 999 < i := nI_ltI (a := 999) (by omega) (by omega)
  rw [c, show ix 21 = 21 from rfl, hC.2.2.1, show ix 0 = 0 from rfl, show ix 1 = 1 from rfl, show ix 2 = 2 from rfl, hC.1 0 (by omega), hC.1 1 (by omega), hC.1 2 (by omega)]
  refine ⟨fun hni => ?_, fun hni => ?_⟩
  · have e : i = 1000 := by omega
    subst e
    exact h p hp rfl g
  · rw [show nI i / 100 = nI (i / 100) from q_div (d := 100) (by omega) (by omega) (by omega), show nI i / 10 = nI (i / 10) from q_div (d := 10) (by omega) (by omega) (by omega), show jrem (nI (i / 10)) 10 = nI (i / 10 % 10) from q_rem (d := 10) (by omega) (by omega) (by omega), show jrem (nI i) 10 = nI (i % 10) from q_rem (d := 10) (by omega) (by omega) (by omega)]
    have c0 := hR.1 0 (by omega)
    have c1 := hR.1 1 (by omega)
    have c2 := hR.1 2 (by omega)
    refine s_X4_apart (by omega) (by omega) ?_
    refine s_X4_apart (by omega) (by omega) ?_
    refine s_X4_apart (by omega) (by omega) ?_
    intro x97 e97
    have e97 : x97 = nI (apW C i) := by
      rw [e97, nI_add, nI_add]
      congr 1
      show _ = apU (dg i) (cw C) 3
      simp only [apU, dg]
      simp
    rw [e97, nr_cmp (fun j hj => apW_lt hR (by omega)) (by decide)]
    refine ⟨fun q x ex => ?_, fun q0 => ?_⟩
    · rw [nI_1] at ex
      exact hrec (by omega) _ ⟨by rw [nrW_skip (Or.inr q)], by rw [nrW_skip (Or.inr q)], ex, by omega⟩
    · refine s_X4_isAlone hn hR hC (hR.a31 hn) (by omega) hp (fun q => ⟨fun h => absurd h (by decide), fun _ x ex => ?_⟩) (fun q => ⟨fun _ x ex => ?_, fun h => absurd rfl h⟩)
      · have hq : meQ n C p i = true := by
          unfold meQ alB
          rw [decide_eq_true q, decide_eq_true (show i ≠ 0 by omega)]; rfl
        rw [nI_1] at ex
        exact hrec (by omega) _ ⟨by rw [nrW_take hq q0]; rfl, by rw [nrW_take hq q0]; rfl, ex, by omega⟩
      · have hq : meQ n C p i = false := by
          unfold meQ alB
          rw [decide_eq_false q, Bool.and_false]
        rw [nI_1] at ex
        exact hrec (by omega) _ ⟨by rw [nrW_skip (Or.inl hq)], by rw [nrW_skip (Or.inl hq)], ex, by omega⟩
/-! a reign -/
def rStep (n : Nat) (ag : Nat → Nat) (b : Bool) (C : CV) : CV := yearC (if b then morn n C else C) ag
def itR (n : Nat) (ag : Nat → Nat) (b : Bool) (C : CV) : Nat → CV
  | 0 => C
  | k + 1 => rStep n ag b (itR n ag b C k)
theorem itR_rg {n : Nat} {ag : Nat → Nat} {b : Bool} {C : CV} (h : Rg n C) : ∀ k, Rg n (itR n ag b C k)
  | 0 => h
  | k + 1 => by
    have := itR_rg (ag := ag) (b := b) h k
    show Rg n (yearC (if b then _ else _) ag)
    cases b
    · exact this.year
    · exact this.morn.year
theorem itR_f {n : Nat} {ag : Nat → Nat} {b : Bool} {C : CV} (hb : b = false) (k : Nat) : itR n ag b C (k + 1) = yearC (itR n ag b C k) ag := by subst hb; rfl
theorem itR_t {n : Nat} {ag : Nat → Nat} {b : Bool} {C : CV} (hb : b = true) (k : Nat) : itR n ag b C (k + 1) = yearC (morn n (itR n ag b C k)) ag := by subst hb; rfl
def rules (n : Nat) (ag : Nat → Nat) (b : Bool) (C : CV) (i : Nat) : Prop := fr n (itR n ag b C i) (ca (itR n ag b C i)) = 1
theorem s_X3_reign {n : Nat} {C : CV} {ag : Nat → Nat} {al re mo ye y1 y2 y3 y4 y5 : Int32} {weights marks ageing y6 y7 y8 : Nat → Int32} (hn : n ≤ 6) (hR : Rg n C) (hC : Crt n C al re mo ye weights marks) (hA : Av ageing ag n) (hag : ∀ p, p < n → ag p ≤ 2) {l1 : Int32} {post : Int32 → Int32 → Int32 → Int32 → Int32 → Int32 → (Nat → Int32) → (Nat → Int32) → (Nat → Int32) → Prop} (h0 : n = 0 → post (-3) y1 y2 y3 y4 y5 y6 y7 y8) (hK : 0 < n → (∀ i, i < 31 → rules n ag (decide (l1 ≠ 0)) C i) → ∀ (y1 y2 y3 y4 y5 : Int32) (y6 y7 y8 : Nat → Int32), post (-9) y1 y2 y3 y4 y5 y6 y7 y8) (hS : 0 < n → ∀ i, IsStop (rules n ag (decide (l1 ≠ 0)) C) 31 i → ∀ (y1 y2 y3 y4 y5 : Int32) (y6 y7 y8 : Nat → Int32), post (nI i) y1 y2 y3 y4 y5 y6 y7 y8) : p_X3_reign (nI n) al re mo ye weights marks ageing y1 y2 y3 y4 y5 y6 y7 y8 l1 post := by
  unfold p_X3_reign
  have c0 : nI n = 0 ↔ n = 0 := nI_eq (b := 0) (by omega) (by omega)
  rw [c0]
  refine ⟨fun g => ?_, h0⟩
  refine s_X1_copyFrom hn hC hA (fun we mk a2 q1 q2 => ?_)
  refine wle_cnt 31 (fun i (v : Int32 × Int32 × Int32 × (Nat → Int32) × (Nat → Int32)) => v.1 = nI i ∧ Crt n (itR n ag (decide (l1 ≠ 0)) C i) al re v.2.1 v.2.2.1 v.2.2.2.1 v.2.2.2.2 ∧ ∀ j, j < i → rules n ag (decide (l1 ≠ 0)) C j) ?_ _ 0 (by omega) ⟨rfl, q1, fun j hj => by omega⟩
  rintro rec i ⟨l2, mo, ye, wv, mv⟩ hi ⟨e2, hCi, hh⟩ hrec
  dsimp only at e2 hCi ⊢
  subst e2
  unfold b_X3_reign_26
  have c : 30 < nI i ↔ 30 < i := nI_ltI (a := 30) (by omega) (by omega)
  rw [c]
  have hRi := itR_rg (ag := ag) (b := decide (l1 ≠ 0)) hR i
  refine ⟨fun hni => ?_, fun hni => ?_⟩
  · have e : i = 31 := by omega
    subst e
    exact hK (by omega) hh _ _ _ _ _ _ _ _
  · have ea := hCi.1
    rw [ea]
    refine s_X1_isFairestAlone (p := 0) hCi.2.2.2.2.1 hCi.2.2.2.2.2 hn (hRi.a31 hn) hRi.v31 (by omega) (hRi.2.2.2.2.2 (by omega)) (fun q => ⟨fun _ => ?_, fun h => absurd h (by decide)⟩) (fun q => ⟨fun h => absurd rfl h, fun _ => ?_⟩)
    · have go : ∀ (mo2 ye2 : Int32) (w2 m2 : Nat → Int32), Crt n (itR n ag (decide (l1 ≠ 0)) C (i + 1)) al re mo2 ye2 w2 m2 → ∀ x : Int32, x = nI i + 1 → rec (x, mo2, ye2, w2, m2) := fun mo2 ye2 w2 m2 hq x ex => by
        rw [nI_1] at ex
        refine hrec (by omega) _ ⟨ex, hq, fun j hj => ?_⟩
        rcases lt_succ_cases hj with y | rfl
        · exact hh j y
        · exact q
      rw [← ea]
      refine ⟨fun gl => ?_, fun gl => ?_⟩
      · refine s_X1_passYear hn hRi hCi q2 hag (fun ye2 m2 hq _ x ex => go _ _ _ _ ?_ x ex)
        rw [itR_f (by simpa using gl)]
        exact hq
      · refine s_X1_passMorning hn hRi hCi (fun mo2 w2 hq => ?_)
        refine s_X1_passYear hn hRi.morn hq q2 hag (fun ye2 m2 hq2 _ x ex => go _ _ _ _ ?_ x ex)
        rw [itR_t (by simpa using gl)]
        exact hq2
    · exact hS (by omega) i ⟨by omega, hh, q⟩ _ _ _ _ _ _ _ _
theorem s_X4_reign {n : Nat} {C : CV} {ag : Nat → Nat} {th : Int32} {page ageing tried : Nat → Int32} (hn : n ≤ 6) (hR : Rg n C) (hC : Row n C page) (hA : Av ageing ag n) (hag : ∀ p, p < n → ag p ≤ 2) {l1 : Int32} {post : Int32 → Int32 → (Nat → Int32) → Prop} (h0 : n = 0 → post (-3) 0 tried) (hK : 0 < n → (∀ i, i < 31 → rules n ag (decide (l1 ≠ 0)) C i) → ∀ tried, post (-9) 0 tried) (hS : 0 < n → ∀ i, IsStop (rules n ag (decide (l1 ≠ 0)) C) 31 i → ∀ tried, post (nI i) 0 tried) : p_X4_reign th (nI n) ageing page tried l1 post := by
  unfold p_X4_reign
  have c0 : nI n = 0 ↔ n = 0 := nI_eq (b := 0) (by omega) (by omega)
  rw [c0]
  refine ⟨fun g => ?_, h0⟩
  refine s_X4_begin (fun t2 ht2 => ?_)
  refine wle_cnt 31 (fun i (v : Int32 × (Nat → Int32)) => v.1 = nI i ∧ Row n (itR n ag (decide (l1 ≠ 0)) C i) v.2 ∧ ∀ j, j < i → rules n ag (decide (l1 ≠ 0)) C j) ?_ _ 0 (by omega) ⟨rfl, hC.cong hn ht2, fun j hj => by omega⟩
  rintro rec i ⟨l2, tv⟩ hi ⟨e2, hCi, hh⟩ hrec
  dsimp only at e2 hCi ⊢
  subst e2
  unfold b_X4_reign_21
  have c : 30 < nI i ↔ 30 < i := nI_ltI (a := 30) (by omega) (by omega)
  rw [c]
  have hRi := itR_rg (ag := ag) (b := decide (l1 ≠ 0)) hR i
  refine ⟨fun hni => ?_, fun hni => ?_⟩
  · have e : i = 31 := by omega
    subst e
    exact hK (by omega) hh _
  · refine sM_weightsOf hCi ?_
    rw [show ix 21 = 21 from rfl, hCi.2.2.1]
    refine sM_fair hn hRi hCi (hRi.a31 hn) ?_
    have hfl := fr_lt n (itR n ag (decide (l1 ≠ 0)) C i) (ca (itR n ag (decide (l1 ≠ 0)) C i))
    have h64 := p2_6 hn
    have c1 : nI (fr n (itR n ag (decide (l1 ≠ 0)) C i) (ca (itR n ag (decide (l1 ≠ 0)) C i))) = 1 ↔ fr n (itR n ag (decide (l1 ≠ 0)) C i) (ca (itR n ag (decide (l1 ≠ 0)) C i)) = 1 := nI_eq (b := 1) (by omega) (by omega)
    rw [c1]
    refine ⟨fun q => ?_, fun q => hS (by omega) i ⟨by omega, hh, q⟩ _⟩
    have go : ∀ t2 : Nat → Int32, Row n (itR n ag (decide (l1 ≠ 0)) C (i + 1)) t2 → ∀ x : Int32, x = nI i + 1 → rec (x, t2) := fun t2 hq x ex => by
      rw [nI_1] at ex
      refine hrec (by omega) _ ⟨ex, hq, fun j hj => ?_⟩
      rcases lt_succ_cases hj with y | rfl
      · exact hh j y
      · exact q
    refine ⟨fun gl => ?_, fun gl => ?_⟩
    · refine s_X4_goYear hn hRi hCi hA hag (fun t2 hq x ex => go _ ?_ x ex)
      rw [itR_f (by simpa using gl)]
      exact hq
    · refine s_X4_goMorning hn hRi hCi (fun t2 hq => ?_)
      refine s_X4_goYear hn hRi.morn hq hA hag (fun t3 hq2 x ex => go _ ?_ x ex)
      rw [itR_t (by simpa using gl)]
      exact hq2
theorem s_X3_differs {n : Nat} {C : CV} {ag : Nat → Nat} {al re mo ye y1 y2 y3 y4 y5 : Int32} {weights marks ageing y6 y7 y8 : Nat → Int32} (hn : n ≤ 6) (hR : Rg n C) (hC : Crt n C al re mo ye weights marks) (hA : Av ageing ag n) {l1 : Int32} {post : Int32 → Int32 → Int32 → Int32 → Int32 → Int32 → (Nat → Int32) → (Nat → Int32) → (Nat → Int32) → Prop} (hd : (∀ W, W ≠ 0 → W < 1000 → l1 ≠ nI W) → post (-2) y1 y2 y3 y4 y5 y6 y7 y8) (h : ∀ W, W ≠ 0 → W < 1000 → l1 = nI W → ∀ (y1 y2 y3 y4 y5 : Int32) (y6 y7 y8 : Nat → Int32), post (nI (fr n C (ca C) ^^^ fair (val3 (dg W) (cm C)) (ca C) n)) y1 y2 y3 y4 y5 y6 y7 y8) : p_X3_differs (nI n) al re mo ye weights marks ageing y1 y2 y3 y4 y5 y6 y7 y8 l1 post := by
  unfold p_X3_differs
  rcases ix_cases l1 (n := 1000) (by omega) with ⟨W, hW, rfl⟩ | ⟨hx, hx2⟩
  · have c1 : nI W < 1 ↔ W < 1 := nI_ltI (b := 1) (by omega) (by omega)
    have c9 : nI W ≤ 999 ↔ W ≤ 999 := nI_leI (b := 999) (by omega) (by omega)
    rw [c1, c9]
    refine ⟨fun g => hd (fun V g1 g2 e => ?_), fun g => ⟨fun g9 => ?_, fun g9 => by omega⟩⟩
    · rw [nI_eq (by omega) (by omega)] at e; omega
    · refine s_X1_copyFrom hn hC hA (fun we mk a2 q1 q2 => ?_)
      refine s_X1_weighBy (by omega) (fun w2 hw2 => ?_)
      obtain ⟨rfl, -⟩ := id hC
      refine sX_fair hn hR hC (hR.a31 hn) ?_
      refine s_X1_fairestOf hw2 q1.2.2.2.2.2 hn (hR.a31 hn) (dgv31 hR g9) ?_
      rw [fa_xor]
      exact h W (by omega) hW rfl _ _ _ _ _ _ _ _
  · have hb : post (-2) y1 y2 y3 y4 y5 y6 y7 y8 := hd (fun V g1 g2 e => hx V g2 e)
    refine ⟨fun _ => hb, fun g1 => ⟨fun g9 => ?_, fun _ => hb⟩⟩
    rw [fa_lt, show (1 : Int32).toInt = 1 from rfl] at g1
    rw [fa_le, show (999 : Int32).toInt = 999 from rfl] at g9
    omega
theorem s_X4_differs {n : Nat} {C : CV} {th : Int32} {page : Nat → Int32} (hn : n ≤ 6) (hR : Rg n C) (hC : Row n C page) {l1 : Int32} {post : Int32 → Int32 → Prop} (hd : (∀ W, W ≠ 0 → W < 1000 → l1 ≠ nI W) → post (-2) 0) (h : ∀ W, W ≠ 0 → W < 1000 → l1 = nI W → post (nI (fr n C (ca C) ^^^ fair (val3 (dg W) (cm C)) (ca C) n)) 0) : p_X4_differs th (nI n) page l1 post := by
  unfold p_X4_differs
  have e1 : (1 : Int64).toInt = 1 := rfl
  have e9 : (999 : Int64).toInt = 999 := rfl
  refine s_X4_in (fun g1 g2 => ⟨fun h => absurd h (by decide), fun _ => ?_⟩) (fun g => ⟨fun _ => hd (fun W g1 g2 e => g ?_), fun h => absurd rfl h⟩)
  · rw [Int32.toInt_toInt64, e1] at g1
    rw [Int32.toInt_toInt64, e9] at g2
    rcases ix_cases l1 (n := 1000) (by omega) with ⟨W, hW, rfl⟩ | ⟨hx, hx2⟩
    · rw [nI_toInt (by omega)] at g1
      refine sM_fairest hn hR hC ?_
      rw [show ix 21 = 21 from rfl, hC.2.2.1]
      refine s_X4_fairestOf hC.2.1 hn (hR.a31 hn) (by omega) (dgv31 hR (by omega)) ?_
      rw [fa_xor]
      exact h W (by omega) hW rfl
    · omega
  · rw [Int32.toInt_toInt64, e1, e9, e, nI_toInt (by omega)]; omega
