/-! what the choosers choose: the class -/
/-- how many choosers stand before one -/
def tn (a : Nat) : Nat → Nat
  | 0 => 0
  | p + 1 => tn a p + (if 1 ≤ p ∧ a.testBit p = true then 1 else 0)
theorem tn_t {a p : Nat} (h : 1 ≤ p) (hb : a.testBit p = true) : tn a (p + 1) = tn a p + 1 := by simp only [tn]; rw [if_pos ⟨h, hb⟩]
theorem tn_f {a p : Nat} (hb : a.testBit p = false) : tn a (p + 1) = tn a p := by
  simp only [tn]
  rw [if_neg (fun q => by rw [hb] at q; cases q.2), Nat.add_zero]
theorem tn_le (a : Nat) : ∀ p, 1 ≤ p → tn a p ≤ p - 1
  | 0, h => by omega
  | p + 1, _ => by
    simp only [tn]
    by_cases e : 1 ≤ p
    · have := tn_le a p e
      split <;> omega
    · have : p = 0 := by omega
      subst this
      rw [if_neg (fun q => e q.1)]
      simp [tn]
theorem tn_mono (a : Nat) {p : Nat} : ∀ q, p ≤ q → tn a p ≤ tn a q
  | 0, h => by have : p = 0 := by omega
               rw [this]; exact Nat.le_refl _
  | q + 1, h => by
    by_cases e : p = q + 1
    · rw [e]; exact Nat.le_refl _
    · have := tn_mono a (p := p) q (by omega)
      simp only [tn]
      omega
theorem tn_lt {a p q : Nat} (h : 1 ≤ p) (hb : a.testBit p = true) (hpq : p < q) : tn a p < tn a q := by
  have h1 := tn_t h hb
  have h2 := tn_mono a (p := p + 1) q hpq
  omega
theorem tn_inj {a p q : Nat} (h : 1 ≤ p) (hb : a.testBit p = true) (h2 : 1 ≤ q) (hb2 : a.testBit q = true) (e : tn a p = tn a q) : p = q := by
  rcases Nat.lt_trichotomy p q with z | z | z
  · have := tn_lt h hb z; omega
  · exact z
  · have := tn_lt h2 hb2 z; omega
def persU (a l : Nat) : Nat → Nat
  | 0 => 0
  | p + 1 => if 1 ≤ p ∧ a.testBit p = true ∧ tn a p = l then p else persU a l p
theorem pers_is {a l : Nat} : ∀ n, l < tn a n → persU a l n < n ∧ 1 ≤ persU a l n ∧ a.testBit (persU a l n) = true ∧ tn a (persU a l n) = l
  | 0, h => by simp [tn] at h
  | p + 1, h => by
    simp only [persU]
    by_cases e : 1 ≤ p ∧ a.testBit p = true ∧ tn a p = l
    · rw [if_pos e]; exact ⟨by omega, e⟩
    · rw [if_neg e]
      have hl : l < tn a p := by
        simp only [tn] at h
        split at h
        · rename_i q
          rcases lt_succ_cases h with z | z
          · exact z
          · exact absurd ⟨q.1, q.2, z.symm⟩ e
        · exact h
      have := pers_is p hl
      exact ⟨by omega, this.2⟩
def cN (n : Nat) (C : CV) : Nat := tn (ca C) n
def P (n : Nat) (C : CV) (j : Nat) : Nat := persU (ca C) j n
theorem P_is {n j : Nat} {C : CV} (h : j < cN n C) : P n C j < n ∧ 1 ≤ P n C j ∧ (ca C).testBit (P n C j) = true ∧ tn (ca C) (P n C j) = j := pers_is n h
theorem P_tn {n p : Nat} {C : CV} (h1 : 1 ≤ p) (hp : p < n) (hb : (ca C).testBit p = true) : tn (ca C) p < cN n C ∧ P n C (tn (ca C) p) = p := by
  have h := tn_lt h1 hb hp
  have h2 := P_is (n := n) (C := C) h
  exact ⟨h, tn_inj h2.2.1 h2.2.2.1 h1 hb h2.2.2.2⟩
theorem cN_le {n : Nat} (hn : n ≤ 6) (h0 : 0 < n) (C : CV) : cN n C ≤ 5 := by
  have := tn_le (ca C) n h0
  unfold cN; omega
theorem p3 {k : Nat} (h : k ≤ 5) : 3 ^ k ≤ 243 := Nat.pow_le_pow_right (n := 3) (by decide) h
theorem p3p (k : Nat) : 0 < 3 ^ k := Nat.pow_pos (by decide)
theorem wys_3 : ∀ k, k < 6 → wys k = nI (3 ^ k) := by decide
/-- a chooser's value if so many are made plain of each -/
def chV (C : CV) (p k : Nat) : Nat := val3 (cw C) (fun i => cm C i - k) p
def chR (n : Nat) (C : CV) (r j : Nat) : Nat := r / 3 ^ (cN n C - 1 - j) % 3
def wv (n : Nat) (C : CV) (r j : Nat) : Nat := chV C (P n C j) (chR n C r j)
def woI (n : Nat) (C : CV) (r j : Nat) : Int32 := if vl C 0 ≤ wv n C r j ∧ (∀ i, i < cN n C → wv n C r i ≤ wv n C r j) then -1 else nI (wv n C r j)
def pick (n : Nat) (C : CV) (l a b : Nat) : Nat := if woI n C b l ≤ woI n C a l then a else b
def Ev (n : Nat) (C : CV) : Nat → Nat → Nat
  | 0, i => i
  | d + 1, i => pick n C (cN n C - (d + 1)) (pick n C (cN n C - (d + 1)) (Ev n C d (3 * i)) (Ev n C d (3 * i + 1))) (Ev n C d (3 * i + 2))
theorem pick_lt {n : Nat} {C : CV} {l a b B : Nat} (ha : a < B) (hb : b < B) : pick n C l a b < B := by
  unfold pick; split <;> omega
theorem Ev_lt {n : Nat} {C : CV} {B : Nat} : ∀ d i, 3 ^ d * i + 3 ^ d ≤ B → Ev n C d i < B
  | 0, i, h => by simp at h; exact h
  | d + 1, i, h => by
    have e : 3 ^ (d + 1) = 3 ^ d * 3 := Nat.pow_succ 3 d
    rw [e, Nat.mul_assoc] at h
    have h0 : 3 ^ d * (3 * i + 1) = 3 ^ d * (3 * i) + 3 ^ d := by rw [Nat.mul_add, Nat.mul_one]
    have h1 : 3 ^ d * (3 * i + 2) = 3 ^ d * (3 * i) + 3 ^ d * 2 := by rw [Nat.mul_add]
    simp only [Ev]
    refine pick_lt (pick_lt (Ev_lt d _ ?_) (Ev_lt d _ ?_)) (Ev_lt d _ ?_)
    · omega
    · rw [h0]; omega
    · rw [h1]; omega
theorem Ev_row {n d i : Nat} {C : CV} (hd : d ≤ cN n C) (hi : i < 3 ^ (cN n C - d)) : Ev n C d i < 3 ^ cN n C := by
  refine Ev_lt d i ?_
  have e : 3 ^ cN n C = 3 ^ d * 3 ^ (cN n C - d) := by rw [← Nat.pow_add]; congr 1; omega
  have := Nat.mul_le_mul_left (3 ^ d) (show i + 1 ≤ 3 ^ (cN n C - d) from hi)
  rw [Nat.mul_succ] at this
  rw [e]; exact this
theorem chV_le {n p k : Nat} {C : CV} (hR : Rg n C) (hp : p < n) : chV C p k ≤ 243 := val3_le hp hR.1 (fun i hi => Nat.le_trans (Nat.sub_le _ _) (hR.2.2.1 i hi))
def pvU (w m : Nat → Nat) (p k : Nat) : Nat → Nat
  | 0 => 0
  | i + 1 => pvU w m p k i + w i * (m (3 * p + i) - k)
theorem s_X1_valueIfPlain {n p k : Nat} {C : CV} {al re mo ye : Int32} {weights marks : Nat → Int32} (hn : n ≤ 6) (hR : Rg n C) (hC : Crt n C al re mo ye weights marks) (hp : p < n) (hk : k < 3) {post : Int32 → Prop} (h : post (nI (chV C p k))) : p_X1_valueIfPlain weights marks (nI p) (nI k) post := by
  unfold p_X1_valueIfPlain
  refine wle_cnt 3 (fun i (v : Int32 × Int32) => v.1 = nI (pvU (cw C) (cm C) p k i) ∧ v.2 = nI i) ?_ _ 0 (by omega) ⟨rfl, rfl⟩
  rintro rec i ⟨l3, l4⟩ hi ⟨e3, e4⟩ hrec
  dsimp only at e3 e4 ⊢
  subst e3 e4
  unfold b_X1_valueIfPlain_5
  rw [show (3 : Int32) = nI 3 from rfl, nI_leI (by omega) (by omega), pk_mul, nI_add, ix_nI (by omega)]
  refine ⟨fun hni => ?_, fun hni => ?_⟩
  · have e : i = 3 := by omega
    subst e
    have e : pvU (cw C) (cm C) p k 3 = chV C p k := by simp [pvU, chV, val3]
    dsimp only
    rw [e]; exact h
  · rw [ix_nI (by omega)]
    refine ⟨vp_in_nI (by omega) (by omega), vp_in_nI (by omega) (by omega), fun x38 e38 x39 e39 => ?_⟩
    rw [nI_1] at e39
    have h9 := hR.2.2.1 (3 * p + i) (by omega)
    rw [hC.2.2.2.2.1 i (by omega), Nat.mul_comm p 3, hC.2.2.2.2.2 (3 * p + i) (by omega), jmax0 (by omega) (by omega), pk_mul, nI_add] at e38
    exact hrec (by omega) _ ⟨e38, e39⟩
/-- what the class's table holds -/
def MR (n : Nat) (C : CV) (b : Nat) (values turnOf : Nat → Int32) : Prop := (∀ j k, j < tn (ca C) b → k < 3 → values (3 * j + k) = nI (chV C (P n C j) k)) ∧ (∀ p, 1 ≤ p → p < b → (ca C).testBit p = true → turnOf p = nI (tn (ca C) p))
theorem s_X0_meet {n : Nat} {C : CV} {al re mo ye x1 x2 : Int32} {weights marks values turnOf : Nat → Int32} (hn : n ≤ 6) (h0 : 0 < n) (hR : Rg n C) (hC : Crt n C al re mo ye weights marks) {post : Int32 → Int32 → (Nat → Int32) → (Nat → Int32) → Prop} (h : ∀ va tu, MR n C n va tu → post (nI (cN n C)) (nI (vl C 0)) va tu) : p_X0_meet x1 x2 values turnOf (nI n) al weights marks post := by
  unfold p_X0_meet
  refine s_X1_valueOf (p := 0) hC.2.2.2.2.1 hC.2.2.2.2.2 h0 hn ?_
  refine wle_cnt n (fun i (v : Int32 × Int32 × (Nat → Int32) × (Nat → Int32)) => v.1 = nI i ∧ v.2.1 = nI (tn (ca C) i) ∧ MR n C i v.2.2.1 v.2.2.2 ∧ 1 ≤ i) ?_ _ 1 h0 ⟨rfl, ?_, ⟨fun j k hj => ?_, fun p h1 h2 => by omega⟩, Nat.le_refl _⟩
  · rintro rec i ⟨l2, ch, va, tu⟩ hi ⟨e2, e3, hM, h1⟩ hrec
    dsimp only at e2 e3 hM ⊢
    subst e2 e3
    unfold b_X0_meet_16
    rw [nI_leI (by omega) (by omega), hC.1]
    refine ⟨fun hni => ?_, fun hni => ?_⟩
    · have e : i = n := by omega
      subst e
      exact h _ _ hM
    · have htl := tn_le (ca C) i h1
      refine s_X1_isAlive (hR.a31 hn) (by omega) (fun hb => ⟨fun h => absurd h (by decide), fun _ => ⟨vp_in_nI (by omega) (by omega), ?_⟩⟩) (fun hb => ⟨fun _ x ex => ?_, fun h => absurd rfl h⟩)
      · obtain ⟨hc, hP⟩ := P_tn h1 (show i < n by omega) hb
        refine wle_cnt 3 (fun k (v : Int32 × (Nat → Int32)) => v.1 = nI k ∧ (∀ x, x < k → v.2 (3 * tn (ca C) i + x) = nI (chV C i x)) ∧ (∀ j, j < 3 * tn (ca C) i → v.2 j = va j)) ?_ _ 0 (by omega) ⟨rfl, fun x hx => by omega, fun j hj => rfl⟩
        rintro rec2 k ⟨l3, va2⟩ hk ⟨e3, hv, hv2⟩ hrec2
        dsimp only at e3 hv hv2 ⊢
        subst e3
        unfold b_X0_meet_44
        rw [show (3 : Int32) = nI 3 from rfl, nI_leI (by omega) (by omega), pk_mul, nI_add, ix_nI (by omega), ix_nI (by omega)]
        refine ⟨fun hnk x ex x2 ex2 => ?_, fun hnk => ?_⟩
        · have e : k = 3 := by omega
          subst e
          rw [nI_1] at ex ex2
          refine hrec (by omega) _ ⟨ex2, ?_, ⟨fun j k hj hk => ?_, fun p hp1 hp2 hpb => ?_⟩, by omega⟩
          · rw [tn_t h1 hb]; exact ex
          · rw [tn_t h1 hb] at hj
            show va2 (3 * j + k) = _
            rcases lt_succ_cases hj with z | z
            · rw [hv2 _ (by omega)]; exact hM.1 j k z hk
            · rw [z, hP]; exact hv k hk
          · show upd tu _ _ p = _
            rw [upd_at]
            by_cases e : p = i
            · rw [if_pos e, e]
            · rw [if_neg e]; exact hM.2 p hp1 (by omega) hpb
        · refine s_X1_valueIfPlain hn hR hC (show i < n by omega) (by omega) ⟨vp_in_nI (by omega) (by omega), fun x ex => ?_⟩
          rw [nI_1] at ex
          refine hrec2 (by omega) _ ⟨ex, fun y hy => ?_, fun j hj => ?_⟩
          · show upd va2 _ _ _ = _
            rw [upd_at]
            by_cases e : y = k
            · rw [if_pos (by omega), e]
            · rw [if_neg (by omega)]; exact hv y (by omega)
          · show upd va2 _ _ j = _
            rw [upd_at, if_neg (by omega)]; exact hv2 j hj
      · rw [nI_1] at ex
        refine hrec (by omega) _ ⟨ex, by rw [tn_f hb], ⟨fun j k hj hk => ?_, fun p hp1 hp2 hpb => ?_⟩, by omega⟩
        · rw [tn_f hb] at hj
          exact hM.1 j k hj hk
        · refine hM.2 p hp1 ?_ hpb
          rcases lt_succ_cases hp2 with z | z
          · exact z
          · rw [z, hb] at hpb; cases hpb
  · simp [tn]; rfl
  · simp [tn] at hj
theorem s_X0_choiceAt {n r j : Nat} {C : CV} (hc : cN n C ≤ 5) (hr : r < 2 ^ 31) (hj : j < cN n C) {post : Int32 → Prop} (h : post (nI (chR n C r j))) : p_X0_choiceAt (nI (cN n C)) (nI r) (nI j) post := by
  unfold p_X0_choiceAt
  have e : nI (cN n C) - 1 - nI j = nI (cN n C - 1 - j) := by
    rw [show nI (cN n C) - 1 = nI (cN n C - 1) from pk_sub (b := 1) (by omega), pk_sub (by omega)]
  have b1 := p3 (k := cN n C - 1 - j) (by omega)
  have b2 := p3p (cN n C - 1 - j)
  rw [e, ix_nI (by omega), wys_3 _ (by omega), q_div hr b2 (by omega), show jrem (nI (r / 3 ^ (cN n C - 1 - j))) 3 = nI (chR n C r j) from q_rem (d := 3) (by have := Nat.div_le_self r (3 ^ (cN n C - 1 - j)); omega) (by omega) (by omega)]
  refine ⟨vp_in_nI (by omega) (by omega), ?_, h⟩
  have c0 : nI (3 ^ (cN n C - 1 - j)) = 0 ↔ 3 ^ (cN n C - 1 - j) = 0 := nI_eq (b := 0) (by omega) (by omega)
  rw [c0]; omega
theorem chR_lt (n : Nat) (C : CV) (r j : Nat) : chR n C r j < 3 := Nat.mod_lt _ (by omega)
theorem s_X0_valueAt {n r j : Nat} {C : CV} {va tu : Nat → Int32} (hc : cN n C ≤ 5) (hM : MR n C n va tu) (hr : r < 2 ^ 31) (hj : j < cN n C) {post : Int32 → Prop} (h : post (nI (wv n C r j))) : p_X0_valueAt (nI (cN n C)) va (nI r) (nI j) post := by
  unfold p_X0_valueAt
  refine s_X0_choiceAt hc hr hj ?_
  have h3 := chR_lt n C r j
  rw [show (3 : Int32) = nI 3 from rfl, pk_mul, nI_add, ix_nI (by omega), Nat.mul_comm j 3, hM.1 j _ hj h3]
  exact ⟨vp_in_nI (by omega) (by omega), h⟩
theorem wv_le {n r j : Nat} {C : CV} (hR : Rg n C) (hj : j < cN n C) : wv n C r j ≤ 243 := chV_le hR (P_is hj).1
theorem s_X0_worthAt {n r j : Nat} {C : CV} {va tu : Nat → Int32} (hn : n ≤ 6) (h0 : 0 < n) (hR : Rg n C) (hM : MR n C n va tu) (hr : r < 2 ^ 31) (hj : j < cN n C) {post : Int32 → Prop} (h : post (woI n C r j)) : p_X0_worthAt (nI (cN n C)) (nI (vl C 0)) va (nI r) (nI j) post := by
  unfold p_X0_worthAt
  have hc := cN_le hn h0 C
  have hv0 := hR.v31 0 h0
  have hvj := wv_le (r := r) hR hj
  refine s_X0_valueAt hc hM hr hj ?_
  rw [nI_leI hv0 (by omega)]
  unfold woI at h
  refine ⟨fun g => ?_, fun g => ?_⟩
  · refine wle_cnt (cN n C) (fun i (v : Int32) => v = nI i ∧ ∀ x, x < i → wv n C r x ≤ wv n C r j) ?_ _ 0 (by omega) ⟨rfl, fun x hx => by omega⟩
    rintro rec i l4 hi ⟨e4, hh⟩ hrec
    subst e4
    unfold b_X0_worthAt_20
    rw [nI_leI (by omega) (by omega)]
    refine ⟨fun hni => ?_, fun hni => ?_⟩
    · rw [if_pos ⟨g, fun i hi => hh i (by omega)⟩] at h
      exact h
    · have hvi := wv_le (r := r) hR (show i < cN n C by omega)
      refine s_X0_valueAt hc hM hr (by omega) ?_
      rw [nI_leI (by omega) (by omega)]
      refine ⟨fun q x ex => ?_, fun q => ?_⟩
      · rw [nI_1] at ex
        refine hrec (by omega) _ ⟨ex, fun y hy => ?_⟩
        rcases lt_succ_cases hy with z | rfl
        · exact hh y z
        · exact q
      · rw [if_neg (fun z => q (z.2 i (by omega)))] at h
        exact h
  · rw [if_neg (fun z => g z.1)] at h
    exact h
theorem s_X0_bestEnd {n d i : Nat} {C : CV} {va tu ends : Nat → Int32} (hn : n ≤ 6) (h0 : 0 < n) (hR : Rg n C) (hM : MR n C n va tu) (hd : d + 1 ≤ cN n C) (hi : i < 3 ^ (cN n C - (d + 1))) (hE : ∀ k, k < 3 → ends (3 * i + k) = nI (Ev n C d (3 * i + k))) {post : Int32 → Prop} (h : post (nI (Ev n C (d + 1) i))) : p_X0_bestEnd (nI (cN n C)) (nI (vl C 0)) va ends (nI (cN n C - (d + 1))) (nI i) post := by
  unfold p_X0_bestEnd
  have hc := cN_le hn h0 C
  have b5 := p3 hc
  have e3 : 3 ^ (cN n C - d) = 3 ^ (cN n C - (d + 1)) * 3 := by rw [← Nat.pow_succ]; congr 1; omega
  have b4 := p3 (k := cN n C - d) (by omega)
  have hrow : ∀ k, k < 3 → Ev n C d (3 * i + k) < 3 ^ cN n C := fun k hk => Ev_row (by omega) (by omega)
  have r0 : Ev n C d (3 * i) < 3 ^ cN n C := hrow 0 (by omega)
  have r1 := hrow 1 (by omega)
  have r2 := hrow 2 (by omega)
  rw [show (3 : Int32) = nI 3 from rfl, pk_mul, ix_nI (by omega)]
  refine ⟨vp_in_nI (by omega) (by omega), fun x8 e8 => ?_⟩
  have e8 : x8 = nI (Ev n C d (3 * i)) := by rw [e8, Nat.mul_comm]; exact hE 0 (by omega)
  subst e8
  refine wle_cnt 3 (fun k (v : Int32 × Int32) => v.2 = nI k ∧ 1 ≤ k ∧ (k = 1 → v.1 = nI (Ev n C d (3 * i))) ∧ (k = 2 → v.1 = nI (pick n C (cN n C - (d + 1)) (Ev n C d (3 * i)) (Ev n C d (3 * i + 1)))) ∧ (k = 3 → v.1 = nI (Ev n C (d + 1) i))) ?_ _ 1 (by omega) ⟨rfl, Nat.le_refl _, fun _ => rfl, by omega, by omega⟩
  rintro rec k ⟨l3, l4⟩ hk ⟨e4, h1, hv1, hv2, hv3⟩ hrec
  dsimp only at e4 hv1 hv2 hv3 ⊢
  subst e4
  unfold b_X0_bestEnd_12
  rw [show (3 : Int32) = nI 3 from rfl, nI_leI (by omega) (by omega), pk_mul, nI_add]
  refine ⟨fun hnk => ?_, fun hnk => ?_⟩
  · rw [hv3 (by omega)]; exact h
  · rw [ix_nI (by omega)]
    refine ⟨vp_in_nI (by omega) (by omega), fun x29 e29 => ?_⟩
    rw [Nat.mul_comm i 3, hE k (by omega)] at e29
    subst e29
    have rk := hrow k (by omega)
    have lev : cN n C - (d + 1) < cN n C := by omega
    refine s_X0_worthAt hn h0 hR hM (by omega) lev ?_
    rcases (by omega : k = 1 ∨ k = 2) with rfl | rfl
    · rw [hv1 rfl]
      refine s_X0_worthAt hn h0 hR hM (by omega) lev ?_
      refine ⟨fun g x ex => ?_, fun g x ex => ?_⟩
      · refine hrec (by omega) _ ⟨ex, by omega, by omega, fun _ => ?_, by omega⟩
        unfold pick; rw [if_pos g]
      · refine hrec (by omega) _ ⟨ex, by omega, by omega, fun _ => ?_, by omega⟩
        unfold pick; rw [if_neg g]
    · rw [hv2 rfl]
      have rp : pick n C (cN n C - (d + 1)) (Ev n C d (3 * i)) (Ev n C d (3 * i + 1)) < 3 ^ cN n C := pick_lt r0 r1
      refine s_X0_worthAt hn h0 hR hM (by omega) lev ?_
      refine ⟨fun g x ex => ?_, fun g x ex => ?_⟩
      · refine hrec (by omega) _ ⟨ex, by omega, by omega, by omega, fun _ => ?_⟩
        simp only [Ev]; rw [show pick n C (cN n C - (d + 1)) (pick n C (cN n C - (d + 1)) (Ev n C d (3 * i)) (Ev n C d (3 * i + 1))) (Ev n C d (3 * i + 2)) = _ from if_pos g]
      · refine hrec (by omega) _ ⟨ex, by omega, by omega, by omega, fun _ => ?_⟩
        simp only [Ev]; rw [show pick n C (cN n C - (d + 1)) (pick n C (cN n C - (d + 1)) (Ev n C d (3 * i)) (Ev n C d (3 * i + 1))) (Ev n C d (3 * i + 2)) = _ from if_neg g]
theorem s_X0_solve {n : Nat} {C : CV} {al re mo ye x1 x2 : Int32} {weights marks x3 x4 x5 : Nat → Int32} (hn : n ≤ 6) (h0 : 0 < n) (hR : Rg n C) (hC : Crt n C al re mo ye weights marks) {post : Int32 → Int32 → (Nat → Int32) → (Nat → Int32) → (Nat → Int32) → Prop} (h : ∀ va tu ends, MR n C n va tu → ends 0 = nI (Ev n C (cN n C) 0) → post (nI (cN n C)) (nI (vl C 0)) va tu ends) : p_X0_solve x1 x2 x3 x4 x5 (nI n) al weights marks post := by
  unfold p_X0_solve
  refine s_X0_meet hn h0 hR hC (fun va tu hM => ?_)
  have hc := cN_le hn h0 C
  have b5 := p3 hc
  refine wle_cnt (3 ^ cN n C) (fun i (v : Int32 × (Nat → Int32)) => v.1 = nI i ∧ ∀ x, x < i → v.2 x = nI x) ?_ _ 0 (Nat.zero_le _) ⟨rfl, fun x hx => by omega⟩
  rintro rec i ⟨l2, ev⟩ hi ⟨e2, hv⟩ hrec
  dsimp only at e2 hv ⊢
  subst e2
  unfold b_X0_solve_7
  rw [ix_nI (by omega), wys_3 _ (by omega), nI_leI (by omega) (by omega), ix_nI (by omega)]
  refine ⟨vp_in_nI (by omega) (by omega), fun hni x38 e38 => ?_, fun hni => ⟨vp_in_nI (by omega) (by omega), fun x ex => ?_⟩⟩
  · subst e38
    refine wle_cnt (cN n C) (fun t (v : Int32 × (Nat → Int32)) => v.1 = nI (cN n C - t) - 1 ∧ ∀ x, x < 3 ^ (cN n C - t) → v.2 x = nI (Ev n C t x)) ?_ _ 0 (by omega) ⟨rfl, fun x hx => hv x (by rw [Nat.sub_zero] at hx; omega)⟩
    rintro rec2 t ⟨l2, ev2⟩ ht ⟨e2, hE⟩ hrec2
    dsimp only at e2 hE ⊢
    unfold b_X0_solve_39
    refine ⟨fun hneg => ?_, fun hneg => ?_⟩
    · have e : t = cN n C := by
        rcases Nat.lt_or_ge t (cN n C) with z | z
        · exfalso
          rw [e2, show nI (cN n C - t) - 1 = nI (cN n C - t - 1) from pk_sub (b := 1) (by omega)] at hneg
          exact nI_pos (by omega) hneg
        · omega
      subst e
      exact h _ _ _ hM (hE 0 (p3p _))
    · have hlt : t < cN n C := by
        rcases Nat.lt_or_ge t (cN n C) with z | z
        · exact z
        · exfalso
          apply hneg
          rw [e2, show cN n C - t = 0 by omega]
          decide
      have e2' : l2 = nI (cN n C - (t + 1)) := by
        rw [e2, show nI (cN n C - t) - 1 = nI (cN n C - t - 1) from pk_sub (b := 1) (by omega)]
        congr 1
      subst e2'
      have b4 := p3 (k := cN n C - (t + 1)) (by omega)
      have e3 : 3 ^ (cN n C - t) = 3 ^ (cN n C - (t + 1)) * 3 := by rw [← Nat.pow_succ]; congr 1; omega
      refine wle_cnt (3 ^ (cN n C - (t + 1))) (fun i (v : Int32 × (Nat → Int32)) => v.1 = nI i ∧ (∀ x, x < i → v.2 x = nI (Ev n C (t + 1) x)) ∧ (∀ x, i ≤ x → x < 3 ^ (cN n C - t) → v.2 x = nI (Ev n C t x))) ?_ _ 0 (by omega) ⟨rfl, fun x hx => by omega, fun x _ hx => hE x hx⟩
      rintro rec3 i ⟨l3, ev3⟩ hi ⟨e3', hA, hB⟩ hrec3
      dsimp only at e3' hA hB ⊢
      subst e3'
      unfold b_X0_solve_45
      rw [ix_nI (by omega), wys_3 _ (by omega), nI_leI (by omega) (by omega), ix_nI (by omega)]
      refine ⟨vp_in_nI (by omega) (by omega), fun hni x72 e72 => ?_, fun hni => ?_⟩
      · refine hrec2 hlt _ ⟨?_, fun x hx => hA x (by omega)⟩
        show x72 = _
        rw [e72]
        exact (Int32.sub_eq_add_neg _ _).symm
      · refine s_X0_bestEnd hn h0 hR hM (by omega) (by omega) (fun k hk => hB _ (by omega) (by omega)) ⟨vp_in_nI (by omega) (by omega), fun x ex => ?_⟩
        rw [nI_1] at ex
        refine hrec3 (by omega) _ ⟨ex, fun y hy => ?_, fun y hy hy2 => ?_⟩
        · show upd ev3 _ _ y = _
          rw [upd_at]
          by_cases e : y = i
          · rw [if_pos e, e]
          · rw [if_neg e]; exact hA y (by omega)
        · show upd ev3 _ _ y = _
          rw [upd_at, if_neg (by omega)]; exact hB y (by omega) hy2
  · rw [nI_1] at ex
    refine hrec (by omega) _ ⟨ex, fun y hy => ?_⟩
    show upd ev _ _ y = _
    rw [upd_at]
    by_cases e : y = i
    · rw [if_pos e, e]
    · rw [if_neg e]; exact hv y (by omega)
theorem s_X3_refuseChooser {n : Nat} {C : CV} (hn : n ≤ 6) (hR : Rg n C) {l1 : Int32} {post : Int32 → Prop} (hun : (∀ p, p < n → l1 ≠ nI p) → post (-1)) (hq : 0 < n → l1 = nI 0 → post (-2)) (hl : ∀ p, p < n → l1 = nI p → 1 ≤ p → (ca C).testBit p = false → post (-3)) (h : ∀ p, p < n → l1 = nI p → 1 ≤ p → (ca C).testBit p = true → post 0) : p_X3_refuseChooser (nI n) (nI (ca C)) l1 post := by
  unfold p_X3_refuseChooser
  refine s_X1_has (by omega) (fun p hp e => ⟨fun _ => ?_, fun h => absurd h (by decide)⟩) (fun g => ⟨fun h => absurd rfl h, fun _ => hun g⟩)
  subst e
  have c0 : nI p = 0 ↔ p = 0 := nI_eq (b := 0) (by omega) (by omega)
  rw [c0]
  refine ⟨fun g => ?_, fun g => hq (by omega) (by rw [g])⟩
  exact s_X1_isAlive (hR.a31 hn) (by omega) (fun hb => ⟨fun h => absurd h (by decide), fun _ => h p hp rfl (by omega) hb⟩) (fun hb => ⟨fun _ => hl p hp rfl (by omega) hb, fun h => absurd rfl h⟩)
theorem s_X3_chosen {n : Nat} {C : CV} {al re mo ye x1 x2 : Int32} {weights marks x3 x4 x5 : Nat → Int32} (hn : n ≤ 6) (hR : Rg n C) (hC : Crt n C al re mo ye weights marks) {l1 : Int32} {post : Int32 → Int32 → Int32 → (Nat → Int32) → (Nat → Int32) → (Nat → Int32) → Prop} (hun : (∀ p, p < n → l1 ≠ nI p) → post (-1) x1 x2 x3 x4 x5) (hq : 0 < n → l1 = nI 0 → post (-2) x1 x2 x3 x4 x5) (hl : ∀ p, p < n → l1 = nI p → 1 ≤ p → (ca C).testBit p = false → post (-3) x1 x2 x3 x4 x5) (h : ∀ p, p < n → l1 = nI p → 1 ≤ p → (ca C).testBit p = true → ∀ x1 x2 x3 x4 x5, post (nI (chR n C (Ev n C (cN n C) 0) (tn (ca C) p))) x1 x2 x3 x4 x5) : p_X3_chosen (nI n) al weights marks x1 x2 x3 x4 x5 l1 post := by
  unfold p_X3_chosen
  obtain ⟨rfl, -⟩ := id hC
  refine s_X3_refuseChooser hn hR (fun g => ⟨fun h => absurd h (by decide), fun _ => hun g⟩) (fun g1 g2 => ⟨fun h => absurd h (by decide), fun _ => hq g1 g2⟩) (fun p g1 g2 g3 g4 => ⟨fun h => absurd h (by decide), fun _ => hl p g1 g2 g3 g4⟩) (fun p g1 g2 g3 g4 => ⟨fun _ => ?_, fun h => absurd rfl h⟩)
  refine s_X0_solve hn (by omega) hR hC (fun va tu ends hM hE => ?_)
  unfold p_X0_choiceOf
  obtain ⟨t1, t2⟩ := P_tn g3 g1 g4
  have b5 := p3 (cN_le hn (by omega) C)
  have hr := Ev_row (n := n) (C := C) (d := cN n C) (i := 0) (Nat.le_refl _) (p3p _)
  have fin := h p g1 g2 g3 g4
  subst g2
  rw [ix_nI (by omega), hM.2 p g3 g1 g4, show ix 0 = 0 from rfl, hE]
  exact ⟨vp_in_nI (by omega) (by omega), s_X0_choiceAt (cN_le hn (by omega) C) (by omega) t1 (fin _ _ _ _ _)⟩
theorem s_X3_chosenWorth {n : Nat} {C : CV} {al re mo ye x1 x2 : Int32} {weights marks x3 x4 x5 : Nat → Int32} (hn : n ≤ 6) (hR : Rg n C) (hC : Crt n C al re mo ye weights marks) {l1 : Int32} {post : Int32 → Int32 → Int32 → (Nat → Int32) → (Nat → Int32) → (Nat → Int32) → Prop} (hun : (∀ p, p < n → l1 ≠ nI p) → post (-1) x1 x2 x3 x4 x5) (hq : 0 < n → l1 = nI 0 → post (-2) x1 x2 x3 x4 x5) (hl : ∀ p, p < n → l1 = nI p → 1 ≤ p → (ca C).testBit p = false → post (-3) x1 x2 x3 x4 x5) (h : ∀ p, p < n → l1 = nI p → 1 ≤ p → (ca C).testBit p = true → ∀ x1 x2 x3 x4 x5, post (woI n C (Ev n C (cN n C) 0) (tn (ca C) p)) x1 x2 x3 x4 x5) : p_X3_chosenWorth (nI n) al weights marks x1 x2 x3 x4 x5 l1 post := by
  unfold p_X3_chosenWorth
  obtain ⟨rfl, -⟩ := id hC
  refine s_X3_refuseChooser hn hR (fun g => ⟨fun h => absurd h (by decide), fun _ => hun g⟩) (fun g1 g2 => ⟨fun h => absurd h (by decide), fun _ => hq g1 g2⟩) (fun p g1 g2 g3 g4 => ⟨fun h => absurd h (by decide), fun _ => hl p g1 g2 g3 g4⟩) (fun p g1 g2 g3 g4 => ⟨fun _ => ?_, fun h => absurd rfl h⟩)
  refine s_X0_solve hn (by omega) hR hC (fun va tu ends hM hE => ?_)
  unfold p_X0_endOf
  obtain ⟨t1, t2⟩ := P_tn g3 g1 g4
  have b5 := p3 (cN_le hn (by omega) C)
  have hr := Ev_row (n := n) (C := C) (d := cN n C) (i := 0) (Nat.le_refl _) (p3p _)
  have fin := h p g1 g2 g3 g4
  subst g2
  rw [ix_nI (by omega), hM.2 p g3 g1 g4, show ix 0 = 0 from rfl, hE]
  exact ⟨vp_in_nI (by omega) (by omega), s_X0_worthAt hn (by omega) hR hM (by omega) t1 (fin _ _ _ _ _)⟩
