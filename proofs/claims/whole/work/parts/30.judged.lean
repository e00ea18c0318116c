/-! the court judged: days in a row -/
def IsStop (P : Nat → Prop) (d i : Nat) : Prop := i < d ∧ (∀ j, j < i → P j) ∧ ¬ P i
theorem IsStop.one {P : Nat → Prop} {d i j : Nat} (h : IsStop P d i) (h2 : IsStop P d j) : i = j := by
  obtain ⟨a1, a2, a3⟩ := h
  obtain ⟨b1, b2, b3⟩ := h2
  rcases Nat.lt_trichotomy i j with q | q | q
  · exact absurd (b2 i q) a3
  · exact q
  · exact absurd (a2 j q) b3
theorem IsStop.no {P : Nat → Prop} {d i : Nat} (h : IsStop P d i) (h2 : ∀ j, j < d → P j) : False := h.2.2 (h2 i h.1)
theorem nn_nI {x : Int32} (h : ¬ x < 0) : ∃ r, r < 2 ^ 31 ∧ x = nI r := by
  rw [fa_lt, show (0 : Int32).toInt = 0 from rfl] at h
  have h2 : x.toInt < 2 ^ 31 := Int32.toInt_lt x
  refine ⟨x.toInt.toNat, by omega, ?_⟩
  rw [fa_eq, nI_toInt (by omega)]
  omega
theorem p10 {k : Nat} (h : k ≤ 8) : 10 ^ k ≤ 100000000 := Nat.pow_le_pow_right (n := 10) (by decide) h
theorem p10p (k : Nat) : 0 < 10 ^ k := Nat.pow_pos (by decide)
def itm (n : Nat) (C : CV) : Nat → CV
  | 0 => C
  | k + 1 => morn n (itm n C k)
theorem itm_rg {n : Nat} {C : CV} (h : Rg n C) : ∀ k, Rg n (itm n C k)
  | 0 => h
  | k + 1 => (itm_rg h k).morn
theorem itm_ca (n : Nat) (C : CV) : ∀ k, ca (itm n C k) = ca C
  | 0 => rfl
  | k + 1 => itm_ca n C k
/-- day i's guess hits -/
def hits (n : Nat) (C : CV) (d r i : Nat) : Prop := (fr n (itm n C i) (ca (itm n C i))).testBit (r / 10 ^ (d - 1 - i) % 10) = true
theorem cpy0 (w v : Nat → Int32) (N : Nat) {k : Nat} (h : k < N) : va_cpy w v 0 0 N k = w k := by
  simp only [va_cpy]
  rw [if_pos (by omega), show 0 + (k - 0) = k by omega]
theorem s_X1_copyFrom {n : Nat} {C : CV} {ag : Nat → Nat} {x1 x2 x3 x4 x5 al re mo ye : Int32} {x6 x7 x8 weights marks ageing : Nat → Int32} (hn : n ≤ 6) (hC : Crt n C al re mo ye weights marks) (hA : Av ageing ag n) {post : Int32 → Int32 → Int32 → Int32 → Int32 → (Nat → Int32) → (Nat → Int32) → (Nat → Int32) → Prop} (h : ∀ we mk a2 : Nat → Int32, Crt n C al re mo ye we mk → Av a2 ag n → post (nI n) al re mo ye we mk a2) : p_X1_copyFrom x1 x2 x3 x4 x5 x6 x7 x8 (nI n) al re mo ye weights marks ageing post := by
  unfold p_X1_copyFrom
  refine h _ _ _ ⟨hC.1, hC.2.1, hC.2.2.1, hC.2.2.2.1, fun k hk => ?_, fun k hk => ?_⟩ (fun k hk => ?_)
  · exact (cpy0 _ _ 3 hk).trans (hC.2.2.2.2.1 k hk)
  · exact (cpy0 _ _ 18 (by omega)).trans (hC.2.2.2.2.2 k hk)
  · exact (cpy0 _ _ 6 (by omega)).trans (hA k hk)
theorem s_X3_judged65 {n d r : Nat} {C : CV} {al re ye : Int32} {marks ageing : Nat → Int32} (hn : n ≤ 6) (hR : Rg n C) (hd : 1 ≤ d) (hd8 : d ≤ 8) (hr : r < 2 ^ 31) {mo : Int32} {weights : Nat → Int32} (hC : Crt n C al re mo ye weights marks) {post : Int32 → Int32 → Int32 → Int32 → Int32 → Int32 → (Nat → Int32) → (Nat → Int32) → (Nat → Int32) → Prop} {K : Int32 → Int32 → Int32 → (Nat → Int32) → Prop} (hK : (∀ i, i < d → hits n C d r i) → ∀ (l3 l4 mo : Int32) (we : Nat → Int32), K l3 l4 mo we) (hS : ∀ i, IsStop (hits n C d r) d i → ∀ (mo : Int32) (we : Nat → Int32), post (nI i) (nI n) al re mo ye we marks ageing) : wle (fun ρ ν => b_X3_judged_65 (nI d) (nI r) (nI n) al re ye marks ageing post K ρ ν.1 ν.2.1 ν.2.2.1 ν.2.2.2) (nI (10 ^ (d - 1)), 0, mo, weights) := by
  refine wle_cnt d (fun i (v : Int32 × Int32 × Int32 × (Nat → Int32)) => v.1 = nI (10 ^ (d - 1 - i)) ∧ v.2.1 = nI i ∧ Crt n (itm n C i) al re v.2.2.1 ye v.2.2.2 marks ∧ ∀ j, j < i → hits n C d r j) ?_ _ 0 (Nat.zero_le _) ⟨rfl, rfl, hC, fun j hj => by omega⟩
  rintro rec i ⟨l3, l4, mo, we⟩ hi ⟨e3, e4, hC, hh⟩ hrec
  dsimp only at e3 e4 hC ⊢
  subst e3 e4
  unfold b_X3_judged_65
  have b1 := p10 (k := d - 1 - i) (by omega)
  have b2 := p10p (d - 1 - i)
  have hRi := itm_rg hR i
  have c0 : nI (10 ^ (d - 1 - i)) = 0 ↔ 10 ^ (d - 1 - i) = 0 := nI_eq (b := 0) (by omega) (by omega)
  rw [nI_leI (by omega) (by omega), c0]
  refine ⟨fun hni => ?_, fun hni => ⟨by omega, fun x77 e77 => ?_⟩⟩
  · have e : i = d := by omega
    subst e
    exact hK hh _ _ _ _
  · have e77 : x77 = nI (r / 10 ^ (d - 1 - i) % 10) := by
      rw [e77, q_div hr b2 (by omega)]
      exact q_rem (d := 10) (by have := Nat.div_le_self r (10 ^ (d - 1 - i)); omega) (by omega) (by omega)
    subst e77
    obtain ⟨ea, eb⟩ := And.intro hC.1 hC
    rw [ea]
    refine sX_fair hn hRi hC (hRi.a31 hn) ?_
    have hfl := fr_lt n (itm n C i) (ca (itm n C i))
    have h64 := p2_6 hn
    rw [q_nhas (by omega) (by omega), ← ea]
    refine ⟨fun hb => ?_, fun hb => hS i ⟨by omega, hh, fun q => ?_⟩ _ _⟩
    · refine s_X1_passMorning hn hRi hC (fun mo2 w2 q x119 e119 x120 e120 => ?_)
      rw [nI_1] at e120
      refine hrec (by omega) _ ⟨?_, e120, q, fun j hj => ?_⟩
      · show x119 = _
        rw [e119, show nI (10 ^ (d - 1 - i)) / 10 = nI (10 ^ (d - 1 - i) / 10) from q_div (d := 10) (by omega) (by omega) (by omega), show jmax 1 (nI (10 ^ (d - 1 - i) / 10)) = nI (max 1 (10 ^ (d - 1 - i) / 10)) from jmax_nI (a := 1) (by omega) (by omega)]
        congr 1
        by_cases e : d - 1 - i = 0
        · rw [e, show d - 1 - (i + 1) = 0 by omega]; rfl
        · have e2 : d - 1 - i = (d - 1 - (i + 1)) + 1 := by omega
          rw [e2, Nat.pow_succ, Nat.mul_div_cancel _ (by omega)]
          have := p10p (d - 1 - (i + 1))
          omega
      · rcases lt_succ_cases hj with e | rfl
        · exact hh j e
        · unfold hits
          simpa using hb
    · unfold hits at q
      rw [q] at hb
      cases hb
theorem div10_le {d r : Nat} (hd : 1 ≤ d) : r / 10 ^ (d - 1) ≤ 9 ↔ r < 10 ^ d := by
  have e : 10 ^ d = 10 ^ (d - 1) * 10 := by
    rw [← Nat.pow_succ]
    congr 1
    omega
  have h := Nat.div_lt_iff_lt_mul (p10p (d - 1)) (x := r) (y := 10)
  rw [e, Nat.mul_comm]
  omega
theorem s_X3_judged {n : Nat} {C : CV} {ag : Nat → Nat} {al re mo ye y1 y2 y3 y4 y5 : Int32} {weights marks ageing y6 y7 y8 : Nat → Int32} (hn : n ≤ 6) (hR : Rg n C) (hC : Crt n C al re mo ye weights marks) (hA : Av ageing ag n) {l1 l2 : Int32} {post : Int32 → Int32 → Int32 → Int32 → Int32 → Int32 → (Nat → Int32) → (Nat → Int32) → (Nat → Int32) → Prop} (h2 : (∀ d r, 1 ≤ d → d ≤ 8 → l1 = nI d → r < 10 ^ d → l2 ≠ nI r) → post (-2) y1 y2 y3 y4 y5 y6 y7 y8)
    (hK : ∀ d r, 1 ≤ d → d ≤ 8 → l1 = nI d → r < 10 ^ d → l2 = nI r → (∀ i, i < d → hits n C d r i) → ∀ (y1 y2 y3 y4 y5 : Int32) (y6 y7 y8 : Nat → Int32), post (-9) y1 y2 y3 y4 y5 y6 y7 y8) (hS : ∀ d r, 1 ≤ d → d ≤ 8 → l1 = nI d → r < 10 ^ d → l2 = nI r → ∀ i, IsStop (hits n C d r) d i → ∀ (y1 y2 y3 y4 y5 : Int32) (y6 y7 y8 : Nat → Int32), post (nI i) y1 y2 y3 y4 y5 y6 y7 y8) : p_X3_judged (nI n) al re mo ye weights marks ageing y1 y2 y3 y4 y5 y6 y7 y8 l1 l2 post := by
  unfold p_X3_judged
  rcases ix_cases l1 (n := 9) (by omega) with ⟨d, hd, rfl⟩ | ⟨hx, hx2⟩
  · have c1 : nI d < 1 ↔ d < 1 := nI_ltI (b := 1) (by omega) (by omega)
    have c8 : nI d ≤ 8 ↔ d ≤ 8 := nI_leI (b := 8) (by omega) (by omega)
    rw [c1, c8]
    refine ⟨fun g => h2 (fun d' r g1 g2 e => ?_), fun g => ⟨fun g8 => ?_, fun g8 => by omega⟩⟩
    · rw [nI_eq (by omega) (by omega)] at e; omega
    · refine wle_cnt d (fun i (v : Int32 × Int32) => v.1 = nI (10 ^ (i - 1)) ∧ v.2 = nI i ∧ 1 ≤ i) ?_ _ 1 (by omega) ⟨rfl, rfl, Nat.le_refl _⟩
      rintro rec i ⟨l3, l4⟩ hi ⟨e3, e4, h1⟩ hrec
      dsimp only at e3 e4 ⊢
      subst e3 e4
      unfold b_X3_judged_19
      rw [nI_leI (by omega) (by omega)]
      refine ⟨fun hni => ?_, fun hni x29 e29 x30 e30 => ?_⟩
      · have ei : i = d := by omega
        subst ei
        have b1 := p10 (k := i - 1) (by omega)
        have b2 := p10p (i - 1)
        have b3 := p10 (k := i) (by omega)
        refine ⟨fun g0 => h2 (fun d' r g1 g2 e er e2 => ?_), fun g0 => ⟨?_, ?_⟩⟩
        · have := p10 (k := d') g2
          rw [e2] at g0
          exact nI_pos (by omega) g0
        · have c0 : nI (10 ^ (i - 1)) = 0 ↔ 10 ^ (i - 1) = 0 := nI_eq (b := 0) (by omega) (by omega)
          rw [c0]; omega
        · obtain ⟨r, hr, rfl⟩ := nn_nI g0
          have hdiv := Nat.div_le_self r (10 ^ (i - 1))
          have c9 : nI r / nI (10 ^ (i - 1)) ≤ 9 ↔ r < 10 ^ i := by
            rw [q_div hr b2 (by omega), ← div10_le h1]
            exact nI_leI (b := 9) (by omega) (by omega)
          rw [c9]
          refine ⟨fun g9 => ?_, fun g9 => h2 (fun d' r' g1 g2 e er e2 => ?_)⟩
          · refine s_X1_copyFrom hn hC hA (fun we mk a2 q1 q2 => ?_)
            refine s_X3_judged65 hn hR h1 g8 hr q1 (fun q l3 l4 mo we => ?_) (fun j q mo we => ?_)
            · exact hK i r h1 g8 rfl g9 rfl q _ _ _ _ _ _ _ _
            · exact hS i r h1 g8 rfl g9 rfl j q _ _ _ _ _ _ _ _
          · rw [nI_eq (by omega) (by omega)] at e
            subst e
            rw [nI_eq hr (by omega)] at e2
            omega
      · rw [nI_1] at e30
        refine hrec (by omega) _ ⟨?_, e30, by omega⟩
        show x29 = _
        rw [e29, show (10 : Int32) = nI 10 from rfl, pk_mul, ← Nat.pow_succ]
        congr 2
        omega
  · have z0 : (1 : Int32).toInt = 1 := rfl
    have z1 : (8 : Int32).toInt = 8 := rfl
    have hb : post (-2) y1 y2 y3 y4 y5 y6 y7 y8 := h2 (fun d r g1 g2 e => absurd e (hx d (by omega)))
    exact ⟨fun _ => hb, fun _ => ⟨fun g8 => by rw [fa_le, z1] at g8; rename_i g1; rw [fa_lt, z0] at g1; omega, fun _ => hb⟩⟩
theorem s_X4_ten {d : Nat} (hd : d ≤ 8) {post : Int32 → Prop} (h : post (nI (10 ^ d))) : p_X4_ten (nI d) post := by
  unfold p_X4_ten
  refine wle_cnt d (fun i (v : Int32 × Int32) => v.1 = nI (10 ^ i) ∧ v.2 = nI i) ?_ _ 0 (by omega) ⟨rfl, rfl⟩
  rintro rec i ⟨l1, l2⟩ hi ⟨e1, e2⟩ hrec
  dsimp only at e1 e2 ⊢
  subst e1 e2
  unfold b_X4_ten_4
  rw [nI_leI (by omega) (by omega)]
  refine ⟨fun hni => ?_, fun hni x13 e13 x14 e14 => ?_⟩
  · have ei : i = d := by omega
    subst ei
    exact h
  · rw [nI_1] at e14
    refine hrec (by omega) _ ⟨?_, e14⟩
    show x13 = _
    rw [e13, show (10 : Int32) = nI 10 from rfl, pk_mul, ← Nat.pow_succ]
theorem s_X4_begin {page tried : Nat → Int32} {post : (Nat → Int32) → Prop} (h : ∀ t2 : Nat → Int32, (∀ k, k < 25 → t2 k = page k) → post t2) : p_X4_begin page tried post := by
  unfold p_X4_begin
  refine wle_cnt 25 (fun i (v : Int32 × (Nat → Int32)) => v.1 = nI i ∧ ∀ k, k < i → v.2 k = page k) ?_ _ 0 (Nat.zero_le _) ⟨rfl, fun k hk => by omega⟩
  rintro rec j ⟨l1, pv⟩ hj ⟨e1, hv2⟩ hrec2
  dsimp only at e1 hv2 ⊢
  subst e1
  unfold b_X4_begin_2
  have c25 : 25 ≤ nI j ↔ 25 ≤ j := nI_leI (a := 25) (by omega) (by omega)
  rw [c25, ix_nI (by omega)]
  refine ⟨fun hnj => ?_, fun hnj => ⟨vp_in_nI (by omega) (by omega), fun x72 e72 => ⟨vp_in_nI (by omega) (by omega), fun x73 e73 => ?_⟩⟩⟩
  · have ej : j = 25 := by omega
    subst ej
    exact h _ hv2
  · rw [nI_1] at e73
    refine hrec2 (by omega) _ ⟨e73, fun k hk => ?_⟩
    show upd pv _ _ k = _
    rw [upd_at]
    by_cases ek : k = j
    · rw [if_pos ek, e72, ek]
    · rw [if_neg ek]; exact hv2 k (by omega)
theorem s_X4_judged {n : Nat} {C : CV} {th : Int32} {page tried : Nat → Int32} (hn : n ≤ 6) (hR : Rg n C) (hC : Row n C page) {l1 l2 : Int32} {post : Int32 → Int32 → (Nat → Int32) → Prop} (h2 : (∀ d r, 1 ≤ d → d ≤ 8 → l1 = nI d → r < 10 ^ d → l2 ≠ nI r) → post (-2) 0 tried)
    (hK : ∀ d r, 1 ≤ d → d ≤ 8 → l1 = nI d → r < 10 ^ d → l2 = nI r → (∀ i, i < d → hits n C d r i) → ∀ tried, post (-9) 0 tried) (hS : ∀ d r, 1 ≤ d → d ≤ 8 → l1 = nI d → r < 10 ^ d → l2 = nI r → ∀ i, IsStop (hits n C d r) d i → ∀ tried, post (nI i) 0 tried) : p_X4_judged th (nI n) page tried l1 l2 post := by
  unfold p_X4_judged
  have e1 : (1 : Int64).toInt = 1 := rfl
  have e8 : (8 : Int64).toInt = 8 := rfl
  have e0 : (0 : Int64).toInt = 0 := rfl
  refine s_X4_in (fun g1 g2 => ⟨fun h => absurd h (by decide), fun _ => ?_⟩) (fun g => ⟨fun _ => h2 (fun d r g1 g2 e => ?_), fun h => absurd rfl h⟩)
  · rw [Int32.toInt_toInt64, e1] at g1
    rw [Int32.toInt_toInt64, e8] at g2
    rcases ix_cases l1 (n := 9) (by omega) with ⟨d, hd, rfl⟩ | ⟨hx, hx2⟩
    · rw [nI_toInt (by omega)] at g1
      have b3 := p10 (k := d) (by omega)
      have b4 := p10p d
      refine s_X4_ten (by omega) ?_
      have et : (nI (10 ^ d) - 1).toInt64.toInt = ((10 ^ d : Nat) : Int) - 1 := sub1_64 (by omega)
      refine s_X4_in (fun q1 q2 => ⟨fun _ => ?_, fun h => absurd h (by decide)⟩) (fun q => ⟨fun h => absurd rfl h, fun _ => h2 (fun d' r q1 q2 e er e2 => ?_)⟩)
      · rw [et, Int32.toInt_toInt64] at q2
        rw [Int32.toInt_toInt64, e0] at q1
        obtain ⟨r, hr, rfl⟩ := nn_nI (x := l2) (by rw [fa_lt, show (0 : Int32).toInt = 0 from rfl]; omega)
        rw [nI_toInt hr] at q2
        have hr10 : r < 10 ^ d := by omega
        refine s_X4_begin (fun t2 ht2 => ?_)
        refine wle_cnt d (fun i (v : Int32 × (Nat → Int32)) => v.1 = nI i ∧ Row n (itm n C i) v.2 ∧ ∀ j, j < i → hits n C d r j) ?_ _ 0 (Nat.zero_le _) ⟨rfl, hC.cong hn ht2, fun j hj => by omega⟩
        rintro rec i ⟨l3, tv⟩ hi ⟨e3, hT, hh⟩ hrec
        dsimp only at e3 hT ⊢
        subst e3
        unfold b_X4_judged_42
        rw [nI_leI (by omega) (by omega)]
        refine ⟨fun hni => ?_, fun hni => ?_⟩
        · have ei : i = d := by omega
          subst ei
          exact hK i r (by omega) (by omega) rfl hr10 rfl hh _
        · have b1 := p10 (k := d - 1 - i) (by omega)
          have b2 := p10p (d - 1 - i)
          have hRi := itm_rg hR i
          have ek : nI d - 1 - nI i = nI (d - 1 - i) := by
            rw [show nI d - 1 = nI (d - 1) from pk_sub (b := 1) (by omega), pk_sub (by omega)]
          rw [ek]
          refine s_X4_ten (by omega) ⟨?_, fun x60 e60 => ?_⟩
          · have c0 : nI (10 ^ (d - 1 - i)) = 0 ↔ 10 ^ (d - 1 - i) = 0 := nI_eq (b := 0) (by omega) (by omega)
            rw [c0]; omega
          · have e60 : x60 = nI (r / 10 ^ (d - 1 - i) % 10) := by
              rw [e60, q_div hr b2 (by omega)]
              exact q_rem (d := 10) (by have := Nat.div_le_self r (10 ^ (d - 1 - i)); omega) (by omega) (by omega)
            subst e60
            refine sM_weightsOf hT ?_
            rw [show ix 21 = 21 from rfl, hT.2.2.1]
            refine sM_fair hn hRi hT (hRi.a31 hn) ?_
            have hfl := fr_lt n (itm n C i) (ca (itm n C i))
            have h64 := p2_6 hn
            refine s_X4_has (by omega) (by omega) (fun hb => ⟨fun _ => ?_, fun h => absurd h (by decide)⟩) (fun hb => ⟨fun h => absurd rfl h, fun _ => hS d r (by omega) (by omega) rfl hr10 rfl i ⟨by omega, hh, fun q => ?_⟩ _⟩)
            · refine s_X4_goMorning hn hRi hT (fun p2 q x102 e102 => ?_)
              rw [nI_1] at e102
              refine hrec (by omega) _ ⟨e102, q, fun j hj => ?_⟩
              rcases lt_succ_cases hj with e | rfl
              · exact hh j e
              · exact hb
            · unfold hits at q
              rw [q] at hb
              cases hb
      · rw [nI_eq (by omega) (by omega)] at e
        subst e
        apply q
        rw [et, Int32.toInt_toInt64, e0, e2, nI_toInt (by omega)]
        omega
    · omega
  · apply absurd _ g
    rw [Int32.toInt_toInt64, e1, e8, e, nI_toInt (by omega)]
    omega
