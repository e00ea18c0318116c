/-! the calls that act -/
def AF (n : Nat) (C : CV) (t : Nat) (acts a2 : Nat → Int32) : Prop := (∀ j, (j < 25 * t ∨ 25 * t + 25 ≤ j) → a2 j = acts j) ∧ Row n C (fun k => a2 (25 * t + k))
def BF (c : Nat) (page book b2 : Nat → Int32) : Prop := (∀ j, j < 25 * (min c 13) → b2 j = if c = 14 then book (j + 25) else book j) ∧ ∀ k, k < 25 → b2 (25 * (min c 13) + k) = page k
theorem ActR.noted {n c t : Nat} {C : CV} {acts book a2 b2 page : Nat → Int32} (hn : n ≤ 6) (hA : ActR n c t acts book) (hR : Rg n C) (hP : Row n C page) (h1 : AF n C t acts a2) (h2 : BF c page book b2) : ActR n (min (c + 1) 14) ((t + 1) % 14) a2 b2 := hA.push hn hR hP h1.1 h1.2 h2.1 h2.2
theorem s_X3_morning {n c t : Nat} {C : CV} {al re mo ye : Int32} {weights marks acts : Nat → Int32} (hn : n ≤ 6) (hR : Rg n C) (hC : Crt n C al re mo ye weights marks) (hc : c ≤ 14) (ht : t < 14) {post : Int32 → Int32 → Int32 → Int32 → (Nat → Int32) → (Nat → Int32) → Prop} (h0 : n = 0 → post (-3) (nI t) (nI c) mo weights acts) (h1 : 0 < n → ∀ (a2 : Nat → Int32) (mo2 : Int32) (w2 : Nat → Int32), AF n C t acts a2 → Crt n (morn n C) al re mo2 ye w2 marks → post (nI (fr n C (ca C))) (nI ((t + 1) % 14)) (nI (min (c + 1) 14)) mo2 w2 a2) : p_X3_morning (nI t) (nI c) (nI n) al re mo ye weights marks acts post := by
  unfold p_X3_morning
  rw [show (0 : Int32) = nI 0 from rfl, nI_eq (by omega) (by omega)]
  refine ⟨fun hz => s_X3_rememberAct hC hn hc ht (fun a2 q1 q2 => ?_), h0⟩
  have e : al = nI (ca C) := hC.1
  subst e
  refine sX_fair hn hR hC (hR.a31 hn) ?_
  exact s_X1_passMorning hn hR hC (fun mo2 w2 q3 => h1 (by omega) a2 mo2 w2 ⟨q1, q2⟩ q3)
theorem s_X4_morning {n c : Nat} {C : CV} {th : Int32} {page book : Nat → Int32} (hn : n ≤ 6) (hR : Rg n C) (hC : Row n C page) (hc : c ≤ 14) {post : Int32 → Int32 → Int32 → (Nat → Int32) → (Nat → Int32) → Prop} (h0 : n = 0 → post (-3) 0 (nI c) page book) (h1 : 0 < n → ∀ (b2 p2 : Nat → Int32), BF c page book b2 → Row n (morn n C) p2 → post (nI (fr n C (ca C))) 0 (nI (min (c + 1) 14)) p2 b2) : p_X4_morning th (nI n) (nI c) page book post := by
  unfold p_X4_morning
  rw [show (0 : Int32) = nI 0 from rfl, nI_eq (by omega) (by omega)]
  refine ⟨fun hz => s_X4_note hc (fun b2 q1 q2 => ?_), h0⟩
  refine sM_fairest hn hR hC ?_
  exact s_X4_goMorning hn hR hC (fun p2 q3 => h1 (by omega) b2 p2 ⟨q1, q2⟩ q3)
theorem s_X3_year {n c t : Nat} {C : CV} {ag : Nat → Nat} {al re mo ye : Int32} {weights marks ageing acts : Nat → Int32} (hn : n ≤ 6) (hR : Rg n C) (hC : Crt n C al re mo ye weights marks) (hA : Av ageing ag n) (hag : ∀ p, p < n → ag p ≤ 2) (hc : c ≤ 14) (ht : t < 14) {post : Int32 → Int32 → Int32 → Int32 → (Nat → Int32) → (Nat → Int32) → Prop} (h1 : ∀ (a2 : Nat → Int32) (ye2 : Int32) (m2 : Nat → Int32), AF n C t acts a2 → Crt n (yearC C ag) al re mo ye2 weights m2 → ye2 = cye C + 1 → post ye2 (nI ((t + 1) % 14)) (nI (min (c + 1) 14)) ye2 m2 a2) : p_X3_year (nI t) (nI c) (nI n) al re mo ye weights marks ageing acts post := by
  unfold p_X3_year
  refine s_X3_rememberAct hC hn hc ht (fun a2 q1 q2 => ?_)
  exact s_X1_passYear hn hR hC hA hag (fun ye2 m2 q3 q4 => h1 a2 ye2 m2 ⟨q1, q2⟩ q3 q4)
theorem s_X4_year {n c : Nat} {C : CV} {ag : Nat → Nat} {th : Int32} {page ageing book : Nat → Int32} (hn : n ≤ 6) (hR : Rg n C) (hC : Row n C page) (hA : Av ageing ag n) (hag : ∀ p, p < n → ag p ≤ 2) (hc : c ≤ 14) {post : Int32 → Int32 → Int32 → (Nat → Int32) → (Nat → Int32) → Prop} (h1 : ∀ (b2 p2 : Nat → Int32), BF c page book b2 → Row n (yearC C ag) p2 → post (cye C + 1) 0 (nI (min (c + 1) 14)) p2 b2) : p_X4_year th (nI n) (nI c) ageing page book post := by
  unfold p_X4_year
  refine s_X4_note hc (fun b2 q1 q2 => ?_)
  refine s_X4_goYear hn hR hC hA hag (fun p2 q3 => ?_)
  rw [show ix 24 = 24 from rfl, q3.2.2.2.2.2]
  exact h1 b2 p2 ⟨q1, q2⟩ q3
theorem s_X3_plain {n c t : Nat} {C : CV} {al re mo ye : Int32} {weights marks acts : Nat → Int32} (hn : n ≤ 6) (hR : Rg n C) (hC : Crt n C al re mo ye weights marks) (hc : c ≤ 14) (ht : t < 14) {l1 l2 : Int32} {post : Int32 → Int32 → Int32 → (Nat → Int32) → (Nat → Int32) → Prop} (hun : ((∀ p, p < n → l1 ≠ nI p) ∨ (∀ k, k < 3 → l2 ≠ nI k)) → post (-1) (nI t) (nI c) marks acts)
    (hlate : ∀ p k, p < n → l1 = nI p → k < 3 → l2 = nI k → ((ca C).testBit p = false ∨ cm C (3 * p + k) = 0) → post (-3) (nI t) (nI c) marks acts) (h1 : ∀ p k, p < n → l1 = nI p → k < 3 → l2 = nI k → (ca C).testBit p = true → cm C (3 * p + k) ≠ 0 → ∀ (a2 m2 : Nat → Int32), AF n C t acts a2 → Crt n (plainC C (3 * p + k)) al re mo ye weights m2 → post (nI (cm C (3 * p + k) - 1)) (nI ((t + 1) % 14)) (nI (min (c + 1) 14)) m2 a2) : p_X3_plain (nI t) (nI c) (nI n) al re mo ye weights marks acts l1 l2 post := by
  unfold p_X3_plain
  refine s_X1_has (by omega) (fun p hp e => ⟨fun h => absurd h (by decide), fun _ => ?_⟩) (fun h => ⟨fun _ => hun (Or.inl h), fun h => absurd rfl h⟩)
  subst e
  rcases ix_cases l2 (n := 3) (by omega) with ⟨k, hk, rfl⟩ | ⟨hk, hk2⟩
  · refine ⟨fun h => absurd h (nI_pos (by omega)), fun _ => ⟨fun _ x27 e27 => ?_, fun h => absurd (nI_lt (a := k) (b := 3) hk (by omega)) h⟩⟩
    rw [show (3 : Int32) = nI 3 from rfl, pk_mul, nI_add, Nat.mul_comm p 3] at e27
    subst e27
    obtain ⟨e, -, -, -, hw, hm⟩ := id hC
    rw [e, ix_nI (by omega), hm (3 * p + k) (by omega), show (0 : Int32) = nI 0 from rfl, nI_eq (by have := hR.2.2.1 (3 * p + k) (by omega); omega) (by omega)]
    refine s_X1_isAlive (hR.a31 hn) (by omega) (fun hb => ⟨fun h => absurd h (by decide), fun _ => ⟨vp_in_nI (by omega) (by omega), fun hz => ?_, fun hz => hlate p k hp rfl hk rfl (Or.inr hz)⟩⟩) (fun hb => ⟨fun _ => hlate p k hp rfl hk rfl (Or.inl hb), fun h => absurd rfl h⟩)
    rw [← e]
    refine s_X3_rememberAct hC hn hc ht (fun a2 q1 q2 => ⟨vp_in_nI (by omega) (by omega), fun x70 e70 => ⟨vp_in_nI (by omega) (by omega), vp_in_nI (by omega) (by omega), ?_⟩⟩)
    rw [show (1 : Int32) = nI 1 from rfl, pk_sub (by omega)] at e70
    rw [upd_at, if_pos rfl]
    have fin := h1 p k hp rfl hk rfl hb hz a2 (upd marks (3 * p + k) x70) ⟨q1, q2⟩ ⟨hC.1, hC.2.1, hC.2.2.1, hC.2.2.2.1, hw, fun j hj => ?_⟩
    · rw [← e70] at fin; exact fin
    · rw [upd_at]
      show _ = nI (if _ then _ else _)
      by_cases e : j = 3 * p + k
      · rw [if_pos e, if_pos e, e70]
      · rw [if_neg e, if_neg e]; exact hm j hj
  · have hun2 := hun (Or.inr hk)
    exact ⟨fun _ => hun2, fun h0 => ⟨fun h3 => by
      exfalso
      rw [fa_lt, show (0 : Int32).toInt = 0 from rfl] at h0
      rw [fa_lt, show (3 : Int32).toInt = 3 from rfl] at h3
      omega, fun _ => hun2⟩⟩
theorem s_X4_plain {n c : Nat} {C : CV} {th : Int32} {page book : Nat → Int32} (hn : n ≤ 6) (hR : Rg n C) (hC : Row n C page) (hc : c ≤ 14) {l1 l2 : Int32} {post : Int32 → Int32 → Int32 → (Nat → Int32) → (Nat → Int32) → Prop} (hun : ((∀ p, p < n → l1 ≠ nI p) ∨ (∀ k, k < 3 → l2 ≠ nI k)) → post (-1) 0 (nI c) page book)
    (hlate : ∀ p k, p < n → l1 = nI p → k < 3 → l2 = nI k → ((ca C).testBit p = false ∨ cm C (3 * p + k) = 0) → post (-3) 0 (nI c) page book) (h1 : ∀ p k, p < n → l1 = nI p → k < 3 → l2 = nI k → (ca C).testBit p = true → cm C (3 * p + k) ≠ 0 → ∀ (b2 p2 : Nat → Int32), BF c page book b2 → Row n (plainC C (3 * p + k)) p2 → post (nI (cm C (3 * p + k) - 1)) 0 (nI (min (c + 1) 14)) p2 b2) : p_X4_plain th (nI n) (nI c) page book l1 l2 post := by
  unfold p_X4_plain
  refine s_X4_noOne (by omega) (fun p hp e => ⟨fun h => absurd rfl h, fun _ => ?_⟩) (fun h => ⟨fun _ => hun (Or.inl h), fun h => absurd h (by decide)⟩)
  subst e
  have e0 : (0 : Int64).toInt = 0 := rfl
  have e2 : (2 : Int64).toInt = 2 := rfl
  rw [show ix 21 = 21 from rfl, hC.2.2.1]
  refine s_X4_in (fun g1 g2 => ⟨fun _ => ?_, fun h => absurd h (by decide)⟩) (fun g => ⟨fun h => absurd rfl h, fun _ => hun (Or.inr fun k hk e => g ?_)⟩)
  · rw [Int32.toInt_toInt64, e0] at g1
    rw [Int32.toInt_toInt64, e2] at g2
    rcases ix_cases l2 (n := 3) (by omega) with ⟨k, hk, rfl⟩ | ⟨hk, hk2⟩
    · have hpg : page (3 + 3 * p + k) = nI (cm C (3 * p + k)) := by
        have := hC.2.1 (3 * p + k) (by omega)
        rw [show 3 + 3 * p + k = 3 + (3 * p + k) by omega]; exact this
      rw [show (3 : Int32) = nI 3 from rfl, pk_mul, nI_add, nI_add, ix_nI (by omega), hpg, show (0 : Int32) = nI 0 from rfl, nI_eq (by have := hR.2.2.1 (3 * p + k) (by omega); omega) (by omega)]
      refine s_X4_has (hR.a31 hn) (by omega) (fun hb => ⟨fun h => absurd h (by decide), fun _ => ⟨vp_in_nI (by omega) (by omega), fun hz => ?_, fun hz => hlate p k hp rfl hk rfl (Or.inr hz)⟩⟩) (fun hb => ⟨fun _ => hlate p k hp rfl hk rfl (Or.inl hb), fun h => absurd rfl h⟩)
      refine s_X4_note hc (fun b2 q1 q2 => ⟨vp_in_nI (by omega) (by omega), fun x78 e78 => ⟨vp_in_nI (by omega) (by omega), vp_in_nI (by omega) (by omega), ?_⟩⟩)
      rw [show (1 : Int32) = nI 1 from rfl, pk_sub (by omega)] at e78
      rw [upd_at, if_pos rfl]
      have fin := h1 p k hp rfl hk rfl hb hz b2 (upd page (3 + 3 * p + k) x78) ⟨q1, q2⟩ ⟨fun j hj => ?_, fun j hj => ?_, ?_, ?_, ?_, ?_⟩
      · rw [← e78] at fin; exact fin
      · rw [upd_at, if_neg (by omega)]; exact hC.1 j hj
      · show upd page _ _ (3 + j) = nI (if _ then _ else _)
        rw [upd_at]
        by_cases e : j = 3 * p + k
        · rw [if_pos (by omega), if_pos e, e78]
        · rw [if_neg (by omega), if_neg e]; exact hC.2.1 j hj
      · rw [upd_at, if_neg (by omega)]; exact hC.2.2.1
      · rw [upd_at, if_neg (by omega)]; exact hC.2.2.2.1
      · rw [upd_at, if_neg (by omega)]; exact hC.2.2.2.2.1
      · rw [upd_at, if_neg (by omega)]; exact hC.2.2.2.2.2
    · omega
  · rw [Int32.toInt_toInt64, e0, e2, e, nI_toInt (by omega)]; omega
theorem hunt_int {a p : Nat} (hp : p < 31) : nI a &&& ((jshl 1 (nI p)) ^^^ (-1)) = nI (a ^^^ (a &&& 2 ^ p)) := by
  rw [q_shl1 hp, fa_andnot]
theorem s_X3_hunt {n c t : Nat} {C : CV} {al re mo ye : Int32} {weights marks acts : Nat → Int32} (hn : n ≤ 6) (hR : Rg n C) (hC : Crt n C al re mo ye weights marks) (hc : c ≤ 14) (ht : t < 14) {l1 l2 : Int32} {post : Int32 → Int32 → Int32 → Int32 → Int32 → (Nat → Int32) → Prop} (hun : (∀ p, p < n → l1 ≠ nI p) → post (-1) (nI t) (nI c) al re acts) (hbad : 0 < n → l1 = 0 → post (-2) (nI t) (nI c) al re acts)
    (hlate : ∀ p, p < n → l1 = nI p → p ≠ 0 → ((ca C).testBit p = false ∨ (cr C).testBit p = true) → post (-3) (nI t) (nI c) al re acts) (h1 : ∀ p, p < n → l1 = nI p → p ≠ 0 → (ca C).testBit p = true → (cr C).testBit p = false → ∀ (a2 : Nat → Int32) (al2 re2 : Int32), AF n C t acts a2 → Crt n (huntC C p (decide (l2 ≠ 0))) al2 re2 mo ye weights marks → post (nI (pcn (ca (huntC C p (decide (l2 ≠ 0)))))) (nI ((t + 1) % 14)) (nI (min (c + 1) 14)) al2 re2 a2) : p_X3_hunt (nI t) (nI c) (nI n) al re mo ye weights marks acts l1 l2 post := by
  unfold p_X3_hunt
  refine s_X1_has (by omega) (fun p hp e => ⟨fun _ => ?_, fun h => absurd h (by decide)⟩) (fun h => ⟨fun h => absurd rfl h, fun _ => hun h⟩)
  subst e
  obtain ⟨e1, e2, e3, e4, hw, hm⟩ := id hC
  have h64 := p2_6 hn
  refine ⟨fun hz => ?_, fun hz => hbad (by omega) hz⟩
  have hp0 : p ≠ 0 := fun e => hz (by rw [e]; rfl)
  subst e1 e2
  refine s_X1_isAlive (hR.a31 hn) (by omega) (fun hb => ⟨fun h => absurd h (by decide), fun _ => ?_⟩) (fun hb => ⟨fun _ => hlate p hp rfl hp0 (Or.inl hb), fun h => absurd rfl h⟩)
  refine s_X1_isReported (hR.r31 hn) (by omega) (fun hb2 => ⟨fun h => absurd h (by decide), fun _ => hlate p hp rfl hp0 (Or.inr hb2)⟩) (fun hb2 => ⟨fun _ => ?_, fun h => absurd rfl h⟩)
  refine s_X3_rememberAct hC hn hc ht (fun a2 q1 q2 x61 e61 => ?_)
  rw [q_shl1 (by omega), fa_or] at e61
  have fin := h1 p hp rfl hp0 hb hb2 a2
  have hR2 := Rg.hunt (lies := decide (l2 ≠ 0)) hR hp hp0
  have ha2 : ca (huntC C p (decide (l2 ≠ 0))) < 64 := by have := hR2.2.2.2.1; omega
  refine ⟨fun hl => ?_, fun hl x82 e82 => ?_⟩
  · have ea : ca (huntC C p (decide (l2 ≠ 0))) = ca C := by
      show (if _ then _ else _) = _
      rw [if_pos (by simpa using hl)]
    rw [ea] at fin ha2
    exact s_X1_aliveCount ha2 (fin _ _ ⟨q1, q2⟩ ⟨by rw [ea], e61, e3, e4, hw, hm⟩)
  · have ea : ca (huntC C p (decide (l2 ≠ 0))) = ca C ^^^ (ca C &&& 2 ^ p) := by
      show (if _ then _ else _) = _
      rw [if_neg (by simpa using hl)]
    rw [hunt_int (by omega)] at e82
    rw [ea] at fin ha2
    rw [e82]
    exact s_X1_aliveCount ha2 (fin _ _ ⟨q1, q2⟩ ⟨by rw [ea], e61, e3, e4, hw, hm⟩)
theorem s_X4_hunt {n c : Nat} {C : CV} {th : Int32} {page book : Nat → Int32} (hn : n ≤ 6) (hR : Rg n C) (hC : Row n C page) (hc : c ≤ 14) {l1 l2 : Int32} {post : Int32 → Int32 → Int32 → (Nat → Int32) → (Nat → Int32) → Prop} (hun : (∀ p, p < n → l1 ≠ nI p) → post (-1) 0 (nI c) page book) (hbad : 0 < n → l1 = 0 → post (-2) 0 (nI c) page book)
    (hlate : ∀ p, p < n → l1 = nI p → p ≠ 0 → ((ca C).testBit p = false ∨ (cr C).testBit p = true) → post (-3) 0 (nI c) page book) (h1 : ∀ p, p < n → l1 = nI p → p ≠ 0 → (ca C).testBit p = true → (cr C).testBit p = false → ∀ (b2 p2 : Nat → Int32), BF c page book b2 → Row n (huntC C p (decide (l2 ≠ 0))) p2 → post (nI (pcn (ca (huntC C p (decide (l2 ≠ 0)))))) 0 (nI (min (c + 1) 14)) p2 b2) : p_X4_hunt th (nI n) (nI c) page book l1 l2 post := by
  unfold p_X4_hunt
  refine s_X4_noOne (by omega) (fun p hp e => ⟨fun _ => ?_, fun h => absurd rfl h⟩) (fun h => ⟨fun h => absurd h (by decide), fun _ => hun h⟩)
  subst e
  have h64 := p2_6 hn
  rw [show ix 21 = 21 from rfl, show ix 22 = 22 from rfl, hC.2.2.1, hC.2.2.2.1]
  refine ⟨fun hz => ?_, fun hz => hbad (by omega) hz⟩
  have hp0 : p ≠ 0 := fun e => hz (by rw [e]; rfl)
  refine s_X4_has (hR.a31 hn) (by omega) (fun hb => ⟨fun h => absurd h (by decide), fun _ => ?_⟩) (fun hb => ⟨fun _ => hlate p hp rfl hp0 (Or.inl hb), fun h => absurd rfl h⟩)
  refine s_X4_has (hR.r31 hn) (by omega) (fun hb2 => ⟨fun h => absurd h (by decide), fun _ => hlate p hp rfl hp0 (Or.inr hb2)⟩) (fun hb2 => ⟨fun _ => ?_, fun h => absurd rfl h⟩)
  refine s_X4_note hc (fun b2 q1 q2 x69 e69 => ?_)
  rw [q_shl1 (by omega), fa_or] at e69
  have hR2 := Rg.hunt (lies := decide (l2 ≠ 0)) hR hp hp0
  have ha2 : ca (huntC C p (decide (l2 ≠ 0))) < 2 ^ 31 := hR2.a31 hn
  have e21 : upd page 22 x69 21 = nI (ca C) := by rw [upd_at, if_neg (by omega)]; exact hC.2.2.1
  have fin : ∀ x : Int32, x = nI (ca (huntC C p (decide (l2 ≠ 0)))) → p_X4_many (upd (upd page 22 x69) 21 x 21) (fun r106 => post r106 0 (nI (min (c + 1) 14)) (upd (upd page 22 x69) 21 x) b2) := by
    intro x ex
    rw [upd_at, if_pos rfl, ex]
    refine s_X4_many ha2 (h1 p hp rfl hp0 hb hb2 b2 _ ⟨q1, q2⟩ ⟨fun j hj => ?_, fun j hj => ?_, ?_, ?_, ?_, ?_⟩)
    · rw [upd_at, if_neg (by omega), upd_at, if_neg (by omega)]; exact hC.1 j hj
    · show upd _ _ _ (3 + j) = _
      rw [upd_at, if_neg (by omega), upd_at, if_neg (by omega)]; exact hC.2.1 j hj
    · rw [upd_at, if_pos rfl]
    · rw [upd_at, if_neg (by omega), upd_at, if_pos rfl]; exact e69
    · rw [upd_at, if_neg (by omega), upd_at, if_neg (by omega)]; exact hC.2.2.2.2.1
    · rw [upd_at, if_neg (by omega), upd_at, if_neg (by omega)]; exact hC.2.2.2.2.2
  rw [e21]
  refine ⟨fun hl x98 e98 => fin x98 ?_, fun hl x98 e98 => fin x98 ?_⟩
  · rw [hunt_int (by omega)] at e98
    rw [e98]
    show _ = nI (if _ then _ else _)
    rw [if_neg (by simpa using hl)]
  · rw [fa_and, Nat.and_self] at e98
    rw [e98]
    show _ = nI (if _ then _ else _)
    rw [if_pos (by simpa using hl)]
theorem s_X3_keep {n : Nat} {C : CV} {al re mo ye : Int32} {weights marks slots isK : Nat → Int32} (hn : n ≤ 6) (hR : Rg n C) (hC : Crt n C al re mo ye weights marks) {l1 : Int32} {post : Int32 → (Nat → Int32) → (Nat → Int32) → Prop} (hun : (∀ s, s < 2 → l1 ≠ nI s) → post (-1) slots isK) (h1 : ∀ s, s < 2 → l1 = nI s → ∀ s2 : Nat → Int32, (∀ j, (j < 25 * s ∨ 25 * s + 25 ≤ j) → s2 j = slots j) → Row n C (fun k => s2 (25 * s + k)) → post (nI (pcn (ca C))) s2 (upd isK s 1)) : p_X3_keep al re mo ye weights marks slots isK l1 post := by
  unfold p_X3_keep
  have h64 := p2_6 hn
  have ha : ca C < 64 := by have := hR.2.2.2.1; omega
  rcases ix_cases l1 (n := 2) (by omega) with ⟨s, hs, rfl⟩ | ⟨hs, hs2⟩
  · refine ⟨fun h => absurd h (nI_pos (by omega)), fun _ => ⟨fun _ => ?_, fun h => absurd (nI_lt (a := s) (b := 2) hs (by omega)) h⟩⟩
    refine s_X1_packInto hC hn (by omega) (by omega) (fun s2 q1 q2 => ⟨vp_in_nI hs (by omega), ?_⟩)
    rw [hC.1, ix_nI (by omega), show jbool 1 = 1 by decide]
    exact s_X1_aliveCount ha (h1 s hs rfl s2 q1 q2)
  · exact ⟨fun _ => hun hs, fun h0 => ⟨fun h3 => by
      exfalso
      rw [fa_lt, show (0 : Int32).toInt = 0 from rfl] at h0
      rw [fa_lt, show (2 : Int32).toInt = 2 from rfl] at h3
      omega, fun _ => hun hs⟩⟩
theorem s_X4_keep {n : Nat} {C : CV} {th : Int32} {page kept isK : Nat → Int32} (hn : n ≤ 6) (hR : Rg n C) (hC : Row n C page) {l1 : Int32} {post : Int32 → Int32 → (Nat → Int32) → (Nat → Int32) → Prop} (hun : (∀ s, s < 2 → l1 ≠ nI s) → post (-1) 0 kept isK) (h1 : ∀ s, s < 2 → l1 = nI s → ∀ s2 : Nat → Int32, (∀ j, (j < 25 * s ∨ 25 * s + 25 ≤ j) → s2 j = kept j) → (∀ k, k < 25 → s2 (25 * s + k) = page k) → post (nI (pcn (ca C))) 0 s2 (upd isK s 1)) : p_X4_keep th page kept isK l1 post := by
  unfold p_X4_keep
  have e0 : (0 : Int64).toInt = 0 := rfl
  have e1 : (1 : Int64).toInt = 1 := rfl
  refine s_X4_in (fun g1 g2 => ⟨fun _ => ?_, fun h => absurd h (by decide)⟩) (fun g => ⟨fun h => absurd rfl h, fun _ => hun fun k hk e => g ?_⟩)
  · rw [Int32.toInt_toInt64, e0] at g1
    rw [Int32.toInt_toInt64, e1] at g2
    rcases ix_cases l1 (n := 2) (by omega) with ⟨s, hs, rfl⟩ | ⟨hk, hk2⟩
    · refine ⟨vp_in_nI hs (by omega), ?_⟩
      refine wle_cnt 25 (fun i (v : Int32 × (Nat → Int32)) => v.1 = nI i ∧ (∀ j, (j < 25 * s ∨ 25 * s + 25 ≤ j) → v.2 j = kept j) ∧ (∀ k, k < i → v.2 (25 * s + k) = page k)) ?_ _ 0 (Nat.zero_le _) ⟨rfl, fun j hj => rfl, fun k hk => by omega⟩
      rintro rec i ⟨l2, b⟩ hi ⟨e2, q1, q2⟩ hrec
      dsimp only at e2 q1 q2 ⊢
      subst e2
      unfold b_X4_keep_26
      rw [show (25 : Int32) = nI 25 from rfl, nI_leI (by omega) (by omega), pk_mul, nI_add, ix_nI (by omega), ix_nI (by omega), ix_nI (by omega)]
      refine ⟨fun hni => ?_, fun hni => ⟨vp_in_nI (by omega) (by omega), fun x48 e48 => ⟨vp_in_nI (by omega) (by omega), fun x49 e49 => ?_⟩⟩⟩
      · have e : i = 25 := by omega
        subst e
        rw [show ix 21 = 21 from rfl, hC.2.2.1, show jbool 1 = 1 by decide]
        exact s_X4_many (hR.a31 hn) (h1 s hs rfl _ q1 q2)
      · rw [nI_1] at e49
        refine hrec (by omega) _ ⟨e49, fun j hj => ?_, fun k hk => ?_⟩
        · show upd b _ _ j = _
          rw [upd_at, if_neg (by omega)]; exact q1 j hj
        · show upd b _ _ (25 * s + k) = _
          rw [upd_at]
          by_cases e : k = i
          · rw [if_pos (by omega), e48, e]
          · rw [if_neg (by omega)]; exact q2 k (by omega)
    · omega
  · rw [Int32.toInt_toInt64, e0, e1, e, nI_toInt (by omega)]; omega
theorem SlotR.keep {n s : Nat} {C : CV} {slots isK kept mK s2 k2 page : Nat → Int32} (hn : n ≤ 6) (hS : SlotR n slots isK kept mK) (hs : s < 2) (hR : Rg n C) (hP : Row n C page) (h1 : ∀ j, (j < 25 * s ∨ 25 * s + 25 ≤ j) → s2 j = slots j) (h2 : Row n C (fun k => s2 (25 * s + k))) (h3 : ∀ j, (j < 25 * s ∨ 25 * s + 25 ≤ j) → k2 j = kept j) (h4 : ∀ k, k < 25 → k2 (25 * s + k) = page k) : SlotR n s2 (upd isK s 1) k2 (upd mK s 1) := by
  intro z hz
  rw [upd_at, upd_at]
  by_cases e : z = s
  · rw [if_pos e, if_pos e]
    exact ⟨rfl, Or.inr ⟨rfl, C, hR, by rw [e]; exact h2, by rw [e]; exact hP.cong hn h4⟩⟩
  · rw [if_neg e, if_neg e]
    obtain ⟨a, b⟩ := hS z hz
    refine ⟨a, ?_⟩
    rcases b with b | ⟨b, C', r1, r2, r3⟩
    · exact Or.inl b
    · exact Or.inr ⟨b, C', r1, r2.cong hn (fun k hk => h1 _ (by omega)), r3.cong hn (fun k hk => h3 _ (by omega))⟩
theorem s_X3_again {n c t : Nat} {al re mo ye : Int32} {weights marks slots isK kept mK : Nat → Int32} (hn : n ≤ 6) (hS : SlotR n slots isK kept mK) {l1 : Int32} {post : Int32 → Int32 → Int32 → Int32 → Int32 → Int32 → Int32 → (Nat → Int32) → (Nat → Int32) → Prop} (hun : (∀ s, s < 2 → l1 ≠ nI s) → post (-1) (nI t) (nI c) al re mo ye weights marks) (hlate : ∀ s, s < 2 → l1 = nI s → mK s = 0 → post (-3) (nI t) (nI c) al re mo ye weights marks)
    (h1 : ∀ s (C : CV), s < 2 → l1 = nI s → mK s = 1 → Rg n C → Row n C (fun k => kept (25 * s + k)) → ∀ (al re mo ye : Int32) (weights marks : Nat → Int32), Crt n C al re mo ye weights marks → post (nI (pcn (ca C))) 0 0 al re mo ye weights marks) : p_X3_again (nI t) (nI c) al re mo ye weights marks slots isK l1 post := by
  unfold p_X3_again
  have h64 := p2_6 hn
  rcases ix_cases l1 (n := 2) (by omega) with ⟨s, hs, rfl⟩ | ⟨hs, hs2⟩
  · refine ⟨fun h => absurd h (nI_pos (by omega)), fun _ => ⟨fun _ => ⟨vp_in_nI hs (by omega), ?_⟩, fun h => absurd (nI_lt (a := s) (b := 2) hs (by omega)) h⟩⟩
    obtain ⟨a, b⟩ := hS s hs
    rw [ix_nI (by omega), a]
    refine ⟨fun hz => ?_, fun hz => hlate s hs rfl hz⟩
    rcases b with b | ⟨b, C, r1, r2, r3⟩
    · exact absurd b hz
    · refine s_X1_unpackFrom hn (by omega) (by omega) r2 (fun al re mo ye weights marks q => ?_)
      unfold p_X3_forgetActs
      have fin := h1 s C hs rfl b r1 r3 al re mo ye weights marks q
      have ha : ca C < 64 := by have := r1.2.2.2.1; omega
      rw [q.1] at fin ⊢
      exact s_X1_aliveCount ha fin
  · exact ⟨fun _ => hun hs, fun h0 => ⟨fun h3 => by
      exfalso
      rw [fa_lt, show (0 : Int32).toInt = 0 from rfl] at h0
      rw [fa_lt, show (2 : Int32).toInt = 2 from rfl] at h3
      omega, fun _ => hun hs⟩⟩
theorem s_X4_again {n : Nat} {th ac : Int32} {page slots isK kept mK : Nat → Int32} (hn : n ≤ 6) (hS : SlotR n slots isK kept mK) {l1 : Int32} {post : Int32 → Int32 → Int32 → (Nat → Int32) → Prop} (hun : (∀ s, s < 2 → l1 ≠ nI s) → post (-1) 0 ac page) (hlate : ∀ s, s < 2 → l1 = nI s → mK s = 0 → post (-3) 0 ac page)
    (h1 : ∀ s (C : CV), s < 2 → l1 = nI s → mK s = 1 → Rg n C → Row n C (fun k => kept (25 * s + k)) → ∀ p2 : Nat → Int32, Row n C p2 → post (nI (pcn (ca C))) 0 0 p2) : p_X4_again th ac page kept mK l1 post := by
  unfold p_X4_again
  have e0 : (0 : Int64).toInt = 0 := rfl
  have e1 : (1 : Int64).toInt = 1 := rfl
  refine s_X4_in (fun g1 g2 => ⟨fun _ => ?_, fun h => absurd h (by decide)⟩) (fun g => ⟨fun h => absurd rfl h, fun _ => hun fun k hk e => g ?_⟩)
  · rw [Int32.toInt_toInt64, e0] at g1
    rw [Int32.toInt_toInt64, e1] at g2
    rcases ix_cases l1 (n := 2) (by omega) with ⟨s, hs, rfl⟩ | ⟨hk, hk2⟩
    · refine ⟨vp_in_nI hs (by omega), ?_⟩
      obtain ⟨a, b⟩ := hS s hs
      rw [ix_nI (by omega)]
      refine ⟨fun hz => ?_, fun hz => hlate s hs rfl hz⟩
      rcases b with b | ⟨b, C, r1, r2, r3⟩
      · exact absurd b hz
      · refine wle_cnt 25 (fun i (v : Int32 × (Nat → Int32)) => v.1 = nI i ∧ (∀ k, k < i → v.2 k = kept (25 * s + k))) ?_ _ 0 (Nat.zero_le _) ⟨rfl, fun k hk => by omega⟩
        rintro rec i ⟨l2, pg⟩ hi ⟨e2, q2⟩ hrec
        dsimp only at e2 q2 ⊢
        subst e2
        unfold b_X4_again_31
        rw [show (25 : Int32) = nI 25 from rfl, nI_leI (by omega) (by omega), pk_mul, nI_add, ix_nI (by omega), ix_nI (by omega)]
        refine ⟨fun hni => ?_, fun hni => ⟨vp_in_nI (by omega) (by omega), fun x53 e53 => ⟨vp_in_nI (by omega) (by omega), fun x54 e54 => ?_⟩⟩⟩
        · have e : i = 25 := by omega
          subst e
          have hP : Row n C pg := r3.cong hn q2
          rw [show ix 21 = 21 from rfl]
          dsimp only
          rw [hP.2.2.1]
          exact s_X4_many (r1.a31 hn) (h1 s C hs rfl b r1 r3 _ hP)
        · rw [nI_1] at e54
          refine hrec (by omega) _ ⟨e54, fun k hk => ?_⟩
          show upd pg _ _ k = _
          rw [upd_at]
          by_cases e : k = i
          · rw [if_pos e, e53, e]
          · rw [if_neg e]; exact q2 k (by omega)
    · omega
  · rw [Int32.toInt_toInt64, e0, e1, e, nI_toInt (by omega)]; omega
