/-! values, and who is fairest -/
/-- an array's first N places hold these numbers -/
def Av (f : Nat → Int32) (g : Nat → Nat) (N : Nat) : Prop := ∀ k, k < N → f k = nI (g k)
def val3 (w m : Nat → Nat) (p : Nat) : Nat := w 0 * m (3 * p) + w 1 * m (3 * p + 1) + w 2 * m (3 * p + 2)
/-- three figures -/
def fig (w : Nat → Nat) : Nat := 100 * w 0 + 10 * w 1 + w 2
def dg (W : Nat) : Nat → Nat := fun i => if i = 0 then W / 100 else if i = 1 then W / 10 % 10 else W % 10
theorem val3_dg {w : Nat → Nat} (h : ∀ i, i < 3 → w i ≤ 9) (m : Nat → Nat) (p : Nat) : val3 (dg (fig w)) m p = val3 w m p := by
  have h0 := h 0 (by omega)
  have h1 := h 1 (by omega)
  have h2 := h 2 (by omega)
  have e0 : dg (fig w) 0 = w 0 := by simp only [dg, fig, if_true]; omega
  have e1 : dg (fig w) 1 = w 1 := by simp [dg, fig]; omega
  have e2 : dg (fig w) 2 = w 2 := by simp [dg, fig]; omega
  simp only [val3, e0, e1, e2]
theorem val3_le {w m : Nat → Nat} {p n : Nat} (hp : p < n) (hw : ∀ i, i < 3 → w i ≤ 9) (hm : ∀ k, k < 3 * n → m k ≤ 9) : val3 w m p ≤ 243 := by
  have a0 := hw 0 (by omega)
  have a1 := hw 1 (by omega)
  have a2 := hw 2 (by omega)
  have b0 := hm (3 * p) (by omega)
  have b1 := hm (3 * p + 1) (by omega)
  have b2 := hm (3 * p + 2) (by omega)
  have c0 := Nat.mul_le_mul a0 b0
  have c1 := Nat.mul_le_mul a1 b1
  have c2 := Nat.mul_le_mul a2 b2
  unfold val3
  omega
theorem dg_le {W : Nat} (h : W ≤ 999) : ∀ i, i < 3 → dg W i ≤ 9 := by
  intro i hi
  unfold dg
  split
  · omega
  · split <;> omega
theorem s_X1_valueOf {w m : Nat → Nat} {weights marks : Nat → Int32} {p n : Nat} (hw : Av weights w 3) (hm : Av marks m (3 * n)) (hp : p < n) (hn : n ≤ 6) {post : Int32 → Prop} (h : post (nI (val3 w m p))) : p_X1_valueOf weights marks (nI p) post := by
  unfold p_X1_valueOf
  intro x3 e
  have e1 : x3 = nI (3 * p) := by
    rw [e, show (3 : Int32) = nI 3 from rfl, pk_mul, Nat.mul_comm]
  subst e1
  rw [show (1 : Int32) = nI 1 from rfl, show (2 : Int32) = nI 2 from rfl, show (0 : Int32) = nI 0 from rfl, nI_add, nI_add, ix_nI (by omega), ix_nI (by omega), ix_nI (by omega), ix_nI (by omega), ix_nI (by omega), ix_nI (by omega)]
  refine ⟨vp_in_nI (by omega) (by omega), vp_in_nI (by omega) (by omega), vp_in_nI (by omega) (by omega), ?_⟩
  rw [hw 0 (by omega), hw 1 (by omega), hw 2 (by omega), hm _ (by omega), hm _ (by omega), hm _ (by omega), pk_mul, pk_mul, pk_mul, nI_add, nI_add]
  exact h
theorem s_X4_weightsOf {w : Nat → Nat} {page : Nat → Int32} (hw : Av page w 3) {post : Int32 → Prop} (h : post (nI (fig w))) : p_X4_weightsOf page post := by
  unfold p_X4_weightsOf
  rw [show (1 : Int32) = nI 1 from rfl, show (2 : Int32) = nI 2 from rfl, show (0 : Int32) = nI 0 from rfl, show (100 : Int32) = nI 100 from rfl, show (10 : Int32) = nI 10 from rfl, ix_nI (by omega), ix_nI (by omega), ix_nI (by omega), hw 0 (by omega), hw 1 (by omega), hw 2 (by omega), pk_mul, pk_mul, nI_add, nI_add]
  exact h
theorem s_X1_weightsAsFigures {w : Nat → Nat} {weights : Nat → Int32} (hw : Av weights w 3) {post : Int32 → Prop} (h : post (nI (fig w))) : p_X1_weightsAsFigures weights post := by
  unfold p_X1_weightsAsFigures
  rw [show (1 : Int32) = nI 1 from rfl, show (2 : Int32) = nI 2 from rfl, show (0 : Int32) = nI 0 from rfl, show (100 : Int32) = nI 100 from rfl, show (10 : Int32) = nI 10 from rfl, ix_nI (by omega), ix_nI (by omega), ix_nI (by omega), hw 0 (by omega), hw 1 (by omega), hw 2 (by omega), pk_mul, pk_mul, nI_add, nI_add, Nat.mul_comm (w 0), Nat.mul_comm (w 1)]
  exact h
theorem q_div {a d : Nat} (ha : a < 2 ^ 31) (h0 : 0 < d) (hd : d < 2 ^ 31) : nI a / nI d = nI (a / d) := pk_div ha h0 hd
theorem q_rem {a d : Nat} (ha : a < 2 ^ 31) (h0 : 0 < d) (hd : d < 2 ^ 31) : jrem (nI a) (nI d) = nI (a % d) := pk_rem ha h0 hd
theorem s_X4_valueOf {m : Nat → Nat} {page : Nat → Int32} {p n W : Nat} (hm : Av (fun k => page (3 + k)) m (3 * n)) (hp : p < n) (hn : n ≤ 6) (hW : W < 2 ^ 31) {post : Int32 → Prop} (h : post (nI (val3 (dg W) m p))) : p_X4_valueOf page (nI p) (nI W) post := by
  unfold p_X4_valueOf
  have hW10 : W / 10 < 2 ^ 31 := by omega
  rw [show (3 : Int32) = nI 3 from rfl, show (4 : Int32) = nI 4 from rfl, show (5 : Int32) = nI 5 from rfl, show (100 : Int32) = nI 100 from rfl, show (10 : Int32) = nI 10 from rfl, pk_mul, nI_add, nI_add, nI_add, q_div hW (by omega) (by omega), q_div hW (by omega) (by omega), q_rem hW10 (by omega) (by omega), q_rem hW (by omega) (by omega), ix_nI (by omega), ix_nI (by omega), ix_nI (by omega)]
  refine ⟨vp_in_nI (by omega) (by omega), vp_in_nI (by omega) (by omega), vp_in_nI (by omega) (by omega), ?_⟩
  have a0 : page (3 + 3 * p) = nI (m (3 * p)) := hm (3 * p) (by omega)
  have a1 : page (4 + 3 * p) = nI (m (3 * p + 1)) := by
    have := hm (3 * p + 1) (by omega)
    rw [← this]; congr 1; omega
  have a2 : page (5 + 3 * p) = nI (m (3 * p + 2)) := by
    have := hm (3 * p + 2) (by omega)
    rw [← this]; congr 1; omega
  rw [a0, a1, a2, pk_mul, pk_mul, pk_mul, nI_add, nI_add]
  have e : m (3 * p) * (W / 100) + m (3 * p + 1) * (W / 10 % 10) + m (3 * p + 2) * (W % 10) = val3 (dg W) m p := by
    simp only [val3, dg]
    simp [Nat.mul_comm]
  rw [e]
  exact h
/-- t's bits are those of s whose value is greatest, of the first n -/
def IsFair (v : Nat → Nat) (s n t : Nat) : Prop := t < 2 ^ n ∧ ∀ p, t.testBit p = true ↔ (p < n ∧ s.testBit p = true ∧ ∀ q, q < n → s.testBit q = true → v q ≤ v p)
theorem IsFair.one {v : Nat → Nat} {s n t u : Nat} (h : IsFair v s n t) (h2 : IsFair v s n u) : t = u := by
  apply Nat.eq_of_testBit_eq
  intro i
  have a : t.testBit i = true ↔ u.testBit i = true := (h.2 i).trans (h2.2 i).symm
  rcases ht : t.testBit i with _ | _ <;> rcases hu : u.testBit i with _ | _ <;> simp [ht, hu] at a ⊢
/-- bits by a test -/
def bitsOf (P : Nat → Bool) : Nat → Nat
  | 0 => 0
  | k + 1 => bitsOf P k + (if P k then 2 ^ k else 0)
theorem bitsOf_lt (P : Nat → Bool) : ∀ n, bitsOf P n < 2 ^ n
  | 0 => by simp [bitsOf]
  | n + 1 => by
    have h := bitsOf_lt P n
    simp only [bitsOf]
    have : 2 ^ (n + 1) = 2 ^ n + 2 ^ n := by rw [Nat.pow_succ]; omega
    split <;> omega
theorem tb_add {a k i : Nat} (h : a < 2 ^ k) : (a + 2 ^ k).testBit i = (a.testBit i || decide (i = k)) := by
  have e : a + 2 ^ k = 2 ^ k * 1 + a := by omega
  rw [e, Nat.two_pow_add_eq_or_of_lt h, Nat.testBit_or, Nat.mul_one, Nat.testBit_two_pow, Bool.or_comm]
  by_cases q : k = i
  · subst q; simp
  · have : ¬ i = k := fun z => q z.symm
    simp [q, this]
theorem bitsOf_tb (P : Nat → Bool) (i : Nat) : ∀ n, (bitsOf P n).testBit i = (decide (i < n) && P i)
  | 0 => by simp [bitsOf]
  | n + 1 => by
    have h := bitsOf_tb P i n
    simp only [bitsOf]
    by_cases hP : P n = true
    · rw [if_pos hP, tb_add (bitsOf_lt P n), h]
      by_cases q : i = n
      · subst q; simp [hP]
      · have e : (i < n + 1) = (i < n) := by apply propext; omega
        simp [q, e]
    · rw [if_neg hP, Nat.add_zero, h]
      by_cases q : i = n
      · subst q; simp at hP; simp [hP]
      · have e : (i < n + 1) = (i < n) := by apply propext; omega
        simp [e]
def fair (v : Nat → Nat) (s n : Nat) : Nat := bitsOf (fun p => s.testBit p && decide (∀ q, q < n → s.testBit q = true → v q ≤ v p)) n
theorem fair_is (v : Nat → Nat) (s n : Nat) : IsFair v s n (fair v s n) := by
  refine ⟨bitsOf_lt _ _, fun p => ?_⟩
  unfold fair
  rw [bitsOf_tb]
  simp only [Bool.and_eq_true, decide_eq_true_eq]
theorem fair_eq {v : Nat → Nat} {s n t : Nat} (h : IsFair v s n t) : t = fair v s n := h.one (fair_is v s n)
theorem fair_lt (v : Nat → Nat) (s n : Nat) : fair v s n < 2 ^ n := (fair_is v s n).1
theorem fair_cong {v u : Nat → Nat} {s n : Nat} (h : ∀ p, p < n → v p = u p) : fair v s n = fair u s n := by
  refine IsFair.one (v := u) (s := s) (n := n) ⟨fair_lt v s n, fun p => ?_⟩ (fair_is u s n)
  rw [(fair_is v s n).2 p]
  constructor
  · rintro ⟨a, b, c⟩
    exact ⟨a, b, fun q hq hsq => by rw [← h q hq, ← h p a]; exact c q hq hsq⟩
  · rintro ⟨a, b, c⟩
    exact ⟨a, b, fun q hq hsq => by rw [h q hq, h p a]; exact c q hq hsq⟩
/-- on the way: the first i are looked at, g is the greatest value (z: none yet) -/
def FI (v : Nat → Nat) (s : Nat) (z : Int) (i : Nat) (g : Int) (t : Nat) : Prop := IsFair v s i t ∧ (∀ q, q < i → s.testBit q = true → (v q : Int) ≤ g) ∧ (g = z ∨ ∃ q, q < i ∧ s.testBit q = true ∧ g = v q)
theorem lt_succ_cases {q i : Nat} (h : q < i + 1) : q < i ∨ q = i := by omega
theorem FI_0 (v : Nat → Nat) (s : Nat) (z : Int) : FI v s z 0 z 0 := ⟨⟨by simp, fun p => by simp⟩, fun q h => by omega, Or.inl rfl⟩
theorem FI_skip {v : Nat → Nat} {s i t : Nat} {z g : Int} (hs : s.testBit i = false) (h : FI v s z i g t) : FI v s z (i + 1) g t := by
  obtain ⟨⟨h1, h2⟩, h3, h4⟩ := h
  refine ⟨⟨by rw [Nat.pow_succ]; omega, fun p => ?_⟩, fun q hq hsq => ?_, ?_⟩
  · rw [h2 p]
    constructor
    · rintro ⟨a, b, c⟩
      refine ⟨by omega, b, fun q hq hsq => ?_⟩
      rcases lt_succ_cases hq with e | rfl
      · exact c q e hsq
      · rw [hs] at hsq; cases hsq
    · rintro ⟨a, b, c⟩
      rcases lt_succ_cases a with e | rfl
      · exact ⟨e, b, fun q hq hsq => c q (by omega) hsq⟩
      · rw [hs] at b; cases b
  · rcases lt_succ_cases hq with e | rfl
    · exact h3 q e hsq
    · rw [hs] at hsq; cases hsq
  · rcases h4 with e | ⟨q, a, b, c⟩
    · exact Or.inl e
    · exact Or.inr ⟨q, by omega, b, c⟩
theorem FI_lt {v : Nat → Nat} {s i t : Nat} {z g : Int} (hz : z < 0) (hlt : (v i : Int) < g) (h : FI v s z i g t) : FI v s z (i + 1) g t := by
  obtain ⟨⟨h1, h2⟩, h3, h4⟩ := h
  obtain ⟨r, hr, hsr, er⟩ : ∃ q, q < i ∧ s.testBit q = true ∧ g = v q := by
    rcases h4 with e | e
    · omega
    · exact e
  refine ⟨⟨by rw [Nat.pow_succ]; omega, fun p => ?_⟩, fun q hq hsq => ?_, Or.inr ⟨r, by omega, hsr, er⟩⟩
  · rw [h2 p]
    constructor
    · rintro ⟨a, b, c⟩
      refine ⟨by omega, b, fun q hq hsq => ?_⟩
      rcases lt_succ_cases hq with e | rfl
      · exact c q e hsq
      · have := c r hr hsr; omega
    · rintro ⟨a, b, c⟩
      rcases lt_succ_cases a with e | rfl
      · exact ⟨e, b, fun q hq hsq => c q (by omega) hsq⟩
      · have := c r (by omega) hsr; omega
  · rcases lt_succ_cases hq with e | rfl
    · exact h3 q e hsq
    · omega
theorem FI_eq {v : Nat → Nat} {s i t : Nat} {z g : Int} (hz : z < 0) (hs : s.testBit i = true) (heq : (v i : Int) = g) (h : FI v s z i g t) : FI v s z (i + 1) g (t ||| 2 ^ i) := by
  obtain ⟨⟨h1, h2⟩, h3, h4⟩ := h
  obtain ⟨r, hr, hsr, er⟩ : ∃ q, q < i ∧ s.testBit q = true ∧ g = v q := by
    rcases h4 with e | e
    · omega
    · exact e
  refine ⟨⟨?_, fun p => ?_⟩, fun q hq hsq => ?_, Or.inr ⟨r, by omega, hsr, er⟩⟩
  · apply Nat.or_lt_two_pow
    · rw [Nat.pow_succ]; omega
    · rw [Nat.pow_succ]; have := Nat.two_pow_pos i; omega
  · rw [Nat.testBit_or, Nat.testBit_two_pow, Bool.or_eq_true, h2 p, decide_eq_true_eq]
    constructor
    · rintro (⟨a, b, c⟩ | rfl)
      · refine ⟨by omega, b, fun q hq hsq => ?_⟩
        rcases lt_succ_cases hq with e | rfl
        · exact c q e hsq
        · have := c r hr hsr; omega
      · refine ⟨by omega, hs, fun q hq hsq => ?_⟩
        rcases lt_succ_cases hq with e | rfl
        · have := h3 q e hsq; omega
        · exact Nat.le_refl _
    · rintro ⟨a, b, c⟩
      rcases lt_succ_cases a with e | rfl
      · exact Or.inl ⟨e, b, fun q hq hsq => c q (by omega) hsq⟩
      · exact Or.inr rfl
  · rcases lt_succ_cases hq with e | rfl
    · exact h3 q e hsq
    · omega
theorem FI_gt {v : Nat → Nat} {s i t : Nat} {z g : Int} (hs : s.testBit i = true) (hgt : g < (v i : Int)) (h : FI v s z i g t) : FI v s z (i + 1) (v i) (2 ^ i) := by
  obtain ⟨⟨h1, h2⟩, h3, h4⟩ := h
  refine ⟨⟨by rw [Nat.pow_succ]; have := Nat.two_pow_pos i; omega, fun p => ?_⟩, fun q hq hsq => ?_, Or.inr ⟨i, by omega, hs, rfl⟩⟩
  · rw [Nat.testBit_two_pow, decide_eq_true_eq]
    constructor
    · rintro rfl
      refine ⟨by omega, hs, fun q hq hsq => ?_⟩
      rcases lt_succ_cases hq with e | rfl
      · have := h3 q e hsq; omega
      · exact Nat.le_refl _
    · rintro ⟨a, b, c⟩
      rcases lt_succ_cases a with e | rfl
      · have h5 := c i (by omega) hs
        have h6 := h3 p e b
        omega
      · rfl
  · rcases lt_succ_cases hq with e | rfl
    · have := h3 q e hsq; omega
    · omega
theorem s_X1_fairestOf {w m : Nat → Nat} {weights marks : Nat → Int32} {n s : Nat} (hw : Av weights w 3) (hm : Av marks m (3 * n)) (hn : n ≤ 6) (hs : s < 2 ^ 31) (hb : ∀ p, p < n → val3 w m p < 2 ^ 31) {post : Int32 → Prop} (h : post (nI (fair (val3 w m) s n))) : p_X1_fairestOf (nI n) weights marks (nI s) post := by
  unfold p_X1_fairestOf
  refine wle_cnt n (fun i (v : Int32 × Int32 × Int32) => v.2.2 = nI i ∧ ∃ t, v.2.1 = nI t ∧ FI (val3 w m) s (-1) i v.1.toInt t) ?_ _ 0 (Nat.zero_le _) ⟨rfl, 0, rfl, FI_0 _ _ _⟩
  rintro rec i ⟨g, l3, l4⟩ hi ⟨e4, t, e3, hI⟩ hrec
  dsimp only at e3 e4 hI ⊢
  subst e3 e4
  unfold b_X1_fairestOf_7
  rw [nI_leI (by omega) (by omega)]
  refine ⟨fun hni => ?_, fun hni => ?_⟩
  · have e : i = n := by omega
    subst e
    rw [fair_eq hI.1]
    exact h
  · have hlt : i < n := by omega
    have e1 : ∀ x, x = nI i + 1 → x = nI (i + 1) := fun x e => by rw [e, nI_1]
    rw [q_has (by omega) hs]
    refine ⟨fun hb0 x e => ?_, fun hb1 => ?_⟩
    · rw [e1 x e]
      exact hrec hlt _ ⟨rfl, t, rfl, FI_skip (by simpa using hb0) hI⟩
    · have hvb := hb i hlt
      refine s_X1_valueOf hw hm hlt hn ?_
      rw [fa_le, nI_toInt hvb, fa_eq, nI_toInt hvb]
      refine ⟨fun hle => ⟨fun hne x e => ?_, fun heq x57 e57 x e => ?_⟩, fun hgt => ⟨fun hne => absurd rfl hne, fun _ x57 e57 x e => ?_⟩⟩
      · rw [e1 x e]
        exact hrec hlt _ ⟨rfl, t, rfl, FI_lt (g := g.toInt) (by decide) (by omega) hI⟩
      · rw [e1 x e, e57, q_shl1 (by omega), fa_or]
        exact hrec hlt _ ⟨rfl, _, rfl, FI_eq (by decide) hb1 heq hI⟩
      · rw [e1 x e, e57, q_shl1 (by omega), show (0 : Int32) = nI 0 from rfl, fa_or, Nat.zero_or]
        refine hrec hlt _ ⟨rfl, _, rfl, ?_⟩
        dsimp only
        rw [nI_toInt hvb]
        exact FI_gt hb1 (by omega) hI
theorem s_X4_fairestOf {m : Nat → Nat} {page : Nat → Int32} {n s W : Nat} (hm : Av (fun k => page (3 + k)) m (3 * n)) (hn : n ≤ 6) (hs : s < 2 ^ 31) (hW : W < 2 ^ 31) (hb : ∀ p, p < n → val3 (dg W) m p < 2 ^ 31) {post : Int32 → Prop} (h : post (nI (fair (val3 (dg W) m) s n))) : p_X4_fairestOf (nI n) page (nI s) (nI W) post := by
  unfold p_X4_fairestOf
  refine wle_cnt n (fun i (v : Int32 × Int32 × Int32) => v.2.2 = nI i ∧ ∃ t, v.2.1 = nI t ∧ FI (val3 (dg W) m) s (-9) i v.1.toInt t) ?_ _ 0 (Nat.zero_le _) ⟨rfl, 0, rfl, FI_0 _ _ _⟩
  rintro rec i ⟨g, l3, l4⟩ hi ⟨e4, t, e3, hI⟩ hrec
  dsimp only at e3 e4 hI ⊢
  subst e3 e4
  unfold b_X4_fairestOf_10
  rw [nI_leI (by omega) (by omega)]
  refine ⟨fun hni => ?_, fun hni => ?_⟩
  · have e : i = n := by omega
    subst e
    rw [fair_eq hI.1]
    exact h
  · have hlt : i < n := by omega
    have e1 : ∀ x, x = nI i + 1 → x = nI (i + 1) := fun x e => by rw [e, nI_1]
    refine s_X4_has hs (by omega) (fun hb1 => ?_) (fun hb0 => ?_)
    · refine ⟨fun h => absurd h (by decide), fun _ => ?_⟩
      have hvb := hb i hlt
      refine s_X4_valueOf hm hlt hn hW ?_
      rw [fa_le, nI_toInt hvb, fa_eq, nI_toInt hvb]
      refine ⟨fun hle => ⟨fun hne => ⟨fun _ x e => ?_, fun hc => absurd hle hc⟩, fun heq x57 e57 => ⟨fun _ x e => ?_, fun hc => absurd hle hc⟩⟩, fun hgt x57 e57 => ⟨fun hc => absurd hc hgt, fun _ x e => ?_⟩⟩
      · rw [e1 x e]
        exact hrec hlt _ ⟨rfl, t, rfl, FI_lt (g := g.toInt) (by decide) (by omega) hI⟩
      · rw [e1 x e, e57, q_shl1 (by omega), fa_or]
        exact hrec hlt _ ⟨rfl, _, rfl, FI_eq (by decide) hb1 heq hI⟩
      · rw [e1 x e, e57, q_shl1 (by omega)]
        refine hrec hlt _ ⟨rfl, _, rfl, ?_⟩
        dsimp only
        rw [nI_toInt hvb]
        exact FI_gt hb1 (by omega) hI
    · refine ⟨fun _ x e => ?_, fun h => absurd rfl h⟩
      rw [e1 x e]
      exact hrec hlt _ ⟨rfl, t, rfl, FI_skip hb0 hI⟩
