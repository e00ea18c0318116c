/-! long numbers; the common divisor; rate, saying, believed -/
def nL (n : Nat) : Int64 := Int64.ofNat n
theorem nL_toInt {a : Nat} (h : a < 2 ^ 63) : (nL a).toInt = (a : Int) := Int64.toInt_ofNat_of_lt h
theorem nL_add (a b : Nat) : nL a + nL b = nL (a + b) := (Int64.ofNat_add a b).symm
theorem nL_mul (a b : Nat) : nL a * nL b = nL (a * b) := (Int64.ofNat_mul a b).symm
theorem nL_sub {a b : Nat} (h : b ≤ a) : nL a - nL b = nL (a - b) := (Int64.ofNat_sub a b h).symm
theorem nL_32 (a : Nat) : (nL a).toInt32 = nI a := Int64.toInt32_ofNat'
theorem nI_64 {a : Nat} (h : a < 2 ^ 31) : (nI a).toInt64 = nL a := by
  rw [fa_eq64, Int32.toInt_toInt64, nI_toInt h, nL_toInt (by omega)]
theorem nL_ne {b : Nat} (h0 : 0 < b) (h : b < 2 ^ 63) : ¬ nL b = 0 := fun e => by
  rw [fa_eq64, nL_toInt h, show (0 : Int64).toInt = 0 from rfl] at e; omega
theorem nL_div {a b : Nat} (ha : a < 2 ^ 63) (h0 : 0 < b) (hb : b < 2 ^ 63) : nL a / nL b = nL (a / b) := by
  have h1 := Nat.div_le_self a b
  have hne : nL b ≠ -1 := fun e => by
    rw [fa_eq64, nL_toInt hb, show (-1 : Int64).toInt = -1 from rfl] at e; omega
  rw [fa_eq64, Int64.toInt_div_of_ne_right _ _ hne, nL_toInt ha, nL_toInt hb, nL_toInt (by omega)]
  exact (Int.ofNat_tdiv a b).symm
theorem nL_rem {a b : Nat} (ha : a < 2 ^ 63) (h0 : 0 < b) (hb : b < 2 ^ 63) : jlrem (nL a) (nL b) = nL (a % b) := by
  unfold jlrem
  rw [nL_div ha h0 hb, nL_mul, nL_sub (Nat.div_mul_le_self a b)]
  exact congrArg nL (by have := Nat.div_add_mod' a b; omega)
theorem mod2 {a b : Nat} (h : a % b ≠ 0) (hb : 0 < b) : 2 * (b % (a % b)) < b := by
  have h1 := Nat.mod_lt a hb
  have h2 := Nat.mod_lt b (show 0 < a % b by omega)
  have h3 : b % (a % b) ≤ b - a % b := by
    rw [Nat.mod_eq_sub_mod (by omega)]
    exact Nat.mod_le _ _
  omega
theorem gcd_step (a b : Nat) : Nat.gcd b (a % b) = Nat.gcd a b := by
  rw [Nat.gcd_comm a b, Nat.gcd_rec b a, Nat.gcd_comm]
theorem s_X3_cd {K : Int32 → Int32 → Int32 → Prop} : ∀ (k a b i : Nat), a < 2 ^ 31 → b < 2 ^ k → b < 2 ^ 31 → i + 2 * k ≤ 900 → (∀ l1 l2, K (nI (Nat.gcd a b)) l1 l2) → wl (fun ρ ν => b_X3_commonDivisor_2 K ρ ν.1 ν.2.1 ν.2.2) (2 * k + 1) (nI a, nI b, nI i) := by
  intro k
  induction k with
  | zero =>
    intro a b i ha hb hb31 hi h
    have e : b = 0 := by simpa using hb
    subst e
    show b_X3_commonDivisor_2 K _ (nI a) (nI 0) (nI i)
    unfold b_X3_commonDivisor_2
    rw [Nat.gcd_zero_right] at h
    exact ⟨fun _ => h _ _, fun h => absurd rfl h⟩
  | succ k ih =>
    intro a b i ha hb hb31 hi h
    show b_X3_commonDivisor_2 K (wl _ (2 * k + 1 + 1)) (nI a) (nI b) (nI i)
    unfold b_X3_commonDivisor_2
    have c0 : nI b = 0 ↔ b = 0 := nI_eq (b := 0) hb31 (by omega)
    have c1 : 1000 ≤ nI i ↔ 1000 ≤ i := nI_leI (a := 1000) (by omega) (by omega)
    rw [c0, c1]
    refine ⟨fun e => ?_, fun e => ⟨fun g => by omega, fun _ => ⟨e, fun x16 e16 x21 e21 => ?_⟩⟩⟩
    · subst e
      rw [Nat.gcd_zero_right] at h
      exact h _ _
    · rw [q_rem ha (by omega) hb31] at e16
      rw [nI_1] at e21
      subst e16 e21
      have hm := Nat.mod_lt a (show 0 < b by omega)
      show b_X3_commonDivisor_2 K (wl _ (2 * k + 1)) (nI b) (nI (a % b)) (nI (i + 1))
      unfold b_X3_commonDivisor_2
      have c0 : nI (a % b) = 0 ↔ a % b = 0 := nI_eq (b := 0) (by omega) (by omega)
      have c1 : 1000 ≤ nI (i + 1) ↔ 1000 ≤ i + 1 := nI_leI (a := 1000) (by omega) (by omega)
      rw [c0, c1]
      rw [← gcd_step] at h
      refine ⟨fun e2 => ?_, fun e2 => ⟨fun g => by omega, fun _ => ⟨e2, fun x16 e16 x21 e21 => ?_⟩⟩⟩
      · rw [e2, Nat.gcd_zero_right] at h
        exact h _ _
      · rw [q_rem hb31 (by omega) (by omega)] at e16
        rw [nI_1] at e21
        subst e16 e21
        have h2 := mod2 e2 (by omega)
        rw [← gcd_step] at h
        have hb' : b < 2 ^ k * 2 := by rw [← Nat.pow_succ]; exact hb
        exact ih _ _ _ (by omega) (by omega) (by omega) (by omega) h
theorem s_X3_commonDivisor {a b : Nat} (ha : a < 2 ^ 31) (hb : b < 2 ^ 31) {post : Int32 → Prop} (h : post (nI (Nat.gcd a b))) : p_X3_commonDivisor (nI a) (nI b) post := ⟨2 * 31 + 1, s_X3_cd 31 a b 0 ha hb hb (by omega) (fun _ _ => h)⟩
theorem s_X4_cd {K : Int64 → Int64 → Prop} : ∀ (k a b : Nat), b < k → a < 2 ^ 63 → b < 2 ^ 63 → (∀ l1, K (nL (Nat.gcd a b)) l1) → wl (fun ρ ν => b_X4_divisor_6 K ρ ν.1 ν.2) k (nL a, nL b) := by
  intro k
  induction k with
  | zero => intro a b h; omega
  | succ k ih =>
    intro a b hk ha hb h
    show b_X4_divisor_6 K (wl _ k) (nL a) (nL b)
    unfold b_X4_divisor_6
    rw [cmp_eq0]
    refine ⟨fun e => ?_, fun e => ⟨e, fun x ex => ?_⟩⟩
    · have e0 : b = 0 := by
        rw [fa_eq64, nL_toInt hb, show (0 : Int64).toInt = 0 from rfl] at e; omega
      subst e0
      rw [Nat.gcd_zero_right] at h
      exact h _
    · have e0 : b ≠ 0 := fun z => e (by rw [z]; rfl)
      rw [nL_rem ha (by omega) hb] at ex
      subst ex
      have hm := Nat.mod_lt a (show 0 < b by omega)
      rw [← gcd_step] at h
      exact ih _ _ (by omega) hb (by omega) h
theorem s_X4_divisor {a b : Nat} (ha : a < 2 ^ 63) (hb : b < 2 ^ 63) {post : Int64 → Prop} (h : post (nL (Nat.gcd a b))) : p_X4_divisor (nL a) (nL b) post := ⟨b + 1, s_X4_cd (b + 1) a b (by omega) ha hb (fun _ => h)⟩
def frI (num den : Nat) (l : Int32) : Int32 := if l = 0 then nI (den / Nat.gcd num den) else nI (num / Nat.gcd num den)
theorem s_X3_part {num den : Nat} (hn : num < 2 ^ 31) (h0 : 0 < den) (hd : den < 2 ^ 31) {l : Int32} {post : Int32 → Prop} (h : post (frI num den l)) : p_X3_partOfFraction (nI num) (nI den) l post := by
  unfold p_X3_partOfFraction
  refine s_X3_commonDivisor hn hd ?_
  have hg : Nat.gcd num den ≤ den := Nat.gcd_le_right _ h0
  have hg0 : 0 < Nat.gcd num den := Nat.gcd_pos_of_pos_right _ h0
  have c0 : nI (Nat.gcd num den) = 0 ↔ Nat.gcd num den = 0 := nI_eq (b := 0) (by omega) (by omega)
  rw [c0, q_div hd hg0 (by omega), q_div hn hg0 (by omega)]
  unfold frI at h
  refine ⟨fun g => ⟨fun e => ⟨g, ?_⟩, fun e => ⟨g, ?_⟩⟩, fun g => by omega⟩
  · rw [if_pos e] at h; exact h
  · rw [if_neg e] at h; exact h
theorem s_X4_frac {num den : Nat} (hn : num < 2 ^ 31) (h0 : 0 < den) (hd : den < 2 ^ 31) {l : Int32} {post : Int32 → Prop} (h : post (frI num den l)) : p_X4_fraction (nL num) (nL den) l post := by
  unfold p_X4_fraction
  refine s_X4_divisor (by omega) (by omega) ?_
  have hg : Nat.gcd num den ≤ den := Nat.gcd_le_right _ h0
  have hg0 : 0 < Nat.gcd num den := Nat.gcd_pos_of_pos_right _ h0
  rw [nL_div (by omega) hg0 (by omega), nL_div (by omega) hg0 (by omega), nL_32, nL_32]
  have g := nL_ne hg0 (by omega)
  unfold frI at h
  refine ⟨fun e => ⟨g, ?_⟩, fun e => ⟨g, ?_⟩⟩
  · rw [if_pos e] at h; exact h
  · rw [if_neg e] at h; exact h
/-! rate -/
def raQ (C : CV) (p q W : Nat) : Bool := decide (W ≠ 0) && decide (val3 (dg W) (cm C) q < val3 (dg W) (cm C) p)
theorem ra1 (C : CV) (p q : Nat) : cnt (raQ C p q) 1 = 0 := by
  rw [cnt_f]
  · rfl
  · simp [raQ]
theorem s_X3_rate {n : Nat} {C : CV} {ag : Nat → Nat} {al re mo ye y1 y2 y3 y4 y5 : Int32} {weights marks ageing y6 y7 y8 : Nat → Int32} (hn : n ≤ 6) (hR : Rg n C) (hC : Crt n C al re mo ye weights marks) (hA : Av ageing ag n) {l1 l2 l3 : Int32} {post : Int32 → Int32 → Int32 → Int32 → Int32 → Int32 → (Nat → Int32) → (Nat → Int32) → (Nat → Int32) → Prop} (hun : ((∀ p, p < n → l1 ≠ nI p) ∨ (∀ p, p < n → l2 ≠ nI p)) → post (-1) y1 y2 y3 y4 y5 y6 y7 y8) (hs : ∀ p, p < n → l1 = nI p → l2 = nI p → post (-2) y1 y2 y3 y4 y5 y6 y7 y8) (h : ∀ p q, p < n → q < n → l1 = nI p → l2 = nI q → p ≠ q → ∀ (y1 y2 y3 y4 y5 : Int32) (y6 y7 y8 : Nat → Int32), post (frI (cnt (raQ C p q) 1000) 999 l3) y1 y2 y3 y4 y5 y6 y7 y8) : p_X3_rate (nI n) al re mo ye weights marks ageing y1 y2 y3 y4 y5 y6 y7 y8 l1 l2 l3 post := by
  unfold p_X3_rate
  refine s_X1_has (by omega) (fun p hp e => ⟨fun h => absurd h (by decide), fun _ => ?_⟩) (fun g => ⟨fun _ => hun (Or.inl g), fun h => absurd rfl h⟩)
  refine s_X1_has (by omega) (fun q hq e2 => ⟨fun _ => ?_, fun h => absurd h (by decide)⟩) (fun g => ⟨fun h => absurd rfl h, fun _ => hun (Or.inr g)⟩)
  subst e e2
  rw [nI_eq (by omega) (by omega)]
  refine ⟨fun hpq => ?_, fun hpq => hs p hp rfl (by rw [hpq])⟩
  refine s_X1_copyFrom hn hC hA (fun we mk a2 q1 q2 => ?_)
  refine wle_cnt 1000 (fun i (v : Int32 × Int32 × (Nat → Int32)) => v.1 = nI (cnt (raQ C p q) i) ∧ v.2.1 = nI i ∧ 1 ≤ i) ?_ _ 1 (by omega) ⟨by rw [ra1]; rfl, rfl, Nat.le_refl _⟩
  rintro rec i ⟨l3', l4, wv⟩ hi ⟨e3, e4, h1⟩ hrec
  dsimp only at e3 e4 ⊢
  subst e3 e4
  unfold b_X3_rate_49
  have c : 999 < nI i ↔ 999 < i := nI_ltI (a := 999) (by omega) (by omega)
  rw [c]
  refine ⟨fun hni => ?_, fun hni => ?_⟩
  · have e : i = 1000 := by omega
    subst e
    have hc := cnt_le (raQ C p q) 1000
    exact s_X3_part (den := 999) (by omega) (by omega) (by omega) (h p q hp hq rfl rfl hpq _ _ _ _ _ _ _ _)
  · refine s_X1_weighBy (by omega) (fun w2 hw2 => ?_)
    refine s_X1_valueOf hw2 q1.2.2.2.2.2 hp hn ?_
    refine s_X1_valueOf hw2 q1.2.2.2.2.2 hq hn ?_
    have v1 := dgv31 hR (show i ≤ 999 by omega) p hp
    have v2 := dgv31 hR (show i ≤ 999 by omega) q hq
    rw [nI_leI v1 v2]
    refine ⟨fun g x ex => ?_, fun g x ex x2 ex2 => ?_⟩
    · have hq : raQ C p q i = false := by
        unfold raQ
        rw [decide_eq_false (show ¬ val3 (dg i) (cm C) q < val3 (dg i) (cm C) p by omega), Bool.and_false]
      rw [nI_1] at ex
      exact hrec (by omega) _ ⟨by rw [cnt_f hq], ex, by omega⟩
    · have hq : raQ C p q i = true := by
        unfold raQ
        rw [decide_eq_true (show val3 (dg i) (cm C) q < val3 (dg i) (cm C) p by omega), decide_eq_true (show i ≠ 0 by omega)]; rfl
      rw [nI_1] at ex ex2
      exact hrec (by omega) _ ⟨by rw [cnt_t hq]; exact ex, ex2, by omega⟩
theorem s_X4_rate {n : Nat} {C : CV} {th : Int32} {page : Nat → Int32} (hn : n ≤ 6) (hR : Rg n C) (hC : Row n C page) {l1 l2 l3 : Int32} {post : Int32 → Int32 → Prop} (hun : ((∀ p, p < n → l1 ≠ nI p) ∨ (∀ p, p < n → l2 ≠ nI p)) → post (-1) 0) (hs : ∀ p, p < n → l1 = nI p → l2 = nI p → post (-2) 0) (h : ∀ p q, p < n → q < n → l1 = nI p → l2 = nI q → p ≠ q → post (frI (cnt (raQ C p q) 1000) 999 l3) 0) : p_X4_rate th (nI n) page l1 l2 l3 post := by
  unfold p_X4_rate
  refine s_X4_noOne (by omega) (fun p hp e => ⟨fun h => absurd rfl h, fun _ => ?_⟩) (fun g => ⟨fun _ => hun (Or.inl g), fun h => absurd h (by decide)⟩)
  refine s_X4_noOne (by omega) (fun q hq e2 => ⟨fun _ => ?_, fun h => absurd rfl h⟩) (fun g => ⟨fun h => absurd h (by decide), fun _ => hun (Or.inr g)⟩)
  subst e e2
  rw [nI_eq (by omega) (by omega)]
  refine ⟨fun hpq => ?_, fun hpq => hs p hp rfl (by rw [hpq])⟩
  refine wle_cnt 1000 (fun i (v : Int32 × Int32) => v.1 = nI (cnt (raQ C p q) i) ∧ v.2 = nI i ∧ 1 ≤ i) ?_ _ 1 (by omega) ⟨by rw [ra1]; rfl, rfl, Nat.le_refl _⟩
  rintro rec i ⟨l3', l4⟩ hi ⟨e3, e4, h1⟩ hrec
  dsimp only at e3 e4 ⊢
  subst e3 e4
  unfold b_X4_rate_37
  have c : 999 < nI i ↔ 999 < i := nI_ltI (a := 999) (by omega) (by omega)
  rw [c]
  refine ⟨fun hni => ?_, fun hni => ?_⟩
  · have e : i = 1000 := by omega
    subst e
    have hc := cnt_le (raQ C p q) 1000
    dsimp only
    rw [nI_64 (by omega)]
    exact s_X4_frac (den := 999) (by omega) (by omega) (by omega) (h p q hp hq rfl rfl hpq)
  · refine s_X4_valueOf hC.2.1 hp hn (by omega) ?_
    refine s_X4_valueOf hC.2.1 hq hn (by omega) ?_
    have v1 := dgv31 hR (show i ≤ 999 by omega) p hp
    have v2 := dgv31 hR (show i ≤ 999 by omega) q hq
    rw [nI_leI v1 v2]
    refine ⟨fun g x ex x2 ex2 => ?_, fun g x ex x2 ex2 => ?_⟩
    · have hq : raQ C p q i = false := by
        unfold raQ
        rw [decide_eq_false (show ¬ val3 (dg i) (cm C) q < val3 (dg i) (cm C) p by omega), Bool.and_false]
      rw [show (0 : Int32) = nI 0 from rfl, nI_add] at ex
      rw [nI_1] at ex2
      exact hrec (by omega) _ ⟨by rw [cnt_f hq]; exact ex, ex2, by omega⟩
    · have hq : raQ C p q i = true := by
        unfold raQ
        rw [decide_eq_true (show val3 (dg i) (cm C) q < val3 (dg i) (cm C) p by omega), decide_eq_true (show i ≠ 0 by omega)]; rfl
      rw [nI_1] at ex ex2
      exact hrec (by omega) _ ⟨by rw [cnt_t hq]; exact ex, ex2, by omega⟩
/-! tenths: saying, believed -/
theorem s_X3_isTenths {l : Int32} {post : Int32 → Prop} (h1 : ∀ t, t ≤ 10 → l = nI t → post 1) (h0 : (∀ t, t ≤ 10 → l ≠ nI t) → post 0) : p_X3_isTenths l post := by
  unfold p_X3_isTenths
  rcases ix_cases l (n := 11) (by omega) with ⟨t, ht, rfl⟩ | ⟨hx, hx2⟩
  · refine ⟨fun h => absurd h (nI_pos (by omega)), fun _ => ⟨fun h => ?_, fun _ => h1 t (by omega) rfl⟩⟩
    have c : 10 < nI t ↔ 10 < t := nI_ltI (a := 10) (by omega) (by omega)
    rw [c] at h; omega
  · have hb := h0 (fun t ht => hx t (by omega))
    refine ⟨fun _ => hb, fun g => ⟨fun _ => hb, fun g2 => ?_⟩⟩
    exfalso
    rw [fa_lt, show (0 : Int32).toInt = 0 from rfl] at g
    rw [fa_lt, show (10 : Int32).toInt = 10 from rfl] at g2
    omega
theorem s_X4_in10 {l : Int32} {post : Int32 → Prop} (h1 : ∀ t, t ≤ 10 → l = nI t → post 1) (h0 : (∀ t, t ≤ 10 → l ≠ nI t) → post 0) : p_X4_in l.toInt64 0 10 post := by
  have e0 : (0 : Int64).toInt = 0 := rfl
  have e10 : (10 : Int64).toInt = 10 := rfl
  refine s_X4_in (fun g1 g2 => ?_) (fun g => h0 fun t ht e => g ?_)
  · rw [Int32.toInt_toInt64, e0] at g1
    rw [Int32.toInt_toInt64, e10] at g2
    rcases ix_cases l (n := 11) (by omega) with ⟨t, ht, rfl⟩ | ⟨hx, hx2⟩
    · exact h1 t (by omega) rfl
    · omega
  · rw [Int32.toInt_toInt64, e0, e10, e, nI_toInt (by omega)]; omega
theorem pcU_pos {a p : Nat} (h : a.testBit p = true) : ∀ k, p < k → 0 < pcU a k
  | 0, h2 => by omega
  | k + 1, h2 => by
    simp only [pcU]
    by_cases e : p = k
    · subst e; rw [if_pos h]; omega
    · have := pcU_pos h k (by omega); omega
def nmR (t k : Nat) : Nat := t * k + (10 - t)
theorem nmR_le {t k : Nat} (ht : t ≤ 10) (hk : k ≤ 6) : nmR t k ≤ 70 := by
  have := Nat.mul_le_mul ht hk
  unfold nmR; omega
theorem ten_sub {t : Nat} (ht : t ≤ 10) : (10 : Int32) - nI t = nI (10 - t) := pk_sub (a := 10) ht
theorem s_X3_namingIfRight {a t : Nat} (ha : a < 64) (ht : t ≤ 10) {post : Int32 → Prop} (h : post (nI (nmR t (pcn a)))) : p_X3_namingIfRight (nI a) (nI t) post := by
  unfold p_X3_namingIfRight p_X3_namingIfWrong
  refine s_X1_aliveCount ha ?_
  dsimp only
  rw [ten_sub ht, pk_mul, nI_add]
  exact h
theorem low_bits {f p : Nat} : f &&& (2 ^ p - 1) = 0 ↔ ∀ q, q < p → f.testBit q = false := by
  constructor
  · intro h q hq
    have : (f &&& (2 ^ p - 1)).testBit q = false := by rw [h, Nat.zero_testBit]
    rw [Nat.testBit_and, Nat.testBit_two_pow_sub_one] at this
    simpa [hq] using this
  · intro h
    apply Nat.eq_of_testBit_eq
    intro i
    rw [Nat.testBit_and, Nat.testBit_two_pow_sub_one, Nat.zero_testBit]
    by_cases hi : i < p
    · rw [h i hi]; rfl
    · simp [hi]
def sayN (n : Nat) (C : CV) (p t : Nat) : Nat := if (fr n C (ca C)).testBit p = true ∧ fr n C (ca C) &&& (2 ^ p - 1) = 0 then nmR t (pcn (ca C)) else 10 - t
theorem s_X3_saying {n : Nat} {C : CV} {al re mo ye : Int32} {weights marks : Nat → Int32} (hn : n ≤ 6) (hR : Rg n C) (hC : Crt n C al re mo ye weights marks) {l1 l2 l3 : Int32} {post : Int32 → Prop} (h1 : (∀ p, p < n → l1 ≠ nI p) → post (-1)) (h2 : ∀ p, p < n → l1 = nI p → (∀ t, t ≤ 10 → l2 ≠ nI t) → post (-2)) (h3 : ∀ p t, p < n → l1 = nI p → t ≤ 10 → l2 = nI t → (ca C).testBit p = false → post (-3)) (h : ∀ p t, p < n → l1 = nI p → t ≤ 10 → l2 = nI t → (ca C).testBit p = true → post (frI (sayN n C p t) (10 * pcn (ca C)) l3)) : p_X3_saying (nI n) al weights marks l1 l2 l3 post := by
  unfold p_X3_saying
  obtain ⟨rfl, -⟩ := id hC
  have h64 := p2_6 hn
  have ha64 : ca C < 64 := by have := hR.2.2.2.1; omega
  refine s_X1_has (by omega) (fun p hp e => ⟨fun _ => ?_, fun h => absurd h (by decide)⟩) (fun g => ⟨fun h => absurd rfl h, fun _ => h1 g⟩)
  refine s_X3_isTenths (fun t ht e2 => ⟨fun _ => ?_, fun h => absurd h (by decide)⟩) (fun g => ⟨fun h => absurd rfl h, fun _ => h2 p hp e g⟩)
  subst e e2
  refine s_X1_isAlive (hR.a31 hn) (by omega) (fun hb => ⟨fun _ => ?_, fun h => absurd h (by decide)⟩) (fun hb => ⟨fun h => absurd rfl h, fun _ => h3 p t hp rfl ht rfl hb⟩)
  refine sX_fair hn hR hC (hR.a31 hn) ?_
  have hk := pcU_le (ca C) 6
  have hk0 : 0 < pcn (ca C) := pcU_pos hb 6 (by omega)
  have hk6 : pcn (ca C) ≤ 6 := hk
  have hnm := nmR_le ht hk6
  have fin := h p t hp rfl ht rfl hb
  have wrong : ¬ ((fr n C (ca C)).testBit p = true ∧ fr n C (ca C) &&& (2 ^ p - 1) = 0) → p_X3_namingIfWrong (nI t) (fun (r75 : Int32) => p_X1_aliveCount (nI (ca C)) (fun (r88 : Int32) => p_X3_partOfFraction r75 (10 * r88) l3 (fun (r93 : Int32) => post r93))) := fun q => by
    unfold p_X3_namingIfWrong
    rw [ten_sub ht]
    refine s_X1_aliveCount ha64 ?_
    rw [show (10 : Int32) = nI 10 from rfl, pk_mul]
    refine s_X3_part (by omega) (by omega) (by omega) ?_
    unfold sayN at fin
    rw [if_neg q] at fin
    exact fin
  refine s_X1_leastOf hn (fr_lt n C (ca C)) (fun z => ⟨fun _ => wrong fun q => ?_, fun q => ?_⟩) (fun z hl hbl => ?_)
  · rw [z, Nat.zero_testBit] at q; cases q.1
  · exact absurd q.symm (nI_n9 (by omega))
  · rw [nI_eq (by omega) (by omega)]
    refine ⟨fun q => wrong fun q2 => q ?_, fun q => ?_⟩
    · exact lbf_is hp q2.1 (low_bits.mp q2.2)
    · refine s_X3_namingIfRight ha64 ht ?_
      refine s_X1_aliveCount ha64 ?_
      rw [show (10 : Int32) = nI 10 from rfl, pk_mul]
      refine s_X3_part (by omega) (by omega) (by omega) ?_
      unfold sayN at fin
      rw [if_pos ⟨by rw [← q]; exact hbl, low_bits.mpr fun r hr => lbf_no _ n r (by omega)⟩] at fin
      exact fin
theorem s_X4_saying {n : Nat} {C : CV} {th : Int32} {page : Nat → Int32} (hn : n ≤ 6) (hR : Rg n C) (hC : Row n C page) {l1 l2 l3 : Int32} {post : Int32 → Int32 → Prop} (h1 : (∀ p, p < n → l1 ≠ nI p) → post (-1) 0) (h2 : ∀ p, p < n → l1 = nI p → (∀ t, t ≤ 10 → l2 ≠ nI t) → post (-2) 0) (h3 : ∀ p t, p < n → l1 = nI p → t ≤ 10 → l2 = nI t → (ca C).testBit p = false → post (-3) 0) (h : ∀ p t, p < n → l1 = nI p → t ≤ 10 → l2 = nI t → (ca C).testBit p = true → post (frI (sayN n C p t) (10 * pcn (ca C)) l3) 0) : p_X4_saying th (nI n) page l1 l2 l3 post := by
  unfold p_X4_saying
  rw [show ix 21 = 21 from rfl, hC.2.2.1]
  have h64 := p2_6 hn
  have ha64 : ca C < 64 := by have := hR.2.2.2.1; omega
  refine s_X4_noOne (by omega) (fun p hp e => ⟨fun _ => ?_, fun h => absurd rfl h⟩) (fun g => ⟨fun h => absurd h (by decide), fun _ => h1 g⟩)
  refine s_X4_in10 (fun t ht e2 => ⟨fun _ => ?_, fun h => absurd h (by decide)⟩) (fun g => ⟨fun h => absurd rfl h, fun _ => h2 p hp e g⟩)
  subst e e2
  refine s_X4_has (hR.a31 hn) (by omega) (fun hb => ⟨fun _ => ?_, fun h => absurd h (by decide)⟩) (fun hb => ⟨fun h => absurd rfl h, fun _ => h3 p t hp rfl ht rfl hb⟩)
  have hk := pcU_le (ca C) 6
  have hk0 : 0 < pcn (ca C) := pcU_pos hb 6 (by omega)
  have hk6 : pcn (ca C) ≤ 6 := hk
  have hnm := nmR_le ht hk6
  have fin := h p t hp rfl ht rfl hb
  have hfl := fr_lt n C (ca C)
  refine s_X4_many (hR.a31 hn) ?_
  refine sM_fairest hn hR hC ?_
  have eden : (10 : Int64) * (nI (pcn (ca C))).toInt64 = nL (10 * pcn (ca C)) := by
    rw [nI_64 (by omega), show (10 : Int64) = nL 10 from rfl, nL_mul]
  have ew : (((0 + 10 : Int32)) - nI t).toInt64 = nL (10 - t) := by
    rw [show ((0 + 10 : Int32)) = 10 from rfl, ten_sub ht, nI_64 (by omega)]
  have er : ((nI t * nI (pcn (ca C)) + 10) - nI t).toInt64 = nL (nmR t (pcn (ca C))) := by
    rw [pk_mul, show (10 : Int32) = nI 10 from rfl, nI_add, pk_sub (by omega)]
    have e : t * pcn (ca C) + 10 - t = nmR t (pcn (ca C)) := by unfold nmR; omega
    rw [e, nI_64 (by omega)]
  have wrong : ¬ ((fr n C (ca C)).testBit p = true ∧ fr n C (ca C) &&& (2 ^ p - 1) = 0) → p_X4_fraction (nL (10 - t)) (nL (10 * pcn (ca C))) l3 (fun (r117 : Int32) => post r117 0) := fun q => by
    refine s_X4_frac (by omega) (by omega) (by omega) ?_
    unfold sayN at fin
    rw [if_neg q] at fin
    exact fin
  rw [eden, ew, er]
  refine s_X4_has (by omega) (by omega) (fun hf => ⟨fun h => absurd h (by decide), fun _ => ?_⟩) (fun hf => ⟨fun _ => wrong fun q => ?_, fun h => absurd rfl h⟩)
  · refine sM_fairest hn hR hC ?_
    have hal : fr n C (ca C) &&& (2 ^ p - 1) ≤ fr n C (ca C) := Nat.and_le_left
    have c0 : nI (fr n C (ca C) &&& (2 ^ p - 1)) = 0 ↔ fr n C (ca C) &&& (2 ^ p - 1) = 0 := nI_eq (b := 0) (by omega) (by omega)
    rw [q_all (n := p) (by omega), fa_and, c0]
    refine ⟨fun q => wrong fun q2 => q q2.2, fun q => ?_⟩
    refine s_X4_frac (by omega) (by omega) (by omega) ?_
    unfold sayN at fin
    rw [if_pos ⟨hf, q⟩] at fin
    exact fin
  · rw [hf] at q; cases q.1
def belN (C : CV) (t u : Nat) : Nat := nmR t (pcn (ca C)) * nmR u (pcn (ca C))
def belD (C : CV) (t u : Nat) : Nat := belN C t u + (pcn (ca C) - 1) * (10 - t) * (10 - u)
theorem s_X3_believed {n : Nat} {C : CV} (hn : n ≤ 6) (hR : Rg n C) {l1 l2 l3 l4 : Int32} {post : Int32 → Prop} (h1 : (∀ p, p < n → l1 ≠ nI p) → post (-1)) (h2 : ∀ p, p < n → l1 = nI p → ((∀ t, t ≤ 10 → l2 ≠ nI t) ∨ (∀ t, t ≤ 10 → l3 ≠ nI t)) → post (-2)) (h3 : ∀ p t u, p < n → l1 = nI p → t ≤ 10 → l2 = nI t → u ≤ 10 → l3 = nI u → (ca C).testBit p = false → post (-3)) (h : ∀ p t u, p < n → l1 = nI p → t ≤ 10 → l2 = nI t → u ≤ 10 → l3 = nI u → (ca C).testBit p = true → post (frI (belN C t u) (belD C t u) l4)) : p_X3_believed (nI n) (nI (ca C)) l1 l2 l3 l4 post := by
  unfold p_X3_believed
  have h64 := p2_6 hn
  have ha64 : ca C < 64 := by have := hR.2.2.2.1; omega
  refine s_X1_has (by omega) (fun p hp e => ⟨fun _ => ?_, fun h => absurd h (by decide)⟩) (fun g => ⟨fun h => absurd rfl h, fun _ => h1 g⟩)
  refine s_X3_isTenths (fun t ht e2 => ⟨fun h => absurd h (by decide), fun _ => ?_⟩) (fun g => ⟨fun _ => h2 p hp e (Or.inl g), fun h => absurd rfl h⟩)
  refine s_X3_isTenths (fun u hu e3 => ⟨fun _ => ?_, fun h => absurd h (by decide)⟩) (fun g => ⟨fun h => absurd rfl h, fun _ => h2 p hp e (Or.inr g)⟩)
  subst e e2 e3
  refine s_X1_isAlive (hR.a31 hn) (by omega) (fun hb => ⟨fun _ => ?_, fun h => absurd h (by decide)⟩) (fun hb => ⟨fun h => absurd rfl h, fun _ => h3 p t u hp rfl ht rfl hu rfl hb⟩)
  have hk6 : pcn (ca C) ≤ 6 := pcU_le (ca C) 6
  have hk0 : 0 < pcn (ca C) := pcU_pos hb 6 (by omega)
  have a1 := nmR_le ht hk6
  have a2 := nmR_le hu hk6
  have a3 := Nat.mul_le_mul a1 a2
  have a4 := Nat.mul_le_mul (show pcn (ca C) - 1 ≤ 5 by omega) (show 10 - t ≤ 10 by omega)
  have a5 := Nat.mul_le_mul a4 (show 10 - u ≤ 10 by omega)
  have a6 : 0 < nmR t (pcn (ca C)) := by
    unfold nmR
    rcases Nat.eq_zero_or_pos t with z | z
    · omega
    · have := Nat.mul_le_mul z hk0; omega
  have a7 : 0 < nmR u (pcn (ca C)) := by
    unfold nmR
    rcases Nat.eq_zero_or_pos u with z | z
    · omega
    · have := Nat.mul_le_mul z hk0; omega
  have a8 := Nat.mul_le_mul a6 a7
  refine s_X3_namingIfRight ha64 ht ?_
  refine s_X3_namingIfRight ha64 hu (fun x55 e55 => ?_)
  refine s_X1_aliveCount ha64 ?_
  unfold p_X3_namingIfWrong
  intro x76 e76
  rw [ten_sub ht, ten_sub hu, show nI (pcn (ca C)) - 1 = nI (pcn (ca C) - 1) from pk_sub (b := 1) hk0, pk_mul, pk_mul] at e76
  rw [pk_mul] at e55
  rw [e55, e76, nI_add]
  exact s_X3_part (by omega) (by omega) (by omega) (h p t u hp rfl ht rfl hu rfl hb)
theorem s_X4_believed {n : Nat} {C : CV} {th : Int32} {page : Nat → Int32} (hn : n ≤ 6) (hR : Rg n C) (hC : Row n C page) {l1 l2 l3 l4 : Int32} {post : Int32 → Int32 → Prop} (h1 : (∀ p, p < n → l1 ≠ nI p) → post (-1) 0) (h2 : ∀ p, p < n → l1 = nI p → ((∀ t, t ≤ 10 → l2 ≠ nI t) ∨ (∀ t, t ≤ 10 → l3 ≠ nI t)) → post (-2) 0) (h3 : ∀ p t u, p < n → l1 = nI p → t ≤ 10 → l2 = nI t → u ≤ 10 → l3 = nI u → (ca C).testBit p = false → post (-3) 0) (h : ∀ p t u, p < n → l1 = nI p → t ≤ 10 → l2 = nI t → u ≤ 10 → l3 = nI u → (ca C).testBit p = true → post (frI (belN C t u) (belD C t u) l4) 0) : p_X4_believed th (nI n) page l1 l2 l3 l4 post := by
  unfold p_X4_believed
  rw [show ix 21 = 21 from rfl, hC.2.2.1]
  have h64 := p2_6 hn
  refine s_X4_noOne (by omega) (fun p hp e => ⟨fun _ => ?_, fun h => absurd rfl h⟩) (fun g => ⟨fun h => absurd h (by decide), fun _ => h1 g⟩)
  refine s_X4_in10 (fun t ht e2 => ⟨fun h => absurd h (by decide), fun _ => ?_⟩) (fun g => ⟨fun _ => h2 p hp e (Or.inl g), fun h => absurd rfl h⟩)
  refine s_X4_in10 (fun u hu e3 => ⟨fun _ => ?_, fun h => absurd h (by decide)⟩) (fun g => ⟨fun h => absurd rfl h, fun _ => h2 p hp e (Or.inr g)⟩)
  subst e e2 e3
  refine s_X4_has (hR.a31 hn) (by omega) (fun hb => ⟨fun _ => ?_, fun h => absurd h (by decide)⟩) (fun hb => ⟨fun h => absurd rfl h, fun _ => h3 p t u hp rfl ht rfl hu rfl hb⟩)
  have hk6 : pcn (ca C) ≤ 6 := pcU_le (ca C) 6
  have hk0 : 0 < pcn (ca C) := pcU_pos hb 6 (by omega)
  have a1 := nmR_le ht hk6
  have a2 := nmR_le hu hk6
  have a3 := Nat.mul_le_mul a1 a2
  have a4 := Nat.mul_le_mul (show pcn (ca C) - 1 ≤ 5 by omega) (show 10 - t ≤ 10 by omega)
  have a5 := Nat.mul_le_mul a4 (show 10 - u ≤ 10 by omega)
  have a6 : 0 < nmR t (pcn (ca C)) := by
    unfold nmR
    rcases Nat.eq_zero_or_pos t with z | z
    · omega
    · have := Nat.mul_le_mul z hk0; omega
  have a7 : 0 < nmR u (pcn (ca C)) := by
    unfold nmR
    rcases Nat.eq_zero_or_pos u with z | z
    · omega
    · have := Nat.mul_le_mul z hk0; omega
  have a8 := Nat.mul_le_mul a6 a7
  refine s_X4_many (hR.a31 hn) ?_
  have er : ∀ t, t ≤ 10 → ((nI t * nI (pcn (ca C))).toInt64 + 10) - (nI t).toInt64 = nL (nmR t (pcn (ca C))) := fun t ht => by
    have b := Nat.mul_le_mul ht hk6
    rw [pk_mul, nI_64 (by omega), nI_64 (by omega), show (10 : Int64) = nL 10 from rfl, nL_add, nL_sub (by omega)]
    congr 1
    unfold nmR; omega
  rw [er t ht, er u hu, ten_sub ht, ten_sub hu, nI_64 (a := 10 - t) (by omega), nI_64 (a := 10 - u) (by omega), nI_64 (a := pcn (ca C)) (by omega), show nL (pcn (ca C)) - 1 = nL (pcn (ca C) - 1) from nL_sub (b := 1) hk0, nL_mul, nL_mul, nL_mul]
  intro x96 e96 x115 e115
  rw [e96, e115, nL_add]
  exact s_X4_frac (by omega) (by omega) (by omega) (h p t u hp rfl ht rfl hu rfl hb)
