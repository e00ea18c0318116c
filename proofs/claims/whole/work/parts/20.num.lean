/-! numbers: ints that stand for naturals; bits -/
theorem fa_lt (a b : Int32) : a < b ↔ a.toInt < b.toInt := Int32.lt_iff_toInt_lt
theorem fa_le (a b : Int32) : a ≤ b ↔ a.toInt ≤ b.toInt := Int32.le_iff_toInt_le
theorem fa_eq (a b : Int32) : a = b ↔ a.toInt = b.toInt := Int32.toInt_inj.symm
theorem fa_lt64 (a b : Int64) : a < b ↔ a.toInt < b.toInt := Int64.lt_iff_toInt_lt
theorem fa_le64 (a b : Int64) : a ≤ b ↔ a.toInt ≤ b.toInt := Int64.le_iff_toInt_le
theorem fa_eq64 (a b : Int64) : a = b ↔ a.toInt = b.toInt := Int64.toInt_inj.symm
theorem fa_and (a b : Nat) : nI a &&& nI b = nI (a &&& b) := by
  apply Int32.toBitVec_inj.1
  show BitVec.ofNat 32 a &&& BitVec.ofNat 32 b = BitVec.ofNat 32 (a &&& b)
  apply BitVec.eq_of_getLsbD_eq
  intro i hi
  simp [hi]
theorem fa_or (a b : Nat) : nI a ||| nI b = nI (a ||| b) := by
  apply Int32.toBitVec_inj.1
  show BitVec.ofNat 32 a ||| BitVec.ofNat 32 b = BitVec.ofNat 32 (a ||| b)
  apply BitVec.eq_of_getLsbD_eq
  intro i hi
  simp [hi]
theorem fa_xor (a b : Nat) : nI a ^^^ nI b = nI (a ^^^ b) := by
  apply Int32.toBitVec_inj.1
  show BitVec.ofNat 32 a ^^^ BitVec.ofNat 32 b = BitVec.ofNat 32 (a ^^^ b)
  apply BitVec.eq_of_getLsbD_eq
  intro i hi
  simp [hi]
theorem fa_andnot (a b : Nat) : nI a &&& (nI b ^^^ (-1)) = nI (a ^^^ (a &&& b)) := by
  apply Int32.toBitVec_inj.1
  show BitVec.ofNat 32 a &&& (BitVec.ofNat 32 b ^^^ (-1 : Int32).toBitVec) = BitVec.ofNat 32 (a ^^^ (a &&& b))
  have e : (-1 : Int32).toBitVec = BitVec.allOnes 32 := by decide
  rw [e]
  apply BitVec.eq_of_getLsbD_eq
  intro i hi
  rw [BitVec.getLsbD_and, BitVec.getLsbD_xor, BitVec.getLsbD_allOnes, BitVec.getLsbD_ofNat, BitVec.getLsbD_ofNat, BitVec.getLsbD_ofNat, Nat.testBit_xor, Nat.testBit_and]
  cases a.testBit i <;> cases b.testBit i <;> simp [hi]
theorem nI_lt32 {a : Nat} (h : a < 2 ^ 31) : (nI a).toInt = (a : Int) := nI_toInt h
theorem ix_nI {a : Nat} (h : a < 2 ^ 31) : ix (nI a) = a := nI_clamp h
theorem q_shl {a k : Nat} (hk : k < 31) (h : a * 2 ^ k < 2 ^ 32) : jshl (nI a) (nI k) = nI (a * 2 ^ k) := by
  unfold jshl
  refine pk_shlN _ k ?_ h
  have : ∀ n, n < 32 → ((nI n &&& 31).toBitVec.smod 32).toNat = n := by decide +kernel
  exact this k (by omega)
theorem q_shl1 {k : Nat} (hk : k < 31) : jshl 1 (nI k) = nI (2 ^ k) := by
  have h : 2 ^ k ≤ 2 ^ 30 := Nat.pow_le_pow_right (by decide) (by omega)
  have := q_shl (a := 1) hk (by omega)
  rw [Nat.one_mul] at this
  exact this
theorem q_shr {a k : Nat} (hk : k < 31) (h : a < 2 ^ 31) : jshr (nI a) (nI k) = nI (a / 2 ^ k) := by
  unfold jshr
  refine pk_shrN h _ k ?_
  have : ∀ n, n < 32 → ((nI n &&& 31).toBitVec.smod 32).toNat = n := by decide +kernel
  exact this k (by omega)
theorem q_bit {a k : Nat} (hk : k < 31) (h : a < 2 ^ 31) : jshr (nI a) (nI k) &&& 1 = nI (if a.testBit k then 1 else 0) := by
  rw [q_shr hk h]
  show nI (a / 2 ^ k) &&& nI 1 = _
  rw [fa_and, Nat.and_one_is_mod, Nat.testBit_eq_decide_div_mod_eq]
  rcases Nat.mod_two_eq_zero_or_one (a / 2 ^ k) with e | e <;> simp [e]
theorem q_has {a k : Nat} (hk : k < 31) (h : a < 2 ^ 31) : (jshr (nI a) (nI k) &&& 1 = 1) ↔ a.testBit k = true := by
  rw [q_bit hk h]
  by_cases e : a.testBit k = true
  · simp [e]; rfl
  · simp [e]; decide
theorem q_nhas {a k : Nat} (hk : k < 31) (h : a < 2 ^ 31) : (jshr (nI a) (nI k) &&& 1 = 0) ↔ a.testBit k = false := by
  rw [q_bit hk h]
  by_cases e : a.testBit k = true
  · simp [e]; decide
  · simp [e]; rfl
theorem tb_lt {a n : Nat} (h : a < 2 ^ n) {i : Nat} (hi : a.testBit i = true) : i < n := by
  rcases Nat.lt_or_ge i n with q | q
  · exact q
  · rw [Nat.testBit_lt_two_pow (Nat.lt_of_lt_of_le h (Nat.pow_le_pow_right (by decide) q))] at hi
    cases hi
theorem p2_6 {n : Nat} (h : n ≤ 6) : 2 ^ n ≤ 64 := Nat.pow_le_pow_right (n := 2) (by decide) h
/-- a counting loop -/
theorem wle_cnt {α : Type} {b : (α → Prop) → α → Prop} (e : Nat) (I : Nat → α → Prop) (hs : ∀ (rec : α → Prop) (i : Nat) (v : α), i ≤ e → I i v → (i < e → ∀ v', I (i + 1) v' → rec v') → b rec v) (v : α) (i : Nat) (hi : i ≤ e) (h : I i v) : wle b v := by
  have key : ∀ (k i : Nat) (v : α), i ≤ e → e < i + k → I i v → wl b k v := by
    intro k
    induction k with
    | zero => intro i v h1 h2; omega
    | succ k ih => intro i v h1 h2 hI; exact hs _ i v h1 hI (fun h3 v' h4 => ih (i + 1) v' h3 (by omega) h4)
  exact ⟨e - i + 1, key _ i v hi (by omega) h⟩
/-! the long comparison -/
theorem cmp_lt0 (x y : Int64) : lg_cmp x y < 0 ↔ x.toInt < y.toInt := by
  unfold lg_cmp
  rw [← fa_lt64]
  by_cases h1 : y < x
  · rw [if_pos h1]; rw [fa_lt64] at *; simp; omega
  · rw [if_neg h1]
    by_cases h2 : x = y
    · subst h2; simp [fa_lt64]
    · rw [if_neg h2]
      have h3 : x.toInt ≠ y.toInt := fun e => h2 ((fa_eq64 x y).mpr e)
      rw [fa_lt64] at *
      constructor
      · intro _; omega
      · intro _; decide
theorem cmp_gt0 (x y : Int64) : 0 < lg_cmp x y ↔ y.toInt < x.toInt := by
  unfold lg_cmp
  rw [← fa_lt64]
  by_cases h1 : y < x
  · rw [if_pos h1]; simp [h1]; try decide
  · rw [if_neg h1]
    by_cases h2 : x = y
    · subst h2; simp [fa_lt64]
    · rw [if_neg h2]; simp [h1]; try decide
theorem cmp_eq0 (x y : Int64) : lg_cmp x y = 0 ↔ x = y := by
  unfold lg_cmp
  by_cases h1 : y < x
  · rw [if_pos h1]
    constructor
    · intro h; exact absurd h (by decide)
    · intro h; subst h; rw [fa_lt64] at h1; omega
  · rw [if_neg h1]
    by_cases h2 : x = y
    · simp [h2]
    · rw [if_neg h2]
      constructor
      · intro h; exact absurd h (by decide)
      · intro h; exact absurd h h2
theorem s_X4_in {x y z : Int64} {post : Int32 → Prop} (h1 : y.toInt ≤ x.toInt → x.toInt ≤ z.toInt → post 1) (h0 : ¬ (y.toInt ≤ x.toInt ∧ x.toInt ≤ z.toInt) → post 0) : p_X4_in x y z post := by
  unfold p_X4_in
  rw [cmp_lt0, cmp_gt0]
  refine ⟨fun h => h0 (by omega), fun h => ⟨fun h2 => h0 (by omega), fun h2 => h1 (by omega) (by omega)⟩⟩
/-- a number that is no index below n, or one -/
theorem ix_cases (x : Int32) {n : Nat} (hn : n < 2 ^ 31) : (∃ j : Nat, j < n ∧ x = nI j) ∨ (∀ j, j < n → x ≠ nI j) ∧ (x.toInt < 0 ∨ (n : Int) ≤ x.toInt) := by
  by_cases h : x.toInt < 0
  · refine Or.inr ⟨fun j hj e => ?_, Or.inl h⟩
    rw [e, nI_toInt (by omega)] at h
    omega
  · by_cases h2 : x.toInt < n
    · refine Or.inl ⟨x.toInt.toNat, by omega, ?_⟩
      rw [fa_eq, nI_toInt (by omega)]
      omega
    · refine Or.inr ⟨fun j hj e => ?_, Or.inr (by omega)⟩
      rw [e, nI_toInt (by omega)] at h2
      omega
theorem s_X1_has {n : Nat} (hn : n < 2 ^ 31) {l1 : Int32} {post : Int32 → Prop} (h1 : ∀ p, p < n → l1 = nI p → post 1) (h0 : (∀ p, p < n → l1 ≠ nI p) → post 0) : p_X1_has (nI n) l1 post := by
  unfold p_X1_has
  rcases ix_cases l1 hn with ⟨j, hj, rfl⟩ | ⟨h, h2⟩
  · refine ⟨fun h => ?_, fun _ => ⟨fun h => ?_, fun _ => h1 j hj rfl⟩⟩
    · exact absurd h (nI_pos (by omega))
    · exact absurd h (nI_ge hj hn)
  · exact ⟨fun _ => h0 h, fun h3 => ⟨fun _ => h0 h, fun h4 => by
      exfalso
      rw [fa_le, nI_toInt hn] at h4
      rw [fa_lt] at h3
      have : (0 : Int32).toInt = 0 := rfl
      omega⟩⟩
theorem sub1_64 {n : Nat} (hn : n < 2 ^ 31) : ((nI n) - 1).toInt64.toInt = (n : Int) - 1 := by
  rw [Int32.toInt_toInt64]
  have h1 : (1 : Int32) = nI 1 := rfl
  rw [h1]
  rcases Nat.eq_zero_or_pos n with h | h
  · subst h; decide
  · rw [pk_sub h, nI_toInt (by omega)]; omega
theorem s_X4_noOne {n : Nat} (hn : n < 2 ^ 31) {l1 : Int32} {post : Int32 → Prop} (h1 : ∀ p, p < n → l1 = nI p → post 0) (h0 : (∀ p, p < n → l1 ≠ nI p) → post 1) : p_X4_noOne (nI n) l1 post := by
  unfold p_X4_noOne
  have e0 : (0 : Int64).toInt = 0 := rfl
  refine s_X4_in (fun h2 h3 => ?_) (fun h2 => ?_)
  · rw [sub1_64 hn, Int32.toInt_toInt64] at h3
    rw [Int32.toInt_toInt64, e0] at h2
    refine ⟨fun _ => ?_, fun h => absurd h (by decide)⟩
    rcases ix_cases l1 hn with ⟨j, hj, rfl⟩ | ⟨h, h4⟩
    · exact h1 j hj rfl
    · omega
  · refine ⟨fun h => absurd rfl h, fun _ => ?_⟩
    rw [sub1_64 hn, Int32.toInt_toInt64, e0] at h2
    rcases ix_cases l1 hn with ⟨j, hj, rfl⟩ | ⟨h, h4⟩
    · rw [nI_toInt (by omega)] at h2; omega
    · exact h0 h
theorem s_X1_isAlive {a k : Nat} (ha : a < 2 ^ 31) (hk : k < 31) {post : Int32 → Prop} (h1 : a.testBit k = true → post 1) (h0 : a.testBit k = false → post 0) : p_X1_isAlive (nI a) (nI k) post := by
  unfold p_X1_isAlive
  rw [q_has hk ha]
  exact ⟨fun h => h0 (by simpa using h), fun h => h1 h⟩
theorem s_X1_isReported {a k : Nat} (ha : a < 2 ^ 31) (hk : k < 31) {post : Int32 → Prop} (h1 : a.testBit k = true → post 1) (h0 : a.testBit k = false → post 0) : p_X1_isReported (nI a) (nI k) post := s_X1_isAlive ha hk h1 h0
theorem s_X4_has {a k : Nat} (ha : a < 2 ^ 31) (hk : k < 31) {post : Int32 → Prop} (h1 : a.testBit k = true → post 1) (h0 : a.testBit k = false → post 0) : p_X4_has (nI a) (nI k) post := s_X1_isAlive ha hk h1 h0
