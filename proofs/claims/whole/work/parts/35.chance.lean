/-! chance; who is hunted -/
def likf (rep s t : Nat) : Nat → Nat
  | 0 => 1
  | k + 1 => likf rep s t k * (if rep.testBit k then (if s.testBit k then t else 10 - t) else 1)
def wB (rep s : Nat) : Nat → Bool
  | 0 => true
  | k + 1 => wB rep s k && (rep.testBit k || s.testBit k)
def sumN (f : Nat → Nat) : Nat → Nat
  | 0 => 0
  | k + 1 => sumN f k + f k
theorem sumN_split (f : Nat → Nat) (a : Nat) : ∀ b, sumN f (a + b) = sumN f a + sumN (fun s => f (s + a)) b
  | 0 => rfl
  | b + 1 => by
    have := sumN_split f a b
    show sumN f (a + b) + f (a + b) = _
    rw [this]
    simp only [sumN]
    rw [Nat.add_comm b a]
    omega
theorem sumN_cong {f g : Nat → Nat} : ∀ k, (∀ s, s < k → f s = g s) → sumN f k = sumN g k
  | 0, _ => rfl
  | k + 1, h => by
    simp only [sumN]
    rw [sumN_cong k (fun s hs => h s (by omega)), h k (by omega)]
theorem sumN_mul (f : Nat → Nat) (c : Nat) : ∀ k, sumN (fun s => f s * c) k = sumN f k * c
  | 0 => by simp [sumN]
  | k + 1 => by
    have := sumN_mul f c k
    simp only [sumN]
    rw [this, Nat.add_mul]
theorem sumN_0 : ∀ k, sumN (fun _ => 0) k = 0
  | 0 => rfl
  | k + 1 => by
    have := sumN_0 k
    simp only [sumN]
    omega
theorem sumN_le {f g : Nat → Nat} (h : ∀ s, f s ≤ g s) : ∀ k, sumN f k ≤ sumN g k
  | 0 => Nat.le_refl _
  | k + 1 => by
    have := sumN_le h k
    have := h k
    simp only [sumN]
    omega
theorem tb_hi {s n i : Nat} (hs : s < 2 ^ n) (hi : i < n) : (s + 2 ^ n).testBit i = s.testBit i := by
  rw [tb_add hs]
  have : decide (i = n) = false := by simp; omega
  rw [this, Bool.or_false]
theorem tb_top {s n : Nat} (hs : s < 2 ^ n) : (s + 2 ^ n).testBit n = true := by
  rw [tb_add hs]; simp
theorem lik_hi {rep s t n : Nat} (hs : s < 2 ^ n) : ∀ k, k ≤ n → likf rep (s + 2 ^ n) t k = likf rep s t k
  | 0, _ => rfl
  | k + 1, h => by
    simp only [likf]
    rw [lik_hi hs k (by omega), tb_hi hs (by omega)]
theorem wB_hi {rep s n : Nat} (hs : s < 2 ^ n) : ∀ k, k ≤ n → wB rep (s + 2 ^ n) k = wB rep s k
  | 0, _ => rfl
  | k + 1, h => by
    simp only [wB]
    rw [wB_hi hs k (by omega), tb_hi hs (by omega)]
def Fw (rep t n s : Nat) : Nat := if wB rep s n then likf rep s t n else 0
theorem tot (rep : Nat) {t : Nat} (ht : t ≤ 10) : ∀ n, sumN (Fw rep t n) (2 ^ n) = 10 ^ pcU rep n
  | 0 => rfl
  | n + 1 => by
    have ih := tot rep ht n
    have e2 : 2 ^ (n + 1) = 2 ^ n + 2 ^ n := by rw [Nat.pow_succ]; omega
    rw [e2, sumN_split]
    have hA : sumN (Fw rep t (n + 1)) (2 ^ n) = sumN (fun s => Fw rep t n s * (if rep.testBit n then 10 - t else 0)) (2 ^ n) := sumN_cong _ fun s hs => by
      have hb : s.testBit n = false := Nat.testBit_lt_two_pow hs
      unfold Fw
      simp only [wB, likf, hb]
      cases rep.testBit n <;> cases wB rep s n <;> simp
    have hB : sumN (fun s => Fw rep t (n + 1) (s + 2 ^ n)) (2 ^ n) = sumN (fun s => Fw rep t n s * (if rep.testBit n then t else 1)) (2 ^ n) := sumN_cong _ fun s hs => by
      unfold Fw
      simp only [wB, likf, tb_top hs, lik_hi hs n (Nat.le_refl _), wB_hi hs n (Nat.le_refl _)]
      cases rep.testBit n <;> cases wB rep s n <;> simp
    rw [hA, hB, sumN_mul, sumN_mul, ih]
    simp only [pcU]
    cases rep.testBit n
    · simp
    · simp only [if_true]
      rw [← Nat.mul_add, show 10 - t + t = 10 by omega, Nat.pow_succ]
theorem wB_iff {rep s : Nat} : ∀ n, wB rep s n = true ↔ ∀ i, i < n → rep.testBit i = true ∨ s.testBit i = true
  | 0 => by simp [wB]
  | n + 1 => by
    have ih := wB_iff (rep := rep) (s := s) n
    simp only [wB, Bool.and_eq_true, Bool.or_eq_true, ih]
    constructor
    · rintro ⟨h1, h2⟩ i hi
      rcases lt_succ_cases hi with e | rfl
      · exact h1 i e
      · exact h2
    · intro h
      exact ⟨fun i hi => h i (by omega), h n (by omega)⟩
theorem wB_or {rep s n : Nat} (hr : rep < 2 ^ n) (hs : s < 2 ^ n) : wB rep s n = true ↔ s ||| rep = 2 ^ n - 1 := by
  rw [wB_iff]
  constructor
  · intro h
    apply Nat.eq_of_testBit_eq
    intro i
    rw [Nat.testBit_or, Nat.testBit_two_pow_sub_one]
    by_cases hi : i < n
    · rcases h i hi with q | q <;> simp [q, hi]
    · have a : s.testBit i = false := Nat.testBit_lt_two_pow (Nat.lt_of_lt_of_le hs (Nat.pow_le_pow_right (by decide) (by omega)))
      have b : rep.testBit i = false := Nat.testBit_lt_two_pow (Nat.lt_of_lt_of_le hr (Nat.pow_le_pow_right (by decide) (by omega)))
      simp [a, b, hi]
  · intro h i hi
    have k : (s ||| rep).testBit i = true := by rw [h, Nat.testBit_two_pow_sub_one]; simpa using hi
    rw [Nat.testBit_or] at k
    rcases hq : rep.testBit i with _ | _
    · rw [hq] at k; right; simpa using k
    · left; rfl
theorem pcU_hi {rep n : Nat} (hr : rep < 2 ^ n) : ∀ k, n ≤ k → pcU rep k = pcU rep n
  | 0, h => by have : n = 0 := by omega
               rw [this]
  | k + 1, h => by
    by_cases e : n = k + 1
    · rw [e]
    · simp only [pcU]
      have b : rep.testBit k = false := Nat.testBit_lt_two_pow (Nat.lt_of_lt_of_le hr (Nat.pow_le_pow_right (by decide) (by omega)))
      rw [b, pcU_hi hr k (by omega)]
      rfl
theorem s_X3_likelihoodOf {n s t : Nat} {C : CV} (hn : n ≤ 6) (hR : Rg n C) (hs : s < 2 ^ 31) (ht : t ≤ 10) {post : Int32 → Prop} (h : post (nI (likf (cr C) s t n))) : p_X3_likelihoodOf (nI n) (nI (cr C)) (nI s) (nI t) post := by
  unfold p_X3_likelihoodOf
  refine wle_cnt n (fun i (v : Int32 × Int32) => v.1 = nI (likf (cr C) s t i) ∧ v.2 = nI i) ?_ _ 0 (by omega) ⟨rfl, rfl⟩
  rintro rec i ⟨l3, l4⟩ hi ⟨e3, e4⟩ hrec
  dsimp only at e3 e4 ⊢
  subst e3 e4
  unfold b_X3_likelihoodOf_5
  rw [nI_leI (by omega) (by omega)]
  refine ⟨fun hni => ?_, fun hni => ?_⟩
  · have e : i = n := by omega
    subst e
    exact h
  · refine s_X1_isReported (hR.r31 hn) (by omega) (fun hb => ⟨fun h => absurd h (by decide), fun _ => ?_⟩) (fun hb => ⟨fun _ x ex => ?_, fun h => absurd rfl h⟩)
    · rw [q_has (by omega) hs, ten_sub ht, pk_mul, pk_mul]
      refine ⟨fun g x ex x2 ex2 => ?_, fun g x ex x2 ex2 => ?_⟩
      · rw [nI_1] at ex2
        refine hrec (by omega) _ ⟨?_, ex2⟩
        rw [ex]; simp only [likf]; rw [if_pos hb, if_neg g]
      · rw [nI_1] at ex2
        refine hrec (by omega) _ ⟨?_, ex2⟩
        rw [ex]; simp only [likf]; rw [if_pos hb, if_pos g]
    · rw [nI_1] at ex
      refine hrec (by omega) _ ⟨?_, ex⟩
      simp only [likf]
      rw [hb]; simp
def chF (n : Nat) (C : CV) (t s : Nat) : Nat := if fr n C s = 1 then Fw (cr C) t n s else 0
def chI (n : Nat) (C : CV) (t : Nat) (l : Int32) : Int32 := frI (sumN (chF n C t) (2 ^ n)) (10 ^ pcn (cr C)) l
theorem ch_bound {n : Nat} {C : CV} (hn : n ≤ 6) (hR : Rg n C) {t : Nat} (ht : t ≤ 10) : sumN (Fw (cr C) t n) (2 ^ n) = 10 ^ pcn (cr C) ∧ sumN (chF n C t) (2 ^ n) ≤ 10 ^ pcn (cr C) ∧ 0 < 10 ^ pcn (cr C) ∧ 10 ^ pcn (cr C) < 2 ^ 31 := by
  have e : pcn (cr C) = pcU (cr C) n := pcU_hi hR.2.2.2.2.1 6 hn
  have h1 := tot (cr C) ht n
  rw [← e] at h1
  have h2 : sumN (chF n C t) (2 ^ n) ≤ sumN (Fw (cr C) t n) (2 ^ n) := sumN_le (fun s => by unfold chF; split <;> omega) _
  have h3 : pcn (cr C) ≤ 6 := pcU_le _ 6
  have h4 := p10 (k := pcn (cr C)) (by omega)
  have h5 := p10p (pcn (cr C))
  exact ⟨h1, by omega, h5, by omega⟩
theorem s_X3_chance {n : Nat} {C : CV} {al re mo ye : Int32} {weights marks : Nat → Int32} (hn : n ≤ 6) (hR : Rg n C) (hC : Crt n C al re mo ye weights marks) {l1 l2 : Int32} {post : Int32 → Prop} (h1 : (∀ t, t ≤ 10 → l1 ≠ nI t) → post (-2)) (h0 : ∀ t, t ≤ 10 → l1 = nI t → n = 0 → post (-3)) (h : ∀ t, t ≤ 10 → l1 = nI t → 0 < n → post (chI n C t l2)) : p_X3_chance (nI n) re weights marks l1 l2 post := by
  unfold p_X3_chance
  have h64 := p2_6 hn
  have hpos : 0 < 2 ^ n := Nat.pow_pos (by decide)
  refine s_X3_isTenths (fun t ht e => ⟨fun _ => ?_, fun h => absurd h (by decide)⟩) (fun g => ⟨fun h => absurd rfl h, fun _ => h1 g⟩)
  subst e
  have c0 : nI n = 0 ↔ n = 0 := nI_eq (b := 0) (by omega) (by omega)
  rw [c0]
  refine ⟨fun g0 => ?_, fun g0 => h0 t ht rfl g0⟩
  refine wle_cnt (2 ^ n) (fun i (v : Int32 × Int32 × Int32) => v.1 = nI (sumN (chF n C t) i) ∧ v.2.1 = nI (sumN (Fw (cr C) t n) i) ∧ v.2.2 = nI i) ?_ _ 0 (by omega) ⟨rfl, rfl, rfl⟩
  rintro rec i ⟨l3, l4, l5⟩ hi ⟨e3, e4, e5⟩ hrec
  dsimp only at e3 e4 e5 ⊢
  subst e3 e4 e5
  unfold b_X3_chance_31
  refine s_X1_everybody hn ?_
  rw [nI_ltI (by omega) (by omega), hC.2.1]
  refine ⟨fun hni => ?_, fun hni => ?_⟩
  · have e : i = 2 ^ n := by omega
    subst e
    obtain ⟨b1, b2, b3, b4⟩ := ch_bound hn hR ht
    rw [b1]
    exact s_X3_part (by omega) (by omega) (by omega) (h t ht rfl (by omega))
  · have hi2 : i < 2 ^ n := by omega
    have hw := wB_or hR.2.2.2.2.1 hi2
    refine s_X3_isWorld hn hR hi2 (fun g => ⟨fun h => absurd h (by decide), fun _ => ?_⟩) (fun g => ⟨fun _ x ex => ?_, fun h => absurd rfl h⟩)
    · refine s_X3_likelihoodOf hn hR (by omega) ht (fun x66 e66 => ?_)
      have eF : Fw (cr C) t n i = likf (cr C) i t n := by unfold Fw; rw [if_pos (hw.mpr g)]
      rw [nI_add] at e66
      refine sX_fair hn hR hC (by omega) ?_
      have hfl := fr_lt n C i
      have c1 : nI (fr n C i) = 1 ↔ fr n C i = 1 := nI_eq (b := 1) (by omega) (by omega)
      rw [c1]
      refine ⟨fun g1 x ex => ?_, fun g1 x ex x2 ex2 => ?_⟩
      · rw [nI_1] at ex
        refine hrec hi2 _ ⟨?_, ?_, ex⟩
        · simp only [sumN]; unfold chF; rw [if_neg g1, Nat.add_zero]
        · simp only [sumN]; rw [eF]; exact e66
      · rw [nI_1] at ex2
        rw [nI_add] at ex
        refine hrec hi2 _ ⟨?_, ?_, ex2⟩
        · show x = nI (sumN (chF n C t) i + chF n C t i)
          rw [ex]; congr 2; unfold chF; rw [if_pos g1, eF]
        · simp only [sumN]; rw [eF]; exact e66
    · have eF : Fw (cr C) t n i = 0 := by unfold Fw; rw [if_neg (fun q => g (hw.mp q))]
      have eC : chF n C t i = 0 := by unfold chF; rw [eF]; split <;> rfl
      rw [nI_1] at ex
      refine hrec hi2 _ ⟨?_, ?_, ex⟩
      · simp only [sumN]; rw [eC, Nat.add_zero]
      · simp only [sumN]; rw [eF, Nat.add_zero]
theorem s_X4_chance93 {n s t : Nat} {C : CV} {page : Nat → Int32} (hn : n ≤ 6) (hR : Rg n C) (hC : Row n C page) (hs : s < 2 ^ 31) (ht : t ≤ 10) {K : Int64 → Int32 → Prop} (h : ∀ l, K (nL (likf (cr C) s t n)) l) : wle (fun ρ ν => b_X4_chance_93 (nI t) (nI s) (nI n) page K ρ ν.1 ν.2) (1, 0) := by
  refine wle_cnt n (fun i (v : Int64 × Int32) => v.1 = nL (likf (cr C) s t i) ∧ v.2 = nI i) ?_ _ 0 (by omega) ⟨rfl, rfl⟩
  rintro rec i ⟨l3, l4⟩ hi ⟨e3, e4⟩ hrec
  dsimp only at e3 e4 ⊢
  subst e3 e4
  unfold b_X4_chance_93
  rw [nI_leI (by omega) (by omega), show ix 22 = 22 from rfl, hC.2.2.2.1]
  refine ⟨fun hni => ?_, fun hni => ?_⟩
  · have e : i = n := by omega
    subst e
    exact h _
  · refine s_X4_has (hR.r31 hn) (by omega) (fun hb => ⟨fun _ => ?_, fun h => absurd h (by decide)⟩) (fun hb => ⟨fun h => absurd rfl h, fun _ x ex x2 ex2 => ?_⟩)
    · rw [ten_sub ht, nI_64 (by omega), nI_64 (by omega), nL_mul, nL_mul]
      refine s_X4_has hs (by omega) (fun g => ⟨fun h => absurd h (by decide), fun _ x ex x2 ex2 => ?_⟩) (fun g => ⟨fun _ x ex x2 ex2 => ?_, fun h => absurd rfl h⟩)
      · rw [nI_1] at ex2
        refine hrec (by omega) _ ⟨?_, ex2⟩
        rw [ex]; simp only [likf]; rw [if_pos hb, if_pos g]
      · rw [nI_1] at ex2
        refine hrec (by omega) _ ⟨?_, ex2⟩
        rw [ex]; simp only [likf]; rw [if_pos hb, g]; simp
    · rw [nI_1] at ex2
      refine hrec (by omega) _ ⟨?_, ex2⟩
      rw [ex, show (1 : Int64) = nL 1 from rfl, nL_mul]
      simp only [likf]
      rw [hb]; simp
theorem s_X4_chance {n : Nat} {C : CV} {th : Int32} {page : Nat → Int32} (hn : n ≤ 6) (hR : Rg n C) (hC : Row n C page) {l1 l2 : Int32} {post : Int32 → Int32 → Prop} (h1 : (∀ t, t ≤ 10 → l1 ≠ nI t) → post (-2) 0) (h0 : ∀ t, t ≤ 10 → l1 = nI t → n = 0 → post (-3) 0) (h : ∀ t, t ≤ 10 → l1 = nI t → 0 < n → post (chI n C t l2) 0) : p_X4_chance th (nI n) page l1 l2 post := by
  unfold p_X4_chance
  have h64 := p2_6 hn
  have hpos : 0 < 2 ^ n := Nat.pow_pos (by decide)
  refine s_X4_in10 (fun t ht e => ⟨fun _ => ?_, fun h => absurd h (by decide)⟩) (fun g => ⟨fun h => absurd rfl h, fun _ => h1 g⟩)
  subst e
  have c0 : nI n = 0 ↔ n = 0 := nI_eq (b := 0) (by omega) (by omega)
  rw [c0, q_all hn]
  refine ⟨fun g0 x38 e38 => ?_, fun g0 => h0 t ht rfl g0⟩
  subst e38
  refine wle_cnt (2 ^ n) (fun i (v : Int64 × Int32) => v.1 = nL (sumN (chF n C t) i) ∧ v.2 = nI i) ?_ _ 0 (by omega) ⟨rfl, rfl⟩
  rintro rec i ⟨l3, l5⟩ hi ⟨e3, e5⟩ hrec
  dsimp only at e3 e5 ⊢
  subst e3 e5
  unfold b_X4_chance_45
  rw [nI_ltI (by omega) (by omega), show ix 22 = 22 from rfl, hC.2.2.2.1]
  refine ⟨fun hni => ?_, fun hni => ?_⟩
  · have e : i = 2 ^ n := by omega
    subst e
    obtain ⟨b1, b2, b3, b4⟩ := ch_bound hn hR ht
    have h6 : pcn (cr C) ≤ 6 := pcU_le _ 6
    refine s_X4_many (hR.r31 hn) ?_
    refine s_X4_ten (by omega) ?_
    rw [nI_64 b4]
    exact s_X4_frac (by omega) (by omega) (by omega) (h t ht rfl (by omega))
  · have hi2 : i < 2 ^ n := by omega
    have hw := wB_or hR.2.2.2.2.1 hi2
    have hcond : ((((nI i) ^^^ (-1)) &&& (nI (2 ^ n - 1))) &&& ((nI (cr C)) ^^^ (-1))) = 0 ↔ i ||| cr C = 2 ^ n - 1 := by
      have hx := sx_lt (b := cr C) (sx_lt (a := 2 ^ n - 1) (b := i) (m := n) (by omega))
      rw [world_int hi2 hR.2.2.2.2.1, ← world_bits hi2 hR.2.2.2.2.1]
      exact nI_eq (b := 0) (by omega) (by omega)
    rw [hcond]
    have skip : chF n C t i = 0 → ∀ x159 : Int32, x159 = nI i + 1 → rec (nL (sumN (chF n C t) i), x159) := fun q x ex => by
      rw [nI_1] at ex
      refine hrec hi2 _ ⟨?_, ex⟩
      simp only [sumN]; rw [q, Nat.add_zero]
    refine ⟨fun g => skip ?_, fun g => ?_⟩
    · unfold chF Fw
      rw [if_neg (show ¬ wB (cr C) i n = true from fun q => g (hw.mp q))]
      split <;> rfl
    · refine sM_weightsOf hC ?_
      have hw999 := hR.fig_le
      have hv : fair (val3 (dg (fig (cw C))) (cm C)) i n = fr n C i := by rw [hR.dgv]; rfl
      refine s_X4_isAlone (p := 0) hn hR hC (by omega) hw999 (by omega) (fun q => ⟨fun h => absurd h (by decide), fun _ => ?_⟩) (fun q => ⟨fun _ => skip ?_, fun h => absurd rfl h⟩)
      · rw [hv] at q
        refine s_X4_chance93 hn hR hC (by omega) ht (fun l x157 e157 x ex => ?_)
        rw [nL_add] at e157
        rw [nI_1] at ex
        refine hrec hi2 _ ⟨?_, ex⟩
        show x157 = nL (sumN (chF n C t) i + chF n C t i)
        rw [e157]; congr 2; unfold chF Fw; rw [if_pos q, if_pos (hw.mpr g)]
      · rw [hv] at q
        unfold chF
        rw [if_neg q]
/-! who is hunted -/
theorem hi31 (x : Int64) : ∃ r, r < 2 ^ 31 ∧ jlushr x 33 = nL r := by
  refine ⟨x.toUInt64.toNat / 2 ^ 33, ?_, ?_⟩
  · have := x.toUInt64.toNat_lt
    omega
  · unfold jlushr
    have e : ((33 : Int32).toInt64.toUInt64 &&& Int64.toUInt64 63) = 33 := by decide
    rw [e]
    have h1 : (x.toUInt64 >>> 33).toNat = x.toUInt64.toNat / 2 ^ 33 := by
      rw [UInt64.toNat_shiftRight]
      rw [show (33 : UInt64).toNat % 64 = 33 by decide, Nat.shiftRight_eq_div_pow]
    apply Int64.toBitVec_inj.1
    show (x.toUInt64 >>> 33).toBitVec = BitVec.ofNat 64 _
    rw [← h1]
    apply BitVec.eq_of_toNat_eq
    rw [BitVec.toNat_ofNat]
    exact (Nat.mod_eq_of_lt (x.toUInt64 >>> 33).toNat_lt).symm
def zz (n : Nat) (y : Int64) : Nat := (jlushr y 33).toInt32.toInt.toNat % n
theorem zz_step {n : Nat} (hn : n ≤ 6) (h0 : 0 < n) (y : Int64) : zz n y < n ∧ jrem ((jlushr y 33).toInt32) (nI n) = nI (zz n y) ∧ (jlrem (jlushr y 33) (nI n).toInt64).toInt32 = nI (zz n y) := by
  obtain ⟨r, hr, e⟩ := hi31 y
  have e2 : zz n y = r % n := by
    unfold zz
    rw [e, nL_32, nI_toInt hr]
    rfl
  refine ⟨Nat.mod_lt _ h0, ?_, ?_⟩
  · rw [e2, e, nL_32, q_rem hr h0 (by omega)]
  · rw [e2, e, nI_64 (by omega), nL_rem (by omega) h0 (by omega), nL_32]
/-- the class and the reference in step -/
def hStep (n : Nat) (s : Nat × Int64) : Nat × Int64 := (if zz n (s.2 * 6364136223846793005 + 1442695040888963407) = 0 then s.1 else s.1 ^^^ (s.1 &&& 2 ^ zz n (s.2 * 6364136223846793005 + 1442695040888963407)), s.2 * 6364136223846793005 + 1442695040888963407)
def huntR (n : Nat) (s : Nat × Int64) : Nat → Nat × Int64
  | 0 => s
  | k + 1 => hStep n (huntR n s k)
theorem hStep_lt {n : Nat} {s : Nat × Int64} (h : s.1 < 2 ^ n) : (hStep n s).1 < 2 ^ n := by
  show (if _ then _ else _) < _
  split
  · exact h
  · exact sx_lt h
theorem huntR_lt {n : Nat} {s : Nat × Int64} (h : s.1 < 2 ^ n) : ∀ k, (huntR n s k).1 < 2 ^ n
  | 0 => h
  | k + 1 => hStep_lt (huntR_lt h k)
theorem s_X3_hunted {n : Nat} {C : CV} (hn : n ≤ 6) (hR : Rg n C) {seed : Int64} {l1 : Int32} {post : Int32 → Int64 → Prop} (h2 : (∀ d, 1 ≤ d → d ≤ 30 → l1 ≠ nI d) → post (-2) seed) (h3 : ∀ d, 1 ≤ d → d ≤ 30 → l1 = nI d → n = 0 → post (-3) seed) (h : ∀ d, 1 ≤ d → d ≤ 30 → l1 = nI d → 0 < n → post (nI (pcn (huntR n (ca C, seed) d).1)) (huntR n (ca C, seed) d).2) : p_X3_hunted seed (nI n) (nI (ca C)) l1 post := by
  unfold p_X3_hunted
  have h64 := p2_6 hn
  have c0 : nI n = 0 ↔ n = 0 := nI_eq (b := 0) (by omega) (by omega)
  rcases ix_cases l1 (n := 31) (by omega) with ⟨d, hd, rfl⟩ | ⟨hx, hx2⟩
  · have c1 : nI d < 1 ↔ d < 1 := nI_ltI (b := 1) (by omega) (by omega)
    have c9 : nI d ≤ 30 ↔ d ≤ 30 := nI_leI (b := 30) (by omega) (by omega)
    rw [c1, c9, c0]
    refine ⟨fun g => h2 (fun V g1 g2 e => ?_), fun g => ⟨fun g9 => ⟨fun g0 => ?_, fun g0 => h3 d (by omega) g9 rfl g0⟩, fun g9 => by omega⟩⟩
    · rw [nI_eq (by omega) (by omega)] at e; omega
    · refine wle_cnt d (fun i (v : Int32 × Int32 × Int64) => v.1 = nI (huntR n (ca C, seed) i).1 ∧ v.2.1 = nI i ∧ v.2.2 = (huntR n (ca C, seed) i).2) ?_ _ 0 (by omega) ⟨rfl, rfl, rfl⟩
      rintro rec i ⟨l2, l3, sd⟩ hi ⟨e2, e3, e4⟩ hrec
      dsimp only at e2 e3 e4 ⊢
      subst e2 e3 e4
      unfold b_X3_hunted_37
      have hlt := huntR_lt (s := (ca C, seed)) hR.2.2.2.1 i
      rw [nI_leI (by omega) (by omega), c0]
      refine ⟨fun hni => ?_, fun hni x55 e55 => ⟨g0, fun x74 e74 => ?_⟩⟩
      · have e : i = d := by omega
        subst e
        exact s_J6_bitCount (by omega) (h i (by omega) g9 rfl (by omega))
      · subst e55
        obtain ⟨z1, z2, z3⟩ := zz_step hn (by omega) ((huntR n (ca C, seed) i).2 * 6364136223846793005 + 1442695040888963407)
        rw [z2] at e74
        subst e74
        have cz : nI (zz n ((huntR n (ca C, seed) i).2 * 6364136223846793005 + 1442695040888963407)) = 0 ↔ zz n ((huntR n (ca C, seed) i).2 * 6364136223846793005 + 1442695040888963407) = 0 := nI_eq (b := 0) (by omega) (by omega)
        rw [cz, hunt_int (by omega)]
        refine ⟨fun gz x ex => ?_, fun gz x ex x2 ex2 => ?_⟩
        · rw [nI_1] at ex
          refine hrec (by omega) _ ⟨?_, ex, rfl⟩
          show nI _ = nI (if _ then _ else _)
          rw [if_pos gz]
        · rw [nI_1] at ex2
          refine hrec (by omega) _ ⟨?_, ex2, rfl⟩
          show x = nI (if _ then _ else _)
          rw [if_neg gz]
          exact ex
  · have hb := h2 (fun V g1 g2 e => hx V (by omega) e)
    refine ⟨fun _ => hb, fun g1 => ⟨fun g9 => ?_, fun _ => hb⟩⟩
    rw [fa_lt, show (1 : Int32).toInt = 1 from rfl] at g1
    rw [fa_le, show (30 : Int32).toInt = 30 from rfl] at g9
    omega
theorem s_X4_hunted {n : Nat} {C : CV} {th : Int32} {page : Nat → Int32} (hn : n ≤ 6) (hR : Rg n C) (hC : Row n C page) {seed : Int64} {l1 : Int32} {post : Int32 → Int32 → Int64 → Prop} (h2 : (∀ d, 1 ≤ d → d ≤ 30 → l1 ≠ nI d) → post (-2) 0 seed) (h3 : ∀ d, 1 ≤ d → d ≤ 30 → l1 = nI d → n = 0 → post (-3) 0 seed) (h : ∀ d, 1 ≤ d → d ≤ 30 → l1 = nI d → 0 < n → post (nI (pcn (huntR n (ca C, seed) d).1)) 0 (huntR n (ca C, seed) d).2) : p_X4_hunted th (nI n) seed page l1 post := by
  unfold p_X4_hunted
  have h64 := p2_6 hn
  have c0 : nI n = 0 ↔ n = 0 := nI_eq (b := 0) (by omega) (by omega)
  have e1 : (1 : Int64).toInt = 1 := rfl
  have e30 : (30 : Int64).toInt = 30 := rfl
  refine s_X4_in (fun g1 g2 => ⟨fun _ => ?_, fun h => absurd h (by decide)⟩) (fun g => ⟨fun h => absurd rfl h, fun _ => h2 (fun W g1 g2 e => g ?_)⟩)
  · rw [Int32.toInt_toInt64, e1] at g1
    rw [Int32.toInt_toInt64, e30] at g2
    rcases ix_cases l1 (n := 31) (by omega) with ⟨d, hd, rfl⟩ | ⟨hx, hx2⟩
    · rw [nI_toInt (by omega)] at g1
      rw [c0, show ix 21 = 21 from rfl, hC.2.2.1]
      refine ⟨fun g0 x37 e37 => ?_, fun g0 => h3 d (by omega) (by omega) rfl g0⟩
      subst e37
      refine wle_cnt d (fun i (v : Int32 × Int32 × Int64) => v.1 = nI (huntR n (ca C, seed) i).1 ∧ v.2.1 = nI i ∧ v.2.2 = (huntR n (ca C, seed) i).2) ?_ _ 0 (by omega) ⟨rfl, rfl, rfl⟩
      rintro rec i ⟨l2, l3, sd⟩ hi ⟨e2, e3, e4⟩ hrec
      dsimp only at e2 e3 e4 ⊢
      subst e2 e3 e4
      unfold b_X4_hunted_40
      have hlt := huntR_lt (s := (ca C, seed)) hR.2.2.2.1 i
      rw [nI_leI (by omega) (by omega)]
      refine ⟨fun hni => ?_, fun hni x55 e55 => ⟨?_, fun x74 e74 => ?_⟩⟩
      · have e : i = d := by omega
        subst e
        exact s_X4_many (by omega) (h i (by omega) (by omega) rfl (by omega))
      · rw [nI_64 (by omega)]; exact nL_ne (by omega) (by omega)
      · subst e55
        obtain ⟨z1, z2, z3⟩ := zz_step hn (by omega) ((huntR n (ca C, seed) i).2 * 6364136223846793005 + 1442695040888963407)
        rw [z3] at e74
        subst e74
        have cz : nI (zz n ((huntR n (ca C, seed) i).2 * 6364136223846793005 + 1442695040888963407)) = 0 ↔ zz n ((huntR n (ca C, seed) i).2 * 6364136223846793005 + 1442695040888963407) = 0 := nI_eq (b := 0) (by omega) (by omega)
        rw [cz, hunt_int (by omega), fa_and, Nat.and_self]
        refine ⟨fun gz x ex x2 ex2 => ?_, fun gz x ex x2 ex2 => ?_⟩
        · rw [nI_1] at ex2
          refine hrec (by omega) _ ⟨?_, ex2, rfl⟩
          show x = nI (if _ then _ else _)
          rw [if_neg gz]
          exact ex
        · rw [nI_1] at ex2
          refine hrec (by omega) _ ⟨?_, ex2, rfl⟩
          show x = nI (if _ then _ else _)
          rw [if_pos gz]
          exact ex
    · omega
  · rw [Int32.toInt_toInt64, e1, e30, e, nI_toInt (by omega)]; omega
