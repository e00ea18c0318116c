/-! the text: what is read -/
def wT (T : Nat → Nat) : Nat → Nat := fun k => T (1 + k) - 48
def mT (T : Nat → Nat) : Nat → Nat := fun k => T (5 + 5 * (k / 3) + k % 3) - 48
def agT (T : Nat → Nat) : Nat → Nat := fun p => T (8 + 5 * p) - 48
def CT (T : Nat → Nat) (n : Nat) : CV := (wT T, mT T, 2 ^ n - 1, 0, 0, 0)
theorem IsGood.n {T : Nat → Nat} {tl : Nat} (h : IsGood T tl) : tl = 4 + 5 * ((tl - 4) / 5) ∧ (tl - 4) / 5 ≤ 6 := by
  have h4 := h.2
  unfold full at h4
  refine ⟨by omega, ?_⟩
  rcases Nat.lt_or_ge tl 35 with q | q
  · omega
  · have := (h.1 34 (by omega)).2.2.2.2.2.2
    omega
theorem IsGood.rg {T : Nat → Nat} {tl : Nat} (h : IsGood T tl) : Rg ((tl - 4) / 5) (CT T ((tl - 4) / 5)) ∧ (∀ p, p < (tl - 4) / 5 → agT T p ≤ 2) := by
  have hn := h.n
  generalize (tl - 4) / 5 = n at hn ⊢
  obtain ⟨e, h6⟩ := hn
  have w1 := (h.1 1 (by omega)).2.1 (by omega)
  have w2 := (h.1 2 (by omega)).2.1 (by omega)
  have w3 := (h.1 3 (by omega)).2.1 (by omega)
  have w0 := (h.1 3 (by omega)).2.2.1 rfl
  have hp : 0 < 2 ^ n := Nat.pow_pos (by decide)
  refine ⟨⟨fun i hi => ?_, ?_, fun k hk => ?_, ?_, ?_, fun hn => ?_⟩, fun p hp => ?_⟩
  · show T (1 + i) - 48 ≤ 9
    have := (h.1 (1 + i) (by omega)).2.1 (by omega)
    omega
  · show 0 < (T 1 - 48) + (T 2 - 48) + (T 3 - 48)
    omega
  · show T (5 + 5 * (k / 3) + k % 3) - 48 ≤ 9
    have := (h.1 (5 + 5 * (k / 3) + k % 3) (by omega)).2.2.2.2.1 (by omega)
    omega
  · show 2 ^ n - 1 < 2 ^ n
    omega
  · exact hp
  · show (2 ^ n - 1).testBit 0 = true
    rw [Nat.testBit_two_pow_sub_one]
    simpa using hn
  · show T (8 + 5 * p) - 48 ≤ 2
    have := (h.1 (8 + 5 * p) (by omega)).2.2.2.2.2.1 (by omega)
    omega
theorem s_X2_figureOf {T : Nat → Nat} {bytes : Nat → Int32} {tl p k : Nat} (hb : Av bytes T tl) (ht : tl ≤ 40) (hj : 5 + 5 * p + k < tl) (h48 : 48 ≤ T (5 + 5 * p + k)) {post : Int32 → Prop} (h : post (nI (T (5 + 5 * p + k) - 48))) : p_X2_figureOf bytes (nI p) (nI k) post := by
  unfold p_X2_figureOf
  have e : ((4 + (nI p * 5)) + 1) + nI k = nI (5 + 5 * p + k) := by
    rw [show (4 : Int32) = nI 4 from rfl, show (5 : Int32) = nI 5 from rfl, show (1 : Int32) = nI 1 from rfl, pk_mul, nI_add, nI_add, nI_add]
    congr 1
    omega
  rw [e, ix_nI (by omega), hb _ hj, show nI (T (5 + 5 * p + k)) - 48 = nI (T (5 + 5 * p + k) - 48) from pk_sub (b := 48) h48]
  exact ⟨vp_in_nI (by omega) (by omega), h⟩
theorem q_all {n : Nat} (hn : n ≤ 6) : jshl 1 (nI n) - 1 = nI (2 ^ n - 1) := by
  rw [q_shl1 (by omega)]
  exact pk_sub (b := 1) (Nat.pow_pos (by decide))
theorem s_X1_everybody {n : Nat} (hn : n ≤ 6) {post : Int32 → Prop} (h : post (nI (2 ^ n - 1))) : p_X1_everybody (nI n) post := by
  unfold p_X1_everybody
  rw [q_all hn]; exact h
theorem s_X1_readFrom {T : Nat → Nat} {bytes : Nat → Int32} {tl : Nat} (hb : Av bytes T tl) (ht : tl ≤ 40) (hg : IsGood T tl) {x1 x2 x3 x4 x5 : Int32} {weights marks ageing : Nat → Int32} {post : Int32 → Int32 → Int32 → Int32 → Int32 → (Nat → Int32) → (Nat → Int32) → (Nat → Int32) → Prop}
    (h : ∀ (weights marks ageing : Nat → Int32), Av weights (wT T) 3 → Av marks (mT T) (3 * ((tl - 4) / 5)) → Av ageing (agT T) ((tl - 4) / 5) → post (nI ((tl - 4) / 5)) (nI (2 ^ ((tl - 4) / 5) - 1)) 0 0 0 weights marks ageing) : p_X1_readFrom x1 x2 x3 x4 x5 weights marks ageing (nI tl) bytes post := by
  unfold p_X1_readFrom p_X2_peopleTold
  have hn := hg.n
  have e10 : jmin ((jmax 0 (nI tl - 4)) / 5) 6 = nI ((tl - 4) / 5) := by
    have e1 : jmax 0 (nI tl - 4) = nI (tl - 4) := jmax0 (b := 4) (by omega) (by omega)
    rw [e1, show nI (tl - 4) / 5 = nI ((tl - 4) / 5) from q_div (d := 5) (by omega) (by omega) (by omega), show jmin (nI ((tl - 4) / 5)) 6 = nI (min ((tl - 4) / 5) 6) from jmin_nI (b := 6) (by omega) (by omega)]
    congr 1
    omega
  dsimp only
  rw [e10]
  generalize (tl - 4) / 5 = n at hn h ⊢
  obtain ⟨e, h6⟩ := hn
  intro x10 ex
  subst ex
  refine wle_cnt 3 (fun i (v : Int32 × (Nat → Int32)) => v.1 = nI i ∧ Av v.2 (wT T) i) ?_ _ 0 (Nat.zero_le _) ⟨rfl, fun k hk => by omega⟩
  rintro rec i ⟨l2, wv⟩ hi ⟨e2, hv⟩ hrec
  dsimp only at e2 hv ⊢
  subst e2
  unfold b_X1_readFrom_15
  rw [show (3 : Int32) = nI 3 from rfl, nI_leI (by omega) (by omega)]
  refine ⟨fun hni => ?_, fun hni => ?_⟩
  · have ei : i = 3 := by omega
    subst ei
    refine wle_cnt n (fun i (v : Int32 × (Nat → Int32) × (Nat → Int32)) => v.1 = nI i ∧ Av v.2.1 (mT T) (3 * i) ∧ Av v.2.2 (agT T) i) ?_ _ 0 (Nat.zero_le _) ⟨rfl, fun k hk => by omega, fun k hk => by omega⟩
    rintro rec2 i ⟨l2, mv, av⟩ hi ⟨e2, hm, ha⟩ hrec2
    dsimp only at e2 hm ha ⊢
    subst e2
    unfold b_X1_readFrom_39
    rw [nI_leI (by omega) (by omega)]
    refine ⟨fun hni => ?_, fun hni => ?_⟩
    · have ei : i = n := by omega
      subst ei
      exact s_X1_everybody h6 (h _ _ _ hv hm ha)
    · have dgt : ∀ k, k < 4 → 48 ≤ T (5 + 5 * i + k) := fun k hk => by
        have := (hg.1 (5 + 5 * i + k) (by omega)).2.2.2.2.1 (by omega)
        omega
      refine wle_cnt 3 (fun j (v : Int32 × (Nat → Int32)) => v.1 = nI j ∧ Av v.2 (mT T) (3 * i + j)) ?_ _ 0 (Nat.zero_le _) ⟨rfl, hm⟩
      rintro rec3 j ⟨l3, mv3⟩ hj ⟨e3, hm3⟩ hrec3
      dsimp only at e3 hm3 ⊢
      subst e3
      unfold b_X1_readFrom_49
      rw [show (3 : Int32) = nI 3 from rfl, nI_leI (by omega) (by omega)]
      refine ⟨fun hnj => ?_, fun hnj => ?_⟩
      · have ej : j = 3 := by omega
        subst ej
        refine s_X2_figureOf hb ht (by omega) (dgt 3 (by omega)) ⟨vp_in_nI (by omega) (by omega), fun x88 e88 => ?_⟩
        rw [nI_1] at e88
        rw [ix_nI (by omega)]
        refine hrec2 (by omega) _ ⟨e88, hm3, fun k hk => ?_⟩
        show upd av _ _ k = nI (T _ - 48)
        rw [upd_at]
        by_cases ek : k = i
        · rw [if_pos ek, ek]; congr 3; omega
        · rw [if_neg ek]; exact ha k (by omega)
      · refine s_X2_figureOf hb ht (by omega) (dgt j (by omega)) ?_
        rw [pk_mul, nI_add, ix_nI (by omega)]
        refine ⟨vp_in_nI (by omega) (by omega), fun x70 e70 => ?_⟩
        rw [nI_1] at e70
        refine hrec3 (by omega) _ ⟨e70, fun k hk => ?_⟩
        show upd mv3 _ _ k = nI (T _ - 48)
        rw [upd_at]
        by_cases ek : k = i * 3 + j
        · rw [if_pos ek, ek]; congr 3; omega
        · rw [if_neg ek]; exact hm3 k (by omega)
  · have dgt : 48 ≤ T (1 + i) := by
      have := (hg.1 (1 + i) (by omega)).2.1 (by omega)
      omega
    refine s_X2_weight hb (by omega) (by omega) ⟨vp_in_nI (by omega) (by omega), fun x31 e31 => ?_⟩
    rw [nI_1] at e31
    rw [ix_nI (by omega)]
    refine hrec (by omega) _ ⟨e31, fun k hk => ?_⟩
    show upd wv _ _ k = nI (T _ - 48)
    rw [upd_at]
    by_cases ek : k = i
    · rw [if_pos ek, ek]; exact pk_sub (b := 48) dgt
    · rw [if_neg ek]; exact hv k (by omega)
theorem AvT {tl : Nat} {bytes text : Nat → Int32} (h : TextR tl bytes text) : ∃ T : Nat → Nat, Av bytes T tl ∧ Av text T tl ∧ (∀ j, j < tl → T j ≤ 255) ∧ tl ≤ 40 := by
  obtain ⟨h1, h2⟩ := h
  have e : ∀ j, j < tl → text j = nI (text j).toInt.toNat := fun j hj => by
    have := (h2 j hj).2
    rw [fa_eq, nI_toInt (by omega)]
    omega
  refine ⟨fun j => (text j).toInt.toNat, fun j hj => (h2 j hj).1.trans (e j hj), e, fun j hj => ?_, h1⟩
  have := (h2 j hj).2
  show (text j).toInt.toNat ≤ 255
  omega
theorem s_X3_court {T : Nat → Nat} {tl : Nat} {bytes : Nat → Int32} (hb : Av bytes T tl) (hT : ∀ j, j < tl → T j ≤ 255) (ht : tl ≤ 40) {na ac pe al re mo ye : Int32} {weights marks ageing isK : Nat → Int32} {post : Int32 → Int32 → Int32 → Int32 → Int32 → Int32 → Int32 → Int32 → (Nat → Int32) → (Nat → Int32) → (Nat → Int32) → (Nat → Int32) → Prop} (hf : ∀ f, IsFault T tl f → post (-3) na ac pe al re mo ye weights marks ageing isK)
    (hg : IsGood T tl → ∀ (al re mo ye : Int32) (weights marks ageing isK : Nat → Int32), Crt ((tl - 4) / 5) (CT T ((tl - 4) / 5)) al re mo ye weights marks → Av ageing (agT T) ((tl - 4) / 5) → isK 0 = 0 → isK 1 = 0 → post (nI ((tl - 4) / 5)) 0 0 (nI ((tl - 4) / 5)) al re mo ye weights marks ageing isK) : p_X3_court na ac (nI tl) bytes pe al re mo ye weights marks ageing isK post := by
  unfold p_X3_court
  refine s_X2_firstFault hb hT ht (fun g => ⟨fun _ => ?_, fun h => absurd rfl h⟩) (fun f g => ⟨fun h => ?_, fun _ => hf f g⟩)
  · refine s_X1_readFrom hb ht g (fun weights marks ageing q1 q2 q3 => ?_)
    unfold p_X3_forgetActs
    refine wle_cnt 2 (fun i (v : Int32 × (Nat → Int32)) => v.1 = nI i ∧ ∀ k, k < i → v.2 k = 0) ?_ _ 0 (Nat.zero_le _) ⟨rfl, fun k hk => by omega⟩
    rintro rec i ⟨l1, kv⟩ hi ⟨e1, hv⟩ hrec
    dsimp only at e1 hv ⊢
    subst e1
    unfold b_X3_court_32
    rw [show (2 : Int32) = nI 2 from rfl, nI_leI (by omega) (by omega)]
    refine ⟨fun hni => ?_, fun hni => ⟨vp_in_nI (by omega) (by omega), fun x ex => ?_⟩⟩
    · have ei : i = 2 := by omega
      subst ei
      exact hg g _ _ _ _ _ _ _ _ ⟨rfl, rfl, rfl, rfl, q1, q2⟩ q3 (hv 0 (by omega)) (hv 1 (by omega))
    · rw [nI_1] at ex
      rw [ix_nI (by omega)]
      refine hrec (by omega) _ ⟨ex, fun k hk => ?_⟩
      show upd kv _ _ k = 0
      rw [upd_at]
      by_cases ek : k = i
      · rw [if_pos ek]; decide
      · rw [if_neg ek]; exact hv k (by omega)
  · exfalso
    have := g.1
    rw [fa_eq, nI_toInt (by omega)] at h
    have : (-9 : Int32).toInt = -9 := rfl
    omega
theorem nI_n9 {a : Nat} (h : a < 2 ^ 31) : ¬ nI a = -9 := fun e => by
  rw [fa_eq, nI_toInt h] at e
  have : (-9 : Int32).toInt = -9 := rfl
  omega
def PR (T : Nat → Nat) (p q : Nat) (pg : Nat → Int32) : Prop := Av pg (wT T) 3 ∧ Av (fun k => pg (3 + k)) (mT T) q ∧ pg 21 = nI (2 ^ p - 1) ∧ pg 22 = 0 ∧ pg 23 = 0 ∧ pg 24 = 0
theorem or_next : ∀ p, p < 6 → nI (2 ^ p - 1) ||| jshl 1 (nI p) = nI (2 ^ (p + 1) - 1) := by decide +kernel
theorem ok_ext {T : Nat → Nat} {m : Nat} (h : ∀ j, j < m → okAt T j) (h2 : okAt T m) : ∀ j, j < m + 1 → okAt T j := fun j hj => by
  rcases lt_succ_cases hj with e | rfl
  · exact h j e
  · exact h2
theorem s_X4_readPerson {T : Nat → Nat} {text ra pg : Nat → Int32} {tl p : Nat} (hb : Av text T tl) (hT : ∀ j, j < tl → T j ≤ 255) (ht : tl ≤ 40) (hp : p < 6) (h5 : 5 + 5 * p ≤ tl) (hok : ∀ j, j < 5 + 5 * p → okAt T j) (hP : PR T p (3 * p) pg) (hA : Av ra (agT T) p) {post : Int32 → Int32 → Int32 → (Nat → Int32) → (Nat → Int32) → Prop} (h1 : ∀ ra2 pg2 : Nat → Int32, 9 + 5 * p ≤ tl → (∀ j, j < 9 + 5 * p → okAt T j) → PR T (p + 1) (3 * (p + 1)) pg2 → Av ra2 (agT T) (p + 1) → post 1 (nI (9 + 5 * p)) (nI (p + 1)) ra2 pg2)
    (h0 : ∀ (f : Nat) (rp : Int32) (ra2 pg2 : Nat → Int32), IsFault T tl f → post 0 (nI f) rp ra2 pg2) : p_X4_readPerson (nI tl) (nI (5 + 5 * p)) (nI p) text ra pg post := by
  unfold p_X4_readPerson
  refine wle_cnt 3 (fun i (v : Int32 × Int32 × (Nat → Int32)) => v.1 = nI i ∧ v.2.1 = nI (5 + 5 * p + i) ∧ 5 + 5 * p + i ≤ tl ∧ (∀ j, j < 5 + 5 * p + i → okAt T j) ∧ PR T p (3 * p + i) v.2.2) ?_ _ 0 (Nat.zero_le _) ⟨rfl, rfl, h5, hok, hP⟩
  rintro rec i ⟨l1, pl, pv⟩ hi ⟨e1, e2, hle, hok, hP⟩ hrec
  dsimp only at e1 e2 hP ⊢
  subst e1 e2
  unfold b_X4_readPerson_2
  have c3 : 3 ≤ nI i ↔ 3 ≤ i := nI_leI (a := 3) (by omega) (by omega)
  rw [c3]
  refine ⟨fun hni => ?_, fun hni => ?_⟩
  · have ei : i = 3 := by omega
    subst ei
    refine s_X4_figure (lo := 0) (hi := 2) hb hT ht hle (by omega) (by omega) (fun g1 g2 g3 => ⟨fun _ => ⟨vp_in_nI (by omega) (by omega), fun x85 e85 x93 e93 => ?_⟩, fun h => absurd h (nI_n9 (by omega))⟩) (fun g => ⟨fun h => absurd rfl h, fun _ => h0 _ _ _ _ ⟨hle, hok, fun hlt q => g hlt ?_, fun hlt q => ?_⟩⟩)
    · rw [nI_1] at e93
      rw [show ix 21 = 21 from rfl] at e85 ⊢
      rw [hP.2.2.1, or_next p hp] at e85
      rw [e93, ix_nI (by omega)]
      have okd : okAt T (5 + 5 * p + 3) := ⟨by omega, by omega, by omega, by omega, fun _ => ⟨by omega, by omega⟩, fun _ => by omega, by omega⟩
      have oks := ok_ext hok okd
      rw [show 5 + 5 * p + 3 + 1 = 9 + 5 * p by omega]
      refine h1 _ _ (by omega) (fun j hj => oks j (by omega)) ⟨fun k hk => ?_, fun k hk => ?_, ?_, ?_, ?_, ?_⟩ (fun k hk => ?_)
      · rw [upd_at, if_neg (by omega)]; exact hP.1 k hk
      · show upd pv _ _ (3 + k) = _
        rw [upd_at, if_neg (by omega)]; exact hP.2.1 k (by omega)
      · rw [upd_at, if_pos rfl]; exact e85
      · rw [upd_at, if_neg (by omega)]; exact hP.2.2.2.1
      · rw [upd_at, if_neg (by omega)]; exact hP.2.2.2.2.1
      · rw [upd_at, if_neg (by omega)]; exact hP.2.2.2.2.2
      · show upd ra _ _ k = nI (T _ - 48)
        rw [upd_at]
        by_cases ek : k = p
        · rw [if_pos ek, ek]; congr 3; omega
        · rw [if_neg ek]; exact hA k (by omega)
    · have a := q.2.2.2.2.1 (by omega)
      have b := q.2.2.2.2.2.1 (by omega)
      omega
    · have := q.2; omega
  · refine s_X4_figure (lo := 0) (hi := 9) hb hT ht hle (by omega) (by omega) (fun g1 g2 g3 => ⟨fun _ => ?_, fun h => absurd h (nI_n9 (by omega))⟩) (fun g => ⟨fun h => absurd rfl h, fun _ => h0 _ _ _ _ ⟨hle, hok, fun hlt q => g hlt ?_, fun hlt q => ?_⟩⟩)
    · rw [show (3 : Int32) = nI 3 from rfl, pk_mul, nI_add, nI_add, ix_nI (by omega)]
      refine ⟨vp_in_nI (by omega) (by omega), fun x39 e39 => ?_⟩
      rw [nI_1] at e39
      have okd : okAt T (5 + 5 * p + i) := ⟨by omega, by omega, by omega, by omega, fun _ => ⟨by omega, by omega⟩, by omega, by omega⟩
      have oks := ok_ext hok okd
      refine hrec (by omega) _ ⟨e39, rfl, g1, oks, fun k hk => ?_, fun k hk => ?_, ?_, ?_, ?_, ?_⟩
      · show upd pv _ _ k = _
        rw [upd_at, if_neg (by omega)]; exact hP.1 k hk
      · show upd pv _ _ (3 + k) = nI (T _ - 48)
        rw [upd_at]
        by_cases ek : k = 3 * p + i
        · rw [if_pos (by omega), ek]; congr 3; omega
        · rw [if_neg (by omega)]; exact hP.2.1 k (by omega)
      · show upd pv _ _ 21 = _
        rw [upd_at, if_neg (by omega)]; exact hP.2.2.1
      · show upd pv _ _ 22 = _
        rw [upd_at, if_neg (by omega)]; exact hP.2.2.2.1
      · show upd pv _ _ 23 = _
        rw [upd_at, if_neg (by omega)]; exact hP.2.2.2.2.1
      · show upd pv _ _ 24 = _
        rw [upd_at, if_neg (by omega)]; exact hP.2.2.2.2.2
    · have a := q.2.2.2.2.1 (by omega)
      omega
    · have := q.2; omega
theorem s_X4_readCourt {T : Nat → Nat} {text : Nat → Int32} {tl : Nat} (hb : Av text T tl) (hT : ∀ j, j < tl → T j ≤ 255) (ht : tl ≤ 40) {pl rp : Int32} {ra pg : Nat → Int32} {post : Int32 → Int32 → Int32 → (Nat → Int32) → (Nat → Int32) → Prop} (hf : ∀ (f : Nat) (pl rp : Int32) (ra pg : Nat → Int32), IsFault T tl f → post (nI f) pl rp ra pg)
    (hg : IsGood T tl → ∀ (pl : Int32) (ra pg : Nat → Int32), Av ra (agT T) ((tl - 4) / 5) → PR T ((tl - 4) / 5) (3 * ((tl - 4) / 5)) pg → post (-9) pl (nI ((tl - 4) / 5)) ra pg) : p_X4_readCourt (nI tl) pl rp text ra pg post := by
  unfold p_X4_readCourt
  refine wle_cnt 25 (fun i (v : Int32 × (Nat → Int32)) => v.1 = nI i ∧ ∀ k, k < i → v.2 k = 0) ?_ _ 0 (Nat.zero_le _) ⟨rfl, fun k hk => by omega⟩
  rintro rec i ⟨l1, pv⟩ hi ⟨e1, hv⟩ hrec
  dsimp only at e1 hv ⊢
  subst e1
  unfold b_X4_readCourt_12
  have c25 : 25 ≤ nI i ↔ 25 ≤ i := nI_leI (a := 25) (by omega) (by omega)
  rw [c25]
  refine ⟨fun hni => ?_, fun hni => ⟨vp_in_nI (by omega) (by omega), fun x ex => ?_⟩⟩
  · have ei : i = 25 := by omega
    subst ei
    have c0 : nI tl = 0 ↔ tl = 0 := nI_eq (b := 0) (by omega) (by omega)
    rw [c0]
    refine ⟨fun z => hf 0 _ _ _ _ ⟨by omega, by omega, by omega, fun _ q => by have := q.1; omega⟩, fun z => ?_⟩
    have := hT 0 (by omega)
    have c81 : text (ix 0) = 81 ↔ T 0 = 81 := by
      rw [show ix 0 = 0 from rfl, hb 0 (by omega)]
      exact nI_eq (b := 81) (by omega) (by omega)
    rw [c81]
    refine ⟨fun g81 => ?_, fun g81 => hf 0 _ _ _ _ ⟨by omega, by omega, fun _ q => g81 (q.1 rfl), fun h => by omega⟩⟩
    have ok0 : ∀ j, j < 0 + 1 → okAt T j := fun j hj => by
      have : j = 0 := by omega
      subst this
      exact ⟨fun _ => g81, by omega, by omega, by omega, by omega, by omega, by omega⟩
    refine wle_cnt 3 (fun i (v : Int32 × Int32 × (Nat → Int32)) => v.1 = nI i ∧ v.2.1 = nI (i + 1) ∧ i + 1 ≤ tl ∧ (∀ j, j < i + 1 → okAt T j) ∧ Av v.2.2 (wT T) i ∧ ∀ k, 3 ≤ k → k < 25 → v.2.2 k = 0) ?_ _ 0 (Nat.zero_le _) ⟨rfl, rfl, by omega, ok0, fun k hk => by omega, fun k h3 h25 => hv k h25⟩
    rintro rec2 i ⟨l1, pl, pv⟩ hi ⟨e1, e2, hle, hok, hw, hz⟩ hrec2
    dsimp only at e1 e2 hw hz ⊢
    subst e1 e2
    unfold b_X4_readCourt_58
    have c3 : 3 ≤ nI i ↔ 3 ≤ i := nI_leI (a := 3) (by omega) (by omega)
    have c2 : nI i = 2 ↔ i = 2 := nI_eq (b := 2) (by omega) (by omega)
    rw [c3, c2]
    refine ⟨fun hni => ?_, fun hni => ?_⟩
    · have ei : i = 3 := by omega
      subst ei
      refine wle_cnt 6 (fun p (v : Int32 × Int32 × (Nat → Int32) × (Nat → Int32)) => v.1 = nI (4 + 5 * p) ∧ v.2.1 = nI p ∧ 4 + 5 * p ≤ tl ∧ (∀ j, j < 4 + 5 * p → okAt T j) ∧ Av v.2.2.1 (agT T) p ∧ PR T p (3 * p) v.2.2.2) ?_ _ 0 (Nat.zero_le _) ⟨rfl, rfl, by omega, hok, fun k hk => by omega, hw, fun k hk => by omega, hz 21 (by omega) (by omega), hz 22 (by omega) (by omega), hz 23 (by omega) (by omega), hz 24 (by omega) (by omega)⟩
      rintro rec3 p ⟨pl, rp, ra, pv⟩ hp ⟨e1, e2, hle, hok, hA, hP⟩ hrec3
      dsimp only at e1 e2 hA hP ⊢
      subst e1 e2
      unfold b_X4_readCourt_120
      have c6 : nI p = 6 ↔ p = 6 := nI_eq (b := 6) (by omega) (by omega)
      rw [nI_leI (by omega) (by omega), c6]
      refine ⟨fun hnt => ?_, fun hnt => ⟨vp_in_nI (by omega) (by omega), ?_⟩⟩
      · have ep : (tl - 4) / 5 = p := by omega
        have hgood : IsGood T tl := ⟨fun j hj => hok j (by omega), by unfold full; omega⟩
        have := hg hgood
        rw [ep] at this
        exact this _ _ _ hA hP
      · have hTp := hT (4 + 5 * p) (by omega)
        have c80 : text (ix (nI (4 + 5 * p))) = 80 ↔ T (4 + 5 * p) = 80 := by
          rw [ix_nI (by omega), hb _ (by omega)]
          exact nI_eq (b := 80) (by omega) (by omega)
        rw [c80]
        refine ⟨fun g80 => hf _ _ _ _ _ ⟨hle, hok, fun _ q => g80 (q.2.2.2.1 (by omega)), by omega⟩, fun g80 => ⟨fun g6 x166 e166 => ?_, fun g6 => hf _ _ _ _ _ ⟨hle, hok, fun _ q => by have := q.2.2.2.2.2.2; omega, by omega⟩⟩⟩
        rw [nI_1, show 4 + 5 * p + 1 = 5 + 5 * p by omega] at e166
        rw [e166]
        refine s_X4_readPerson hb hT ht (by omega) (by omega) ?_ hP hA (fun ra2 pg2 q1 q2 q3 q4 => ⟨fun _ => hrec3 (by omega) _ ⟨?_, rfl, by omega, fun j hj => q2 j (by omega), q4, q3⟩, fun h => absurd h (by decide)⟩) (fun f rp ra2 pg2 q => ⟨fun h => absurd rfl h, fun _ => hf _ _ _ _ _ q⟩)
        · have := ok_ext hok ⟨by omega, by omega, by omega, fun _ => g80, by omega, by omega, by omega⟩
          intro j hj
          exact this j (by omega)
        · show nI _ = nI _
          congr 1
          omega
    · have bad : (i + 1 < tl → ¬ okAt T (i + 1)) → IsFault T tl (i + 1) := fun h => ⟨hle, hok, h, fun _ q => by have := q.1; omega⟩
      have step : ∀ x ap : Int32, ap = nI (i + 1 + 1) → x = nI (T (i + 1) - 48) → i + 1 < tl → okAt T (i + 1) → (vp_in (nI i) 25 ∧ (∀ x114 : Int32, x114 = nI i + 1 → rec2 (x114, ap, upd pv (ix (nI i)) x))) := fun x ap eap ex hlt hok1 => by
        refine ⟨vp_in_nI (by omega) (by omega), fun x114 e114 => ?_⟩
        rw [nI_1] at e114
        rw [ix_nI (by omega)]
        refine hrec2 (by omega) _ ⟨e114, eap, by omega, ok_ext hok hok1, fun k hk => ?_, fun k h3 h25 => ?_⟩
        · show upd pv _ _ k = nI (T _ - 48)
          rw [upd_at]
          by_cases ek : k = i
          · rw [if_pos ek, ek, ex, Nat.add_comm 1 i]
          · rw [if_neg ek]; exact hw k (by omega)
        · show upd pv _ _ k = 0
          rw [upd_at, if_neg (by omega)]; exact hz k h3 h25
      have plain : (i = 2 → ¬ (T 1 = 48 ∧ T 2 = 48)) → p_X4_figure (nI tl) (nI (i + 1)) text 0 9 (fun (r92 : Int32) (a92_0 : Int32) => ((¬ r92 = (-9) → (vp_in (nI i) 25 ∧ (∀ x114 : Int32, x114 = nI i + 1 → rec2 (x114, a92_0, upd pv (ix (nI i)) r92)))) ∧ (r92 = (-9) → post a92_0 a92_0 0 ra pv))) := fun h2 => by
        refine s_X4_figure (lo := 0) (hi := 9) hb hT ht hle (by omega) (by omega) (fun g1 g2 g3 => ⟨fun _ => step _ _ rfl rfl g1 ⟨by omega, fun _ => ⟨by omega, by omega⟩, fun e3 => ?_, by omega, by omega, by omega, by omega⟩, fun h => absurd h (nI_n9 (by omega))⟩) (fun g => ⟨fun h => absurd rfl h, fun _ => hf _ _ _ _ _ (bad fun hlt q => g hlt ?_)⟩)
        · have := h2 (by omega)
          exact fun q => this ⟨q.1, q.2.1⟩
        · have := q.2.1 (by omega); omega
      refine ⟨fun g2 => plain (fun e => absurd e g2), fun g2 => ?_⟩
      subst g2
      have w1 := (hok 1 (by omega)).2.1 (by omega)
      have w2 := (hok 2 (by omega)).2.1 (by omega)
      have cS : pv (ix 0) + pv (ix 1) = 0 ↔ (T 1 = 48 ∧ T 2 = 48) := by
        have a : pv (ix 0) = nI (T 1 - 48) := hw 0 (by omega)
        have b : pv (ix 1) = nI (T 2 - 48) := hw 1 (by omega)
        have c : nI ((T 1 - 48) + (T 2 - 48)) = 0 ↔ (T 1 - 48) + (T 2 - 48) = 0 := nI_eq (b := 0) (by omega) (by omega)
        rw [a, b, nI_add, c]
        omega
      rw [cS]
      refine ⟨fun g => plain (fun _ => g), fun g => ?_⟩
      refine s_X4_figure (lo := 1) (hi := 9) hb hT ht hle (by omega) (by omega) (fun g1 g2 g3 => ⟨fun _ => step _ _ rfl rfl g1 ⟨by omega, fun _ => ⟨by omega, by omega⟩, fun e3 q => ?_, by omega, by omega, by omega, by omega⟩, fun h => absurd h (nI_n9 (by omega))⟩) (fun g' => ⟨fun h => absurd rfl h, fun _ => hf _ _ _ _ _ (bad fun hlt q => g' hlt ?_)⟩)
      · have : T (2 + 1) = T 3 := rfl
        omega
      · have a := q.2.1 (by omega)
        have b := q.2.2.1 rfl
        have : T (2 + 1) = T 3 := rfl
        omega
  · rw [nI_1] at ex
    rw [ix_nI (by omega)]
    refine hrec (by omega) _ ⟨ex, fun k hk => ?_⟩
    show upd pv _ _ k = 0
    rw [upd_at]
    by_cases ek : k = i
    · rw [if_pos ek]
    · rw [if_neg ek]; exact hv k (by omega)
theorem s_X4_court {T : Nat → Nat} {tl : Nat} {text : Nat → Int32} (hb : Av text T tl) (hT : ∀ j, j < tl → T j ≤ 255) (ht : tl ≤ 40) {th pl pe rp ac : Int32} {ageing page ra pg isK : Nat → Int32} {post : Int32 → Int32 → Int32 → Int32 → Int32 → Int32 → (Nat → Int32) → (Nat → Int32) → (Nat → Int32) → (Nat → Int32) → (Nat → Int32) → Prop} (hf : ∀ (f : Nat) (pl rp : Int32) (ra pg : Nat → Int32), IsFault T tl f → post (-3) 0 pl pe rp ac ageing page ra pg isK)
    (hg : IsGood T tl → ∀ (pl rp : Int32) (ageing page ra pg isK : Nat → Int32), Row ((tl - 4) / 5) (CT T ((tl - 4) / 5)) page → Av ageing (agT T) ((tl - 4) / 5) → isK 0 = 0 → isK 1 = 0 → post (nI ((tl - 4) / 5)) 0 pl (nI ((tl - 4) / 5)) rp 0 ageing page ra pg isK) : p_X4_court th (nI tl) pl pe rp ac text ageing page ra pg isK post := by
  unfold p_X4_court
  refine s_X4_readCourt hb hT ht (fun f pl rp ra pg g => ⟨fun h => ?_, fun _ => hf f _ _ _ _ g⟩) (fun g pl ra pg q1 q2 => ⟨fun _ => ?_, fun h => absurd rfl h⟩)
  · have := g.1
    exact absurd h (nI_n9 (by omega))
  · have hn := g.n
    have hg' := hg g
    generalize (tl - 4) / 5 = n at hn hg' q1 q2 ⊢
    refine wle_cnt n (fun i (v : Int32 × (Nat → Int32)) => v.1 = nI i ∧ Av v.2 (agT T) i) ?_ _ 0 (Nat.zero_le _) ⟨rfl, fun k hk => by omega⟩
    rintro rec i ⟨l1, av⟩ hi ⟨e1, hv⟩ hrec
    dsimp only at e1 hv ⊢
    subst e1
    unfold b_X4_court_27
    rw [nI_leI (by omega) (by omega), ix_nI (by omega)]
    refine ⟨fun hni => ?_, fun hni => ⟨vp_in_nI (by omega) (by omega), fun x46 e46 => ⟨vp_in_nI (by omega) (by omega), fun x47 e47 => ?_⟩⟩⟩
    · have ei : i = n := by omega
      subst ei
      refine wle_cnt 25 (fun i (v : Int32 × (Nat → Int32)) => v.1 = nI i ∧ ∀ k, k < i → v.2 k = pg k) ?_ _ 0 (Nat.zero_le _) ⟨rfl, fun k hk => by omega⟩
      rintro rec2 j ⟨l1, pv⟩ hj ⟨e1, hv2⟩ hrec2
      dsimp only at e1 hv2 ⊢
      subst e1
      unfold b_X4_court_55
      have c25 : 25 ≤ nI j ↔ 25 ≤ j := nI_leI (a := 25) (by omega) (by omega)
      rw [c25, ix_nI (by omega)]
      refine ⟨fun hnj => ?_, fun hnj => ⟨vp_in_nI (by omega) (by omega), fun x72 e72 => ⟨vp_in_nI (by omega) (by omega), fun x73 e73 => ?_⟩⟩⟩
      · have ej : j = 25 := by omega
        subst ej
        have hR : Row i (CT T i) pg := ⟨q2.1, q2.2.1, q2.2.2.1, q2.2.2.2.1, q2.2.2.2.2.1, q2.2.2.2.2.2⟩
        exact hg' _ _ _ _ _ _ _ (hR.cong hn.2 hv2) hv rfl rfl
      · rw [nI_1] at e73
        refine hrec2 (by omega) _ ⟨e73, fun k hk => ?_⟩
        show upd pv _ _ k = _
        rw [upd_at]
        by_cases ek : k = j
        · rw [if_pos ek, e72, ek]
        · rw [if_neg ek]; exact hv2 k (by omega)
    · rw [nI_1] at e47
      refine hrec (by omega) _ ⟨e47, fun k hk => ?_⟩
      show upd av _ _ k = _
      rw [upd_at]
      by_cases ek : k = i
      · rw [if_pos ek, e46, ek]; exact q1 i (by omega)
      · rw [if_neg ek]; exact hv k (by omega)
theorem s_X3_fault {T : Nat → Nat} {tl : Nat} {bytes : Nat → Int32} (hb : Av bytes T tl) (hT : ∀ j, j < tl → T j ≤ 255) (ht : tl ≤ 40) {post : Int32 → Prop} (hg : IsGood T tl → post (-9)) (hf : ∀ f, IsFault T tl f → post (nI f)) : p_X3_fault (nI tl) bytes post := s_X2_firstFault hb hT ht hg hf
theorem s_X4_fault {T : Nat → Nat} {tl : Nat} {text : Nat → Int32} (hb : Av text T tl) (hT : ∀ j, j < tl → T j ≤ 255) (ht : tl ≤ 40) {th pl rp : Int32} {ra pg : Nat → Int32} {post : Int32 → Int32 → Int32 → Int32 → (Nat → Int32) → (Nat → Int32) → Prop} (hg : IsGood T tl → ∀ (pl rp : Int32) (ra pg : Nat → Int32), post (-9) 0 pl rp ra pg) (hf : ∀ (f : Nat) (pl rp : Int32) (ra pg : Nat → Int32), IsFault T tl f → post (nI f) 0 pl rp ra pg) : p_X4_fault th (nI tl) pl rp text ra pg post := by
  unfold p_X4_fault
  exact s_X4_readCourt hb hT ht (fun f pl rp ra pg g => hf f _ _ _ _ g) (fun g pl ra pg _ _ => hg g _ _ _ _)
