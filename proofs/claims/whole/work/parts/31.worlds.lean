/-! what may be: worlds, whom to ask, answers -/
def cnt (P : Nat → Bool) : Nat → Nat
  | 0 => 0
  | k + 1 => cnt P k + (if P k then 1 else 0)
theorem cnt_le (P : Nat → Bool) : ∀ k, cnt P k ≤ k
  | 0 => Nat.le_refl _
  | k + 1 => by have := cnt_le P k; simp only [cnt]; split <;> omega
theorem cnt_mono {P Q : Nat → Bool} (h : ∀ s, P s = true → Q s = true) : ∀ k, cnt P k ≤ cnt Q k
  | 0 => Nat.le_refl _
  | k + 1 => by
    have := cnt_mono h k
    have h2 := h k
    simp only [cnt]
    split
    · rename_i q; rw [if_pos (h2 q)]; omega
    · split <;> omega
theorem cnt_cong {P Q : Nat → Bool} : ∀ k, (∀ s, s < k → P s = Q s) → cnt P k = cnt Q k
  | 0, _ => rfl
  | k + 1, h => by
    simp only [cnt]
    rw [cnt_cong k (fun s hs => h s (by omega)), h k (by omega)]
theorem cnt_t {P : Nat → Bool} {k : Nat} (h : P k = true) : cnt P (k + 1) = cnt P k + 1 := by simp only [cnt]; rw [if_pos h]
theorem cnt_f {P : Nat → Bool} {k : Nat} (h : P k = false) : cnt P (k + 1) = cnt P k := by simp only [cnt]; rw [h]; rfl
def andW (P : Nat → Bool) (a : Nat) : Nat → Nat
  | 0 => a
  | k + 1 => if P k then andW P a k &&& k else andW P a k
theorem andW_t {P : Nat → Bool} {a k : Nat} (h : P k = true) : andW P a (k + 1) = andW P a k &&& k := by simp only [andW]; rw [if_pos h]
theorem andW_f {P : Nat → Bool} {a k : Nat} (h : P k = false) : andW P a (k + 1) = andW P a k := by simp only [andW]; rw [h]; rfl
def fitJ (n f : Nat) (x y : Int32) : Bool := decide (∀ p, p < n → x = nI p → (f.testBit p = true ↔ y = 1))
def fitsB (n : Nat) (C : CV) (h : Nat) (wp wi : Nat → Int32) (s : Nat) : Bool := decide (∀ j, j < h → fitJ n (fr n C s) (wp j) (wi j) = true)
def Wd (n : Nat) (C : CV) (h : Nat) (wp wi : Nat → Int32) (s : Nat) : Bool := decide (s ||| cr C = 2 ^ n - 1) && fitsB n C h wp wi s
theorem s_X3_isWorld {n s : Nat} {C : CV} (hn : n ≤ 6) (hR : Rg n C) (hs : s < 2 ^ n) {post : Int32 → Prop} (h1 : s ||| cr C = 2 ^ n - 1 → post 1) (h0 : ¬ s ||| cr C = 2 ^ n - 1 → post 0) : p_X3_isWorld (nI n) (nI (cr C)) (nI s) post := by
  unfold p_X3_isWorld
  have h64 := p2_6 hn
  have hr := hR.r31 hn
  have ho : s ||| cr C < 2 ^ n := Nat.or_lt_two_pow hs hR.2.2.2.2.1
  refine s_X1_everybody hn ?_
  rw [fa_or, nI_eq (by omega) (by omega)]
  exact ⟨h0, h1⟩
theorem s_X3_fitsHeard {n h s : Nat} {C : CV} {al re mo ye : Int32} {weights marks hp hi wp wi : Nat → Int32} (hn : n ≤ 6) (hR : Rg n C) (hC : Crt n C al re mo ye weights marks) (hH : HeardR h hp hi wp wi) (hs : s < 2 ^ n) {post : Int32 → Prop} (h1 : fitsB n C h wp wi s = true → post 1) (h0 : fitsB n C h wp wi s = false → post 0) : p_X3_fitsHeard (nI h) (nI n) weights marks hp hi (nI s) post := by
  unfold p_X3_fitsHeard
  have h64 := p2_6 hn
  obtain ⟨h6, hH⟩ := hH
  have hfl := fr_lt n C s
  refine sX_fair hn hR hC (by omega) ?_
  refine wle_cnt h (fun i (v : Int32) => v = nI i ∧ ∀ j, j < i → fitJ n (fr n C s) (wp j) (wi j) = true) ?_ _ 0 (Nat.zero_le _) ⟨rfl, fun j hj => by omega⟩
  rintro rec i l3 hi ⟨e3, hv⟩ hrec
  subst e3
  unfold b_X3_fitsHeard_11
  rw [nI_leI (by omega) (by omega)]
  refine ⟨fun hni => ?_, fun hni => ⟨vp_in_nI (by omega) (by omega), fun x25 e25 => ?_⟩⟩
  · have e : i = h := by omega
    subst e
    exact h1 (decide_eq_true hv)
  · obtain ⟨ep, ei, ⟨p0, hp6, e0⟩, hb⟩ := hH i (by omega)
    rw [ix_nI (by omega)] at e25 ⊢
    rw [ep] at e25
    subst e25
    rw [ei]
    have go : fitJ n (fr n C s) (wp i) (wi i) = true → ∀ x65 : Int32, x65 = nI i + 1 → rec x65 := fun q x ex => by
      rw [nI_1] at ex
      refine hrec (by omega) _ ⟨ex, fun j hj => ?_⟩
      rcases lt_succ_cases hj with e | rfl
      · exact hv j e
      · exact q
    have no : ¬ fitJ n (fr n C s) (wp i) (wi i) = true → post 0 := fun q => h0 (by
      unfold fitsB
      rw [decide_eq_false]
      exact fun h => q (h i (by omega)))
    refine s_X1_has (by omega) (fun p hp ep => ⟨fun h => absurd h (by decide), fun _ => ?_⟩) (fun hno => ⟨fun _ => go (decide_eq_true fun p hp e => absurd e (hno p hp)), fun h => absurd rfl h⟩)
    rw [ep, q_has (by omega) (by omega)]
    have uniq : ∀ q, q < n → nI p = nI q → q = p := fun q hq e => by
      rw [nI_eq (by omega) (by omega)] at e; omega
    refine ⟨fun g => ⟨vp_in_nI (by omega) (by omega), fun g2 => go ?_, fun g2 => no fun q => ?_⟩, fun g => ⟨vp_in_nI (by omega) (by omega), fun g2 => go ?_, fun g2 => no fun q => ?_⟩⟩
    · refine decide_eq_true fun q hq e => ?_
      rw [ep] at e
      rw [uniq q hq e, ← g2]
      exact ⟨fun h => absurd h g, fun h => absurd h (by decide)⟩
    · have := (of_decide_eq_true q) p hp ep
      rcases hb with hb | hb
      · exact g2 hb.symm
      · exact g (this.mpr hb)
    · refine decide_eq_true fun q hq e => ?_
      rw [ep] at e
      rw [uniq q hq e]
      exact ⟨fun _ => g2.symm, fun _ => g⟩
    · have := (of_decide_eq_true q) p hp ep
      exact g2 (this.mp g).symm
theorem s_X3_countWorlds {n h b : Nat} {C : CV} {al re mo ye : Int32} {weights marks hp hi wp wi : Nat → Int32} (hn : n ≤ 6) (hR : Rg n C) (hC : Crt n C al re mo ye weights marks) (hH : HeardR h hp hi wp wi) (hb : b < 2 ^ 31) {post : Int32 → Prop} (h1 : post (nI (cnt (fun s => decide (s &&& b = b) && Wd n C h wp wi s) (2 ^ n)))) : p_X3_countWorlds (nI h) (nI n) re weights marks hp hi (nI b) post := by
  unfold p_X3_countWorlds
  have h64 := p2_6 hn
  have hpos : 0 < 2 ^ n := Nat.pow_pos (by decide)
  refine wle_cnt (2 ^ n) (fun i (v : Int32 × Int32) => v.1 = nI (cnt (fun s => decide (s &&& b = b) && Wd n C h wp wi s) i) ∧ v.2 = nI i) ?_ _ 0 (Nat.zero_le _) ⟨rfl, rfl⟩
  rintro rec i ⟨l2, l3⟩ hi ⟨e2, e3⟩ hrec
  dsimp only at e2 e3
  subst e2 e3
  unfold b_X3_countWorlds_4
  refine s_X1_everybody hn ?_
  have hand : i &&& b ≤ i := Nat.and_le_left
  rw [nI_ltI (by omega) (by omega), fa_and, nI_eq (by omega) (by omega), hC.2.1]
  have skip : (decide (i &&& b = b) && Wd n C h wp wi i) = false → i < 2 ^ n → ∀ x41 : Int32, x41 = nI i + 1 → rec (nI (cnt (fun s => decide (s &&& b = b) && Wd n C h wp wi s) i), x41) := fun q hlt x ex => by
    rw [nI_1] at ex
    exact hrec hlt _ ⟨by rw [cnt_f q], ex⟩
  refine ⟨fun hni => ?_, fun hni => ⟨fun g => skip (by simp [g]) (by omega), fun g => ?_⟩⟩
  · have e : i = 2 ^ n := by omega
    subst e
    exact h1
  · refine s_X3_isWorld hn hR (by omega) (fun g2 => ⟨fun h => absurd h (by decide), fun _ => ?_⟩) (fun g2 => ⟨fun _ => skip (by simp [Wd, g2]) (by omega), fun h => absurd rfl h⟩)
    refine s_X3_fitsHeard hn hR hC hH (by omega) (fun g3 => ⟨fun h => absurd h (by decide), fun _ x38 e38 x41 e41 => ?_⟩) (fun g3 => ⟨fun _ => skip (by simp [Wd, g3]) (by omega), fun h => absurd rfl h⟩)
    rw [nI_1] at e38 e41
    exact hrec (by omega) _ ⟨by rw [cnt_t (by simp [Wd, g, g2, g3])]; exact e38, e41⟩
theorem cnt0 {n h : Nat} {C : CV} {wp wi : Nat → Int32} : (fun s => decide (s &&& 0 = 0) && Wd n C h wp wi s) = Wd n C h wp wi := funext fun s => by simp
theorem s_X3_worlds {n h : Nat} {C : CV} {al re mo ye : Int32} {weights marks hp hi wp wi : Nat → Int32} (hn : n ≤ 6) (hR : Rg n C) (hC : Crt n C al re mo ye weights marks) (hH : HeardR h hp hi wp wi) {l1 : Int32} {post : Int32 → Prop} (h0 : l1 = 0 → post (nI (cnt (Wd n C h wp wi) (2 ^ n)))) (h1 : l1 = 1 → cnt (Wd n C h wp wi) (2 ^ n) = 0 → post (-9)) (h2 : l1 = 1 → cnt (Wd n C h wp wi) (2 ^ n) ≠ 0 → post (nI (andW (Wd n C h wp wi) (2 ^ n - 1) (2 ^ n)))) (hd : ¬ l1 = 0 → ¬ l1 = 1 → post (-2)) : p_X3_worlds (nI h) (nI n) re weights marks hp hi l1 post := by
  unfold p_X3_worlds
  have h64 := p2_6 hn
  have hpos : 0 < 2 ^ n := Nat.pow_pos (by decide)
  refine ⟨fun g0 => ⟨fun g1 => ?_, fun g1 => hd g0 g1⟩, fun g0 => ?_⟩
  · refine s_X1_everybody hn ?_
    refine wle_cnt (2 ^ n) (fun i (v : Int32 × Int32 × Int32) => v.1 = nI (andW (Wd n C h wp wi) (2 ^ n - 1) i) ∧ v.2.1 = (if cnt (Wd n C h wp wi) i = 0 then 0 else 1) ∧ v.2.2 = nI i) ?_ _ 0 (Nat.zero_le _) ⟨rfl, rfl, rfl⟩
    rintro rec i ⟨l2, l3, l4⟩ hi ⟨e2, e3, e4⟩ hrec
    dsimp only at e2 e3 e4 ⊢
    subst e2 e3 e4
    unfold b_X3_worlds_31
    refine s_X1_everybody hn ?_
    rw [nI_ltI (by omega) (by omega), hC.2.1]
    have skip : Wd n C h wp wi i = false → i < 2 ^ n → ∀ x41 : Int32, x41 = nI i + 1 → rec (nI (andW (Wd n C h wp wi) (2 ^ n - 1) i), (if cnt (Wd n C h wp wi) i = 0 then 0 else 1), x41) := fun q hlt x ex => by
      rw [nI_1] at ex
      exact hrec hlt _ ⟨by rw [andW_f q], by rw [cnt_f q], ex⟩
    refine ⟨fun hni => ?_, fun hni => ?_⟩
    · have e : i = 2 ^ n := by omega
      subst e
      by_cases q : cnt (Wd n C h wp wi) (2 ^ n) = 0
      · rw [if_pos q]; exact ⟨fun _ => h1 g1 q, fun h => absurd rfl h⟩
      · rw [if_neg q]; exact ⟨fun h => absurd h (by decide), fun _ => h2 g1 q⟩
    · refine s_X3_isWorld hn hR (by omega) (fun g2 => ⟨fun h => absurd h (by decide), fun _ => ?_⟩) (fun g2 => ⟨fun _ => skip (by simp [Wd, g2]) (by omega), fun h => absurd rfl h⟩)
      refine s_X3_fitsHeard hn hR hC hH (by omega) (fun g3 => ⟨fun h => absurd h (by decide), fun _ x38 e38 x41 e41 => ?_⟩) (fun g3 => ⟨fun _ => skip (by simp [Wd, g3]) (by omega), fun h => absurd rfl h⟩)
      rw [nI_1] at e41
      rw [fa_and] at e38
      have q : Wd n C h wp wi i = true := by simp [Wd, g2, g3]
      exact hrec (by omega) _ ⟨by rw [andW_t q]; exact e38, by rw [cnt_t q]; exact (if_neg (by omega)).symm, e41⟩
  · refine s_X3_countWorlds (b := 0) hn hR hC hH (by omega) ?_
    rw [cnt0]
    exact h0 g0
theorem world_int {n s rep : Nat} (hs : s < 2 ^ n) (hr : rep < 2 ^ n) : ((((nI s) ^^^ (-1)) &&& (nI (2 ^ n - 1))) &&& ((nI rep) ^^^ (-1))) = nI (((2 ^ n - 1) ^^^ ((2 ^ n - 1) &&& s)) ^^^ (((2 ^ n - 1) ^^^ ((2 ^ n - 1) &&& s)) &&& rep)) := by
  rw [Int32.and_comm (nI s ^^^ (-1)), fa_andnot, fa_andnot]
theorem world_bits {n s rep : Nat} (hs : s < 2 ^ n) (hr : rep < 2 ^ n) : (((2 ^ n - 1) ^^^ ((2 ^ n - 1) &&& s)) ^^^ (((2 ^ n - 1) ^^^ ((2 ^ n - 1) &&& s)) &&& rep)) = 0 ↔ s ||| rep = 2 ^ n - 1 := by
  have key : ∀ i, (((2 ^ n - 1) ^^^ ((2 ^ n - 1) &&& s)) ^^^ (((2 ^ n - 1) ^^^ ((2 ^ n - 1) &&& s)) &&& rep)).testBit i = (decide (i < n) && !s.testBit i && !rep.testBit i) := by
    intro i
    simp only [Nat.testBit_xor, Nat.testBit_and, Nat.testBit_two_pow_sub_one]
    cases decide (i < n) <;> cases s.testBit i <;> cases rep.testBit i <;> rfl
  constructor
  · intro h
    apply Nat.eq_of_testBit_eq
    intro i
    have k := key i
    rw [h, Nat.zero_testBit] at k
    rw [Nat.testBit_or, Nat.testBit_two_pow_sub_one]
    have a : s.testBit i = true → i < n := tb_lt hs
    have b : rep.testBit i = true → i < n := tb_lt hr
    rcases hs1 : s.testBit i with _ | _
    · rcases hr1 : rep.testBit i with _ | _
      · rw [hs1, hr1] at k
        simpa using k
      · simpa using b hr1
    · simpa using a hs1
  · intro h
    apply Nat.eq_of_testBit_eq
    intro i
    rw [key, Nat.zero_testBit]
    have k : (s ||| rep).testBit i = decide (i < n) := by rw [h, Nat.testBit_two_pow_sub_one]
    rw [Nat.testBit_or] at k
    rw [← k]
    cases s.testBit i <;> cases rep.testBit i <;> rfl
theorem s_X4_laySets180 {n s : Nat} (hn : n ≤ 6) (hs : s < 2 ^ 31) {alives : Nat → Int32} {g : Nat → Nat} (hA : Av alives g n) {K : Int32 → (Nat → Int32) → Prop} (h : ∀ (l : Int32) (a2 : Nat → Int32), Av a2 (fun p => g p + if s.testBit p then 1 else 0) n → K l a2) : wle (fun ρ ν => b_X4_laySets_180 (nI s) (nI n) K ρ ν.1 ν.2) (0, alives) := by
  refine wle_cnt n (fun i (v : Int32 × (Nat → Int32)) => v.1 = nI i ∧ Av v.2 (fun p => if p < i then g p + (if s.testBit p then 1 else 0) else g p) n) ?_ _ 0 (Nat.zero_le _) ⟨rfl, fun k hk => (hA k hk).trans (by dsimp only; rw [if_neg (by omega)])⟩
  rintro rec i ⟨l5, av⟩ hi ⟨e5, hv⟩ hrec
  dsimp only at e5 hv ⊢
  subst e5
  unfold b_X4_laySets_180
  rw [nI_leI (by omega) (by omega), ix_nI (by omega)]
  refine ⟨fun hni => ?_, fun hni => ⟨vp_in_nI (by omega) (by omega), ?_⟩⟩
  · have e : i = n := by omega
    subst e
    exact h _ _ (fun k hk => (hv k hk).trans (by dsimp only; rw [if_pos hk]))
  · have e0 := hv i (by omega)
    dsimp only at e0
    rw [if_neg (by omega)] at e0
    have fin : ∀ z : Nat, z = g i + (if s.testBit i then 1 else 0) → ∀ x x2 : Int32, x = nI z → x2 = nI i + 1 → rec (x2, upd av i x) := fun z ez x x2 ex ex2 => by
      rw [nI_1] at ex2
      refine hrec (by omega) _ ⟨ex2, fun k hk => ?_⟩
      show upd av _ _ k = nI (if _ then _ else _)
      rw [upd_at]
      by_cases ek : k = i
      · rw [if_pos ek, if_pos (by omega), ek, ex, ez]
      · rw [if_neg ek]
        refine (hv k hk).trans ?_
        dsimp only
        by_cases q : k < i
        · rw [if_pos q, if_pos (show k < i + 1 by omega)]
        · rw [if_neg q, if_neg (show ¬ k < i + 1 by omega)]
    refine s_X4_has hs (by omega) (fun hb => ⟨fun h => absurd h (by decide), fun _ x ex => ⟨vp_in_nI (by omega) (by omega), fun x2 ex2 => ?_⟩⟩) (fun hb => ⟨fun _ x ex => ⟨vp_in_nI (by omega) (by omega), fun x2 ex2 => ?_⟩, fun h => absurd rfl h⟩)
    · rw [e0, nI_1] at ex
      exact fin _ (by rw [if_pos hb]) x x2 ex ex2
    · rw [e0, show (0 : Int32) = nI 0 from rfl, nI_add] at ex
      exact fin _ (by rw [hb]; rfl) x x2 ex ex2
theorem s_X4_laySets92 {n h s : Nat} {C : CV} {hp hi wp wi : Nat → Int32} (hn : n ≤ 6) (hH : HeardR h hp hi wp wi) {l0 : Int32} {K : Int32 → Int32 → Prop} (h1 : l0 = 1 → fitsB n C h wp wi s = true → ∀ l5, K 1 l5) (h0 : (l0 = 0 ∨ fitsB n C h wp wi s = false) → ∀ l5, K 0 l5) (hl : l0 = 0 ∨ l0 = 1) : wle (fun ρ ν => b_X4_laySets_92 (nI (fr n C s)) (nI n) (nI h) wp wi K ρ ν.1 ν.2) (l0, 0) := by
  obtain ⟨h6, hH⟩ := hH
  have h64 := p2_6 hn
  have hfl := fr_lt n C s
  refine wle_cnt h (fun i (v : Int32 × Int32) => v.2 = nI i ∧ ((v.1 = 0 ∧ (l0 = 0 ∨ fitsB n C h wp wi s = false)) ∨ (v.1 = 1 ∧ l0 = 1 ∧ ∀ j, j < i → fitJ n (fr n C s) (wp j) (wi j) = true))) ?_ _ 0 (Nat.zero_le _) ⟨rfl, ?_⟩
  · rintro rec i ⟨l3, l5⟩ hi ⟨e5, hv⟩ hrec
    dsimp only at e5 hv ⊢
    subst e5
    unfold b_X4_laySets_92
    rw [nI_leI (by omega) (by omega), ix_nI (by omega)]
    rcases hv with ⟨e3, hv⟩ | ⟨e3, e0, hv⟩
    · subst e3
      exact ⟨fun _ => h0 hv _, fun _ => ⟨fun _ => h0 hv _, fun h => absurd rfl h⟩⟩
    · subst e3
      refine ⟨fun hni => ?_, fun hni => ⟨fun h => absurd h (by decide), fun _ => ?_⟩⟩
      · have e : i = h := by omega
        subst e
        exact h1 e0 (decide_eq_true hv) _
      · obtain ⟨-, -, ⟨p, hp6, ep⟩, hb⟩ := hH i (by omega)
        rw [ep, nI_leI (by omega) (by omega)]
        have go : fitJ n (fr n C s) (wp i) (wi i) = true → ∀ x65 : Int32, x65 = nI i + 1 → rec (1, x65) := fun q x ex => by
          rw [nI_1] at ex
          refine hrec (by omega) _ ⟨ex, Or.inr ⟨rfl, e0, fun j hj => ?_⟩⟩
          rcases lt_succ_cases hj with e | rfl
          · exact hv j e
          · exact q
        have no : ¬ fitJ n (fr n C s) (wp i) (wi i) = true → ∀ x65 : Int32, x65 = nI i + 1 → rec (0, x65) := fun q x ex => by
          rw [nI_1] at ex
          refine hrec (by omega) _ ⟨ex, Or.inl ⟨rfl, Or.inr ?_⟩⟩
          unfold fitsB
          rw [decide_eq_false]
          exact fun h => q (h i (by omega))
        have uniq : ∀ q, q < n → nI p = nI q → q = p := fun q hq e => by
          rw [nI_eq (by omega) (by omega)] at e; omega
        refine ⟨vp_in_nI (by omega) (by omega), fun g => go (decide_eq_true fun q hq e => ?_), fun g => ⟨vp_in_nI (by omega) (by omega), ?_⟩⟩
        · rw [ep] at e
          have := uniq q hq e
          omega
        · refine s_X4_has (by omega) (by omega) (fun gb => ⟨vp_in_nI (by omega) (by omega), fun g2 => no fun q => ?_, fun g2 => go (decide_eq_true fun q hq e => ?_)⟩) (fun gb => ⟨vp_in_nI (by omega) (by omega), fun g2 => no fun q => ?_, fun g2 => go (decide_eq_true fun q hq e => ?_)⟩)
          · have := (of_decide_eq_true q) p (by omega) ep
            exact g2 (this.mp gb).symm
          · rw [ep] at e
            rw [uniq q hq e]
            exact ⟨fun _ => g2.symm, fun _ => gb⟩
          · have := (of_decide_eq_true q) p (by omega) ep
            rcases hb with hb | hb
            · exact g2 hb.symm
            · have := this.mpr hb
              rw [gb] at this; cases this
          · rw [ep] at e
            rw [uniq q hq e, ← g2, gb]
            exact ⟨fun h => absurd h (by decide), fun h => absurd h (by decide)⟩
  · rcases hl with hl | hl
    · exact Or.inl ⟨hl, Or.inl hl⟩
    · exact Or.inr ⟨hl, hl, fun j hj => by omega⟩
def alW (n : Nat) (C : CV) (h : Nat) (wp wi : Nat → Int32) (i : Nat) : Nat → Nat := fun p => cnt (fun t => decide (t &&& 2 ^ p = 2 ^ p) && Wd n C h wp wi t) i
theorem and_bit (s p : Nat) : s &&& 2 ^ p = 2 ^ p ↔ s.testBit p = true := by
  constructor
  · intro h
    have : (s &&& 2 ^ p).testBit p = true := by rw [h, Nat.testBit_two_pow_self]
    rw [Nat.testBit_and] at this
    simpa using this
  · intro h
    apply Nat.eq_of_testBit_eq
    intro i
    rw [Nat.testBit_and, Nat.testBit_two_pow]
    by_cases e : p = i
    · subst e; simp [h]
    · simp [e]
theorem s_X4_laySets {n h : Nat} {C : CV} {page hp hi wp wi alives : Nat → Int32} (hn : n ≤ 6) (hR : Rg n C) (hC : Row n C page) (hH : HeardR h hp hi wp wi) {x1 x2 : Int32} {post : Int32 → Int32 → (Nat → Int32) → Prop} (h1 : ∀ a2 : Nat → Int32, Av a2 (alW n C h wp wi (2 ^ n)) n → post (nI (cnt (Wd n C h wp wi) (2 ^ n))) (nI (andW (Wd n C h wp wi) (2 ^ n - 1) (2 ^ n))) a2) : p_X4_laySets (nI n) (nI h) x1 x2 page wp wi alives post := by
  unfold p_X4_laySets
  have h64 := p2_6 hn
  have hpos : 0 < 2 ^ n := Nat.pow_pos (by decide)
  rw [q_all hn]
  intro x8 e8
  subst e8
  refine wle_cnt 6 (fun i (v : Int32 × (Nat → Int32)) => v.1 = nI i ∧ ∀ k, k < i → v.2 k = 0) ?_ _ 0 (Nat.zero_le _) ⟨rfl, fun k hk => by omega⟩
  rintro rec0 i ⟨l2, kv⟩ hi ⟨e2, hv⟩ hrec0
  dsimp only at e2 hv ⊢
  subst e2
  unfold b_X4_laySets_21
  rw [show (6 : Int32) = nI 6 from rfl, nI_leI (by omega) (by omega)]
  refine ⟨fun hni => ?_, fun hni => ⟨vp_in_nI (by omega) (by omega), fun x ex => ?_⟩⟩
  · have ei : i = 6 := by omega
    subst ei
    refine wle_cnt (2 ^ n) (fun i (v : Int32 × Int32 × Int32 × (Nat → Int32)) => v.1 = nI i ∧ v.2.1 = nI (cnt (Wd n C h wp wi) i) ∧ v.2.2.1 = nI (andW (Wd n C h wp wi) (2 ^ n - 1) i) ∧ Av v.2.2.2 (alW n C h wp wi i) n) ?_ _ 0 (Nat.zero_le _) ⟨rfl, rfl, rfl, fun k hk => hv k (by omega)⟩
    rintro rec i ⟨l2, st, su, av⟩ hi ⟨e2, e3, e4, hav⟩ hrec
    dsimp only at e2 e3 e4 hav ⊢
    subst e2 e3 e4
    unfold b_X4_laySets_42
    rw [nI_ltI (by omega) (by omega), show ix 22 = 22 from rfl, hC.2.2.2.1]
    refine ⟨fun hni => ?_, fun hni => ?_⟩
    · have e : i = 2 ^ n := by omega
      subst e
      exact h1 _ hav
    · have hi2 : i < 2 ^ n := by omega
      have hcond : ((((nI i) ^^^ (-1)) &&& (nI (2 ^ n - 1))) &&& ((nI (cr C)) ^^^ (-1))) = 0 ↔ i ||| cr C = 2 ^ n - 1 := by
        have hx : (((2 ^ n - 1) ^^^ ((2 ^ n - 1) &&& i)) ^^^ (((2 ^ n - 1) ^^^ ((2 ^ n - 1) &&& i)) &&& cr C)) < 2 ^ n := by
          have a : (2 ^ n - 1) ^^^ ((2 ^ n - 1) &&& i) < 2 ^ n := Nat.xor_lt_two_pow (by omega) (Nat.lt_of_le_of_lt Nat.and_le_left (by omega))
          exact Nat.xor_lt_two_pow a (Nat.lt_of_le_of_lt Nat.and_le_left a)
        rw [world_int hi2 hR.2.2.2.2.1, ← world_bits hi2 hR.2.2.2.2.1]
        exact nI_eq (b := 0) (by omega) (by omega)
      rw [hcond]
      have fin : ∀ l0 : Int32, (l0 = 0 ∧ ¬ i ||| cr C = 2 ^ n - 1) ∨ (l0 = 1 ∧ i ||| cr C = 2 ^ n - 1) → p_X4_weightsOf page (fun (r81 : Int32) => p_X4_fairestOf (nI n) page (nI i) r81 (fun (r84 : Int32) => wle (fun ρ ν => b_X4_laySets_92 r84 (nI n) (nI h) wp wi (fun (l3_92 : Int32) (l5_92 : Int32) => ((l3_92 = 0 → (∀ x219 : Int32, x219 = nI i + 1 → rec (x219, nI (cnt (Wd n C h wp wi) i), nI (andW (Wd n C h wp wi) (2 ^ n - 1) i), av))) ∧ (¬ l3_92 = 0 → (∀ x164 : Int32, x164 = (nI (cnt (Wd n C h wp wi) i) + 1) → (∀ x174 : Int32, x174 = (nI (andW (Wd n C h wp wi) (2 ^ n - 1) i) &&& nI i) → wle (fun ρ ν => b_X4_laySets_180 (nI i) (nI n) (fun (l5_180 : Int32) (v_alives_180 : Nat → Int32) => (∀ x219 : Int32, x219 = nI i + 1 → rec (x219, x164, x174, v_alives_180))) ρ ν.1 ν.2) (0, av)))))) ρ ν.1 ν.2) (l0, 0))) := fun l0 hl0 => by
        refine sM_weightsOf hC ?_
        refine sM_fair hn hR hC (by omega) ?_
        refine s_X4_laySets92 hn hH (fun q1 q2 l5 => ⟨fun h => absurd h (by decide), fun _ x164 e164 x174 e174 => ?_⟩) (fun q l5 => ⟨fun _ x ex => ?_, fun h => absurd rfl h⟩) (by rcases hl0 with h | h; exact Or.inl h.1; exact Or.inr h.1)
        · have hW : Wd n C h wp wi i = true := by
            have : i ||| cr C = 2 ^ n - 1 := by
              rcases hl0 with h | h
              · rw [h.1] at q1; exact absurd q1 (by decide)
              · exact h.2
            simp [Wd, this, q2]
          rw [nI_1] at e164
          rw [fa_and] at e174
          refine s_X4_laySets180 hn (by omega) hav (fun l a2 qa x ex => ?_)
          rw [nI_1] at ex
          refine hrec hi2 _ ⟨ex, by rw [cnt_t hW]; exact e164, by rw [andW_t hW]; exact e174, fun k hk => (qa k hk).trans ?_⟩
          unfold alW
          dsimp only
          by_cases hb : i.testBit k = true
          · rw [cnt_t (k := i) (by rw [hW]; simp [(and_bit i k).mpr hb]), if_pos hb]
          · rw [cnt_f (k := i) (by rw [hW]; simp [hb, and_bit i k]), if_neg hb]; rfl
        · have hW : Wd n C h wp wi i = false := by
            rcases q with q | q
            · have : ¬ i ||| cr C = 2 ^ n - 1 := by
                rcases hl0 with h | h
                · exact h.2
                · rw [h.1] at q; exact absurd q (by decide)
              simp [Wd, this]
            · simp [Wd, q]
          rw [nI_1] at ex
          refine hrec hi2 _ ⟨ex, by rw [cnt_f hW], by rw [andW_f hW], fun k hk => (hav k hk).trans ?_⟩
          unfold alW
          rw [cnt_f (k := i) (by rw [hW]; simp)]
      exact ⟨fun g => fin 0 (Or.inl ⟨rfl, g⟩), fun g => fin 1 (Or.inr ⟨rfl, g⟩)⟩
  · rw [nI_1] at ex
    rw [ix_nI (by omega)]
    refine hrec0 (by omega) _ ⟨ex, fun k hk => ?_⟩
    show upd kv _ _ k = 0
    rw [upd_at]
    by_cases ek : k = i
    · rw [if_pos ek]
    · rw [if_neg ek]; exact hv k (by omega)
theorem s_X4_worlds {n h : Nat} {C : CV} {th x1 x2 : Int32} {page hp hi wp wi alives : Nat → Int32} (hn : n ≤ 6) (hR : Rg n C) (hC : Row n C page) (hH : HeardR h hp hi wp wi) {l1 : Int32} {post : Int32 → Int32 → Int32 → Int32 → (Nat → Int32) → Prop} (h0 : l1 = 0 → ∀ st su a2, post (nI (cnt (Wd n C h wp wi) (2 ^ n))) 0 st su a2) (h1 : l1 = 1 → cnt (Wd n C h wp wi) (2 ^ n) = 0 → ∀ st su a2, post (-9) 0 st su a2) (h2 : l1 = 1 → cnt (Wd n C h wp wi) (2 ^ n) ≠ 0 → ∀ st su a2, post (nI (andW (Wd n C h wp wi) (2 ^ n - 1) (2 ^ n))) 0 st su a2) (hd : ¬ l1 = 0 → ¬ l1 = 1 → ∀ st su a2, post (-2) 0 st su a2) : p_X4_worlds th (nI n) (nI h) x1 x2 page wp wi alives l1 post := by
  unfold p_X4_worlds
  have e0 : (0 : Int64).toInt = 0 := rfl
  have e1 : (1 : Int64).toInt = 1 := rfl
  have z0 : (0 : Int32).toInt = 0 := rfl
  have z1 : (1 : Int32).toInt = 1 := rfl
  have h64 := p2_6 hn
  refine s_X4_in (fun g1 g2 => ⟨fun _ => ?_, fun h => absurd h (by decide)⟩) (fun g => ⟨fun h => absurd rfl h, fun _ => hd (fun e => g ?_) (fun e => g ?_) _ _ _⟩)
  · rw [Int32.toInt_toInt64, e0] at g1
    rw [Int32.toInt_toInt64, e1] at g2
    refine s_X4_laySets hn hR hC hH (fun a2 q => ?_)
    have hc := cnt_le (Wd n C h wp wi) (2 ^ n)
    have c0 : nI (cnt (Wd n C h wp wi) (2 ^ n)) = 0 ↔ cnt (Wd n C h wp wi) (2 ^ n) = 0 := nI_eq (b := 0) (by omega) (by omega)
    rw [c0]
    refine ⟨fun g => ?_, fun g => h0 g _ _ _⟩
    have e : l1 = 1 := by
      rw [fa_eq, z0] at g
      rw [fa_eq, z1]; omega
    exact ⟨fun q => h2 e q _ _ _, fun q => h1 e q _ _ _⟩
  · rw [e, Int32.toInt_toInt64, e0, e1, z0]; omega
  · rw [e, Int32.toInt_toInt64, e0, e1, z1]; omega
