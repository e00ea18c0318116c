/-! whom to ask; answers -/
/-- the first among the reported for whom the lesser part is greatest: who, and how much -/
def bestAsk (rep : Nat) (lo : Nat → Nat) : Nat → Option (Nat × Nat)
  | 0 => none
  | k + 1 => if rep.testBit k = true ∧ (∀ x, bestAsk rep lo k = some x → x.2 < lo k) then some (k, lo k) else bestAsk rep lo k
def askI (z : Int32) (o : Option (Nat × Nat)) : Int32 := match o with
  | none => z
  | some x => nI x.1
def askM (z : Int32) (o : Option (Nat × Nat)) : Int32 := match o with
  | none => z
  | some x => nI x.2
theorem bestAsk_skip {rep k : Nat} {lo : Nat → Nat} (h : rep.testBit k = false ∨ ∃ x, bestAsk rep lo k = some x ∧ lo k ≤ x.2) : bestAsk rep lo (k + 1) = bestAsk rep lo k := by
  simp only [bestAsk]
  rw [if_neg]
  rintro ⟨h1, h2⟩
  rcases h with h | ⟨x, hx, hl⟩
  · rw [h1] at h; cases h
  · have := h2 x hx; omega
theorem bestAsk_take {rep k : Nat} {lo : Nat → Nat} (h : rep.testBit k = true) (h2 : ∀ x, bestAsk rep lo k = some x → x.2 < lo k) : bestAsk rep lo (k + 1) = some (k, lo k) := by
  simp only [bestAsk]
  rw [if_pos ⟨h, h2⟩]
theorem bestAsk_lt {rep : Nat} {lo : Nat → Nat} {B : Nat} (hB : ∀ k, lo k < B) : ∀ k x, bestAsk rep lo k = some x → x.2 < B
  | 0, x, h => by simp [bestAsk] at h
  | k + 1, x, h => by
    simp only [bestAsk] at h
    split at h
    · cases h; exact hB k
    · exact bestAsk_lt hB k x h
/-- comparing with what was best so far -/
theorem ask_cmp {rep k : Nat} {lo : Nat → Nat} {z : Int32} (hz : z.toInt < 0) (hB : ∀ k, lo k < 2 ^ 31) : nI (lo k) ≤ askM z (bestAsk rep lo k) ↔ ∃ x, bestAsk rep lo k = some x ∧ lo k ≤ x.2 := by
  have h1 := hB k
  rcases h : bestAsk rep lo k with _ | x
  · show nI (lo k) ≤ z ↔ _
    rw [fa_le, nI_toInt h1]
    constructor
    · intro q; omega
    · rintro ⟨x, hx, -⟩; cases hx
  · show nI (lo k) ≤ nI x.2 ↔ _
    rw [nI_leI h1 (bestAsk_lt hB k x h)]
    constructor
    · intro q; exact ⟨x, rfl, q⟩
    · rintro ⟨y, hy, q⟩; cases hy; exact q
def loW (n : Nat) (C : CV) (h : Nat) (wp wi : Nat → Int32) (p : Nat) : Nat := min (alW n C h wp wi (2 ^ n) p) (cnt (Wd n C h wp wi) (2 ^ n) - alW n C h wp wi (2 ^ n) p)
theorem alW_le (n : Nat) (C : CV) (h : Nat) (wp wi : Nat → Int32) (i p : Nat) : alW n C h wp wi i p ≤ cnt (Wd n C h wp wi) i := cnt_mono (fun s q => by simp at q; exact q.2) i
theorem loW_lt {n : Nat} (hn : n ≤ 6) (C : CV) (h : Nat) (wp wi : Nat → Int32) (p : Nat) : loW n C h wp wi p < 2 ^ 31 := by
  have h64 := p2_6 hn
  have h1 := alW_le n C h wp wi (2 ^ n) p
  have h2 := cnt_le (Wd n C h wp wi) (2 ^ n)
  unfold loW
  omega
theorem s_X3_toAsk {n h : Nat} {C : CV} {al re mo ye : Int32} {weights marks hp hi wp wi : Nat → Int32} (hn : n ≤ 6) (hR : Rg n C) (hC : Crt n C al re mo ye weights marks) (hH : HeardR h hp hi wp wi) {post : Int32 → Prop} (h0 : cnt (Wd n C h wp wi) (2 ^ n) = 0 → post (-9)) (h1 : cnt (Wd n C h wp wi) (2 ^ n) ≠ 0 → post (askI (-9) (bestAsk (cr C) (loW n C h wp wi) n))) : p_X3_toAsk (nI h) (nI n) re weights marks hp hi post := by
  unfold p_X3_toAsk
  have h64 := p2_6 hn
  have hcl := cnt_le (Wd n C h wp wi) (2 ^ n)
  refine s_X3_countWorlds (b := 0) hn hR hC hH (by omega) ?_
  rw [cnt0]
  have c0 : nI (cnt (Wd n C h wp wi) (2 ^ n)) = 0 ↔ cnt (Wd n C h wp wi) (2 ^ n) = 0 := nI_eq (b := 0) (by omega) (by omega)
  rw [c0]
  refine ⟨fun g0 => ?_, h0⟩
  refine wle_cnt n (fun i (v : Int32 × Int32 × Int32) => v.1 = askI (-9) (bestAsk (cr C) (loW n C h wp wi) i) ∧ v.2.1 = askM (-1) (bestAsk (cr C) (loW n C h wp wi) i) ∧ v.2.2 = nI i) ?_ _ 0 (Nat.zero_le _) ⟨rfl, rfl, rfl⟩
  rintro rec i ⟨l2, l3, l4⟩ hi ⟨e2, e3, e4⟩ hrec
  dsimp only at e2 e3 e4 ⊢
  subst e2 e3 e4
  unfold b_X3_toAsk_21
  rw [nI_leI (by omega) (by omega)]
  refine ⟨fun hni => ?_, fun hni => ?_⟩
  · have e : i = n := by omega
    subst e
    exact h1 g0
  · rw [hC.2.1]
    refine s_X1_isReported (hR.r31 hn) (by omega) (fun hb => ⟨fun h => absurd h (by decide), fun _ => ?_⟩) (fun hb => ⟨fun _ x ex => ?_, fun h => absurd rfl h⟩)
    · rw [q_shl1 (by omega)]
      have hp31 : 2 ^ i < 2 ^ 31 := Nat.pow_lt_pow_right (by decide) (by omega)
      rw [← hC.2.1]
      refine s_X3_countWorlds hn hR hC hH hp31 ?_
      have ha := alW_le n C h wp wi (2 ^ n) i
      show ∀ x64 : Int32, x64 = jmin (nI (alW n C h wp wi (2 ^ n) i)) (nI (cnt (Wd n C h wp wi) (2 ^ n)) - nI (alW n C h wp wi (2 ^ n) i)) → _
      intro x64 e64
      rw [pk_sub ha, jmin_nI (by omega) (by omega)] at e64
      have e64' : x64 = nI (loW n C h wp wi i) := e64
      rw [e64', ask_cmp (by decide) (loW_lt hn C h wp wi)]
      refine ⟨fun q x ex => ?_, fun q x ex => ?_⟩
      · rw [nI_1] at ex
        refine hrec (by omega) _ ⟨?_, ?_, ex⟩
        · rw [bestAsk_skip (Or.inr q)]
        · rw [bestAsk_skip (Or.inr q)]
      · rw [nI_1] at ex
        have q2 : ∀ y, bestAsk (cr C) (loW n C h wp wi) i = some y → y.2 < loW n C h wp wi i := fun y hy => by
          rcases Nat.lt_or_ge y.2 (loW n C h wp wi i) with z | z
          · exact z
          · exact absurd ⟨y, hy, z⟩ q
        refine hrec (by omega) _ ⟨?_, ?_, ex⟩
        · rw [bestAsk_take hb q2]; rfl
        · rw [bestAsk_take hb q2]; rfl
    · rw [nI_1] at ex
      refine hrec (by omega) _ ⟨?_, ?_, ex⟩
      · rw [bestAsk_skip (Or.inl hb)]
      · rw [bestAsk_skip (Or.inl hb)]
theorem s_X4_toAsk {n h : Nat} {C : CV} {th x1 x2 : Int32} {page hp hi wp wi alives : Nat → Int32} (hn : n ≤ 6) (hR : Rg n C) (hC : Row n C page) (hH : HeardR h hp hi wp wi) {post : Int32 → Int32 → Int32 → Int32 → (Nat → Int32) → Prop} (h0 : cnt (Wd n C h wp wi) (2 ^ n) = 0 → ∀ st su a2, post (-9) 0 st su a2) (h1 : cnt (Wd n C h wp wi) (2 ^ n) ≠ 0 → ∀ st su a2, post (askI (-9) (bestAsk (cr C) (loW n C h wp wi) n)) 0 st su a2) : p_X4_toAsk th (nI n) (nI h) x1 x2 page wp wi alives post := by
  unfold p_X4_toAsk
  have h64 := p2_6 hn
  have hcl := cnt_le (Wd n C h wp wi) (2 ^ n)
  refine s_X4_laySets hn hR hC hH (fun a2 hA => ?_)
  refine wle_cnt n (fun i (v : Int32 × Int32 × Int32) => v.1 = askI (-9) (bestAsk (cr C) (loW n C h wp wi) i) ∧ v.2.1 = askM (-9) (bestAsk (cr C) (loW n C h wp wi) i) ∧ v.2.2 = nI i ∧ (cnt (Wd n C h wp wi) (2 ^ n) = 0 → i = 0)) ?_ _ 0 (Nat.zero_le _) ⟨rfl, rfl, rfl, fun _ => rfl⟩
  rintro rec i ⟨l2, l3, l4⟩ hi ⟨e2, e3, e4, hz⟩ hrec
  dsimp only at e2 e3 e4 ⊢
  subst e2 e3 e4
  unfold b_X4_toAsk_17
  have c0 : nI (cnt (Wd n C h wp wi) (2 ^ n)) ≤ 0 ↔ cnt (Wd n C h wp wi) (2 ^ n) ≤ 0 := nI_leI (b := 0) (by omega) (by omega)
  rw [nI_leI (by omega) (by omega), c0]
  refine ⟨fun hni => ?_, fun hni => ⟨fun g0 => ?_, fun g0 => ⟨vp_in_nI (by omega) (by omega), vp_in_nI (by omega) (by omega), ?_⟩⟩⟩
  · have e : i = n := by omega
    subst e
    by_cases q : cnt (Wd i C h wp wi) (2 ^ i) = 0
    · have := hz q
      rw [this]
      exact h0 q _ _ _
    · exact h1 q _ _ _
  · have := hz (by omega)
    rw [this]
    exact h0 (by omega) _ _ _
  · have ha := alW_le n C h wp wi (2 ^ n) i
    rw [ix_nI (by omega), hA i (by omega), pk_sub ha, nI_leI (by omega) (by omega), show ix 22 = 22 from rfl, hC.2.2.2.1]
    have fin : ∀ x72 : Int32, x72 = nI (loW n C h wp wi i) → p_X4_has (nI (cr C)) (nI i) (fun (r82 : Int32) => ((r82 = 0 → (∀ x99 : Int32, x99 = nI i + 1 → rec (askI (-9) (bestAsk (cr C) (loW n C h wp wi) i), askM (-9) (bestAsk (cr C) (loW n C h wp wi) i), x99))) ∧ (¬ r82 = 0 → ((x72 ≤ askM (-9) (bestAsk (cr C) (loW n C h wp wi) i) → (∀ x99 : Int32, x99 = nI i + 1 → rec (askI (-9) (bestAsk (cr C) (loW n C h wp wi) i), askM (-9) (bestAsk (cr C) (loW n C h wp wi) i), x99))) ∧ (¬ x72 ≤ askM (-9) (bestAsk (cr C) (loW n C h wp wi) i) → (∀ x99 : Int32, x99 = nI i + 1 → rec (nI i, x72, x99))))))) := fun x72 e72 => by
      refine s_X4_has (hR.r31 hn) (by omega) (fun hb => ⟨fun h => absurd h (by decide), fun _ => ?_⟩) (fun hb => ⟨fun _ x ex => ?_, fun h => absurd rfl h⟩)
      · rw [e72, ask_cmp (by decide) (loW_lt hn C h wp wi)]
        refine ⟨fun q x ex => ?_, fun q x ex => ?_⟩
        · rw [nI_1] at ex
          refine hrec (by omega) _ ⟨?_, ?_, ex, fun q => by omega⟩
          · rw [bestAsk_skip (Or.inr q)]
          · rw [bestAsk_skip (Or.inr q)]
        · rw [nI_1] at ex
          have q2 : ∀ y, bestAsk (cr C) (loW n C h wp wi) i = some y → y.2 < loW n C h wp wi i := fun y hy => by
            rcases Nat.lt_or_ge y.2 (loW n C h wp wi i) with z | z
            · exact z
            · exact absurd ⟨y, hy, z⟩ q
          refine hrec (by omega) _ ⟨?_, ?_, ex, fun q => by omega⟩
          · rw [bestAsk_take hb q2]; rfl
          · rw [bestAsk_take hb q2]; rfl
      · rw [nI_1] at ex
        refine hrec (by omega) _ ⟨?_, ?_, ex, fun q => by omega⟩
        · rw [bestAsk_skip (Or.inl hb)]
        · rw [bestAsk_skip (Or.inl hb)]
    refine ⟨fun g => ⟨vp_in_nI (by omega) (by omega), fun x ex => fin x ?_⟩, fun g => ⟨vp_in_nI (by omega) (by omega), fun x ex => fin x ?_⟩⟩
    · rw [ex]; congr 1; unfold loW; omega
    · rw [ex]; congr 1; unfold loW; omega
/-- the last that passes a test -/
def lastW (P : Nat → Bool) : Nat → Option Nat
  | 0 => none
  | k + 1 => if P k then some k else lastW P k
theorem lastW_t {P : Nat → Bool} {k : Nat} (h : P k = true) : lastW P (k + 1) = some k := by simp only [lastW]; rw [if_pos h]
theorem lastW_f {P : Nat → Bool} {k : Nat} (h : P k = false) : lastW P (k + 1) = lastW P k := by simp only [lastW]; rw [h]; rfl
def ansP (n : Nat) (C : CV) (k s : Nat) : Bool := decide (s ^^^ (s &&& ca C) = 0) && decide (fr n C (ca C) ^^^ (fr n C (ca C) &&& s) = 0) && decide (pcn s = k)
theorem pcn_le (s : Nat) : pcn s ≤ 6 := pcU_le s 6
theorem sx_lt {a b m : Nat} (h : a < 2 ^ m) : a ^^^ (a &&& b) < 2 ^ m := Nat.xor_lt_two_pow h (Nat.lt_of_le_of_lt Nat.and_le_left h)
theorem sx0 {a b m : Nat} (h : a < 2 ^ m) (hm : m ≤ 6) : (nI a &&& (nI b ^^^ (-1)) = 0) ↔ a ^^^ (a &&& b) = 0 := by
  have h1 := sx_lt (b := b) h
  have h2 := p2_6 hm
  rw [fa_andnot]
  exact nI_eq (b := 0) (by omega) (by omega)
theorem s_X3_answer {n : Nat} {C : CV} {al re mo ye : Int32} {weights marks : Nat → Int32} (hn : n ≤ 6) (hR : Rg n C) (hC : Crt n C al re mo ye weights marks) {l1 l2 : Int32} {post : Int32 → Prop} (hd : (∀ k, k < 7 → l1 ≠ nI k) → post (-2)) (h0 : ∀ k, k < 7 → l1 = nI k → l2 = 0 → post (nI (cnt (ansP n C k) (2 ^ n)))) (h1 : ∀ k, k < 7 → l1 = nI k → ¬ l2 = 0 → post (feI (-9) (lastW (ansP n C k) (2 ^ n)))) : p_X3_answer (nI n) al weights marks l1 l2 post := by
  unfold p_X3_answer
  have h64 := p2_6 hn
  have hpos : 0 < 2 ^ n := Nat.pow_pos (by decide)
  rcases ix_cases l1 (n := 7) (by omega) with ⟨k, hk, rfl⟩ | ⟨hk, hk2⟩
  · refine ⟨fun h => absurd h (nI_pos (by omega)), fun _ => ⟨fun _ => ?_, fun h => absurd ((nI_leI (b := 6) (by omega) (by omega)).mpr (show k ≤ 6 by omega)) h⟩⟩
    obtain ⟨rfl, -⟩ := id hC
    refine sX_fair hn hR hC (hR.a31 hn) ?_
    refine wle_cnt (2 ^ n) (fun i (v : Int32 × Int32 × Int32) => v.1 = nI (cnt (ansP n C k) i) ∧ v.2.1 = feI (-9) (lastW (ansP n C k) i) ∧ v.2.2 = nI i) ?_ _ 0 (Nat.zero_le _) ⟨rfl, rfl, rfl⟩
    rintro rec i ⟨l4, l5, l6⟩ hi ⟨e4, e5, e6⟩ hrec
    dsimp only at e4 e5 e6 ⊢
    subst e4 e5 e6
    unfold b_X3_answer_38
    refine s_X1_everybody hn ?_
    rw [nI_ltI (by omega) (by omega)]
    refine ⟨fun hni => ?_, fun hni => ?_⟩
    · have e : i = 2 ^ n := by omega
      subst e
      exact ⟨fun g => h0 k hk rfl g, fun g => h1 k hk rfl g⟩
    · have hi2 : i < 2 ^ n := by omega
      have skip : ansP n C k i = false → ∀ x114 : Int32, x114 = nI i + 1 → rec (nI (cnt (ansP n C k) i), feI (-9) (lastW (ansP n C k) i), x114) := fun q x ex => by
        rw [nI_1] at ex
        exact hrec hi2 _ ⟨by rw [cnt_f q], by rw [lastW_f q], ex⟩
      rw [sx0 hi2 hn, sx0 (fr_lt n C (ca C)) hn]
      refine ⟨fun g1 => ⟨fun g2 => skip (by simp [ansP, g1]), fun g2 => skip (by simp [ansP, g1])⟩, fun g1 => ⟨fun g2 => skip (by simp [ansP, g2]), fun g2 => ?_⟩⟩
      refine s_J6_bitCount (by omega) ?_
      have := pcn_le i
      rw [nI_eq (by omega) (by omega)]
      refine ⟨fun g3 => skip (by simp [ansP, g3]), fun g3 x ex x2 ex2 => ?_⟩
      have q : ansP n C k i = true := by simp [ansP, g1, g2, g3]
      rw [nI_1] at ex ex2
      exact hrec hi2 _ ⟨by rw [cnt_t q]; exact ex, by rw [lastW_t q]; rfl, ex2⟩
  · exact ⟨fun _ => hd hk, fun q => ⟨fun q2 => by
      exfalso
      rw [fa_lt, show (0 : Int32).toInt = 0 from rfl] at q
      rw [fa_le, show (6 : Int32).toInt = 6 from rfl] at q2
      omega, fun _ => hd hk⟩⟩
theorem s_X4_answer {n : Nat} {C : CV} {th : Int32} {page : Nat → Int32} (hn : n ≤ 6) (hR : Rg n C) (hC : Row n C page) {l1 l2 : Int32} {post : Int32 → Int32 → Prop} (hd : (∀ k, k < 7 → l1 ≠ nI k) → post (-2) 0) (h0 : ∀ k, k < 7 → l1 = nI k → l2 = 0 → post (nI (cnt (ansP n C k) (2 ^ n))) 0) (h1 : ∀ k, k < 7 → l1 = nI k → ¬ l2 = 0 → post (feI (-9) (lastW (ansP n C k) (2 ^ n))) 0) : p_X4_answer th (nI n) page l1 l2 post := by
  unfold p_X4_answer
  have h64 := p2_6 hn
  have hpos : 0 < 2 ^ n := Nat.pow_pos (by decide)
  have e0 : (0 : Int64).toInt = 0 := rfl
  have e6 : (6 : Int64).toInt = 6 := rfl
  refine s_X4_in (fun g1 g2 => ⟨fun _ => ?_, fun h => absurd h (by decide)⟩) (fun g => ⟨fun h => absurd rfl h, fun _ => hd fun k hk e => g ?_⟩)
  · rw [Int32.toInt_toInt64, e0] at g1
    rw [Int32.toInt_toInt64, e6] at g2
    rcases ix_cases l1 (n := 7) (by omega) with ⟨k, hk, rfl⟩ | ⟨hk, hk2⟩
    · refine wle_cnt (2 ^ n) (fun i (v : Int32 × Int32 × Int32) => v.1 = nI (cnt (ansP n C k) i) ∧ v.2.1 = feI (-9) (lastW (ansP n C k) i) ∧ v.2.2 = nI i) ?_ _ 0 (Nat.zero_le _) ⟨rfl, rfl, rfl⟩
      rintro rec i ⟨l4, l5, l6⟩ hi ⟨e4, e5, e6⟩ hrec
      dsimp only at e4 e5 e6 ⊢
      subst e4 e5 e6
      unfold b_X4_answer_29
      rw [q_shl1 (by omega), nI_leI (by omega) (by omega), show ix 21 = 21 from rfl, hC.2.2.1]
      refine ⟨fun hni => ?_, fun hni => ?_⟩
      · have e : i = 2 ^ n := by omega
        subst e
        exact ⟨fun g => h0 k hk rfl g, fun g => h1 k hk rfl g⟩
      · have hi2 : i < 2 ^ n := by omega
        have skip : ansP n C k i = false → ∀ x114 : Int32, x114 = nI i + 1 → rec (nI (cnt (ansP n C k) i), feI (-9) (lastW (ansP n C k) i), x114) := fun q x ex => by
          rw [nI_1] at ex
          exact hrec hi2 _ ⟨by rw [cnt_f q], by rw [lastW_f q], ex⟩
        refine s_X4_many (by omega) ?_
        have := pcn_le i
        rw [nI_eq (by omega) (by omega), sx0 hi2 hn]
        refine ⟨fun g3 => skip (by simp [ansP, g3]), fun g3 => ⟨fun g1 => skip (by simp [ansP, g1]), fun g1 => ?_⟩⟩
        refine sM_fairest hn hR hC ?_
        rw [sx0 (fr_lt n C (ca C)) hn]
        refine ⟨fun g2 => skip (by simp [ansP, g2]), fun g2 x ex x2 ex2 => ?_⟩
        have q : ansP n C k i = true := by simp [ansP, g1, g2, g3]
        rw [nI_1] at ex ex2
        exact hrec hi2 _ ⟨by rw [cnt_t q]; exact ex, by rw [lastW_t q]; rfl, ex2⟩
    · omega
  · rw [Int32.toInt_toInt64, e0, e6, e, nI_toInt (by omega)]; omega
