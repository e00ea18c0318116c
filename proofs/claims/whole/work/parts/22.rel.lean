/-! what the class and the reference hold in common -/
/-- a court's changing part: weights, marks, who is alive, reported, mornings, years -/
abbrev CV : Type := (Nat → Nat) × (Nat → Nat) × Nat × Nat × Int32 × Int32
def cw (C : CV) : Nat → Nat := C.1
def cm (C : CV) : Nat → Nat := C.2.1
def ca (C : CV) : Nat := C.2.2.1
def cr (C : CV) : Nat := C.2.2.2.1
def cmo (C : CV) : Int32 := C.2.2.2.2.1
def cye (C : CV) : Int32 := C.2.2.2.2.2
/-- what a court keeps to -/
def Rg (n : Nat) (C : CV) : Prop := (∀ i, i < 3 → cw C i ≤ 9) ∧ 0 < cw C 0 + cw C 1 + cw C 2 ∧ (∀ k, k < 3 * n → cm C k ≤ 9) ∧ ca C < 2 ^ n ∧ cr C < 2 ^ n ∧ (0 < n → (ca C).testBit 0 = true)
/-- a row of 25 numbers that holds it -/
def Row (n : Nat) (C : CV) (f : Nat → Int32) : Prop := Av f (cw C) 3 ∧ Av (fun k => f (3 + k)) (cm C) (3 * n) ∧ f 21 = nI (ca C) ∧ f 22 = nI (cr C) ∧ f 23 = cmo C ∧ f 24 = cye C
/-- the class's court that holds it -/
def Crt (n : Nat) (C : CV) (alive reported mornings years : Int32) (weights marks : Nat → Int32) : Prop := alive = nI (ca C) ∧ reported = nI (cr C) ∧ mornings = cmo C ∧ years = cye C ∧ Av weights (cw C) 3 ∧ Av marks (cm C) (3 * n)
def vl (C : CV) : Nat → Nat := val3 (cw C) (cm C)
theorem Rg.a31 {n : Nat} {C : CV} (hn : n ≤ 6) (h : Rg n C) : ca C < 2 ^ 31 := by have := p2_6 hn; have := h.2.2.2.1; omega
theorem Rg.r31 {n : Nat} {C : CV} (hn : n ≤ 6) (h : Rg n C) : cr C < 2 ^ 31 := by have := p2_6 hn; have := h.2.2.2.2.1; omega
theorem Rg.v31 {n : Nat} {C : CV} (h : Rg n C) : ∀ p, p < n → vl C p < 2 ^ 31 := fun p hp => by
  have := val3_le hp h.1 h.2.2.1
  unfold vl
  omega
theorem Rg.fig_le {n : Nat} {C : CV} (h : Rg n C) : fig (cw C) ≤ 999 := by
  have h0 := h.1 0 (by omega)
  have h1 := h.1 1 (by omega)
  have h2 := h.1 2 (by omega)
  unfold fig
  omega
theorem Rg.dgv {n : Nat} {C : CV} (h : Rg n C) : val3 (dg (fig (cw C))) (cm C) = vl C := funext fun p => val3_dg h.1 _ p
def TextR (tl : Nat) (bytes text : Nat → Int32) : Prop := tl ≤ 40 ∧ ∀ j, j < tl → bytes j = text j ∧ 0 ≤ (text j).toInt ∧ (text j).toInt ≤ 255
def HeardR (h : Nat) (hp hi wp wi : Nat → Int32) : Prop := h ≤ 6 ∧ ∀ j, j < h → hp j = wp j ∧ hi j = wi j ∧ (∃ p, p < 6 ∧ wp j = nI p) ∧ (wi j = 0 ∨ wi j = 1)
def SlotR (n : Nat) (slots isK kept mK : Nat → Int32) : Prop := ∀ s, s < 2 → isK s = mK s ∧ ((mK s = 0) ∨ (mK s = 1 ∧ ∃ C : CV, Rg n C ∧ Row n C (fun k => slots (25 * s + k)) ∧ Row n C (fun k => kept (25 * s + k))))
def ActR (n c t : Nat) (acts book : Nat → Int32) : Prop := c ≤ 14 ∧ t < 14 ∧ ∀ i, i < c → ∃ C : CV, Rg n C ∧ Row n C (fun k => acts (25 * ((t + 14 - c + i) % 14) + k)) ∧ Row n C (fun k => book (25 * i + k))
/-- the class's state and the reference's -/
def Rel (x_nextAct x_actCount x_heardCount : Int32) (x_seed : Int64) (x_tl : Int32) (x_bytes : Nat → Int32) (x_people x_alive x_reported x_mornings x_years : Int32) (x_weights x_marks x_ageing x_acts x_slots x_isKept x_hp x_hi : Nat → Int32) (m_ts m_people m_acts m_heard : Int32) (m_seed : Int64) (m_text m_ageing m_page m_book m_kept m_isKept m_wp m_wi : Nat → Int32) : Prop :=
  ∃ (n : Nat) (C : CV) (ag : Nat → Nat) (tl h c t : Nat), n ≤ 6 ∧ Rg n C ∧ (∀ p, p < n → ag p ≤ 2) ∧ x_people = nI n ∧ m_people = nI n ∧ Crt n C x_alive x_reported x_mornings x_years x_weights x_marks ∧ Row n C m_page ∧ Av x_ageing ag n ∧ Av m_ageing ag n ∧
    x_tl = nI tl ∧ m_ts = nI tl ∧ TextR tl x_bytes m_text ∧ x_heardCount = nI h ∧ m_heard = nI h ∧ HeardR h x_hp x_hi m_wp m_wi ∧ x_seed = m_seed ∧ SlotR n x_slots x_isKept m_kept m_isKept ∧
    x_actCount = nI c ∧ m_acts = nI c ∧ x_nextAct = nI t ∧ ActR n c t x_acts m_book
/-- fairest of a set, by the weights that there are -/
def fr (n : Nat) (C : CV) (s : Nat) : Nat := fair (vl C) s n
theorem fr_lt (n : Nat) (C : CV) (s : Nat) : fr n C s < 2 ^ n := fair_lt _ _ _
theorem sX_fair {n : Nat} {C : CV} {al re mo ye : Int32} {weights marks : Nat → Int32} (hn : n ≤ 6) (hR : Rg n C) (hC : Crt n C al re mo ye weights marks) {s : Nat} (hs : s < 2 ^ 31) {post : Int32 → Prop} (h : post (nI (fr n C s))) : p_X1_fairestOf (nI n) weights marks (nI s) post := s_X1_fairestOf hC.2.2.2.2.1 hC.2.2.2.2.2 hn hs hR.v31 h
theorem sM_fair {n : Nat} {C : CV} {page : Nat → Int32} (hn : n ≤ 6) (hR : Rg n C) (hC : Row n C page) {s : Nat} (hs : s < 2 ^ 31) {post : Int32 → Prop} (h : post (nI (fr n C s))) : p_X4_fairestOf (nI n) page (nI s) (nI (fig (cw C))) post := by
  have := hR.fig_le
  refine s_X4_fairestOf hC.2.1 hn hs (by omega) ?_ ?_
  · rw [hR.dgv]; exact hR.v31
  · rw [hR.dgv]; exact h
theorem sM_weightsOf {n : Nat} {C : CV} {page : Nat → Int32} (hC : Row n C page) {post : Int32 → Prop} (h : post (nI (fig (cw C)))) : p_X4_weightsOf page post := s_X4_weightsOf hC.1 h
theorem sM_fairest {n : Nat} {C : CV} {page : Nat → Int32} (hn : n ≤ 6) (hR : Rg n C) (hC : Row n C page) {post : Int32 → Prop} (h : post (nI (fr n C (ca C)))) : p_X4_fairest (nI n) page post := by
  unfold p_X4_fairest
  refine sM_weightsOf hC ?_
  rw [show ix 21 = 21 from rfl, hC.2.2.1]
  exact sM_fair hn hR hC (hR.a31 hn) h
theorem lit_toInt {n : Nat} (h : n < 2 ^ 31) : (OfNat.ofNat n : Int32).toInt = (n : Int) := nI_toInt h
/-! writing, wiping -/
theorem upd_at (f : Nat → Int32) (k j : Nat) (x : Int32) : upd f k x j = if j = k then x else f j := rfl
theorem s_X3_write {tl : Nat} (ht : tl ≤ 40) {bytes : Nat → Int32} {l1 : Int32} {post : Int32 → Int32 → (Nat → Int32) → Prop} (hbad : ¬ (0 ≤ l1.toInt ∧ l1.toInt ≤ 255) → post (-2) (nI tl) bytes) (hfull : 0 ≤ l1.toInt ∧ l1.toInt ≤ 255 → tl = 40 → post (-4) (nI tl) bytes) (hok : 0 ≤ l1.toInt ∧ l1.toInt ≤ 255 → tl < 40 → post (nI (tl + 1)) (nI (tl + 1)) (upd bytes tl l1)) : p_X3_write (nI tl) bytes l1 post := by
  unfold p_X3_write p_X2_append
  rw [show (40 : Int32) = nI 40 from rfl, nI_leI (by omega) (by omega), nI_ltI (by omega) (by omega), fa_lt, fa_le, show (0 : Int32).toInt = 0 from rfl, show (255 : Int32).toInt = 255 from rfl]
  refine ⟨fun h => hbad (by omega), fun h => ⟨fun h2 => ⟨fun h3 => ⟨fun h4 => by omega, fun _ => ⟨vp_in_nI h3 (by omega), fun x e => ?_⟩⟩, fun h3 => hfull (by omega) (by omega)⟩, fun h2 => hbad (by omega)⟩⟩
  rw [e, nI_1, ix_nI (by omega)]
  exact hok (by omega) h3
theorem s_X4_write {tl : Nat} (ht : tl ≤ 40) {th : Int32} {text : Nat → Int32} {l1 : Int32} {post : Int32 → Int32 → Int32 → (Nat → Int32) → Prop} (hbad : ¬ (0 ≤ l1.toInt ∧ l1.toInt ≤ 255) → post (-2) 0 (nI tl) text) (hfull : 0 ≤ l1.toInt ∧ l1.toInt ≤ 255 → tl = 40 → post (-4) 0 (nI tl) text) (hok : 0 ≤ l1.toInt ∧ l1.toInt ≤ 255 → tl < 40 → post (nI (tl + 1)) 0 (nI (tl + 1)) (upd text tl l1)) : p_X4_write th (nI tl) text l1 post := by
  unfold p_X4_write
  rw [show (40 : Int32) = nI 40 from rfl, nI_eq (by omega) (by omega)]
  have e0 : (0 : Int64).toInt = 0 := rfl
  have e1 : (255 : Int64).toInt = 255 := rfl
  refine s_X4_in (fun h1 h2 => ?_) (fun h1 => ?_)
  · rw [Int32.toInt_toInt64] at h1 h2
    refine ⟨fun _ => ⟨fun h3 => ⟨vp_in_nI (by omega) (by omega), fun x e => ?_⟩, fun h3 => hfull ⟨by omega, by omega⟩ h3⟩, fun h => absurd h (by decide)⟩
    rw [e, nI_1, ix_nI (by omega)]
    exact hok ⟨by omega, by omega⟩ (by omega)
  · rw [Int32.toInt_toInt64, e0, e1] at h1
    exact ⟨fun h => absurd rfl h, fun _ => hbad h1⟩
theorem TextR.push {tl : Nat} {bytes text : Nat → Int32} (h : TextR tl bytes text) (hl : tl < 40) {x : Int32} (hx : 0 ≤ x.toInt ∧ x.toInt ≤ 255) : TextR (tl + 1) (upd bytes tl x) (upd text tl x) := by
  refine ⟨by omega, fun j hj => ?_⟩
  rw [upd_at, upd_at]
  by_cases e : j = tl
  · rw [if_pos e, if_pos e]; exact ⟨rfl, hx⟩
  · rw [if_neg e, if_neg e]; exact h.2 j (by omega)
/-! about -/
theorem s_X3_about {n : Nat} {C : CV} {ac hc tl al re mo ye : Int32} {weights marks : Nat → Int32} (hn : n ≤ 6) (hR : Rg n C) (hC : Crt n C al re mo ye weights marks) {l1 : Int32} {post : Int32 → Prop} (h0 : l1 = 0 → post (nI n)) (h1 : l1 = 1 → post (nI (ca C))) (h2 : l1 = 2 → post (nI (cr C))) (h3 : l1 = 3 → post (nI (fr n C (ca C)))) (h4 : l1 = 4 → post (cmo C)) (h5 : l1 = 5 → post (cye C)) (h6 : l1 = 6 → post (nI (fig (cw C)))) (h7 : l1 = 7 → post ac) (h8 : l1 = 8 → post hc) (h9 : l1 = 9 → post tl) (hd : ¬ l1 = 0 ∧ ¬ l1 = 1 ∧ ¬ l1 = 2 ∧ ¬ l1 = 3 ∧ ¬ l1 = 4 ∧ ¬ l1 = 5 ∧ ¬ l1 = 6 ∧ ¬ l1 = 7 ∧ ¬ l1 = 8 ∧ ¬ l1 = 9 → post (-2)) : p_X3_about ac hc tl (nI n) al re mo ye weights marks l1 post := by
  unfold p_X3_about
  obtain ⟨rfl, rfl, rfl, rfl, hw, hm⟩ := id hC
  exact ⟨h0, h1, h2, fun e => sX_fair hn hR hC (hR.a31 hn) (h3 e), h4, h5, fun e => s_X1_weightsAsFigures hw (h6 e), h7, h8, h9, hd⟩
theorem s_X4_about {n : Nat} {C : CV} {th ts ac hc : Int32} {page : Nat → Int32} (hn : n ≤ 6) (hR : Rg n C) (hC : Row n C page) {l1 : Int32} {post : Int32 → Int32 → Prop} (h0 : l1 = 0 → post (nI n) 0) (h1 : l1 = 1 → post (nI (ca C)) 0) (h2 : l1 = 2 → post (nI (cr C)) 0) (h3 : l1 = 3 → post (nI (fr n C (ca C))) 0) (h4 : l1 = 4 → post (cmo C) 0) (h5 : l1 = 5 → post (cye C) 0) (h6 : l1 = 6 → post (nI (fig (cw C))) 0) (h7 : l1 = 7 → post ac 0) (h8 : l1 = 8 → post hc 0) (h9 : l1 = 9 → post ts 0) (hd : ¬ l1 = 0 ∧ ¬ l1 = 1 ∧ ¬ l1 = 2 ∧ ¬ l1 = 3 ∧ ¬ l1 = 4 ∧ ¬ l1 = 5 ∧ ¬ l1 = 6 ∧ ¬ l1 = 7 ∧ ¬ l1 = 8 ∧ ¬ l1 = 9 → post (-2) 0) : p_X4_about th ts (nI n) ac hc page l1 post := by
  unfold p_X4_about
  rw [show ix 21 = 21 from rfl, show ix 22 = 22 from rfl, show ix 23 = 23 from rfl, show ix 24 = 24 from rfl, hC.2.2.1, hC.2.2.2.1, hC.2.2.2.2.1, hC.2.2.2.2.2]
  exact ⟨h0, h1, h2, fun e => sM_fairest hn hR hC (h3 e), h4, h5, fun e => sM_weightsOf hC (h6 e), h7, h8, h9, hd⟩
