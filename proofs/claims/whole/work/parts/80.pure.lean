/-! the law's loop: the class and the reference side by side -/
def InvL (i : Nat) (v : (Int32 × Int32 × Int32 × Int32 × Int64 × Int32 × (Nat → Int32) × Int32 × Int32 × Int32 × Int32 × Int32 × (Nat → Int32) × (Nat → Int32) × (Nat → Int32) × Int32 × Int32 × Int32 × Int32 × Int32 × (Nat → Int32) × (Nat → Int32) × (Nat → Int32) × Int32 × Int32 × (Nat → Int32) × (Nat → Int32) × (Nat → Int32) × (Nat → Int32) × (Nat → Int32) × (Nat → Int32) × (Nat → Int32) × (Nat → Int32) × Int32 × Int32 × Int32 × Int32 × Int32 × Int32 × Int32 × Int64 × Int32 × Int32 × Int32 × (Nat → Int32) × (Nat → Int32) × (Nat → Int32) × (Nat → Int32) × (Nat → Int32) × (Nat → Int32) × (Nat → Int32) × (Nat → Int32) × (Nat → Int32) × (Nat → Int32) × (Nat → Int32) × (Nat → Int32) × (Nat → Int32) × (Nat → Int32))) : Prop := v.1 = nI (5 * i) ∧ Rel v.2.1 v.2.2.1 v.2.2.2.1 v.2.2.2.2.1 v.2.2.2.2.2.1 v.2.2.2.2.2.2.1 v.2.2.2.2.2.2.2.1 v.2.2.2.2.2.2.2.2.1 v.2.2.2.2.2.2.2.2.2.1 v.2.2.2.2.2.2.2.2.2.2.1 v.2.2.2.2.2.2.2.2.2.2.2.1 v.2.2.2.2.2.2.2.2.2.2.2.2.1 v.2.2.2.2.2.2.2.2.2.2.2.2.2.1 v.2.2.2.2.2.2.2.2.2.2.2.2.2.2.1 v.2.2.2.2.2.2.2.2.2.2.2.2.2.2.2.2.2.2.2.2.2.2.2.2.2.2.2.2.1 v.2.2.2.2.2.2.2.2.2.2.2.2.2.2.2.2.2.2.2.2.2.2.2.2.2.2.2.2.2.1 v.2.2.2.2.2.2.2.2.2.2.2.2.2.2.2.2.2.2.2.2.2.2.2.2.2.2.2.2.2.2.1 v.2.2.2.2.2.2.2.2.2.2.2.2.2.2.2.2.2.2.2.2.2.2.2.2.2.2.2.2.2.2.2.1 v.2.2.2.2.2.2.2.2.2.2.2.2.2.2.2.2.2.2.2.2.2.2.2.2.2.2.2.2.2.2.2.2.1 v.2.2.2.2.2.2.2.2.2.2.2.2.2.2.2.2.2.2.2.2.2.2.2.2.2.2.2.2.2.2.2.2.2.2.1 v.2.2.2.2.2.2.2.2.2.2.2.2.2.2.2.2.2.2.2.2.2.2.2.2.2.2.2.2.2.2.2.2.2.2.2.2.1 v.2.2.2.2.2.2.2.2.2.2.2.2.2.2.2.2.2.2.2.2.2.2.2.2.2.2.2.2.2.2.2.2.2.2.2.2.2.2.1 v.2.2.2.2.2.2.2.2.2.2.2.2.2.2.2.2.2.2.2.2.2.2.2.2.2.2.2.2.2.2.2.2.2.2.2.2.2.2.2.1 v.2.2.2.2.2.2.2.2.2.2.2.2.2.2.2.2.2.2.2.2.2.2.2.2.2.2.2.2.2.2.2.2.2.2.2.2.2.2.2.2.1 v.2.2.2.2.2.2.2.2.2.2.2.2.2.2.2.2.2.2.2.2.2.2.2.2.2.2.2.2.2.2.2.2.2.2.2.2.2.2.2.2.2.2.2.2.1 v.2.2.2.2.2.2.2.2.2.2.2.2.2.2.2.2.2.2.2.2.2.2.2.2.2.2.2.2.2.2.2.2.2.2.2.2.2.2.2.2.2.2.2.2.2.1 v.2.2.2.2.2.2.2.2.2.2.2.2.2.2.2.2.2.2.2.2.2.2.2.2.2.2.2.2.2.2.2.2.2.2.2.2.2.2.2.2.2.2.2.2.2.2.1 v.2.2.2.2.2.2.2.2.2.2.2.2.2.2.2.2.2.2.2.2.2.2.2.2.2.2.2.2.2.2.2.2.2.2.2.2.2.2.2.2.2.2.2.2.2.2.2.2.2.1 v.2.2.2.2.2.2.2.2.2.2.2.2.2.2.2.2.2.2.2.2.2.2.2.2.2.2.2.2.2.2.2.2.2.2.2.2.2.2.2.2.2.2.2.2.2.2.2.2.2.2.1 v.2.2.2.2.2.2.2.2.2.2.2.2.2.2.2.2.2.2.2.2.2.2.2.2.2.2.2.2.2.2.2.2.2.2.2.2.2.2.2.2.2.2.2.2.2.2.2.2.2.2.2.1 v.2.2.2.2.2.2.2.2.2.2.2.2.2.2.2.2.2.2.2.2.2.2.2.2.2.2.2.2.2.2.2.2.2.2.2.2.2.2.2.2.2.2.2.2.2.2.2.2.2.2.2.2.1 v.2.2.2.2.2.2.2.2.2.2.2.2.2.2.2.2.2.2.2.2.2.2.2.2.2.2.2.2.2.2.2.2.2.2.2.2.2.2.2.2.2.2.2.2.2.2.2.2.2.2.2.2.2.1
theorem mkRel {n h c t tl : Nat} {C : CV} {ag : Nat → Nat} {seed : Int64} {al re mo ye : Int32} {bytes weights marks ageing acts slots isK hp hi text mageing page book kept mK wp wi : Nat → Int32} (hn : n ≤ 6) (hR : Rg n C) (hag : ∀ p, p < n → ag p ≤ 2) (hC : Crt n C al re mo ye weights marks) (hP : Row n C page) (hA : Av ageing ag n) (hA2 : Av mageing ag n) (hT : TextR tl bytes text) (hH : HeardR h hp hi wp wi) (hS : SlotR n slots isK kept mK) (hB : ActR n c t acts book) : Rel (nI t) (nI c) (nI h) seed (nI tl) bytes (nI n) al re mo ye weights marks ageing acts slots isK hp hi (nI tl) (nI n) (nI c) (nI h) seed text mageing page book kept mK wp wi :=
  ⟨n, C, ag, tl, h, c, t, hn, hR, hag, rfl, rfl, hC, hP, hA, hA2, rfl, rfl, hT, rfl, rfl, hH, rfl, hS, rfl, rfl, rfl, hB⟩
theorem fin2 {r : Int32} {k : Nat} {A : Int32 → Prop} {B : Prop} (h : A (nI (5 * (k + 1)))) : (r = r → ∀ x : Int32, x = nI (5 * k) + 5 → A x) ∧ (¬ r = r → B) := by
  refine ⟨fun _ x ex => ?_, fun g => absurd rfl g⟩
  rw [show (5 : Int32) = nI 5 from rfl, nI_add, show 5 * k + 5 = 5 * (k + 1) by omega] at ex
  rw [ex]; exact h
theorem fin3 {r : Int64} {k : Nat} {A : Int32 → Prop} {B : Prop} (h : A (nI (5 * (k + 1)))) : (lg_cmp r r = 0 → ∀ x : Int32, x = nI (5 * k) + 5 → A x) ∧ (¬ lg_cmp r r = 0 → B) := by
  refine ⟨fun _ x ex => ?_, fun g => absurd ((cmp_eq0 r r).mpr rfl) g⟩
  rw [show (5 : Int32) = nI 5 from rfl, nI_add, show 5 * k + 5 = 5 * (k + 1) by omega] at ex
  rw [ex]; exact h
theorem slots0 {n : Nat} {slots isK kept mK : Nat → Int32} (h1 : isK 0 = 0) (h2 : isK 1 = 0) (h3 : mK 0 = 0) (h4 : mK 1 = 0) : SlotR n slots isK kept mK := fun s hs => by
  rcases (by omega : s = 0 ∨ s = 1) with rfl | rfl
  · exact ⟨h1.trans h3.symm, Or.inl h3⟩
  · exact ⟨h2.trans h4.symm, Or.inl h4⟩
theorem step5 {x : Int32} {k : Nat} (ex : x = nI (5 * k) + 5) : x = nI (5 * (k + 1)) := by
  rw [ex, show (5 : Int32) = nI 5 from rfl, nI_add]
  congr 1
theorem vps {n i k : Nat} (h : 5 * i + k < n) (hn : n ≤ 2560) : vp_in (nI (5 * i) + nI k) n := by
  rw [nI_add]
  exact vp_in_nI h (by omega)
set_option maxHeartbeats 4000000 in
set_option maxRecDepth 100000 in
theorem law_step {n i : Nat} (hL : n ≤ 2560) (xs : Nat → Int32) (hi : i ≤ n / 5) {post : Int32 → Prop} (hpost : post 1) {rec : (Int32 × Int32 × Int32 × Int32 × Int64 × Int32 × (Nat → Int32) × Int32 × Int32 × Int32 × Int32 × Int32 × (Nat → Int32) × (Nat → Int32) × (Nat → Int32) × Int32 × Int32 × Int32 × Int32 × Int32 × (Nat → Int32) × (Nat → Int32) × (Nat → Int32) × Int32 × Int32 × (Nat → Int32) × (Nat → Int32) × (Nat → Int32) × (Nat → Int32) × (Nat → Int32) × (Nat → Int32) × (Nat → Int32) × (Nat → Int32) × Int32 × Int32 × Int32 × Int32 × Int32 × Int32 × Int32 × Int64 × Int32 × Int32 × Int32 × (Nat → Int32) × (Nat → Int32) × (Nat → Int32) × (Nat → Int32) × (Nat → Int32) × (Nat → Int32) × (Nat → Int32) × (Nat → Int32) × (Nat → Int32) × (Nat → Int32) × (Nat → Int32) × (Nat → Int32) × (Nat → Int32) × (Nat → Int32)) → Prop} {v : (Int32 × Int32 × Int32 × Int32 × Int64 × Int32 × (Nat → Int32) × Int32 × Int32 × Int32 × Int32 × Int32 × (Nat → Int32) × (Nat → Int32) × (Nat → Int32) × Int32 × Int32 × Int32 × Int32 × Int32 × (Nat → Int32) × (Nat → Int32) × (Nat → Int32) × Int32 × Int32 × (Nat → Int32) × (Nat → Int32) × (Nat → Int32) × (Nat → Int32) × (Nat → Int32) × (Nat → Int32) × (Nat → Int32) × (Nat → Int32) × Int32 × Int32 × Int32 × Int32 × Int32 × Int32 × Int32 × Int64 × Int32 × Int32 × Int32 × (Nat → Int32) × (Nat → Int32) × (Nat → Int32) × (Nat → Int32) × (Nat → Int32) × (Nat → Int32) × (Nat → Int32) × (Nat → Int32) × (Nat → Int32) × (Nat → Int32) × (Nat → Int32) × (Nat → Int32) × (Nat → Int32) × (Nat → Int32))} (hI : InvL i v) (hrec : i < n / 5 → ∀ v', InvL (i + 1) v' → rec v') : b_L_law_18 n xs post (fun _ _ _ _ _ _ _ _ _ _ _ _ _ _ _ _ _ _ _ _ _ _ _ _ _ _ _ _ _ _ _ _ _ _ _ _ _ _ _ _ _ _ _ _ _ _ _ _ _ _ _ _ _ _ _ _ _ _ => post 1) rec v.1 v.2.1 v.2.2.1 v.2.2.2.1 v.2.2.2.2.1 v.2.2.2.2.2.1 v.2.2.2.2.2.2.1 v.2.2.2.2.2.2.2.1 v.2.2.2.2.2.2.2.2.1 v.2.2.2.2.2.2.2.2.2.1 v.2.2.2.2.2.2.2.2.2.2.1 v.2.2.2.2.2.2.2.2.2.2.2.1 v.2.2.2.2.2.2.2.2.2.2.2.2.1 v.2.2.2.2.2.2.2.2.2.2.2.2.2.1 v.2.2.2.2.2.2.2.2.2.2.2.2.2.2.1 v.2.2.2.2.2.2.2.2.2.2.2.2.2.2.2.1 v.2.2.2.2.2.2.2.2.2.2.2.2.2.2.2.2.1 v.2.2.2.2.2.2.2.2.2.2.2.2.2.2.2.2.2.1 v.2.2.2.2.2.2.2.2.2.2.2.2.2.2.2.2.2.2.1 v.2.2.2.2.2.2.2.2.2.2.2.2.2.2.2.2.2.2.2.1 v.2.2.2.2.2.2.2.2.2.2.2.2.2.2.2.2.2.2.2.2.1 v.2.2.2.2.2.2.2.2.2.2.2.2.2.2.2.2.2.2.2.2.2.1 v.2.2.2.2.2.2.2.2.2.2.2.2.2.2.2.2.2.2.2.2.2.2.1 v.2.2.2.2.2.2.2.2.2.2.2.2.2.2.2.2.2.2.2.2.2.2.2.1 v.2.2.2.2.2.2.2.2.2.2.2.2.2.2.2.2.2.2.2.2.2.2.2.2.1 v.2.2.2.2.2.2.2.2.2.2.2.2.2.2.2.2.2.2.2.2.2.2.2.2.2.1 v.2.2.2.2.2.2.2.2.2.2.2.2.2.2.2.2.2.2.2.2.2.2.2.2.2.2.1 v.2.2.2.2.2.2.2.2.2.2.2.2.2.2.2.2.2.2.2.2.2.2.2.2.2.2.2.1 v.2.2.2.2.2.2.2.2.2.2.2.2.2.2.2.2.2.2.2.2.2.2.2.2.2.2.2.2.1 v.2.2.2.2.2.2.2.2.2.2.2.2.2.2.2.2.2.2.2.2.2.2.2.2.2.2.2.2.2.1 v.2.2.2.2.2.2.2.2.2.2.2.2.2.2.2.2.2.2.2.2.2.2.2.2.2.2.2.2.2.2.1 v.2.2.2.2.2.2.2.2.2.2.2.2.2.2.2.2.2.2.2.2.2.2.2.2.2.2.2.2.2.2.2.1 v.2.2.2.2.2.2.2.2.2.2.2.2.2.2.2.2.2.2.2.2.2.2.2.2.2.2.2.2.2.2.2.2.1 v.2.2.2.2.2.2.2.2.2.2.2.2.2.2.2.2.2.2.2.2.2.2.2.2.2.2.2.2.2.2.2.2.2.1 v.2.2.2.2.2.2.2.2.2.2.2.2.2.2.2.2.2.2.2.2.2.2.2.2.2.2.2.2.2.2.2.2.2.2.1 v.2.2.2.2.2.2.2.2.2.2.2.2.2.2.2.2.2.2.2.2.2.2.2.2.2.2.2.2.2.2.2.2.2.2.2.1 v.2.2.2.2.2.2.2.2.2.2.2.2.2.2.2.2.2.2.2.2.2.2.2.2.2.2.2.2.2.2.2.2.2.2.2.2.1 v.2.2.2.2.2.2.2.2.2.2.2.2.2.2.2.2.2.2.2.2.2.2.2.2.2.2.2.2.2.2.2.2.2.2.2.2.2.1 v.2.2.2.2.2.2.2.2.2.2.2.2.2.2.2.2.2.2.2.2.2.2.2.2.2.2.2.2.2.2.2.2.2.2.2.2.2.2.1 v.2.2.2.2.2.2.2.2.2.2.2.2.2.2.2.2.2.2.2.2.2.2.2.2.2.2.2.2.2.2.2.2.2.2.2.2.2.2.2.1 v.2.2.2.2.2.2.2.2.2.2.2.2.2.2.2.2.2.2.2.2.2.2.2.2.2.2.2.2.2.2.2.2.2.2.2.2.2.2.2.2.1 v.2.2.2.2.2.2.2.2.2.2.2.2.2.2.2.2.2.2.2.2.2.2.2.2.2.2.2.2.2.2.2.2.2.2.2.2.2.2.2.2.2.1 v.2.2.2.2.2.2.2.2.2.2.2.2.2.2.2.2.2.2.2.2.2.2.2.2.2.2.2.2.2.2.2.2.2.2.2.2.2.2.2.2.2.2.1 v.2.2.2.2.2.2.2.2.2.2.2.2.2.2.2.2.2.2.2.2.2.2.2.2.2.2.2.2.2.2.2.2.2.2.2.2.2.2.2.2.2.2.2.1 v.2.2.2.2.2.2.2.2.2.2.2.2.2.2.2.2.2.2.2.2.2.2.2.2.2.2.2.2.2.2.2.2.2.2.2.2.2.2.2.2.2.2.2.2.1 v.2.2.2.2.2.2.2.2.2.2.2.2.2.2.2.2.2.2.2.2.2.2.2.2.2.2.2.2.2.2.2.2.2.2.2.2.2.2.2.2.2.2.2.2.2.1 v.2.2.2.2.2.2.2.2.2.2.2.2.2.2.2.2.2.2.2.2.2.2.2.2.2.2.2.2.2.2.2.2.2.2.2.2.2.2.2.2.2.2.2.2.2.2.1 v.2.2.2.2.2.2.2.2.2.2.2.2.2.2.2.2.2.2.2.2.2.2.2.2.2.2.2.2.2.2.2.2.2.2.2.2.2.2.2.2.2.2.2.2.2.2.2.1 v.2.2.2.2.2.2.2.2.2.2.2.2.2.2.2.2.2.2.2.2.2.2.2.2.2.2.2.2.2.2.2.2.2.2.2.2.2.2.2.2.2.2.2.2.2.2.2.2.1 v.2.2.2.2.2.2.2.2.2.2.2.2.2.2.2.2.2.2.2.2.2.2.2.2.2.2.2.2.2.2.2.2.2.2.2.2.2.2.2.2.2.2.2.2.2.2.2.2.2.1 v.2.2.2.2.2.2.2.2.2.2.2.2.2.2.2.2.2.2.2.2.2.2.2.2.2.2.2.2.2.2.2.2.2.2.2.2.2.2.2.2.2.2.2.2.2.2.2.2.2.2.1 v.2.2.2.2.2.2.2.2.2.2.2.2.2.2.2.2.2.2.2.2.2.2.2.2.2.2.2.2.2.2.2.2.2.2.2.2.2.2.2.2.2.2.2.2.2.2.2.2.2.2.2.1 v.2.2.2.2.2.2.2.2.2.2.2.2.2.2.2.2.2.2.2.2.2.2.2.2.2.2.2.2.2.2.2.2.2.2.2.2.2.2.2.2.2.2.2.2.2.2.2.2.2.2.2.2.1 v.2.2.2.2.2.2.2.2.2.2.2.2.2.2.2.2.2.2.2.2.2.2.2.2.2.2.2.2.2.2.2.2.2.2.2.2.2.2.2.2.2.2.2.2.2.2.2.2.2.2.2.2.2.1 v.2.2.2.2.2.2.2.2.2.2.2.2.2.2.2.2.2.2.2.2.2.2.2.2.2.2.2.2.2.2.2.2.2.2.2.2.2.2.2.2.2.2.2.2.2.2.2.2.2.2.2.2.2.2.1 v.2.2.2.2.2.2.2.2.2.2.2.2.2.2.2.2.2.2.2.2.2.2.2.2.2.2.2.2.2.2.2.2.2.2.2.2.2.2.2.2.2.2.2.2.2.2.2.2.2.2.2.2.2.2.2.1 v.2.2.2.2.2.2.2.2.2.2.2.2.2.2.2.2.2.2.2.2.2.2.2.2.2.2.2.2.2.2.2.2.2.2.2.2.2.2.2.2.2.2.2.2.2.2.2.2.2.2.2.2.2.2.2.2.1 v.2.2.2.2.2.2.2.2.2.2.2.2.2.2.2.2.2.2.2.2.2.2.2.2.2.2.2.2.2.2.2.2.2.2.2.2.2.2.2.2.2.2.2.2.2.2.2.2.2.2.2.2.2.2.2.2.2 := by
  obtain ⟨l3, nextAct, actCount, heardCount, seed, tl, bytes, people, alive, reported, mornings, years, weights, marks, ageing, t1, t2, t3, t4, t5, t6, t7, t8, c1, c2, c3, c4, c5, acts, slots, isK, hp, hi, thrown, ts, place, mpeople, rpeople, macts, mheard, mseed, choosers, sets, surely, text, mageing, page, rageing, rpage, book, kept, mK, wp, wi, tried, chooser, best, alives⟩ := v
  obtain ⟨e3, n0, C, ag, tl, h, c, t, hn, hR, hag, f1, f2, hC, hP, hA, hA2, f3, f4, hT, f5, f6, hH, f7, hS, f8, f9, f10, hB⟩ := hI
  dsimp only at e3 f1 f2 hC hP hA hA2 f3 f4 hT f5 f6 hH f7 hS f8 f9 f10 hB ⊢
  subst e3 f1 f2 f3 f4 f5 f6 f7 f8 f9 f10
  obtain ⟨T, hbT, hxT, h255, -⟩ := AvT hT
  have text0 : TextR 0 bytes text := ⟨by omega, fun j hj => by omega⟩
  obtain ⟨rfl, -⟩ := id hC
  unfold b_L_law_18
  refine ⟨fun _ => hpost, fun hlt0 => ?_⟩
  have hlt2 : 5 * i + 5 ≤ n := by
    rw [fa_lt, nI_toInt (by omega)] at hlt0
    have e := pk_sub_toInt (a := n) (b := 5) (by omega) (by omega)
    rw [show (nI n - 5).toInt = (n : Int) - 5 from e] at hlt0
    omega
  have hlt : i < n / 5 := by omega
  have v0 : vp_in (nI (5 * i)) n := vp_in_nI (by omega) (by omega)
  have v1 : vp_in (nI (5 * i) + 1) n := vps (k := 1) (by omega) hL
  have v2 : vp_in (nI (5 * i) + 2) n := vps (k := 2) (by omega) hL
  have v3 : vp_in (nI (5 * i) + 3) n := vps (k := 3) (by omega) hL
  have v4 : vp_in (nI (5 * i) + 4) n := vps (k := 4) (by omega) hL
  clear hlt0 hlt2
  generalize xs (ix (nI (5 * i) + 1)) = s1
  generalize xs (ix (nI (5 * i) + 2)) = s2
  generalize xs (ix (nI (5 * i) + 3)) = s3
  generalize xs (ix (nI (5 * i) + 4)) = s4
  refine ⟨v0, fun x32 _ => ⟨?_, ?_, ?_, ?_, ?_, ?_, ?_, ?_, ?_, ?_, ?_, ?_, ?_, ?_, ?_, ?_, ?_, ?_, ?_, ?_, ?_, ?_, ?_, ?_, ?_, ?_, ?_, ?_, ?_, ?_, ?_, ?_⟩⟩
  · intro _
    exact ⟨v1, pr_write v1 hT.1 (fin2 (hrec hlt _ ⟨rfl, mkRel hn hR hag hC hP hA hA2 hT hH hS hB⟩)) (fin2 (hrec hlt _ ⟨rfl, mkRel hn hR hag hC hP hA hA2 hT hH hS hB⟩)) (fun a z => fin2 (hrec hlt _ ⟨rfl, mkRel hn hR hag hC hP hA hA2 (hT.push z a) hH hS hB⟩))⟩
  · intro _
    exact (by dsimp only [p_X3_wipe, p_X4_wipe]; exact fin2 (hrec hlt _ ⟨rfl, mkRel (tl := 0) hn hR hag hC hP hA hA2 text0 hH hS hB⟩))
  · intro _
    exact s_X3_fault hbT h255 hT.1 (fun g => s_X4_fault hxT h255 hT.1 (fun _ _ _ _ _ => fin2 (hrec hlt _ ⟨rfl, mkRel hn hR hag hC hP hA hA2 hT hH hS hB⟩)) (fun f _ _ _ _ g2 => (g.no g2).elim)) (fun f g => s_X4_fault hxT h255 hT.1 (fun g2 _ _ _ _ => (g2.no g).elim) (fun f2 _ _ _ _ g2 => (by obtain rfl := g2.one g; exact fin2 (hrec hlt _ ⟨rfl, mkRel hn hR hag hC hP hA hA2 hT hH hS hB⟩))))
  · intro _
    exact s_X3_court hbT h255 hT.1 (fun f g => s_X4_court hxT h255 hT.1 (fun _ _ _ _ _ _ => fin2 (hrec hlt _ ⟨rfl, mkRel hn hR hag hC hP hA hA2 hT hH hS hB⟩)) (fun g2 => (g2.no g).elim)) (fun g al re mo ye we mk a2 k2 w1 w2 w3 w4 => s_X4_court hxT h255 hT.1 (fun f _ _ _ _ g2 => (g.no g2).elim) (fun _ _ _ a3 pg _ _ k3 w5 w6 w7 w8 => fin2 (hrec hlt _ ⟨rfl, mkRel (n := (tl - 4) / 5) (c := 0) (t := 0) g.n.2 g.rg.1 g.rg.2 w1 w5 w2 w6 hT hH (slots0 w3 w4 w7 w8) (ActR.none (by omega) _ _)⟩)))
  · intro _
    exact ⟨v1, pr_about v1 hn hR hC hP (fun _ => fin2 (hrec hlt _ ⟨rfl, mkRel hn hR hag hC hP hA hA2 hT hH hS hB⟩))⟩
  · intro _
    exact ⟨v1, v2, pr_person v1 v2 hn hR hC hP hA hA2 (fun _ => fin2 (hrec hlt _ ⟨rfl, mkRel hn hR hag hC hP hA hA2 hT hH hS hB⟩))⟩
  · intro _
    exact pr_morning hn hR hC hP hB.1 hB.2.1 (fin2 (hrec hlt _ ⟨rfl, mkRel hn hR hag hC hP hA hA2 hT hH hS hB⟩)) (fun _ _ _ _ _ _ u v w z => fin2 (hrec hlt _ ⟨rfl, mkRel hn hR.morn hag v z hA hA2 hT hH hS (hB.noted hn hR hP u w)⟩))
  · intro _
    exact pr_year hn hR hC hP hB.1 hB.2.1 hA hA2 hag (fun _ _ _ _ _ u v w z => fin2 (hrec hlt _ ⟨rfl, mkRel hn hR.year hag v z hA hA2 hT hH hS (hB.noted hn hR hP u w)⟩))
  · intro _
    exact ⟨v1, v2, pr_plain v1 v2 hn hR hC hP hB.1 hB.2.1 (fun _ => fin2 (hrec hlt _ ⟨rfl, mkRel hn hR hag hC hP hA hA2 hT hH hS hB⟩)) (fun _ _ _ _ _ _ _ _ _ u v w z => fin2 (hrec hlt _ ⟨rfl, mkRel hn hR.plain hag v z hA hA2 hT hH hS (hB.noted hn hR hP u w)⟩))⟩
  · intro _
    exact ⟨v1, v2, fun e0 => pr_hunt v1 v2 (Or.inl ⟨e0, rfl⟩) hn hR hC hP hB.1 hB.2.1 (fun _ => fin2 (hrec hlt _ ⟨rfl, mkRel hn hR hag hC hP hA hA2 hT hH hS hB⟩)) (fun _ pn p0 _ _ _ _ _ _ u v w z => fin2 (hrec hlt _ ⟨rfl, mkRel hn (hR.hunt pn p0) hag v z hA hA2 hT hH hS (hB.noted hn hR hP u w)⟩)), fun e0 => pr_hunt v1 v2 (Or.inr ⟨e0, rfl⟩) hn hR hC hP hB.1 hB.2.1 (fun _ => fin2 (hrec hlt _ ⟨rfl, mkRel hn hR hag hC hP hA hA2 hT hH hS hB⟩)) (fun _ pn p0 _ _ _ _ _ _ u v w z => fin2 (hrec hlt _ ⟨rfl, mkRel hn (hR.hunt pn p0) hag v z hA hA2 hT hH hS (hB.noted hn hR hP u w)⟩))⟩
  · intro _
    exact pr_undo hn hB (fin2 (hrec hlt _ ⟨rfl, mkRel hn hR hag hC hP hA hA2 hT hH hS hB⟩)) (fun z D _ _ _ _ _ _ _ u v w => fin2 (hrec hlt _ ⟨rfl, mkRel hn u hag v w hA hA2 hT hH hS (hB.pop z)⟩))
  · intro _
    exact ⟨v1, v2, pr_judged v1 v2 hn hR hC hP hA (fun _ _ _ _ _ _ _ _ _ _ => fin2 (hrec hlt _ ⟨rfl, mkRel hn hR hag hC hP hA hA2 hT hH hS hB⟩))⟩
  · intro _
    exact ⟨v1, v2, fun e0 => pr_hear v1 v2 (Or.inl ⟨e0, rfl⟩) hn hH.1 (fun _ => fin2 (hrec hlt _ ⟨rfl, mkRel hn hR hag hC hP hA hA2 hT hH hS hB⟩)) (fun _ pn h6 => fin2 (hrec hlt _ ⟨rfl, mkRel hn hR hag hC hP hA hA2 hT (hH.push h6 (by omega) (Or.inl rfl)) hS hB⟩)), fun e0 => pr_hear v1 v2 (Or.inr ⟨e0, rfl⟩) hn hH.1 (fun _ => fin2 (hrec hlt _ ⟨rfl, mkRel hn hR hag hC hP hA hA2 hT hH hS hB⟩)) (fun _ pn h6 => fin2 (hrec hlt _ ⟨rfl, mkRel hn hR hag hC hP hA hA2 hT (hH.push h6 (by omega) (Or.inr rfl)) hS hB⟩))⟩
  · intro _
    exact (by dsimp only [p_X3_unhear, p_X4_unhear]; exact fin2 (hrec hlt _ ⟨rfl, mkRel (h := 0) hn hR hag hC hP hA hA2 hT ⟨Nat.zero_le _, fun j hj => absurd hj (Nat.not_lt_zero _)⟩ hS hB⟩))
  · intro _
    exact ⟨v1, pr_worlds v1 hn hR hC hP hH (fun _ _ _ _ => fin2 (hrec hlt _ ⟨rfl, mkRel hn hR hag hC hP hA hA2 hT hH hS hB⟩))⟩
  · intro _
    exact pr_toAsk hn hR hC hP hH (fun _ _ _ _ => fin2 (hrec hlt _ ⟨rfl, mkRel hn hR hag hC hP hA hA2 hT hH hS hB⟩))
  · intro _
    exact ⟨v1, v2, fun e0 => pr_answer v1 v2 (Or.inl ⟨e0, rfl⟩) hn hR hC hP (fun _ => fin2 (hrec hlt _ ⟨rfl, mkRel hn hR hag hC hP hA hA2 hT hH hS hB⟩)), fun e0 => pr_answer v1 v2 (Or.inr ⟨e0, rfl⟩) hn hR hC hP (fun _ => fin2 (hrec hlt _ ⟨rfl, mkRel hn hR hag hC hP hA hA2 hT hH hS hB⟩))⟩
  · intro _
    exact ⟨v1, pr_chosen v1 hn hR hC hP (fun _ _ _ _ _ _ _ _ _ _ => fin2 (hrec hlt _ ⟨rfl, mkRel hn hR hag hC hP hA hA2 hT hH hS hB⟩))⟩
  · intro _
    exact ⟨v1, pr_chosenWorth v1 hn hR hC hP (fun _ _ _ _ _ _ _ _ _ _ => fin2 (hrec hlt _ ⟨rfl, mkRel hn hR hag hC hP hA hA2 hT hH hS hB⟩))⟩
  · intro _
    exact ⟨v1, pr_measures v1 hn hR hC hP hA (fun _ _ _ _ _ _ _ _ _ => fin2 (hrec hlt _ ⟨rfl, mkRel hn hR hag hC hP hA hA2 hT hH hS hB⟩))⟩
  · intro _
    exact ⟨v1, pr_nearest v1 hn hR hC hP hA (fun _ _ _ _ _ _ _ _ _ => fin2 (hrec hlt _ ⟨rfl, mkRel hn hR hag hC hP hA hA2 hT hH hS hB⟩))⟩
  · intro _
    exact ⟨v1, fun e0 => pr_reign v1 (Or.inl ⟨e0, rfl⟩) hn hR hC hP hA hA2 hag (fun _ _ _ _ _ _ _ _ _ _ => fin2 (hrec hlt _ ⟨rfl, mkRel hn hR hag hC hP hA hA2 hT hH hS hB⟩)), fun e0 => pr_reign v1 (Or.inr ⟨e0, rfl⟩) hn hR hC hP hA hA2 hag (fun _ _ _ _ _ _ _ _ _ _ => fin2 (hrec hlt _ ⟨rfl, mkRel hn hR hag hC hP hA hA2 hT hH hS hB⟩))⟩
  · intro _
    exact ⟨v1, pr_differs v1 hn hR hC hP hA (fun _ _ _ _ _ _ _ _ _ => fin2 (hrec hlt _ ⟨rfl, mkRel hn hR hag hC hP hA hA2 hT hH hS hB⟩))⟩
  · intro _
    exact ⟨v1, v2, v3, fun e0 => pr_rate v1 v2 v3 (Or.inl ⟨e0, rfl⟩) hn hR hC hP hA (fun _ _ _ _ _ _ _ _ _ => fin2 (hrec hlt _ ⟨rfl, mkRel hn hR hag hC hP hA hA2 hT hH hS hB⟩)), fun e0 => pr_rate v1 v2 v3 (Or.inr ⟨e0, rfl⟩) hn hR hC hP hA (fun _ _ _ _ _ _ _ _ _ => fin2 (hrec hlt _ ⟨rfl, mkRel hn hR hag hC hP hA hA2 hT hH hS hB⟩))⟩
  · intro _
    exact ⟨v1, v2, v3, fun e0 => pr_saying v1 v2 v3 (Or.inl ⟨e0, rfl⟩) hn hR hC hP (fun _ => fin2 (hrec hlt _ ⟨rfl, mkRel hn hR hag hC hP hA hA2 hT hH hS hB⟩)), fun e0 => pr_saying v1 v2 v3 (Or.inr ⟨e0, rfl⟩) hn hR hC hP (fun _ => fin2 (hrec hlt _ ⟨rfl, mkRel hn hR hag hC hP hA hA2 hT hH hS hB⟩))⟩
  · intro _
    exact ⟨v1, v2, v3, v4, fun e0 => pr_believed v1 v2 v3 v4 (Or.inl ⟨e0, rfl⟩) hn hR hC hP (fun _ => fin2 (hrec hlt _ ⟨rfl, mkRel hn hR hag hC hP hA hA2 hT hH hS hB⟩)), fun e0 => pr_believed v1 v2 v3 v4 (Or.inr ⟨e0, rfl⟩) hn hR hC hP (fun _ => fin2 (hrec hlt _ ⟨rfl, mkRel hn hR hag hC hP hA hA2 hT hH hS hB⟩))⟩
  · intro _
    exact ⟨v1, v2, fun e0 => pr_chance v1 v2 (Or.inl ⟨e0, rfl⟩) hn hR hC hP (fun _ => fin2 (hrec hlt _ ⟨rfl, mkRel hn hR hag hC hP hA hA2 hT hH hS hB⟩)), fun e0 => pr_chance v1 v2 (Or.inr ⟨e0, rfl⟩) hn hR hC hP (fun _ => fin2 (hrec hlt _ ⟨rfl, mkRel hn hR hag hC hP hA hA2 hT hH hS hB⟩))⟩
  · intro _
    exact (by dsimp only [p_X3_seed, p_X4_seed]; exact ⟨v1, v2, v1, v2, fin3 (hrec hlt _ ⟨rfl, mkRel hn hR hag hC hP hA hA2 hT hH hS hB⟩)⟩)
  · intro _
    exact ⟨v1, pr_hunted v1 hn hR hC hP (fun _ _ => fin2 (hrec hlt _ ⟨rfl, mkRel hn hR hag hC hP hA hA2 hT hH hS hB⟩))⟩
  · intro _
    exact ⟨v1, pr_keep v1 hn hR hC hP (fun _ => fin2 (hrec hlt _ ⟨rfl, mkRel hn hR hag hC hP hA hA2 hT hH hS hB⟩)) (fun _ s2 _ _ _ u v w z => fin2 (hrec hlt _ ⟨rfl, mkRel hn hR hag hC hP hA hA2 hT hH (hS.keep hn s2 hR hP u v w z) hB⟩))⟩
  · intro _
    exact ⟨v1, pr_again v1 hn hS (fun _ => fin2 (hrec hlt _ ⟨rfl, mkRel hn hR hag hC hP hA hA2 hT hH hS hB⟩)) (fun D _ _ _ _ _ _ _ _ u v w => fin2 (hrec hlt _ ⟨rfl, mkRel (c := 0) (t := 0) hn u hag v w hA hA2 hT hH hS (ActR.none (by omega) _ _)⟩))⟩
  · intro _ x ex
    obtain rfl := step5 ex
    exact (hrec hlt _ ⟨rfl, mkRel hn hR hag hC hP hA hA2 hT hH hS hB⟩)
set_option maxHeartbeats 4000000 in
set_option maxRecDepth 100000 in
/-- what the law asks holds of every script -/
theorem pure_law (n : Nat) (xs : Nat → Int32) (h : n ≤ 2560) : p_L_law n xs (fun r => r = 1) := by
  unfold p_L_law p_X3_init p_X2_init p_X1_init p_X0_init p_X4_init
  have hC : Crt 0 (fun _ => 1, fun _ => 0, 0, 0, 0, 0) 0 0 0 0 (upd (upd (upd (fun _ => 0) (ix 0) 1) (ix 1) 1) (ix 2) 1) (fun _ => 0) := by
    refine ⟨rfl, rfl, rfl, rfl, fun k hk => ?_, fun k hk => by omega⟩
    rw [show ix 0 = 0 from rfl, show ix 1 = 1 from rfl, show ix 2 = 2 from rfl, upd_at, upd_at, upd_at]
    rcases (by omega : k = 0 ∨ k = 1 ∨ k = 2) with rfl | rfl | rfl <;> rfl
  have hR : Rg 0 (fun _ => 1, fun _ => 0, 0, 0, 0, 0) := ⟨fun i hi => by show 1 ≤ 9; omega, by show 0 < 1 + 1 + 1; omega, fun k hk => by omega, by show 0 < 2 ^ 0; omega, by show 0 < 2 ^ 0; omega, fun h => by omega⟩
  refine wle_cnt 3 (fun i (v : Int32 × (Nat → Int32)) => v.1 = nI i ∧ (∀ k, k < i → v.2 k = 1) ∧ ∀ k, 3 ≤ k → v.2 k = 0) ?_ _ 0 (Nat.zero_le _) ⟨rfl, fun k hk => by omega, fun k hk => rfl⟩
  rintro rec i ⟨l1, pg⟩ hi ⟨e1, hv, hz⟩ hrec
  dsimp only at e1 hv hz ⊢
  subst e1
  unfold b_X4_init_118
  have c3 : 3 ≤ nI i ↔ 3 ≤ i := nI_leI (a := 3) (by omega) (by omega)
  rw [c3]
  refine ⟨fun hni => ?_, fun hni => ⟨vp_in_nI (by omega) (by omega), fun x ex => ?_⟩⟩
  · have hP : Row 0 (fun _ => 1, fun _ => 0, 0, 0, 0, 0) pg := ⟨fun k hk => hv k (by omega), fun k hk => by omega, hz 21 (by omega), hz 22 (by omega), hz 23 (by omega), hz 24 (by omega)⟩
    refine wle_cnt (n / 5) InvL (fun rec2 k v hk hI hr2 => ?_) _ 0 (Nat.zero_le _) ⟨rfl, ?_⟩
    · exact law_step (post := fun r => r = 1) h xs hk rfl hI hr2
    · exact mkRel (n := 0) (h := 0) (c := 0) (t := 0) (tl := 0) (ag := fun _ => 0) (by omega) hR (fun p hp => by omega) hC hP (fun k hk => by omega) (fun k hk => by omega) ⟨by omega, fun j hj => by omega⟩ ⟨by omega, fun j hj => by omega⟩ (slots0 rfl rfl rfl rfl) (ActR.none (by omega) _ _)
  · rw [nI_1] at ex
    rw [ix_nI (by omega)]
    refine hrec (by omega) _ ⟨ex, fun k hk => ?_, fun k hk => ?_⟩
    · show upd pg _ _ k = 1
      rw [upd_at]
      by_cases e : k = i
      · rw [if_pos e]
      · rw [if_neg e]; exact hv k (by omega)
    · show upd pg _ _ k = 0
      rw [upd_at, if_neg (by omega)]; exact hz k hk
