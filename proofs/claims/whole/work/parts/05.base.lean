/-! The walk over symbolic states: XW E Z c n ws lv st pc says: from any heap that holds the world ws, with locals lv, stack st, at pc, the run comes to its end. -/
def jrem (x y : Int32) : Int32 := x - x / y * y
def jlrem (x y : Int64) : Int64 := x - x / y * y
def jshl (x y : Int32) : Int32 := x <<< (y &&& 31)
def jshr (x y : Int32) : Int32 := x >>> (y &&& 31)
def jushr (x y : Int32) : Int32 := (x.toUInt32 >>> (y.toUInt32 &&& Int32.toUInt32 31)).toInt32
def jlushr (x : Int64) (y : Int32) : Int64 := (x.toUInt64 >>> (y.toInt64.toUInt64 &&& Int64.toUInt64 63)).toInt64
def jlshl (x : Int64) (y : Int32) : Int64 := x <<< (y.toInt64 &&& 63)
def jmax (x y : Int32) : Int32 := if x < y then y else x
def jmin (x y : Int32) : Int32 := if y < x then y else x
def jabs (x : Int32) : Int32 := if 0 ≤ x then x else 0 - x
/-- how the walk names the places of an array -/
abbrev ix (i : Int32) : Nat := i.toNatClampNeg
def jbool (x : Int32) : Int32 := vp_nar .boolean x
def wys : Nat → Int32 := fun j => match j with
  | 0 => 1
  | 1 => 3
  | 2 => 9
  | 3 => 27
  | 4 => 81
  | _ => 243
/-- launch; the classes' numbers; the class of int arrays, of boolean arrays; where WAYS lies -/
abbrev XE : Type := Launch × va_G × ClassId × ClassId × Nat
abbrev cA (E : XE) (n : Nat) (f : Nat → Int32) : va_E := .inl (E.2.2.1, n, .inl f)
abbrev cB (E : XE) (n : Nat) (f : Nat → Int32) : va_E := .inl (E.2.2.2.1, n, .inl f)
abbrev cO (ci : Nat) (fs : List Value) : va_E := .inr (ci, fs)
abbrev xty (E : XE) : List (ClassId × FieldType) := [(E.2.2.1, .int), (E.2.2.2.1, .boolean)]
abbrev ZC : Type := (Program × Env × Room × State × MethodId × Array Value × List Frame × Method × Code) × ((Nat → Prop) × (State → Prop) × Nat)
/-- the statics, that nobody writes -/
def XSt (E : XE) (A : Nat → Prop) (U : State) (H : Heap) : Prop := va_Z "WallMirror$Choosing" "WAYS" "[I" (.ref E.2.2.2.2) A U H ∧ va_T .int E.2.2.2.2 6 (fun j => .int (wys j)) A U H
def XW (E : XE) (Z : ZC) (c n : Nat) (ws : va_W) (lv : List (Nat × Value)) (st : List Value) (pc : Nat) : Prop :=
  match Z with
  | ((p, e, R, s, m, args, below, meth, cd), (A, Q, nL)) => ∀ (H : Heap) (locs : List Loc) (ls : Array Slot), va_P E.2.1 vwCl ws H → va_D A ws → va_S A s.heap H locs → lv_has ls nL lv → W p E.1 e R s m args below meth cd H locs c n Q (F0 m pc ls st)
def XOK (E : XE) (Z : ZC) (own : String) (cc : ByteArray) (mL : Nat) (R0 : Room) : Prop :=
  match Z with
  | ((p, e, R, s, m, args, below, meth, cd), (A, Q, nL)) => p.tables.exec = Jvm.exec ∧ cd.code = cc ∧ cd.maxLocals = nL ∧ nL = mL ∧ s.vm.findClass own = some m.cls ∧ (∀ w ∈ WW, w.before args s = true) ∧ (∀ w ∈ xNst, va_Nw w s) ∧ va_K E.2.1 vwCl (xty E) s ∧ (∀ q, s.heap.size ≤ q → A q) ∧ R = R0 ∧ XSt E A s s.heap
def XNm (Z : ZC) (nm : String) : Prop := Z.1.2.2.2.2.2.2.2.1.name = nm
def RetI (E : XE) (Z : ZC) (cc : ByteArray) (c n : Nat) (post : Int32 → va_W → Prop) : Prop := ∀ (pc : Nat) (r : Int32) (ws : va_W) (lv : List (Nat × Value)), decode cc pc = .ok (.ireturn, 1) → post r ws → XW E Z c n ws lv [.int r] pc
def RetZ (E : XE) (Z : ZC) (cc : ByteArray) (c n : Nat) (post : Int32 → va_W → Prop) : Prop := ∀ (pc : Nat) (r : Int32) (ws : va_W) (lv : List (Nat × Value)), decode cc pc = .ok (.ireturn, 1) → narrow .boolean (.int r) = .int r → post r ws → XW E Z c n ws lv [.int r] pc
def RetL (E : XE) (Z : ZC) (cc : ByteArray) (c n : Nat) (post : Int64 → va_W → Prop) : Prop := ∀ (pc : Nat) (r : Int64) (ws : va_W) (lv : List (Nat × Value)), decode cc pc = .ok (.lreturn, 1) → post r ws → XW E Z c n ws lv [.long r] pc
def RetV (E : XE) (Z : ZC) (cc : ByteArray) (c n : Nat) (post : va_W → Prop) : Prop := ∀ (pc : Nat) (ws : va_W) (lv : List (Nat × Value)), decode cc pc = .ok (.return_, 1) → post ws → XW E Z c n ws lv [] pc
/-- a method's start, and what stands behind it -/
def XPre (E : XE) (ws : va_W) (sz : Nat) (U : State) : Prop := U.heap.size = sz ∧ va_P E.2.1 vwCl ws U.heap ∧ va_K E.2.1 vwCl (xty E) U ∧ va_D (fun _ => True) ws ∧ (∀ w ∈ xNst, va_Nw w U) ∧ XSt E (va_A ws sz) U U.heap
def XB (E : XE) (ws : va_W) (sz : Nat) : va_W → State → Prop := fun w t => va_P E.2.1 vwCl w t.heap ∧ va_K E.2.1 vwCl (xty E) t ∧ va_D (va_A ws sz) w
def ConI (E : XE) (y : MethodName) (cc : ByteArray) (mL : Nat) (ty : FieldType) (rm : Room) (mc ms : Nat) (av : List Value) (ws : va_W) (post : Int32 → va_W → Prop) : Prop := ∀ sz : Nat, Met E.1 y (.code y cc mL (some ty) :: WW) rm (va_Pc av (XPre E ws sz)) (va_Qi post (XB E ws sz) (va_A ws sz)) mc ms (va_A ws sz)
def ConL (E : XE) (y : MethodName) (cc : ByteArray) (mL : Nat) (rm : Room) (mc ms : Nat) (av : List Value) (ws : va_W) (post : Int64 → va_W → Prop) : Prop := ∀ sz : Nat, Met E.1 y (.code y cc mL (some .long) :: WW) rm (va_Pc av (XPre E ws sz)) (va_Ql post (XB E ws sz) (va_A ws sz)) mc ms (va_A ws sz)
def ConV (E : XE) (y : MethodName) (cc : ByteArray) (mL : Nat) (rm : Room) (mc ms : Nat) (av : List Value) (ws : va_W) (post : va_W → Prop) : Prop := ∀ sz : Nat, Met E.1 y (.code y cc mL none :: WW) rm (va_Pc av (XPre E ws sz)) (va_Qv post (XB E ws sz) (va_A ws sz)) mc ms (va_A ws sz)
theorem XSt.moved {E : XE} {A : Nat → Prop} {u U : State} {H : Heap} (hvm : u.vm.Alike U.vm) (h : XSt E A u H) : XSt E A U H := ⟨h.1.moved hvm, h.2.moved hvm⟩
theorem XSt.kept {E : XE} {A : Nat → Prop} {U : State} {H H1 : Heap} (h : XSt E A U H) (hq : ∀ a : Nat, a < H.size → ¬ A a → H1[a]? = H[a]?) : XSt E A U H1 := ⟨h.1.kept hq, h.2.kept hq⟩
theorem XSt.narrow {E : XE} {A B : Nat → Prop} {U : State} {H : Heap} (h : XSt E A U H) (hAB : ∀ q, B q → A q) : XSt E B U H := ⟨h.1.narrow hAB, h.2.narrow hAB⟩
theorem nst_same {u U : State} (h : u.vm = U.vm) (hN : ∀ w ∈ xNst, va_Nw w u) : ∀ w ∈ xNst, va_Nw w U := fun w hw => by
  rcases xNst_kind w hw with ⟨a, i, b, n, d, x, rfl⟩ | ⟨a, i, x, y, rfl⟩
  · exact va_Nw.same rfl h (hN _ hw)
  · exact va_Nw.same rfl h (hN _ hw)
theorem nst_warm {s U : State} (hW : s.WarmedH U.vm) (hN : ∀ w ∈ xNst, va_Nw w s) : ∀ w ∈ xNst, va_Nw w U := fun w hw => by
  rcases xNst_kind w hw with ⟨a, i, b, n, d, x, rfl⟩ | ⟨a, i, x, y, rfl⟩
  · exact va_Nw.warmF hW (hN _ hw)
  · exact va_Nw.warmM hW (hN _ hw)
theorem xblind {E : XE} {av : List Value} {ws : va_W} {sz : Nat} : FrameBlind (va_Pc av (XPre E ws sz)) := fun a U g mk q => by
  obtain ⟨q0, q1, qP, qK, qD, qN, qS⟩ := q
  exact ⟨q0, q1, qP, va_K.moved (u := U) (U := U.calling g mk a) (Vm.Alike.refl U.vm) qK, qD, nst_same (u := U) (U := U.calling g mk a) rfl qN, XSt.moved (u := U) (U := U.calling g mk a) (Vm.Alike.refl U.vm) qS⟩
theorem xgoodIn (y : MethodName) {cc : ByteArray} {mL : Nat} {ret : Option FieldType} (h : Cond.code y cc mL ret ∈ WW) : GoodIn WW (Cond.code y cc mL ret :: WW) := fun w hw => by
  rcases List.mem_cons.mp hw with rfl | hw
  · exact ⟨h, good_of_word (ww_good _ h).2⟩
  · exact ⟨hw, good_of_word (ww_good _ hw).2⟩

theorem ConI.of {E : XE} {y : MethodName} {cc : ByteArray} {mL : Nat} {rm : Room} {mc ms : Nat} {av : List Value} {ws : va_W} {post : Int32 → va_W → Prop} (hy : plainName y.cls = true) (hlen : (lg_sl av).length ≤ mL) (body : ∀ Z : ZC, XOK E Z y.cls cc mL rm → XNm Z y.name → RetI E Z cc mc ms post → XW E Z 0 0 ws (lv_args 0 av) [] 0) : ConI E y cc mL .int rm mc ms av ws post := by
  intro sz
  refine Met.ofW (cc := cc) (maxL := mL) (ret := some .int) hy rfl ?_
  intro p e s m args below meth c s₁ B hml hv
  obtain ⟨rfl, hsz, hP, hK, hD0, hN, hSt⟩ := hv
  have hx := B.exec
  have hb := B.bytes
  have hr := B.returns
  have hlocks := B.notSynchronized
  have hts := atoms_spec (ws := .code y cc mL (some .int) :: WW) B.pre
  have hown : s.vm.findClass y.cls = some m.cls := findClass_of_methodNamed B.named
  have hnm : meth.name = y.name := (name_of_methodNamed B.named B.method).1
  subst hsz
  have hD := hD0.self (sz := s.heap.size)
  have hl := lv_entry av (n := mL) hlen
  rw [lg_entry_eq]
  exact body ((p, e, rm, s, m, av.toArray, below, meth, c), (va_A ws s.heap.size, MQ below (va_Qi post (XB E ws s.heap.size) (va_A ws s.heap.size)) av.toArray s mc ms (va_A ws s.heap.size), mL)) ⟨hx, hb, hml, rfl, hown, fun w hw => hts w (List.mem_cons_of_mem _ hw), hN, hK, fun q h => Or.inr h, rfl, hSt⟩ hnm
    (fun pc r ws1 lv hd hp H locs ls hP1 hD1 hS1 hl1 => W.iret (v := r) hx hb hr (fun t ht hW => ⟨⟨r, ws1, rfl, hp, by rw [ht]; exact hP1, va_K.moved hW.alike hK, hD1⟩, hS1.F ht⟩) hS1.2.2 hd hlocks) s.heap [] _ hP hD va_S.rf hl
theorem ConIz.of {E : XE} {y : MethodName} {cc : ByteArray} {mL : Nat} {rm : Room} {mc ms : Nat} {av : List Value} {ws : va_W} {post : Int32 → va_W → Prop} (hy : plainName y.cls = true) (hlen : (lg_sl av).length ≤ mL) (body : ∀ Z : ZC, XOK E Z y.cls cc mL rm → XNm Z y.name → RetZ E Z cc mc ms post → XW E Z 0 0 ws (lv_args 0 av) [] 0) : ConI E y cc mL .boolean rm mc ms av ws post := by
  intro sz
  refine Met.ofW (cc := cc) (maxL := mL) (ret := some .boolean) hy rfl ?_
  intro p e s m args below meth c s₁ B hml hv
  obtain ⟨rfl, hsz, hP, hK, hD0, hN, hSt⟩ := hv
  have hx := B.exec
  have hb := B.bytes
  have hr := B.returns
  have hlocks := B.notSynchronized
  have hts := atoms_spec (ws := .code y cc mL (some .boolean) :: WW) B.pre
  have hown : s.vm.findClass y.cls = some m.cls := findClass_of_methodNamed B.named
  have hnm : meth.name = y.name := (name_of_methodNamed B.named B.method).1
  subst hsz
  have hD := hD0.self (sz := s.heap.size)
  have hl := lv_entry av (n := mL) hlen
  rw [lg_entry_eq]
  exact body ((p, e, rm, s, m, av.toArray, below, meth, c), (va_A ws s.heap.size, MQ below (va_Qi post (XB E ws s.heap.size) (va_A ws s.heap.size)) av.toArray s mc ms (va_A ws s.heap.size), mL)) ⟨hx, hb, hml, rfl, hown, fun w hw => hts w (List.mem_cons_of_mem _ hw), hN, hK, fun q h => Or.inr h, rfl, hSt⟩ hnm
    (fun pc r ws1 lv hd hn hp H locs ls hP1 hD1 hS1 hl1 => W.zret (v := r) (ty := .boolean) hx hb hr hn (fun t ht hW => ⟨⟨r, ws1, rfl, hp, by rw [ht]; exact hP1, va_K.moved hW.alike hK, hD1⟩, hS1.F ht⟩) hS1.2.2 hd hlocks) s.heap [] _ hP hD va_S.rf hl
theorem ConL.of {E : XE} {y : MethodName} {cc : ByteArray} {mL : Nat} {rm : Room} {mc ms : Nat} {av : List Value} {ws : va_W} {post : Int64 → va_W → Prop} (hy : plainName y.cls = true) (hlen : (lg_sl av).length ≤ mL) (body : ∀ Z : ZC, XOK E Z y.cls cc mL rm → XNm Z y.name → RetL E Z cc mc ms post → XW E Z 0 0 ws (lv_args 0 av) [] 0) : ConL E y cc mL rm mc ms av ws post := by
  intro sz
  refine Met.ofW (cc := cc) (maxL := mL) (ret := some .long) hy rfl ?_
  intro p e s m args below meth c s₁ B hml hv
  obtain ⟨rfl, hsz, hP, hK, hD0, hN, hSt⟩ := hv
  have hx := B.exec
  have hb := B.bytes
  have hr := B.returns
  have hlocks := B.notSynchronized
  have hts := atoms_spec (ws := .code y cc mL (some .long) :: WW) B.pre
  have hown : s.vm.findClass y.cls = some m.cls := findClass_of_methodNamed B.named
  have hnm : meth.name = y.name := (name_of_methodNamed B.named B.method).1
  subst hsz
  have hD := hD0.self (sz := s.heap.size)
  have hl := lv_entry av (n := mL) hlen
  rw [lg_entry_eq]
  exact body ((p, e, rm, s, m, av.toArray, below, meth, c), (va_A ws s.heap.size, MQ below (va_Ql post (XB E ws s.heap.size) (va_A ws s.heap.size)) av.toArray s mc ms (va_A ws s.heap.size), mL)) ⟨hx, hb, hml, rfl, hown, fun w hw => hts w (List.mem_cons_of_mem _ hw), hN, hK, fun q h => Or.inr h, rfl, hSt⟩ hnm
    (fun pc r ws1 lv hd hp H locs ls hP1 hD1 hS1 hl1 => W.lret (v := r) hx hb hr (fun t ht hW => ⟨⟨r, ws1, rfl, hp, by rw [ht]; exact hP1, va_K.moved hW.alike hK, hD1⟩, hS1.F ht⟩) hS1.2.2 hd hlocks) s.heap [] _ hP hD va_S.rf hl
theorem ConV.of {E : XE} {y : MethodName} {cc : ByteArray} {mL : Nat} {rm : Room} {mc ms : Nat} {av : List Value} {ws : va_W} {post : va_W → Prop} (hy : plainName y.cls = true) (hlen : (lg_sl av).length ≤ mL) (body : ∀ Z : ZC, XOK E Z y.cls cc mL rm → XNm Z y.name → RetV E Z cc mc ms post → XW E Z 0 0 ws (lv_args 0 av) [] 0) : ConV E y cc mL rm mc ms av ws post := by
  intro sz
  refine Met.ofW (cc := cc) (maxL := mL) (ret := none) hy rfl ?_
  intro p e s m args below meth c s₁ B hml hv
  obtain ⟨rfl, hsz, hP, hK, hD0, hN, hSt⟩ := hv
  have hx := B.exec
  have hb := B.bytes
  have hr := B.returns
  have hlocks := B.notSynchronized
  have hts := atoms_spec (ws := .code y cc mL (none) :: WW) B.pre
  have hown : s.vm.findClass y.cls = some m.cls := findClass_of_methodNamed B.named
  have hnm : meth.name = y.name := (name_of_methodNamed B.named B.method).1
  subst hsz
  have hD := hD0.self (sz := s.heap.size)
  have hl := lv_entry av (n := mL) hlen
  rw [lg_entry_eq]
  exact body ((p, e, rm, s, m, av.toArray, below, meth, c), (va_A ws s.heap.size, MQ below (va_Qv post (XB E ws s.heap.size) (va_A ws s.heap.size)) av.toArray s mc ms (va_A ws s.heap.size), mL)) ⟨hx, hb, hml, rfl, hown, fun w hw => hts w (List.mem_cons_of_mem _ hw), hN, hK, fun q h => Or.inr h, rfl, hSt⟩ hnm
    (fun pc ws1 lv hd hp H locs ls hP1 hD1 hS1 hl1 => W.vret hx hb hr (fun t ht hW => ⟨⟨ws1, rfl, hp, by rw [ht]; exact hP1, va_K.moved hW.alike hK, hD1⟩, hS1.F ht⟩) hS1.2.2 hd hlocks) s.heap [] _ hP hD va_S.rf hl
theorem x_lv {E : XE} {Z : ZC} {c n : Nat} {ws : va_W} {lv : List (Nat × Value)} {st : List Value} {pc : Nat} (ks : List Nat) {lv' : List (Nat × Value)} (hl' : lv_pick lv ks = lv') (kk : XW E Z c n ws lv' st pc) : XW E Z c n ws lv st pc := by
  obtain ⟨⟨p, e, R, s, m, args, below, meth, cd⟩, A, Q, nL⟩ := Z
  intro H locs ls hP hD hS hl
  exact kk H locs ls hP hD hS (lv_sub hl ks hl')
theorem x_ws {E : XE} {Z : ZC} {c n : Nat} {ws : va_W} {lv : List (Nat × Value)} {st : List Value} {pc : Nat} (is : List Nat) {ws' : va_W} (hs : is.map (fun i => ws[i]?) = ws'.map some) (hn : va_nd is = true) (kk : XW E Z c n ws' lv st pc) : XW E Z c n ws lv st pc := by
  obtain ⟨⟨p, e, R, s, m, args, below, meth, cd⟩, A, Q, nL⟩ := Z
  intro H locs ls hP hD hS hl
  have hs2 : is.filterMap (fun i => ws[i]?) = ws' := by
    have h1 := congrArg (fun l => l.filterMap id) hs
    simpa [List.filterMap_map, Function.comp_def] using h1
  exact kk H locs ls (hP.sub is hs2) (hD.sub is hn hs) hS hl
theorem x_topi {E : XE} {Z : ZC} {c n : Nat} {ws : va_W} {lv : List (Nat × Value)} {st : List Value} {pc : Nat} {x : Int32} (kk : ∀ y : Int32, y = x → XW E Z c n ws lv (.int y :: st) pc) : XW E Z c n ws lv (.int x :: st) pc := kk x rfl
theorem x_topl {E : XE} {Z : ZC} {c n : Nat} {ws : va_W} {lv : List (Nat × Value)} {st : List Value} {pc : Nat} {x : Int64} (kk : ∀ y : Int64, y = x → XW E Z c n ws lv (.long y :: st) pc) : XW E Z c n ws lv (.long x :: st) pc := kk x rfl
theorem x_widen {E : XE} {Z : ZC} {c n c' n' : Nat} {ws : va_W} {lv : List (Nat × Value)} {st : List Value} {pc : Nat} (h1 : c ≤ c') (h2 : n ≤ n') (kk : XW E Z c' n' ws lv st pc) : XW E Z c n ws lv st pc := by
  obtain ⟨⟨p, e, R, s, m, args, below, meth, cd⟩, A, Q, nL⟩ := Z
  intro H locs ls hP hD hS hl
  exact W.widen h1 h2 (kk H locs ls hP hD hS hl)
theorem x_iload_n {E : XE} {Z : ZC} {own : String} {cc : ByteArray} {mL : Nat} {R0 : Room} {c n : Nat} {ws : va_W} {lv : List (Nat × Value)} {st : List Value} {pc : Nat} {pc' : Nat} (hZ : XOK E Z own cc mL R0) {k : Fin 4} {x : Int32} (hd : decode cc pc = .ok (.iload_n k, 1)) (hp : pc + 1 = pc') (j : Nat) (hj : lv[j]? = some ((k : Nat), .int x)) (kk : XW E Z c n ws lv (.int x :: st) pc') : XW E Z c n ws lv st pc := by
  obtain ⟨⟨p, e, R, s, m, args, below, meth, cd⟩, A, Q, nL⟩ := Z
  obtain ⟨hx, hb, hml, rfl, hown, hts, hN, hK, hA, rfl, hSt⟩ := hZ
  intro H locs ls hP hD hS hl
  subst hp
  exact lv_iload_n hx hb hd rfl (lv_at hl j hj) (kk H locs ls hP hD hS hl)
theorem x_iload {E : XE} {Z : ZC} {own : String} {cc : ByteArray} {mL : Nat} {R0 : Room} {c n : Nat} {ws : va_W} {lv : List (Nat × Value)} {st : List Value} {pc : Nat} {pc' : Nat} (hZ : XOK E Z own cc mL R0) {i : Nat} {x : Int32} (hd : decode cc pc = .ok (.iload i, 2)) (hp : pc + 2 = pc') (j : Nat) (hj : lv[j]? = some (i, .int x)) (kk : XW E Z c n ws lv (.int x :: st) pc') : XW E Z c n ws lv st pc := by
  obtain ⟨⟨p, e, R, s, m, args, below, meth, cd⟩, A, Q, nL⟩ := Z
  obtain ⟨hx, hb, hml, rfl, hown, hts, hN, hK, hA, rfl, hSt⟩ := hZ
  intro H locs ls hP hD hS hl
  subst hp
  exact lv_iload hx hb hd (lv_at hl j hj) (kk H locs ls hP hD hS hl)
theorem x_istore_n {E : XE} {Z : ZC} {own : String} {cc : ByteArray} {mL : Nat} {R0 : Room} {c n : Nat} {ws : va_W} {lv : List (Nat × Value)} {st : List Value} {pc : Nat} {pc' : Nat} (hZ : XOK E Z own cc mL R0) {k : Fin 4} {i : Nat} {x : Int32} {lv' : List (Nat × Value)} (hd : decode cc pc = .ok (.istore_n k, 1)) (hp : pc + 1 = pc') (hi : (k : Nat) = i) (hn : i < mL) (hl' : (i, Value.int x) :: lv.filter (fun q => !(q.1 == i) && !(q.1 + 1 == i && q.2.category == 2)) = lv') (kk : XW E Z c n ws lv' st pc') : XW E Z c n ws lv (.int x :: st) pc := by
  obtain ⟨⟨p, e, R, s, m, args, below, meth, cd⟩, A, Q, nL⟩ := Z
  obtain ⟨hx, hb, hml, rfl, hown, hts, hN, hK, hA, rfl, hSt⟩ := hZ
  intro H locs ls hP hD hS hl
  subst hp
  exact lv_istore_n hx hb hd hi hl hn hl' (fun ls' hl2 => kk H locs ls' hP hD hS hl2)
theorem x_istore {E : XE} {Z : ZC} {own : String} {cc : ByteArray} {mL : Nat} {R0 : Room} {c n : Nat} {ws : va_W} {lv : List (Nat × Value)} {st : List Value} {pc : Nat} {pc' : Nat} (hZ : XOK E Z own cc mL R0) {i : Nat} {x : Int32} {lv' : List (Nat × Value)} (hd : decode cc pc = .ok (.istore i, 2)) (hp : pc + 2 = pc') (hn : i < mL) (hl' : (i, Value.int x) :: lv.filter (fun q => !(q.1 == i) && !(q.1 + 1 == i && q.2.category == 2)) = lv') (kk : XW E Z c n ws lv' st pc') : XW E Z c n ws lv (.int x :: st) pc := by
  obtain ⟨⟨p, e, R, s, m, args, below, meth, cd⟩, A, Q, nL⟩ := Z
  obtain ⟨hx, hb, hml, rfl, hown, hts, hN, hK, hA, rfl, hSt⟩ := hZ
  intro H locs ls hP hD hS hl
  subst hp
  exact lv_istore hx hb hd hl hn hl' (fun ls' hl2 => kk H locs ls' hP hD hS hl2)
theorem x_lload_n {E : XE} {Z : ZC} {own : String} {cc : ByteArray} {mL : Nat} {R0 : Room} {c n : Nat} {ws : va_W} {lv : List (Nat × Value)} {st : List Value} {pc : Nat} {pc' : Nat} (hZ : XOK E Z own cc mL R0) {k : Fin 4} {x : Int64} (hd : decode cc pc = .ok (.lload_n k, 1)) (hp : pc + 1 = pc') (j : Nat) (hj : lv[j]? = some ((k : Nat), .long x)) (kk : XW E Z c n ws lv (.long x :: st) pc') : XW E Z c n ws lv st pc := by
  obtain ⟨⟨p, e, R, s, m, args, below, meth, cd⟩, A, Q, nL⟩ := Z
  obtain ⟨hx, hb, hml, rfl, hown, hts, hN, hK, hA, rfl, hSt⟩ := hZ
  intro H locs ls hP hD hS hl
  subst hp
  exact lv_lload_n hx hb hd rfl (lv_at hl j hj) (kk H locs ls hP hD hS hl)
theorem x_lload {E : XE} {Z : ZC} {own : String} {cc : ByteArray} {mL : Nat} {R0 : Room} {c n : Nat} {ws : va_W} {lv : List (Nat × Value)} {st : List Value} {pc : Nat} {pc' : Nat} (hZ : XOK E Z own cc mL R0) {i : Nat} {x : Int64} (hd : decode cc pc = .ok (.lload i, 2)) (hp : pc + 2 = pc') (j : Nat) (hj : lv[j]? = some (i, .long x)) (kk : XW E Z c n ws lv (.long x :: st) pc') : XW E Z c n ws lv st pc := by
  obtain ⟨⟨p, e, R, s, m, args, below, meth, cd⟩, A, Q, nL⟩ := Z
  obtain ⟨hx, hb, hml, rfl, hown, hts, hN, hK, hA, rfl, hSt⟩ := hZ
  intro H locs ls hP hD hS hl
  subst hp
  exact lv_lload hx hb hd (lv_at hl j hj) (kk H locs ls hP hD hS hl)
theorem x_lstore_n {E : XE} {Z : ZC} {own : String} {cc : ByteArray} {mL : Nat} {R0 : Room} {c n : Nat} {ws : va_W} {lv : List (Nat × Value)} {st : List Value} {pc : Nat} {pc' : Nat} (hZ : XOK E Z own cc mL R0) {k : Fin 4} {i : Nat} {x : Int64} {lv' : List (Nat × Value)} (hd : decode cc pc = .ok (.lstore_n k, 1)) (hp : pc + 1 = pc') (hi : (k : Nat) = i) (hn : i + 1 < mL) (hl' : (i, Value.long x) :: lv.filter (fun q => !(q.1 == i) && (!(q.1 == i + 1) && !(q.1 + 1 == i && q.2.category == 2))) = lv') (kk : XW E Z c n ws lv' st pc') : XW E Z c n ws lv (.long x :: st) pc := by
  obtain ⟨⟨p, e, R, s, m, args, below, meth, cd⟩, A, Q, nL⟩ := Z
  obtain ⟨hx, hb, hml, rfl, hown, hts, hN, hK, hA, rfl, hSt⟩ := hZ
  intro H locs ls hP hD hS hl
  subst hp
  exact lv_lstore_n hx hb hd hi hl hn hl' (fun ls' hl2 => kk H locs ls' hP hD hS hl2)
theorem x_lstore {E : XE} {Z : ZC} {own : String} {cc : ByteArray} {mL : Nat} {R0 : Room} {c n : Nat} {ws : va_W} {lv : List (Nat × Value)} {st : List Value} {pc : Nat} {pc' : Nat} (hZ : XOK E Z own cc mL R0) {i : Nat} {x : Int64} {lv' : List (Nat × Value)} (hd : decode cc pc = .ok (.lstore i, 2)) (hp : pc + 2 = pc') (hn : i + 1 < mL) (hl' : (i, Value.long x) :: lv.filter (fun q => !(q.1 == i) && (!(q.1 == i + 1) && !(q.1 + 1 == i && q.2.category == 2))) = lv') (kk : XW E Z c n ws lv' st pc') : XW E Z c n ws lv (.long x :: st) pc := by
  obtain ⟨⟨p, e, R, s, m, args, below, meth, cd⟩, A, Q, nL⟩ := Z
  obtain ⟨hx, hb, hml, rfl, hown, hts, hN, hK, hA, rfl, hSt⟩ := hZ
  intro H locs ls hP hD hS hl
  subst hp
  exact lv_lstore hx hb hd hl hn hl' (fun ls' hl2 => kk H locs ls' hP hD hS hl2)
theorem x_aload_n {E : XE} {Z : ZC} {own : String} {cc : ByteArray} {mL : Nat} {R0 : Room} {c n : Nat} {ws : va_W} {lv : List (Nat × Value)} {st : List Value} {pc : Nat} {pc' : Nat} (hZ : XOK E Z own cc mL R0) {k : Fin 4} {x : Nat} (hd : decode cc pc = .ok (.aload_n k, 1)) (hp : pc + 1 = pc') (j : Nat) (hj : lv[j]? = some ((k : Nat), .ref x)) (kk : XW E Z c n ws lv (.ref x :: st) pc') : XW E Z c n ws lv st pc := by
  obtain ⟨⟨p, e, R, s, m, args, below, meth, cd⟩, A, Q, nL⟩ := Z
  obtain ⟨hx, hb, hml, rfl, hown, hts, hN, hK, hA, rfl, hSt⟩ := hZ
  intro H locs ls hP hD hS hl
  subst hp
  exact lv_aload_n hx hb hd rfl (lv_at hl j hj) (kk H locs ls hP hD hS hl)
theorem x_aload {E : XE} {Z : ZC} {own : String} {cc : ByteArray} {mL : Nat} {R0 : Room} {c n : Nat} {ws : va_W} {lv : List (Nat × Value)} {st : List Value} {pc : Nat} {pc' : Nat} (hZ : XOK E Z own cc mL R0) {i : Nat} {x : Nat} (hd : decode cc pc = .ok (.aload i, 2)) (hp : pc + 2 = pc') (j : Nat) (hj : lv[j]? = some (i, .ref x)) (kk : XW E Z c n ws lv (.ref x :: st) pc') : XW E Z c n ws lv st pc := by
  obtain ⟨⟨p, e, R, s, m, args, below, meth, cd⟩, A, Q, nL⟩ := Z
  obtain ⟨hx, hb, hml, rfl, hown, hts, hN, hK, hA, rfl, hSt⟩ := hZ
  intro H locs ls hP hD hS hl
  subst hp
  exact lv_aload hx hb hd (lv_at hl j hj) (kk H locs ls hP hD hS hl)
theorem x_astore_n {E : XE} {Z : ZC} {own : String} {cc : ByteArray} {mL : Nat} {R0 : Room} {c n : Nat} {ws : va_W} {lv : List (Nat × Value)} {st : List Value} {pc : Nat} {pc' : Nat} (hZ : XOK E Z own cc mL R0) {k : Fin 4} {i : Nat} {x : Nat} {lv' : List (Nat × Value)} (hd : decode cc pc = .ok (.astore_n k, 1)) (hp : pc + 1 = pc') (hi : (k : Nat) = i) (hn : i < mL) (hl' : (i, Value.ref x) :: lv.filter (fun q => !(q.1 == i) && !(q.1 + 1 == i && q.2.category == 2)) = lv') (kk : XW E Z c n ws lv' st pc') : XW E Z c n ws lv (.ref x :: st) pc := by
  obtain ⟨⟨p, e, R, s, m, args, below, meth, cd⟩, A, Q, nL⟩ := Z
  obtain ⟨hx, hb, hml, rfl, hown, hts, hN, hK, hA, rfl, hSt⟩ := hZ
  intro H locs ls hP hD hS hl
  subst hp
  exact lv_astore_n hx hb hd hi hl hn hl' (fun ls' hl2 => kk H locs ls' hP hD hS hl2)
theorem x_astore {E : XE} {Z : ZC} {own : String} {cc : ByteArray} {mL : Nat} {R0 : Room} {c n : Nat} {ws : va_W} {lv : List (Nat × Value)} {st : List Value} {pc : Nat} {pc' : Nat} (hZ : XOK E Z own cc mL R0) {i : Nat} {x : Nat} {lv' : List (Nat × Value)} (hd : decode cc pc = .ok (.astore i, 2)) (hp : pc + 2 = pc') (hn : i < mL) (hl' : (i, Value.ref x) :: lv.filter (fun q => !(q.1 == i) && !(q.1 + 1 == i && q.2.category == 2)) = lv') (kk : XW E Z c n ws lv' st pc') : XW E Z c n ws lv (.ref x :: st) pc := by
  obtain ⟨⟨p, e, R, s, m, args, below, meth, cd⟩, A, Q, nL⟩ := Z
  obtain ⟨hx, hb, hml, rfl, hown, hts, hN, hK, hA, rfl, hSt⟩ := hZ
  intro H locs ls hP hD hS hl
  subst hp
  exact lv_astore hx hb hd hl hn hl' (fun ls' hl2 => kk H locs ls' hP hD hS hl2)
theorem x_iinc {E : XE} {Z : ZC} {own : String} {cc : ByteArray} {mL : Nat} {R0 : Room} {c n : Nat} {ws : va_W} {lv : List (Nat × Value)} {st : List Value} {pc : Nat} {pc' : Nat} (hZ : XOK E Z own cc mL R0) {i : Nat} {z : Int} {x v : Int32} {lv' : List (Nat × Value)} (hd : decode cc pc = .ok (.iinc i z, 3)) (hp : pc + 3 = pc') (j : Nat) (hj : lv[j]? = some (i, .int x)) (hv : x + Int32.ofInt z = v) (hn : i < mL) (hl' : (i, Value.int v) :: lv.filter (fun q => !(q.1 == i) && !(q.1 + 1 == i && q.2.category == 2)) = lv') (kk : XW E Z c n ws lv' st pc') : XW E Z c n ws lv st pc := by
  obtain ⟨⟨p, e, R, s, m, args, below, meth, cd⟩, A, Q, nL⟩ := Z
  obtain ⟨hx, hb, hml, rfl, hown, hts, hN, hK, hA, rfl, hSt⟩ := hZ
  intro H locs ls hP hD hS hl
  subst hp
  exact lv_iinc hx hb hd hl hj hv hn hl' (fun ls' hl2 => kk H locs ls' hP hD hS hl2)
theorem x_iconst {E : XE} {Z : ZC} {own : String} {cc : ByteArray} {mL : Nat} {R0 : Room} {c n : Nat} {ws : va_W} {lv : List (Nat × Value)} {st : List Value} {pc : Nat} {pc' : Nat} (hZ : XOK E Z own cc mL R0) {z : Int} {v : Int32} (hv : Int32.ofInt z = v) (hd : decode cc pc = .ok (.iconst z, 1)) (hp : pc + 1 = pc') (kk : XW E Z c n ws lv (.int v :: st) pc') : XW E Z c n ws lv st pc := by
  obtain ⟨⟨p, e, R, s, m, args, below, meth, cd⟩, A, Q, nL⟩ := Z
  obtain ⟨hx, hb, hml, rfl, hown, hts, hN, hK, hA, rfl, hSt⟩ := hZ
  intro H locs ls hP hD hS hl
  subst hp
  exact lv_iconst hx hb hd hv (kk H locs ls hP hD hS hl)
theorem x_bipush {E : XE} {Z : ZC} {own : String} {cc : ByteArray} {mL : Nat} {R0 : Room} {c n : Nat} {ws : va_W} {lv : List (Nat × Value)} {st : List Value} {pc : Nat} {pc' : Nat} (hZ : XOK E Z own cc mL R0) {z : Int} {v : Int32} (hv : (Int8.ofInt z).toInt32 = v) (hd : decode cc pc = .ok (.bipush z, 2)) (hp : pc + 2 = pc') (kk : XW E Z c n ws lv (.int v :: st) pc') : XW E Z c n ws lv st pc := by
  obtain ⟨⟨p, e, R, s, m, args, below, meth, cd⟩, A, Q, nL⟩ := Z
  obtain ⟨hx, hb, hml, rfl, hown, hts, hN, hK, hA, rfl, hSt⟩ := hZ
  intro H locs ls hP hD hS hl
  subst hp
  exact lv_bipush hx hb hd hv (kk H locs ls hP hD hS hl)
theorem x_sipush {E : XE} {Z : ZC} {own : String} {cc : ByteArray} {mL : Nat} {R0 : Room} {c n : Nat} {ws : va_W} {lv : List (Nat × Value)} {st : List Value} {pc : Nat} {pc' : Nat} (hZ : XOK E Z own cc mL R0) {z : Int} {v : Int32} (hv : (Int16.ofInt z).toInt32 = v) (hd : decode cc pc = .ok (.sipush z, 3)) (hp : pc + 3 = pc') (kk : XW E Z c n ws lv (.int v :: st) pc') : XW E Z c n ws lv st pc := by
  obtain ⟨⟨p, e, R, s, m, args, below, meth, cd⟩, A, Q, nL⟩ := Z
  obtain ⟨hx, hb, hml, rfl, hown, hts, hN, hK, hA, rfl, hSt⟩ := hZ
  intro H locs ls hP hD hS hl
  subst hp
  exact lv_sipush hx hb hd hv (kk H locs ls hP hD hS hl)
theorem x_lconst {E : XE} {Z : ZC} {own : String} {cc : ByteArray} {mL : Nat} {R0 : Room} {c n : Nat} {ws : va_W} {lv : List (Nat × Value)} {st : List Value} {pc : Nat} {pc' : Nat} (hZ : XOK E Z own cc mL R0) {z : Fin 2} {v : Int64} (hv : Int64.ofNat (z : Nat) = v) (hd : decode cc pc = .ok (.lconst z, 1)) (hp : pc + 1 = pc') (kk : XW E Z c n ws lv (.long v :: st) pc') : XW E Z c n ws lv st pc := by
  obtain ⟨⟨p, e, R, s, m, args, below, meth, cd⟩, A, Q, nL⟩ := Z
  obtain ⟨hx, hb, hml, rfl, hown, hts, hN, hK, hA, rfl, hSt⟩ := hZ
  intro H locs ls hP hD hS hl
  subst hp
  exact lv_lconst hx hb hd hv (kk H locs ls hP hD hS hl)
theorem x_ldc {E : XE} {Z : ZC} {own : String} {cc : ByteArray} {mL : Nat} {R0 : Room} {c n : Nat} {ws : va_W} {lv : List (Nat × Value)} {st : List Value} {pc : Nat} {pc' : Nat} (hZ : XOK E Z own cc mL R0) {i : Nat} {v : Int32} (hk : Cond.constant own i v ∈ WW) (hd : decode cc pc = .ok (.ldc i, 2)) (hp : pc + 2 = pc') (kk : XW E Z c n ws lv (.int v :: st) pc') : XW E Z c n ws lv st pc := by
  obtain ⟨⟨p, e, R, s, m, args, below, meth, cd⟩, A, Q, nL⟩ := Z
  obtain ⟨hx, hb, hml, rfl, hown, hts, hN, hK, hA, rfl, hSt⟩ := hZ
  intro H locs ls hP hD hS hl
  subst hp
  exact lv_ldc hx hb hown (hts _ hk) hd (kk H locs ls hP hD hS hl)
theorem x_ldcw {E : XE} {Z : ZC} {own : String} {cc : ByteArray} {mL : Nat} {R0 : Room} {c n : Nat} {ws : va_W} {lv : List (Nat × Value)} {st : List Value} {pc : Nat} {pc' : Nat} (hZ : XOK E Z own cc mL R0) {i : Nat} {v : Int32} (hk : Cond.constant own i v ∈ WW) (hd : decode cc pc = .ok (.ldc_w i, 3)) (hp : pc + 3 = pc') (kk : XW E Z c n ws lv (.int v :: st) pc') : XW E Z c n ws lv st pc := by
  obtain ⟨⟨p, e, R, s, m, args, below, meth, cd⟩, A, Q, nL⟩ := Z
  obtain ⟨hx, hb, hml, rfl, hown, hts, hN, hK, hA, rfl, hSt⟩ := hZ
  intro H locs ls hP hD hS hl
  subst hp
  exact lv_ldcw hx hb hown (hts _ hk) hd (kk H locs ls hP hD hS hl)
theorem x_ldc2 {E : XE} {Z : ZC} {own : String} {cc : ByteArray} {mL : Nat} {R0 : Room} {c n : Nat} {ws : va_W} {lv : List (Nat × Value)} {st : List Value} {pc : Nat} {pc' : Nat} (hZ : XOK E Z own cc mL R0) {i : Nat} {v : Int64} (hk : Cond.constantLong own i v ∈ WW) (hd : decode cc pc = .ok (.ldc2_w i, 3)) (hp : pc + 3 = pc') (kk : XW E Z c n ws lv (.long v :: st) pc') : XW E Z c n ws lv st pc := by
  obtain ⟨⟨p, e, R, s, m, args, below, meth, cd⟩, A, Q, nL⟩ := Z
  obtain ⟨hx, hb, hml, rfl, hown, hts, hN, hK, hA, rfl, hSt⟩ := hZ
  intro H locs ls hP hD hS hl
  subst hp
  exact lv_ldc2 hx hb hown (hts _ hk) hd (kk H locs ls hP hD hS hl)
theorem x_iadd {E : XE} {Z : ZC} {own : String} {cc : ByteArray} {mL : Nat} {R0 : Room} {c n : Nat} {ws : va_W} {lv : List (Nat × Value)} {st : List Value} {pc : Nat} {pc' : Nat} (hZ : XOK E Z own cc mL R0) {x y : Int32} (hd : decode cc pc = .ok (.iadd, 1)) (hp : pc + 1 = pc') (kk : XW E Z c n ws lv (.int (x + y) :: st) pc') : XW E Z c n ws lv (.int y :: .int x :: st) pc := by
  obtain ⟨⟨p, e, R, s, m, args, below, meth, cd⟩, A, Q, nL⟩ := Z
  obtain ⟨hx, hb, hml, rfl, hown, hts, hN, hK, hA, rfl, hSt⟩ := hZ
  intro H locs ls hP hD hS hl
  subst hp
  exact lv_iadd hx hb hd (kk H locs ls hP hD hS hl)
theorem x_isub {E : XE} {Z : ZC} {own : String} {cc : ByteArray} {mL : Nat} {R0 : Room} {c n : Nat} {ws : va_W} {lv : List (Nat × Value)} {st : List Value} {pc : Nat} {pc' : Nat} (hZ : XOK E Z own cc mL R0) {x y : Int32} (hd : decode cc pc = .ok (.isub, 1)) (hp : pc + 1 = pc') (kk : XW E Z c n ws lv (.int (x - y) :: st) pc') : XW E Z c n ws lv (.int y :: .int x :: st) pc := by
  obtain ⟨⟨p, e, R, s, m, args, below, meth, cd⟩, A, Q, nL⟩ := Z
  obtain ⟨hx, hb, hml, rfl, hown, hts, hN, hK, hA, rfl, hSt⟩ := hZ
  intro H locs ls hP hD hS hl
  subst hp
  exact lv_isub hx hb hd (kk H locs ls hP hD hS hl)
theorem x_imul {E : XE} {Z : ZC} {own : String} {cc : ByteArray} {mL : Nat} {R0 : Room} {c n : Nat} {ws : va_W} {lv : List (Nat × Value)} {st : List Value} {pc : Nat} {pc' : Nat} (hZ : XOK E Z own cc mL R0) {x y : Int32} (hd : decode cc pc = .ok (.imul, 1)) (hp : pc + 1 = pc') (kk : XW E Z c n ws lv (.int (x * y) :: st) pc') : XW E Z c n ws lv (.int y :: .int x :: st) pc := by
  obtain ⟨⟨p, e, R, s, m, args, below, meth, cd⟩, A, Q, nL⟩ := Z
  obtain ⟨hx, hb, hml, rfl, hown, hts, hN, hK, hA, rfl, hSt⟩ := hZ
  intro H locs ls hP hD hS hl
  subst hp
  exact lv_imul hx hb hd (kk H locs ls hP hD hS hl)
theorem x_iand {E : XE} {Z : ZC} {own : String} {cc : ByteArray} {mL : Nat} {R0 : Room} {c n : Nat} {ws : va_W} {lv : List (Nat × Value)} {st : List Value} {pc : Nat} {pc' : Nat} (hZ : XOK E Z own cc mL R0) {x y : Int32} (hd : decode cc pc = .ok (.iand, 1)) (hp : pc + 1 = pc') (kk : XW E Z c n ws lv (.int (x &&& y) :: st) pc') : XW E Z c n ws lv (.int y :: .int x :: st) pc := by
  obtain ⟨⟨p, e, R, s, m, args, below, meth, cd⟩, A, Q, nL⟩ := Z
  obtain ⟨hx, hb, hml, rfl, hown, hts, hN, hK, hA, rfl, hSt⟩ := hZ
  intro H locs ls hP hD hS hl
  subst hp
  exact lv_iand hx hb hd (kk H locs ls hP hD hS hl)
theorem x_ior {E : XE} {Z : ZC} {own : String} {cc : ByteArray} {mL : Nat} {R0 : Room} {c n : Nat} {ws : va_W} {lv : List (Nat × Value)} {st : List Value} {pc : Nat} {pc' : Nat} (hZ : XOK E Z own cc mL R0) {x y : Int32} (hd : decode cc pc = .ok (.ior, 1)) (hp : pc + 1 = pc') (kk : XW E Z c n ws lv (.int (x ||| y) :: st) pc') : XW E Z c n ws lv (.int y :: .int x :: st) pc := by
  obtain ⟨⟨p, e, R, s, m, args, below, meth, cd⟩, A, Q, nL⟩ := Z
  obtain ⟨hx, hb, hml, rfl, hown, hts, hN, hK, hA, rfl, hSt⟩ := hZ
  intro H locs ls hP hD hS hl
  subst hp
  exact lv_ior hx hb hd (kk H locs ls hP hD hS hl)
theorem x_ixor {E : XE} {Z : ZC} {own : String} {cc : ByteArray} {mL : Nat} {R0 : Room} {c n : Nat} {ws : va_W} {lv : List (Nat × Value)} {st : List Value} {pc : Nat} {pc' : Nat} (hZ : XOK E Z own cc mL R0) {x y : Int32} (hd : decode cc pc = .ok (.ixor, 1)) (hp : pc + 1 = pc') (kk : XW E Z c n ws lv (.int (x ^^^ y) :: st) pc') : XW E Z c n ws lv (.int y :: .int x :: st) pc := by
  obtain ⟨⟨p, e, R, s, m, args, below, meth, cd⟩, A, Q, nL⟩ := Z
  obtain ⟨hx, hb, hml, rfl, hown, hts, hN, hK, hA, rfl, hSt⟩ := hZ
  intro H locs ls hP hD hS hl
  subst hp
  exact lv_ixor hx hb hd (kk H locs ls hP hD hS hl)
theorem x_ishl {E : XE} {Z : ZC} {own : String} {cc : ByteArray} {mL : Nat} {R0 : Room} {c n : Nat} {ws : va_W} {lv : List (Nat × Value)} {st : List Value} {pc : Nat} {pc' : Nat} (hZ : XOK E Z own cc mL R0) {x y : Int32} (hd : decode cc pc = .ok (.ishl, 1)) (hp : pc + 1 = pc') (kk : XW E Z c n ws lv (.int (jshl x y) :: st) pc') : XW E Z c n ws lv (.int y :: .int x :: st) pc := by
  obtain ⟨⟨p, e, R, s, m, args, below, meth, cd⟩, A, Q, nL⟩ := Z
  obtain ⟨hx, hb, hml, rfl, hown, hts, hN, hK, hA, rfl, hSt⟩ := hZ
  intro H locs ls hP hD hS hl
  subst hp
  exact lv_ishl hx hb hd (kk H locs ls hP hD hS hl)
theorem x_ishr {E : XE} {Z : ZC} {own : String} {cc : ByteArray} {mL : Nat} {R0 : Room} {c n : Nat} {ws : va_W} {lv : List (Nat × Value)} {st : List Value} {pc : Nat} {pc' : Nat} (hZ : XOK E Z own cc mL R0) {x y : Int32} (hd : decode cc pc = .ok (.ishr, 1)) (hp : pc + 1 = pc') (kk : XW E Z c n ws lv (.int (jshr x y) :: st) pc') : XW E Z c n ws lv (.int y :: .int x :: st) pc := by
  obtain ⟨⟨p, e, R, s, m, args, below, meth, cd⟩, A, Q, nL⟩ := Z
  obtain ⟨hx, hb, hml, rfl, hown, hts, hN, hK, hA, rfl, hSt⟩ := hZ
  intro H locs ls hP hD hS hl
  subst hp
  exact lv_ishr hx hb hd (kk H locs ls hP hD hS hl)
theorem x_ladd {E : XE} {Z : ZC} {own : String} {cc : ByteArray} {mL : Nat} {R0 : Room} {c n : Nat} {ws : va_W} {lv : List (Nat × Value)} {st : List Value} {pc : Nat} {pc' : Nat} (hZ : XOK E Z own cc mL R0) {x y : Int64} (hd : decode cc pc = .ok (.ladd, 1)) (hp : pc + 1 = pc') (kk : XW E Z c n ws lv (.long (x + y) :: st) pc') : XW E Z c n ws lv (.long y :: .long x :: st) pc := by
  obtain ⟨⟨p, e, R, s, m, args, below, meth, cd⟩, A, Q, nL⟩ := Z
  obtain ⟨hx, hb, hml, rfl, hown, hts, hN, hK, hA, rfl, hSt⟩ := hZ
  intro H locs ls hP hD hS hl
  subst hp
  exact lv_ladd hx hb hd (kk H locs ls hP hD hS hl)
theorem x_lsub {E : XE} {Z : ZC} {own : String} {cc : ByteArray} {mL : Nat} {R0 : Room} {c n : Nat} {ws : va_W} {lv : List (Nat × Value)} {st : List Value} {pc : Nat} {pc' : Nat} (hZ : XOK E Z own cc mL R0) {x y : Int64} (hd : decode cc pc = .ok (.lsub, 1)) (hp : pc + 1 = pc') (kk : XW E Z c n ws lv (.long (x - y) :: st) pc') : XW E Z c n ws lv (.long y :: .long x :: st) pc := by
  obtain ⟨⟨p, e, R, s, m, args, below, meth, cd⟩, A, Q, nL⟩ := Z
  obtain ⟨hx, hb, hml, rfl, hown, hts, hN, hK, hA, rfl, hSt⟩ := hZ
  intro H locs ls hP hD hS hl
  subst hp
  exact lv_lsub hx hb hd (kk H locs ls hP hD hS hl)
theorem x_lmul {E : XE} {Z : ZC} {own : String} {cc : ByteArray} {mL : Nat} {R0 : Room} {c n : Nat} {ws : va_W} {lv : List (Nat × Value)} {st : List Value} {pc : Nat} {pc' : Nat} (hZ : XOK E Z own cc mL R0) {x y : Int64} (hd : decode cc pc = .ok (.lmul, 1)) (hp : pc + 1 = pc') (kk : XW E Z c n ws lv (.long (x * y) :: st) pc') : XW E Z c n ws lv (.long y :: .long x :: st) pc := by
  obtain ⟨⟨p, e, R, s, m, args, below, meth, cd⟩, A, Q, nL⟩ := Z
  obtain ⟨hx, hb, hml, rfl, hown, hts, hN, hK, hA, rfl, hSt⟩ := hZ
  intro H locs ls hP hD hS hl
  subst hp
  exact lv_lmul hx hb hd (kk H locs ls hP hD hS hl)
theorem x_land {E : XE} {Z : ZC} {own : String} {cc : ByteArray} {mL : Nat} {R0 : Room} {c n : Nat} {ws : va_W} {lv : List (Nat × Value)} {st : List Value} {pc : Nat} {pc' : Nat} (hZ : XOK E Z own cc mL R0) {x y : Int64} (hd : decode cc pc = .ok (.land, 1)) (hp : pc + 1 = pc') (kk : XW E Z c n ws lv (.long (x &&& y) :: st) pc') : XW E Z c n ws lv (.long y :: .long x :: st) pc := by
  obtain ⟨⟨p, e, R, s, m, args, below, meth, cd⟩, A, Q, nL⟩ := Z
  obtain ⟨hx, hb, hml, rfl, hown, hts, hN, hK, hA, rfl, hSt⟩ := hZ
  intro H locs ls hP hD hS hl
  subst hp
  exact lv_land hx hb hd (kk H locs ls hP hD hS hl)
theorem x_lor {E : XE} {Z : ZC} {own : String} {cc : ByteArray} {mL : Nat} {R0 : Room} {c n : Nat} {ws : va_W} {lv : List (Nat × Value)} {st : List Value} {pc : Nat} {pc' : Nat} (hZ : XOK E Z own cc mL R0) {x y : Int64} (hd : decode cc pc = .ok (.lor, 1)) (hp : pc + 1 = pc') (kk : XW E Z c n ws lv (.long (x ||| y) :: st) pc') : XW E Z c n ws lv (.long y :: .long x :: st) pc := by
  obtain ⟨⟨p, e, R, s, m, args, below, meth, cd⟩, A, Q, nL⟩ := Z
  obtain ⟨hx, hb, hml, rfl, hown, hts, hN, hK, hA, rfl, hSt⟩ := hZ
  intro H locs ls hP hD hS hl
  subst hp
  exact lv_lor hx hb hd (kk H locs ls hP hD hS hl)
theorem x_idiv {E : XE} {Z : ZC} {own : String} {cc : ByteArray} {mL : Nat} {R0 : Room} {c n : Nat} {ws : va_W} {lv : List (Nat × Value)} {st : List Value} {pc : Nat} {pc' : Nat} (hZ : XOK E Z own cc mL R0) {x y : Int32} (hne : ¬ y = 0) (hd : decode cc pc = .ok (.idiv, 1)) (hp : pc + 1 = pc') (kk : XW E Z c n ws lv (.int (x / y) :: st) pc') : XW E Z c n ws lv (.int y :: .int x :: st) pc := by
  obtain ⟨⟨p, e, R, s, m, args, below, meth, cd⟩, A, Q, nL⟩ := Z
  obtain ⟨hx, hb, hml, rfl, hown, hts, hN, hK, hA, rfl, hSt⟩ := hZ
  intro H locs ls hP hD hS hl
  subst hp
  exact lv_idiv hx hb hd hne (kk H locs ls hP hD hS hl)
theorem x_irem {E : XE} {Z : ZC} {own : String} {cc : ByteArray} {mL : Nat} {R0 : Room} {c n : Nat} {ws : va_W} {lv : List (Nat × Value)} {st : List Value} {pc : Nat} {pc' : Nat} (hZ : XOK E Z own cc mL R0) {x y : Int32} (hne : ¬ y = 0) (hd : decode cc pc = .ok (.irem, 1)) (hp : pc + 1 = pc') (kk : XW E Z c n ws lv (.int (jrem x y) :: st) pc') : XW E Z c n ws lv (.int y :: .int x :: st) pc := by
  obtain ⟨⟨p, e, R, s, m, args, below, meth, cd⟩, A, Q, nL⟩ := Z
  obtain ⟨hx, hb, hml, rfl, hown, hts, hN, hK, hA, rfl, hSt⟩ := hZ
  intro H locs ls hP hD hS hl
  subst hp
  exact lv_irem hx hb hd hne (kk H locs ls hP hD hS hl)
theorem x_ldiv {E : XE} {Z : ZC} {own : String} {cc : ByteArray} {mL : Nat} {R0 : Room} {c n : Nat} {ws : va_W} {lv : List (Nat × Value)} {st : List Value} {pc : Nat} {pc' : Nat} (hZ : XOK E Z own cc mL R0) {x y : Int64} (hne : ¬ y = 0) (hd : decode cc pc = .ok (.ldiv, 1)) (hp : pc + 1 = pc') (kk : XW E Z c n ws lv (.long (x / y) :: st) pc') : XW E Z c n ws lv (.long y :: .long x :: st) pc := by
  obtain ⟨⟨p, e, R, s, m, args, below, meth, cd⟩, A, Q, nL⟩ := Z
  obtain ⟨hx, hb, hml, rfl, hown, hts, hN, hK, hA, rfl, hSt⟩ := hZ
  intro H locs ls hP hD hS hl
  subst hp
  exact lv_ldiv hx hb hd hne (kk H locs ls hP hD hS hl)
theorem x_lrem {E : XE} {Z : ZC} {own : String} {cc : ByteArray} {mL : Nat} {R0 : Room} {c n : Nat} {ws : va_W} {lv : List (Nat × Value)} {st : List Value} {pc : Nat} {pc' : Nat} (hZ : XOK E Z own cc mL R0) {x y : Int64} (hne : ¬ y = 0) (hd : decode cc pc = .ok (.lrem, 1)) (hp : pc + 1 = pc') (kk : XW E Z c n ws lv (.long (jlrem x y) :: st) pc') : XW E Z c n ws lv (.long y :: .long x :: st) pc := by
  obtain ⟨⟨p, e, R, s, m, args, below, meth, cd⟩, A, Q, nL⟩ := Z
  obtain ⟨hx, hb, hml, rfl, hown, hts, hN, hK, hA, rfl, hSt⟩ := hZ
  intro H locs ls hP hD hS hl
  subst hp
  exact lv_lrem hx hb hd hne (kk H locs ls hP hD hS hl)
theorem x_iushr {E : XE} {Z : ZC} {own : String} {cc : ByteArray} {mL : Nat} {R0 : Room} {c n : Nat} {ws : va_W} {lv : List (Nat × Value)} {st : List Value} {pc : Nat} {pc' : Nat} (hZ : XOK E Z own cc mL R0) {x y : Int32} (hd : decode cc pc = .ok (.iushr, 1)) (hp : pc + 1 = pc') (kk : XW E Z c n ws lv (.int (jushr x y) :: st) pc') : XW E Z c n ws lv (.int y :: .int x :: st) pc := by
  obtain ⟨⟨p, e, R, s, m, args, below, meth, cd⟩, A, Q, nL⟩ := Z
  obtain ⟨hx, hb, hml, rfl, hown, hts, hN, hK, hA, rfl, hSt⟩ := hZ
  intro H locs ls hP hD hS hl
  subst hp
  exact lv_iushr hx hb hd rfl (kk H locs ls hP hD hS hl)
theorem x_lushr {E : XE} {Z : ZC} {own : String} {cc : ByteArray} {mL : Nat} {R0 : Room} {c n : Nat} {ws : va_W} {lv : List (Nat × Value)} {st : List Value} {pc : Nat} {pc' : Nat} (hZ : XOK E Z own cc mL R0) {x : Int64} {y : Int32} (hd : decode cc pc = .ok (.lushr, 1)) (hp : pc + 1 = pc') (kk : XW E Z c n ws lv (.long (jlushr x y) :: st) pc') : XW E Z c n ws lv (.int y :: .long x :: st) pc := by
  obtain ⟨⟨p, e, R, s, m, args, below, meth, cd⟩, A, Q, nL⟩ := Z
  obtain ⟨hx, hb, hml, rfl, hown, hts, hN, hK, hA, rfl, hSt⟩ := hZ
  intro H locs ls hP hD hS hl
  subst hp
  exact lv_lushr hx hb hd rfl (kk H locs ls hP hD hS hl)
theorem x_lshl {E : XE} {Z : ZC} {own : String} {cc : ByteArray} {mL : Nat} {R0 : Room} {c n : Nat} {ws : va_W} {lv : List (Nat × Value)} {st : List Value} {pc : Nat} {pc' : Nat} (hZ : XOK E Z own cc mL R0) {x : Int64} {y : Int32} (hd : decode cc pc = .ok (.lshl, 1)) (hp : pc + 1 = pc') (kk : XW E Z c n ws lv (.long (jlshl x y) :: st) pc') : XW E Z c n ws lv (.int y :: .long x :: st) pc := by
  obtain ⟨⟨p, e, R, s, m, args, below, meth, cd⟩, A, Q, nL⟩ := Z
  obtain ⟨hx, hb, hml, rfl, hown, hts, hN, hK, hA, rfl, hSt⟩ := hZ
  intro H locs ls hP hD hS hl
  subst hp
  exact lv_lshl hx hb hd rfl (kk H locs ls hP hD hS hl)
theorem x_i2l {E : XE} {Z : ZC} {own : String} {cc : ByteArray} {mL : Nat} {R0 : Room} {c n : Nat} {ws : va_W} {lv : List (Nat × Value)} {st : List Value} {pc : Nat} {pc' : Nat} (hZ : XOK E Z own cc mL R0) {x : Int32} (hd : decode cc pc = .ok (.i2l, 1)) (hp : pc + 1 = pc') (kk : XW E Z c n ws lv (.long (x.toInt64) :: st) pc') : XW E Z c n ws lv (.int x :: st) pc := by
  obtain ⟨⟨p, e, R, s, m, args, below, meth, cd⟩, A, Q, nL⟩ := Z
  obtain ⟨hx, hb, hml, rfl, hown, hts, hN, hK, hA, rfl, hSt⟩ := hZ
  intro H locs ls hP hD hS hl
  subst hp
  exact lv_i2l hx hb hd rfl (kk H locs ls hP hD hS hl)
theorem x_l2i {E : XE} {Z : ZC} {own : String} {cc : ByteArray} {mL : Nat} {R0 : Room} {c n : Nat} {ws : va_W} {lv : List (Nat × Value)} {st : List Value} {pc : Nat} {pc' : Nat} (hZ : XOK E Z own cc mL R0) {x : Int64} (hd : decode cc pc = .ok (.l2i, 1)) (hp : pc + 1 = pc') (kk : XW E Z c n ws lv (.int (x.toInt32) :: st) pc') : XW E Z c n ws lv (.long x :: st) pc := by
  obtain ⟨⟨p, e, R, s, m, args, below, meth, cd⟩, A, Q, nL⟩ := Z
  obtain ⟨hx, hb, hml, rfl, hown, hts, hN, hK, hA, rfl, hSt⟩ := hZ
  intro H locs ls hP hD hS hl
  subst hp
  exact lv_l2i hx hb hd rfl (kk H locs ls hP hD hS hl)
theorem x_lcmp {E : XE} {Z : ZC} {own : String} {cc : ByteArray} {mL : Nat} {R0 : Room} {c n : Nat} {ws : va_W} {lv : List (Nat × Value)} {st : List Value} {pc : Nat} {pc' : Nat} (hZ : XOK E Z own cc mL R0) {x y : Int64} (hd : decode cc pc = .ok (.lcmp, 1)) (hp : pc + 1 = pc') (kk : XW E Z c n ws lv (.int (lg_cmp x y) :: st) pc') : XW E Z c n ws lv (.long y :: .long x :: st) pc := by
  obtain ⟨⟨p, e, R, s, m, args, below, meth, cd⟩, A, Q, nL⟩ := Z
  obtain ⟨hx, hb, hml, rfl, hown, hts, hN, hK, hA, rfl, hSt⟩ := hZ
  intro H locs ls hP hD hS hl
  subst hp
  exact W.lcmp hx hb hd (kk H locs ls hP hD hS hl)
theorem x_dup {E : XE} {Z : ZC} {own : String} {cc : ByteArray} {mL : Nat} {R0 : Room} {c n : Nat} {ws : va_W} {lv : List (Nat × Value)} {st : List Value} {pc : Nat} {pc' : Nat} (hZ : XOK E Z own cc mL R0) {v : Value} (hd : decode cc pc = .ok (.dup, 1)) (hp : pc + 1 = pc') (hv : v.category = 1) (kk : XW E Z c n ws lv (v :: v :: st) pc') : XW E Z c n ws lv (v :: st) pc := by
  obtain ⟨⟨p, e, R, s, m, args, below, meth, cd⟩, A, Q, nL⟩ := Z
  obtain ⟨hx, hb, hml, rfl, hown, hts, hN, hK, hA, rfl, hSt⟩ := hZ
  intro H locs ls hP hD hS hl
  subst hp
  exact lv_dup hx hb hd hv (kk H locs ls hP hD hS hl)
theorem x_dup2 {E : XE} {Z : ZC} {own : String} {cc : ByteArray} {mL : Nat} {R0 : Room} {c n : Nat} {ws : va_W} {lv : List (Nat × Value)} {st : List Value} {pc : Nat} {pc' : Nat} (hZ : XOK E Z own cc mL R0) {v w : Value} (hd : decode cc pc = .ok (.dup2, 1)) (hp : pc + 1 = pc') (hv : v.category = 1) (hw : w.category = 1) (kk : XW E Z c n ws lv (v :: w :: v :: w :: st) pc') : XW E Z c n ws lv (v :: w :: st) pc := by
  obtain ⟨⟨p, e, R, s, m, args, below, meth, cd⟩, A, Q, nL⟩ := Z
  obtain ⟨hx, hb, hml, rfl, hown, hts, hN, hK, hA, rfl, hSt⟩ := hZ
  intro H locs ls hP hD hS hl
  subst hp
  exact lv_dup2_11 hx hb hd hv hw (kk H locs ls hP hD hS hl)
theorem x_goto {E : XE} {Z : ZC} {own : String} {cc : ByteArray} {mL : Nat} {R0 : Room} {c n : Nat} {ws : va_W} {lv : List (Nat × Value)} {st : List Value} {pc : Nat} {pc' : Nat} (hZ : XOK E Z own cc mL R0) {off : Int} (hd : decode cc pc = .ok (.goto off, 3)) (hp : (pc : Int) + off = (pc' : Int)) (kk : XW E Z c n ws lv st pc') : XW E Z c n ws lv st pc := by
  obtain ⟨⟨p, e, R, s, m, args, below, meth, cd⟩, A, Q, nL⟩ := Z
  obtain ⟨hx, hb, hml, rfl, hown, hts, hN, hK, hA, rfl, hSt⟩ := hZ
  intro H locs ls hP hD hS hl
  exact lv_goto hx hb hd hp (kk H locs ls hP hD hS hl)
theorem x_if_eq {E : XE} {Z : ZC} {own : String} {cc : ByteArray} {mL : Nat} {R0 : Room} {c n : Nat} {ws : va_W} {lv : List (Nat × Value)} {st : List Value} {pc : Nat} {tgt pc' : Nat} (hZ : XOK E Z own cc mL R0) {x : Int32} {off : Int} (hd : decode cc pc = .ok (.ifCond .eq off, 3)) (ht : (pc : Int) + off = (tgt : Int)) (hp : pc + 3 = pc') (kt : x = 0 → XW E Z c n ws lv st tgt) (kf : ¬ x = 0 → XW E Z c n ws lv st pc') : XW E Z c n ws lv (.int x :: st) pc := by
  obtain ⟨⟨p, e, R, s, m, args, below, meth, cd⟩, A, Q, nL⟩ := Z
  obtain ⟨hx, hb, hml, rfl, hown, hts, hN, hK, hA, rfl, hSt⟩ := hZ
  intro H locs ls hP hD hS hl
  subst hp
  exact lv_if_eq hx hb hd ht (fun h => kt h H locs ls hP hD hS hl) (fun h => kf h H locs ls hP hD hS hl)
theorem x_if_ne {E : XE} {Z : ZC} {own : String} {cc : ByteArray} {mL : Nat} {R0 : Room} {c n : Nat} {ws : va_W} {lv : List (Nat × Value)} {st : List Value} {pc : Nat} {tgt pc' : Nat} (hZ : XOK E Z own cc mL R0) {x : Int32} {off : Int} (hd : decode cc pc = .ok (.ifCond .ne off, 3)) (ht : (pc : Int) + off = (tgt : Int)) (hp : pc + 3 = pc') (kt : ¬ x = 0 → XW E Z c n ws lv st tgt) (kf : x = 0 → XW E Z c n ws lv st pc') : XW E Z c n ws lv (.int x :: st) pc := by
  obtain ⟨⟨p, e, R, s, m, args, below, meth, cd⟩, A, Q, nL⟩ := Z
  obtain ⟨hx, hb, hml, rfl, hown, hts, hN, hK, hA, rfl, hSt⟩ := hZ
  intro H locs ls hP hD hS hl
  subst hp
  exact lv_if_ne hx hb hd ht (fun h => kt h H locs ls hP hD hS hl) (fun h => kf h H locs ls hP hD hS hl)
theorem x_if_lt {E : XE} {Z : ZC} {own : String} {cc : ByteArray} {mL : Nat} {R0 : Room} {c n : Nat} {ws : va_W} {lv : List (Nat × Value)} {st : List Value} {pc : Nat} {tgt pc' : Nat} (hZ : XOK E Z own cc mL R0) {x : Int32} {off : Int} (hd : decode cc pc = .ok (.ifCond .lt off, 3)) (ht : (pc : Int) + off = (tgt : Int)) (hp : pc + 3 = pc') (kt : x < 0 → XW E Z c n ws lv st tgt) (kf : ¬ x < 0 → XW E Z c n ws lv st pc') : XW E Z c n ws lv (.int x :: st) pc := by
  obtain ⟨⟨p, e, R, s, m, args, below, meth, cd⟩, A, Q, nL⟩ := Z
  obtain ⟨hx, hb, hml, rfl, hown, hts, hN, hK, hA, rfl, hSt⟩ := hZ
  intro H locs ls hP hD hS hl
  subst hp
  exact lv_if_lt hx hb hd ht (fun h => kt h H locs ls hP hD hS hl) (fun h => kf h H locs ls hP hD hS hl)
theorem x_if_ge {E : XE} {Z : ZC} {own : String} {cc : ByteArray} {mL : Nat} {R0 : Room} {c n : Nat} {ws : va_W} {lv : List (Nat × Value)} {st : List Value} {pc : Nat} {tgt pc' : Nat} (hZ : XOK E Z own cc mL R0) {x : Int32} {off : Int} (hd : decode cc pc = .ok (.ifCond .ge off, 3)) (ht : (pc : Int) + off = (tgt : Int)) (hp : pc + 3 = pc') (kt : 0 ≤ x → XW E Z c n ws lv st tgt) (kf : ¬ 0 ≤ x → XW E Z c n ws lv st pc') : XW E Z c n ws lv (.int x :: st) pc := by
  obtain ⟨⟨p, e, R, s, m, args, below, meth, cd⟩, A, Q, nL⟩ := Z
  obtain ⟨hx, hb, hml, rfl, hown, hts, hN, hK, hA, rfl, hSt⟩ := hZ
  intro H locs ls hP hD hS hl
  subst hp
  exact lv_if_ge hx hb hd ht (fun h => kt h H locs ls hP hD hS hl) (fun h => kf h H locs ls hP hD hS hl)
theorem x_if_gt {E : XE} {Z : ZC} {own : String} {cc : ByteArray} {mL : Nat} {R0 : Room} {c n : Nat} {ws : va_W} {lv : List (Nat × Value)} {st : List Value} {pc : Nat} {tgt pc' : Nat} (hZ : XOK E Z own cc mL R0) {x : Int32} {off : Int} (hd : decode cc pc = .ok (.ifCond .gt off, 3)) (ht : (pc : Int) + off = (tgt : Int)) (hp : pc + 3 = pc') (kt : 0 < x → XW E Z c n ws lv st tgt) (kf : ¬ 0 < x → XW E Z c n ws lv st pc') : XW E Z c n ws lv (.int x :: st) pc := by
  obtain ⟨⟨p, e, R, s, m, args, below, meth, cd⟩, A, Q, nL⟩ := Z
  obtain ⟨hx, hb, hml, rfl, hown, hts, hN, hK, hA, rfl, hSt⟩ := hZ
  intro H locs ls hP hD hS hl
  subst hp
  exact lv_if_gt hx hb hd ht (fun h => kt h H locs ls hP hD hS hl) (fun h => kf h H locs ls hP hD hS hl)
theorem x_if_le {E : XE} {Z : ZC} {own : String} {cc : ByteArray} {mL : Nat} {R0 : Room} {c n : Nat} {ws : va_W} {lv : List (Nat × Value)} {st : List Value} {pc : Nat} {tgt pc' : Nat} (hZ : XOK E Z own cc mL R0) {x : Int32} {off : Int} (hd : decode cc pc = .ok (.ifCond .le off, 3)) (ht : (pc : Int) + off = (tgt : Int)) (hp : pc + 3 = pc') (kt : x ≤ 0 → XW E Z c n ws lv st tgt) (kf : ¬ x ≤ 0 → XW E Z c n ws lv st pc') : XW E Z c n ws lv (.int x :: st) pc := by
  obtain ⟨⟨p, e, R, s, m, args, below, meth, cd⟩, A, Q, nL⟩ := Z
  obtain ⟨hx, hb, hml, rfl, hown, hts, hN, hK, hA, rfl, hSt⟩ := hZ
  intro H locs ls hP hD hS hl
  subst hp
  exact lv_if_le hx hb hd ht (fun h => kt h H locs ls hP hD hS hl) (fun h => kf h H locs ls hP hD hS hl)
theorem x_icmp_eq {E : XE} {Z : ZC} {own : String} {cc : ByteArray} {mL : Nat} {R0 : Room} {c n : Nat} {ws : va_W} {lv : List (Nat × Value)} {st : List Value} {pc : Nat} {tgt pc' : Nat} (hZ : XOK E Z own cc mL R0) {x y : Int32} {off : Int} (hd : decode cc pc = .ok (.if_icmp .eq off, 3)) (ht : (pc : Int) + off = (tgt : Int)) (hp : pc + 3 = pc') (kt : x = y → XW E Z c n ws lv st tgt) (kf : ¬ x = y → XW E Z c n ws lv st pc') : XW E Z c n ws lv (.int y :: .int x :: st) pc := by
  obtain ⟨⟨p, e, R, s, m, args, below, meth, cd⟩, A, Q, nL⟩ := Z
  obtain ⟨hx, hb, hml, rfl, hown, hts, hN, hK, hA, rfl, hSt⟩ := hZ
  intro H locs ls hP hD hS hl
  subst hp
  exact lv_icmp_eq hx hb hd ht (fun h => kt h H locs ls hP hD hS hl) (fun h => kf h H locs ls hP hD hS hl)
theorem x_icmp_ne {E : XE} {Z : ZC} {own : String} {cc : ByteArray} {mL : Nat} {R0 : Room} {c n : Nat} {ws : va_W} {lv : List (Nat × Value)} {st : List Value} {pc : Nat} {tgt pc' : Nat} (hZ : XOK E Z own cc mL R0) {x y : Int32} {off : Int} (hd : decode cc pc = .ok (.if_icmp .ne off, 3)) (ht : (pc : Int) + off = (tgt : Int)) (hp : pc + 3 = pc') (kt : ¬ x = y → XW E Z c n ws lv st tgt) (kf : x = y → XW E Z c n ws lv st pc') : XW E Z c n ws lv (.int y :: .int x :: st) pc := by
  obtain ⟨⟨p, e, R, s, m, args, below, meth, cd⟩, A, Q, nL⟩ := Z
  obtain ⟨hx, hb, hml, rfl, hown, hts, hN, hK, hA, rfl, hSt⟩ := hZ
  intro H locs ls hP hD hS hl
  subst hp
  exact lv_icmp_ne hx hb hd ht (fun h => kt h H locs ls hP hD hS hl) (fun h => kf h H locs ls hP hD hS hl)
theorem x_icmp_lt {E : XE} {Z : ZC} {own : String} {cc : ByteArray} {mL : Nat} {R0 : Room} {c n : Nat} {ws : va_W} {lv : List (Nat × Value)} {st : List Value} {pc : Nat} {tgt pc' : Nat} (hZ : XOK E Z own cc mL R0) {x y : Int32} {off : Int} (hd : decode cc pc = .ok (.if_icmp .lt off, 3)) (ht : (pc : Int) + off = (tgt : Int)) (hp : pc + 3 = pc') (kt : x < y → XW E Z c n ws lv st tgt) (kf : ¬ x < y → XW E Z c n ws lv st pc') : XW E Z c n ws lv (.int y :: .int x :: st) pc := by
  obtain ⟨⟨p, e, R, s, m, args, below, meth, cd⟩, A, Q, nL⟩ := Z
  obtain ⟨hx, hb, hml, rfl, hown, hts, hN, hK, hA, rfl, hSt⟩ := hZ
  intro H locs ls hP hD hS hl
  subst hp
  exact lv_icmp_lt hx hb hd ht (fun h => kt h H locs ls hP hD hS hl) (fun h => kf h H locs ls hP hD hS hl)
theorem x_icmp_ge {E : XE} {Z : ZC} {own : String} {cc : ByteArray} {mL : Nat} {R0 : Room} {c n : Nat} {ws : va_W} {lv : List (Nat × Value)} {st : List Value} {pc : Nat} {tgt pc' : Nat} (hZ : XOK E Z own cc mL R0) {x y : Int32} {off : Int} (hd : decode cc pc = .ok (.if_icmp .ge off, 3)) (ht : (pc : Int) + off = (tgt : Int)) (hp : pc + 3 = pc') (kt : y ≤ x → XW E Z c n ws lv st tgt) (kf : ¬ y ≤ x → XW E Z c n ws lv st pc') : XW E Z c n ws lv (.int y :: .int x :: st) pc := by
  obtain ⟨⟨p, e, R, s, m, args, below, meth, cd⟩, A, Q, nL⟩ := Z
  obtain ⟨hx, hb, hml, rfl, hown, hts, hN, hK, hA, rfl, hSt⟩ := hZ
  intro H locs ls hP hD hS hl
  subst hp
  exact lv_icmp_ge hx hb hd ht (fun h => kt h H locs ls hP hD hS hl) (fun h => kf h H locs ls hP hD hS hl)
theorem x_icmp_gt {E : XE} {Z : ZC} {own : String} {cc : ByteArray} {mL : Nat} {R0 : Room} {c n : Nat} {ws : va_W} {lv : List (Nat × Value)} {st : List Value} {pc : Nat} {tgt pc' : Nat} (hZ : XOK E Z own cc mL R0) {x y : Int32} {off : Int} (hd : decode cc pc = .ok (.if_icmp .gt off, 3)) (ht : (pc : Int) + off = (tgt : Int)) (hp : pc + 3 = pc') (kt : y < x → XW E Z c n ws lv st tgt) (kf : ¬ y < x → XW E Z c n ws lv st pc') : XW E Z c n ws lv (.int y :: .int x :: st) pc := by
  obtain ⟨⟨p, e, R, s, m, args, below, meth, cd⟩, A, Q, nL⟩ := Z
  obtain ⟨hx, hb, hml, rfl, hown, hts, hN, hK, hA, rfl, hSt⟩ := hZ
  intro H locs ls hP hD hS hl
  subst hp
  exact lv_icmp_gt hx hb hd ht (fun h => kt h H locs ls hP hD hS hl) (fun h => kf h H locs ls hP hD hS hl)
theorem x_icmp_le {E : XE} {Z : ZC} {own : String} {cc : ByteArray} {mL : Nat} {R0 : Room} {c n : Nat} {ws : va_W} {lv : List (Nat × Value)} {st : List Value} {pc : Nat} {tgt pc' : Nat} (hZ : XOK E Z own cc mL R0) {x y : Int32} {off : Int} (hd : decode cc pc = .ok (.if_icmp .le off, 3)) (ht : (pc : Int) + off = (tgt : Int)) (hp : pc + 3 = pc') (kt : x ≤ y → XW E Z c n ws lv st tgt) (kf : ¬ x ≤ y → XW E Z c n ws lv st pc') : XW E Z c n ws lv (.int y :: .int x :: st) pc := by
  obtain ⟨⟨p, e, R, s, m, args, below, meth, cd⟩, A, Q, nL⟩ := Z
  obtain ⟨hx, hb, hml, rfl, hown, hts, hN, hK, hA, rfl, hSt⟩ := hZ
  intro H locs ls hP hD hS hl
  subst hp
  exact lv_icmp_le hx hb hd ht (fun h => kt h H locs ls hP hD hS hl) (fun h => kf h H locs ls hP hD hS hl)
theorem x_tabIn {E : XE} {Z : ZC} {own : String} {cc : ByteArray} {mL : Nat} {R0 : Room} {c n : Nat} {ws : va_W} {lv : List (Nat × Value)} {st : List Value} {pc : Nat} {tgt : Nat} (hZ : XOK E Z own cc mL R0) {dflt lo hi off : Int} {offs : Array Int} {len : Nat} {x k : Int32} (hd : decode cc pc = .ok (.tableswitch dflt lo hi offs, len)) (hk : x = k) (h1 : ¬ k.toInt < lo) (h2 : ¬ hi < k.toInt) (ho : offs[(k.toInt - lo).toNat]? = some off) (ht : (pc : Int) + off = (tgt : Int)) (kk : XW E Z c n ws lv st tgt) : XW E Z c n ws lv (.int x :: st) pc := by
  obtain ⟨⟨p, e, R, s, m, args, below, meth, cd⟩, A, Q, nL⟩ := Z
  obtain ⟨hx, hb, hml, rfl, hown, hts, hN, hK, hA, rfl, hSt⟩ := hZ
  intro H locs ls hP hD hS hl
  subst hk
  exact lv_tableIn hx hb hd h1 h2 ho ht (kk H locs ls hP hD hS hl)
theorem x_tabOut {E : XE} {Z : ZC} {own : String} {cc : ByteArray} {mL : Nat} {R0 : Room} {c n : Nat} {ws : va_W} {lv : List (Nat × Value)} {st : List Value} {pc : Nat} {tgt : Nat} (hZ : XOK E Z own cc mL R0) {dflt lo hi : Int} {offs : Array Int} {len : Nat} {x : Int32} (hd : decode cc pc = .ok (.tableswitch dflt lo hi offs, len)) (h1 : x.toInt < lo ∨ hi < x.toInt) (ht : (pc : Int) + dflt = (tgt : Int)) (kk : XW E Z c n ws lv st tgt) : XW E Z c n ws lv (.int x :: st) pc := by
  obtain ⟨⟨p, e, R, s, m, args, below, meth, cd⟩, A, Q, nL⟩ := Z
  obtain ⟨hx, hb, hml, rfl, hown, hts, hN, hK, hA, rfl, hSt⟩ := hZ
  intro H locs ls hP hD hS hl
  exact lv_tableOut hx hb hd h1 ht (kk H locs ls hP hD hS hl)
theorem x_get {E : XE} {Z : ZC} {own : String} {cc : ByteArray} {mL : Nat} {R0 : Room} {c n : Nat} {ws : va_W} {lv : List (Nat × Value)} {st : List Value} {pc : Nat} {pc' : Nat} (hZ : XOK E Z own cc mL R0) {C ref : String} {T : u_T} {N ci index a : Nat} (hin : ∀ w ∈ u_ws C T N, w ∈ WW) (hc : vwCl[ci]? = some (C, T, N)) (k : Nat) (hk : k < N) (href : (T k).1 = ref) (hlink : Cond.fieldLink own index ref (T k).2.1 (T k).2.2.1 ∈ WW) {fs : List Value} {v : Value} (hd : decode cc pc = .ok (.getfield index, 3)) (hp : pc + 3 = pc') (q0 : Nat) (he : ws[q0]? = some (a, .inr (ci, fs))) (hv : fs[k]? = some v) (kk : XW E Z c n ws lv (v :: st) pc') : XW E Z c n ws lv (.ref a :: st) pc := by
  obtain ⟨⟨p, e, R, s, m, args, below, meth, cd⟩, A, Q, nL⟩ := Z
  obtain ⟨hx, hb, hml, rfl, hown, hts, hN, hK, hA, rfl, hSt⟩ := hZ
  intro H locs ls hP hD hS hl
  subst hp
  subst href
  exact va_get hx hb hts hin hown hK hP q0 he hc k hk (hts _ hlink) (fun _ h9 => h9) hv hd (kk H locs ls hP hD hS hl)
theorem x_getN {E : XE} {Z : ZC} {own : String} {cc : ByteArray} {mL : Nat} {R0 : Room} {c n : Nat} {ws : va_W} {lv : List (Nat × Value)} {st : List Value} {pc : Nat} {pc' : Nat} (hZ : XOK E Z own cc mL R0) {C ref host : String} {T : u_T} {N ci index a : Nat} (hin : ∀ w ∈ u_ws C T N, w ∈ WW) (hc : vwCl[ci]? = some (C, T, N)) (k : Nat) (hk : k < N) (href : (T k).1 = ref) (hlink : Cond.fieldLinkNest own index ref (T k).2.1 (T k).2.2.1 host ∈ xNst) {fs : List Value} {v : Value} (hd : decode cc pc = .ok (.getfield index, 3)) (hp : pc + 3 = pc') (q0 : Nat) (he : ws[q0]? = some (a, .inr (ci, fs))) (hv : fs[k]? = some v) (kk : XW E Z c n ws lv (v :: st) pc') : XW E Z c n ws lv (.ref a :: st) pc := by
  obtain ⟨⟨p, e, R, s, m, args, below, meth, cd⟩, A, Q, nL⟩ := Z
  obtain ⟨hx, hb, hml, rfl, hown, hts, hN, hK, hA, rfl, hSt⟩ := hZ
  intro H locs ls hP hD hS hl
  subst hp
  subst href
  exact va_getN hx hb hts hin hown hK hP q0 he hc k hk (va_Nw.use rfl (hN _ hlink)) (fun _ h9 => h9) hv hd (kk H locs ls hP hD hS hl)
theorem x_put {E : XE} {Z : ZC} {own : String} {cc : ByteArray} {mL : Nat} {R0 : Room} {c n : Nat} {ws : va_W} {lv : List (Nat × Value)} {st : List Value} {pc : Nat} {pc' : Nat} (hZ : XOK E Z own cc mL R0) {C ref : String} {T : u_T} {N ci index a : Nat} (hin : ∀ w ∈ u_ws C T N, w ∈ WW) (ty0 : Nat → FieldType) (hty : ∀ k, k < N → parseFieldDescriptor (T k).2.2.1 = some (ty0 k)) (hnm : ∀ a, a < N → ∀ b, b < N → a ≠ b → (T a).2.1 ≠ (T b).2.1) (hc : vwCl[ci]? = some (C, T, N)) (k : Nat) (hk : k < N) (href : (T k).1 = ref) (hfin : (T k).2.2.2 = false) (hlink : Cond.fieldLink own index ref (T k).2.1 (T k).2.2.1 ∈ WW) {fs fs' : List Value} {v : Value} {ws' : va_W} (hd : decode cc pc = .ok (.putfield index, 3)) (hp : pc + 3 = pc') (q0 : Nat) (he : ws[q0]? = some (a, .inr (ci, fs))) (hn : narrow (ty0 k) v = v) (hfit : fits (ty0 k) v = true) (hl' : k < fs.length) (hf : fs.set k v = fs') (hw : ws.set q0 (a, .inr (ci, fs')) = ws') (kk : XW E Z c n ws' lv st pc') : XW E Z c n ws lv (v :: .ref a :: st) pc := by
  obtain ⟨⟨p, e, R, s, m, args, below, meth, cd⟩, A, Q, nL⟩ := Z
  obtain ⟨hx, hb, hml, rfl, hown, hts, hN, hK, hA, rfl, hSt⟩ := hZ
  intro H locs ls hP hD hS hl
  subst hp
  subst href
  subst hf
  subst hw
  exact va_put hx hb hts hin ty0 hty hnm hown hK hP hD hS q0 he hc k hk (hts _ hlink) (fun _ h9 => h9) hfin (hty k hk) hn hfit hl' hd (fun H1 locs1 hP1 hD1 hS1 => kk H1 locs1 ls hP1 hD1 hS1 hl)
theorem x_putN {E : XE} {Z : ZC} {own : String} {cc : ByteArray} {mL : Nat} {R0 : Room} {c n : Nat} {ws : va_W} {lv : List (Nat × Value)} {st : List Value} {pc : Nat} {pc' : Nat} (hZ : XOK E Z own cc mL R0) {C ref host : String} {T : u_T} {N ci index a : Nat} (hin : ∀ w ∈ u_ws C T N, w ∈ WW) (ty0 : Nat → FieldType) (hty : ∀ k, k < N → parseFieldDescriptor (T k).2.2.1 = some (ty0 k)) (hnm : ∀ a, a < N → ∀ b, b < N → a ≠ b → (T a).2.1 ≠ (T b).2.1) (hc : vwCl[ci]? = some (C, T, N)) (k : Nat) (hk : k < N) (href : (T k).1 = ref) (hfin : (T k).2.2.2 = false) (hlink : Cond.fieldLinkNest own index ref (T k).2.1 (T k).2.2.1 host ∈ xNst) {fs fs' : List Value} {v : Value} {ws' : va_W} (hd : decode cc pc = .ok (.putfield index, 3)) (hp : pc + 3 = pc') (q0 : Nat) (he : ws[q0]? = some (a, .inr (ci, fs))) (hn : narrow (ty0 k) v = v) (hfit : fits (ty0 k) v = true) (hl' : k < fs.length) (hf : fs.set k v = fs') (hw : ws.set q0 (a, .inr (ci, fs')) = ws') (kk : XW E Z c n ws' lv st pc') : XW E Z c n ws lv (v :: .ref a :: st) pc := by
  obtain ⟨⟨p, e, R, s, m, args, below, meth, cd⟩, A, Q, nL⟩ := Z
  obtain ⟨hx, hb, hml, rfl, hown, hts, hN, hK, hA, rfl, hSt⟩ := hZ
  intro H locs ls hP hD hS hl
  subst hp
  subst href
  subst hf
  subst hw
  exact va_putN hx hb hts hin ty0 hty hnm hown hK hP hD hS q0 he hc k hk (va_Nw.use rfl (hN _ hlink)) (fun _ h9 => h9) hfin (hty k hk) hn hfit hl' hd (fun H1 locs1 hP1 hD1 hS1 => kk H1 locs1 ls hP1 hD1 hS1 hl)
theorem x_putF {E : XE} {Z : ZC} {own : String} {cc : ByteArray} {mL : Nat} {R0 : Room} {c n : Nat} {ws : va_W} {lv : List (Nat × Value)} {st : List Value} {pc : Nat} {pc' : Nat} (hZ : XOK E Z own cc mL R0) (hI : XNm Z "<init>") {C ref : String} {T : u_T} {N ci index a : Nat} (hin : ∀ w ∈ u_ws C T N, w ∈ WW) (ty0 : Nat → FieldType) (hty : ∀ k, k < N → parseFieldDescriptor (T k).2.2.1 = some (ty0 k)) (hnm : ∀ a, a < N → ∀ b, b < N → a ≠ b → (T a).2.1 ≠ (T b).2.1) (hc : vwCl[ci]? = some (C, T, N)) (k : Nat) (hk : k < N) (href : (T k).1 = ref) (hfin : (T k).2.2.2 = true) (hdecl : (T k).1 = own) (hlink : Cond.fieldLink own index ref (T k).2.1 (T k).2.2.1 ∈ WW) {fs fs' : List Value} {v : Value} {ws' : va_W} (hd : decode cc pc = .ok (.putfield index, 3)) (hp : pc + 3 = pc') (q0 : Nat) (he : ws[q0]? = some (a, .inr (ci, fs))) (hn : narrow (ty0 k) v = v) (hfit : fits (ty0 k) v = true) (hl' : k < fs.length) (hf : fs.set k v = fs') (hw : ws.set q0 (a, .inr (ci, fs')) = ws') (kk : XW E Z c n ws' lv st pc') : XW E Z c n ws lv (v :: .ref a :: st) pc := by
  obtain ⟨⟨p, e, R, s, m, args, below, meth, cd⟩, A, Q, nL⟩ := Z
  obtain ⟨hx, hb, hml, rfl, hown, hts, hN, hK, hA, rfl, hSt⟩ := hZ
  intro H locs ls hP hD hS hl
  subst hp
  subst href
  subst hf
  subst hw
  exact va_putF hx hb hts hin ty0 hty hnm hown hK hP hD hS q0 he hc k hk (hts _ hlink) (fun _ h9 => h9) hfin hI hdecl (hty k hk) hn hfit hl' hd (fun H1 locs1 hP1 hD1 hS1 => kk H1 locs1 ls hP1 hD1 hS1 hl)
theorem x_iald {E : XE} {Z : ZC} {own : String} {cc : ByteArray} {mL : Nat} {R0 : Room} {c n : Nat} {ws : va_W} {lv : List (Nat × Value)} {st : List Value} {pc : Nat} {pc' : Nat} (hZ : XOK E Z own cc mL R0) {a z : Nat} {f : Nat → Int32} {i : Int32} (hin : vp_in i z) (hd : decode cc pc = .ok (.iaload, 1)) (hp : pc + 1 = pc') (q0 : Nat) (he : ws[q0]? = some (a, cA E z f)) (kk : XW E Z c n ws lv (.int (f (ix i)) :: st) pc') : XW E Z c n ws lv (.int i :: .ref a :: st) pc := by
  obtain ⟨⟨p, e, R, s, m, args, below, meth, cd⟩, A, Q, nL⟩ := Z
  obtain ⟨hx, hb, hml, rfl, hown, hts, hN, hK, hA, rfl, hSt⟩ := hZ
  intro H locs ls hP hD hS hl
  subst hp
  exact va_iald hx hb hK hP q0 0 he rfl hin hd (kk H locs ls hP hD hS hl)
theorem x_zald {E : XE} {Z : ZC} {own : String} {cc : ByteArray} {mL : Nat} {R0 : Room} {c n : Nat} {ws : va_W} {lv : List (Nat × Value)} {st : List Value} {pc : Nat} {pc' : Nat} (hZ : XOK E Z own cc mL R0) {a z : Nat} {f : Nat → Int32} {i : Int32} (hin : vp_in i z) (hd : decode cc pc = .ok (.baload, 1)) (hp : pc + 1 = pc') (q0 : Nat) (he : ws[q0]? = some (a, cB E z f)) (kk : XW E Z c n ws lv (.int (f (ix i)) :: st) pc') : XW E Z c n ws lv (.int i :: .ref a :: st) pc := by
  obtain ⟨⟨p, e, R, s, m, args, below, meth, cd⟩, A, Q, nL⟩ := Z
  obtain ⟨hx, hb, hml, rfl, hown, hts, hN, hK, hA, rfl, hSt⟩ := hZ
  intro H locs ls hP hD hS hl
  subst hp
  exact va_zald hx hb hK hP q0 1 he rfl hin hd (kk H locs ls hP hD hS hl)
theorem x_iast {E : XE} {Z : ZC} {own : String} {cc : ByteArray} {mL : Nat} {R0 : Room} {c n : Nat} {ws : va_W} {lv : List (Nat × Value)} {st : List Value} {pc : Nat} {pc' : Nat} (hZ : XOK E Z own cc mL R0) {a z : Nat} {f : Nat → Int32} {i x : Int32} {ws' : va_W} (hin : vp_in i z) (hd : decode cc pc = .ok (.iastore, 1)) (hp : pc + 1 = pc') (q0 : Nat) (he : ws[q0]? = some (a, cA E z f)) (hw : ws.set q0 (a, cA E z (upd f (ix i) (x))) = ws') (kk : XW E Z c n ws' lv st pc') : XW E Z c n ws lv (.int x :: .int i :: .ref a :: st) pc := by
  obtain ⟨⟨p, e, R, s, m, args, below, meth, cd⟩, A, Q, nL⟩ := Z
  obtain ⟨hx, hb, hml, rfl, hown, hts, hN, hK, hA, rfl, hSt⟩ := hZ
  intro H locs ls hP hD hS hl
  subst hp
  subst hw
  exact va_iast hx hb hK hP hD hS q0 0 he rfl hin hd (fun H1 locs1 hP1 hD1 hS1 => kk H1 locs1 ls hP1 hD1 hS1 hl)
theorem x_zast {E : XE} {Z : ZC} {own : String} {cc : ByteArray} {mL : Nat} {R0 : Room} {c n : Nat} {ws : va_W} {lv : List (Nat × Value)} {st : List Value} {pc : Nat} {pc' : Nat} (hZ : XOK E Z own cc mL R0) {a z : Nat} {f : Nat → Int32} {i x : Int32} {ws' : va_W} (hin : vp_in i z) (hd : decode cc pc = .ok (.bastore, 1)) (hp : pc + 1 = pc') (q0 : Nat) (he : ws[q0]? = some (a, cB E z f)) (hw : ws.set q0 (a, cB E z (upd f (ix i) (jbool x))) = ws') (kk : XW E Z c n ws' lv st pc') : XW E Z c n ws lv (.int x :: .int i :: .ref a :: st) pc := by
  obtain ⟨⟨p, e, R, s, m, args, below, meth, cd⟩, A, Q, nL⟩ := Z
  obtain ⟨hx, hb, hml, rfl, hown, hts, hN, hK, hA, rfl, hSt⟩ := hZ
  intro H locs ls hP hD hS hl
  subst hp
  subst hw
  exact va_zast hx hb hK hP hD hS q0 1 he rfl hin hd (fun H1 locs1 hP1 hD1 hS1 => kk H1 locs1 ls hP1 hD1 hS1 hl)
theorem x_newi {E : XE} {Z : ZC} {own : String} {cc : ByteArray} {mL : Nat} {R0 : Room} {c n : Nat} {ws : va_W} {lv : List (Nat × Value)} {st : List Value} {pc : Nat} {pc' : Nat} (hZ : XOK E Z own cc mL R0) {x : Int32} {z : Nat} {c' n' : Nat} (hk : Cond.arrayClass .int ∈ WW) (hd : decode cc pc = .ok (.newarray .int, 2)) (hp : pc + 2 = pc') (hx0 : ¬ x < 0) (hz : ix x = z) (hby : z * componentBytes .int ≤ 536870912) (hc' : c + 1 = c') (hn' : n + z = n') (hrc : c' ≤ R0.cells) (hrs : n' ≤ R0.slots) (kk : ∀ q : Nat, XW E Z c' n' (ws ++ [(q, cA E z (fun _ => 0))]) lv (.ref q :: st) pc') : XW E Z c n ws lv (.int x :: st) pc := by
  obtain ⟨⟨p, e, R, s, m, args, below, meth, cd⟩, A, Q, nL⟩ := Z
  obtain ⟨hx, hb, hml, rfl, hown, hts, hN, hK, hA, rfl, hSt⟩ := hZ
  intro H locs ls hP hD hS hl
  subst hp
  subst hc'
  subst hn'
  refine va_newa (atype := .int) (ty := .int) (a0 := (z, .inl (fun _ => 0))) (N' := z) hx hb (hts _ hk) rfl hK hP hD hS hA (fun _ => rfl) hx0 hz hby hrc hrs hd (fun q cA1 H1 hK1 hP1 hD1 hS1 => ?_)
  have e1 : cA1 = E.2.2.1 := by
    have h1 : s.vm.findClass _ = some cA1 := (hK1.2 2 (cA1, .int) rfl).2
    have h2 : s.vm.findClass _ = some E.2.2.1 := (hK.2 0 (E.2.2.1, .int) rfl).2
    exact Option.some.inj (h1.symm.trans h2)
  subst e1
  exact kk q H1 locs ls hP1 hD1 hS1 hl
theorem x_newz {E : XE} {Z : ZC} {own : String} {cc : ByteArray} {mL : Nat} {R0 : Room} {c n : Nat} {ws : va_W} {lv : List (Nat × Value)} {st : List Value} {pc : Nat} {pc' : Nat} (hZ : XOK E Z own cc mL R0) {x : Int32} {z : Nat} {c' n' : Nat} (hk : Cond.arrayClass .boolean ∈ WW) (hd : decode cc pc = .ok (.newarray .boolean, 2)) (hp : pc + 2 = pc') (hx0 : ¬ x < 0) (hz : ix x = z) (hby : z * componentBytes .boolean ≤ 536870912) (hc' : c + 1 = c') (hn' : n + z = n') (hrc : c' ≤ R0.cells) (hrs : n' ≤ R0.slots) (kk : ∀ q : Nat, XW E Z c' n' (ws ++ [(q, cB E z (fun _ => 0))]) lv (.ref q :: st) pc') : XW E Z c n ws lv (.int x :: st) pc := by
  obtain ⟨⟨p, e, R, s, m, args, below, meth, cd⟩, A, Q, nL⟩ := Z
  obtain ⟨hx, hb, hml, rfl, hown, hts, hN, hK, hA, rfl, hSt⟩ := hZ
  intro H locs ls hP hD hS hl
  subst hp
  subst hc'
  subst hn'
  refine va_newa (atype := .boolean) (ty := .boolean) (a0 := (z, .inl (fun _ => 0))) (N' := z) hx hb (hts _ hk) rfl hK hP hD hS hA (fun _ => rfl) hx0 hz hby hrc hrs hd (fun q cA1 H1 hK1 hP1 hD1 hS1 => ?_)
  have e1 : cA1 = E.2.2.2.1 := by
    have h1 : s.vm.findClass _ = some cA1 := (hK1.2 2 (cA1, .boolean) rfl).2
    have h2 : s.vm.findClass _ = some E.2.2.2.1 := (hK.2 1 (E.2.2.2.1, .boolean) rfl).2
    exact Option.some.inj (h1.symm.trans h2)
  subst e1
  exact kk q H1 locs ls hP1 hD1 hS1 hl
theorem x_new {E : XE} {Z : ZC} {own : String} {cc : ByteArray} {mL : Nat} {R0 : Room} {c n : Nat} {ws : va_W} {lv : List (Nat × Value)} {st : List Value} {pc : Nat} {pc' : Nat} (hZ : XOK E Z own cc mL R0) {C : String} {T : u_T} {N ci index : Nat} {c' n' : Nat} (hin : ∀ w ∈ u_ws C T N, w ∈ WW) (ty0 : Nat → FieldType) (hty : ∀ k, k < N → parseFieldDescriptor (T k).2.2.1 = some (ty0 k)) (hcl : Cond.classLink own index C ∈ WW) (hins : Cond.instantiable C N ∈ WW) (hini : Cond.initialized C ∈ WW) (hc : vwCl[ci]? = some (C, T, N)) {fs : List Value} (hfs : ∀ j, j < N → defaultValue (ty0 j) = vp_V fs j) (hd : decode cc pc = .ok (.new index, 3)) (hp : pc + 3 = pc') (hc' : c + 1 = c') (hn' : n + N = n') (hrc : c' ≤ R0.cells) (hrs : n' ≤ R0.slots) (kk : ∀ q : Nat, XW E Z c' n' (ws ++ [(q, .inr (ci, fs))]) lv (.ref q :: st) pc') : XW E Z c n ws lv st pc := by
  obtain ⟨⟨p, e, R, s, m, args, below, meth, cd⟩, A, Q, nL⟩ := Z
  obtain ⟨hx, hb, hml, rfl, hown, hts, hN, hK, hA, rfl, hSt⟩ := hZ
  intro H locs ls hP hD hS hl
  subst hp
  subst hc'
  subst hn'
  exact va_new hx hb hts hin ty0 hty hown (hts _ hcl) (hts _ hins) (hts _ hini) hK hP hD hS hA hc hfs hrc hrs hd (fun q H1 hP1 hD1 hS1 => kk q H1 locs ls hP1 hD1 hS1 hl)
theorem x_objInit {E : XE} {Z : ZC} {own : String} {cc : ByteArray} {mL : Nat} {R0 : Room} {c n : Nat} {ws : va_W} {lv : List (Nat × Value)} {st : List Value} {pc : Nat} {pc' : Nat} (hZ : XOK E Z own cc mL R0) {idx a : Nat} (hk : Cond.methodLink own idx objectInit ∈ WW) (hd : decode cc pc = .ok (.invokespecial idx, 3)) (hp : pc + 3 = pc') (h1 : 1 ≤ R0.frames) (h2 : 12 + (st.map fun v => v.category).sum ≤ R0.locals) (kk : XW E Z c n ws lv st pc') : XW E Z c n ws lv (.ref a :: st) pc := by
  obtain ⟨⟨p, e, R, s, m, args, below, meth, cd⟩, A, Q, nL⟩ := Z
  obtain ⟨hx, hb, hml, rfl, hown, hts, hN, hK, hA, rfl, hSt⟩ := hZ
  intro H locs ls hP hD hS hl
  subst hp
  refine W.objInit hx hb hown (hts _ hk) (hts _ ki_objectInit) (hts _ kC_objectInit) rfl (by rw [hml]; exact hl.1) rfl hd h1 (by show 2 * 0 + _ + 12 ≤ _; omega) ?_
  exact kk H locs ls hP hD hS hl
theorem x_getsW {E : XE} {Z : ZC} {own : String} {cc : ByteArray} {mL : Nat} {R0 : Room} {c n : Nat} {ws : va_W} {lv : List (Nat × Value)} {st : List Value} {pc : Nat} {pc' : Nat} (hZ : XOK E Z own cc mL R0) {index : Nat} (hlink : Cond.fieldLink own index "WallMirror$Choosing" "WAYS" "[I" ∈ WW) (hd : decode cc pc = .ok (.getstatic index, 3)) (hp : pc + 3 = pc') (kk : XW E Z c n ws lv (.ref E.2.2.2.2 :: st) pc') : XW E Z c n ws lv st pc := by
  obtain ⟨⟨p, e, R, s, m, args, below, meth, cd⟩, A, Q, nL⟩ := Z
  obtain ⟨hx, hb, hml, rfl, hown, hts, hN, hK, hA, rfl, hSt⟩ := hZ
  intro H locs ls hP hD hS hl
  subst hp
  exact va_gets hx hb hSt.1 hS hown (hts _ hlink) (fun _ h9 => h9) hd (kk H locs ls hP hD hS hl)
theorem x_tld {E : XE} {Z : ZC} {own : String} {cc : ByteArray} {mL : Nat} {R0 : Room} {c n : Nat} {ws : va_W} {lv : List (Nat × Value)} {st : List Value} {pc : Nat} {pc' : Nat} (hZ : XOK E Z own cc mL R0) {i : Int32} (hin : vp_in i 6) (hd : decode cc pc = .ok (.iaload, 1)) (hp : pc + 1 = pc') (kk : XW E Z c n ws lv (.int (wys (ix i)) :: st) pc') : XW E Z c n ws lv (.int i :: .ref E.2.2.2.2 :: st) pc := by
  obtain ⟨⟨p, e, R, s, m, args, below, meth, cd⟩, A, Q, nL⟩ := Z
  obtain ⟨hx, hb, hml, rfl, hown, hts, hN, hK, hA, rfl, hSt⟩ := hZ
  intro H locs ls hP hD hS hl
  subst hp
  exact va_ti hx hb hSt.2 hS hin rfl hd (kk H locs ls hP hD hS hl)
theorem x_mmax {E : XE} {Z : ZC} {own : String} {cc : ByteArray} {mL : Nat} {R0 : Room} {c n : Nat} {ws : va_W} {lv : List (Nat × Value)} {st : List Value} {pc : Nat} {pc' : Nat} (hZ : XOK E Z own cc mL R0) {x y : Int32} {idx : Nat} (hk : Cond.methodLink own idx Lib.Math.max.name ∈ WW) (hd : decode cc pc = .ok (.invokestatic idx, 3)) (hp : pc + 3 = pc') (h1 : 1 ≤ R0.frames) (h2 : (st.map fun v => v.category).sum + 13 ≤ R0.locals) (h3 : c ≤ R0.cells) (h4 : n ≤ R0.slots) (kk : XW E Z c n ws lv (.int (jmax x y) :: st) pc') : XW E Z c n ws lv (.int y :: .int x :: st) pc := by
  obtain ⟨⟨p, e, R, s, m, args, below, meth, cd⟩, A, Q, nL⟩ := Z
  obtain ⟨hx, hb, hml, rfl, hown, hts, hN, hK, hA, rfl, hSt⟩ := hZ
  intro H locs ls hP hD hS hl
  subst hp
  exact va_mmax hx hb (hml.trans hl.1.symm) hown (hts _ hk) (hts _ ks_Lib_Math_max_name) (hts _ kI_java_lang_Math) (hts _ kC_Lib_Math_max_name) h1 h2 h3 h4 hd (kk H locs ls hP hD hS hl)
theorem x_mmin {E : XE} {Z : ZC} {own : String} {cc : ByteArray} {mL : Nat} {R0 : Room} {c n : Nat} {ws : va_W} {lv : List (Nat × Value)} {st : List Value} {pc : Nat} {pc' : Nat} (hZ : XOK E Z own cc mL R0) {x y : Int32} {idx : Nat} (hk : Cond.methodLink own idx Lib.Math.min.name ∈ WW) (hd : decode cc pc = .ok (.invokestatic idx, 3)) (hp : pc + 3 = pc') (h1 : 1 ≤ R0.frames) (h2 : (st.map fun v => v.category).sum + 13 ≤ R0.locals) (h3 : c ≤ R0.cells) (h4 : n ≤ R0.slots) (kk : XW E Z c n ws lv (.int (jmin x y) :: st) pc') : XW E Z c n ws lv (.int y :: .int x :: st) pc := by
  obtain ⟨⟨p, e, R, s, m, args, below, meth, cd⟩, A, Q, nL⟩ := Z
  obtain ⟨hx, hb, hml, rfl, hown, hts, hN, hK, hA, rfl, hSt⟩ := hZ
  intro H locs ls hP hD hS hl
  subst hp
  exact va_mmin hx hb (hml.trans hl.1.symm) hown (hts _ hk) (hts _ ks_Lib_Math_min_name) (hts _ kI_java_lang_Math) (hts _ kC_Lib_Math_min_name) h1 h2 h3 h4 hd (kk H locs ls hP hD hS hl)
theorem x_mabs {E : XE} {Z : ZC} {own : String} {cc : ByteArray} {mL : Nat} {R0 : Room} {c n : Nat} {ws : va_W} {lv : List (Nat × Value)} {st : List Value} {pc : Nat} {pc' : Nat} (hZ : XOK E Z own cc mL R0) {x : Int32} {idx : Nat} (hk : Cond.methodLink own idx Lib.Math.abs.name ∈ WW) (hd : decode cc pc = .ok (.invokestatic idx, 3)) (hp : pc + 3 = pc') (h1 : 1 ≤ R0.frames) (h2 : (st.map fun v => v.category).sum + 13 ≤ R0.locals) (h3 : c ≤ R0.cells) (h4 : n ≤ R0.slots) (kk : XW E Z c n ws lv (.int (jabs x) :: st) pc') : XW E Z c n ws lv (.int x :: st) pc := by
  obtain ⟨⟨p, e, R, s, m, args, below, meth, cd⟩, A, Q, nL⟩ := Z
  obtain ⟨hx, hb, hml, rfl, hown, hts, hN, hK, hA, rfl, hSt⟩ := hZ
  intro H locs ls hP hD hS hl
  subst hp
  exact va_mabs hx hb (hml.trans hl.1.symm) hown (hts _ hk) (hts _ ks_Lib_Math_abs_name) (hts _ kI_java_lang_Math) (hts _ kC_Lib_Math_abs_name) h1 h2 h3 h4 hd (kk H locs ls hP hD hS hl)
theorem x_copy {E : XE} {Z : ZC} {own : String} {cc : ByteArray} {mL : Nat} {R0 : Room} {c n : Nat} {ws : va_W} {lv : List (Nat × Value)} {st : List Value} {pc : Nat} {pc' : Nat} (hZ : XOK E Z own cc mL R0) {idx a0 a n0 n1 : Nat} {f g : Nat → Int32} {sp dp z : Int32} {ws' : va_W} (hk : Cond.methodLink own idx arraycopyName ∈ WW) (hq : ¬ sp < 0 ∧ ¬ dp < 0 ∧ ¬ z < 0 ∧ ix sp + ix z ≤ n0 ∧ ix dp + ix z ≤ n1) (hd : decode cc pc = .ok (.invokestatic idx, 3)) (hp : pc + 3 = pc') (q0 q1 : Nat) (h0 : ws[q0]? = some (a0, cA E n0 f)) (h1 : ws[q1]? = some (a, cA E n1 g)) (hfr : 1 ≤ R0.frames) (hlo : (st.map fun v => v.category).sum + (nativeFrameWords "java/lang/System" "arraycopy" 5 + 11) ≤ R0.locals) (hw : ws.set q1 (a, cA E n1 (va_cpy f g (ix sp) (ix dp) (ix z))) = ws') (kk : XW E Z c n ws' lv st pc') : XW E Z c n ws lv (.int z :: .int dp :: .ref a :: .int sp :: .ref a0 :: st) pc := by
  obtain ⟨⟨p, e, R, s, m, args, below, meth, cd⟩, A, Q, nL⟩ := Z
  obtain ⟨hx, hb, hml, rfl, hown, hts, hN, hK, hA, rfl, hSt⟩ := hZ
  intro H locs ls hP hD hS hl
  subst hp
  subst hw
  exact va_copyi hx hb (hml.trans hl.1.symm) hown (hts _ hk) (hts _ kn_arraycopyName) (hts _ ks_arraycopyName) (hts _ kI_java_lang_System) hK hP hD hS q0 q1 0 0 h0 h1 rfl rfl rfl hq.1 hq.2.1 hq.2.2.1 hq.2.2.2.1 hq.2.2.2.2 (fun _ _ => rfl) hfr hlo hd (fun H1 locs1 hP1 hD1 hS1 => kk H1 locs1 ls hP1 hD1 hS1 hl)
/-- what a callee asks at its start, out of the caller's world -/
theorem x_pre {E : XE} {A : Nat → Prop} {s : State} {H : Heap} {locs : List Loc} {ws wc : va_W} (hN : ∀ w ∈ xNst, va_Nw w s) (hK : va_K E.2.1 vwCl (xty E) s) (hA : ∀ q, s.heap.size ≤ q → A q) (hSt : XSt E A s s.heap) (hP : va_P E.2.1 vwCl ws H) (hD : va_D A ws) (hS : va_S A s.heap H locs) (is : List Nat) (hC : is.map (fun i => ws[i]?) = wc.map some) (hn : va_nd is = true) : ∀ U : State, U.heap = H → s.WarmedH U.vm → XPre E wc H.size U := by
  intro U hU hW
  have hs2 : is.filterMap (fun i => ws[i]?) = wc := by
    have h1 := congrArg (fun l => l.filterMap id) hC
    simpa [List.filterMap_map, Function.comp_def] using h1
  have hF := va_free (wc := wc) hD hS hA is hC
  refine ⟨by rw [hU], by rw [hU]; exact hP.sub is hs2, va_K.moved hW.alike hK, (hD.sub is hn hC).weaken (fun _ _ _ _ => trivial), nst_warm hW hN, ?_⟩
  rw [hU]
  exact XSt.moved hW.alike (((hSt.kept (fun a h1 h2 => hS.2.1 a h1 h2))).narrow hF)
theorem x_callVi {E : XE} {Z : ZC} {own : String} {cc : ByteArray} {mL : Nat} {R0 : Room} {c n : Nat} {ws : va_W} {lv : List (Nat × Value)} {st rest as : List Value} {pc pc' idx ml mc ms na c' n' : Nat} {b : Nat} {y : MethodName} {bc : ByteArray} {ty : FieldType} {rm : Room} {wc wr : va_W} {post : Int32 → va_W → Prop} (hZ : XOK E Z own cc mL R0) (hc : ConI E y bc ml ty rm mc ms (.ref b :: as) wc post) {C : String} {T : u_T} {N ci q0 : Nat} {fs : List Value} (hvc : vwCl[ci]? = some (C, T, N)) (he : ws[q0]? = some (b, .inr (ci, fs))) (hi : Cond.instanceMethod y ∈ WW) (hs : Cond.selects C y y ∈ WW) (hk : Cond.methodLink own idx y ∈ WW) (hI : Cond.initialized C ∈ WW) (hcls : y.cls = C) (hcd : Cond.code y bc ml (some ty) ∈ WW) (hpl : y.cls ≠ "java/lang/invoke/MethodHandle" ∧ y.cls ≠ "java/lang/invoke/VarHandle") (hsig : ∀ sig, parseMethodDescriptor y.desc = some sig → na = sig.parameters.length) (hd : decode cc pc = .ok (.invokevirtual idx, 3)) (hp : pc + 3 = pc') (hst : st = as.reverse ++ .ref b :: rest) (hna : as.length = na) (hmc : rm.cells = mc) (hms : rm.slots = ms) (hfr : rm.frames + 1 ≤ R0.frames) (hlo : 8 + (ml + 11) + rm.locals ≤ R0.locals) (hsum : (rest.map fun v => v.category).sum ≤ 8) (hc' : c + mc = c') (hn' : n + ms = n') (hrc : c' ≤ R0.cells) (hrs : n' ≤ R0.slots) (is ir : List Nat) (hC : is.map (fun i => ws[i]?) = wc.map some) (hR : ir.map (fun i => ws[i]?) = wr.map some) (hnc : va_nd is = true) (hnr : va_nd ir = true) (hdis : ∀ i ∈ ir, i ∉ is) (kk : ∀ (r : Int32) (w1 : va_W), post r w1 → XW E Z c' n' (wr ++ w1) lv (.int r :: rest) pc') : XW E Z c n ws lv st pc := by
  obtain ⟨⟨p, e, R, s, m, args, below, meth, cd⟩, A, Q, nL⟩ := Z
  obtain ⟨hx, hb, hml, rfl, hown, hts, hN, hK, hA, rfl, hSt⟩ := hZ
  intro H locs ls hP hD hS hl
  subst hp
  subst hc'
  subst hn'
  subst hst
  have hF := va_free (wc := wc) hD hS hA is hC
  refine va_calli (mc := mc) (ms := ms) (va_runV ⟨hx, hb, hml, hown, hts⟩ (hc H.size) ⟨⟨hmc, hms, hfr, hlo, pay_in hts (xgoodIn y hcd), List.mem_cons_self, hts _ hcd, by rw [hcls]; exact hts _ hI, hpl, hsig, hts _ hk⟩, hts _ hi, hts _ hs⟩ ⟨xblind, va_recv hK hP hvc he, fun U hU hW => ⟨rfl, x_pre hN hK hA hSt hP hD hS is hC hnc U hU hW⟩⟩ rfl hna hl.1 rfl (lv_room hsum) hd ⟨hrc, hrs⟩) hS (fun q _ h => hF q h) hF (fun r u t H1 locs1 ht hvm hw hB hz1 hk1 hS1 => ?_)
  obtain ⟨hP1, hK1, hD1⟩ := hB
  rw [ht] at hP1
  obtain ⟨hP2, hD2⟩ := va_join (wr := wr) (w1 := u) hP hD is ir hC hR hnr hdis hk1 hF hP1 hD1
  exact kk r u hw H1 locs1 ls hP2 hD2 hS1 hl
theorem x_callVl {E : XE} {Z : ZC} {own : String} {cc : ByteArray} {mL : Nat} {R0 : Room} {c n : Nat} {ws : va_W} {lv : List (Nat × Value)} {st rest as : List Value} {pc pc' idx ml mc ms na c' n' : Nat} {b : Nat} {y : MethodName} {bc : ByteArray} {rm : Room} {wc wr : va_W} {post : Int64 → va_W → Prop} (hZ : XOK E Z own cc mL R0) (hc : ConL E y bc ml rm mc ms (.ref b :: as) wc post) {C : String} {T : u_T} {N ci q0 : Nat} {fs : List Value} (hvc : vwCl[ci]? = some (C, T, N)) (he : ws[q0]? = some (b, .inr (ci, fs))) (hi : Cond.instanceMethod y ∈ WW) (hs : Cond.selects C y y ∈ WW) (hk : Cond.methodLink own idx y ∈ WW) (hI : Cond.initialized C ∈ WW) (hcls : y.cls = C) (hcd : Cond.code y bc ml (some .long) ∈ WW) (hpl : y.cls ≠ "java/lang/invoke/MethodHandle" ∧ y.cls ≠ "java/lang/invoke/VarHandle") (hsig : ∀ sig, parseMethodDescriptor y.desc = some sig → na = sig.parameters.length) (hd : decode cc pc = .ok (.invokevirtual idx, 3)) (hp : pc + 3 = pc') (hst : st = as.reverse ++ .ref b :: rest) (hna : as.length = na) (hmc : rm.cells = mc) (hms : rm.slots = ms) (hfr : rm.frames + 1 ≤ R0.frames) (hlo : 8 + (ml + 11) + rm.locals ≤ R0.locals) (hsum : (rest.map fun v => v.category).sum ≤ 8) (hc' : c + mc = c') (hn' : n + ms = n') (hrc : c' ≤ R0.cells) (hrs : n' ≤ R0.slots) (is ir : List Nat) (hC : is.map (fun i => ws[i]?) = wc.map some) (hR : ir.map (fun i => ws[i]?) = wr.map some) (hnc : va_nd is = true) (hnr : va_nd ir = true) (hdis : ∀ i ∈ ir, i ∉ is) (kk : ∀ (r : Int64) (w1 : va_W), post r w1 → XW E Z c' n' (wr ++ w1) lv (.long r :: rest) pc') : XW E Z c n ws lv st pc := by
  obtain ⟨⟨p, e, R, s, m, args, below, meth, cd⟩, A, Q, nL⟩ := Z
  obtain ⟨hx, hb, hml, rfl, hown, hts, hN, hK, hA, rfl, hSt⟩ := hZ
  intro H locs ls hP hD hS hl
  subst hp
  subst hc'
  subst hn'
  subst hst
  have hF := va_free (wc := wc) hD hS hA is hC
  refine va_calll (mc := mc) (ms := ms) (va_runV ⟨hx, hb, hml, hown, hts⟩ (hc H.size) ⟨⟨hmc, hms, hfr, hlo, pay_in hts (xgoodIn y hcd), List.mem_cons_self, hts _ hcd, by rw [hcls]; exact hts _ hI, hpl, hsig, hts _ hk⟩, hts _ hi, hts _ hs⟩ ⟨xblind, va_recv hK hP hvc he, fun U hU hW => ⟨rfl, x_pre hN hK hA hSt hP hD hS is hC hnc U hU hW⟩⟩ rfl hna hl.1 rfl (lv_room hsum) hd ⟨hrc, hrs⟩) hS (fun q _ h => hF q h) hF (fun r u t H1 locs1 ht hvm hw hB hz1 hk1 hS1 => ?_)
  obtain ⟨hP1, hK1, hD1⟩ := hB
  rw [ht] at hP1
  obtain ⟨hP2, hD2⟩ := va_join (wr := wr) (w1 := u) hP hD is ir hC hR hnr hdis hk1 hF hP1 hD1
  exact kk r u hw H1 locs1 ls hP2 hD2 hS1 hl
theorem x_callVv {E : XE} {Z : ZC} {own : String} {cc : ByteArray} {mL : Nat} {R0 : Room} {c n : Nat} {ws : va_W} {lv : List (Nat × Value)} {st rest as : List Value} {pc pc' idx ml mc ms na c' n' : Nat} {b : Nat} {y : MethodName} {bc : ByteArray} {rm : Room} {wc wr : va_W} {post : va_W → Prop} (hZ : XOK E Z own cc mL R0) (hc : ConV E y bc ml rm mc ms (.ref b :: as) wc post) {C : String} {T : u_T} {N ci q0 : Nat} {fs : List Value} (hvc : vwCl[ci]? = some (C, T, N)) (he : ws[q0]? = some (b, .inr (ci, fs))) (hi : Cond.instanceMethod y ∈ WW) (hs : Cond.selects C y y ∈ WW) (hk : Cond.methodLink own idx y ∈ WW) (hI : Cond.initialized C ∈ WW) (hcls : y.cls = C) (hcd : Cond.code y bc ml none ∈ WW) (hpl : y.cls ≠ "java/lang/invoke/MethodHandle" ∧ y.cls ≠ "java/lang/invoke/VarHandle") (hsig : ∀ sig, parseMethodDescriptor y.desc = some sig → na = sig.parameters.length) (hd : decode cc pc = .ok (.invokevirtual idx, 3)) (hp : pc + 3 = pc') (hst : st = as.reverse ++ .ref b :: rest) (hna : as.length = na) (hmc : rm.cells = mc) (hms : rm.slots = ms) (hfr : rm.frames + 1 ≤ R0.frames) (hlo : 8 + (ml + 11) + rm.locals ≤ R0.locals) (hsum : (rest.map fun v => v.category).sum ≤ 8) (hc' : c + mc = c') (hn' : n + ms = n') (hrc : c' ≤ R0.cells) (hrs : n' ≤ R0.slots) (is ir : List Nat) (hC : is.map (fun i => ws[i]?) = wc.map some) (hR : ir.map (fun i => ws[i]?) = wr.map some) (hnc : va_nd is = true) (hnr : va_nd ir = true) (hdis : ∀ i ∈ ir, i ∉ is) (kk : ∀ (w1 : va_W), post w1 → XW E Z c' n' (wr ++ w1) lv (rest) pc') : XW E Z c n ws lv st pc := by
  obtain ⟨⟨p, e, R, s, m, args, below, meth, cd⟩, A, Q, nL⟩ := Z
  obtain ⟨hx, hb, hml, rfl, hown, hts, hN, hK, hA, rfl, hSt⟩ := hZ
  intro H locs ls hP hD hS hl
  subst hp
  subst hc'
  subst hn'
  subst hst
  have hF := va_free (wc := wc) hD hS hA is hC
  refine va_callv (mc := mc) (ms := ms) (va_runV ⟨hx, hb, hml, hown, hts⟩ (hc H.size) ⟨⟨hmc, hms, hfr, hlo, pay_in hts (xgoodIn y hcd), List.mem_cons_self, hts _ hcd, by rw [hcls]; exact hts _ hI, hpl, hsig, hts _ hk⟩, hts _ hi, hts _ hs⟩ ⟨xblind, va_recv hK hP hvc he, fun U hU hW => ⟨rfl, x_pre hN hK hA hSt hP hD hS is hC hnc U hU hW⟩⟩ rfl hna hl.1 rfl (lv_room hsum) hd ⟨hrc, hrs⟩) hS (fun q _ h => hF q h) hF (fun u t H1 locs1 ht hvm hw hB hz1 hk1 hS1 => ?_)
  obtain ⟨hP1, hK1, hD1⟩ := hB
  rw [ht] at hP1
  obtain ⟨hP2, hD2⟩ := va_join (wr := wr) (w1 := u) hP hD is ir hC hR hnr hdis hk1 hF hP1 hD1
  exact kk u hw H1 locs1 ls hP2 hD2 hS1 hl
theorem x_callNi {E : XE} {Z : ZC} {own : String} {cc : ByteArray} {mL : Nat} {R0 : Room} {c n : Nat} {ws : va_W} {lv : List (Nat × Value)} {st rest as : List Value} {pc pc' idx ml mc ms na c' n' : Nat} {b : Nat} {y : MethodName} {bc : ByteArray} {ty : FieldType} {rm : Room} {wc wr : va_W} {post : Int32 → va_W → Prop} (hZ : XOK E Z own cc mL R0) (hc : ConI E y bc ml ty rm mc ms (.ref b :: as) wc post) {C : String} {T : u_T} {N ci q0 : Nat} {fs : List Value} (hvc : vwCl[ci]? = some (C, T, N)) (he : ws[q0]? = some (b, .inr (ci, fs))) (hi : Cond.instanceMethod y ∈ WW) (hs : Cond.selects C y y ∈ WW) {host : String} (hk : Cond.methodLinkNest own idx y host ∈ xNst) (hI : Cond.initialized C ∈ WW) (hcls : y.cls = C) (hcd : Cond.code y bc ml (some ty) ∈ WW) (hpl : y.cls ≠ "java/lang/invoke/MethodHandle" ∧ y.cls ≠ "java/lang/invoke/VarHandle") (hsig : ∀ sig, parseMethodDescriptor y.desc = some sig → na = sig.parameters.length) (hd : decode cc pc = .ok (.invokevirtual idx, 3)) (hp : pc + 3 = pc') (hst : st = as.reverse ++ .ref b :: rest) (hna : as.length = na) (hmc : rm.cells = mc) (hms : rm.slots = ms) (hfr : rm.frames + 1 ≤ R0.frames) (hlo : 8 + (ml + 11) + rm.locals ≤ R0.locals) (hsum : (rest.map fun v => v.category).sum ≤ 8) (hc' : c + mc = c') (hn' : n + ms = n') (hrc : c' ≤ R0.cells) (hrs : n' ≤ R0.slots) (is ir : List Nat) (hC : is.map (fun i => ws[i]?) = wc.map some) (hR : ir.map (fun i => ws[i]?) = wr.map some) (hnc : va_nd is = true) (hnr : va_nd ir = true) (hdis : ∀ i ∈ ir, i ∉ is) (kk : ∀ (r : Int32) (w1 : va_W), post r w1 → XW E Z c' n' (wr ++ w1) lv (.int r :: rest) pc') : XW E Z c n ws lv st pc := by
  obtain ⟨⟨p, e, R, s, m, args, below, meth, cd⟩, A, Q, nL⟩ := Z
  obtain ⟨hx, hb, hml, rfl, hown, hts, hN, hK, hA, rfl, hSt⟩ := hZ
  intro H locs ls hP hD hS hl
  subst hp
  subst hc'
  subst hn'
  subst hst
  have hF := va_free (wc := wc) hD hS hA is hC
  refine va_calli (mc := mc) (ms := ms) (va_runVN ⟨hx, hb, hml, hown, hts⟩ (hc H.size) ⟨⟨⟨hmc, hms, hfr, hlo, pay_in hts (xgoodIn y hcd), List.mem_cons_self⟩, hts _ hcd, by rw [hcls]; exact hts _ hI, hpl, hsig, va_Nw.use rfl (hN _ hk)⟩, hts _ hi, hts _ hs⟩ ⟨xblind, va_recv hK hP hvc he, fun U hU hW => ⟨rfl, x_pre hN hK hA hSt hP hD hS is hC hnc U hU hW⟩⟩ rfl hna hl.1 rfl (lv_room hsum) hd ⟨hrc, hrs⟩) hS (fun q _ h => hF q h) hF (fun r u t H1 locs1 ht hvm hw hB hz1 hk1 hS1 => ?_)
  obtain ⟨hP1, hK1, hD1⟩ := hB
  rw [ht] at hP1
  obtain ⟨hP2, hD2⟩ := va_join (wr := wr) (w1 := u) hP hD is ir hC hR hnr hdis hk1 hF hP1 hD1
  exact kk r u hw H1 locs1 ls hP2 hD2 hS1 hl
theorem x_callNv {E : XE} {Z : ZC} {own : String} {cc : ByteArray} {mL : Nat} {R0 : Room} {c n : Nat} {ws : va_W} {lv : List (Nat × Value)} {st rest as : List Value} {pc pc' idx ml mc ms na c' n' : Nat} {b : Nat} {y : MethodName} {bc : ByteArray} {rm : Room} {wc wr : va_W} {post : va_W → Prop} (hZ : XOK E Z own cc mL R0) (hc : ConV E y bc ml rm mc ms (.ref b :: as) wc post) {C : String} {T : u_T} {N ci q0 : Nat} {fs : List Value} (hvc : vwCl[ci]? = some (C, T, N)) (he : ws[q0]? = some (b, .inr (ci, fs))) (hi : Cond.instanceMethod y ∈ WW) (hs : Cond.selects C y y ∈ WW) {host : String} (hk : Cond.methodLinkNest own idx y host ∈ xNst) (hI : Cond.initialized C ∈ WW) (hcls : y.cls = C) (hcd : Cond.code y bc ml none ∈ WW) (hpl : y.cls ≠ "java/lang/invoke/MethodHandle" ∧ y.cls ≠ "java/lang/invoke/VarHandle") (hsig : ∀ sig, parseMethodDescriptor y.desc = some sig → na = sig.parameters.length) (hd : decode cc pc = .ok (.invokevirtual idx, 3)) (hp : pc + 3 = pc') (hst : st = as.reverse ++ .ref b :: rest) (hna : as.length = na) (hmc : rm.cells = mc) (hms : rm.slots = ms) (hfr : rm.frames + 1 ≤ R0.frames) (hlo : 8 + (ml + 11) + rm.locals ≤ R0.locals) (hsum : (rest.map fun v => v.category).sum ≤ 8) (hc' : c + mc = c') (hn' : n + ms = n') (hrc : c' ≤ R0.cells) (hrs : n' ≤ R0.slots) (is ir : List Nat) (hC : is.map (fun i => ws[i]?) = wc.map some) (hR : ir.map (fun i => ws[i]?) = wr.map some) (hnc : va_nd is = true) (hnr : va_nd ir = true) (hdis : ∀ i ∈ ir, i ∉ is) (kk : ∀ (w1 : va_W), post w1 → XW E Z c' n' (wr ++ w1) lv (rest) pc') : XW E Z c n ws lv st pc := by
  obtain ⟨⟨p, e, R, s, m, args, below, meth, cd⟩, A, Q, nL⟩ := Z
  obtain ⟨hx, hb, hml, rfl, hown, hts, hN, hK, hA, rfl, hSt⟩ := hZ
  intro H locs ls hP hD hS hl
  subst hp
  subst hc'
  subst hn'
  subst hst
  have hF := va_free (wc := wc) hD hS hA is hC
  refine va_callv (mc := mc) (ms := ms) (va_runVN ⟨hx, hb, hml, hown, hts⟩ (hc H.size) ⟨⟨⟨hmc, hms, hfr, hlo, pay_in hts (xgoodIn y hcd), List.mem_cons_self⟩, hts _ hcd, by rw [hcls]; exact hts _ hI, hpl, hsig, va_Nw.use rfl (hN _ hk)⟩, hts _ hi, hts _ hs⟩ ⟨xblind, va_recv hK hP hvc he, fun U hU hW => ⟨rfl, x_pre hN hK hA hSt hP hD hS is hC hnc U hU hW⟩⟩ rfl hna hl.1 rfl (lv_room hsum) hd ⟨hrc, hrs⟩) hS (fun q _ h => hF q h) hF (fun u t H1 locs1 ht hvm hw hB hz1 hk1 hS1 => ?_)
  obtain ⟨hP1, hK1, hD1⟩ := hB
  rw [ht] at hP1
  obtain ⟨hP2, hD2⟩ := va_join (wr := wr) (w1 := u) hP hD is ir hC hR hnr hdis hk1 hF hP1 hD1
  exact kk u hw H1 locs1 ls hP2 hD2 hS1 hl
theorem x_callSi {E : XE} {Z : ZC} {own : String} {cc : ByteArray} {mL : Nat} {R0 : Room} {c n : Nat} {ws : va_W} {lv : List (Nat × Value)} {st rest as : List Value} {pc pc' idx ml mc ms na c' n' : Nat} {y : MethodName} {bc : ByteArray} {ty : FieldType} {rm : Room} {wc wr : va_W} {post : Int32 → va_W → Prop} (hZ : XOK E Z own cc mL R0) (hc : ConI E y bc ml ty rm mc ms as wc post) (hst : Cond.static y ∈ WW) (hk : Cond.methodLink own idx y ∈ WW) (hI : Cond.initialized y.cls ∈ WW) (hcd : Cond.code y bc ml (some ty) ∈ WW) (hpl : y.cls ≠ "java/lang/invoke/MethodHandle" ∧ y.cls ≠ "java/lang/invoke/VarHandle") (hsig : ∀ sig, parseMethodDescriptor y.desc = some sig → na = sig.parameters.length) (hd : decode cc pc = .ok (.invokestatic idx, 3)) (hp : pc + 3 = pc') (hst : st = as.reverse ++ rest) (hna : as.length = na) (hmc : rm.cells = mc) (hms : rm.slots = ms) (hfr : rm.frames + 1 ≤ R0.frames) (hlo : 8 + (ml + 11) + rm.locals ≤ R0.locals) (hsum : (rest.map fun v => v.category).sum ≤ 8) (hc' : c + mc = c') (hn' : n + ms = n') (hrc : c' ≤ R0.cells) (hrs : n' ≤ R0.slots) (is ir : List Nat) (hC : is.map (fun i => ws[i]?) = wc.map some) (hR : ir.map (fun i => ws[i]?) = wr.map some) (hnc : va_nd is = true) (hnr : va_nd ir = true) (hdis : ∀ i ∈ ir, i ∉ is) (kk : ∀ (r : Int32) (w1 : va_W), post r w1 → XW E Z c' n' (wr ++ w1) lv (.int r :: rest) pc') : XW E Z c n ws lv st pc := by
  obtain ⟨⟨p, e, R, s, m, args, below, meth, cd⟩, A, Q, nL⟩ := Z
  obtain ⟨hx, hb, hml, rfl, hown, hts, hN, hK, hA, rfl, hSt⟩ := hZ
  intro H locs ls hP hD hS hl
  subst hp
  subst hc'
  subst hn'
  subst hst
  have hF := va_free (wc := wc) hD hS hA is hC
  refine va_calli (mc := mc) (ms := ms) (va_runS ⟨hx, hb, hml, hown, hts⟩ (hc H.size) ⟨⟨hmc, hms, hfr, hlo, pay_in hts (xgoodIn y hcd), List.mem_cons_self, hts _ hcd, hts _ hI, hpl, hsig, hts _ hk⟩, hts _ hst⟩ ⟨xblind, fun U hU hW => ⟨rfl, x_pre hN hK hA hSt hP hD hS is hC hnc U hU hW⟩⟩ rfl hna hl.1 rfl (lv_room hsum) hd ⟨hrc, hrs⟩) hS (fun q _ h => hF q h) hF (fun r u t H1 locs1 ht hvm hw hB hz1 hk1 hS1 => ?_)
  obtain ⟨hP1, hK1, hD1⟩ := hB
  rw [ht] at hP1
  obtain ⟨hP2, hD2⟩ := va_join (wr := wr) (w1 := u) hP hD is ir hC hR hnr hdis hk1 hF hP1 hD1
  exact kk r u hw H1 locs1 ls hP2 hD2 hS1 hl
theorem x_callSl {E : XE} {Z : ZC} {own : String} {cc : ByteArray} {mL : Nat} {R0 : Room} {c n : Nat} {ws : va_W} {lv : List (Nat × Value)} {st rest as : List Value} {pc pc' idx ml mc ms na c' n' : Nat} {y : MethodName} {bc : ByteArray} {rm : Room} {wc wr : va_W} {post : Int64 → va_W → Prop} (hZ : XOK E Z own cc mL R0) (hc : ConL E y bc ml rm mc ms as wc post) (hst : Cond.static y ∈ WW) (hk : Cond.methodLink own idx y ∈ WW) (hI : Cond.initialized y.cls ∈ WW) (hcd : Cond.code y bc ml (some .long) ∈ WW) (hpl : y.cls ≠ "java/lang/invoke/MethodHandle" ∧ y.cls ≠ "java/lang/invoke/VarHandle") (hsig : ∀ sig, parseMethodDescriptor y.desc = some sig → na = sig.parameters.length) (hd : decode cc pc = .ok (.invokestatic idx, 3)) (hp : pc + 3 = pc') (hst : st = as.reverse ++ rest) (hna : as.length = na) (hmc : rm.cells = mc) (hms : rm.slots = ms) (hfr : rm.frames + 1 ≤ R0.frames) (hlo : 8 + (ml + 11) + rm.locals ≤ R0.locals) (hsum : (rest.map fun v => v.category).sum ≤ 8) (hc' : c + mc = c') (hn' : n + ms = n') (hrc : c' ≤ R0.cells) (hrs : n' ≤ R0.slots) (is ir : List Nat) (hC : is.map (fun i => ws[i]?) = wc.map some) (hR : ir.map (fun i => ws[i]?) = wr.map some) (hnc : va_nd is = true) (hnr : va_nd ir = true) (hdis : ∀ i ∈ ir, i ∉ is) (kk : ∀ (r : Int64) (w1 : va_W), post r w1 → XW E Z c' n' (wr ++ w1) lv (.long r :: rest) pc') : XW E Z c n ws lv st pc := by
  obtain ⟨⟨p, e, R, s, m, args, below, meth, cd⟩, A, Q, nL⟩ := Z
  obtain ⟨hx, hb, hml, rfl, hown, hts, hN, hK, hA, rfl, hSt⟩ := hZ
  intro H locs ls hP hD hS hl
  subst hp
  subst hc'
  subst hn'
  subst hst
  have hF := va_free (wc := wc) hD hS hA is hC
  refine va_calll (mc := mc) (ms := ms) (va_runS ⟨hx, hb, hml, hown, hts⟩ (hc H.size) ⟨⟨hmc, hms, hfr, hlo, pay_in hts (xgoodIn y hcd), List.mem_cons_self, hts _ hcd, hts _ hI, hpl, hsig, hts _ hk⟩, hts _ hst⟩ ⟨xblind, fun U hU hW => ⟨rfl, x_pre hN hK hA hSt hP hD hS is hC hnc U hU hW⟩⟩ rfl hna hl.1 rfl (lv_room hsum) hd ⟨hrc, hrs⟩) hS (fun q _ h => hF q h) hF (fun r u t H1 locs1 ht hvm hw hB hz1 hk1 hS1 => ?_)
  obtain ⟨hP1, hK1, hD1⟩ := hB
  rw [ht] at hP1
  obtain ⟨hP2, hD2⟩ := va_join (wr := wr) (w1 := u) hP hD is ir hC hR hnr hdis hk1 hF hP1 hD1
  exact kk r u hw H1 locs1 ls hP2 hD2 hS1 hl
theorem x_callSv {E : XE} {Z : ZC} {own : String} {cc : ByteArray} {mL : Nat} {R0 : Room} {c n : Nat} {ws : va_W} {lv : List (Nat × Value)} {st rest as : List Value} {pc pc' idx ml mc ms na c' n' : Nat} {y : MethodName} {bc : ByteArray} {rm : Room} {wc wr : va_W} {post : va_W → Prop} (hZ : XOK E Z own cc mL R0) (hc : ConV E y bc ml rm mc ms as wc post) (hst : Cond.static y ∈ WW) (hk : Cond.methodLink own idx y ∈ WW) (hI : Cond.initialized y.cls ∈ WW) (hcd : Cond.code y bc ml none ∈ WW) (hpl : y.cls ≠ "java/lang/invoke/MethodHandle" ∧ y.cls ≠ "java/lang/invoke/VarHandle") (hsig : ∀ sig, parseMethodDescriptor y.desc = some sig → na = sig.parameters.length) (hd : decode cc pc = .ok (.invokestatic idx, 3)) (hp : pc + 3 = pc') (hst : st = as.reverse ++ rest) (hna : as.length = na) (hmc : rm.cells = mc) (hms : rm.slots = ms) (hfr : rm.frames + 1 ≤ R0.frames) (hlo : 8 + (ml + 11) + rm.locals ≤ R0.locals) (hsum : (rest.map fun v => v.category).sum ≤ 8) (hc' : c + mc = c') (hn' : n + ms = n') (hrc : c' ≤ R0.cells) (hrs : n' ≤ R0.slots) (is ir : List Nat) (hC : is.map (fun i => ws[i]?) = wc.map some) (hR : ir.map (fun i => ws[i]?) = wr.map some) (hnc : va_nd is = true) (hnr : va_nd ir = true) (hdis : ∀ i ∈ ir, i ∉ is) (kk : ∀ (w1 : va_W), post w1 → XW E Z c' n' (wr ++ w1) lv (rest) pc') : XW E Z c n ws lv st pc := by
  obtain ⟨⟨p, e, R, s, m, args, below, meth, cd⟩, A, Q, nL⟩ := Z
  obtain ⟨hx, hb, hml, rfl, hown, hts, hN, hK, hA, rfl, hSt⟩ := hZ
  intro H locs ls hP hD hS hl
  subst hp
  subst hc'
  subst hn'
  subst hst
  have hF := va_free (wc := wc) hD hS hA is hC
  refine va_callv (mc := mc) (ms := ms) (va_runS ⟨hx, hb, hml, hown, hts⟩ (hc H.size) ⟨⟨hmc, hms, hfr, hlo, pay_in hts (xgoodIn y hcd), List.mem_cons_self, hts _ hcd, hts _ hI, hpl, hsig, hts _ hk⟩, hts _ hst⟩ ⟨xblind, fun U hU hW => ⟨rfl, x_pre hN hK hA hSt hP hD hS is hC hnc U hU hW⟩⟩ rfl hna hl.1 rfl (lv_room hsum) hd ⟨hrc, hrs⟩) hS (fun q _ h => hF q h) hF (fun u t H1 locs1 ht hvm hw hB hz1 hk1 hS1 => ?_)
  obtain ⟨hP1, hK1, hD1⟩ := hB
  rw [ht] at hP1
  obtain ⟨hP2, hD2⟩ := va_join (wr := wr) (w1 := u) hP hD is ir hC hR hnr hdis hk1 hF hP1 hD1
  exact kk u hw H1 locs1 ls hP2 hD2 hS1 hl
theorem x_callCv {E : XE} {Z : ZC} {own : String} {cc : ByteArray} {mL : Nat} {R0 : Room} {c n : Nat} {ws : va_W} {lv : List (Nat × Value)} {st rest as : List Value} {pc pc' idx ml mc ms na c' n' : Nat} {b : Nat} {y : MethodName} {bc : ByteArray} {rm : Room} {wc wr : va_W} {post : va_W → Prop} (hZ : XOK E Z own cc mL R0) (hc : ConV E y bc ml rm mc ms (.ref b :: as) wc post) (hi : Cond.instanceMethod y ∈ WW) (hk : Cond.methodLink own idx y ∈ WW) (hI : Cond.initialized y.cls ∈ WW) (hnm : y.name = "<init>") (hcd : Cond.code y bc ml none ∈ WW) (hpl : y.cls ≠ "java/lang/invoke/MethodHandle" ∧ y.cls ≠ "java/lang/invoke/VarHandle") (hsig : ∀ sig, parseMethodDescriptor y.desc = some sig → na = sig.parameters.length) (hd : decode cc pc = .ok (.invokespecial idx, 3)) (hp : pc + 3 = pc') (hst : st = as.reverse ++ .ref b :: rest) (hna : as.length = na) (hmc : rm.cells = mc) (hms : rm.slots = ms) (hfr : rm.frames + 1 ≤ R0.frames) (hlo : 8 + (ml + 11) + rm.locals ≤ R0.locals) (hsum : (rest.map fun v => v.category).sum ≤ 8) (hc' : c + mc = c') (hn' : n + ms = n') (hrc : c' ≤ R0.cells) (hrs : n' ≤ R0.slots) (is ir : List Nat) (hC : is.map (fun i => ws[i]?) = wc.map some) (hR : ir.map (fun i => ws[i]?) = wr.map some) (hnc : va_nd is = true) (hnr : va_nd ir = true) (hdis : ∀ i ∈ ir, i ∉ is) (kk : ∀ (w1 : va_W), post w1 → XW E Z c' n' (wr ++ w1) lv (rest) pc') : XW E Z c n ws lv st pc := by
  obtain ⟨⟨p, e, R, s, m, args, below, meth, cd⟩, A, Q, nL⟩ := Z
  obtain ⟨hx, hb, hml, rfl, hown, hts, hN, hK, hA, rfl, hSt⟩ := hZ
  intro H locs ls hP hD hS hl
  subst hp
  subst hc'
  subst hn'
  subst hst
  have hF := va_free (wc := wc) hD hS hA is hC
  refine va_callv (mc := mc) (ms := ms) (va_runI ⟨hx, hb, hml, hown, hts⟩ (hc H.size) ⟨⟨hmc, hms, hfr, hlo, pay_in hts (xgoodIn y hcd), List.mem_cons_self, hts _ hcd, hts _ hI, hpl, hsig, hts _ hk⟩, hnm, hts _ hi⟩ ⟨xblind, fun U hU hW => ⟨rfl, x_pre hN hK hA hSt hP hD hS is hC hnc U hU hW⟩⟩ rfl hna hl.1 rfl (lv_room hsum) hd ⟨hrc, hrs⟩) hS (fun q _ h => hF q h) hF (fun u t H1 locs1 ht hvm hw hB hz1 hk1 hS1 => ?_)
  obtain ⟨hP1, hK1, hD1⟩ := hB
  rw [ht] at hP1
  obtain ⟨hP2, hD2⟩ := va_join (wr := wr) (w1 := u) hP hD is ir hC hR hnr hdis hk1 hF hP1 hD1
  exact kk u hw H1 locs1 ls hP2 hD2 hS1 hl
theorem x_callKv {E : XE} {Z : ZC} {own : String} {cc : ByteArray} {mL : Nat} {R0 : Room} {c n : Nat} {ws : va_W} {lv : List (Nat × Value)} {st rest as : List Value} {pc pc' idx ml mc ms na c' n' : Nat} {b : Nat} {y : MethodName} {bc : ByteArray} {rm : Room} {wc wr : va_W} {post : va_W → Prop} (hZ : XOK E Z own cc mL R0) (hc : ConV E y bc ml rm mc ms (.ref b :: as) wc post) (hi : Cond.instanceMethod y ∈ WW) {host : String} (hk : Cond.methodLinkNest own idx y host ∈ xNst) (hI : Cond.initialized y.cls ∈ WW) (hnm : y.name = "<init>") (hcd : Cond.code y bc ml none ∈ WW) (hpl : y.cls ≠ "java/lang/invoke/MethodHandle" ∧ y.cls ≠ "java/lang/invoke/VarHandle") (hsig : ∀ sig, parseMethodDescriptor y.desc = some sig → na = sig.parameters.length) (hd : decode cc pc = .ok (.invokespecial idx, 3)) (hp : pc + 3 = pc') (hst : st = as.reverse ++ .ref b :: rest) (hna : as.length = na) (hmc : rm.cells = mc) (hms : rm.slots = ms) (hfr : rm.frames + 1 ≤ R0.frames) (hlo : 8 + (ml + 11) + rm.locals ≤ R0.locals) (hsum : (rest.map fun v => v.category).sum ≤ 8) (hc' : c + mc = c') (hn' : n + ms = n') (hrc : c' ≤ R0.cells) (hrs : n' ≤ R0.slots) (is ir : List Nat) (hC : is.map (fun i => ws[i]?) = wc.map some) (hR : ir.map (fun i => ws[i]?) = wr.map some) (hnc : va_nd is = true) (hnr : va_nd ir = true) (hdis : ∀ i ∈ ir, i ∉ is) (kk : ∀ (w1 : va_W), post w1 → XW E Z c' n' (wr ++ w1) lv (rest) pc') : XW E Z c n ws lv st pc := by
  obtain ⟨⟨p, e, R, s, m, args, below, meth, cd⟩, A, Q, nL⟩ := Z
  obtain ⟨hx, hb, hml, rfl, hown, hts, hN, hK, hA, rfl, hSt⟩ := hZ
  intro H locs ls hP hD hS hl
  subst hp
  subst hc'
  subst hn'
  subst hst
  have hF := va_free (wc := wc) hD hS hA is hC
  refine va_callv (mc := mc) (ms := ms) (va_runIN ⟨hx, hb, hml, hown, hts⟩ (hc H.size) ⟨⟨⟨hmc, hms, hfr, hlo, pay_in hts (xgoodIn y hcd), List.mem_cons_self⟩, hts _ hcd, hts _ hI, hpl, hsig, va_Nw.use rfl (hN _ hk)⟩, hnm, hts _ hi⟩ ⟨xblind, fun U hU hW => ⟨rfl, x_pre hN hK hA hSt hP hD hS is hC hnc U hU hW⟩⟩ rfl hna hl.1 rfl (lv_room hsum) hd ⟨hrc, hrs⟩) hS (fun q _ h => hF q h) hF (fun u t H1 locs1 ht hvm hw hB hz1 hk1 hS1 => ?_)
  obtain ⟨hP1, hK1, hD1⟩ := hB
  rw [ht] at hP1
  obtain ⟨hP2, hD2⟩ := va_join (wr := wr) (w1 := u) hP hD is ir hC hR hnr hdis hk1 hF hP1 hD1
  exact kk u hw H1 locs1 ls hP2 hD2 hS1 hl
