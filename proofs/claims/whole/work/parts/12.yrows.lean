/-! walks that make cells: constructors, the law's own body -/
def XA (E : EV) (ws : va_W) (mc ms pc : Nat) (lv : List (Nat × Value)) (st : List Value) : Prop := match E with
  | (p, l, e, R, s, m, args, below, meth, c, D, A, nL, Q) => ∀ (H : Heap) (locs : List Loc) (ls : Array Slot), va_P D vwCl ws H → va_D A ws → va_S A s.heap H locs → lv_has ls nL lv → W p l e R s m args below meth c H locs mc ms Q (F0 m pc ls st)
def KA (D : va_G) (cy : Nat → ClassId) (U : State) : Prop := KK D cy U ∧ va_AO RX2 U ∧ va_AO RX8 U
theorem KA.warm {D : va_G} {cy : Nat → ClassId} {s U : State} (hW : s.WarmedH U.vm) (h : KA D cy s) : KA D cy U := ⟨h.1.warm hW, h.2.1.moved hW.alike, h.2.2.moved hW.alike⟩
theorem KA.same {D : va_G} {cy : Nat → ClassId} {s U : State} (e : s.vm = U.vm) (h : KA D cy s) : KA D cy U := ⟨h.1.same e, h.2.1.moved (by rw [e]; exact Vm.Alike.refl U.vm), h.2.2.moved (by rw [e]; exact Vm.Alike.refl U.vm)⟩
def YG (E : EV) (cy : Nat → ClassId) (cc : ByteArray) (own : String) (nL : Nat) (Rm : Room) : Prop := match E with
  | (p, _, _, R, s, m, args, _, _, c, D, A, nL', _) => p.tables.exec = Jvm.exec ∧ c.code = cc ∧ c.maxLocals = nL ∧ nL' = nL ∧ s.vm.findClass own = some m.cls ∧ (∀ w ∈ TB, w.before args s = true) ∧ KA D cy s ∧ R = Rm ∧ (∀ q, s.heap.size ≤ q → A q)
def YI (E : EV) : Prop := match E with
  | (_, _, _, _, _, _, _, _, meth, _, _, _, _, _) => meth.name = "<init>"
def AI (b sz : Nat) : Nat → Prop := fun q => q = b ∨ sz ≤ q
def QI (D : va_G) (b sz : Nat) (post : va_W → Prop) : Array Value → State → Outcome → State → Prop := fun _ st oc t => (oc = .returned none ∧ ∃ ws, post ws ∧ va_P D vwCl ws t.heap ∧ va_D (AI b sz) ws) ∧ va_F (AI b sz) st t
def rmI (lvl MC MS : Nat) : Room := { frames := lvl, cells := MC, slots := MS, locals := 40 * lvl }
/-- a constructor's contract: its cell b comes with the default fields fs; what it leaves is 'post' -/
def CI (l : Launch) (D : va_G) (cy : Nat → ClassId) (y : MethodName) (cc : ByteArray) (n lvl MC MS : Nat) (av : List Value) (b ci : Nat) (fs : List Value) (post : va_W → Prop) : Prop := ∀ sz : Nat,
  Met l y (wsU y cc n none) (rmI lvl MC MS) (va_Pc (.ref b :: av) (fun U => U.heap.size = sz ∧ va_P D vwCl [(b, .inr (ci, fs))] U.heap ∧ KA D cy U)) (QI D b sz post) MC MS (AI b sz)
def YQ (E : EV) (D : va_G) (b MC MS : Nat) (post : va_W → Prop) : Prop := match E with
  | (_, _, _, _, s, _, args, below, meth, _, D', A, _, Q) => D' = D ∧ A = AI b s.heap.size ∧ meth.sig.returnType = none ∧ meth.locks = false ∧ Q = MQ below (QI D b s.heap.size post) args s MC MS (AI b s.heap.size)
def YL (E : EV) (l : Launch) (D : va_G) : Prop := match E with
  | (_, l', _, _, _, _, _, _, _, _, D', _, _, _) => l' = l ∧ D' = D
theorem CI.of {l : Launch} {D : va_G} {cy : Nat → ClassId} {y : MethodName} {cc : ByteArray} {n np lvl MC MS : Nat} {av : List Value} {b ci : Nat} {fs : List Value} {post : va_W → Prop} (hm : MF y cc n none np) (hy : y.name = "<init>") (hn : (lg_sl (.ref b :: av)).length ≤ n)
    (k : ∀ E : EV, YL E l D → YG E cy cc y.cls n (rmI lvl MC MS) → YI E → YQ E D b MC MS post → XA E [(b, .inr (ci, fs))] 0 0 0 (lv_args 0 (.ref b :: av)) []) : CI l D cy y cc n lvl MC MS av b ci fs post := by
  intro sz
  refine Met.ofW (cc := cc) (maxL := n) (ret := none) hm.2.2.2.2.2 rfl ?_
  intro p e s m args below meth c s₁ B hml hv
  obtain ⟨rfl, rfl, hP, hK⟩ := hv
  have hts := atoms_spec (ws := wsU y cc n none) B.pre
  have hown : s.vm.findClass y.cls = some m.cls := findClass_of_methodNamed B.named
  have hin : meth.name = "<init>" := (name_of_methodNamed B.named B.method).1.trans hy
  have hl := lv_entry (.ref b :: av) (n := n) hn
  rw [lg_entry_eq]
  have hD : va_D (AI b s.heap.size) [(b, (.inr (ci, fs) : va_E))] := by
    refine ⟨fun i j p q h1 h2 _ => ?_, fun k q h => ?_⟩
    · have e1 := (List.getElem?_eq_some_iff.mp h1).1
      have e2 := (List.getElem?_eq_some_iff.mp h2).1
      simp at e1 e2
      omega
    · have e1 := (List.getElem?_eq_some_iff.mp h).1
      simp at e1
      subst e1
      cases h
      exact Or.inl rfl
  exact k (p, l, e, (headSpec (wsU y cc n none) (rmI lvl MC MS)).room, s, m, (Value.ref b :: av).toArray, below, meth, c, D, AI b s.heap.size, n, _) ⟨rfl, rfl⟩ ⟨B.exec, B.bytes, hml, rfl, hown, fun w h => hts w (List.mem_cons_of_mem _ h), hK, rfl, fun q h => Or.inr h⟩ hin ⟨rfl, rfl, B.returns, B.notSynchronized, rfl⟩ s.heap [] _ hP hD va_S.rf hl

section
variable {E : EV} {cy : Nat → ClassId} {cc : ByteArray} {own : String} {nL : Nat} {Rm : Room} {ws : va_W} {mc ms pc : Nat} {lv : List (Nat × Value)} {st : List Value}
theorem y_iconst (g : YG E cy cc own nL Rm) {n : Int} (v : Int32) (d : decode cc pc = .ok (.iconst n, 1)) (hv : Int32.ofInt n = v) (k : XA E ws mc ms (pc + 1) lv (.int v :: st)) : XA E ws mc ms pc lv (st) := by
  obtain ⟨p, l, e, R, s, m, args, below, meth, c, D, A, nL0, Q⟩ := E
  exact fun H locs ls hP hD hS hl => lv_iconst g.1 g.2.1 d hv (k H locs ls hP hD hS hl)
theorem y_bipush (g : YG E cy cc own nL Rm) {n : Int} (v : Int32) (d : decode cc pc = .ok (.bipush n, 2)) (hv : (Int8.ofInt n).toInt32 = v) (k : XA E ws mc ms (pc + 2) lv (.int v :: st)) : XA E ws mc ms pc lv (st) := by
  obtain ⟨p, l, e, R, s, m, args, below, meth, c, D, A, nL0, Q⟩ := E
  exact fun H locs ls hP hD hS hl => lv_bipush g.1 g.2.1 d hv (k H locs ls hP hD hS hl)
theorem y_sipush (g : YG E cy cc own nL Rm) {n : Int} (v : Int32) (d : decode cc pc = .ok (.sipush n, 3)) (hv : (Int16.ofInt n).toInt32 = v) (k : XA E ws mc ms (pc + 3) lv (.int v :: st)) : XA E ws mc ms pc lv (st) := by
  obtain ⟨p, l, e, R, s, m, args, below, meth, c, D, A, nL0, Q⟩ := E
  exact fun H locs ls hP hD hS hl => lv_sipush g.1 g.2.1 d hv (k H locs ls hP hD hS hl)
theorem y_iload_n (g : YG E cy cc own nL Rm) (j : Nat) {k : Fin 4} {i : Nat} {x : Int32} (d : decode cc pc = .ok (.iload_n k, 1)) (h : lv[j]? = some (i, .int x)) (hi : (k : Nat) = i) (kk : XA E ws mc ms (pc + 1) lv (.int x :: st)) : XA E ws mc ms pc lv (st) := by
  obtain ⟨p, l, e, R, s, m, args, below, meth, c, D, A, nL0, Q⟩ := E
  exact fun H locs ls hP hD hS hl => lv_iload_n g.1 g.2.1 d hi (lv_at hl j h) (kk H locs ls hP hD hS hl)
theorem y_aload_n (g : YG E cy cc own nL Rm) (j : Nat) {k : Fin 4} {i : Nat} {x : Nat} (d : decode cc pc = .ok (.aload_n k, 1)) (h : lv[j]? = some (i, .ref x)) (hi : (k : Nat) = i) (kk : XA E ws mc ms (pc + 1) lv (.ref x :: st)) : XA E ws mc ms pc lv (st) := by
  obtain ⟨p, l, e, R, s, m, args, below, meth, c, D, A, nL0, Q⟩ := E
  exact fun H locs ls hP hD hS hl => lv_aload_n g.1 g.2.1 d hi (lv_at hl j h) (kk H locs ls hP hD hS hl)
theorem y_istore_n (g : YG E cy cc own nL Rm) {k : Fin 4} {i : Nat} {x : Int32} {lv' : List (Nat × Value)} (d : decode cc pc = .ok (.istore_n k, 1)) (hi : (k : Nat) = i) (hn : i < nL) (hl' : (i, Value.int x) :: lv.filter (fun q => !(q.1 == i) && !(q.1 + 1 == i && q.2.category == 2)) = lv') (kk : XA E ws mc ms (pc + 1) lv' (st)) : XA E ws mc ms pc lv (.int x :: st) := by
  obtain ⟨p, l, e, R, s, m, args, below, meth, c, D, A, nL0, Q⟩ := E
  exact fun H locs ls hP hD hS hl => lv_istore_n g.1 g.2.1 d hi hl (by rw [g.2.2.2.1]; exact hn) hl' (fun ls' hl' => kk H locs ls' hP hD hS hl')
theorem y_astore_n (g : YG E cy cc own nL Rm) {k : Fin 4} {i : Nat} {x : Nat} {lv' : List (Nat × Value)} (d : decode cc pc = .ok (.astore_n k, 1)) (hi : (k : Nat) = i) (hn : i < nL) (hl' : (i, Value.ref x) :: lv.filter (fun q => !(q.1 == i) && !(q.1 + 1 == i && q.2.category == 2)) = lv') (kk : XA E ws mc ms (pc + 1) lv' (st)) : XA E ws mc ms pc lv (.ref x :: st) := by
  obtain ⟨p, l, e, R, s, m, args, below, meth, c, D, A, nL0, Q⟩ := E
  exact fun H locs ls hP hD hS hl => lv_astore_n g.1 g.2.1 d hi hl (by rw [g.2.2.2.1]; exact hn) hl' (fun ls' hl' => kk H locs ls' hP hD hS hl')
theorem y_iinc (g : YG E cy cc own nL Rm) (j : Nat) {i : Nat} {n : Int} {x : Int32} (v : Int32) {lv' : List (Nat × Value)} (d : decode cc pc = .ok (.iinc i n, 3)) (h : lv[j]? = some (i, .int x)) (hv : x + Int32.ofInt n = v) (hn : i < nL) (hl' : (i, Value.int v) :: lv.filter (fun q => !(q.1 == i) && !(q.1 + 1 == i && q.2.category == 2)) = lv') (kk : XA E ws mc ms (pc + 3) lv' (st)) : XA E ws mc ms pc lv (st) := by
  obtain ⟨p, l, e, R, s, m, args, below, meth, c, D, A, nL0, Q⟩ := E
  exact fun H locs ls hP hD hS hl => lv_iinc g.1 g.2.1 d hl h hv (by rw [g.2.2.2.1]; exact hn) hl' (fun ls' hl' => kk H locs ls' hP hD hS hl')
theorem y_dup (g : YG E cy cc own nL Rm) {va : Value} (d : decode cc pc = .ok (.dup, 1)) (hva : va.category = 1) (k : XA E ws mc ms (pc + 1) lv (va :: va :: st)) : XA E ws mc ms pc lv (va :: st) := by
  obtain ⟨p, l, e, R, s, m, args, below, meth, c, D, A, nL0, Q⟩ := E
  exact fun H locs ls hP hD hS hl => lv_dup g.1 g.2.1 d hva (k H locs ls hP hD hS hl)
theorem y_goto (g : YG E cy cc own nL Rm) {off : Int} (tgt : Nat) (d : decode cc pc = .ok (.goto off, 3)) (ht : (pc : Int) + off = (tgt : Int)) (k : XA E ws mc ms tgt lv (st)) : XA E ws mc ms pc lv (st) := by
  obtain ⟨p, l, e, R, s, m, args, below, meth, c, D, A, nL0, Q⟩ := E
  exact fun H locs ls hP hD hS hl => lv_goto g.1 g.2.1 d ht (k H locs ls hP hD hS hl)
theorem y_icmp_ge_t (g : YG E cy cc own nL Rm) {x y : Int32} {off : Int} (tgt : Nat) (d : decode cc pc = .ok (.if_icmp .ge off, 3)) (ht : (pc : Int) + off = (tgt : Int)) (h : y ≤ x) (k : XA E ws mc ms tgt lv (st)) : XA E ws mc ms pc lv (.int y :: .int x :: st) := by
  obtain ⟨p, l, e, R, s, m, args, below, meth, c, D, A, nL0, Q⟩ := E
  exact fun H locs ls hP hD hS hl => lv_icmp_ge g.1 g.2.1 d ht (fun _ => k H locs ls hP hD hS hl) (fun j => absurd h j)
theorem y_icmp_ge_f (g : YG E cy cc own nL Rm) {x y : Int32} {off : Int} (tgt : Nat) (d : decode cc pc = .ok (.if_icmp .ge off, 3)) (ht : (pc : Int) + off = (tgt : Int)) (h : ¬ y ≤ x) (k : XA E ws mc ms (pc + 3) lv (st)) : XA E ws mc ms pc lv (.int y :: .int x :: st) := by
  obtain ⟨p, l, e, R, s, m, args, below, meth, c, D, A, nL0, Q⟩ := E
  exact fun H locs ls hP hD hS hl => lv_icmp_ge g.1 g.2.1 d ht (fun j => absurd j h) (fun _ => k H locs ls hP hD hS hl)
theorem y_sub {lv' : List (Nat × Value)} (ks : List Nat) (h : lv_pick lv ks = lv') (k : XA E ws mc ms pc lv' st) : XA E ws mc ms pc lv st := by
  obtain ⟨p, l, e, R, s, m, args, below, meth, c, D, A, nL0, Q⟩ := E
  exact fun H locs ls hP hD hS hl => k H locs ls hP hD hS (lv_sub hl ks h)
theorem y_widen {k n : Nat} (h1 : mc ≤ k) (h2 : ms ≤ n) (kk : XA E ws k n pc lv st) : XA E ws mc ms pc lv st := by
  obtain ⟨p, l, e, R, s, m, args, below, meth, c, D, A, nL0, Q⟩ := E
  exact fun H locs ls hP hD hS hl => W.widen (k := k) (n := n) h1 h2 (kk H locs ls hP hD hS hl)
theorem y_objInit (g : YG E cy cc own nL Rm) {i : Nat} {b : Nat} (w : Cond.methodLink own i objectInit ∈ TB) (d : decode cc pc = .ok (.invokespecial i, 3)) (hfr : 1 ≤ Rm.frames) (hlo : (st.map fun v => v.category).sum + 12 ≤ Rm.locals) (k : XA E ws mc ms (pc + 3) lv (st)) : XA E ws mc ms pc lv (.ref b :: st) := by
  obtain ⟨p, l, e, R, s, m, args, below, meth, c, D, A, nL0, Q⟩ := E
  obtain ⟨hx, hb, hml, hnl, hown, hts, hK, hR, hA⟩ := g
  subst hR
  exact fun H locs ls hP hD hS hl => W.objInit hx hb hown (hts _ w) (hts _ oi_inst) (hts _ oi_code) rfl (by rw [hml, ← hnl]; exact hl.1) rfl d hfr (by show 2 * 0 + _ + 12 ≤ _; omega) (W.eq (g2 := F0 m (pc + 3) ls st) rfl (k H locs ls hP hD hS hl))
theorem y_new (g : YG E cy cc own nL Rm) {i ci N : Nat} {C : String} {T : u_T} (ty : Nat → FieldType) (fs : List Value) (hc : vwCl[ci]? = some (C, T, N)) (hin : ∀ w ∈ u_ws C T N, w ∈ TB) (hty : ∀ k, k < N → parseFieldDescriptor (T k).2.2.1 = some (ty k)) (w : Cond.classLink own i C ∈ TB) (it : Cond.instantiable C N ∈ TB) (ii : Cond.initialized C ∈ TB) (hfs : ∀ j, j < N → defaultValue (ty j) = vp_V fs j) (hcells : mc + 1 ≤ Rm.cells) (hslots : ms + N ≤ Rm.slots) (d : decode cc pc = .ok (.new i, 3)) (kk : ∀ q : Nat, XA E (ws ++ [(q, .inr (ci, fs))]) (mc + 1) (ms + N) (pc + 3) lv (.ref q :: st)) : XA E ws mc ms pc lv (st) := by
  obtain ⟨p, l, e, R, s, m, args, below, meth, c, D, A, nL0, Q⟩ := E
  obtain ⟨hx, hb, hml, hnl, hown, hts, hK, hR, hA⟩ := g
  subst hR
  exact fun H locs ls hP hD hS hl => va_new hx hb hts hin ty hty hown (hts _ w) (hts _ it) (hts _ ii) hK.1.1 hP hD hS hA hc hfs hcells hslots d (fun q H1 hP hD hS => kk q H1 locs ls hP hD hS hl)
theorem y_newaI (g : YG E cy cc own nL Rm) {n : Int32} (N : Nat) (hn : ¬ n < 0) (hN : n.toNatClampNeg = N) (hby : N * componentBytes .int ≤ 536870912) (hcells : mc + 1 ≤ Rm.cells) (hslots : ms + N ≤ Rm.slots) (d : decode cc pc = .ok (.newarray .int, 2)) (kk : ∀ q : Nat, XA E (ws ++ [(q, .inl (cy 0, N, .inl (fun _ => 0)))]) (mc + 1) (ms + N) (pc + 2) lv (.ref q :: st)) : XA E ws mc ms pc lv (.int n :: st) := by
  obtain ⟨p, l, e, R, s, m, args, below, meth, c, D, A, nL0, Q⟩ := E
  obtain ⟨hx, hb, hml, hnl, hown, hts, hK, hR, hA⟩ := g
  subst hR
  exact fun H locs ls hP hD hS hl => va_newa (atype := .int) hx hb (hts _ ac_int) rfl hK.1.1 hP hD hS hA (a0 := (N, .inl (fun _ => 0))) (fun _ => rfl) hn hN hby hcells hslots d (fun q cA H1 hK1 hP1 hD1 hS1 => by
    have e1 := (hK.1.1.2 0 (cy 0, .int) rfl).2
    have e2 := (hK1.2 4 (cA, .int) rfl).2
    have e : cA = cy 0 := Option.some.inj (e2.symm.trans e1)
    subst e
    exact kk q H1 locs ls hP1 hD1 hS1 hl)
theorem y_newaZ (g : YG E cy cc own nL Rm) {n : Int32} (N : Nat) (hn : ¬ n < 0) (hN : n.toNatClampNeg = N) (hby : N * componentBytes .boolean ≤ 536870912) (hcells : mc + 1 ≤ Rm.cells) (hslots : ms + N ≤ Rm.slots) (d : decode cc pc = .ok (.newarray .boolean, 2)) (kk : ∀ q : Nat, XA E (ws ++ [(q, .inl (cy 1, N, .inl (fun _ => 0)))]) (mc + 1) (ms + N) (pc + 2) lv (.ref q :: st)) : XA E ws mc ms pc lv (.int n :: st) := by
  obtain ⟨p, l, e, R, s, m, args, below, meth, c, D, A, nL0, Q⟩ := E
  obtain ⟨hx, hb, hml, hnl, hown, hts, hK, hR, hA⟩ := g
  subst hR
  exact fun H locs ls hP hD hS hl => va_newa (atype := .boolean) hx hb (hts _ ac_boolean) rfl hK.1.1 hP hD hS hA (a0 := (N, .inl (fun _ => 0))) (fun _ => rfl) hn hN hby hcells hslots d (fun q cA H1 hK1 hP1 hD1 hS1 => by
    have e1 := (hK.1.1.2 1 (cy 1, .boolean) rfl).2
    have e2 := (hK1.2 4 (cA, .boolean) rfl).2
    have e : cA = cy 1 := Option.some.inj (e2.symm.trans e1)
    subst e
    exact kk q H1 locs ls hP1 hD1 hS1 hl)
theorem y_newqC (g : YG E cy cc own nL Rm) {n : Int32} {i : Nat} (N : Nat) (w : Cond.classLink own i RX2 ∈ TB) (hn : ¬ n < 0) (hN : n.toNatClampNeg = N) (hby : N * 4 ≤ 536870912) (hcells : mc + 1 ≤ Rm.cells) (hslots : ms + N ≤ Rm.slots) (d : decode cc pc = .ok (.anewarray i, 3)) (kk : ∀ q : Nat, XA E (ws ++ [(q, .inl (cy 2, N, .inr (.inr (.inr (.inr (fun _ => none))))))]) (mc + 1) (ms + N) (pc + 3) lv (.ref q :: st)) : XA E ws mc ms pc lv (.int n :: st) := by
  obtain ⟨p, l, e, R, s, m, args, below, meth, c, D, A, nL0, Q⟩ := E
  obtain ⟨hx, hb, hml, hnl, hown, hts, hK, hR, hA⟩ := g
  subst hR
  exact fun H locs ls hP hD hS hl => va_newq hx hb hown (hts _ w) hK.2.1 hK.1.1 hP hD hS hA hn hN hby hcells hslots d (fun q cA H1 hK1 hP1 hD1 hS1 => by
    obtain ⟨k1, c1, -, -, -, e1⟩ := (hK.1.1.2 2 (cy 2, .object "SlotChip$Circuit") rfl).2
    obtain ⟨k2, c2, -, -, -, e2⟩ := (hK1.2 4 (cA, .object RX2) rfl).2
    have e : cA = cy 2 := Option.some.inj (e2.symm.trans e1)
    subst e
    exact kk q H1 locs ls hP1 hD1 hS1 hl)
theorem y_newqS (g : YG E cy cc own nL Rm) {n : Int32} {i : Nat} (N : Nat) (w : Cond.classLink own i RX8 ∈ TB) (hn : ¬ n < 0) (hN : n.toNatClampNeg = N) (hby : N * 4 ≤ 536870912) (hcells : mc + 1 ≤ Rm.cells) (hslots : ms + N ≤ Rm.slots) (d : decode cc pc = .ok (.anewarray i, 3)) (kk : ∀ q : Nat, XA E (ws ++ [(q, .inl (cy 3, N, .inr (.inr (.inr (.inr (fun _ => none))))))]) (mc + 1) (ms + N) (pc + 3) lv (.ref q :: st)) : XA E ws mc ms pc lv (.int n :: st) := by
  obtain ⟨p, l, e, R, s, m, args, below, meth, c, D, A, nL0, Q⟩ := E
  obtain ⟨hx, hb, hml, hnl, hown, hts, hK, hR, hA⟩ := g
  subst hR
  exact fun H locs ls hP hD hS hl => va_newq hx hb hown (hts _ w) hK.2.2 hK.1.1 hP hD hS hA hn hN hby hcells hslots d (fun q cA H1 hK1 hP1 hD1 hS1 => by
    obtain ⟨k1, c1, -, -, -, e1⟩ := (hK.1.1.2 3 (cy 3, .object "SlotChip$Stray") rfl).2
    obtain ⟨k2, c2, -, -, -, e2⟩ := (hK1.2 4 (cA, .object RX8) rfl).2
    have e : cA = cy 3 := Option.some.inj (e2.symm.trans e1)
    subst e
    exact kk q H1 locs ls hP1 hD1 hS1 hl)
theorem y_get (g : YG E cy cc own nL Rm) {q0 i ci k N : Nat} {C : String} {T : u_T} {ad : Nat} {fs : List Value} {v : Value} (w : FL own i ci k C T N) (he : ws[q0]? = some (ad, .inr (ci, fs))) (hv : fs[k]? = some v) (d : decode cc pc = .ok (.getfield i, 3)) (kk : XA E ws mc ms (pc + 3) lv (v :: st)) : XA E ws mc ms pc lv (.ref ad :: st) := by
  obtain ⟨p, l, e, R, s, m, args, below, meth, c, D, A, nL0, Q⟩ := E
  obtain ⟨hx, hb, hml, hnl, hown, hts, hK, hR, hA⟩ := g
  exact fun H locs ls hP hD hS hl => va_get hx hb hts w.2.1 hown hK.1.1 hP q0 he w.1 k w.2.2.1 (hts _ w.2.2.2) (fun _ h => h) hv d (kk H locs ls hP hD hS hl)
theorem y_put (g : YG E cy cc own nL Rm) {q0 i ci k N : Nat} {C : String} {T : u_T} {ad : Nat} {fs : List Value} {v : Value} {ws2 : va_W} (ty0 : Nat → FieldType) (w : FL own i ci k C T N) (hty : ∀ k, k < N → parseFieldDescriptor (T k).2.2.1 = some (ty0 k)) (hnm : ∀ a, a < N → ∀ b, b < N → a ≠ b → (T a).2.1 ≠ (T b).2.1) (he : ws[q0]? = some (ad, .inr (ci, fs))) (hfin : (T k).2.2.2 = false) (hn : narrow (ty0 k) v = v) (hfit : fits (ty0 k) v = true) (hl : k < fs.length) (hs : ws.set q0 (ad, .inr (ci, fs.set k v)) = ws2) (d : decode cc pc = .ok (.putfield i, 3)) (kk : XA E ws2 mc ms (pc + 3) lv (st)) : XA E ws mc ms pc lv (v :: .ref ad :: st) := by
  obtain ⟨p, l, e, R, s, m, args, below, meth, c, D, A, nL0, Q⟩ := E
  obtain ⟨hx, hb, hml, hnl, hown, hts, hK, hR, hA⟩ := g
  subst hs
  exact fun H locs ls hP hD hS hl' => va_put hx hb hts w.2.1 ty0 hty hnm hown hK.1.1 hP hD hS q0 he w.1 k w.2.2.1 (hts _ w.2.2.2) (fun _ h => h) hfin (hty k w.2.2.1) hn hfit hl d (fun H1 locs1 hP1 hD1 hS1 => kk H1 locs1 ls hP1 hD1 hS1 hl')
theorem y_putF (g : YG E cy cc own nL Rm) {q0 i ci k N : Nat} {C : String} {T : u_T} {ad : Nat} {fs : List Value} {v : Value} {ws2 : va_W} (ty0 : Nat → FieldType) (w : FL own i ci k C T N) (hty : ∀ k, k < N → parseFieldDescriptor (T k).2.2.1 = some (ty0 k)) (hnm : ∀ a, a < N → ∀ b, b < N → a ≠ b → (T a).2.1 ≠ (T b).2.1) (he : ws[q0]? = some (ad, .inr (ci, fs))) (hfin : (T k).2.2.2 = true) (yi : YI E) (hde : (T k).1 = own) (hn : narrow (ty0 k) v = v) (hfit : fits (ty0 k) v = true) (hl : k < fs.length) (hs : ws.set q0 (ad, .inr (ci, fs.set k v)) = ws2) (d : decode cc pc = .ok (.putfield i, 3)) (kk : XA E ws2 mc ms (pc + 3) lv (st)) : XA E ws mc ms pc lv (v :: .ref ad :: st) := by
  obtain ⟨p, l, e, R, s, m, args, below, meth, c, D, A, nL0, Q⟩ := E
  obtain ⟨hx, hb, hml, hnl, hown, hts, hK, hR, hA⟩ := g
  subst hs
  exact fun H locs ls hP hD hS hl' => va_putF hx hb hts w.2.1 ty0 hty hnm hown hK.1.1 hP hD hS q0 he w.1 k w.2.2.1 (hts _ w.2.2.2) (fun _ h => h) hfin yi hde (hty k w.2.2.1) hn hfit hl d (fun H1 locs1 hP1 hD1 hS1 => kk H1 locs1 ls hP1 hD1 hS1 hl')
theorem y_iast (g : YG E cy cc own nL Rm) {q0 n : Nat} {f : Nat → Int32} {ad : Nat} {i x : Int32} {ws2 : va_W} (he : ws[q0]? = some (ad, .inl (cy 0, n, .inl f))) (hin : inb i n) (hs : ws.set q0 (ad, .inl (cy 0, n, .inl (upd f i.toNatClampNeg x))) = ws2) (d : decode cc pc = .ok (.iastore, 1)) (kk : XA E ws2 mc ms (pc + 1) lv (st)) : XA E ws mc ms pc lv (.int x :: .int i :: .ref ad :: st) := by
  obtain ⟨p, l, e, R, s, m, args, below, meth, c, D, A, nL0, Q⟩ := E
  obtain ⟨hx, hb, hml, hnl, hown, hts, hK, hR, hA⟩ := g
  subst hs
  exact fun H locs ls hP hD hS hl => va_iast hx hb hK.1.1 hP hD hS q0 0 he rfl (inb_in hin) d (fun H1 locs1 hP1 hD1 hS1 => kk H1 locs1 ls hP1 hD1 hS1 hl)
theorem y_aast (g : YG E cy cc own nL Rm) {q0 n t0 qk ci b : Nat} {r : vw_C} {vs : List Value} {f : Nat → Option Nat} {ad : Nat} {i : Int32} {ws2 : va_W} (ht : (tysOf cy)[t0]? = some (cy t0, .object r.1)) (he : ws[q0]? = some (ad, .inl (cy t0, n, .inr (.inr (.inr (.inr f)))))) (hv : ws[qk]? = some (b, .inr (ci, vs))) (hc : vwCl[ci]? = some r) (hin : inb i n) (hs : ws.set q0 (ad, .inl (cy t0, n, .inr (.inr (.inr (.inr (va_up f i.toNatClampNeg (some b))))))) = ws2) (d : decode cc pc = .ok (.aastore, 1)) (kk : XA E ws2 mc ms (pc + 1) lv (st)) : XA E ws mc ms pc lv (.ref b :: .int i :: .ref ad :: st) := by
  obtain ⟨p, l, e, R, s, m, args, below, meth, c, D, A, nL0, Q⟩ := E
  obtain ⟨hx, hb, hml, hnl, hown, hts, hK, hR, hA⟩ := g
  subst hs
  exact fun H locs ls hP hD hS hl => va_astq hx hb hK.1.1 hP hD hS q0 t0 qk ci he ht hv hc (inb_in hin) d (fun H1 locs1 hP1 hD1 hS1 => kk H1 locs1 ls hP1 hD1 hS1 hl)
theorem y_vret (g : YG E cy cc own nL Rm) {b MC MS : Nat} {D0 : va_G} {post : va_W → Prop} (yq : YQ E D0 b MC MS post) (h1 : mc ≤ MC) (h2 : ms ≤ MS) (hp : post ws) (d : decode cc pc = .ok (.return_, 1)) : XA E ws mc ms pc lv ([]) := by
  obtain ⟨p, l, e, R, s, m, args, below, meth, c, D, A, nL0, Q⟩ := E
  obtain ⟨hx, hb, hml, hnl, hown, hts, hK, hR, hA⟩ := g
  obtain ⟨rfl, rfl, hr, hlocks, rfl⟩ := yq
  exact fun H locs ls hP hD hS hl => W.widen (k := MC) (n := MS) h1 h2 (W.vret hx hb hr (fun t ht hW => ⟨⟨rfl, ws, hp, by rw [ht]; exact hP, hD⟩, hS.F ht⟩) hS.2.2 d hlocks)
theorem va_at.addr_lt {D : va_G} {cl : List vw_C} {ws : va_W} {H : Heap} (hP : va_P D cl ws H) {k : Nat} {q : Nat × va_E} (h : ws[k]? = some q) : q.1 < H.size := (hP k q h).lt
/-- what a constructor's call leaves of the caller's world -/
theorem y_join {D : va_G} {A : Nat → Prop} {ws ns : va_W} {q0 b : Nat} {e0 E0 : va_E} {H H1 : Heap} (hP : va_P D vwCl ws H) (hD : va_D A ws) (he : ws[q0]? = some (b, e0)) (hA : ∀ q, H.size ≤ q → A q)
    (hk : ∀ q : Nat, q < H.size → ¬ AI b H.size q → H1[q]? = H[q]?) (hP1 : va_P D vwCl ((b, E0) :: ns) H1) (hD1 : va_D (AI b H.size) ((b, E0) :: ns)) : va_P D vwCl (ws.set q0 (b, E0) ++ ns) H1 ∧ va_D A (ws.set q0 (b, E0) ++ ns) := by
  have hq0 : q0 < ws.length := (List.getElem?_eq_some_iff.mp he).1
  have hlen : (ws.set q0 (b, E0)).length = ws.length := List.length_set
  have hns : ∀ (k : Nat) (q : Nat × va_E), ns[k]? = some q → H.size ≤ q.1 := by
    intro k q h
    rcases hD1.2 (k + 1) q (by simpa using h) with e | e
    · have := hD1.1 0 (k + 1) (b, E0) q rfl (by simpa using h) e.symm
      omega
    · exact e
  refine ⟨fun k q h => ?_, fun i j x y h1 h2 e => ?_, fun k q h => ?_⟩
  · by_cases hl : k < ws.length
    · rw [List.getElem?_append_left (by rw [hlen]; exact hl), List.getElem?_set] at h
      by_cases hk0 : q0 = k
      · rw [if_pos hk0, if_pos hq0] at h
        cases h
        exact hP1 0 _ rfl
      · rw [if_neg hk0] at h
        have hlt := (hP k q h).lt
        refine (hP k q h).kept (hk q.1 hlt ?_)
        rintro (e | e)
        · exact hk0 (hD.1 q0 k _ _ he h e.symm)
        · omega
    · rw [List.getElem?_append_right (by rw [hlen]; omega)] at h
      exact hP1 (k - (ws.set q0 (b, E0)).length + 1) q (by simpa using h)
  · have key : ∀ (i : Nat) (x : Nat × va_E), (ws.set q0 (b, E0) ++ ns)[i]? = some x → (i < ws.length ∧ ∃ x0, ws[i]? = some x0 ∧ x0.1 = x.1 ∧ x.1 < H.size) ∨ (¬ i < ws.length ∧ ns[i - ws.length]? = some x ∧ H.size ≤ x.1) := by
      intro i x h
      by_cases hl : i < ws.length
      · left
        refine ⟨hl, ?_⟩
        rw [List.getElem?_append_left (by rw [hlen]; exact hl), List.getElem?_set] at h
        by_cases hk0 : q0 = i
        · rw [if_pos hk0, if_pos hq0] at h
          cases h
          subst hk0
          exact ⟨(b, e0), he, rfl, (hP q0 _ he).lt⟩
        · rw [if_neg hk0] at h
          exact ⟨x, h, rfl, (hP i x h).lt⟩
      · right
        rw [List.getElem?_append_right (by rw [hlen]; omega), hlen] at h
        exact ⟨hl, h, hns _ _ h⟩
    rcases key i x h1 with ⟨a1, x0, a2, a3, a4⟩ | ⟨a1, a2, a3⟩ <;> rcases key j y h2 with ⟨b1, y0, b2, b3, b4⟩ | ⟨b1, b2, b3⟩
    · exact hD.1 i j x0 y0 a2 b2 (by rw [a3, b3]; exact e)
    · omega
    · omega
    · have := hD1.1 (i - ws.length + 1) (j - ws.length + 1) x y (by simpa using a2) (by simpa using b2) e
      omega
  · by_cases hl : k < ws.length
    · rw [List.getElem?_append_left (by rw [hlen]; exact hl), List.getElem?_set] at h
      by_cases hk0 : q0 = k
      · rw [if_pos hk0, if_pos hq0] at h
        cases h
        exact hD.2 q0 (b, e0) he
      · rw [if_neg hk0] at h
        exact hD.2 k q h
    · rw [List.getElem?_append_right (by rw [hlen]; omega)] at h
      exact hA _ (hns _ _ h)
theorem x_blindA {D : va_G} {av : List Value} {sz : Nat} {w : va_W} : FrameBlind (va_Pc av (fun U => U.heap.size = sz ∧ va_P D vwCl w U.heap ∧ KA D cy U)) := fun a U g mk q => ⟨q.1, q.2.1, q.2.2.1, KA.same (s := U) (U := U.calling g mk a) rfl q.2.2.2⟩
theorem y_call (g : YG E cy cc own nL Rm) {l : Launch} {D : va_G} (yl : YL E l D) {y : MethodName} {bytes : ByteArray} {maxL np lvl2 MC MS i : Nat} {b q0 ci : Nat} {fs : List Value} {post : va_W → Prop} (As rest : List Value)
    (hM : CI l D cy y bytes maxL lvl2 MC MS As b ci fs post) (mf : MF y bytes maxL none np) (hy : y.name = "<init>") (im : Cond.instanceMethod y ∈ TB) (ml : Cond.methodLink own i y ∈ TB) (he : ws[q0]? = some (b, .inr (ci, fs)))
    (hfr : lvl2 + 1 ≤ Rm.frames) (hlo : 8 + (maxL + 11) + 40 * lvl2 ≤ Rm.locals) (hce : mc + MC ≤ Rm.cells) (hsl : ms + MS ≤ Rm.slots) (hna : As.length = np) (hcat : (rest.map fun v => v.category).sum ≤ 8) (d : decode cc pc = .ok (.invokespecial i, 3)) (hst : st = As.reverse ++ .ref b :: rest)
    (hsh : ∀ wc, post wc → ∃ E0 ns, wc = (b, E0) :: ns)
    (kk : ∀ E0 ns, post ((b, E0) :: ns) → XA E (ws.set q0 (b, E0) ++ ns) (mc + MC) (ms + MS) (pc + 3) lv rest) : XA E ws mc ms pc lv st := by
  obtain ⟨p, l0, e, R, s, m, args, below, meth, c, D0, A, nL0, Q⟩ := E
  obtain ⟨rfl, rfl⟩ := yl
  obtain ⟨hx, hb, hml, hnl, hown, hts, hK, hR, hA⟩ := g
  subst hnl
  subst hR
  intro H locs ls hP hD hS hl T hT X
  have hPb : va_P D0 vwCl [(b, (.inr (ci, fs) : va_E))] H := by
    intro k q h
    have e1 := (List.getElem?_eq_some_iff.mp h).1
    simp at e1
    subst e1
    cases h
    exact hP q0 _ he
  have hr := va_runI (As := As) (rest := rest) (g := F0 m pc ls st) (locs := locs) (cells := mc) (slots := ms) (H := H) (p := p) (e := e) (R := R) (s := s) (args := args) (below := below) (meth := meth) (m := m) (c := c) ⟨hx, hb, hml, hown, hts⟩ (hM H.size) (n := np) ⟨callB_of np hts (goodU mf.1) rfl rfl rfl (hts _ mf.2.1) (hts _ ml) ⟨mf.2.2.1, mf.2.2.2.1, mf.2.2.2.2.1⟩ ⟨hfr, hlo⟩, hy, hts _ im⟩ ⟨x_blindA, fun U hU hW => ⟨rfl, by rw [hU], by rw [hU]; exact hPb, KA.warm hW hK⟩⟩ rfl hna hl.1 hst (by show 2 * 0 + _ ≤ 8; omega) d ⟨hce, hsl⟩
  obtain ⟨v2, st₀, t, T2, L, h0, X2, hL, e1, e2, ⟨⟨hv, wc, hpo, hP1, hD1⟩, hz, hk⟩, stp⟩ := hr T hT X
  cases hv
  rw [h0] at hz hk
  obtain ⟨E0, ns, rfl⟩ := hsh wc hpo
  have hab : A b := hD.2 q0 _ he
  have hj := y_join (H1 := t.heap) hP hD he (fun q h => hA q (Nat.le_trans hS.1 h)) hk hP1 hD1
  obtain ⟨t2, a1, b1⟩ := kk E0 ns hpo T2.heap (locs ++ L) ls (by rw [e1]; exact hj.1) hj.2
    ⟨Nat.le_trans hS.1 (by rw [e1]; exact hz), fun q h1 h3 => by
      rw [e1, hk q (Nat.lt_of_lt_of_le h1 hS.1) (by
        rintro (z | z)
        · exact h3 (z ▸ hab)
        · have := hS.1
          omega)]
      exact hS.2.1 q h1 h3, fun q hq => by
      rcases List.mem_append.mp hq with h | h
      · exact hS.2.2 q h
      · rcases hL q h with z | z
        · rw [z]; exact hab
        · exact hA _ (Nat.le_trans hS.1 z)⟩ hl T2 rfl X2
  exact ⟨t2, stp t2 a1, b1⟩
end
