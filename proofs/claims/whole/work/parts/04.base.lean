/-! the judgement XJ: a walk at a frame, over a world; its rows -/
abbrev EV : Type := Program × Launch × Env × Room × State × MethodId × Array Value × List Frame × Method × Code × va_G × (Nat → Prop) × Nat × (State → Prop)
def XJ (E : EV) (ws : va_W) (pc : Nat) (lv : List (Nat × Value)) (st : List Value) : Prop := match E with
  | (p, l, e, R, s, m, args, below, meth, c, D, A, nL, Q) => ∀ (H : Heap) (locs : List Loc) (ls : Array Slot), va_P D vwCl ws H → va_S A s.heap H locs → lv_has ls nL lv → W p l e R s m args below meth c H locs 0 0 Q (F0 m pc ls st)
/-- the array classes -/
def tysOf (cy : Nat → ClassId) : List (ClassId × FieldType) := [(cy 0, .int), (cy 1, .boolean), (cy 2, .object "SlotChip$Circuit"), (cy 3, .object "SlotChip$Stray")]
def KK (D : va_G) (cy : Nat → ClassId) (U : State) : Prop := va_K D vwCl (tysOf cy) U ∧ ∀ w ∈ NW, va_Nw w U
theorem KK.warm {D : va_G} {cy : Nat → ClassId} {s U : State} (hW : s.WarmedH U.vm) (h : KK D cy s) : KK D cy U := ⟨va_K.moved hW.alike h.1, NW_warm hW h.2⟩
theorem KK.same {D : va_G} {cy : Nat → ClassId} {s U : State} (e : s.vm = U.vm) (h : KK D cy s) : KK D cy U := ⟨va_K.moved (by rw [e]; exact Vm.Alike.refl U.vm) h.1, NW_same e h.2⟩
/-- what a method leaves: its answer, the world -/
def Qo {S : Type} (wd : S → va_W) (D : va_G) (A : Nat → Prop) (out : S × Option Value) : Array Value → State → Outcome → State → Prop := fun _ st oc t => (oc = .returned out.2 ∧ va_P D vwCl (wd out.1) t.heap) ∧ va_F A st t
/-- a method's contract over a world: from σ, with these arguments, it comes to 'out' -/
def CT {S : Type} (l : Launch) (wd : S → va_W) (D : va_G) (cy : Nat → ClassId) (A : Nat → Prop) (y : MethodName) (cc : ByteArray) (n : Nat) (ret : Option FieldType) (lvl : Nat) (av : List Value) (σ : S) (out : S × Option Value) : Prop :=
  Met l y (wsU y cc n ret) { frames := lvl, cells := 0, slots := 0, locals := 40 * lvl } (va_Pc av (fun U => va_P D vwCl (wd σ) U.heap ∧ KK D cy U)) (Qo wd D A out) 0 0 A
/-- what stays the same during a walk -/
def XG {S : Type} (E : EV) (wd : S → va_W) (cy : Nat → ClassId) (cc : ByteArray) (own : String) (nL lvl : Nat) (ret : Option FieldType) (out : S × Option Value) : Prop := match E with
  | (p, _, _, R, s, m, args, below, meth, c, D, A, nL', Q) => p.tables.exec = Jvm.exec ∧ c.code = cc ∧ c.maxLocals = nL ∧ nL' = nL ∧ s.vm.findClass own = some m.cls ∧ (∀ w ∈ TB, w.before args s = true) ∧ KK D cy s ∧ (∀ σ, va_D A (wd σ)) ∧ R = { frames := lvl, cells := 0, slots := 0, locals := 40 * lvl } ∧ meth.sig.returnType = ret ∧ meth.locks = false ∧ Q = MQ below (Qo wd D A out) args s 0 0 A
def XL (E : EV) (l : Launch) (D : va_G) (A : Nat → Prop) : Prop := match E with
  | (_, l', _, _, _, _, _, _, _, _, D', A', _, _) => l' = l ∧ D' = D ∧ A' = A
theorem CT.of {S : Type} {l : Launch} {wd : S → va_W} {D : va_G} {cy : Nat → ClassId} {A : Nat → Prop} {y : MethodName} {cc : ByteArray} {n : Nat} {ret : Option FieldType} {np lvl : Nat} {av : List Value} {σ : S} {out : S × Option Value} (hm : MF y cc n ret np) (hD : ∀ σ, va_D A (wd σ)) (hn : (lg_sl av).length ≤ n)
    (k : ∀ E : EV, XL E l D A → XG E wd cy cc y.cls n lvl ret out → XJ E (wd σ) 0 (lv_args 0 av) []) : CT l wd D cy A y cc n ret lvl av σ out := by
  refine Met.ofW (cc := cc) (maxL := n) (ret := ret) hm.2.2.2.2.2 rfl ?_
  intro p e s m args below meth c s₁ B hml hv
  obtain ⟨rfl, hP, hK⟩ := hv
  have hts := atoms_spec (ws := wsU y cc n ret) B.pre
  have hown : s.vm.findClass y.cls = some m.cls := findClass_of_methodNamed B.named
  have hl := lv_entry av (n := n) hn
  rw [lg_entry_eq]
  exact k (p, l, e, (headSpec (wsU y cc n ret) { frames := lvl, cells := 0, slots := 0, locals := 40 * lvl }).room, s, m, av.toArray, below, meth, c, D, A, n, _) ⟨rfl, rfl, rfl⟩ ⟨B.exec, B.bytes, hml, rfl, hown, fun w h => hts w (List.mem_cons_of_mem _ h), hK, hD, rfl, B.returns, B.notSynchronized, rfl⟩ s.heap [] _ hP va_S.rf hl
