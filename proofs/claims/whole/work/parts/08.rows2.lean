/-! the words of the pure functions, and rows that take them apart -/
def bnd {α β : Type} (x : α) (k : α → Option β) : Option β := k x
def onR {β : Type} (n : Nat) (r : Option Nat) (a : Option β) (b : Nat → Option β) : Option β := match r with
  | none => a
  | some i => chk (i < n) (b i)
theorem onR_some {β : Type} {n : Nat} {r : Option Nat} {a : Option β} {b : Nat → Option β} {o : β} (h : onR n r a b = some o) : (r = none ∧ a = some o) ∨ ∃ i, i < n ∧ r = some i ∧ b i = some o := by
  cases r with
  | none => exact Or.inl ⟨rfl, h⟩
  | some i => exact Or.inr ⟨i, (chk_some h).1, rfl, (chk_some h).2⟩
theorem onR_sp {β : Type} {n : Nat} {r : Option Nat} {a : Option β} {b : Nat → Option β} {o : β} {G : Prop} (h : onR n r a b = some o) (k1 : r = none → a = some o → G) (k2 : ∀ i, i < n → r = some i → b i = some o → G) : G := by
  rcases onR_some h with ⟨e, h⟩ | ⟨i, hi, e, h⟩
  · exact k1 e h
  · exact k2 i hi e h
theorem obind {α β : Type} {a : Option α} {k : α → Option β} {o : β} (h : a.bind k = some o) : ∃ r, a = some r ∧ k r = some o := by
  cases a with
  | none => cases h
  | some r => exact ⟨r, rfl, h⟩
theorem chk_of {α : Type} {p : Prop} [Decidable p] {a : Option α} {o : α} (hp : p) (h : a = some o) : chk p a = some o := by
  unfold chk
  rw [if_pos hp]
  exact h
theorem inb_lt {i : Int32} {n : Nat} (h : inb i n) : i.toNatClampNeg < n := by
  have h2 := h.2
  have h3 := h.1
  have : i.toNatClampNeg = i.toInt.toNat := rfl
  omega
theorem sp {α : Type} {c : Prop} [Decidable c] {a b : Option α} {o : α} {G : Prop} (hf : (if c then a else b) = some o) (k1 : c → a = some o → G) (k2 : ¬ c → b = some o → G) : G := by
  by_cases q : c
  · rw [if_pos q] at hf; exact k1 q hf
  · rw [if_neg q] at hf; exact k2 q hf
theorem tI {x v : Int32} {k : Int} (h : ¬ x = v) (hv : v.toInt = k) : x.toInt ≠ k := fun e => h (Int32.toInt_inj.mp (e.trans hv.symm))
abbrev isZ (v : Int32) : Prop := v = 0 ∨ v = 1
theorem isZ_and {v : Int32} (h : isZ v) : v &&& 1 = v := by rcases h with rfl | rfl <;> decide
theorem isZ_n {v : Int32} (h : isZ v) : narrow .boolean (.int v) = .int v := by rcases h with rfl | rfl <;> rfl
theorem isZ_f {v : Int32} (h : isZ v) : fits .boolean (.int v) = true := by rcases h with rfl | rfl <;> rfl
def vC (Ad : Nat → Nat) (r : Option Nat) : Value := match r with
  | none => .null
  | some i => .ref (Ad (14 + 3 * i))
def vS (Ad : Nat → Nat) (r : Option Nat) : Value := match r with
  | none => .null
  | some i => .ref (Ad (45 + i))
/-- more turns than any loop makes -/
def FU : Nat := 5000
/-- Math.floorMod -/
def fmodI (x y : Int32) : Int32 := if 0 ≤ x ^^^ y then remI x y else if remI x y = 0 then remI x y else remI x y + y
section
variable {S : Type} {E : EV} {wd : S → va_W} {cy : Nat → ClassId} {cc : ByteArray} {own : String} {nL lvl : Nat} {ret : Option FieldType} {out : S × Option Value} {ws : va_W} {pc : Nat} {lv : List (Nat × Value)} {st : List Value}
theorem x_nami {x : Int32} {α : Type} {kf : Int32 → Option α} {o : α} (hf : bnd x kf = some o) (k : ∀ v : Int32, kf v = some o → XJ E ws pc lv (.int v :: st)) : XJ E ws pc lv (.int x :: st) := k x hf
theorem x_naml {x : Int64} {α : Type} {kf : Int64 → Option α} {o : α} (hf : bnd x kf = some o) (k : ∀ v : Int64, kf v = some o → XJ E ws pc lv (.long v :: st)) : XJ E ws pc lv (.long x :: st) := k x hf
theorem x_putB (g : XG E wd cy cc own nL lvl ret out) {q0 i ci k N : Nat} {C : String} {T : u_T} {ad : Nat} {fs : List Value} {v : Value} {σ σ2 : S} {α : Type} {kf : S → Option α} {o : α} (ty0 : Nat → FieldType) (w : FL own i ci k C T N) (hty : ∀ k, k < N → parseFieldDescriptor (T k).2.2.1 = some (ty0 k)) (hnm : ∀ a, a < N → ∀ b, b < N → a ≠ b → (T a).2.1 ≠ (T b).2.1) (he : (wd σ)[q0]? = some (ad, .inr (ci, fs))) (hfin : (T k).2.2.2 = false) (hn : narrow (ty0 k) v = v) (hfit : fits (ty0 k) v = true) (hl : k < fs.length) (hs : (wd σ).set q0 (ad, .inr (ci, fs.set k v)) = wd σ2) (d : decode cc pc = .ok (.putfield i, 3)) (hf : bnd σ2 kf = some o) (kk : ∀ σ1 : S, kf σ1 = some o → XJ E (wd σ1) (pc + 3) lv st) : XJ E (wd σ) pc lv (v :: .ref ad :: st) :=
  x_put g ty0 w hty hnm he hfin hn hfit hl hs d (kk σ2 hf)
theorem x_iastB (g : XG E wd cy cc own nL lvl ret out) {q0 n : Nat} {f : Nat → Int32} {ad : Nat} {i x : Int32} {α : Type} {kf : S → Option α} {o : α} {σ σ2 : S} (he : (wd σ)[q0]? = some (ad, .inl (cy 0, n, .inl f))) (hs : (wd σ).set q0 (ad, .inl (cy 0, n, .inl (upd f i.toNatClampNeg x))) = wd σ2) (d : decode cc pc = .ok (.iastore, 1)) (hf : chk (inb i n) (bnd σ2 kf) = some o) (kk : ∀ σ1 : S, kf σ1 = some o → XJ E (wd σ1) (pc + 1) lv st) : XJ E (wd σ) pc lv (.int x :: .int i :: .ref ad :: st) :=
  x_iast g he hs d hf (fun h => kk σ2 h)
theorem x_zastB (g : XG E wd cy cc own nL lvl ret out) {q0 n : Nat} {f : Nat → Int32} {ad : Nat} {i x : Int32} (v : Int32) (hv : vp_nar .boolean x = v) {α : Type} {kf : S → Option α} {o : α} {σ σ2 : S} (he : (wd σ)[q0]? = some (ad, .inl (cy 1, n, .inl f))) (hs : (wd σ).set q0 (ad, .inl (cy 1, n, .inl (upd f i.toNatClampNeg v))) = wd σ2) (d : decode cc pc = .ok (.bastore, 1)) (hf : chk (inb i n) (bnd σ2 kf) = some o) (kk : ∀ σ1 : S, kf σ1 = some o → XJ E (wd σ1) (pc + 1) lv st) : XJ E (wd σ) pc lv (.int x :: .int i :: .ref ad :: st) := by
  subst hv
  exact x_zast g he hs d hf (fun h => kk σ2 h)
theorem x_aastB (g : XG E wd cy cc own nL lvl ret out) {q0 n t0 qk ci b : Nat} {r : vw_C} {vs : List Value} {f : Nat → Option Nat} {ad : Nat} {i : Int32} {α : Type} {kf : S → Option α} {o : α} {σ σ2 : S} (ht : (tysOf cy)[t0]? = some (cy t0, .object r.1)) (he : (wd σ)[q0]? = some (ad, .inl (cy t0, n, .inr (.inr (.inr (.inr f)))))) (hv : (wd σ)[qk]? = some (b, .inr (ci, vs))) (hc : vwCl[ci]? = some r) (hs : (wd σ).set q0 (ad, .inl (cy t0, n, .inr (.inr (.inr (.inr (va_up f i.toNatClampNeg (some b))))))) = wd σ2) (d : decode cc pc = .ok (.aastore, 1)) (hf : chk (inb i n) (bnd σ2 kf) = some o) (kk : ∀ σ1 : S, kf σ1 = some o → XJ E (wd σ1) (pc + 1) lv st) : XJ E (wd σ) pc lv (.ref b :: .int i :: .ref ad :: st) :=
  x_aast g ht he hv hc hs d hf (fun h => kk σ2 h)
end
