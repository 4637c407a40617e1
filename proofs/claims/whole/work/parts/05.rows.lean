/-- the remainder, as the machine has it -/
abbrev remI (x y : Int32) : Int32 := x - x / y * y
abbrev remL (x y : Int64) : Int64 := x - x / y * y
/-- an index inside a row of n -/
abbrev inb (i : Int32) (n : Nat) : Prop := 0 ≤ i.toInt ∧ i.toInt < n
theorem inb_in {i : Int32} {n : Nat} (h : inb i n) : vp_in i n := vp_in_iff.mpr h
/-- what is gone on with only if p -/
def chk {α : Type} (p : Prop) [Decidable p] (a : Option α) : Option α := if p then a else none
theorem chk_some {α : Type} {p : Prop} [Decidable p] {a : Option α} {o : α} (h : chk p a = some o) : p ∧ a = some o := by
  unfold chk at h
  split at h
  · exact ⟨‹_›, h⟩
  · cases h
/-! rows of XJ, an instruction each -/
section
variable {S : Type} {E : EV} {wd : S → va_W} {cy : Nat → ClassId} {cc : ByteArray} {own : String} {nL lvl : Nat} {ret : Option FieldType} {out : S × Option Value} {ws : va_W} {pc : Nat} {lv : List (Nat × Value)} {st : List Value}
theorem x_iadd (g : XG E wd cy cc own nL lvl ret out) {x y : Int32} (d : decode cc pc = .ok (.iadd, 1)) (k : XJ E ws (pc + 1) lv (.int (x + y) :: st)) : XJ E ws pc lv (.int y :: .int x :: st) := by
  obtain ⟨p, l, e, R, s, m, args, below, meth, c, D, A, nL0, Q⟩ := E
  exact fun H locs ls hP hS hl => lv_iadd g.1 g.2.1 d (k H locs ls hP hS hl)
theorem x_isub (g : XG E wd cy cc own nL lvl ret out) {x y : Int32} (d : decode cc pc = .ok (.isub, 1)) (k : XJ E ws (pc + 1) lv (.int (x - y) :: st)) : XJ E ws pc lv (.int y :: .int x :: st) := by
  obtain ⟨p, l, e, R, s, m, args, below, meth, c, D, A, nL0, Q⟩ := E
  exact fun H locs ls hP hS hl => lv_isub g.1 g.2.1 d (k H locs ls hP hS hl)
theorem x_imul (g : XG E wd cy cc own nL lvl ret out) {x y : Int32} (d : decode cc pc = .ok (.imul, 1)) (k : XJ E ws (pc + 1) lv (.int (x * y) :: st)) : XJ E ws pc lv (.int y :: .int x :: st) := by
  obtain ⟨p, l, e, R, s, m, args, below, meth, c, D, A, nL0, Q⟩ := E
  exact fun H locs ls hP hS hl => lv_imul g.1 g.2.1 d (k H locs ls hP hS hl)
theorem x_iand (g : XG E wd cy cc own nL lvl ret out) {x y : Int32} (d : decode cc pc = .ok (.iand, 1)) (k : XJ E ws (pc + 1) lv (.int (x &&& y) :: st)) : XJ E ws pc lv (.int y :: .int x :: st) := by
  obtain ⟨p, l, e, R, s, m, args, below, meth, c, D, A, nL0, Q⟩ := E
  exact fun H locs ls hP hS hl => lv_iand g.1 g.2.1 d (k H locs ls hP hS hl)
theorem x_ior (g : XG E wd cy cc own nL lvl ret out) {x y : Int32} (d : decode cc pc = .ok (.ior, 1)) (k : XJ E ws (pc + 1) lv (.int (x ||| y) :: st)) : XJ E ws pc lv (.int y :: .int x :: st) := by
  obtain ⟨p, l, e, R, s, m, args, below, meth, c, D, A, nL0, Q⟩ := E
  exact fun H locs ls hP hS hl => lv_ior g.1 g.2.1 d (k H locs ls hP hS hl)
theorem x_ixor (g : XG E wd cy cc own nL lvl ret out) {x y : Int32} (d : decode cc pc = .ok (.ixor, 1)) (k : XJ E ws (pc + 1) lv (.int (x ^^^ y) :: st)) : XJ E ws pc lv (.int y :: .int x :: st) := by
  obtain ⟨p, l, e, R, s, m, args, below, meth, c, D, A, nL0, Q⟩ := E
  exact fun H locs ls hP hS hl => lv_ixor g.1 g.2.1 d (k H locs ls hP hS hl)
theorem x_ishl (g : XG E wd cy cc own nL lvl ret out) {x y : Int32} (d : decode cc pc = .ok (.ishl, 1)) (k : XJ E ws (pc + 1) lv (.int (x <<< (y &&& 31)) :: st)) : XJ E ws pc lv (.int y :: .int x :: st) := by
  obtain ⟨p, l, e, R, s, m, args, below, meth, c, D, A, nL0, Q⟩ := E
  exact fun H locs ls hP hS hl => lv_ishl g.1 g.2.1 d (k H locs ls hP hS hl)
theorem x_ishr (g : XG E wd cy cc own nL lvl ret out) {x y : Int32} (d : decode cc pc = .ok (.ishr, 1)) (k : XJ E ws (pc + 1) lv (.int (x >>> (y &&& 31)) :: st)) : XJ E ws pc lv (.int y :: .int x :: st) := by
  obtain ⟨p, l, e, R, s, m, args, below, meth, c, D, A, nL0, Q⟩ := E
  exact fun H locs ls hP hS hl => lv_ishr g.1 g.2.1 d (k H locs ls hP hS hl)
theorem x_idiv (g : XG E wd cy cc own nL lvl ret out) {x y : Int32} (d : decode cc pc = .ok (.idiv, 1)) (hne : ¬ y = 0) (k : XJ E ws (pc + 1) lv (.int (x / y) :: st)) : XJ E ws pc lv (.int y :: .int x :: st) := by
  obtain ⟨p, l, e, R, s, m, args, below, meth, c, D, A, nL0, Q⟩ := E
  exact fun H locs ls hP hS hl => lv_idiv g.1 g.2.1 d hne (k H locs ls hP hS hl)
theorem x_irem (g : XG E wd cy cc own nL lvl ret out) {x y : Int32} (d : decode cc pc = .ok (.irem, 1)) (hne : ¬ y = 0) (k : XJ E ws (pc + 1) lv (.int (remI x y) :: st)) : XJ E ws pc lv (.int y :: .int x :: st) := by
  obtain ⟨p, l, e, R, s, m, args, below, meth, c, D, A, nL0, Q⟩ := E
  exact fun H locs ls hP hS hl => lv_irem g.1 g.2.1 d hne (k H locs ls hP hS hl)
theorem x_iushr (g : XG E wd cy cc own nL lvl ret out) {x y : Int32} (d : decode cc pc = .ok (.iushr, 1)) (k : XJ E ws (pc + 1) lv (.int ((x.toUInt32 >>> (y.toUInt32 &&& Int32.toUInt32 31)).toInt32) :: st)) : XJ E ws pc lv (.int y :: .int x :: st) := by
  obtain ⟨p, l, e, R, s, m, args, below, meth, c, D, A, nL0, Q⟩ := E
  exact fun H locs ls hP hS hl => lv_iushr g.1 g.2.1 d rfl (k H locs ls hP hS hl)
theorem x_ineg (g : XG E wd cy cc own nL lvl ret out) {x : Int32} (d : decode cc pc = .ok (.ineg, 1)) (k : XJ E ws (pc + 1) lv (.int (-x) :: st)) : XJ E ws pc lv (.int x :: st) := by
  obtain ⟨p, l, e, R, s, m, args, below, meth, c, D, A, nL0, Q⟩ := E
  exact fun H locs ls hP hS hl => lv_ineg g.1 g.2.1 d (k H locs ls hP hS hl)
theorem x_ladd (g : XG E wd cy cc own nL lvl ret out) {x y : Int64} (d : decode cc pc = .ok (.ladd, 1)) (k : XJ E ws (pc + 1) lv (.long (x + y) :: st)) : XJ E ws pc lv (.long y :: .long x :: st) := by
  obtain ⟨p, l, e, R, s, m, args, below, meth, c, D, A, nL0, Q⟩ := E
  exact fun H locs ls hP hS hl => lv_ladd g.1 g.2.1 d (k H locs ls hP hS hl)
theorem x_lsub (g : XG E wd cy cc own nL lvl ret out) {x y : Int64} (d : decode cc pc = .ok (.lsub, 1)) (k : XJ E ws (pc + 1) lv (.long (x - y) :: st)) : XJ E ws pc lv (.long y :: .long x :: st) := by
  obtain ⟨p, l, e, R, s, m, args, below, meth, c, D, A, nL0, Q⟩ := E
  exact fun H locs ls hP hS hl => lv_lsub g.1 g.2.1 d (k H locs ls hP hS hl)
theorem x_lmul (g : XG E wd cy cc own nL lvl ret out) {x y : Int64} (d : decode cc pc = .ok (.lmul, 1)) (k : XJ E ws (pc + 1) lv (.long (x * y) :: st)) : XJ E ws pc lv (.long y :: .long x :: st) := by
  obtain ⟨p, l, e, R, s, m, args, below, meth, c, D, A, nL0, Q⟩ := E
  exact fun H locs ls hP hS hl => lv_lmul g.1 g.2.1 d (k H locs ls hP hS hl)
theorem x_land (g : XG E wd cy cc own nL lvl ret out) {x y : Int64} (d : decode cc pc = .ok (.land, 1)) (k : XJ E ws (pc + 1) lv (.long (x &&& y) :: st)) : XJ E ws pc lv (.long y :: .long x :: st) := by
  obtain ⟨p, l, e, R, s, m, args, below, meth, c, D, A, nL0, Q⟩ := E
  exact fun H locs ls hP hS hl => lv_land g.1 g.2.1 d (k H locs ls hP hS hl)
theorem x_ldiv (g : XG E wd cy cc own nL lvl ret out) {x y : Int64} (d : decode cc pc = .ok (.ldiv, 1)) (hne : ¬ y = 0) (k : XJ E ws (pc + 1) lv (.long (x / y) :: st)) : XJ E ws pc lv (.long y :: .long x :: st) := by
  obtain ⟨p, l, e, R, s, m, args, below, meth, c, D, A, nL0, Q⟩ := E
  exact fun H locs ls hP hS hl => lv_ldiv g.1 g.2.1 d hne (k H locs ls hP hS hl)
theorem x_lrem (g : XG E wd cy cc own nL lvl ret out) {x y : Int64} (d : decode cc pc = .ok (.lrem, 1)) (hne : ¬ y = 0) (k : XJ E ws (pc + 1) lv (.long (remL x y) :: st)) : XJ E ws pc lv (.long y :: .long x :: st) := by
  obtain ⟨p, l, e, R, s, m, args, below, meth, c, D, A, nL0, Q⟩ := E
  exact fun H locs ls hP hS hl => lv_lrem g.1 g.2.1 d hne (k H locs ls hP hS hl)
theorem x_lcmp (g : XG E wd cy cc own nL lvl ret out) {x y : Int64} (d : decode cc pc = .ok (.lcmp, 1)) (k : XJ E ws (pc + 1) lv (.int (lg_cmp x y) :: st)) : XJ E ws pc lv (.long y :: .long x :: st) := by
  obtain ⟨p, l, e, R, s, m, args, below, meth, c, D, A, nL0, Q⟩ := E
  exact fun H locs ls hP hS hl => W.lcmp g.1 g.2.1 d (k H locs ls hP hS hl)
theorem x_iconst (g : XG E wd cy cc own nL lvl ret out) {n : Int} (v : Int32) (d : decode cc pc = .ok (.iconst n, 1)) (hv : Int32.ofInt n = v) (k : XJ E ws (pc + 1) lv (.int v :: st)) : XJ E ws pc lv st := by
  obtain ⟨p, l, e, R, s, m, args, below, meth, c, D, A, nL0, Q⟩ := E
  exact fun H locs ls hP hS hl => lv_iconst g.1 g.2.1 d hv (k H locs ls hP hS hl)
theorem x_bipush (g : XG E wd cy cc own nL lvl ret out) {n : Int} (v : Int32) (d : decode cc pc = .ok (.bipush n, 2)) (hv : (Int8.ofInt n).toInt32 = v) (k : XJ E ws (pc + 2) lv (.int v :: st)) : XJ E ws pc lv st := by
  obtain ⟨p, l, e, R, s, m, args, below, meth, c, D, A, nL0, Q⟩ := E
  exact fun H locs ls hP hS hl => lv_bipush g.1 g.2.1 d hv (k H locs ls hP hS hl)
theorem x_sipush (g : XG E wd cy cc own nL lvl ret out) {n : Int} (v : Int32) (d : decode cc pc = .ok (.sipush n, 3)) (hv : (Int16.ofInt n).toInt32 = v) (k : XJ E ws (pc + 3) lv (.int v :: st)) : XJ E ws pc lv st := by
  obtain ⟨p, l, e, R, s, m, args, below, meth, c, D, A, nL0, Q⟩ := E
  exact fun H locs ls hP hS hl => lv_sipush g.1 g.2.1 d hv (k H locs ls hP hS hl)
theorem x_lconst (g : XG E wd cy cc own nL lvl ret out) {n : Fin 2} (v : Int64) (d : decode cc pc = .ok (.lconst n, 1)) (hv : Int64.ofNat (n : Nat) = v) (k : XJ E ws (pc + 1) lv (.long v :: st)) : XJ E ws pc lv st := by
  obtain ⟨p, l, e, R, s, m, args, below, meth, c, D, A, nL0, Q⟩ := E
  exact fun H locs ls hP hS hl => lv_lconst g.1 g.2.1 d hv (k H locs ls hP hS hl)
theorem x_ldc (g : XG E wd cy cc own nL lvl ret out) {i : Nat} {v : Int32} (w : Cond.constant own i v ∈ TB) (d : decode cc pc = .ok (.ldc i, 2)) (k : XJ E ws (pc + 2) lv (.int v :: st)) : XJ E ws pc lv st := by
  obtain ⟨p, l, e, R, s, m, args, below, meth, c, D, A, nL0, Q⟩ := E
  exact fun H locs ls hP hS hl => lv_ldc g.1 g.2.1 g.2.2.2.2.1 (g.2.2.2.2.2.1 _ w) d (k H locs ls hP hS hl)
theorem x_ldcw (g : XG E wd cy cc own nL lvl ret out) {i : Nat} {v : Int32} (w : Cond.constant own i v ∈ TB) (d : decode cc pc = .ok (.ldc_w i, 3)) (k : XJ E ws (pc + 3) lv (.int v :: st)) : XJ E ws pc lv st := by
  obtain ⟨p, l, e, R, s, m, args, below, meth, c, D, A, nL0, Q⟩ := E
  exact fun H locs ls hP hS hl => lv_ldcw g.1 g.2.1 g.2.2.2.2.1 (g.2.2.2.2.2.1 _ w) d (k H locs ls hP hS hl)
theorem x_ldc2 (g : XG E wd cy cc own nL lvl ret out) {i : Nat} {v : Int64} (w : Cond.constantLong own i v ∈ TB) (d : decode cc pc = .ok (.ldc2_w i, 3)) (k : XJ E ws (pc + 3) lv (.long v :: st)) : XJ E ws pc lv st := by
  obtain ⟨p, l, e, R, s, m, args, below, meth, c, D, A, nL0, Q⟩ := E
  exact fun H locs ls hP hS hl => lv_ldc2 g.1 g.2.1 g.2.2.2.2.1 (g.2.2.2.2.2.1 _ w) d (k H locs ls hP hS hl)
theorem x_null (g : XG E wd cy cc own nL lvl ret out) (d : decode cc pc = .ok (.aconst_null, 1)) (k : XJ E ws (pc + 1) lv (.null :: st)) : XJ E ws pc lv st := by
  obtain ⟨p, l, e, R, s, m, args, below, meth, c, D, A, nL0, Q⟩ := E
  exact fun H locs ls hP hS hl => lv_null g.1 g.2.1 d (k H locs ls hP hS hl)
theorem x_iload_n (g : XG E wd cy cc own nL lvl ret out) (j : Nat) {k : Fin 4} {i : Nat} {x : Int32} (d : decode cc pc = .ok (.iload_n k, 1)) (h : lv[j]? = some (i, .int x)) (hi : (k : Nat) = i) (kk : XJ E ws (pc + 1) lv (.int x :: st)) : XJ E ws pc lv st := by
  obtain ⟨p, l, e, R, s, m, args, below, meth, c, D, A, nL0, Q⟩ := E
  exact fun H locs ls hP hS hl => lv_iload_n g.1 g.2.1 d hi (lv_at hl j h) (kk H locs ls hP hS hl)
theorem x_iload (g : XG E wd cy cc own nL lvl ret out) (j : Nat) {i : Nat} {x : Int32} (d : decode cc pc = .ok (.iload i, 2)) (h : lv[j]? = some (i, .int x)) (kk : XJ E ws (pc + 2) lv (.int x :: st)) : XJ E ws pc lv st := by
  obtain ⟨p, l, e, R, s, m, args, below, meth, c, D, A, nL0, Q⟩ := E
  exact fun H locs ls hP hS hl => lv_iload g.1 g.2.1 d (lv_at hl j h) (kk H locs ls hP hS hl)
theorem x_lload_n (g : XG E wd cy cc own nL lvl ret out) (j : Nat) {k : Fin 4} {i : Nat} {x : Int64} (d : decode cc pc = .ok (.lload_n k, 1)) (h : lv[j]? = some (i, .long x)) (hi : (k : Nat) = i) (kk : XJ E ws (pc + 1) lv (.long x :: st)) : XJ E ws pc lv st := by
  obtain ⟨p, l, e, R, s, m, args, below, meth, c, D, A, nL0, Q⟩ := E
  exact fun H locs ls hP hS hl => lv_lload_n g.1 g.2.1 d hi (lv_at hl j h) (kk H locs ls hP hS hl)
theorem x_lload (g : XG E wd cy cc own nL lvl ret out) (j : Nat) {i : Nat} {x : Int64} (d : decode cc pc = .ok (.lload i, 2)) (h : lv[j]? = some (i, .long x)) (kk : XJ E ws (pc + 2) lv (.long x :: st)) : XJ E ws pc lv st := by
  obtain ⟨p, l, e, R, s, m, args, below, meth, c, D, A, nL0, Q⟩ := E
  exact fun H locs ls hP hS hl => lv_lload g.1 g.2.1 d (lv_at hl j h) (kk H locs ls hP hS hl)
theorem x_aload_n (g : XG E wd cy cc own nL lvl ret out) (j : Nat) {k : Fin 4} {i : Nat} {x : Nat} (d : decode cc pc = .ok (.aload_n k, 1)) (h : lv[j]? = some (i, .ref x)) (hi : (k : Nat) = i) (kk : XJ E ws (pc + 1) lv (.ref x :: st)) : XJ E ws pc lv st := by
  obtain ⟨p, l, e, R, s, m, args, below, meth, c, D, A, nL0, Q⟩ := E
  exact fun H locs ls hP hS hl => lv_aload_n g.1 g.2.1 d hi (lv_at hl j h) (kk H locs ls hP hS hl)
theorem x_aload (g : XG E wd cy cc own nL lvl ret out) (j : Nat) {i : Nat} {x : Nat} (d : decode cc pc = .ok (.aload i, 2)) (h : lv[j]? = some (i, .ref x)) (kk : XJ E ws (pc + 2) lv (.ref x :: st)) : XJ E ws pc lv st := by
  obtain ⟨p, l, e, R, s, m, args, below, meth, c, D, A, nL0, Q⟩ := E
  exact fun H locs ls hP hS hl => lv_aload g.1 g.2.1 d (lv_at hl j h) (kk H locs ls hP hS hl)
theorem x_aload_nN (g : XG E wd cy cc own nL lvl ret out) (j : Nat) {k : Fin 4} {i : Nat} (d : decode cc pc = .ok (.aload_n k, 1)) (h : lv[j]? = some (i, .null)) (hi : (k : Nat) = i) (kk : XJ E ws (pc + 1) lv (.null :: st)) : XJ E ws pc lv st := by
  obtain ⟨p, l, e, R, s, m, args, below, meth, c, D, A, nL0, Q⟩ := E
  exact fun H locs ls hP hS hl => lv_aload_nN g.1 g.2.1 d hi (lv_at hl j h) (kk H locs ls hP hS hl)
theorem x_aloadN (g : XG E wd cy cc own nL lvl ret out) (j : Nat) {i : Nat} (d : decode cc pc = .ok (.aload i, 2)) (h : lv[j]? = some (i, .null)) (kk : XJ E ws (pc + 2) lv (.null :: st)) : XJ E ws pc lv st := by
  obtain ⟨p, l, e, R, s, m, args, below, meth, c, D, A, nL0, Q⟩ := E
  exact fun H locs ls hP hS hl => lv_aloadN g.1 g.2.1 d (lv_at hl j h) (kk H locs ls hP hS hl)
theorem x_istore_n (g : XG E wd cy cc own nL lvl ret out) {k : Fin 4} {i : Nat} {x : Int32} {lv' : List (Nat × Value)} (d : decode cc pc = .ok (.istore_n k, 1)) (hi : (k : Nat) = i) (hn : i < nL) (hl' : (i, Value.int x) :: lv.filter (fun q => !(q.1 == i) && !(q.1 + 1 == i && q.2.category == 2)) = lv') (kk : XJ E ws (pc + 1) lv' st) : XJ E ws pc lv (.int x :: st) := by
  obtain ⟨p, l, e, R, s, m, args, below, meth, c, D, A, nL0, Q⟩ := E
  exact fun H locs ls hP hS hl => lv_istore_n g.1 g.2.1 d hi hl (by rw [g.2.2.2.1]; exact hn) hl' (fun ls' hl' => kk H locs ls' hP hS hl')
theorem x_istore (g : XG E wd cy cc own nL lvl ret out) {i : Nat} {x : Int32} {lv' : List (Nat × Value)} (d : decode cc pc = .ok (.istore i, 2)) (hn : i < nL) (hl' : (i, Value.int x) :: lv.filter (fun q => !(q.1 == i) && !(q.1 + 1 == i && q.2.category == 2)) = lv') (kk : XJ E ws (pc + 2) lv' st) : XJ E ws pc lv (.int x :: st) := by
  obtain ⟨p, l, e, R, s, m, args, below, meth, c, D, A, nL0, Q⟩ := E
  exact fun H locs ls hP hS hl => lv_istore g.1 g.2.1 d hl (by rw [g.2.2.2.1]; exact hn) hl' (fun ls' hl' => kk H locs ls' hP hS hl')
theorem x_lstore_n (g : XG E wd cy cc own nL lvl ret out) {k : Fin 4} {i : Nat} {x : Int64} {lv' : List (Nat × Value)} (d : decode cc pc = .ok (.lstore_n k, 1)) (hi : (k : Nat) = i) (hn : i + 1 < nL) (hl' : (i, Value.long x) :: lv.filter (fun q => !(q.1 == i) && (!(q.1 == i + 1) && !(q.1 + 1 == i && q.2.category == 2))) = lv') (kk : XJ E ws (pc + 1) lv' st) : XJ E ws pc lv (.long x :: st) := by
  obtain ⟨p, l, e, R, s, m, args, below, meth, c, D, A, nL0, Q⟩ := E
  exact fun H locs ls hP hS hl => lv_lstore_n g.1 g.2.1 d hi hl (by rw [g.2.2.2.1]; exact hn) hl' (fun ls' hl' => kk H locs ls' hP hS hl')
theorem x_lstore (g : XG E wd cy cc own nL lvl ret out) {i : Nat} {x : Int64} {lv' : List (Nat × Value)} (d : decode cc pc = .ok (.lstore i, 2)) (hn : i + 1 < nL) (hl' : (i, Value.long x) :: lv.filter (fun q => !(q.1 == i) && (!(q.1 == i + 1) && !(q.1 + 1 == i && q.2.category == 2))) = lv') (kk : XJ E ws (pc + 2) lv' st) : XJ E ws pc lv (.long x :: st) := by
  obtain ⟨p, l, e, R, s, m, args, below, meth, c, D, A, nL0, Q⟩ := E
  exact fun H locs ls hP hS hl => lv_lstore g.1 g.2.1 d hl (by rw [g.2.2.2.1]; exact hn) hl' (fun ls' hl' => kk H locs ls' hP hS hl')
theorem x_astore_n (g : XG E wd cy cc own nL lvl ret out) {k : Fin 4} {i : Nat} {x : Nat} {lv' : List (Nat × Value)} (d : decode cc pc = .ok (.astore_n k, 1)) (hi : (k : Nat) = i) (hn : i < nL) (hl' : (i, Value.ref x) :: lv.filter (fun q => !(q.1 == i) && !(q.1 + 1 == i && q.2.category == 2)) = lv') (kk : XJ E ws (pc + 1) lv' st) : XJ E ws pc lv (.ref x :: st) := by
  obtain ⟨p, l, e, R, s, m, args, below, meth, c, D, A, nL0, Q⟩ := E
  exact fun H locs ls hP hS hl => lv_astore_n g.1 g.2.1 d hi hl (by rw [g.2.2.2.1]; exact hn) hl' (fun ls' hl' => kk H locs ls' hP hS hl')
theorem x_astore (g : XG E wd cy cc own nL lvl ret out) {i : Nat} {x : Nat} {lv' : List (Nat × Value)} (d : decode cc pc = .ok (.astore i, 2)) (hn : i < nL) (hl' : (i, Value.ref x) :: lv.filter (fun q => !(q.1 == i) && !(q.1 + 1 == i && q.2.category == 2)) = lv') (kk : XJ E ws (pc + 2) lv' st) : XJ E ws pc lv (.ref x :: st) := by
  obtain ⟨p, l, e, R, s, m, args, below, meth, c, D, A, nL0, Q⟩ := E
  exact fun H locs ls hP hS hl => lv_astore g.1 g.2.1 d hl (by rw [g.2.2.2.1]; exact hn) hl' (fun ls' hl' => kk H locs ls' hP hS hl')
theorem x_astore_nN (g : XG E wd cy cc own nL lvl ret out) {k : Fin 4} {i : Nat} {lv' : List (Nat × Value)} (d : decode cc pc = .ok (.astore_n k, 1)) (hi : (k : Nat) = i) (hn : i < nL) (hl' : (i, Value.null) :: lv.filter (fun q => !(q.1 == i) && !(q.1 + 1 == i && q.2.category == 2)) = lv') (kk : XJ E ws (pc + 1) lv' st) : XJ E ws pc lv (.null :: st) := by
  obtain ⟨p, l, e, R, s, m, args, below, meth, c, D, A, nL0, Q⟩ := E
  exact fun H locs ls hP hS hl => lv_astore_nN g.1 g.2.1 d hi hl (by rw [g.2.2.2.1]; exact hn) hl' (fun ls' hl' => kk H locs ls' hP hS hl')
theorem x_astoreN (g : XG E wd cy cc own nL lvl ret out) {i : Nat} {lv' : List (Nat × Value)} (d : decode cc pc = .ok (.astore i, 2)) (hn : i < nL) (hl' : (i, Value.null) :: lv.filter (fun q => !(q.1 == i) && !(q.1 + 1 == i && q.2.category == 2)) = lv') (kk : XJ E ws (pc + 2) lv' st) : XJ E ws pc lv (.null :: st) := by
  obtain ⟨p, l, e, R, s, m, args, below, meth, c, D, A, nL0, Q⟩ := E
  exact fun H locs ls hP hS hl => lv_astoreN g.1 g.2.1 d hl (by rw [g.2.2.2.1]; exact hn) hl' (fun ls' hl' => kk H locs ls' hP hS hl')
theorem x_iinc (g : XG E wd cy cc own nL lvl ret out) (j : Nat) {i : Nat} {n : Int} {x : Int32} (v : Int32) {lv' : List (Nat × Value)} (d : decode cc pc = .ok (.iinc i n, 3)) (h : lv[j]? = some (i, .int x)) (hv : x + Int32.ofInt n = v) (hn : i < nL) (hl' : (i, Value.int v) :: lv.filter (fun q => !(q.1 == i) && !(q.1 + 1 == i && q.2.category == 2)) = lv') (kk : XJ E ws (pc + 3) lv' st) : XJ E ws pc lv st := by
  obtain ⟨p, l, e, R, s, m, args, below, meth, c, D, A, nL0, Q⟩ := E
  exact fun H locs ls hP hS hl => lv_iinc g.1 g.2.1 d hl h hv (by rw [g.2.2.2.1]; exact hn) hl' (fun ls' hl' => kk H locs ls' hP hS hl')
theorem x_dup (g : XG E wd cy cc own nL lvl ret out) {va : Value} (d : decode cc pc = .ok (.dup, 1)) (hva : va.category = 1) (k : XJ E ws (pc + 1) lv (va :: va :: st)) : XJ E ws pc lv (va :: st) := by
  obtain ⟨p, l, e, R, s, m, args, below, meth, c, D, A, nL0, Q⟩ := E
  exact fun H locs ls hP hS hl => lv_dup g.1 g.2.1 d hva (k H locs ls hP hS hl)
theorem x_dup2 (g : XG E wd cy cc own nL lvl ret out) {va vb : Value} (d : decode cc pc = .ok (.dup2, 1)) (hva : va.category = 1) (hvb : vb.category = 1) (k : XJ E ws (pc + 1) lv (va :: vb :: va :: vb :: st)) : XJ E ws pc lv (va :: vb :: st) := by
  obtain ⟨p, l, e, R, s, m, args, below, meth, c, D, A, nL0, Q⟩ := E
  exact fun H locs ls hP hS hl => lv_dup2_11 g.1 g.2.1 d hva hvb (k H locs ls hP hS hl)
theorem x_pop (g : XG E wd cy cc own nL lvl ret out) {va : Value} (d : decode cc pc = .ok (.pop, 1)) (hva : va.category = 1) (k : XJ E ws (pc + 1) lv st) : XJ E ws pc lv (va :: st) := by
  obtain ⟨p, l, e, R, s, m, args, below, meth, c, D, A, nL0, Q⟩ := E
  exact fun H locs ls hP hS hl => lv_pop g.1 g.2.1 d hva (k H locs ls hP hS hl)
theorem x_i2l (g : XG E wd cy cc own nL lvl ret out) {x : Int32} (d : decode cc pc = .ok (.i2l, 1)) (k : XJ E ws (pc + 1) lv (.long x.toInt64 :: st)) : XJ E ws pc lv (.int x :: st) := by
  obtain ⟨p, l, e, R, s, m, args, below, meth, c, D, A, nL0, Q⟩ := E
  exact fun H locs ls hP hS hl => lv_i2l g.1 g.2.1 d rfl (k H locs ls hP hS hl)
theorem x_l2i (g : XG E wd cy cc own nL lvl ret out) {x : Int64} (d : decode cc pc = .ok (.l2i, 1)) (k : XJ E ws (pc + 1) lv (.int x.toInt32 :: st)) : XJ E ws pc lv (.long x :: st) := by
  obtain ⟨p, l, e, R, s, m, args, below, meth, c, D, A, nL0, Q⟩ := E
  exact fun H locs ls hP hS hl => lv_l2i g.1 g.2.1 d rfl (k H locs ls hP hS hl)
theorem x_goto (g : XG E wd cy cc own nL lvl ret out) {off : Int} (tgt : Nat) (d : decode cc pc = .ok (.goto off, 3)) (ht : (pc : Int) + off = (tgt : Int)) (k : XJ E ws tgt lv st) : XJ E ws pc lv st := by
  obtain ⟨p, l, e, R, s, m, args, below, meth, c, D, A, nL0, Q⟩ := E
  exact fun H locs ls hP hS hl => lv_goto g.1 g.2.1 d ht (k H locs ls hP hS hl)
theorem x_sub {lv' : List (Nat × Value)} (ks : List Nat) (h : lv_pick lv ks = lv') (k : XJ E ws pc lv' st) : XJ E ws pc lv st := by
  obtain ⟨p, l, e, R, s, m, args, below, meth, c, D, A, nL0, Q⟩ := E
  exact fun H locs ls hP hS hl => k H locs ls hP hS (lv_sub hl ks h)
theorem x_icmp_eq (g : XG E wd cy cc own nL lvl ret out) {x y : Int32} {α : Type} {a b : Option α} {o : α} {off : Int} (tgt : Nat) (d : decode cc pc = .ok (.if_icmp .eq off, 3)) (ht : (pc : Int) + off = (tgt : Int)) (hf : (if x = y then a else b) = some o) (k1 : x = y → a = some o → XJ E ws tgt lv st) (k2 : ¬ (x = y) → b = some o → XJ E ws (pc + 3) lv st) : XJ E ws pc lv (.int y :: .int x :: st) := by
  obtain ⟨p, l, e, R, s, m, args, below, meth, c, D, A, nL0, Q⟩ := E
  exact fun H locs ls hP hS hl => by
    by_cases q : x = y
    · rw [if_pos q] at hf; exact lv_icmp_eq g.1 g.2.1 d ht (fun j => k1 q hf H locs ls hP hS hl) (fun j => absurd q j)
    · rw [if_neg q] at hf; exact lv_icmp_eq g.1 g.2.1 d ht (fun j => absurd j q) (fun j => k2 q hf H locs ls hP hS hl)
theorem x_icmp_eq_t (g : XG E wd cy cc own nL lvl ret out) {x y : Int32} {off : Int} (tgt : Nat) (d : decode cc pc = .ok (.if_icmp .eq off, 3)) (ht : (pc : Int) + off = (tgt : Int)) (h : x = y) (k : XJ E ws tgt lv st) : XJ E ws pc lv (.int y :: .int x :: st) := by
  obtain ⟨p, l, e, R, s, m, args, below, meth, c, D, A, nL0, Q⟩ := E
  exact fun H locs ls hP hS hl => lv_icmp_eq g.1 g.2.1 d ht (fun _ => k H locs ls hP hS hl) (fun j => absurd h j)
theorem x_icmp_eq_f (g : XG E wd cy cc own nL lvl ret out) {x y : Int32} {off : Int} (tgt : Nat) (d : decode cc pc = .ok (.if_icmp .eq off, 3)) (ht : (pc : Int) + off = (tgt : Int)) (h : ¬ (x = y)) (k : XJ E ws (pc + 3) lv st) : XJ E ws pc lv (.int y :: .int x :: st) := by
  obtain ⟨p, l, e, R, s, m, args, below, meth, c, D, A, nL0, Q⟩ := E
  exact fun H locs ls hP hS hl => lv_icmp_eq g.1 g.2.1 d ht (fun j => absurd j h) (fun _ => k H locs ls hP hS hl)
theorem x_if_eq (g : XG E wd cy cc own nL lvl ret out) {x : Int32} {α : Type} {a b : Option α} {o : α} {off : Int} (tgt : Nat) (d : decode cc pc = .ok (.ifCond .eq off, 3)) (ht : (pc : Int) + off = (tgt : Int)) (hf : (if x = 0 then a else b) = some o) (k1 : x = 0 → a = some o → XJ E ws tgt lv st) (k2 : ¬ (x = 0) → b = some o → XJ E ws (pc + 3) lv st) : XJ E ws pc lv (.int x :: st) := by
  obtain ⟨p, l, e, R, s, m, args, below, meth, c, D, A, nL0, Q⟩ := E
  exact fun H locs ls hP hS hl => by
    by_cases q : x = 0
    · rw [if_pos q] at hf; exact lv_if_eq g.1 g.2.1 d ht (fun j => k1 q hf H locs ls hP hS hl) (fun j => absurd q j)
    · rw [if_neg q] at hf; exact lv_if_eq g.1 g.2.1 d ht (fun j => absurd j q) (fun j => k2 q hf H locs ls hP hS hl)
theorem x_if_eq_t (g : XG E wd cy cc own nL lvl ret out) {x : Int32} {off : Int} (tgt : Nat) (d : decode cc pc = .ok (.ifCond .eq off, 3)) (ht : (pc : Int) + off = (tgt : Int)) (h : x = 0) (k : XJ E ws tgt lv st) : XJ E ws pc lv (.int x :: st) := by
  obtain ⟨p, l, e, R, s, m, args, below, meth, c, D, A, nL0, Q⟩ := E
  exact fun H locs ls hP hS hl => lv_if_eq g.1 g.2.1 d ht (fun _ => k H locs ls hP hS hl) (fun j => absurd h j)
theorem x_if_eq_f (g : XG E wd cy cc own nL lvl ret out) {x : Int32} {off : Int} (tgt : Nat) (d : decode cc pc = .ok (.ifCond .eq off, 3)) (ht : (pc : Int) + off = (tgt : Int)) (h : ¬ (x = 0)) (k : XJ E ws (pc + 3) lv st) : XJ E ws pc lv (.int x :: st) := by
  obtain ⟨p, l, e, R, s, m, args, below, meth, c, D, A, nL0, Q⟩ := E
  exact fun H locs ls hP hS hl => lv_if_eq g.1 g.2.1 d ht (fun j => absurd j h) (fun _ => k H locs ls hP hS hl)
theorem x_icmp_ne (g : XG E wd cy cc own nL lvl ret out) {x y : Int32} {α : Type} {a b : Option α} {o : α} {off : Int} (tgt : Nat) (d : decode cc pc = .ok (.if_icmp .ne off, 3)) (ht : (pc : Int) + off = (tgt : Int)) (hf : (if x = y then a else b) = some o) (k1 : x = y → a = some o → XJ E ws (pc + 3) lv st) (k2 : ¬ (x = y) → b = some o → XJ E ws tgt lv st) : XJ E ws pc lv (.int y :: .int x :: st) := by
  obtain ⟨p, l, e, R, s, m, args, below, meth, c, D, A, nL0, Q⟩ := E
  exact fun H locs ls hP hS hl => by
    by_cases q : x = y
    · rw [if_pos q] at hf; exact lv_icmp_ne g.1 g.2.1 d ht (fun j => absurd j (fun z => z q)) (fun j => k1 q hf H locs ls hP hS hl)
    · rw [if_neg q] at hf; exact lv_icmp_ne g.1 g.2.1 d ht (fun j => k2 q hf H locs ls hP hS hl) (fun j => absurd j (q))
theorem x_icmp_ne_t (g : XG E wd cy cc own nL lvl ret out) {x y : Int32} {off : Int} (tgt : Nat) (d : decode cc pc = .ok (.if_icmp .ne off, 3)) (ht : (pc : Int) + off = (tgt : Int)) (h : ¬ x = y) (k : XJ E ws tgt lv st) : XJ E ws pc lv (.int y :: .int x :: st) := by
  obtain ⟨p, l, e, R, s, m, args, below, meth, c, D, A, nL0, Q⟩ := E
  exact fun H locs ls hP hS hl => lv_icmp_ne g.1 g.2.1 d ht (fun _ => k H locs ls hP hS hl) (fun j => absurd j h)
theorem x_icmp_ne_f (g : XG E wd cy cc own nL lvl ret out) {x y : Int32} {off : Int} (tgt : Nat) (d : decode cc pc = .ok (.if_icmp .ne off, 3)) (ht : (pc : Int) + off = (tgt : Int)) (h : ¬ (¬ x = y)) (k : XJ E ws (pc + 3) lv st) : XJ E ws pc lv (.int y :: .int x :: st) := by
  obtain ⟨p, l, e, R, s, m, args, below, meth, c, D, A, nL0, Q⟩ := E
  exact fun H locs ls hP hS hl => lv_icmp_ne g.1 g.2.1 d ht (fun j => absurd j h) (fun _ => k H locs ls hP hS hl)
theorem x_if_ne (g : XG E wd cy cc own nL lvl ret out) {x : Int32} {α : Type} {a b : Option α} {o : α} {off : Int} (tgt : Nat) (d : decode cc pc = .ok (.ifCond .ne off, 3)) (ht : (pc : Int) + off = (tgt : Int)) (hf : (if x = 0 then a else b) = some o) (k1 : x = 0 → a = some o → XJ E ws (pc + 3) lv st) (k2 : ¬ (x = 0) → b = some o → XJ E ws tgt lv st) : XJ E ws pc lv (.int x :: st) := by
  obtain ⟨p, l, e, R, s, m, args, below, meth, c, D, A, nL0, Q⟩ := E
  exact fun H locs ls hP hS hl => by
    by_cases q : x = 0
    · rw [if_pos q] at hf; exact lv_if_ne g.1 g.2.1 d ht (fun j => absurd j (fun z => z q)) (fun j => k1 q hf H locs ls hP hS hl)
    · rw [if_neg q] at hf; exact lv_if_ne g.1 g.2.1 d ht (fun j => k2 q hf H locs ls hP hS hl) (fun j => absurd j (q))
theorem x_if_ne_t (g : XG E wd cy cc own nL lvl ret out) {x : Int32} {off : Int} (tgt : Nat) (d : decode cc pc = .ok (.ifCond .ne off, 3)) (ht : (pc : Int) + off = (tgt : Int)) (h : ¬ x = 0) (k : XJ E ws tgt lv st) : XJ E ws pc lv (.int x :: st) := by
  obtain ⟨p, l, e, R, s, m, args, below, meth, c, D, A, nL0, Q⟩ := E
  exact fun H locs ls hP hS hl => lv_if_ne g.1 g.2.1 d ht (fun _ => k H locs ls hP hS hl) (fun j => absurd j h)
theorem x_if_ne_f (g : XG E wd cy cc own nL lvl ret out) {x : Int32} {off : Int} (tgt : Nat) (d : decode cc pc = .ok (.ifCond .ne off, 3)) (ht : (pc : Int) + off = (tgt : Int)) (h : ¬ (¬ x = 0)) (k : XJ E ws (pc + 3) lv st) : XJ E ws pc lv (.int x :: st) := by
  obtain ⟨p, l, e, R, s, m, args, below, meth, c, D, A, nL0, Q⟩ := E
  exact fun H locs ls hP hS hl => lv_if_ne g.1 g.2.1 d ht (fun j => absurd j h) (fun _ => k H locs ls hP hS hl)
theorem x_icmp_ge (g : XG E wd cy cc own nL lvl ret out) {x y : Int32} {α : Type} {a b : Option α} {o : α} {off : Int} (tgt : Nat) (d : decode cc pc = .ok (.if_icmp .ge off, 3)) (ht : (pc : Int) + off = (tgt : Int)) (hf : (if x < y then a else b) = some o) (k1 : x < y → a = some o → XJ E ws (pc + 3) lv st) (k2 : ¬ (x < y) → b = some o → XJ E ws tgt lv st) : XJ E ws pc lv (.int y :: .int x :: st) := by
  obtain ⟨p, l, e, R, s, m, args, below, meth, c, D, A, nL0, Q⟩ := E
  exact fun H locs ls hP hS hl => by
    by_cases q : x < y
    · rw [if_pos q] at hf; exact lv_icmp_ge g.1 g.2.1 d ht (fun j => absurd j (Int32.not_le.mpr q)) (fun j => k1 q hf H locs ls hP hS hl)
    · rw [if_neg q] at hf; exact lv_icmp_ge g.1 g.2.1 d ht (fun j => k2 q hf H locs ls hP hS hl) (fun j => absurd j (fun z => z (Int32.not_lt.mp q)))
theorem x_icmp_ge_t (g : XG E wd cy cc own nL lvl ret out) {x y : Int32} {off : Int} (tgt : Nat) (d : decode cc pc = .ok (.if_icmp .ge off, 3)) (ht : (pc : Int) + off = (tgt : Int)) (h : y ≤ x) (k : XJ E ws tgt lv st) : XJ E ws pc lv (.int y :: .int x :: st) := by
  obtain ⟨p, l, e, R, s, m, args, below, meth, c, D, A, nL0, Q⟩ := E
  exact fun H locs ls hP hS hl => lv_icmp_ge g.1 g.2.1 d ht (fun _ => k H locs ls hP hS hl) (fun j => absurd h j)
theorem x_icmp_ge_f (g : XG E wd cy cc own nL lvl ret out) {x y : Int32} {off : Int} (tgt : Nat) (d : decode cc pc = .ok (.if_icmp .ge off, 3)) (ht : (pc : Int) + off = (tgt : Int)) (h : ¬ (y ≤ x)) (k : XJ E ws (pc + 3) lv st) : XJ E ws pc lv (.int y :: .int x :: st) := by
  obtain ⟨p, l, e, R, s, m, args, below, meth, c, D, A, nL0, Q⟩ := E
  exact fun H locs ls hP hS hl => lv_icmp_ge g.1 g.2.1 d ht (fun j => absurd j h) (fun _ => k H locs ls hP hS hl)
theorem x_if_ge (g : XG E wd cy cc own nL lvl ret out) {x : Int32} {α : Type} {a b : Option α} {o : α} {off : Int} (tgt : Nat) (d : decode cc pc = .ok (.ifCond .ge off, 3)) (ht : (pc : Int) + off = (tgt : Int)) (hf : (if x < 0 then a else b) = some o) (k1 : x < 0 → a = some o → XJ E ws (pc + 3) lv st) (k2 : ¬ (x < 0) → b = some o → XJ E ws tgt lv st) : XJ E ws pc lv (.int x :: st) := by
  obtain ⟨p, l, e, R, s, m, args, below, meth, c, D, A, nL0, Q⟩ := E
  exact fun H locs ls hP hS hl => by
    by_cases q : x < 0
    · rw [if_pos q] at hf; exact lv_if_ge g.1 g.2.1 d ht (fun j => absurd j (Int32.not_le.mpr q)) (fun j => k1 q hf H locs ls hP hS hl)
    · rw [if_neg q] at hf; exact lv_if_ge g.1 g.2.1 d ht (fun j => k2 q hf H locs ls hP hS hl) (fun j => absurd j (fun z => z (Int32.not_lt.mp q)))
theorem x_if_ge_t (g : XG E wd cy cc own nL lvl ret out) {x : Int32} {off : Int} (tgt : Nat) (d : decode cc pc = .ok (.ifCond .ge off, 3)) (ht : (pc : Int) + off = (tgt : Int)) (h : 0 ≤ x) (k : XJ E ws tgt lv st) : XJ E ws pc lv (.int x :: st) := by
  obtain ⟨p, l, e, R, s, m, args, below, meth, c, D, A, nL0, Q⟩ := E
  exact fun H locs ls hP hS hl => lv_if_ge g.1 g.2.1 d ht (fun _ => k H locs ls hP hS hl) (fun j => absurd h j)
theorem x_if_ge_f (g : XG E wd cy cc own nL lvl ret out) {x : Int32} {off : Int} (tgt : Nat) (d : decode cc pc = .ok (.ifCond .ge off, 3)) (ht : (pc : Int) + off = (tgt : Int)) (h : ¬ (0 ≤ x)) (k : XJ E ws (pc + 3) lv st) : XJ E ws pc lv (.int x :: st) := by
  obtain ⟨p, l, e, R, s, m, args, below, meth, c, D, A, nL0, Q⟩ := E
  exact fun H locs ls hP hS hl => lv_if_ge g.1 g.2.1 d ht (fun j => absurd j h) (fun _ => k H locs ls hP hS hl)
theorem x_icmp_lt (g : XG E wd cy cc own nL lvl ret out) {x y : Int32} {α : Type} {a b : Option α} {o : α} {off : Int} (tgt : Nat) (d : decode cc pc = .ok (.if_icmp .lt off, 3)) (ht : (pc : Int) + off = (tgt : Int)) (hf : (if y ≤ x then a else b) = some o) (k1 : y ≤ x → a = some o → XJ E ws (pc + 3) lv st) (k2 : ¬ (y ≤ x) → b = some o → XJ E ws tgt lv st) : XJ E ws pc lv (.int y :: .int x :: st) := by
  obtain ⟨p, l, e, R, s, m, args, below, meth, c, D, A, nL0, Q⟩ := E
  exact fun H locs ls hP hS hl => by
    by_cases q : y ≤ x
    · rw [if_pos q] at hf; exact lv_icmp_lt g.1 g.2.1 d ht (fun j => absurd j (Int32.not_lt.mpr q)) (fun j => k1 q hf H locs ls hP hS hl)
    · rw [if_neg q] at hf; exact lv_icmp_lt g.1 g.2.1 d ht (fun j => k2 q hf H locs ls hP hS hl) (fun j => absurd j (fun z => z (Int32.not_le.mp q)))
theorem x_icmp_lt_t (g : XG E wd cy cc own nL lvl ret out) {x y : Int32} {off : Int} (tgt : Nat) (d : decode cc pc = .ok (.if_icmp .lt off, 3)) (ht : (pc : Int) + off = (tgt : Int)) (h : x < y) (k : XJ E ws tgt lv st) : XJ E ws pc lv (.int y :: .int x :: st) := by
  obtain ⟨p, l, e, R, s, m, args, below, meth, c, D, A, nL0, Q⟩ := E
  exact fun H locs ls hP hS hl => lv_icmp_lt g.1 g.2.1 d ht (fun _ => k H locs ls hP hS hl) (fun j => absurd h j)
theorem x_icmp_lt_f (g : XG E wd cy cc own nL lvl ret out) {x y : Int32} {off : Int} (tgt : Nat) (d : decode cc pc = .ok (.if_icmp .lt off, 3)) (ht : (pc : Int) + off = (tgt : Int)) (h : ¬ (x < y)) (k : XJ E ws (pc + 3) lv st) : XJ E ws pc lv (.int y :: .int x :: st) := by
  obtain ⟨p, l, e, R, s, m, args, below, meth, c, D, A, nL0, Q⟩ := E
  exact fun H locs ls hP hS hl => lv_icmp_lt g.1 g.2.1 d ht (fun j => absurd j h) (fun _ => k H locs ls hP hS hl)
theorem x_if_lt (g : XG E wd cy cc own nL lvl ret out) {x : Int32} {α : Type} {a b : Option α} {o : α} {off : Int} (tgt : Nat) (d : decode cc pc = .ok (.ifCond .lt off, 3)) (ht : (pc : Int) + off = (tgt : Int)) (hf : (if 0 ≤ x then a else b) = some o) (k1 : 0 ≤ x → a = some o → XJ E ws (pc + 3) lv st) (k2 : ¬ (0 ≤ x) → b = some o → XJ E ws tgt lv st) : XJ E ws pc lv (.int x :: st) := by
  obtain ⟨p, l, e, R, s, m, args, below, meth, c, D, A, nL0, Q⟩ := E
  exact fun H locs ls hP hS hl => by
    by_cases q : 0 ≤ x
    · rw [if_pos q] at hf; exact lv_if_lt g.1 g.2.1 d ht (fun j => absurd j (Int32.not_lt.mpr q)) (fun j => k1 q hf H locs ls hP hS hl)
    · rw [if_neg q] at hf; exact lv_if_lt g.1 g.2.1 d ht (fun j => k2 q hf H locs ls hP hS hl) (fun j => absurd j (fun z => z (Int32.not_le.mp q)))
theorem x_if_lt_t (g : XG E wd cy cc own nL lvl ret out) {x : Int32} {off : Int} (tgt : Nat) (d : decode cc pc = .ok (.ifCond .lt off, 3)) (ht : (pc : Int) + off = (tgt : Int)) (h : x < 0) (k : XJ E ws tgt lv st) : XJ E ws pc lv (.int x :: st) := by
  obtain ⟨p, l, e, R, s, m, args, below, meth, c, D, A, nL0, Q⟩ := E
  exact fun H locs ls hP hS hl => lv_if_lt g.1 g.2.1 d ht (fun _ => k H locs ls hP hS hl) (fun j => absurd h j)
theorem x_if_lt_f (g : XG E wd cy cc own nL lvl ret out) {x : Int32} {off : Int} (tgt : Nat) (d : decode cc pc = .ok (.ifCond .lt off, 3)) (ht : (pc : Int) + off = (tgt : Int)) (h : ¬ (x < 0)) (k : XJ E ws (pc + 3) lv st) : XJ E ws pc lv (.int x :: st) := by
  obtain ⟨p, l, e, R, s, m, args, below, meth, c, D, A, nL0, Q⟩ := E
  exact fun H locs ls hP hS hl => lv_if_lt g.1 g.2.1 d ht (fun j => absurd j h) (fun _ => k H locs ls hP hS hl)
theorem x_icmp_gt (g : XG E wd cy cc own nL lvl ret out) {x y : Int32} {α : Type} {a b : Option α} {o : α} {off : Int} (tgt : Nat) (d : decode cc pc = .ok (.if_icmp .gt off, 3)) (ht : (pc : Int) + off = (tgt : Int)) (hf : (if x ≤ y then a else b) = some o) (k1 : x ≤ y → a = some o → XJ E ws (pc + 3) lv st) (k2 : ¬ (x ≤ y) → b = some o → XJ E ws tgt lv st) : XJ E ws pc lv (.int y :: .int x :: st) := by
  obtain ⟨p, l, e, R, s, m, args, below, meth, c, D, A, nL0, Q⟩ := E
  exact fun H locs ls hP hS hl => by
    by_cases q : x ≤ y
    · rw [if_pos q] at hf; exact lv_icmp_gt g.1 g.2.1 d ht (fun j => absurd j (Int32.not_lt.mpr q)) (fun j => k1 q hf H locs ls hP hS hl)
    · rw [if_neg q] at hf; exact lv_icmp_gt g.1 g.2.1 d ht (fun j => k2 q hf H locs ls hP hS hl) (fun j => absurd j (fun z => z (Int32.not_le.mp q)))
theorem x_icmp_gt_t (g : XG E wd cy cc own nL lvl ret out) {x y : Int32} {off : Int} (tgt : Nat) (d : decode cc pc = .ok (.if_icmp .gt off, 3)) (ht : (pc : Int) + off = (tgt : Int)) (h : y < x) (k : XJ E ws tgt lv st) : XJ E ws pc lv (.int y :: .int x :: st) := by
  obtain ⟨p, l, e, R, s, m, args, below, meth, c, D, A, nL0, Q⟩ := E
  exact fun H locs ls hP hS hl => lv_icmp_gt g.1 g.2.1 d ht (fun _ => k H locs ls hP hS hl) (fun j => absurd h j)
theorem x_icmp_gt_f (g : XG E wd cy cc own nL lvl ret out) {x y : Int32} {off : Int} (tgt : Nat) (d : decode cc pc = .ok (.if_icmp .gt off, 3)) (ht : (pc : Int) + off = (tgt : Int)) (h : ¬ (y < x)) (k : XJ E ws (pc + 3) lv st) : XJ E ws pc lv (.int y :: .int x :: st) := by
  obtain ⟨p, l, e, R, s, m, args, below, meth, c, D, A, nL0, Q⟩ := E
  exact fun H locs ls hP hS hl => lv_icmp_gt g.1 g.2.1 d ht (fun j => absurd j h) (fun _ => k H locs ls hP hS hl)
theorem x_if_gt (g : XG E wd cy cc own nL lvl ret out) {x : Int32} {α : Type} {a b : Option α} {o : α} {off : Int} (tgt : Nat) (d : decode cc pc = .ok (.ifCond .gt off, 3)) (ht : (pc : Int) + off = (tgt : Int)) (hf : (if x ≤ 0 then a else b) = some o) (k1 : x ≤ 0 → a = some o → XJ E ws (pc + 3) lv st) (k2 : ¬ (x ≤ 0) → b = some o → XJ E ws tgt lv st) : XJ E ws pc lv (.int x :: st) := by
  obtain ⟨p, l, e, R, s, m, args, below, meth, c, D, A, nL0, Q⟩ := E
  exact fun H locs ls hP hS hl => by
    by_cases q : x ≤ 0
    · rw [if_pos q] at hf; exact lv_if_gt g.1 g.2.1 d ht (fun j => absurd j (Int32.not_lt.mpr q)) (fun j => k1 q hf H locs ls hP hS hl)
    · rw [if_neg q] at hf; exact lv_if_gt g.1 g.2.1 d ht (fun j => k2 q hf H locs ls hP hS hl) (fun j => absurd j (fun z => z (Int32.not_le.mp q)))
theorem x_if_gt_t (g : XG E wd cy cc own nL lvl ret out) {x : Int32} {off : Int} (tgt : Nat) (d : decode cc pc = .ok (.ifCond .gt off, 3)) (ht : (pc : Int) + off = (tgt : Int)) (h : 0 < x) (k : XJ E ws tgt lv st) : XJ E ws pc lv (.int x :: st) := by
  obtain ⟨p, l, e, R, s, m, args, below, meth, c, D, A, nL0, Q⟩ := E
  exact fun H locs ls hP hS hl => lv_if_gt g.1 g.2.1 d ht (fun _ => k H locs ls hP hS hl) (fun j => absurd h j)
theorem x_if_gt_f (g : XG E wd cy cc own nL lvl ret out) {x : Int32} {off : Int} (tgt : Nat) (d : decode cc pc = .ok (.ifCond .gt off, 3)) (ht : (pc : Int) + off = (tgt : Int)) (h : ¬ (0 < x)) (k : XJ E ws (pc + 3) lv st) : XJ E ws pc lv (.int x :: st) := by
  obtain ⟨p, l, e, R, s, m, args, below, meth, c, D, A, nL0, Q⟩ := E
  exact fun H locs ls hP hS hl => lv_if_gt g.1 g.2.1 d ht (fun j => absurd j h) (fun _ => k H locs ls hP hS hl)
theorem x_icmp_le (g : XG E wd cy cc own nL lvl ret out) {x y : Int32} {α : Type} {a b : Option α} {o : α} {off : Int} (tgt : Nat) (d : decode cc pc = .ok (.if_icmp .le off, 3)) (ht : (pc : Int) + off = (tgt : Int)) (hf : (if y < x then a else b) = some o) (k1 : y < x → a = some o → XJ E ws (pc + 3) lv st) (k2 : ¬ (y < x) → b = some o → XJ E ws tgt lv st) : XJ E ws pc lv (.int y :: .int x :: st) := by
  obtain ⟨p, l, e, R, s, m, args, below, meth, c, D, A, nL0, Q⟩ := E
  exact fun H locs ls hP hS hl => by
    by_cases q : y < x
    · rw [if_pos q] at hf; exact lv_icmp_le g.1 g.2.1 d ht (fun j => absurd j (Int32.not_le.mpr q)) (fun j => k1 q hf H locs ls hP hS hl)
    · rw [if_neg q] at hf; exact lv_icmp_le g.1 g.2.1 d ht (fun j => k2 q hf H locs ls hP hS hl) (fun j => absurd j (fun z => z (Int32.not_lt.mp q)))
theorem x_icmp_le_t (g : XG E wd cy cc own nL lvl ret out) {x y : Int32} {off : Int} (tgt : Nat) (d : decode cc pc = .ok (.if_icmp .le off, 3)) (ht : (pc : Int) + off = (tgt : Int)) (h : x ≤ y) (k : XJ E ws tgt lv st) : XJ E ws pc lv (.int y :: .int x :: st) := by
  obtain ⟨p, l, e, R, s, m, args, below, meth, c, D, A, nL0, Q⟩ := E
  exact fun H locs ls hP hS hl => lv_icmp_le g.1 g.2.1 d ht (fun _ => k H locs ls hP hS hl) (fun j => absurd h j)
theorem x_icmp_le_f (g : XG E wd cy cc own nL lvl ret out) {x y : Int32} {off : Int} (tgt : Nat) (d : decode cc pc = .ok (.if_icmp .le off, 3)) (ht : (pc : Int) + off = (tgt : Int)) (h : ¬ (x ≤ y)) (k : XJ E ws (pc + 3) lv st) : XJ E ws pc lv (.int y :: .int x :: st) := by
  obtain ⟨p, l, e, R, s, m, args, below, meth, c, D, A, nL0, Q⟩ := E
  exact fun H locs ls hP hS hl => lv_icmp_le g.1 g.2.1 d ht (fun j => absurd j h) (fun _ => k H locs ls hP hS hl)
theorem x_if_le (g : XG E wd cy cc own nL lvl ret out) {x : Int32} {α : Type} {a b : Option α} {o : α} {off : Int} (tgt : Nat) (d : decode cc pc = .ok (.ifCond .le off, 3)) (ht : (pc : Int) + off = (tgt : Int)) (hf : (if 0 < x then a else b) = some o) (k1 : 0 < x → a = some o → XJ E ws (pc + 3) lv st) (k2 : ¬ (0 < x) → b = some o → XJ E ws tgt lv st) : XJ E ws pc lv (.int x :: st) := by
  obtain ⟨p, l, e, R, s, m, args, below, meth, c, D, A, nL0, Q⟩ := E
  exact fun H locs ls hP hS hl => by
    by_cases q : 0 < x
    · rw [if_pos q] at hf; exact lv_if_le g.1 g.2.1 d ht (fun j => absurd j (Int32.not_le.mpr q)) (fun j => k1 q hf H locs ls hP hS hl)
    · rw [if_neg q] at hf; exact lv_if_le g.1 g.2.1 d ht (fun j => k2 q hf H locs ls hP hS hl) (fun j => absurd j (fun z => z (Int32.not_lt.mp q)))
theorem x_if_le_t (g : XG E wd cy cc own nL lvl ret out) {x : Int32} {off : Int} (tgt : Nat) (d : decode cc pc = .ok (.ifCond .le off, 3)) (ht : (pc : Int) + off = (tgt : Int)) (h : x ≤ 0) (k : XJ E ws tgt lv st) : XJ E ws pc lv (.int x :: st) := by
  obtain ⟨p, l, e, R, s, m, args, below, meth, c, D, A, nL0, Q⟩ := E
  exact fun H locs ls hP hS hl => lv_if_le g.1 g.2.1 d ht (fun _ => k H locs ls hP hS hl) (fun j => absurd h j)
theorem x_if_le_f (g : XG E wd cy cc own nL lvl ret out) {x : Int32} {off : Int} (tgt : Nat) (d : decode cc pc = .ok (.ifCond .le off, 3)) (ht : (pc : Int) + off = (tgt : Int)) (h : ¬ (x ≤ 0)) (k : XJ E ws (pc + 3) lv st) : XJ E ws pc lv (.int x :: st) := by
  obtain ⟨p, l, e, R, s, m, args, below, meth, c, D, A, nL0, Q⟩ := E
  exact fun H locs ls hP hS hl => lv_if_le g.1 g.2.1 d ht (fun j => absurd j h) (fun _ => k H locs ls hP hS hl)
theorem x_ifnull (g : XG E wd cy cc own nL lvl ret out) {x : Nat} {off : Int} (d : decode cc pc = .ok (.ifnull off, 3)) (k : XJ E ws (pc + 3) lv st) : XJ E ws pc lv (.ref x :: st) := by
  obtain ⟨p, l, e, R, s, m, args, below, meth, c, D, A, nL0, Q⟩ := E
  exact fun H locs ls hP hS hl => lv_ifnull g.1 g.2.1 d (k H locs ls hP hS hl)
theorem x_ifnullN (g : XG E wd cy cc own nL lvl ret out) {off : Int} (tgt : Nat) (d : decode cc pc = .ok (.ifnull off, 3)) (ht : (pc : Int) + off = (tgt : Int)) (k : XJ E ws tgt lv st) : XJ E ws pc lv (.null :: st) := by
  obtain ⟨p, l, e, R, s, m, args, below, meth, c, D, A, nL0, Q⟩ := E
  exact fun H locs ls hP hS hl => lv_ifnullN g.1 g.2.1 d ht (k H locs ls hP hS hl)
theorem x_ifnonnull (g : XG E wd cy cc own nL lvl ret out) {x : Nat} {off : Int} (tgt : Nat) (d : decode cc pc = .ok (.ifnonnull off, 3)) (ht : (pc : Int) + off = (tgt : Int)) (k : XJ E ws tgt lv st) : XJ E ws pc lv (.ref x :: st) := by
  obtain ⟨p, l, e, R, s, m, args, below, meth, c, D, A, nL0, Q⟩ := E
  exact fun H locs ls hP hS hl => lv_ifnonnull g.1 g.2.1 d ht (k H locs ls hP hS hl)
theorem x_ifnonnullN (g : XG E wd cy cc own nL lvl ret out) {off : Int} (d : decode cc pc = .ok (.ifnonnull off, 3)) (k : XJ E ws (pc + 3) lv st) : XJ E ws pc lv (.null :: st) := by
  obtain ⟨p, l, e, R, s, m, args, below, meth, c, D, A, nL0, Q⟩ := E
  exact fun H locs ls hP hS hl => lv_ifnonnullN g.1 g.2.1 d (k H locs ls hP hS hl)
theorem x_tin (g : XG E wd cy cc own nL lvl ret out) {x : Int32} {dflt lo hi : Int} {offs : Array Int} {len : Nat} (v : Int32) (off : Int) (tgt : Nat) (d : decode cc pc = .ok (.tableswitch dflt lo hi offs, len)) (hx : x = v) (h1 : ¬ v.toInt < lo ∧ ¬ hi < v.toInt ∧ offs[(v.toInt - lo).toNat]? = some off ∧ (pc : Int) + off = (tgt : Int)) (k : XJ E ws tgt lv st) : XJ E ws pc lv (.int x :: st) := by
  obtain ⟨p, l, e, R, s, m, args, below, meth, c, D, A, nL0, Q⟩ := E
  subst hx
  exact fun H locs ls hP hS hl => lv_tableIn g.1 g.2.1 d h1.1 h1.2.1 h1.2.2.1 h1.2.2.2 (k H locs ls hP hS hl)
theorem x_tout (g : XG E wd cy cc own nL lvl ret out) {x : Int32} {dflt lo hi : Int} {offs : Array Int} {len : Nat} (tgt : Nat) (d : decode cc pc = .ok (.tableswitch dflt lo hi offs, len)) (h : x.toInt < lo ∨ hi < x.toInt) (ht : (pc : Int) + dflt = (tgt : Int)) (k : XJ E ws tgt lv st) : XJ E ws pc lv (.int x :: st) := by
  obtain ⟨p, l, e, R, s, m, args, below, meth, c, D, A, nL0, Q⟩ := E
  exact fun H locs ls hP hS hl => lv_tableOut g.1 g.2.1 d h ht (k H locs ls hP hS hl)
theorem x_lkin (g : XG E wd cy cc own nL lvl ret out) {x : Int32} {dflt : Int} {ps : Array (Int × Int)} {len : Nat} (v : Int32) (off : Int) (tgt : Nat) (d : decode cc pc = .ok (.lookupswitch dflt ps, len)) (hx : x = v) (hp : (ps.toList.zip (ps.toList.drop 1)).all (fun (a, next) => a.1 < next.1) = true) (ho : Op.lookupswitch.offset ps.toList dflt v.toInt = off) (ht : (pc : Int) + off = (tgt : Int)) (k : XJ E ws tgt lv st) : XJ E ws pc lv (.int x :: st) := by
  obtain ⟨p, l, e, R, s, m, args, below, meth, c, D, A, nL0, Q⟩ := E
  subst hx
  exact fun H locs ls hP hS hl => lv_lookup g.1 g.2.1 d hp ho ht (k H locs ls hP hS hl)
theorem x_lkout (g : XG E wd cy cc own nL lvl ret out) {x : Int32} {dflt : Int} {ps : Array (Int × Int)} {len : Nat} (tgt : Nat) (d : decode cc pc = .ok (.lookupswitch dflt ps, len)) (hp : (ps.toList.zip (ps.toList.drop 1)).all (fun (a, next) => a.1 < next.1) = true) (ho : Op.lookupswitch.offset ps.toList dflt x.toInt = dflt) (ht : (pc : Int) + dflt = (tgt : Int)) (k : XJ E ws tgt lv st) : XJ E ws pc lv (.int x :: st) := by
  obtain ⟨p, l, e, R, s, m, args, below, meth, c, D, A, nL0, Q⟩ := E
  exact fun H locs ls hP hS hl => lv_lookup g.1 g.2.1 d hp ho ht (k H locs ls hP hS hl)
theorem x_mmax (g : XG E wd cy cc own nL lvl ret out) {x y : Int32} {i : Nat} (w : Cond.methodLink own i Lib.Math.max.name ∈ TB) (hlv : 1 ≤ lvl) (hc : (st.map fun v => v.category).sum ≤ 20) (d : decode cc pc = .ok (.invokestatic i, 3)) (k : XJ E ws (pc + 3) lv (.int (if x < y then y else x) :: st)) : XJ E ws pc lv (.int y :: .int x :: st) := by
  obtain ⟨p, l, e, R, s, m, args, below, meth, c, D, A, nL0, Q⟩ := E
  obtain ⟨hx, hb, hml, hnl, hown, hts, hK, hD, hR, -⟩ := g
  exact fun H locs ls hP hS hl => va_mmax hx hb (by rw [hml, ← hnl]; exact hl.1.symm) hown (hts _ w) (hts _ mm_max.1) (hts _ mm_max.2.1) (hts _ mm_max.2.2) (by rw [hR]; exact hlv) (by rw [hR]; show _ ≤ 40 * lvl; omega) (Nat.zero_le _) (Nat.zero_le _) d (k H locs ls hP hS hl)
theorem x_mmin (g : XG E wd cy cc own nL lvl ret out) {x y : Int32} {i : Nat} (w : Cond.methodLink own i Lib.Math.min.name ∈ TB) (hlv : 1 ≤ lvl) (hc : (st.map fun v => v.category).sum ≤ 20) (d : decode cc pc = .ok (.invokestatic i, 3)) (k : XJ E ws (pc + 3) lv (.int (if y < x then y else x) :: st)) : XJ E ws pc lv (.int y :: .int x :: st) := by
  obtain ⟨p, l, e, R, s, m, args, below, meth, c, D, A, nL0, Q⟩ := E
  obtain ⟨hx, hb, hml, hnl, hown, hts, hK, hD, hR, -⟩ := g
  exact fun H locs ls hP hS hl => va_mmin hx hb (by rw [hml, ← hnl]; exact hl.1.symm) hown (hts _ w) (hts _ mm_min.1) (hts _ mm_min.2.1) (hts _ mm_min.2.2) (by rw [hR]; exact hlv) (by rw [hR]; show _ ≤ 40 * lvl; omega) (Nat.zero_le _) (Nat.zero_le _) d (k H locs ls hP hS hl)
theorem x_get (g : XG E wd cy cc own nL lvl ret out) {q0 i ci k N : Nat} {C : String} {T : u_T} {ad : Nat} {fs : List Value} {v : Value} (w : FL own i ci k C T N) (he : ws[q0]? = some (ad, .inr (ci, fs))) (hv : fs[k]? = some v) (d : decode cc pc = .ok (.getfield i, 3)) (kk : XJ E ws (pc + 3) lv (v :: st)) : XJ E ws pc lv (.ref ad :: st) := by
  obtain ⟨p, l, e, R, s, m, args, below, meth, c, D, A, nL0, Q⟩ := E
  obtain ⟨hx, hb, hml, hnl, hown, hts, hK, hD, hR, -⟩ := g
  exact fun H locs ls hP hS hl => va_get hx hb hts w.2.1 hown hK.1 hP q0 he w.1 k w.2.2.1 (hts _ w.2.2.2) (fun _ h => h) hv d (kk H locs ls hP hS hl)
theorem x_put (g : XG E wd cy cc own nL lvl ret out) {q0 i ci k N : Nat} {C : String} {T : u_T} {ad : Nat} {fs : List Value} {v : Value} {σ σ2 : S} (ty0 : Nat → FieldType) (w : FL own i ci k C T N) (hty : ∀ k, k < N → parseFieldDescriptor (T k).2.2.1 = some (ty0 k)) (hnm : ∀ a, a < N → ∀ b, b < N → a ≠ b → (T a).2.1 ≠ (T b).2.1) (he : (wd σ)[q0]? = some (ad, .inr (ci, fs))) (hfin : (T k).2.2.2 = false) (hn : narrow (ty0 k) v = v) (hfit : fits (ty0 k) v = true) (hl : k < fs.length) (hs : (wd σ).set q0 (ad, .inr (ci, fs.set k v)) = wd σ2) (d : decode cc pc = .ok (.putfield i, 3)) (kk : XJ E (wd σ2) (pc + 3) lv st) : XJ E (wd σ) pc lv (v :: .ref ad :: st) := by
  obtain ⟨p, l, e, R, s, m, args, below, meth, c, D, A, nL0, Q⟩ := E
  obtain ⟨hx, hb, hml, hnl, hown, hts, hK, hD, hR, -⟩ := g
  exact fun H locs ls hP hS hl' => va_put hx hb hts w.2.1 ty0 hty hnm hown hK.1 hP (hD σ) hS q0 he w.1 k w.2.2.1 (hts _ w.2.2.2) (fun _ h => h) hfin (hty k w.2.2.1) hn hfit hl d (fun H1 locs1 hP1 _ hS1 => kk H1 locs1 ls (by rw [← hs]; exact hP1) hS1 hl')
theorem x_iald (g : XG E wd cy cc own nL lvl ret out) {q0 n : Nat} {f : Nat → Int32} {ad : Nat} {i : Int32} {α : Type} {a : Option α} {o : α} (he : ws[q0]? = some (ad, .inl (cy 0, n, .inl f))) (d : decode cc pc = .ok (.iaload, 1)) (hf : chk (inb i n) a = some o) (kk : a = some o → XJ E ws (pc + 1) lv (.int (f i.toNatClampNeg) :: st)) : XJ E ws pc lv (.int i :: .ref ad :: st) := by
  obtain ⟨p, l, e, R, s, m, args, below, meth, c, D, A, nL0, Q⟩ := E
  obtain ⟨hx, hb, hml, hnl, hown, hts, hK, hD, hR, -⟩ := g
  have h := chk_some hf
  exact fun H locs ls hP hS hl => va_iald hx hb hK.1 hP q0 0 he rfl (inb_in h.1) d (kk h.2 H locs ls hP hS hl)
theorem x_zald (g : XG E wd cy cc own nL lvl ret out) {q0 n : Nat} {f : Nat → Int32} {ad : Nat} {i : Int32} {α : Type} {a : Option α} {o : α} (he : ws[q0]? = some (ad, .inl (cy 1, n, .inl f))) (d : decode cc pc = .ok (.baload, 1)) (hf : chk (inb i n) a = some o) (kk : a = some o → XJ E ws (pc + 1) lv (.int (f i.toNatClampNeg) :: st)) : XJ E ws pc lv (.int i :: .ref ad :: st) := by
  obtain ⟨p, l, e, R, s, m, args, below, meth, c, D, A, nL0, Q⟩ := E
  obtain ⟨hx, hb, hml, hnl, hown, hts, hK, hD, hR, -⟩ := g
  have h := chk_some hf
  exact fun H locs ls hP hS hl => va_zald hx hb hK.1 hP q0 1 he rfl (inb_in h.1) d (kk h.2 H locs ls hP hS hl)
theorem x_iast (g : XG E wd cy cc own nL lvl ret out) {q0 n : Nat} {f : Nat → Int32} {ad : Nat} {i x : Int32} {α : Type} {a : Option α} {o : α} {σ σ2 : S} (he : (wd σ)[q0]? = some (ad, .inl (cy 0, n, .inl f))) (hs : (wd σ).set q0 (ad, .inl (cy 0, n, .inl (upd f i.toNatClampNeg x))) = wd σ2) (d : decode cc pc = .ok (.iastore, 1)) (hf : chk (inb i n) a = some o) (kk : a = some o → XJ E (wd σ2) (pc + 1) lv st) : XJ E (wd σ) pc lv (.int x :: .int i :: .ref ad :: st) := by
  obtain ⟨p, l, e, R, s, m, args, below, meth, c, D, A, nL0, Q⟩ := E
  obtain ⟨hx, hb, hml, hnl, hown, hts, hK, hD, hR, -⟩ := g
  have h := chk_some hf
  exact fun H locs ls hP hS hl => va_iast hx hb hK.1 hP (hD σ) hS q0 0 he rfl (inb_in h.1) d (fun H1 locs1 hP1 _ hS1 => kk h.2 H1 locs1 ls (by rw [← hs]; exact hP1) hS1 hl)
theorem x_zast (g : XG E wd cy cc own nL lvl ret out) {q0 n : Nat} {f : Nat → Int32} {ad : Nat} {i x : Int32} {α : Type} {a : Option α} {o : α} {σ σ2 : S} (he : (wd σ)[q0]? = some (ad, .inl (cy 1, n, .inl f))) (hs : (wd σ).set q0 (ad, .inl (cy 1, n, .inl (upd f i.toNatClampNeg (vp_nar .boolean x)))) = wd σ2) (d : decode cc pc = .ok (.bastore, 1)) (hf : chk (inb i n) a = some o) (kk : a = some o → XJ E (wd σ2) (pc + 1) lv st) : XJ E (wd σ) pc lv (.int x :: .int i :: .ref ad :: st) := by
  obtain ⟨p, l, e, R, s, m, args, below, meth, c, D, A, nL0, Q⟩ := E
  obtain ⟨hx, hb, hml, hnl, hown, hts, hK, hD, hR, -⟩ := g
  have h := chk_some hf
  exact fun H locs ls hP hS hl => va_zast hx hb hK.1 hP (hD σ) hS q0 1 he rfl (inb_in h.1) d (fun H1 locs1 hP1 _ hS1 => kk h.2 H1 locs1 ls (by rw [← hs]; exact hP1) hS1 hl)
theorem x_aald (g : XG E wd cy cc own nL lvl ret out) {q0 n t0 b : Nat} {C : String} {f : Nat → Option Nat} {ad : Nat} {i : Int32} {α : Type} {a : Option α} {o : α} (ht : (tysOf cy)[t0]? = some (cy t0, .object C)) (he : ws[q0]? = some (ad, .inl (cy t0, n, .inr (.inr (.inr (.inr f)))))) (hb0 : f i.toNatClampNeg = some b) (d : decode cc pc = .ok (.aaload, 1)) (hf : chk (inb i n) a = some o) (kk : a = some o → XJ E ws (pc + 1) lv (.ref b :: st)) : XJ E ws pc lv (.int i :: .ref ad :: st) := by
  obtain ⟨p, l, e, R, s, m, args, below, meth, c, D, A, nL0, Q⟩ := E
  obtain ⟨hx, hb, hml, hnl, hown, hts, hK, hD, hR, -⟩ := g
  have h := chk_some hf
  exact fun H locs ls hP hS hl => va_aldq hx hb hK.1 hP q0 t0 he ht (inb_in h.1) d (by rw [hb0]; exact kk h.2 H locs ls hP hS hl)
theorem x_aast (g : XG E wd cy cc own nL lvl ret out) {q0 n t0 qk ci b : Nat} {r : vw_C} {vs : List Value} {f : Nat → Option Nat} {ad : Nat} {i : Int32} {α : Type} {a : Option α} {o : α} {σ σ2 : S} (ht : (tysOf cy)[t0]? = some (cy t0, .object r.1)) (he : (wd σ)[q0]? = some (ad, .inl (cy t0, n, .inr (.inr (.inr (.inr f)))))) (hv : (wd σ)[qk]? = some (b, .inr (ci, vs))) (hc : vwCl[ci]? = some r) (hs : (wd σ).set q0 (ad, .inl (cy t0, n, .inr (.inr (.inr (.inr (va_up f i.toNatClampNeg (some b))))))) = wd σ2) (d : decode cc pc = .ok (.aastore, 1)) (hf : chk (inb i n) a = some o) (kk : a = some o → XJ E (wd σ2) (pc + 1) lv st) : XJ E (wd σ) pc lv (.ref b :: .int i :: .ref ad :: st) := by
  obtain ⟨p, l, e, R, s, m, args, below, meth, c, D, A, nL0, Q⟩ := E
  obtain ⟨hx, hb, hml, hnl, hown, hts, hK, hD, hR, -⟩ := g
  have h := chk_some hf
  exact fun H locs ls hP hS hl => va_astq hx hb hK.1 hP (hD σ) hS q0 t0 qk ci he ht hv hc (inb_in h.1) d (fun H1 locs1 hP1 _ hS1 => kk h.2 H1 locs1 ls (by rw [← hs]; exact hP1) hS1 hl)
theorem x_alen (g : XG E wd cy cc own nL lvl ret out) {q0 t0 : Nat} {x : vp_A} {ad : Nat} {ty : FieldType} (ht : (tysOf cy)[t0]? = some (cy t0, ty)) (he : ws[q0]? = some (ad, .inl (cy t0, x))) (v : Int32) (hv : Int32.ofNat x.1 = v) (d : decode cc pc = .ok (.arraylength, 1)) (kk : XJ E ws (pc + 1) lv (.int v :: st)) : XJ E ws pc lv (.ref ad :: st) := by
  obtain ⟨p, l, e, R, s, m, args, below, meth, c, D, A, nL0, Q⟩ := E
  obtain ⟨hx, hb, hml, hnl, hown, hts, hK, hD, hR, -⟩ := g
  exact fun H locs ls hP hS hl => va_alen hx hb hK.1 hP q0 t0 he ht hv d (kk H locs ls hP hS hl)
theorem x_iret (g : XG E wd cy cc own nL lvl ret out) {σ : S} {v : Int32} (hr0 : ret = some .int) (ho : out = (σ, some (.int v))) (d : decode cc pc = .ok (.ireturn, 1)) : XJ E (wd σ) pc lv [.int v] := by
  obtain ⟨p, l, e, R, s, m, args, below, meth, c, D, A, nL0, Q⟩ := E
  obtain ⟨hx, hb, hml, hnl, hown, hts, hK, hD, hR, hr, hlocks, hQ⟩ := g
  subst hQ; subst ho
  exact fun H locs ls hP hS hl => W.iret hx hb (hr.trans hr0) (fun t ht hW => ⟨⟨rfl, by rw [ht]; exact hP⟩, hS.F ht⟩) hS.2.2 d hlocks
theorem x_zret (g : XG E wd cy cc own nL lvl ret out) {σ : S} {v : Int32} (hr0 : ret = some .boolean) (hn : v &&& 1 = v) (ho : out = (σ, some (.int v))) (d : decode cc pc = .ok (.ireturn, 1)) : XJ E (wd σ) pc lv [.int v] := by
  obtain ⟨p, l, e, R, s, m, args, below, meth, c, D, A, nL0, Q⟩ := E
  obtain ⟨hx, hb, hml, hnl, hown, hts, hK, hD, hR, hr, hlocks, hQ⟩ := g
  subst hQ; subst ho
  exact fun H locs ls hP hS hl => W.zret hx hb (hr.trans hr0) (by show Value.int (v &&& 1) = _; rw [hn]) (fun t ht hW => ⟨⟨rfl, by rw [ht]; exact hP⟩, hS.F ht⟩) hS.2.2 d hlocks
theorem x_lret (g : XG E wd cy cc own nL lvl ret out) {σ : S} {v : Int64} (hr0 : ret = some .long) (ho : out = (σ, some (.long v))) (d : decode cc pc = .ok (.lreturn, 1)) : XJ E (wd σ) pc lv [.long v] := by
  obtain ⟨p, l, e, R, s, m, args, below, meth, c, D, A, nL0, Q⟩ := E
  obtain ⟨hx, hb, hml, hnl, hown, hts, hK, hD, hR, hr, hlocks, hQ⟩ := g
  subst hQ; subst ho
  exact fun H locs ls hP hS hl => W.lret hx hb (hr.trans hr0) (fun t ht hW => ⟨⟨rfl, by rw [ht]; exact hP⟩, hS.F ht⟩) hS.2.2 d hlocks
theorem x_aret (g : XG E wd cy cc own nL lvl ret out) {σ : S} {v : Value} {nm : String} (hr0 : ret = some (.object nm)) (hv : v = .null ∨ ∃ a, v = .ref a) (ho : out = (σ, some v)) (d : decode cc pc = .ok (.areturn, 1)) : XJ E (wd σ) pc lv [v] := by
  obtain ⟨p, l, e, R, s, m, args, below, meth, c, D, A, nL0, Q⟩ := E
  obtain ⟨hx, hb, hml, hnl, hown, hts, hK, hD, hR, hr, hlocks, hQ⟩ := g
  subst hQ; subst ho
  exact fun H locs ls hP hS hl => W.aret hx hb (hr.trans hr0) (Or.inl ⟨nm, rfl⟩) hv (fun t ht hW => ⟨⟨rfl, by rw [ht]; exact hP⟩, hS.F ht⟩) hS.2.2 d hlocks
theorem x_vret (g : XG E wd cy cc own nL lvl ret out) {σ : S} (hr0 : ret = none) (ho : out = (σ, none)) (d : decode cc pc = .ok (.return_, 1)) : XJ E (wd σ) pc lv [] := by
  obtain ⟨p, l, e, R, s, m, args, below, meth, c, D, A, nL0, Q⟩ := E
  obtain ⟨hx, hb, hml, hnl, hown, hts, hK, hD, hR, hr, hlocks, hQ⟩ := g
  subst hQ; subst ho
  exact fun H locs ls hP hS hl => W.vret hx hb (hr.trans hr0) (fun t ht hW => ⟨⟨rfl, by rw [ht]; exact hP⟩, hS.F ht⟩) hS.2.2 d hlocks

theorem x_run {l : Launch} {D : va_G} {A : Nat → Prop} (g : XG E wd cy cc own nL lvl ret out) (xl : XL E l D A) {σ σ2 : S} {v : Option Value} (rest st2 : List Value) (h2 : v.toList ++ rest = st2)
    (hr : ∀ p e R s m args below meth c nL0 Q, E = (p, l, e, R, s, m, args, below, meth, c, D, A, nL0, Q) → ∀ (H : Heap) (locs : List Loc) (ls : Array Slot), va_P D vwCl (wd σ) H → lv_has ls nL0 lv → ∃ av, va_Run p l e R s m args below meth c H locs 0 0 0 0 (F0 m pc ls st) rest (Qo wd D A (σ2, v) av) A)
    (kk : XJ E (wd σ2) (pc + 3) lv st2) : XJ E (wd σ) pc lv st := by
  obtain ⟨p, l0, e, R, s, m, args, below, meth, c, D0, A0, nL0, Q⟩ := E
  obtain ⟨rfl, rfl, rfl⟩ := xl
  subst h2
  intro H locs ls hP hS hl T hT X
  obtain ⟨av, hr⟩ := hr p e R s m args below meth c nL0 Q rfl H locs ls hP hl
  obtain ⟨v2, st₀, t, T2, L, h0, X2, hL, e1, e2, ⟨⟨hv, hb⟩, hz, hk⟩, stp⟩ := hr T hT X
  cases hv
  rw [h0] at hz hk
  obtain ⟨t2, a1, b1⟩ := kk T2.heap (locs ++ L) ls (by rw [e1]; exact hb)
    ⟨Nat.le_trans hS.1 (by rw [e1]; exact hz), fun q h1 h3 => by rw [e1, hk q (Nat.lt_of_lt_of_le h1 hS.1) h3]; exact hS.2.1 q h1 h3, fun q hq => by
      rcases List.mem_append.mp hq with h | h
      · exact hS.2.2 q h
      · exact hL q h⟩ hl T2 rfl X2
  exact ⟨t2, stp t2 a1, b1⟩
theorem x_blind {D : va_G} {av : List Value} {σ : S} : FrameBlind (va_Pc av (fun U => va_P D vwCl (wd σ) U.heap ∧ KK D cy U)) := fun a U g mk q => ⟨q.1, q.2.1, KK.same (s := U) (U := U.calling g mk a) rfl q.2.2⟩
theorem x_callV {l : Launch} {D : va_G} {A : Nat → Prop} (g : XG E wd cy cc own nL lvl ret out) (xl : XL E l D A) {y : MethodName} {bytes : ByteArray} {maxL np lvl2 i : Nat} {ret2 : Option FieldType} {σ σ2 : S} {v : Option Value} {b q0 ci : Nat} {fs : List Value} {r : vw_C} (As rest st2 : List Value)
    (hM : CT l wd D cy A y bytes maxL ret2 lvl2 (.ref b :: As) σ (σ2, v)) (mf : MF y bytes maxL ret2 np) (im : Cond.instanceMethod y ∈ TB) (se : Cond.selects r.1 y y ∈ TB) (ml : Cond.methodLink own i y ∈ TB) (hc : vwCl[ci]? = some r) (he : (wd σ)[q0]? = some (b, .inr (ci, fs)))
    (hlv : lvl2 < lvl) (hn2 : maxL ≤ 21) (hna : As.length = np) (hcat : (rest.map fun v => v.category).sum ≤ 8) (d : decode cc pc = .ok (.invokevirtual i, 3)) (hst : st = As.reverse ++ .ref b :: rest) (h2 : v.toList ++ rest = st2)
    (kk : XJ E (wd σ2) (pc + 3) lv st2) : XJ E (wd σ) pc lv st := by
  refine x_run g xl rest st2 h2 ?_ kk
  intro p e R s m args below meth c nL0 Q hE H locs ls hP hl
  subst hE
  obtain ⟨hx, hb, hml, hnl, hown, hts, hK, hD, hR, -⟩ := g
  subst hnl
  subst hR
  refine ⟨_, va_runV (As := As) (rest := rest) ⟨hx, hb, hml, hown, hts⟩ hM (n := np) ⟨callB_of np hts (goodU mf.1) rfl rfl rfl (hts _ mf.2.1) (hts _ ml) ⟨mf.2.2.1, mf.2.2.2.1, mf.2.2.2.2.1⟩ ⟨hlv, by show 8 + (maxL + 11) + 40 * lvl2 ≤ 40 * lvl; omega⟩, hts _ im, hts _ se⟩ ⟨x_blind, va_recv hK.1 hP hc he, fun U hU hW => ⟨rfl, by rw [hU]; exact hP, KK.warm hW hK⟩⟩ rfl hna hl.1 hst (by show 2 * 0 + _ ≤ 8; omega) d ⟨Nat.zero_le _, Nat.zero_le _⟩⟩
theorem x_callS {l : Launch} {D : va_G} {A : Nat → Prop} (g : XG E wd cy cc own nL lvl ret out) (xl : XL E l D A) {y : MethodName} {bytes : ByteArray} {maxL np lvl2 i : Nat} {ret2 : Option FieldType} {σ σ2 : S} {v : Option Value} (As rest st2 : List Value)
    (hM : CT l wd D cy A y bytes maxL ret2 lvl2 As σ (σ2, v)) (mf : MF y bytes maxL ret2 np) (sm : Cond.static y ∈ TB) (ml : Cond.methodLink own i y ∈ TB)
    (hlv : lvl2 < lvl) (hn2 : maxL ≤ 21) (hna : As.length = np) (hcat : (rest.map fun v => v.category).sum ≤ 8) (d : decode cc pc = .ok (.invokestatic i, 3)) (hst : st = As.reverse ++ rest) (h2 : v.toList ++ rest = st2)
    (kk : XJ E (wd σ2) (pc + 3) lv st2) : XJ E (wd σ) pc lv st := by
  refine x_run g xl rest st2 h2 ?_ kk
  intro p e R s m args below meth c nL0 Q hE H locs ls hP hl
  subst hE
  obtain ⟨hx, hb, hml, hnl, hown, hts, hK, hD, hR, -⟩ := g
  subst hnl
  subst hR
  refine ⟨_, va_runS (As := As) (rest := rest) ⟨hx, hb, hml, hown, hts⟩ hM (n := np) ⟨callB_of np hts (goodU mf.1) rfl rfl rfl (hts _ mf.2.1) (hts _ ml) ⟨mf.2.2.1, mf.2.2.2.1, mf.2.2.2.2.1⟩ ⟨hlv, by show 8 + (maxL + 11) + 40 * lvl2 ≤ 40 * lvl; omega⟩, hts _ sm⟩ ⟨x_blind, fun U hU hW => ⟨rfl, by rw [hU]; exact hP, KK.warm hW hK⟩⟩ rfl hna hl.1 hst (by show 2 * 0 + _ ≤ 8; omega) d ⟨Nat.zero_le _, Nat.zero_le _⟩⟩
theorem x_callN {l : Launch} {D : va_G} {A : Nat → Prop} (g : XG E wd cy cc own nL lvl ret out) (xl : XL E l D A) {y : MethodName} {host : String} {bytes : ByteArray} {maxL np lvl2 i : Nat} {ret2 : Option FieldType} {σ σ2 : S} {v : Option Value} (As rest st2 : List Value)
    (hM : CT l wd D cy A y bytes maxL ret2 lvl2 As σ (σ2, v)) (mf : MF y bytes maxL ret2 np) (sm : Cond.static y ∈ TB) (ml : Cond.methodLinkNest own i y host ∈ NW)
    (hlv : lvl2 < lvl) (hn2 : maxL ≤ 21) (hna : As.length = np) (hcat : (rest.map fun v => v.category).sum ≤ 8) (d : decode cc pc = .ok (.invokestatic i, 3)) (hst : st = As.reverse ++ rest) (h2 : v.toList ++ rest = st2)
    (kk : XJ E (wd σ2) (pc + 3) lv st2) : XJ E (wd σ) pc lv st := by
  refine x_run g xl rest st2 h2 ?_ kk
  intro p e R s m args below meth c nL0 Q hE H locs ls hP hl
  subst hE
  obtain ⟨hx, hb, hml, hnl, hown, hts, hK, hD, hR, -⟩ := g
  subst hnl
  subst hR
  refine ⟨_, va_runSN (As := As) (rest := rest) ⟨hx, hb, hml, hown, hts⟩ hM ⟨va_cnB np hts (goodU mf.1) rfl rfl rfl (hK.2 _ ml) (hts _ mf.2.1) ⟨mf.2.2.1, mf.2.2.2.1, mf.2.2.2.2.1⟩ ⟨hlv, by show 8 + (maxL + 11) + 40 * lvl2 ≤ 40 * lvl; omega⟩, hts _ sm, trivial⟩ ⟨x_blind, fun U hU hW => ⟨rfl, by rw [hU]; exact hP, KK.warm hW hK⟩⟩ rfl hna hl.1 hst (by show 2 * 0 + _ ≤ 8; omega) d ⟨Nat.zero_le _, Nat.zero_le _⟩⟩

end
