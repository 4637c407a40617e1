/-! the law's walk: its world is the class's beside the reference's -/
theorem wOf_len {n : Nat} {Ad : Nat → Nat} {f : Nat → va_E} : (wOf n Ad f).length = n := by simp [wOf]
theorem wOf_get {n : Nat} {Ad : Nat → Nat} {f : Nat → va_E} {k : Nat} {q : Nat × va_E} (h : (wOf n Ad f)[k]? = some q) : k < n ∧ q = (Ad k, f k) := by
  by_cases hi : k < n
  · rw [wOf_at k hi] at h
    exact ⟨hi, (Option.some.inj h).symm⟩
  · rw [List.getElem?_eq_none (by rw [wOf_len]; omega)] at h
    cases h
theorem va_D.fst {A : Nat → Prop} {w1 w2 : va_W} (e : w1.map Prod.fst = w2.map Prod.fst) (h : va_D A w1) : va_D A w2 := by
  have key : ∀ (i : Nat) (p : Nat × va_E), w2[i]? = some p → ∃ p0, w1[i]? = some p0 ∧ p0.1 = p.1 := by
    intro i p hp
    have h2 : (w2.map Prod.fst)[i]? = some p.1 := by rw [List.getElem?_map, hp]; rfl
    rw [← e, List.getElem?_map] at h2
    cases hw : w1[i]? with
    | none => rw [hw] at h2; cases h2
    | some p0 => rw [hw] at h2; exact ⟨p0, rfl, Option.some.inj h2⟩
  refine ⟨fun i j p q hp hq ee => ?_, fun k q hk => ?_⟩
  · obtain ⟨p0, a1, a2⟩ := key i p hp
    obtain ⟨q0, b1, b2⟩ := key j q hq
    exact h.1 i j p0 q0 a1 b1 (by rw [a2, b2]; exact ee)
  · obtain ⟨q0, b1, b2⟩ := key k q hk
    rw [← b2]
    exact h.2 k q0 b1
theorem wOf_fst {n : Nat} {Ad : Nat → Nat} {f : Nat → va_E} : (wOf n Ad f).map Prod.fst = (List.range n).map Ad := by simp [wOf]
theorem z_left {D : va_G} {A : Nat → Prop} {n : Nat} {Ad : Nat → Nat} {f f2 : Nat → va_E} {w2 : va_W} {H H1 : Heap} (hP : va_P D vwCl (wOf n Ad f ++ w2) H) (hD : va_D A (wOf n Ad f ++ w2)) (hk : ∀ q, q < H.size → ¬ AdA n Ad q → H1[q]? = H[q]?) (hP1 : va_P D vwCl (wOf n Ad f2) H1) : va_P D vwCl (wOf n Ad f2 ++ w2) H1 ∧ va_D A (wOf n Ad f2 ++ w2) := by
  refine ⟨fun k q h => ?_, va_D.fst (by rw [List.map_append, List.map_append, wOf_fst, wOf_fst]) hD⟩
  by_cases hl : k < n
  · rw [List.getElem?_append_left (by rw [wOf_len]; exact hl)] at h
    exact hP1 k q h
  · rw [List.getElem?_append_right (by rw [wOf_len]; omega), wOf_len] at h
    have h2 : (wOf n Ad f ++ w2)[k]? = some q := by rw [List.getElem?_append_right (by rw [wOf_len]; omega), wOf_len]; exact h
    refine (hP k q h2).kept (hk q.1 (hP k q h2).lt ?_)
    rintro ⟨c, hc, e⟩
    have h3 : (wOf n Ad f ++ w2)[c]? = some (Ad c, f c) := by rw [List.getElem?_append_left (by rw [wOf_len]; exact hc)]; exact wOf_at c hc
    have := hD.1 k c q _ h2 h3 e
    omega
theorem z_right {D : va_G} {A : Nat → Prop} {n : Nat} {Ad : Nat → Nat} {f f2 : Nat → va_E} {w1 : va_W} {H H1 : Heap} (hP : va_P D vwCl (w1 ++ wOf n Ad f) H) (hD : va_D A (w1 ++ wOf n Ad f)) (hk : ∀ q, q < H.size → ¬ AdA n Ad q → H1[q]? = H[q]?) (hP1 : va_P D vwCl (wOf n Ad f2) H1) : va_P D vwCl (w1 ++ wOf n Ad f2) H1 ∧ va_D A (w1 ++ wOf n Ad f2) := by
  refine ⟨fun k q h => ?_, va_D.fst (by rw [List.map_append, List.map_append, wOf_fst, wOf_fst]) hD⟩
  by_cases hl : k < w1.length
  · rw [List.getElem?_append_left hl] at h
    have h2 : (w1 ++ wOf n Ad f)[k]? = some q := by rw [List.getElem?_append_left hl]; exact h
    refine (hP k q h2).kept (hk q.1 (hP k q h2).lt ?_)
    rintro ⟨c, hc, e⟩
    have h3 : (w1 ++ wOf n Ad f)[w1.length + c]? = some (Ad c, f c) := by rw [List.getElem?_append_right (by omega), Nat.add_sub_cancel_left]; exact wOf_at c hc
    have := hD.1 k _ q _ h2 h3 e
    omega
  · rw [List.getElem?_append_right (by omega)] at h
    exact hP1 _ q h
theorem va_P.left {D : va_G} {cl : List vw_C} {w1 w2 : va_W} {H : Heap} (h : va_P D cl (w1 ++ w2) H) : va_P D cl w1 H := fun k q hk => h k q (by rw [List.getElem?_append_left (List.getElem?_eq_some_iff.mp hk).1]; exact hk)
theorem va_P.right {D : va_G} {cl : List vw_C} {w1 w2 : va_W} {H : Heap} (h : va_P D cl (w1 ++ w2) H) : va_P D cl w2 H := fun k q hk => h (w1.length + k) q (by rw [List.getElem?_append_right (by omega), Nat.add_sub_cancel_left]; exact hk)
def YX (E : EV) (b L : Nat) (xs : Nat → Int32) : Prop := match E with
  | (_, _, _, _, s, _, _, _, _, _, _, A, _, _) => va_X b L xs s s.heap ∧ b < s.heap.size ∧ ¬ A b
def YZ (E : EV) (b : Nat) : Prop := match E with
  | (_, _, _, R, s, _, args, below, meth, _, _, A, _, Q) => R = room_1 ∧ args = #[Value.ref b] ∧ meth.sig.returnType = ret ∧ meth.locks = false ∧ Q = lw_Z below #[Value.ref b] s ∧ A = fun q : Nat => s.heap.size ≤ q
section
variable {E : EV} {cy : Nat → ClassId} {cc : ByteArray} {own : String} {nL : Nat} {Rm : Room} {ws : va_W} {mc ms pc : Nat} {lv : List (Nat × Value)} {st : List Value}
theorem y_iadd (g : YG E cy cc own nL Rm) {x y : Int32} (d : decode cc pc = .ok (.iadd, 1)) (k : XA E ws mc ms (pc + 1) lv (.int (x + y) :: st)) : XA E ws mc ms pc lv (.int y :: .int x :: st) := by
  obtain ⟨p, l, e, R, s, m, args, below, meth, c, D, A, nL0, Q⟩ := E
  exact fun H locs ls hP hD hS hl => lv_iadd g.1 g.2.1 d (k H locs ls hP hD hS hl)
theorem y_isub (g : YG E cy cc own nL Rm) {x y : Int32} (d : decode cc pc = .ok (.isub, 1)) (k : XA E ws mc ms (pc + 1) lv (.int (x - y) :: st)) : XA E ws mc ms pc lv (.int y :: .int x :: st) := by
  obtain ⟨p, l, e, R, s, m, args, below, meth, c, D, A, nL0, Q⟩ := E
  exact fun H locs ls hP hD hS hl => lv_isub g.1 g.2.1 d (k H locs ls hP hD hS hl)
theorem y_iand (g : YG E cy cc own nL Rm) {x y : Int32} (d : decode cc pc = .ok (.iand, 1)) (k : XA E ws mc ms (pc + 1) lv (.int (x &&& y) :: st)) : XA E ws mc ms pc lv (.int y :: .int x :: st) := by
  obtain ⟨p, l, e, R, s, m, args, below, meth, c, D, A, nL0, Q⟩ := E
  exact fun H locs ls hP hD hS hl => lv_iand g.1 g.2.1 d (k H locs ls hP hD hS hl)
theorem y_lcmp (g : YG E cy cc own nL Rm) {x y : Int64} (d : decode cc pc = .ok (.lcmp, 1)) (k : XA E ws mc ms (pc + 1) lv (.int (lg_cmp x y) :: st)) : XA E ws mc ms pc lv (.long y :: .long x :: st) := by
  obtain ⟨p, l, e, R, s, m, args, below, meth, c, D, A, nL0, Q⟩ := E
  exact fun H locs ls hP hD hS hl => W.lcmp g.1 g.2.1 d (k H locs ls hP hD hS hl)
theorem y_icmp_eq_t (g : YG E cy cc own nL Rm) {x y : Int32} {off : Int} (tgt : Nat) (d : decode cc pc = .ok (.if_icmp .eq off, 3)) (ht : (pc : Int) + off = (tgt : Int)) (h : x = y) (k : XA E ws mc ms tgt lv st) : XA E ws mc ms pc lv (.int y :: .int x :: st) := by
  obtain ⟨p, l, e, R, s, m, args, below, meth, c, D, A, nL0, Q⟩ := E
  exact fun H locs ls hP hD hS hl => lv_icmp_eq g.1 g.2.1 d ht (fun _ => k H locs ls hP hD hS hl) (fun j => absurd h j)
theorem y_icmp_gt (g : YG E cy cc own nL Rm) {x y : Int32} {off : Int} (tgt : Nat) (d : decode cc pc = .ok (.if_icmp .gt off, 3)) (ht : (pc : Int) + off = (tgt : Int)) (k1 : y < x → XA E ws mc ms tgt lv st) (k2 : ¬ y < x → XA E ws mc ms (pc + 3) lv st) : XA E ws mc ms pc lv (.int y :: .int x :: st) := by
  obtain ⟨p, l, e, R, s, m, args, below, meth, c, D, A, nL0, Q⟩ := E
  exact fun H locs ls hP hD hS hl => lv_icmp_gt g.1 g.2.1 d ht (fun j => k1 j H locs ls hP hD hS hl) (fun j => k2 j H locs ls hP hD hS hl)
theorem y_if_eq_t (g : YG E cy cc own nL Rm) {x : Int32} {off : Int} (tgt : Nat) (d : decode cc pc = .ok (.ifCond .eq off, 3)) (ht : (pc : Int) + off = (tgt : Int)) (h : x = 0) (k : XA E ws mc ms tgt lv st) : XA E ws mc ms pc lv (.int x :: st) := by
  obtain ⟨p, l, e, R, s, m, args, below, meth, c, D, A, nL0, Q⟩ := E
  exact fun H locs ls hP hD hS hl => lv_if_eq g.1 g.2.1 d ht (fun _ => k H locs ls hP hD hS hl) (fun j => absurd h j)
theorem y_if_eq_f (g : YG E cy cc own nL Rm) {x : Int32} {off : Int} (tgt : Nat) (d : decode cc pc = .ok (.ifCond .eq off, 3)) (ht : (pc : Int) + off = (tgt : Int)) (h : ¬ x = 0) (k : XA E ws mc ms (pc + 3) lv st) : XA E ws mc ms pc lv (.int x :: st) := by
  obtain ⟨p, l, e, R, s, m, args, below, meth, c, D, A, nL0, Q⟩ := E
  exact fun H locs ls hP hD hS hl => lv_if_eq g.1 g.2.1 d ht (fun j => absurd j h) (fun _ => k H locs ls hP hD hS hl)
theorem y_tin (g : YG E cy cc own nL Rm) {x : Int32} {dflt lo hi : Int} {offs : Array Int} {len : Nat} (v : Int32) (off : Int) (tgt : Nat) (d : decode cc pc = .ok (.tableswitch dflt lo hi offs, len)) (hx : x = v) (h1 : ¬ v.toInt < lo ∧ ¬ hi < v.toInt ∧ offs[(v.toInt - lo).toNat]? = some off ∧ (pc : Int) + off = (tgt : Int)) (k : XA E ws mc ms tgt lv st) : XA E ws mc ms pc lv (.int x :: st) := by
  obtain ⟨p, l, e, R, s, m, args, below, meth, c, D, A, nL0, Q⟩ := E
  subst hx
  exact fun H locs ls hP hD hS hl => lv_tableIn g.1 g.2.1 d h1.1 h1.2.1 h1.2.2.1 h1.2.2.2 (k H locs ls hP hD hS hl)
theorem y_tout (g : YG E cy cc own nL Rm) {x : Int32} {dflt lo hi : Int} {offs : Array Int} {len : Nat} (tgt : Nat) (d : decode cc pc = .ok (.tableswitch dflt lo hi offs, len)) (h : x.toInt < lo ∨ hi < x.toInt) (ht : (pc : Int) + dflt = (tgt : Int)) (k : XA E ws mc ms tgt lv st) : XA E ws mc ms pc lv (.int x :: st) := by
  obtain ⟨p, l, e, R, s, m, args, below, meth, c, D, A, nL0, Q⟩ := E
  exact fun H locs ls hP hD hS hl => lv_tableOut g.1 g.2.1 d h ht (k H locs ls hP hD hS hl)
theorem y_sld (g : YG E cy cc own nL Rm) {b L : Nat} {xs : Nat → Int32} (yx : YX E b L xs) {i : Int32} (hin : vp_in i L) (d : decode cc pc = .ok (.iaload, 1)) (k : XA E ws mc ms (pc + 1) lv (.int (xs i.toNatClampNeg) :: st)) : XA E ws mc ms pc lv (.int i :: .ref b :: st) := by
  obtain ⟨p, l, e, R, s, m, args, below, meth, c, D, A, nL0, Q⟩ := E
  exact fun H locs ls hP hD hS hl => va_sld g.1 g.2.1 yx.1 yx.2.1 yx.2.2 hS hin d (k H locs ls hP hD hS hl)
theorem y_slen (g : YG E cy cc own nL Rm) {b L : Nat} {xs : Nat → Int32} (yx : YX E b L xs) (d : decode cc pc = .ok (.arraylength, 1)) (k : XA E ws mc ms (pc + 1) lv (.int (Int32.ofNat L) :: st)) : XA E ws mc ms pc lv (.ref b :: st) := by
  obtain ⟨p, l, e, R, s, m, args, below, meth, c, D, A, nL0, Q⟩ := E
  exact fun H locs ls hP hD hS hl => va_slen g.1 g.2.1 yx.1 yx.2.1 yx.2.2 hS d (k H locs ls hP hD hS hl)
theorem y_lret (g : YG E cy code own nL Rm) {b : Nat} (yz : YZ E b) (h1 : mc ≤ 600000) (h2 : ms ≤ 7302250) (d : decode code pc = .ok (.ireturn, 1)) : XA E ws mc ms pc lv [.int 1] := by
  obtain ⟨p, l, e, R, s, m, args, below, meth, c, D, A, nL0, Q⟩ := E
  obtain ⟨rfl, rfl, hr, hlocks, rfl, rfl⟩ := yz
  exact fun H locs ls hP hD hS hl => va_forget (fun q hq => hS.2.2 q hq) (W.widen (k := 600000) (n := 7302250) h1 h2 (lw_ret g.1 g.2.1 hr hlocks d))
theorem z_run {l : Launch} {D : va_G} {n : Nat} {Ad : Nat → Nat} {w1 w2 : va_W} {rest st2 : List Value} {v : Option Value} (yl : YL E l D) (h2 : v.toList ++ rest = st2)
    (hA : ∀ p e R s m args below meth c A nL0 Q, E = (p, l, e, R, s, m, args, below, meth, c, D, A, nL0, Q) → va_D A w1 → ∀ q, AdA n Ad q → A q)
    (wdo : va_W) (hw : ∀ p e R s m args below meth c A nL0 Q, E = (p, l, e, R, s, m, args, below, meth, c, D, A, nL0, Q) → ∀ H H1, va_P D vwCl w1 H → va_D A w1 → (∀ q, q < H.size → ¬ AdA n Ad q → H1[q]? = H[q]?) → va_P D vwCl wdo H1 → va_P D vwCl w2 H1 ∧ va_D A w2)
    (hr : ∀ p e R s m args below meth c A nL0 Q, E = (p, l, e, R, s, m, args, below, meth, c, D, A, nL0, Q) → ∀ (H : Heap) (locs : List Loc) (ls : Array Slot), va_P D vwCl w1 H → lv_has ls nL0 lv → va_Run p l e R s m args below meth c H locs mc ms 0 0 (F0 m pc ls st) rest (fun st oc t => (oc = .returned v ∧ va_P D vwCl wdo t.heap) ∧ va_F (AdA n Ad) st t) (AdA n Ad))
    (kk : XA E w2 mc ms (pc + 3) lv st2) : XA E w1 mc ms pc lv st := by
  obtain ⟨p, l0, e, R, s, m, args, below, meth, c, D0, A, nL0, Q⟩ := E
  obtain ⟨rfl, rfl⟩ := yl
  subst h2
  intro H locs ls hP hD hS hl T hT X
  have hr := hr p e R s m args below meth c A nL0 Q rfl H locs ls hP hl
  have hsub := hA p e R s m args below meth c A nL0 Q rfl hD
  obtain ⟨v2, st₀, t, T2, L, h0, X2, hL, e1, e2, ⟨⟨hv, hb⟩, hz, hk⟩, stp⟩ := hr T hT X
  cases hv
  rw [h0] at hz hk
  obtain ⟨hP2, hD2⟩ := hw p e R s m args below meth c A nL0 Q rfl H t.heap hP hD hk hb
  obtain ⟨t2, a1, b1⟩ := kk T2.heap (locs ++ L) ls (by rw [e1]; exact hP2) hD2
    ⟨Nat.le_trans hS.1 (by rw [e1]; exact hz), fun q h1 h3 => by rw [e1, hk q (Nat.lt_of_lt_of_le h1 hS.1) (fun z => h3 (hsub q z))]; exact hS.2.1 q h1 h3, fun q hq => by
      rcases List.mem_append.mp hq with h | h
      · exact hS.2.2 q h
      · exact hsub _ (hL q h)⟩ hl T2 rfl X2
  exact ⟨t2, stp t2 a1, b1⟩
theorem z_callX (g : YG E cy cc own nL Rm) {l : Launch} {D : va_G} (yl : YL E l D) {Ax Am : Nat → Nat} {σ σ2 μ : St} {y : MethodName} {bytes : ByteArray} {maxL np lvl2 i : Nat} {ret2 : Option FieldType} {v : Option Value} (As rest st2 : List Value)
    (hM : CT l (wX cy Ax) D cy (AdA 58 Ax) y bytes maxL ret2 lvl2 (.ref (Ax 0) :: As) σ (σ2, v)) (mf : MF y bytes maxL ret2 np) (im : Cond.instanceMethod y ∈ TB) (se : Cond.selects RX11 y y ∈ TB) (ml : Cond.methodLink own i y ∈ TB)
    (hfr : lvl2 + 1 ≤ Rm.frames) (hlo : 8 + (maxL + 11) + 40 * lvl2 ≤ Rm.locals) (hce : mc ≤ Rm.cells) (hsl : ms ≤ Rm.slots) (hna : As.length = np) (hcat : (rest.map fun v => v.category).sum ≤ 8) (d : decode cc pc = .ok (.invokevirtual i, 3)) (hst : st = As.reverse ++ .ref (Ax 0) :: rest) (h2 : v.toList ++ rest = st2)
    (kk : XA E (wX cy Ax σ2 ++ wM cy Am μ) mc ms (pc + 3) lv st2) : XA E (wX cy Ax σ ++ wM cy Am μ) mc ms pc lv st := by
  refine z_run (n := 58) (Ad := Ax) yl h2 ?_ (wX cy Ax σ2) ?_ ?_ kk
  · rintro p e R s m args below meth c A nL0 Q rfl hD q ⟨c, hc, rfl⟩
    exact hD.2 c (Ax c, _) (by rw [List.getElem?_append_left (by show c < (wOf _ _ _).length; rw [wOf_len]; exact hc)]; exact wOf_at c hc)
  · rintro p e R s m args below meth c A nL0 Q rfl H H1 hP hD hk hP1
    exact z_left hP hD hk hP1
  · rintro p e R s m args below meth c A nL0 Q rfl H locs ls hP hl
    obtain ⟨hx, hb, hml, hnl, hown, hts, hK, hR, hA⟩ := g
    subst hnl
    subst hR
    exact va_runV (As := As) (rest := rest) ⟨hx, hb, hml, hown, hts⟩ hM (n := np) ⟨callB_of np hts (goodU mf.1) rfl rfl rfl (hts _ mf.2.1) (hts _ ml) ⟨mf.2.2.1, mf.2.2.2.1, mf.2.2.2.2.1⟩ ⟨hfr, hlo⟩, hts _ im, hts _ se⟩ ⟨x_blind, va_recv (ci := 10) hK.1.1 (va_P.left hP) rfl wx_0, fun U hU hW => ⟨rfl, by rw [hU]; exact va_P.left hP, KK.warm hW hK.1⟩⟩ rfl hna hl.1 hst (by show 2 * 0 + _ ≤ 8; omega) d ⟨hce, hsl⟩
theorem z_callM (g : YG E cy cc own nL Rm) {l : Launch} {D : va_G} (yl : YL E l D) {Ax Am : Nat → Nat} {σ μ μ2 : St} {y : MethodName} {bytes : ByteArray} {maxL np lvl2 i : Nat} {ret2 : Option FieldType} {v : Option Value} (As rest st2 : List Value)
    (hM : CT l (wM cy Am) D cy (AdA 37 Am) y bytes maxL ret2 lvl2 (.ref (Am 0) :: As) μ (μ2, v)) (mf : MF y bytes maxL ret2 np) (im : Cond.instanceMethod y ∈ TB) (se : Cond.selects RX12 y y ∈ TB) (ml : Cond.methodLink own i y ∈ TB)
    (hfr : lvl2 + 1 ≤ Rm.frames) (hlo : 8 + (maxL + 11) + 40 * lvl2 ≤ Rm.locals) (hce : mc ≤ Rm.cells) (hsl : ms ≤ Rm.slots) (hna : As.length = np) (hcat : (rest.map fun v => v.category).sum ≤ 8) (d : decode cc pc = .ok (.invokevirtual i, 3)) (hst : st = As.reverse ++ .ref (Am 0) :: rest) (h2 : v.toList ++ rest = st2)
    (kk : XA E (wX cy Ax σ ++ wM cy Am μ2) mc ms (pc + 3) lv st2) : XA E (wX cy Ax σ ++ wM cy Am μ) mc ms pc lv st := by
  refine z_run (n := 37) (Ad := Am) yl h2 ?_ (wM cy Am μ2) ?_ ?_ kk
  · rintro p e R s m args below meth c A nL0 Q rfl hD q ⟨c, hc, rfl⟩
    exact hD.2 ((wX cy Ax σ).length + c) (Am c, _) (by rw [List.getElem?_append_right (by omega), Nat.add_sub_cancel_left]; exact wOf_at c hc)
  · rintro p e R s m args below meth c A nL0 Q rfl H H1 hP hD hk hP1
    exact z_right hP hD hk hP1
  · rintro p e R s m args below meth c A nL0 Q rfl H locs ls hP hl
    obtain ⟨hx, hb, hml, hnl, hown, hts, hK, hR, hA⟩ := g
    subst hnl
    subst hR
    exact va_runV (As := As) (rest := rest) ⟨hx, hb, hml, hown, hts⟩ hM (n := np) ⟨callB_of np hts (goodU mf.1) rfl rfl rfl (hts _ mf.2.1) (hts _ ml) ⟨mf.2.2.1, mf.2.2.2.1, mf.2.2.2.2.1⟩ ⟨hfr, hlo⟩, hts _ im, hts _ se⟩ ⟨x_blind, va_recv (ci := 11) hK.1.1 (va_P.right hP) rfl wm_0, fun U hU hW => ⟨rfl, by rw [hU]; exact va_P.right hP, KK.warm hW hK.1⟩⟩ rfl hna hl.1 hst (by show 2 * 0 + _ ≤ 8; omega) d ⟨hce, hsl⟩
end
