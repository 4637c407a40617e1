/-! the start: the two new objects, their worlds, the state of each -/
def s0X : St := (fun k i j => if k = 11 then eN 54 j else if k = 2 ∧ j = 0 then Int32.ofNat i else 0, fun j => j, fun _ => 0)
def s0M : St := (fun _ _ _ => 0, fun j => j, fun _ => 0)
theorem arrV_cong {cA : ClassId} {n : Nat} {f g : Nat → Value} (h : ∀ j, j < n → f j = g j) : arrV cA n f = arrV cA n g := by
  unfold arrV
  congr 2
  funext j
  exact h j.val j.isLt
theorem va_atq {D : va_G} {cl : List vw_C} {a : Nat} {cA : ClassId} {n : Nat} {f g : Nat → Option Nat} {H : Heap} (h : ∀ j, j < n → f j = g j) (ha : va_at D cl (a, .inl (cA, n, .inr (.inr (.inr (.inr f))))) H) : va_at D cl (a, .inl (cA, n, .inr (.inr (.inr (.inr g))))) H := by
  have e : vp_cell cA (n, .inr (.inr (.inr (.inr f)))) = vp_cell cA (n, .inr (.inr (.inr (.inr g)))) := by
    rw [vp_cell_q, vp_cell_q]
    exact arrV_cong (fun j hj => by rw [h j hj])
  show H[a]? = some (vp_cell cA (n, .inr (.inr (.inr (.inr g)))))
  rw [← e]
  exact ha
def AxOf (l : List Nat) : Nat → Nat := fun k => l.getD k 0
theorem y_world {E : EV} {ws ws2 : va_W} {mc ms pc : Nat} {lv : List (Nat × Value)} {st : List Value} (h1 : ∀ D H, va_P D vwCl ws H → va_P D vwCl ws2 H) (h2 : ∀ A, va_D A ws → va_D A ws2) (k : XA E ws2 mc ms pc lv st) : XA E ws mc ms pc lv st := by
  obtain ⟨p, l, e, R, s, m, args, below, meth, c, D, A, nL0, Q⟩ := E
  exact fun H locs ls hP hD hS hl => k H locs ls (h1 D H hP) (h2 A hD) hS hl
def c0X (cy : Nat → ClassId) (a0 a1 a2 a3 a4 a5 a6 a7 a8 a9 a10 a11 a12 a13 a14 a15 a16 a17 a18 a19 a20 a21 a22 a23 a24 a25 a26 a27 a28 a29 a30 a31 a32 a33 a34 a35 a36 a37 a38 a39 a40 a41 a42 a43 a44 a45 a46 a47 a48 a49 a50 a51 a52 a53 a54 a55 a56 a57 : Nat) : va_W := [(a0, .inr (10, [.ref a1, .ref a6, .ref a12, .ref a38, .ref a41, .ref a57, .int 0])), (a1, .inr (5, [.int 0, .int 0, .int 0, .int 0, .int 0, .ref a2, .ref a3, .ref a5, .int 0])), (a2, .inl (cy 0, 30, .inl z0)), (a3, .inr (4, [.int 0, .int 0, .ref a4])), (a4, .inl (cy 0, 54, .inl (eN 54))), (a5, .inl (cy 1, 54, .inl z0)), (a6, .inr (1, [.ref a7, .int 0, .int 0, .ref a9, .ref a10, .ref a11])), (a7, .inr (4, [.int 0, .int 0, .ref a8])), (a8, .inl (cy 0, 54, .inl (eN 54))), (a9, .inl (cy 1, 54, .inl z0)), (a10, .inl (cy 0, 54, .inl z0)), (a11, .inl (cy 0, 540, .inl z0)), (a12, .inr (3, [.ref a13])), (a13, .inl (cy 2, 8, .inr (.inr (.inr (.inr (va_up (va_up (va_up (va_up (va_up (va_up (va_up (va_up (fun _ => none) 0 (some a14)) 1 (some a17)) 2 (some a20)) 3 (some a23)) 4 (some a26)) 5 (some a29)) 6 (some a32)) 7 (some a35))))))), (a14, .inr (2, [.int 0, .int 0, .int 0, .int 0, .int 0, .int 0, .int 0, .int 0, .int 0, .int 0, .int 0, .int 0, .int 0, .int 0, .int 0, .int 0, .ref a15, .ref a16])), (a15, .inl (cy 0, 8, .inl z0)), (a16, .inl (cy 0, 8, .inl z0)), (a17, .inr (2, [.int 1, .int 0, .int 0, .int 0, .int 0, .int 0, .int 0, .int 0, .int 0, .int 0, .int 0, .int 0, .int 0, .int 0, .int 0, .int 0, .ref a18, .ref a19])), (a18, .inl (cy 0, 8, .inl z0)), (a19, .inl (cy 0, 8, .inl z0)), (a20, .inr (2, [.int 2, .int 0, .int 0, .int 0, .int 0, .int 0, .int 0, .int 0, .int 0, .int 0, .int 0, .int 0, .int 0, .int 0, .int 0, .int 0, .ref a21, .ref a22])), (a21, .inl (cy 0, 8, .inl z0)), (a22, .inl (cy 0, 8, .inl z0)), (a23, .inr (2, [.int 3, .int 0, .int 0, .int 0, .int 0, .int 0, .int 0, .int 0, .int 0, .int 0, .int 0, .int 0, .int 0, .int 0, .int 0, .int 0, .ref a24, .ref a25])), (a24, .inl (cy 0, 8, .inl z0)), (a25, .inl (cy 0, 8, .inl z0)), (a26, .inr (2, [.int 4, .int 0, .int 0, .int 0, .int 0, .int 0, .int 0, .int 0, .int 0, .int 0, .int 0, .int 0, .int 0, .int 0, .int 0, .int 0, .ref a27, .ref a28])), (a27, .inl (cy 0, 8, .inl z0)), (a28, .inl (cy 0, 8, .inl z0)), (a29, .inr (2, [.int 5, .int 0, .int 0, .int 0, .int 0, .int 0, .int 0, .int 0, .int 0, .int 0, .int 0, .int 0, .int 0, .int 0, .int 0, .int 0, .ref a30, .ref a31])), (a30, .inl (cy 0, 8, .inl z0)), (a31, .inl (cy 0, 8, .inl z0)), (a32, .inr (2, [.int 6, .int 0, .int 0, .int 0, .int 0, .int 0, .int 0, .int 0, .int 0, .int 0, .int 0, .int 0, .int 0, .int 0, .int 0, .int 0, .ref a33, .ref a34])), (a33, .inl (cy 0, 8, .inl z0)), (a34, .inl (cy 0, 8, .inl z0)), (a35, .inr (2, [.int 7, .int 0, .int 0, .int 0, .int 0, .int 0, .int 0, .int 0, .int 0, .int 0, .int 0, .int 0, .int 0, .int 0, .int 0, .int 0, .ref a36, .ref a37])), (a36, .inl (cy 0, 8, .inl z0)), (a37, .inl (cy 0, 8, .inl z0)), (a38, .inr (6, [.ref a6, .ref a39, .ref a40, .int 0, .int 0, .int 0, .int 0, .int 0, .int 0])), (a39, .inl (cy 0, 6, .inl z0)), (a40, .inl (cy 1, 9, .inl z0)), (a41, .inr (8, [.int 0, .ref a6, .ref a42, .ref a43, .ref a44, .int 0])), (a42, .inl (cy 3, 12, .inr (.inr (.inr (.inr (va_up (va_up (va_up (va_up (va_up (va_up (va_up (va_up (va_up (va_up (va_up (va_up (fun _ => none) 0 (some a45)) 1 (some a46)) 2 (some a47)) 3 (some a48)) 4 (some a49)) 5 (some a50)) 6 (some a51)) 7 (some a52)) 8 (some a53)) 9 (some a54)) 10 (some a55)) 11 (some a56))))))), (a43, .inr (0, [.int 0, .int 0, .int 0])), (a44, .inr (0, [.int 0, .int 0, .int 0])), (a45, .inr (7, [.int 0, .int 0, .int 0, .int 0, .int 0, .int 0, .int 0])), (a46, .inr (7, [.int 0, .int 0, .int 0, .int 0, .int 0, .int 0, .int 0])), (a47, .inr (7, [.int 0, .int 0, .int 0, .int 0, .int 0, .int 0, .int 0])), (a48, .inr (7, [.int 0, .int 0, .int 0, .int 0, .int 0, .int 0, .int 0])), (a49, .inr (7, [.int 0, .int 0, .int 0, .int 0, .int 0, .int 0, .int 0])), (a50, .inr (7, [.int 0, .int 0, .int 0, .int 0, .int 0, .int 0, .int 0])), (a51, .inr (7, [.int 0, .int 0, .int 0, .int 0, .int 0, .int 0, .int 0])), (a52, .inr (7, [.int 0, .int 0, .int 0, .int 0, .int 0, .int 0, .int 0])), (a53, .inr (7, [.int 0, .int 0, .int 0, .int 0, .int 0, .int 0, .int 0])), (a54, .inr (7, [.int 0, .int 0, .int 0, .int 0, .int 0, .int 0, .int 0])), (a55, .inr (7, [.int 0, .int 0, .int 0, .int 0, .int 0, .int 0, .int 0])), (a56, .inr (7, [.int 0, .int 0, .int 0, .int 0, .int 0, .int 0, .int 0])), (a57, .inr (9, [.ref a6, .ref a12, .ref a41]))]
def c0M (cy : Nat → ClassId) (m0 m1 m2 m3 m4 m5 m6 m7 m8 m9 m10 m11 m12 m13 m14 m15 m16 m17 m18 m19 m20 m21 m22 m23 m24 m25 m26 m27 m28 m29 m30 m31 m32 m33 m34 m35 m36 : Nat) : va_W := [(m0, .inr (11, [.int 0, .int 0, .int 0, .int 0, .int 0, .ref m1, .ref m2, .int 0, .ref m3, .ref m4, .ref m5, .ref m6, .ref m7, .ref m8, .ref m9, .ref m10, .ref m11, .ref m12, .ref m13, .ref m14, .ref m15, .ref m16, .ref m17, .ref m18, .ref m19, .int 0, .ref m20, .ref m21, .ref m22, .ref m23, .int 0, .ref m24, .ref m25, .ref m26, .ref m27, .ref m28, .ref m29, .ref m30, .ref m31, .int 0, .int 0, .int 0, .int 0, .int 0, .ref m32, .int 0, .ref m33, .ref m34, .ref m35, .ref m36, .int 0, .long 0, .long 0])), (m1, .inl (cy 1, 54, .inl z0)), (m2, .inl (cy 0, 54, .inl z0)), (m3, .inl (cy 0, 30, .inl z0)), (m4, .inl (cy 1, 8, .inl z0)), (m5, .inl (cy 0, 8, .inl z0)), (m6, .inl (cy 0, 8, .inl z0)), (m7, .inl (cy 0, 8, .inl z0)), (m8, .inl (cy 0, 8, .inl z0)), (m9, .inl (cy 0, 8, .inl z0)), (m10, .inl (cy 0, 8, .inl z0)), (m11, .inl (cy 0, 64, .inl z0)), (m12, .inl (cy 0, 8, .inl z0)), (m13, .inl (cy 0, 8, .inl z0)), (m14, .inl (cy 0, 8, .inl z0)), (m15, .inl (cy 0, 8, .inl z0)), (m16, .inl (cy 0, 8, .inl z0)), (m17, .inl (cy 0, 8, .inl z0)), (m18, .inl (cy 0, 8, .inl z0)), (m19, .inl (cy 0, 8, .inl z0)), (m20, .inl (cy 0, 96, .inl z0)), (m21, .inl (cy 0, 96, .inl z0)), (m22, .inl (cy 0, 96, .inl z0)), (m23, .inl (cy 0, 96, .inl z0)), (m24, .inl (cy 0, 12, .inl z0)), (m25, .inl (cy 0, 12, .inl z0)), (m26, .inl (cy 1, 12, .inl z0)), (m27, .inl (cy 0, 12, .inl z0)), (m28, .inl (cy 0, 12, .inl z0)), (m29, .inl (cy 0, 2, .inl z0)), (m30, .inl (cy 0, 2, .inl z0)), (m31, .inl (cy 0, 2, .inl z0)), (m32, .inl (cy 1, 54, .inl z0)), (m33, .inl (cy 0, 8, .inl z0)), (m34, .inl (cy 1, 9, .inl z0)), (m35, .inl (cy 0, 12, .inl z0)), (m36, .inl (cy 1, 12, .inl z0))]
set_option maxHeartbeats 4000000 in
set_option maxRecDepth 100000 in
theorem c0X_P {cy : Nat → ClassId} {a0 a1 a2 a3 a4 a5 a6 a7 a8 a9 a10 a11 a12 a13 a14 a15 a16 a17 a18 a19 a20 a21 a22 a23 a24 a25 a26 a27 a28 a29 a30 a31 a32 a33 a34 a35 a36 a37 a38 a39 a40 a41 a42 a43 a44 a45 a46 a47 a48 a49 a50 a51 a52 a53 a54 a55 a56 a57 : Nat} {D : va_G} {H : Heap} (hP : va_P D vwCl (c0X cy a0 a1 a2 a3 a4 a5 a6 a7 a8 a9 a10 a11 a12 a13 a14 a15 a16 a17 a18 a19 a20 a21 a22 a23 a24 a25 a26 a27 a28 a29 a30 a31 a32 a33 a34 a35 a36 a37 a38 a39 a40 a41 a42 a43 a44 a45 a46 a47 a48 a49 a50 a51 a52 a53 a54 a55 a56 a57) H) : va_P D vwCl (wX cy (AxOf [a0, a1, a2, a3, a4, a5, a6, a7, a8, a9, a10, a11, a12, a13, a14, a15, a16, a17, a18, a19, a20, a21, a22, a23, a24, a25, a26, a27, a28, a29, a30, a31, a32, a33, a34, a35, a36, a37, a38, a39, a40, a41, a42, a43, a44, a45, a46, a47, a48, a49, a50, a51, a52, a53, a54, a55, a56, a57]) s0X) H := by
  intro k q hq
  obtain ⟨hk, rfl⟩ := wOf_get hq
  rcases (show k = 0 ∨ k = 1 ∨ k = 2 ∨ k = 3 ∨ k = 4 ∨ k = 5 ∨ k = 6 ∨ k = 7 ∨ k = 8 ∨ k = 9 ∨ k = 10 ∨ k = 11 ∨ k = 12 ∨ k = 13 ∨ k = 14 ∨ k = 15 ∨ k = 16 ∨ k = 17 ∨ k = 18 ∨ k = 19 ∨ k = 20 ∨ k = 21 ∨ k = 22 ∨ k = 23 ∨ k = 24 ∨ k = 25 ∨ k = 26 ∨ k = 27 ∨ k = 28 ∨ k = 29 ∨ k = 30 ∨ k = 31 ∨ k = 32 ∨ k = 33 ∨ k = 34 ∨ k = 35 ∨ k = 36 ∨ k = 37 ∨ k = 38 ∨ k = 39 ∨ k = 40 ∨ k = 41 ∨ k = 42 ∨ k = 43 ∨ k = 44 ∨ k = 45 ∨ k = 46 ∨ k = 47 ∨ k = 48 ∨ k = 49 ∨ k = 50 ∨ k = 51 ∨ k = 52 ∨ k = 53 ∨ k = 54 ∨ k = 55 ∨ k = 56 ∨ k = 57 by omega) with rfl | rfl | rfl | rfl | rfl | rfl | rfl | rfl | rfl | rfl | rfl | rfl | rfl | rfl | rfl | rfl | rfl | rfl | rfl | rfl | rfl | rfl | rfl | rfl | rfl | rfl | rfl | rfl | rfl | rfl | rfl | rfl | rfl | rfl | rfl | rfl | rfl | rfl | rfl | rfl | rfl | rfl | rfl | rfl | rfl | rfl | rfl | rfl | rfl | rfl | rfl | rfl | rfl | rfl | rfl | rfl | rfl | rfl
  · exact hP 0 _ rfl
  · exact hP 1 _ rfl
  · exact hP 2 _ rfl
  · exact hP 3 _ rfl
  · exact hP 4 _ rfl
  · exact hP 5 _ rfl
  · exact hP 6 _ rfl
  · exact hP 7 _ rfl
  · exact hP 8 _ rfl
  · exact hP 9 _ rfl
  · exact hP 10 _ rfl
  · exact hP 11 _ rfl
  · exact hP 12 _ rfl
  · refine va_atq (n := 8) (cA := cy 2) (g := fun j => some (AxOf [a0, a1, a2, a3, a4, a5, a6, a7, a8, a9, a10, a11, a12, a13, a14, a15, a16, a17, a18, a19, a20, a21, a22, a23, a24, a25, a26, a27, a28, a29, a30, a31, a32, a33, a34, a35, a36, a37, a38, a39, a40, a41, a42, a43, a44, a45, a46, a47, a48, a49, a50, a51, a52, a53, a54, a55, a56, a57] (14 + 3 * j))) (fun j hj => ?_) (hP 13 _ rfl)
    rcases (show j = 0 ∨ j = 1 ∨ j = 2 ∨ j = 3 ∨ j = 4 ∨ j = 5 ∨ j = 6 ∨ j = 7 by omega) with rfl | rfl | rfl | rfl | rfl | rfl | rfl | rfl <;> rfl
  · exact hP 14 _ rfl
  · exact hP 15 _ rfl
  · exact hP 16 _ rfl
  · exact hP 17 _ rfl
  · exact hP 18 _ rfl
  · exact hP 19 _ rfl
  · exact hP 20 _ rfl
  · exact hP 21 _ rfl
  · exact hP 22 _ rfl
  · exact hP 23 _ rfl
  · exact hP 24 _ rfl
  · exact hP 25 _ rfl
  · exact hP 26 _ rfl
  · exact hP 27 _ rfl
  · exact hP 28 _ rfl
  · exact hP 29 _ rfl
  · exact hP 30 _ rfl
  · exact hP 31 _ rfl
  · exact hP 32 _ rfl
  · exact hP 33 _ rfl
  · exact hP 34 _ rfl
  · exact hP 35 _ rfl
  · exact hP 36 _ rfl
  · exact hP 37 _ rfl
  · exact hP 38 _ rfl
  · exact hP 39 _ rfl
  · exact hP 40 _ rfl
  · exact hP 41 _ rfl
  · refine va_atq (n := 12) (cA := cy 3) (g := fun j => some (AxOf [a0, a1, a2, a3, a4, a5, a6, a7, a8, a9, a10, a11, a12, a13, a14, a15, a16, a17, a18, a19, a20, a21, a22, a23, a24, a25, a26, a27, a28, a29, a30, a31, a32, a33, a34, a35, a36, a37, a38, a39, a40, a41, a42, a43, a44, a45, a46, a47, a48, a49, a50, a51, a52, a53, a54, a55, a56, a57] (45 + s0X.2.1 j))) (fun j hj => ?_) (hP 42 _ rfl)
    rcases (show j = 0 ∨ j = 1 ∨ j = 2 ∨ j = 3 ∨ j = 4 ∨ j = 5 ∨ j = 6 ∨ j = 7 ∨ j = 8 ∨ j = 9 ∨ j = 10 ∨ j = 11 by omega) with rfl | rfl | rfl | rfl | rfl | rfl | rfl | rfl | rfl | rfl | rfl | rfl <;> rfl
  · exact hP 43 _ rfl
  · exact hP 44 _ rfl
  · exact hP 45 _ rfl
  · exact hP 46 _ rfl
  · exact hP 47 _ rfl
  · exact hP 48 _ rfl
  · exact hP 49 _ rfl
  · exact hP 50 _ rfl
  · exact hP 51 _ rfl
  · exact hP 52 _ rfl
  · exact hP 53 _ rfl
  · exact hP 54 _ rfl
  · exact hP 55 _ rfl
  · exact hP 56 _ rfl
  · exact hP 57 _ rfl
theorem c0X_F {cy : Nat → ClassId} {a0 a1 a2 a3 a4 a5 a6 a7 a8 a9 a10 a11 a12 a13 a14 a15 a16 a17 a18 a19 a20 a21 a22 a23 a24 a25 a26 a27 a28 a29 a30 a31 a32 a33 a34 a35 a36 a37 a38 a39 a40 a41 a42 a43 a44 a45 a46 a47 a48 a49 a50 a51 a52 a53 a54 a55 a56 a57 : Nat} : (c0X cy a0 a1 a2 a3 a4 a5 a6 a7 a8 a9 a10 a11 a12 a13 a14 a15 a16 a17 a18 a19 a20 a21 a22 a23 a24 a25 a26 a27 a28 a29 a30 a31 a32 a33 a34 a35 a36 a37 a38 a39 a40 a41 a42 a43 a44 a45 a46 a47 a48 a49 a50 a51 a52 a53 a54 a55 a56 a57).map Prod.fst = (wX cy (AxOf [a0, a1, a2, a3, a4, a5, a6, a7, a8, a9, a10, a11, a12, a13, a14, a15, a16, a17, a18, a19, a20, a21, a22, a23, a24, a25, a26, a27, a28, a29, a30, a31, a32, a33, a34, a35, a36, a37, a38, a39, a40, a41, a42, a43, a44, a45, a46, a47, a48, a49, a50, a51, a52, a53, a54, a55, a56, a57]) s0X).map Prod.fst := by
  unfold wX
  rw [wOf_fst]
  rfl
set_option maxHeartbeats 4000000 in
set_option maxRecDepth 100000 in
theorem c0M_P {cy : Nat → ClassId} {m0 m1 m2 m3 m4 m5 m6 m7 m8 m9 m10 m11 m12 m13 m14 m15 m16 m17 m18 m19 m20 m21 m22 m23 m24 m25 m26 m27 m28 m29 m30 m31 m32 m33 m34 m35 m36 : Nat} {D : va_G} {H : Heap} (hP : va_P D vwCl (c0M cy m0 m1 m2 m3 m4 m5 m6 m7 m8 m9 m10 m11 m12 m13 m14 m15 m16 m17 m18 m19 m20 m21 m22 m23 m24 m25 m26 m27 m28 m29 m30 m31 m32 m33 m34 m35 m36) H) : va_P D vwCl (wM cy (AxOf [m0, m1, m2, m3, m4, m5, m6, m7, m8, m9, m10, m11, m12, m13, m14, m15, m16, m17, m18, m19, m20, m21, m22, m23, m24, m25, m26, m27, m28, m29, m30, m31, m32, m33, m34, m35, m36]) s0M) H := by
  intro k q hq
  obtain ⟨hk, rfl⟩ := wOf_get hq
  rcases (show k = 0 ∨ k = 1 ∨ k = 2 ∨ k = 3 ∨ k = 4 ∨ k = 5 ∨ k = 6 ∨ k = 7 ∨ k = 8 ∨ k = 9 ∨ k = 10 ∨ k = 11 ∨ k = 12 ∨ k = 13 ∨ k = 14 ∨ k = 15 ∨ k = 16 ∨ k = 17 ∨ k = 18 ∨ k = 19 ∨ k = 20 ∨ k = 21 ∨ k = 22 ∨ k = 23 ∨ k = 24 ∨ k = 25 ∨ k = 26 ∨ k = 27 ∨ k = 28 ∨ k = 29 ∨ k = 30 ∨ k = 31 ∨ k = 32 ∨ k = 33 ∨ k = 34 ∨ k = 35 ∨ k = 36 by omega) with rfl | rfl | rfl | rfl | rfl | rfl | rfl | rfl | rfl | rfl | rfl | rfl | rfl | rfl | rfl | rfl | rfl | rfl | rfl | rfl | rfl | rfl | rfl | rfl | rfl | rfl | rfl | rfl | rfl | rfl | rfl | rfl | rfl | rfl | rfl | rfl | rfl
  · exact hP 0 _ rfl
  · exact hP 1 _ rfl
  · exact hP 2 _ rfl
  · exact hP 3 _ rfl
  · exact hP 4 _ rfl
  · exact hP 5 _ rfl
  · exact hP 6 _ rfl
  · exact hP 7 _ rfl
  · exact hP 8 _ rfl
  · exact hP 9 _ rfl
  · exact hP 10 _ rfl
  · exact hP 11 _ rfl
  · exact hP 12 _ rfl
  · exact hP 13 _ rfl
  · exact hP 14 _ rfl
  · exact hP 15 _ rfl
  · exact hP 16 _ rfl
  · exact hP 17 _ rfl
  · exact hP 18 _ rfl
  · exact hP 19 _ rfl
  · exact hP 20 _ rfl
  · exact hP 21 _ rfl
  · exact hP 22 _ rfl
  · exact hP 23 _ rfl
  · exact hP 24 _ rfl
  · exact hP 25 _ rfl
  · exact hP 26 _ rfl
  · exact hP 27 _ rfl
  · exact hP 28 _ rfl
  · exact hP 29 _ rfl
  · exact hP 30 _ rfl
  · exact hP 31 _ rfl
  · exact hP 32 _ rfl
  · exact hP 33 _ rfl
  · exact hP 34 _ rfl
  · exact hP 35 _ rfl
  · exact hP 36 _ rfl
theorem c0M_F {cy : Nat → ClassId} {m0 m1 m2 m3 m4 m5 m6 m7 m8 m9 m10 m11 m12 m13 m14 m15 m16 m17 m18 m19 m20 m21 m22 m23 m24 m25 m26 m27 m28 m29 m30 m31 m32 m33 m34 m35 m36 : Nat} : (c0M cy m0 m1 m2 m3 m4 m5 m6 m7 m8 m9 m10 m11 m12 m13 m14 m15 m16 m17 m18 m19 m20 m21 m22 m23 m24 m25 m26 m27 m28 m29 m30 m31 m32 m33 m34 m35 m36).map Prod.fst = (wM cy (AxOf [m0, m1, m2, m3, m4, m5, m6, m7, m8, m9, m10, m11, m12, m13, m14, m15, m16, m17, m18, m19, m20, m21, m22, m23, m24, m25, m26, m27, m28, m29, m30, m31, m32, m33, m34, m35, m36]) s0M).map Prod.fst := by
  unfold wM
  rw [wOf_fst]
  rfl
theorem AxOf_ok {A : Nat → Prop} {n : Nat} {Ad : Nat → Nat} {f : Nat → va_E} (h : va_D A (wOf n Ad f)) : AdOK n Ad := fun a ha b hb e => h.1 a b (Ad a, f a) (Ad b, f b) (wOf_at a ha) (wOf_at b hb) e
theorem va_D.left {A : Nat → Prop} {w1 w2 : va_W} (h : va_D A (w1 ++ w2)) : va_D A w1 := ⟨fun i j p q h1 h2 e => h.1 i j p q (by rw [List.getElem?_append_left (List.getElem?_eq_some_iff.mp h1).1]; exact h1) (by rw [List.getElem?_append_left (List.getElem?_eq_some_iff.mp h2).1]; exact h2) e, fun k q hk => h.2 k q (by rw [List.getElem?_append_left (List.getElem?_eq_some_iff.mp hk).1]; exact hk)⟩
theorem va_D.right {A : Nat → Prop} {w1 w2 : va_W} (h : va_D A (w1 ++ w2)) : va_D A w2 := by
  have key : ∀ (i : Nat) (p : Nat × va_E), w2[i]? = some p → (w1 ++ w2)[w1.length + i]? = some p := fun i p hp => by rw [List.getElem?_append_right (by omega), Nat.add_sub_cancel_left]; exact hp
  exact ⟨fun i j p q h1 h2 e => by have := h.1 _ _ p q (key i p h1) (key j q h2) e; omega, fun k q hk => h.2 _ q (key k q hk)⟩
theorem y_known {E : EV} {ws : va_W} {mc ms pc : Nat} {lv : List (Nat × Value)} {st : List Value} (k : (∃ A, va_D A ws) → XA E ws mc ms pc lv st) : XA E ws mc ms pc lv st := by
  obtain ⟨p, l, e, R, s, m, args, below, meth, c, D, A, nL0, Q⟩ := E
  exact fun H locs ls hP hD hS hl => k ⟨A, hD⟩ H locs ls hP hD hS hl
theorem arrI_of {ty : FieldType} {s : State} {args : Array Value} (hp : ∀ C, ty ≠ .object C) (h : (Cond.arrayClass ty).before args s = true) : ∃ cA : ClassId, ArrOfT s cA ty ∧ va_RA s cA ty := by
  obtain ⟨c, k, comp, h1, h2, h3⟩ := Cond.arrayClass_spec h
  refine ⟨c, fun N z => ⟨(fun k h => by cases h), k, h2, comp, h3⟩, ?_⟩
  cases ty <;> first | exact h1 | exact absurd rfl (hp _)
theorem arrO_of {n : String} {s : State} {args : Array Value} (h : (Cond.arrayOver (.object n)).before args s = true) : ∃ cA : ClassId, ArrOfT s cA (.object n) ∧ va_RA s cA (.object n) := by
  obtain ⟨comp, c, k, h1, -, h2, h3, h4⟩ := Cond.arrayOver_spec h
  exact ⟨c, fun N z => ⟨(fun k h => by cases h), k, h2, comp, h3⟩, k, comp, h2, h3, h1, h4⟩
theorem ao_X2 : Cond.arrayOver (.object "SlotChip$Circuit") ∈ lw_tbl := List.mem_of_getElem? (i := 215) (by decide +kernel)
theorem ao_X8 : Cond.arrayOver (.object "SlotChip$Stray") ∈ lw_tbl := List.mem_of_getElem? (i := 337) (by decide +kernel)
theorem lw_KA {s : State} {args : Array Value} (hts : ∀ w ∈ lw_tbl, w.before args s = true) : ∃ (D : va_G) (cy : Nat → ClassId), KA D cy s := by
  have hTB : ∀ w ∈ TB, w.before args s = true := fun w h => hts w (List.mem_filter.mp h).1
  obtain ⟨c0, i0, hk0⟩ := u_known (C := RX0) (T := TX0) (N := 3) (n := 3) hTB in_X0 (hTB _ it_X0)
  obtain ⟨c1, i1, hk1⟩ := u_known (C := RX1) (T := TX1) (N := 6) (n := 6) hTB in_X1 (hTB _ it_X1)
  obtain ⟨c2, i2, hk2⟩ := u_known (C := RX2) (T := TX2) (N := 18) (n := 18) hTB in_X2 (hTB _ it_X2)
  obtain ⟨c3, i3, hk3⟩ := u_known (C := RX3) (T := TX3) (N := 1) (n := 1) hTB in_X3 (hTB _ it_X3)
  obtain ⟨c4, i4, hk4⟩ := u_known (C := RX4) (T := TX4) (N := 3) (n := 3) hTB in_X4 (hTB _ it_X4)
  obtain ⟨c5, i5, hk5⟩ := u_known (C := RX5) (T := TX5) (N := 9) (n := 9) hTB in_X5 (hTB _ it_X5)
  obtain ⟨c6, i6, hk6⟩ := u_known (C := RX6) (T := TX6) (N := 9) (n := 9) hTB in_X6 (hTB _ it_X6)
  obtain ⟨c7, i7, hk7⟩ := u_known (C := RX8) (T := TX8) (N := 7) (n := 7) hTB in_X8 (hTB _ it_X8)
  obtain ⟨c8, i8, hk8⟩ := u_known (C := RX9) (T := TX9) (N := 6) (n := 6) hTB in_X9 (hTB _ it_X9)
  obtain ⟨c9, i9, hk9⟩ := u_known (C := RX10) (T := TX10) (N := 3) (n := 3) hTB in_X10 (hTB _ it_X10)
  obtain ⟨c10, i10, hk10⟩ := u_known (C := RX11) (T := TX11) (N := 7) (n := 7) hTB in_X11 (hTB _ it_X11)
  obtain ⟨c11, i11, hk11⟩ := u_known (C := RX12) (T := TX12) (N := 53) (n := 53) hTB in_X12 (hTB _ it_X12)
  obtain ⟨y0, a0, b0⟩ := arrI_of (ty := .int) (by intro C h; cases h) (hTB _ ac_int)
  obtain ⟨y1, a1, b1⟩ := arrI_of (ty := .boolean) (by intro C h; cases h) (hTB _ ac_boolean)
  obtain ⟨y2, a2, b2⟩ := arrO_of (hts _ ao_X2)
  obtain ⟨y3, a3, b3⟩ := arrO_of (hts _ ao_X8)
  refine ⟨(fun k => if k = 0 then c0 else if k = 1 then c1 else if k = 2 then c2 else if k = 3 then c3 else if k = 4 then c4 else if k = 5 then c5 else if k = 6 then c6 else if k = 7 then c7 else if k = 8 then c8 else if k = 9 then c9 else if k = 10 then c10 else c11, fun k => if k = 0 then i0 else if k = 1 then i1 else if k = 2 then i2 else if k = 3 then i3 else if k = 4 then i4 else if k = 5 then i5 else if k = 6 then i6 else if k = 7 then i7 else if k = 8 then i8 else if k = 9 then i9 else if k = 10 then i10 else i11), fun k => if k = 0 then y0 else if k = 1 then y1 else if k = 2 then y2 else y3, ⟨⟨?_, ?_⟩, ?_⟩, va_AO.of (hts _ ao_X2), va_AO.of (hts _ ao_X8)⟩
  · intro k q hq
    match k, hq with
    | 0, hq => cases hq; exact hk0
    | 1, hq => cases hq; exact hk1
    | 2, hq => cases hq; exact hk2
    | 3, hq => cases hq; exact hk3
    | 4, hq => cases hq; exact hk4
    | 5, hq => cases hq; exact hk5
    | 6, hq => cases hq; exact hk6
    | 7, hq => cases hq; exact hk7
    | 8, hq => cases hq; exact hk8
    | 9, hq => cases hq; exact hk9
    | 10, hq => cases hq; exact hk10
    | 11, hq => cases hq; exact hk11
    | k + 12, hq => simp [vwCl] at hq
  · intro k q hq
    match k, hq with
    | 0, hq => cases hq; exact ⟨a0, b0⟩
    | 1, hq => cases hq; exact ⟨a1, b1⟩
    | 2, hq => cases hq; exact ⟨a2, b2⟩
    | 3, hq => cases hq; exact ⟨a3, b3⟩
    | k + 4, hq => simp [tysOf] at hq
  · intro w hw
    exact va_Nw.of (by simp only [NW, List.mem_cons, List.not_mem_nil, or_false] at hw; rcases hw with rfl | rfl | rfl | rfl | rfl | rfl | rfl <;> rfl) (hts w (NW_in w hw))
set_option maxHeartbeats 4000000 in
set_option maxRecDepth 100000 in
theorem lw_startR {p : Program} {e : Env} {s : State} {m : MethodId} {below : List Frame} {meth : Method} {c : Code} (l : Launch) {b L : Nat} {xs : Nat → Int32} {Rel : Nat → St → St → Prop} (ok : OKS Rel) (h0 : Rel 0 s0X s0M) (hL : L ≤ 3072) (C0 : lw_At p s m meth c b L xs) : W p l e room_1 s m #[Value.ref b] below meth c s.heap [] 0 0 (lw_Z below #[Value.ref b] s) (entryFrame m ([Value.ref b] : List Value).toArray 4) := by
  obtain ⟨hx, hb, hr, hml, hown, hts, hX, hbl, hlocks, hgv⟩ := C0
  obtain ⟨D, cy, hKA⟩ := lw_KA hts
  have hTB : ∀ w ∈ TB, w.before #[Value.ref b] s = true := fun w h => hts w (List.mem_filter.mp h).1
  have hl := lv_entry ([.ref b]) (n := 4) (Nat.le_of_ble_eq_true rfl)
  rw [lg_entry_eq]
  generalize (lg_sl ([.ref b]) ++ List.replicate (4 - (lg_sl ([.ref b])).length) Slot.unset).toArray = ls at hl ⊢
  have hl : lv_has ls 4 [(0, .ref b)] := hl
  suffices K : ∀ E : EV, E = (p, l, e, room_1, s, m, #[Value.ref b], below, meth, c, D, (fun q : Nat => s.heap.size ≤ q), 4, lw_Z below #[Value.ref b] s) → XA E [] 0 0 0 [(0, .ref b)] [] by
    exact K _ rfl s.heap [] ls (fun k q h => by simp at h) ⟨fun i j p q h => by simp at h, fun k q h => by simp at h⟩ va_S.rf hl
  intro E hE
  have g : YG E cy cL_law RL 4 room_1 := by subst hE; exact ⟨hx, hb, hml, rfl, hown, hTB, hKA, rfl, fun q h => h⟩
  have yl : YL E l D := by subst hE; exact ⟨rfl, rfl⟩
  have yx : YX E b L xs := by subst hE; exact ⟨hX, hbl, Nat.not_le.mpr hbl⟩
  have yz : YZ E b := by subst hE; exact ⟨rfl, rfl, hr, hlocks, rfl, rfl⟩
  clear hE
  refine y_new (ci := 10) g tyX11 [.null, .null, .null, .null, .null, .null, .int 0] rfl in_X11 tyX11_ok cl_L_7 it_X11 ii_X11 df_X11 (Nat.le_of_ble_eq_true rfl) (Nat.le_of_ble_eq_true rfl) dL_law_0 (fun a0 => ?_)
  show XA E [(a0, .inr (10, [.null, .null, .null, .null, .null, .null, .int 0]))] _ _ 3 [(0, .ref b)] [.ref a0]
  refine y_dup g dL_law_3 rfl ?_
  refine y_call (q0 := 0) g yl [] [.ref a0] (c_X11_init l D cy a0) mf_X11_init rfl im_X11_init ml_L_9 rfl (Nat.le_of_ble_eq_true rfl) (Nat.le_of_ble_eq_true rfl) (Nat.le_of_ble_eq_true rfl) (Nat.le_of_ble_eq_true rfl) rfl (Nat.le_of_ble_eq_true rfl) dL_law_4 rfl (sh_X11 _) (fun E0 ns hpo => ?_)
  obtain ⟨a1, a2, a3, a4, a5, a6, a7, a8, a9, a10, a11, a12, a13, a14, a15, a16, a17, a18, a19, a20, a21, a22, a23, a24, a25, a26, a27, a28, a29, a30, a31, a32, a33, a34, a35, a36, a37, a38, a39, a40, a41, a42, a43, a44, a45, a46, a47, a48, a49, a50, a51, a52, a53, a54, a55, a56, a57, hpo⟩ := hpo
  cases hpo
  show XA E (c0X cy a0 a1 a2 a3 a4 a5 a6 a7 a8 a9 a10 a11 a12 a13 a14 a15 a16 a17 a18 a19 a20 a21 a22 a23 a24 a25 a26 a27 a28 a29 a30 a31 a32 a33 a34 a35 a36 a37 a38 a39 a40 a41 a42 a43 a44 a45 a46 a47 a48 a49 a50 a51 a52 a53 a54 a55 a56 a57) _ _ 7 [(0, .ref b)] [.ref a0]
  refine y_astore_n (lv' := [(1, .ref a0), (0, .ref b)]) g dL_law_7 rfl (by decide) rfl ?_
  refine y_new (ci := 11) g tyX12 [.int 0, .int 0, .int 0, .int 0, .int 0, .null, .null, .int 0, .null, .null, .null, .null, .null, .null, .null, .null, .null, .null, .null, .null, .null, .null, .null, .null, .null, .int 0, .null, .null, .null, .null, .int 0, .null, .null, .null, .null, .null, .null, .null, .null, .int 0, .int 0, .int 0, .int 0, .int 0, .null, .int 0, .null, .null, .null, .null, .int 0, .long 0, .long 0] rfl in_X12 tyX12_ok cl_L_10 it_X12 ii_X12 df_X12 (Nat.le_of_ble_eq_true rfl) (Nat.le_of_ble_eq_true rfl) dL_law_8 (fun m0 => ?_)
  refine y_dup g dL_law_11 rfl ?_
  refine y_call (q0 := 58) (b := m0) g yl [] [.ref m0] (c_X12_init l D cy m0) mf_X12_init rfl im_X12_init ml_L_12 rfl (Nat.le_of_ble_eq_true rfl) (Nat.le_of_ble_eq_true rfl) (Nat.le_of_ble_eq_true rfl) (Nat.le_of_ble_eq_true rfl) rfl (Nat.le_of_ble_eq_true rfl) dL_law_12 rfl (sh_X12 _) (fun E0 ns hpo => ?_)
  obtain ⟨m1, m2, m3, m4, m5, m6, m7, m8, m9, m10, m11, m12, m13, m14, m15, m16, m17, m18, m19, m20, m21, m22, m23, m24, m25, m26, m27, m28, m29, m30, m31, m32, m33, m34, m35, m36, hpo⟩ := hpo
  cases hpo
  show XA E (c0X cy a0 a1 a2 a3 a4 a5 a6 a7 a8 a9 a10 a11 a12 a13 a14 a15 a16 a17 a18 a19 a20 a21 a22 a23 a24 a25 a26 a27 a28 a29 a30 a31 a32 a33 a34 a35 a36 a37 a38 a39 a40 a41 a42 a43 a44 a45 a46 a47 a48 a49 a50 a51 a52 a53 a54 a55 a56 a57 ++ c0M cy m0 m1 m2 m3 m4 m5 m6 m7 m8 m9 m10 m11 m12 m13 m14 m15 m16 m17 m18 m19 m20 m21 m22 m23 m24 m25 m26 m27 m28 m29 m30 m31 m32 m33 m34 m35 m36) _ _ 15 [(1, .ref a0), (0, .ref b)] [.ref m0]
  refine y_astore_n (lv' := [(2, .ref m0), (1, .ref a0), (0, .ref b)]) g dL_law_15 rfl (by decide) rfl ?_
  refine y_iconst g 0 dL_law_16 (by decide) ?_
  refine y_istore_n (lv' := [(3, .int 0), (2, .ref m0), (1, .ref a0), (0, .ref b)]) g dL_law_17 rfl (by decide) rfl ?_
  refine y_sub (lv' := [(0, .ref b), (1, .ref (AxOf [a0, a1, a2, a3, a4, a5, a6, a7, a8, a9, a10, a11, a12, a13, a14, a15, a16, a17, a18, a19, a20, a21, a22, a23, a24, a25, a26, a27, a28, a29, a30, a31, a32, a33, a34, a35, a36, a37, a38, a39, a40, a41, a42, a43, a44, a45, a46, a47, a48, a49, a50, a51, a52, a53, a54, a55, a56, a57] 0)), (2, .ref (AxOf [m0, m1, m2, m3, m4, m5, m6, m7, m8, m9, m10, m11, m12, m13, m14, m15, m16, m17, m18, m19, m20, m21, m22, m23, m24, m25, m26, m27, m28, m29, m30, m31, m32, m33, m34, m35, m36] 0)), (3, .int (nI (6 * 0)))]) [3, 2, 1, 0] rfl ?_
  refine y_world (ws2 := wX cy (AxOf [a0, a1, a2, a3, a4, a5, a6, a7, a8, a9, a10, a11, a12, a13, a14, a15, a16, a17, a18, a19, a20, a21, a22, a23, a24, a25, a26, a27, a28, a29, a30, a31, a32, a33, a34, a35, a36, a37, a38, a39, a40, a41, a42, a43, a44, a45, a46, a47, a48, a49, a50, a51, a52, a53, a54, a55, a56, a57]) s0X ++ wM cy (AxOf [m0, m1, m2, m3, m4, m5, m6, m7, m8, m9, m10, m11, m12, m13, m14, m15, m16, m17, m18, m19, m20, m21, m22, m23, m24, m25, m26, m27, m28, m29, m30, m31, m32, m33, m34, m35, m36]) s0M) ?_ ?_ ?_
  · intro D H hP
    exact (c0X_P hP.left).app (c0M_P hP.right)
  · intro A hD
    exact va_D.fst (by rw [List.map_append, List.map_append, c0X_F, c0M_F]) hD
  refine y_known (fun hk => ?_)
  obtain ⟨A, hD⟩ := hk
  exact lw_loop hL (AxOf_ok hD.left) (AxOf_ok hD.right) yl g yx ok (Nat.le_of_ble_eq_true rfl) (Nat.le_of_ble_eq_true rfl) yz 513 0 _ _ rfl (Nat.zero_le _) h0
