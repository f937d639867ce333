theorem sv_i8 {j : Nat} (h : j < 8) : vp_in (nI j) 8 := vp_in_nI h (by decide)
theorem sv_i9 {j : Nat} (h : j < 9) : vp_in (nI j) 9 := vp_in_nI h (by decide)
theorem sv_i12 {j : Nat} (h : j < 12) : vp_in (nI j) 12 := vp_in_nI h (by decide)
theorem sv_i16 {j : Nat} (h : j < 16) : vp_in (nI j) 16 := vp_in_nI h (by decide)
theorem sv_i64 {j : Nat} (h : j < 64) : vp_in (nI j) 64 := vp_in_nI h (by decide)
theorem sv_i216 {j : Nat} (h : j < 216) : vp_in (nI j) 216 := vp_in_nI h (by decide)
theorem sv_ia (a j N : Nat) (h : a + j < N) (hN : N < 2 ^ 31) : vp_in (nI a + nI j) N := by
  rw [nI_add]; exact vp_in_nI h hN
theorem sv_ge (b : Nat) {j : Nat} (h : b ≤ j) (hj : j < 2 ^ 31) : nI b ≤ nI j := nI_le h hj
theorem sv_ng (b : Nat) {j : Nat} (h : j < b) (hb : b < 2 ^ 31) : ¬ nI b ≤ nI j := nI_ge h hb
theorem sv_x4 {j : Nat} (h : j < 4) : vp_in (4 + ((nI j + 1) &&& 3)) 16 ∧ vp_in (8 + ((nI j + 2) &&& 3)) 16 ∧ vp_in (12 + ((nI j + 3) &&& 3)) 16 := by
  have h4 : j = 0 ∨ j = 1 ∨ j = 2 ∨ j = 3 := by omega
  rcases h4 with rfl | rfl | rfl | rfl <;>
    exact ⟨vp_in_iff.mpr (by decide +kernel), vp_in_iff.mpr (by decide +kernel), vp_in_iff.mpr (by decide +kernel)⟩
theorem sv_quarter (post : SX → Prop) (fa fb fc fd fe ff fg fh : Int32) (aK aE aV aS aC aY aD aT aW : Nat → Int32) (p0 p1 p2 p3 : Int32) (h0 : vp_in p0 16) (h1 : vp_in p1 16) (h2 : vp_in p2 16) (h3 : vp_in p3 16)
    (hp : ∀ aT' : Nat → Int32, post (fa, fb, fc, fd, fe, ff, fg, fh, aK, aE, aV, aS, aC, aY, aD, aT', aW)) : wpX_quarterRound post (fa, fb, fc, fd, fe, ff, fg, fh, aK, aE, aV, aS, aC, aY, aD, aT, aW) p0 p1 p2 p3 :=
  ⟨h0, fun _ _ => ⟨h1, fun _ _ => ⟨h2, fun _ _ => ⟨h3, fun _ _ => fun _ _ => fun _ _ => fun _ _ => fun _ _ => fun _ _ => fun _ _ => fun _ _ => fun _ _ => fun _ _ => fun _ _ => fun _ _ => fun _ _ =>
    ⟨h0, fun _ _ => ⟨h1, fun _ _ => ⟨h2, fun _ _ => ⟨h3, fun _ _ => hp _⟩⟩⟩⟩⟩⟩⟩⟩
theorem sv_scr144 (post : SX → Prop) (fa fb fc fd fe ff fg fh : Int32) (aK aE aV aS aC aY aW : Nat → Int32) (hp : ∀ aD' aT' : Nat → Int32, post (fa, fb, fc, fd, fe, ff, fg, fh, aK, aE, aV, aS, aC, aY, aD', aT', aW)) :
    ∀ (d j : Nat) (aD aT : Nat → Int32), j + d = 16 → wX_scramble_144 post fa fb fc fd fe ff fg fh (d + 1) (nI j) aK aE aV aS aC aY aD aT aW := by
  intro d
  induction d with
  | zero => intro j aD aT hj; exact br_t (sv_ge 16 (by omega) (by omega)) (hp _ _)
  | succ d ih =>
    intro j aD aT hj
    have hi : vp_in (nI j) 16 := sv_i16 (by omega)
    exact br_f (sv_ng 16 (by omega) (by decide)) ⟨hi, hi, hi, fun _ _ => ⟨hi, fun _ _ => nm_r (nI_1 j) (ih (j + 1) _ _ (by omega))⟩⟩
theorem sv_scr97 (post : SX → Prop) (J : Int32 → Int32 → Int32 → Int32 → Int32 → Int32 → Int32 → Int32 → Int32 → (Nat → Int32) → (Nat → Int32) → (Nat → Int32) → (Nat → Int32) → (Nat → Int32) → (Nat → Int32) → (Nat → Int32) → (Nat → Int32) → (Nat → Int32) → Prop) (x1 : Int32) (fa fb fc fd fe ff fg fh : Int32) (aK aE aV aS aC aY aD aW : Nat → Int32)
    (hJ : ∀ aT' : Nat → Int32, ∀ y : Int32, y = x1 + 1 → J y fa fb fc fd fe ff fg fh aK aE aV aS aC aY aD aT' aW) :
    ∀ (d j : Nat) (aT : Nat → Int32), j + d = 4 → wX_scramble_97 post J x1 (d + 1) (nI j) fa fb fc fd fe ff fg fh aK aE aV aS aC aY aD aT aW := by
  intro d
  induction d with
  | zero => intro j aT hj; exact br_t (sv_ge 4 (by omega) (by omega)) (hJ _)
  | succ d ih =>
    intro j aT hj
    obtain ⟨h1, h2, h3⟩ := sv_x4 (j := j) (by omega)
    exact br_f (sv_ng 4 (by omega) (by decide)) (sv_quarter _ fa fb fc fd fe ff fg fh aK aE aV aS aC aY aD aT aW _ _ _ _ (sv_i16 (by omega)) h1 h2 h3 (fun aT' => nm_r (nI_1 j) (ih (j + 1) aT' (by omega))))
theorem sv_scr68 (post : SX → Prop) (J : Int32 → Int32 → Int32 → Int32 → Int32 → Int32 → Int32 → Int32 → Int32 → (Nat → Int32) → (Nat → Int32) → (Nat → Int32) → (Nat → Int32) → (Nat → Int32) → (Nat → Int32) → (Nat → Int32) → (Nat → Int32) → (Nat → Int32) → Prop) (x1 : Int32) (fa fb fc fd fe ff fg fh : Int32) (aK aE aV aS aC aY aD aW : Nat → Int32)
    (hJ : ∀ aT' : Nat → Int32, ∀ y : Int32, y = x1 + 1 → J y fa fb fc fd fe ff fg fh aK aE aV aS aC aY aD aT' aW) :
    ∀ (d j : Nat) (aT : Nat → Int32), j + d = 4 → wX_scramble_68 post J x1 (d + 1) (nI j) fa fb fc fd fe ff fg fh aK aE aV aS aC aY aD aT aW := by
  intro d
  induction d with
  | zero => intro j aT hj; exact br_t (sv_ge 4 (by omega) (by omega)) ⟨5, sv_scr97 post J x1 fa fb fc fd fe ff fg fh aK aE aV aS aC aY aD aW hJ 4 0 aT rfl⟩
  | succ d ih =>
    intro j aT hj
    exact br_f (sv_ng 4 (by omega) (by decide)) (sv_quarter _ fa fb fc fd fe ff fg fh aK aE aV aS aC aY aD aT aW _ _ _ _ (sv_i16 (by omega)) (sv_ia 4 j 16 (by omega) (by decide)) (sv_ia 8 j 16 (by omega) (by decide)) (sv_ia 12 j 16 (by omega) (by decide)) (fun aT' => nm_r (nI_1 j) (ih (j + 1) aT' (by omega))))
theorem sv_scr60 (post : SX → Prop) (fa fb fc fd fe ff fg fh : Int32) (aK aE aV aS aC aY aD aW : Nat → Int32) (hp : ∀ aD' aT' : Nat → Int32, post (fa, fb, fc, fd, fe, ff, fg, fh, aK, aE, aV, aS, aC, aY, aD', aT', aW)) :
    ∀ (d j : Nat) (aT : Nat → Int32), j + d = 10 → wX_scramble_60 post (d + 1) (nI j) fa fb fc fd fe ff fg fh aK aE aV aS aC aY aD aT aW := by
  intro d
  induction d with
  | zero => intro j aT hj; exact br_t (sv_ge 10 (by omega) (by omega)) ⟨17, sv_scr144 post fa fb fc fd fe ff fg fh aK aE aV aS aC aY aW hp 16 0 aD aT rfl⟩
  | succ d ih =>
    intro j aT hj
    exact br_f (sv_ng 10 (by omega) (by decide)) ⟨5, sv_scr68 post (wX_scramble_60 post (d + 1)) (nI j) fa fb fc fd fe ff fg fh aK aE aV aS aC aY aD aW (fun aT' => nm_r (nI_1 j) (ih (j + 1) aT' (by omega))) 4 0 aT rfl⟩
theorem sv_scr34 (post : SX → Prop) (fa fb fc fd fe ff fg fh : Int32) (aK aE aV aS aC aY aD aW : Nat → Int32) (hp : ∀ aD' aT' : Nat → Int32, post (fa, fb, fc, fd, fe, ff, fg, fh, aK, aE, aV, aS, aC, aY, aD', aT', aW)) :
    ∀ (d j : Nat) (aT : Nat → Int32), j + d = 16 → wX_scramble_34 post fa fb fc fd fe ff fg fh (d + 1) (nI j) aK aE aV aS aC aY aD aT aW := by
  intro d
  induction d with
  | zero => intro j aT hj; exact br_t (sv_ge 16 (by omega) (by omega)) ⟨11, sv_scr60 post fa fb fc fd fe ff fg fh aK aE aV aS aC aY aD aW hp 10 0 aT rfl⟩
  | succ d ih =>
    intro j aT hj
    have hi : vp_in (nI j) 16 := sv_i16 (by omega)
    exact br_f (sv_ng 16 (by omega) (by decide)) ⟨hi, hi, fun _ _ => nm_r (nI_1 j) (ih (j + 1) _ (by omega))⟩
theorem sv_scramble (post : SX → Prop) (fa fb fc fd fe ff fg fh : Int32) (aK aE aV aS aC aY aD aT aW : Nat → Int32) (hp : ∀ aD' aT' : Nat → Int32, post (fa, fb, fc, fd, fe, ff, fg, fh, aK, aE, aV, aS, aC, aY, aD', aT', aW)) : wpX_scramble post (fa, fb, fc, fd, fe, ff, fg, fh, aK, aE, aV, aS, aC, aY, aD, aT, aW) :=
  fun _ _ => fun _ _ => fun _ _ => fun aD' _ => ⟨17, sv_scr34 post fa fb fc fd fe ff fg fh aK aE aV aS aC aY aD' aW hp 16 0 aT rfl⟩
theorem sv_stream (post : SX → Prop) (fa fb fc fd fe ff fg fh : Int32) (aK aE aV aS aC aY aD aT aW : Nat → Int32) (p0 p1 p2 : Int32) (hp : ∀ aD' aT' : Nat → Int32, post (fa, fb, fc, fd, fe, ff, fg, fh, aK, aE, aV, aS, aC, aY, aD', aT', aW)) : wpX_streamFromPassphrase post (fa, fb, fc, fd, fe, ff, fg, fh, aK, aE, aV, aS, aC, aY, aD, aT, aW) p0 p1 p2 :=
  fun _ _ => fun _ _ => fun aD' _ => sv_scramble _ fa fb fc fd fe ff fg fh aK aE aV aS aC aY aD' aT aW hp
