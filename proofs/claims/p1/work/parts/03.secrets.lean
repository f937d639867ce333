theorem sv_mk12 (post : SX → Prop) (fa fb fc fd fe ff fg fh : Int32) (aK aE aV aS aC aD aT aW : Nat → Int32) (hp : ∀ aY' : Nat → Int32, post (fa, fb, fc, fd, fe, ff, fg, fh, aK, aE, aV, aS, aC, aY', aD, aT, aW)) :
    ∀ (d j : Nat) (aY : Nat → Int32), j + d = 8 → wX_makeKey_12 post fa fb fc fd fe ff fg fh (d + 1) (nI j) aK aE aV aS aC aY aD aT aW := by
  intro d
  induction d with
  | zero => intro j aY hj; exact br_t (sv_ge 8 (by omega) (by omega)) (hp _)
  | succ d ih =>
    intro j aY hj
    exact br_f (sv_ng 8 (by omega) (by decide)) ⟨sv_i16 (by omega), sv_i8 (by omega), fun _ _ => nm_r (nI_1 j) (ih (j + 1) _ (by omega))⟩
theorem sv_makeKey (post : SX → Prop) (fa fb fc fd fe ff fg fh : Int32) (aK aE aV aS aC aY aD aT aW : Nat → Int32) (p0 : Int32) (hp : ∀ aY' aD' aT' : Nat → Int32, post (fa, fb, fc, fd, fe, ff, fg, fh, aK, aE, aV, aS, aC, aY', aD', aT', aW)) : wpX_makeKey post (fa, fb, fc, fd, fe, ff, fg, fh, aK, aE, aV, aS, aC, aY, aD, aT, aW) p0 := by
  unfold wpX_makeKey
  exact sv_stream _ fa fb fc fd fe ff fg fh aK aE aV aS aC aY aD aT aW _ _ _ (fun aD' aT' => ⟨9, sv_mk12 post fa fb fc fd fe ff fg fh aK aE aV aS aC aD' aT' aW (fun aY' => hp aY' aD' aT') 8 0 aY rfl⟩)
theorem sv_sfk2 (post : SX → Prop) (i : Nat) (hi : i < 12) (x2 : Int32) (fa fb fc fd fe ff fg fh : Int32) (aK aE aV aS aC aY aT aW : Nat → Int32) (hp : ∀ aD' : Nat → Int32, post (fa, fb, fc, fd, fe, ff, fg, fh, aK, aE, aV, aS, aC, aY, aD', aT, aW)) :
    ∀ (d j : Nat) (aD : Nat → Int32), j + d = 8 → wX_seedFromKey_2 post (nI i) x2 fa fb fc fd fe ff fg fh (d + 1) (nI j) aK aE aV aS aC aY aD aT aW := by
  intro d
  induction d with
  | zero => intro j aD hj; exact br_t (sv_ge 8 (by omega) (by omega)) (fun _ _ => fun _ _ => ⟨sv_i12 hi, fun _ _ => hp _⟩)
  | succ d ih =>
    intro j aD hj
    exact br_f (sv_ng 8 (by omega) (by decide)) ⟨sv_i8 (by omega), sv_ia 4 j 16 (by omega) (by decide), fun _ _ => nm_r (nI_1 j) (ih (j + 1) _ (by omega))⟩
theorem sv_seedFromKey (post : SX → Prop) (i : Nat) (hi : i < 12) (x2 : Int32) (fa fb fc fd fe ff fg fh : Int32) (aK aE aV aS aC aY aD aT aW : Nat → Int32) (hp : ∀ aD' : Nat → Int32, post (fa, fb, fc, fd, fe, ff, fg, fh, aK, aE, aV, aS, aC, aY, aD', aT, aW)) : wpX_seedFromKey post (fa, fb, fc, fd, fe, ff, fg, fh, aK, aE, aV, aS, aC, aY, aD, aT, aW) (nI i) x2 :=
  ⟨9, sv_sfk2 post i hi x2 fa fb fc fd fe ff fg fh aK aE aV aS aC aY aT aW hp 8 0 aD rfl⟩
theorem sv_sumW6 (post : Int32 → Prop) (fa fb fc fd fe ff fg fh : Int32) (aK aE aV aS aC aY aD aT aW : Nat → Int32) (hp : ∀ r : Int32, post r) :
    ∀ (d j : Nat) (x3 : Int32), j + d = 8 → wX_sumOf__work_6 post 0 fa fb fc fd fe ff fg fh aK aE aV aS aC aY aD aT aW (d + 1) x3 (nI j) := by
  intro d
  induction d with
  | zero => intro j x3 hj; exact br_t (sv_ge 8 (by omega) (by omega)) (hp _)
  | succ d ih =>
    intro j x3 hj
    exact br_f (sv_ng 8 (by omega) (by decide)) ⟨sv_ia 0 j 9 (by omega) (by decide), fun _ _ => nm_r (nI_1 j) (ih (j + 1) _ (by omega))⟩
theorem sv_sumW (post : Int32 → Prop) (fa fb fc fd fe ff fg fh : Int32) (aK aE aV aS aC aY aD aT aW : Nat → Int32) (hp : ∀ r : Int32, post r) : wpX_sumOf__work post (fa, fb, fc, fd, fe, ff, fg, fh, aK, aE, aV, aS, aC, aY, aD, aT, aW) 0 :=
  ⟨9, sv_sumW6 post fa fb fc fd fe ff fg fh aK aE aV aS aC aY aD aT aW hp 8 0 _ rfl⟩
theorem sv_sumK6 (post : Int32 → Prop) (w : Nat) (hw : w + 9 ≤ 216) (fa fb fc fd fe ff fg fh : Int32) (aK aE aV aS aC aY aD aT aW : Nat → Int32) (hp : ∀ r : Int32, post r) :
    ∀ (d j : Nat) (x3 : Int32), j + d = 8 → wX_sumOf__kept_6 post (nI w) fa fb fc fd fe ff fg fh aK aE aV aS aC aY aD aT aW (d + 1) x3 (nI j) := by
  intro d
  induction d with
  | zero => intro j x3 hj; exact br_t (sv_ge 8 (by omega) (by omega)) (hp _)
  | succ d ih =>
    intro j x3 hj
    exact br_f (sv_ng 8 (by omega) (by decide)) ⟨sv_ia w j 216 (by omega) (by decide), fun _ _ => nm_r (nI_1 j) (ih (j + 1) _ (by omega))⟩
theorem sv_sumK (post : Int32 → Prop) (w : Nat) (hw : w + 9 ≤ 216) (fa fb fc fd fe ff fg fh : Int32) (aK aE aV aS aC aY aD aT aW : Nat → Int32) (hp : ∀ r : Int32, post r) : wpX_sumOf__kept post (fa, fb, fc, fd, fe, ff, fg, fh, aK, aE, aV, aS, aC, aY, aD, aT, aW) (nI w) :=
  ⟨9, sv_sumK6 post w hw fa fb fc fd fe ff fg fh aK aE aV aS aC aY aD aT aW hp 8 0 _ rfl⟩
theorem sv_seal12 (post : SX → Prop) (fa fb fc fd fe ff fg fh : Int32) (aK aE aV aS aC aY aD aT : Nat → Int32) (hp : ∀ aW' : Nat → Int32, post (fa, fb, fc, fd, fe, ff, fg, fh, aK, aE, aV, aS, aC, aY, aD, aT, aW')) :
    ∀ (d j : Nat) (aW : Nat → Int32), j + d = 8 → wX_sealWork_12 post fa fb fc fd fe ff fg fh (d + 1) (nI j) aK aE aV aS aC aY aD aT aW := by
  intro d
  induction d with
  | zero => intro j aW hj; exact br_t (sv_ge 8 (by omega) (by omega)) (sv_sumW _ fa fb fc fd fe ff fg fh aK aE aV aS aC aY aD aT aW (fun _ => fun _ _ => hp _))
  | succ d ih =>
    intro j aW hj
    exact br_f (sv_ng 8 (by omega) (by decide)) ⟨sv_i9 (by omega), sv_i16 (by omega), sv_i9 (by omega), fun _ _ => nm_r (nI_1 j) (ih (j + 1) _ (by omega))⟩
theorem sv_sealWork (post : SX → Prop) (i : Nat) (hi : i < 12) (x2 : Int32) (fa fb fc fd fe ff fg fh : Int32) (aK aE aV aS aC aY aD aT aW : Nat → Int32) (hp : ∀ aD' aT' aW' : Nat → Int32, post (fa, fb, fc, fd, fe, ff, fg, fh, aK, aE, aV, aS, aC, aY, aD', aT', aW')) : wpX_sealWork post (fa, fb, fc, fd, fe, ff, fg, fh, aK, aE, aV, aS, aC, aY, aD, aT, aW) (nI i) x2 :=
  sv_seedFromKey _ i hi x2 fa fb fc fd fe ff fg fh aK aE aV aS aC aY aD aT aW (fun aD1 => sv_scramble _ fa fb fc fd fe ff fg fh aK aE aV aS aC aY aD1 aT aW (fun aD' aT' =>
    ⟨9, sv_seal12 post fa fb fc fd fe ff fg fh aK aE aV aS aC aY aD' aT' (fun aW' => hp aD' aT' aW') 8 0 aW rfl⟩))
theorem sv_row (i : Nat) (hi : i < 12) (e : Int32) : ∃ w : Nat, w + 9 ≤ 216 ∧ (2 * nI i + (e &&& 1)) * 9 = nI w := by
  obtain ⟨j, hj, ej⟩ := pk_andE e (m := 1) 1 (by decide)
  refine ⟨(2 * i + j) * 9, by omega, ?_⟩
  rw [ej]
  show (nI 2 * nI i + nI j) * nI 9 = _
  rw [pk_mul, nI_add, pk_mul]
theorem sv_rowOf (post : Int32 → Prop) (i : Nat) (hi : i < 12) (e : Int32) (fa fb fc fd fe ff fg fh : Int32) (aK aE aV aS aC aY aD aT aW : Nat → Int32) (hp : ∀ w : Nat, w + 9 ≤ 216 → post (nI w)) : wpX_rowOf post (fa, fb, fc, fd, fe, ff, fg, fh, aK, aE, aV, aS, aC, aY, aD, aT, aW) (nI i) e := by
  obtain ⟨w, hw, ew⟩ := sv_row i hi e
  show post ((2 * nI i + (e &&& 1)) * 9)
  rw [ew]
  exact hp w hw
theorem sv_kw2 (post : SX → Prop) (w : Nat) (hw : w + 9 ≤ 216) (x2 : Int32) (fa fb fc fd fe ff fg fh : Int32) (aE aV aS aC aY aD aT aW : Nat → Int32) (hp : ∀ aK' : Nat → Int32, post (fa, fb, fc, fd, fe, ff, fg, fh, aK', aE, aV, aS, aC, aY, aD, aT, aW)) :
    ∀ (d j : Nat) (aK : Nat → Int32), j + d = 9 → wX_keepWork_2 post (nI w) x2 fa fb fc fd fe ff fg fh (d + 1) (nI j) aK aE aV aS aC aY aD aT aW := by
  intro d
  induction d with
  | zero => intro j aK hj; exact br_t (sv_ge 9 (by omega) (by omega)) (hp _)
  | succ d ih =>
    intro j aK hj
    exact br_f (sv_ng 9 (by omega) (by decide)) (br_c (fun _ => hp _) (fun _ => ⟨sv_i9 (by omega), sv_ia w j 216 (by omega) (by decide), fun _ _ => nm_r (nI_1 j) (ih (j + 1) _ (by omega))⟩))
theorem sv_keepWork (post : SX → Prop) (w : Nat) (hw : w + 9 ≤ 216) (x2 : Int32) (fa fb fc fd fe ff fg fh : Int32) (aK aE aV aS aC aY aD aT aW : Nat → Int32) (hp : ∀ aK' : Nat → Int32, post (fa, fb, fc, fd, fe, ff, fg, fh, aK', aE, aV, aS, aC, aY, aD, aT, aW)) : wpX_keepWork post (fa, fb, fc, fd, fe, ff, fg, fh, aK, aE, aV, aS, aC, aY, aD, aT, aW) (nI w) x2 :=
  ⟨10, sv_kw2 post w hw x2 fa fb fc fd fe ff fg fh aE aV aS aC aY aD aT aW hp 9 0 aK rfl⟩
theorem sv_er44 (post : SX → Prop) (J : Int32 → Int32 → Int32 → Int32 → Int32 → Int32 → Int32 → Int32 → Int32 → (Nat → Int32) → (Nat → Int32) → (Nat → Int32) → (Nat → Int32) → (Nat → Int32) → (Nat → Int32) → (Nat → Int32) → (Nat → Int32) → (Nat → Int32) → Prop) (i : Nat) (hi : i < 12) (fa fb fc fd fe ff fg fh : Int32) (aK aE aV aS aC aY aD aT : Nat → Int32)
    (hJ : ∀ aK' aD' aT' aW' : Nat → Int32, ∀ y : Int32, y = nI i + 1 → J y fa fb fc fd fe ff fg fh aK' aE aV aS aC aY aD' aT' aW') :
    ∀ (d j : Nat) (aW : Nat → Int32), j + d = 8 → wX_eraseSectors_44 post J (nI i) fa fb fc fd fe ff fg fh (d + 1) (nI j) aK aE aV aS aC aY aD aT aW := by
  intro d
  induction d with
  | zero =>
    intro j aW hj
    exact br_t (sv_ge 8 (by omega) (by omega)) (sv_sealWork _ i hi 0 fa fb fc fd fe ff fg fh aK aE aV aS aC aY aD aT aW (fun aD' aT' aW' =>
      sv_rowOf _ i hi 0 fa fb fc fd fe ff fg fh aK aE aV aS aC aY aD' aT' aW' (fun w hw => sv_keepWork _ w hw 9 fa fb fc fd fe ff fg fh aK aE aV aS aC aY aD' aT' aW' (fun aK' => hJ aK' aD' aT' aW'))))
  | succ d ih =>
    intro j aW hj
    exact br_f (sv_ng 8 (by omega) (by decide)) ⟨sv_i9 (by omega), fun _ _ => nm_r (nI_1 j) (ih (j + 1) _ (by omega))⟩
theorem sv_er29 (post : SX → Prop) (fa fb fc fd fe ff fg fh : Int32) (aV aS aC aY : Nat → Int32) (hp : ∀ aK' aE' aD' aT' aW' : Nat → Int32, (∀ i, i < 12 → aE' i = 0) → post (fa, fb, fc, fd, fe, ff, fg, fh, aK', aE', aV, aS, aC, aY, aD', aT', aW')) :
    ∀ (d j : Nat) (aK aE aD aT aW : Nat → Int32), j + d = 12 → (∀ i, i < j → aE i = 0) → wX_eraseSectors_29 post (d + 1) (nI j) fa fb fc fd fe ff fg fh aK aE aV aS aC aY aD aT aW := by
  intro d
  induction d with
  | zero => intro j aK aE aD aT aW hj hE; exact br_t (sv_ge 12 (by omega) (by omega)) (hp _ _ _ _ _ (fun i hi => hE i (by omega)))
  | succ d ih =>
    intro j aK aE aD aT aW hj hE
    refine br_f (sv_ng 12 (by omega) (by decide)) ⟨sv_i12 (by omega), fun aE' hE' => ⟨9, sv_er44 post (wX_eraseSectors_29 post (d + 1)) j (by omega) fa fb fc fd fe ff fg fh aK aE' aV aS aC aY aD aT (fun aK' aD' aT' aW' => nm_r (nI_1 j) (ih (j + 1) aK' aE' aD' aT' aW' (by omega) ?_)) 8 0 aW rfl⟩⟩
    intro i hi
    rw [hE', nI_clamp (by omega)]
    by_cases hij : i = j
    · rw [hij]; exact pk_us
    · rw [pk_un hij]; exact hE i (by omega)
theorem sv_er7 (post : SX → Prop) (fa fb fc fd fe ff fg fh : Int32) (aE aV aS aC aY aD aT aW : Nat → Int32) (hp : ∀ aK' aE' aD' aT' aW' : Nat → Int32, (∀ i, i < 12 → aE' i = 0) → post (fa, fb, fc, fd, fe, ff, fg, fh, aK', aE', aV, aS, aC, aY, aD', aT', aW')) :
    ∀ (d j : Nat) (aK : Nat → Int32), j + d = 216 → wX_eraseSectors_7 post fa fb fc fd fe ff fg fh (d + 1) (nI j) aK aE aV aS aC aY aD aT aW := by
  intro d
  induction d with
  | zero => intro j aK hj; exact br_t (sv_ge 216 (by omega) (by omega)) ⟨13, sv_er29 post fa fb fc fd fe ff fg fh aV aS aC aY hp 12 0 aK aE aD aT aW rfl (fun i hi => absurd hi (by omega))⟩
  | succ d ih =>
    intro j aK hj
    exact br_f (sv_ng 216 (by omega) (by decide)) ⟨sv_i216 (by omega), fun _ _ => nm_r (nI_1 j) (ih (j + 1) _ (by omega))⟩
theorem sv_eraseSectors (post : SX → Prop) (fa fb fc fd fe ff fg fh : Int32) (aK aE aV aS aC aY aD aT aW : Nat → Int32) (hp : ∀ aK' aE' aD' aT' aW' : Nat → Int32, (∀ i, i < 12 → aE' i = 0) → post (fa, fb, fc, fd, fe, ff, 0, fh, aK', aE', aV, aS, aC, aY, aD', aT', aW')) : wpX_eraseSectors post (fa, fb, fc, fd, fe, ff, fg, fh, aK, aE, aV, aS, aC, aY, aD, aT, aW) :=
  ⟨217, sv_er7 post fa fb fc fd fe ff 0 fh aE aV aS aC aY aD aT aW hp 216 0 aK rfl⟩
theorem sv_em2 (post : SX → Prop) (s : Nat) (hs : s < 4) (fa fb fc fd fe ff fg fh : Int32) (aK aE aV aC aY aD aT aW : Nat → Int32) (hp : ∀ aS' : Nat → Int32, post (fa, fb, fc, fd, (fe &&& (((1 : Int32) <<< (nI s &&& 31)) ^^^ (-1))), ff, fg, fh, aK, aE, aV, aS', aC, aY, aD, aT, aW)) :
    ∀ (d j : Nat) (aS : Nat → Int32), j + d = 16 → wX_emptySlot_2 post (nI s) fa fb fc fd fe ff fg fh (d + 1) (nI j) aK aE aV aS aC aY aD aT aW := by
  intro d
  induction d with
  | zero => intro j aS hj; exact br_t (sv_ge 16 (by omega) (by omega)) (nm_e (hp _))
  | succ d ih =>
    intro j aS hj
    have h : vp_in ((nI s * 16) + nI j) 64 := by
      rw [show nI s * 16 = nI (s * 16) from pk_mul s 16]; exact sv_ia (s * 16) j 64 (by omega) (by decide)
    exact br_f (sv_ng 16 (by omega) (by decide)) ⟨h, fun _ _ => nm_r (nI_1 j) (ih (j + 1) _ (by omega))⟩
theorem sv_emptySlot (post : SX → Prop) (s : Nat) (hs : s < 4) (fa fb fc fd fe ff fg fh : Int32) (aK aE aV aS aC aY aD aT aW : Nat → Int32) (hp : ∀ aS' : Nat → Int32, post (fa, fb, fc, fd, (fe &&& (((1 : Int32) <<< (nI s &&& 31)) ^^^ (-1))), ff, fg, fh, aK, aE, aV, aS', aC, aY, aD, aT, aW)) : wpX_emptySlot post (fa, fb, fc, fd, fe, ff, fg, fh, aK, aE, aV, aS, aC, aY, aD, aT, aW) (nI s) :=
  ⟨17, sv_em2 post s hs fa fb fc fd fe ff fg fh aK aE aV aC aY aD aT aW hp 16 0 aS rfl⟩
theorem sv_es20 (post : SX → Prop) (fa fb fc fd fe ff fg fh : Int32) (aK aE aV aS aY aD aT aW : Nat → Int32) (hp : ∀ aC' : Nat → Int32, post (fa, fb, fc, fd, fe, ff, fg, fh, aK, aE, aV, aS, aC', aY, aD, aT, aW)) :
    ∀ (d j : Nat) (aC : Nat → Int32), j + d = 64 → wX_eraseSlots_20 post fa fb fc fd fe ff fg fh (d + 1) (nI j) aK aE aV aS aC aY aD aT aW := by
  intro d
  induction d with
  | zero => intro j aC hj; exact br_t (sv_ge 64 (by omega) (by omega)) (hp _)
  | succ d ih =>
    intro j aC hj
    exact br_f (sv_ng 64 (by omega) (by decide)) ⟨sv_i64 (by omega), fun _ _ => nm_r (nI_1 j) (ih (j + 1) _ (by omega))⟩
def sv_clr (t s : Nat) : Nat := if t / 2 ^ s % 2 = 1 then t - 2 ^ s else t
theorem sv_clr_e : ∀ s, s < 4 → ∀ t, t < 16 → nI t &&& (((1 : Int32) <<< (nI s &&& 31)) ^^^ (-1)) = nI (sv_clr t s) ∧ sv_clr t s < 16 := by decide +kernel
theorem sv_clr_4 : ∀ t, t < 16 → sv_clr (sv_clr (sv_clr (sv_clr t 0) 1) 2) 3 = 0 := by decide +kernel
theorem sv_k0 : ∀ x, x < 16 → sv_clr x 0 % 2 = 0 := by decide +kernel
theorem sv_k1 : ∀ x, x < 16 → x % 2 = 0 → sv_clr x 1 % 4 = 0 := by decide +kernel
theorem sv_k2 : ∀ x, x < 16 → x % 4 = 0 → sv_clr x 2 % 8 = 0 := by decide +kernel
theorem sv_k3 : ∀ x, x < 16 → x % 8 = 0 → sv_clr x 3 = 0 := by decide +kernel
theorem sv_em (post : SX → Prop) (s : Nat) (hs : s < 4) (t : Nat) (ht : t < 16) (fa fb fc fd ff fg fh : Int32) (aK aE aV aS aC aY aD aT aW : Nat → Int32) (hp : ∀ aS' : Nat → Int32, post (fa, fb, fc, fd, nI (sv_clr t s), ff, fg, fh, aK, aE, aV, aS', aC, aY, aD, aT, aW)) : wpX_emptySlot post (fa, fb, fc, fd, nI t, ff, fg, fh, aK, aE, aV, aS, aC, aY, aD, aT, aW) (nI s) := by
  refine sv_emptySlot post s hs fa fb fc fd (nI t) ff fg fh aK aE aV aS aC aY aD aT aW (fun aS' => ?_)
  rw [(sv_clr_e s hs t ht).1]
  exact hp aS'
theorem sv_es2 (post : SX → Prop) (fa fb fc fd ff fg fh : Int32) (aK aE aV aC aY aD aT aW : Nat → Int32) (hp : ∀ aS' aC' : Nat → Int32, ∀ t : Nat, t = 0 → post (fa, fb, fc, fd, nI t, ff, fg, fh, aK, aE, aV, aS', aC', aY, aD, aT, aW)) :
    ∀ (d j t : Nat) (aS : Nat → Int32), j + d = 4 → t < 16 → (j = 0 ∨ j = 1 ∧ t % 2 = 0 ∨ j = 2 ∧ t % 4 = 0 ∨ j = 3 ∧ t % 8 = 0 ∨ j = 4 ∧ t = 0) → wX_eraseSlots_2 post (d + 1) (nI j) fa fb fc fd (nI t) ff fg fh aK aE aV aS aC aY aD aT aW := by
  intro d
  induction d with
  | zero =>
    intro j t aS hj ht h
    exact br_t (sv_ge 4 (by omega) (by omega)) ⟨65, sv_es20 post fa fb fc fd (nI t) ff fg fh aK aE aV aS aY aD aT aW (fun aC' => hp aS aC' t (by omega)) 64 0 aC rfl⟩
  | succ d ih =>
    intro j t aS hj ht h
    have hc := sv_clr_e j (by omega) t ht
    refine br_f (sv_ng 4 (by omega) (by decide)) (sv_em _ j (by omega) t ht fa fb fc fd ff fg fh aK aE aV aS aC aY aD aT aW (fun aS' => nm_r (nI_1 j) (ih (j + 1) (sv_clr t j) aS' (by omega) hc.2 ?_)))
    have h4 : j = 0 ∨ j = 1 ∨ j = 2 ∨ j = 3 := by omega
    rcases h4 with rfl | rfl | rfl | rfl
    · have := sv_k0 t ht; omega
    · have := sv_k1 t ht (by omega); omega
    · have := sv_k2 t ht (by omega); omega
    · have := sv_k3 t ht (by omega); omega
theorem sv_eraseSlots (post : SX → Prop) (t : Nat) (ht : t < 16) (fa fb fc fd ff fg fh : Int32) (aK aE aV aS aC aY aD aT aW : Nat → Int32) (hp : ∀ aS' aC' : Nat → Int32, post (fa, fb, fc, fd, 0, ff, fg, fh, aK, aE, aV, aS', aC', aY, aD, aT, aW)) : wpX_eraseSlots post (fa, fb, fc, fd, nI t, ff, fg, fh, aK, aE, aV, aS, aC, aY, aD, aT, aW) :=
  ⟨5, sv_es2 post fa fb fc fd ff fg fh aK aE aV aC aY aD aT aW (fun aS' aC' t' e => by rw [e]; exact hp aS' aC') 4 0 t aS rfl ht (Or.inl rfl)⟩
theorem sv_ps57 (post : SX → Prop) (s : Nat) (hs : s < 4) (fa fb fc fd fe ff fg fh : Int32) (aK aE aV aC aY aD aT aW : Nat → Int32) (hp : ∀ aS' : Nat → Int32, post (fa, fb, fc, fd, (fe ||| ((1 : Int32) <<< (nI s &&& 31))), ff, fg, fh, aK, aE, aV, aS', aC, aY, aD, aT, aW)) :
    ∀ (d j : Nat) (aS : Nat → Int32), j + d = 8 → wX_putSlot_57 post (nI s) (nI (s * 16)) fa fb fc fd fe ff fg fh (d + 1) (nI j) aK aE aV aS aC aY aD aT aW := by
  intro d
  induction d with
  | zero => intro j aS hj; exact br_t (sv_ge 8 (by omega) (by omega)) (nm_e (hp _))
  | succ d ih =>
    intro j aS hj
    have h : vp_in ((nI (s * 16) + 8) + nI j) 64 := by
      rw [show nI (s * 16) + 8 = nI (s * 16 + 8) from nI_add (s * 16) 8]; exact sv_ia (s * 16 + 8) j 64 (by omega) (by decide)
    exact br_f (sv_ng 8 (by omega) (by decide)) ⟨sv_i16 (by omega), sv_i8 (by omega), h, fun _ _ => nm_r (nI_1 j) (ih (j + 1) _ (by omega))⟩
theorem sv_ps15 (post : SX → Prop) (s : Nat) (hs : s < 4) (x2 : Int32) (fa fb fc fd fe ff fg fh : Int32) (aK aE aV aC aY aD aT aW : Nat → Int32) (hp : ∀ aS' aD' aT' : Nat → Int32, post (fa, fb, fc, fd, (fe ||| ((1 : Int32) <<< (nI s &&& 31))), ff, fg, fh, aK, aE, aV, aS', aC, aY, aD', aT', aW)) :
    ∀ (d j : Nat) (aS : Nat → Int32), j + d = 8 → wX_putSlot_15 post (nI s) x2 (nI (s * 16)) fa fb fc fd fe ff fg fh (d + 1) (nI j) aK aE aV aS aC aY aD aT aW := by
  intro d
  induction d with
  | zero =>
    intro j aS hj
    exact br_t (sv_ge 8 (by omega) (by omega)) (sv_stream _ fa fb fc fd fe ff fg fh aK aE aV aS aC aY aD aT aW _ _ _ (fun aD' aT' => ⟨9, sv_ps57 post s hs fa fb fc fd fe ff fg fh aK aE aV aC aY aD' aT' aW (fun aS' => hp aS' aD' aT') 8 0 aS rfl⟩))
  | succ d ih =>
    intro j aS hj
    exact br_f (sv_ng 8 (by omega) (by decide)) ⟨sv_i16 (by omega), sv_ia (s * 16) j 64 (by omega) (by decide), fun _ _ => nm_r (nI_1 j) (ih (j + 1) _ (by omega))⟩
theorem sv_putSlot (post : SX → Prop) (s : Nat) (hs : s < 4) (x2 : Int32) (fa fb fc fd fe ff fg fh : Int32) (aK aE aV aS aC aY aD aT aW : Nat → Int32) (hp : ∀ aS' aD' aT' : Nat → Int32, post (fa, fb, fc, fd, (fe ||| ((1 : Int32) <<< (nI s &&& 31))), ff, fg, fh, aK, aE, aV, aS', aC, aY, aD', aT', aW)) : wpX_putSlot post (fa, fb, fc, fd, fe, ff, fg, fh, aK, aE, aV, aS, aC, aY, aD, aT, aW) (nI s) x2 :=
  nm_r (pk_mul s 16) (sv_stream _ fa fb fc fd fe ff fg fh aK aE aV aS aC aY aD aT aW _ _ _ (fun aD' aT' => ⟨9, sv_ps15 post s hs x2 fa fb fc fd fe ff fg fh aK aE aV aC aY aD' aT' aW hp 8 0 aS rfl⟩))
theorem sv_fs44 (post : SX → Prop) (fa fb fc fd fe ff fg fh : Int32) (aK aE aV aS aC aY aD aT : Nat → Int32) (hp : ∀ aW' : Nat → Int32, post (fa, fb, fc, fd, fe, ff, fg, fh, aK, aE, aV, aS, aC, aY, aD, aT, aW')) :
    ∀ (d j : Nat) (aW : Nat → Int32), j + d = 9 → wX_forgetSecrets_44 post fa fb fc fd fe ff fg fh (d + 1) (nI j) aK aE aV aS aC aY aD aT aW := by
  intro d
  induction d with
  | zero => intro j aW hj; exact br_t (sv_ge 9 (by omega) (by omega)) (hp _)
  | succ d ih =>
    intro j aW hj
    exact br_f (sv_ng 9 (by omega) (by decide)) ⟨sv_i9 (by omega), fun _ _ => nm_r (nI_1 j) (ih (j + 1) _ (by omega))⟩
theorem sv_fs23 (post : SX → Prop) (fa fb fc fd fe ff fg fh : Int32) (aK aE aV aS aC aY aD aW : Nat → Int32) (hp : ∀ aT' aW' : Nat → Int32, post (fa, fb, fc, fd, fe, ff, fg, fh, aK, aE, aV, aS, aC, aY, aD, aT', aW')) :
    ∀ (d j : Nat) (aT : Nat → Int32), j + d = 16 → wX_forgetSecrets_23 post fa fb fc fd fe ff fg fh (d + 1) (nI j) aK aE aV aS aC aY aD aT aW := by
  intro d
  induction d with
  | zero => intro j aT hj; exact br_t (sv_ge 16 (by omega) (by omega)) ⟨10, sv_fs44 post fa fb fc fd fe ff fg fh aK aE aV aS aC aY aD aT (hp aT) 9 0 aW rfl⟩
  | succ d ih =>
    intro j aT hj
    exact br_f (sv_ng 16 (by omega) (by decide)) ⟨sv_i16 (by omega), fun _ _ => nm_r (nI_1 j) (ih (j + 1) _ (by omega))⟩
theorem sv_fs2 (post : SX → Prop) (fa fb fc fd fe ff fg fh : Int32) (aK aE aV aS aC aD aT aW : Nat → Int32) (hp : ∀ aY' aT' aW' : Nat → Int32, (∀ i, i < 8 → aY' i = 0) → post (fa, fb, fc, fd, fe, ff, fg, fh, aK, aE, aV, aS, aC, aY', aD, aT', aW')) :
    ∀ (d j : Nat) (aY : Nat → Int32), j + d = 8 → (∀ i, i < j → aY i = 0) → wX_forgetSecrets_2 post fa fb fc fd fe ff fg fh (d + 1) (nI j) aK aE aV aS aC aY aD aT aW := by
  intro d
  induction d with
  | zero => intro j aY hj hY; exact br_t (sv_ge 8 (by omega) (by omega)) ⟨17, sv_fs23 post fa fb fc fd fe ff fg fh aK aE aV aS aC aY aD aW (fun aT' aW' => hp aY aT' aW' (fun i hi => hY i (by omega))) 16 0 aT rfl⟩
  | succ d ih =>
    intro j aY hj hY
    refine br_f (sv_ng 8 (by omega) (by decide)) ⟨sv_i8 (by omega), fun aY' hY' => nm_r (nI_1 j) (ih (j + 1) aY' (by omega) ?_)⟩
    intro i hi
    rw [hY', nI_clamp (by omega)]
    by_cases hij : i = j
    · rw [hij]; exact pk_us
    · rw [pk_un hij]; exact hY i (by omega)
theorem sv_forget (post : SX → Prop) (fa fb fc fd fe ff fg fh : Int32) (aK aE aV aS aC aY aD aT aW : Nat → Int32) (hp : ∀ aY' aT' aW' : Nat → Int32, (∀ i, i < 8 → aY' i = 0) → post (fa, fb, fc, fd, fe, ff, fg, fh, aK, aE, aV, aS, aC, aY', aD, aT', aW')) : wpX_forgetSecrets post (fa, fb, fc, fd, fe, ff, fg, fh, aK, aE, aV, aS, aC, aY, aD, aT, aW) :=
  ⟨9, sv_fs2 post fa fb fc fd fe ff fg fh aK aE aV aS aC aD aT aW hp 8 0 aY rfl (fun i hi => absurd hi (by omega))⟩
