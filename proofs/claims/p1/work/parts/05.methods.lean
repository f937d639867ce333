/-! what holds of the class's own state at every turn: the slots' bits, the copy's bits, which sectors are of the newest epoch, and that a locked volume holds no key -/
def sv_P (fa fb fc fe ff fg : Int32) (aE aY : Nat → Int32) : Prop :=
  (∃ t : Nat, t < 16 ∧ fe = nI t ∧ (¬ fa = 0 → t ≠ 0)) ∧ (∃ t : Nat, t < 16 ∧ ff = nI t ∧ (¬ fc = 0 → t ≠ 0)) ∧
  (∃ m : Nat, m ≤ 12 ∧ (∀ i, i < m → aE i = fg) ∧ (∀ i, m ≤ i → i < 12 → aE i ≠ fg)) ∧ (fb = 0 → ∀ i, i < 8 → aY i = 0)
def sv_Inv (u : SX) : Prop := match u with
  | (fa, fb, fc, fd, fe, ff, fg, fh, aK, aE, aV, aS, aC, aY, aD, aT, aW) => sv_P fa fb fc fe ff fg aE aY
def sv_set (t s : Nat) : Nat := if t / 2 ^ s % 2 = 1 then t else t + 2 ^ s
theorem sv_set_e : ∀ s, s < 4 → ∀ t, t < 16 → nI t ||| ((1 : Int32) <<< (nI s &&& 31)) = nI (sv_set t s) ∧ sv_set t s < 16 ∧ sv_set t s ≠ 0 := by decide +kernel
theorem sv_clr_n : ∀ s, s < 4 → ∀ t, t < 16 → t / 2 ^ s % 2 = 1 → sv_pop t ≠ 1 → sv_clr t s ≠ 0 := by decide +kernel
theorem sv_pop_l : ∀ t, t < 16 → sv_pop t < 5 := by decide +kernel
theorem sv_Pset {fa fb fc fe ff fg : Int32} {aE aY : Nat → Int32} (h : sv_P fa fb fc fe ff fg aE aY) (s : Nat) (hs : s < 4) : sv_P fa fb fc (fe ||| ((1 : Int32) <<< (nI s &&& 31))) ff fg aE aY := by
  obtain ⟨⟨t, ht, e, _⟩, h2, h3, h4⟩ := h
  have hc := sv_set_e s hs t ht
  exact ⟨⟨sv_set t s, hc.2.1, by rw [e]; exact hc.1, fun _ => hc.2.2⟩, h2, h3, h4⟩
theorem sv_Pkey {fa fb fb' fc fe ff fg : Int32} {aE aY aY' : Nat → Int32} (h : sv_P fa fb fc fe ff fg aE aY) (hY : fb' = 0 → ∀ i, i < 8 → aY' i = 0) : sv_P fa fb' fc fe ff fg aE aY' :=
  ⟨h.1, h.2.1, h.2.2.1, hY⟩
theorem sv_format (post : Int32 → SX → Prop) (u : SX) (x : Int32) (I : sv_Inv u) (hp : ∀ u', sv_Inv u' → post 0 u') : wpX_format post u x := by
  obtain ⟨fa, fb, fc, fd, fe, ff, fg, fh, aK, aE, aV, aS, aC, aY, aD, aT, aW⟩ := u
  obtain ⟨⟨t, ht, rfl, _⟩, ⟨t2, ht2, rfl, _⟩, _, _⟩ := I
  refine fun fh' _ => sv_makeKey _ 1 0 0 fd (nI t) (nI t2) fg fh' aK aE aV aS aC aY aD aT aW _ (fun aY1 aD1 aT1 => ?_)
  refine sv_eraseSectors _ 1 0 0 fd (nI t) (nI t2) fg fh' aK aE aV aS aC aY1 aD1 aT1 aW (fun aK' aE' aD2 aT2 aW2 hE => ?_)
  refine sv_eraseSlots _ t ht 1 0 0 fd (nI t2) 0 fh' aK' aE' aV aS aC aY1 aD2 aT2 aW2 (fun aS1 aC' => ?_)
  refine sv_putSlot _ 0 (by decide) x 1 0 0 fd 0 (nI t2) 0 fh' aK' aE' aV aS1 aC' aY1 aD2 aT2 aW2 (fun aS' aD' aT3 => ?_)
  refine sv_forget _ 1 0 0 fd (0 ||| ((1 : Int32) <<< (nI 0 &&& 31))) (nI t2) 0 fh' aK' aE' aV aS' aC' aY1 aD' aT3 aW2 (fun aY' aT' aW' hY => ?_)
  exact hp _ ⟨⟨1, by decide, by decide +kernel, fun _ => by decide⟩, ⟨t2, ht2, rfl, fun h => absurd rfl h⟩, ⟨12, by decide, hE, fun i h1 h2 => absurd h2 (by omega)⟩, fun _ => hY⟩
theorem sv_unlock (post : Int32 → SX → Prop) (u : SX) (x : Int32) (I : sv_Inv u) (hp : ∀ r u', sv_Inv u' → post r u') : wpX_unlock post u x := by
  obtain ⟨fa, fb, fc, fd, fe, ff, fg, fh, aK, aE, aV, aS, aC, aY, aD, aT, aW⟩ := u
  have J : sv_P fa fb fc fe ff fg aE aY := I
  refine br_c (fun _ => hp _ _ I) (fun _ => br_c (fun hb => ?_) (fun _ => hp _ _ I))
  refine sv_findSlot _ x fa fb fc fd fe ff fg fh aK aE aV aS aC aY aD aT aW (fun aD' aT' => br_t rfl (sv_forget _ fa fb fc fd fe ff fg fh aK aE aV aS aC aY aD' aT' aW (fun aY' aT2 aW' hY => hp _ _ (sv_Pkey J (fun _ => hY))))) (fun aD' aT' s hs => br_f ?_ (sv_unwrap _ s hs x fa fb fc fd fe ff fg fh aK aE aV aS aC aY aD' aT' aW (fun aY' aD2 aT2 => hp _ _ (sv_Pkey J (fun h => absurd h (by decide))))))
  have h4 : s = 0 ∨ s = 1 ∨ s = 2 ∨ s = 3 := by omega
  rcases h4 with rfl | rfl | rfl | rfl <;> decide
theorem sv_lock (post : Int32 → SX → Prop) (u : SX) (I : sv_Inv u) (hp : ∀ r u', sv_Inv u' → post r u') : wpX_lock post u := by
  obtain ⟨fa, fb, fc, fd, fe, ff, fg, fh, aK, aE, aV, aS, aC, aY, aD, aT, aW⟩ := u
  have J : sv_P fa fb fc fe ff fg aE aY := I
  have h : ∀ z : Int32, wX_lock_22 post z fa fb fc fd fe ff fg fh aK aE aV aS aC aY aD aT aW := fun z => sv_close _ fa fb fc fd fe ff fg fh aK aE aV aS aC aY aD aT aW (fun aY' aT' aW' hY => hp _ _ (sv_Pkey J (fun _ => hY)))
  exact br_c (fun _ => hp _ _ I) (fun _ => br_c (fun _ => h _) (fun _ => h _))
theorem sv_state (post : Int32 → Prop) (u : SX) (hp : ∀ r, post r) : wpX_state post u := by
  obtain ⟨fa, fb, fc, fd, fe, ff, fg, fh, aK, aE, aV, aS, aC, aY, aD, aT, aW⟩ := u
  exact br_c (fun _ => hp _) (fun _ => br_c (fun _ => hp _) (fun _ => hp _))
theorem sv_read (post : Int32 → SX → Prop) (u : SX) (x y : Int32) (I : sv_Inv u) (hp : ∀ r u', sv_Inv u' → post r u') : wpX_read post u x y := by
  obtain ⟨fa, fb, fc, fd, fe, ff, fg, fh, aK, aE, aV, aS, aC, aY, aD, aT, aW⟩ := u
  unfold wpX_read
  refine sv_isSector _ x fa fb fc fd fe ff fg fh aK aE aV aS aC aY aD aT aW (br_t rfl (hp _ _ I)) (fun i hi ei => br_f (by decide) ?_)
  refine sv_isCell _ y fa fb fc fd fe ff fg fh aK aE aV aS aC aY aD aT aW (br_t rfl (hp _ _ I)) (fun j hj ej => br_f (by decide) (br_c (fun _ => hp _ _ I) (fun _ => ?_)))
  rw [ei, ej]
  exact sv_isDamaged _ i hi fa fb fc fd fe ff fg fh aK aE aV aS aC aY aD aT aW (br_t rfl (sv_unseal _ i hi fa fb fc fd fe ff fg fh aK aE aV aS aC aY aD aT aW (fun aD' aT' aW' => ⟨sv_i9 (by omega), hp _ _ I⟩))) (br_f (by decide) (hp _ _ I))
theorem sv_write (post : Int32 → SX → Prop) (u : SX) (x y z : Int32) (I : sv_Inv u) (hp : ∀ r u', sv_Inv u' → post r u') : wpX_write post u x y z := by
  obtain ⟨fa, fb, fc, fd, fe, ff, fg, fh, aK, aE, aV, aS, aC, aY, aD, aT, aW⟩ := u
  unfold wpX_write
  refine sv_isSector _ x fa fb fc fd fe ff fg fh aK aE aV aS aC aY aD aT aW (br_t rfl (hp _ _ I)) (fun i hi ei => br_f (by decide) ?_)
  refine sv_isCell _ y fa fb fc fd fe ff fg fh aK aE aV aS aC aY aD aT aW (br_t rfl (hp _ _ I)) (fun j hj ej => br_f (by decide) (br_c (fun _ => hp _ _ I) (fun _ => ?_)))
  rw [ei, ej]
  exact sv_isDamaged _ i hi fa fb fc fd fe ff fg fh aK aE aV aS aC aY aD aT aW (br_t rfl (sv_unseal _ i hi fa fb fc fd fe ff fg fh aK aE aV aS aC aY aD aT aW (fun aD1 aT1 aW1 => ⟨sv_i9 (by omega), fun aW2 _ =>
    sv_keepNew _ i hi fa fb fc fd fe ff fg fh aK aE aV aS aC aY aD1 aT1 aW2 (fun aK' aV' aD' aT' aW' => hp _ _ I)⟩))) (br_f (by decide) (hp _ _ I))
theorem sv_fl38 (post : Int32 → SX → Prop) (i : Nat) (hi : i < 12) (x2 x3 x4 : Int32) (fa fb fc fd fe ff fg fh : Int32) (aK aE aV aS aC aY aD aT : Nat → Int32) (hp : ∀ aK' aV' aD' aT' aW' : Nat → Int32, post x4 (fa, fb, fc, fd, fe, ff, fg, fh, aK', aE, aV', aS, aC, aY, aD', aT', aW')) :
    ∀ (d j : Nat) (aW : Nat → Int32), j + d = 8 → wX_fill_38 post (nI i) x2 x3 x4 fa fb fc fd fe ff fg fh (d + 1) (nI j) aK aE aV aS aC aY aD aT aW := by
  intro d
  induction d with
  | zero => intro j aW hj; exact br_t (sv_ge 8 (by omega) (by omega)) (sv_keepNew _ i hi fa fb fc fd fe ff fg fh aK aE aV aS aC aY aD aT aW hp)
  | succ d ih =>
    intro j aW hj
    exact br_f (sv_ng 8 (by omega) (by decide)) ⟨sv_i9 (by omega), fun _ _ => nm_r (nI_1 j) (ih (j + 1) _ (by omega))⟩
theorem sv_fill (post : Int32 → SX → Prop) (u : SX) (x y z : Int32) (I : sv_Inv u) (hp : ∀ r u', sv_Inv u' → post r u') : wpX_fill post u x y z := by
  obtain ⟨fa, fb, fc, fd, fe, ff, fg, fh, aK, aE, aV, aS, aC, aY, aD, aT, aW⟩ := u
  unfold wpX_fill
  refine sv_isSector _ x fa fb fc fd fe ff fg fh aK aE aV aS aC aY aD aT aW (br_t rfl (hp _ _ I)) (fun i hi ei => br_f (by decide) (br_c (fun _ => hp _ _ I) (fun _ => ?_)))
  rw [ei]
  exact sv_isDamaged _ i hi fa fb fc fd fe ff fg fh aK aE aV aS aC aY aD aT aW (br_t rfl ⟨9, sv_fl38 post i hi y z 0 fa fb fc fd fe ff fg fh aK aE aV aS aC aY aD aT (fun aK' aV' aD' aT' aW' => hp _ _ I) 8 0 aW rfl⟩) (br_f (by decide) ⟨9, sv_fl38 post i hi y z 1 fa fb fc fd fe ff fg fh aK aE aV aS aC aY aD aT (fun aK' aV' aD' aT' aW' => hp _ _ I) 8 0 aW rfl⟩)
theorem sv_check (post : Int32 → Prop) (u : SX) (x : Int32) (hp : ∀ r, post r) : wpX_check post u x := by
  obtain ⟨fa, fb, fc, fd, fe, ff, fg, fh, aK, aE, aV, aS, aC, aY, aD, aT, aW⟩ := u
  unfold wpX_check
  refine sv_isSector _ x fa fb fc fd fe ff fg fh aK aE aV aS aC aY aD aT aW (br_t rfl (hp _)) (fun i hi ei => br_f (by decide) (br_c (fun _ => hp _) (fun _ => ?_)))
  rw [ei]
  exact sv_isDamaged _ i hi fa fb fc fd fe ff fg fh aK aE aV aS aC aY aD aT aW (br_t rfl (hp _)) (br_f (by decide) (hp _))
theorem sv_ds9 (post : Int32 → SX → Prop) (x1 : Int32) (fa fb fc fd fe ff fg fh : Int32) (aK aE aV aS aC aY aD aT aW : Nat → Int32) (hp : ∀ r : Int32, post r (fa, fb, fc, fd, fe, ff, fg, fh, aK, aE, aV, aS, aC, aY, aD, aT, aW)) :
    ∀ (d j : Nat) (x2 : Int32), j + d = 8 → wX_digestOfSector_9 post x1 fa fb fc fd fe ff fg fh aK aE aV aS aC aY aD aT aW (d + 1) x2 (nI j) := by
  intro d
  induction d with
  | zero => intro j x2 hj; exact br_t (sv_ge 8 (by omega) (by omega)) (hp _)
  | succ d ih =>
    intro j x2 hj
    exact br_f (sv_ng 8 (by omega) (by decide)) ⟨sv_i9 (by omega), fun _ _ => nm_r (nI_1 j) (ih (j + 1) _ (by omega))⟩
theorem sv_digSec (post : Int32 → SX → Prop) (i : Nat) (hi : i < 12) (fa fb fc fd fe ff fg fh : Int32) (aK aE aV aS aC aY aD aT aW : Nat → Int32) (hp : ∀ aD' aT' aW' : Nat → Int32, ∀ r : Int32, post r (fa, fb, fc, fd, fe, ff, fg, fh, aK, aE, aV, aS, aC, aY, aD', aT', aW')) : wpX_digestOfSector post (fa, fb, fc, fd, fe, ff, fg, fh, aK, aE, aV, aS, aC, aY, aD, aT, aW) (nI i) := by
  unfold wpX_digestOfSector
  exact sv_unseal _ i hi fa fb fc fd fe ff fg fh aK aE aV aS aC aY aD aT aW (fun aD' aT' aW' => ⟨9, sv_ds9 post (nI i) fa fb fc fd fe ff fg fh aK aE aV aS aC aY aD' aT' aW' (hp aD' aT' aW') 8 0 0 rfl⟩)
theorem sv_di13 (post : Int32 → SX → Prop) (fa fb fc fd fe ff fg fh : Int32) (aK aE aV aS aC aY : Nat → Int32) (hp : ∀ aD' aT' aW' : Nat → Int32, ∀ r : Int32, post r (fa, fb, fc, fd, fe, ff, fg, fh, aK, aE, aV, aS, aC, aY, aD', aT', aW')) :
    ∀ (d j : Nat) (x1 : Int32) (aD aT aW : Nat → Int32), j + d = 12 → wX_digest_13 post (d + 1) x1 (nI j) fa fb fc fd fe ff fg fh aK aE aV aS aC aY aD aT aW := by
  intro d
  induction d with
  | zero => intro j x1 aD aT aW hj; exact br_t (sv_ge 12 (by omega) (by omega)) (hp _ _ _ _)
  | succ d ih =>
    intro j x1 aD aT aW hj
    exact br_f (sv_ng 12 (by omega) (by decide)) (sv_isDamaged _ j (by omega) fa fb fc fd fe ff fg fh aK aE aV aS aC aY aD aT aW (br_t rfl (sv_digSec _ j (by omega) fa fb fc fd fe ff fg fh aK aE aV aS aC aY aD aT aW (fun aD' aT' aW' r => fun _ _ => nm_r (nI_1 j) (ih (j + 1) _ aD' aT' aW' (by omega))))) (br_f (by decide) (nm_r (nI_1 j) (ih (j + 1) _ aD aT aW (by omega)))))
theorem sv_digest (post : Int32 → SX → Prop) (u : SX) (I : sv_Inv u) (hp : ∀ r u', sv_Inv u' → post r u') : wpX_digest post u := by
  obtain ⟨fa, fb, fc, fd, fe, ff, fg, fh, aK, aE, aV, aS, aC, aY, aD, aT, aW⟩ := u
  exact br_c (fun _ => hp _ _ I) (fun _ => ⟨13, sv_di13 post fa fb fc fd fe ff fg fh aK aE aV aS aC aY (fun aD' aT' aW' r => hp _ _ I) 12 0 0 aD aT aW rfl⟩)
theorem sv_ak24 (post : Int32 → SX → Prop) (x : Int32) (fa fb fc fd fe ff fg fh : Int32) (aK aE aV aS aC aY aD aT aW : Nat → Int32) (hf : post (-7) (fa, fb, fc, fd, fe, ff, fg, fh, aK, aE, aV, aS, aC, aY, aD, aT, aW)) (hp : ∀ aS' aD' aT' : Nat → Int32, ∀ s : Nat, s < 4 → post (nI s) (fa, fb, fc, fd, (fe ||| ((1 : Int32) <<< (nI s &&& 31))), ff, fg, fh, aK, aE, aV, aS', aC, aY, aD', aT', aW)) :
    ∀ (d j : Nat), j + d = 4 → wX_addKey_24 post x fa fb fc fd fe ff fg fh aK aE aV aS aC aY aD aT aW (d + 1) (nI j) := by
  intro d
  induction d with
  | zero => intro j hj; exact br_t (sv_ge 4 (by omega) (by omega)) hf
  | succ d ih =>
    intro j hj
    exact br_f (sv_ng 4 (by omega) (by decide)) (sv_isTaken _ (nI j) fa fb fc fd fe ff fg fh aK aE aV aS aC aY aD aT aW (br_t rfl (sv_putSlot _ j (by omega) x fa fb fc fd fe ff fg fh aK aE aV aS aC aY aD aT aW (fun aS' aD' aT' => hp aS' aD' aT' j (by omega)))) (br_f (by decide) (nm_r (nI_1 j) (ih (j + 1) (by omega)))))
theorem sv_addKey (post : Int32 → SX → Prop) (u : SX) (x : Int32) (I : sv_Inv u) (hp : ∀ r u', sv_Inv u' → post r u') : wpX_addKey post u x := by
  obtain ⟨fa, fb, fc, fd, fe, ff, fg, fh, aK, aE, aV, aS, aC, aY, aD, aT, aW⟩ := u
  have J : sv_P fa fb fc fe ff fg aE aY := I
  refine br_c (fun _ => hp _ _ I) (fun _ => sv_findSlot _ x fa fb fc fd fe ff fg fh aK aE aV aS aC aY aD aT aW (fun aD' aT' => br_t rfl ⟨5, sv_ak24 post x fa fb fc fd fe ff fg fh aK aE aV aS aC aY aD' aT' aW (hp _ _ J) (fun aS' aD2 aT2 s hs => hp _ _ (sv_Pset J s hs)) 4 0 rfl⟩) (fun aD' aT' s hs => br_f ?_ (hp _ _ J)))
  have h4 : s = 0 ∨ s = 1 ∨ s = 2 ∨ s = 3 := by omega
  rcases h4 with rfl | rfl | rfl | rfl <;> decide
theorem sv_removeKey (post : Int32 → SX → Prop) (u : SX) (x : Int32) (I : sv_Inv u) (hp : ∀ r u', sv_Inv u' → post r u') : wpX_removeKey post u x := by
  obtain ⟨fa, fb, fc, fd, fe, ff, fg, fh, aK, aE, aV, aS, aC, aY, aD, aT, aW⟩ := u
  have J : sv_P fa fb fc fe ff fg aE aY := I
  obtain ⟨⟨t, ht, rfl, hz⟩, h2, h3, hY⟩ := J
  unfold wpX_removeKey
  refine sv_isSlot _ x fa fb fc fd (nI t) ff fg fh aK aE aV aS aC aY aD aT aW (br_t rfl (hp _ _ I)) (fun s hs es => br_f (by decide) (br_c (fun _ => hp _ _ I) (fun _ => ?_)))
  rw [es]
  refine br_c (fun hb => br_f (by decide) (sv_countT _ t ht fa fb fc fd ff fg fh aK aE aV aS aC aY aD aT aW (br_c (fun _ => hp _ _ I) (fun h1 => ?_)))) (fun _ => br_t rfl (hp _ _ I))
  refine sv_em _ s hs t ht fa fb fc fd ff fg fh aK aE aV aS aC aY aD aT aW (fun aS' => sv_count _ fa fb fc fd (nI (sv_clr t s)) ff fg fh aK aE aV aS' aC aY aD aT aW (fun r => hp _ _ ⟨⟨sv_clr t s, (sv_clr_e s hs t ht).2, rfl, fun _ => ?_⟩, h2, h3, hY⟩))
  rw [sv_bit s hs t ht] at hb
  refine sv_clr_n s hs t ht ?_ (fun h => h1 (by rw [h]; rfl))
  have h2' : t / 2 ^ s % 2 < 2 := Nat.mod_lt _ (by decide)
  exact (nI_eq (by omega) (by decide)).mp hb
theorem sv_changeKey (post : Int32 → SX → Prop) (u : SX) (x y : Int32) (I : sv_Inv u) (hp : ∀ r u', sv_Inv u' → post r u') : wpX_changeKey post u x y := by
  obtain ⟨fa, fb, fc, fd, fe, ff, fg, fh, aK, aE, aV, aS, aC, aY, aD, aT, aW⟩ := u
  have J : sv_P fa fb fc fe ff fg aE aY := I
  unfold wpX_changeKey
  refine sv_isSlot _ x fa fb fc fd fe ff fg fh aK aE aV aS aC aY aD aT aW (br_t rfl (hp _ _ I)) (fun s hs es => br_f (by decide) (br_c (fun _ => hp _ _ I) (fun _ => ?_)))
  rw [es]
  refine sv_isTaken _ _ fa fb fc fd fe ff fg fh aK aE aV aS aC aY aD aT aW (br_t rfl (hp _ _ I)) (br_f (by decide) (sv_findSlot _ y fa fb fc fd fe ff fg fh aK aE aV aS aC aY aD aT aW (fun aD' aT' => ?_) (fun aD' aT' s' hs' => ?_)))
  · exact br_c (fun _ => hp _ _ J) (fun _ => br_t rfl (sv_putSlot _ s hs y fa fb fc fd fe ff fg fh aK aE aV aS aC aY aD' aT' aW (fun aS' aD2 aT2 => hp _ _ (sv_Pset J s hs))))
  · exact br_c (fun _ => hp _ _ J) (fun _ => br_c (fun _ => sv_putSlot _ s hs y fa fb fc fd fe ff fg fh aK aE aV aS aC aY aD' aT' aW (fun aS' aD2 aT2 => hp _ _ (sv_Pset J s hs))) (fun _ => hp _ _ J))
theorem sv_slotOf (post : Int32 → SX → Prop) (u : SX) (x : Int32) (I : sv_Inv u) (hp : ∀ r u', sv_Inv u' → post r u') : wpX_slotOf post u x := by
  obtain ⟨fa, fb, fc, fd, fe, ff, fg, fh, aK, aE, aV, aS, aC, aY, aD, aT, aW⟩ := u
  have J : sv_P fa fb fc fe ff fg aE aY := I
  have h27 : ∀ (r : Int32) (aD aT : Nat → Int32), ((fb = 0 → wpX_forgetSecrets (fun u => wX_slotOf_27 post r u.1 u.2.1 u.2.2.1 u.2.2.2.1 u.2.2.2.2.1 u.2.2.2.2.2.1 u.2.2.2.2.2.2.1 u.2.2.2.2.2.2.2.1 u.2.2.2.2.2.2.2.2.1 u.2.2.2.2.2.2.2.2.2.1 u.2.2.2.2.2.2.2.2.2.2.1 u.2.2.2.2.2.2.2.2.2.2.2.1 u.2.2.2.2.2.2.2.2.2.2.2.2.1 u.2.2.2.2.2.2.2.2.2.2.2.2.2.1 u.2.2.2.2.2.2.2.2.2.2.2.2.2.2.1 u.2.2.2.2.2.2.2.2.2.2.2.2.2.2.2.1 u.2.2.2.2.2.2.2.2.2.2.2.2.2.2.2.2) (fa, fb, fc, fd, fe, ff, fg, fh, aK, aE, aV, aS, aC, aY, aD, aT, aW)) ∧ (¬ fb = 0 → wX_slotOf_27 post r fa fb fc fd fe ff fg fh aK aE aV aS aC aY aD aT aW)) := by
    intro r aD aT
    exact br_c (fun hb => sv_forget _ fa fb fc fd fe ff fg fh aK aE aV aS aC aY aD aT aW (fun aY' aT' aW' hY => br_c (fun _ => hp _ _ (sv_Pkey J (fun _ => hY))) (fun _ => hp _ _ (sv_Pkey J (fun _ => hY))))) (fun hb => br_c (fun _ => hp _ _ J) (fun _ => hp _ _ J))
  exact br_c (fun _ => hp _ _ I) (fun _ => sv_findSlot _ x fa fb fc fd fe ff fg fh aK aE aV aS aC aY aD aT aW (fun aD' aT' => h27 _ aD' aT') (fun aD' aT' s hs => h27 _ aD' aT'))
