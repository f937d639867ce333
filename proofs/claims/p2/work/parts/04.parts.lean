theorem sv_isTaken (post : Int32 → Prop) (x : Int32) (fa fb fc fd fe ff fg fh : Int32) (aK aE aV aS aC aY aD aT aW : Nat → Int32) (h0 : post 0) (h1 : post 1) : wpX_isTaken post (fa, fb, fc, fd, fe, ff, fg, fh, aK, aE, aV, aS, aC, aY, aD, aT, aW) x :=
  br_c (fun _ => h1) (fun _ => h0)
theorem sv_sb4 (post : Int32 → Prop) (s : Nat) (hs : s < 4) (fa fb fc fd fe ff fg fh : Int32) (aK aE aV aS aC aY aD aT aW : Nat → Int32) (h0 : post 0) (h1 : post 1) :
    ∀ (d j : Nat) (x2 : Int32), j + d = 8 → wX_streamBelongsTo_4 post (nI s) fa fb fc fd fe ff fg fh aK aE aV aS aC aY aD aT aW (d + 1) x2 (nI j) := by
  intro d
  induction d with
  | zero => intro j x2 hj; exact br_t (sv_ge 8 (by omega) (by omega)) (br_c (fun _ => h1) (fun _ => h0))
  | succ d ih =>
    intro j x2 hj
    have h : vp_in ((nI s * 16) + nI j) 64 := by
      rw [show nI s * 16 = nI (s * 16) from pk_mul s 16]; exact sv_ia (s * 16) j 64 (by omega) (by decide)
    exact br_f (sv_ng 8 (by omega) (by decide)) ⟨h, sv_i16 (by omega), fun _ _ => nm_r (nI_1 j) (ih (j + 1) _ (by omega))⟩
theorem sv_belongs (post : Int32 → Prop) (s : Nat) (hs : s < 4) (fa fb fc fd fe ff fg fh : Int32) (aK aE aV aS aC aY aD aT aW : Nat → Int32) (h0 : post 0) (h1 : post 1) : wpX_streamBelongsTo post (fa, fb, fc, fd, fe, ff, fg, fh, aK, aE, aV, aS, aC, aY, aD, aT, aW) (nI s) :=
  ⟨9, sv_sb4 post s hs fa fb fc fd fe ff fg fh aK aE aV aS aC aY aD aT aW h0 h1 8 0 0 rfl⟩
theorem sv_fi9 (post : Int32 → SX → Prop) (fa fb fc fd fe ff fg fh : Int32) (aK aE aV aS aC aY aD aT aW : Nat → Int32) (hn : post (-1) (fa, fb, fc, fd, fe, ff, fg, fh, aK, aE, aV, aS, aC, aY, aD, aT, aW)) (hp : ∀ s : Nat, s < 4 → post (nI s) (fa, fb, fc, fd, fe, ff, fg, fh, aK, aE, aV, aS, aC, aY, aD, aT, aW)) :
    ∀ (d j : Nat), j + d = 4 → wX_findSlot_9 post fa fb fc fd fe ff fg fh aK aE aV aS aC aY aD aT aW (d + 1) (nI j) := by
  intro d
  induction d with
  | zero => intro j hj; exact br_t (sv_ge 4 (by omega) (by omega)) hn
  | succ d ih =>
    intro j hj
    have hnext : ∀ y : Int32, y = nI j + 1 → wX_findSlot_9 post fa fb fc fd fe ff fg fh aK aE aV aS aC aY aD aT aW (d + 1) y := nm_r (nI_1 j) (ih (j + 1) (by omega))
    exact br_f (sv_ng 4 (by omega) (by decide)) (sv_isTaken _ (nI j) fa fb fc fd fe ff fg fh aK aE aV aS aC aY aD aT aW (br_t rfl hnext) (br_f (by decide) (sv_belongs _ j (by omega) fa fb fc fd fe ff fg fh aK aE aV aS aC aY aD aT aW (br_t rfl hnext) (br_f (by decide) (hp j (by omega))))))
theorem sv_findSlot (post : Int32 → SX → Prop) (x : Int32) (fa fb fc fd fe ff fg fh : Int32) (aK aE aV aS aC aY aD aT aW : Nat → Int32) (hn : ∀ aD' aT' : Nat → Int32, post (-1) (fa, fb, fc, fd, fe, ff, fg, fh, aK, aE, aV, aS, aC, aY, aD', aT', aW)) (hp : ∀ aD' aT' : Nat → Int32, ∀ s : Nat, s < 4 → post (nI s) (fa, fb, fc, fd, fe, ff, fg, fh, aK, aE, aV, aS, aC, aY, aD', aT', aW)) : wpX_findSlot post (fa, fb, fc, fd, fe, ff, fg, fh, aK, aE, aV, aS, aC, aY, aD, aT, aW) x := by
  unfold wpX_findSlot
  exact sv_stream _ fa fb fc fd fe ff fg fh aK aE aV aS aC aY aD aT aW _ _ _ (fun aD' aT' => ⟨5, sv_fi9 post fa fb fc fd fe ff fg fh aK aE aV aS aC aY aD' aT' aW (hn aD' aT') (hp aD' aT') 4 0 rfl⟩)
theorem sv_uk21 (post : SX → Prop) (w : Nat) (hw : w + 8 ≤ 64) (fa fb fc fd fe ff fg fh : Int32) (aK aE aV aS aC aD aT aW : Nat → Int32) (hp : ∀ aY' : Nat → Int32, post (fa, fb, fc, fd, fe, ff, fg, fh, aK, aE, aV, aS, aC, aY', aD, aT, aW)) :
    ∀ (d j : Nat) (aY : Nat → Int32), j + d = 8 → wX_unwrapKey_21 post (nI w) fa fb fc fd fe ff fg fh (d + 1) (nI j) aK aE aV aS aC aY aD aT aW := by
  intro d
  induction d with
  | zero => intro j aY hj; exact br_t (sv_ge 8 (by omega) (by omega)) (hp _)
  | succ d ih =>
    intro j aY hj
    exact br_f (sv_ng 8 (by omega) (by decide)) ⟨sv_ia w j 64 (by omega) (by decide), sv_i16 (by omega), sv_i8 (by omega), fun _ _ => nm_r (nI_1 j) (ih (j + 1) _ (by omega))⟩
theorem sv_unwrap (post : SX → Prop) (s : Nat) (hs : s < 4) (x : Int32) (fa fb fc fd fe ff fg fh : Int32) (aK aE aV aS aC aY aD aT aW : Nat → Int32) (hp : ∀ aY' aD' aT' : Nat → Int32, post (fa, fb, fc, fd, fe, ff, fg, fh, aK, aE, aV, aS, aC, aY', aD', aT', aW)) : wpX_unwrapKey post (fa, fb, fc, fd, fe, ff, fg, fh, aK, aE, aV, aS, aC, aY, aD, aT, aW) (nI s) x :=
  nm_r (show nI s * 16 + 8 = nI (s * 16 + 8) by rw [show nI s * 16 = nI (s * 16) from pk_mul s 16]; exact nI_add (s * 16) 8) (sv_stream _ fa fb fc fd fe ff fg fh aK aE aV aS aC aY aD aT aW _ _ _ (fun aD' aT' =>
    ⟨9, sv_uk21 post (s * 16 + 8) (by omega) fa fb fc fd fe ff fg fh aK aE aV aS aC aD' aT' aW (fun aY' => hp aY' aD' aT') 8 0 aY rfl⟩))
theorem sv_close (post : SX → Prop) (fa fb fc fd fe ff fg fh : Int32) (aK aE aV aS aC aY aD aT aW : Nat → Int32) (hp : ∀ aY' aT' aW' : Nat → Int32, (∀ i, i < 8 → aY' i = 0) → post (fa, 0, fc, fd, fe, ff, fg, fh, aK, aE, aV, aS, aC, aY', aD, aT', aW')) : wpX_close post (fa, fb, fc, fd, fe, ff, fg, fh, aK, aE, aV, aS, aC, aY, aD, aT, aW) :=
  sv_forget _ fa 0 fc fd fe ff fg fh aK aE aV aS aC aY aD aT aW hp
theorem sv_isSector (post : Int32 → Prop) (x : Int32) (fa fb fc fd fe ff fg fh : Int32) (aK aE aV aS aC aY aD aT aW : Nat → Int32) (h0 : post 0) (h1 : ∀ i : Nat, i < 12 → x = nI i → post 1) : wpX_isSector post (fa, fb, fc, fd, fe, ff, fg, fh, aK, aE, aV, aS, aC, aY, aD, aT, aW) x :=
  br_c (fun _ => h0) (fun hx => br_c (fun _ => h0) (fun hy => by
    obtain ⟨i, hi, e⟩ := nI_of hx
    refine h1 i ?_ e
    rw [e] at hy
    by_cases h : i < 12
    · exact h
    · exact absurd (nI_le (a := 12) (b := i) (by omega) hi) hy))
theorem sv_isCell (post : Int32 → Prop) (x : Int32) (fa fb fc fd fe ff fg fh : Int32) (aK aE aV aS aC aY aD aT aW : Nat → Int32) (h0 : post 0) (h1 : ∀ i : Nat, i < 8 → x = nI i → post 1) : wpX_isCell post (fa, fb, fc, fd, fe, ff, fg, fh, aK, aE, aV, aS, aC, aY, aD, aT, aW) x :=
  br_c (fun _ => h0) (fun hx => br_c (fun _ => h0) (fun hy => by
    obtain ⟨i, hi, e⟩ := nI_of hx
    refine h1 i ?_ e
    rw [e] at hy
    by_cases h : i < 8
    · exact h
    · exact absurd (nI_le (a := 8) (b := i) (by omega) hi) hy))
theorem sv_isSlot (post : Int32 → Prop) (x : Int32) (fa fb fc fd fe ff fg fh : Int32) (aK aE aV aS aC aY aD aT aW : Nat → Int32) (h0 : post 0) (h1 : ∀ i : Nat, i < 4 → x = nI i → post 1) : wpX_isSlot post (fa, fb, fc, fd, fe, ff, fg, fh, aK, aE, aV, aS, aC, aY, aD, aT, aW) x :=
  br_c (fun _ => h0) (fun hx => br_c (fun _ => h0) (fun hy => by
    obtain ⟨i, hi, e⟩ := nI_of hx
    refine h1 i ?_ e
    rw [e] at hy
    by_cases h : i < 4
    · exact h
    · exact absurd (nI_le (a := 4) (b := i) (by omega) hi) hy))
theorem sv_isDamaged (post : Int32 → Prop) (i : Nat) (hi : i < 12) (fa fb fc fd fe ff fg fh : Int32) (aK aE aV aS aC aY aD aT aW : Nat → Int32) (h0 : post 0) (h1 : post 1) : wpX_isDamaged post (fa, fb, fc, fd, fe, ff, fg, fh, aK, aE, aV, aS, aC, aY, aD, aT, aW) (nI i) :=
  ⟨sv_i12 hi, sv_rowOf _ i hi _ fa fb fc fd fe ff fg fh aK aE aV aS aC aY aD aT aW (fun w hw => ⟨sv_ia w 8 216 (by omega) (by decide), sv_sumK _ w hw fa fb fc fd fe ff fg fh aK aE aV aS aC aY aD aT aW (fun _ => br_c (fun _ => h0) (fun _ => h1))⟩)⟩
theorem sv_uw29 (post : SX → Prop) (w : Nat) (hw : w + 9 ≤ 216) (fa fb fc fd fe ff fg fh : Int32) (aK aE aV aS aC aY aD aT : Nat → Int32) (hp : ∀ aW' : Nat → Int32, post (fa, fb, fc, fd, fe, ff, fg, fh, aK, aE, aV, aS, aC, aY, aD, aT, aW')) :
    ∀ (d j : Nat) (aW : Nat → Int32), j + d = 8 → wX_unsealToWork_29 post (nI w) fa fb fc fd fe ff fg fh (d + 1) (nI j) aK aE aV aS aC aY aD aT aW := by
  intro d
  induction d with
  | zero => intro j aW hj; exact br_t (sv_ge 8 (by omega) (by omega)) (hp _)
  | succ d ih =>
    intro j aW hj
    exact br_f (sv_ng 8 (by omega) (by decide)) ⟨sv_ia w j 216 (by omega) (by decide), sv_i16 (by omega), sv_i9 (by omega), fun _ _ => nm_r (nI_1 j) (ih (j + 1) _ (by omega))⟩
theorem sv_unseal (post : SX → Prop) (i : Nat) (hi : i < 12) (fa fb fc fd fe ff fg fh : Int32) (aK aE aV aS aC aY aD aT aW : Nat → Int32) (hp : ∀ aD' aT' aW' : Nat → Int32, post (fa, fb, fc, fd, fe, ff, fg, fh, aK, aE, aV, aS, aC, aY, aD', aT', aW')) : wpX_unsealToWork post (fa, fb, fc, fd, fe, ff, fg, fh, aK, aE, aV, aS, aC, aY, aD, aT, aW) (nI i) :=
  ⟨sv_i12 hi, sv_seedFromKey _ i hi _ fa fb fc fd fe ff fg fh aK aE aV aS aC aY aD aT aW (fun aD1 => sv_scramble _ fa fb fc fd fe ff fg fh aK aE aV aS aC aY aD1 aT aW (fun aD' aT' => ⟨sv_i12 hi, sv_rowOf _ i hi _ fa fb fc fd fe ff fg fh aK aE aV aS aC aY aD' aT' aW (fun w hw =>
    ⟨9, sv_uw29 post w hw fa fb fc fd fe ff fg fh aK aE aV aS aC aY aD' aT' (fun aW' => hp aD' aT' aW') 8 0 aW rfl⟩)⟩))⟩
theorem sv_keepNew (post : SX → Prop) (i : Nat) (hi : i < 12) (fa fb fc fd fe ff fg fh : Int32) (aK aE aV aS aC aY aD aT aW : Nat → Int32) (hp : ∀ aK' aV' aD' aT' aW' : Nat → Int32, post (fa, fb, fc, fd, fe, ff, fg, fh, aK', aE, aV', aS, aC, aY, aD', aT', aW')) : wpX_keepNewContents post (fa, fb, fc, fd, fe, ff, fg, fh, aK, aE, aV, aS, aC, aY, aD, aT, aW) (nI i) :=
  ⟨sv_i12 hi, sv_i12 hi, fun aV' _ => ⟨sv_i12 hi, sv_sealWork _ i hi _ fa fb fc fd fe ff fg fh aK aE aV' aS aC aY aD aT aW (fun aD' aT' aW' => ⟨sv_i12 hi, sv_rowOf _ i hi _ fa fb fc fd fe ff fg fh aK aE aV' aS aC aY aD' aT' aW' (fun w hw =>
    sv_keepWork _ w hw 9 fa fb fc fd fe ff fg fh aK aE aV' aS aC aY aD' aT' aW' (fun aK' => hp aK' aV' aD' aT' aW'))⟩)⟩⟩
theorem sv_writeRenewed (post : SX → Prop) (i : Nat) (hi : i < 12) (x : Int32) (fa fb fc fd fe ff fg fh : Int32) (aK aE aV aS aC aY aD aT aW : Nat → Int32) (hp : ∀ aK' aD' aT' aW' : Nat → Int32, post (fa, fb, fc, fd, fe, ff, fg, fh, aK', aE, aV, aS, aC, aY, aD', aT', aW')) : wpX_writeRenewed post (fa, fb, fc, fd, fe, ff, fg, fh, aK, aE, aV, aS, aC, aY, aD, aT, aW) (nI i) x :=
  ⟨sv_i12 hi, sv_rowOf _ i hi _ fa fb fc fd fe ff fg fh aK aE aV aS aC aY aD aT aW (fun w hw => ⟨sv_ia w 8 216 (by omega) (by decide), sv_sumK _ w hw fa fb fc fd fe ff fg fh aK aE aV aS aC aY aD aT aW (fun _ => fun _ _ =>
    sv_unseal _ i hi fa fb fc fd fe ff fg fh aK aE aV aS aC aY aD aT aW (fun aD1 aT1 aW1 => sv_sealWork _ i hi _ fa fb fc fd fe ff fg fh aK aE aV aS aC aY aD1 aT1 aW1 (fun aD' aT' aW2 => fun aW' _ =>
      sv_rowOf _ i hi _ fa fb fc fd fe ff fg fh aK aE aV aS aC aY aD' aT' aW' (fun w2 hw2 => sv_keepWork _ w2 hw2 x fa fb fc fd fe ff fg fh aK aE aV aS aC aY aD' aT' aW' (fun aK' => hp aK' aD' aT' aW')))))⟩)⟩
theorem sv_fr24 (post : SX → Prop) (w : Nat) (hw : w + 9 ≤ 216) (fa fb fc fd fe ff fg fh : Int32) (aE aV aS aC aY aD aT aW : Nat → Int32) (hp : ∀ aK' : Nat → Int32, post (fa, fb, fc, fd, fe, ff, fg, fh, aK', aE, aV, aS, aC, aY, aD, aT, aW)) :
    ∀ (d j : Nat) (aK : Nat → Int32), j + d = 9 → wX_finishRenewed_24 post (nI w) fa fb fc fd fe ff fg fh (d + 1) (nI j) aK aE aV aS aC aY aD aT aW := by
  intro d
  induction d with
  | zero => intro j aK hj; exact br_t (sv_ge 9 (by omega) (by omega)) (hp _)
  | succ d ih =>
    intro j aK hj
    exact br_f (sv_ng 9 (by omega) (by decide)) ⟨sv_ia w j 216 (by omega) (by decide), fun _ _ => nm_r (nI_1 j) (ih (j + 1) _ (by omega))⟩
theorem sv_finish (post : SX → Prop) (i : Nat) (hi : i < 12) (fa fb fc fd fe ff fg fh : Int32) (aK aE aV aS aC aY aD aT aW : Nat → Int32) (hp : ∀ aK' : Nat → Int32, post (fa, fb, fc, fd, fe, ff, fg, fh, aK', (upd aE i fg), aV, aS, aC, aY, aD, aT, aW)) : wpX_finishRenewed post (fa, fb, fc, fd, fe, ff, fg, fh, aK, aE, aV, aS, aC, aY, aD, aT, aW) (nI i) :=
  ⟨sv_i12 hi, sv_rowOf _ i hi _ fa fb fc fd fe ff fg fh aK aE aV aS aC aY aD aT aW (fun w hw => ⟨sv_i12 hi, nm_r (congrArg (fun z => upd aE z fg) (nI_clamp (by omega)))
    ⟨10, sv_fr24 post w hw fa fb fc fd fe ff fg fh (upd aE i fg) aV aS aC aY aD aT aW hp 9 0 aK rfl⟩⟩)⟩
theorem sv_ct4 (post : Int32 → Prop) (fa fb fc fd fe ff fg fh : Int32) (aK aE aV aS aC aY aD aT aW : Nat → Int32) :
    ∀ (d j : Nat) (x : Int32), j + d = 4 → (∀ r : Int32, post r) → wX_countTaken_4 post fa fb fc fd fe ff fg fh aK aE aV aS aC aY aD aT aW (d + 1) x (nI j) := by
  intro d
  induction d with
  | zero => intro j x hj hp; exact br_t (sv_ge 4 (by omega) (by omega)) (hp _)
  | succ d ih =>
    intro j x hj hp
    exact br_f (sv_ng 4 (by omega) (by decide)) (fun _ _ => nm_r (nI_1 j) (ih (j + 1) _ (by omega) hp))
theorem sv_count (post : Int32 → Prop) (fa fb fc fd fe ff fg fh : Int32) (aK aE aV aS aC aY aD aT aW : Nat → Int32) (hp : ∀ r : Int32, post r) : wpX_countTaken post (fa, fb, fc, fd, fe, ff, fg, fh, aK, aE, aV, aS, aC, aY, aD, aT, aW) :=
  ⟨5, sv_ct4 post fa fb fc fd fe ff fg fh aK aE aV aS aC aY aD aT aW 4 0 0 rfl hp⟩
def sv_pop (t : Nat) : Nat := t % 2 + t / 2 % 2 + t / 4 % 2 + t / 8 % 2
theorem sv_bit : ∀ s, s < 4 → ∀ t, t < 16 → (nI t >>> (nI s &&& 31)) &&& 1 = nI (t / 2 ^ s % 2) := by decide +kernel
theorem sv_countT (post : Int32 → Prop) (t : Nat) (ht : t < 16) (fa fb fc fd ff fg fh : Int32) (aK aE aV aS aC aY aD aT aW : Nat → Int32) (hp : post (nI (sv_pop t))) : wpX_countTaken post (fa, fb, fc, fd, nI t, ff, fg, fh, aK, aE, aV, aS, aC, aY, aD, aT, aW) := by
  have h0 := sv_bit 0 (by decide) t ht
  have h1 := sv_bit 1 (by decide) t ht
  have h2 := sv_bit 2 (by decide) t ht
  have h3 := sv_bit 3 (by decide) t ht
  refine ⟨5, br_f (by decide) (nm_r (e' := nI (t % 2)) ?_ (nm_r (e' := nI 1) rfl (br_f (by decide) (nm_r (e' := nI (t % 2 + t / 2 % 2)) ?_ (nm_r (e' := nI 2) rfl (br_f (by decide) (nm_r (e' := nI (t % 2 + t / 2 % 2 + t / 4 % 2)) ?_ (nm_r (e' := nI 3) rfl (br_f (by decide) (nm_r (e' := nI (sv_pop t)) ?_ (nm_r (e' := nI 4) rfl (br_t (by decide) hp)))))))))))) ⟩
  · rw [show ((0 : Int32)) = nI 0 from rfl, h0, nI_add]; exact congrArg nI (by omega)
  · rw [h1, nI_add]
  · rw [h2, nI_add]
  · rw [h3, nI_add]; rfl
