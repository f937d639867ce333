def sv_bt (t s : Nat) : Nat := t / 2 ^ s % 2
theorem sv_bit : ∀ s, s < 4 → ∀ t, t < 16 → (nI t >>> (nI s &&& 31)) &&& 1 = nI (sv_bt t s) := by decide +kernel
theorem sv_bt_2 (t s : Nat) : sv_bt t s < 2 := Nat.mod_lt _ (by decide)
theorem sf_isTaken (post : Int32 → Prop) (s : Nat) (hs : s < 4) (t : Nat) (ht : t < 16) (fa fb fc fd ff fg fh : Int32) (aK aE aV aS aC aY aD aT aW : Nat → Int32) (h1 : sv_bt t s = 1 → post 1) (h0 : sv_bt t s = 0 → post 0) : wpX_isTaken post (fa, fb, fc, fd, nI t, ff, fg, fh, aK, aE, aV, aS, aC, aY, aD, aT, aW) (nI s) := by
  have h2 := sv_bt_2 t s
  have hb := sv_bit s hs t ht
  refine br_c (fun h => h1 ?_) (fun h => h0 ?_)
  · rw [hb] at h
    exact (nI_eq (by omega) (by decide)).mp h
  · rw [hb] at h
    by_cases h3 : sv_bt t s = 1
    · exact absurd (by rw [h3]; rfl) h
    · omega
theorem ch_or0 (a b : Int32) : a ||| b = 0 ↔ a = 0 ∧ b = 0 := Int32.or_eq_zero_iff
theorem ch_xor0 (a b : Int32) : a ^^^ b = 0 ↔ a = b := Int32.xor_eq_zero_iff
theorem sf_sb4 (post : Int32 → Prop) (s : Nat) (hs : s < 4) (fa fb fc fd fe ff fg fh : Int32) (aK aE aV aS aC aY aD aT aW : Nat → Int32) (h1 : (∀ i, i < 8 → aS (s * 16 + i) = aT i) → post 1) (h0 : ¬ (∀ i, i < 8 → aS (s * 16 + i) = aT i) → post 0) :
    ∀ (d j : Nat) (x2 : Int32), j + d = 8 → (x2 = 0 ↔ ∀ i, i < j → aS (s * 16 + i) = aT i) → wX_streamBelongsTo_4 post (nI s) fa fb fc fd fe ff fg fh aK aE aV aS aC aY aD aT aW (d + 1) x2 (nI j) := by
  intro d
  induction d with
  | zero =>
    intro j x2 hj hx
    have e : j = 8 := by omega
    subst e
    exact br_t (sv_ge 8 (by omega) (by omega)) (br_c (fun h => h1 (hx.mp h)) (fun h => h0 (fun z => h (hx.mpr z))))
  | succ d ih =>
    intro j x2 hj hx
    have hc : (nI j).toNatClampNeg = j := nI_clamp (by omega)
    have e16 : nI s * 16 = nI (s * 16) := pk_mul s 16
    have h : vp_in ((nI s * 16) + nI j) 64 := by
      rw [e16]; exact sv_ia (s * 16) j 64 (by omega) (by decide)
    refine br_f (sv_ng 8 (by omega) (by decide)) ⟨h, sv_i16 (by omega), fun y ey => nm_r (nI_1 j) (ih (j + 1) _ (by omega) ?_)⟩
    rw [ey, e16, sv_ca _ j (by omega), hc, ch_or0, ch_xor0, hx]
    refine ⟨fun ⟨p, q⟩ i hi => ?_, fun p => ⟨fun i hi => p i (by omega), p j (by omega)⟩⟩
    by_cases hij : i = j
    · subst hij; exact q
    · exact p i (by omega)
theorem sf_belongs (post : Int32 → Prop) (s : Nat) (hs : s < 4) (fa fb fc fd fe ff fg fh : Int32) (aK aE aV aS aC aY aD aT aW : Nat → Int32) (h1 : (∀ i, i < 8 → aS (s * 16 + i) = aT i) → post 1) (h0 : ¬ (∀ i, i < 8 → aS (s * 16 + i) = aT i) → post 0) : wpX_streamBelongsTo post (fa, fb, fc, fd, fe, ff, fg, fh, aK, aE, aV, aS, aC, aY, aD, aT, aW) (nI s) :=
  ⟨9, sf_sb4 post s hs fa fb fc fd fe ff fg fh aK aE aV aS aC aY aD aT aW h1 h0 8 0 0 rfl ⟨fun _ i hi => absurd hi (by omega), fun _ => rfl⟩⟩
/-! the slots, as both sides have them -/
def sl_ok (t : Nat) (fh : Int32) (ky S U P : Nat → Int32) : Prop := ∀ s, s < 4 → U s = nI (sv_bt t s) ∧ (sv_bt t s = 1 → (∀ i, i < 8 → S (s * 16 + i) = ch_P (P s) 2 0 i) ∧ (∀ i, i < 8 → S (s * 16 + 8 + i) = ch_P (P s) 3 fh i ^^^ ky i))
/-- no two passphrases have the same check words: what is not proved -/
def ch_inj : Prop := ∀ x y : Int32, (∀ i, i < 8 → ch_P x 2 0 i = ch_P y 2 0 i) → x = y
noncomputable def sl_fd (t : Nat) (P : Nat → Int32) (x : Int32) : Nat → Nat → Int32
  | 0, _ => -1
  | d + 1, j => if sv_bt t j = 1 ∧ P j = x then nI j else sl_fd t P x d (j + 1)
theorem sl_fd_p (t : Nat) (P : Nat → Int32) (x : Int32) : ∀ d j : Nat, sl_fd t P x d j = -1 ∧ (∀ s, j ≤ s → s < j + d → ¬ (sv_bt t s = 1 ∧ P s = x)) ∨ ∃ s, j ≤ s ∧ s < j + d ∧ sl_fd t P x d j = nI s ∧ sv_bt t s = 1 ∧ P s = x
  | 0, j => Or.inl ⟨rfl, fun s h1 h2 => absurd h2 (by omega)⟩
  | d + 1, j => by
    show ((if sv_bt t j = 1 ∧ P j = x then nI j else sl_fd t P x d (j + 1)) = -1 ∧ _) ∨ ∃ s, j ≤ s ∧ s < j + (d + 1) ∧ (if sv_bt t j = 1 ∧ P j = x then nI j else sl_fd t P x d (j + 1)) = nI s ∧ _
    by_cases h : sv_bt t j = 1 ∧ P j = x
    · rw [if_pos h]
      exact Or.inr ⟨j, by omega, by omega, rfl, h⟩
    · rw [if_neg h]
      rcases sl_fd_p t P x d (j + 1) with ⟨e, k⟩ | ⟨s, h1, h2, h3⟩
      · refine Or.inl ⟨e, fun s h1 h2 => ?_⟩
        by_cases hs : s = j
        · subst hs; exact h
        · exact k s (by omega) (by omega)
      · exact Or.inr ⟨s, by omega, by omega, h3⟩
/-- of the passphrases in the slots none but x itself has x's check words -/
def ch_loc (t : Nat) (P : Nat → Int32) (x : Int32) : Prop := ∀ s, s < 4 → sv_bt t s = 1 → (∀ i, i < 8 → ch_P (P s) 2 0 i = ch_P x 2 0 i) → P s = x
theorem sf_fi9 (post : Int32 → SX → Prop) (x : Int32) (t : Nat) (ht : t < 16) (fa fb fc fd ff fg fh : Int32) (aK aE aV aS aC aY aD aT aW : Nat → Int32) (ky U P : Nat → Int32) (hin : ch_loc t P x) (hS : sl_ok t fh ky aS U P) (hT : aT = ch_P x 2 0) :
    ∀ (d j : Nat), j + d = 4 → post (sl_fd t P x d j) (fa, fb, fc, fd, nI t, ff, fg, fh, aK, aE, aV, aS, aC, aY, aD, aT, aW) → wX_findSlot_9 post fa fb fc fd (nI t) ff fg fh aK aE aV aS aC aY aD aT aW (d + 1) (nI j) := by
  intro d
  induction d with
  | zero => intro j hj hp; exact br_t (sv_ge 4 (by omega) (by omega)) hp
  | succ d ih =>
    intro j hj hp
    have hp' : post (if sv_bt t j = 1 ∧ P j = x then nI j else sl_fd t P x d (j + 1)) (fa, fb, fc, fd, nI t, ff, fg, fh, aK, aE, aV, aS, aC, aY, aD, aT, aW) := hp
    have hnext : ¬ (sv_bt t j = 1 ∧ P j = x) → ∀ y : Int32, y = nI j + 1 → wX_findSlot_9 post fa fb fc fd (nI t) ff fg fh aK aE aV aS aC aY aD aT aW (d + 1) y := fun h => by
      rw [if_neg h] at hp'
      exact nm_r (nI_1 j) (ih (j + 1) (by omega) hp')
    refine br_f (sv_ng 4 (by omega) (by decide)) (sf_isTaken _ j (by omega) t ht fa fb fc fd ff fg fh aK aE aV aS aC aY aD aT aW (fun hb => br_f (by decide) (sf_belongs _ j (by omega) fa fb fc fd (nI t) ff fg fh aK aE aV aS aC aY aD aT aW (fun h => ?_) (fun h => ?_))) (fun hb => br_t rfl (hnext (fun z => by omega))))
    · have e : P j = x := hin j (by omega) hb (fun i hi => by rw [← ((hS j (by omega)).2 hb).1 i hi, h i hi, hT])
      rw [if_pos ⟨hb, e⟩] at hp'
      exact br_f (by decide) hp'
    · refine br_t rfl (hnext (fun z => h (fun i hi => ?_)))
      rw [((hS j (by omega)).2 hb).1 i hi, z.2, hT]
theorem sf_findSlot (post : Int32 → SX → Prop) (x : Int32) (t : Nat) (ht : t < 16) (fa fb fc fd ff fg fh : Int32) (aK aE aV aS aC aY aT aW : Nat → Int32) (ky U P : Nat → Int32) (hin : ch_loc t P x) (hS : sl_ok t fh ky aS U P) (hT : ch_tl 16 aT) (hp : post (sl_fd t P x 4 0) (fa, fb, fc, fd, nI t, ff, fg, fh, aK, aE, aV, aS, aC, aY, (fun _ => 0), ch_P x 2 0, aW)) : wpX_findSlot post (fa, fb, fc, fd, nI t, ff, fg, fh, aK, aE, aV, aS, aC, aY, (fun _ => 0), aT, aW) x := by
  unfold wpX_findSlot
  exact sf_stream _ fa fb fc fd (nI t) ff fg fh aK aE aV aS aC aY aT aW _ _ _ hT ⟨5, sf_fi9 post x t ht fa fb fc fd ff fg fh aK aE aV aS aC aY (fun _ => 0) (ch_P x 2 0) aW ky U P hin hS rfl 4 0 rfl hp⟩
theorem sf_uk21 (post : SX → Prop) (w : Nat) (hw : w + 8 ≤ 64) (fa fb fc fd fe ff fg fh : Int32) (aK aE aV aS aC aY aD aT aW : Nat → Int32) (hp : post (fa, fb, fc, fd, fe, ff, fg, fh, aK, aE, aV, aS, aC, (fun i => if i < 8 then aS (w + i) ^^^ aT i else aY i), aD, aT, aW)) :
    ∀ (d j : Nat), j + d = 8 → wX_unwrapKey_21 post (nI w) fa fb fc fd fe ff fg fh (d + 1) (nI j) aK aE aV aS aC (fun i => if i < j then aS (w + i) ^^^ aT i else aY i) aD aT aW := by
  intro d
  induction d with
  | zero => intro j hj; have e : j = 8 := by omega
            subst e; exact br_t (sv_ge 8 (by omega) (by omega)) hp
  | succ d ih =>
    intro j hj
    have hc : (nI j).toNatClampNeg = j := nI_clamp (by omega)
    refine br_f (sv_ng 8 (by omega) (by decide)) ⟨sv_ia w j 64 (by omega) (by decide), sv_i16 (by omega), sv_i8 (by omega), nm_r ?_ (nm_r (nI_1 j) (ih (j + 1) (by omega)))⟩
    rw [hc, sv_ca w j (by omega)]
    exact ch_ui (fun i => aS (w + i) ^^^ aT i) aY j _ rfl
theorem sf_unwrap (post : SX → Prop) (s : Nat) (hs : s < 4) (x : Int32) (fa fb fc fd fe ff fg fh : Int32) (aK aE aV aS aC aY aT aW : Nat → Int32) (ky : Nat → Int32) (hT : ch_tl 16 aT) (hY : ch_tl 8 aY) (hky : ch_tl 8 ky) (hw : ∀ i, i < 8 → aS (s * 16 + 8 + i) = ch_P x 3 fh i ^^^ ky i)
    (hp : post (fa, fb, fc, fd, fe, ff, fg, fh, aK, aE, aV, aS, aC, ky, (fun _ => 0), ch_P x 3 fh, aW)) : wpX_unwrapKey post (fa, fb, fc, fd, fe, ff, fg, fh, aK, aE, aV, aS, aC, aY, (fun _ => 0), aT, aW) (nI s) x := by
  refine nm_r (show nI s * 16 + 8 = nI (s * 16 + 8) by rw [show nI s * 16 = nI (s * 16) from pk_mul s 16]; exact nI_add (s * 16) 8) (sf_stream _ fa fb fc fd fe ff fg fh aK aE aV aS aC aY aT aW _ _ _ hT ⟨9, sf_uk21 post (s * 16 + 8) (by omega) fa fb fc fd fe ff fg fh aK aE aV aS aC aY (fun _ => 0) (ch_P x 3 fh) aW ?_ 8 0 rfl⟩)
  have e : (fun i => if i < 8 then aS (s * 16 + 8 + i) ^^^ ch_P x 3 fh i else aY i) = ky := by
    funext i
    by_cases h : i < 8
    · rw [if_pos h, hw i h, Int32.xor_comm (ch_P x 3 fh i), ch_xx]
    · rw [if_neg h, hY i (by omega), hky i (by omega)]
  rw [e]
  exact hp
/-! sectors -/
theorem sf_isDamaged (post : Int32 → Prop) (i : Nat) (hi : i < 12) (fa fb fc fd fe ff fg fh : Int32) (aK aE aV aS aC aY aD aT aW : Nat → Int32) (h0 : aK (ch_row i (aE i) + 8) = ch_sm aK (ch_row i (aE i)) 8 → post 0) (h1 : ¬ aK (ch_row i (aE i) + 8) = ch_sm aK (ch_row i (aE i)) 8 → post 1) : wpX_isDamaged post (fa, fb, fc, fd, fe, ff, fg, fh, aK, aE, aV, aS, aC, aY, aD, aT, aW) (nI i) := by
  have hw := ch_row_l hi (aE i)
  refine ⟨sv_i12 hi, sf_rowOf _ i _ fa fb fc fd fe ff fg fh aK aE aV aS aC aY aD aT aW ?_⟩
  rw [nI_clamp (n := i) (by omega)]
  have hc : (nI (ch_row i (aE i)) + 8).toNatClampNeg = ch_row i (aE i) + 8 := sv_ca _ 8 (by omega)
  refine ⟨sv_ia _ 8 216 (by omega) (by decide), sf_sumK _ _ hw fa fb fc fd fe ff fg fh aK aE aV aS aC aY aD aT aW ?_⟩
  rw [hc]
  exact br_c h0 h1
def ch_un (K W st : Nat → Int32) (w : Nat) : Nat → Int32 := fun q => if q < 8 then K (w + q) ^^^ st q else W q
theorem sf_uw29 (post : SX → Prop) (w : Nat) (hw : w + 9 ≤ 216) (fa fb fc fd fe ff fg fh : Int32) (aK aE aV aS aC aY aD aT aW : Nat → Int32) (hp : post (fa, fb, fc, fd, fe, ff, fg, fh, aK, aE, aV, aS, aC, aY, aD, aT, ch_un aK aW aT w)) :
    ∀ (d j : Nat), j + d = 8 → wX_unsealToWork_29 post (nI w) fa fb fc fd fe ff fg fh (d + 1) (nI j) aK aE aV aS aC aY aD aT (fun q => if q < j then aK (w + q) ^^^ aT q else aW q) := by
  intro d
  induction d with
  | zero => intro j hj; have e : j = 8 := by omega
            subst e; exact br_t (sv_ge 8 (by omega) (by omega)) hp
  | succ d ih =>
    intro j hj
    have hc : (nI j).toNatClampNeg = j := nI_clamp (by omega)
    refine br_f (sv_ng 8 (by omega) (by decide)) ⟨sv_ia w j 216 (by omega) (by decide), sv_i16 (by omega), sv_i9 (by omega), nm_r ?_ (nm_r (nI_1 j) (ih (j + 1) (by omega)))⟩
    rw [hc, sv_ca w j (by omega)]
    exact ch_ui (fun q => aK (w + q) ^^^ aT q) aW j _ rfl
theorem ch_j0 (P Q : Nat → Int32) : (fun q => if q < 0 then P q else Q q) = Q := by
  funext q
  exact if_neg (by omega)
theorem sf_unseal (post : SX → Prop) (i : Nat) (hi : i < 12) (fa fb fc fd fe ff fg fh : Int32) (aK aE aV aS aC aY aT aW : Nat → Int32) (hT : ch_tl 16 aT) (hp : post (fa, fb, fc, fd, fe, ff, fg, fh, aK, aE, aV, aS, aC, aY, (fun _ => 0), ch_S aY (nI i) (aE i) (aV i), ch_un aK aW (ch_S aY (nI i) (aE i) (aV i)) (ch_row i (aE i)))) : wpX_unsealToWork post (fa, fb, fc, fd, fe, ff, fg, fh, aK, aE, aV, aS, aC, aY, (fun _ => 0), aT, aW) (nI i) := by
  have hc : (nI i).toNatClampNeg = i := nI_clamp (by omega)
  unfold wpX_unsealToWork
  dsimp only
  rw [hc]
  refine ⟨sv_i12 hi, sf_seedFromKey _ i hi _ fa fb fc fd fe ff fg fh aK aE aV aS aC aY aT aW (sf_scramble _ fa fb fc fd fe ff fg fh aK aE aV aS aC aY (ch_ks aY (nI i) (aE i) (aV i)) aT aW (ch_tl_ks _ _ _ _) hT ⟨sv_i12 hi, ?_⟩)⟩
  refine sf_rowOf _ i _ fa fb fc fd fe ff fg fh aK aE aV aS aC aY (fun _ => 0) (ch_F (ch_ks aY (nI i) (aE i) (aV i))) aW ⟨9, ?_⟩
  have h := sf_uw29 post (ch_row i (aE i)) (ch_row_l hi _) fa fb fc fd fe ff fg fh aK aE aV aS aC aY (fun _ => 0) (ch_F (ch_ks aY (nI i) (aE i) (aV i))) aW hp 8 0 rfl
  rw [ch_j0] at h
  exact h
theorem sf_keepNew (post : SX → Prop) (i : Nat) (hi : i < 12) (fa fb fc fd fe ff fg fh : Int32) (aK aE aV aS aC aY aT aW : Nat → Int32) (hT : ch_tl 16 aT)
    (hp : ∀ aW' : Nat → Int32, post (fa, fb, fc, fd, fe, ff, fg, fh, ch_kw aK (ch_sl aW (ch_S aY (nI i) (aE i) (aV i + 1))) (ch_row i (aE i)) 9, aE, upd aV i (aV i + 1), aS, aC, aY, (fun _ => 0), ch_S aY (nI i) (aE i) (aV i + 1), aW')) : wpX_keepNewContents post (fa, fb, fc, fd, fe, ff, fg, fh, aK, aE, aV, aS, aC, aY, (fun _ => 0), aT, aW) (nI i) := by
  have hc : (nI i).toNatClampNeg = i := nI_clamp (by omega)
  unfold wpX_keepNewContents
  dsimp only
  rw [hc]
  refine ⟨sv_i12 hi, sv_i12 hi, nm_e ⟨sv_i12 hi, ?_⟩⟩
  refine sf_sealWork _ i hi _ fa fb fc fd fe ff fg fh aK aE (upd aV i (aV i + 1)) aS aC aY aT aW hT ?_
  rw [pk_us]
  refine ⟨sv_i12 hi, sf_rowOf _ i _ fa fb fc fd fe ff fg fh aK aE (upd aV i (aV i + 1)) aS aC aY (fun _ => 0) (ch_S aY (nI i) (aE i) (aV i + 1)) (ch_sl aW (ch_S aY (nI i) (aE i) (aV i + 1))) ?_⟩
  refine sf_keep9 _ _ (ch_row_l hi _) fa fb fc fd fe ff fg fh aK aE (upd aV i (aV i + 1)) aS aC aY (fun _ => 0) (ch_S aY (nI i) (aE i) (aV i + 1)) (ch_sl aW (ch_S aY (nI i) (aE i) (aV i + 1))) ?_
  exact hp _
/-! renewing -/
def ch_rk (K st : Nat → Int32) (w : Nat) (W : Nat → Int32) : Nat → Int32 := upd (ch_sl W st) 8 (ch_sl W st 8 ^^^ (K (w + 8) ^^^ ch_sm K w 8))
theorem sf_writeRenewed (post : SX → Prop) (i : Nat) (hi : i < 12) (x : Int32) (fa fb fc fd fe ff fg fh : Int32) (aK aE aV aS aC aY aT aW : Nat → Int32) (hT : ch_tl 16 aT)
    (hp : ∀ aW' : Nat → Int32, ∀ j, j ≤ 9 → (j < 9 → x ≤ nI j) → post (fa, fb, fc, fd, fe, ff, fg, fh, ch_kw aK (ch_rk aK (ch_S aY (nI i) fg (aV i)) (ch_row i (aE i)) (ch_un aK aW (ch_S aY (nI i) (aE i) (aV i)) (ch_row i (aE i)))) (ch_row i fg) j, aE, aV, aS, aC, aY, (fun _ => 0), ch_S aY (nI i) fg (aV i), aW')) : wpX_writeRenewed post (fa, fb, fc, fd, fe, ff, fg, fh, aK, aE, aV, aS, aC, aY, (fun _ => 0), aT, aW) (nI i) x := by
  have hc : (nI i).toNatClampNeg = i := nI_clamp (by omega)
  have hw := ch_row_l hi (aE i)
  have hc8 : (nI (ch_row i (aE i)) + 8).toNatClampNeg = ch_row i (aE i) + 8 := sv_ca _ 8 (by omega)
  unfold wpX_writeRenewed
  dsimp only
  rw [hc]
  refine ⟨sv_i12 hi, sf_rowOf _ i _ fa fb fc fd fe ff fg fh aK aE aV aS aC aY (fun _ => 0) aT aW ⟨sv_ia _ 8 216 (by omega) (by decide), ?_⟩⟩
  rw [hc8]
  refine sf_sumK _ _ hw fa fb fc fd fe ff fg fh aK aE aV aS aC aY (fun _ => 0) aT aW (nm_e ?_)
  refine sf_unseal _ i hi fa fb fc fd fe ff fg fh aK aE aV aS aC aY aT aW hT ?_
  refine sf_sealWork _ i hi _ fa fb fc fd fe ff fg fh aK aE aV aS aC aY (ch_S aY (nI i) (aE i) (aV i)) (ch_un aK aW (ch_S aY (nI i) (aE i) (aV i)) (ch_row i (aE i))) (ch_tl_S _ _ _ _) (nm_e ?_)
  refine sf_rowOf _ i _ fa fb fc fd fe ff fg fh aK aE aV aS aC aY (fun _ => 0) (ch_S aY (nI i) fg (aV i)) (ch_rk aK (ch_S aY (nI i) fg (aV i)) (ch_row i (aE i)) (ch_un aK aW (ch_S aY (nI i) (aE i) (aV i)) (ch_row i (aE i)))) ?_
  exact sf_keepWork _ _ (ch_row_l hi _) x fa fb fc fd fe ff fg fh aK aE aV aS aC aY (fun _ => 0) (ch_S aY (nI i) fg (aV i)) (ch_rk aK (ch_S aY (nI i) fg (aV i)) (ch_row i (aE i)) (ch_un aK aW (ch_S aY (nI i) (aE i) (aV i)) (ch_row i (aE i)))) (fun j hj hx => hp _ j hj hx)
theorem sf_fr24 (post : SX → Prop) (w : Nat) (hw : w + 9 ≤ 216) (fa fb fc fd fe ff fg fh : Int32) (aE aV aS aC aY aD aT aW : Nat → Int32) (K0 : Nat → Int32) (hp : ∀ aK' : Nat → Int32, (∀ q, q < w ∨ w + 9 ≤ q → aK' q = K0 q) → post (fa, fb, fc, fd, fe, ff, fg, fh, aK', aE, aV, aS, aC, aY, aD, aT, aW)) :
    ∀ (d j : Nat) (aK : Nat → Int32), j + d = 9 → (∀ q, q < w ∨ w + 9 ≤ q → aK q = K0 q) → wX_finishRenewed_24 post (nI w) fa fb fc fd fe ff fg fh (d + 1) (nI j) aK aE aV aS aC aY aD aT aW := by
  intro d
  induction d with
  | zero => intro j aK hj h; exact br_t (sv_ge 9 (by omega) (by omega)) (hp _ h)
  | succ d ih =>
    intro j aK hj h
    refine br_f (sv_ng 9 (by omega) (by decide)) ⟨sv_ia w j 216 (by omega) (by decide), fun aK' hK => nm_r (nI_1 j) (ih (j + 1) _ (by omega) (fun q hq => ?_))⟩
    rw [hK, sv_ca w j (by omega), pk_un (by omega)]
    exact h q hq
theorem sf_finish (post : SX → Prop) (i : Nat) (hi : i < 12) (fa fb fc fd fe ff fg fh : Int32) (aK aE aV aS aC aY aD aT aW : Nat → Int32) (hp : ∀ aK' : Nat → Int32, (∀ q, q < ch_row i (aE i) ∨ ch_row i (aE i) + 9 ≤ q → aK' q = aK q) → post (fa, fb, fc, fd, fe, ff, fg, fh, aK', (upd aE i fg), aV, aS, aC, aY, aD, aT, aW)) : wpX_finishRenewed post (fa, fb, fc, fd, fe, ff, fg, fh, aK, aE, aV, aS, aC, aY, aD, aT, aW) (nI i) := by
  have hc : (nI i).toNatClampNeg = i := nI_clamp (by omega)
  unfold wpX_finishRenewed
  dsimp only
  rw [hc]
  exact ⟨sv_i12 hi, sf_rowOf _ i _ fa fb fc fd fe ff fg fh aK aE aV aS aC aY aD aT aW ⟨sv_i12 hi, nm_e ⟨10, sf_fr24 post _ (ch_row_l hi _) fa fb fc fd fe ff fg fh (upd aE i fg) aV aS aC aY aD aT aW aK hp 9 0 aK rfl (fun _ _ => rfl)⟩⟩⟩
