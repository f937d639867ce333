theorem ch_ok_C {K : Nat → Int32} {w : Nat} {st C C' : Nat → Int32} (h : ∀ c, c < 8 → C' c = C c) (k : ch_ok K w st C) : ch_ok K w st C' := ⟨k.1, fun c hc => by rw [k.2 c hc, h c hc]⟩
theorem ch_row_b (i : Nat) (e : Int32) : ch_row i e = 18 * i ∨ ch_row i e = 18 * i + 9 := by
  have : e.toBitVec.toNat % 2 ^ 1 < 2 := Nat.mod_lt _ (by decide)
  unfold ch_row
  omega
theorem ch_row_d {i j : Nat} (h : i ≠ j) (e e' : Int32) : ch_row i e + 9 ≤ ch_row j e' ∨ ch_row j e' + 9 ≤ ch_row i e := by
  have h1 := ch_row_b i e
  have h2 := ch_row_b j e'
  omega
theorem sf_er44 (post : SX → Prop) (J : Int32 → Int32 → Int32 → Int32 → Int32 → Int32 → Int32 → Int32 → Int32 → (Nat → Int32) → (Nat → Int32) → (Nat → Int32) → (Nat → Int32) → (Nat → Int32) → (Nat → Int32) → (Nat → Int32) → (Nat → Int32) → (Nat → Int32) → Prop) (i : Nat) (hi : i < 12) (fa fb fc fd fe ff fg fh : Int32) (aK aE aV aS aC aY aT aW : Nat → Int32) (hT : ch_tl 16 aT)
    (hJ : ∀ aK' aT' aW' : Nat → Int32, ch_tl 16 aT' → (∀ q, q < ch_row i 0 ∨ ch_row i 0 + 9 ≤ q → aK' q = aK q) → ch_ok aK' (ch_row i 0) (ch_S aY (nI i) 0 (aV i)) (fun _ => 0) → ∀ y : Int32, y = nI i + 1 → J y fa fb fc fd fe ff fg fh aK' aE aV aS aC aY (fun _ => 0) aT' aW') :
    ∀ (d j : Nat), j + d = 8 → wX_eraseSectors_44 post J (nI i) fa fb fc fd fe ff fg fh (d + 1) (nI j) aK aE aV aS aC aY (fun _ => 0) aT (fun q => if q < j then 0 else aW q) := by
  intro d
  induction d with
  | zero =>
    intro j hj
    have e : j = 8 := by omega
    subst e
    refine br_t (sv_ge 8 (by omega) (by omega)) (sf_sealWork _ i hi 0 fa fb fc fd fe ff fg fh aK aE aV aS aC aY aT (fun q => if q < 8 then 0 else aW q) hT ?_)
    refine sf_rowOf _ i 0 fa fb fc fd fe ff fg fh aK aE aV aS aC aY (fun _ => 0) (ch_S aY (nI i) 0 (aV i)) (ch_sl (fun q => if q < 8 then 0 else aW q) (ch_S aY (nI i) 0 (aV i))) ?_
    refine sf_keep9 _ _ (ch_row_l hi 0) fa fb fc fd fe ff fg fh aK aE aV aS aC aY (fun _ => 0) (ch_S aY (nI i) 0 (aV i)) (ch_sl (fun q => if q < 8 then 0 else aW q) (ch_S aY (nI i) 0 (aV i))) ?_
    exact hJ _ _ _ (ch_tl_S _ _ _ _) (fun q hq => ch_kw_off _ _ _ _ _ hq (by decide)) (ch_ok_C (fun c hc => (if_pos hc).symm) (ch_ok_n _ _ _ _))
  | succ d ih =>
    intro j hj
    have hc : (nI j).toNatClampNeg = j := nI_clamp (by omega)
    refine br_f (sv_ng 8 (by omega) (by decide)) ⟨sv_i9 (by omega), nm_r ?_ (nm_r (nI_1 j) (ih (j + 1) (by omega)))⟩
    rw [hc]
    exact ch_ui (fun _ => 0) aW j _ rfl
theorem ch_i0 (W : Nat → Int32) : (fun q => if q < 0 then (0 : Int32) else W q) = W := by
  funext q
  exact if_neg (by omega)
theorem sf_er29 (post : SX → Prop) (fa fb fc fd fe ff fg fh : Int32) (aV aS aC aY : Nat → Int32)
    (hp : ∀ aK' aE' aT' aW' : Nat → Int32, ch_tl 16 aT' → (∀ i, i < 12 → aE' i = 0 ∧ ch_ok aK' (ch_row i 0) (ch_S aY (nI i) 0 (aV i)) (fun _ => 0)) → post (fa, fb, fc, fd, fe, ff, fg, fh, aK', aE', aV, aS, aC, aY, (fun _ => 0), aT', aW')) :
    ∀ (d j : Nat) (aK aE aT aW : Nat → Int32), j + d = 12 → ch_tl 16 aT → (∀ i, i < j → aE i = 0 ∧ ch_ok aK (ch_row i 0) (ch_S aY (nI i) 0 (aV i)) (fun _ => 0)) → wX_eraseSectors_29 post (d + 1) (nI j) fa fb fc fd fe ff fg fh aK aE aV aS aC aY (fun _ => 0) aT aW := by
  intro d
  induction d with
  | zero => intro j aK aE aT aW hj hT hE; exact br_t (sv_ge 12 (by omega) (by omega)) (hp _ _ _ _ hT (fun i hi => hE i (by omega)))
  | succ d ih =>
    intro j aK aE aT aW hj hT hE
    have hc : (nI j).toNatClampNeg = j := nI_clamp (by omega)
    refine br_f (sv_ng 12 (by omega) (by decide)) ⟨sv_i12 (by omega), nm_r (e' := upd aE j 0) (by rw [hc]) ⟨9, ?_⟩⟩
    have h := sf_er44 post (wX_eraseSectors_29 post (d + 1)) j (by omega) fa fb fc fd fe ff fg fh aK (upd aE j 0) aV aS aC aY aT aW hT (fun aK' aT' aW' hT' hf hk => nm_r (nI_1 j) (ih (j + 1) aK' (upd aE j 0) aT' aW' (by omega) hT' ?_)) 8 0 rfl
    · rw [ch_i0] at h
      exact h
    · intro i hi
      by_cases hij : i = j
      · subst hij
        exact ⟨pk_us, hk⟩
      · rw [pk_un hij]
        obtain ⟨h1, h2⟩ := hE i (by omega)
        refine ⟨h1, ch_ok_c (fun c hc => hf _ ?_) h2⟩
        have := ch_row_d hij 0 0
        omega
theorem sf_er7 (post : SX → Prop) (fa fb fc fd fe ff fg fh : Int32) (aE aV aS aC aY aT aW : Nat → Int32) (hT : ch_tl 16 aT)
    (hp : ∀ aK' aE' aT' aW' : Nat → Int32, ch_tl 16 aT' → (∀ i, i < 12 → aE' i = 0 ∧ ch_ok aK' (ch_row i 0) (ch_S aY (nI i) 0 (aV i)) (fun _ => 0)) → post (fa, fb, fc, fd, fe, ff, fg, fh, aK', aE', aV, aS, aC, aY, (fun _ => 0), aT', aW')) :
    ∀ (d j : Nat) (aK : Nat → Int32), j + d = 216 → wX_eraseSectors_7 post fa fb fc fd fe ff fg fh (d + 1) (nI j) aK aE aV aS aC aY (fun _ => 0) aT aW := by
  intro d
  induction d with
  | zero => intro j aK hj; exact br_t (sv_ge 216 (by omega) (by omega)) ⟨13, sf_er29 post fa fb fc fd fe ff fg fh aV aS aC aY hp 12 0 aK aE aT aW rfl hT (fun i hi => absurd hi (by omega))⟩
  | succ d ih =>
    intro j aK hj
    exact br_f (sv_ng 216 (by omega) (by decide)) ⟨sv_i216 (by omega), fun _ _ => nm_r (nI_1 j) (ih (j + 1) _ (by omega))⟩
theorem sf_eraseSectors (post : SX → Prop) (fa fb fc fd fe ff fg fh : Int32) (aK aE aV aS aC aY aT aW : Nat → Int32) (hT : ch_tl 16 aT)
    (hp : ∀ aK' aE' aT' aW' : Nat → Int32, ch_tl 16 aT' → (∀ i, i < 12 → aE' i = 0 ∧ ch_ok aK' (ch_row i 0) (ch_S aY (nI i) 0 (aV i)) (fun _ => 0)) → post (fa, fb, fc, fd, fe, ff, 0, fh, aK', aE', aV, aS, aC, aY, (fun _ => 0), aT', aW')) : wpX_eraseSectors post (fa, fb, fc, fd, fe, ff, fg, fh, aK, aE, aV, aS, aC, aY, (fun _ => 0), aT, aW) :=
  ⟨217, sf_er7 post fa fb fc fd fe ff 0 fh aE aV aS aC aY aT aW hT hp 216 0 aK rfl⟩
/-! slots -/
theorem sf_em2 (post : SX → Prop) (s : Nat) (hs : s < 4) (fa fb fc fd fe ff fg fh : Int32) (aK aE aV aC aY aD aT aW : Nat → Int32) (S0 : Nat → Int32) (hp : ∀ aS' : Nat → Int32, (∀ q, q < s * 16 ∨ s * 16 + 16 ≤ q → aS' q = S0 q) → post (fa, fb, fc, fd, (fe &&& (((1 : Int32) <<< (nI s &&& 31)) ^^^ (-1))), ff, fg, fh, aK, aE, aV, aS', aC, aY, aD, aT, aW)) :
    ∀ (d j : Nat) (aS : Nat → Int32), j + d = 16 → (∀ q, q < s * 16 ∨ s * 16 + 16 ≤ q → aS q = S0 q) → wX_emptySlot_2 post (nI s) fa fb fc fd fe ff fg fh (d + 1) (nI j) aK aE aV aS aC aY aD aT aW := by
  intro d
  induction d with
  | zero => intro j aS hj hS; exact br_t (sv_ge 16 (by omega) (by omega)) (nm_e (hp _ hS))
  | succ d ih =>
    intro j aS hj hS
    have e16 : nI s * 16 = nI (s * 16) := pk_mul s 16
    have h : vp_in ((nI s * 16) + nI j) 64 := by
      rw [e16]; exact sv_ia (s * 16) j 64 (by omega) (by decide)
    refine br_f (sv_ng 16 (by omega) (by decide)) ⟨h, fun aS' hS' => nm_r (nI_1 j) (ih (j + 1) _ (by omega) (fun q hq => ?_))⟩
    rw [hS', e16, sv_ca (s * 16) j (by omega), pk_un (by omega)]
    exact hS q hq
def sv_clr (t s : Nat) : Nat := if t / 2 ^ s % 2 = 1 then t - 2 ^ s else t
theorem sv_clr_e : ∀ s, s < 4 → ∀ t, t < 16 → nI t &&& (((1 : Int32) <<< (nI s &&& 31)) ^^^ (-1)) = nI (sv_clr t s) ∧ sv_clr t s < 16 := by decide +kernel
theorem sf_empty (post : SX → Prop) (s : Nat) (hs : s < 4) (t : Nat) (ht : t < 16) (fa fb fc fd ff fg fh : Int32) (aK aE aV aS aC aY aD aT aW : Nat → Int32) (hp : ∀ aS' : Nat → Int32, (∀ q, q < s * 16 ∨ s * 16 + 16 ≤ q → aS' q = aS q) → post (fa, fb, fc, fd, nI (sv_clr t s), ff, fg, fh, aK, aE, aV, aS', aC, aY, aD, aT, aW)) : wpX_emptySlot post (fa, fb, fc, fd, nI t, ff, fg, fh, aK, aE, aV, aS, aC, aY, aD, aT, aW) (nI s) := by
  refine ⟨17, sf_em2 post s hs fa fb fc fd (nI t) ff fg fh aK aE aV aC aY aD aT aW aS (fun aS' h => ?_) 16 0 aS rfl (fun _ _ => rfl)⟩
  rw [(sv_clr_e s hs t ht).1]
  exact hp aS' h
theorem sv_es20 (post : SX → Prop) (fa fb fc fd fe ff fg fh : Int32) (aK aE aV aS aY aD aT aW : Nat → Int32) (hp : ∀ aC' : Nat → Int32, post (fa, fb, fc, fd, fe, ff, fg, fh, aK, aE, aV, aS, aC', aY, aD, aT, aW)) :
    ∀ (d j : Nat) (aC : Nat → Int32), j + d = 64 → wX_eraseSlots_20 post fa fb fc fd fe ff fg fh (d + 1) (nI j) aK aE aV aS aC aY aD aT aW := by
  intro d
  induction d with
  | zero => intro j aC hj; exact br_t (sv_ge 64 (by omega) (by omega)) (hp _)
  | succ d ih =>
    intro j aC hj
    exact br_f (sv_ng 64 (by omega) (by decide)) ⟨sv_i64 (by omega), fun _ _ => nm_r (nI_1 j) (ih (j + 1) _ (by omega))⟩
theorem sv_clr_4 : ∀ t, t < 16 → sv_clr (sv_clr (sv_clr (sv_clr t 0) 1) 2) 3 = 0 := by decide +kernel
theorem sf_eraseSlots (post : SX → Prop) (t : Nat) (ht : t < 16) (fa fb fc fd ff fg fh : Int32) (aK aE aV aS aC aY aD aT aW : Nat → Int32) (hp : ∀ aS' aC' : Nat → Int32, post (fa, fb, fc, fd, 0, ff, fg, fh, aK, aE, aV, aS', aC', aY, aD, aT, aW)) : wpX_eraseSlots post (fa, fb, fc, fd, nI t, ff, fg, fh, aK, aE, aV, aS, aC, aY, aD, aT, aW) := by
  have h1 := (sv_clr_e 0 (by decide) t ht).2
  have h2 := (sv_clr_e 1 (by decide) _ h1).2
  have h3 := (sv_clr_e 2 (by decide) _ h2).2
  have h4 := sv_clr_4 t ht
  refine ⟨5, br_f (by decide) (sf_empty _ 0 (by decide) t ht fa fb fc fd ff fg fh aK aE aV aS aC aY aD aT aW (fun aS1 _ => nm_r (e' := nI 1) rfl
    (br_f (by decide) (sf_empty _ 1 (by decide) _ h1 fa fb fc fd ff fg fh aK aE aV aS1 aC aY aD aT aW (fun aS2 _ => nm_r (e' := nI 2) rfl
    (br_f (by decide) (sf_empty _ 2 (by decide) _ h2 fa fb fc fd ff fg fh aK aE aV aS2 aC aY aD aT aW (fun aS3 _ => nm_r (e' := nI 3) rfl
    (br_f (by decide) (sf_empty _ 3 (by decide) _ h3 fa fb fc fd ff fg fh aK aE aV aS3 aC aY aD aT aW (fun aS4 _ => nm_r (e' := nI 4) rfl
    (br_t (by decide) ?_)))))))))))) ⟩
  rw [h4]
  exact ⟨65, sv_es20 post fa fb fc fd (nI 0) ff fg fh aK aE aV aS4 aY aD aT aW (fun aC' => hp aS4 aC') 64 0 aC rfl⟩
theorem sf_ps57 (post : SX → Prop) (s : Nat) (hs : s < 4) (fa fb fc fd fe ff fg fh : Int32) (aK aE aV aC aY aD aT aW : Nat → Int32) (S0 : Nat → Int32)
    (hp : ∀ aS' : Nat → Int32, (∀ q, q < s * 16 + 8 ∨ s * 16 + 16 ≤ q → aS' q = S0 q) → (∀ i, i < 8 → aS' (s * 16 + 8 + i) = aT i ^^^ aY i) → post (fa, fb, fc, fd, (fe ||| ((1 : Int32) <<< (nI s &&& 31))), ff, fg, fh, aK, aE, aV, aS', aC, aY, aD, aT, aW)) :
    ∀ (d j : Nat) (aS : Nat → Int32), j + d = 8 → (∀ q, q < s * 16 + 8 ∨ s * 16 + 16 ≤ q → aS q = S0 q) → (∀ i, i < j → aS (s * 16 + 8 + i) = aT i ^^^ aY i) → wX_putSlot_57 post (nI s) (nI (s * 16)) fa fb fc fd fe ff fg fh (d + 1) (nI j) aK aE aV aS aC aY aD aT aW := by
  intro d
  induction d with
  | zero => intro j aS hj h1 h2; exact br_t (sv_ge 8 (by omega) (by omega)) (nm_e (hp _ h1 (fun i hi => h2 i (by omega))))
  | succ d ih =>
    intro j aS hj h1 h2
    have hc : (nI j).toNatClampNeg = j := nI_clamp (by omega)
    have e8 : nI (s * 16) + 8 = nI (s * 16 + 8) := nI_add (s * 16) 8
    have h : vp_in ((nI (s * 16) + 8) + nI j) 64 := by
      rw [e8]; exact sv_ia (s * 16 + 8) j 64 (by omega) (by decide)
    refine br_f (sv_ng 8 (by omega) (by decide)) ⟨sv_i16 (by omega), sv_i8 (by omega), h, fun aS' hS' => nm_r (nI_1 j) (ih (j + 1) _ (by omega) (fun q hq => ?_) (fun i hi => ?_))⟩
    · rw [hS', e8, sv_ca _ j (by omega), pk_un (by omega)]
      exact h1 q hq
    · rw [hS', e8, sv_ca _ j (by omega), hc]
      by_cases hij : i = j
      · subst hij
        exact pk_us
      · rw [pk_un (by omega)]
        exact h2 i (by omega)
theorem sf_ps15 (post : SX → Prop) (s : Nat) (hs : s < 4) (x : Int32) (fa fb fc fd fe ff fg fh : Int32) (aK aE aV aC aY aT aW : Nat → Int32) (S0 : Nat → Int32) (hT : ch_tl 16 aT)
    (hp : ∀ aS' : Nat → Int32, (∀ q, q < s * 16 ∨ s * 16 + 16 ≤ q → aS' q = S0 q) → (∀ i, i < 8 → aS' (s * 16 + i) = aT i) → (∀ i, i < 8 → aS' (s * 16 + 8 + i) = ch_P x 3 fh i ^^^ aY i) → post (fa, fb, fc, fd, (fe ||| ((1 : Int32) <<< (nI s &&& 31))), ff, fg, fh, aK, aE, aV, aS', aC, aY, (fun _ => 0), ch_P x 3 fh, aW)) :
    ∀ (d j : Nat) (aS : Nat → Int32), j + d = 8 → (∀ q, q < s * 16 ∨ s * 16 + 16 ≤ q → aS q = S0 q) → (∀ i, i < j → aS (s * 16 + i) = aT i) → wX_putSlot_15 post (nI s) x (nI (s * 16)) fa fb fc fd fe ff fg fh (d + 1) (nI j) aK aE aV aS aC aY (fun _ => 0) aT aW := by
  intro d
  induction d with
  | zero =>
    intro j aS hj h1 h2
    refine br_t (sv_ge 8 (by omega) (by omega)) (sf_stream _ fa fb fc fd fe ff fg fh aK aE aV aS aC aY aT aW _ _ _ hT ⟨9, sf_ps57 post s hs fa fb fc fd fe ff fg fh aK aE aV aC aY (fun _ => 0) (ch_P x 3 fh) aW aS (fun aS' k1 k2 => hp aS' (fun q hq => ?_) (fun i hi => ?_) k2) 8 0 aS rfl (fun _ _ => rfl) (fun i hi => absurd hi (by omega))⟩)
    · rw [k1 q (by omega)]; exact h1 q hq
    · rw [k1 _ (by omega)]; exact h2 i (by omega)
  | succ d ih =>
    intro j aS hj h1 h2
    have hc : (nI j).toNatClampNeg = j := nI_clamp (by omega)
    refine br_f (sv_ng 8 (by omega) (by decide)) ⟨sv_i16 (by omega), sv_ia (s * 16) j 64 (by omega) (by decide), fun aS' hS' => nm_r (nI_1 j) (ih (j + 1) _ (by omega) (fun q hq => ?_) (fun i hi => ?_))⟩
    · rw [hS', sv_ca _ j (by omega), pk_un (by omega)]
      exact h1 q hq
    · rw [hS', sv_ca _ j (by omega), hc]
      by_cases hij : i = j
      · subst hij
        exact pk_us
      · rw [pk_un (by omega)]
        exact h2 i (by omega)
theorem sf_putSlot (post : SX → Prop) (s : Nat) (hs : s < 4) (x : Int32) (fa fb fc fd fe ff fg fh : Int32) (aK aE aV aS aC aY aT aW : Nat → Int32) (hT : ch_tl 16 aT)
    (hp : ∀ aS' : Nat → Int32, (∀ q, q < s * 16 ∨ s * 16 + 16 ≤ q → aS' q = aS q) → (∀ i, i < 8 → aS' (s * 16 + i) = ch_P x 2 0 i) → (∀ i, i < 8 → aS' (s * 16 + 8 + i) = ch_P x 3 fh i ^^^ aY i) → post (fa, fb, fc, fd, (fe ||| ((1 : Int32) <<< (nI s &&& 31))), ff, fg, fh, aK, aE, aV, aS', aC, aY, (fun _ => 0), ch_P x 3 fh, aW)) : wpX_putSlot post (fa, fb, fc, fd, fe, ff, fg, fh, aK, aE, aV, aS, aC, aY, (fun _ => 0), aT, aW) (nI s) x :=
  nm_r (pk_mul s 16) (sf_stream _ fa fb fc fd fe ff fg fh aK aE aV aS aC aY aT aW _ _ _ hT ⟨9, sf_ps15 post s hs x fa fb fc fd fe ff fg fh aK aE aV aC aY (ch_P x 2 0) aW aS (ch_tl_P x 2 0) hp 8 0 aS rfl (fun _ _ => rfl) (fun i hi => absurd hi (by omega))⟩)
/-! forgetting -/
theorem sv_fs44 (post : SX → Prop) (fa fb fc fd fe ff fg fh : Int32) (aK aE aV aS aC aY aD aT : Nat → Int32) (hp : ∀ aW' : Nat → Int32, post (fa, fb, fc, fd, fe, ff, fg, fh, aK, aE, aV, aS, aC, aY, aD, aT, aW')) :
    ∀ (d j : Nat) (aW : Nat → Int32), j + d = 9 → wX_forgetSecrets_44 post fa fb fc fd fe ff fg fh (d + 1) (nI j) aK aE aV aS aC aY aD aT aW := by
  intro d
  induction d with
  | zero => intro j aW hj; exact br_t (sv_ge 9 (by omega) (by omega)) (hp _)
  | succ d ih =>
    intro j aW hj
    exact br_f (sv_ng 9 (by omega) (by decide)) ⟨sv_i9 (by omega), fun _ _ => nm_r (nI_1 j) (ih (j + 1) _ (by omega))⟩
theorem ch_i1 (n : Nat) (W : Nat → Int32) (h : ch_tl n W) : (fun q => if q < n then (0 : Int32) else W q) = (fun _ => 0) := ch_ie n (fun _ => 0) W (ch_tl_0 n) h
theorem sf_fs23 (post : SX → Prop) (fa fb fc fd fe ff fg fh : Int32) (aK aE aV aS aC aY aD aT aW : Nat → Int32) (hT : ch_tl 16 aT) (hp : ∀ aW' : Nat → Int32, post (fa, fb, fc, fd, fe, ff, fg, fh, aK, aE, aV, aS, aC, aY, aD, (fun _ => 0), aW')) :
    ∀ (d j : Nat), j + d = 16 → wX_forgetSecrets_23 post fa fb fc fd fe ff fg fh (d + 1) (nI j) aK aE aV aS aC aY aD (fun q => if q < j then 0 else aT q) aW := by
  intro d
  induction d with
  | zero =>
    intro j hj
    have e : j = 16 := by omega
    subst e
    rw [ch_i1 16 aT hT]
    exact br_t (sv_ge 16 (by omega) (by omega)) ⟨10, sv_fs44 post fa fb fc fd fe ff fg fh aK aE aV aS aC aY aD (fun _ => 0) hp 9 0 aW rfl⟩
  | succ d ih =>
    intro j hj
    have hc : (nI j).toNatClampNeg = j := nI_clamp (by omega)
    refine br_f (sv_ng 16 (by omega) (by decide)) ⟨sv_i16 (by omega), nm_r ?_ (nm_r (nI_1 j) (ih (j + 1) (by omega)))⟩
    rw [hc]
    exact ch_ui (fun _ => 0) aT j _ rfl
theorem sf_fs2 (post : SX → Prop) (fa fb fc fd fe ff fg fh : Int32) (aK aE aV aS aC aY aD aT aW : Nat → Int32) (hT : ch_tl 16 aT) (hY : ch_tl 8 aY) (hp : ∀ aW' : Nat → Int32, post (fa, fb, fc, fd, fe, ff, fg, fh, aK, aE, aV, aS, aC, (fun _ => 0), aD, (fun _ => 0), aW')) :
    ∀ (d j : Nat), j + d = 8 → wX_forgetSecrets_2 post fa fb fc fd fe ff fg fh (d + 1) (nI j) aK aE aV aS aC (fun q => if q < j then 0 else aY q) aD aT aW := by
  intro d
  induction d with
  | zero =>
    intro j hj
    have e : j = 8 := by omega
    subst e
    rw [ch_i1 8 aY hY]
    have h := sf_fs23 post fa fb fc fd fe ff fg fh aK aE aV aS aC (fun _ => 0) aD aT aW hT hp 16 0 rfl
    rw [ch_i0] at h
    exact br_t (sv_ge 8 (by omega) (by omega)) ⟨17, h⟩
  | succ d ih =>
    intro j hj
    have hc : (nI j).toNatClampNeg = j := nI_clamp (by omega)
    refine br_f (sv_ng 8 (by omega) (by decide)) ⟨sv_i8 (by omega), nm_r ?_ (nm_r (nI_1 j) (ih (j + 1) (by omega)))⟩
    rw [hc]
    exact ch_ui (fun _ => 0) aY j _ rfl
theorem sf_forget (post : SX → Prop) (fa fb fc fd fe ff fg fh : Int32) (aK aE aV aS aC aY aD aT aW : Nat → Int32) (hT : ch_tl 16 aT) (hY : ch_tl 8 aY) (hp : ∀ aW' : Nat → Int32, post (fa, fb, fc, fd, fe, ff, fg, fh, aK, aE, aV, aS, aC, (fun _ => 0), aD, (fun _ => 0), aW')) : wpX_forgetSecrets post (fa, fb, fc, fd, fe, ff, fg, fh, aK, aE, aV, aS, aC, aY, aD, aT, aW) := by
  have h := sf_fs2 post fa fb fc fd fe ff fg fh aK aE aV aS aC aY aD aT aW hT hY hp 8 0 rfl
  rw [ch_i0] at h
  exact ⟨9, h⟩
theorem sf_close (post : SX → Prop) (fa fb fc fd fe ff fg fh : Int32) (aK aE aV aS aC aY aD aT aW : Nat → Int32) (hT : ch_tl 16 aT) (hY : ch_tl 8 aY) (hp : ∀ aW' : Nat → Int32, post (fa, 0, fc, fd, fe, ff, fg, fh, aK, aE, aV, aS, aC, (fun _ => 0), aD, (fun _ => 0), aW')) : wpX_close post (fa, fb, fc, fd, fe, ff, fg, fh, aK, aE, aV, aS, aC, aY, aD, aT, aW) :=
  sf_forget _ fa 0 fc fd fe ff fg fh aK aE aV aS aC aY aD aT aW hT hY hp
