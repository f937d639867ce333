theorem sv_ne1 (x : Int32) : x ≠ x + 1 := by
  intro h
  have h2 : x + 0 = x + 1 := by rw [Int32.add_zero]; exact h
  exact absurd ((Int32.add_right_inj x).mp h2) (by decide)
theorem rl_ep_n {m : Nat} {fg : Int32} {E : Nat → Int32} (h : rl_ep m fg E) : ∀ i, m ≤ i → i < 12 → E i ≠ fg := fun i h1 h2 z => by
  have e := h.2.2 i h1 h2
  rw [z] at e
  exact sv_ne1 fg e.symm
theorem sv_cr4 (post : Int32 → Prop) (m : Nat) (hm : m ≤ 12) (fa fb fc fd fe ff fg fh : Int32) (aK aE aV aS aC aY aD aT aW : Nat → Int32) (h1 : ∀ i, i < m → aE i = fg) (h2 : ∀ i, m ≤ i → i < 12 → aE i ≠ fg) (hp : post (nI (12 - m))) :
    ∀ (d j : Nat), j + d = 12 → wX_countToRenew_4 post fa fb fc fd fe ff fg fh aK aE aV aS aC aY aD aT aW (d + 1) (nI (j - m)) (nI j) := by
  intro d
  induction d with
  | zero => intro j hj; refine br_t (sv_ge 12 (by omega) (by omega)) ?_; rw [show j = 12 by omega]; exact hp
  | succ d ih =>
    intro j hj
    have hc : (nI j).toNatClampNeg = j := nI_clamp (by omega)
    have hn := ih (j + 1) (by omega)
    refine br_f (sv_ng 12 (by omega) (by decide)) ⟨sv_i12 (by omega), ?_⟩
    rw [hc]
    by_cases hjm : j < m
    · rw [show j + 1 - m = j - m by omega] at hn
      exact br_t (h1 j hjm) (nm_r (nI_1 j) hn)
    · rw [show j + 1 - m = (j - m) + 1 by omega] at hn
      exact br_f (h2 j (by omega) (by omega)) (nm_r (nI_1 (j - m)) (nm_r (nI_1 j) hn))
theorem sf_cr (post : Int32 → Prop) (m : Nat) (fa fb fc fd fe ff fg fh : Int32) (aK aE aV aS aC aY aD aT aW : Nat → Int32) (h : rl_ep m fg aE) (hp : post (nI (12 - m))) : wpX_countToRenew post (fa, fb, fc, fd, fe, ff, fg, fh, aK, aE, aV, aS, aC, aY, aD, aT, aW) :=
  ⟨13, by
    have h := sv_cr4 post m h.1 fa fb fc fd fe ff fg fh aK aE aV aS aC aY aD aT aW h.2.1 (rl_ep_n h) hp 12 0 rfl
    rw [show 0 - m = 0 by omega] at h
    exact h⟩
theorem rl_ep_u {j : Nat} {fg : Int32} {E : Nat → Int32} (h : rl_ep j fg E) (hj : j < 12) : rl_ep (j + 1) fg (upd E j fg) := by
  refine ⟨by omega, fun i hi => ?_, fun i h1 h2 => ?_⟩
  · by_cases hij : i = j
    · rw [hij]; exact pk_us
    · rw [pk_un hij]; exact h.2.1 i (by omega)
  · rw [pk_un (by omega)]
    exact h.2.2 i (by omega) h2
theorem sf_rn42 (post : Int32 → SX → Prop) (x : Int32) (m : Nat) (fa fb fc fd fe ff fg fh : Int32) (aV aS aC aY : Nat → Int32) (bC bD : Nat → Int32)
    (hp : ∀ (j : Nat) (aK' aE' aT' aW' : Nat → Int32), m ≤ j → (j = 12 ∨ x ≤ nI (j - m)) → (∀ q, m ≤ q → q < j → ¬ x ≤ nI (q - m)) → ch_tl 16 aT' → rl_ep j fg aE' → rl_sc aY aK' aE' aV bC bD → post (nI (12 - j)) (fa, fb, fc, fd, fe, ff, fg, fh, aK', aE', aV, aS, aC, aY, (fun _ => 0), aT', aW')) :
    ∀ (d j : Nat) (aK aE aT aW : Nat → Int32), j + d = 12 → m ≤ j → (∀ q, m ≤ q → q < j → ¬ x ≤ nI (q - m)) → ch_tl 16 aT → rl_ep j fg aE → rl_sc aY aK aE aV bC bD → wX_renew_42 post x (nI m) (d + 1) (nI j) fa fb fc fd fe ff fg fh aK aE aV aS aC aY (fun _ => 0) aT aW := by
  intro d
  induction d with
  | zero =>
    intro j aK aE aT aW hj hm hx hT hE hC
    exact br_t (sv_ge 12 (by omega) (by omega)) (sf_cr _ j fa fb fc fd fe ff fg fh aK aE aV aS aC aY (fun _ => 0) aT aW hE (hp j _ _ _ _ hm (Or.inl (by omega)) hx hT hE hC))
  | succ d ih =>
    intro j aK aE aT aW hj hm hx hT hE hC
    refine br_f (sv_ng 12 (by omega) (by decide)) ?_
    rw [pk_sub hm]
    refine br_c (fun h => sf_cr _ j fa fb fc fd fe ff fg fh aK aE aV aS aC aY (fun _ => 0) aT aW hE (hp j _ _ _ _ hm (Or.inr h) hx hT hE hC)) (fun h => ?_)
    refine sf_writeRenewed _ j (by omega) 9 fa fb fc fd fe ff fg fh aK aE aV aS aC aY aT aW hT (fun aW1 n hn hn9 => ?_)
    have e9 : n = 9 := by
      by_cases h9 : n < 9
      · exact absurd (hn9 h9) (sv_ng 9 h9 (by decide))
      · omega
    subst e9
    refine sf_finish _ j (by omega) fa fb fc fd fe ff fg fh _ aE aV aS aC aY (fun _ => 0) (ch_S aY (nI j) fg (aV j)) aW1 (fun aK2 hK => nm_r (nI_1 j) (ih (j + 1) aK2 (upd aE j fg) (ch_S aY (nI j) fg (aV j)) aW1 (by omega) (by omega) (fun q h1 h2 => ?_) (ch_tl_S _ _ _ _) (rl_ep_u hE (by omega)) (rl_sc_r aW hC j (by omega) (hE.2.2 j (by omega) (by omega)) hK)))
    by_cases hq : q = j
    · rw [hq]; exact h
    · exact hx q h1 (by omega)
theorem sf_rn32 (post : Int32 → SX → Prop) (x : Int32) (m : Nat) (fa fb fc fd fe ff fg fh : Int32) (aK aE aV aS aC aY aT aW : Nat → Int32) (bC bD : Nat → Int32) (hT : ch_tl 16 aT) (hE : rl_ep m fg aE) (hC : rl_sc aY aK aE aV bC bD)
    (hp : ∀ (j : Nat) (aK' aE' aT' aW' : Nat → Int32), m ≤ j → (j = 12 ∨ x ≤ nI (j - m)) → (∀ q, m ≤ q → q < j → ¬ x ≤ nI (q - m)) → ch_tl 16 aT' → rl_ep j fg aE' → rl_sc aY aK' aE' aV bC bD → post (nI (12 - j)) (fa, fb, fc, fd, fe, ff, fg, fh, aK', aE', aV, aS, aC, aY, (fun _ => 0), aT', aW')) : wX_renew_32 post x fa fb fc fd fe ff fg fh aK aE aV aS aC aY (fun _ => 0) aT aW := by
  have hm := hE.1
  refine sf_cr _ m fa fb fc fd fe ff fg fh aK aE aV aS aC aY (fun _ => 0) aT aW hE (nm_r (e' := nI m) ?_ ⟨12 - m + 1, sf_rn42 post x m fa fb fc fd fe ff fg fh aV aS aC aY bC bD hp (12 - m) m aK aE aT aW (by omega) (by omega) (fun q h1 h2 => absurd h2 (by omega)) hT hE hC⟩)
  show nI 12 - nI (12 - m) = nI m
  rw [pk_sub (by omega)]
  exact congrArg nI (by omega)
theorem sg_rn28 (post : Int32 → SY → Prop) (x : Int32) (m j : Nat) (hm : m ≤ 12) (hj : m ≤ j) (h12 : j ≤ 12) (ga gb gd ge : Int32) (bC bD bU bP bV bQ : Nat → Int32) (h1 : j = 12 ∨ x ≤ nI (j - m)) (h2 : ∀ q, m ≤ q → q < j → ¬ x ≤ nI (q - m)) (hp : post (nI (12 - j)) (ga, gb, nI (12 - j), gd, ge, bC, bD, bU, bP, bV, bQ)) : wY_renew_28 post x ga gb (nI (12 - m)) gd ge bC bD bU bP bV bQ := by
  refine br_c (fun h0 => ?_) (fun h0 => ?_)
  · have e : j = m := by
      by_cases h : m < j
      · refine absurd ?_ (h2 m (by omega) h)
        rw [show m - m = 0 by omega]
        exact h0
      · omega
    subst e
    exact hp
  · obtain ⟨p, hp31, rfl⟩ := nI_of (x := x) (fun z => h0 (Int32.le_of_lt z))
    have hb : ∀ q, m ≤ q → q < j → q - m < p := fun q a b => by
      have := h2 q a b
      rw [nI_leI hp31 (by omega)] at this
      omega
    have hub : j - m ≤ p := by
      by_cases h : m < j
      · have := hb (j - 1) (by omega) (by omega)
        omega
      · omega
    have hlb : j = 12 ∨ p ≤ j - m := by
      rcases h1 with h | h
      · exact Or.inl h
      · rw [nI_leI hp31 (by omega)] at h
        exact Or.inr h
    refine br_c (fun hl => ?_) (fun hl => ?_)
    · rw [nI_leI hp31 (by omega)] at hl
      rw [pk_sub hl, show 12 - m - p = 12 - j by omega]
      exact nm_e hp
    · rw [nI_leI hp31 (by omega)] at hl
      have e : j = 12 := by omega
      subst e
      exact hp
theorem j_vc_renew {k : Nat} {u : SX} {v : SY} (I : i_Rel k u v) (v1 : Int32) : wpX_renew (fun r u' => wpY_renew (fun r' v' => r' = r ∧ i_Rel (k + 4) u' v') v v1) u v1 := by
  obtain ⟨fa, fb, fc, fd, fe, ff, fg, fh, aK, aE, aV, aS, aC, aY, aD, aT, aW⟩ := u
  obtain ⟨gc, bC, bD, bU, bP, bV, bQ, rfl, rfl, R⟩ := I
  refine br_c (fun hb => br_t hb ⟨rfl, rl_mk R⟩) (fun hb => ?_)
  obtain ⟨hT, ha, hY, ⟨m, hE, rfl, hst, _⟩, t, ht, ht0, rfl, hS, hC, hcp⟩ := rl_op R hb
  have hm := hE.1
  refine sf_cr _ m fa fb fc fd (nI t) ff fg fh aK aE aV aS aC aY (fun _ => 0) aT aW hE (br_c (fun h0 => nm_e ?_) (fun h0 => ?_))
  · have e : m = 12 := by
      have := (nI_eq (a := 12 - m) (b := 0) (by omega) (by decide)).mp h0
      omega
    subst e
    have hE2 : rl_ep 0 (fg + 1) aE := ⟨by decide, fun i hi => absurd hi (by omega), fun i _ hi => by rw [hE.2.1 i hi]⟩
    refine sf_rn32 _ v1 0 fa fb fc 1 (nI t) ff (fg + 1) fh aK aE aV aS aC aY aT aW bC bD hT hE2 hC (fun j aK' aE' aT' aW' hj h1 h2 hT' hE' hC' => ?_)
    refine br_f hb (br_t rfl (sg_rn28 _ v1 0 j (by decide) hj hE'.1 fa fb fc 1 bC bD bU bP bV bQ h1 h2 ⟨rfl, rl_mk (rl_po hb ha hT' hY ⟨j, hE', rfl, fun _ _ => by decide, fun z => absurd z ha⟩ t ht ht0 hS hC' hcp)⟩))
  · refine sf_rn32 _ v1 m fa fb fc fd (nI t) ff fg fh aK aE aV aS aC aY aT aW bC bD hT hE hC (fun j aK' aE' aT' aW' hj h1 h2 hT' hE' hC' => ?_)
    refine br_f hb (br_f h0 (sg_rn28 _ v1 m j hm hj hE'.1 fa fb fc fd bC bD bU bP bV bQ h1 h2 ⟨rfl, rl_mk (rl_po hb ha hT' hY ⟨j, hE', rfl, fun hc _ => hst hc ?_, fun z => absurd z ha⟩ t ht ht0 hS hC' hcp)⟩))
    by_cases h : m < 12
    · exact h
    · exact absurd (by rw [show 12 - m = 0 by omega]; rfl) h0
theorem j_vc_toRenew {k : Nat} {u : SX} {v : SY} (I : i_Rel k u v) : wpX_toRenew (fun r => wpY_toRenew (fun r' => r' = r ∧ i_Rel (k + 4) u v) v) u := by
  obtain ⟨fa, fb, fc, fd, fe, ff, fg, fh, aK, aE, aV, aS, aC, aY, aD, aT, aW⟩ := u
  obtain ⟨gc, bC, bD, bU, bP, bV, bQ, rfl, rfl, R⟩ := I
  obtain ⟨m, hE, hg, _⟩ := R.2.2.1
  unfold wpX_toRenew
  exact sf_cr _ m fa fb fc fd fe ff fg fh aK aE aV aS aC aY (fun _ => 0) aT aW hE ⟨hg, rl_mk R⟩
/-! copies -/
theorem sf_sv12 (post : Int32 → SX → Prop) (t : Nat) (ht : t < 16) (m : Nat) (fa fb fc fd ff fg fh : Int32) (aK aE aV aS aY aD aT aW : Nat → Int32) (hE : rl_ep m fg aE)
    (hp : ∀ aC' : Nat → Int32, (∀ q, q < 64 → aC' q = aS q) → (m = 12 → post (nI (sv_pop t)) (fa, fb, 1, 0, nI t, nI t, fg, fh, aK, aE, aV, aS, aC', aY, aD, aT, aW)) ∧ (m < 12 → post (nI (sv_pop t)) (fa, fb, 1, 1, nI t, nI t, fg, fh, aK, aE, aV, aS, aC', aY, aD, aT, aW))) :
    ∀ (d j : Nat) (aC : Nat → Int32), j + d = 64 → (∀ q, q < j → aC q = aS q) → wX_saveSlots_12 post fa fb fc fd (nI t) ff fg fh (d + 1) (nI j) aK aE aV aS aC aY aD aT aW := by
  have hm := hE.1
  intro d
  induction d with
  | zero =>
    intro j aC hj h
    obtain ⟨h1, h2⟩ := hp aC (fun q hq => h q (by omega))
    refine br_t (sv_ge 64 (by omega) (by omega)) (sf_cr _ m fa fb 1 fd (nI t) (nI t) fg fh aK aE aV aS aC aY aD aT aW hE (br_c (fun z => ⟨rfl, rfl, sf_ct _ t ht fa fb 1 0 (nI t) fg fh aK aE aV aS aC aY aD aT aW (h1 ?_)⟩) (fun z => ⟨rfl, rfl, sf_ct _ t ht fa fb 1 1 (nI t) fg fh aK aE aV aS aC aY aD aT aW (h2 ?_)⟩)))
    · have z2 : nI (12 - m) ≤ nI 0 := z
      rw [nI_leI (by omega) (by decide)] at z2
      omega
    · have z2 : ¬ nI (12 - m) ≤ nI 0 := z
      rw [nI_leI (by omega) (by decide)] at z2
      omega
  | succ d ih =>
    intro j aC hj h
    refine br_f (sv_ng 64 (by omega) (by decide)) ⟨sv_i64 (by omega), sv_i64 (by omega), fun y ey => nm_r (nI_1 j) (ih (j + 1) _ (by omega) (fun q hq => ?_))⟩
    rw [ey, nI_clamp (n := j) (by omega)]
    by_cases hqj : q = j
    · subst hqj; exact pk_us
    · rw [pk_un hqj]; exact h q (by omega)
theorem sg_ss33 (post : Int32 → SY → Prop) (t : Nat) (ga gb gc gd ge : Int32) (bC bD bU bP : Nat → Int32) (hU : ∀ s, s < 4 → bU s = nI (sv_bt t s)) (hp : ∀ bV' bQ' : Nat → Int32, (∀ s, s < 4 → bV' s = bU s) → (∀ s, s < 4 → bQ' s = bP s) → post (nI (sv_pop t)) (ga, gb, gc, gd, ge, bC, bD, bU, bP, bV', bQ')) :
    ∀ (d j : Nat) (bV bQ : Nat → Int32), j + d = 4 → (∀ s, s < j → bV s = bU s) → (∀ s, s < j → bQ s = bP s) → wY_saveSlots_33 post ga gb gc gd ge (d + 1) (nI j) bC bD bU bP bV bQ := by
  intro d
  induction d with
  | zero => intro j bV bQ hj h1 h2; exact br_t (sv_ge 4 (by omega) (by omega)) (sg_cs _ t ga gb gc gd ge bC bD bU bP bV bQ hU (hp _ _ (fun s hs => h1 s (by omega)) (fun s hs => h2 s (by omega))))
  | succ d ih =>
    intro j bV bQ hj h1 h2
    have hi : vp_in (nI j) 4 := sy_i4 (by omega)
    refine br_f (sv_ng 4 (by omega) (by decide)) ⟨hi, hi, fun y ey => ⟨hi, hi, fun z ez => nm_r (nI_1 j) (ih (j + 1) _ _ (by omega) (fun s hs => ?_) (fun s hs => ?_))⟩⟩
    · rw [ey, nI_clamp (n := j) (by omega), hU j (by omega), sy_nb]
      by_cases hsj : s = j
      · subst hsj; rw [pk_us, hU s (by omega)]
      · rw [pk_un hsj]; exact h1 s (by omega)
    · rw [ez, nI_clamp (n := j) (by omega)]
      by_cases hsj : s = j
      · subst hsj; exact pk_us
      · rw [pk_un hsj]; exact h2 s (by omega)
theorem j_vc_saveSlots {k : Nat} {u : SX} {v : SY} (I : i_Rel k u v) : wpX_saveSlots (fun r u' => wpY_saveSlots (fun r' v' => r' = r ∧ i_Rel (k + 4) u' v') v) u := by
  obtain ⟨fa, fb, fc, fd, fe, ff, fg, fh, aK, aE, aV, aS, aC, aY, aD, aT, aW⟩ := u
  obtain ⟨gc, bC, bD, bU, bP, bV, bQ, rfl, rfl, R⟩ := I
  refine br_c (fun ha => br_t ha ⟨rfl, rl_mk R⟩) (fun ha => ?_)
  obtain ⟨hT, h0, ⟨m, hE, rfl, hst, hm12⟩, ky, t, hky, hY0, hY1, ht, rfl, ht0, hpr, hcp⟩ := R
  obtain ⟨htn, hS, hC⟩ := hpr ha
  have hm := hE.1
  have hU : ∀ s, s < 4 → bU s = nI (sv_bt t s) := fun s hs => (hS s hs).1
  refine ⟨65, sf_sv12 _ t ht m fa fb fc fd ff fg fh aK aE aV aS aY (fun _ => 0) aT aW hE (fun aC' hC' => ⟨fun hm1 => ?_, fun hm1 => ?_⟩) 64 0 aC rfl (fun q hq => absurd hq (by omega))⟩
  · refine br_f ha (br_t ?_ ⟨5, sg_ss33 _ t fa fb (nI (12 - m)) 1 0 bC bD bU bP hU (fun bV' bQ' h1 h2 => ⟨rfl, rl_mk ⟨hT, fun z => absurd z ha, ⟨m, hE, rfl, fun _ z => absurd hm1 (by omega), hm12⟩, ky, t, hky, hY0, hY1, ht, rfl, ht0, hpr, fun _ => ⟨t, ht, htn, rfl, sl_cp hS hC' h1 h2⟩⟩⟩) 4 0 bV bQ rfl (fun s hs => absurd hs (by omega)) (fun s hs => absurd hs (by omega))⟩)
    rw [show 12 - m = 0 by omega]
    decide
  · refine br_f ha (br_f ?_ ⟨5, sg_ss33 _ t fa fb (nI (12 - m)) 1 1 bC bD bU bP hU (fun bV' bQ' h1 h2 => ⟨rfl, rl_mk ⟨hT, fun z => absurd z ha, ⟨m, hE, rfl, fun _ _ => by decide, hm12⟩, ky, t, hky, hY0, hY1, ht, rfl, ht0, hpr, fun _ => ⟨t, ht, htn, rfl, sl_cp hS hC' h1 h2⟩⟩⟩) 4 0 bV bQ rfl (fun s hs => absurd hs (by omega)) (fun s hs => absurd hs (by omega))⟩)
    exact nI_nle (by omega) (by omega)
theorem sf_rs29 (post : Int32 → SX → Prop) (t : Nat) (ht : t < 16) (fa fb fc fd fe fg fh : Int32) (aK aE aV aC aY aD aT aW : Nat → Int32) (hT : ch_tl 16 aT) (hY : ch_tl 8 aY) (hp : ∀ aS' aW' : Nat → Int32, (∀ q, q < 64 → aS' q = aC q) → post (nI (sv_pop t)) (fa, 0, fc, fd, nI t, nI t, fg, fh, aK, aE, aV, aS', aC, (fun _ => 0), aD, (fun _ => 0), aW')) :
    ∀ (d j : Nat) (aS : Nat → Int32), j + d = 64 → (∀ q, q < j → aS q = aC q) → wX_restoreSlots_29 post fa fb fc fd fe (nI t) fg fh (d + 1) (nI j) aK aE aV aS aC aY aD aT aW := by
  intro d
  induction d with
  | zero =>
    intro j aS hj h
    exact br_t (sv_ge 64 (by omega) (by omega)) (sf_close _ fa fb fc fd (nI t) (nI t) fg fh aK aE aV aS aC aY aD aT aW hT hY (fun aW' => sf_ct _ t ht fa 0 fc fd (nI t) fg fh aK aE aV aS aC (fun _ => 0) aD (fun _ => 0) aW' (hp aS aW' (fun q hq => h q (by omega)))))
  | succ d ih =>
    intro j aS hj h
    refine br_f (sv_ng 64 (by omega) (by decide)) ⟨sv_i64 (by omega), sv_i64 (by omega), fun y ey => nm_r (nI_1 j) (ih (j + 1) _ (by omega) (fun q hq => ?_))⟩
    rw [ey, nI_clamp (n := j) (by omega)]
    by_cases hqj : q = j
    · subst hqj; exact pk_us
    · rw [pk_un hqj]; exact h q (by omega)
theorem sg_rs36 (post : Int32 → SY → Prop) (t : Nat) (ga gb gc gd ge : Int32) (bC bD bV bQ : Nat → Int32) (hV : ∀ s, s < 4 → bV s = nI (sv_bt t s)) (hp : ∀ bU' bP' : Nat → Int32, (∀ s, s < 4 → bU' s = bV s) → (∀ s, s < 4 → bP' s = bQ s) → post (nI (sv_pop t)) (ga, 0, gc, gd, ge, bC, bD, bU', bP', bV, bQ)) :
    ∀ (d j : Nat) (bU bP : Nat → Int32), j + d = 4 → (∀ s, s < j → bU s = bV s) → (∀ s, s < j → bP s = bQ s) → wY_restoreSlots_36 post ga gb gc gd ge (d + 1) (nI j) bC bD bU bP bV bQ := by
  intro d
  induction d with
  | zero => intro j bU bP hj h1 h2; exact br_t (sv_ge 4 (by omega) (by omega)) (sg_cs _ t ga 0 gc gd ge bC bD bU bP bV bQ (fun s hs => by rw [h1 s (by omega)]; exact hV s hs) (hp _ _ (fun s hs => h1 s (by omega)) (fun s hs => h2 s (by omega))))
  | succ d ih =>
    intro j bU bP hj h1 h2
    have hi : vp_in (nI j) 4 := sy_i4 (by omega)
    refine br_f (sv_ng 4 (by omega) (by decide)) ⟨hi, hi, fun y ey => ⟨hi, hi, fun z ez => nm_r (nI_1 j) (ih (j + 1) _ _ (by omega) (fun s hs => ?_) (fun s hs => ?_))⟩⟩
    · rw [ey, nI_clamp (n := j) (by omega), hV j (by omega), sy_nb]
      by_cases hsj : s = j
      · subst hsj; rw [pk_us, hV s (by omega)]
      · rw [pk_un hsj]; exact h1 s (by omega)
    · rw [ez, nI_clamp (n := j) (by omega)]
      by_cases hsj : s = j
      · subst hsj; exact pk_us
      · rw [pk_un hsj]; exact h2 s (by omega)
theorem j_vc_restoreSlots {k : Nat} {u : SX} {v : SY} (I : i_Rel k u v) : wpX_restoreSlots (fun r u' => wpY_restoreSlots (fun r' v' => r' = r ∧ i_Rel (k + 4) u' v') v) u := by
  obtain ⟨fa, fb, fc, fd, fe, ff, fg, fh, aK, aE, aV, aS, aC, aY, aD, aT, aW⟩ := u
  obtain ⟨gc, bC, bD, bU, bP, bV, bQ, rfl, rfl, R⟩ := I
  refine br_c (fun ha => br_t ha ⟨rfl, rl_mk R⟩) (fun ha => br_c (fun hc => br_f ha (br_t hc ⟨rfl, rl_mk R⟩)) (fun hc => br_c (fun hd => ?_) (fun hd => br_f ha (br_f hc (br_f hd ⟨rfl, rl_mk R⟩)))))
  have hY := rl_Y R
  obtain ⟨hT, h0, ⟨m, hE, rfl, hst, hm12⟩, ky, t, hky, hY0, hY1, ht, rfl, ht0, hpr, hcp⟩ := R
  obtain ⟨htn, hS, hC⟩ := hpr ha
  obtain ⟨t', ht', htn', rfl, hS'⟩ := hcp hc
  have hm := hE.1
  have hV : ∀ s, s < 4 → bV s = nI (sv_bt t' s) := fun s hs => (hS' s hs).1
  refine ⟨65, sf_rs29 _ t' ht' fa fb fc fd (nI t) fg fh aK aE aV aC aY (fun _ => 0) aT aW hT hY (fun aS' aW' hq => ?_) 64 0 aS rfl (fun q hq => absurd hq (by omega))⟩
  refine br_f ha (br_f hc (br_t hd (br_t ?_ ⟨5, sg_rs36 _ t' fa fb (nI (12 - m)) fc fd bC bD bV bQ hV (fun bU' bP' h1 h2 => ⟨rfl, rl_mk ⟨ch_tl_0 16, fun z => absurd z ha, ⟨m, hE, rfl, hst, hm12⟩, ky, t', hky, fun _ => rfl, fun z => absurd rfl z, ht', rfl, fun z => absurd z ha, fun _ => ⟨htn', sl_cp hS' hq h1 h2, hC⟩, fun _ => ⟨t', ht', htn', rfl, hS'⟩⟩⟩) 4 0 bU bP rfl (fun s hs => absurd hs (by omega)) (fun s hs => absurd hs (by omega))⟩)))
  have e : m = 12 := by
    by_cases h : m < 12
    · exact absurd hd (hst hc h)
    · omega
  rw [e]
  decide
/-! damage, crash, faults -/
theorem sv_rem (x : Int32) : (0 ≤ x - x / 288 * 288 → ∃ q : Nat, q < 288 ∧ x - x / 288 * 288 = nI q) ∧ (¬ 0 ≤ x - x / 288 * 288 → ∃ q : Nat, q < 288 ∧ x - x / 288 * 288 + 288 = nI q) := by
  have h := rem_toInt x 288
  rw [show (288 : Int32).toInt = 288 from by decide] at h
  have b := tmod_bounds (a := x.toInt) (M := 288) (by decide)
  rw [← h] at b
  generalize x - x / 288 * 288 = z at b
  refine ⟨fun h0 => ?_, fun h0 => ?_⟩
  · obtain ⟨j, hj, rfl⟩ := nI_of (x := z) (Int32.not_lt.mpr h0)
    rw [nI_toInt hj] at b
    exact ⟨j, by omega, rfl⟩
  · have hz : z.toInt < 0 := by
      have := Int32.not_le.mp h0
      rw [Int32.lt_iff_toInt_lt] at this
      exact this
    refine ⟨(z.toInt + 288).toNat, by omega, ?_⟩
    apply Int32.toInt_inj.mp
    rw [nI_toInt (by omega), Int32.toInt_add, show (288 : Int32).toInt = 288 from by decide, Int.bmod_eq_of_le (by omega) (by omega)]
    omega
theorem sf_dm50 (post : Int32 → SX → Prop) (i : Nat) (hi : i < 12) (q : Nat) (hq : q < 288) (fa fb fc fd fe ff fg fh : Int32) (aK aE aV aS aC aY aD aT aW : Nat → Int32) (hp : post 0 (fa, fb, fc, fd, fe, ff, fg, fh, upd aK (ch_row i (aE i) + q / 32) (aK (ch_row i (aE i) + q / 32) ^^^ ((1 : Int32) <<< (nI (q % 32) &&& 31))), aE, aV, aS, aC, aY, aD, aT, aW)) : wX_damage_50 post (nI i) (nI q) fa fb fc fd fe ff fg fh aK aE aV aS aC aY aD aT aW := by
  have hd : nI q / 32 = nI (q / 32) := pk_div (a := q) (d := 32) (by omega) (by decide) (by decide)
  have hr : nI q - nI q / 32 * 32 = nI (q % 32) := pk_rem (a := q) (d := 32) (by omega) (by decide) (by decide)
  have hw := ch_row_l hi (aE i)
  have h8 : q / 32 < 9 := by omega
  have hv : vp_in (nI (ch_row i (aE i)) + nI (q / 32)) 216 := sv_ia _ (q / 32) 216 (by omega) (by decide)
  have hc : (nI (ch_row i (aE i)) + nI (q / 32)).toNatClampNeg = ch_row i (aE i) + q / 32 := sv_ca _ _ (by omega)
  unfold wX_damage_50
  rw [hr, hd]
  refine ⟨sv_i12 hi, sf_rowOf _ i _ fa fb fc fd fe ff fg fh aK aE aV aS aC aY aD aT aW ?_⟩
  rw [nI_clamp (n := i) (by omega), hc]
  exact ⟨by decide, hv, by decide, hv, nm_e hp⟩
theorem j_vc_damage {k : Nat} {u : SX} {v : SY} (I : i_Rel k u v) (v1 : Int32) (v2 : Int32) : wpX_damage (fun r u' => wpY_damage (fun r' v' => r' = r ∧ i_Rel (k + 4) u' v') v v1 v2) u v1 v2 := by
  obtain ⟨fa, fb, fc, fd, fe, ff, fg, fh, aK, aE, aV, aS, aC, aY, aD, aT, aW⟩ := u
  obtain ⟨gc, bC, bD, bU, bP, bV, bQ, rfl, rfl, R⟩ := I
  unfold wpX_damage
  dsimp only
  unfold wpY_damage
  dsimp only
  by_cases hx : vp_in v1 12
  · refine pa_xSector_g _ _ _ hx (br_f (by decide) (br_c (fun ha => pa_ySector_g _ _ _ hx (br_t rfl (br_t ha ⟨rfl, rl_mk R⟩))) (fun ha => ?_)))
    obtain ⟨i, hi, rfl⟩ := vp_in_of hx (by decide)
    have hci : (nI i).toNatClampNeg = i := nI_clamp (by omega)
    have R0 := R
    obtain ⟨hT, h0, hm, ky, t, hky, hY0, hY1, ht, rfl, ht0, hpr, hcp⟩ := R
    obtain ⟨htn, hS, hC⟩ := hpr ha
    have hd := rl_dm hC i hi
    have hfin : ∀ q, q < 288 → aK (ch_row i (aE i) + 8) = ch_sm aK (ch_row i (aE i)) 8 → wX_damage_50 (fun r u' => wpY_badSector (fun r_1 => (((r_1 = 0 → (((fa = 0 → ((fun r' v' => r' = r ∧ i_Rel (k + 4) u' v') (-2) (fa, fb, gc, fc, fd, bC, bD, bU, bP, bV, bQ))) ∧ (¬ fa = 0 → (vp_in (nI i) 12 ∧ ((((bD (nI i).toNatClampNeg) = 0 → (vp_in (nI i) 12 ∧ ∀ a_damaged_18 : Nat → Int32, a_damaged_18 = upd bD (nI i).toNatClampNeg (vp_nar .boolean 1) → ((fun r' v' => r' = r ∧ i_Rel (k + 4) u' v') 0 (fa, fb, gc, fc, fd, bC, a_damaged_18, bU, bP, bV, bQ)))) ∧ (¬ (bD (nI i).toNatClampNeg) = 0 → ((fun r' v' => r' = r ∧ i_Rel (k + 4) u' v') (-5) (fa, fb, gc, fc, fd, bC, bD, bU, bP, bV, bQ)))))))))) ∧ (¬ r_1 = 0 → ((fun r' v' => r' = r ∧ i_Rel (k + 4) u' v') (-1) (fa, fb, gc, fc, fd, bC, bD, bU, bP, bV, bQ)))))) (fa, fb, gc, fc, fd, bC, bD, bU, bP, bV, bQ) (nI i)) (nI i) (nI q) fa fb fc fd (nI t) ff fg fh aK aE aV aS aC aY (fun _ => 0) aT aW := by
      intro q hq z
      refine sf_dm50 _ i hi q hq fa fb fc fd (nI t) ff fg fh aK aE aV aS aC aY (fun _ => 0) aT aW (pa_ySector_g _ _ _ hx (br_t rfl (br_f ha ⟨hx, ?_⟩)))
      rw [hci, sy_n1]
      exact br_t (hd.mp z) ⟨hx, nm_e ⟨rfl, rl_mk ⟨hT, h0, hm, ky, t, hky, hY0, hY1, ht, rfl, ht0, fun _ => ⟨htn, hS, rl_sc_d hC i hi (hd.mp z) (q / 32) (by omega) _ (ch_bit (q % 32) (Nat.mod_lt _ (by decide))) 1 (by decide)⟩, hcp⟩⟩⟩
    refine sf_isDamaged _ i hi fa fb fc fd (nI t) ff fg fh aK aE aV aS aC aY (fun _ => 0) aT aW (fun z => br_t rfl ⟨by decide, fun y ey => ?_⟩) (fun z => br_f (by decide) (pa_ySector_g _ _ _ hx (br_t rfl (br_f ha ⟨hx, ?_⟩))))
    · have hr := sv_rem v2
      rw [← ey] at hr
      refine br_c (fun hy => ?_) (fun hy => ?_)
      · obtain ⟨q, hq, e⟩ := hr.1 hy
        rw [e]
        exact hfin q hq z
      · obtain ⟨q, hq, e⟩ := hr.2 hy
        rw [e]
        exact hfin q hq z
    · rw [hci]
      exact br_f (fun y => z (hd.mpr y)) ⟨rfl, rl_mk R0⟩
  · exact pa_xSector_b _ _ _ hx (br_t rfl (pa_ySector_b _ _ _ hx (br_f (by decide) ⟨rfl, rl_mk R⟩)))
theorem j_vc_crash {k : Nat} {u : SX} {v : SY} (I : i_Rel k u v) (v1 : Int32) : wpX_crash (fun r u' => wpY_crash (fun r' v' => r' = r ∧ i_Rel (k + 4) u' v') v v1) u v1 := by
  obtain ⟨fa, fb, fc, fd, fe, ff, fg, fh, aK, aE, aV, aS, aC, aY, aD, aT, aW⟩ := u
  obtain ⟨gc, bC, bD, bU, bP, bV, bQ, rfl, rfl, R⟩ := I
  refine br_c (fun ha => br_t ha ⟨rfl, rl_mk R⟩) (fun ha => ?_)
  have hY := rl_Y R
  have hT := R.1
  have RL := rl_L R (ch_tl_0 16)
  obtain ⟨m, hE, hg, hst, hm12⟩ := R.2.2.1
  have hm := hE.1
  have h35 : wX_crash_35 (fun r u' => wpY_crash (fun r' v' => r' = r ∧ i_Rel (k + 4) u' v') (fa, fb, gc, fc, fd, bC, bD, bU, bP, bV, bQ) v1) (nI (12 - m)) fa fb fc fd fe ff fg fh aK aE aV aS aC aY (fun _ => 0) aT aW := sf_close _ fa fb fc fd fe ff fg fh aK aE aV aS aC aY (fun _ => 0) aT aW hT hY (fun aW' => br_f ha ⟨hg, rl_mk RL⟩)
  refine sf_cr _ m fa fb fc fd fe ff fg fh aK aE aV aS aC aY (fun _ => 0) aT aW hE (br_c (fun _ => h35) (fun hb => br_c (fun _ => h35) (fun hn => ?_)))
  have hm1 : m < 12 := by
    by_cases h : m < 12
    · exact h
    · exact absurd (show nI (12 - m) ≤ nI 0 from nI_le (by omega) (by decide)) hn
  have e : 12 - nI (12 - m) = nI m := by
    show nI 12 - nI (12 - m) = nI m
    rw [pk_sub (by omega)]
    exact congrArg nI (by omega)
  rw [e]
  obtain ⟨_, _, _, hmm, t, ht, ht0, hfe, hS, hC, hcp⟩ := rl_op R hb
  refine sf_writeRenewed _ m hm1 v1 fa fb fc fd fe ff fg fh aK aE aV aS aC aY aT aW hT (fun aW1 j hj hj9 => ?_)
  refine sf_close _ fa fb fc fd fe ff fg fh _ aE aV aS aC aY (fun _ => 0) (ch_S aY (nI m) fg (aV m)) aW1 (ch_tl_S _ _ _ _) hY (fun aW' => br_f ha ⟨hg, rl_mk (rl_L (fb := fb) (aY := aY) (aT := aT) ?_ (ch_tl_0 16))⟩)
  rw [hfe]
  refine rl_po hb ha hT hY hmm t ht ht0 hS (rl_sc_f hC (fun i hi c hc => ch_kw_off _ _ _ _ _ ?_ hj)) hcp
  by_cases him : i = m
  · subst him
    have hp := ch_par i (aE i) fg (hE.2.2 i (by omega) hi)
    omega
  · have hd := ch_row_d him (aE i) fg
    omega
theorem sv_fa69 (post : Int32 → Prop) (fa fb fc fd fe ff fg fh : Int32) (aK aE aV aS aC aY aD aT aW : Nat → Int32) (hY : fb = 0 → aY = fun _ => 0) (hp : post 0) :
    ∀ (d j : Nat), j + d = 8 → wX_faults_69 post fa fb fc fd fe ff fg fh aK aE aV aS aC aY aD aT aW (d + 1) 0 (nI j) := by
  intro d
  induction d with
  | zero => intro j hj; exact br_t (sv_ge 8 (by omega) (by omega)) hp
  | succ d ih =>
    intro j hj
    refine br_f (sv_ng 8 (by omega) (by decide)) (br_c (fun hb => ⟨sv_i8 (by omega), br_t ?_ (nm_r (nI_1 j) (ih (j + 1) (by omega)))⟩) (fun _ => nm_r (nI_1 j) (ih (j + 1) (by omega))))
    rw [hY hb]
theorem sv_fa24 (post : Int32 → Prop) (fa fb fc fd fe ff fg fh : Int32) (aK aE aV aS aC aY aD aT aW : Nat → Int32) (m : Nat) (h1 : ∀ i, i < m → aE i = fg) (h2 : ∀ i, m ≤ i → i < 12 → aE i ≠ fg) (hY : fb = 0 → aY = fun _ => 0) (hp : post 0) :
    ∀ (d j : Nat), j + 1 + d = 12 → wX_faults_24 post fa fb fc fd fe ff fg fh aK aE aV aS aC aY aD aT aW (d + 1) 0 (nI (j + 1)) := by
  intro d
  induction d with
  | zero => intro j hj; exact br_t (sv_ge 12 (by omega) (by omega)) ⟨9, sv_fa69 post fa fb fc fd fe ff fg fh aK aE aV aS aC aY aD aT aW hY hp 8 0 rfl⟩
  | succ d ih =>
    intro j hj
    have hn : ∀ y : Int32, y = nI (j + 1) + 1 → wX_faults_24 post fa fb fc fd fe ff fg fh aK aE aV aS aC aY aD aT aW (d + 1) 0 y := nm_r (nI_1 (j + 1)) (ih (j + 1) (by omega))
    have hc : (nI (j + 1)).toNatClampNeg = j + 1 := nI_clamp (by omega)
    have hc2 : (nI (j + 1) - 1).toNatClampNeg = j := by rw [nI_pred]; exact nI_clamp (by omega)
    have hv : vp_in (nI (j + 1) - 1) 12 := by rw [nI_pred]; exact sv_i12 (by omega)
    refine br_f (sv_ng 12 (by omega) (by decide)) ⟨sv_i12 (by omega), br_c (fun he => ⟨hv, br_t ?_ hn⟩) (fun _ => hn)⟩
    rw [hc] at he
    rw [hc2]
    by_cases hjm : j < m
    · exact h1 j hjm
    · exact absurd he (h2 (j + 1) (by omega) (by omega))
theorem j_vc_faults {k : Nat} {u : SX} {v : SY} (I : i_Rel k u v) : wpX_faults (fun r => wpY_faults (fun r' => r' = r ∧ i_Rel (k + 4) u v) v) u := by
  obtain ⟨fa, fb, fc, fd, fe, ff, fg, fh, aK, aE, aV, aS, aC, aY, aD, aT, aW⟩ := u
  obtain ⟨gc, bC, bD, bU, bP, bV, bQ, rfl, rfl, R⟩ := I
  have R0 := R
  obtain ⟨hT, h0, ⟨m, hE, _, _, _⟩, ky, t, hky, hY0, hY1, ht, rfl, ht0, hpr, hcp⟩ := R
  exact br_c (fun _ => ⟨rfl, rl_mk R0⟩) (fun ha => br_f (nI_ne0 (by have := (hpr ha).1; omega) (by omega)) ⟨12, sv_fa24 _ fa fb fc fd (nI t) ff fg fh aK aE aV aS aC aY (fun _ => 0) aT aW m hE.2.1 (rl_ep_n hE) hY0 ⟨rfl, rl_mk R0⟩ 11 0 rfl⟩)
