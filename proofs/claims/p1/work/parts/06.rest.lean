def sv_Ep (fg : Int32) (aE : Nat → Int32) : Prop := ∃ m : Nat, m ≤ 12 ∧ (∀ i, i < m → aE i = fg) ∧ (∀ i, m ≤ i → i < 12 → aE i ≠ fg)
theorem sv_Pep {fa fb fc fe ff fg fg' : Int32} {aE aE' aY : Nat → Int32} (h : sv_P fa fb fc fe ff fg aE aY) (hE : sv_Ep fg' aE') : sv_P fa fb fc fe ff fg' aE' aY :=
  ⟨h.1, h.2.1, hE, h.2.2.2⟩
theorem sv_cr4 (post : Int32 → Prop) (m : Nat) (hm : m ≤ 12) (fa fb fc fd fe ff fg fh : Int32) (aK aE aV aS aC aY aD aT aW : Nat → Int32) (h1 : ∀ i, i < m → aE i = fg) (h2 : ∀ i, m ≤ i → i < 12 → aE i ≠ fg) (hp : post (nI (12 - m))) :
    ∀ (d j : Nat), j + d = 12 → wX_countToRenew_4 post fa fb fc fd fe ff fg fh aK aE aV aS aC aY aD aT aW (d + 1) (nI (j - m)) (nI j) := by
  intro d
  induction d with
  | zero => intro j hj; refine br_t (sv_ge 12 (by omega) (by omega)) ?_; rw [show j = 12 by omega]; exact hp
  | succ d ih =>
    intro j hj
    have hc : (nI j).toNatClampNeg = j := nI_clamp (by omega)
    have hn := ih (j + 1) (by omega)
    refine br_f (sv_ng 12 (by omega) (by decide)) ⟨sv_i12 (by omega), ?_⟩
    rw [hc]
    by_cases hjm : j < m
    · rw [show j + 1 - m = j - m by omega] at hn
      exact br_t (h1 j hjm) (nm_r (nI_1 j) hn)
    · rw [show j + 1 - m = (j - m) + 1 by omega] at hn
      exact br_f (h2 j (by omega) (by omega)) (nm_r (nI_1 (j - m)) (nm_r (nI_1 j) hn))
theorem sv_cr (post : Int32 → Prop) (m : Nat) (hm : m ≤ 12) (fa fb fc fd fe ff fg fh : Int32) (aK aE aV aS aC aY aD aT aW : Nat → Int32) (h1 : ∀ i, i < m → aE i = fg) (h2 : ∀ i, m ≤ i → i < 12 → aE i ≠ fg) (hp : post (nI (12 - m))) : wpX_countToRenew post (fa, fb, fc, fd, fe, ff, fg, fh, aK, aE, aV, aS, aC, aY, aD, aT, aW) :=
  ⟨13, by
    have h := sv_cr4 post m hm fa fb fc fd fe ff fg fh aK aE aV aS aC aY aD aT aW h1 h2 hp 12 0 rfl
    rw [show 0 - m = 0 by omega] at h
    exact h⟩
theorem sv_rn42 (post : Int32 → SX → Prop) (x1 x2 : Int32) (fa fb fc fd fe ff fg fh : Int32) (aV aS aC aY : Nat → Int32) (hp : ∀ aK' aE' aD' aT' aW' : Nat → Int32, ∀ r : Int32, sv_Ep fg aE' → post r (fa, fb, fc, fd, fe, ff, fg, fh, aK', aE', aV, aS, aC, aY, aD', aT', aW')) :
    ∀ (d j : Nat) (aK aE aD aT aW : Nat → Int32), j + d = 12 → (∀ i, i < j → aE i = fg) → (∀ i, j ≤ i → i < 12 → aE i ≠ fg) → wX_renew_42 post x1 x2 (d + 1) (nI j) fa fb fc fd fe ff fg fh aK aE aV aS aC aY aD aT aW := by
  intro d
  induction d with
  | zero =>
    intro j aK aE aD aT aW hj h1 h2
    exact br_t (sv_ge 12 (by omega) (by omega)) (sv_cr _ j (by omega) fa fb fc fd fe ff fg fh aK aE aV aS aC aY aD aT aW h1 h2 (hp _ _ _ _ _ _ ⟨j, by omega, h1, h2⟩))
  | succ d ih =>
    intro j aK aE aD aT aW hj h1 h2
    refine br_f (sv_ng 12 (by omega) (by decide)) (br_c (fun _ => sv_cr _ j (by omega) fa fb fc fd fe ff fg fh aK aE aV aS aC aY aD aT aW h1 h2 (hp _ _ _ _ _ _ ⟨j, by omega, h1, h2⟩)) (fun _ => ?_))
    refine sv_writeRenewed _ j (by omega) 9 fa fb fc fd fe ff fg fh aK aE aV aS aC aY aD aT aW (fun aK1 aD1 aT1 aW1 => sv_finish _ j (by omega) fa fb fc fd fe ff fg fh aK1 aE aV aS aC aY aD1 aT1 aW1 (fun aK2 => nm_r (nI_1 j) (ih (j + 1) aK2 (upd aE j fg) aD1 aT1 aW1 (by omega) ?_ ?_)))
    · intro i hi
      by_cases hij : i = j
      · rw [hij]; exact pk_us
      · rw [pk_un hij]; exact h1 i (by omega)
    · intro i hi hi2
      rw [pk_un (by omega)]
      exact h2 i (by omega) hi2
theorem sv_rn32 (post : Int32 → SX → Prop) (x : Int32) (fa fb fc fd fe ff fg fh : Int32) (aK aE aV aS aC aY aD aT aW : Nat → Int32) (hE : sv_Ep fg aE) (hp : ∀ aK' aE' aD' aT' aW' : Nat → Int32, ∀ r : Int32, sv_Ep fg aE' → post r (fa, fb, fc, fd, fe, ff, fg, fh, aK', aE', aV, aS, aC, aY, aD', aT', aW')) : wX_renew_32 post x fa fb fc fd fe ff fg fh aK aE aV aS aC aY aD aT aW := by
  obtain ⟨m, hm, h1, h2⟩ := hE
  refine sv_cr _ m hm fa fb fc fd fe ff fg fh aK aE aV aS aC aY aD aT aW h1 h2 (nm_r (e' := nI m) ?_ ⟨12 - m + 1, sv_rn42 post x (nI m) fa fb fc fd fe ff fg fh aV aS aC aY hp (12 - m) m aK aE aD aT aW (by omega) h1 h2⟩)
  show nI 12 - nI (12 - m) = nI m
  rw [pk_sub (by omega)]
  exact congrArg nI (by omega)
theorem sv_ne1 (x : Int32) : x ≠ x + 1 := by
  intro h
  have h2 : x + 0 = x + 1 := by rw [Int32.add_zero]; exact h
  exact absurd ((Int32.add_right_inj x).mp h2) (by decide)
theorem sv_renew (post : Int32 → SX → Prop) (u : SX) (x : Int32) (I : sv_Inv u) (hp : ∀ r u', sv_Inv u' → post r u') : wpX_renew post u x := by
  obtain ⟨fa, fb, fc, fd, fe, ff, fg, fh, aK, aE, aV, aS, aC, aY, aD, aT, aW⟩ := u
  have J : sv_P fa fb fc fe ff fg aE aY := I
  obtain ⟨m, hm, h1, h2⟩ := J.2.2.1
  refine br_c (fun _ => hp _ _ I) (fun _ => sv_cr _ m hm fa fb fc fd fe ff fg fh aK aE aV aS aC aY aD aT aW h1 h2 (br_c (fun h0 => fun fg' hg => ?_) (fun _ => ?_)))
  · have hm0 : 12 - m = 0 := (nI_eq (by omega) (by decide)).mp h0
    exact sv_rn32 post x fa fb fc 1 fe ff fg' fh aK aE aV aS aC aY aD aT aW ⟨0, by decide, fun i hi => absurd hi (by omega), fun i _ hi => by rw [h1 i (by omega), hg]; exact sv_ne1 fg⟩ (fun aK' aE' aD' aT' aW' r hE => hp _ _ (sv_Pep J hE))
  · exact sv_rn32 post x fa fb fc fd fe ff fg fh aK aE aV aS aC aY aD aT aW ⟨m, hm, h1, h2⟩ (fun aK' aE' aD' aT' aW' r hE => hp _ _ (sv_Pep J hE))
theorem sv_toRenew (post : Int32 → Prop) (u : SX) (I : sv_Inv u) (hp : ∀ r, post r) : wpX_toRenew post u := by
  obtain ⟨fa, fb, fc, fd, fe, ff, fg, fh, aK, aE, aV, aS, aC, aY, aD, aT, aW⟩ := u
  obtain ⟨m, hm, h1, h2⟩ := I.2.2.1
  unfold wpX_toRenew
  exact sv_cr _ m hm fa fb fc fd fe ff fg fh aK aE aV aS aC aY aD aT aW h1 h2 (hp _)
theorem sv_sv12 (post : Int32 → SX → Prop) (fa fb fc fd fe ff fg fh : Int32) (aK aE aV aS aY aD aT aW : Nat → Int32) (hE : sv_Ep fg aE) (hp : ∀ aC' : Nat → Int32, ∀ r z : Int32, post r (fa, fb, 1, z, fe, fe, fg, fh, aK, aE, aV, aS, aC', aY, aD, aT, aW)) :
    ∀ (d j : Nat) (aC : Nat → Int32), j + d = 64 → wX_saveSlots_12 post fa fb fc fd fe ff fg fh (d + 1) (nI j) aK aE aV aS aC aY aD aT aW := by
  obtain ⟨m, hm, h1, h2⟩ := hE
  intro d
  induction d with
  | zero =>
    intro j aC hj
    exact br_t (sv_ge 64 (by omega) (by omega)) (sv_cr _ m hm fa fb 1 fd fe fe fg fh aK aE aV aS aC aY aD aT aW h1 h2 (br_c (fun _ => ⟨rfl, rfl, sv_count _ fa fb 1 0 fe fe fg fh aK aE aV aS aC aY aD aT aW (fun r => hp _ r 0)⟩) (fun _ => ⟨rfl, rfl, sv_count _ fa fb 1 1 fe fe fg fh aK aE aV aS aC aY aD aT aW (fun r => hp _ r 1)⟩)))
  | succ d ih =>
    intro j aC hj
    exact br_f (sv_ng 64 (by omega) (by decide)) ⟨sv_i64 (by omega), sv_i64 (by omega), fun _ _ => nm_r (nI_1 j) (ih (j + 1) _ (by omega))⟩
theorem sv_saveSlots (post : Int32 → SX → Prop) (u : SX) (I : sv_Inv u) (hp : ∀ r u', sv_Inv u' → post r u') : wpX_saveSlots post u := by
  obtain ⟨fa, fb, fc, fd, fe, ff, fg, fh, aK, aE, aV, aS, aC, aY, aD, aT, aW⟩ := u
  have J : sv_P fa fb fc fe ff fg aE aY := I
  refine br_c (fun _ => hp _ _ I) (fun ha => ⟨65, sv_sv12 post fa fb fc fd fe ff fg fh aK aE aV aS aY aD aT aW J.2.2.1 (fun aC' r z => hp _ _ ⟨J.1, ?_, J.2.2.1, J.2.2.2⟩) 64 0 aC rfl⟩)
  obtain ⟨t, ht, e, hz⟩ := J.1
  exact ⟨t, ht, e, fun _ => hz ha⟩
theorem sv_rs29 (post : Int32 → SX → Prop) (fa fb fc fd fe ff fg fh : Int32) (aK aE aV aC aY aD aT aW : Nat → Int32) (hp : ∀ aS' aY' aT' aW' : Nat → Int32, ∀ r : Int32, (∀ i, i < 8 → aY' i = 0) → post r (fa, 0, fc, fd, ff, ff, fg, fh, aK, aE, aV, aS', aC, aY', aD, aT', aW')) :
    ∀ (d j : Nat) (aS : Nat → Int32), j + d = 64 → wX_restoreSlots_29 post fa fb fc fd fe ff fg fh (d + 1) (nI j) aK aE aV aS aC aY aD aT aW := by
  intro d
  induction d with
  | zero =>
    intro j aS hj
    exact br_t (sv_ge 64 (by omega) (by omega)) (sv_close _ fa fb fc fd ff ff fg fh aK aE aV aS aC aY aD aT aW (fun aY' aT' aW' hY => sv_count _ fa 0 fc fd ff ff fg fh aK aE aV aS aC aY' aD aT' aW' (fun r => hp _ _ _ _ r hY)))
  | succ d ih =>
    intro j aS hj
    exact br_f (sv_ng 64 (by omega) (by decide)) ⟨sv_i64 (by omega), sv_i64 (by omega), fun _ _ => nm_r (nI_1 j) (ih (j + 1) _ (by omega))⟩
theorem sv_restoreSlots (post : Int32 → SX → Prop) (u : SX) (I : sv_Inv u) (hp : ∀ r u', sv_Inv u' → post r u') : wpX_restoreSlots post u := by
  obtain ⟨fa, fb, fc, fd, fe, ff, fg, fh, aK, aE, aV, aS, aC, aY, aD, aT, aW⟩ := u
  have J : sv_P fa fb fc fe ff fg aE aY := I
  refine br_c (fun _ => hp _ _ I) (fun _ => br_c (fun _ => hp _ _ I) (fun hc => br_c (fun _ => ⟨65, sv_rs29 post fa fb fc fd fe ff fg fh aK aE aV aC aY aD aT aW (fun aS' aY' aT' aW' r hY => hp _ _ ⟨?_, J.2.1, J.2.2.1, fun _ => hY⟩) 64 0 aS rfl⟩) (fun _ => hp _ _ I)))
  obtain ⟨t, ht, e, hz⟩ := J.2.1
  exact ⟨t, ht, e, fun _ => hz hc⟩
theorem sv_rem (x : Int32) : (0 ≤ x - x / 288 * 288 → ∃ q : Nat, q < 288 ∧ x - x / 288 * 288 = nI q) ∧ (¬ 0 ≤ x - x / 288 * 288 → ∃ q : Nat, q < 288 ∧ x - x / 288 * 288 + 288 = nI q) := by
  have h := rem_toInt x 288
  rw [show (288 : Int32).toInt = 288 from by decide] at h
  have b := tmod_bounds (a := x.toInt) (M := 288) (by decide)
  rw [← h] at b
  generalize x - x / 288 * 288 = z at b
  refine ⟨fun h0 => ?_, fun h0 => ?_⟩
  · obtain ⟨j, hj, rfl⟩ := nI_of (x := z) (Int32.not_lt.mpr h0)
    rw [nI_toInt hj] at b
    exact ⟨j, by omega, rfl⟩
  · have hz : z.toInt < 0 := by
      have := Int32.not_le.mp h0
      rw [Int32.lt_iff_toInt_lt] at this
      exact this
    refine ⟨(z.toInt + 288).toNat, by omega, ?_⟩
    apply Int32.toInt_inj.mp
    rw [nI_toInt (by omega), Int32.toInt_add, show (288 : Int32).toInt = 288 from by decide, Int.bmod_eq_of_le (by omega) (by omega)]
    omega
theorem sv_dm50 (post : Int32 → SX → Prop) (i : Nat) (hi : i < 12) (q : Nat) (hq : q < 288) (fa fb fc fd fe ff fg fh : Int32) (aK aE aV aS aC aY aD aT aW : Nat → Int32) (hp : ∀ aK' : Nat → Int32, post 0 (fa, fb, fc, fd, fe, ff, fg, fh, aK', aE, aV, aS, aC, aY, aD, aT, aW)) : wX_damage_50 post (nI i) (nI q) fa fb fc fd fe ff fg fh aK aE aV aS aC aY aD aT aW := by
  have hd : nI q / 32 = nI (q / 32) := pk_div (a := q) (d := 32) (by omega) (by decide) (by decide)
  have h8 : q / 32 < 9 := by omega
  refine ⟨sv_i12 hi, sv_rowOf _ i hi _ fa fb fc fd fe ff fg fh aK aE aV aS aC aY aD aT aW (fun w hw => ?_)⟩
  have hv : vp_in (nI w + nI q / 32) 216 := by rw [hd]; exact sv_ia w (q / 32) 216 (by omega) (by decide)
  exact ⟨by decide, hv, by decide, hv, fun _ _ => hp _⟩
theorem sv_damage (post : Int32 → SX → Prop) (u : SX) (x y : Int32) (I : sv_Inv u) (hp : ∀ r u', sv_Inv u' → post r u') : wpX_damage post u x y := by
  obtain ⟨fa, fb, fc, fd, fe, ff, fg, fh, aK, aE, aV, aS, aC, aY, aD, aT, aW⟩ := u
  unfold wpX_damage
  refine sv_isSector _ x fa fb fc fd fe ff fg fh aK aE aV aS aC aY aD aT aW (br_t rfl (hp _ _ I)) (fun i hi ei => br_f (by decide) (br_c (fun _ => hp _ _ I) (fun _ => ?_)))
  rw [ei]
  refine sv_isDamaged _ i hi fa fb fc fd fe ff fg fh aK aE aV aS aC aY aD aT aW (br_t rfl ⟨by decide, fun z ez => ?_⟩) (br_f (by decide) (hp _ _ I))
  have hr := sv_rem y
  rw [← ez] at hr
  refine br_c (fun h0 => ?_) (fun h0 => ?_)
  · obtain ⟨q, hq, e⟩ := hr.1 h0
    rw [e]
    exact sv_dm50 post i hi q hq fa fb fc fd fe ff fg fh aK aE aV aS aC aY aD aT aW (fun _ => hp _ _ I)
  · obtain ⟨q, hq, e⟩ := hr.2 h0
    rw [e]
    exact sv_dm50 post i hi q hq fa fb fc fd fe ff fg fh aK aE aV aS aC aY aD aT aW (fun _ => hp _ _ I)
theorem sv_crash (post : Int32 → SX → Prop) (u : SX) (x : Int32) (I : sv_Inv u) (hp : ∀ r u', sv_Inv u' → post r u') : wpX_crash post u x := by
  obtain ⟨fa, fb, fc, fd, fe, ff, fg, fh, aK, aE, aV, aS, aC, aY, aD, aT, aW⟩ := u
  have J : sv_P fa fb fc fe ff fg aE aY := I
  obtain ⟨m, hm, h1, h2⟩ := J.2.2.1
  have h35 : ∀ (r : Int32) (aK aD aT aW : Nat → Int32), wX_crash_35 post r fa fb fc fd fe ff fg fh aK aE aV aS aC aY aD aT aW := fun r aK aD aT aW => sv_close _ fa fb fc fd fe ff fg fh aK aE aV aS aC aY aD aT aW (fun aY' aT' aW' hY => hp _ _ (sv_Pkey J (fun _ => hY)))
  refine br_c (fun _ => hp _ _ I) (fun _ => sv_cr _ m hm fa fb fc fd fe ff fg fh aK aE aV aS aC aY aD aT aW h1 h2 (br_c (fun _ => h35 _ _ _ _ _) (fun _ => br_c (fun _ => h35 _ _ _ _ _) (fun hn => ?_))))
  have hm1 : m < 12 := by
    by_cases h : m < 12
    · exact h
    · exact absurd (show nI (12 - m) ≤ nI 0 from nI_le (by omega) (by decide)) hn
  have e : 12 - nI (12 - m) = nI m := by
    show nI 12 - nI (12 - m) = nI m
    rw [pk_sub (by omega)]
    exact congrArg nI (by omega)
  rw [e]
  exact sv_writeRenewed _ m hm1 x fa fb fc fd fe ff fg fh aK aE aV aS aC aY aD aT aW (fun aK' aD' aT' aW' => h35 _ _ _ _ _)
theorem sv_fa69 (post : Int32 → Prop) (fa fb fc fd fe ff fg fh : Int32) (aK aE aV aS aC aY aD aT aW : Nat → Int32) (hY : fb = 0 → ∀ i, i < 8 → aY i = 0) (hp : post 0) :
    ∀ (d j : Nat), j + d = 8 → wX_faults_69 post fa fb fc fd fe ff fg fh aK aE aV aS aC aY aD aT aW (d + 1) 0 (nI j) := by
  intro d
  induction d with
  | zero => intro j hj; exact br_t (sv_ge 8 (by omega) (by omega)) hp
  | succ d ih =>
    intro j hj
    refine br_f (sv_ng 8 (by omega) (by decide)) (br_c (fun hb => ⟨sv_i8 (by omega), br_t ?_ (nm_r (nI_1 j) (ih (j + 1) (by omega)))⟩) (fun _ => nm_r (nI_1 j) (ih (j + 1) (by omega))))
    rw [nI_clamp (by omega)]
    exact hY hb j (by omega)
theorem sv_fa24 (post : Int32 → Prop) (fa fb fc fd fe ff fg fh : Int32) (aK aE aV aS aC aY aD aT aW : Nat → Int32) (m : Nat) (h1 : ∀ i, i < m → aE i = fg) (h2 : ∀ i, m ≤ i → i < 12 → aE i ≠ fg) (hY : fb = 0 → ∀ i, i < 8 → aY i = 0) (hp : post 0) :
    ∀ (d j : Nat), j + 1 + d = 12 → wX_faults_24 post fa fb fc fd fe ff fg fh aK aE aV aS aC aY aD aT aW (d + 1) 0 (nI (j + 1)) := by
  intro d
  induction d with
  | zero => intro j hj; exact br_t (sv_ge 12 (by omega) (by omega)) ⟨9, sv_fa69 post fa fb fc fd fe ff fg fh aK aE aV aS aC aY aD aT aW hY hp 8 0 rfl⟩
  | succ d ih =>
    intro j hj
    have hn : ∀ y : Int32, y = nI (j + 1) + 1 → wX_faults_24 post fa fb fc fd fe ff fg fh aK aE aV aS aC aY aD aT aW (d + 1) 0 y := nm_r (nI_1 (j + 1)) (ih (j + 1) (by omega))
    have hc : (nI (j + 1)).toNatClampNeg = j + 1 := nI_clamp (by omega)
    have hc2 : (nI (j + 1) - 1).toNatClampNeg = j := by rw [nI_pred]; exact nI_clamp (by omega)
    have hv : vp_in (nI (j + 1) - 1) 12 := by rw [nI_pred]; exact sv_i12 (by omega)
    refine br_f (sv_ng 12 (by omega) (by decide)) ⟨sv_i12 (by omega), br_c (fun he => ⟨hv, br_t ?_ hn⟩) (fun _ => hn)⟩
    rw [hc] at he
    rw [hc2]
    by_cases hjm : j < m
    · exact h1 j hjm
    · exact absurd he (h2 (j + 1) (by omega) (by omega))
theorem sv_faults (post : Int32 → Prop) (u : SX) (I : sv_Inv u) (hp : post 0) : wpX_faults post u := by
  obtain ⟨fa, fb, fc, fd, fe, ff, fg, fh, aK, aE, aV, aS, aC, aY, aD, aT, aW⟩ := u
  obtain ⟨⟨t, ht, rfl, hz⟩, _, ⟨m, hm, h1, h2⟩, hY⟩ := I
  refine br_c (fun _ => hp) (fun ha => br_f (nI_ne0 (by have := hz ha; omega) (by omega)) ⟨12, sv_fa24 post fa fb fc fd (nI t) ff fg fh aK aE aV aS aC aY aD aT aW m h1 h2 hY hp 11 0 rfl⟩)
