theorem pa_lt {x M : Int32} {N : Nat} (hN : M.toInt = N) (h : vp_in x N) : ¬ x < 0 ∧ ¬ M ≤ x := by
  rw [vp_in_iff] at h
  rw [Int32.lt_iff_toInt_lt, Int32.le_iff_toInt_le, show (0 : Int32).toInt = 0 from by decide]
  omega
theorem pa_le {x M : Int32} {N : Nat} (hN : M.toInt + 1 = N) (h : vp_in x N) : ¬ x < 0 ∧ x ≤ M := by
  rw [vp_in_iff] at h
  rw [Int32.lt_iff_toInt_lt, Int32.le_iff_toInt_le, show (0 : Int32).toInt = 0 from by decide]
  omega
theorem pa_nlt {x M : Int32} {N : Nat} (hN : M.toInt = N) (h : ¬ vp_in x N) (h0 : ¬ x < 0) : M ≤ x := by
  rw [vp_in_iff] at h
  rw [Int32.lt_iff_toInt_lt, show (0 : Int32).toInt = 0 from by decide] at h0
  rw [Int32.le_iff_toInt_le]
  omega
theorem pa_nle {x M : Int32} {N : Nat} (hN : M.toInt + 1 = N) (h : ¬ vp_in x N) (h0 : ¬ x < 0) : ¬ x ≤ M := by
  rw [vp_in_iff] at h
  rw [Int32.lt_iff_toInt_lt, show (0 : Int32).toInt = 0 from by decide] at h0
  rw [Int32.le_iff_toInt_le]
  omega
theorem pa_xSector_g (post : Int32 → Prop) (u : SX) (x : Int32) (h : vp_in x 12) (hp : post 1) : wpX_isSector post u x := by
  obtain ⟨fa, fb, fc, fd, fe, ff, fg, fh, aK, aE, aV, aS, aC, aY, aD, aT, aW⟩ := u
  have b := pa_lt (M := 12) (by decide) h
  exact br_f b.1 (br_f b.2 hp)
theorem pa_xSector_b (post : Int32 → Prop) (u : SX) (x : Int32) (h : ¬ vp_in x 12) (hp : post 0) : wpX_isSector post u x := by
  obtain ⟨fa, fb, fc, fd, fe, ff, fg, fh, aK, aE, aV, aS, aC, aY, aD, aT, aW⟩ := u
  exact br_c (fun _ => hp) (fun h0 => br_t (pa_nlt (M := 12) (by decide) h h0) hp)
theorem pa_ySector_g (post : Int32 → Prop) (v : SY) (x : Int32) (h : vp_in x 12) (hp : post 0) : wpY_badSector post v x := by
  obtain ⟨ga, gb, gc, gd, ge, bC, bD, bU, bP, bV, bQ⟩ := v
  have b := pa_le (M := 11) (by decide) h
  exact br_f b.1 (br_t b.2 hp)
theorem pa_ySector_b (post : Int32 → Prop) (v : SY) (x : Int32) (h : ¬ vp_in x 12) (hp : post 1) : wpY_badSector post v x := by
  obtain ⟨ga, gb, gc, gd, ge, bC, bD, bU, bP, bV, bQ⟩ := v
  exact br_c (fun _ => hp) (fun h0 => br_f (pa_nle (M := 11) (by decide) h h0) hp)
theorem pa_xCell_g (post : Int32 → Prop) (u : SX) (x : Int32) (h : vp_in x 8) (hp : post 1) : wpX_isCell post u x := by
  obtain ⟨fa, fb, fc, fd, fe, ff, fg, fh, aK, aE, aV, aS, aC, aY, aD, aT, aW⟩ := u
  have b := pa_lt (M := 8) (by decide) h
  exact br_f b.1 (br_f b.2 hp)
theorem pa_xCell_b (post : Int32 → Prop) (u : SX) (x : Int32) (h : ¬ vp_in x 8) (hp : post 0) : wpX_isCell post u x := by
  obtain ⟨fa, fb, fc, fd, fe, ff, fg, fh, aK, aE, aV, aS, aC, aY, aD, aT, aW⟩ := u
  exact br_c (fun _ => hp) (fun h0 => br_t (pa_nlt (M := 8) (by decide) h h0) hp)
theorem pa_yCell_g (post : Int32 → Prop) (v : SY) (x : Int32) (h : vp_in x 8) (hp : post 0) : wpY_badCell post v x := by
  obtain ⟨ga, gb, gc, gd, ge, bC, bD, bU, bP, bV, bQ⟩ := v
  have b := pa_le (M := 7) (by decide) h
  exact br_f b.1 (br_t b.2 hp)
theorem pa_yCell_b (post : Int32 → Prop) (v : SY) (x : Int32) (h : ¬ vp_in x 8) (hp : post 1) : wpY_badCell post v x := by
  obtain ⟨ga, gb, gc, gd, ge, bC, bD, bU, bP, bV, bQ⟩ := v
  exact br_c (fun _ => hp) (fun h0 => br_f (pa_nle (M := 7) (by decide) h h0) hp)
theorem pa_xSlot_g (post : Int32 → Prop) (u : SX) (x : Int32) (h : vp_in x 4) (hp : post 1) : wpX_isSlot post u x := by
  obtain ⟨fa, fb, fc, fd, fe, ff, fg, fh, aK, aE, aV, aS, aC, aY, aD, aT, aW⟩ := u
  have b := pa_lt (M := 4) (by decide) h
  exact br_f b.1 (br_f b.2 hp)
theorem pa_xSlot_b (post : Int32 → Prop) (u : SX) (x : Int32) (h : ¬ vp_in x 4) (hp : post 0) : wpX_isSlot post u x := by
  obtain ⟨fa, fb, fc, fd, fe, ff, fg, fh, aK, aE, aV, aS, aC, aY, aD, aT, aW⟩ := u
  exact br_c (fun _ => hp) (fun h0 => br_t (pa_nlt (M := 4) (by decide) h h0) hp)
theorem pa_ySlot_g (post : Int32 → Prop) (v : SY) (x : Int32) (h : vp_in x 4) (hp : post 0) : wpY_badSlot post v x := by
  obtain ⟨ga, gb, gc, gd, ge, bC, bD, bU, bP, bV, bQ⟩ := v
  have b := pa_le (M := 3) (by decide) h
  exact br_f b.1 (br_t b.2 hp)
theorem pa_ySlot_b (post : Int32 → Prop) (v : SY) (x : Int32) (h : ¬ vp_in x 4) (hp : post 1) : wpY_badSlot post v x := by
  obtain ⟨ga, gb, gc, gd, ge, bC, bD, bU, bP, bV, bQ⟩ := v
  exact br_c (fun _ => hp) (fun h0 => br_f (pa_nle (M := 3) (by decide) h h0) hp)
theorem sy_i4 {j : Nat} (h : j < 4) : vp_in (nI j) 4 := vp_in_nI h (by decide)
theorem sy_i96 {i j : Nat} (hi : i < 12) (hj : j < 8) : vp_in ((8 * nI i) + nI j) 96 := by
  rw [show 8 * nI i = nI (8 * i) from pk_mul 8 i]
  exact sv_ia (8 * i) j 96 (by omega) (by decide)
theorem sy_c96 {i j : Nat} (hi : i < 12) (hj : j < 8) : ((8 * nI i) + nI j).toNatClampNeg = 8 * i + j := by
  rw [show 8 * nI i = nI (8 * i) from pk_mul 8 i]
  exact sv_ca (8 * i) j (by omega)
theorem sy_n0 : vp_nar .boolean 0 = 0 := by decide
theorem sy_n1 : vp_nar .boolean 1 = 1 := by decide
theorem sy_nb (t s : Nat) : vp_nar .boolean (nI (sv_bt t s)) = nI (sv_bt t s) := by
  have h := sv_bt_2 t s
  have h2 : sv_bt t s = 0 ∨ sv_bt t s = 1 := by omega
  rcases h2 with e | e <;> rw [e] <;> decide
theorem sy_b0 {t s : Nat} (h : nI (sv_bt t s) = 0) : sv_bt t s = 0 := (nI_eq (by have := sv_bt_2 t s; omega) (by decide)).mp h
theorem sy_b1 {t s : Nat} (h : ¬ nI (sv_bt t s) = 0) : sv_bt t s = 1 := by
  have h2 := sv_bt_2 t s
  by_cases e : sv_bt t s = 0
  · exact absurd (by rw [e]; rfl) h
  · omega
theorem sg_fi2 (post : Int32 → Prop) (x : Int32) (t : Nat) (ga gb gc gd ge : Int32) (bC bD bU bP bV bQ : Nat → Int32) (hU : ∀ s, s < 4 → bU s = nI (sv_bt t s)) :
    ∀ (d j : Nat), j + d = 4 → post (sl_fd t bP x d j) → wY_find_2 post x ga gb gc gd ge bC bD bU bP bV bQ (d + 1) (nI j) := by
  intro d
  induction d with
  | zero => intro j hj hp; exact br_t (sv_ge 4 (by omega) (by omega)) hp
  | succ d ih =>
    intro j hj hp
    have hc : (nI j).toNatClampNeg = j := nI_clamp (by omega)
    have hp' : post (if sv_bt t j = 1 ∧ bP j = x then nI j else sl_fd t bP x d (j + 1)) := hp
    have hx : ¬ (sv_bt t j = 1 ∧ bP j = x) → ∀ y : Int32, y = nI j + 1 → wY_find_2 post x ga gb gc gd ge bC bD bU bP bV bQ (d + 1) y := fun h => by
      rw [if_neg h] at hp'
      exact nm_r (nI_1 j) (ih (j + 1) (by omega) hp')
    refine br_f (sv_ng 4 (by omega) (by decide)) ⟨sy_i4 (by omega), ?_⟩
    rw [hc, hU j (by omega)]
    refine br_c (fun h => hx (fun z => ?_)) (fun h => ⟨sy_i4 (by omega), br_c (fun h2 => ?_) (fun h2 => hx (fun z => h2 z.2))⟩)
    · have := sy_b0 h
      omega
    · rw [if_pos ⟨sy_b1 h, h2⟩] at hp'
      exact hp'
theorem sg_find (post : Int32 → Prop) (x : Int32) (t : Nat) (ga gb gc gd ge : Int32) (bC bD bU bP bV bQ : Nat → Int32) (hU : ∀ s, s < 4 → bU s = nI (sv_bt t s)) (hp : post (sl_fd t bP x 4 0)) : wpY_find post (ga, gb, gc, gd, ge, bC, bD, bU, bP, bV, bQ) x :=
  ⟨5, sg_fi2 post x t ga gb gc gd ge bC bD bU bP bV bQ hU 4 0 rfl hp⟩
theorem sg_cs (post : Int32 → Prop) (t : Nat) (ga gb gc gd ge : Int32) (bC bD bU bP bV bQ : Nat → Int32) (hU : ∀ s, s < 4 → bU s = nI (sv_bt t s)) (hp : post (nI (sv_pop t))) : wpY_countSlots post (ga, gb, gc, gd, ge, bC, bD, bU, bP, bV, bQ) := by
  have st : ∀ (j x1 x1' : Nat) (n : Nat) (y : Int32), j < 4 → y = nI x1 → x1' = x1 + sv_bt t j → wY_countSlots_4 post ga gb gc gd ge bC bD bU bP bV bQ n (nI x1') (nI (j + 1)) → wY_countSlots_4 post ga gb gc gd ge bC bD bU bP bV bQ (n + 1) y (nI j) := by
    intro j x1 x1' n y hj ey ex h
    have hc : (nI j).toNatClampNeg = j := nI_clamp (by omega)
    subst ey
    refine br_f (sv_ng 4 (by omega) (by decide)) ⟨sy_i4 (by omega), ?_⟩
    rw [hc, hU j hj]
    refine br_c (fun hb => ?_) (fun hb => ?_)
    · rw [sy_b0 hb, Nat.add_zero] at ex
      rw [ex] at h
      exact nm_r (nI_1 j) h
    · rw [sy_b1 hb] at ex
      rw [ex] at h
      exact nm_r (nI_1 x1) (nm_r (nI_1 j) h)
  exact ⟨5, st 0 0 (sv_bt t 0) 4 0 (by decide) rfl (by omega) (st 1 _ (sv_bt t 0 + sv_bt t 1) 3 _ (by decide) rfl rfl (st 2 _ (sv_bt t 0 + sv_bt t 1 + sv_bt t 2) 2 _ (by decide) rfl rfl (st 3 _ (sv_pop t) 1 _ (by decide) rfl rfl (br_t (sv_ge 4 (by decide) (by decide)) hp))))⟩
theorem sf_ct (post : Int32 → Prop) (t : Nat) (ht : t < 16) (fa fb fc fd ff fg fh : Int32) (aK aE aV aS aC aY aD aT aW : Nat → Int32) (hp : post (nI (sv_pop t))) : wpX_countTaken post (fa, fb, fc, fd, nI t, ff, fg, fh, aK, aE, aV, aS, aC, aY, aD, aT, aW) := by
  have st : ∀ (j x1 : Nat) (n : Nat) (y : Int32), j < 4 → y = nI x1 → wX_countTaken_4 post fa fb fc fd (nI t) ff fg fh aK aE aV aS aC aY aD aT aW n (nI (x1 + sv_bt t j)) (nI (j + 1)) → wX_countTaken_4 post fa fb fc fd (nI t) ff fg fh aK aE aV aS aC aY aD aT aW (n + 1) y (nI j) := by
    intro j x1 n y hj ey h
    subst ey
    refine br_f (sv_ng 4 (by omega) (by decide)) (nm_r ?_ (nm_r (nI_1 j) h))
    rw [sv_bit j hj t ht, nI_add]
  exact ⟨5, st 0 0 4 0 (by decide) rfl (st 1 _ 3 _ (by decide) rfl (st 2 _ 2 _ (by decide) rfl (st 3 _ 1 _ (by decide) rfl (br_t (sv_ge 4 (by decide) (by decide)) (by
    rw [Nat.zero_add]
    exact hp)))))⟩
theorem sg_fo64 (post : Int32 → SY → Prop) (x : Int32) (ga gb gc gd ge : Int32) (bC bD bP bV bQ : Nat → Int32) (hp : ∀ bU' : Nat → Int32, (∀ s, s < 4 → bU' s = if s = 0 then 1 else 0) → post 0 (ga, gb, gc, gd, ge, bC, bD, bU', upd bP 0 x, bV, bQ)) :
    ∀ (d j : Nat) (bU : Nat → Int32), j + d = 4 → (∀ s, s < j → bU s = if s = 0 then 1 else 0) → wY_format_64 post x ga gb gc gd ge (d + 1) (nI j) bC bD bU bP bV bQ := by
  intro d
  induction d with
  | zero => intro j bU hj hU; exact br_t (sv_ge 4 (by omega) (by omega)) (nm_e (hp _ (fun s hs => hU s (by omega))))
  | succ d ih =>
    intro j bU hj hU
    have hc : (nI j).toNatClampNeg = j := nI_clamp (by omega)
    refine br_f (sv_ng 4 (by omega) (by decide)) (br_c (fun h0 => ⟨sy_i4 (by omega), fun y ey => nm_r (nI_1 j) (ih (j + 1) _ (by omega) (fun s hs => ?_))⟩) (fun h0 => ⟨sy_i4 (by omega), fun y ey => nm_r (nI_1 j) (ih (j + 1) _ (by omega) (fun s hs => ?_))⟩))
    · have e0 : j = 0 := (nI_eq (by omega) (by decide)).mp h0
      rw [ey, hc, sy_n1, e0]
      rw [show s = 0 by omega, pk_us]
      rfl
    · rw [ey, hc, sy_n0]
      by_cases hs2 : s = j
      · subst hs2
        rw [pk_us, if_neg (fun z => h0 (by rw [z]; rfl))]
      · rw [pk_un hs2]
        exact hU s (by omega)
theorem sg_fo43 (post : Int32 → SY → Prop) (x : Int32) (ga gb gc gd ge : Int32) (bC bU bP bV bQ : Nat → Int32) (hp : ∀ bD' bU' : Nat → Int32, (∀ s, s < 12 → bD' s = 0) → (∀ s, s < 4 → bU' s = if s = 0 then 1 else 0) → post 0 (ga, gb, gc, gd, ge, bC, bD', bU', upd bP 0 x, bV, bQ)) :
    ∀ (d j : Nat) (bD : Nat → Int32), j + d = 12 → (∀ s, s < j → bD s = 0) → wY_format_43 post x ga gb gc gd ge (d + 1) (nI j) bC bD bU bP bV bQ := by
  intro d
  induction d with
  | zero => intro j bD hj hD; exact br_t (sv_ge 12 (by omega) (by omega)) ⟨5, sg_fo64 post x ga gb gc gd ge bC bD bP bV bQ (fun bU' h => hp bD bU' (fun s hs => hD s (by omega)) h) 4 0 bU rfl (fun s hs => absurd hs (by omega))⟩
  | succ d ih =>
    intro j bD hj hD
    have hc : (nI j).toNatClampNeg = j := nI_clamp (by omega)
    refine br_f (sv_ng 12 (by omega) (by decide)) ⟨sv_i12 (by omega), fun y ey => nm_r (nI_1 j) (ih (j + 1) _ (by omega) (fun s hs => ?_))⟩
    rw [ey, hc, sy_n0]
    by_cases hs2 : s = j
    · subst hs2; exact pk_us
    · rw [pk_un hs2]; exact hD s (by omega)
theorem sg_fo22 (post : Int32 → SY → Prop) (x : Int32) (ga gb gc gd ge : Int32) (bD bU bP bV bQ : Nat → Int32) (hp : ∀ bC' bD' bU' : Nat → Int32, (∀ s, s < 96 → bC' s = 0) → (∀ s, s < 12 → bD' s = 0) → (∀ s, s < 4 → bU' s = if s = 0 then 1 else 0) → post 0 (ga, gb, gc, gd, ge, bC', bD', bU', upd bP 0 x, bV, bQ)) :
    ∀ (d j : Nat) (bC : Nat → Int32), j + d = 96 → (∀ s, s < j → bC s = 0) → wY_format_22 post x ga gb gc gd ge (d + 1) (nI j) bC bD bU bP bV bQ := by
  intro d
  induction d with
  | zero => intro j bC hj hC; exact br_t (sv_ge 96 (by omega) (by omega)) ⟨13, sg_fo43 post x ga gb gc gd ge bC bU bP bV bQ (fun bD' bU' h1 h2 => hp bC bD' bU' (fun s hs => hC s (by omega)) h1 h2) 12 0 bD rfl (fun s hs => absurd hs (by omega))⟩
  | succ d ih =>
    intro j bC hj hC
    have hc : (nI j).toNatClampNeg = j := nI_clamp (by omega)
    refine br_f (sv_ng 96 (by omega) (by decide)) ⟨vp_in_nI (by omega) (by decide), fun y ey => nm_r (nI_1 j) (ih (j + 1) _ (by omega) (fun s hs => ?_))⟩
    rw [ey, hc]
    by_cases hs2 : s = j
    · subst hs2; exact pk_us
    · rw [pk_un hs2]; exact hC s (by omega)
theorem sg_format (post : Int32 → SY → Prop) (x : Int32) (ga gb gc gd ge : Int32) (bC bD bU bP bV bQ : Nat → Int32) (hp : ∀ bC' bD' bU' : Nat → Int32, (∀ s, s < 96 → bC' s = 0) → (∀ s, s < 12 → bD' s = 0) → (∀ s, s < 4 → bU' s = if s = 0 then 1 else 0) → post 0 (1, 0, 0, 0, ge, bC', bD', bU', upd bP 0 x, bV, bQ)) : wpY_format post (ga, gb, gc, gd, ge, bC, bD, bU, bP, bV, bQ) x :=
  ⟨97, sg_fo22 post x 1 0 0 0 ge bD bU bP bV bQ hp 96 0 bC rfl (fun s hs => absurd hs (by omega))⟩
theorem sg_fl23 (post : Int32 → SY → Prop) (i : Nat) (hi : i < 12) (x2 x3 : Int32) (ga gb gc gd ge : Int32) (bD bU bP bV bQ : Nat → Int32) (C0 : Nat → Int32)
    (hp : ∀ bC' : Nat → Int32, (∀ q, q < 8 → bC' (8 * i + q) = x2 + nI q * x3) → (∀ q, q < 8 * i ∨ 8 * i + 8 ≤ q → bC' q = C0 q) → ((bD i = 0 → post 0 (ga, gb, gc, gd, ge, bC', upd bD i 0, bU, bP, bV, bQ)) ∧ (¬ bD i = 0 → post 1 (ga, gb, gc, gd, ge, bC', upd bD i 0, bU, bP, bV, bQ)))) :
    ∀ (d j : Nat) (bC : Nat → Int32), j + d = 8 → (∀ q, q < j → bC (8 * i + q) = x2 + nI q * x3) → (∀ q, q < 8 * i ∨ 8 * i + 8 ≤ q → bC q = C0 q) → wY_fill_23 post (nI i) x2 x3 ga gb gc gd ge (d + 1) (nI j) bC bD bU bP bV bQ := by
  intro d
  induction d with
  | zero =>
    intro j bC hj h1 h2
    have hc : (nI i).toNatClampNeg = i := nI_clamp (by omega)
    refine br_t (sv_ge 8 (by omega) (by omega)) ⟨sv_i12 hi, ?_⟩
    rw [hc]
    refine nm_e ⟨sv_i12 hi, ?_⟩
    rw [sy_n0]
    exact nm_e (hp bC (fun q hq => h1 q (by omega)) h2)
  | succ d ih =>
    intro j bC hj h1 h2
    refine br_f (sv_ng 8 (by omega) (by decide)) ⟨sy_i96 hi (by omega), fun y ey => nm_r (nI_1 j) (ih (j + 1) _ (by omega) (fun q hq => ?_) (fun q hq => ?_))⟩
    · rw [ey, sy_c96 hi (by omega)]
      by_cases hqj : q = j
      · subst hqj; exact pk_us
      · rw [pk_un (by omega)]; exact h1 q (by omega)
    · rw [ey, sy_c96 hi (by omega), pk_un (by omega)]
      exact h2 q hq
