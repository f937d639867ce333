theorem sy_badSector (post : Int32 → Prop) (v : SY) (x : Int32) (h1 : post 1) (h0 : ∀ i : Nat, i < 12 → x = nI i → post 0) : wpY_badSector post v x := by
  obtain ⟨ga, gb, gc, gd, ge, bC, bD, bU, bP, bV, bQ⟩ := v
  refine br_c (fun _ => h1) (fun hx => br_c (fun hy => ?_) (fun _ => h1))
  obtain ⟨i, hi, e⟩ := nI_of2 (M := 11) (n := 11) (by decide) hx hy
  exact h0 i (by omega) e
theorem sy_badCell (post : Int32 → Prop) (v : SY) (x : Int32) (h1 : post 1) (h0 : ∀ i : Nat, i < 8 → x = nI i → post 0) : wpY_badCell post v x := by
  obtain ⟨ga, gb, gc, gd, ge, bC, bD, bU, bP, bV, bQ⟩ := v
  refine br_c (fun _ => h1) (fun hx => br_c (fun hy => ?_) (fun _ => h1))
  obtain ⟨i, hi, e⟩ := nI_of2 (M := 7) (n := 7) (by decide) hx hy
  exact h0 i (by omega) e
theorem sy_badSlot (post : Int32 → Prop) (v : SY) (x : Int32) (h1 : post 1) (h0 : ∀ i : Nat, i < 4 → x = nI i → post 0) : wpY_badSlot post v x := by
  obtain ⟨ga, gb, gc, gd, ge, bC, bD, bU, bP, bV, bQ⟩ := v
  refine br_c (fun _ => h1) (fun hx => br_c (fun hy => ?_) (fun _ => h1))
  obtain ⟨i, hi, e⟩ := nI_of2 (M := 3) (n := 3) (by decide) hx hy
  exact h0 i (by omega) e
theorem sy_i4 {j : Nat} (h : j < 4) : vp_in (nI j) 4 := vp_in_nI h (by decide)
theorem sy_i96 {i j : Nat} (hi : i < 12) (hj : j < 8) : vp_in ((8 * nI i) + nI j) 96 := by
  rw [show 8 * nI i = nI (8 * i) from pk_mul 8 i]
  exact sv_ia (8 * i) j 96 (by omega) (by decide)
theorem sy_fi2 (post : Int32 → Prop) (x : Int32) (ga gb gc gd ge : Int32) (bC bD bU bP bV bQ : Nat → Int32) (hn : post (-1)) (hp : ∀ s : Nat, s < 4 → post (nI s)) :
    ∀ (d j : Nat), j + d = 4 → wY_find_2 post x ga gb gc gd ge bC bD bU bP bV bQ (d + 1) (nI j) := by
  intro d
  induction d with
  | zero => intro j hj; exact br_t (sv_ge 4 (by omega) (by omega)) hn
  | succ d ih =>
    intro j hj
    have hx : ∀ y : Int32, y = nI j + 1 → wY_find_2 post x ga gb gc gd ge bC bD bU bP bV bQ (d + 1) y := nm_r (nI_1 j) (ih (j + 1) (by omega))
    exact br_f (sv_ng 4 (by omega) (by decide)) ⟨sy_i4 (by omega), br_c (fun _ => hx) (fun _ => ⟨sy_i4 (by omega), br_c (fun _ => hp j (by omega)) (fun _ => hx)⟩)⟩
theorem sy_find (post : Int32 → Prop) (x : Int32) (ga gb gc gd ge : Int32) (bC bD bU bP bV bQ : Nat → Int32) (hp : ∀ r : Int32, post r) : wpY_find post (ga, gb, gc, gd, ge, bC, bD, bU, bP, bV, bQ) x :=
  ⟨5, sy_fi2 post x ga gb gc gd ge bC bD bU bP bV bQ (hp _) (fun _ _ => hp _) 4 0 rfl⟩
theorem sy_cs4 (post : Int32 → Prop) (ga gb gc gd ge : Int32) (bC bD bU bP bV bQ : Nat → Int32) (hp : ∀ r : Int32, post r) :
    ∀ (d j : Nat) (x1 : Int32), j + d = 4 → wY_countSlots_4 post ga gb gc gd ge bC bD bU bP bV bQ (d + 1) x1 (nI j) := by
  intro d
  induction d with
  | zero => intro j x1 hj; exact br_t (sv_ge 4 (by omega) (by omega)) (hp _)
  | succ d ih =>
    intro j x1 hj
    exact br_f (sv_ng 4 (by omega) (by decide)) ⟨sy_i4 (by omega), br_c (fun _ => nm_r (nI_1 j) (ih (j + 1) _ (by omega))) (fun _ => fun _ _ => nm_r (nI_1 j) (ih (j + 1) _ (by omega)))⟩
theorem sy_count (post : Int32 → Prop) (ga gb gc gd ge : Int32) (bC bD bU bP bV bQ : Nat → Int32) (hp : ∀ r : Int32, post r) : wpY_countSlots post (ga, gb, gc, gd, ge, bC, bD, bU, bP, bV, bQ) :=
  ⟨5, sy_cs4 post ga gb gc gd ge bC bD bU bP bV bQ hp 4 0 0 rfl⟩
theorem sy_fo64 (post : Int32 → SY → Prop) (x : Int32) (ga gb gc gd ge : Int32) (bC bD bP bV bQ : Nat → Int32) (hp : ∀ v', post 0 v') :
    ∀ (d j : Nat) (bU : Nat → Int32), j + d = 4 → wY_format_64 post x ga gb gc gd ge (d + 1) (nI j) bC bD bU bP bV bQ := by
  intro d
  induction d with
  | zero => intro j bU hj; exact br_t (sv_ge 4 (by omega) (by omega)) (fun _ _ => hp _)
  | succ d ih =>
    intro j bU hj
    exact br_f (sv_ng 4 (by omega) (by decide)) (br_c (fun _ => ⟨sy_i4 (by omega), fun _ _ => nm_r (nI_1 j) (ih (j + 1) _ (by omega))⟩) (fun _ => ⟨sy_i4 (by omega), fun _ _ => nm_r (nI_1 j) (ih (j + 1) _ (by omega))⟩))
theorem sy_fo43 (post : Int32 → SY → Prop) (x : Int32) (ga gb gc gd ge : Int32) (bC bU bP bV bQ : Nat → Int32) (hp : ∀ v', post 0 v') :
    ∀ (d j : Nat) (bD : Nat → Int32), j + d = 12 → wY_format_43 post x ga gb gc gd ge (d + 1) (nI j) bC bD bU bP bV bQ := by
  intro d
  induction d with
  | zero => intro j bD hj; exact br_t (sv_ge 12 (by omega) (by omega)) ⟨5, sy_fo64 post x ga gb gc gd ge bC bD bP bV bQ hp 4 0 bU rfl⟩
  | succ d ih =>
    intro j bD hj
    exact br_f (sv_ng 12 (by omega) (by decide)) ⟨sv_i12 (by omega), fun _ _ => nm_r (nI_1 j) (ih (j + 1) _ (by omega))⟩
theorem sy_fo22 (post : Int32 → SY → Prop) (x : Int32) (ga gb gc gd ge : Int32) (bD bU bP bV bQ : Nat → Int32) (hp : ∀ v', post 0 v') :
    ∀ (d j : Nat) (bC : Nat → Int32), j + d = 96 → wY_format_22 post x ga gb gc gd ge (d + 1) (nI j) bC bD bU bP bV bQ := by
  intro d
  induction d with
  | zero => intro j bC hj; exact br_t (sv_ge 96 (by omega) (by omega)) ⟨13, sy_fo43 post x ga gb gc gd ge bC bU bP bV bQ hp 12 0 bD rfl⟩
  | succ d ih =>
    intro j bC hj
    exact br_f (sv_ng 96 (by omega) (by decide)) ⟨vp_in_nI (by omega) (by decide), fun _ _ => nm_r (nI_1 j) (ih (j + 1) _ (by omega))⟩
theorem sy_format (post : Int32 → SY → Prop) (v : SY) (x : Int32) (hp : ∀ v', post 0 v') : wpY_format post v x := by
  obtain ⟨ga, gb, gc, gd, ge, bC, bD, bU, bP, bV, bQ⟩ := v
  exact ⟨97, sy_fo22 post x 1 0 0 0 ge bD bU bP bV bQ hp 96 0 bC rfl⟩
theorem sy_unlock (post : Int32 → SY → Prop) (v : SY) (x : Int32) (hp : ∀ r v', post r v') : wpY_unlock post v x := by
  obtain ⟨ga, gb, gc, gd, ge, bC, bD, bU, bP, bV, bQ⟩ := v
  exact br_c (fun _ => hp _ _) (fun _ => br_c (fun _ => sy_find _ x ga gb gc gd ge bC bD bU bP bV bQ (fun _ => br_c (fun _ => hp _ _) (fun _ => hp _ _))) (fun _ => hp _ _))
theorem sy_lock (post : Int32 → SY → Prop) (v : SY) (hp : ∀ r v', post r v') : wpY_lock post v := by
  obtain ⟨ga, gb, gc, gd, ge, bC, bD, bU, bP, bV, bQ⟩ := v
  exact br_c (fun _ => hp _ _) (fun _ => br_c (fun _ => hp _ _) (fun _ => hp _ _))
theorem sy_state (post : Int32 → Prop) (v : SY) (hp : ∀ r, post r) : wpY_state post v := by
  obtain ⟨ga, gb, gc, gd, ge, bC, bD, bU, bP, bV, bQ⟩ := v
  exact br_c (fun _ => hp _) (fun _ => br_c (fun _ => hp _) (fun _ => hp _))
theorem sy_read (post : Int32 → Prop) (v : SY) (x y : Int32) (hp : ∀ r, post r) : wpY_read post v x y := by
  obtain ⟨ga, gb, gc, gd, ge, bC, bD, bU, bP, bV, bQ⟩ := v
  unfold wpY_read
  refine sy_badSector _ _ x (br_f (by decide) (hp _)) (fun i hi ei => br_t rfl ?_)
  refine sy_badCell _ _ y (br_f (by decide) (hp _)) (fun j hj ej => br_t rfl (br_c (fun _ => hp _) (fun _ => ?_)))
  rw [ei, ej]
  exact ⟨sv_i12 hi, br_c (fun _ => ⟨sy_i96 hi hj, hp _⟩) (fun _ => hp _)⟩
theorem sy_write (post : Int32 → SY → Prop) (v : SY) (x y z : Int32) (hp : ∀ r v', post r v') : wpY_write post v x y z := by
  obtain ⟨ga, gb, gc, gd, ge, bC, bD, bU, bP, bV, bQ⟩ := v
  unfold wpY_write
  refine sy_badSector _ _ x (br_f (by decide) (hp _ _)) (fun i hi ei => br_t rfl ?_)
  refine sy_badCell _ _ y (br_f (by decide) (hp _ _)) (fun j hj ej => br_t rfl (br_c (fun _ => hp _ _) (fun _ => ?_)))
  rw [ei, ej]
  exact ⟨sv_i12 hi, br_c (fun _ => ⟨sy_i96 hi hj, fun _ _ => hp _ _⟩) (fun _ => hp _ _)⟩
theorem sy_fl23 (post : Int32 → SY → Prop) (i : Nat) (hi : i < 12) (x2 x3 : Int32) (ga gb gc gd ge : Int32) (bD bU bP bV bQ : Nat → Int32) (hp : ∀ r v', post r v') :
    ∀ (d j : Nat) (bC : Nat → Int32), j + d = 8 → wY_fill_23 post (nI i) x2 x3 ga gb gc gd ge (d + 1) (nI j) bC bD bU bP bV bQ := by
  intro d
  induction d with
  | zero => intro j bC hj; exact br_t (sv_ge 8 (by omega) (by omega)) ⟨sv_i12 hi, fun _ _ => ⟨sv_i12 hi, fun _ _ => br_c (fun _ => hp _ _) (fun _ => hp _ _)⟩⟩
  | succ d ih =>
    intro j bC hj
    exact br_f (sv_ng 8 (by omega) (by decide)) ⟨sy_i96 hi (by omega), fun _ _ => nm_r (nI_1 j) (ih (j + 1) _ (by omega))⟩
theorem sy_fill (post : Int32 → SY → Prop) (v : SY) (x y z : Int32) (hp : ∀ r v', post r v') : wpY_fill post v x y z := by
  obtain ⟨ga, gb, gc, gd, ge, bC, bD, bU, bP, bV, bQ⟩ := v
  unfold wpY_fill
  refine sy_badSector _ _ x (br_f (by decide) (hp _ _)) (fun i hi ei => br_t rfl (br_c (fun _ => hp _ _) (fun _ => ?_)))
  rw [ei]
  exact ⟨9, sy_fl23 post i hi y z ga gb gc gd ge bD bU bP bV bQ hp 8 0 bC rfl⟩
theorem sy_check (post : Int32 → Prop) (v : SY) (x : Int32) (hp : ∀ r, post r) : wpY_check post v x := by
  obtain ⟨ga, gb, gc, gd, ge, bC, bD, bU, bP, bV, bQ⟩ := v
  unfold wpY_check
  refine sy_badSector _ _ x (br_f (by decide) (hp _)) (fun i hi ei => br_t rfl (br_c (fun _ => hp _) (fun _ => ?_)))
  rw [ei]
  exact ⟨sv_i12 hi, br_c (fun _ => hp _) (fun _ => hp _)⟩
theorem sy_di4 (post : Int32 → Prop) (ga gb gc gd ge : Int32) (bC bD bU bP bV bQ : Nat → Int32) (hp : ∀ r, post r) :
    ∀ (d j : Nat) (x1 : Int32), j + d = 96 → wY_digest_4 post ga gb gc gd ge bC bD bU bP bV bQ (d + 1) x1 (nI j) := by
  intro d
  induction d with
  | zero => intro j x1 hj; exact br_t (sv_ge 96 (by omega) (by omega)) (hp _)
  | succ d ih =>
    intro j x1 hj
    exact br_f (sv_ng 96 (by omega) (by decide)) ⟨by decide, by decide, sy_read _ _ _ _ (fun _ => fun _ _ => nm_r (nI_1 j) (ih (j + 1) _ (by omega)))⟩
theorem sy_digest (post : Int32 → Prop) (v : SY) (hp : ∀ r, post r) : wpY_digest post v := by
  obtain ⟨ga, gb, gc, gd, ge, bC, bD, bU, bP, bV, bQ⟩ := v
  exact ⟨97, sy_di4 post ga gb gc gd ge bC bD bU bP bV bQ hp 96 0 0 rfl⟩
theorem sy_ak23 (post : Int32 → SY → Prop) (x : Int32) (ga gb gc gd ge : Int32) (bC bD bU bP bV bQ : Nat → Int32) (hp : ∀ r v', post r v') :
    ∀ (d j : Nat), j + d = 4 → wY_addKey_23 post x ga gb gc gd ge bC bD bU bP bV bQ (d + 1) (nI j) := by
  intro d
  induction d with
  | zero => intro j hj; exact br_t (sv_ge 4 (by omega) (by omega)) (hp _ _)
  | succ d ih =>
    intro j hj
    exact br_f (sv_ng 4 (by omega) (by decide)) ⟨sy_i4 (by omega), br_c (fun _ => ⟨sy_i4 (by omega), fun _ _ => ⟨sy_i4 (by omega), fun _ _ => hp _ _⟩⟩) (fun _ => nm_r (nI_1 j) (ih (j + 1) (by omega)))⟩
theorem sy_addKey (post : Int32 → SY → Prop) (v : SY) (x : Int32) (hp : ∀ r v', post r v') : wpY_addKey post v x := by
  obtain ⟨ga, gb, gc, gd, ge, bC, bD, bU, bP, bV, bQ⟩ := v
  exact br_c (fun _ => hp _ _) (fun _ => sy_find _ x ga gb gc gd ge bC bD bU bP bV bQ (fun _ => br_c (fun _ => ⟨5, sy_ak23 post x ga gb gc gd ge bC bD bU bP bV bQ hp 4 0 rfl⟩) (fun _ => hp _ _)))
theorem sy_removeKey (post : Int32 → SY → Prop) (v : SY) (x : Int32) (hp : ∀ r v', post r v') : wpY_removeKey post v x := by
  obtain ⟨ga, gb, gc, gd, ge, bC, bD, bU, bP, bV, bQ⟩ := v
  unfold wpY_removeKey
  refine sy_badSlot _ _ x (br_f (by decide) (hp _ _)) (fun i hi ei => br_t rfl (br_c (fun _ => hp _ _) (fun _ => ?_)))
  rw [ei]
  exact ⟨sy_i4 hi, br_c (fun _ => hp _ _) (fun _ => sy_count _ ga gb gc gd ge bC bD bU bP bV bQ (fun _ => br_c (fun _ => hp _ _) (fun _ => ⟨sy_i4 hi, fun bU' _ => sy_count _ ga gb gc gd ge bC bD bU' bP bV bQ (fun _ => hp _ _)⟩)))⟩
theorem sy_changeKey (post : Int32 → SY → Prop) (v : SY) (x y : Int32) (hp : ∀ r v', post r v') : wpY_changeKey post v x y := by
  obtain ⟨ga, gb, gc, gd, ge, bC, bD, bU, bP, bV, bQ⟩ := v
  unfold wpY_changeKey
  refine sy_badSlot _ _ x (br_f (by decide) (hp _ _)) (fun i hi ei => br_t rfl (br_c (fun _ => hp _ _) (fun _ => ?_)))
  rw [ei]
  exact ⟨sy_i4 hi, br_c (fun _ => hp _ _) (fun _ => sy_find _ y ga gb gc gd ge bC bD bU bP bV bQ (fun _ => br_c (fun _ => hp _ _) (fun _ => br_c (fun _ => ⟨sy_i4 hi, fun _ _ => hp _ _⟩) (fun _ => hp _ _))))⟩
theorem sy_sl4 (post : Int32 → Prop) (ga gb gc gd ge : Int32) (bC bD bU bP bV bQ : Nat → Int32) (hp : ∀ r, post r) :
    ∀ (d j : Nat) (x1 : Int32), j + d = 4 → wY_slots_4 post ga gb gc gd ge bC bD bU bP bV bQ (d + 1) x1 (nI j) := by
  intro d
  induction d with
  | zero => intro j x1 hj; exact br_t (sv_ge 4 (by omega) (by omega)) (hp _)
  | succ d ih =>
    intro j x1 hj
    exact br_f (sv_ng 4 (by omega) (by decide)) (br_c (fun _ => nm_r (nI_1 j) (ih (j + 1) _ (by omega))) (fun _ => ⟨sy_i4 (by omega), br_c (fun _ => nm_r (nI_1 j) (ih (j + 1) _ (by omega))) (fun _ => fun _ _ => nm_r (nI_1 j) (ih (j + 1) _ (by omega)))⟩))
theorem sy_slots (post : Int32 → Prop) (v : SY) (hp : ∀ r, post r) : wpY_slots post v := by
  obtain ⟨ga, gb, gc, gd, ge, bC, bD, bU, bP, bV, bQ⟩ := v
  exact ⟨5, sy_sl4 post ga gb gc gd ge bC bD bU bP bV bQ hp 4 0 0 rfl⟩
theorem sy_slotOf (post : Int32 → Prop) (v : SY) (x : Int32) (hp : ∀ r, post r) : wpY_slotOf post v x := by
  obtain ⟨ga, gb, gc, gd, ge, bC, bD, bU, bP, bV, bQ⟩ := v
  exact br_c (fun _ => hp _) (fun _ => sy_find _ x ga gb gc gd ge bC bD bU bP bV bQ (fun _ => br_c (fun _ => hp _) (fun _ => hp _)))
theorem sy_rn28 (post : Int32 → SY → Prop) (x : Int32) (ga gb gc gd ge : Int32) (bC bD bU bP bV bQ : Nat → Int32) (hp : ∀ r v', post r v') : wY_renew_28 post x ga gb gc gd ge bC bD bU bP bV bQ :=
  br_c (fun _ => hp _ _) (fun _ => br_c (fun _ => fun _ _ => hp _ _) (fun _ => hp _ _))
theorem sy_renew (post : Int32 → SY → Prop) (v : SY) (x : Int32) (hp : ∀ r v', post r v') : wpY_renew post v x := by
  obtain ⟨ga, gb, gc, gd, ge, bC, bD, bU, bP, bV, bQ⟩ := v
  exact br_c (fun _ => hp _ _) (fun _ => br_c (fun _ => sy_rn28 post x ga gb 12 gd 1 bC bD bU bP bV bQ hp) (fun _ => sy_rn28 post x ga gb gc gd ge bC bD bU bP bV bQ hp))
theorem sy_toRenew (post : Int32 → Prop) (v : SY) (hp : ∀ r, post r) : wpY_toRenew post v := by
  obtain ⟨ga, gb, gc, gd, ge, bC, bD, bU, bP, bV, bQ⟩ := v
  exact hp _
theorem sy_ss33 (post : Int32 → SY → Prop) (ga gb gc gd ge : Int32) (bC bD bU bP : Nat → Int32) (hp : ∀ r v', post r v') :
    ∀ (d j : Nat) (bV bQ : Nat → Int32), j + d = 4 → wY_saveSlots_33 post ga gb gc gd ge (d + 1) (nI j) bC bD bU bP bV bQ := by
  intro d
  induction d with
  | zero => intro j bV bQ hj; exact br_t (sv_ge 4 (by omega) (by omega)) (sy_count _ ga gb gc gd ge bC bD bU bP bV bQ (fun _ => hp _ _))
  | succ d ih =>
    intro j bV bQ hj
    have hi : vp_in (nI j) 4 := sy_i4 (by omega)
    exact br_f (sv_ng 4 (by omega) (by decide)) ⟨hi, hi, fun _ _ => ⟨hi, hi, fun _ _ => nm_r (nI_1 j) (ih (j + 1) _ _ (by omega))⟩⟩
theorem sy_saveSlots (post : Int32 → SY → Prop) (v : SY) (hp : ∀ r v', post r v') : wpY_saveSlots post v := by
  obtain ⟨ga, gb, gc, gd, ge, bC, bD, bU, bP, bV, bQ⟩ := v
  exact br_c (fun _ => hp _ _) (fun _ => br_c (fun _ => ⟨5, sy_ss33 post ga gb gc 1 0 bC bD bU bP hp 4 0 bV bQ rfl⟩) (fun _ => ⟨5, sy_ss33 post ga gb gc 1 1 bC bD bU bP hp 4 0 bV bQ rfl⟩))
theorem sy_rs36 (post : Int32 → SY → Prop) (ga gb gc gd ge : Int32) (bC bD bV bQ : Nat → Int32) (hp : ∀ r v', post r v') :
    ∀ (d j : Nat) (bU bP : Nat → Int32), j + d = 4 → wY_restoreSlots_36 post ga gb gc gd ge (d + 1) (nI j) bC bD bU bP bV bQ := by
  intro d
  induction d with
  | zero => intro j bU bP hj; exact br_t (sv_ge 4 (by omega) (by omega)) (sy_count _ ga 0 gc gd ge bC bD bU bP bV bQ (fun _ => hp _ _))
  | succ d ih =>
    intro j bU bP hj
    have hi : vp_in (nI j) 4 := sy_i4 (by omega)
    exact br_f (sv_ng 4 (by omega) (by decide)) ⟨hi, hi, fun _ _ => ⟨hi, hi, fun _ _ => nm_r (nI_1 j) (ih (j + 1) _ _ (by omega))⟩⟩
theorem sy_restoreSlots (post : Int32 → SY → Prop) (v : SY) (hp : ∀ r v', post r v') : wpY_restoreSlots post v := by
  obtain ⟨ga, gb, gc, gd, ge, bC, bD, bU, bP, bV, bQ⟩ := v
  exact br_c (fun _ => hp _ _) (fun _ => br_c (fun _ => hp _ _) (fun _ => br_c (fun _ => br_c (fun _ => ⟨5, sy_rs36 post ga gb gc gd ge bC bD bV bQ hp 4 0 bU bP rfl⟩) (fun _ => hp _ _)) (fun _ => hp _ _)))
theorem sy_damage (post : Int32 → SY → Prop) (v : SY) (x y : Int32) (hp : ∀ r v', post r v') : wpY_damage post v x y := by
  obtain ⟨ga, gb, gc, gd, ge, bC, bD, bU, bP, bV, bQ⟩ := v
  unfold wpY_damage
  refine sy_badSector _ _ x (br_f (by decide) (hp _ _)) (fun i hi ei => br_t rfl (br_c (fun _ => hp _ _) (fun _ => ?_)))
  rw [ei]
  exact ⟨sv_i12 hi, br_c (fun _ => ⟨sv_i12 hi, fun _ _ => hp _ _⟩) (fun _ => hp _ _)⟩
theorem sy_crash (post : Int32 → SY → Prop) (v : SY) (x : Int32) (hp : ∀ r v', post r v') : wpY_crash post v x := by
  obtain ⟨ga, gb, gc, gd, ge, bC, bD, bU, bP, bV, bQ⟩ := v
  exact br_c (fun _ => hp _ _) (fun _ => hp _ _)
