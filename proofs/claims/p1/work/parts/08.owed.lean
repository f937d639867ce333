def pa_x : SX := (0, 0, 0, 0, 0, 0, 0, 0, (fun _ => 0), (fun _ => 0), (fun _ => 0), (fun _ => 0), (fun _ => 0), (fun _ => 0), (fun _ => 0), (fun _ => 0), (fun _ => 0))
def pa_y : SY := (0, 0, 0, 0, 0, (fun _ => 0), (fun _ => 0), (fun _ => 0), (fun _ => 0), (fun _ => 0), (fun _ => 0))
theorem pa_inv : sv_Inv pa_x := ⟨⟨0, by decide, rfl, fun h => absurd rfl h⟩, ⟨0, by decide, rfl, fun h => absurd rfl h⟩, ⟨12, by decide, fun _ _ => rfl, fun i h1 h2 => absurd h2 (by omega)⟩, fun _ _ _ => rfl⟩
theorem pa_lt {x M : Int32} {N : Nat} (hN : M.toInt = N) (h : vp_in x N) : ¬ x < 0 ∧ ¬ M ≤ x := by
  rw [vp_in_iff] at h
  rw [Int32.lt_iff_toInt_lt, Int32.le_iff_toInt_le, show (0 : Int32).toInt = 0 from by decide]
  omega
theorem pa_le {x M : Int32} {N : Nat} (hN : M.toInt + 1 = N) (h : vp_in x N) : ¬ x < 0 ∧ x ≤ M := by
  rw [vp_in_iff] at h
  rw [Int32.lt_iff_toInt_lt, Int32.le_iff_toInt_le, show (0 : Int32).toInt = 0 from by decide]
  omega
theorem pa_nlt {x M : Int32} {N : Nat} (hN : M.toInt = N) (h : ¬ vp_in x N) (h0 : ¬ x < 0) : M ≤ x := by
  rw [vp_in_iff] at h
  rw [Int32.lt_iff_toInt_lt, show (0 : Int32).toInt = 0 from by decide] at h0
  rw [Int32.le_iff_toInt_le]
  omega
theorem pa_nle {x M : Int32} {N : Nat} (hN : M.toInt + 1 = N) (h : ¬ vp_in x N) (h0 : ¬ x < 0) : ¬ x ≤ M := by
  rw [vp_in_iff] at h
  rw [Int32.lt_iff_toInt_lt, show (0 : Int32).toInt = 0 from by decide] at h0
  rw [Int32.le_iff_toInt_le]
  omega
theorem pa_xSector_g (post : Int32 → Prop) (u : SX) (x : Int32) (h : vp_in x 12) (hp : post 1) : wpX_isSector post u x := by
  obtain ⟨fa, fb, fc, fd, fe, ff, fg, fh, aK, aE, aV, aS, aC, aY, aD, aT, aW⟩ := u
  have b := pa_lt (M := 12) (by decide) h
  exact br_f b.1 (br_f b.2 hp)
theorem pa_xSector_b (post : Int32 → Prop) (u : SX) (x : Int32) (h : ¬ vp_in x 12) (hp : post 0) : wpX_isSector post u x := by
  obtain ⟨fa, fb, fc, fd, fe, ff, fg, fh, aK, aE, aV, aS, aC, aY, aD, aT, aW⟩ := u
  exact br_c (fun _ => hp) (fun h0 => br_t (pa_nlt (M := 12) (by decide) h h0) hp)
theorem pa_ySector_g (post : Int32 → Prop) (v : SY) (x : Int32) (h : vp_in x 12) (hp : post 0) : wpY_badSector post v x := by
  obtain ⟨ga, gb, gc, gd, ge, bC, bD, bU, bP, bV, bQ⟩ := v
  have b := pa_le (M := 11) (by decide) h
  exact br_f b.1 (br_t b.2 hp)
theorem pa_ySector_b (post : Int32 → Prop) (v : SY) (x : Int32) (h : ¬ vp_in x 12) (hp : post 1) : wpY_badSector post v x := by
  obtain ⟨ga, gb, gc, gd, ge, bC, bD, bU, bP, bV, bQ⟩ := v
  exact br_c (fun _ => hp) (fun h0 => br_f (pa_nle (M := 11) (by decide) h h0) hp)
theorem pa_xCell_g (post : Int32 → Prop) (u : SX) (x : Int32) (h : vp_in x 8) (hp : post 1) : wpX_isCell post u x := by
  obtain ⟨fa, fb, fc, fd, fe, ff, fg, fh, aK, aE, aV, aS, aC, aY, aD, aT, aW⟩ := u
  have b := pa_lt (M := 8) (by decide) h
  exact br_f b.1 (br_f b.2 hp)
theorem pa_xCell_b (post : Int32 → Prop) (u : SX) (x : Int32) (h : ¬ vp_in x 8) (hp : post 0) : wpX_isCell post u x := by
  obtain ⟨fa, fb, fc, fd, fe, ff, fg, fh, aK, aE, aV, aS, aC, aY, aD, aT, aW⟩ := u
  exact br_c (fun _ => hp) (fun h0 => br_t (pa_nlt (M := 8) (by decide) h h0) hp)
theorem pa_yCell_g (post : Int32 → Prop) (v : SY) (x : Int32) (h : vp_in x 8) (hp : post 0) : wpY_badCell post v x := by
  obtain ⟨ga, gb, gc, gd, ge, bC, bD, bU, bP, bV, bQ⟩ := v
  have b := pa_le (M := 7) (by decide) h
  exact br_f b.1 (br_t b.2 hp)
theorem pa_yCell_b (post : Int32 → Prop) (v : SY) (x : Int32) (h : ¬ vp_in x 8) (hp : post 1) : wpY_badCell post v x := by
  obtain ⟨ga, gb, gc, gd, ge, bC, bD, bU, bP, bV, bQ⟩ := v
  exact br_c (fun _ => hp) (fun h0 => br_f (pa_nle (M := 7) (by decide) h h0) hp)
theorem pa_xSlot_g (post : Int32 → Prop) (u : SX) (x : Int32) (h : vp_in x 4) (hp : post 1) : wpX_isSlot post u x := by
  obtain ⟨fa, fb, fc, fd, fe, ff, fg, fh, aK, aE, aV, aS, aC, aY, aD, aT, aW⟩ := u
  have b := pa_lt (M := 4) (by decide) h
  exact br_f b.1 (br_f b.2 hp)
theorem pa_xSlot_b (post : Int32 → Prop) (u : SX) (x : Int32) (h : ¬ vp_in x 4) (hp : post 0) : wpX_isSlot post u x := by
  obtain ⟨fa, fb, fc, fd, fe, ff, fg, fh, aK, aE, aV, aS, aC, aY, aD, aT, aW⟩ := u
  exact br_c (fun _ => hp) (fun h0 => br_t (pa_nlt (M := 4) (by decide) h h0) hp)
theorem pa_ySlot_g (post : Int32 → Prop) (v : SY) (x : Int32) (h : vp_in x 4) (hp : post 0) : wpY_badSlot post v x := by
  obtain ⟨ga, gb, gc, gd, ge, bC, bD, bU, bP, bV, bQ⟩ := v
  have b := pa_le (M := 3) (by decide) h
  exact br_f b.1 (br_t b.2 hp)
theorem pa_ySlot_b (post : Int32 → Prop) (v : SY) (x : Int32) (h : ¬ vp_in x 4) (hp : post 1) : wpY_badSlot post v x := by
  obtain ⟨ga, gb, gc, gd, ge, bC, bD, bU, bP, bV, bQ⟩ := v
  exact br_c (fun _ => hp) (fun h0 => br_f (pa_nle (M := 3) (by decide) h h0) hp)
theorem pa_yread (post : Int32 → Prop) (x y : Int32) (hp : post 0) : wpY_read post pa_y x y := by
  unfold wpY_read pa_y
  dsimp only
  by_cases hx : vp_in x 12
  · refine pa_ySector_g _ _ _ hx (br_t rfl ?_)
    by_cases hy : vp_in y 8
    · exact pa_yCell_g _ _ _ hy (br_t rfl (br_t rfl hp))
    · exact pa_yCell_b _ _ _ hy (br_f (by decide) hp)
  · exact pa_ySector_b _ _ _ hx (br_f (by decide) hp)
theorem pa_ydi4 (post : Int32 → Prop) (hp : post 0) :
    ∀ (d j : Nat), j + d = 96 → wY_digest_4 post 0 0 0 0 0 (fun _ => 0) (fun _ => 0) (fun _ => 0) (fun _ => 0) (fun _ => 0) (fun _ => 0) (d + 1) 0 (nI j) := by
  intro d
  induction d with
  | zero => intro j hj; exact br_t (sv_ge 96 (by omega) (by omega)) hp
  | succ d ih =>
    intro j hj
    refine br_f (sv_ng 96 (by omega) (by decide)) ⟨by decide, by decide, pa_yread _ _ _ (nm_r (e' := 0) ?_ (nm_r (nI_1 j) (ih (j + 1) (by omega))))⟩
    rw [Int32.mul_zero, Int32.add_zero]
theorem pa_ysl4 (post : Int32 → Prop) (hp : post 0) :
    ∀ (d j : Nat), j + d = 4 → wY_slots_4 post 0 0 0 0 0 (fun _ => 0) (fun _ => 0) (fun _ => 0) (fun _ => 0) (fun _ => 0) (fun _ => 0) (d + 1) 0 (nI j) := by
  intro d
  induction d with
  | zero => intro j hj; exact br_t (sv_ge 4 (by omega) (by omega)) hp
  | succ d ih =>
    intro j hj
    exact br_f (sv_ng 4 (by omega) (by decide)) (br_t rfl (nm_r (nI_1 j) (ih (j + 1) (by omega))))
def i_Rel (k : Nat) (u : SX) (v : SY) : Prop := k = 0 → u = pa_x ∧ v = pa_y
theorem i_up {k : Nat} {u : SX} {v : SY} (h : i_Rel k u v) : i_Rel (k + 4) u v := fun z => absurd z (by omega)
theorem i_vc0 : wpX_init (fun u => wpY_init (fun v => i_Rel 0 u v)) := fun _ => ⟨rfl, rfl⟩
theorem i_vc_format {k : Nat} {u : SX} {v : SY} (I : i_Rel k u v) (hk : k + 4 ≤ 4) (v1 : Int32) : wpX_format (fun r u' => wpY_format (fun r' v' => r' = r ∧ i_Rel (k + 4) u' v') v v1) u v1 := by
  obtain ⟨hu, hv⟩ := I (by omega)
  have T : ∀ (u' : SX) (v' : SY), i_Rel (k + 4) u' v' := fun _ _ h => absurd h (by omega)
  rw [hu, hv]
  exact sv_format _ _ v1 pa_inv (fun _ _ => sy_format _ _ v1 (fun _ => ⟨rfl, T _ _⟩))
theorem i_vc_unlock {k : Nat} {u : SX} {v : SY} (I : i_Rel k u v) (hk : k + 4 ≤ 4) (v1 : Int32) : wpX_unlock (fun r u' => wpY_unlock (fun r' v' => r' = r ∧ i_Rel (k + 4) u' v') v v1) u v1 := by
  obtain ⟨hu, hv⟩ := I (by omega)
  have T : ∀ (u' : SX) (v' : SY), i_Rel (k + 4) u' v' := fun _ _ h => absurd h (by omega)
  rw [hu, hv]
  exact br_t rfl (br_t rfl ⟨rfl, T _ _⟩)
theorem i_vc_lock {k : Nat} {u : SX} {v : SY} (I : i_Rel k u v) (hk : k + 4 ≤ 4) : wpX_lock (fun r u' => wpY_lock (fun r' v' => r' = r ∧ i_Rel (k + 4) u' v') v) u := by
  obtain ⟨hu, hv⟩ := I (by omega)
  have T : ∀ (u' : SX) (v' : SY), i_Rel (k + 4) u' v' := fun _ _ h => absurd h (by omega)
  rw [hu, hv]
  exact br_t rfl (br_t rfl ⟨rfl, T _ _⟩)
theorem i_vc_state {k : Nat} {u : SX} {v : SY} (I : i_Rel k u v) (hk : k + 4 ≤ 4) : wpX_state (fun r => wpY_state (fun r' => r' = r ∧ i_Rel (k + 4) u v) v) u := by
  obtain ⟨hu, hv⟩ := I (by omega)
  have T : ∀ (u' : SX) (v' : SY), i_Rel (k + 4) u' v' := fun _ _ h => absurd h (by omega)
  rw [hu, hv]
  exact br_t rfl (br_t rfl ⟨rfl, T _ _⟩)
theorem i_vc_read {k : Nat} {u : SX} {v : SY} (I : i_Rel k u v) (hk : k + 4 ≤ 4) (v1 : Int32) (v2 : Int32) : wpX_read (fun r u' => wpY_read (fun r' => r' = r ∧ i_Rel (k + 4) u' v) v v1 v2) u v1 v2 := by
  obtain ⟨hu, hv⟩ := I (by omega)
  have T : ∀ (u' : SX) (v' : SY), i_Rel (k + 4) u' v' := fun _ _ h => absurd h (by omega)
  rw [hu, hv]
  unfold wpX_read pa_x
  dsimp only
  by_cases hx : vp_in v1 12
  · refine pa_xSector_g _ _ _ hx (br_f (by decide) ?_)
    by_cases hy : vp_in v2 8
    · exact pa_xCell_g _ _ _ hy (br_f (by decide) (br_t rfl (pa_yread _ _ _ ⟨rfl, T _ _⟩)))
    · exact pa_xCell_b _ _ _ hy (br_t rfl (pa_yread _ _ _ ⟨rfl, T _ _⟩))
  · exact pa_xSector_b _ _ _ hx (br_t rfl (pa_yread _ _ _ ⟨rfl, T _ _⟩))
theorem i_vc_write {k : Nat} {u : SX} {v : SY} (I : i_Rel k u v) (hk : k + 4 ≤ 4) (v1 : Int32) (v2 : Int32) (v3 : Int32) : wpX_write (fun r u' => wpY_write (fun r' v' => r' = r ∧ i_Rel (k + 4) u' v') v v1 v2 v3) u v1 v2 v3 := by
  obtain ⟨hu, hv⟩ := I (by omega)
  have T : ∀ (u' : SX) (v' : SY), i_Rel (k + 4) u' v' := fun _ _ h => absurd h (by omega)
  rw [hu, hv]
  unfold wpX_write pa_x
  dsimp only
  unfold wpY_write pa_y
  dsimp only
  by_cases hx : vp_in v1 12
  · refine pa_xSector_g _ _ _ hx (br_f (by decide) ?_)
    by_cases hy : vp_in v2 8
    · exact pa_xCell_g _ _ _ hy (br_f (by decide) (br_t rfl (pa_ySector_g _ _ _ hx (br_t rfl (pa_yCell_g _ _ _ hy (br_t rfl (br_t rfl ⟨rfl, T _ _⟩)))))))
    · exact pa_xCell_b _ _ _ hy (br_t rfl (pa_ySector_g _ _ _ hx (br_t rfl (pa_yCell_b _ _ _ hy (br_f (by decide) ⟨rfl, T _ _⟩)))))
  · exact pa_xSector_b _ _ _ hx (br_t rfl (pa_ySector_b _ _ _ hx (br_f (by decide) ⟨rfl, T _ _⟩)))
theorem i_vc_fill {k : Nat} {u : SX} {v : SY} (I : i_Rel k u v) (hk : k + 4 ≤ 4) (v1 : Int32) (v2 : Int32) (v3 : Int32) : wpX_fill (fun r u' => wpY_fill (fun r' v' => r' = r ∧ i_Rel (k + 4) u' v') v v1 v2 v3) u v1 v2 v3 := by
  obtain ⟨hu, hv⟩ := I (by omega)
  have T : ∀ (u' : SX) (v' : SY), i_Rel (k + 4) u' v' := fun _ _ h => absurd h (by omega)
  rw [hu, hv]
  unfold wpX_fill pa_x
  dsimp only
  unfold wpY_fill pa_y
  dsimp only
  by_cases hx : vp_in v1 12
  · exact pa_xSector_g _ _ _ hx (br_f (by decide) (br_t rfl (pa_ySector_g _ _ _ hx (br_t rfl (br_t rfl ⟨rfl, T _ _⟩)))))
  · exact pa_xSector_b _ _ _ hx (br_t rfl (pa_ySector_b _ _ _ hx (br_f (by decide) ⟨rfl, T _ _⟩)))
theorem i_vc_check {k : Nat} {u : SX} {v : SY} (I : i_Rel k u v) (hk : k + 4 ≤ 4) (v1 : Int32) : wpX_check (fun r => wpY_check (fun r' => r' = r ∧ i_Rel (k + 4) u v) v v1) u v1 := by
  obtain ⟨hu, hv⟩ := I (by omega)
  have T : ∀ (u' : SX) (v' : SY), i_Rel (k + 4) u' v' := fun _ _ h => absurd h (by omega)
  rw [hu, hv]
  unfold wpX_check pa_x
  dsimp only
  unfold wpY_check pa_y
  dsimp only
  by_cases hx : vp_in v1 12
  · exact pa_xSector_g _ _ _ hx (br_f (by decide) (br_t rfl (pa_ySector_g _ _ _ hx (br_t rfl (br_t rfl ⟨rfl, T _ _⟩)))))
  · exact pa_xSector_b _ _ _ hx (br_t rfl (pa_ySector_b _ _ _ hx (br_f (by decide) ⟨rfl, T _ _⟩)))
theorem i_vc_digest {k : Nat} {u : SX} {v : SY} (I : i_Rel k u v) (hk : k + 4 ≤ 4) : wpX_digest (fun r u' => wpY_digest (fun r' => r' = r ∧ i_Rel (k + 4) u' v) v) u := by
  obtain ⟨hu, hv⟩ := I (by omega)
  have T : ∀ (u' : SX) (v' : SY), i_Rel (k + 4) u' v' := fun _ _ h => absurd h (by omega)
  rw [hu, hv]
  exact br_t rfl ⟨97, pa_ydi4 _ ⟨rfl, T _ _⟩ 96 0 rfl⟩
theorem i_vc_addKey {k : Nat} {u : SX} {v : SY} (I : i_Rel k u v) (hk : k + 4 ≤ 4) (v1 : Int32) : wpX_addKey (fun r u' => wpY_addKey (fun r' v' => r' = r ∧ i_Rel (k + 4) u' v') v v1) u v1 := by
  obtain ⟨hu, hv⟩ := I (by omega)
  have T : ∀ (u' : SX) (v' : SY), i_Rel (k + 4) u' v' := fun _ _ h => absurd h (by omega)
  rw [hu, hv]
  exact br_t rfl (br_t rfl ⟨rfl, T _ _⟩)
theorem i_vc_removeKey {k : Nat} {u : SX} {v : SY} (I : i_Rel k u v) (hk : k + 4 ≤ 4) (v1 : Int32) : wpX_removeKey (fun r u' => wpY_removeKey (fun r' v' => r' = r ∧ i_Rel (k + 4) u' v') v v1) u v1 := by
  obtain ⟨hu, hv⟩ := I (by omega)
  have T : ∀ (u' : SX) (v' : SY), i_Rel (k + 4) u' v' := fun _ _ h => absurd h (by omega)
  rw [hu, hv]
  unfold wpX_removeKey pa_x
  dsimp only
  unfold wpY_removeKey pa_y
  dsimp only
  by_cases hx : vp_in v1 4
  · exact pa_xSlot_g _ _ _ hx (br_f (by decide) (br_t rfl (pa_ySlot_g _ _ _ hx (br_t rfl (br_t rfl ⟨rfl, T _ _⟩)))))
  · exact pa_xSlot_b _ _ _ hx (br_t rfl (pa_ySlot_b _ _ _ hx (br_f (by decide) ⟨rfl, T _ _⟩)))
theorem i_vc_changeKey {k : Nat} {u : SX} {v : SY} (I : i_Rel k u v) (hk : k + 4 ≤ 4) (v1 : Int32) (v2 : Int32) : wpX_changeKey (fun r u' => wpY_changeKey (fun r' v' => r' = r ∧ i_Rel (k + 4) u' v') v v1 v2) u v1 v2 := by
  obtain ⟨hu, hv⟩ := I (by omega)
  have T : ∀ (u' : SX) (v' : SY), i_Rel (k + 4) u' v' := fun _ _ h => absurd h (by omega)
  rw [hu, hv]
  unfold wpX_changeKey pa_x
  dsimp only
  unfold wpY_changeKey pa_y
  dsimp only
  by_cases hx : vp_in v1 4
  · exact pa_xSlot_g _ _ _ hx (br_f (by decide) (br_t rfl (pa_ySlot_g _ _ _ hx (br_t rfl (br_t rfl ⟨rfl, T _ _⟩)))))
  · exact pa_xSlot_b _ _ _ hx (br_t rfl (pa_ySlot_b _ _ _ hx (br_f (by decide) ⟨rfl, T _ _⟩)))
theorem i_vc_slots {k : Nat} {u : SX} {v : SY} (I : i_Rel k u v) (hk : k + 4 ≤ 4) : wpX_slots (fun r => wpY_slots (fun r' => r' = r ∧ i_Rel (k + 4) u v) v) u := by
  obtain ⟨hu, hv⟩ := I (by omega)
  have T : ∀ (u' : SX) (v' : SY), i_Rel (k + 4) u' v' := fun _ _ h => absurd h (by omega)
  rw [hu, hv]
  unfold wpX_slots pa_x
  dsimp only
  exact ⟨5, pa_ysl4 _ ⟨rfl, T _ _⟩ 4 0 rfl⟩
theorem i_vc_slotOf {k : Nat} {u : SX} {v : SY} (I : i_Rel k u v) (hk : k + 4 ≤ 4) (v1 : Int32) : wpX_slotOf (fun r u' => wpY_slotOf (fun r' => r' = r ∧ i_Rel (k + 4) u' v) v v1) u v1 := by
  obtain ⟨hu, hv⟩ := I (by omega)
  have T : ∀ (u' : SX) (v' : SY), i_Rel (k + 4) u' v' := fun _ _ h => absurd h (by omega)
  rw [hu, hv]
  exact br_t rfl (br_t rfl ⟨rfl, T _ _⟩)
theorem i_vc_renew {k : Nat} {u : SX} {v : SY} (I : i_Rel k u v) (hk : k + 4 ≤ 4) (v1 : Int32) : wpX_renew (fun r u' => wpY_renew (fun r' v' => r' = r ∧ i_Rel (k + 4) u' v') v v1) u v1 := by
  obtain ⟨hu, hv⟩ := I (by omega)
  have T : ∀ (u' : SX) (v' : SY), i_Rel (k + 4) u' v' := fun _ _ h => absurd h (by omega)
  rw [hu, hv]
  exact br_t rfl (br_t rfl ⟨rfl, T _ _⟩)
theorem i_vc_toRenew {k : Nat} {u : SX} {v : SY} (I : i_Rel k u v) (hk : k + 4 ≤ 4) : wpX_toRenew (fun r => wpY_toRenew (fun r' => r' = r ∧ i_Rel (k + 4) u v) v) u := by
  obtain ⟨hu, hv⟩ := I (by omega)
  have T : ∀ (u' : SX) (v' : SY), i_Rel (k + 4) u' v' := fun _ _ h => absurd h (by omega)
  rw [hu, hv]
  unfold wpX_toRenew pa_x
  dsimp only
  exact sv_cr _ 12 (by decide) 0 0 0 0 0 0 0 0 (fun _ => 0) (fun _ => 0) (fun _ => 0) (fun _ => 0) (fun _ => 0) (fun _ => 0) (fun _ => 0) (fun _ => 0) (fun _ => 0) (fun _ _ => rfl) (fun i h1 h2 => absurd h2 (by omega)) ⟨rfl, T _ _⟩
theorem i_vc_saveSlots {k : Nat} {u : SX} {v : SY} (I : i_Rel k u v) (hk : k + 4 ≤ 4) : wpX_saveSlots (fun r u' => wpY_saveSlots (fun r' v' => r' = r ∧ i_Rel (k + 4) u' v') v) u := by
  obtain ⟨hu, hv⟩ := I (by omega)
  have T : ∀ (u' : SX) (v' : SY), i_Rel (k + 4) u' v' := fun _ _ h => absurd h (by omega)
  rw [hu, hv]
  exact br_t rfl (br_t rfl ⟨rfl, T _ _⟩)
theorem i_vc_restoreSlots {k : Nat} {u : SX} {v : SY} (I : i_Rel k u v) (hk : k + 4 ≤ 4) : wpX_restoreSlots (fun r u' => wpY_restoreSlots (fun r' v' => r' = r ∧ i_Rel (k + 4) u' v') v) u := by
  obtain ⟨hu, hv⟩ := I (by omega)
  have T : ∀ (u' : SX) (v' : SY), i_Rel (k + 4) u' v' := fun _ _ h => absurd h (by omega)
  rw [hu, hv]
  exact br_t rfl (br_t rfl ⟨rfl, T _ _⟩)
theorem i_vc_damage {k : Nat} {u : SX} {v : SY} (I : i_Rel k u v) (hk : k + 4 ≤ 4) (v1 : Int32) (v2 : Int32) : wpX_damage (fun r u' => wpY_damage (fun r' v' => r' = r ∧ i_Rel (k + 4) u' v') v v1 v2) u v1 v2 := by
  obtain ⟨hu, hv⟩ := I (by omega)
  have T : ∀ (u' : SX) (v' : SY), i_Rel (k + 4) u' v' := fun _ _ h => absurd h (by omega)
  rw [hu, hv]
  unfold wpX_damage pa_x
  dsimp only
  unfold wpY_damage pa_y
  dsimp only
  by_cases hx : vp_in v1 12
  · exact pa_xSector_g _ _ _ hx (br_f (by decide) (br_t rfl (pa_ySector_g _ _ _ hx (br_t rfl (br_t rfl ⟨rfl, T _ _⟩)))))
  · exact pa_xSector_b _ _ _ hx (br_t rfl (pa_ySector_b _ _ _ hx (br_f (by decide) ⟨rfl, T _ _⟩)))
theorem i_vc_crash {k : Nat} {u : SX} {v : SY} (I : i_Rel k u v) (hk : k + 4 ≤ 4) (v1 : Int32) : wpX_crash (fun r u' => wpY_crash (fun r' v' => r' = r ∧ i_Rel (k + 4) u' v') v v1) u v1 := by
  obtain ⟨hu, hv⟩ := I (by omega)
  have T : ∀ (u' : SX) (v' : SY), i_Rel (k + 4) u' v' := fun _ _ h => absurd h (by omega)
  rw [hu, hv]
  exact br_t rfl (br_t rfl ⟨rfl, T _ _⟩)
theorem i_vc_faults {k : Nat} {u : SX} {v : SY} (I : i_Rel k u v) (hk : k + 4 ≤ 4) : wpX_faults (fun r => wpY_faults (fun r' => r' = r ∧ i_Rel (k + 4) u v) v) u := by
  obtain ⟨hu, hv⟩ := I (by omega)
  have T : ∀ (u' : SX) (v' : SY), i_Rel (k + 4) u' v' := fun _ _ h => absurd h (by omega)
  rw [hu, hv]
  exact br_t rfl ⟨rfl, T _ _⟩
