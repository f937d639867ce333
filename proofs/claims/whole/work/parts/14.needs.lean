theorem need_whole {i_R : Nat → SX → SY → Prop} (h0 : wpX_init (fun u => wpY_init (fun v => i_R 0 u v))) (hf : rc_format i_R) (hc : rc_slotOf i_R) : ch_inj := ne_inj (fun x y hxy hw => by
  obtain ⟨u, v, hr, hA, C, hI, _⟩ := mx_format (S := fun r r' u' v' => r' = r ∧ i_R (0 + 4) u' v') (hf 0 _ _ h0 (by decide) x) (ne_fx x y hw) (ne_fy x)
  obtain ⟨C1, D1, U1, hC1, hD1, hU1, rfl⟩ := hA
  obtain ⟨u', h, _⟩ := me_slotOf (S := fun r r' u' => r' = r ∧ i_R (4 + 4) u' _) (ca := -4) (cb := nI 0) (hc 4 u _ hr.2 (by decide) y) (j_vc_slotOf hI y (ne_loc y C)) (br_f (by decide) (sg_find _ y 1 _ _ _ _ _ _ _ _ _ _ _ hU1 (by rw [ne_fd_n hxy _ pk_us]; exact br_f (by decide) rfl))) (br_f (by decide) (sg_find _ y 1 _ _ _ _ _ _ _ _ _ _ _ ne_U_b (by rw [ne_fd_s y _ rfl]; exact br_t (by decide) rfl)))
  exact absurd h.1 (by decide))
theorem ev_renew_l (x : Int32) (ga gb gc gd ge : Int32) (bC bD bU bP bV bQ : Nat → Int32) (hb : gb = 0) : wpY_renew (fun r' v' => r' = -3 ∧ v' = (ga, gb, gc, gd, ge, bC, bD, bU, bP, bV, bQ)) (ga, gb, gc, gd, ge, bC, bD, bU, bP, bV, bQ) x := br_t hb ⟨rfl, rfl⟩
theorem ev_renew_o (ga gb gc gd ge : Int32) (bC bD bU bP bV bQ : Nat → Int32) (hb : ¬ gb = 0) (hc : gc = 0) : wpY_renew (fun r' v' => r' = 12 ∧ v' = (ga, gb, 12, gd, 1, bC, bD, bU, bP, bV, bQ)) (ga, gb, gc, gd, ge, bC, bD, bU, bP, bV, bQ) 0 := br_f hb (br_t hc (br_t (by decide) ⟨rfl, rfl⟩))
theorem need_p16 {i_R : Nat → SX → SY → Prop} (h0 : wpX_init (fun u => wpY_init (fun v => i_R 0 u v))) (hf : ro_format i_R) (hu : ro_unlock i_R) (hc : rc_renew i_R) : ch_inj := ne_inj (fun x y hxy hw => by
  obtain ⟨u, C1, D1, U1, C, h1, hD, hI⟩ := ne_two h0 hf hu hxy hw
  obtain ⟨u', va, vb, h, _⟩ := me_renew (S := fun r r' u' v' => r' = r ∧ i_R (8 + 4) u' v') (hc 8 u _ h1 (by decide) 0) (j_vc_renew hI 0) (ev_renew_l 0 _ _ _ _ _ _ _ _ _ _ _ rfl) (ev_renew_o _ _ _ _ _ _ _ _ _ _ _ (by decide) rfl)
  exact absurd h.1 (by decide))
theorem ne_ren {i_R : Nat → SX → SY → Prop} (h0 : wpX_init (fun u => wpY_init (fun v => i_R 0 u v))) (hf : ro_format i_R) (hu : ro_unlock i_R) (hn : ro_renew i_R) {x y : Int32} (hxy : ¬ x = y) (hw : ∀ i, i < 8 → ch_P x 2 0 i = ch_P y 2 0 i) :
    ∃ (u : SX) (C1 D1 U1 C : Nat → Int32), i_R 12 u (1, 0, 0, 0, 0, C1, D1, U1, upd (fun _ => 0) 0 x, (fun _ => 0), (fun _ => 0)) ∧ i_Rel 8 u (1, 1, 12, 0, 1, C, (fun _ => 0), ne_U, (fun _ => y), (fun _ => 0), (fun _ => 0)) := by
  obtain ⟨u, C1, D1, U1, C, h1, hD, hI⟩ := ne_two h0 hf hu hxy hw
  obtain ⟨u', va, vb, h, rfl, rfl, h2⟩ := me_renew (S := fun _ _ u' v' => i_R (8 + 4) u' v') (hn 8 u _ h1 (by decide) 0) (j_vc_renew hI 0) (ev_renew_l 0 _ _ _ _ _ _ _ _ _ _ _ rfl) (ev_renew_o _ _ _ _ _ _ _ _ _ _ _ (by decide) rfl)
  exact ⟨u', C1, D1, U1, C, h, h2⟩
theorem need_p17 {i_R : Nat → SX → SY → Prop} (h0 : wpX_init (fun u => wpY_init (fun v => i_R 0 u v))) (hf : ro_format i_R) (hu : ro_unlock i_R) (hn : ro_renew i_R) (hc : rc_toRenew i_R) : ch_inj := ne_inj (fun x y hxy hw => by
  obtain ⟨u, C1, D1, U1, C, h1, hI⟩ := ne_ren h0 hf hu hn hxy hw
  have e1 : wpY_toRenew (fun r' => r' = 0) (1, 0, 0, 0, 0, C1, D1, U1, upd (fun _ => 0) 0 x, (fun _ => 0), (fun _ => 0)) := rfl
  have e2 : wpY_toRenew (fun r' => r' = 12) (1, 1, 12, 0, 1, C, (fun _ => 0), ne_U, (fun _ => y), (fun _ => 0), (fun _ => 0)) := rfl
  have h := me_toRenew (S := fun r r' => r' = r ∧ i_R (12 + 4) u _) (hc 12 u _ h1 (by decide)) (j_vc_toRenew hI) e1 e2
  exact absurd h.1 (by decide))
theorem need_p21 {i_R : Nat → SX → SY → Prop} (h0 : wpX_init (fun u => wpY_init (fun v => i_R 0 u v))) (hf : ro_format i_R) (hu : ro_unlock i_R) (hn : ro_renew i_R) (hc : rc_crash i_R) : ch_inj := ne_inj (fun x y hxy hw => by
  obtain ⟨u, C1, D1, U1, C, h1, hI⟩ := ne_ren h0 hf hu hn hxy hw
  obtain ⟨u', va, vb, h, _⟩ := me_crash (S := fun r r' u' v' => r' = r ∧ i_R (12 + 4) u' v') (ca := 0) (cb := 12) (FA := fun _ => True) (FB := fun _ => True) (hc 12 u _ h1 (by decide) 0) (j_vc_crash hI 0) (br_f (by decide) ⟨rfl, trivial⟩) (br_f (by decide) ⟨rfl, trivial⟩)
  exact absurd h.1 (by decide))
theorem ev_damage_s (p : Int32) (ga gb gc gd ge : Int32) (bC bD bU bP bV bQ : Nat → Int32) (ha : ¬ ga = 0) (hd : bD 0 = 0) : wpY_damage (fun r' v' => r' = 0 ∧ v' = (ga, gb, gc, gd, ge, bC, upd bD 0 1, bU, bP, bV, bQ)) (ga, gb, gc, gd, ge, bC, bD, bU, bP, bV, bQ) 0 p := by
  unfold wpY_damage
  dsimp only
  refine pa_ySector_g _ _ _ (sv_i12 (j := 0) (by decide)) (br_t rfl (br_f ha ⟨sv_i12 (j := 0) (by decide), br_t hd ⟨sv_i12 (j := 0) (by decide), ?_⟩⟩))
  rw [sy_n1]
  exact nm_e ⟨rfl, rfl⟩
theorem ev_damage_b (p : Int32) (ga gb gc gd ge : Int32) (bC bD bU bP bV bQ : Nat → Int32) (ha : ¬ ga = 0) (hd : ¬ bD 0 = 0) : wpY_damage (fun r' v' => r' = -5 ∧ v' = (ga, gb, gc, gd, ge, bC, bD, bU, bP, bV, bQ)) (ga, gb, gc, gd, ge, bC, bD, bU, bP, bV, bQ) 0 p := by
  unfold wpY_damage
  dsimp only
  exact pa_ySector_g _ _ _ (sv_i12 (j := 0) (by decide)) (br_t rfl (br_f ha ⟨sv_i12 (j := 0) (by decide), br_f hd ⟨rfl, rfl⟩⟩))
theorem need_p20 {i_R : Nat → SX → SY → Prop} (h0 : wpX_init (fun u => wpY_init (fun v => i_R 0 u v))) (hf : ro_format i_R) (hu : ro_unlock i_R) (hl : ro_fill i_R) (hc : rc_damage i_R) : ch_inj := ne_inj (fun x y hxy hw => by
  obtain ⟨u, v, C, h1, hA, hI, _⟩ := ne_start h0 hf x y hw
  obtain ⟨C1, D1, U1, hC1, hD1, hU1, rfl⟩ := hA
  obtain ⟨u1, va, vb, h2, rfl, rfl, hI1⟩ := me_damage (S := fun r r' u' v' => r' = r ∧ i_R (4 + 4) u' v') (hc 4 u _ h1 (by decide) 0 0) (j_vc_damage hI 0 0) (ev_damage_s 0 _ _ _ _ _ _ _ _ _ _ _ (by decide) (hD1 0 (by decide))) (ev_damage_s 0 _ _ _ _ _ _ _ _ _ _ _ (by decide) rfl)
  obtain ⟨u2, va, vb, h3, rfl, rfl, hI2⟩ := me_unlock (S := fun _ _ u' v' => i_R (8 + 4) u' v') (hu 8 u1 _ h2.2 (by decide) y) (j_vc_unlock hI1 y (fun _ _ _ _ => rfl)) (ev_unlock_n 1 y _ _ _ _ _ _ _ _ _ _ _ (by decide) rfl hU1 (ne_fd_n hxy _ pk_us)) (ev_unlock_s 1 y _ _ _ _ _ _ _ _ _ _ _ (by decide) rfl ne_U_b (ne_fd_s y _ rfl))
  obtain ⟨u3, va, vb, h4, rfl, ⟨C3, rfl⟩, hI3⟩ := me_fill (S := fun _ _ u' v' => i_R (12 + 4) u' v') (hl 12 u2 _ h3 (by decide) 0 0 0) (j_vc_fill hI2 0 0 0) (ev_fill_l 0 0 0 _ _ _ _ _ _ _ _ _ _ _ rfl (sv_i12 (j := 0) (by decide))) (ev_fill_o 0 0 1 _ _ _ _ _ _ _ _ _ _ _ (by decide) ⟨fun z => absurd z (by decide), fun _ => rfl⟩)
  obtain ⟨u4, va, vb, h5, _⟩ := me_damage (S := fun r r' u' v' => r' = r ∧ i_R (16 + 4) u' v') (hc 16 u3 _ h4 (by decide) 0 0) (j_vc_damage hI3 0 0) (ev_damage_b 0 _ _ _ _ _ _ _ _ _ _ _ (by decide) (by rw [pk_us]; decide)) (ev_damage_s 0 _ _ _ _ _ _ _ _ _ _ _ (by decide) pk_us)
  exact absurd h5.1 (by decide))
/-! format(x), unlock(x), then y -/
theorem ne_find0 (post : Int32 → SX → Prop) (y : Int32) (t : Nat) (ht : t < 16) (fa fb fc fd ff fg fh : Int32) (aK aE aV aS aC aY aT aW : Nat → Int32) (hT : ch_tl 16 aT) (hb : sv_bt t 0 = 1) (hS : ∀ i, i < 8 → aS (0 * 16 + i) = ch_P y 2 0 i) (hp : post (nI 0) (fa, fb, fc, fd, nI t, ff, fg, fh, aK, aE, aV, aS, aC, aY, (fun _ => 0), ch_P y 2 0, aW)) : wpX_findSlot post (fa, fb, fc, fd, nI t, ff, fg, fh, aK, aE, aV, aS, aC, aY, (fun _ => 0), aT, aW) y := by
  unfold wpX_findSlot
  exact sf_stream _ fa fb fc fd (nI t) ff fg fh aK aE aV aS aC aY aT aW _ _ _ hT ⟨1, br_f (by decide) (sf_isTaken _ 0 (by decide) t ht fa fb fc fd ff fg fh aK aE aV aS aC aY (fun _ => 0) (ch_P y 2 0) aW (fun _ => br_f (by decide) (sf_belongs _ 0 (by decide) fa fb fc fd (nI t) ff fg fh aK aE aV aS aC aY (fun _ => 0) (ch_P y 2 0) aW (fun _ => br_f (by decide) hp) (fun z => absurd hS z))) (fun z => absurd hb (by omega)))⟩
def ne_w (x : Int32) : SY := (1, 1, 0, 0, 0, (fun _ => 0), (fun _ => 0), ne_U, (fun _ => x), (fun _ => 0), (fun _ => 0))
theorem ne_bt0 {t : Nat} (h : ne_U 0 = nI (sv_bt t 0)) : sv_bt t 0 = 1 := sy_b1 (t := t) (s := 0) (fun z => absurd (h.trans z) (by decide))
theorem ne_ax {k : Nat} {u : SX} {x y : Int32} (hw : ∀ i, i < 8 → ch_P x 2 0 i = ch_P y 2 0 i) (I : i_Rel k u (ne_w x)) : wpX_addKey (fun r u' => r = -6 ∧ i_Rel k u' (ne_w x)) u y := by
  obtain ⟨fa, fb, fc, fd, fe, ff, fg, fh, aK, aE, aV, aS, aC, aY, aD, aT, aW⟩ := u
  obtain ⟨gc, bC, bD, bU, bP, bV, bQ, ev, rfl, R⟩ := I
  injection ev with e1 ev
  injection ev with e2 ev
  injection ev with e3 ev
  injection ev with e4 ev
  injection ev with e5 ev
  injection ev with e6 ev
  injection ev with e7 ev
  injection ev with e8 ev
  injection ev with e9 ev
  injection ev with e10 e11
  subst e1 e2 e3 e4 e5 e6 e7 e8 e9 e10 e11
  obtain ⟨hT, ha, hY, hm, t, ht, ht0, rfl, hS, hC, hcp⟩ := rl_op R (by decide)
  have hb := ne_bt0 (t := t) (hS 0 (by decide)).1
  refine br_f (by decide) (ne_find0 _ y t ht 1 1 0 0 ff fg fh aK aE aV aS aC aY aT aW hT hb (fun i hi => by rw [((hS 0 (by decide)).2 hb).1 i hi]; exact hw i hi) ?_)
  exact br_f (by decide) ⟨rfl, rl_mk (rl_T R (ch_tl_P _ _ _))⟩
theorem ne_cx {k : Nat} {u : SX} {x y : Int32} (hw : ∀ i, i < 8 → ch_P x 2 0 i = ch_P y 2 0 i) (I : i_Rel k u (ne_w x)) : wpX_changeKey (fun r _ => r = 0 ∧ True) u 0 y := by
  obtain ⟨fa, fb, fc, fd, fe, ff, fg, fh, aK, aE, aV, aS, aC, aY, aD, aT, aW⟩ := u
  obtain ⟨gc, bC, bD, bU, bP, bV, bQ, ev, rfl, R⟩ := I
  injection ev with e1 ev
  injection ev with e2 ev
  injection ev with e3 ev
  injection ev with e4 ev
  injection ev with e5 ev
  injection ev with e6 ev
  injection ev with e7 ev
  injection ev with e8 ev
  injection ev with e9 ev
  injection ev with e10 e11
  subst e1 e2 e3 e4 e5 e6 e7 e8 e9 e10 e11
  obtain ⟨hT, ha, hY, hm, t, ht, ht0, rfl, hS, hC, hcp⟩ := rl_op R (by decide)
  have hb := ne_bt0 (t := t) (hS 0 (by decide)).1
  unfold wpX_changeKey
  dsimp only
  refine pa_xSlot_g _ _ _ (sy_i4 (j := 0) (by decide)) (br_f (by decide) (br_f (by decide) (sf_isTaken _ 0 (by decide) t ht 1 1 0 0 ff fg fh aK aE aV aS aC aY (fun _ => 0) aT aW (fun _ => br_f (by decide) ?_) (fun z => absurd hb (by omega)))))
  exact ne_find0 _ y t ht 1 1 0 0 ff fg fh aK aE aV aS aC aY aT aW hT hb (fun i hi => by rw [((hS 0 (by decide)).2 hb).1 i hi]; exact hw i hi) (br_t rfl ⟨rfl, trivial⟩)
/-- format(x), unlock(x): both open -/
theorem ne_x2 {i_R : Nat → SX → SY → Prop} (h0 : wpX_init (fun u => wpY_init (fun v => i_R 0 u v))) (hf : ro_format i_R) (hu : ro_unlock i_R) (x : Int32) :
    ∃ (u : SX) (C D U : Nat → Int32), i_R 8 u (1, 1, 0, 0, 0, C, D, U, upd (fun _ => 0) 0 x, (fun _ => 0), (fun _ => 0)) ∧ (∀ s, s < 4 → U s = nI (sv_bt 1 s)) ∧ i_Rel 4 u (ne_w x) := by
  obtain ⟨u, v, C, h1, hA, hI, hC⟩ := ne_start h0 hf x x (fun _ _ => rfl)
  obtain ⟨C1, D1, U1, hC1, hD1, hU1, rfl⟩ := hA
  rw [hC rfl] at hI
  obtain ⟨u', va, vb, h, rfl, rfl, h2⟩ := me_unlock (S := fun _ _ u' v' => i_R (4 + 4) u' v') (hu 4 u _ h1 (by decide) x) (j_vc_unlock hI x (ne_loc x _)) (ev_unlock_s 1 x _ _ _ _ _ _ _ _ _ _ _ (by decide) rfl hU1 (ne_fd_s x _ pk_us)) (ev_unlock_s 1 x _ _ _ _ _ _ _ _ _ _ _ (by decide) rfl ne_U_b (ne_fd_s x _ rfl))
  exact ⟨u', C1, D1, U1, h, hU1, h2⟩
theorem need_p13 {i_R : Nat → SX → SY → Prop} (h0 : wpX_init (fun u => wpY_init (fun v => i_R 0 u v))) (hf : ro_format i_R) (hu : ro_unlock i_R) (hc : rc_changeKey i_R) : ch_inj := ne_inj (fun x y hxy hw => by
  obtain ⟨u, C, D, U, h1, hU, hI⟩ := ne_x2 h0 hf hu x
  have e1 : wpY_changeKey (fun r' v' => r' = 1 ∧ True) (1, 1, 0, 0, 0, C, D, U, upd (fun _ => 0) 0 x, (fun _ => 0), (fun _ => 0)) 0 y := by
    unfold wpY_changeKey
    dsimp only
    refine pa_ySlot_g _ _ _ (sy_i4 (j := 0) (by decide)) (br_t rfl (br_f (by decide) ⟨sy_i4 (j := 0) (by decide), br_f ?_ (sg_find _ y 1 1 1 0 0 0 C D U (upd (fun _ => 0) 0 x) (fun _ => 0) (fun _ => 0) hU ?_)⟩))
    · show ¬ U 0 = 0
      rw [hU 0 (by decide)]
      decide
    · rw [ne_fd_n hxy _ pk_us]
      exact br_f (by decide) (br_t (by decide) ⟨sy_i4 (j := 0) (by decide), nm_e ⟨rfl, trivial⟩⟩)
  obtain ⟨u', va, h, _⟩ := mx_changeKey (S := fun r r' u' v' => r' = r ∧ i_R (8 + 4) u' v') (hc 8 u _ h1 (by decide) 0 y) (ne_cx hw hI) e1
  exact absurd h.1 (by decide))
theorem ne_ay {x y : Int32} (hxy : ¬ x = y) (C D U : Nat → Int32) (hU : ∀ s, s < 4 → U s = nI (sv_bt 1 s)) : wpY_addKey (fun r' v' => r' = nI 1 ∧ v' = (1, 1, 0, 0, 0, C, D, upd U 1 1, upd (upd (fun _ => 0) 0 x) 1 y, (fun _ => 0), (fun _ => 0))) (1, 1, 0, 0, 0, C, D, U, upd (fun _ => 0) 0 x, (fun _ => 0), (fun _ => 0)) y := by
  refine br_f (by decide) (sg_find _ y 1 1 1 0 0 0 C D U (upd (fun _ => 0) 0 x) (fun _ => 0) (fun _ => 0) hU ?_)
  rw [ne_fd_n hxy _ pk_us]
  refine br_t (by decide) ⟨2, sg_ak23 _ y 1 1 1 0 0 0 C D U (upd (fun _ => 0) 0 x) (fun _ => 0) (fun _ => 0) hU 1 (by decide) (by decide) ⟨rfl, rfl⟩ 1 0 rfl (fun r _ h => ?_)⟩
  have : r = 0 := by omega
  subst this
  decide
theorem need_p11 {i_R : Nat → SX → SY → Prop} (h0 : wpX_init (fun u => wpY_init (fun v => i_R 0 u v))) (hf : ro_format i_R) (hu : ro_unlock i_R) (hc : rc_addKey i_R) : ch_inj := ne_inj (fun x y hxy hw => by
  obtain ⟨u, C, D, U, h1, hU, hI⟩ := ne_x2 h0 hf hu x
  obtain ⟨u', va, h, _⟩ := mx_addKey (S := fun r r' u' v' => r' = r ∧ i_R (8 + 4) u' v') (hc 8 u _ h1 (by decide) y) (ne_ax hw hI) (ne_ay hxy C D U hU)
  exact absurd h.1 (by decide))
/-- then addKey(y): the reference has it in slot 1, the class has refused it -/
theorem ne_x3 {i_R : Nat → SX → SY → Prop} (h0 : wpX_init (fun u => wpY_init (fun v => i_R 0 u v))) (hf : ro_format i_R) (hu : ro_unlock i_R) (hk : ro_addKey i_R) {x y : Int32} (hxy : ¬ x = y) (hw : ∀ i, i < 8 → ch_P x 2 0 i = ch_P y 2 0 i) :
    ∃ (u : SX) (C D U : Nat → Int32), i_R 12 u (1, 1, 0, 0, 0, C, D, U, upd (upd (fun _ => 0) 0 x) 1 y, (fun _ => 0), (fun _ => 0)) ∧ (∀ s, s < 4 → U s = nI (sv_bt 3 s)) ∧ i_Rel 4 u (ne_w x) := by
  obtain ⟨u, C, D, U, h1, hU, hI⟩ := ne_x2 h0 hf hu x
  obtain ⟨u', va, h, rfl, h2⟩ := mx_addKey (S := fun _ _ u' v' => i_R (8 + 4) u' v') (hk 8 u _ h1 (by decide) y) (ne_ax hw hI) (ne_ay hxy C D U hU)
  refine ⟨u', C, D, upd U 1 1, h, fun s hs => ?_, h2⟩
  have h4 : s = 0 ∨ s = 1 ∨ s = 2 ∨ s = 3 := by omega
  rcases h4 with rfl | rfl | rfl | rfl
  · rw [pk_un (by decide), hU 0 (by decide)]; decide
  · rw [pk_us]; decide
  · rw [pk_un (by decide), hU 2 (by decide)]; decide
  · rw [pk_un (by decide), hU 3 (by decide)]; decide
theorem need_p14 {i_R : Nat → SX → SY → Prop} (h0 : wpX_init (fun u => wpY_init (fun v => i_R 0 u v))) (hf : ro_format i_R) (hu : ro_unlock i_R) (hk : ro_addKey i_R) (hc : rc_slots i_R) : ch_inj := ne_inj (fun x y hxy hw => by
  obtain ⟨u, C, D, U, h1, hU, hI⟩ := ne_x3 h0 hf hu hk hxy hw
  have e1 : wpY_slots (fun r' => r' = nI 3) (1, 1, 0, 0, 0, C, D, U, upd (upd (fun _ => 0) 0 x) 1 y, (fun _ => 0), (fun _ => 0)) := ⟨5, sg_sl4 (fun r' => r' = nI 3) 3 (by decide) 1 1 0 0 0 C D U (upd (upd (fun _ => 0) 0 x) 1 y) (fun _ => 0) (fun _ => 0) (by decide) hU rfl 4 0 rfl⟩
  have e2 : wpY_slots (fun r' => r' = nI 1) (ne_w x) := ⟨5, sg_sl4 (fun r' => r' = nI 1) 1 (by decide) 1 1 0 0 0 (fun _ => 0) (fun _ => 0) ne_U (fun _ => x) (fun _ => 0) (fun _ => 0) (by decide) ne_U_b rfl 4 0 rfl⟩
  have h := me_slots (S := fun r r' => r' = r ∧ i_R (12 + 4) u _) (hc 12 u _ h1 (by decide)) (j_vc_slots hI) e1 e2
  exact absurd h.1 (by decide))
theorem ev_remove_l (t : Nat) (ga gb gc gd ge : Int32) (bC bD bU bP bV bQ : Nat → Int32) (hb : ¬ gb = 0) (hU : ∀ s, s < 4 → bU s = nI (sv_bt t s)) (h1 : sv_bt t 0 = 1) (hp : sv_pop t = 1) : wpY_removeKey (fun r' v' => r' = -8 ∧ v' = (ga, gb, gc, gd, ge, bC, bD, bU, bP, bV, bQ)) (ga, gb, gc, gd, ge, bC, bD, bU, bP, bV, bQ) 0 := by
  unfold wpY_removeKey
  dsimp only
  refine pa_ySlot_g _ _ _ (sy_i4 (j := 0) (by decide)) (br_t rfl (br_f hb ⟨sy_i4 (j := 0) (by decide), br_f ?_ (sg_cs _ t ga gb gc gd ge bC bD bU bP bV bQ hU (br_t (by rw [hp]; rfl) ⟨rfl, rfl⟩))⟩))
  show ¬ bU 0 = 0
  rw [hU 0 (by decide), h1]
  decide
theorem ev_remove_s (t : Nat) (ht : t < 16) (ga gb gc gd ge : Int32) (bC bD bU bP bV bQ : Nat → Int32) (hb : ¬ gb = 0) (hU : ∀ s, s < 4 → bU s = nI (sv_bt t s)) (h1 : sv_bt t 0 = 1) (hp : ¬ nI (sv_pop t) = 1) : wpY_removeKey (fun r' v' => r' = nI (sv_pop (sv_clr t 0)) ∧ v' = (ga, gb, gc, gd, ge, bC, bD, upd bU 0 0, bP, bV, bQ)) (ga, gb, gc, gd, ge, bC, bD, bU, bP, bV, bQ) 0 := by
  unfold wpY_removeKey
  dsimp only
  refine pa_ySlot_g _ _ _ (sy_i4 (j := 0) (by decide)) (br_t rfl (br_f hb ⟨sy_i4 (j := 0) (by decide), br_f ?_ (sg_cs _ t ga gb gc gd ge bC bD bU bP bV bQ hU (br_f hp ⟨sy_i4 (j := 0) (by decide), ?_⟩))⟩))
  · show ¬ bU 0 = 0
    rw [hU 0 (by decide), h1]
    decide
  · rw [sy_n0]
    refine nm_e (sg_cs _ (sv_clr t 0) ga gb gc gd ge bC bD (upd bU 0 0) bP bV bQ (fun s hs => ?_) ⟨rfl, rfl⟩)
    rw [sv_clr_b 0 (by decide) t ht s hs]
    by_cases hs0 : s = 0
    · rw [if_pos hs0, hs0]; exact pk_us
    · rw [if_neg hs0, pk_un hs0]; exact hU s hs
theorem need_p12 {i_R : Nat → SX → SY → Prop} (h0 : wpX_init (fun u => wpY_init (fun v => i_R 0 u v))) (hf : ro_format i_R) (hu : ro_unlock i_R) (hk : ro_addKey i_R) (hc : rc_removeKey i_R) : ch_inj := ne_inj (fun x y hxy hw => by
  obtain ⟨u, C, D, U, h1, hU, hI⟩ := ne_x3 h0 hf hu hk hxy hw
  obtain ⟨u', va, vb, h, _⟩ := me_removeKey (S := fun r r' u' v' => r' = r ∧ i_R (12 + 4) u' v') (hc 12 u _ h1 (by decide) 0) (j_vc_removeKey hI 0) (ev_remove_s 3 (by decide) _ _ _ _ _ _ _ _ _ _ _ (by decide) hU (by decide) (by decide)) (ev_remove_l 1 _ _ _ _ _ _ _ _ _ _ _ (by decide) ne_U_b (by decide) (by decide))
  exact absurd h.1 (by decide))
theorem ev_save (t : Nat) (ga gb gc gd ge : Int32) (bC bD bU bP bV bQ : Nat → Int32) (ha : ¬ ga = 0) (hc : gc = 0) (hU : ∀ s, s < 4 → bU s = nI (sv_bt t s)) : wpY_saveSlots (fun r' v' => r' = nI (sv_pop t) ∧ ∃ V Q, (∀ s, s < 4 → V s = nI (sv_bt t s)) ∧ v' = (ga, gb, gc, 1, 0, bC, bD, bU, bP, V, Q)) (ga, gb, gc, gd, ge, bC, bD, bU, bP, bV, bQ) :=
  br_f ha (br_t (by rw [hc]; decide) ⟨5, sg_ss33 _ t ga gb gc 1 0 bC bD bU bP hU (fun bV' bQ' h1 h2 => ⟨rfl, bV', bQ', fun s hs => by rw [h1 s hs]; exact hU s hs, rfl⟩) 4 0 bV bQ rfl (fun s hs => absurd hs (by omega)) (fun s hs => absurd hs (by omega))⟩)
theorem ev_restore (t : Nat) (ga gb gc gd ge : Int32) (bC bD bU bP bV bQ : Nat → Int32) (ha : ¬ ga = 0) (hd : ¬ gd = 0) (he : ge = 0) (hc : gc = 0) (hV : ∀ s, s < 4 → bV s = nI (sv_bt t s)) : wpY_restoreSlots (fun r' v' => r' = nI (sv_pop t) ∧ True) (ga, gb, gc, gd, ge, bC, bD, bU, bP, bV, bQ) :=
  br_f ha (br_f hd (br_t he (br_t (by rw [hc]; decide) ⟨5, sg_rs36 _ t ga gb gc gd ge bC bD bV bQ hV (fun bU' bP' _ _ => ⟨rfl, trivial⟩) 4 0 bU bP rfl (fun s hs => absurd hs (by omega)) (fun s hs => absurd hs (by omega))⟩)))
theorem need_p18 {i_R : Nat → SX → SY → Prop} (h0 : wpX_init (fun u => wpY_init (fun v => i_R 0 u v))) (hf : ro_format i_R) (hu : ro_unlock i_R) (hk : ro_addKey i_R) (hc : rc_saveSlots i_R) : ch_inj := ne_inj (fun x y hxy hw => by
  obtain ⟨u, C, D, U, h1, hU, hI⟩ := ne_x3 h0 hf hu hk hxy hw
  obtain ⟨u', va, vb, h, _⟩ := me_saveSlots (S := fun r r' u' v' => r' = r ∧ i_R (12 + 4) u' v') (hc 12 u _ h1 (by decide)) (j_vc_saveSlots hI) (ev_save 3 _ _ _ _ _ _ _ _ _ _ _ (by decide) rfl hU) (ev_save 1 _ _ _ _ _ _ _ _ _ _ _ (by decide) rfl ne_U_b)
  exact absurd h.1 (by decide))
theorem need_p19 {i_R : Nat → SX → SY → Prop} (h0 : wpX_init (fun u => wpY_init (fun v => i_R 0 u v))) (hf : ro_format i_R) (hu : ro_unlock i_R) (hk : ro_addKey i_R) (hs : ro_saveSlots i_R) (hc : rc_restoreSlots i_R) : ch_inj := ne_inj (fun x y hxy hw => by
  obtain ⟨u, C, D, U, h1, hU, hI⟩ := ne_x3 h0 hf hu hk hxy hw
  obtain ⟨u', va, vb, h, ⟨V, Q, hV, rfl⟩, ⟨V2, Q2, hV2, rfl⟩, hI2⟩ := me_saveSlots (S := fun _ _ u' v' => i_R (12 + 4) u' v') (hs 12 u _ h1 (by decide)) (j_vc_saveSlots hI) (ev_save 3 _ _ _ _ _ _ _ _ _ _ _ (by decide) rfl hU) (ev_save 1 _ _ _ _ _ _ _ _ _ _ _ (by decide) rfl ne_U_b)
  obtain ⟨u'', va, vb, h2, _⟩ := me_restoreSlots (S := fun r r' u' v' => r' = r ∧ i_R (16 + 4) u' v') (FA := fun _ => True) (FB := fun _ => True) (hc 16 u' _ h (by decide)) (j_vc_restoreSlots hI2) (ev_restore 3 _ _ _ _ _ _ _ _ _ _ _ (by decide) (by decide) rfl rfl hV) (ev_restore 1 _ _ _ _ _ _ _ _ _ _ _ (by decide) (by decide) rfl rfl hV2)
  exact absurd h2.1 (by decide))
/-- then removeKey(0), lock(), unlock(x), write(0, 0, 7): the class has it, the reference is locked -/
theorem ne_x7 {i_R : Nat → SX → SY → Prop} (h0 : wpX_init (fun u => wpY_init (fun v => i_R 0 u v))) (hf : ro_format i_R) (hu : ro_unlock i_R) (hk : ro_addKey i_R) (hr : ro_removeKey i_R) (hl : ro_lock i_R) (hwr : ro_write i_R) {x y : Int32} (hxy : ¬ x = y) (hw : ∀ i, i < 8 → ch_P x 2 0 i = ch_P y 2 0 i) :
    ∃ (u : SX) (C D U P : Nat → Int32), i_R 28 u (1, 0, 0, 0, 0, C, D, U, P, (fun _ => 0), (fun _ => 0)) ∧ i_Rel 20 u (1, 1, 0, 0, 0, upd (fun _ => 0) 0 7, (fun _ => 0), ne_U, (fun _ => x), (fun _ => 0), (fun _ => 0)) := by
  obtain ⟨u, C, D, U, h1, hU, hI⟩ := ne_x3 h0 hf hu hk hxy hw
  obtain ⟨u1, va, vb, h2, rfl, rfl, hI1⟩ := me_removeKey (S := fun _ _ u' v' => i_R (12 + 4) u' v') (hr 12 u _ h1 (by decide) 0) (j_vc_removeKey hI 0) (ev_remove_s 3 (by decide) _ _ _ _ _ _ _ _ _ _ _ (by decide) hU (by decide) (by decide)) (ev_remove_l 1 _ _ _ _ _ _ _ _ _ _ _ (by decide) ne_U_b (by decide) (by decide))
  obtain ⟨u2, va, vb, h3, rfl, rfl, hI2⟩ := me_lock (S := fun _ _ u' v' => i_R (16 + 4) u' v') (ca := 1) (cb := 1) (FA := fun v' => v' = (1, 0, 0, 0, 0, C, D, upd U 0 0, upd (upd (fun _ => 0) 0 x) 1 y, (fun _ => 0), (fun _ => 0))) (FB := fun v' => v' = ne_v x (fun _ => 0)) (hl 16 u1 _ h2 (by decide)) (j_vc_lock hI1) (br_f (by decide) (br_f (by decide) ⟨rfl, rfl⟩)) (br_f (by decide) (br_f (by decide) ⟨rfl, rfl⟩))
  have hU2 : ∀ s, s < 4 → upd U 0 0 s = nI (sv_bt 2 s) := fun s hs => by
    have h4 : s = 0 ∨ s = 1 ∨ s = 2 ∨ s = 3 := by omega
    rcases h4 with rfl | rfl | rfl | rfl
    · rw [pk_us]; decide
    · rw [pk_un (by decide), hU 1 (by decide)]; decide
    · rw [pk_un (by decide), hU 2 (by decide)]; decide
    · rw [pk_un (by decide), hU 3 (by decide)]; decide
  have hfd : sl_fd 2 (upd (upd (fun _ => 0) 0 x) 1 y) x 4 0 = -1 := by
    rcases sl_fd_p 2 (upd (upd (fun _ => 0) 0 x) 1 y) x 4 0 with ⟨e, _⟩ | ⟨s, _, hs, _, hb, hp⟩
    · exact e
    · have h4 : s = 0 ∨ s = 1 ∨ s = 2 ∨ s = 3 := by omega
      rcases h4 with rfl | rfl | rfl | rfl
      · exact absurd hb (by decide)
      · rw [pk_us] at hp
        exact absurd hp.symm hxy
      · exact absurd hb (by decide)
      · exact absurd hb (by decide)
  obtain ⟨u3, va, vb, h4, rfl, rfl, hI3⟩ := me_unlock (S := fun _ _ u' v' => i_R (20 + 4) u' v') (hu 20 u2 _ h3 (by decide) x) (j_vc_unlock hI2 x (ne_loc x _)) (ev_unlock_n 2 x _ _ _ _ _ _ _ _ _ _ _ (by decide) rfl hU2 hfd) (ev_unlock_s 1 x _ _ _ _ _ _ _ _ _ _ _ (by decide) rfl ne_U_b (ne_fd_s x _ rfl))
  obtain ⟨u4, va, vb, h5, rfl, rfl, hI4⟩ := me_write (S := fun _ _ u' v' => i_R (24 + 4) u' v') (hwr 24 u3 _ h4 (by decide) 0 0 7) (j_vc_write hI3 0 0 7) (ev_write_l 0 0 7 _ _ _ _ _ _ _ _ _ _ _ rfl (sv_i12 (j := 0) (by decide)) (sv_i8 (j := 0) (by decide))) (ev_write_o 7 _ _ _ _ _ _ _ _ _ _ _ (by decide) rfl)
  exact ⟨u4, C, D, upd U 0 0, upd (upd (fun _ => 0) 0 x) 1 y, h5, hI4⟩
theorem need_p6 {i_R : Nat → SX → SY → Prop} (h0 : wpX_init (fun u => wpY_init (fun v => i_R 0 u v))) (hf : ro_format i_R) (hu : ro_unlock i_R) (hk : ro_addKey i_R) (hr : ro_removeKey i_R) (hl : ro_lock i_R) (hwr : ro_write i_R) (hc : rc_read i_R) : ch_inj := ne_inj (fun x y hxy hw => by
  obtain ⟨u, C, D, U, P, h1, hI⟩ := ne_x7 h0 hf hu hk hr hl hwr hxy hw
  have e1 : wpY_read (fun r' => r' = 0) (1, 0, 0, 0, 0, C, D, U, P, (fun _ => 0), (fun _ => 0)) 0 0 := sg_read_b _ 0 0 1 0 0 0 0 C D U P (fun _ => 0) (fun _ => 0) (Or.inr (Or.inr rfl)) rfl
  have e2 : wpY_read (fun r' => r' = 7) (1, 1, 0, 0, 0, upd (fun _ => 0) 0 7, (fun _ => 0), ne_U, (fun _ => x), (fun _ => 0), (fun _ => 0)) 0 0 := sg_read _ 0 0 (by decide) (by decide) 1 1 0 0 0 (upd (fun _ => 0) 0 7) (fun _ => 0) ne_U (fun _ => x) (fun _ => 0) (fun _ => 0) (by decide) (fun _ => pk_us) (fun z => absurd rfl z)
  obtain ⟨u', h, _⟩ := me_read (S := fun r r' u' => r' = r ∧ i_R (28 + 4) u' _) (hc 28 u _ h1 (by decide) 0 0) (j_vc_read hI 0 0) e1 e2
  exact absurd h.1 (by decide))
theorem ne_dg : ∀ n : Nat, rl_dg (upd (fun _ => 0) 0 7) (fun _ => 0) (n + 1) = 7
  | 0 => by
    show 0 + (nI 0 + 1) * (if (0 : Int32) = 0 then upd (fun _ => 0) 0 7 0 else 0) = 7
    rw [if_pos rfl, pk_us]
    decide
  | n + 1 => by
    show rl_dg (upd (fun _ => 0) 0 7) (fun _ => 0) (n + 1) + (nI (n + 1) + 1) * (if (0 : Int32) = 0 then upd (fun _ => 0) 0 7 (n + 1) else 0) = 7
    rw [ne_dg n, if_pos rfl, pk_un (by omega), Int32.mul_zero, Int32.add_zero]
theorem need_p10 {i_R : Nat → SX → SY → Prop} (h0 : wpX_init (fun u => wpY_init (fun v => i_R 0 u v))) (hf : ro_format i_R) (hu : ro_unlock i_R) (hk : ro_addKey i_R) (hr : ro_removeKey i_R) (hl : ro_lock i_R) (hwr : ro_write i_R) (hc : rc_digest i_R) : ch_inj := ne_inj (fun x y hxy hw => by
  obtain ⟨u, C, D, U, P, h1, hI⟩ := ne_x7 h0 hf hu hk hr hl hwr hxy hw
  have e1 : wpY_digest (fun r' => r' = 0) (1, 0, 0, 0, 0, C, D, U, P, (fun _ => 0), (fun _ => 0)) := ⟨97, sg_di4z (fun r' => r' = 0) 1 0 0 0 0 C D U P (fun _ => 0) (fun _ => 0) rfl rfl 96 0 rfl⟩
  have e2 : wpY_digest (fun r' => r' = 7) (1, 1, 0, 0, 0, upd (fun _ => 0) 0 7, (fun _ => 0), ne_U, (fun _ => x), (fun _ => 0), (fun _ => 0)) := ⟨97, sg_di4 (fun r' => r' = 7) 1 1 0 0 0 (upd (fun _ => 0) 0 7) (fun _ => 0) ne_U (fun _ => x) (fun _ => 0) (fun _ => 0) (by decide) (ne_dg 95) 96 0 rfl⟩
  obtain ⟨u', h, _⟩ := me_digest (S := fun r r' u' => r' = r ∧ i_R (28 + 4) u' _) (hc 28 u _ h1 (by decide)) (j_vc_digest hI) e1 e2
  exact absurd h.1 (by decide))
