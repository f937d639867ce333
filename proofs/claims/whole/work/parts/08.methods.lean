theorem sv_nm1 {s : Nat} (h : s < 4) : ¬ nI s = -1 := by
  have h4 : s = 0 ∨ s = 1 ∨ s = 2 ∨ s = 3 := by omega
  rcases h4 with rfl | rfl | rfl | rfl <;> decide
theorem sv_ge0 {s : Nat} (h : s < 4) : 0 ≤ nI s := nI_pos' (by omega)
theorem rl_dm {ky K E V C B : Nat → Int32} (h : rl_sc ky K E V C B) (i : Nat) (hi : i < 12) : K (ch_row i (E i) + 8) = ch_sm K (ch_row i (E i)) 8 ↔ B i = 0 := by
  obtain ⟨h1, h2⟩ := h i hi
  by_cases z : B i = 0
  · exact ⟨fun _ => z, fun _ => (h1 z).1⟩
  · exact ⟨fun k => absurd k (h2 z), fun k => absurd k z⟩
def rl_m (fa fc fd fg gc : Int32) (aE : Nat → Int32) : Prop := ∃ m : Nat, rl_ep m fg aE ∧ gc = nI (12 - m) ∧ (¬ fc = 0 → m < 12 → ¬ fd = 0) ∧ (fa = 0 → m = 12)
theorem rl_op {fa fb fc fd fe ff fg fh : Int32} {aK aE aV aS aC aY aT : Nat → Int32} {gc : Int32} {bC bD bU bP bV bQ : Nat → Int32} (h : rl fa fb fc fd fe ff fg fh aK aE aV aS aC aY aT gc bC bD bU bP bV bQ) (hb : ¬ fb = 0) :
    ch_tl 16 aT ∧ ¬ fa = 0 ∧ ch_tl 8 aY ∧ rl_m fa fc fd fg gc aE ∧ ∃ t : Nat, t < 16 ∧ t ≠ 0 ∧ fe = nI t ∧ sl_ok t fh aY aS bU bP ∧ rl_sc aY aK aE aV bC bD ∧ (¬ fc = 0 → ∃ t' : Nat, t' < 16 ∧ t' ≠ 0 ∧ ff = nI t' ∧ sl_ok t' fh aY aC bV bQ) := by
  obtain ⟨hT, h0, hm, ky, t, hky, hY0, hY1, ht, hfe, ht0, hpr, hcp⟩ := h
  have ha : ¬ fa = 0 := fun z => hb (h0 z).1
  rw [hY1 hb]
  exact ⟨hT, ha, hky, hm, t, ht, (hpr ha).1, hfe, (hpr ha).2.1, (hpr ha).2.2, hcp⟩
theorem rl_po {fa fb fc fd ff fg fh : Int32} {aK aE aV aS aC aY aT : Nat → Int32} {gc : Int32} {bC bD bU bP bV bQ : Nat → Int32} (hb : ¬ fb = 0) (ha : ¬ fa = 0) (hT : ch_tl 16 aT) (hY : ch_tl 8 aY) (hm : rl_m fa fc fd fg gc aE)
    (t : Nat) (ht : t < 16) (ht0 : t ≠ 0) (hS : sl_ok t fh aY aS bU bP) (hC : rl_sc aY aK aE aV bC bD) (hcp : ¬ fc = 0 → ∃ t' : Nat, t' < 16 ∧ t' ≠ 0 ∧ ff = nI t' ∧ sl_ok t' fh aY aC bV bQ) : rl fa fb fc fd (nI t) ff fg fh aK aE aV aS aC aY aT gc bC bD bU bP bV bQ :=
  ⟨hT, fun z => absurd z ha, hm, aY, t, hY, fun z => absurd z hb, fun _ => rfl, ht, rfl, fun z => absurd z ha, fun _ => ⟨ht0, hS, hC⟩, hcp⟩
/-- the same of a state of the reference -/
def yv_loc (v : SY) (x : Int32) : Prop := match v with
  | (ga, gb, gc, gd, ge, bC, bD, bU, bP, bV, bQ) => ∀ s, s < 4 → ¬ bU s = 0 → (∀ i, i < 8 → ch_P (bP s) 2 0 i = ch_P x 2 0 i) → bP s = x
theorem yl_loc {t : Nat} {ga gb gc gd ge : Int32} {bC bD bU bP bV bQ : Nat → Int32} {x : Int32} (h : yv_loc (ga, gb, gc, gd, ge, bC, bD, bU, bP, bV, bQ) x) (hU : ∀ s, s < 4 → bU s = nI (sv_bt t s)) : ch_loc t bP x := fun s hs hb hw => h s hs (by rw [hU s hs, hb]; decide) hw
theorem yv_inj (h : ch_inj) (v : SY) (x : Int32) : yv_loc v x := by
  obtain ⟨ga, gb, gc, gd, ge, bC, bD, bU, bP, bV, bQ⟩ := v
  exact fun s _ _ hw => h _ _ hw
theorem j_up {k : Nat} {u : SX} {v : SY} (h : i_Rel k u v) : i_Rel (k + 4) u v := h
theorem j_vc0 : wpX_init (fun u => wpY_init (fun v => i_Rel 0 u v)) :=
  rl_mk (k := 0) (aW := fun _ => 0) ⟨ch_tl_0 16, fun _ => ⟨rfl, rfl⟩, ⟨12, ⟨by decide, fun _ _ => rfl, fun i a b => absurd b (by omega)⟩, rfl, fun z => absurd rfl z, fun _ => rfl⟩, (fun _ => 0), 0, ch_tl_0 8, fun _ => rfl, fun z => absurd rfl z, by decide, rfl, fun _ => rfl, fun z => absurd rfl z, fun z => absurd rfl z⟩
theorem j_vc_format {k : Nat} {u : SX} {v : SY} (I : i_Rel k u v) (v1 : Int32) : wpX_format (fun r u' => wpY_format (fun r' v' => r' = r ∧ i_Rel (k + 4) u' v') v v1) u v1 := by
  obtain ⟨fa, fb, fc, fd, fe, ff, fg, fh, aK, aE, aV, aS, aC, aY, aD, aT, aW⟩ := u
  obtain ⟨gc, bC, bD, bU, bP, bV, bQ, rfl, rfl, R⟩ := I
  have hY := rl_Y R
  obtain ⟨hT, h0, hm, ky, t, hky, hY0, hY1, ht, rfl, ht0, hpr, hcp⟩ := R
  refine nm_e (sf_makeKey _ 1 0 0 fd (nI t) ff fg (fh + 1) aK aE aV aS aC aY aT aW v1 hT hY ?_)
  refine sf_eraseSectors _ 1 0 0 fd (nI t) ff fg (fh + 1) aK aE aV aS aC (ch_key v1 (fh + 1)) (ch_P v1 1 (fh + 1)) aW (ch_tl_P _ _ _) (fun aK' aE' aT' aW' hT' hE => ?_)
  refine sf_eraseSlots _ t ht 1 0 0 fd ff 0 (fh + 1) aK' aE' aV aS aC (ch_key v1 (fh + 1)) (fun _ => 0) aT' aW' (fun aS1 aC' => ?_)
  refine sf_putSlot _ 0 (by decide) v1 1 0 0 fd 0 ff 0 (fh + 1) aK' aE' aV aS1 aC' (ch_key v1 (fh + 1)) aT' aW' hT' (fun aS' hf h1 h2 => ?_)
  refine sf_forget _ 1 0 0 fd (0 ||| ((1 : Int32) <<< (nI 0 &&& 31))) ff 0 (fh + 1) aK' aE' aV aS' aC' (ch_key v1 (fh + 1)) (fun _ => 0) (ch_P v1 3 (fh + 1)) aW' (ch_tl_P _ _ _) (ch_tl_k _ _) (fun aW2 => ?_)
  refine sg_format _ v1 fa fb gc fc fd bC bD bU bP bV bQ (fun bC' bD' bU' hC hD hU => ⟨rfl, rl_mk ?_⟩)
  refine ⟨ch_tl_0 16, fun z => absurd z (by decide), ⟨12, ⟨by decide, fun i hi => (hE i hi).1, fun i a b => absurd b (by omega)⟩, rfl, fun z => absurd rfl z, fun _ => rfl⟩, ch_key v1 (fh + 1), 1, ch_tl_k _ _, fun _ => rfl, fun z => absurd rfl z, by decide, by decide +kernel, fun z => absurd z (by decide), fun _ => ⟨by decide, ?_, ?_⟩, fun z => absurd rfl z⟩
  · intro s hs
    by_cases hs0 : s = 0
    · subst hs0
      rw [pk_us]
      exact ⟨(hU 0 (by decide)).trans (by decide), fun _ => ⟨h1, h2⟩⟩
    · rw [pk_un hs0, hU s hs, if_neg hs0]
      have hb : sv_bt 1 s = 0 := by
        have h4 : s = 1 ∨ s = 2 ∨ s = 3 := by omega
        rcases h4 with rfl | rfl | rfl <;> decide
      rw [hb]
      exact ⟨rfl, fun z => absurd z (by decide)⟩
  · intro i hi
    refine ⟨fun _ => ?_, fun z => absurd (hD i hi) z⟩
    rw [(hE i hi).1]
    exact ch_ok_C (fun c hc => hC _ (by omega)) (hE i hi).2
theorem j_vc_unlock {k : Nat} {u : SX} {v : SY} (I : i_Rel k u v) (v1 : Int32) (hin : yv_loc v v1) : wpX_unlock (fun r u' => wpY_unlock (fun r' v' => r' = r ∧ i_Rel (k + 4) u' v') v v1) u v1 := by
  obtain ⟨fa, fb, fc, fd, fe, ff, fg, fh, aK, aE, aV, aS, aC, aY, aD, aT, aW⟩ := u
  obtain ⟨gc, bC, bD, bU, bP, bV, bQ, rfl, rfl, R⟩ := I
  refine br_c (fun ha => br_t ha ⟨rfl, rl_mk R⟩) (fun ha => br_c (fun hb => ?_) (fun hb => br_f ha (br_f hb ⟨rfl, rl_mk R⟩)))
  subst hb
  have hY := rl_Y R
  have RL := rl_L R (ch_tl_0 16)
  obtain ⟨hT, h0, hm, ky, t, hky, hY0, hY1, ht, rfl, ht0, hpr, hcp⟩ := R
  obtain ⟨htn, hS, hC⟩ := hpr ha
  refine sf_findSlot _ v1 t ht fa 0 fc fd ff fg fh aK aE aV aS aC aY aT aW ky bU bP (yl_loc hin (fun s hs => (hS s hs).1)) hS hT ?_
  rcases sl_fd_p t bP v1 4 0 with ⟨e, hno⟩ | ⟨s, _, hs, e, hbt, hps⟩
  · rw [e]
    refine br_t rfl (sf_forget _ fa 0 fc fd (nI t) ff fg fh aK aE aV aS aC aY (fun _ => 0) (ch_P v1 2 0) aW (ch_tl_P _ _ _) hY (fun aW' => ?_))
    refine br_f ha (br_t rfl (sg_find _ v1 t fa 0 gc fc fd bC bD bU bP bV bQ (fun s hs => (hS s hs).1) ?_))
    rw [e]
    exact br_f (by decide) ⟨rfl, rl_mk RL⟩
  · rw [e]
    refine br_f (sv_nm1 (by omega)) (sf_unwrap _ s (by omega) v1 fa 0 fc fd (nI t) ff fg fh aK aE aV aS aC aY (ch_P v1 2 0) aW ky (ch_tl_P _ _ _) hY hky (fun i hi => by rw [← hps]; exact ((hS s (by omega)).2 hbt).2 i hi) ?_)
    refine br_f ha (br_t rfl (sg_find _ v1 t fa 0 gc fc fd bC bD bU bP bV bQ (fun s hs => (hS s hs).1) ?_))
    rw [e]
    exact br_t (sv_ge0 (by omega)) ⟨rfl, rl_mk (rl_po (by decide) ha (ch_tl_P _ _ _) hky hm t ht htn hS hC hcp)⟩
theorem j_vc_lock {k : Nat} {u : SX} {v : SY} (I : i_Rel k u v) : wpX_lock (fun r u' => wpY_lock (fun r' v' => r' = r ∧ i_Rel (k + 4) u' v') v) u := by
  obtain ⟨fa, fb, fc, fd, fe, ff, fg, fh, aK, aE, aV, aS, aC, aY, aD, aT, aW⟩ := u
  obtain ⟨gc, bC, bD, bU, bP, bV, bQ, rfl, rfl, R⟩ := I
  have hY := rl_Y R
  have hT := R.1
  have RL := rl_L R (ch_tl_0 16)
  refine br_c (fun ha => br_t ha ⟨rfl, rl_mk R⟩) (fun ha => br_c (fun hb => ?_) (fun hb => ?_))
  · exact sf_close _ fa fb fc fd fe ff fg fh aK aE aV aS aC aY (fun _ => 0) aT aW hT hY (fun aW' => br_f ha (br_t hb ⟨rfl, rl_mk RL⟩))
  · exact sf_close _ fa fb fc fd fe ff fg fh aK aE aV aS aC aY (fun _ => 0) aT aW hT hY (fun aW' => br_f ha (br_f hb ⟨rfl, rl_mk RL⟩))
theorem j_vc_state {k : Nat} {u : SX} {v : SY} (I : i_Rel k u v) : wpX_state (fun r => wpY_state (fun r' => r' = r ∧ i_Rel (k + 4) u v) v) u := by
  obtain ⟨fa, fb, fc, fd, fe, ff, fg, fh, aK, aE, aV, aS, aC, aY, aD, aT, aW⟩ := u
  obtain ⟨gc, bC, bD, bU, bP, bV, bQ, rfl, rfl, R⟩ := I
  exact br_c (fun ha => br_t ha ⟨rfl, rl_mk R⟩) (fun ha => br_c (fun hb => br_f ha (br_t hb ⟨rfl, rl_mk R⟩)) (fun hb => br_f ha (br_f hb ⟨rfl, rl_mk R⟩)))
theorem sg_read_b (post : Int32 → Prop) (x y : Int32) (ga gb gc gd ge : Int32) (bC bD bU bP bV bQ : Nat → Int32) (h : ¬ vp_in x 12 ∨ ¬ vp_in y 8 ∨ gb = 0) (hp : post 0) : wpY_read post (ga, gb, gc, gd, ge, bC, bD, bU, bP, bV, bQ) x y := by
  unfold wpY_read
  dsimp only
  by_cases hx : vp_in x 12
  · refine pa_ySector_g _ _ _ hx (br_t rfl ?_)
    by_cases hy : vp_in y 8
    · refine pa_yCell_g _ _ _ hy (br_t rfl (br_t ?_ hp))
      rcases h with h | h | h
      · exact absurd hx h
      · exact absurd hy h
      · exact h
    · exact pa_yCell_b _ _ _ hy (br_f (by decide) hp)
  · exact pa_ySector_b _ _ _ hx (br_f (by decide) hp)
theorem sg_read (post : Int32 → Prop) (i c : Nat) (hi : i < 12) (hc : c < 8) (ga gb gc gd ge : Int32) (bC bD bU bP bV bQ : Nat → Int32) (hb : ¬ gb = 0) (h0 : bD i = 0 → post (bC (8 * i + c))) (h1 : ¬ bD i = 0 → post 0) : wpY_read post (ga, gb, gc, gd, ge, bC, bD, bU, bP, bV, bQ) (nI i) (nI c) := by
  have hci : (nI i).toNatClampNeg = i := nI_clamp (by omega)
  unfold wpY_read
  dsimp only
  refine pa_ySector_g _ _ _ (sv_i12 hi) (br_t rfl (pa_yCell_g _ _ _ (sv_i8 hc) (br_t rfl (br_f hb ⟨sv_i12 hi, ?_⟩))))
  rw [hci, sy_c96 hi hc]
  exact br_c (fun z => ⟨sy_i96 hi hc, h0 z⟩) h1
theorem j_vc_read {k : Nat} {u : SX} {v : SY} (I : i_Rel k u v) (v1 : Int32) (v2 : Int32) : wpX_read (fun r u' => wpY_read (fun r' => r' = r ∧ i_Rel (k + 4) u' v) v v1 v2) u v1 v2 := by
  obtain ⟨fa, fb, fc, fd, fe, ff, fg, fh, aK, aE, aV, aS, aC, aY, aD, aT, aW⟩ := u
  obtain ⟨gc, bC, bD, bU, bP, bV, bQ, rfl, rfl, R⟩ := I
  unfold wpX_read
  dsimp only
  by_cases hx : vp_in v1 12
  · refine pa_xSector_g _ _ _ hx (br_f (by decide) ?_)
    by_cases hy : vp_in v2 8
    · refine pa_xCell_g _ _ _ hy (br_f (by decide) (br_c (fun hb => sg_read_b _ _ _ _ _ _ _ _ _ _ _ _ _ _ (Or.inr (Or.inr hb)) ⟨rfl, rl_mk R⟩) (fun hb => ?_)))
      obtain ⟨i, hi, rfl⟩ := vp_in_of hx (by decide)
      obtain ⟨c, hc, rfl⟩ := vp_in_of hy (by decide)
      obtain ⟨hT, ha, hY, hm, t, ht, ht0, rfl, hS, hC, hcp⟩ := rl_op R hb
      have hd := rl_dm hC i hi
      refine sf_isDamaged _ i hi fa fb fc fd (nI t) ff fg fh aK aE aV aS aC aY (fun _ => 0) aT aW (fun z => br_t rfl (sf_unseal _ i hi fa fb fc fd (nI t) ff fg fh aK aE aV aS aC aY aT aW hT ⟨sv_i9 (by omega), ?_⟩)) (fun z => br_f (by decide) ?_)
      · refine sg_read _ i c hi hc _ _ _ _ _ _ _ _ _ _ _ hb (fun y => ⟨?_, rl_mk (rl_po hb ha (ch_tl_S _ _ _ _) hY hm t ht ht0 hS hC hcp)⟩) (fun y => absurd (hd.mp z) y)
        rw [nI_clamp (n := c) (by omega)]
        show _ = (if c < 8 then _ else _)
        rw [if_pos hc]
        exact (((hC i hi).1 y).2 c hc).symm
      · exact sg_read _ i c hi hc _ _ _ _ _ _ _ _ _ _ _ hb (fun y => absurd (hd.mpr y) z) (fun y => ⟨rfl, rl_mk R⟩)
    · exact pa_xCell_b _ _ _ hy (br_t rfl (sg_read_b _ _ _ _ _ _ _ _ _ _ _ _ _ _ (Or.inr (Or.inl hy)) ⟨rfl, rl_mk R⟩))
  · exact pa_xSector_b _ _ _ hx (br_t rfl (sg_read_b _ _ _ _ _ _ _ _ _ _ _ _ _ _ (Or.inl hx) ⟨rfl, rl_mk R⟩))
theorem j_vc_write {k : Nat} {u : SX} {v : SY} (I : i_Rel k u v) (v1 : Int32) (v2 : Int32) (v3 : Int32) : wpX_write (fun r u' => wpY_write (fun r' v' => r' = r ∧ i_Rel (k + 4) u' v') v v1 v2 v3) u v1 v2 v3 := by
  obtain ⟨fa, fb, fc, fd, fe, ff, fg, fh, aK, aE, aV, aS, aC, aY, aD, aT, aW⟩ := u
  obtain ⟨gc, bC, bD, bU, bP, bV, bQ, rfl, rfl, R⟩ := I
  unfold wpX_write
  dsimp only
  unfold wpY_write
  dsimp only
  by_cases hx : vp_in v1 12
  · refine pa_xSector_g _ _ _ hx (br_f (by decide) ?_)
    by_cases hy : vp_in v2 8
    · refine pa_xCell_g _ _ _ hy (br_f (by decide) (br_c (fun hb => pa_ySector_g _ _ _ hx (br_t rfl (pa_yCell_g _ _ _ hy (br_t rfl (br_t hb ⟨rfl, rl_mk R⟩))))) (fun hb => ?_)))
      obtain ⟨i, hi, rfl⟩ := vp_in_of hx (by decide)
      obtain ⟨c, hc, rfl⟩ := vp_in_of hy (by decide)
      obtain ⟨hT, ha, hY, hm, t, ht, ht0, rfl, hS, hC, hcp⟩ := rl_op R hb
      have hd := rl_dm hC i hi
      have hci : (nI i).toNatClampNeg = i := nI_clamp (by omega)
      refine sf_isDamaged _ i hi fa fb fc fd (nI t) ff fg fh aK aE aV aS aC aY (fun _ => 0) aT aW (fun z => br_t rfl (sf_unseal _ i hi fa fb fc fd (nI t) ff fg fh aK aE aV aS aC aY aT aW hT ⟨sv_i9 (by omega), nm_e ?_⟩)) (fun z => br_f (by decide) ?_)
      · refine sf_keepNew _ i hi fa fb fc fd (nI t) ff fg fh aK aE aV aS aC aY (ch_S aY (nI i) (aE i) (aV i)) (upd (ch_un aK aW (ch_S aY (nI i) (aE i) (aV i)) (ch_row i (aE i))) (nI c).toNatClampNeg v3) (ch_tl_S _ _ _ _) (fun aW' => ?_)
        refine pa_ySector_g _ _ _ hx (br_t rfl (pa_yCell_g _ _ _ hy (br_t rfl (br_f hb ⟨hx, ?_⟩))))
        rw [hci, sy_c96 hi hc, nI_clamp (n := c) (by omega)]
        refine br_t (hd.mp z) ⟨sy_i96 hi hc, nm_e ⟨rfl, rl_mk (rl_po hb ha (ch_tl_S _ _ _ _) hY hm t ht ht0 hS ?_ hcp)⟩⟩
        refine rl_sc_w hC i hi _ _ _ (fun q hq => ?_) (fun j hj q hq => pk_un (by omega)) (hd.mp z) (fun _ _ => rfl)
        by_cases hqc : q = c
        · subst hqc
          rw [pk_us, pk_us]
        · rw [pk_un (by omega), pk_un hqc]
          show _ = (if q < 8 then _ else _)
          rw [if_pos hq]
          exact (((hC i hi).1 (hd.mp z)).2 q hq).symm
      · refine pa_ySector_g _ _ _ hx (br_t rfl (pa_yCell_g _ _ _ hy (br_t rfl (br_f hb ⟨hx, ?_⟩))))
        rw [hci]
        exact br_f (fun y => z (hd.mpr y)) ⟨rfl, rl_mk R⟩
    · exact pa_xCell_b _ _ _ hy (br_t rfl (pa_ySector_g _ _ _ hx (br_t rfl (pa_yCell_b _ _ _ hy (br_f (by decide) ⟨rfl, rl_mk R⟩)))))
  · exact pa_xSector_b _ _ _ hx (br_t rfl (pa_ySector_b _ _ _ hx (br_f (by decide) ⟨rfl, rl_mk R⟩)))
theorem sf_fl38 (post : Int32 → SX → Prop) (i : Nat) (hi : i < 12) (x2 x3 x4 : Int32) (fa fb fc fd fe ff fg fh : Int32) (aK aE aV aS aC aY aT aW : Nat → Int32) (hT : ch_tl 16 aT)
    (hp : ∀ aW' : Nat → Int32, post x4 (fa, fb, fc, fd, fe, ff, fg, fh, ch_kw aK (ch_sl (fun q => if q < 8 then x2 + nI q * x3 else aW q) (ch_S aY (nI i) (aE i) (aV i + 1))) (ch_row i (aE i)) 9, aE, upd aV i (aV i + 1), aS, aC, aY, (fun _ => 0), ch_S aY (nI i) (aE i) (aV i + 1), aW')) :
    ∀ (d j : Nat), j + d = 8 → wX_fill_38 post (nI i) x2 x3 x4 fa fb fc fd fe ff fg fh (d + 1) (nI j) aK aE aV aS aC aY (fun _ => 0) aT (fun q => if q < j then x2 + nI q * x3 else aW q) := by
  intro d
  induction d with
  | zero =>
    intro j hj
    have e : j = 8 := by omega
    subst e
    exact br_t (sv_ge 8 (by omega) (by omega)) (sf_keepNew _ i hi fa fb fc fd fe ff fg fh aK aE aV aS aC aY aT (fun q => if q < 8 then x2 + nI q * x3 else aW q) hT hp)
  | succ d ih =>
    intro j hj
    have hc : (nI j).toNatClampNeg = j := nI_clamp (by omega)
    refine br_f (sv_ng 8 (by omega) (by decide)) ⟨sv_i9 (by omega), nm_r ?_ (nm_r (nI_1 j) (ih (j + 1) (by omega)))⟩
    rw [hc]
    exact ch_ui (fun q => x2 + nI q * x3) aW j _ rfl
theorem sf_fill8 (post : Int32 → SX → Prop) (i : Nat) (hi : i < 12) (x2 x3 x4 : Int32) (fa fb fc fd fe ff fg fh : Int32) (aK aE aV aS aC aY aT aW : Nat → Int32) (hT : ch_tl 16 aT)
    (hp : ∀ aW' : Nat → Int32, post x4 (fa, fb, fc, fd, fe, ff, fg, fh, ch_kw aK (ch_sl (fun q => if q < 8 then x2 + nI q * x3 else aW q) (ch_S aY (nI i) (aE i) (aV i + 1))) (ch_row i (aE i)) 9, aE, upd aV i (aV i + 1), aS, aC, aY, (fun _ => 0), ch_S aY (nI i) (aE i) (aV i + 1), aW')) :
    ∃ n : Nat, wX_fill_38 post (nI i) x2 x3 x4 fa fb fc fd fe ff fg fh n 0 aK aE aV aS aC aY (fun _ => 0) aT aW := by
  have h := sf_fl38 post i hi x2 x3 x4 fa fb fc fd fe ff fg fh aK aE aV aS aC aY aT aW hT hp 8 0 rfl
  rw [ch_j0] at h
  exact ⟨9, h⟩
theorem j_vc_fill {k : Nat} {u : SX} {v : SY} (I : i_Rel k u v) (v1 : Int32) (v2 : Int32) (v3 : Int32) : wpX_fill (fun r u' => wpY_fill (fun r' v' => r' = r ∧ i_Rel (k + 4) u' v') v v1 v2 v3) u v1 v2 v3 := by
  obtain ⟨fa, fb, fc, fd, fe, ff, fg, fh, aK, aE, aV, aS, aC, aY, aD, aT, aW⟩ := u
  obtain ⟨gc, bC, bD, bU, bP, bV, bQ, rfl, rfl, R⟩ := I
  unfold wpX_fill
  dsimp only
  unfold wpY_fill
  dsimp only
  by_cases hx : vp_in v1 12
  · refine pa_xSector_g _ _ _ hx (br_f (by decide) (br_c (fun hb => pa_ySector_g _ _ _ hx (br_t rfl (br_t hb ⟨rfl, rl_mk R⟩))) (fun hb => ?_)))
    obtain ⟨i, hi, rfl⟩ := vp_in_of hx (by decide)
    obtain ⟨hT, ha, hY, hm, t, ht, ht0, rfl, hS, hC, hcp⟩ := rl_op R hb
    have hd := rl_dm hC i hi
    have hR : ∀ (aW' bC' : Nat → Int32), (∀ q, q < 8 → bC' (8 * i + q) = v2 + nI q * v3) → (∀ q, q < 8 * i ∨ 8 * i + 8 ≤ q → bC' q = bC q) →
        i_Rel (k + 4) (fa, fb, fc, fd, nI t, ff, fg, fh, ch_kw aK (ch_sl (fun q => if q < 8 then v2 + nI q * v3 else aW q) (ch_S aY (nI i) (aE i) (aV i + 1))) (ch_row i (aE i)) 9, aE, upd aV i (aV i + 1), aS, aC, aY, (fun _ => 0), ch_S aY (nI i) (aE i) (aV i + 1), aW') (fa, fb, gc, fc, fd, bC', upd bD i 0, bU, bP, bV, bQ) := by
      intro aW' bC' h1 h2
      refine rl_mk (rl_po hb ha (ch_tl_S _ _ _ _) hY hm t ht ht0 hS (rl_sc_w hC i hi _ _ _ (fun q hq => ?_) (fun j hj q hq => h2 _ (by omega)) pk_us (fun j hj => pk_un hj)) hcp)
      rw [h1 q hq]
      exact (if_pos hq).symm
    refine sf_isDamaged _ i hi fa fb fc fd (nI t) ff fg fh aK aE aV aS aC aY (fun _ => 0) aT aW (fun z => br_t rfl (sf_fill8 _ i hi v2 v3 0 fa fb fc fd (nI t) ff fg fh aK aE aV aS aC aY aT aW hT (fun aW' => ?_))) (fun z => br_f (by decide) (sf_fill8 _ i hi v2 v3 1 fa fb fc fd (nI t) ff fg fh aK aE aV aS aC aY aT aW hT (fun aW' => ?_)))
    · exact pa_ySector_g _ _ _ hx (br_t rfl (br_f hb ⟨9, sg_fl23 _ i hi v2 v3 fa fb gc fc fd bD bU bP bV bQ bC (fun bC' h1 h2 => ⟨fun _ => ⟨rfl, hR aW' bC' h1 h2⟩, fun y => absurd (hd.mp z) y⟩) 8 0 bC rfl (fun q hq => absurd hq (by omega)) (fun _ _ => rfl)⟩))
    · exact pa_ySector_g _ _ _ hx (br_t rfl (br_f hb ⟨9, sg_fl23 _ i hi v2 v3 fa fb gc fc fd bD bU bP bV bQ bC (fun bC' h1 h2 => ⟨fun y => absurd (hd.mpr y) z, fun _ => ⟨rfl, hR aW' bC' h1 h2⟩⟩) 8 0 bC rfl (fun q hq => absurd hq (by omega)) (fun _ _ => rfl)⟩))
  · exact pa_xSector_b _ _ _ hx (br_t rfl (pa_ySector_b _ _ _ hx (br_f (by decide) ⟨rfl, rl_mk R⟩)))
theorem j_vc_check {k : Nat} {u : SX} {v : SY} (I : i_Rel k u v) (v1 : Int32) : wpX_check (fun r => wpY_check (fun r' => r' = r ∧ i_Rel (k + 4) u v) v v1) u v1 := by
  obtain ⟨fa, fb, fc, fd, fe, ff, fg, fh, aK, aE, aV, aS, aC, aY, aD, aT, aW⟩ := u
  obtain ⟨gc, bC, bD, bU, bP, bV, bQ, rfl, rfl, R⟩ := I
  unfold wpX_check
  dsimp only
  unfold wpY_check
  dsimp only
  by_cases hx : vp_in v1 12
  · refine pa_xSector_g _ _ _ hx (br_f (by decide) (br_c (fun hb => pa_ySector_g _ _ _ hx (br_t rfl (br_t hb ⟨rfl, rl_mk R⟩))) (fun hb => ?_)))
    obtain ⟨i, hi, rfl⟩ := vp_in_of hx (by decide)
    have hci : (nI i).toNatClampNeg = i := nI_clamp (by omega)
    obtain ⟨hT, ha, hY, hm, t, ht, ht0, rfl, hS, hC, hcp⟩ := rl_op R hb
    have hd := rl_dm hC i hi
    refine sf_isDamaged _ i hi fa fb fc fd (nI t) ff fg fh aK aE aV aS aC aY (fun _ => 0) aT aW (fun z => br_t rfl (pa_ySector_g _ _ _ hx (br_t rfl (br_f hb ⟨hx, ?_⟩)))) (fun z => br_f (by decide) (pa_ySector_g _ _ _ hx (br_t rfl (br_f hb ⟨hx, ?_⟩))))
    · rw [hci]
      exact br_t (hd.mp z) ⟨rfl, rl_mk R⟩
    · rw [hci]
      exact br_f (fun y => z (hd.mpr y)) ⟨rfl, rl_mk R⟩
  · exact pa_xSector_b _ _ _ hx (br_t rfl (pa_ySector_b _ _ _ hx (br_f (by decide) ⟨rfl, rl_mk R⟩)))
