/-! if two passphrases shared their check words, the rows could not hold -/
def ne_U : Nat → Int32 := fun s => if s = 0 then 1 else 0
def ne_v (z : Int32) (C : Nat → Int32) : SY := (1, 0, 0, 0, 0, C, (fun _ => 0), ne_U, (fun _ => z), (fun _ => 0), (fun _ => 0))
theorem ne_U_b : ∀ s, s < 4 → ne_U s = nI (sv_bt 1 s) := by decide +kernel
theorem ne_fx (x z : Int32) (hw : ∀ i, i < 8 → ch_P x 2 0 i = ch_P z 2 0 i) : wpX_format (fun r u' => r = 0 ∧ ∃ C : Nat → Int32, i_Rel 0 u' (ne_v z C) ∧ (z = x → C = fun _ => 0)) (0, 0, 0, 0, 0, 0, 0, 0, (fun _ => 0), (fun _ => 0), (fun _ => 0), (fun _ => 0), (fun _ => 0), (fun _ => 0), (fun _ => 0), (fun _ => 0), (fun _ => 0)) x := by
  refine nm_e (sf_makeKey _ 1 0 0 0 0 0 0 (0 + 1) (fun _ => 0) (fun _ => 0) (fun _ => 0) (fun _ => 0) (fun _ => 0) (fun _ => 0) (fun _ => 0) (fun _ => 0) x (ch_tl_0 16) (ch_tl_0 8) ?_)
  refine sf_eraseSectors _ 1 0 0 0 0 0 0 (0 + 1) (fun _ => 0) (fun _ => 0) (fun _ => 0) (fun _ => 0) (fun _ => 0) (ch_key x (0 + 1)) (ch_P x 1 (0 + 1)) (fun _ => 0) (ch_tl_P _ _ _) (fun aK' aE' aT' aW' hT' hE => ?_)
  refine sf_eraseSlots _ 0 (by decide) 1 0 0 0 0 0 (0 + 1) aK' aE' (fun _ => 0) (fun _ => 0) (fun _ => 0) (ch_key x (0 + 1)) (fun _ => 0) aT' aW' (fun aS1 aC' => ?_)
  refine sf_putSlot _ 0 (by decide) x 1 0 0 0 0 0 0 (0 + 1) aK' aE' (fun _ => 0) aS1 aC' (ch_key x (0 + 1)) aT' aW' hT' (fun aS' hf h1 h2 => ?_)
  refine sf_forget _ 1 0 0 0 (0 ||| ((1 : Int32) <<< (nI 0 &&& 31))) 0 0 (0 + 1) aK' aE' (fun _ => 0) aS' aC' (ch_key x (0 + 1)) (fun _ => 0) (ch_P x 3 (0 + 1)) aW' (ch_tl_P _ _ _) (ch_tl_k _ _) (fun aW2 => ?_)
  have hsl : ∀ ky : Nat → Int32, (∀ i, i < 8 → aS' (0 * 16 + 8 + i) = ch_P z 3 (0 + 1) i ^^^ ky i) → sl_ok 1 (0 + 1) ky aS' ne_U (fun _ => z) := by
    intro ky hk s hs
    refine ⟨ne_U_b s hs, fun hb => ?_⟩
    have hs0 : s = 0 := by
      have h4 : s = 0 ∨ s = 1 ∨ s = 2 ∨ s = 3 := by omega
      rcases h4 with rfl | rfl | rfl | rfl
      · rfl
      · exact absurd hb (by decide)
      · exact absurd hb (by decide)
      · exact absurd hb (by decide)
    subst hs0
    exact ⟨fun i hi => by rw [h1 i hi, hw i hi], hk⟩
  refine ⟨rfl, ?_⟩
  by_cases hzx : z = x
  · refine ⟨fun _ => 0, rl_mk ?_, fun _ => rfl⟩
    refine ⟨ch_tl_0 16, fun z => absurd z (by decide), ⟨12, ⟨by decide, fun i hi => (hE i hi).1, fun i a b => absurd b (by omega)⟩, rfl, fun z => absurd rfl z, fun _ => rfl⟩, ch_key x (0 + 1), 1, ch_tl_k _ _, fun _ => rfl, fun z => absurd rfl z, by decide, by decide +kernel, fun z => absurd z (by decide), fun _ => ⟨by decide, hsl _ (by rw [hzx]; exact h2), ?_⟩, fun z => absurd rfl z⟩
    intro i hi
    refine ⟨fun _ => ?_, fun z => absurd rfl z⟩
    rw [(hE i hi).1]
    exact (hE i hi).2
  · refine ⟨fun q => aK' (ch_row (q / 8) 0 + q % 8) ^^^ ch_S (fun i => if i < 8 then (ch_P x 3 (0 + 1) i ^^^ ch_key x (0 + 1) i) ^^^ ch_P z 3 (0 + 1) i else 0) (nI (q / 8)) 0 0 (q % 8), rl_mk ?_, fun h => absurd h hzx⟩
    refine ⟨ch_tl_0 16, fun z => absurd z (by decide), ⟨12, ⟨by decide, fun i hi => (hE i hi).1, fun i a b => absurd b (by omega)⟩, rfl, fun z => absurd rfl z, fun _ => rfl⟩, (fun i => if i < 8 then (ch_P x 3 (0 + 1) i ^^^ ch_key x (0 + 1) i) ^^^ ch_P z 3 (0 + 1) i else 0), 1, fun i hi => if_neg (by omega), fun _ => rfl, fun z => absurd rfl z, by decide, by decide +kernel, fun z => absurd z (by decide), fun _ => ⟨by decide, hsl _ (fun i hi => ?_), ?_⟩, fun z => absurd rfl z⟩
    · rw [h2 i hi, if_pos hi, Int32.xor_comm (ch_P z 3 (0 + 1) i), ch_xx]
    · intro i hi
      refine ⟨fun _ => ?_, fun z => absurd rfl z⟩
      rw [(hE i hi).1]
      refine ⟨(hE i hi).2.1, fun c hc => ?_⟩
      dsimp only
      rw [show (8 * i + c) / 8 = i by omega, show (8 * i + c) % 8 = c by omega]
/-- the reference after format(x) -/
def ne_A (x : Int32) (v : SY) : Prop := ∃ C D U : Nat → Int32, (∀ s, s < 96 → C s = 0) ∧ (∀ s, s < 12 → D s = 0) ∧ (∀ s, s < 4 → U s = nI (sv_bt 1 s)) ∧ v = (1, 0, 0, 0, 0, C, D, U, upd (fun _ => 0) 0 x, (fun _ => 0), (fun _ => 0))
theorem ne_fy (x : Int32) : wpY_format (fun r' v' => r' = 0 ∧ ne_A x v') (0, 0, 0, 0, 0, (fun _ => 0), (fun _ => 0), (fun _ => 0), (fun _ => 0), (fun _ => 0), (fun _ => 0)) x :=
  sg_format _ x 0 0 0 0 0 (fun _ => 0) (fun _ => 0) (fun _ => 0) (fun _ => 0) (fun _ => 0) (fun _ => 0) (fun bC' bD' bU' hC hD hU => ⟨rfl, bC', bD', bU', hC, hD, fun s hs => by rw [hU s hs]; exact ne_U_b s hs, rfl⟩)
theorem ne_start {i_R : Nat → SX → SY → Prop} (h0 : wpX_init (fun u => wpY_init (fun v => i_R 0 u v))) (hf : ro_format i_R) (x z : Int32) (hw : ∀ i, i < 8 → ch_P x 2 0 i = ch_P z 2 0 i) :
    ∃ u v C, i_R 4 u v ∧ ne_A x v ∧ i_Rel 0 u (ne_v z C) ∧ (z = x → C = fun _ => 0) := by
  obtain ⟨u, v, hr, hA, C, h1, h2⟩ := mx_format (S := fun _ _ u' v' => i_R (0 + 4) u' v') (hf 0 _ _ h0 (by decide) x) (ne_fx x z hw) (ne_fy x)
  exact ⟨u, v, C, hr, hA, h1, h2⟩
theorem ne_bt1 {s : Nat} (hs : s < 4) (h : sv_bt 1 s = 1) : s = 0 := by
  have h4 : s = 0 ∨ s = 1 ∨ s = 2 ∨ s = 3 := by omega
  rcases h4 with rfl | rfl | rfl | rfl
  · rfl
  · exact absurd h (by decide)
  · exact absurd h (by decide)
  · exact absurd h (by decide)
theorem ne_fd_n {x y : Int32} (h : ¬ x = y) (P : Nat → Int32) (hP : P 0 = x) : sl_fd 1 P y 4 0 = -1 := by
  rcases sl_fd_p 1 P y 4 0 with ⟨e, _⟩ | ⟨s, _, hs, _, hb, hp⟩
  · exact e
  · have := ne_bt1 (by omega) hb
    subst this
    exact absurd (hP.symm.trans hp) h
theorem ne_fd_s (y : Int32) (P : Nat → Int32) (hP : P 0 = y) : sl_fd 1 P y 4 0 = nI 0 := if_pos ⟨by decide, hP⟩
theorem ev_unlock_n (t : Nat) (x : Int32) (ga gb gc gd ge : Int32) (bC bD bU bP bV bQ : Nat → Int32) (ha : ¬ ga = 0) (hb : gb = 0) (hU : ∀ s, s < 4 → bU s = nI (sv_bt t s)) (hf : sl_fd t bP x 4 0 = -1) : wpY_unlock (fun r' v' => r' = -4 ∧ v' = (ga, gb, gc, gd, ge, bC, bD, bU, bP, bV, bQ)) (ga, gb, gc, gd, ge, bC, bD, bU, bP, bV, bQ) x :=
  br_f ha (br_t hb (sg_find _ x t ga gb gc gd ge bC bD bU bP bV bQ hU (by rw [hf]; exact br_f (by decide) ⟨rfl, rfl⟩)))
theorem ev_unlock_s (t : Nat) (x : Int32) (ga gb gc gd ge : Int32) (bC bD bU bP bV bQ : Nat → Int32) (ha : ¬ ga = 0) (hb : gb = 0) (hU : ∀ s, s < 4 → bU s = nI (sv_bt t s)) (hf : sl_fd t bP x 4 0 = nI 0) : wpY_unlock (fun r' v' => r' = nI 0 ∧ v' = (ga, 1, gc, gd, ge, bC, bD, bU, bP, bV, bQ)) (ga, gb, gc, gd, ge, bC, bD, bU, bP, bV, bQ) x :=
  br_f ha (br_t hb (sg_find _ x t ga gb gc gd ge bC bD bU bP bV bQ hU (by rw [hf]; exact br_t (by decide) ⟨rfl, rfl⟩)))
theorem ne_loc (z : Int32) (C : Nat → Int32) : yv_loc (ne_v z C) z := fun _ _ _ _ => rfl
/-- format(x), unlock(y): the reference stays locked, the class opens -/
theorem ne_open {S : Int32 → Int32 → SX → SY → Prop} {x y : Int32} (hxy : ¬ x = y) {u : SX} {v : SY} {C : Nat → Int32} (hA : ne_A x v) (hI : i_Rel 0 u (ne_v y C))
    (hrow : wpX_unlock (fun r u' => wpY_unlock (fun r' v' => S r r' u' v') v y) u y) :
    ∃ u', S (nI 0) (-4) u' v ∧ i_Rel 4 u' (1, 1, 0, 0, 0, C, (fun _ => 0), ne_U, (fun _ => y), (fun _ => 0), (fun _ => 0)) := by
  obtain ⟨C1, D1, U1, hC1, hD1, hU1, rfl⟩ := hA
  obtain ⟨u', va, vb, h1, rfl, rfl, h2⟩ := me_unlock (S := S) hrow (j_vc_unlock hI y (ne_loc y C)) (ev_unlock_n 1 y _ _ _ _ _ _ _ _ _ _ _ (by decide) rfl hU1 (ne_fd_n hxy _ pk_us)) (ev_unlock_s 1 y _ _ _ _ _ _ _ _ _ _ _ (by decide) rfl ne_U_b (ne_fd_s y _ rfl))
  exact ⟨u', h1, h2⟩
theorem ne_inj (h : ∀ x y : Int32, ¬ x = y → (∀ i, i < 8 → ch_P x 2 0 i = ch_P y 2 0 i) → False) : ch_inj := fun x y hw => by
  by_cases e : x = y
  · exact e
  · exact absurd hw (fun hw => h x y e hw)
theorem need_p3 {i_R : Nat → SX → SY → Prop} (h0 : wpX_init (fun u => wpY_init (fun v => i_R 0 u v))) (hf : ro_format i_R) (hu : rc_unlock i_R) : ch_inj := ne_inj (fun x y hxy hw => by
  obtain ⟨u, v, C, h1, hA, hI, _⟩ := ne_start h0 hf x y hw
  obtain ⟨u', h, _⟩ := ne_open (S := fun r r' u' v' => r' = r ∧ i_R (4 + 4) u' v') hxy hA hI (hu 4 u v h1 (by decide) y)
  exact absurd h.1 (by decide))
/-- what the other parts begin with -/
theorem ne_two {i_R : Nat → SX → SY → Prop} (h0 : wpX_init (fun u => wpY_init (fun v => i_R 0 u v))) (hf : ro_format i_R) (hu : ro_unlock i_R) {x y : Int32} (hxy : ¬ x = y) (hw : ∀ i, i < 8 → ch_P x 2 0 i = ch_P y 2 0 i) :
    ∃ (u : SX) (C1 D1 U1 C : Nat → Int32), i_R 8 u (1, 0, 0, 0, 0, C1, D1, U1, upd (fun _ => 0) 0 x, (fun _ => 0), (fun _ => 0)) ∧ (∀ s, s < 12 → D1 s = 0) ∧ i_Rel 4 u (1, 1, 0, 0, 0, C, (fun _ => 0), ne_U, (fun _ => y), (fun _ => 0), (fun _ => 0)) := by
  obtain ⟨u, v, C, h1, hA, hI, _⟩ := ne_start h0 hf x y hw
  obtain ⟨u', h, h2⟩ := ne_open (S := fun _ _ u' v' => i_R (4 + 4) u' v') hxy hA hI (hu 4 u v h1 (by decide) y)
  obtain ⟨C1, D1, U1, _, hD, _, rfl⟩ := hA
  exact ⟨u', C1, D1, U1, C, h, hD, h2⟩
theorem need_p4 {i_R : Nat → SX → SY → Prop} (h0 : wpX_init (fun u => wpY_init (fun v => i_R 0 u v))) (hf : ro_format i_R) (hu : ro_unlock i_R) (hc : rc_lock i_R) : ch_inj := ne_inj (fun x y hxy hw => by
  obtain ⟨u, C1, D1, U1, C, h1, hD, hI⟩ := ne_two h0 hf hu hxy hw
  obtain ⟨u', va, vb, h, _⟩ := me_lock (S := fun r r' u' v' => r' = r ∧ i_R (8 + 4) u' v') (ca := 0) (cb := 1) (FA := fun _ => True) (FB := fun _ => True) (hc 8 u _ h1 (by decide)) (j_vc_lock hI) (br_f (by decide) (br_t rfl ⟨rfl, trivial⟩)) (br_f (by decide) (br_f (by decide) ⟨rfl, trivial⟩))
  exact absurd h.1 (by decide))
theorem need_p5 {i_R : Nat → SX → SY → Prop} (h0 : wpX_init (fun u => wpY_init (fun v => i_R 0 u v))) (hf : ro_format i_R) (hu : ro_unlock i_R) (hc : rc_state i_R) : ch_inj := ne_inj (fun x y hxy hw => by
  obtain ⟨u, C1, D1, U1, C, h1, hD, hI⟩ := ne_two h0 hf hu hxy hw
  have h := me_state (S := fun r r' => r' = r ∧ i_R (8 + 4) u _) (ca := 1) (cb := 2) (hc 8 u _ h1 (by decide)) (j_vc_state hI) (br_f (by decide) (br_t rfl rfl)) (br_f (by decide) (br_f (by decide) rfl))
  exact absurd h.1 (by decide))
theorem ev_write_l (x y z : Int32) (ga gb gc gd ge : Int32) (bC bD bU bP bV bQ : Nat → Int32) (hb : gb = 0) (hx : vp_in x 12) (hy : vp_in y 8) : wpY_write (fun r' v' => r' = -3 ∧ v' = (ga, gb, gc, gd, ge, bC, bD, bU, bP, bV, bQ)) (ga, gb, gc, gd, ge, bC, bD, bU, bP, bV, bQ) x y z := by
  unfold wpY_write
  dsimp only
  exact pa_ySector_g _ _ _ hx (br_t rfl (pa_yCell_g _ _ _ hy (br_t rfl (br_t hb ⟨rfl, rfl⟩))))
theorem ev_write_o (z : Int32) (ga gb gc gd ge : Int32) (bC bD bU bP bV bQ : Nat → Int32) (hb : ¬ gb = 0) (hd : bD 0 = 0) : wpY_write (fun r' v' => r' = 0 ∧ v' = (ga, gb, gc, gd, ge, upd bC 0 z, bD, bU, bP, bV, bQ)) (ga, gb, gc, gd, ge, bC, bD, bU, bP, bV, bQ) 0 0 z := by
  unfold wpY_write
  dsimp only
  exact pa_ySector_g _ _ _ (sv_i12 (j := 0) (by decide)) (br_t rfl (pa_yCell_g _ _ _ (sv_i8 (j := 0) (by decide)) (br_t rfl (br_f hb ⟨sv_i12 (j := 0) (by decide), br_t hd ⟨sy_i96 (i := 0) (j := 0) (by decide) (by decide), nm_e ⟨rfl, rfl⟩⟩⟩))))
theorem need_p7 {i_R : Nat → SX → SY → Prop} (h0 : wpX_init (fun u => wpY_init (fun v => i_R 0 u v))) (hf : ro_format i_R) (hu : ro_unlock i_R) (hc : rc_write i_R) : ch_inj := ne_inj (fun x y hxy hw => by
  obtain ⟨u, C1, D1, U1, C, h1, hD, hI⟩ := ne_two h0 hf hu hxy hw
  obtain ⟨u', va, vb, h, _⟩ := me_write (S := fun r r' u' v' => r' = r ∧ i_R (8 + 4) u' v') (hc 8 u _ h1 (by decide) 0 0 7) (j_vc_write hI 0 0 7) (ev_write_l 0 0 7 _ _ _ _ _ _ _ _ _ _ _ rfl (sv_i12 (j := 0) (by decide)) (sv_i8 (j := 0) (by decide))) (ev_write_o 7 _ _ _ _ _ _ _ _ _ _ _ (by decide) rfl)
  exact absurd h.1 (by decide))
theorem ev_fill_l (x y z : Int32) (ga gb gc gd ge : Int32) (bC bD bU bP bV bQ : Nat → Int32) (hb : gb = 0) (hx : vp_in x 12) : wpY_fill (fun r' v' => r' = -3 ∧ v' = (ga, gb, gc, gd, ge, bC, bD, bU, bP, bV, bQ)) (ga, gb, gc, gd, ge, bC, bD, bU, bP, bV, bQ) x y z := by
  unfold wpY_fill
  dsimp only
  exact pa_ySector_g _ _ _ hx (br_t rfl (br_t hb ⟨rfl, rfl⟩))
theorem ev_fill_o (y z c : Int32) (ga gb gc gd ge : Int32) (bC bD bU bP bV bQ : Nat → Int32) (hb : ¬ gb = 0) (hc : (bD 0 = 0 → c = 0) ∧ (¬ bD 0 = 0 → c = 1)) : wpY_fill (fun r' v' => r' = c ∧ ∃ C, v' = (ga, gb, gc, gd, ge, C, upd bD 0 0, bU, bP, bV, bQ)) (ga, gb, gc, gd, ge, bC, bD, bU, bP, bV, bQ) 0 y z := by
  unfold wpY_fill
  dsimp only
  exact pa_ySector_g _ _ _ (sv_i12 (j := 0) (by decide)) (br_t rfl (br_f hb ⟨9, sg_fl23 _ 0 (by decide) y z ga gb gc gd ge bD bU bP bV bQ bC (fun bC' _ _ => ⟨fun h => ⟨(hc.1 h).symm, bC', rfl⟩, fun h => ⟨(hc.2 h).symm, bC', rfl⟩⟩) 8 0 bC rfl (fun q hq => absurd hq (by omega)) (fun _ _ => rfl)⟩))
theorem need_p8 {i_R : Nat → SX → SY → Prop} (h0 : wpX_init (fun u => wpY_init (fun v => i_R 0 u v))) (hf : ro_format i_R) (hu : ro_unlock i_R) (hc : rc_fill i_R) : ch_inj := ne_inj (fun x y hxy hw => by
  obtain ⟨u, C1, D1, U1, C, h1, hD, hI⟩ := ne_two h0 hf hu hxy hw
  obtain ⟨u', va, vb, h, _⟩ := me_fill (S := fun r r' u' v' => r' = r ∧ i_R (8 + 4) u' v') (hc 8 u _ h1 (by decide) 0 0 0) (j_vc_fill hI 0 0 0) (ev_fill_l 0 0 0 _ _ _ _ _ _ _ _ _ _ _ rfl (sv_i12 (j := 0) (by decide))) (ev_fill_o 0 0 0 _ _ _ _ _ _ _ _ _ _ _ (by decide) ⟨fun _ => rfl, fun z => absurd rfl z⟩)
  exact absurd h.1 (by decide))
theorem need_p9 {i_R : Nat → SX → SY → Prop} (h0 : wpX_init (fun u => wpY_init (fun v => i_R 0 u v))) (hf : ro_format i_R) (hu : ro_unlock i_R) (hc : rc_check i_R) : ch_inj := ne_inj (fun x y hxy hw => by
  obtain ⟨u, C1, D1, U1, C, h1, hD, hI⟩ := ne_two h0 hf hu hxy hw
  have e1 : wpY_check (fun r' => r' = -3) (1, 0, 0, 0, 0, C1, D1, U1, upd (fun _ => 0) 0 x, (fun _ => 0), (fun _ => 0)) 0 := by
    unfold wpY_check
    dsimp only
    exact pa_ySector_g _ _ _ (sv_i12 (j := 0) (by decide)) (br_t rfl (br_t rfl rfl))
  have e2 : wpY_check (fun r' => r' = 0) (1, 1, 0, 0, 0, C, (fun _ => 0), ne_U, (fun _ => y), (fun _ => 0), (fun _ => 0)) 0 := by
    unfold wpY_check
    dsimp only
    exact pa_ySector_g _ _ _ (sv_i12 (j := 0) (by decide)) (br_t rfl (br_f (by decide) ⟨sv_i12 (j := 0) (by decide), br_t rfl rfl⟩))
  have h := me_check (S := fun r r' => r' = r ∧ i_R (8 + 4) u _) (hc 8 u _ h1 (by decide) 0) (j_vc_check hI 0) e1 e2
  exact absurd h.1 (by decide))
theorem need_p15 {i_R : Nat → SX → SY → Prop} (h0 : wpX_init (fun u => wpY_init (fun v => i_R 0 u v))) (hf : ro_format i_R) (hc : rc_slotOf i_R) : ch_inj := ne_inj (fun x y hxy hw => by
  obtain ⟨u, v, C, h1, hA, hI, _⟩ := ne_start h0 hf x y hw
  obtain ⟨C1, D1, U1, hC1, hD1, hU1, rfl⟩ := hA
  obtain ⟨u', h, _⟩ := me_slotOf (S := fun r r' u' => r' = r ∧ i_R (4 + 4) u' _) (ca := -4) (cb := nI 0) (hc 4 u _ h1 (by decide) y) (j_vc_slotOf hI y (ne_loc y C)) (br_f (by decide) (sg_find _ y 1 _ _ _ _ _ _ _ _ _ _ _ hU1 (by rw [ne_fd_n hxy _ pk_us]; exact br_f (by decide) rfl))) (br_f (by decide) (sg_find _ y 1 _ _ _ _ _ _ _ _ _ _ _ ne_U_b (by rw [ne_fd_s y _ rfl]; exact br_t (by decide) rfl)))
  exact absurd h.1 (by decide))
