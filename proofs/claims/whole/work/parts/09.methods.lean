noncomputable def rl_dg (bC bD : Nat → Int32) : Nat → Int32
  | 0 => 0
  | n + 1 => rl_dg bC bD n + (nI n + 1) * (if bD (n / 8) = 0 then bC n else 0)
def rl_ds (i : Nat) (W : Nat → Int32) : Nat → Int32
  | 0 => 0
  | c + 1 => rl_ds i W c + (((8 * nI i) + nI c) + 1) * W c
theorem rl_dg_s (bC bD W : Nat → Int32) (i : Nat) (hz : bD i = 0) (hW : ∀ c, c < 8 → W c = bC (8 * i + c)) : ∀ c, c ≤ 8 → rl_dg bC bD (8 * i + c) = rl_dg bC bD (8 * i) + rl_ds i W c
  | 0, _ => (Int32.add_zero _).symm
  | c + 1, h => by
    show rl_dg bC bD (8 * i + c) + (nI (8 * i + c) + 1) * (if bD ((8 * i + c) / 8) = 0 then bC (8 * i + c) else 0) = rl_dg bC bD (8 * i) + (rl_ds i W c + (((8 * nI i) + nI c) + 1) * W c)
    rw [rl_dg_s bC bD W i hz hW c (by omega), show (8 * i + c) / 8 = i by omega, if_pos hz, hW c (by omega), show 8 * nI i = nI (8 * i) from pk_mul 8 i, nI_add, Int32.add_assoc]
theorem rl_dg_d (bC bD : Nat → Int32) (i : Nat) (hz : ¬ bD i = 0) : ∀ c, c ≤ 8 → rl_dg bC bD (8 * i + c) = rl_dg bC bD (8 * i)
  | 0, _ => rfl
  | c + 1, h => by
    show rl_dg bC bD (8 * i + c) + (nI (8 * i + c) + 1) * (if bD ((8 * i + c) / 8) = 0 then bC (8 * i + c) else 0) = _
    rw [rl_dg_d bC bD i hz c (by omega), show (8 * i + c) / 8 = i by omega, if_neg hz, Int32.mul_zero, Int32.add_zero]
theorem sg_di4 (post : Int32 → Prop) (ga gb gc gd ge : Int32) (bC bD bU bP bV bQ : Nat → Int32) (hb : ¬ gb = 0) (hp : post (rl_dg bC bD 96)) :
    ∀ (d j : Nat), j + d = 96 → wY_digest_4 post ga gb gc gd ge bC bD bU bP bV bQ (d + 1) (rl_dg bC bD j) (nI j) := by
  intro d
  induction d with
  | zero => intro j hj; have e : j = 96 := by omega
            subst e; exact br_t (sv_ge 96 (by omega) (by omega)) hp
  | succ d ih =>
    intro j hj
    have e1 : nI j / 8 = nI (j / 8) := pk_div (a := j) (d := 8) (by omega) (by decide) (by decide)
    have e2 : nI j - nI j / 8 * 8 = nI (j % 8) := pk_rem (a := j) (d := 8) (by omega) (by decide) (by decide)
    refine br_f (sv_ng 96 (by omega) (by decide)) ⟨by decide, by decide, ?_⟩
    rw [e2, e1]
    refine sg_read _ (j / 8) (j % 8) (by omega) (by omega) ga gb gc gd ge bC bD bU bP bV bQ hb (fun z => nm_r (e' := rl_dg bC bD (j + 1)) ?_ (nm_r (nI_1 j) (ih (j + 1) (by omega)))) (fun z => nm_r (e' := rl_dg bC bD (j + 1)) ?_ (nm_r (nI_1 j) (ih (j + 1) (by omega))))
    · show _ = rl_dg bC bD j + (nI j + 1) * (if bD (j / 8) = 0 then bC j else 0)
      rw [if_pos z, show 8 * (j / 8) + j % 8 = j by omega]
    · show _ = rl_dg bC bD j + (nI j + 1) * (if bD (j / 8) = 0 then bC j else 0)
      rw [if_neg z]
theorem sg_di4z (post : Int32 → Prop) (ga gb gc gd ge : Int32) (bC bD bU bP bV bQ : Nat → Int32) (hb : gb = 0) (hp : post 0) :
    ∀ (d j : Nat), j + d = 96 → wY_digest_4 post ga gb gc gd ge bC bD bU bP bV bQ (d + 1) 0 (nI j) := by
  intro d
  induction d with
  | zero => intro j hj; exact br_t (sv_ge 96 (by omega) (by omega)) hp
  | succ d ih =>
    intro j hj
    refine br_f (sv_ng 96 (by omega) (by decide)) ⟨by decide, by decide, sg_read_b _ _ _ ga gb gc gd ge bC bD bU bP bV bQ (Or.inr (Or.inr hb)) (nm_r (e' := 0) ?_ (nm_r (nI_1 j) (ih (j + 1) (by omega))))⟩
    rw [Int32.mul_zero, Int32.add_zero]
theorem sf_ds9 (post : Int32 → SX → Prop) (i : Nat) (fa fb fc fd fe ff fg fh : Int32) (aK aE aV aS aC aY aD aT aW : Nat → Int32) (hp : post (rl_ds i aW 8) (fa, fb, fc, fd, fe, ff, fg, fh, aK, aE, aV, aS, aC, aY, aD, aT, aW)) :
    ∀ (d j : Nat), j + d = 8 → wX_digestOfSector_9 post (nI i) fa fb fc fd fe ff fg fh aK aE aV aS aC aY aD aT aW (d + 1) (rl_ds i aW j) (nI j) := by
  intro d
  induction d with
  | zero => intro j hj; have e : j = 8 := by omega
            subst e; exact br_t (sv_ge 8 (by omega) (by omega)) hp
  | succ d ih =>
    intro j hj
    have hc : (nI j).toNatClampNeg = j := nI_clamp (by omega)
    refine br_f (sv_ng 8 (by omega) (by decide)) ⟨sv_i9 (by omega), nm_r (e' := rl_ds i aW (j + 1)) ?_ (nm_r (nI_1 j) (ih (j + 1) (by omega)))⟩
    rw [hc]; rfl
theorem sf_digSec (post : Int32 → SX → Prop) (i : Nat) (hi : i < 12) (fa fb fc fd fe ff fg fh : Int32) (aK aE aV aS aC aY aT aW : Nat → Int32) (hT : ch_tl 16 aT) (hp : post (rl_ds i (ch_un aK aW (ch_S aY (nI i) (aE i) (aV i)) (ch_row i (aE i))) 8) (fa, fb, fc, fd, fe, ff, fg, fh, aK, aE, aV, aS, aC, aY, (fun _ => 0), ch_S aY (nI i) (aE i) (aV i), ch_un aK aW (ch_S aY (nI i) (aE i) (aV i)) (ch_row i (aE i)))) : wpX_digestOfSector post (fa, fb, fc, fd, fe, ff, fg, fh, aK, aE, aV, aS, aC, aY, (fun _ => 0), aT, aW) (nI i) := by
  unfold wpX_digestOfSector
  exact sf_unseal _ i hi fa fb fc fd fe ff fg fh aK aE aV aS aC aY aT aW hT ⟨9, sf_ds9 post i fa fb fc fd fe ff fg fh aK aE aV aS aC aY (fun _ => 0) (ch_S aY (nI i) (aE i) (aV i)) (ch_un aK aW (ch_S aY (nI i) (aE i) (aV i)) (ch_row i (aE i))) hp 8 0 rfl⟩
theorem sf_di13 (post : Int32 → SX → Prop) (fa fb fc fd fe ff fg fh : Int32) (aK aE aV aS aC aY : Nat → Int32) (bC bD : Nat → Int32) (hC : rl_sc aY aK aE aV bC bD) (hp : ∀ aT' aW' : Nat → Int32, ch_tl 16 aT' → post (rl_dg bC bD 96) (fa, fb, fc, fd, fe, ff, fg, fh, aK, aE, aV, aS, aC, aY, (fun _ => 0), aT', aW')) :
    ∀ (d j : Nat) (aT aW : Nat → Int32), j + d = 12 → ch_tl 16 aT → wX_digest_13 post (d + 1) (rl_dg bC bD (8 * j)) (nI j) fa fb fc fd fe ff fg fh aK aE aV aS aC aY (fun _ => 0) aT aW := by
  intro d
  induction d with
  | zero => intro j aT aW hj hT; have e : j = 12 := by omega
            subst e; exact br_t (sv_ge 12 (by omega) (by omega)) (hp _ _ hT)
  | succ d ih =>
    intro j aT aW hj hT
    have hd := rl_dm hC j (by omega)
    refine br_f (sv_ng 12 (by omega) (by decide)) (sf_isDamaged _ j (by omega) fa fb fc fd fe ff fg fh aK aE aV aS aC aY (fun _ => 0) aT aW (fun z => br_t rfl (sf_digSec _ j (by omega) fa fb fc fd fe ff fg fh aK aE aV aS aC aY aT aW hT (nm_r (e' := rl_dg bC bD (8 * (j + 1))) ?_ (nm_r (nI_1 j) (ih (j + 1) _ _ (by omega) (ch_tl_S _ _ _ _)))))) (fun z => br_f (by decide) ?_))
    · have h := rl_dg_s bC bD (ch_un aK aW (ch_S aY (nI j) (aE j) (aV j)) (ch_row j (aE j))) j (hd.mp z) (fun c hc => by
        show (if c < 8 then _ else _) = _
        rw [if_pos hc]
        exact ((hC j (by omega)).1 (hd.mp z)).2 c hc) 8 (by decide)
      rw [show 8 * (j + 1) = 8 * j + 8 by omega, h]
    · have h := rl_dg_d bC bD j (fun y => z (hd.mpr y)) 8 (by decide)
      have h2 := ih (j + 1) aT aW (by omega) hT
      rw [show 8 * (j + 1) = 8 * j + 8 by omega, h] at h2
      exact nm_r (nI_1 j) h2
theorem j_vc_digest {k : Nat} {u : SX} {v : SY} (I : i_Rel k u v) : wpX_digest (fun r u' => wpY_digest (fun r' => r' = r ∧ i_Rel (k + 4) u' v) v) u := by
  obtain ⟨fa, fb, fc, fd, fe, ff, fg, fh, aK, aE, aV, aS, aC, aY, aD, aT, aW⟩ := u
  obtain ⟨gc, bC, bD, bU, bP, bV, bQ, rfl, rfl, R⟩ := I
  refine br_c (fun hb => ⟨97, sg_di4z _ fa fb gc fc fd bC bD bU bP bV bQ hb ⟨rfl, rl_mk R⟩ 96 0 rfl⟩) (fun hb => ?_)
  obtain ⟨hT, ha, hY, hm, t, ht, ht0, rfl, hS, hC, hcp⟩ := rl_op R hb
  exact ⟨13, sf_di13 _ fa fb fc fd (nI t) ff fg fh aK aE aV aS aC aY bC bD hC (fun aT' aW' hT' => ⟨97, sg_di4 _ fa fb gc fc fd bC bD bU bP bV bQ hb ⟨rfl, rl_mk (rl_T R hT')⟩ 96 0 rfl⟩) 12 0 aT aW rfl hT⟩
/-! keys -/
theorem sf_ak24 (post : Int32 → SX → Prop) (x : Int32) (t : Nat) (ht : t < 16) (fa fb fc fd ff fg fh : Int32) (aK aE aV aS aC aY aT aW : Nat → Int32) (s : Nat) (hs : s < 4) (hz : sv_bt t s = 0) (hT : ch_tl 16 aT)
    (hp : ∀ aS' : Nat → Int32, (∀ q, q < s * 16 ∨ s * 16 + 16 ≤ q → aS' q = aS q) → (∀ i, i < 8 → aS' (s * 16 + i) = ch_P x 2 0 i) → (∀ i, i < 8 → aS' (s * 16 + 8 + i) = ch_P x 3 fh i ^^^ aY i) → post (nI s) (fa, fb, fc, fd, nI (sv_set t s), ff, fg, fh, aK, aE, aV, aS', aC, aY, (fun _ => 0), ch_P x 3 fh, aW)) :
    ∀ (d j : Nat), j + d = s → (∀ r, j ≤ r → r < s → sv_bt t r = 1) → wX_addKey_24 post x fa fb fc fd (nI t) ff fg fh aK aE aV aS aC aY (fun _ => 0) aT aW (d + 1) (nI j) := by
  intro d
  induction d with
  | zero =>
    intro j hj h
    have e : j = s := by omega
    subst e
    refine br_f (sv_ng 4 (by omega) (by decide)) (sf_isTaken _ j hs t ht fa fb fc fd ff fg fh aK aE aV aS aC aY (fun _ => 0) aT aW (fun z => absurd z (by omega)) (fun _ => br_t rfl (sf_putSlot _ j hs x fa fb fc fd (nI t) ff fg fh aK aE aV aS aC aY aT aW hT (fun aS' h1 h2 h3 => ?_))))
    rw [(sv_set_e j hs t ht).1]
    exact hp aS' h1 h2 h3
  | succ d ih =>
    intro j hj h
    exact br_f (sv_ng 4 (by omega) (by decide)) (sf_isTaken _ j (by omega) t ht fa fb fc fd ff fg fh aK aE aV aS aC aY (fun _ => 0) aT aW (fun _ => br_f (by decide) (nm_r (nI_1 j) (ih (j + 1) (by omega) (fun r h1 h2 => h r (by omega) h2)))) (fun z => absurd (h j (by omega) (by omega)) (by omega)))
theorem sf_ak24f (post : Int32 → SX → Prop) (x : Int32) (t : Nat) (ht : t < 16) (fa fb fc fd ff fg fh : Int32) (aK aE aV aS aC aY aD aT aW : Nat → Int32) (hp : post (-7) (fa, fb, fc, fd, nI t, ff, fg, fh, aK, aE, aV, aS, aC, aY, aD, aT, aW)) :
    ∀ (d j : Nat), j + d = 4 → (∀ r, j ≤ r → r < 4 → sv_bt t r = 1) → wX_addKey_24 post x fa fb fc fd (nI t) ff fg fh aK aE aV aS aC aY aD aT aW (d + 1) (nI j) := by
  intro d
  induction d with
  | zero => intro j hj h; exact br_t (sv_ge 4 (by omega) (by omega)) hp
  | succ d ih =>
    intro j hj h
    exact br_f (sv_ng 4 (by omega) (by decide)) (sf_isTaken _ j (by omega) t ht fa fb fc fd ff fg fh aK aE aV aS aC aY aD aT aW (fun _ => br_f (by decide) (nm_r (nI_1 j) (ih (j + 1) (by omega) (fun r h1 h2 => h r (by omega) h2)))) (fun z => absurd (h j (by omega) (by omega)) (by omega)))
theorem sg_ak23 (post : Int32 → SY → Prop) (x : Int32) (t : Nat) (ga gb gc gd ge : Int32) (bC bD bU bP bV bQ : Nat → Int32) (hU : ∀ s, s < 4 → bU s = nI (sv_bt t s)) (s : Nat) (hs : s < 4) (hz : sv_bt t s = 0) (hp : post (nI s) (ga, gb, gc, gd, ge, bC, bD, upd bU s 1, upd bP s x, bV, bQ)) :
    ∀ (d j : Nat), j + d = s → (∀ r, j ≤ r → r < s → sv_bt t r = 1) → wY_addKey_23 post x ga gb gc gd ge bC bD bU bP bV bQ (d + 1) (nI j) := by
  intro d
  induction d with
  | zero =>
    intro j hj h
    have e : j = s := by omega
    subst e
    refine br_f (sv_ng 4 (by omega) (by decide)) ⟨sy_i4 hs, ?_⟩
    rw [nI_clamp (n := j) (by omega), hU j hs, hz, sy_n1]
    exact br_t rfl ⟨sy_i4 hs, nm_e ⟨sy_i4 hs, nm_e hp⟩⟩
  | succ d ih =>
    intro j hj h
    refine br_f (sv_ng 4 (by omega) (by decide)) ⟨sy_i4 (by omega), ?_⟩
    rw [nI_clamp (n := j) (by omega), hU j (by omega), h j (by omega) (by omega)]
    exact br_f (by decide) (nm_r (nI_1 j) (ih (j + 1) (by omega) (fun r h1 h2 => h r (by omega) h2)))
theorem sg_ak23f (post : Int32 → SY → Prop) (x : Int32) (t : Nat) (ga gb gc gd ge : Int32) (bC bD bU bP bV bQ : Nat → Int32) (hU : ∀ s, s < 4 → bU s = nI (sv_bt t s)) (hp : post (-7) (ga, gb, gc, gd, ge, bC, bD, bU, bP, bV, bQ)) :
    ∀ (d j : Nat), j + d = 4 → (∀ r, j ≤ r → r < 4 → sv_bt t r = 1) → wY_addKey_23 post x ga gb gc gd ge bC bD bU bP bV bQ (d + 1) (nI j) := by
  intro d
  induction d with
  | zero => intro j hj h; exact br_t (sv_ge 4 (by omega) (by omega)) hp
  | succ d ih =>
    intro j hj h
    refine br_f (sv_ng 4 (by omega) (by decide)) ⟨sy_i4 (by omega), ?_⟩
    rw [nI_clamp (n := j) (by omega), hU j (by omega), h j (by omega) (by omega)]
    exact br_f (by decide) (nm_r (nI_1 j) (ih (j + 1) (by omega) (fun r h1 h2 => h r (by omega) h2)))
theorem sl_free (t : Nat) : (∀ r, 0 ≤ r → r < 4 → sv_bt t r = 1) ∨ ∃ s, s < 4 ∧ sv_bt t s = 0 ∧ ∀ r, 0 ≤ r → r < s → sv_bt t r = 1 := by
  have h0 := sv_bt_2 t 0
  have h1 := sv_bt_2 t 1
  have h2 := sv_bt_2 t 2
  have h3 := sv_bt_2 t 3
  have c : ∀ r, r < 4 → r = 0 ∨ r = 1 ∨ r = 2 ∨ r = 3 := by omega
  by_cases z0 : sv_bt t 0 = 0
  · exact Or.inr ⟨0, by decide, z0, fun r _ h => absurd h (by omega)⟩
  by_cases z1 : sv_bt t 1 = 0
  · exact Or.inr ⟨1, by decide, z1, fun r _ h => by rcases c r (by omega) with rfl | rfl | rfl | rfl <;> omega⟩
  by_cases z2 : sv_bt t 2 = 0
  · exact Or.inr ⟨2, by decide, z2, fun r _ h => by rcases c r (by omega) with rfl | rfl | rfl | rfl <;> omega⟩
  by_cases z3 : sv_bt t 3 = 0
  · exact Or.inr ⟨3, by decide, z3, fun r _ h => by rcases c r (by omega) with rfl | rfl | rfl | rfl <;> omega⟩
  exact Or.inl (fun r _ h => by rcases c r (by omega) with rfl | rfl | rfl | rfl <;> omega)
theorem j_vc_addKey {k : Nat} {u : SX} {v : SY} (I : i_Rel k u v) (v1 : Int32) (hin : yv_loc v v1) : wpX_addKey (fun r u' => wpY_addKey (fun r' v' => r' = r ∧ i_Rel (k + 4) u' v') v v1) u v1 := by
  obtain ⟨fa, fb, fc, fd, fe, ff, fg, fh, aK, aE, aV, aS, aC, aY, aD, aT, aW⟩ := u
  obtain ⟨gc, bC, bD, bU, bP, bV, bQ, rfl, rfl, R⟩ := I
  refine br_c (fun hb => br_t hb ⟨rfl, rl_mk R⟩) (fun hb => ?_)
  obtain ⟨hT, ha, hY, hm, t, ht, ht0, rfl, hS, hC, hcp⟩ := rl_op R hb
  have hU : ∀ s, s < 4 → bU s = nI (sv_bt t s) := fun s hs => (hS s hs).1
  have RT := rl_T R (ch_tl_P v1 2 0)
  refine sf_findSlot _ v1 t ht fa fb fc fd ff fg fh aK aE aV aS aC aY aT aW aY bU bP (yl_loc hin (fun s hs => (hS s hs).1)) hS hT ?_
  rcases sl_fd_p t bP v1 4 0 with ⟨e, hno⟩ | ⟨s, _, hs, e, hbt, hps⟩
  · rw [e]
    rcases sl_free t with hf | ⟨s, hs, hz, hf⟩
    · refine br_t rfl ⟨5, sf_ak24f _ v1 t ht fa fb fc fd ff fg fh aK aE aV aS aC aY (fun _ => 0) (ch_P v1 2 0) aW ?_ 4 0 rfl hf⟩
      refine br_f hb (sg_find _ v1 t fa fb gc fc fd bC bD bU bP bV bQ hU ?_)
      rw [e]
      exact br_t (by decide) ⟨5, sg_ak23f _ v1 t fa fb gc fc fd bC bD bU bP bV bQ hU ⟨rfl, rl_mk RT⟩ 4 0 rfl hf⟩
    · refine br_t rfl ⟨s + 1, sf_ak24 _ v1 t ht fa fb fc fd ff fg fh aK aE aV aS aC aY (ch_P v1 2 0) aW s hs hz (ch_tl_P _ _ _) (fun aS' h1 h2 h3 => ?_) s 0 (by omega) hf⟩
      refine br_f hb (sg_find _ v1 t fa fb gc fc fd bC bD bU bP bV bQ hU ?_)
      rw [e]
      have hc := sv_set_e s hs t ht
      exact br_t (by decide) ⟨s + 1, sg_ak23 _ v1 t fa fb gc fc fd bC bD bU bP bV bQ hU s hs hz ⟨rfl, rl_mk (rl_po hb ha (ch_tl_P _ _ _) hY hm (sv_set t s) hc.2.1 hc.2.2 (sl_set hS ht s hs v1 h1 h2 h3) hC hcp)⟩ s 0 (by omega) hf⟩
  · rw [e]
    refine br_f (sv_nm1 (by omega)) (br_f hb (sg_find _ v1 t fa fb gc fc fd bC bD bU bP bV bQ hU ?_))
    rw [e]
    exact br_f (nI_pos (by omega)) ⟨rfl, rl_mk RT⟩
theorem j_vc_removeKey {k : Nat} {u : SX} {v : SY} (I : i_Rel k u v) (v1 : Int32) : wpX_removeKey (fun r u' => wpY_removeKey (fun r' v' => r' = r ∧ i_Rel (k + 4) u' v') v v1) u v1 := by
  obtain ⟨fa, fb, fc, fd, fe, ff, fg, fh, aK, aE, aV, aS, aC, aY, aD, aT, aW⟩ := u
  obtain ⟨gc, bC, bD, bU, bP, bV, bQ, rfl, rfl, R⟩ := I
  unfold wpX_removeKey
  dsimp only
  unfold wpY_removeKey
  dsimp only
  by_cases hx : vp_in v1 4
  · refine pa_xSlot_g _ _ _ hx (br_f (by decide) (br_c (fun hb => pa_ySlot_g _ _ _ hx (br_t rfl (br_t hb ⟨rfl, rl_mk R⟩))) (fun hb => ?_)))
    obtain ⟨s, hs, rfl⟩ := vp_in_of hx (by decide)
    have hci : (nI s).toNatClampNeg = s := nI_clamp (by omega)
    obtain ⟨hT, ha, hY, hm, t, ht, ht0, rfl, hS, hC, hcp⟩ := rl_op R hb
    have hU : ∀ s, s < 4 → bU s = nI (sv_bt t s) := fun s hs => (hS s hs).1
    refine sf_isTaken _ s hs t ht fa fb fc fd ff fg fh aK aE aV aS aC aY (fun _ => 0) aT aW (fun hbt => br_f (by decide) (sf_ct _ t ht fa fb fc fd ff fg fh aK aE aV aS aC aY (fun _ => 0) aT aW ?_)) (fun hbt => br_t rfl (pa_ySlot_g _ _ _ hx (br_t rfl (br_f hb ⟨hx, ?_⟩))))
    · refine br_c (fun h1 => pa_ySlot_g _ _ _ hx (br_t rfl (br_f hb ⟨hx, ?_⟩))) (fun h1 => sf_empty _ s hs t ht fa fb fc fd ff fg fh aK aE aV aS aC aY (fun _ => 0) aT aW (fun aS' hf => sf_ct _ _ (sv_clr_e s hs t ht).2 fa fb fc fd ff fg fh aK aE aV aS' aC aY (fun _ => 0) aT aW (pa_ySlot_g _ _ _ hx (br_t rfl (br_f hb ⟨hx, ?_⟩)))))
      · rw [hci, hU s hs, hbt]
        exact br_f (by decide) (sg_cs _ t fa fb gc fc fd bC bD bU bP bV bQ hU (br_t h1 ⟨rfl, rl_mk R⟩))
      · rw [hci, hU s hs, hbt, sy_n0]
        have hn : sv_pop t ≠ 1 := fun z => h1 (by rw [z]; rfl)
        have hS' := sl_clr hS ht s hs hf
        exact br_f (by decide) (sg_cs _ t fa fb gc fc fd bC bD bU bP bV bQ hU (br_f h1 ⟨hx, nm_e (sg_cs _ (sv_clr t s) fa fb gc fc fd bC bD (upd bU s 0) bP bV bQ (fun r hr => (hS' r hr).1) ⟨rfl, rl_mk (rl_po hb ha hT hY hm (sv_clr t s) (sv_clr_e s hs t ht).2 (sv_clr_n s hs t ht hbt hn) hS' hC hcp)⟩)⟩))
    · rw [hci, hU s hs, hbt]
      exact br_t rfl ⟨rfl, rl_mk R⟩
  · exact pa_xSlot_b _ _ _ hx (br_t rfl (pa_ySlot_b _ _ _ hx (br_f (by decide) ⟨rfl, rl_mk R⟩)))
theorem j_vc_changeKey {k : Nat} {u : SX} {v : SY} (I : i_Rel k u v) (v1 : Int32) (v2 : Int32) (hin : yv_loc v v2) : wpX_changeKey (fun r u' => wpY_changeKey (fun r' v' => r' = r ∧ i_Rel (k + 4) u' v') v v1 v2) u v1 v2 := by
  obtain ⟨fa, fb, fc, fd, fe, ff, fg, fh, aK, aE, aV, aS, aC, aY, aD, aT, aW⟩ := u
  obtain ⟨gc, bC, bD, bU, bP, bV, bQ, rfl, rfl, R⟩ := I
  unfold wpX_changeKey
  dsimp only
  unfold wpY_changeKey
  dsimp only
  by_cases hx : vp_in v1 4
  · refine pa_xSlot_g _ _ _ hx (br_f (by decide) (br_c (fun hb => pa_ySlot_g _ _ _ hx (br_t rfl (br_t hb ⟨rfl, rl_mk R⟩))) (fun hb => ?_)))
    obtain ⟨s, hs, rfl⟩ := vp_in_of hx (by decide)
    have hci : (nI s).toNatClampNeg = s := nI_clamp (by omega)
    obtain ⟨hT, ha, hY, hm, t, ht, ht0, rfl, hS, hC, hcp⟩ := rl_op R hb
    have hU : ∀ s, s < 4 → bU s = nI (sv_bt t s) := fun s hs => (hS s hs).1
    have RT := rl_T R (ch_tl_P v2 2 0)
    refine sf_isTaken _ s hs t ht fa fb fc fd ff fg fh aK aE aV aS aC aY (fun _ => 0) aT aW (fun hbt => br_f (by decide) (sf_findSlot _ v2 t ht fa fb fc fd ff fg fh aK aE aV aS aC aY aT aW aY bU bP (yl_loc hin (fun s hs => (hS s hs).1)) hS hT ?_)) (fun hbt => br_t rfl (pa_ySlot_g _ _ _ hx (br_t rfl (br_f hb ⟨hx, ?_⟩))))
    · rcases sl_fd_p t bP v2 4 0 with ⟨e, hno⟩ | ⟨s', _, hs', e, hbt', hps⟩
      · rw [e]
        have hne : ¬ (-1 : Int32) = nI s := fun z => sv_nm1 hs z.symm
        refine br_f hne (br_t rfl (sf_putSlot _ s hs v2 fa fb fc fd (nI t) ff fg fh aK aE aV aS aC aY (ch_P v2 2 0) aW (ch_tl_P _ _ _) (fun aS' h1 h2 h3 => pa_ySlot_g _ _ _ hx (br_t rfl (br_f hb ⟨hx, ?_⟩)))))
        rw [hci, hU s hs, hbt, (sv_set_e s hs t ht).1, sv_set_i s hs t ht hbt]
        refine br_f (by decide) (sg_find _ v2 t fa fb gc fc fd bC bD bU bP bV bQ hU ?_)
        rw [e]
        exact br_f hne (br_t (by decide) ⟨hx, nm_e ⟨rfl, rl_mk (rl_po hb ha (ch_tl_P _ _ _) hY hm t ht ht0 (sl_chg hS s hs hbt v2 h1 h2 h3) hC hcp)⟩⟩)
      · rw [e]
        by_cases hss : s' = s
        · subst hss
          refine br_t rfl (pa_ySlot_g _ _ _ hx (br_t rfl (br_f hb ⟨hx, ?_⟩)))
          rw [hci, hU s' hs, hbt]
          refine br_f (by decide) (sg_find _ v2 t fa fb gc fc fd bC bD bU bP bV bQ hU ?_)
          rw [e]
          exact br_t rfl ⟨rfl, rl_mk RT⟩
        · have hne : ¬ nI s' = nI s := fun z => hss ((nI_eq (by omega) (by omega)).mp z)
          refine br_f hne (br_f (sv_nm1 (by omega)) (pa_ySlot_g _ _ _ hx (br_t rfl (br_f hb ⟨hx, ?_⟩))))
          rw [hci, hU s hs, hbt]
          refine br_f (by decide) (sg_find _ v2 t fa fb gc fc fd bC bD bU bP bV bQ hU ?_)
          rw [e]
          exact br_f hne (br_f (nI_pos (by omega)) ⟨rfl, rl_mk RT⟩)
    · rw [hci, hU s hs, hbt]
      exact br_t rfl ⟨rfl, rl_mk R⟩
  · exact pa_xSlot_b _ _ _ hx (br_t rfl (pa_ySlot_b _ _ _ hx (br_f (by decide) ⟨rfl, rl_mk R⟩)))
theorem sv_or_b : ∀ j, j < 4 → ∀ t, t < 16 → sv_bt t j = 1 → nI (t % 2 ^ j) ||| ((1 : Int32) <<< (nI j &&& 31)) = nI (t % 2 ^ (j + 1)) := by decide +kernel
theorem sv_or_n : ∀ j, j < 4 → ∀ t, t < 16 → sv_bt t j = 0 → t % 2 ^ (j + 1) = t % 2 ^ j := by decide +kernel
theorem sg_sl4 (post : Int32 → Prop) (t : Nat) (ht : t < 16) (ga gb gc gd ge : Int32) (bC bD bU bP bV bQ : Nat → Int32) (ha : ¬ ga = 0) (hU : ∀ s, s < 4 → bU s = nI (sv_bt t s)) (hp : post (nI t)) :
    ∀ (d j : Nat), j + d = 4 → wY_slots_4 post ga gb gc gd ge bC bD bU bP bV bQ (d + 1) (nI (t % 2 ^ j)) (nI j) := by
  intro d
  induction d with
  | zero =>
    intro j hj
    have e : j = 4 := by omega
    subst e
    refine br_t (sv_ge 4 (by omega) (by omega)) ?_
    rw [show t % 2 ^ 4 = t by omega]
    exact hp
  | succ d ih =>
    intro j hj
    refine br_f (sv_ng 4 (by omega) (by decide)) (br_f ha ⟨sy_i4 (by omega), ?_⟩)
    rw [nI_clamp (n := j) (by omega), hU j (by omega)]
    have hn := ih (j + 1) (by omega)
    refine br_c (fun h => ?_) (fun h => nm_r (sv_or_b j (by omega) t ht (sy_b1 h)) (nm_r (nI_1 j) hn))
    rw [sv_or_n j (by omega) t ht (sy_b0 h)] at hn
    exact nm_r (nI_1 j) hn
theorem sg_sl4z (post : Int32 → Prop) (ga gb gc gd ge : Int32) (bC bD bU bP bV bQ : Nat → Int32) (ha : ga = 0) (hp : post 0) :
    ∀ (d j : Nat), j + d = 4 → wY_slots_4 post ga gb gc gd ge bC bD bU bP bV bQ (d + 1) 0 (nI j) := by
  intro d
  induction d with
  | zero => intro j hj; exact br_t (sv_ge 4 (by omega) (by omega)) hp
  | succ d ih =>
    intro j hj
    exact br_f (sv_ng 4 (by omega) (by decide)) (br_t ha (nm_r (nI_1 j) (ih (j + 1) (by omega))))
theorem j_vc_slots {k : Nat} {u : SX} {v : SY} (I : i_Rel k u v) : wpX_slots (fun r => wpY_slots (fun r' => r' = r ∧ i_Rel (k + 4) u v) v) u := by
  obtain ⟨fa, fb, fc, fd, fe, ff, fg, fh, aK, aE, aV, aS, aC, aY, aD, aT, aW⟩ := u
  obtain ⟨gc, bC, bD, bU, bP, bV, bQ, rfl, rfl, R⟩ := I
  have R0 := R
  obtain ⟨hT, h0, hm, ky, t, hky, hY0, hY1, ht, rfl, ht0, hpr, hcp⟩ := R
  unfold wpX_slots
  dsimp only
  by_cases ha : fa = 0
  · have e := ht0 ha
    subst e
    exact ⟨5, sg_sl4z _ fa fb gc fc fd bC bD bU bP bV bQ ha ⟨rfl, rl_mk R0⟩ 4 0 rfl⟩
  · have h := sg_sl4 (fun r' => r' = nI t ∧ i_Rel (k + 4) (fa, fb, fc, fd, nI t, ff, fg, fh, aK, aE, aV, aS, aC, aY, (fun _ => 0), aT, aW) (fa, fb, gc, fc, fd, bC, bD, bU, bP, bV, bQ)) t ht fa fb gc fc fd bC bD bU bP bV bQ ha (fun s hs => ((hpr ha).2.1 s hs).1) ⟨rfl, rl_mk R0⟩ 4 0 rfl
    rw [show t % 2 ^ 0 = 0 by omega] at h
    exact ⟨5, h⟩
theorem j_vc_slotOf {k : Nat} {u : SX} {v : SY} (I : i_Rel k u v) (v1 : Int32) (hin : yv_loc v v1) : wpX_slotOf (fun r u' => wpY_slotOf (fun r' => r' = r ∧ i_Rel (k + 4) u' v) v v1) u v1 := by
  obtain ⟨fa, fb, fc, fd, fe, ff, fg, fh, aK, aE, aV, aS, aC, aY, aD, aT, aW⟩ := u
  obtain ⟨gc, bC, bD, bU, bP, bV, bQ, rfl, rfl, R⟩ := I
  refine br_c (fun ha => br_t ha ⟨rfl, rl_mk R⟩) (fun ha => ?_)
  have hY := rl_Y R
  have RL := rl_L R (ch_tl_0 16)
  have RT := rl_T R (ch_tl_P v1 2 0)
  obtain ⟨hT, h0, hm, ky, t, hky, hY0, hY1, ht, rfl, ht0, hpr, hcp⟩ := R
  obtain ⟨htn, hS, hC⟩ := hpr ha
  have hU : ∀ s, s < 4 → bU s = nI (sv_bt t s) := fun s hs => (hS s hs).1
  refine sf_findSlot _ v1 t ht fa fb fc fd ff fg fh aK aE aV aS aC aY aT aW ky bU bP (yl_loc hin (fun s hs => (hS s hs).1)) hS hT ?_
  refine br_c (fun hb => ?_) (fun hb => ?_)
  · subst hb
    refine sf_forget _ fa 0 fc fd (nI t) ff fg fh aK aE aV aS aC aY (fun _ => 0) (ch_P v1 2 0) aW (ch_tl_P _ _ _) hY (fun aW' => ?_)
    rcases sl_fd_p t bP v1 4 0 with ⟨e, hno⟩ | ⟨s, _, hs, e, hbt, hps⟩
    · rw [e]
      refine br_t rfl (br_f ha (sg_find _ v1 t fa 0 gc fc fd bC bD bU bP bV bQ hU ?_))
      rw [e]
      exact br_f (by decide) ⟨rfl, rl_mk RL⟩
    · rw [e]
      refine br_f (sv_nm1 (by omega)) (br_f ha (sg_find _ v1 t fa 0 gc fc fd bC bD bU bP bV bQ hU ?_))
      rw [e]
      exact br_t (sv_ge0 (by omega)) ⟨rfl, rl_mk RL⟩
  · rcases sl_fd_p t bP v1 4 0 with ⟨e, hno⟩ | ⟨s, _, hs, e, hbt, hps⟩
    · rw [e]
      refine br_t rfl (br_f ha (sg_find _ v1 t fa fb gc fc fd bC bD bU bP bV bQ hU ?_))
      rw [e]
      exact br_f (by decide) ⟨rfl, rl_mk RT⟩
    · rw [e]
      refine br_f (sv_nm1 (by omega)) (br_f ha (sg_find _ v1 t fa fb gc fc fd bC bD bU bP bV bQ hU ?_))
      rw [e]
      exact br_t (sv_ge0 (by omega)) ⟨rfl, rl_mk RT⟩
