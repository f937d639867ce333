theorem sv_ca (a j : Nat) (h : a + j < 2 ^ 31) : (nI a + nI j).toNatClampNeg = a + j := by rw [nI_add]; exact nI_clamp h
theorem ch_ie (n : Nat) (P Q : Nat → Int32) (hP : ch_tl n P) (hQ : ch_tl n Q) : (fun i => if i < n then P i else Q i) = P := by
  funext i
  by_cases h : i < n
  · rw [if_pos h]
  · rw [if_neg h, hP i (by omega), hQ i (by omega)]
/-! the key -/
def ch_key (x fm : Int32) : Nat → Int32 := fun i => if i < 8 then ch_P x 1 fm i else 0
theorem ch_tl_k (x fm : Int32) : ch_tl 8 (ch_key x fm) := fun i hi => if_neg (by omega)
theorem sf_mk12 (post : SX → Prop) (fa fb fc fd fe ff fg fh : Int32) (aK aE aV aS aC aY aD aT aW : Nat → Int32) (hp : post (fa, fb, fc, fd, fe, ff, fg, fh, aK, aE, aV, aS, aC, (fun i => if i < 8 then aT i else aY i), aD, aT, aW)) :
    ∀ (d j : Nat), j + d = 8 → wX_makeKey_12 post fa fb fc fd fe ff fg fh (d + 1) (nI j) aK aE aV aS aC (fun i => if i < j then aT i else aY i) aD aT aW := by
  intro d
  induction d with
  | zero => intro j hj; have e : j = 8 := by omega
            subst e; exact br_t (sv_ge 8 (by omega) (by omega)) hp
  | succ d ih =>
    intro j hj
    have hc : (nI j).toNatClampNeg = j := nI_clamp (by omega)
    refine br_f (sv_ng 8 (by omega) (by decide)) ⟨sv_i16 (by omega), sv_i8 (by omega), nm_r ?_ (nm_r (nI_1 j) (ih (j + 1) (by omega)))⟩
    rw [hc]
    exact ch_ui _ _ j _ rfl
theorem sf_makeKey (post : SX → Prop) (fa fb fc fd fe ff fg fh : Int32) (aK aE aV aS aC aY aT aW : Nat → Int32) (x : Int32) (hT : ch_tl 16 aT) (hY : ch_tl 8 aY) (hp : post (fa, fb, fc, fd, fe, ff, fg, fh, aK, aE, aV, aS, aC, ch_key x fh, (fun _ => 0), ch_P x 1 fh, aW)) : wpX_makeKey post (fa, fb, fc, fd, fe, ff, fg, fh, aK, aE, aV, aS, aC, aY, (fun _ => 0), aT, aW) x := by
  unfold wpX_makeKey
  refine sf_stream _ fa fb fc fd fe ff fg fh aK aE aV aS aC aY aT aW _ _ _ hT ⟨9, sf_mk12 post fa fb fc fd fe ff fg fh aK aE aV aS aC aY (fun _ => 0) (ch_P x 1 fh) aW ?_ 8 0 rfl⟩
  have e : (fun i => if i < 8 then ch_P x 1 fh i else aY i) = ch_key x fh := by
    funext i
    show (if i < 8 then ch_P x 1 fh i else aY i) = (if i < 8 then ch_P x 1 fh i else 0)
    by_cases h : i < 8
    · rw [if_pos h, if_pos h]
    · rw [if_neg h, if_neg h]; exact hY i (by omega)
  rw [e]
  exact hp
/-! the seed from the key -/
def ch_ks (ky : Nat → Int32) (a b c : Int32) : Nat → Int32 := upd (upd (upd (fun i => if 4 ≤ i ∧ i < 12 then ky (i - 4) else 0) 12 a) 13 b) 14 c
def ch_S (ky : Nat → Int32) (a b c : Int32) : Nat → Int32 := ch_F (ch_ks ky a b c)
theorem ch_tl_ks (ky : Nat → Int32) (a b c : Int32) : ch_tl 16 (ch_ks ky a b c) := by
  refine ch_tl_u (ch_tl_u (ch_tl_u (fun i hi => ?_) (by decide)) (by decide)) (by decide)
  exact if_neg (by omega)
theorem ch_tl_S (ky : Nat → Int32) (a b c : Int32) : ch_tl 16 (ch_S ky a b c) := ch_tl_F (ch_tl_ks ky a b c)
theorem sf_sfk2 (post : SX → Prop) (i : Nat) (hi : i < 12) (x2 : Int32) (fa fb fc fd fe ff fg fh : Int32) (aK aE aV aS aC aY aT aW : Nat → Int32) (hp : post (fa, fb, fc, fd, fe, ff, fg, fh, aK, aE, aV, aS, aC, aY, ch_ks aY (nI i) x2 (aV i), aT, aW)) :
    ∀ (d j : Nat), j + d = 8 → wX_seedFromKey_2 post (nI i) x2 fa fb fc fd fe ff fg fh (d + 1) (nI j) aK aE aV aS aC aY (fun q => if 4 ≤ q ∧ q < 4 + j then aY (q - 4) else 0) aT aW := by
  intro d
  induction d with
  | zero =>
    intro j hj
    have e : j = 8 := by omega
    subst e
    refine br_t (sv_ge 8 (by omega) (by omega)) (nm_e (nm_e ⟨sv_i12 hi, nm_e ?_⟩))
    rw [nI_clamp (n := i) (by omega)]
    exact hp
  | succ d ih =>
    intro j hj
    have hc : (nI j).toNatClampNeg = j := nI_clamp (by omega)
    have hc4 : ((4 : Int32) + nI j).toNatClampNeg = 4 + j := sv_ca 4 j (by omega)
    refine br_f (sv_ng 8 (by omega) (by decide)) ⟨sv_i8 (by omega), sv_ia 4 j 16 (by omega) (by decide), nm_r (e' := (fun q => if 4 ≤ q ∧ q < 4 + (j + 1) then aY (q - 4) else 0)) ?_ (nm_r (nI_1 j) (ih (j + 1) (by omega)))⟩
    rw [hc, hc4]
    funext q
    by_cases hq : q = 4 + j
    · subst hq
      rw [pk_us, if_pos (by omega)]
      exact congrArg aY (by omega)
    · rw [pk_un hq]
      by_cases h : 4 ≤ q ∧ q < 4 + j
      · rw [if_pos h, if_pos (by omega)]
      · rw [if_neg h, if_neg (by omega)]
theorem ch_z4 (ky : Nat → Int32) : (fun q => if 4 ≤ q ∧ q < 4 + 0 then ky (q - 4) else 0) = (fun _ => (0 : Int32)) := by
  funext q
  exact if_neg (by omega)
theorem sf_seedFromKey (post : SX → Prop) (i : Nat) (hi : i < 12) (x2 : Int32) (fa fb fc fd fe ff fg fh : Int32) (aK aE aV aS aC aY aT aW : Nat → Int32) (hp : post (fa, fb, fc, fd, fe, ff, fg, fh, aK, aE, aV, aS, aC, aY, ch_ks aY (nI i) x2 (aV i), aT, aW)) : wpX_seedFromKey post (fa, fb, fc, fd, fe, ff, fg, fh, aK, aE, aV, aS, aC, aY, (fun _ => 0), aT, aW) (nI i) x2 := by
  have h := sf_sfk2 post i hi x2 fa fb fc fd fe ff fg fh aK aE aV aS aC aY aT aW hp 8 0 rfl
  rw [ch_z4] at h
  exact ⟨9, h⟩
/-! sums, rows, sealing -/
def ch_sm (K : Nat → Int32) (w : Nat) : Nat → Int32
  | 0 => 625341585
  | j + 1 => (ch_sm K w j ^^^ K (w + j)) * (-1640531535)
theorem ch_sm_c {K L : Nat → Int32} {w v : Nat} : ∀ n : Nat, (∀ c, c < n → K (w + c) = L (v + c)) → ch_sm K w n = ch_sm L v n
  | 0, _ => rfl
  | n + 1, h => by
    show (ch_sm K w n ^^^ K (w + n)) * _ = (ch_sm L v n ^^^ L (v + n)) * _
    rw [ch_sm_c n (fun c hc => h c (by omega)), h n (by omega)]
theorem sf_sumW6 (post : Int32 → Prop) (fa fb fc fd fe ff fg fh : Int32) (aK aE aV aS aC aY aD aT aW : Nat → Int32) (hp : post (ch_sm aW 0 8)) :
    ∀ (d j : Nat), j + d = 8 → wX_sumOf__work_6 post 0 fa fb fc fd fe ff fg fh aK aE aV aS aC aY aD aT aW (d + 1) (ch_sm aW 0 j) (nI j) := by
  intro d
  induction d with
  | zero => intro j hj; have e : j = 8 := by omega
            subst e; exact br_t (sv_ge 8 (by omega) (by omega)) hp
  | succ d ih =>
    intro j hj
    have hc : ((0 : Int32) + nI j).toNatClampNeg = 0 + j := sv_ca 0 j (by omega)
    refine br_f (sv_ng 8 (by omega) (by decide)) ⟨sv_ia 0 j 9 (by omega) (by decide), nm_r (e' := ch_sm aW 0 (j + 1)) ?_ (nm_r (nI_1 j) (ih (j + 1) (by omega)))⟩
    rw [hc]; rfl
theorem sf_sumW (post : Int32 → Prop) (fa fb fc fd fe ff fg fh : Int32) (aK aE aV aS aC aY aD aT aW : Nat → Int32) (hp : post (ch_sm aW 0 8)) : wpX_sumOf__work post (fa, fb, fc, fd, fe, ff, fg, fh, aK, aE, aV, aS, aC, aY, aD, aT, aW) 0 :=
  ⟨9, sf_sumW6 post fa fb fc fd fe ff fg fh aK aE aV aS aC aY aD aT aW hp 8 0 rfl⟩
theorem sf_sumK6 (post : Int32 → Prop) (w : Nat) (hw : w + 9 ≤ 216) (fa fb fc fd fe ff fg fh : Int32) (aK aE aV aS aC aY aD aT aW : Nat → Int32) (hp : post (ch_sm aK w 8)) :
    ∀ (d j : Nat), j + d = 8 → wX_sumOf__kept_6 post (nI w) fa fb fc fd fe ff fg fh aK aE aV aS aC aY aD aT aW (d + 1) (ch_sm aK w j) (nI j) := by
  intro d
  induction d with
  | zero => intro j hj; have e : j = 8 := by omega
            subst e; exact br_t (sv_ge 8 (by omega) (by omega)) hp
  | succ d ih =>
    intro j hj
    refine br_f (sv_ng 8 (by omega) (by decide)) ⟨sv_ia w j 216 (by omega) (by decide), nm_r (e' := ch_sm aK w (j + 1)) ?_ (nm_r (nI_1 j) (ih (j + 1) (by omega)))⟩
    rw [sv_ca w j (by omega)]; rfl
theorem sf_sumK (post : Int32 → Prop) (w : Nat) (hw : w + 9 ≤ 216) (fa fb fc fd fe ff fg fh : Int32) (aK aE aV aS aC aY aD aT aW : Nat → Int32) (hp : post (ch_sm aK w 8)) : wpX_sumOf__kept post (fa, fb, fc, fd, fe, ff, fg, fh, aK, aE, aV, aS, aC, aY, aD, aT, aW) (nI w) :=
  ⟨9, sf_sumK6 post w hw fa fb fc fd fe ff fg fh aK aE aV aS aC aY aD aT aW hp 8 0 rfl⟩
def ch_w8 (W T : Nat → Int32) : Nat → Int32 := fun i => if i < 8 then W i ^^^ T i else W i
def ch_sl (W T : Nat → Int32) : Nat → Int32 := upd (ch_w8 W T) 8 (ch_sm (ch_w8 W T) 0 8)
theorem sf_seal12 (post : SX → Prop) (fa fb fc fd fe ff fg fh : Int32) (aK aE aV aS aC aY aD aT aW : Nat → Int32) (hp : post (fa, fb, fc, fd, fe, ff, fg, fh, aK, aE, aV, aS, aC, aY, aD, aT, ch_sl aW aT)) :
    ∀ (d j : Nat), j + d = 8 → wX_sealWork_12 post fa fb fc fd fe ff fg fh (d + 1) (nI j) aK aE aV aS aC aY aD aT (fun i => if i < j then aW i ^^^ aT i else aW i) := by
  intro d
  induction d with
  | zero =>
    intro j hj
    have e : j = 8 := by omega
    subst e
    exact br_t (sv_ge 8 (by omega) (by omega)) (sf_sumW _ fa fb fc fd fe ff fg fh aK aE aV aS aC aY aD aT (ch_w8 aW aT) (nm_e hp))
  | succ d ih =>
    intro j hj
    have hc : (nI j).toNatClampNeg = j := nI_clamp (by omega)
    refine br_f (sv_ng 8 (by omega) (by decide)) ⟨sv_i9 (by omega), sv_i16 (by omega), sv_i9 (by omega), nm_r ?_ (nm_r (nI_1 j) (ih (j + 1) (by omega)))⟩
    rw [hc]
    refine ch_ui (fun i => aW i ^^^ aT i) aW j _ ?_
    show (if j < j then aW j ^^^ aT j else aW j) ^^^ aT j = _
    rw [if_neg (by omega)]
theorem sf_sealWork (post : SX → Prop) (i : Nat) (hi : i < 12) (x2 : Int32) (fa fb fc fd fe ff fg fh : Int32) (aK aE aV aS aC aY aT aW : Nat → Int32) (hT : ch_tl 16 aT) (hp : post (fa, fb, fc, fd, fe, ff, fg, fh, aK, aE, aV, aS, aC, aY, (fun _ => 0), ch_S aY (nI i) x2 (aV i), ch_sl aW (ch_S aY (nI i) x2 (aV i)))) : wpX_sealWork post (fa, fb, fc, fd, fe, ff, fg, fh, aK, aE, aV, aS, aC, aY, (fun _ => 0), aT, aW) (nI i) x2 :=
  sf_seedFromKey _ i hi x2 fa fb fc fd fe ff fg fh aK aE aV aS aC aY aT aW (sf_scramble _ fa fb fc fd fe ff fg fh aK aE aV aS aC aY (ch_ks aY (nI i) x2 (aV i)) aT aW (ch_tl_ks _ _ _ _) hT
    ⟨9, sf_seal12 post fa fb fc fd fe ff fg fh aK aE aV aS aC aY (fun _ => 0) (ch_S aY (nI i) x2 (aV i)) aW hp 8 0 rfl⟩)
def ch_row (i : Nat) (e : Int32) : Nat := (2 * i + e.toBitVec.toNat % 2 ^ 1) * 9
theorem ch_row_l {i : Nat} (hi : i < 12) (e : Int32) : ch_row i e + 9 ≤ 216 := by
  have : e.toBitVec.toNat % 2 ^ 1 < 2 := Nat.mod_lt _ (by decide)
  unfold ch_row
  omega
theorem ch_row_e (i : Nat) (e : Int32) : (2 * nI i + (e &&& 1)) * 9 = nI (ch_row i e) := by
  rw [pk_and e (m := 1) 1 (by decide)]
  show (nI 2 * nI i + nI _) * nI 9 = _
  rw [pk_mul, nI_add, pk_mul]
  rfl
theorem sf_rowOf (post : Int32 → Prop) (i : Nat) (e : Int32) (fa fb fc fd fe ff fg fh : Int32) (aK aE aV aS aC aY aD aT aW : Nat → Int32) (hp : post (nI (ch_row i e))) : wpX_rowOf post (fa, fb, fc, fd, fe, ff, fg, fh, aK, aE, aV, aS, aC, aY, aD, aT, aW) (nI i) e := by
  show post ((2 * nI i + (e &&& 1)) * 9)
  rw [ch_row_e]
  exact hp
def ch_kw (K W : Nat → Int32) (w j : Nat) : Nat → Int32 := fun q => if w ≤ q ∧ q < w + j then W (q - w) else K q
theorem ch_kw_s (K W : Nat → Int32) (w j : Nat) : upd (ch_kw K W w j) (w + j) (W j) = ch_kw K W w (j + 1) := by
  funext q
  show upd (ch_kw K W w j) (w + j) (W j) q = (if w ≤ q ∧ q < w + (j + 1) then W (q - w) else K q)
  by_cases hq : q = w + j
  · subst hq
    rw [pk_us, if_pos (by omega)]
    exact congrArg W (by omega)
  · rw [pk_un hq]
    show (if w ≤ q ∧ q < w + j then W (q - w) else K q) = _
    by_cases h : w ≤ q ∧ q < w + j
    · rw [if_pos h, if_pos (by omega)]
    · rw [if_neg h, if_neg (by omega)]
theorem ch_kw_0 (K W : Nat → Int32) (w : Nat) : ch_kw K W w 0 = K := by
  funext q
  exact if_neg (by omega)
theorem sf_kw2 (post : SX → Prop) (w : Nat) (hw : w + 9 ≤ 216) (x2 : Int32) (fa fb fc fd fe ff fg fh : Int32) (aK aE aV aS aC aY aD aT aW : Nat → Int32) (hp : ∀ j, j ≤ 9 → (j < 9 → x2 ≤ nI j) → post (fa, fb, fc, fd, fe, ff, fg, fh, ch_kw aK aW w j, aE, aV, aS, aC, aY, aD, aT, aW)) :
    ∀ (d j : Nat), j + d = 9 → wX_keepWork_2 post (nI w) x2 fa fb fc fd fe ff fg fh (d + 1) (nI j) (ch_kw aK aW w j) aE aV aS aC aY aD aT aW := by
  intro d
  induction d with
  | zero => intro j hj; exact br_t (sv_ge 9 (by omega) (by omega)) (hp j (by omega) (fun h => absurd h (by omega)))
  | succ d ih =>
    intro j hj
    have hc : (nI j).toNatClampNeg = j := nI_clamp (by omega)
    refine br_f (sv_ng 9 (by omega) (by decide)) (br_c (fun h => hp j (by omega) (fun _ => h)) (fun _ => ⟨sv_i9 (by omega), sv_ia w j 216 (by omega) (by decide), nm_r (e' := ch_kw aK aW w (j + 1)) ?_ (nm_r (nI_1 j) (ih (j + 1) (by omega)))⟩))
    rw [hc, sv_ca w j (by omega)]
    exact ch_kw_s aK aW w j
theorem sf_keepWork (post : SX → Prop) (w : Nat) (hw : w + 9 ≤ 216) (x2 : Int32) (fa fb fc fd fe ff fg fh : Int32) (aK aE aV aS aC aY aD aT aW : Nat → Int32) (hp : ∀ j, j ≤ 9 → (j < 9 → x2 ≤ nI j) → post (fa, fb, fc, fd, fe, ff, fg, fh, ch_kw aK aW w j, aE, aV, aS, aC, aY, aD, aT, aW)) : wpX_keepWork post (fa, fb, fc, fd, fe, ff, fg, fh, aK, aE, aV, aS, aC, aY, aD, aT, aW) (nI w) x2 := by
  have h := sf_kw2 post w hw x2 fa fb fc fd fe ff fg fh aK aE aV aS aC aY aD aT aW hp 9 0 rfl
  rw [ch_kw_0] at h
  exact ⟨10, h⟩
theorem sf_keep9 (post : SX → Prop) (w : Nat) (hw : w + 9 ≤ 216) (fa fb fc fd fe ff fg fh : Int32) (aK aE aV aS aC aY aD aT aW : Nat → Int32) (hp : post (fa, fb, fc, fd, fe, ff, fg, fh, ch_kw aK aW w 9, aE, aV, aS, aC, aY, aD, aT, aW)) : wpX_keepWork post (fa, fb, fc, fd, fe, ff, fg, fh, aK, aE, aV, aS, aC, aY, aD, aT, aW) (nI w) 9 := by
  refine sf_keepWork post w hw 9 fa fb fc fd fe ff fg fh aK aE aV aS aC aY aD aT aW (fun j hj hx => ?_)
  by_cases h : j < 9
  · exact absurd (hx h) (sv_ng 9 h (by decide))
  · have e : j = 9 := by omega
    subst e
    exact hp
/-! a row that is sound: its sum is right, and under the stream st it holds the cells C -/
def ch_ok (K : Nat → Int32) (w : Nat) (st C : Nat → Int32) : Prop := K (w + 8) = ch_sm K w 8 ∧ ∀ c, c < 8 → K (w + c) ^^^ st c = C c
theorem ch_ok_c {K L : Nat → Int32} {w : Nat} {st C : Nat → Int32} (h : ∀ c, c < 9 → L (w + c) = K (w + c)) (k : ch_ok K w st C) : ch_ok L w st C :=
  ⟨by rw [h 8 (by decide), k.1]; exact ch_sm_c 8 (fun c hc => (h c (by omega)).symm), fun c hc => by rw [h c (by omega)]; exact k.2 c hc⟩
theorem ch_xx (a b : Int32) : (a ^^^ b) ^^^ b = a := by rw [Int32.xor_assoc, Int32.xor_self, Int32.xor_zero]
theorem ch_kw_at (K W : Nat → Int32) (w c : Nat) (hc : c < 9) : ch_kw K W w 9 (w + c) = W c := by
  show (if w ≤ w + c ∧ w + c < w + 9 then W (w + c - w) else K (w + c)) = W c
  rw [if_pos (by omega)]
  exact congrArg W (by omega)
theorem ch_kw_off (K W : Nat → Int32) (w j q : Nat) (h : q < w ∨ w + 9 ≤ q) (hj : j ≤ 9) : ch_kw K W w j q = K q := if_neg (by omega)
theorem ch_ok_n (K W st : Nat → Int32) (w : Nat) : ch_ok (ch_kw K (ch_sl W st) w 9) w st W := by
  have h8 : ∀ c, c < 8 → ch_kw K (ch_sl W st) w 9 (w + c) = W c ^^^ st c := fun c hc => by
    rw [ch_kw_at _ _ _ _ (by omega)]
    show upd (ch_w8 W st) 8 _ c = _
    rw [pk_un (by omega)]
    exact if_pos hc
  refine ⟨?_, fun c hc => by rw [h8 c hc]; exact ch_xx _ _⟩
  rw [ch_kw_at _ _ _ _ (by decide)]
  show upd (ch_w8 W st) 8 (ch_sm (ch_w8 W st) 0 8) 8 = _
  rw [pk_us]
  refine (ch_sm_c 8 (fun c hc => ?_)).symm
  rw [h8 c hc]
  show _ = (if 0 + c < 8 then _ else _)
  rw [if_pos (by omega), Nat.zero_add]
