theorem sv_i8 {j : Nat} (h : j < 8) : vp_in (nI j) 8 := vp_in_nI h (by decide)
theorem sv_i9 {j : Nat} (h : j < 9) : vp_in (nI j) 9 := vp_in_nI h (by decide)
theorem sv_i12 {j : Nat} (h : j < 12) : vp_in (nI j) 12 := vp_in_nI h (by decide)
theorem sv_i16 {j : Nat} (h : j < 16) : vp_in (nI j) 16 := vp_in_nI h (by decide)
theorem sv_i64 {j : Nat} (h : j < 64) : vp_in (nI j) 64 := vp_in_nI h (by decide)
theorem sv_i216 {j : Nat} (h : j < 216) : vp_in (nI j) 216 := vp_in_nI h (by decide)
theorem sv_ia (a j N : Nat) (h : a + j < N) (hN : N < 2 ^ 31) : vp_in (nI a + nI j) N := by
  rw [nI_add]; exact vp_in_nI h hN
theorem sv_ge (b : Nat) {j : Nat} (h : b ≤ j) (hj : j < 2 ^ 31) : nI b ≤ nI j := nI_le h hj
theorem sv_ng (b : Nat) {j : Nat} (h : j < b) (hb : b < 2 ^ 31) : ¬ nI b ≤ nI j := nI_ge h hb
/-! the block function, as the class's walk has it -/
def ch_rot (x l r : Int32) : Int32 := (x <<< (l &&& 31)) ||| ((x.toUInt32 >>> (r.toUInt32 &&& Int32.toUInt32 31)).toInt32)
def ch_qr (T : Nat → Int32) (a b c d : Nat) : Nat → Int32 :=
  let p1 := T a + T b
  let s2 := ch_rot (T d ^^^ p1) 16 16
  let r1 := T c + s2
  let q2 := ch_rot (T b ^^^ r1) 12 20
  let p2 := p1 + q2
  let s4 := ch_rot (s2 ^^^ p2) 8 24
  let r2 := r1 + s4
  let q4 := ch_rot (q2 ^^^ r2) 7 25
  upd (upd (upd (upd T a p2) b q4) c r2) d s4
def ch_dr (T : Nat → Int32) : Nat → Int32 :=
  ch_qr (ch_qr (ch_qr (ch_qr (ch_qr (ch_qr (ch_qr (ch_qr T 0 4 8 12) 1 5 9 13) 2 6 10 14) 3 7 11 15) 0 5 10 15) 1 6 11 12) 2 7 8 13) 3 4 9 14
def ch_it : Nat → (Nat → Int32) → (Nat → Int32)
  | 0, T => T
  | n + 1, T => ch_it n (ch_dr T)
def ch_sd (D : Nat → Int32) : Nat → Int32 := upd (upd (upd (upd D 0 1634760805) 1 857760878) 2 2036477234) 3 1797285236
def ch_F (D : Nat → Int32) : Nat → Int32 := fun i => ch_it 10 (ch_sd D) i + ch_sd D i
def ch_tl (n : Nat) (T : Nat → Int32) : Prop := ∀ i, n ≤ i → T i = 0
theorem ch_tl_0 (n : Nat) : ch_tl n (fun _ => 0) := fun _ _ => rfl
theorem ch_tl_u {n k : Nat} {T : Nat → Int32} {x : Int32} (h : ch_tl n T) (hk : k < n) : ch_tl n (upd T k x) := fun i hi => by
  rw [pk_un (by omega)]; exact h i hi
theorem ch_tl_q {T : Nat → Int32} {a b c d : Nat} (h : ch_tl 16 T) (ha : a < 16) (hb : b < 16) (hc : c < 16) (hd : d < 16) : ch_tl 16 (ch_qr T a b c d) :=
  ch_tl_u (ch_tl_u (ch_tl_u (ch_tl_u h ha) hb) hc) hd
theorem ch_tl_d {T : Nat → Int32} (h : ch_tl 16 T) : ch_tl 16 (ch_dr T) := by
  unfold ch_dr
  exact ch_tl_q (ch_tl_q (ch_tl_q (ch_tl_q (ch_tl_q (ch_tl_q (ch_tl_q (ch_tl_q h (by decide) (by decide) (by decide) (by decide)) (by decide) (by decide) (by decide) (by decide)) (by decide) (by decide) (by decide) (by decide)) (by decide) (by decide) (by decide) (by decide)) (by decide) (by decide) (by decide) (by decide)) (by decide) (by decide) (by decide) (by decide)) (by decide) (by decide) (by decide) (by decide)) (by decide) (by decide) (by decide) (by decide)
theorem ch_tl_i : ∀ (n : Nat) {T : Nat → Int32}, ch_tl 16 T → ch_tl 16 (ch_it n T)
  | 0, _, h => h
  | n + 1, _, h => ch_tl_i n (ch_tl_d h)
theorem ch_tl_s {D : Nat → Int32} (h : ch_tl 16 D) : ch_tl 16 (ch_sd D) :=
  ch_tl_u (ch_tl_u (ch_tl_u (ch_tl_u h (by decide)) (by decide)) (by decide)) (by decide)
theorem ch_tl_F {D : Nat → Int32} (h : ch_tl 16 D) : ch_tl 16 (ch_F D) := fun i hi => by
  show ch_it 10 (ch_sd D) i + ch_sd D i = 0
  rw [ch_tl_i 10 (ch_tl_s h) i hi, ch_tl_s h i hi]; rfl
theorem sf_quarter (post : SX → Prop) (fa fb fc fd fe ff fg fh : Int32) (aK aE aV aS aC aY aD aT aW : Nat → Int32) (p0 p1 p2 p3 : Int32) (a b c d : Nat) (ha : a < 16) (hb : b < 16) (hc : c < 16) (hd : d < 16)
    (e0 : p0 = nI a) (e1 : p1 = nI b) (e2 : p2 = nI c) (e3 : p3 = nI d)
    (hp : post (fa, fb, fc, fd, fe, ff, fg, fh, aK, aE, aV, aS, aC, aY, aD, ch_qr aT a b c d, aW)) : wpX_quarterRound post (fa, fb, fc, fd, fe, ff, fg, fh, aK, aE, aV, aS, aC, aY, aD, aT, aW) p0 p1 p2 p3 := by
  subst e0 e1 e2 e3
  unfold wpX_quarterRound
  dsimp only
  rw [nI_clamp (n := a) (by omega), nI_clamp (n := b) (by omega), nI_clamp (n := c) (by omega), nI_clamp (n := d) (by omega)]
  exact ⟨sv_i16 ha, nm_e ⟨sv_i16 hb, nm_e ⟨sv_i16 hc, nm_e ⟨sv_i16 hd, nm_e (nm_e (nm_e (nm_e (nm_e (nm_e (nm_e (nm_e (nm_e (nm_e (nm_e (nm_e (nm_e
    ⟨sv_i16 ha, nm_e ⟨sv_i16 hb, nm_e ⟨sv_i16 hc, nm_e ⟨sv_i16 hd, nm_e hp⟩⟩⟩⟩))))))))))))⟩⟩⟩⟩
theorem ch_ui (P Q : Nat → Int32) (j : Nat) (x : Int32) (hx : x = P j) : upd (fun i => if i < j then P i else Q i) j x = fun i => if i < j + 1 then P i else Q i := by
  funext i
  by_cases hij : i = j
  · subst hij
    rw [pk_us, if_pos (by omega), hx]
  · rw [pk_un hij]
    by_cases h : i < j
    · rw [if_pos h, if_pos (by omega)]
    · rw [if_neg h, if_neg (by omega)]
theorem sf_scr144 (post : SX → Prop) (fa fb fc fd fe ff fg fh : Int32) (aK aE aV aS aC aY aD aT aW : Nat → Int32) (hD : ch_tl 16 aD) (hp : post (fa, fb, fc, fd, fe, ff, fg, fh, aK, aE, aV, aS, aC, aY, (fun _ => 0), (fun i => aT i + aD i), aW)) :
    ∀ (d j : Nat), j + d = 16 → wX_scramble_144 post fa fb fc fd fe ff fg fh (d + 1) (nI j) aK aE aV aS aC aY (fun i => if i < j then 0 else aD i) (fun i => if i < j then aT i + aD i else aT i) aW := by
  intro d
  induction d with
  | zero =>
    intro j hj
    have hj16 : j = 16 := by omega
    subst hj16
    refine br_t (sv_ge 16 (by omega) (by omega)) ?_
    have e1 : (fun i => if i < 16 then 0 else aD i) = (fun _ => (0 : Int32)) := by
      funext i
      by_cases h : i < 16
      · rw [if_pos h]
      · rw [if_neg h]; exact hD i (by omega)
    have e2 : (fun i => if i < 16 then aT i + aD i else aT i) = (fun i => aT i + aD i) := by
      funext i
      by_cases h : i < 16
      · rw [if_pos h]
      · rw [if_neg h, hD i (by omega), Int32.add_zero]
    rw [e1, e2]
    exact hp
  | succ d ih =>
    intro j hj
    have hi : vp_in (nI j) 16 := sv_i16 (by omega)
    have hc : (nI j).toNatClampNeg = j := nI_clamp (by omega)
    refine br_f (sv_ng 16 (by omega) (by decide)) ⟨hi, hi, hi, nm_r (e' := (fun i => if i < j + 1 then aT i + aD i else aT i)) ?_ ⟨hi, nm_r (e' := (fun i => if i < j + 1 then 0 else aD i)) ?_ (nm_r (nI_1 j) (ih (j + 1) (by omega)))⟩⟩
    · rw [hc]
      refine ch_ui (fun i => aT i + aD i) aT j _ ?_
      show (if j < j then _ else aT j) + (if j < j then _ else aD j) = _
      rw [if_neg (Nat.lt_irrefl j), if_neg (Nat.lt_irrefl j)]
    · rw [hc]
      exact ch_ui (fun _ => 0) aD j _ rfl
theorem sf_scr97 (post : SX → Prop) (J : Int32 → Int32 → Int32 → Int32 → Int32 → Int32 → Int32 → Int32 → Int32 → (Nat → Int32) → (Nat → Int32) → (Nat → Int32) → (Nat → Int32) → (Nat → Int32) → (Nat → Int32) → (Nat → Int32) → (Nat → Int32) → (Nat → Int32) → Prop) (x1 : Int32) (fa fb fc fd fe ff fg fh : Int32) (aK aE aV aS aC aY aD aT aW : Nat → Int32)
    (hJ : ∀ y : Int32, y = x1 + 1 → J y fa fb fc fd fe ff fg fh aK aE aV aS aC aY aD (ch_qr (ch_qr (ch_qr (ch_qr aT 0 5 10 15) 1 6 11 12) 2 7 8 13) 3 4 9 14) aW) :
    wX_scramble_97 post J x1 5 0 fa fb fc fd fe ff fg fh aK aE aV aS aC aY aD aT aW :=
  br_f (by decide) (sf_quarter _ fa fb fc fd fe ff fg fh aK aE aV aS aC aY aD aT aW _ _ _ _ 0 5 10 15 (by decide) (by decide) (by decide) (by decide) (by decide) (by decide) (by decide) (by decide) (nm_r (e' := 1) (by decide)
  (br_f (by decide) (sf_quarter _ fa fb fc fd fe ff fg fh aK aE aV aS aC aY aD (ch_qr aT 0 5 10 15) aW _ _ _ _ 1 6 11 12 (by decide) (by decide) (by decide) (by decide) (by decide) (by decide) (by decide) (by decide) (nm_r (e' := 2) (by decide)
  (br_f (by decide) (sf_quarter _ fa fb fc fd fe ff fg fh aK aE aV aS aC aY aD (ch_qr (ch_qr aT 0 5 10 15) 1 6 11 12) aW _ _ _ _ 2 7 8 13 (by decide) (by decide) (by decide) (by decide) (by decide) (by decide) (by decide) (by decide) (nm_r (e' := 3) (by decide)
  (br_f (by decide) (sf_quarter _ fa fb fc fd fe ff fg fh aK aE aV aS aC aY aD (ch_qr (ch_qr (ch_qr aT 0 5 10 15) 1 6 11 12) 2 7 8 13) aW _ _ _ _ 3 4 9 14 (by decide) (by decide) (by decide) (by decide) (by decide) (by decide) (by decide) (by decide) (nm_r (e' := 4) (by decide)
  (br_t (by decide) hJ))))))))))))
theorem sf_scr68 (post : SX → Prop) (J : Int32 → Int32 → Int32 → Int32 → Int32 → Int32 → Int32 → Int32 → Int32 → (Nat → Int32) → (Nat → Int32) → (Nat → Int32) → (Nat → Int32) → (Nat → Int32) → (Nat → Int32) → (Nat → Int32) → (Nat → Int32) → (Nat → Int32) → Prop) (x1 : Int32) (fa fb fc fd fe ff fg fh : Int32) (aK aE aV aS aC aY aD aT aW : Nat → Int32)
    (hJ : ∀ y : Int32, y = x1 + 1 → J y fa fb fc fd fe ff fg fh aK aE aV aS aC aY aD (ch_dr aT) aW) :
    wX_scramble_68 post J x1 5 0 fa fb fc fd fe ff fg fh aK aE aV aS aC aY aD aT aW :=
  br_f (by decide) (sf_quarter _ fa fb fc fd fe ff fg fh aK aE aV aS aC aY aD aT aW _ _ _ _ 0 4 8 12 (by decide) (by decide) (by decide) (by decide) (by decide) (by decide) (by decide) (by decide) (nm_r (e' := 1) (by decide)
  (br_f (by decide) (sf_quarter _ fa fb fc fd fe ff fg fh aK aE aV aS aC aY aD (ch_qr aT 0 4 8 12) aW _ _ _ _ 1 5 9 13 (by decide) (by decide) (by decide) (by decide) (by decide) (by decide) (by decide) (by decide) (nm_r (e' := 2) (by decide)
  (br_f (by decide) (sf_quarter _ fa fb fc fd fe ff fg fh aK aE aV aS aC aY aD (ch_qr (ch_qr aT 0 4 8 12) 1 5 9 13) aW _ _ _ _ 2 6 10 14 (by decide) (by decide) (by decide) (by decide) (by decide) (by decide) (by decide) (by decide) (nm_r (e' := 3) (by decide)
  (br_f (by decide) (sf_quarter _ fa fb fc fd fe ff fg fh aK aE aV aS aC aY aD (ch_qr (ch_qr (ch_qr aT 0 4 8 12) 1 5 9 13) 2 6 10 14) aW _ _ _ _ 3 7 11 15 (by decide) (by decide) (by decide) (by decide) (by decide) (by decide) (by decide) (by decide) (nm_r (e' := 4) (by decide)
  (br_t (by decide) ⟨5, sf_scr97 post J x1 fa fb fc fd fe ff fg fh aK aE aV aS aC aY aD (ch_qr (ch_qr (ch_qr (ch_qr aT 0 4 8 12) 1 5 9 13) 2 6 10 14) 3 7 11 15) aW hJ⟩))))))))))))
theorem sf_scr60 (post : SX → Prop) (fa fb fc fd fe ff fg fh : Int32) (aK aE aV aS aC aY aD aW : Nat → Int32) (hD : ch_tl 16 aD) :
    ∀ (d j : Nat) (aT : Nat → Int32), j + d = 10 → post (fa, fb, fc, fd, fe, ff, fg, fh, aK, aE, aV, aS, aC, aY, (fun _ => 0), (fun i => ch_it d aT i + aD i), aW) → wX_scramble_60 post (d + 1) (nI j) fa fb fc fd fe ff fg fh aK aE aV aS aC aY aD aT aW := by
  intro d
  induction d with
  | zero =>
    intro j aT hj hp
    have h := sf_scr144 post fa fb fc fd fe ff fg fh aK aE aV aS aC aY aD aT aW hD hp 16 0 rfl
    exact br_t (sv_ge 10 (by omega) (by omega)) ⟨17, h⟩
  | succ d ih =>
    intro j aT hj hp
    exact br_f (sv_ng 10 (by omega) (by decide)) ⟨5, sf_scr68 post (wX_scramble_60 post (d + 1)) (nI j) fa fb fc fd fe ff fg fh aK aE aV aS aC aY aD aT aW (nm_r (nI_1 j) (ih (j + 1) (ch_dr aT) (by omega) hp))⟩
theorem sf_scr34 (post : SX → Prop) (fa fb fc fd fe ff fg fh : Int32) (aK aE aV aS aC aY aD aT aW : Nat → Int32) (hD : ch_tl 16 aD) (hT : ch_tl 16 aT) (hp : post (fa, fb, fc, fd, fe, ff, fg, fh, aK, aE, aV, aS, aC, aY, (fun _ => 0), (fun i => ch_it 10 aD i + aD i), aW)) :
    ∀ (d j : Nat), j + d = 16 → wX_scramble_34 post fa fb fc fd fe ff fg fh (d + 1) (nI j) aK aE aV aS aC aY aD (fun i => if i < j then aD i else aT i) aW := by
  intro d
  induction d with
  | zero =>
    intro j hj
    have hj16 : j = 16 := by omega
    subst hj16
    refine br_t (sv_ge 16 (by omega) (by omega)) ⟨11, ?_⟩
    have e2 : (fun i => if i < 16 then aD i else aT i) = aD := by
      funext i
      by_cases h : i < 16
      · rw [if_pos h]
      · rw [if_neg h, hD i (by omega), hT i (by omega)]
    rw [e2]
    exact sf_scr60 post fa fb fc fd fe ff fg fh aK aE aV aS aC aY aD aW hD 10 0 aD rfl hp
  | succ d ih =>
    intro j hj
    have hi : vp_in (nI j) 16 := sv_i16 (by omega)
    have hc : (nI j).toNatClampNeg = j := nI_clamp (by omega)
    refine br_f (sv_ng 16 (by omega) (by decide)) ⟨hi, hi, nm_r (e' := (fun i => if i < j + 1 then aD i else aT i)) ?_ (nm_r (nI_1 j) (ih (j + 1) (by omega)))⟩
    rw [hc]
    funext i
    by_cases hij : i = j
    · subst hij
      rw [pk_us, if_pos (by omega)]
    · rw [pk_un hij]
      by_cases h : i < j
      · rw [if_pos h, if_pos (by omega)]
      · rw [if_neg h, if_neg (by omega)]
theorem sf_scramble (post : SX → Prop) (fa fb fc fd fe ff fg fh : Int32) (aK aE aV aS aC aY aD aT aW : Nat → Int32) (hD : ch_tl 16 aD) (hT : ch_tl 16 aT) (hp : post (fa, fb, fc, fd, fe, ff, fg, fh, aK, aE, aV, aS, aC, aY, (fun _ => 0), ch_F aD, aW)) : wpX_scramble post (fa, fb, fc, fd, fe, ff, fg, fh, aK, aE, aV, aS, aC, aY, aD, aT, aW) :=
  nm_e (nm_e (nm_e (nm_e ⟨17, sf_scr34 post fa fb fc fd fe ff fg fh aK aE aV aS aC aY (ch_sd aD) aT aW (ch_tl_s hD) hT hp 16 0 rfl⟩)))
def ch_ps (x use salt : Int32) : Nat → Int32 := upd (upd (upd (fun _ => 0) 4 x) 12 use) 13 salt
def ch_P (x use salt : Int32) : Nat → Int32 := ch_F (ch_ps x use salt)
theorem ch_tl_p (x use salt : Int32) : ch_tl 16 (ch_ps x use salt) := ch_tl_u (ch_tl_u (ch_tl_u (ch_tl_0 16) (by decide)) (by decide)) (by decide)
theorem ch_tl_P (x use salt : Int32) : ch_tl 16 (ch_P x use salt) := ch_tl_F (ch_tl_p x use salt)
theorem sf_stream (post : SX → Prop) (fa fb fc fd fe ff fg fh : Int32) (aK aE aV aS aC aY aT aW : Nat → Int32) (p0 p1 p2 : Int32) (hT : ch_tl 16 aT) (hp : post (fa, fb, fc, fd, fe, ff, fg, fh, aK, aE, aV, aS, aC, aY, (fun _ => 0), ch_P p0 p1 p2, aW)) : wpX_streamFromPassphrase post (fa, fb, fc, fd, fe, ff, fg, fh, aK, aE, aV, aS, aC, aY, (fun _ => 0), aT, aW) p0 p1 p2 :=
  nm_e (nm_e (nm_e (sf_scramble _ fa fb fc fd fe ff fg fh aK aE aV aS aC aY (ch_ps p0 p1 p2) aT aW (ch_tl_p p0 p1 p2) hT hp)))
