section
theorem pk_us {f : Nat → Int32} {k : Nat} {x : Int32} : upd f k x k = x := if_pos rfl
theorem pk_un {f : Nat → Int32} {k j : Nat} {x : Int32} (h : j ≠ k) : upd f k x j = f j := if_neg h
theorem pk_sub {a b : Nat} (h : b ≤ a) : nI a - nI b = nI (a - b) := by
  obtain ⟨c, rfl⟩ : ∃ c, a = c + b := ⟨a - b, by omega⟩
  rw [← nI_add, Int32.add_sub_cancel, Nat.add_sub_cancel]
theorem pk_mul (a b : Nat) : nI a * nI b = nI (a * b) := (Int32.ofNat_mul a b).symm
theorem pk_div {a d : Nat} (ha : a < 2 ^ 31) (h0 : 0 < d) (hd : d < 2 ^ 31) : nI a / nI d = nI (a / d) := by
  apply Int32.toInt_inj.mp
  rw [lg_idiv_nonneg (by rw [nI_toInt ha]; omega) (by rw [nI_toInt hd]; omega), nI_toInt ha, nI_toInt hd, nI_toInt (Nat.lt_of_le_of_lt (Nat.div_le_self a d) ha)]
  first | rfl | exact (Int.natCast_ediv _ _).symm
theorem pk_rem {a d : Nat} (ha : a < 2 ^ 31) (h0 : 0 < d) (hd : d < 2 ^ 31) : nI a - nI a / nI d * nI d = nI (a % d) := by
  rw [pk_div ha h0 hd, pk_mul, pk_sub (Nat.div_mul_le_self a d)]
  exact congrArg nI (by have := Nat.div_add_mod' a d; omega)
theorem pk_ix (x : Int32) {n : Nat} (hn : n < 2 ^ 31) : x < 0 ∨ nI n ≤ x ∨ ∃ j : Nat, j < n ∧ x = nI j := by
  by_cases h : x < 0
  · exact Or.inl h
  · obtain ⟨j, hj, rfl⟩ := nI_of h
    by_cases h2 : j < n
    · exact Or.inr (Or.inr ⟨j, h2, rfl⟩)
    · exact Or.inr (Or.inl (nI_le (by omega) hj))
theorem pk_le {x y : Int32} {A B : Prop} (a b : Nat) (f : a ≤ b → A) (g : b < a → B) (hx : x = nI a := by rfl) (hy : y = nI b := by rfl) (ha : a < 2 ^ 31 := by omega) (hb : b < 2 ^ 31 := by omega) : (x ≤ y → A) ∧ (¬ x ≤ y → B) := by
  subst hx hy
  rw [nI_leI ha hb]
  exact ⟨f, fun z => g (by omega)⟩
theorem pk_lt {x y : Int32} {A B : Prop} (a b : Nat) (f : a < b → A) (g : b ≤ a → B) (hx : x = nI a := by rfl) (hy : y = nI b := by rfl) (ha : a < 2 ^ 31 := by omega) (hb : b < 2 ^ 31 := by omega) : (x < y → A) ∧ (¬ x < y → B) := by
  subst hx hy
  rw [nI_ltI ha hb]
  exact ⟨f, fun z => g (by omega)⟩
theorem pk_eq {x y : Int32} {A B : Prop} (a b : Nat) (f : a = b → A) (g : a ≠ b → B) (hx : x = nI a := by rfl) (hy : y = nI b := by rfl) (ha : a < 2 ^ 31 := by omega) (hb : b < 2 ^ 31 := by omega) : (x = y → A) ∧ (¬ x = y → B) := by
  subst hx hy
  rw [nI_eq ha hb]
  exact ⟨f, g⟩
theorem pk_in {x : Int32} (n N : Nat) (h : n < N) (hx : x = nI n := by rfl) (hN : N < 2 ^ 31 := by omega) : vp_in x N := by
  subst hx
  exact vp_in_nI h hN
theorem pk_cl {x : Int32} (n : Nat) (hx : x = nI n := by rfl) (h : n < 2 ^ 31 := by omega) : x.toNatClampNeg = n := by
  subst hx
  exact nI_clamp h
theorem pk_tn {n : Nat} (h : n < 2 ^ 32) : (nI n).toBitVec.toNat = n := Nat.mod_eq_of_lt h
theorem pk_and (x : Int32) {m : Int32} (k : Nat) (hm : m.toBitVec.toNat = 2 ^ k - 1) : x &&& m = nI (x.toBitVec.toNat % 2 ^ k) := by
  apply Int32.toBitVec_inj.mp
  apply BitVec.eq_of_toNat_eq
  rw [Int32.toBitVec_and, BitVec.toNat_and, hm, Nat.and_two_pow_sub_one_eq_mod]
  show _ = (BitVec.ofNat 32 _).toNat
  rw [BitVec.toNat_ofNat]
  exact (Nat.mod_eq_of_lt (Nat.lt_of_le_of_lt (Nat.mod_le _ _) x.toBitVec.isLt)).symm
theorem pk_andN {n : Nat} (h : n < 2 ^ 32) {m : Int32} (k : Nat) (hm : m.toBitVec.toNat = 2 ^ k - 1) : nI n &&& m = nI (n % 2 ^ k) := by
  rw [pk_and _ k hm, pk_tn h]
theorem pk_andE (x : Int32) {m : Int32} (k : Nat) (hm : m.toBitVec.toNat = 2 ^ k - 1) : ∃ j : Nat, j < 2 ^ k ∧ x &&& m = nI j := ⟨_, Nat.mod_lt _ (Nat.two_pow_pos k), pk_and x k hm⟩
end
section
theorem sv_i8 {j : Nat} (h : j < 8) : vp_in (nI j) 8 := vp_in_nI h (by decide)
theorem sv_i9 {j : Nat} (h : j < 9) : vp_in (nI j) 9 := vp_in_nI h (by decide)
theorem sv_i12 {j : Nat} (h : j < 12) : vp_in (nI j) 12 := vp_in_nI h (by decide)
theorem sv_i16 {j : Nat} (h : j < 16) : vp_in (nI j) 16 := vp_in_nI h (by decide)
theorem sv_i64 {j : Nat} (h : j < 64) : vp_in (nI j) 64 := vp_in_nI h (by decide)
theorem sv_i216 {j : Nat} (h : j < 216) : vp_in (nI j) 216 := vp_in_nI h (by decide)
theorem sv_ia (a j N : Nat) (h : a + j < N) (hN : N < 2 ^ 31) : vp_in (nI a + nI j) N := by
  rw [nI_add]; exact vp_in_nI h hN
theorem sv_ge (b : Nat) {j : Nat} (h : b ≤ j) (hj : j < 2 ^ 31) : nI b ≤ nI j := nI_le h hj
theorem sv_ng (b : Nat) {j : Nat} (h : j < b) (hb : b < 2 ^ 31) : ¬ nI b ≤ nI j := nI_ge h hb
/-! the block function, as the class's walk has it -/
def ch_rot (x l r : Int32) : Int32 := (x <<< (l &&& 31)) ||| ((x.toUInt32 >>> (r.toUInt32 &&& Int32.toUInt32 31)).toInt32)
def ch_qr (T : Nat → Int32) (a b c d : Nat) : Nat → Int32 :=
  let p1 := T a + T b
  let s2 := ch_rot (T d ^^^ p1) 16 16
  let r1 := T c + s2
  let q2 := ch_rot (T b ^^^ r1) 12 20
  let p2 := p1 + q2
  let s4 := ch_rot (s2 ^^^ p2) 8 24
  let r2 := r1 + s4
  let q4 := ch_rot (q2 ^^^ r2) 7 25
  upd (upd (upd (upd T a p2) b q4) c r2) d s4
def ch_dr (T : Nat → Int32) : Nat → Int32 :=
  ch_qr (ch_qr (ch_qr (ch_qr (ch_qr (ch_qr (ch_qr (ch_qr T 0 4 8 12) 1 5 9 13) 2 6 10 14) 3 7 11 15) 0 5 10 15) 1 6 11 12) 2 7 8 13) 3 4 9 14
def ch_it : Nat → (Nat → Int32) → (Nat → Int32)
  | 0, T => T
  | n + 1, T => ch_it n (ch_dr T)
def ch_sd (D : Nat → Int32) : Nat → Int32 := upd (upd (upd (upd D 0 1634760805) 1 857760878) 2 2036477234) 3 1797285236
def ch_F (D : Nat → Int32) : Nat → Int32 := fun i => ch_it 10 (ch_sd D) i + ch_sd D i
def ch_tl (n : Nat) (T : Nat → Int32) : Prop := ∀ i, n ≤ i → T i = 0
theorem ch_tl_0 (n : Nat) : ch_tl n (fun _ => 0) := fun _ _ => rfl
theorem ch_tl_u {n k : Nat} {T : Nat → Int32} {x : Int32} (h : ch_tl n T) (hk : k < n) : ch_tl n (upd T k x) := fun i hi => by
  rw [pk_un (by omega)]; exact h i hi
theorem ch_tl_q {T : Nat → Int32} {a b c d : Nat} (h : ch_tl 16 T) (ha : a < 16) (hb : b < 16) (hc : c < 16) (hd : d < 16) : ch_tl 16 (ch_qr T a b c d) :=
  ch_tl_u (ch_tl_u (ch_tl_u (ch_tl_u h ha) hb) hc) hd
theorem ch_tl_d {T : Nat → Int32} (h : ch_tl 16 T) : ch_tl 16 (ch_dr T) := by
  unfold ch_dr
  exact ch_tl_q (ch_tl_q (ch_tl_q (ch_tl_q (ch_tl_q (ch_tl_q (ch_tl_q (ch_tl_q h (by decide) (by decide) (by decide) (by decide)) (by decide) (by decide) (by decide) (by decide)) (by decide) (by decide) (by decide) (by decide)) (by decide) (by decide) (by decide) (by decide)) (by decide) (by decide) (by decide) (by decide)) (by decide) (by decide) (by decide) (by decide)) (by decide) (by decide) (by decide) (by decide)) (by decide) (by decide) (by decide) (by decide)
theorem ch_tl_i : ∀ (n : Nat) {T : Nat → Int32}, ch_tl 16 T → ch_tl 16 (ch_it n T)
  | 0, _, h => h
  | n + 1, _, h => ch_tl_i n (ch_tl_d h)
theorem ch_tl_s {D : Nat → Int32} (h : ch_tl 16 D) : ch_tl 16 (ch_sd D) :=
  ch_tl_u (ch_tl_u (ch_tl_u (ch_tl_u h (by decide)) (by decide)) (by decide)) (by decide)
theorem ch_tl_F {D : Nat → Int32} (h : ch_tl 16 D) : ch_tl 16 (ch_F D) := fun i hi => by
  show ch_it 10 (ch_sd D) i + ch_sd D i = 0
  rw [ch_tl_i 10 (ch_tl_s h) i hi, ch_tl_s h i hi]; rfl
theorem sf_quarter (post : SX → Prop) (fa fb fc fd fe ff fg fh : Int32) (aK aE aV aS aC aY aD aT aW : Nat → Int32) (p0 p1 p2 p3 : Int32) (a b c d : Nat) (ha : a < 16) (hb : b < 16) (hc : c < 16) (hd : d < 16)
    (e0 : p0 = nI a) (e1 : p1 = nI b) (e2 : p2 = nI c) (e3 : p3 = nI d)
    (hp : post (fa, fb, fc, fd, fe, ff, fg, fh, aK, aE, aV, aS, aC, aY, aD, ch_qr aT a b c d, aW)) : wpX_quarterRound post (fa, fb, fc, fd, fe, ff, fg, fh, aK, aE, aV, aS, aC, aY, aD, aT, aW) p0 p1 p2 p3 := by
  subst e0 e1 e2 e3
  unfold wpX_quarterRound
  dsimp only
  rw [nI_clamp (n := a) (by omega), nI_clamp (n := b) (by omega), nI_clamp (n := c) (by omega), nI_clamp (n := d) (by omega)]
  exact ⟨sv_i16 ha, nm_e ⟨sv_i16 hb, nm_e ⟨sv_i16 hc, nm_e ⟨sv_i16 hd, nm_e (nm_e (nm_e (nm_e (nm_e (nm_e (nm_e (nm_e (nm_e (nm_e (nm_e (nm_e (nm_e
    ⟨sv_i16 ha, nm_e ⟨sv_i16 hb, nm_e ⟨sv_i16 hc, nm_e ⟨sv_i16 hd, nm_e hp⟩⟩⟩⟩))))))))))))⟩⟩⟩⟩
theorem ch_ui (P Q : Nat → Int32) (j : Nat) (x : Int32) (hx : x = P j) : upd (fun i => if i < j then P i else Q i) j x = fun i => if i < j + 1 then P i else Q i := by
  funext i
  by_cases hij : i = j
  · subst hij
    rw [pk_us, if_pos (by omega), hx]
  · rw [pk_un hij]
    by_cases h : i < j
    · rw [if_pos h, if_pos (by omega)]
    · rw [if_neg h, if_neg (by omega)]
theorem sf_scr144 (post : SX → Prop) (fa fb fc fd fe ff fg fh : Int32) (aK aE aV aS aC aY aD aT aW : Nat → Int32) (hD : ch_tl 16 aD) (hp : post (fa, fb, fc, fd, fe, ff, fg, fh, aK, aE, aV, aS, aC, aY, (fun _ => 0), (fun i => aT i + aD i), aW)) :
    ∀ (d j : Nat), j + d = 16 → wX_scramble_144 post fa fb fc fd fe ff fg fh (d + 1) (nI j) aK aE aV aS aC aY (fun i => if i < j then 0 else aD i) (fun i => if i < j then aT i + aD i else aT i) aW := by
  intro d
  induction d with
  | zero =>
    intro j hj
    have hj16 : j = 16 := by omega
    subst hj16
    refine br_t (sv_ge 16 (by omega) (by omega)) ?_
    have e1 : (fun i => if i < 16 then 0 else aD i) = (fun _ => (0 : Int32)) := by
      funext i
      by_cases h : i < 16
      · rw [if_pos h]
      · rw [if_neg h]; exact hD i (by omega)
    have e2 : (fun i => if i < 16 then aT i + aD i else aT i) = (fun i => aT i + aD i) := by
      funext i
      by_cases h : i < 16
      · rw [if_pos h]
      · rw [if_neg h, hD i (by omega), Int32.add_zero]
    rw [e1, e2]
    exact hp
  | succ d ih =>
    intro j hj
    have hi : vp_in (nI j) 16 := sv_i16 (by omega)
    have hc : (nI j).toNatClampNeg = j := nI_clamp (by omega)
    refine br_f (sv_ng 16 (by omega) (by decide)) ⟨hi, hi, hi, nm_r (e' := (fun i => if i < j + 1 then aT i + aD i else aT i)) ?_ ⟨hi, nm_r (e' := (fun i => if i < j + 1 then 0 else aD i)) ?_ (nm_r (nI_1 j) (ih (j + 1) (by omega)))⟩⟩
    · rw [hc]
      refine ch_ui (fun i => aT i + aD i) aT j _ ?_
      show (if j < j then _ else aT j) + (if j < j then _ else aD j) = _
      rw [if_neg (Nat.lt_irrefl j), if_neg (Nat.lt_irrefl j)]
    · rw [hc]
      exact ch_ui (fun _ => 0) aD j _ rfl
theorem sf_scr97 (post : SX → Prop) (J : Int32 → Int32 → Int32 → Int32 → Int32 → Int32 → Int32 → Int32 → Int32 → (Nat → Int32) → (Nat → Int32) → (Nat → Int32) → (Nat → Int32) → (Nat → Int32) → (Nat → Int32) → (Nat → Int32) → (Nat → Int32) → (Nat → Int32) → Prop) (x1 : Int32) (fa fb fc fd fe ff fg fh : Int32) (aK aE aV aS aC aY aD aT aW : Nat → Int32)
    (hJ : ∀ y : Int32, y = x1 + 1 → J y fa fb fc fd fe ff fg fh aK aE aV aS aC aY aD (ch_qr (ch_qr (ch_qr (ch_qr aT 0 5 10 15) 1 6 11 12) 2 7 8 13) 3 4 9 14) aW) :
    wX_scramble_97 post J x1 5 0 fa fb fc fd fe ff fg fh aK aE aV aS aC aY aD aT aW :=
  br_f (by decide) (sf_quarter _ fa fb fc fd fe ff fg fh aK aE aV aS aC aY aD aT aW _ _ _ _ 0 5 10 15 (by decide) (by decide) (by decide) (by decide) (by decide) (by decide) (by decide) (by decide) (nm_r (e' := 1) (by decide)
  (br_f (by decide) (sf_quarter _ fa fb fc fd fe ff fg fh aK aE aV aS aC aY aD (ch_qr aT 0 5 10 15) aW _ _ _ _ 1 6 11 12 (by decide) (by decide) (by decide) (by decide) (by decide) (by decide) (by decide) (by decide) (nm_r (e' := 2) (by decide)
  (br_f (by decide) (sf_quarter _ fa fb fc fd fe ff fg fh aK aE aV aS aC aY aD (ch_qr (ch_qr aT 0 5 10 15) 1 6 11 12) aW _ _ _ _ 2 7 8 13 (by decide) (by decide) (by decide) (by decide) (by decide) (by decide) (by decide) (by decide) (nm_r (e' := 3) (by decide)
  (br_f (by decide) (sf_quarter _ fa fb fc fd fe ff fg fh aK aE aV aS aC aY aD (ch_qr (ch_qr (ch_qr aT 0 5 10 15) 1 6 11 12) 2 7 8 13) aW _ _ _ _ 3 4 9 14 (by decide) (by decide) (by decide) (by decide) (by decide) (by decide) (by decide) (by decide) (nm_r (e' := 4) (by decide)
  (br_t (by decide) hJ))))))))))))
theorem sf_scr68 (post : SX → Prop) (J : Int32 → Int32 → Int32 → Int32 → Int32 → Int32 → Int32 → Int32 → Int32 → (Nat → Int32) → (Nat → Int32) → (Nat → Int32) → (Nat → Int32) → (Nat → Int32) → (Nat → Int32) → (Nat → Int32) → (Nat → Int32) → (Nat → Int32) → Prop) (x1 : Int32) (fa fb fc fd fe ff fg fh : Int32) (aK aE aV aS aC aY aD aT aW : Nat → Int32)
    (hJ : ∀ y : Int32, y = x1 + 1 → J y fa fb fc fd fe ff fg fh aK aE aV aS aC aY aD (ch_dr aT) aW) :
    wX_scramble_68 post J x1 5 0 fa fb fc fd fe ff fg fh aK aE aV aS aC aY aD aT aW :=
  br_f (by decide) (sf_quarter _ fa fb fc fd fe ff fg fh aK aE aV aS aC aY aD aT aW _ _ _ _ 0 4 8 12 (by decide) (by decide) (by decide) (by decide) (by decide) (by decide) (by decide) (by decide) (nm_r (e' := 1) (by decide)
  (br_f (by decide) (sf_quarter _ fa fb fc fd fe ff fg fh aK aE aV aS aC aY aD (ch_qr aT 0 4 8 12) aW _ _ _ _ 1 5 9 13 (by decide) (by decide) (by decide) (by decide) (by decide) (by decide) (by decide) (by decide) (nm_r (e' := 2) (by decide)
  (br_f (by decide) (sf_quarter _ fa fb fc fd fe ff fg fh aK aE aV aS aC aY aD (ch_qr (ch_qr aT 0 4 8 12) 1 5 9 13) aW _ _ _ _ 2 6 10 14 (by decide) (by decide) (by decide) (by decide) (by decide) (by decide) (by decide) (by decide) (nm_r (e' := 3) (by decide)
  (br_f (by decide) (sf_quarter _ fa fb fc fd fe ff fg fh aK aE aV aS aC aY aD (ch_qr (ch_qr (ch_qr aT 0 4 8 12) 1 5 9 13) 2 6 10 14) aW _ _ _ _ 3 7 11 15 (by decide) (by decide) (by decide) (by decide) (by decide) (by decide) (by decide) (by decide) (nm_r (e' := 4) (by decide)
  (br_t (by decide) ⟨5, sf_scr97 post J x1 fa fb fc fd fe ff fg fh aK aE aV aS aC aY aD (ch_qr (ch_qr (ch_qr (ch_qr aT 0 4 8 12) 1 5 9 13) 2 6 10 14) 3 7 11 15) aW hJ⟩))))))))))))
theorem sf_scr60 (post : SX → Prop) (fa fb fc fd fe ff fg fh : Int32) (aK aE aV aS aC aY aD aW : Nat → Int32) (hD : ch_tl 16 aD) :
    ∀ (d j : Nat) (aT : Nat → Int32), j + d = 10 → post (fa, fb, fc, fd, fe, ff, fg, fh, aK, aE, aV, aS, aC, aY, (fun _ => 0), (fun i => ch_it d aT i + aD i), aW) → wX_scramble_60 post (d + 1) (nI j) fa fb fc fd fe ff fg fh aK aE aV aS aC aY aD aT aW := by
  intro d
  induction d with
  | zero =>
    intro j aT hj hp
    have h := sf_scr144 post fa fb fc fd fe ff fg fh aK aE aV aS aC aY aD aT aW hD hp 16 0 rfl
    exact br_t (sv_ge 10 (by omega) (by omega)) ⟨17, h⟩
  | succ d ih =>
    intro j aT hj hp
    exact br_f (sv_ng 10 (by omega) (by decide)) ⟨5, sf_scr68 post (wX_scramble_60 post (d + 1)) (nI j) fa fb fc fd fe ff fg fh aK aE aV aS aC aY aD aT aW (nm_r (nI_1 j) (ih (j + 1) (ch_dr aT) (by omega) hp))⟩
theorem sf_scr34 (post : SX → Prop) (fa fb fc fd fe ff fg fh : Int32) (aK aE aV aS aC aY aD aT aW : Nat → Int32) (hD : ch_tl 16 aD) (hT : ch_tl 16 aT) (hp : post (fa, fb, fc, fd, fe, ff, fg, fh, aK, aE, aV, aS, aC, aY, (fun _ => 0), (fun i => ch_it 10 aD i + aD i), aW)) :
    ∀ (d j : Nat), j + d = 16 → wX_scramble_34 post fa fb fc fd fe ff fg fh (d + 1) (nI j) aK aE aV aS aC aY aD (fun i => if i < j then aD i else aT i) aW := by
  intro d
  induction d with
  | zero =>
    intro j hj
    have hj16 : j = 16 := by omega
    subst hj16
    refine br_t (sv_ge 16 (by omega) (by omega)) ⟨11, ?_⟩
    have e2 : (fun i => if i < 16 then aD i else aT i) = aD := by
      funext i
      by_cases h : i < 16
      · rw [if_pos h]
      · rw [if_neg h, hD i (by omega), hT i (by omega)]
    rw [e2]
    exact sf_scr60 post fa fb fc fd fe ff fg fh aK aE aV aS aC aY aD aW hD 10 0 aD rfl hp
  | succ d ih =>
    intro j hj
    have hi : vp_in (nI j) 16 := sv_i16 (by omega)
    have hc : (nI j).toNatClampNeg = j := nI_clamp (by omega)
    refine br_f (sv_ng 16 (by omega) (by decide)) ⟨hi, hi, nm_r (e' := (fun i => if i < j + 1 then aD i else aT i)) ?_ (nm_r (nI_1 j) (ih (j + 1) (by omega)))⟩
    rw [hc]
    funext i
    by_cases hij : i = j
    · subst hij
      rw [pk_us, if_pos (by omega)]
    · rw [pk_un hij]
      by_cases h : i < j
      · rw [if_pos h, if_pos (by omega)]
      · rw [if_neg h, if_neg (by omega)]
theorem sf_scramble (post : SX → Prop) (fa fb fc fd fe ff fg fh : Int32) (aK aE aV aS aC aY aD aT aW : Nat → Int32) (hD : ch_tl 16 aD) (hT : ch_tl 16 aT) (hp : post (fa, fb, fc, fd, fe, ff, fg, fh, aK, aE, aV, aS, aC, aY, (fun _ => 0), ch_F aD, aW)) : wpX_scramble post (fa, fb, fc, fd, fe, ff, fg, fh, aK, aE, aV, aS, aC, aY, aD, aT, aW) :=
  nm_e (nm_e (nm_e (nm_e ⟨17, sf_scr34 post fa fb fc fd fe ff fg fh aK aE aV aS aC aY (ch_sd aD) aT aW (ch_tl_s hD) hT hp 16 0 rfl⟩)))
def ch_ps (x use salt : Int32) : Nat → Int32 := upd (upd (upd (fun _ => 0) 4 x) 12 use) 13 salt
def ch_P (x use salt : Int32) : Nat → Int32 := ch_F (ch_ps x use salt)
theorem ch_tl_p (x use salt : Int32) : ch_tl 16 (ch_ps x use salt) := ch_tl_u (ch_tl_u (ch_tl_u (ch_tl_0 16) (by decide)) (by decide)) (by decide)
theorem ch_tl_P (x use salt : Int32) : ch_tl 16 (ch_P x use salt) := ch_tl_F (ch_tl_p x use salt)
theorem sf_stream (post : SX → Prop) (fa fb fc fd fe ff fg fh : Int32) (aK aE aV aS aC aY aT aW : Nat → Int32) (p0 p1 p2 : Int32) (hT : ch_tl 16 aT) (hp : post (fa, fb, fc, fd, fe, ff, fg, fh, aK, aE, aV, aS, aC, aY, (fun _ => 0), ch_P p0 p1 p2, aW)) : wpX_streamFromPassphrase post (fa, fb, fc, fd, fe, ff, fg, fh, aK, aE, aV, aS, aC, aY, (fun _ => 0), aT, aW) p0 p1 p2 :=
  nm_e (nm_e (nm_e (sf_scramble _ fa fb fc fd fe ff fg fh aK aE aV aS aC aY (ch_ps p0 p1 p2) aT aW (ch_tl_p p0 p1 p2) hT hp)))
end
section
theorem sv_ca (a j : Nat) (h : a + j < 2 ^ 31) : (nI a + nI j).toNatClampNeg = a + j := by rw [nI_add]; exact nI_clamp h
theorem ch_ie (n : Nat) (P Q : Nat → Int32) (hP : ch_tl n P) (hQ : ch_tl n Q) : (fun i => if i < n then P i else Q i) = P := by
  funext i
  by_cases h : i < n
  · rw [if_pos h]
  · rw [if_neg h, hP i (by omega), hQ i (by omega)]
/-! the key -/
def ch_key (x fm : Int32) : Nat → Int32 := fun i => if i < 8 then ch_P x 1 fm i else 0
theorem ch_tl_k (x fm : Int32) : ch_tl 8 (ch_key x fm) := fun i hi => if_neg (by omega)
theorem sf_mk12 (post : SX → Prop) (fa fb fc fd fe ff fg fh : Int32) (aK aE aV aS aC aY aD aT aW : Nat → Int32) (hp : post (fa, fb, fc, fd, fe, ff, fg, fh, aK, aE, aV, aS, aC, (fun i => if i < 8 then aT i else aY i), aD, aT, aW)) :
    ∀ (d j : Nat), j + d = 8 → wX_makeKey_12 post fa fb fc fd fe ff fg fh (d + 1) (nI j) aK aE aV aS aC (fun i => if i < j then aT i else aY i) aD aT aW := by
  intro d
  induction d with
  | zero => intro j hj; have e : j = 8 := by omega
            subst e; exact br_t (sv_ge 8 (by omega) (by omega)) hp
  | succ d ih =>
    intro j hj
    have hc : (nI j).toNatClampNeg = j := nI_clamp (by omega)
    refine br_f (sv_ng 8 (by omega) (by decide)) ⟨sv_i16 (by omega), sv_i8 (by omega), nm_r ?_ (nm_r (nI_1 j) (ih (j + 1) (by omega)))⟩
    rw [hc]
    exact ch_ui _ _ j _ rfl
theorem sf_makeKey (post : SX → Prop) (fa fb fc fd fe ff fg fh : Int32) (aK aE aV aS aC aY aT aW : Nat → Int32) (x : Int32) (hT : ch_tl 16 aT) (hY : ch_tl 8 aY) (hp : post (fa, fb, fc, fd, fe, ff, fg, fh, aK, aE, aV, aS, aC, ch_key x fh, (fun _ => 0), ch_P x 1 fh, aW)) : wpX_makeKey post (fa, fb, fc, fd, fe, ff, fg, fh, aK, aE, aV, aS, aC, aY, (fun _ => 0), aT, aW) x := by
  unfold wpX_makeKey
  refine sf_stream _ fa fb fc fd fe ff fg fh aK aE aV aS aC aY aT aW _ _ _ hT ⟨9, sf_mk12 post fa fb fc fd fe ff fg fh aK aE aV aS aC aY (fun _ => 0) (ch_P x 1 fh) aW ?_ 8 0 rfl⟩
  have e : (fun i => if i < 8 then ch_P x 1 fh i else aY i) = ch_key x fh := by
    funext i
    show (if i < 8 then ch_P x 1 fh i else aY i) = (if i < 8 then ch_P x 1 fh i else 0)
    by_cases h : i < 8
    · rw [if_pos h, if_pos h]
    · rw [if_neg h, if_neg h]; exact hY i (by omega)
  rw [e]
  exact hp
/-! the seed from the key -/
def ch_ks (ky : Nat → Int32) (a b c : Int32) : Nat → Int32 := upd (upd (upd (fun i => if 4 ≤ i ∧ i < 12 then ky (i - 4) else 0) 12 a) 13 b) 14 c
def ch_S (ky : Nat → Int32) (a b c : Int32) : Nat → Int32 := ch_F (ch_ks ky a b c)
theorem ch_tl_ks (ky : Nat → Int32) (a b c : Int32) : ch_tl 16 (ch_ks ky a b c) := by
  refine ch_tl_u (ch_tl_u (ch_tl_u (fun i hi => ?_) (by decide)) (by decide)) (by decide)
  exact if_neg (by omega)
theorem ch_tl_S (ky : Nat → Int32) (a b c : Int32) : ch_tl 16 (ch_S ky a b c) := ch_tl_F (ch_tl_ks ky a b c)
theorem sf_sfk2 (post : SX → Prop) (i : Nat) (hi : i < 12) (x2 : Int32) (fa fb fc fd fe ff fg fh : Int32) (aK aE aV aS aC aY aT aW : Nat → Int32) (hp : post (fa, fb, fc, fd, fe, ff, fg, fh, aK, aE, aV, aS, aC, aY, ch_ks aY (nI i) x2 (aV i), aT, aW)) :
    ∀ (d j : Nat), j + d = 8 → wX_seedFromKey_2 post (nI i) x2 fa fb fc fd fe ff fg fh (d + 1) (nI j) aK aE aV aS aC aY (fun q => if 4 ≤ q ∧ q < 4 + j then aY (q - 4) else 0) aT aW := by
  intro d
  induction d with
  | zero =>
    intro j hj
    have e : j = 8 := by omega
    subst e
    refine br_t (sv_ge 8 (by omega) (by omega)) (nm_e (nm_e ⟨sv_i12 hi, nm_e ?_⟩))
    rw [nI_clamp (n := i) (by omega)]
    exact hp
  | succ d ih =>
    intro j hj
    have hc : (nI j).toNatClampNeg = j := nI_clamp (by omega)
    have hc4 : ((4 : Int32) + nI j).toNatClampNeg = 4 + j := sv_ca 4 j (by omega)
    refine br_f (sv_ng 8 (by omega) (by decide)) ⟨sv_i8 (by omega), sv_ia 4 j 16 (by omega) (by decide), nm_r (e' := (fun q => if 4 ≤ q ∧ q < 4 + (j + 1) then aY (q - 4) else 0)) ?_ (nm_r (nI_1 j) (ih (j + 1) (by omega)))⟩
    rw [hc, hc4]
    funext q
    by_cases hq : q = 4 + j
    · subst hq
      rw [pk_us, if_pos (by omega)]
      exact congrArg aY (by omega)
    · rw [pk_un hq]
      by_cases h : 4 ≤ q ∧ q < 4 + j
      · rw [if_pos h, if_pos (by omega)]
      · rw [if_neg h, if_neg (by omega)]
theorem ch_z4 (ky : Nat → Int32) : (fun q => if 4 ≤ q ∧ q < 4 + 0 then ky (q - 4) else 0) = (fun _ => (0 : Int32)) := by
  funext q
  exact if_neg (by omega)
theorem sf_seedFromKey (post : SX → Prop) (i : Nat) (hi : i < 12) (x2 : Int32) (fa fb fc fd fe ff fg fh : Int32) (aK aE aV aS aC aY aT aW : Nat → Int32) (hp : post (fa, fb, fc, fd, fe, ff, fg, fh, aK, aE, aV, aS, aC, aY, ch_ks aY (nI i) x2 (aV i), aT, aW)) : wpX_seedFromKey post (fa, fb, fc, fd, fe, ff, fg, fh, aK, aE, aV, aS, aC, aY, (fun _ => 0), aT, aW) (nI i) x2 := by
  have h := sf_sfk2 post i hi x2 fa fb fc fd fe ff fg fh aK aE aV aS aC aY aT aW hp 8 0 rfl
  rw [ch_z4] at h
  exact ⟨9, h⟩
/-! sums, rows, sealing -/
def ch_sm (K : Nat → Int32) (w : Nat) : Nat → Int32
  | 0 => 625341585
  | j + 1 => (ch_sm K w j ^^^ K (w + j)) * (-1640531535)
theorem ch_sm_c {K L : Nat → Int32} {w v : Nat} : ∀ n : Nat, (∀ c, c < n → K (w + c) = L (v + c)) → ch_sm K w n = ch_sm L v n
  | 0, _ => rfl
  | n + 1, h => by
    show (ch_sm K w n ^^^ K (w + n)) * _ = (ch_sm L v n ^^^ L (v + n)) * _
    rw [ch_sm_c n (fun c hc => h c (by omega)), h n (by omega)]
theorem sf_sumW6 (post : Int32 → Prop) (fa fb fc fd fe ff fg fh : Int32) (aK aE aV aS aC aY aD aT aW : Nat → Int32) (hp : post (ch_sm aW 0 8)) :
    ∀ (d j : Nat), j + d = 8 → wX_sumOf__work_6 post 0 fa fb fc fd fe ff fg fh aK aE aV aS aC aY aD aT aW (d + 1) (ch_sm aW 0 j) (nI j) := by
  intro d
  induction d with
  | zero => intro j hj; have e : j = 8 := by omega
            subst e; exact br_t (sv_ge 8 (by omega) (by omega)) hp
  | succ d ih =>
    intro j hj
    have hc : ((0 : Int32) + nI j).toNatClampNeg = 0 + j := sv_ca 0 j (by omega)
    refine br_f (sv_ng 8 (by omega) (by decide)) ⟨sv_ia 0 j 9 (by omega) (by decide), nm_r (e' := ch_sm aW 0 (j + 1)) ?_ (nm_r (nI_1 j) (ih (j + 1) (by omega)))⟩
    rw [hc]; rfl
theorem sf_sumW (post : Int32 → Prop) (fa fb fc fd fe ff fg fh : Int32) (aK aE aV aS aC aY aD aT aW : Nat → Int32) (hp : post (ch_sm aW 0 8)) : wpX_sumOf__work post (fa, fb, fc, fd, fe, ff, fg, fh, aK, aE, aV, aS, aC, aY, aD, aT, aW) 0 :=
  ⟨9, sf_sumW6 post fa fb fc fd fe ff fg fh aK aE aV aS aC aY aD aT aW hp 8 0 rfl⟩
theorem sf_sumK6 (post : Int32 → Prop) (w : Nat) (hw : w + 9 ≤ 216) (fa fb fc fd fe ff fg fh : Int32) (aK aE aV aS aC aY aD aT aW : Nat → Int32) (hp : post (ch_sm aK w 8)) :
    ∀ (d j : Nat), j + d = 8 → wX_sumOf__kept_6 post (nI w) fa fb fc fd fe ff fg fh aK aE aV aS aC aY aD aT aW (d + 1) (ch_sm aK w j) (nI j) := by
  intro d
  induction d with
  | zero => intro j hj; have e : j = 8 := by omega
            subst e; exact br_t (sv_ge 8 (by omega) (by omega)) hp
  | succ d ih =>
    intro j hj
    refine br_f (sv_ng 8 (by omega) (by decide)) ⟨sv_ia w j 216 (by omega) (by decide), nm_r (e' := ch_sm aK w (j + 1)) ?_ (nm_r (nI_1 j) (ih (j + 1) (by omega)))⟩
    rw [sv_ca w j (by omega)]; rfl
theorem sf_sumK (post : Int32 → Prop) (w : Nat) (hw : w + 9 ≤ 216) (fa fb fc fd fe ff fg fh : Int32) (aK aE aV aS aC aY aD aT aW : Nat → Int32) (hp : post (ch_sm aK w 8)) : wpX_sumOf__kept post (fa, fb, fc, fd, fe, ff, fg, fh, aK, aE, aV, aS, aC, aY, aD, aT, aW) (nI w) :=
  ⟨9, sf_sumK6 post w hw fa fb fc fd fe ff fg fh aK aE aV aS aC aY aD aT aW hp 8 0 rfl⟩
def ch_w8 (W T : Nat → Int32) : Nat → Int32 := fun i => if i < 8 then W i ^^^ T i else W i
def ch_sl (W T : Nat → Int32) : Nat → Int32 := upd (ch_w8 W T) 8 (ch_sm (ch_w8 W T) 0 8)
theorem sf_seal12 (post : SX → Prop) (fa fb fc fd fe ff fg fh : Int32) (aK aE aV aS aC aY aD aT aW : Nat → Int32) (hp : post (fa, fb, fc, fd, fe, ff, fg, fh, aK, aE, aV, aS, aC, aY, aD, aT, ch_sl aW aT)) :
    ∀ (d j : Nat), j + d = 8 → wX_sealWork_12 post fa fb fc fd fe ff fg fh (d + 1) (nI j) aK aE aV aS aC aY aD aT (fun i => if i < j then aW i ^^^ aT i else aW i) := by
  intro d
  induction d with
  | zero =>
    intro j hj
    have e : j = 8 := by omega
    subst e
    exact br_t (sv_ge 8 (by omega) (by omega)) (sf_sumW _ fa fb fc fd fe ff fg fh aK aE aV aS aC aY aD aT (ch_w8 aW aT) (nm_e hp))
  | succ d ih =>
    intro j hj
    have hc : (nI j).toNatClampNeg = j := nI_clamp (by omega)
    refine br_f (sv_ng 8 (by omega) (by decide)) ⟨sv_i9 (by omega), sv_i16 (by omega), sv_i9 (by omega), nm_r ?_ (nm_r (nI_1 j) (ih (j + 1) (by omega)))⟩
    rw [hc]
    refine ch_ui (fun i => aW i ^^^ aT i) aW j _ ?_
    show (if j < j then aW j ^^^ aT j else aW j) ^^^ aT j = _
    rw [if_neg (by omega)]
theorem sf_sealWork (post : SX → Prop) (i : Nat) (hi : i < 12) (x2 : Int32) (fa fb fc fd fe ff fg fh : Int32) (aK aE aV aS aC aY aT aW : Nat → Int32) (hT : ch_tl 16 aT) (hp : post (fa, fb, fc, fd, fe, ff, fg, fh, aK, aE, aV, aS, aC, aY, (fun _ => 0), ch_S aY (nI i) x2 (aV i), ch_sl aW (ch_S aY (nI i) x2 (aV i)))) : wpX_sealWork post (fa, fb, fc, fd, fe, ff, fg, fh, aK, aE, aV, aS, aC, aY, (fun _ => 0), aT, aW) (nI i) x2 :=
  sf_seedFromKey _ i hi x2 fa fb fc fd fe ff fg fh aK aE aV aS aC aY aT aW (sf_scramble _ fa fb fc fd fe ff fg fh aK aE aV aS aC aY (ch_ks aY (nI i) x2 (aV i)) aT aW (ch_tl_ks _ _ _ _) hT
    ⟨9, sf_seal12 post fa fb fc fd fe ff fg fh aK aE aV aS aC aY (fun _ => 0) (ch_S aY (nI i) x2 (aV i)) aW hp 8 0 rfl⟩)
def ch_row (i : Nat) (e : Int32) : Nat := (2 * i + e.toBitVec.toNat % 2 ^ 1) * 9
theorem ch_row_l {i : Nat} (hi : i < 12) (e : Int32) : ch_row i e + 9 ≤ 216 := by
  have : e.toBitVec.toNat % 2 ^ 1 < 2 := Nat.mod_lt _ (by decide)
  unfold ch_row
  omega
theorem ch_row_e (i : Nat) (e : Int32) : (2 * nI i + (e &&& 1)) * 9 = nI (ch_row i e) := by
  rw [pk_and e (m := 1) 1 (by decide)]
  show (nI 2 * nI i + nI _) * nI 9 = _
  rw [pk_mul, nI_add, pk_mul]
  rfl
theorem sf_rowOf (post : Int32 → Prop) (i : Nat) (e : Int32) (fa fb fc fd fe ff fg fh : Int32) (aK aE aV aS aC aY aD aT aW : Nat → Int32) (hp : post (nI (ch_row i e))) : wpX_rowOf post (fa, fb, fc, fd, fe, ff, fg, fh, aK, aE, aV, aS, aC, aY, aD, aT, aW) (nI i) e := by
  show post ((2 * nI i + (e &&& 1)) * 9)
  rw [ch_row_e]
  exact hp
def ch_kw (K W : Nat → Int32) (w j : Nat) : Nat → Int32 := fun q => if w ≤ q ∧ q < w + j then W (q - w) else K q
theorem ch_kw_s (K W : Nat → Int32) (w j : Nat) : upd (ch_kw K W w j) (w + j) (W j) = ch_kw K W w (j + 1) := by
  funext q
  show upd (ch_kw K W w j) (w + j) (W j) q = (if w ≤ q ∧ q < w + (j + 1) then W (q - w) else K q)
  by_cases hq : q = w + j
  · subst hq
    rw [pk_us, if_pos (by omega)]
    exact congrArg W (by omega)
  · rw [pk_un hq]
    show (if w ≤ q ∧ q < w + j then W (q - w) else K q) = _
    by_cases h : w ≤ q ∧ q < w + j
    · rw [if_pos h, if_pos (by omega)]
    · rw [if_neg h, if_neg (by omega)]
theorem ch_kw_0 (K W : Nat → Int32) (w : Nat) : ch_kw K W w 0 = K := by
  funext q
  exact if_neg (by omega)
theorem sf_kw2 (post : SX → Prop) (w : Nat) (hw : w + 9 ≤ 216) (x2 : Int32) (fa fb fc fd fe ff fg fh : Int32) (aK aE aV aS aC aY aD aT aW : Nat → Int32) (hp : ∀ j, j ≤ 9 → (j < 9 → x2 ≤ nI j) → post (fa, fb, fc, fd, fe, ff, fg, fh, ch_kw aK aW w j, aE, aV, aS, aC, aY, aD, aT, aW)) :
    ∀ (d j : Nat), j + d = 9 → wX_keepWork_2 post (nI w) x2 fa fb fc fd fe ff fg fh (d + 1) (nI j) (ch_kw aK aW w j) aE aV aS aC aY aD aT aW := by
  intro d
  induction d with
  | zero => intro j hj; exact br_t (sv_ge 9 (by omega) (by omega)) (hp j (by omega) (fun h => absurd h (by omega)))
  | succ d ih =>
    intro j hj
    have hc : (nI j).toNatClampNeg = j := nI_clamp (by omega)
    refine br_f (sv_ng 9 (by omega) (by decide)) (br_c (fun h => hp j (by omega) (fun _ => h)) (fun _ => ⟨sv_i9 (by omega), sv_ia w j 216 (by omega) (by decide), nm_r (e' := ch_kw aK aW w (j + 1)) ?_ (nm_r (nI_1 j) (ih (j + 1) (by omega)))⟩))
    rw [hc, sv_ca w j (by omega)]
    exact ch_kw_s aK aW w j
theorem sf_keepWork (post : SX → Prop) (w : Nat) (hw : w + 9 ≤ 216) (x2 : Int32) (fa fb fc fd fe ff fg fh : Int32) (aK aE aV aS aC aY aD aT aW : Nat → Int32) (hp : ∀ j, j ≤ 9 → (j < 9 → x2 ≤ nI j) → post (fa, fb, fc, fd, fe, ff, fg, fh, ch_kw aK aW w j, aE, aV, aS, aC, aY, aD, aT, aW)) : wpX_keepWork post (fa, fb, fc, fd, fe, ff, fg, fh, aK, aE, aV, aS, aC, aY, aD, aT, aW) (nI w) x2 := by
  have h := sf_kw2 post w hw x2 fa fb fc fd fe ff fg fh aK aE aV aS aC aY aD aT aW hp 9 0 rfl
  rw [ch_kw_0] at h
  exact ⟨10, h⟩
theorem sf_keep9 (post : SX → Prop) (w : Nat) (hw : w + 9 ≤ 216) (fa fb fc fd fe ff fg fh : Int32) (aK aE aV aS aC aY aD aT aW : Nat → Int32) (hp : post (fa, fb, fc, fd, fe, ff, fg, fh, ch_kw aK aW w 9, aE, aV, aS, aC, aY, aD, aT, aW)) : wpX_keepWork post (fa, fb, fc, fd, fe, ff, fg, fh, aK, aE, aV, aS, aC, aY, aD, aT, aW) (nI w) 9 := by
  refine sf_keepWork post w hw 9 fa fb fc fd fe ff fg fh aK aE aV aS aC aY aD aT aW (fun j hj hx => ?_)
  by_cases h : j < 9
  · exact absurd (hx h) (sv_ng 9 h (by decide))
  · have e : j = 9 := by omega
    subst e
    exact hp
/-! a row that is sound: its sum is right, and under the stream st it holds the cells C -/
def ch_ok (K : Nat → Int32) (w : Nat) (st C : Nat → Int32) : Prop := K (w + 8) = ch_sm K w 8 ∧ ∀ c, c < 8 → K (w + c) ^^^ st c = C c
theorem ch_ok_c {K L : Nat → Int32} {w : Nat} {st C : Nat → Int32} (h : ∀ c, c < 9 → L (w + c) = K (w + c)) (k : ch_ok K w st C) : ch_ok L w st C :=
  ⟨by rw [h 8 (by decide), k.1]; exact ch_sm_c 8 (fun c hc => (h c (by omega)).symm), fun c hc => by rw [h c (by omega)]; exact k.2 c hc⟩
theorem ch_xx (a b : Int32) : (a ^^^ b) ^^^ b = a := by rw [Int32.xor_assoc, Int32.xor_self, Int32.xor_zero]
theorem ch_kw_at (K W : Nat → Int32) (w c : Nat) (hc : c < 9) : ch_kw K W w 9 (w + c) = W c := by
  show (if w ≤ w + c ∧ w + c < w + 9 then W (w + c - w) else K (w + c)) = W c
  rw [if_pos (by omega)]
  exact congrArg W (by omega)
theorem ch_kw_off (K W : Nat → Int32) (w j q : Nat) (h : q < w ∨ w + 9 ≤ q) (hj : j ≤ 9) : ch_kw K W w j q = K q := if_neg (by omega)
theorem ch_ok_n (K W st : Nat → Int32) (w : Nat) : ch_ok (ch_kw K (ch_sl W st) w 9) w st W := by
  have h8 : ∀ c, c < 8 → ch_kw K (ch_sl W st) w 9 (w + c) = W c ^^^ st c := fun c hc => by
    rw [ch_kw_at _ _ _ _ (by omega)]
    show upd (ch_w8 W st) 8 _ c = _
    rw [pk_un (by omega)]
    exact if_pos hc
  refine ⟨?_, fun c hc => by rw [h8 c hc]; exact ch_xx _ _⟩
  rw [ch_kw_at _ _ _ _ (by decide)]
  show upd (ch_w8 W st) 8 (ch_sm (ch_w8 W st) 0 8) 8 = _
  rw [pk_us]
  refine (ch_sm_c 8 (fun c hc => ?_)).symm
  rw [h8 c hc]
  show _ = (if 0 + c < 8 then _ else _)
  rw [if_pos (by omega), Nat.zero_add]
end
section
theorem ch_ok_C {K : Nat → Int32} {w : Nat} {st C C' : Nat → Int32} (h : ∀ c, c < 8 → C' c = C c) (k : ch_ok K w st C) : ch_ok K w st C' := ⟨k.1, fun c hc => by rw [k.2 c hc, h c hc]⟩
theorem ch_row_b (i : Nat) (e : Int32) : ch_row i e = 18 * i ∨ ch_row i e = 18 * i + 9 := by
  have : e.toBitVec.toNat % 2 ^ 1 < 2 := Nat.mod_lt _ (by decide)
  unfold ch_row
  omega
theorem ch_row_d {i j : Nat} (h : i ≠ j) (e e' : Int32) : ch_row i e + 9 ≤ ch_row j e' ∨ ch_row j e' + 9 ≤ ch_row i e := by
  have h1 := ch_row_b i e
  have h2 := ch_row_b j e'
  omega
theorem sf_er44 (post : SX → Prop) (J : Int32 → Int32 → Int32 → Int32 → Int32 → Int32 → Int32 → Int32 → Int32 → (Nat → Int32) → (Nat → Int32) → (Nat → Int32) → (Nat → Int32) → (Nat → Int32) → (Nat → Int32) → (Nat → Int32) → (Nat → Int32) → (Nat → Int32) → Prop) (i : Nat) (hi : i < 12) (fa fb fc fd fe ff fg fh : Int32) (aK aE aV aS aC aY aT aW : Nat → Int32) (hT : ch_tl 16 aT)
    (hJ : ∀ aK' aT' aW' : Nat → Int32, ch_tl 16 aT' → (∀ q, q < ch_row i 0 ∨ ch_row i 0 + 9 ≤ q → aK' q = aK q) → ch_ok aK' (ch_row i 0) (ch_S aY (nI i) 0 (aV i)) (fun _ => 0) → ∀ y : Int32, y = nI i + 1 → J y fa fb fc fd fe ff fg fh aK' aE aV aS aC aY (fun _ => 0) aT' aW') :
    ∀ (d j : Nat), j + d = 8 → wX_eraseSectors_44 post J (nI i) fa fb fc fd fe ff fg fh (d + 1) (nI j) aK aE aV aS aC aY (fun _ => 0) aT (fun q => if q < j then 0 else aW q) := by
  intro d
  induction d with
  | zero =>
    intro j hj
    have e : j = 8 := by omega
    subst e
    refine br_t (sv_ge 8 (by omega) (by omega)) (sf_sealWork _ i hi 0 fa fb fc fd fe ff fg fh aK aE aV aS aC aY aT (fun q => if q < 8 then 0 else aW q) hT ?_)
    refine sf_rowOf _ i 0 fa fb fc fd fe ff fg fh aK aE aV aS aC aY (fun _ => 0) (ch_S aY (nI i) 0 (aV i)) (ch_sl (fun q => if q < 8 then 0 else aW q) (ch_S aY (nI i) 0 (aV i))) ?_
    refine sf_keep9 _ _ (ch_row_l hi 0) fa fb fc fd fe ff fg fh aK aE aV aS aC aY (fun _ => 0) (ch_S aY (nI i) 0 (aV i)) (ch_sl (fun q => if q < 8 then 0 else aW q) (ch_S aY (nI i) 0 (aV i))) ?_
    exact hJ _ _ _ (ch_tl_S _ _ _ _) (fun q hq => ch_kw_off _ _ _ _ _ hq (by decide)) (ch_ok_C (fun c hc => (if_pos hc).symm) (ch_ok_n _ _ _ _))
  | succ d ih =>
    intro j hj
    have hc : (nI j).toNatClampNeg = j := nI_clamp (by omega)
    refine br_f (sv_ng 8 (by omega) (by decide)) ⟨sv_i9 (by omega), nm_r ?_ (nm_r (nI_1 j) (ih (j + 1) (by omega)))⟩
    rw [hc]
    exact ch_ui (fun _ => 0) aW j _ rfl
theorem ch_i0 (W : Nat → Int32) : (fun q => if q < 0 then (0 : Int32) else W q) = W := by
  funext q
  exact if_neg (by omega)
theorem sf_er29 (post : SX → Prop) (fa fb fc fd fe ff fg fh : Int32) (aV aS aC aY : Nat → Int32)
    (hp : ∀ aK' aE' aT' aW' : Nat → Int32, ch_tl 16 aT' → (∀ i, i < 12 → aE' i = 0 ∧ ch_ok aK' (ch_row i 0) (ch_S aY (nI i) 0 (aV i)) (fun _ => 0)) → post (fa, fb, fc, fd, fe, ff, fg, fh, aK', aE', aV, aS, aC, aY, (fun _ => 0), aT', aW')) :
    ∀ (d j : Nat) (aK aE aT aW : Nat → Int32), j + d = 12 → ch_tl 16 aT → (∀ i, i < j → aE i = 0 ∧ ch_ok aK (ch_row i 0) (ch_S aY (nI i) 0 (aV i)) (fun _ => 0)) → wX_eraseSectors_29 post (d + 1) (nI j) fa fb fc fd fe ff fg fh aK aE aV aS aC aY (fun _ => 0) aT aW := by
  intro d
  induction d with
  | zero => intro j aK aE aT aW hj hT hE; exact br_t (sv_ge 12 (by omega) (by omega)) (hp _ _ _ _ hT (fun i hi => hE i (by omega)))
  | succ d ih =>
    intro j aK aE aT aW hj hT hE
    have hc : (nI j).toNatClampNeg = j := nI_clamp (by omega)
    refine br_f (sv_ng 12 (by omega) (by decide)) ⟨sv_i12 (by omega), nm_r (e' := upd aE j 0) (by rw [hc]) ⟨9, ?_⟩⟩
    have h := sf_er44 post (wX_eraseSectors_29 post (d + 1)) j (by omega) fa fb fc fd fe ff fg fh aK (upd aE j 0) aV aS aC aY aT aW hT (fun aK' aT' aW' hT' hf hk => nm_r (nI_1 j) (ih (j + 1) aK' (upd aE j 0) aT' aW' (by omega) hT' ?_)) 8 0 rfl
    · rw [ch_i0] at h
      exact h
    · intro i hi
      by_cases hij : i = j
      · subst hij
        exact ⟨pk_us, hk⟩
      · rw [pk_un hij]
        obtain ⟨h1, h2⟩ := hE i (by omega)
        refine ⟨h1, ch_ok_c (fun c hc => hf _ ?_) h2⟩
        have := ch_row_d hij 0 0
        omega
theorem sf_er7 (post : SX → Prop) (fa fb fc fd fe ff fg fh : Int32) (aE aV aS aC aY aT aW : Nat → Int32) (hT : ch_tl 16 aT)
    (hp : ∀ aK' aE' aT' aW' : Nat → Int32, ch_tl 16 aT' → (∀ i, i < 12 → aE' i = 0 ∧ ch_ok aK' (ch_row i 0) (ch_S aY (nI i) 0 (aV i)) (fun _ => 0)) → post (fa, fb, fc, fd, fe, ff, fg, fh, aK', aE', aV, aS, aC, aY, (fun _ => 0), aT', aW')) :
    ∀ (d j : Nat) (aK : Nat → Int32), j + d = 216 → wX_eraseSectors_7 post fa fb fc fd fe ff fg fh (d + 1) (nI j) aK aE aV aS aC aY (fun _ => 0) aT aW := by
  intro d
  induction d with
  | zero => intro j aK hj; exact br_t (sv_ge 216 (by omega) (by omega)) ⟨13, sf_er29 post fa fb fc fd fe ff fg fh aV aS aC aY hp 12 0 aK aE aT aW rfl hT (fun i hi => absurd hi (by omega))⟩
  | succ d ih =>
    intro j aK hj
    exact br_f (sv_ng 216 (by omega) (by decide)) ⟨sv_i216 (by omega), fun _ _ => nm_r (nI_1 j) (ih (j + 1) _ (by omega))⟩
theorem sf_eraseSectors (post : SX → Prop) (fa fb fc fd fe ff fg fh : Int32) (aK aE aV aS aC aY aT aW : Nat → Int32) (hT : ch_tl 16 aT)
    (hp : ∀ aK' aE' aT' aW' : Nat → Int32, ch_tl 16 aT' → (∀ i, i < 12 → aE' i = 0 ∧ ch_ok aK' (ch_row i 0) (ch_S aY (nI i) 0 (aV i)) (fun _ => 0)) → post (fa, fb, fc, fd, fe, ff, 0, fh, aK', aE', aV, aS, aC, aY, (fun _ => 0), aT', aW')) : wpX_eraseSectors post (fa, fb, fc, fd, fe, ff, fg, fh, aK, aE, aV, aS, aC, aY, (fun _ => 0), aT, aW) :=
  ⟨217, sf_er7 post fa fb fc fd fe ff 0 fh aE aV aS aC aY aT aW hT hp 216 0 aK rfl⟩
/-! slots -/
theorem sf_em2 (post : SX → Prop) (s : Nat) (hs : s < 4) (fa fb fc fd fe ff fg fh : Int32) (aK aE aV aC aY aD aT aW : Nat → Int32) (S0 : Nat → Int32) (hp : ∀ aS' : Nat → Int32, (∀ q, q < s * 16 ∨ s * 16 + 16 ≤ q → aS' q = S0 q) → post (fa, fb, fc, fd, (fe &&& (((1 : Int32) <<< (nI s &&& 31)) ^^^ (-1))), ff, fg, fh, aK, aE, aV, aS', aC, aY, aD, aT, aW)) :
    ∀ (d j : Nat) (aS : Nat → Int32), j + d = 16 → (∀ q, q < s * 16 ∨ s * 16 + 16 ≤ q → aS q = S0 q) → wX_emptySlot_2 post (nI s) fa fb fc fd fe ff fg fh (d + 1) (nI j) aK aE aV aS aC aY aD aT aW := by
  intro d
  induction d with
  | zero => intro j aS hj hS; exact br_t (sv_ge 16 (by omega) (by omega)) (nm_e (hp _ hS))
  | succ d ih =>
    intro j aS hj hS
    have e16 : nI s * 16 = nI (s * 16) := pk_mul s 16
    have h : vp_in ((nI s * 16) + nI j) 64 := by
      rw [e16]; exact sv_ia (s * 16) j 64 (by omega) (by decide)
    refine br_f (sv_ng 16 (by omega) (by decide)) ⟨h, fun aS' hS' => nm_r (nI_1 j) (ih (j + 1) _ (by omega) (fun q hq => ?_))⟩
    rw [hS', e16, sv_ca (s * 16) j (by omega), pk_un (by omega)]
    exact hS q hq
def sv_clr (t s : Nat) : Nat := if t / 2 ^ s % 2 = 1 then t - 2 ^ s else t
theorem sv_clr_e : ∀ s, s < 4 → ∀ t, t < 16 → nI t &&& (((1 : Int32) <<< (nI s &&& 31)) ^^^ (-1)) = nI (sv_clr t s) ∧ sv_clr t s < 16 := by decide +kernel
theorem sf_empty (post : SX → Prop) (s : Nat) (hs : s < 4) (t : Nat) (ht : t < 16) (fa fb fc fd ff fg fh : Int32) (aK aE aV aS aC aY aD aT aW : Nat → Int32) (hp : ∀ aS' : Nat → Int32, (∀ q, q < s * 16 ∨ s * 16 + 16 ≤ q → aS' q = aS q) → post (fa, fb, fc, fd, nI (sv_clr t s), ff, fg, fh, aK, aE, aV, aS', aC, aY, aD, aT, aW)) : wpX_emptySlot post (fa, fb, fc, fd, nI t, ff, fg, fh, aK, aE, aV, aS, aC, aY, aD, aT, aW) (nI s) := by
  refine ⟨17, sf_em2 post s hs fa fb fc fd (nI t) ff fg fh aK aE aV aC aY aD aT aW aS (fun aS' h => ?_) 16 0 aS rfl (fun _ _ => rfl)⟩
  rw [(sv_clr_e s hs t ht).1]
  exact hp aS' h
theorem sv_es20 (post : SX → Prop) (fa fb fc fd fe ff fg fh : Int32) (aK aE aV aS aY aD aT aW : Nat → Int32) (hp : ∀ aC' : Nat → Int32, post (fa, fb, fc, fd, fe, ff, fg, fh, aK, aE, aV, aS, aC', aY, aD, aT, aW)) :
    ∀ (d j : Nat) (aC : Nat → Int32), j + d = 64 → wX_eraseSlots_20 post fa fb fc fd fe ff fg fh (d + 1) (nI j) aK aE aV aS aC aY aD aT aW := by
  intro d
  induction d with
  | zero => intro j aC hj; exact br_t (sv_ge 64 (by omega) (by omega)) (hp _)
  | succ d ih =>
    intro j aC hj
    exact br_f (sv_ng 64 (by omega) (by decide)) ⟨sv_i64 (by omega), fun _ _ => nm_r (nI_1 j) (ih (j + 1) _ (by omega))⟩
theorem sv_clr_4 : ∀ t, t < 16 → sv_clr (sv_clr (sv_clr (sv_clr t 0) 1) 2) 3 = 0 := by decide +kernel
theorem sf_eraseSlots (post : SX → Prop) (t : Nat) (ht : t < 16) (fa fb fc fd ff fg fh : Int32) (aK aE aV aS aC aY aD aT aW : Nat → Int32) (hp : ∀ aS' aC' : Nat → Int32, post (fa, fb, fc, fd, 0, ff, fg, fh, aK, aE, aV, aS', aC', aY, aD, aT, aW)) : wpX_eraseSlots post (fa, fb, fc, fd, nI t, ff, fg, fh, aK, aE, aV, aS, aC, aY, aD, aT, aW) := by
  have h1 := (sv_clr_e 0 (by decide) t ht).2
  have h2 := (sv_clr_e 1 (by decide) _ h1).2
  have h3 := (sv_clr_e 2 (by decide) _ h2).2
  have h4 := sv_clr_4 t ht
  refine ⟨5, br_f (by decide) (sf_empty _ 0 (by decide) t ht fa fb fc fd ff fg fh aK aE aV aS aC aY aD aT aW (fun aS1 _ => nm_r (e' := nI 1) rfl
    (br_f (by decide) (sf_empty _ 1 (by decide) _ h1 fa fb fc fd ff fg fh aK aE aV aS1 aC aY aD aT aW (fun aS2 _ => nm_r (e' := nI 2) rfl
    (br_f (by decide) (sf_empty _ 2 (by decide) _ h2 fa fb fc fd ff fg fh aK aE aV aS2 aC aY aD aT aW (fun aS3 _ => nm_r (e' := nI 3) rfl
    (br_f (by decide) (sf_empty _ 3 (by decide) _ h3 fa fb fc fd ff fg fh aK aE aV aS3 aC aY aD aT aW (fun aS4 _ => nm_r (e' := nI 4) rfl
    (br_t (by decide) ?_)))))))))))) ⟩
  rw [h4]
  exact ⟨65, sv_es20 post fa fb fc fd (nI 0) ff fg fh aK aE aV aS4 aY aD aT aW (fun aC' => hp aS4 aC') 64 0 aC rfl⟩
theorem sf_ps57 (post : SX → Prop) (s : Nat) (hs : s < 4) (fa fb fc fd fe ff fg fh : Int32) (aK aE aV aC aY aD aT aW : Nat → Int32) (S0 : Nat → Int32)
    (hp : ∀ aS' : Nat → Int32, (∀ q, q < s * 16 + 8 ∨ s * 16 + 16 ≤ q → aS' q = S0 q) → (∀ i, i < 8 → aS' (s * 16 + 8 + i) = aT i ^^^ aY i) → post (fa, fb, fc, fd, (fe ||| ((1 : Int32) <<< (nI s &&& 31))), ff, fg, fh, aK, aE, aV, aS', aC, aY, aD, aT, aW)) :
    ∀ (d j : Nat) (aS : Nat → Int32), j + d = 8 → (∀ q, q < s * 16 + 8 ∨ s * 16 + 16 ≤ q → aS q = S0 q) → (∀ i, i < j → aS (s * 16 + 8 + i) = aT i ^^^ aY i) → wX_putSlot_57 post (nI s) (nI (s * 16)) fa fb fc fd fe ff fg fh (d + 1) (nI j) aK aE aV aS aC aY aD aT aW := by
  intro d
  induction d with
  | zero => intro j aS hj h1 h2; exact br_t (sv_ge 8 (by omega) (by omega)) (nm_e (hp _ h1 (fun i hi => h2 i (by omega))))
  | succ d ih =>
    intro j aS hj h1 h2
    have hc : (nI j).toNatClampNeg = j := nI_clamp (by omega)
    have e8 : nI (s * 16) + 8 = nI (s * 16 + 8) := nI_add (s * 16) 8
    have h : vp_in ((nI (s * 16) + 8) + nI j) 64 := by
      rw [e8]; exact sv_ia (s * 16 + 8) j 64 (by omega) (by decide)
    refine br_f (sv_ng 8 (by omega) (by decide)) ⟨sv_i16 (by omega), sv_i8 (by omega), h, fun aS' hS' => nm_r (nI_1 j) (ih (j + 1) _ (by omega) (fun q hq => ?_) (fun i hi => ?_))⟩
    · rw [hS', e8, sv_ca _ j (by omega), pk_un (by omega)]
      exact h1 q hq
    · rw [hS', e8, sv_ca _ j (by omega), hc]
      by_cases hij : i = j
      · subst hij
        exact pk_us
      · rw [pk_un (by omega)]
        exact h2 i (by omega)
theorem sf_ps15 (post : SX → Prop) (s : Nat) (hs : s < 4) (x : Int32) (fa fb fc fd fe ff fg fh : Int32) (aK aE aV aC aY aT aW : Nat → Int32) (S0 : Nat → Int32) (hT : ch_tl 16 aT)
    (hp : ∀ aS' : Nat → Int32, (∀ q, q < s * 16 ∨ s * 16 + 16 ≤ q → aS' q = S0 q) → (∀ i, i < 8 → aS' (s * 16 + i) = aT i) → (∀ i, i < 8 → aS' (s * 16 + 8 + i) = ch_P x 3 fh i ^^^ aY i) → post (fa, fb, fc, fd, (fe ||| ((1 : Int32) <<< (nI s &&& 31))), ff, fg, fh, aK, aE, aV, aS', aC, aY, (fun _ => 0), ch_P x 3 fh, aW)) :
    ∀ (d j : Nat) (aS : Nat → Int32), j + d = 8 → (∀ q, q < s * 16 ∨ s * 16 + 16 ≤ q → aS q = S0 q) → (∀ i, i < j → aS (s * 16 + i) = aT i) → wX_putSlot_15 post (nI s) x (nI (s * 16)) fa fb fc fd fe ff fg fh (d + 1) (nI j) aK aE aV aS aC aY (fun _ => 0) aT aW := by
  intro d
  induction d with
  | zero =>
    intro j aS hj h1 h2
    refine br_t (sv_ge 8 (by omega) (by omega)) (sf_stream _ fa fb fc fd fe ff fg fh aK aE aV aS aC aY aT aW _ _ _ hT ⟨9, sf_ps57 post s hs fa fb fc fd fe ff fg fh aK aE aV aC aY (fun _ => 0) (ch_P x 3 fh) aW aS (fun aS' k1 k2 => hp aS' (fun q hq => ?_) (fun i hi => ?_) k2) 8 0 aS rfl (fun _ _ => rfl) (fun i hi => absurd hi (by omega))⟩)
    · rw [k1 q (by omega)]; exact h1 q hq
    · rw [k1 _ (by omega)]; exact h2 i (by omega)
  | succ d ih =>
    intro j aS hj h1 h2
    have hc : (nI j).toNatClampNeg = j := nI_clamp (by omega)
    refine br_f (sv_ng 8 (by omega) (by decide)) ⟨sv_i16 (by omega), sv_ia (s * 16) j 64 (by omega) (by decide), fun aS' hS' => nm_r (nI_1 j) (ih (j + 1) _ (by omega) (fun q hq => ?_) (fun i hi => ?_))⟩
    · rw [hS', sv_ca _ j (by omega), pk_un (by omega)]
      exact h1 q hq
    · rw [hS', sv_ca _ j (by omega), hc]
      by_cases hij : i = j
      · subst hij
        exact pk_us
      · rw [pk_un (by omega)]
        exact h2 i (by omega)
theorem sf_putSlot (post : SX → Prop) (s : Nat) (hs : s < 4) (x : Int32) (fa fb fc fd fe ff fg fh : Int32) (aK aE aV aS aC aY aT aW : Nat → Int32) (hT : ch_tl 16 aT)
    (hp : ∀ aS' : Nat → Int32, (∀ q, q < s * 16 ∨ s * 16 + 16 ≤ q → aS' q = aS q) → (∀ i, i < 8 → aS' (s * 16 + i) = ch_P x 2 0 i) → (∀ i, i < 8 → aS' (s * 16 + 8 + i) = ch_P x 3 fh i ^^^ aY i) → post (fa, fb, fc, fd, (fe ||| ((1 : Int32) <<< (nI s &&& 31))), ff, fg, fh, aK, aE, aV, aS', aC, aY, (fun _ => 0), ch_P x 3 fh, aW)) : wpX_putSlot post (fa, fb, fc, fd, fe, ff, fg, fh, aK, aE, aV, aS, aC, aY, (fun _ => 0), aT, aW) (nI s) x :=
  nm_r (pk_mul s 16) (sf_stream _ fa fb fc fd fe ff fg fh aK aE aV aS aC aY aT aW _ _ _ hT ⟨9, sf_ps15 post s hs x fa fb fc fd fe ff fg fh aK aE aV aC aY (ch_P x 2 0) aW aS (ch_tl_P x 2 0) hp 8 0 aS rfl (fun _ _ => rfl) (fun i hi => absurd hi (by omega))⟩)
/-! forgetting -/
theorem sv_fs44 (post : SX → Prop) (fa fb fc fd fe ff fg fh : Int32) (aK aE aV aS aC aY aD aT : Nat → Int32) (hp : ∀ aW' : Nat → Int32, post (fa, fb, fc, fd, fe, ff, fg, fh, aK, aE, aV, aS, aC, aY, aD, aT, aW')) :
    ∀ (d j : Nat) (aW : Nat → Int32), j + d = 9 → wX_forgetSecrets_44 post fa fb fc fd fe ff fg fh (d + 1) (nI j) aK aE aV aS aC aY aD aT aW := by
  intro d
  induction d with
  | zero => intro j aW hj; exact br_t (sv_ge 9 (by omega) (by omega)) (hp _)
  | succ d ih =>
    intro j aW hj
    exact br_f (sv_ng 9 (by omega) (by decide)) ⟨sv_i9 (by omega), fun _ _ => nm_r (nI_1 j) (ih (j + 1) _ (by omega))⟩
theorem ch_i1 (n : Nat) (W : Nat → Int32) (h : ch_tl n W) : (fun q => if q < n then (0 : Int32) else W q) = (fun _ => 0) := ch_ie n (fun _ => 0) W (ch_tl_0 n) h
theorem sf_fs23 (post : SX → Prop) (fa fb fc fd fe ff fg fh : Int32) (aK aE aV aS aC aY aD aT aW : Nat → Int32) (hT : ch_tl 16 aT) (hp : ∀ aW' : Nat → Int32, post (fa, fb, fc, fd, fe, ff, fg, fh, aK, aE, aV, aS, aC, aY, aD, (fun _ => 0), aW')) :
    ∀ (d j : Nat), j + d = 16 → wX_forgetSecrets_23 post fa fb fc fd fe ff fg fh (d + 1) (nI j) aK aE aV aS aC aY aD (fun q => if q < j then 0 else aT q) aW := by
  intro d
  induction d with
  | zero =>
    intro j hj
    have e : j = 16 := by omega
    subst e
    rw [ch_i1 16 aT hT]
    exact br_t (sv_ge 16 (by omega) (by omega)) ⟨10, sv_fs44 post fa fb fc fd fe ff fg fh aK aE aV aS aC aY aD (fun _ => 0) hp 9 0 aW rfl⟩
  | succ d ih =>
    intro j hj
    have hc : (nI j).toNatClampNeg = j := nI_clamp (by omega)
    refine br_f (sv_ng 16 (by omega) (by decide)) ⟨sv_i16 (by omega), nm_r ?_ (nm_r (nI_1 j) (ih (j + 1) (by omega)))⟩
    rw [hc]
    exact ch_ui (fun _ => 0) aT j _ rfl
theorem sf_fs2 (post : SX → Prop) (fa fb fc fd fe ff fg fh : Int32) (aK aE aV aS aC aY aD aT aW : Nat → Int32) (hT : ch_tl 16 aT) (hY : ch_tl 8 aY) (hp : ∀ aW' : Nat → Int32, post (fa, fb, fc, fd, fe, ff, fg, fh, aK, aE, aV, aS, aC, (fun _ => 0), aD, (fun _ => 0), aW')) :
    ∀ (d j : Nat), j + d = 8 → wX_forgetSecrets_2 post fa fb fc fd fe ff fg fh (d + 1) (nI j) aK aE aV aS aC (fun q => if q < j then 0 else aY q) aD aT aW := by
  intro d
  induction d with
  | zero =>
    intro j hj
    have e : j = 8 := by omega
    subst e
    rw [ch_i1 8 aY hY]
    have h := sf_fs23 post fa fb fc fd fe ff fg fh aK aE aV aS aC (fun _ => 0) aD aT aW hT hp 16 0 rfl
    rw [ch_i0] at h
    exact br_t (sv_ge 8 (by omega) (by omega)) ⟨17, h⟩
  | succ d ih =>
    intro j hj
    have hc : (nI j).toNatClampNeg = j := nI_clamp (by omega)
    refine br_f (sv_ng 8 (by omega) (by decide)) ⟨sv_i8 (by omega), nm_r ?_ (nm_r (nI_1 j) (ih (j + 1) (by omega)))⟩
    rw [hc]
    exact ch_ui (fun _ => 0) aY j _ rfl
theorem sf_forget (post : SX → Prop) (fa fb fc fd fe ff fg fh : Int32) (aK aE aV aS aC aY aD aT aW : Nat → Int32) (hT : ch_tl 16 aT) (hY : ch_tl 8 aY) (hp : ∀ aW' : Nat → Int32, post (fa, fb, fc, fd, fe, ff, fg, fh, aK, aE, aV, aS, aC, (fun _ => 0), aD, (fun _ => 0), aW')) : wpX_forgetSecrets post (fa, fb, fc, fd, fe, ff, fg, fh, aK, aE, aV, aS, aC, aY, aD, aT, aW) := by
  have h := sf_fs2 post fa fb fc fd fe ff fg fh aK aE aV aS aC aY aD aT aW hT hY hp 8 0 rfl
  rw [ch_i0] at h
  exact ⟨9, h⟩
theorem sf_close (post : SX → Prop) (fa fb fc fd fe ff fg fh : Int32) (aK aE aV aS aC aY aD aT aW : Nat → Int32) (hT : ch_tl 16 aT) (hY : ch_tl 8 aY) (hp : ∀ aW' : Nat → Int32, post (fa, 0, fc, fd, fe, ff, fg, fh, aK, aE, aV, aS, aC, (fun _ => 0), aD, (fun _ => 0), aW')) : wpX_close post (fa, fb, fc, fd, fe, ff, fg, fh, aK, aE, aV, aS, aC, aY, aD, aT, aW) :=
  sf_forget _ fa 0 fc fd fe ff fg fh aK aE aV aS aC aY aD aT aW hT hY hp
end
section
def sv_bt (t s : Nat) : Nat := t / 2 ^ s % 2
theorem sv_bit : ∀ s, s < 4 → ∀ t, t < 16 → (nI t >>> (nI s &&& 31)) &&& 1 = nI (sv_bt t s) := by decide +kernel
theorem sv_bt_2 (t s : Nat) : sv_bt t s < 2 := Nat.mod_lt _ (by decide)
theorem sf_isTaken (post : Int32 → Prop) (s : Nat) (hs : s < 4) (t : Nat) (ht : t < 16) (fa fb fc fd ff fg fh : Int32) (aK aE aV aS aC aY aD aT aW : Nat → Int32) (h1 : sv_bt t s = 1 → post 1) (h0 : sv_bt t s = 0 → post 0) : wpX_isTaken post (fa, fb, fc, fd, nI t, ff, fg, fh, aK, aE, aV, aS, aC, aY, aD, aT, aW) (nI s) := by
  have h2 := sv_bt_2 t s
  have hb := sv_bit s hs t ht
  refine br_c (fun h => h1 ?_) (fun h => h0 ?_)
  · rw [hb] at h
    exact (nI_eq (by omega) (by decide)).mp h
  · rw [hb] at h
    by_cases h3 : sv_bt t s = 1
    · exact absurd (by rw [h3]; rfl) h
    · omega
theorem ch_or0 (a b : Int32) : a ||| b = 0 ↔ a = 0 ∧ b = 0 := Int32.or_eq_zero_iff
theorem ch_xor0 (a b : Int32) : a ^^^ b = 0 ↔ a = b := Int32.xor_eq_zero_iff
theorem sf_sb4 (post : Int32 → Prop) (s : Nat) (hs : s < 4) (fa fb fc fd fe ff fg fh : Int32) (aK aE aV aS aC aY aD aT aW : Nat → Int32) (h1 : (∀ i, i < 8 → aS (s * 16 + i) = aT i) → post 1) (h0 : ¬ (∀ i, i < 8 → aS (s * 16 + i) = aT i) → post 0) :
    ∀ (d j : Nat) (x2 : Int32), j + d = 8 → (x2 = 0 ↔ ∀ i, i < j → aS (s * 16 + i) = aT i) → wX_streamBelongsTo_4 post (nI s) fa fb fc fd fe ff fg fh aK aE aV aS aC aY aD aT aW (d + 1) x2 (nI j) := by
  intro d
  induction d with
  | zero =>
    intro j x2 hj hx
    have e : j = 8 := by omega
    subst e
    exact br_t (sv_ge 8 (by omega) (by omega)) (br_c (fun h => h1 (hx.mp h)) (fun h => h0 (fun z => h (hx.mpr z))))
  | succ d ih =>
    intro j x2 hj hx
    have hc : (nI j).toNatClampNeg = j := nI_clamp (by omega)
    have e16 : nI s * 16 = nI (s * 16) := pk_mul s 16
    have h : vp_in ((nI s * 16) + nI j) 64 := by
      rw [e16]; exact sv_ia (s * 16) j 64 (by omega) (by decide)
    refine br_f (sv_ng 8 (by omega) (by decide)) ⟨h, sv_i16 (by omega), fun y ey => nm_r (nI_1 j) (ih (j + 1) _ (by omega) ?_)⟩
    rw [ey, e16, sv_ca _ j (by omega), hc, ch_or0, ch_xor0, hx]
    refine ⟨fun ⟨p, q⟩ i hi => ?_, fun p => ⟨fun i hi => p i (by omega), p j (by omega)⟩⟩
    by_cases hij : i = j
    · subst hij; exact q
    · exact p i (by omega)
theorem sf_belongs (post : Int32 → Prop) (s : Nat) (hs : s < 4) (fa fb fc fd fe ff fg fh : Int32) (aK aE aV aS aC aY aD aT aW : Nat → Int32) (h1 : (∀ i, i < 8 → aS (s * 16 + i) = aT i) → post 1) (h0 : ¬ (∀ i, i < 8 → aS (s * 16 + i) = aT i) → post 0) : wpX_streamBelongsTo post (fa, fb, fc, fd, fe, ff, fg, fh, aK, aE, aV, aS, aC, aY, aD, aT, aW) (nI s) :=
  ⟨9, sf_sb4 post s hs fa fb fc fd fe ff fg fh aK aE aV aS aC aY aD aT aW h1 h0 8 0 0 rfl ⟨fun _ i hi => absurd hi (by omega), fun _ => rfl⟩⟩
/-! the slots, as both sides have them -/
def sl_ok (t : Nat) (fh : Int32) (ky S U P : Nat → Int32) : Prop := ∀ s, s < 4 → U s = nI (sv_bt t s) ∧ (sv_bt t s = 1 → (∀ i, i < 8 → S (s * 16 + i) = ch_P (P s) 2 0 i) ∧ (∀ i, i < 8 → S (s * 16 + 8 + i) = ch_P (P s) 3 fh i ^^^ ky i))
/-- no two passphrases have the same check words: what is not proved -/
def ch_inj : Prop := ∀ x y : Int32, (∀ i, i < 8 → ch_P x 2 0 i = ch_P y 2 0 i) → x = y
noncomputable def sl_fd (t : Nat) (P : Nat → Int32) (x : Int32) : Nat → Nat → Int32
  | 0, _ => -1
  | d + 1, j => if sv_bt t j = 1 ∧ P j = x then nI j else sl_fd t P x d (j + 1)
theorem sl_fd_p (t : Nat) (P : Nat → Int32) (x : Int32) : ∀ d j : Nat, sl_fd t P x d j = -1 ∧ (∀ s, j ≤ s → s < j + d → ¬ (sv_bt t s = 1 ∧ P s = x)) ∨ ∃ s, j ≤ s ∧ s < j + d ∧ sl_fd t P x d j = nI s ∧ sv_bt t s = 1 ∧ P s = x
  | 0, j => Or.inl ⟨rfl, fun s h1 h2 => absurd h2 (by omega)⟩
  | d + 1, j => by
    show ((if sv_bt t j = 1 ∧ P j = x then nI j else sl_fd t P x d (j + 1)) = -1 ∧ _) ∨ ∃ s, j ≤ s ∧ s < j + (d + 1) ∧ (if sv_bt t j = 1 ∧ P j = x then nI j else sl_fd t P x d (j + 1)) = nI s ∧ _
    by_cases h : sv_bt t j = 1 ∧ P j = x
    · rw [if_pos h]
      exact Or.inr ⟨j, by omega, by omega, rfl, h⟩
    · rw [if_neg h]
      rcases sl_fd_p t P x d (j + 1) with ⟨e, k⟩ | ⟨s, h1, h2, h3⟩
      · refine Or.inl ⟨e, fun s h1 h2 => ?_⟩
        by_cases hs : s = j
        · subst hs; exact h
        · exact k s (by omega) (by omega)
      · exact Or.inr ⟨s, by omega, by omega, h3⟩
/-- of the passphrases in the slots none but x itself has x's check words -/
def ch_loc (t : Nat) (P : Nat → Int32) (x : Int32) : Prop := ∀ s, s < 4 → sv_bt t s = 1 → (∀ i, i < 8 → ch_P (P s) 2 0 i = ch_P x 2 0 i) → P s = x
theorem sf_fi9 (post : Int32 → SX → Prop) (x : Int32) (t : Nat) (ht : t < 16) (fa fb fc fd ff fg fh : Int32) (aK aE aV aS aC aY aD aT aW : Nat → Int32) (ky U P : Nat → Int32) (hin : ch_loc t P x) (hS : sl_ok t fh ky aS U P) (hT : aT = ch_P x 2 0) :
    ∀ (d j : Nat), j + d = 4 → post (sl_fd t P x d j) (fa, fb, fc, fd, nI t, ff, fg, fh, aK, aE, aV, aS, aC, aY, aD, aT, aW) → wX_findSlot_9 post fa fb fc fd (nI t) ff fg fh aK aE aV aS aC aY aD aT aW (d + 1) (nI j) := by
  intro d
  induction d with
  | zero => intro j hj hp; exact br_t (sv_ge 4 (by omega) (by omega)) hp
  | succ d ih =>
    intro j hj hp
    have hp' : post (if sv_bt t j = 1 ∧ P j = x then nI j else sl_fd t P x d (j + 1)) (fa, fb, fc, fd, nI t, ff, fg, fh, aK, aE, aV, aS, aC, aY, aD, aT, aW) := hp
    have hnext : ¬ (sv_bt t j = 1 ∧ P j = x) → ∀ y : Int32, y = nI j + 1 → wX_findSlot_9 post fa fb fc fd (nI t) ff fg fh aK aE aV aS aC aY aD aT aW (d + 1) y := fun h => by
      rw [if_neg h] at hp'
      exact nm_r (nI_1 j) (ih (j + 1) (by omega) hp')
    refine br_f (sv_ng 4 (by omega) (by decide)) (sf_isTaken _ j (by omega) t ht fa fb fc fd ff fg fh aK aE aV aS aC aY aD aT aW (fun hb => br_f (by decide) (sf_belongs _ j (by omega) fa fb fc fd (nI t) ff fg fh aK aE aV aS aC aY aD aT aW (fun h => ?_) (fun h => ?_))) (fun hb => br_t rfl (hnext (fun z => by omega))))
    · have e : P j = x := hin j (by omega) hb (fun i hi => by rw [← ((hS j (by omega)).2 hb).1 i hi, h i hi, hT])
      rw [if_pos ⟨hb, e⟩] at hp'
      exact br_f (by decide) hp'
    · refine br_t rfl (hnext (fun z => h (fun i hi => ?_)))
      rw [((hS j (by omega)).2 hb).1 i hi, z.2, hT]
theorem sf_findSlot (post : Int32 → SX → Prop) (x : Int32) (t : Nat) (ht : t < 16) (fa fb fc fd ff fg fh : Int32) (aK aE aV aS aC aY aT aW : Nat → Int32) (ky U P : Nat → Int32) (hin : ch_loc t P x) (hS : sl_ok t fh ky aS U P) (hT : ch_tl 16 aT) (hp : post (sl_fd t P x 4 0) (fa, fb, fc, fd, nI t, ff, fg, fh, aK, aE, aV, aS, aC, aY, (fun _ => 0), ch_P x 2 0, aW)) : wpX_findSlot post (fa, fb, fc, fd, nI t, ff, fg, fh, aK, aE, aV, aS, aC, aY, (fun _ => 0), aT, aW) x := by
  unfold wpX_findSlot
  exact sf_stream _ fa fb fc fd (nI t) ff fg fh aK aE aV aS aC aY aT aW _ _ _ hT ⟨5, sf_fi9 post x t ht fa fb fc fd ff fg fh aK aE aV aS aC aY (fun _ => 0) (ch_P x 2 0) aW ky U P hin hS rfl 4 0 rfl hp⟩
theorem sf_uk21 (post : SX → Prop) (w : Nat) (hw : w + 8 ≤ 64) (fa fb fc fd fe ff fg fh : Int32) (aK aE aV aS aC aY aD aT aW : Nat → Int32) (hp : post (fa, fb, fc, fd, fe, ff, fg, fh, aK, aE, aV, aS, aC, (fun i => if i < 8 then aS (w + i) ^^^ aT i else aY i), aD, aT, aW)) :
    ∀ (d j : Nat), j + d = 8 → wX_unwrapKey_21 post (nI w) fa fb fc fd fe ff fg fh (d + 1) (nI j) aK aE aV aS aC (fun i => if i < j then aS (w + i) ^^^ aT i else aY i) aD aT aW := by
  intro d
  induction d with
  | zero => intro j hj; have e : j = 8 := by omega
            subst e; exact br_t (sv_ge 8 (by omega) (by omega)) hp
  | succ d ih =>
    intro j hj
    have hc : (nI j).toNatClampNeg = j := nI_clamp (by omega)
    refine br_f (sv_ng 8 (by omega) (by decide)) ⟨sv_ia w j 64 (by omega) (by decide), sv_i16 (by omega), sv_i8 (by omega), nm_r ?_ (nm_r (nI_1 j) (ih (j + 1) (by omega)))⟩
    rw [hc, sv_ca w j (by omega)]
    exact ch_ui (fun i => aS (w + i) ^^^ aT i) aY j _ rfl
theorem sf_unwrap (post : SX → Prop) (s : Nat) (hs : s < 4) (x : Int32) (fa fb fc fd fe ff fg fh : Int32) (aK aE aV aS aC aY aT aW : Nat → Int32) (ky : Nat → Int32) (hT : ch_tl 16 aT) (hY : ch_tl 8 aY) (hky : ch_tl 8 ky) (hw : ∀ i, i < 8 → aS (s * 16 + 8 + i) = ch_P x 3 fh i ^^^ ky i)
    (hp : post (fa, fb, fc, fd, fe, ff, fg, fh, aK, aE, aV, aS, aC, ky, (fun _ => 0), ch_P x 3 fh, aW)) : wpX_unwrapKey post (fa, fb, fc, fd, fe, ff, fg, fh, aK, aE, aV, aS, aC, aY, (fun _ => 0), aT, aW) (nI s) x := by
  refine nm_r (show nI s * 16 + 8 = nI (s * 16 + 8) by rw [show nI s * 16 = nI (s * 16) from pk_mul s 16]; exact nI_add (s * 16) 8) (sf_stream _ fa fb fc fd fe ff fg fh aK aE aV aS aC aY aT aW _ _ _ hT ⟨9, sf_uk21 post (s * 16 + 8) (by omega) fa fb fc fd fe ff fg fh aK aE aV aS aC aY (fun _ => 0) (ch_P x 3 fh) aW ?_ 8 0 rfl⟩)
  have e : (fun i => if i < 8 then aS (s * 16 + 8 + i) ^^^ ch_P x 3 fh i else aY i) = ky := by
    funext i
    by_cases h : i < 8
    · rw [if_pos h, hw i h, Int32.xor_comm (ch_P x 3 fh i), ch_xx]
    · rw [if_neg h, hY i (by omega), hky i (by omega)]
  rw [e]
  exact hp
/-! sectors -/
theorem sf_isDamaged (post : Int32 → Prop) (i : Nat) (hi : i < 12) (fa fb fc fd fe ff fg fh : Int32) (aK aE aV aS aC aY aD aT aW : Nat → Int32) (h0 : aK (ch_row i (aE i) + 8) = ch_sm aK (ch_row i (aE i)) 8 → post 0) (h1 : ¬ aK (ch_row i (aE i) + 8) = ch_sm aK (ch_row i (aE i)) 8 → post 1) : wpX_isDamaged post (fa, fb, fc, fd, fe, ff, fg, fh, aK, aE, aV, aS, aC, aY, aD, aT, aW) (nI i) := by
  have hw := ch_row_l hi (aE i)
  refine ⟨sv_i12 hi, sf_rowOf _ i _ fa fb fc fd fe ff fg fh aK aE aV aS aC aY aD aT aW ?_⟩
  rw [nI_clamp (n := i) (by omega)]
  have hc : (nI (ch_row i (aE i)) + 8).toNatClampNeg = ch_row i (aE i) + 8 := sv_ca _ 8 (by omega)
  refine ⟨sv_ia _ 8 216 (by omega) (by decide), sf_sumK _ _ hw fa fb fc fd fe ff fg fh aK aE aV aS aC aY aD aT aW ?_⟩
  rw [hc]
  exact br_c h0 h1
def ch_un (K W st : Nat → Int32) (w : Nat) : Nat → Int32 := fun q => if q < 8 then K (w + q) ^^^ st q else W q
theorem sf_uw29 (post : SX → Prop) (w : Nat) (hw : w + 9 ≤ 216) (fa fb fc fd fe ff fg fh : Int32) (aK aE aV aS aC aY aD aT aW : Nat → Int32) (hp : post (fa, fb, fc, fd, fe, ff, fg, fh, aK, aE, aV, aS, aC, aY, aD, aT, ch_un aK aW aT w)) :
    ∀ (d j : Nat), j + d = 8 → wX_unsealToWork_29 post (nI w) fa fb fc fd fe ff fg fh (d + 1) (nI j) aK aE aV aS aC aY aD aT (fun q => if q < j then aK (w + q) ^^^ aT q else aW q) := by
  intro d
  induction d with
  | zero => intro j hj; have e : j = 8 := by omega
            subst e; exact br_t (sv_ge 8 (by omega) (by omega)) hp
  | succ d ih =>
    intro j hj
    have hc : (nI j).toNatClampNeg = j := nI_clamp (by omega)
    refine br_f (sv_ng 8 (by omega) (by decide)) ⟨sv_ia w j 216 (by omega) (by decide), sv_i16 (by omega), sv_i9 (by omega), nm_r ?_ (nm_r (nI_1 j) (ih (j + 1) (by omega)))⟩
    rw [hc, sv_ca w j (by omega)]
    exact ch_ui (fun q => aK (w + q) ^^^ aT q) aW j _ rfl
theorem ch_j0 (P Q : Nat → Int32) : (fun q => if q < 0 then P q else Q q) = Q := by
  funext q
  exact if_neg (by omega)
theorem sf_unseal (post : SX → Prop) (i : Nat) (hi : i < 12) (fa fb fc fd fe ff fg fh : Int32) (aK aE aV aS aC aY aT aW : Nat → Int32) (hT : ch_tl 16 aT) (hp : post (fa, fb, fc, fd, fe, ff, fg, fh, aK, aE, aV, aS, aC, aY, (fun _ => 0), ch_S aY (nI i) (aE i) (aV i), ch_un aK aW (ch_S aY (nI i) (aE i) (aV i)) (ch_row i (aE i)))) : wpX_unsealToWork post (fa, fb, fc, fd, fe, ff, fg, fh, aK, aE, aV, aS, aC, aY, (fun _ => 0), aT, aW) (nI i) := by
  have hc : (nI i).toNatClampNeg = i := nI_clamp (by omega)
  unfold wpX_unsealToWork
  dsimp only
  rw [hc]
  refine ⟨sv_i12 hi, sf_seedFromKey _ i hi _ fa fb fc fd fe ff fg fh aK aE aV aS aC aY aT aW (sf_scramble _ fa fb fc fd fe ff fg fh aK aE aV aS aC aY (ch_ks aY (nI i) (aE i) (aV i)) aT aW (ch_tl_ks _ _ _ _) hT ⟨sv_i12 hi, ?_⟩)⟩
  refine sf_rowOf _ i _ fa fb fc fd fe ff fg fh aK aE aV aS aC aY (fun _ => 0) (ch_F (ch_ks aY (nI i) (aE i) (aV i))) aW ⟨9, ?_⟩
  have h := sf_uw29 post (ch_row i (aE i)) (ch_row_l hi _) fa fb fc fd fe ff fg fh aK aE aV aS aC aY (fun _ => 0) (ch_F (ch_ks aY (nI i) (aE i) (aV i))) aW hp 8 0 rfl
  rw [ch_j0] at h
  exact h
theorem sf_keepNew (post : SX → Prop) (i : Nat) (hi : i < 12) (fa fb fc fd fe ff fg fh : Int32) (aK aE aV aS aC aY aT aW : Nat → Int32) (hT : ch_tl 16 aT)
    (hp : ∀ aW' : Nat → Int32, post (fa, fb, fc, fd, fe, ff, fg, fh, ch_kw aK (ch_sl aW (ch_S aY (nI i) (aE i) (aV i + 1))) (ch_row i (aE i)) 9, aE, upd aV i (aV i + 1), aS, aC, aY, (fun _ => 0), ch_S aY (nI i) (aE i) (aV i + 1), aW')) : wpX_keepNewContents post (fa, fb, fc, fd, fe, ff, fg, fh, aK, aE, aV, aS, aC, aY, (fun _ => 0), aT, aW) (nI i) := by
  have hc : (nI i).toNatClampNeg = i := nI_clamp (by omega)
  unfold wpX_keepNewContents
  dsimp only
  rw [hc]
  refine ⟨sv_i12 hi, sv_i12 hi, nm_e ⟨sv_i12 hi, ?_⟩⟩
  refine sf_sealWork _ i hi _ fa fb fc fd fe ff fg fh aK aE (upd aV i (aV i + 1)) aS aC aY aT aW hT ?_
  rw [pk_us]
  refine ⟨sv_i12 hi, sf_rowOf _ i _ fa fb fc fd fe ff fg fh aK aE (upd aV i (aV i + 1)) aS aC aY (fun _ => 0) (ch_S aY (nI i) (aE i) (aV i + 1)) (ch_sl aW (ch_S aY (nI i) (aE i) (aV i + 1))) ?_⟩
  refine sf_keep9 _ _ (ch_row_l hi _) fa fb fc fd fe ff fg fh aK aE (upd aV i (aV i + 1)) aS aC aY (fun _ => 0) (ch_S aY (nI i) (aE i) (aV i + 1)) (ch_sl aW (ch_S aY (nI i) (aE i) (aV i + 1))) ?_
  exact hp _
/-! renewing -/
def ch_rk (K st : Nat → Int32) (w : Nat) (W : Nat → Int32) : Nat → Int32 := upd (ch_sl W st) 8 (ch_sl W st 8 ^^^ (K (w + 8) ^^^ ch_sm K w 8))
theorem sf_writeRenewed (post : SX → Prop) (i : Nat) (hi : i < 12) (x : Int32) (fa fb fc fd fe ff fg fh : Int32) (aK aE aV aS aC aY aT aW : Nat → Int32) (hT : ch_tl 16 aT)
    (hp : ∀ aW' : Nat → Int32, ∀ j, j ≤ 9 → (j < 9 → x ≤ nI j) → post (fa, fb, fc, fd, fe, ff, fg, fh, ch_kw aK (ch_rk aK (ch_S aY (nI i) fg (aV i)) (ch_row i (aE i)) (ch_un aK aW (ch_S aY (nI i) (aE i) (aV i)) (ch_row i (aE i)))) (ch_row i fg) j, aE, aV, aS, aC, aY, (fun _ => 0), ch_S aY (nI i) fg (aV i), aW')) : wpX_writeRenewed post (fa, fb, fc, fd, fe, ff, fg, fh, aK, aE, aV, aS, aC, aY, (fun _ => 0), aT, aW) (nI i) x := by
  have hc : (nI i).toNatClampNeg = i := nI_clamp (by omega)
  have hw := ch_row_l hi (aE i)
  have hc8 : (nI (ch_row i (aE i)) + 8).toNatClampNeg = ch_row i (aE i) + 8 := sv_ca _ 8 (by omega)
  unfold wpX_writeRenewed
  dsimp only
  rw [hc]
  refine ⟨sv_i12 hi, sf_rowOf _ i _ fa fb fc fd fe ff fg fh aK aE aV aS aC aY (fun _ => 0) aT aW ⟨sv_ia _ 8 216 (by omega) (by decide), ?_⟩⟩
  rw [hc8]
  refine sf_sumK _ _ hw fa fb fc fd fe ff fg fh aK aE aV aS aC aY (fun _ => 0) aT aW (nm_e ?_)
  refine sf_unseal _ i hi fa fb fc fd fe ff fg fh aK aE aV aS aC aY aT aW hT ?_
  refine sf_sealWork _ i hi _ fa fb fc fd fe ff fg fh aK aE aV aS aC aY (ch_S aY (nI i) (aE i) (aV i)) (ch_un aK aW (ch_S aY (nI i) (aE i) (aV i)) (ch_row i (aE i))) (ch_tl_S _ _ _ _) (nm_e ?_)
  refine sf_rowOf _ i _ fa fb fc fd fe ff fg fh aK aE aV aS aC aY (fun _ => 0) (ch_S aY (nI i) fg (aV i)) (ch_rk aK (ch_S aY (nI i) fg (aV i)) (ch_row i (aE i)) (ch_un aK aW (ch_S aY (nI i) (aE i) (aV i)) (ch_row i (aE i)))) ?_
  exact sf_keepWork _ _ (ch_row_l hi _) x fa fb fc fd fe ff fg fh aK aE aV aS aC aY (fun _ => 0) (ch_S aY (nI i) fg (aV i)) (ch_rk aK (ch_S aY (nI i) fg (aV i)) (ch_row i (aE i)) (ch_un aK aW (ch_S aY (nI i) (aE i) (aV i)) (ch_row i (aE i)))) (fun j hj hx => hp _ j hj hx)
theorem sf_fr24 (post : SX → Prop) (w : Nat) (hw : w + 9 ≤ 216) (fa fb fc fd fe ff fg fh : Int32) (aE aV aS aC aY aD aT aW : Nat → Int32) (K0 : Nat → Int32) (hp : ∀ aK' : Nat → Int32, (∀ q, q < w ∨ w + 9 ≤ q → aK' q = K0 q) → post (fa, fb, fc, fd, fe, ff, fg, fh, aK', aE, aV, aS, aC, aY, aD, aT, aW)) :
    ∀ (d j : Nat) (aK : Nat → Int32), j + d = 9 → (∀ q, q < w ∨ w + 9 ≤ q → aK q = K0 q) → wX_finishRenewed_24 post (nI w) fa fb fc fd fe ff fg fh (d + 1) (nI j) aK aE aV aS aC aY aD aT aW := by
  intro d
  induction d with
  | zero => intro j aK hj h; exact br_t (sv_ge 9 (by omega) (by omega)) (hp _ h)
  | succ d ih =>
    intro j aK hj h
    refine br_f (sv_ng 9 (by omega) (by decide)) ⟨sv_ia w j 216 (by omega) (by decide), fun aK' hK => nm_r (nI_1 j) (ih (j + 1) _ (by omega) (fun q hq => ?_))⟩
    rw [hK, sv_ca w j (by omega), pk_un (by omega)]
    exact h q hq
theorem sf_finish (post : SX → Prop) (i : Nat) (hi : i < 12) (fa fb fc fd fe ff fg fh : Int32) (aK aE aV aS aC aY aD aT aW : Nat → Int32) (hp : ∀ aK' : Nat → Int32, (∀ q, q < ch_row i (aE i) ∨ ch_row i (aE i) + 9 ≤ q → aK' q = aK q) → post (fa, fb, fc, fd, fe, ff, fg, fh, aK', (upd aE i fg), aV, aS, aC, aY, aD, aT, aW)) : wpX_finishRenewed post (fa, fb, fc, fd, fe, ff, fg, fh, aK, aE, aV, aS, aC, aY, aD, aT, aW) (nI i) := by
  have hc : (nI i).toNatClampNeg = i := nI_clamp (by omega)
  unfold wpX_finishRenewed
  dsimp only
  rw [hc]
  exact ⟨sv_i12 hi, sf_rowOf _ i _ fa fb fc fd fe ff fg fh aK aE aV aS aC aY aD aT aW ⟨sv_i12 hi, nm_e ⟨10, sf_fr24 post _ (ch_row_l hi _) fa fb fc fd fe ff fg fh (upd aE i fg) aV aS aC aY aD aT aW aK hp 9 0 aK rfl (fun _ _ => rfl)⟩⟩⟩
end
section
def rl_ep (m : Nat) (fg : Int32) (E : Nat → Int32) : Prop := m ≤ 12 ∧ (∀ i, i < m → E i = fg) ∧ (∀ i, m ≤ i → i < 12 → E i + 1 = fg)
def rl_sc (ky K E V C B : Nat → Int32) : Prop := ∀ i, i < 12 → (B i = 0 → ch_ok K (ch_row i (E i)) (ch_S ky (nI i) (E i) (V i)) (fun c => C (8 * i + c))) ∧ (¬ B i = 0 → ¬ K (ch_row i (E i) + 8) = ch_sm K (ch_row i (E i)) 8)
def rl (fa fb fc fd fe ff fg fh : Int32) (aK aE aV aS aC aY aT : Nat → Int32) (gc : Int32) (bC bD bU bP bV bQ : Nat → Int32) : Prop :=
  ch_tl 16 aT ∧ (fa = 0 → fb = 0 ∧ fc = 0) ∧
  (∃ m : Nat, rl_ep m fg aE ∧ gc = nI (12 - m) ∧ (¬ fc = 0 → m < 12 → ¬ fd = 0) ∧ (fa = 0 → m = 12)) ∧
  (∃ (ky : Nat → Int32) (t : Nat), ch_tl 8 ky ∧ (fb = 0 → aY = fun _ => 0) ∧ (¬ fb = 0 → aY = ky) ∧ t < 16 ∧ fe = nI t ∧ (fa = 0 → t = 0) ∧
    (¬ fa = 0 → t ≠ 0 ∧ sl_ok t fh ky aS bU bP ∧ rl_sc ky aK aE aV bC bD) ∧
    (¬ fc = 0 → ∃ t' : Nat, t' < 16 ∧ t' ≠ 0 ∧ ff = nI t' ∧ sl_ok t' fh ky aC bV bQ))
def i_Rel (_ : Nat) (u : SX) (v : SY) : Prop := match u with
  | (fa, fb, fc, fd, fe, ff, fg, fh, aK, aE, aV, aS, aC, aY, aD, aT, aW) => ∃ (gc : Int32) (bC bD bU bP bV bQ : Nat → Int32), v = (fa, fb, gc, fc, fd, bC, bD, bU, bP, bV, bQ) ∧ aD = (fun _ => 0) ∧ rl fa fb fc fd fe ff fg fh aK aE aV aS aC aY aT gc bC bD bU bP bV bQ
theorem rl_mk {k : Nat} {fa fb fc fd fe ff fg fh : Int32} {aK aE aV aS aC aY aT aW : Nat → Int32} {gc : Int32} {bC bD bU bP bV bQ : Nat → Int32} (h : rl fa fb fc fd fe ff fg fh aK aE aV aS aC aY aT gc bC bD bU bP bV bQ) :
    i_Rel k (fa, fb, fc, fd, fe, ff, fg, fh, aK, aE, aV, aS, aC, aY, (fun _ => 0), aT, aW) (fa, fb, gc, fc, fd, bC, bD, bU, bP, bV, bQ) := ⟨gc, bC, bD, bU, bP, bV, bQ, rfl, rfl, h⟩
theorem rl_Y {fa fb fc fd fe ff fg fh : Int32} {aK aE aV aS aC aY aT : Nat → Int32} {gc : Int32} {bC bD bU bP bV bQ : Nat → Int32} (h : rl fa fb fc fd fe ff fg fh aK aE aV aS aC aY aT gc bC bD bU bP bV bQ) : ch_tl 8 aY := by
  obtain ⟨ky, t, h1, h2, h3, _⟩ := h.2.2.2
  by_cases hb : fb = 0
  · rw [h2 hb]; exact ch_tl_0 8
  · rw [h3 hb]; exact h1
theorem rl_T {fa fb fc fd fe ff fg fh : Int32} {aK aE aV aS aC aY aT aT' : Nat → Int32} {gc : Int32} {bC bD bU bP bV bQ : Nat → Int32} (h : rl fa fb fc fd fe ff fg fh aK aE aV aS aC aY aT gc bC bD bU bP bV bQ) (hT : ch_tl 16 aT') : rl fa fb fc fd fe ff fg fh aK aE aV aS aC aY aT' gc bC bD bU bP bV bQ :=
  ⟨hT, h.2⟩
/-- locked -/
theorem rl_L {fa fb fc fd fe ff fg fh : Int32} {aK aE aV aS aC aY aT aT' : Nat → Int32} {gc : Int32} {bC bD bU bP bV bQ : Nat → Int32} (h : rl fa fb fc fd fe ff fg fh aK aE aV aS aC aY aT gc bC bD bU bP bV bQ) (hT : ch_tl 16 aT') : rl fa 0 fc fd fe ff fg fh aK aE aV aS aC (fun _ => 0) aT' gc bC bD bU bP bV bQ := by
  obtain ⟨_, h0, hm, ky, t, h1, h2, h3, h4⟩ := h
  exact ⟨hT, fun ha => ⟨rfl, (h0 ha).2⟩, hm, ky, t, h1, fun _ => rfl, fun hb => absurd rfl hb, h4⟩
/-- other sectors' rows -/
theorem rl_sc_w {ky K E V C B : Nat → Int32} (h : rl_sc ky K E V C B) (i : Nat) (hi : i < 12) (W C' B' : Nat → Int32) (hW : ∀ q, q < 8 → C' (8 * i + q) = W q) (hC : ∀ j, j ≠ i → ∀ q, q < 8 → C' (8 * j + q) = C (8 * j + q)) (hB : B' i = 0) (hB2 : ∀ j, j ≠ i → B' j = B j) :
    rl_sc ky (ch_kw K (ch_sl W (ch_S ky (nI i) (E i) (V i + 1))) (ch_row i (E i)) 9) E (upd V i (V i + 1)) C' B' := by
  intro j hj
  by_cases hji : j = i
  · subst hji
    refine ⟨fun _ => ?_, fun z => absurd hB z⟩
    rw [pk_us]
    exact ch_ok_C hW (ch_ok_n _ _ _ _)
  · have hd := ch_row_d hji (E j) (E i)
    have hf : ∀ c, c < 9 → ch_kw K (ch_sl W (ch_S ky (nI i) (E i) (V i + 1))) (ch_row i (E i)) 9 (ch_row j (E j) + c) = K (ch_row j (E j) + c) := fun c hc => ch_kw_off _ _ _ _ _ (by omega) (by decide)
    obtain ⟨h1, h2⟩ := h j hj
    rw [pk_un hji]
    refine ⟨fun z => ?_, fun z => ?_⟩
    · rw [hB2 j hji] at z
      exact ch_ok_C (hC j hji) (ch_ok_c hf (h1 z))
    · rw [hB2 j hji] at z
      rw [hf 8 (by decide), ch_sm_c 8 (fun c hc => hf c (by omega))]
      exact h2 z
/-- a change outside all rows that hold -/
theorem rl_sc_f {ky K K' E V C B : Nat → Int32} (h : rl_sc ky K E V C B) (hf : ∀ j, j < 12 → ∀ c, c < 9 → K' (ch_row j (E j) + c) = K (ch_row j (E j) + c)) : rl_sc ky K' E V C B := by
  intro j hj
  obtain ⟨h1, h2⟩ := h j hj
  refine ⟨fun z => ch_ok_c (hf j hj) (h1 z), fun z => ?_⟩
  rw [hf j hj 8 (by decide), ch_sm_c 8 (fun c hc => hf j hj c (by omega))]
  exact h2 z
theorem ch_par (j : Nat) (e e' : Int32) (h : e + 1 = e') : ch_row j e + 9 ≤ ch_row j e' ∨ ch_row j e' + 9 ≤ ch_row j e := by
  have hb : e'.toBitVec.toNat = (e.toBitVec.toNat + 1) % 2 ^ 32 := by
    rw [← h, Int32.toBitVec_add, BitVec.toNat_add]
    rfl
  unfold ch_row
  omega
/-- the sums of a renewed row -/
theorem ch_rk_s (K st W : Nat → Int32) (w v : Nat) : ∀ c, c < 8 → ch_kw K (ch_rk K st w W) v 9 (v + c) = W c ^^^ st c := fun c hc => by
  rw [ch_kw_at _ _ _ _ (by omega)]
  show upd (ch_sl W st) 8 _ c = _
  rw [pk_un (by omega)]
  show upd (ch_w8 W st) 8 _ c = _
  rw [pk_un (by omega)]
  exact if_pos hc
theorem ch_rk_m (K st W : Nat → Int32) (w v : Nat) : ch_sm (ch_kw K (ch_rk K st w W) v 9) v 8 = ch_sm (ch_w8 W st) 0 8 :=
  ch_sm_c 8 (fun c hc => by
    rw [ch_rk_s K st W w v c hc]
    show _ = (if 0 + c < 8 then _ else _)
    rw [if_pos (by omega), Nat.zero_add])
theorem ch_rk_8 (K st W : Nat → Int32) (w v : Nat) : ch_kw K (ch_rk K st w W) v 9 (v + 8) = ch_sm (ch_w8 W st) 0 8 ^^^ (K (w + 8) ^^^ ch_sm K w 8) := by
  rw [ch_kw_at _ _ _ _ (by decide)]
  show upd (ch_sl W st) 8 (ch_sl W st 8 ^^^ (K (w + 8) ^^^ ch_sm K w 8)) 8 = _
  rw [pk_us]
  show upd (ch_w8 W st) 8 _ 8 ^^^ _ = _
  rw [pk_us]
theorem rl_sc_r {ky K K2 E V C B : Nat → Int32} {fg : Int32} (W0 : Nat → Int32) (h : rl_sc ky K E V C B) (i : Nat) (hi : i < 12) (he : E i + 1 = fg)
    (hK : ∀ q, q < ch_row i (E i) ∨ ch_row i (E i) + 9 ≤ q → K2 q = ch_kw K (ch_rk K (ch_S ky (nI i) fg (V i)) (ch_row i (E i)) (ch_un K W0 (ch_S ky (nI i) (E i) (V i)) (ch_row i (E i)))) (ch_row i fg) 9 q) :
    rl_sc ky K2 (upd E i fg) V C B := by
  intro j hj
  obtain ⟨h1, h2⟩ := h j hj
  by_cases hji : j = i
  · subst hji
    rw [pk_us]
    have hp := ch_par j (E j) fg he
    have hf : ∀ c, c < 9 → K2 (ch_row j fg + c) = ch_kw K (ch_rk K (ch_S ky (nI j) fg (V j)) (ch_row j (E j)) (ch_un K W0 (ch_S ky (nI j) (E j) (V j)) (ch_row j (E j)))) (ch_row j fg) 9 (ch_row j fg + c) := fun c hc => hK _ (by omega)
    refine ⟨fun z => ?_, fun z => ?_⟩
    · obtain ⟨k1, k2⟩ := h1 z
      refine ch_ok_c hf ⟨?_, fun c hc => ?_⟩
      · rw [ch_rk_8, ch_rk_m, k1, Int32.xor_self, Int32.xor_zero]
      · rw [ch_rk_s _ _ _ _ _ c hc, ch_xx]
        show (if c < 8 then _ else _) = _
        rw [if_pos hc]
        exact k2 c hc
    · rw [hf 8 (by decide), ch_sm_c 8 (fun c hc => hf c (by omega)), ch_rk_8, ch_rk_m]
      intro hx
      refine h2 z ((ch_xor0 _ _).mp ?_)
      generalize ch_sm (ch_w8 _ _) 0 8 = a at hx
      have e2 : a ^^^ (a ^^^ (K (ch_row j (E j) + 8) ^^^ ch_sm K (ch_row j (E j)) 8)) = a ^^^ a := by rw [hx]
      rw [← Int32.xor_assoc, Int32.xor_self, Int32.zero_xor] at e2
      exact e2
  · rw [pk_un hji]
    have hd1 := ch_row_d hji (E j) (E i)
    have hd2 := ch_row_d hji (E j) fg
    have hf : ∀ c, c < 9 → K2 (ch_row j (E j) + c) = K (ch_row j (E j) + c) := fun c hc => by
      rw [hK _ (by omega)]
      exact ch_kw_off _ _ _ _ _ (by omega) (by decide)
    refine ⟨fun z => ch_ok_c hf (h1 z), fun z => ?_⟩
    rw [hf 8 (by decide), ch_sm_c 8 (fun c hc => hf c (by omega))]
    exact h2 z
/-! one turned bit -/
theorem ch_mul_inj (a b : Int32) (h : a * (-1640531535) = b * (-1640531535)) : a = b := by
  have e : ∀ x : Int32, x * (-1640531535) * 244002641 = x := fun x => by
    rw [Int32.mul_assoc, show (-1640531535 : Int32) * 244002641 = 1 from by decide +kernel, Int32.mul_one]
  rw [← e a, h, e b]
theorem ch_xor_inj (a b c : Int32) (h : a ^^^ c = b ^^^ c) : a = b := by rw [← ch_xx a c, h, ch_xx]
theorem ch_xor_inj2 (a b c : Int32) (h : c ^^^ a = c ^^^ b) : a = b := by
  rw [Int32.xor_comm c a, Int32.xor_comm c b] at h
  exact ch_xor_inj a b c h
theorem ch_sm_inj (K L : Nat → Int32) (w p : Nat) (hf : ∀ c, c ≠ p → L (w + c) = K (w + c)) (hp : L (w + p) ≠ K (w + p)) : ∀ n, p < n → ch_sm L w n ≠ ch_sm K w n
  | 0, h => absurd h (by omega)
  | n + 1, h => by
    intro e
    have e1 : (ch_sm L w n ^^^ L (w + n)) * (-1640531535) = (ch_sm K w n ^^^ K (w + n)) * (-1640531535) := e
    have e2 := ch_mul_inj _ _ e1
    by_cases hn : n = p
    · subst hn
      rw [ch_sm_c n (fun c hc => hf c (by omega))] at e2
      exact hp (ch_xor_inj2 _ _ _ e2)
    · rw [hf n hn] at e2
      exact ch_sm_inj K L w p hf hp n (by omega) (ch_xor_inj _ _ _ e2)
theorem ch_bit : ∀ b, b < 32 → (1 : Int32) <<< (nI b &&& 31) ≠ 0 := by decide +kernel
theorem rl_sc_d {ky K E V C B : Nat → Int32} (h : rl_sc ky K E V C B) (i : Nat) (hi : i < 12) (hz : B i = 0) (p : Nat) (hp : p < 9) (x : Int32) (hx : x ≠ 0) (y : Int32) (hy : ¬ y = 0) :
    rl_sc ky (upd K (ch_row i (E i) + p) (K (ch_row i (E i) + p) ^^^ x)) E V C (upd B i y) := by
  intro j hj
  obtain ⟨h1, h2⟩ := h j hj
  by_cases hji : j = i
  · subst hji
    rw [pk_us]
    refine ⟨fun z => absurd z hy, fun _ => ?_⟩
    have k1 := (h1 hz).1
    have hne : K (ch_row j (E j) + p) ^^^ x ≠ K (ch_row j (E j) + p) := fun e => hx (by
      have e2 : K (ch_row j (E j) + p) ^^^ x = K (ch_row j (E j) + p) ^^^ 0 := by rw [Int32.xor_zero]; exact e
      exact ch_xor_inj2 _ _ _ e2)
    by_cases hp8 : p = 8
    · subst hp8
      rw [pk_us, ch_sm_c 8 (L := K) (v := ch_row j (E j)) (fun c hc => pk_un (by omega)), ← k1]
      exact hne
    · rw [pk_un (by omega), k1]
      intro e
      refine ch_sm_inj K (upd K (ch_row j (E j) + p) (K (ch_row j (E j) + p) ^^^ x)) (ch_row j (E j)) p (fun c hc => pk_un (by omega)) ?_ 8 (by omega) e.symm
      rw [pk_us]
      exact hne
  · rw [pk_un hji]
    have hd := ch_row_d hji (E j) (E i)
    have hf : ∀ c, c < 9 → upd K (ch_row i (E i) + p) (K (ch_row i (E i) + p) ^^^ x) (ch_row j (E j) + c) = K (ch_row j (E j) + c) := fun c hc => pk_un (by omega)
    refine ⟨fun z => ch_ok_c hf (h1 z), fun z => ?_⟩
    rw [hf 8 (by decide), ch_sm_c 8 (fun c hc => hf c (by omega))]
    exact h2 z
/-! slots -/
def sv_set (t s : Nat) : Nat := if t / 2 ^ s % 2 = 1 then t else t + 2 ^ s
def sv_pop (t : Nat) : Nat := sv_bt t 0 + sv_bt t 1 + sv_bt t 2 + sv_bt t 3
theorem sv_set_e : ∀ s, s < 4 → ∀ t, t < 16 → nI t ||| ((1 : Int32) <<< (nI s &&& 31)) = nI (sv_set t s) ∧ sv_set t s < 16 ∧ sv_set t s ≠ 0 := by decide +kernel
theorem sv_set_b : ∀ s, s < 4 → ∀ t, t < 16 → ∀ r, r < 4 → sv_bt (sv_set t s) r = if r = s then 1 else sv_bt t r := by decide +kernel
theorem sv_set_i : ∀ s, s < 4 → ∀ t, t < 16 → sv_bt t s = 1 → sv_set t s = t := by decide +kernel
theorem sv_clr_b : ∀ s, s < 4 → ∀ t, t < 16 → ∀ r, r < 4 → sv_bt (sv_clr t s) r = if r = s then 0 else sv_bt t r := by decide +kernel
theorem sv_clr_n : ∀ s, s < 4 → ∀ t, t < 16 → sv_bt t s = 1 → sv_pop t ≠ 1 → sv_clr t s ≠ 0 := by decide +kernel
theorem sl_set {t : Nat} {fh : Int32} {ky S S' U P : Nat → Int32} (h : sl_ok t fh ky S U P) (ht : t < 16) (s : Nat) (hs : s < 4) (x : Int32)
    (hf : ∀ q, q < s * 16 ∨ s * 16 + 16 ≤ q → S' q = S q) (h1 : ∀ i, i < 8 → S' (s * 16 + i) = ch_P x 2 0 i) (h2 : ∀ i, i < 8 → S' (s * 16 + 8 + i) = ch_P x 3 fh i ^^^ ky i) : sl_ok (sv_set t s) fh ky S' (upd U s 1) (upd P s x) := by
  intro r hr
  rw [sv_set_b s hs t ht r hr]
  by_cases hrs : r = s
  · subst hrs
    rw [if_pos rfl, pk_us, pk_us]
    exact ⟨rfl, fun _ => ⟨h1, h2⟩⟩
  · rw [if_neg hrs, pk_un hrs, pk_un hrs]
    obtain ⟨k1, k2⟩ := h r hr
    exact ⟨k1, fun z => ⟨fun i hi => by rw [hf _ (by omega)]; exact (k2 z).1 i hi, fun i hi => by rw [hf _ (by omega)]; exact (k2 z).2 i hi⟩⟩
theorem sl_chg {t : Nat} {fh : Int32} {ky S S' U P : Nat → Int32} (h : sl_ok t fh ky S U P) (s : Nat) (hs : s < 4) (hb : sv_bt t s = 1) (x : Int32)
    (hf : ∀ q, q < s * 16 ∨ s * 16 + 16 ≤ q → S' q = S q) (h1 : ∀ i, i < 8 → S' (s * 16 + i) = ch_P x 2 0 i) (h2 : ∀ i, i < 8 → S' (s * 16 + 8 + i) = ch_P x 3 fh i ^^^ ky i) : sl_ok t fh ky S' U (upd P s x) := by
  intro r hr
  by_cases hrs : r = s
  · subst hrs
    rw [pk_us]
    exact ⟨(h r hr).1, fun _ => ⟨h1, h2⟩⟩
  · rw [pk_un hrs]
    obtain ⟨k1, k2⟩ := h r hr
    exact ⟨k1, fun z => ⟨fun i hi => by rw [hf _ (by omega)]; exact (k2 z).1 i hi, fun i hi => by rw [hf _ (by omega)]; exact (k2 z).2 i hi⟩⟩
theorem sl_clr {t : Nat} {fh : Int32} {ky S S' U P : Nat → Int32} (h : sl_ok t fh ky S U P) (ht : t < 16) (s : Nat) (hs : s < 4)
    (hf : ∀ q, q < s * 16 ∨ s * 16 + 16 ≤ q → S' q = S q) : sl_ok (sv_clr t s) fh ky S' (upd U s 0) P := by
  intro r hr
  rw [sv_clr_b s hs t ht r hr]
  by_cases hrs : r = s
  · subst hrs
    rw [if_pos rfl, pk_us]
    exact ⟨rfl, fun z => absurd z (by decide)⟩
  · rw [if_neg hrs, pk_un hrs]
    obtain ⟨k1, k2⟩ := h r hr
    exact ⟨k1, fun z => ⟨fun i hi => by rw [hf _ (by omega)]; exact (k2 z).1 i hi, fun i hi => by rw [hf _ (by omega)]; exact (k2 z).2 i hi⟩⟩
theorem sl_cp {t : Nat} {fh : Int32} {ky S S' U U' P P' : Nat → Int32} (h : sl_ok t fh ky S U P) (hS : ∀ q, q < 64 → S' q = S q) (hU : ∀ s, s < 4 → U' s = U s) (hP : ∀ s, s < 4 → P' s = P s) : sl_ok t fh ky S' U' P' := by
  intro r hr
  obtain ⟨k1, k2⟩ := h r hr
  rw [hU r hr, hP r hr]
  exact ⟨k1, fun z => ⟨fun i hi => by rw [hS _ (by omega)]; exact (k2 z).1 i hi, fun i hi => by rw [hS _ (by omega)]; exact (k2 z).2 i hi⟩⟩
end
section
theorem pa_lt {x M : Int32} {N : Nat} (hN : M.toInt = N) (h : vp_in x N) : ¬ x < 0 ∧ ¬ M ≤ x := by
  rw [vp_in_iff] at h
  rw [Int32.lt_iff_toInt_lt, Int32.le_iff_toInt_le, show (0 : Int32).toInt = 0 from by decide]
  omega
theorem pa_le {x M : Int32} {N : Nat} (hN : M.toInt + 1 = N) (h : vp_in x N) : ¬ x < 0 ∧ x ≤ M := by
  rw [vp_in_iff] at h
  rw [Int32.lt_iff_toInt_lt, Int32.le_iff_toInt_le, show (0 : Int32).toInt = 0 from by decide]
  omega
theorem pa_nlt {x M : Int32} {N : Nat} (hN : M.toInt = N) (h : ¬ vp_in x N) (h0 : ¬ x < 0) : M ≤ x := by
  rw [vp_in_iff] at h
  rw [Int32.lt_iff_toInt_lt, show (0 : Int32).toInt = 0 from by decide] at h0
  rw [Int32.le_iff_toInt_le]
  omega
theorem pa_nle {x M : Int32} {N : Nat} (hN : M.toInt + 1 = N) (h : ¬ vp_in x N) (h0 : ¬ x < 0) : ¬ x ≤ M := by
  rw [vp_in_iff] at h
  rw [Int32.lt_iff_toInt_lt, show (0 : Int32).toInt = 0 from by decide] at h0
  rw [Int32.le_iff_toInt_le]
  omega
theorem pa_xSector_g (post : Int32 → Prop) (u : SX) (x : Int32) (h : vp_in x 12) (hp : post 1) : wpX_isSector post u x := by
  obtain ⟨fa, fb, fc, fd, fe, ff, fg, fh, aK, aE, aV, aS, aC, aY, aD, aT, aW⟩ := u
  have b := pa_lt (M := 12) (by decide) h
  exact br_f b.1 (br_f b.2 hp)
theorem pa_xSector_b (post : Int32 → Prop) (u : SX) (x : Int32) (h : ¬ vp_in x 12) (hp : post 0) : wpX_isSector post u x := by
  obtain ⟨fa, fb, fc, fd, fe, ff, fg, fh, aK, aE, aV, aS, aC, aY, aD, aT, aW⟩ := u
  exact br_c (fun _ => hp) (fun h0 => br_t (pa_nlt (M := 12) (by decide) h h0) hp)
theorem pa_ySector_g (post : Int32 → Prop) (v : SY) (x : Int32) (h : vp_in x 12) (hp : post 0) : wpY_badSector post v x := by
  obtain ⟨ga, gb, gc, gd, ge, bC, bD, bU, bP, bV, bQ⟩ := v
  have b := pa_le (M := 11) (by decide) h
  exact br_f b.1 (br_t b.2 hp)
theorem pa_ySector_b (post : Int32 → Prop) (v : SY) (x : Int32) (h : ¬ vp_in x 12) (hp : post 1) : wpY_badSector post v x := by
  obtain ⟨ga, gb, gc, gd, ge, bC, bD, bU, bP, bV, bQ⟩ := v
  exact br_c (fun _ => hp) (fun h0 => br_f (pa_nle (M := 11) (by decide) h h0) hp)
theorem pa_xCell_g (post : Int32 → Prop) (u : SX) (x : Int32) (h : vp_in x 8) (hp : post 1) : wpX_isCell post u x := by
  obtain ⟨fa, fb, fc, fd, fe, ff, fg, fh, aK, aE, aV, aS, aC, aY, aD, aT, aW⟩ := u
  have b := pa_lt (M := 8) (by decide) h
  exact br_f b.1 (br_f b.2 hp)
theorem pa_xCell_b (post : Int32 → Prop) (u : SX) (x : Int32) (h : ¬ vp_in x 8) (hp : post 0) : wpX_isCell post u x := by
  obtain ⟨fa, fb, fc, fd, fe, ff, fg, fh, aK, aE, aV, aS, aC, aY, aD, aT, aW⟩ := u
  exact br_c (fun _ => hp) (fun h0 => br_t (pa_nlt (M := 8) (by decide) h h0) hp)
theorem pa_yCell_g (post : Int32 → Prop) (v : SY) (x : Int32) (h : vp_in x 8) (hp : post 0) : wpY_badCell post v x := by
  obtain ⟨ga, gb, gc, gd, ge, bC, bD, bU, bP, bV, bQ⟩ := v
  have b := pa_le (M := 7) (by decide) h
  exact br_f b.1 (br_t b.2 hp)
theorem pa_yCell_b (post : Int32 → Prop) (v : SY) (x : Int32) (h : ¬ vp_in x 8) (hp : post 1) : wpY_badCell post v x := by
  obtain ⟨ga, gb, gc, gd, ge, bC, bD, bU, bP, bV, bQ⟩ := v
  exact br_c (fun _ => hp) (fun h0 => br_f (pa_nle (M := 7) (by decide) h h0) hp)
theorem pa_xSlot_g (post : Int32 → Prop) (u : SX) (x : Int32) (h : vp_in x 4) (hp : post 1) : wpX_isSlot post u x := by
  obtain ⟨fa, fb, fc, fd, fe, ff, fg, fh, aK, aE, aV, aS, aC, aY, aD, aT, aW⟩ := u
  have b := pa_lt (M := 4) (by decide) h
  exact br_f b.1 (br_f b.2 hp)
theorem pa_xSlot_b (post : Int32 → Prop) (u : SX) (x : Int32) (h : ¬ vp_in x 4) (hp : post 0) : wpX_isSlot post u x := by
  obtain ⟨fa, fb, fc, fd, fe, ff, fg, fh, aK, aE, aV, aS, aC, aY, aD, aT, aW⟩ := u
  exact br_c (fun _ => hp) (fun h0 => br_t (pa_nlt (M := 4) (by decide) h h0) hp)
theorem pa_ySlot_g (post : Int32 → Prop) (v : SY) (x : Int32) (h : vp_in x 4) (hp : post 0) : wpY_badSlot post v x := by
  obtain ⟨ga, gb, gc, gd, ge, bC, bD, bU, bP, bV, bQ⟩ := v
  have b := pa_le (M := 3) (by decide) h
  exact br_f b.1 (br_t b.2 hp)
theorem pa_ySlot_b (post : Int32 → Prop) (v : SY) (x : Int32) (h : ¬ vp_in x 4) (hp : post 1) : wpY_badSlot post v x := by
  obtain ⟨ga, gb, gc, gd, ge, bC, bD, bU, bP, bV, bQ⟩ := v
  exact br_c (fun _ => hp) (fun h0 => br_f (pa_nle (M := 3) (by decide) h h0) hp)
theorem sy_i4 {j : Nat} (h : j < 4) : vp_in (nI j) 4 := vp_in_nI h (by decide)
theorem sy_i96 {i j : Nat} (hi : i < 12) (hj : j < 8) : vp_in ((8 * nI i) + nI j) 96 := by
  rw [show 8 * nI i = nI (8 * i) from pk_mul 8 i]
  exact sv_ia (8 * i) j 96 (by omega) (by decide)
theorem sy_c96 {i j : Nat} (hi : i < 12) (hj : j < 8) : ((8 * nI i) + nI j).toNatClampNeg = 8 * i + j := by
  rw [show 8 * nI i = nI (8 * i) from pk_mul 8 i]
  exact sv_ca (8 * i) j (by omega)
theorem sy_n0 : vp_nar .boolean 0 = 0 := by decide
theorem sy_n1 : vp_nar .boolean 1 = 1 := by decide
theorem sy_nb (t s : Nat) : vp_nar .boolean (nI (sv_bt t s)) = nI (sv_bt t s) := by
  have h := sv_bt_2 t s
  have h2 : sv_bt t s = 0 ∨ sv_bt t s = 1 := by omega
  rcases h2 with e | e <;> rw [e] <;> decide
theorem sy_b0 {t s : Nat} (h : nI (sv_bt t s) = 0) : sv_bt t s = 0 := (nI_eq (by have := sv_bt_2 t s; omega) (by decide)).mp h
theorem sy_b1 {t s : Nat} (h : ¬ nI (sv_bt t s) = 0) : sv_bt t s = 1 := by
  have h2 := sv_bt_2 t s
  by_cases e : sv_bt t s = 0
  · exact absurd (by rw [e]; rfl) h
  · omega
theorem sg_fi2 (post : Int32 → Prop) (x : Int32) (t : Nat) (ga gb gc gd ge : Int32) (bC bD bU bP bV bQ : Nat → Int32) (hU : ∀ s, s < 4 → bU s = nI (sv_bt t s)) :
    ∀ (d j : Nat), j + d = 4 → post (sl_fd t bP x d j) → wY_find_2 post x ga gb gc gd ge bC bD bU bP bV bQ (d + 1) (nI j) := by
  intro d
  induction d with
  | zero => intro j hj hp; exact br_t (sv_ge 4 (by omega) (by omega)) hp
  | succ d ih =>
    intro j hj hp
    have hc : (nI j).toNatClampNeg = j := nI_clamp (by omega)
    have hp' : post (if sv_bt t j = 1 ∧ bP j = x then nI j else sl_fd t bP x d (j + 1)) := hp
    have hx : ¬ (sv_bt t j = 1 ∧ bP j = x) → ∀ y : Int32, y = nI j + 1 → wY_find_2 post x ga gb gc gd ge bC bD bU bP bV bQ (d + 1) y := fun h => by
      rw [if_neg h] at hp'
      exact nm_r (nI_1 j) (ih (j + 1) (by omega) hp')
    refine br_f (sv_ng 4 (by omega) (by decide)) ⟨sy_i4 (by omega), ?_⟩
    rw [hc, hU j (by omega)]
    refine br_c (fun h => hx (fun z => ?_)) (fun h => ⟨sy_i4 (by omega), br_c (fun h2 => ?_) (fun h2 => hx (fun z => h2 z.2))⟩)
    · have := sy_b0 h
      omega
    · rw [if_pos ⟨sy_b1 h, h2⟩] at hp'
      exact hp'
theorem sg_find (post : Int32 → Prop) (x : Int32) (t : Nat) (ga gb gc gd ge : Int32) (bC bD bU bP bV bQ : Nat → Int32) (hU : ∀ s, s < 4 → bU s = nI (sv_bt t s)) (hp : post (sl_fd t bP x 4 0)) : wpY_find post (ga, gb, gc, gd, ge, bC, bD, bU, bP, bV, bQ) x :=
  ⟨5, sg_fi2 post x t ga gb gc gd ge bC bD bU bP bV bQ hU 4 0 rfl hp⟩
theorem sg_cs (post : Int32 → Prop) (t : Nat) (ga gb gc gd ge : Int32) (bC bD bU bP bV bQ : Nat → Int32) (hU : ∀ s, s < 4 → bU s = nI (sv_bt t s)) (hp : post (nI (sv_pop t))) : wpY_countSlots post (ga, gb, gc, gd, ge, bC, bD, bU, bP, bV, bQ) := by
  have st : ∀ (j x1 x1' : Nat) (n : Nat) (y : Int32), j < 4 → y = nI x1 → x1' = x1 + sv_bt t j → wY_countSlots_4 post ga gb gc gd ge bC bD bU bP bV bQ n (nI x1') (nI (j + 1)) → wY_countSlots_4 post ga gb gc gd ge bC bD bU bP bV bQ (n + 1) y (nI j) := by
    intro j x1 x1' n y hj ey ex h
    have hc : (nI j).toNatClampNeg = j := nI_clamp (by omega)
    subst ey
    refine br_f (sv_ng 4 (by omega) (by decide)) ⟨sy_i4 (by omega), ?_⟩
    rw [hc, hU j hj]
    refine br_c (fun hb => ?_) (fun hb => ?_)
    · rw [sy_b0 hb, Nat.add_zero] at ex
      rw [ex] at h
      exact nm_r (nI_1 j) h
    · rw [sy_b1 hb] at ex
      rw [ex] at h
      exact nm_r (nI_1 x1) (nm_r (nI_1 j) h)
  exact ⟨5, st 0 0 (sv_bt t 0) 4 0 (by decide) rfl (by omega) (st 1 _ (sv_bt t 0 + sv_bt t 1) 3 _ (by decide) rfl rfl (st 2 _ (sv_bt t 0 + sv_bt t 1 + sv_bt t 2) 2 _ (by decide) rfl rfl (st 3 _ (sv_pop t) 1 _ (by decide) rfl rfl (br_t (sv_ge 4 (by decide) (by decide)) hp))))⟩
theorem sf_ct (post : Int32 → Prop) (t : Nat) (ht : t < 16) (fa fb fc fd ff fg fh : Int32) (aK aE aV aS aC aY aD aT aW : Nat → Int32) (hp : post (nI (sv_pop t))) : wpX_countTaken post (fa, fb, fc, fd, nI t, ff, fg, fh, aK, aE, aV, aS, aC, aY, aD, aT, aW) := by
  have st : ∀ (j x1 : Nat) (n : Nat) (y : Int32), j < 4 → y = nI x1 → wX_countTaken_4 post fa fb fc fd (nI t) ff fg fh aK aE aV aS aC aY aD aT aW n (nI (x1 + sv_bt t j)) (nI (j + 1)) → wX_countTaken_4 post fa fb fc fd (nI t) ff fg fh aK aE aV aS aC aY aD aT aW (n + 1) y (nI j) := by
    intro j x1 n y hj ey h
    subst ey
    refine br_f (sv_ng 4 (by omega) (by decide)) (nm_r ?_ (nm_r (nI_1 j) h))
    rw [sv_bit j hj t ht, nI_add]
  exact ⟨5, st 0 0 4 0 (by decide) rfl (st 1 _ 3 _ (by decide) rfl (st 2 _ 2 _ (by decide) rfl (st 3 _ 1 _ (by decide) rfl (br_t (sv_ge 4 (by decide) (by decide)) (by
    rw [Nat.zero_add]
    exact hp)))))⟩
theorem sg_fo64 (post : Int32 → SY → Prop) (x : Int32) (ga gb gc gd ge : Int32) (bC bD bP bV bQ : Nat → Int32) (hp : ∀ bU' : Nat → Int32, (∀ s, s < 4 → bU' s = if s = 0 then 1 else 0) → post 0 (ga, gb, gc, gd, ge, bC, bD, bU', upd bP 0 x, bV, bQ)) :
    ∀ (d j : Nat) (bU : Nat → Int32), j + d = 4 → (∀ s, s < j → bU s = if s = 0 then 1 else 0) → wY_format_64 post x ga gb gc gd ge (d + 1) (nI j) bC bD bU bP bV bQ := by
  intro d
  induction d with
  | zero => intro j bU hj hU; exact br_t (sv_ge 4 (by omega) (by omega)) (nm_e (hp _ (fun s hs => hU s (by omega))))
  | succ d ih =>
    intro j bU hj hU
    have hc : (nI j).toNatClampNeg = j := nI_clamp (by omega)
    refine br_f (sv_ng 4 (by omega) (by decide)) (br_c (fun h0 => ⟨sy_i4 (by omega), fun y ey => nm_r (nI_1 j) (ih (j + 1) _ (by omega) (fun s hs => ?_))⟩) (fun h0 => ⟨sy_i4 (by omega), fun y ey => nm_r (nI_1 j) (ih (j + 1) _ (by omega) (fun s hs => ?_))⟩))
    · have e0 : j = 0 := (nI_eq (by omega) (by decide)).mp h0
      rw [ey, hc, sy_n1, e0]
      rw [show s = 0 by omega, pk_us]
      rfl
    · rw [ey, hc, sy_n0]
      by_cases hs2 : s = j
      · subst hs2
        rw [pk_us, if_neg (fun z => h0 (by rw [z]; rfl))]
      · rw [pk_un hs2]
        exact hU s (by omega)
theorem sg_fo43 (post : Int32 → SY → Prop) (x : Int32) (ga gb gc gd ge : Int32) (bC bU bP bV bQ : Nat → Int32) (hp : ∀ bD' bU' : Nat → Int32, (∀ s, s < 12 → bD' s = 0) → (∀ s, s < 4 → bU' s = if s = 0 then 1 else 0) → post 0 (ga, gb, gc, gd, ge, bC, bD', bU', upd bP 0 x, bV, bQ)) :
    ∀ (d j : Nat) (bD : Nat → Int32), j + d = 12 → (∀ s, s < j → bD s = 0) → wY_format_43 post x ga gb gc gd ge (d + 1) (nI j) bC bD bU bP bV bQ := by
  intro d
  induction d with
  | zero => intro j bD hj hD; exact br_t (sv_ge 12 (by omega) (by omega)) ⟨5, sg_fo64 post x ga gb gc gd ge bC bD bP bV bQ (fun bU' h => hp bD bU' (fun s hs => hD s (by omega)) h) 4 0 bU rfl (fun s hs => absurd hs (by omega))⟩
  | succ d ih =>
    intro j bD hj hD
    have hc : (nI j).toNatClampNeg = j := nI_clamp (by omega)
    refine br_f (sv_ng 12 (by omega) (by decide)) ⟨sv_i12 (by omega), fun y ey => nm_r (nI_1 j) (ih (j + 1) _ (by omega) (fun s hs => ?_))⟩
    rw [ey, hc, sy_n0]
    by_cases hs2 : s = j
    · subst hs2; exact pk_us
    · rw [pk_un hs2]; exact hD s (by omega)
theorem sg_fo22 (post : Int32 → SY → Prop) (x : Int32) (ga gb gc gd ge : Int32) (bD bU bP bV bQ : Nat → Int32) (hp : ∀ bC' bD' bU' : Nat → Int32, (∀ s, s < 96 → bC' s = 0) → (∀ s, s < 12 → bD' s = 0) → (∀ s, s < 4 → bU' s = if s = 0 then 1 else 0) → post 0 (ga, gb, gc, gd, ge, bC', bD', bU', upd bP 0 x, bV, bQ)) :
    ∀ (d j : Nat) (bC : Nat → Int32), j + d = 96 → (∀ s, s < j → bC s = 0) → wY_format_22 post x ga gb gc gd ge (d + 1) (nI j) bC bD bU bP bV bQ := by
  intro d
  induction d with
  | zero => intro j bC hj hC; exact br_t (sv_ge 96 (by omega) (by omega)) ⟨13, sg_fo43 post x ga gb gc gd ge bC bU bP bV bQ (fun bD' bU' h1 h2 => hp bC bD' bU' (fun s hs => hC s (by omega)) h1 h2) 12 0 bD rfl (fun s hs => absurd hs (by omega))⟩
  | succ d ih =>
    intro j bC hj hC
    have hc : (nI j).toNatClampNeg = j := nI_clamp (by omega)
    refine br_f (sv_ng 96 (by omega) (by decide)) ⟨vp_in_nI (by omega) (by decide), fun y ey => nm_r (nI_1 j) (ih (j + 1) _ (by omega) (fun s hs => ?_))⟩
    rw [ey, hc]
    by_cases hs2 : s = j
    · subst hs2; exact pk_us
    · rw [pk_un hs2]; exact hC s (by omega)
theorem sg_format (post : Int32 → SY → Prop) (x : Int32) (ga gb gc gd ge : Int32) (bC bD bU bP bV bQ : Nat → Int32) (hp : ∀ bC' bD' bU' : Nat → Int32, (∀ s, s < 96 → bC' s = 0) → (∀ s, s < 12 → bD' s = 0) → (∀ s, s < 4 → bU' s = if s = 0 then 1 else 0) → post 0 (1, 0, 0, 0, ge, bC', bD', bU', upd bP 0 x, bV, bQ)) : wpY_format post (ga, gb, gc, gd, ge, bC, bD, bU, bP, bV, bQ) x :=
  ⟨97, sg_fo22 post x 1 0 0 0 ge bD bU bP bV bQ hp 96 0 bC rfl (fun s hs => absurd hs (by omega))⟩
theorem sg_fl23 (post : Int32 → SY → Prop) (i : Nat) (hi : i < 12) (x2 x3 : Int32) (ga gb gc gd ge : Int32) (bD bU bP bV bQ : Nat → Int32) (C0 : Nat → Int32)
    (hp : ∀ bC' : Nat → Int32, (∀ q, q < 8 → bC' (8 * i + q) = x2 + nI q * x3) → (∀ q, q < 8 * i ∨ 8 * i + 8 ≤ q → bC' q = C0 q) → ((bD i = 0 → post 0 (ga, gb, gc, gd, ge, bC', upd bD i 0, bU, bP, bV, bQ)) ∧ (¬ bD i = 0 → post 1 (ga, gb, gc, gd, ge, bC', upd bD i 0, bU, bP, bV, bQ)))) :
    ∀ (d j : Nat) (bC : Nat → Int32), j + d = 8 → (∀ q, q < j → bC (8 * i + q) = x2 + nI q * x3) → (∀ q, q < 8 * i ∨ 8 * i + 8 ≤ q → bC q = C0 q) → wY_fill_23 post (nI i) x2 x3 ga gb gc gd ge (d + 1) (nI j) bC bD bU bP bV bQ := by
  intro d
  induction d with
  | zero =>
    intro j bC hj h1 h2
    have hc : (nI i).toNatClampNeg = i := nI_clamp (by omega)
    refine br_t (sv_ge 8 (by omega) (by omega)) ⟨sv_i12 hi, ?_⟩
    rw [hc]
    refine nm_e ⟨sv_i12 hi, ?_⟩
    rw [sy_n0]
    exact nm_e (hp bC (fun q hq => h1 q (by omega)) h2)
  | succ d ih =>
    intro j bC hj h1 h2
    refine br_f (sv_ng 8 (by omega) (by decide)) ⟨sy_i96 hi (by omega), fun y ey => nm_r (nI_1 j) (ih (j + 1) _ (by omega) (fun q hq => ?_) (fun q hq => ?_))⟩
    · rw [ey, sy_c96 hi (by omega)]
      by_cases hqj : q = j
      · subst hqj; exact pk_us
      · rw [pk_un (by omega)]; exact h1 q (by omega)
    · rw [ey, sy_c96 hi (by omega), pk_un (by omega)]
      exact h2 q hq
end
section
theorem sv_nm1 {s : Nat} (h : s < 4) : ¬ nI s = -1 := by
  have h4 : s = 0 ∨ s = 1 ∨ s = 2 ∨ s = 3 := by omega
  rcases h4 with rfl | rfl | rfl | rfl <;> decide
theorem sv_ge0 {s : Nat} (h : s < 4) : 0 ≤ nI s := nI_pos' (by omega)
theorem rl_dm {ky K E V C B : Nat → Int32} (h : rl_sc ky K E V C B) (i : Nat) (hi : i < 12) : K (ch_row i (E i) + 8) = ch_sm K (ch_row i (E i)) 8 ↔ B i = 0 := by
  obtain ⟨h1, h2⟩ := h i hi
  by_cases z : B i = 0
  · exact ⟨fun _ => z, fun _ => (h1 z).1⟩
  · exact ⟨fun k => absurd k (h2 z), fun k => absurd k z⟩
def rl_m (fa fc fd fg gc : Int32) (aE : Nat → Int32) : Prop := ∃ m : Nat, rl_ep m fg aE ∧ gc = nI (12 - m) ∧ (¬ fc = 0 → m < 12 → ¬ fd = 0) ∧ (fa = 0 → m = 12)
theorem rl_op {fa fb fc fd fe ff fg fh : Int32} {aK aE aV aS aC aY aT : Nat → Int32} {gc : Int32} {bC bD bU bP bV bQ : Nat → Int32} (h : rl fa fb fc fd fe ff fg fh aK aE aV aS aC aY aT gc bC bD bU bP bV bQ) (hb : ¬ fb = 0) :
    ch_tl 16 aT ∧ ¬ fa = 0 ∧ ch_tl 8 aY ∧ rl_m fa fc fd fg gc aE ∧ ∃ t : Nat, t < 16 ∧ t ≠ 0 ∧ fe = nI t ∧ sl_ok t fh aY aS bU bP ∧ rl_sc aY aK aE aV bC bD ∧ (¬ fc = 0 → ∃ t' : Nat, t' < 16 ∧ t' ≠ 0 ∧ ff = nI t' ∧ sl_ok t' fh aY aC bV bQ) := by
  obtain ⟨hT, h0, hm, ky, t, hky, hY0, hY1, ht, hfe, ht0, hpr, hcp⟩ := h
  have ha : ¬ fa = 0 := fun z => hb (h0 z).1
  rw [hY1 hb]
  exact ⟨hT, ha, hky, hm, t, ht, (hpr ha).1, hfe, (hpr ha).2.1, (hpr ha).2.2, hcp⟩
theorem rl_po {fa fb fc fd ff fg fh : Int32} {aK aE aV aS aC aY aT : Nat → Int32} {gc : Int32} {bC bD bU bP bV bQ : Nat → Int32} (hb : ¬ fb = 0) (ha : ¬ fa = 0) (hT : ch_tl 16 aT) (hY : ch_tl 8 aY) (hm : rl_m fa fc fd fg gc aE)
    (t : Nat) (ht : t < 16) (ht0 : t ≠ 0) (hS : sl_ok t fh aY aS bU bP) (hC : rl_sc aY aK aE aV bC bD) (hcp : ¬ fc = 0 → ∃ t' : Nat, t' < 16 ∧ t' ≠ 0 ∧ ff = nI t' ∧ sl_ok t' fh aY aC bV bQ) : rl fa fb fc fd (nI t) ff fg fh aK aE aV aS aC aY aT gc bC bD bU bP bV bQ :=
  ⟨hT, fun z => absurd z ha, hm, aY, t, hY, fun z => absurd z hb, fun _ => rfl, ht, rfl, fun z => absurd z ha, fun _ => ⟨ht0, hS, hC⟩, hcp⟩
/-- the same of a state of the reference -/
def yv_loc (v : SY) (x : Int32) : Prop := match v with
  | (ga, gb, gc, gd, ge, bC, bD, bU, bP, bV, bQ) => ∀ s, s < 4 → ¬ bU s = 0 → (∀ i, i < 8 → ch_P (bP s) 2 0 i = ch_P x 2 0 i) → bP s = x
theorem yl_loc {t : Nat} {ga gb gc gd ge : Int32} {bC bD bU bP bV bQ : Nat → Int32} {x : Int32} (h : yv_loc (ga, gb, gc, gd, ge, bC, bD, bU, bP, bV, bQ) x) (hU : ∀ s, s < 4 → bU s = nI (sv_bt t s)) : ch_loc t bP x := fun s hs hb hw => h s hs (by rw [hU s hs, hb]; decide) hw
theorem yv_inj (h : ch_inj) (v : SY) (x : Int32) : yv_loc v x := by
  obtain ⟨ga, gb, gc, gd, ge, bC, bD, bU, bP, bV, bQ⟩ := v
  exact fun s _ _ hw => h _ _ hw
theorem j_up {k : Nat} {u : SX} {v : SY} (h : i_Rel k u v) : i_Rel (k + 4) u v := h
theorem j_vc0 : wpX_init (fun u => wpY_init (fun v => i_Rel 0 u v)) :=
  rl_mk (k := 0) (aW := fun _ => 0) ⟨ch_tl_0 16, fun _ => ⟨rfl, rfl⟩, ⟨12, ⟨by decide, fun _ _ => rfl, fun i a b => absurd b (by omega)⟩, rfl, fun z => absurd rfl z, fun _ => rfl⟩, (fun _ => 0), 0, ch_tl_0 8, fun _ => rfl, fun z => absurd rfl z, by decide, rfl, fun _ => rfl, fun z => absurd rfl z, fun z => absurd rfl z⟩
theorem j_vc_format {k : Nat} {u : SX} {v : SY} (I : i_Rel k u v) (v1 : Int32) : wpX_format (fun r u' => wpY_format (fun r' v' => r' = r ∧ i_Rel (k + 4) u' v') v v1) u v1 := by
  obtain ⟨fa, fb, fc, fd, fe, ff, fg, fh, aK, aE, aV, aS, aC, aY, aD, aT, aW⟩ := u
  obtain ⟨gc, bC, bD, bU, bP, bV, bQ, rfl, rfl, R⟩ := I
  have hY := rl_Y R
  obtain ⟨hT, h0, hm, ky, t, hky, hY0, hY1, ht, rfl, ht0, hpr, hcp⟩ := R
  refine nm_e (sf_makeKey _ 1 0 0 fd (nI t) ff fg (fh + 1) aK aE aV aS aC aY aT aW v1 hT hY ?_)
  refine sf_eraseSectors _ 1 0 0 fd (nI t) ff fg (fh + 1) aK aE aV aS aC (ch_key v1 (fh + 1)) (ch_P v1 1 (fh + 1)) aW (ch_tl_P _ _ _) (fun aK' aE' aT' aW' hT' hE => ?_)
  refine sf_eraseSlots _ t ht 1 0 0 fd ff 0 (fh + 1) aK' aE' aV aS aC (ch_key v1 (fh + 1)) (fun _ => 0) aT' aW' (fun aS1 aC' => ?_)
  refine sf_putSlot _ 0 (by decide) v1 1 0 0 fd 0 ff 0 (fh + 1) aK' aE' aV aS1 aC' (ch_key v1 (fh + 1)) aT' aW' hT' (fun aS' hf h1 h2 => ?_)
  refine sf_forget _ 1 0 0 fd (0 ||| ((1 : Int32) <<< (nI 0 &&& 31))) ff 0 (fh + 1) aK' aE' aV aS' aC' (ch_key v1 (fh + 1)) (fun _ => 0) (ch_P v1 3 (fh + 1)) aW' (ch_tl_P _ _ _) (ch_tl_k _ _) (fun aW2 => ?_)
  refine sg_format _ v1 fa fb gc fc fd bC bD bU bP bV bQ (fun bC' bD' bU' hC hD hU => ⟨rfl, rl_mk ?_⟩)
  refine ⟨ch_tl_0 16, fun z => absurd z (by decide), ⟨12, ⟨by decide, fun i hi => (hE i hi).1, fun i a b => absurd b (by omega)⟩, rfl, fun z => absurd rfl z, fun _ => rfl⟩, ch_key v1 (fh + 1), 1, ch_tl_k _ _, fun _ => rfl, fun z => absurd rfl z, by decide, by decide +kernel, fun z => absurd z (by decide), fun _ => ⟨by decide, ?_, ?_⟩, fun z => absurd rfl z⟩
  · intro s hs
    by_cases hs0 : s = 0
    · subst hs0
      rw [pk_us]
      exact ⟨(hU 0 (by decide)).trans (by decide), fun _ => ⟨h1, h2⟩⟩
    · rw [pk_un hs0, hU s hs, if_neg hs0]
      have hb : sv_bt 1 s = 0 := by
        have h4 : s = 1 ∨ s = 2 ∨ s = 3 := by omega
        rcases h4 with rfl | rfl | rfl <;> decide
      rw [hb]
      exact ⟨rfl, fun z => absurd z (by decide)⟩
  · intro i hi
    refine ⟨fun _ => ?_, fun z => absurd (hD i hi) z⟩
    rw [(hE i hi).1]
    exact ch_ok_C (fun c hc => hC _ (by omega)) (hE i hi).2
theorem j_vc_unlock {k : Nat} {u : SX} {v : SY} (I : i_Rel k u v) (v1 : Int32) (hin : yv_loc v v1) : wpX_unlock (fun r u' => wpY_unlock (fun r' v' => r' = r ∧ i_Rel (k + 4) u' v') v v1) u v1 := by
  obtain ⟨fa, fb, fc, fd, fe, ff, fg, fh, aK, aE, aV, aS, aC, aY, aD, aT, aW⟩ := u
  obtain ⟨gc, bC, bD, bU, bP, bV, bQ, rfl, rfl, R⟩ := I
  refine br_c (fun ha => br_t ha ⟨rfl, rl_mk R⟩) (fun ha => br_c (fun hb => ?_) (fun hb => br_f ha (br_f hb ⟨rfl, rl_mk R⟩)))
  subst hb
  have hY := rl_Y R
  have RL := rl_L R (ch_tl_0 16)
  obtain ⟨hT, h0, hm, ky, t, hky, hY0, hY1, ht, rfl, ht0, hpr, hcp⟩ := R
  obtain ⟨htn, hS, hC⟩ := hpr ha
  refine sf_findSlot _ v1 t ht fa 0 fc fd ff fg fh aK aE aV aS aC aY aT aW ky bU bP (yl_loc hin (fun s hs => (hS s hs).1)) hS hT ?_
  rcases sl_fd_p t bP v1 4 0 with ⟨e, hno⟩ | ⟨s, _, hs, e, hbt, hps⟩
  · rw [e]
    refine br_t rfl (sf_forget _ fa 0 fc fd (nI t) ff fg fh aK aE aV aS aC aY (fun _ => 0) (ch_P v1 2 0) aW (ch_tl_P _ _ _) hY (fun aW' => ?_))
    refine br_f ha (br_t rfl (sg_find _ v1 t fa 0 gc fc fd bC bD bU bP bV bQ (fun s hs => (hS s hs).1) ?_))
    rw [e]
    exact br_f (by decide) ⟨rfl, rl_mk RL⟩
  · rw [e]
    refine br_f (sv_nm1 (by omega)) (sf_unwrap _ s (by omega) v1 fa 0 fc fd (nI t) ff fg fh aK aE aV aS aC aY (ch_P v1 2 0) aW ky (ch_tl_P _ _ _) hY hky (fun i hi => by rw [← hps]; exact ((hS s (by omega)).2 hbt).2 i hi) ?_)
    refine br_f ha (br_t rfl (sg_find _ v1 t fa 0 gc fc fd bC bD bU bP bV bQ (fun s hs => (hS s hs).1) ?_))
    rw [e]
    exact br_t (sv_ge0 (by omega)) ⟨rfl, rl_mk (rl_po (by decide) ha (ch_tl_P _ _ _) hky hm t ht htn hS hC hcp)⟩
theorem j_vc_lock {k : Nat} {u : SX} {v : SY} (I : i_Rel k u v) : wpX_lock (fun r u' => wpY_lock (fun r' v' => r' = r ∧ i_Rel (k + 4) u' v') v) u := by
  obtain ⟨fa, fb, fc, fd, fe, ff, fg, fh, aK, aE, aV, aS, aC, aY, aD, aT, aW⟩ := u
  obtain ⟨gc, bC, bD, bU, bP, bV, bQ, rfl, rfl, R⟩ := I
  have hY := rl_Y R
  have hT := R.1
  have RL := rl_L R (ch_tl_0 16)
  refine br_c (fun ha => br_t ha ⟨rfl, rl_mk R⟩) (fun ha => br_c (fun hb => ?_) (fun hb => ?_))
  · exact sf_close _ fa fb fc fd fe ff fg fh aK aE aV aS aC aY (fun _ => 0) aT aW hT hY (fun aW' => br_f ha (br_t hb ⟨rfl, rl_mk RL⟩))
  · exact sf_close _ fa fb fc fd fe ff fg fh aK aE aV aS aC aY (fun _ => 0) aT aW hT hY (fun aW' => br_f ha (br_f hb ⟨rfl, rl_mk RL⟩))
theorem j_vc_state {k : Nat} {u : SX} {v : SY} (I : i_Rel k u v) : wpX_state (fun r => wpY_state (fun r' => r' = r ∧ i_Rel (k + 4) u v) v) u := by
  obtain ⟨fa, fb, fc, fd, fe, ff, fg, fh, aK, aE, aV, aS, aC, aY, aD, aT, aW⟩ := u
  obtain ⟨gc, bC, bD, bU, bP, bV, bQ, rfl, rfl, R⟩ := I
  exact br_c (fun ha => br_t ha ⟨rfl, rl_mk R⟩) (fun ha => br_c (fun hb => br_f ha (br_t hb ⟨rfl, rl_mk R⟩)) (fun hb => br_f ha (br_f hb ⟨rfl, rl_mk R⟩)))
theorem sg_read_b (post : Int32 → Prop) (x y : Int32) (ga gb gc gd ge : Int32) (bC bD bU bP bV bQ : Nat → Int32) (h : ¬ vp_in x 12 ∨ ¬ vp_in y 8 ∨ gb = 0) (hp : post 0) : wpY_read post (ga, gb, gc, gd, ge, bC, bD, bU, bP, bV, bQ) x y := by
  unfold wpY_read
  dsimp only
  by_cases hx : vp_in x 12
  · refine pa_ySector_g _ _ _ hx (br_t rfl ?_)
    by_cases hy : vp_in y 8
    · refine pa_yCell_g _ _ _ hy (br_t rfl (br_t ?_ hp))
      rcases h with h | h | h
      · exact absurd hx h
      · exact absurd hy h
      · exact h
    · exact pa_yCell_b _ _ _ hy (br_f (by decide) hp)
  · exact pa_ySector_b _ _ _ hx (br_f (by decide) hp)
theorem sg_read (post : Int32 → Prop) (i c : Nat) (hi : i < 12) (hc : c < 8) (ga gb gc gd ge : Int32) (bC bD bU bP bV bQ : Nat → Int32) (hb : ¬ gb = 0) (h0 : bD i = 0 → post (bC (8 * i + c))) (h1 : ¬ bD i = 0 → post 0) : wpY_read post (ga, gb, gc, gd, ge, bC, bD, bU, bP, bV, bQ) (nI i) (nI c) := by
  have hci : (nI i).toNatClampNeg = i := nI_clamp (by omega)
  unfold wpY_read
  dsimp only
  refine pa_ySector_g _ _ _ (sv_i12 hi) (br_t rfl (pa_yCell_g _ _ _ (sv_i8 hc) (br_t rfl (br_f hb ⟨sv_i12 hi, ?_⟩))))
  rw [hci, sy_c96 hi hc]
  exact br_c (fun z => ⟨sy_i96 hi hc, h0 z⟩) h1
theorem j_vc_read {k : Nat} {u : SX} {v : SY} (I : i_Rel k u v) (v1 : Int32) (v2 : Int32) : wpX_read (fun r u' => wpY_read (fun r' => r' = r ∧ i_Rel (k + 4) u' v) v v1 v2) u v1 v2 := by
  obtain ⟨fa, fb, fc, fd, fe, ff, fg, fh, aK, aE, aV, aS, aC, aY, aD, aT, aW⟩ := u
  obtain ⟨gc, bC, bD, bU, bP, bV, bQ, rfl, rfl, R⟩ := I
  unfold wpX_read
  dsimp only
  by_cases hx : vp_in v1 12
  · refine pa_xSector_g _ _ _ hx (br_f (by decide) ?_)
    by_cases hy : vp_in v2 8
    · refine pa_xCell_g _ _ _ hy (br_f (by decide) (br_c (fun hb => sg_read_b _ _ _ _ _ _ _ _ _ _ _ _ _ _ (Or.inr (Or.inr hb)) ⟨rfl, rl_mk R⟩) (fun hb => ?_)))
      obtain ⟨i, hi, rfl⟩ := vp_in_of hx (by decide)
      obtain ⟨c, hc, rfl⟩ := vp_in_of hy (by decide)
      obtain ⟨hT, ha, hY, hm, t, ht, ht0, rfl, hS, hC, hcp⟩ := rl_op R hb
      have hd := rl_dm hC i hi
      refine sf_isDamaged _ i hi fa fb fc fd (nI t) ff fg fh aK aE aV aS aC aY (fun _ => 0) aT aW (fun z => br_t rfl (sf_unseal _ i hi fa fb fc fd (nI t) ff fg fh aK aE aV aS aC aY aT aW hT ⟨sv_i9 (by omega), ?_⟩)) (fun z => br_f (by decide) ?_)
      · refine sg_read _ i c hi hc _ _ _ _ _ _ _ _ _ _ _ hb (fun y => ⟨?_, rl_mk (rl_po hb ha (ch_tl_S _ _ _ _) hY hm t ht ht0 hS hC hcp)⟩) (fun y => absurd (hd.mp z) y)
        rw [nI_clamp (n := c) (by omega)]
        show _ = (if c < 8 then _ else _)
        rw [if_pos hc]
        exact (((hC i hi).1 y).2 c hc).symm
      · exact sg_read _ i c hi hc _ _ _ _ _ _ _ _ _ _ _ hb (fun y => absurd (hd.mpr y) z) (fun y => ⟨rfl, rl_mk R⟩)
    · exact pa_xCell_b _ _ _ hy (br_t rfl (sg_read_b _ _ _ _ _ _ _ _ _ _ _ _ _ _ (Or.inr (Or.inl hy)) ⟨rfl, rl_mk R⟩))
  · exact pa_xSector_b _ _ _ hx (br_t rfl (sg_read_b _ _ _ _ _ _ _ _ _ _ _ _ _ _ (Or.inl hx) ⟨rfl, rl_mk R⟩))
theorem j_vc_write {k : Nat} {u : SX} {v : SY} (I : i_Rel k u v) (v1 : Int32) (v2 : Int32) (v3 : Int32) : wpX_write (fun r u' => wpY_write (fun r' v' => r' = r ∧ i_Rel (k + 4) u' v') v v1 v2 v3) u v1 v2 v3 := by
  obtain ⟨fa, fb, fc, fd, fe, ff, fg, fh, aK, aE, aV, aS, aC, aY, aD, aT, aW⟩ := u
  obtain ⟨gc, bC, bD, bU, bP, bV, bQ, rfl, rfl, R⟩ := I
  unfold wpX_write
  dsimp only
  unfold wpY_write
  dsimp only
  by_cases hx : vp_in v1 12
  · refine pa_xSector_g _ _ _ hx (br_f (by decide) ?_)
    by_cases hy : vp_in v2 8
    · refine pa_xCell_g _ _ _ hy (br_f (by decide) (br_c (fun hb => pa_ySector_g _ _ _ hx (br_t rfl (pa_yCell_g _ _ _ hy (br_t rfl (br_t hb ⟨rfl, rl_mk R⟩))))) (fun hb => ?_)))
      obtain ⟨i, hi, rfl⟩ := vp_in_of hx (by decide)
      obtain ⟨c, hc, rfl⟩ := vp_in_of hy (by decide)
      obtain ⟨hT, ha, hY, hm, t, ht, ht0, rfl, hS, hC, hcp⟩ := rl_op R hb
      have hd := rl_dm hC i hi
      have hci : (nI i).toNatClampNeg = i := nI_clamp (by omega)
      refine sf_isDamaged _ i hi fa fb fc fd (nI t) ff fg fh aK aE aV aS aC aY (fun _ => 0) aT aW (fun z => br_t rfl (sf_unseal _ i hi fa fb fc fd (nI t) ff fg fh aK aE aV aS aC aY aT aW hT ⟨sv_i9 (by omega), nm_e ?_⟩)) (fun z => br_f (by decide) ?_)
      · refine sf_keepNew _ i hi fa fb fc fd (nI t) ff fg fh aK aE aV aS aC aY (ch_S aY (nI i) (aE i) (aV i)) (upd (ch_un aK aW (ch_S aY (nI i) (aE i) (aV i)) (ch_row i (aE i))) (nI c).toNatClampNeg v3) (ch_tl_S _ _ _ _) (fun aW' => ?_)
        refine pa_ySector_g _ _ _ hx (br_t rfl (pa_yCell_g _ _ _ hy (br_t rfl (br_f hb ⟨hx, ?_⟩))))
        rw [hci, sy_c96 hi hc, nI_clamp (n := c) (by omega)]
        refine br_t (hd.mp z) ⟨sy_i96 hi hc, nm_e ⟨rfl, rl_mk (rl_po hb ha (ch_tl_S _ _ _ _) hY hm t ht ht0 hS ?_ hcp)⟩⟩
        refine rl_sc_w hC i hi _ _ _ (fun q hq => ?_) (fun j hj q hq => pk_un (by omega)) (hd.mp z) (fun _ _ => rfl)
        by_cases hqc : q = c
        · subst hqc
          rw [pk_us, pk_us]
        · rw [pk_un (by omega), pk_un hqc]
          show _ = (if q < 8 then _ else _)
          rw [if_pos hq]
          exact (((hC i hi).1 (hd.mp z)).2 q hq).symm
      · refine pa_ySector_g _ _ _ hx (br_t rfl (pa_yCell_g _ _ _ hy (br_t rfl (br_f hb ⟨hx, ?_⟩))))
        rw [hci]
        exact br_f (fun y => z (hd.mpr y)) ⟨rfl, rl_mk R⟩
    · exact pa_xCell_b _ _ _ hy (br_t rfl (pa_ySector_g _ _ _ hx (br_t rfl (pa_yCell_b _ _ _ hy (br_f (by decide) ⟨rfl, rl_mk R⟩)))))
  · exact pa_xSector_b _ _ _ hx (br_t rfl (pa_ySector_b _ _ _ hx (br_f (by decide) ⟨rfl, rl_mk R⟩)))
theorem sf_fl38 (post : Int32 → SX → Prop) (i : Nat) (hi : i < 12) (x2 x3 x4 : Int32) (fa fb fc fd fe ff fg fh : Int32) (aK aE aV aS aC aY aT aW : Nat → Int32) (hT : ch_tl 16 aT)
    (hp : ∀ aW' : Nat → Int32, post x4 (fa, fb, fc, fd, fe, ff, fg, fh, ch_kw aK (ch_sl (fun q => if q < 8 then x2 + nI q * x3 else aW q) (ch_S aY (nI i) (aE i) (aV i + 1))) (ch_row i (aE i)) 9, aE, upd aV i (aV i + 1), aS, aC, aY, (fun _ => 0), ch_S aY (nI i) (aE i) (aV i + 1), aW')) :
    ∀ (d j : Nat), j + d = 8 → wX_fill_38 post (nI i) x2 x3 x4 fa fb fc fd fe ff fg fh (d + 1) (nI j) aK aE aV aS aC aY (fun _ => 0) aT (fun q => if q < j then x2 + nI q * x3 else aW q) := by
  intro d
  induction d with
  | zero =>
    intro j hj
    have e : j = 8 := by omega
    subst e
    exact br_t (sv_ge 8 (by omega) (by omega)) (sf_keepNew _ i hi fa fb fc fd fe ff fg fh aK aE aV aS aC aY aT (fun q => if q < 8 then x2 + nI q * x3 else aW q) hT hp)
  | succ d ih =>
    intro j hj
    have hc : (nI j).toNatClampNeg = j := nI_clamp (by omega)
    refine br_f (sv_ng 8 (by omega) (by decide)) ⟨sv_i9 (by omega), nm_r ?_ (nm_r (nI_1 j) (ih (j + 1) (by omega)))⟩
    rw [hc]
    exact ch_ui (fun q => x2 + nI q * x3) aW j _ rfl
theorem sf_fill8 (post : Int32 → SX → Prop) (i : Nat) (hi : i < 12) (x2 x3 x4 : Int32) (fa fb fc fd fe ff fg fh : Int32) (aK aE aV aS aC aY aT aW : Nat → Int32) (hT : ch_tl 16 aT)
    (hp : ∀ aW' : Nat → Int32, post x4 (fa, fb, fc, fd, fe, ff, fg, fh, ch_kw aK (ch_sl (fun q => if q < 8 then x2 + nI q * x3 else aW q) (ch_S aY (nI i) (aE i) (aV i + 1))) (ch_row i (aE i)) 9, aE, upd aV i (aV i + 1), aS, aC, aY, (fun _ => 0), ch_S aY (nI i) (aE i) (aV i + 1), aW')) :
    ∃ n : Nat, wX_fill_38 post (nI i) x2 x3 x4 fa fb fc fd fe ff fg fh n 0 aK aE aV aS aC aY (fun _ => 0) aT aW := by
  have h := sf_fl38 post i hi x2 x3 x4 fa fb fc fd fe ff fg fh aK aE aV aS aC aY aT aW hT hp 8 0 rfl
  rw [ch_j0] at h
  exact ⟨9, h⟩
theorem j_vc_fill {k : Nat} {u : SX} {v : SY} (I : i_Rel k u v) (v1 : Int32) (v2 : Int32) (v3 : Int32) : wpX_fill (fun r u' => wpY_fill (fun r' v' => r' = r ∧ i_Rel (k + 4) u' v') v v1 v2 v3) u v1 v2 v3 := by
  obtain ⟨fa, fb, fc, fd, fe, ff, fg, fh, aK, aE, aV, aS, aC, aY, aD, aT, aW⟩ := u
  obtain ⟨gc, bC, bD, bU, bP, bV, bQ, rfl, rfl, R⟩ := I
  unfold wpX_fill
  dsimp only
  unfold wpY_fill
  dsimp only
  by_cases hx : vp_in v1 12
  · refine pa_xSector_g _ _ _ hx (br_f (by decide) (br_c (fun hb => pa_ySector_g _ _ _ hx (br_t rfl (br_t hb ⟨rfl, rl_mk R⟩))) (fun hb => ?_)))
    obtain ⟨i, hi, rfl⟩ := vp_in_of hx (by decide)
    obtain ⟨hT, ha, hY, hm, t, ht, ht0, rfl, hS, hC, hcp⟩ := rl_op R hb
    have hd := rl_dm hC i hi
    have hR : ∀ (aW' bC' : Nat → Int32), (∀ q, q < 8 → bC' (8 * i + q) = v2 + nI q * v3) → (∀ q, q < 8 * i ∨ 8 * i + 8 ≤ q → bC' q = bC q) →
        i_Rel (k + 4) (fa, fb, fc, fd, nI t, ff, fg, fh, ch_kw aK (ch_sl (fun q => if q < 8 then v2 + nI q * v3 else aW q) (ch_S aY (nI i) (aE i) (aV i + 1))) (ch_row i (aE i)) 9, aE, upd aV i (aV i + 1), aS, aC, aY, (fun _ => 0), ch_S aY (nI i) (aE i) (aV i + 1), aW') (fa, fb, gc, fc, fd, bC', upd bD i 0, bU, bP, bV, bQ) := by
      intro aW' bC' h1 h2
      refine rl_mk (rl_po hb ha (ch_tl_S _ _ _ _) hY hm t ht ht0 hS (rl_sc_w hC i hi _ _ _ (fun q hq => ?_) (fun j hj q hq => h2 _ (by omega)) pk_us (fun j hj => pk_un hj)) hcp)
      rw [h1 q hq]
      exact (if_pos hq).symm
    refine sf_isDamaged _ i hi fa fb fc fd (nI t) ff fg fh aK aE aV aS aC aY (fun _ => 0) aT aW (fun z => br_t rfl (sf_fill8 _ i hi v2 v3 0 fa fb fc fd (nI t) ff fg fh aK aE aV aS aC aY aT aW hT (fun aW' => ?_))) (fun z => br_f (by decide) (sf_fill8 _ i hi v2 v3 1 fa fb fc fd (nI t) ff fg fh aK aE aV aS aC aY aT aW hT (fun aW' => ?_)))
    · exact pa_ySector_g _ _ _ hx (br_t rfl (br_f hb ⟨9, sg_fl23 _ i hi v2 v3 fa fb gc fc fd bD bU bP bV bQ bC (fun bC' h1 h2 => ⟨fun _ => ⟨rfl, hR aW' bC' h1 h2⟩, fun y => absurd (hd.mp z) y⟩) 8 0 bC rfl (fun q hq => absurd hq (by omega)) (fun _ _ => rfl)⟩))
    · exact pa_ySector_g _ _ _ hx (br_t rfl (br_f hb ⟨9, sg_fl23 _ i hi v2 v3 fa fb gc fc fd bD bU bP bV bQ bC (fun bC' h1 h2 => ⟨fun y => absurd (hd.mpr y) z, fun _ => ⟨rfl, hR aW' bC' h1 h2⟩⟩) 8 0 bC rfl (fun q hq => absurd hq (by omega)) (fun _ _ => rfl)⟩))
  · exact pa_xSector_b _ _ _ hx (br_t rfl (pa_ySector_b _ _ _ hx (br_f (by decide) ⟨rfl, rl_mk R⟩)))
theorem j_vc_check {k : Nat} {u : SX} {v : SY} (I : i_Rel k u v) (v1 : Int32) : wpX_check (fun r => wpY_check (fun r' => r' = r ∧ i_Rel (k + 4) u v) v v1) u v1 := by
  obtain ⟨fa, fb, fc, fd, fe, ff, fg, fh, aK, aE, aV, aS, aC, aY, aD, aT, aW⟩ := u
  obtain ⟨gc, bC, bD, bU, bP, bV, bQ, rfl, rfl, R⟩ := I
  unfold wpX_check
  dsimp only
  unfold wpY_check
  dsimp only
  by_cases hx : vp_in v1 12
  · refine pa_xSector_g _ _ _ hx (br_f (by decide) (br_c (fun hb => pa_ySector_g _ _ _ hx (br_t rfl (br_t hb ⟨rfl, rl_mk R⟩))) (fun hb => ?_)))
    obtain ⟨i, hi, rfl⟩ := vp_in_of hx (by decide)
    have hci : (nI i).toNatClampNeg = i := nI_clamp (by omega)
    obtain ⟨hT, ha, hY, hm, t, ht, ht0, rfl, hS, hC, hcp⟩ := rl_op R hb
    have hd := rl_dm hC i hi
    refine sf_isDamaged _ i hi fa fb fc fd (nI t) ff fg fh aK aE aV aS aC aY (fun _ => 0) aT aW (fun z => br_t rfl (pa_ySector_g _ _ _ hx (br_t rfl (br_f hb ⟨hx, ?_⟩)))) (fun z => br_f (by decide) (pa_ySector_g _ _ _ hx (br_t rfl (br_f hb ⟨hx, ?_⟩))))
    · rw [hci]
      exact br_t (hd.mp z) ⟨rfl, rl_mk R⟩
    · rw [hci]
      exact br_f (fun y => z (hd.mpr y)) ⟨rfl, rl_mk R⟩
  · exact pa_xSector_b _ _ _ hx (br_t rfl (pa_ySector_b _ _ _ hx (br_f (by decide) ⟨rfl, rl_mk R⟩)))
end
section
noncomputable def rl_dg (bC bD : Nat → Int32) : Nat → Int32
  | 0 => 0
  | n + 1 => rl_dg bC bD n + (nI n + 1) * (if bD (n / 8) = 0 then bC n else 0)
def rl_ds (i : Nat) (W : Nat → Int32) : Nat → Int32
  | 0 => 0
  | c + 1 => rl_ds i W c + (((8 * nI i) + nI c) + 1) * W c
theorem rl_dg_s (bC bD W : Nat → Int32) (i : Nat) (hz : bD i = 0) (hW : ∀ c, c < 8 → W c = bC (8 * i + c)) : ∀ c, c ≤ 8 → rl_dg bC bD (8 * i + c) = rl_dg bC bD (8 * i) + rl_ds i W c
  | 0, _ => (Int32.add_zero _).symm
  | c + 1, h => by
    show rl_dg bC bD (8 * i + c) + (nI (8 * i + c) + 1) * (if bD ((8 * i + c) / 8) = 0 then bC (8 * i + c) else 0) = rl_dg bC bD (8 * i) + (rl_ds i W c + (((8 * nI i) + nI c) + 1) * W c)
    rw [rl_dg_s bC bD W i hz hW c (by omega), show (8 * i + c) / 8 = i by omega, if_pos hz, hW c (by omega), show 8 * nI i = nI (8 * i) from pk_mul 8 i, nI_add, Int32.add_assoc]
theorem rl_dg_d (bC bD : Nat → Int32) (i : Nat) (hz : ¬ bD i = 0) : ∀ c, c ≤ 8 → rl_dg bC bD (8 * i + c) = rl_dg bC bD (8 * i)
  | 0, _ => rfl
  | c + 1, h => by
    show rl_dg bC bD (8 * i + c) + (nI (8 * i + c) + 1) * (if bD ((8 * i + c) / 8) = 0 then bC (8 * i + c) else 0) = _
    rw [rl_dg_d bC bD i hz c (by omega), show (8 * i + c) / 8 = i by omega, if_neg hz, Int32.mul_zero, Int32.add_zero]
theorem sg_di4 (post : Int32 → Prop) (ga gb gc gd ge : Int32) (bC bD bU bP bV bQ : Nat → Int32) (hb : ¬ gb = 0) (hp : post (rl_dg bC bD 96)) :
    ∀ (d j : Nat), j + d = 96 → wY_digest_4 post ga gb gc gd ge bC bD bU bP bV bQ (d + 1) (rl_dg bC bD j) (nI j) := by
  intro d
  induction d with
  | zero => intro j hj; have e : j = 96 := by omega
            subst e; exact br_t (sv_ge 96 (by omega) (by omega)) hp
  | succ d ih =>
    intro j hj
    have e1 : nI j / 8 = nI (j / 8) := pk_div (a := j) (d := 8) (by omega) (by decide) (by decide)
    have e2 : nI j - nI j / 8 * 8 = nI (j % 8) := pk_rem (a := j) (d := 8) (by omega) (by decide) (by decide)
    refine br_f (sv_ng 96 (by omega) (by decide)) ⟨by decide, by decide, ?_⟩
    rw [e2, e1]
    refine sg_read _ (j / 8) (j % 8) (by omega) (by omega) ga gb gc gd ge bC bD bU bP bV bQ hb (fun z => nm_r (e' := rl_dg bC bD (j + 1)) ?_ (nm_r (nI_1 j) (ih (j + 1) (by omega)))) (fun z => nm_r (e' := rl_dg bC bD (j + 1)) ?_ (nm_r (nI_1 j) (ih (j + 1) (by omega))))
    · show _ = rl_dg bC bD j + (nI j + 1) * (if bD (j / 8) = 0 then bC j else 0)
      rw [if_pos z, show 8 * (j / 8) + j % 8 = j by omega]
    · show _ = rl_dg bC bD j + (nI j + 1) * (if bD (j / 8) = 0 then bC j else 0)
      rw [if_neg z]
theorem sg_di4z (post : Int32 → Prop) (ga gb gc gd ge : Int32) (bC bD bU bP bV bQ : Nat → Int32) (hb : gb = 0) (hp : post 0) :
    ∀ (d j : Nat), j + d = 96 → wY_digest_4 post ga gb gc gd ge bC bD bU bP bV bQ (d + 1) 0 (nI j) := by
  intro d
  induction d with
  | zero => intro j hj; exact br_t (sv_ge 96 (by omega) (by omega)) hp
  | succ d ih =>
    intro j hj
    refine br_f (sv_ng 96 (by omega) (by decide)) ⟨by decide, by decide, sg_read_b _ _ _ ga gb gc gd ge bC bD bU bP bV bQ (Or.inr (Or.inr hb)) (nm_r (e' := 0) ?_ (nm_r (nI_1 j) (ih (j + 1) (by omega))))⟩
    rw [Int32.mul_zero, Int32.add_zero]
theorem sf_ds9 (post : Int32 → SX → Prop) (i : Nat) (fa fb fc fd fe ff fg fh : Int32) (aK aE aV aS aC aY aD aT aW : Nat → Int32) (hp : post (rl_ds i aW 8) (fa, fb, fc, fd, fe, ff, fg, fh, aK, aE, aV, aS, aC, aY, aD, aT, aW)) :
    ∀ (d j : Nat), j + d = 8 → wX_digestOfSector_9 post (nI i) fa fb fc fd fe ff fg fh aK aE aV aS aC aY aD aT aW (d + 1) (rl_ds i aW j) (nI j) := by
  intro d
  induction d with
  | zero => intro j hj; have e : j = 8 := by omega
            subst e; exact br_t (sv_ge 8 (by omega) (by omega)) hp
  | succ d ih =>
    intro j hj
    have hc : (nI j).toNatClampNeg = j := nI_clamp (by omega)
    refine br_f (sv_ng 8 (by omega) (by decide)) ⟨sv_i9 (by omega), nm_r (e' := rl_ds i aW (j + 1)) ?_ (nm_r (nI_1 j) (ih (j + 1) (by omega)))⟩
    rw [hc]; rfl
theorem sf_digSec (post : Int32 → SX → Prop) (i : Nat) (hi : i < 12) (fa fb fc fd fe ff fg fh : Int32) (aK aE aV aS aC aY aT aW : Nat → Int32) (hT : ch_tl 16 aT) (hp : post (rl_ds i (ch_un aK aW (ch_S aY (nI i) (aE i) (aV i)) (ch_row i (aE i))) 8) (fa, fb, fc, fd, fe, ff, fg, fh, aK, aE, aV, aS, aC, aY, (fun _ => 0), ch_S aY (nI i) (aE i) (aV i), ch_un aK aW (ch_S aY (nI i) (aE i) (aV i)) (ch_row i (aE i)))) : wpX_digestOfSector post (fa, fb, fc, fd, fe, ff, fg, fh, aK, aE, aV, aS, aC, aY, (fun _ => 0), aT, aW) (nI i) := by
  unfold wpX_digestOfSector
  exact sf_unseal _ i hi fa fb fc fd fe ff fg fh aK aE aV aS aC aY aT aW hT ⟨9, sf_ds9 post i fa fb fc fd fe ff fg fh aK aE aV aS aC aY (fun _ => 0) (ch_S aY (nI i) (aE i) (aV i)) (ch_un aK aW (ch_S aY (nI i) (aE i) (aV i)) (ch_row i (aE i))) hp 8 0 rfl⟩
theorem sf_di13 (post : Int32 → SX → Prop) (fa fb fc fd fe ff fg fh : Int32) (aK aE aV aS aC aY : Nat → Int32) (bC bD : Nat → Int32) (hC : rl_sc aY aK aE aV bC bD) (hp : ∀ aT' aW' : Nat → Int32, ch_tl 16 aT' → post (rl_dg bC bD 96) (fa, fb, fc, fd, fe, ff, fg, fh, aK, aE, aV, aS, aC, aY, (fun _ => 0), aT', aW')) :
    ∀ (d j : Nat) (aT aW : Nat → Int32), j + d = 12 → ch_tl 16 aT → wX_digest_13 post (d + 1) (rl_dg bC bD (8 * j)) (nI j) fa fb fc fd fe ff fg fh aK aE aV aS aC aY (fun _ => 0) aT aW := by
  intro d
  induction d with
  | zero => intro j aT aW hj hT; have e : j = 12 := by omega
            subst e; exact br_t (sv_ge 12 (by omega) (by omega)) (hp _ _ hT)
  | succ d ih =>
    intro j aT aW hj hT
    have hd := rl_dm hC j (by omega)
    refine br_f (sv_ng 12 (by omega) (by decide)) (sf_isDamaged _ j (by omega) fa fb fc fd fe ff fg fh aK aE aV aS aC aY (fun _ => 0) aT aW (fun z => br_t rfl (sf_digSec _ j (by omega) fa fb fc fd fe ff fg fh aK aE aV aS aC aY aT aW hT (nm_r (e' := rl_dg bC bD (8 * (j + 1))) ?_ (nm_r (nI_1 j) (ih (j + 1) _ _ (by omega) (ch_tl_S _ _ _ _)))))) (fun z => br_f (by decide) ?_))
    · have h := rl_dg_s bC bD (ch_un aK aW (ch_S aY (nI j) (aE j) (aV j)) (ch_row j (aE j))) j (hd.mp z) (fun c hc => by
        show (if c < 8 then _ else _) = _
        rw [if_pos hc]
        exact ((hC j (by omega)).1 (hd.mp z)).2 c hc) 8 (by decide)
      rw [show 8 * (j + 1) = 8 * j + 8 by omega, h]
    · have h := rl_dg_d bC bD j (fun y => z (hd.mpr y)) 8 (by decide)
      have h2 := ih (j + 1) aT aW (by omega) hT
      rw [show 8 * (j + 1) = 8 * j + 8 by omega, h] at h2
      exact nm_r (nI_1 j) h2
theorem j_vc_digest {k : Nat} {u : SX} {v : SY} (I : i_Rel k u v) : wpX_digest (fun r u' => wpY_digest (fun r' => r' = r ∧ i_Rel (k + 4) u' v) v) u := by
  obtain ⟨fa, fb, fc, fd, fe, ff, fg, fh, aK, aE, aV, aS, aC, aY, aD, aT, aW⟩ := u
  obtain ⟨gc, bC, bD, bU, bP, bV, bQ, rfl, rfl, R⟩ := I
  refine br_c (fun hb => ⟨97, sg_di4z _ fa fb gc fc fd bC bD bU bP bV bQ hb ⟨rfl, rl_mk R⟩ 96 0 rfl⟩) (fun hb => ?_)
  obtain ⟨hT, ha, hY, hm, t, ht, ht0, rfl, hS, hC, hcp⟩ := rl_op R hb
  exact ⟨13, sf_di13 _ fa fb fc fd (nI t) ff fg fh aK aE aV aS aC aY bC bD hC (fun aT' aW' hT' => ⟨97, sg_di4 _ fa fb gc fc fd bC bD bU bP bV bQ hb ⟨rfl, rl_mk (rl_T R hT')⟩ 96 0 rfl⟩) 12 0 aT aW rfl hT⟩
/-! keys -/
theorem sf_ak24 (post : Int32 → SX → Prop) (x : Int32) (t : Nat) (ht : t < 16) (fa fb fc fd ff fg fh : Int32) (aK aE aV aS aC aY aT aW : Nat → Int32) (s : Nat) (hs : s < 4) (hz : sv_bt t s = 0) (hT : ch_tl 16 aT)
    (hp : ∀ aS' : Nat → Int32, (∀ q, q < s * 16 ∨ s * 16 + 16 ≤ q → aS' q = aS q) → (∀ i, i < 8 → aS' (s * 16 + i) = ch_P x 2 0 i) → (∀ i, i < 8 → aS' (s * 16 + 8 + i) = ch_P x 3 fh i ^^^ aY i) → post (nI s) (fa, fb, fc, fd, nI (sv_set t s), ff, fg, fh, aK, aE, aV, aS', aC, aY, (fun _ => 0), ch_P x 3 fh, aW)) :
    ∀ (d j : Nat), j + d = s → (∀ r, j ≤ r → r < s → sv_bt t r = 1) → wX_addKey_24 post x fa fb fc fd (nI t) ff fg fh aK aE aV aS aC aY (fun _ => 0) aT aW (d + 1) (nI j) := by
  intro d
  induction d with
  | zero =>
    intro j hj h
    have e : j = s := by omega
    subst e
    refine br_f (sv_ng 4 (by omega) (by decide)) (sf_isTaken _ j hs t ht fa fb fc fd ff fg fh aK aE aV aS aC aY (fun _ => 0) aT aW (fun z => absurd z (by omega)) (fun _ => br_t rfl (sf_putSlot _ j hs x fa fb fc fd (nI t) ff fg fh aK aE aV aS aC aY aT aW hT (fun aS' h1 h2 h3 => ?_))))
    rw [(sv_set_e j hs t ht).1]
    exact hp aS' h1 h2 h3
  | succ d ih =>
    intro j hj h
    exact br_f (sv_ng 4 (by omega) (by decide)) (sf_isTaken _ j (by omega) t ht fa fb fc fd ff fg fh aK aE aV aS aC aY (fun _ => 0) aT aW (fun _ => br_f (by decide) (nm_r (nI_1 j) (ih (j + 1) (by omega) (fun r h1 h2 => h r (by omega) h2)))) (fun z => absurd (h j (by omega) (by omega)) (by omega)))
theorem sf_ak24f (post : Int32 → SX → Prop) (x : Int32) (t : Nat) (ht : t < 16) (fa fb fc fd ff fg fh : Int32) (aK aE aV aS aC aY aD aT aW : Nat → Int32) (hp : post (-7) (fa, fb, fc, fd, nI t, ff, fg, fh, aK, aE, aV, aS, aC, aY, aD, aT, aW)) :
    ∀ (d j : Nat), j + d = 4 → (∀ r, j ≤ r → r < 4 → sv_bt t r = 1) → wX_addKey_24 post x fa fb fc fd (nI t) ff fg fh aK aE aV aS aC aY aD aT aW (d + 1) (nI j) := by
  intro d
  induction d with
  | zero => intro j hj h; exact br_t (sv_ge 4 (by omega) (by omega)) hp
  | succ d ih =>
    intro j hj h
    exact br_f (sv_ng 4 (by omega) (by decide)) (sf_isTaken _ j (by omega) t ht fa fb fc fd ff fg fh aK aE aV aS aC aY aD aT aW (fun _ => br_f (by decide) (nm_r (nI_1 j) (ih (j + 1) (by omega) (fun r h1 h2 => h r (by omega) h2)))) (fun z => absurd (h j (by omega) (by omega)) (by omega)))
theorem sg_ak23 (post : Int32 → SY → Prop) (x : Int32) (t : Nat) (ga gb gc gd ge : Int32) (bC bD bU bP bV bQ : Nat → Int32) (hU : ∀ s, s < 4 → bU s = nI (sv_bt t s)) (s : Nat) (hs : s < 4) (hz : sv_bt t s = 0) (hp : post (nI s) (ga, gb, gc, gd, ge, bC, bD, upd bU s 1, upd bP s x, bV, bQ)) :
    ∀ (d j : Nat), j + d = s → (∀ r, j ≤ r → r < s → sv_bt t r = 1) → wY_addKey_23 post x ga gb gc gd ge bC bD bU bP bV bQ (d + 1) (nI j) := by
  intro d
  induction d with
  | zero =>
    intro j hj h
    have e : j = s := by omega
    subst e
    refine br_f (sv_ng 4 (by omega) (by decide)) ⟨sy_i4 hs, ?_⟩
    rw [nI_clamp (n := j) (by omega), hU j hs, hz, sy_n1]
    exact br_t rfl ⟨sy_i4 hs, nm_e ⟨sy_i4 hs, nm_e hp⟩⟩
  | succ d ih =>
    intro j hj h
    refine br_f (sv_ng 4 (by omega) (by decide)) ⟨sy_i4 (by omega), ?_⟩
    rw [nI_clamp (n := j) (by omega), hU j (by omega), h j (by omega) (by omega)]
    exact br_f (by decide) (nm_r (nI_1 j) (ih (j + 1) (by omega) (fun r h1 h2 => h r (by omega) h2)))
theorem sg_ak23f (post : Int32 → SY → Prop) (x : Int32) (t : Nat) (ga gb gc gd ge : Int32) (bC bD bU bP bV bQ : Nat → Int32) (hU : ∀ s, s < 4 → bU s = nI (sv_bt t s)) (hp : post (-7) (ga, gb, gc, gd, ge, bC, bD, bU, bP, bV, bQ)) :
    ∀ (d j : Nat), j + d = 4 → (∀ r, j ≤ r → r < 4 → sv_bt t r = 1) → wY_addKey_23 post x ga gb gc gd ge bC bD bU bP bV bQ (d + 1) (nI j) := by
  intro d
  induction d with
  | zero => intro j hj h; exact br_t (sv_ge 4 (by omega) (by omega)) hp
  | succ d ih =>
    intro j hj h
    refine br_f (sv_ng 4 (by omega) (by decide)) ⟨sy_i4 (by omega), ?_⟩
    rw [nI_clamp (n := j) (by omega), hU j (by omega), h j (by omega) (by omega)]
    exact br_f (by decide) (nm_r (nI_1 j) (ih (j + 1) (by omega) (fun r h1 h2 => h r (by omega) h2)))
theorem sl_free (t : Nat) : (∀ r, 0 ≤ r → r < 4 → sv_bt t r = 1) ∨ ∃ s, s < 4 ∧ sv_bt t s = 0 ∧ ∀ r, 0 ≤ r → r < s → sv_bt t r = 1 := by
  have h0 := sv_bt_2 t 0
  have h1 := sv_bt_2 t 1
  have h2 := sv_bt_2 t 2
  have h3 := sv_bt_2 t 3
  have c : ∀ r, r < 4 → r = 0 ∨ r = 1 ∨ r = 2 ∨ r = 3 := by omega
  by_cases z0 : sv_bt t 0 = 0
  · exact Or.inr ⟨0, by decide, z0, fun r _ h => absurd h (by omega)⟩
  by_cases z1 : sv_bt t 1 = 0
  · exact Or.inr ⟨1, by decide, z1, fun r _ h => by rcases c r (by omega) with rfl | rfl | rfl | rfl <;> omega⟩
  by_cases z2 : sv_bt t 2 = 0
  · exact Or.inr ⟨2, by decide, z2, fun r _ h => by rcases c r (by omega) with rfl | rfl | rfl | rfl <;> omega⟩
  by_cases z3 : sv_bt t 3 = 0
  · exact Or.inr ⟨3, by decide, z3, fun r _ h => by rcases c r (by omega) with rfl | rfl | rfl | rfl <;> omega⟩
  exact Or.inl (fun r _ h => by rcases c r (by omega) with rfl | rfl | rfl | rfl <;> omega)
theorem j_vc_addKey {k : Nat} {u : SX} {v : SY} (I : i_Rel k u v) (v1 : Int32) (hin : yv_loc v v1) : wpX_addKey (fun r u' => wpY_addKey (fun r' v' => r' = r ∧ i_Rel (k + 4) u' v') v v1) u v1 := by
  obtain ⟨fa, fb, fc, fd, fe, ff, fg, fh, aK, aE, aV, aS, aC, aY, aD, aT, aW⟩ := u
  obtain ⟨gc, bC, bD, bU, bP, bV, bQ, rfl, rfl, R⟩ := I
  refine br_c (fun hb => br_t hb ⟨rfl, rl_mk R⟩) (fun hb => ?_)
  obtain ⟨hT, ha, hY, hm, t, ht, ht0, rfl, hS, hC, hcp⟩ := rl_op R hb
  have hU : ∀ s, s < 4 → bU s = nI (sv_bt t s) := fun s hs => (hS s hs).1
  have RT := rl_T R (ch_tl_P v1 2 0)
  refine sf_findSlot _ v1 t ht fa fb fc fd ff fg fh aK aE aV aS aC aY aT aW aY bU bP (yl_loc hin (fun s hs => (hS s hs).1)) hS hT ?_
  rcases sl_fd_p t bP v1 4 0 with ⟨e, hno⟩ | ⟨s, _, hs, e, hbt, hps⟩
  · rw [e]
    rcases sl_free t with hf | ⟨s, hs, hz, hf⟩
    · refine br_t rfl ⟨5, sf_ak24f _ v1 t ht fa fb fc fd ff fg fh aK aE aV aS aC aY (fun _ => 0) (ch_P v1 2 0) aW ?_ 4 0 rfl hf⟩
      refine br_f hb (sg_find _ v1 t fa fb gc fc fd bC bD bU bP bV bQ hU ?_)
      rw [e]
      exact br_t (by decide) ⟨5, sg_ak23f _ v1 t fa fb gc fc fd bC bD bU bP bV bQ hU ⟨rfl, rl_mk RT⟩ 4 0 rfl hf⟩
    · refine br_t rfl ⟨s + 1, sf_ak24 _ v1 t ht fa fb fc fd ff fg fh aK aE aV aS aC aY (ch_P v1 2 0) aW s hs hz (ch_tl_P _ _ _) (fun aS' h1 h2 h3 => ?_) s 0 (by omega) hf⟩
      refine br_f hb (sg_find _ v1 t fa fb gc fc fd bC bD bU bP bV bQ hU ?_)
      rw [e]
      have hc := sv_set_e s hs t ht
      exact br_t (by decide) ⟨s + 1, sg_ak23 _ v1 t fa fb gc fc fd bC bD bU bP bV bQ hU s hs hz ⟨rfl, rl_mk (rl_po hb ha (ch_tl_P _ _ _) hY hm (sv_set t s) hc.2.1 hc.2.2 (sl_set hS ht s hs v1 h1 h2 h3) hC hcp)⟩ s 0 (by omega) hf⟩
  · rw [e]
    refine br_f (sv_nm1 (by omega)) (br_f hb (sg_find _ v1 t fa fb gc fc fd bC bD bU bP bV bQ hU ?_))
    rw [e]
    exact br_f (nI_pos (by omega)) ⟨rfl, rl_mk RT⟩
theorem j_vc_removeKey {k : Nat} {u : SX} {v : SY} (I : i_Rel k u v) (v1 : Int32) : wpX_removeKey (fun r u' => wpY_removeKey (fun r' v' => r' = r ∧ i_Rel (k + 4) u' v') v v1) u v1 := by
  obtain ⟨fa, fb, fc, fd, fe, ff, fg, fh, aK, aE, aV, aS, aC, aY, aD, aT, aW⟩ := u
  obtain ⟨gc, bC, bD, bU, bP, bV, bQ, rfl, rfl, R⟩ := I
  unfold wpX_removeKey
  dsimp only
  unfold wpY_removeKey
  dsimp only
  by_cases hx : vp_in v1 4
  · refine pa_xSlot_g _ _ _ hx (br_f (by decide) (br_c (fun hb => pa_ySlot_g _ _ _ hx (br_t rfl (br_t hb ⟨rfl, rl_mk R⟩))) (fun hb => ?_)))
    obtain ⟨s, hs, rfl⟩ := vp_in_of hx (by decide)
    have hci : (nI s).toNatClampNeg = s := nI_clamp (by omega)
    obtain ⟨hT, ha, hY, hm, t, ht, ht0, rfl, hS, hC, hcp⟩ := rl_op R hb
    have hU : ∀ s, s < 4 → bU s = nI (sv_bt t s) := fun s hs => (hS s hs).1
    refine sf_isTaken _ s hs t ht fa fb fc fd ff fg fh aK aE aV aS aC aY (fun _ => 0) aT aW (fun hbt => br_f (by decide) (sf_ct _ t ht fa fb fc fd ff fg fh aK aE aV aS aC aY (fun _ => 0) aT aW ?_)) (fun hbt => br_t rfl (pa_ySlot_g _ _ _ hx (br_t rfl (br_f hb ⟨hx, ?_⟩))))
    · refine br_c (fun h1 => pa_ySlot_g _ _ _ hx (br_t rfl (br_f hb ⟨hx, ?_⟩))) (fun h1 => sf_empty _ s hs t ht fa fb fc fd ff fg fh aK aE aV aS aC aY (fun _ => 0) aT aW (fun aS' hf => sf_ct _ _ (sv_clr_e s hs t ht).2 fa fb fc fd ff fg fh aK aE aV aS' aC aY (fun _ => 0) aT aW (pa_ySlot_g _ _ _ hx (br_t rfl (br_f hb ⟨hx, ?_⟩)))))
      · rw [hci, hU s hs, hbt]
        exact br_f (by decide) (sg_cs _ t fa fb gc fc fd bC bD bU bP bV bQ hU (br_t h1 ⟨rfl, rl_mk R⟩))
      · rw [hci, hU s hs, hbt, sy_n0]
        have hn : sv_pop t ≠ 1 := fun z => h1 (by rw [z]; rfl)
        have hS' := sl_clr hS ht s hs hf
        exact br_f (by decide) (sg_cs _ t fa fb gc fc fd bC bD bU bP bV bQ hU (br_f h1 ⟨hx, nm_e (sg_cs _ (sv_clr t s) fa fb gc fc fd bC bD (upd bU s 0) bP bV bQ (fun r hr => (hS' r hr).1) ⟨rfl, rl_mk (rl_po hb ha hT hY hm (sv_clr t s) (sv_clr_e s hs t ht).2 (sv_clr_n s hs t ht hbt hn) hS' hC hcp)⟩)⟩))
    · rw [hci, hU s hs, hbt]
      exact br_t rfl ⟨rfl, rl_mk R⟩
  · exact pa_xSlot_b _ _ _ hx (br_t rfl (pa_ySlot_b _ _ _ hx (br_f (by decide) ⟨rfl, rl_mk R⟩)))
theorem j_vc_changeKey {k : Nat} {u : SX} {v : SY} (I : i_Rel k u v) (v1 : Int32) (v2 : Int32) (hin : yv_loc v v2) : wpX_changeKey (fun r u' => wpY_changeKey (fun r' v' => r' = r ∧ i_Rel (k + 4) u' v') v v1 v2) u v1 v2 := by
  obtain ⟨fa, fb, fc, fd, fe, ff, fg, fh, aK, aE, aV, aS, aC, aY, aD, aT, aW⟩ := u
  obtain ⟨gc, bC, bD, bU, bP, bV, bQ, rfl, rfl, R⟩ := I
  unfold wpX_changeKey
  dsimp only
  unfold wpY_changeKey
  dsimp only
  by_cases hx : vp_in v1 4
  · refine pa_xSlot_g _ _ _ hx (br_f (by decide) (br_c (fun hb => pa_ySlot_g _ _ _ hx (br_t rfl (br_t hb ⟨rfl, rl_mk R⟩))) (fun hb => ?_)))
    obtain ⟨s, hs, rfl⟩ := vp_in_of hx (by decide)
    have hci : (nI s).toNatClampNeg = s := nI_clamp (by omega)
    obtain ⟨hT, ha, hY, hm, t, ht, ht0, rfl, hS, hC, hcp⟩ := rl_op R hb
    have hU : ∀ s, s < 4 → bU s = nI (sv_bt t s) := fun s hs => (hS s hs).1
    have RT := rl_T R (ch_tl_P v2 2 0)
    refine sf_isTaken _ s hs t ht fa fb fc fd ff fg fh aK aE aV aS aC aY (fun _ => 0) aT aW (fun hbt => br_f (by decide) (sf_findSlot _ v2 t ht fa fb fc fd ff fg fh aK aE aV aS aC aY aT aW aY bU bP (yl_loc hin (fun s hs => (hS s hs).1)) hS hT ?_)) (fun hbt => br_t rfl (pa_ySlot_g _ _ _ hx (br_t rfl (br_f hb ⟨hx, ?_⟩))))
    · rcases sl_fd_p t bP v2 4 0 with ⟨e, hno⟩ | ⟨s', _, hs', e, hbt', hps⟩
      · rw [e]
        have hne : ¬ (-1 : Int32) = nI s := fun z => sv_nm1 hs z.symm
        refine br_f hne (br_t rfl (sf_putSlot _ s hs v2 fa fb fc fd (nI t) ff fg fh aK aE aV aS aC aY (ch_P v2 2 0) aW (ch_tl_P _ _ _) (fun aS' h1 h2 h3 => pa_ySlot_g _ _ _ hx (br_t rfl (br_f hb ⟨hx, ?_⟩)))))
        rw [hci, hU s hs, hbt, (sv_set_e s hs t ht).1, sv_set_i s hs t ht hbt]
        refine br_f (by decide) (sg_find _ v2 t fa fb gc fc fd bC bD bU bP bV bQ hU ?_)
        rw [e]
        exact br_f hne (br_t (by decide) ⟨hx, nm_e ⟨rfl, rl_mk (rl_po hb ha (ch_tl_P _ _ _) hY hm t ht ht0 (sl_chg hS s hs hbt v2 h1 h2 h3) hC hcp)⟩⟩)
      · rw [e]
        by_cases hss : s' = s
        · subst hss
          refine br_t rfl (pa_ySlot_g _ _ _ hx (br_t rfl (br_f hb ⟨hx, ?_⟩)))
          rw [hci, hU s' hs, hbt]
          refine br_f (by decide) (sg_find _ v2 t fa fb gc fc fd bC bD bU bP bV bQ hU ?_)
          rw [e]
          exact br_t rfl ⟨rfl, rl_mk RT⟩
        · have hne : ¬ nI s' = nI s := fun z => hss ((nI_eq (by omega) (by omega)).mp z)
          refine br_f hne (br_f (sv_nm1 (by omega)) (pa_ySlot_g _ _ _ hx (br_t rfl (br_f hb ⟨hx, ?_⟩))))
          rw [hci, hU s hs, hbt]
          refine br_f (by decide) (sg_find _ v2 t fa fb gc fc fd bC bD bU bP bV bQ hU ?_)
          rw [e]
          exact br_f hne (br_f (nI_pos (by omega)) ⟨rfl, rl_mk RT⟩)
    · rw [hci, hU s hs, hbt]
      exact br_t rfl ⟨rfl, rl_mk R⟩
  · exact pa_xSlot_b _ _ _ hx (br_t rfl (pa_ySlot_b _ _ _ hx (br_f (by decide) ⟨rfl, rl_mk R⟩)))
theorem sv_or_b : ∀ j, j < 4 → ∀ t, t < 16 → sv_bt t j = 1 → nI (t % 2 ^ j) ||| ((1 : Int32) <<< (nI j &&& 31)) = nI (t % 2 ^ (j + 1)) := by decide +kernel
theorem sv_or_n : ∀ j, j < 4 → ∀ t, t < 16 → sv_bt t j = 0 → t % 2 ^ (j + 1) = t % 2 ^ j := by decide +kernel
theorem sg_sl4 (post : Int32 → Prop) (t : Nat) (ht : t < 16) (ga gb gc gd ge : Int32) (bC bD bU bP bV bQ : Nat → Int32) (ha : ¬ ga = 0) (hU : ∀ s, s < 4 → bU s = nI (sv_bt t s)) (hp : post (nI t)) :
    ∀ (d j : Nat), j + d = 4 → wY_slots_4 post ga gb gc gd ge bC bD bU bP bV bQ (d + 1) (nI (t % 2 ^ j)) (nI j) := by
  intro d
  induction d with
  | zero =>
    intro j hj
    have e : j = 4 := by omega
    subst e
    refine br_t (sv_ge 4 (by omega) (by omega)) ?_
    rw [show t % 2 ^ 4 = t by omega]
    exact hp
  | succ d ih =>
    intro j hj
    refine br_f (sv_ng 4 (by omega) (by decide)) (br_f ha ⟨sy_i4 (by omega), ?_⟩)
    rw [nI_clamp (n := j) (by omega), hU j (by omega)]
    have hn := ih (j + 1) (by omega)
    refine br_c (fun h => ?_) (fun h => nm_r (sv_or_b j (by omega) t ht (sy_b1 h)) (nm_r (nI_1 j) hn))
    rw [sv_or_n j (by omega) t ht (sy_b0 h)] at hn
    exact nm_r (nI_1 j) hn
theorem sg_sl4z (post : Int32 → Prop) (ga gb gc gd ge : Int32) (bC bD bU bP bV bQ : Nat → Int32) (ha : ga = 0) (hp : post 0) :
    ∀ (d j : Nat), j + d = 4 → wY_slots_4 post ga gb gc gd ge bC bD bU bP bV bQ (d + 1) 0 (nI j) := by
  intro d
  induction d with
  | zero => intro j hj; exact br_t (sv_ge 4 (by omega) (by omega)) hp
  | succ d ih =>
    intro j hj
    exact br_f (sv_ng 4 (by omega) (by decide)) (br_t ha (nm_r (nI_1 j) (ih (j + 1) (by omega))))
theorem j_vc_slots {k : Nat} {u : SX} {v : SY} (I : i_Rel k u v) : wpX_slots (fun r => wpY_slots (fun r' => r' = r ∧ i_Rel (k + 4) u v) v) u := by
  obtain ⟨fa, fb, fc, fd, fe, ff, fg, fh, aK, aE, aV, aS, aC, aY, aD, aT, aW⟩ := u
  obtain ⟨gc, bC, bD, bU, bP, bV, bQ, rfl, rfl, R⟩ := I
  have R0 := R
  obtain ⟨hT, h0, hm, ky, t, hky, hY0, hY1, ht, rfl, ht0, hpr, hcp⟩ := R
  unfold wpX_slots
  dsimp only
  by_cases ha : fa = 0
  · have e := ht0 ha
    subst e
    exact ⟨5, sg_sl4z _ fa fb gc fc fd bC bD bU bP bV bQ ha ⟨rfl, rl_mk R0⟩ 4 0 rfl⟩
  · have h := sg_sl4 (fun r' => r' = nI t ∧ i_Rel (k + 4) (fa, fb, fc, fd, nI t, ff, fg, fh, aK, aE, aV, aS, aC, aY, (fun _ => 0), aT, aW) (fa, fb, gc, fc, fd, bC, bD, bU, bP, bV, bQ)) t ht fa fb gc fc fd bC bD bU bP bV bQ ha (fun s hs => ((hpr ha).2.1 s hs).1) ⟨rfl, rl_mk R0⟩ 4 0 rfl
    rw [show t % 2 ^ 0 = 0 by omega] at h
    exact ⟨5, h⟩
theorem j_vc_slotOf {k : Nat} {u : SX} {v : SY} (I : i_Rel k u v) (v1 : Int32) (hin : yv_loc v v1) : wpX_slotOf (fun r u' => wpY_slotOf (fun r' => r' = r ∧ i_Rel (k + 4) u' v) v v1) u v1 := by
  obtain ⟨fa, fb, fc, fd, fe, ff, fg, fh, aK, aE, aV, aS, aC, aY, aD, aT, aW⟩ := u
  obtain ⟨gc, bC, bD, bU, bP, bV, bQ, rfl, rfl, R⟩ := I
  refine br_c (fun ha => br_t ha ⟨rfl, rl_mk R⟩) (fun ha => ?_)
  have hY := rl_Y R
  have RL := rl_L R (ch_tl_0 16)
  have RT := rl_T R (ch_tl_P v1 2 0)
  obtain ⟨hT, h0, hm, ky, t, hky, hY0, hY1, ht, rfl, ht0, hpr, hcp⟩ := R
  obtain ⟨htn, hS, hC⟩ := hpr ha
  have hU : ∀ s, s < 4 → bU s = nI (sv_bt t s) := fun s hs => (hS s hs).1
  refine sf_findSlot _ v1 t ht fa fb fc fd ff fg fh aK aE aV aS aC aY aT aW ky bU bP (yl_loc hin (fun s hs => (hS s hs).1)) hS hT ?_
  refine br_c (fun hb => ?_) (fun hb => ?_)
  · subst hb
    refine sf_forget _ fa 0 fc fd (nI t) ff fg fh aK aE aV aS aC aY (fun _ => 0) (ch_P v1 2 0) aW (ch_tl_P _ _ _) hY (fun aW' => ?_)
    rcases sl_fd_p t bP v1 4 0 with ⟨e, hno⟩ | ⟨s, _, hs, e, hbt, hps⟩
    · rw [e]
      refine br_t rfl (br_f ha (sg_find _ v1 t fa 0 gc fc fd bC bD bU bP bV bQ hU ?_))
      rw [e]
      exact br_f (by decide) ⟨rfl, rl_mk RL⟩
    · rw [e]
      refine br_f (sv_nm1 (by omega)) (br_f ha (sg_find _ v1 t fa 0 gc fc fd bC bD bU bP bV bQ hU ?_))
      rw [e]
      exact br_t (sv_ge0 (by omega)) ⟨rfl, rl_mk RL⟩
  · rcases sl_fd_p t bP v1 4 0 with ⟨e, hno⟩ | ⟨s, _, hs, e, hbt, hps⟩
    · rw [e]
      refine br_t rfl (br_f ha (sg_find _ v1 t fa fb gc fc fd bC bD bU bP bV bQ hU ?_))
      rw [e]
      exact br_f (by decide) ⟨rfl, rl_mk RT⟩
    · rw [e]
      refine br_f (sv_nm1 (by omega)) (br_f ha (sg_find _ v1 t fa fb gc fc fd bC bD bU bP bV bQ hU ?_))
      rw [e]
      exact br_t (sv_ge0 (by omega)) ⟨rfl, rl_mk RT⟩
end
section
theorem sv_ne1 (x : Int32) : x ≠ x + 1 := by
  intro h
  have h2 : x + 0 = x + 1 := by rw [Int32.add_zero]; exact h
  exact absurd ((Int32.add_right_inj x).mp h2) (by decide)
theorem rl_ep_n {m : Nat} {fg : Int32} {E : Nat → Int32} (h : rl_ep m fg E) : ∀ i, m ≤ i → i < 12 → E i ≠ fg := fun i h1 h2 z => by
  have e := h.2.2 i h1 h2
  rw [z] at e
  exact sv_ne1 fg e.symm
theorem sv_cr4 (post : Int32 → Prop) (m : Nat) (hm : m ≤ 12) (fa fb fc fd fe ff fg fh : Int32) (aK aE aV aS aC aY aD aT aW : Nat → Int32) (h1 : ∀ i, i < m → aE i = fg) (h2 : ∀ i, m ≤ i → i < 12 → aE i ≠ fg) (hp : post (nI (12 - m))) :
    ∀ (d j : Nat), j + d = 12 → wX_countToRenew_4 post fa fb fc fd fe ff fg fh aK aE aV aS aC aY aD aT aW (d + 1) (nI (j - m)) (nI j) := by
  intro d
  induction d with
  | zero => intro j hj; refine br_t (sv_ge 12 (by omega) (by omega)) ?_; rw [show j = 12 by omega]; exact hp
  | succ d ih =>
    intro j hj
    have hc : (nI j).toNatClampNeg = j := nI_clamp (by omega)
    have hn := ih (j + 1) (by omega)
    refine br_f (sv_ng 12 (by omega) (by decide)) ⟨sv_i12 (by omega), ?_⟩
    rw [hc]
    by_cases hjm : j < m
    · rw [show j + 1 - m = j - m by omega] at hn
      exact br_t (h1 j hjm) (nm_r (nI_1 j) hn)
    · rw [show j + 1 - m = (j - m) + 1 by omega] at hn
      exact br_f (h2 j (by omega) (by omega)) (nm_r (nI_1 (j - m)) (nm_r (nI_1 j) hn))
theorem sf_cr (post : Int32 → Prop) (m : Nat) (fa fb fc fd fe ff fg fh : Int32) (aK aE aV aS aC aY aD aT aW : Nat → Int32) (h : rl_ep m fg aE) (hp : post (nI (12 - m))) : wpX_countToRenew post (fa, fb, fc, fd, fe, ff, fg, fh, aK, aE, aV, aS, aC, aY, aD, aT, aW) :=
  ⟨13, by
    have h := sv_cr4 post m h.1 fa fb fc fd fe ff fg fh aK aE aV aS aC aY aD aT aW h.2.1 (rl_ep_n h) hp 12 0 rfl
    rw [show 0 - m = 0 by omega] at h
    exact h⟩
theorem rl_ep_u {j : Nat} {fg : Int32} {E : Nat → Int32} (h : rl_ep j fg E) (hj : j < 12) : rl_ep (j + 1) fg (upd E j fg) := by
  refine ⟨by omega, fun i hi => ?_, fun i h1 h2 => ?_⟩
  · by_cases hij : i = j
    · rw [hij]; exact pk_us
    · rw [pk_un hij]; exact h.2.1 i (by omega)
  · rw [pk_un (by omega)]
    exact h.2.2 i (by omega) h2
theorem sf_rn42 (post : Int32 → SX → Prop) (x : Int32) (m : Nat) (fa fb fc fd fe ff fg fh : Int32) (aV aS aC aY : Nat → Int32) (bC bD : Nat → Int32)
    (hp : ∀ (j : Nat) (aK' aE' aT' aW' : Nat → Int32), m ≤ j → (j = 12 ∨ x ≤ nI (j - m)) → (∀ q, m ≤ q → q < j → ¬ x ≤ nI (q - m)) → ch_tl 16 aT' → rl_ep j fg aE' → rl_sc aY aK' aE' aV bC bD → post (nI (12 - j)) (fa, fb, fc, fd, fe, ff, fg, fh, aK', aE', aV, aS, aC, aY, (fun _ => 0), aT', aW')) :
    ∀ (d j : Nat) (aK aE aT aW : Nat → Int32), j + d = 12 → m ≤ j → (∀ q, m ≤ q → q < j → ¬ x ≤ nI (q - m)) → ch_tl 16 aT → rl_ep j fg aE → rl_sc aY aK aE aV bC bD → wX_renew_42 post x (nI m) (d + 1) (nI j) fa fb fc fd fe ff fg fh aK aE aV aS aC aY (fun _ => 0) aT aW := by
  intro d
  induction d with
  | zero =>
    intro j aK aE aT aW hj hm hx hT hE hC
    exact br_t (sv_ge 12 (by omega) (by omega)) (sf_cr _ j fa fb fc fd fe ff fg fh aK aE aV aS aC aY (fun _ => 0) aT aW hE (hp j _ _ _ _ hm (Or.inl (by omega)) hx hT hE hC))
  | succ d ih =>
    intro j aK aE aT aW hj hm hx hT hE hC
    refine br_f (sv_ng 12 (by omega) (by decide)) ?_
    rw [pk_sub hm]
    refine br_c (fun h => sf_cr _ j fa fb fc fd fe ff fg fh aK aE aV aS aC aY (fun _ => 0) aT aW hE (hp j _ _ _ _ hm (Or.inr h) hx hT hE hC)) (fun h => ?_)
    refine sf_writeRenewed _ j (by omega) 9 fa fb fc fd fe ff fg fh aK aE aV aS aC aY aT aW hT (fun aW1 n hn hn9 => ?_)
    have e9 : n = 9 := by
      by_cases h9 : n < 9
      · exact absurd (hn9 h9) (sv_ng 9 h9 (by decide))
      · omega
    subst e9
    refine sf_finish _ j (by omega) fa fb fc fd fe ff fg fh _ aE aV aS aC aY (fun _ => 0) (ch_S aY (nI j) fg (aV j)) aW1 (fun aK2 hK => nm_r (nI_1 j) (ih (j + 1) aK2 (upd aE j fg) (ch_S aY (nI j) fg (aV j)) aW1 (by omega) (by omega) (fun q h1 h2 => ?_) (ch_tl_S _ _ _ _) (rl_ep_u hE (by omega)) (rl_sc_r aW hC j (by omega) (hE.2.2 j (by omega) (by omega)) hK)))
    by_cases hq : q = j
    · rw [hq]; exact h
    · exact hx q h1 (by omega)
theorem sf_rn32 (post : Int32 → SX → Prop) (x : Int32) (m : Nat) (fa fb fc fd fe ff fg fh : Int32) (aK aE aV aS aC aY aT aW : Nat → Int32) (bC bD : Nat → Int32) (hT : ch_tl 16 aT) (hE : rl_ep m fg aE) (hC : rl_sc aY aK aE aV bC bD)
    (hp : ∀ (j : Nat) (aK' aE' aT' aW' : Nat → Int32), m ≤ j → (j = 12 ∨ x ≤ nI (j - m)) → (∀ q, m ≤ q → q < j → ¬ x ≤ nI (q - m)) → ch_tl 16 aT' → rl_ep j fg aE' → rl_sc aY aK' aE' aV bC bD → post (nI (12 - j)) (fa, fb, fc, fd, fe, ff, fg, fh, aK', aE', aV, aS, aC, aY, (fun _ => 0), aT', aW')) : wX_renew_32 post x fa fb fc fd fe ff fg fh aK aE aV aS aC aY (fun _ => 0) aT aW := by
  have hm := hE.1
  refine sf_cr _ m fa fb fc fd fe ff fg fh aK aE aV aS aC aY (fun _ => 0) aT aW hE (nm_r (e' := nI m) ?_ ⟨12 - m + 1, sf_rn42 post x m fa fb fc fd fe ff fg fh aV aS aC aY bC bD hp (12 - m) m aK aE aT aW (by omega) (by omega) (fun q h1 h2 => absurd h2 (by omega)) hT hE hC⟩)
  show nI 12 - nI (12 - m) = nI m
  rw [pk_sub (by omega)]
  exact congrArg nI (by omega)
theorem sg_rn28 (post : Int32 → SY → Prop) (x : Int32) (m j : Nat) (hm : m ≤ 12) (hj : m ≤ j) (h12 : j ≤ 12) (ga gb gd ge : Int32) (bC bD bU bP bV bQ : Nat → Int32) (h1 : j = 12 ∨ x ≤ nI (j - m)) (h2 : ∀ q, m ≤ q → q < j → ¬ x ≤ nI (q - m)) (hp : post (nI (12 - j)) (ga, gb, nI (12 - j), gd, ge, bC, bD, bU, bP, bV, bQ)) : wY_renew_28 post x ga gb (nI (12 - m)) gd ge bC bD bU bP bV bQ := by
  refine br_c (fun h0 => ?_) (fun h0 => ?_)
  · have e : j = m := by
      by_cases h : m < j
      · refine absurd ?_ (h2 m (by omega) h)
        rw [show m - m = 0 by omega]
        exact h0
      · omega
    subst e
    exact hp
  · obtain ⟨p, hp31, rfl⟩ := nI_of (x := x) (fun z => h0 (Int32.le_of_lt z))
    have hb : ∀ q, m ≤ q → q < j → q - m < p := fun q a b => by
      have := h2 q a b
      rw [nI_leI hp31 (by omega)] at this
      omega
    have hub : j - m ≤ p := by
      by_cases h : m < j
      · have := hb (j - 1) (by omega) (by omega)
        omega
      · omega
    have hlb : j = 12 ∨ p ≤ j - m := by
      rcases h1 with h | h
      · exact Or.inl h
      · rw [nI_leI hp31 (by omega)] at h
        exact Or.inr h
    refine br_c (fun hl => ?_) (fun hl => ?_)
    · rw [nI_leI hp31 (by omega)] at hl
      rw [pk_sub hl, show 12 - m - p = 12 - j by omega]
      exact nm_e hp
    · rw [nI_leI hp31 (by omega)] at hl
      have e : j = 12 := by omega
      subst e
      exact hp
theorem j_vc_renew {k : Nat} {u : SX} {v : SY} (I : i_Rel k u v) (v1 : Int32) : wpX_renew (fun r u' => wpY_renew (fun r' v' => r' = r ∧ i_Rel (k + 4) u' v') v v1) u v1 := by
  obtain ⟨fa, fb, fc, fd, fe, ff, fg, fh, aK, aE, aV, aS, aC, aY, aD, aT, aW⟩ := u
  obtain ⟨gc, bC, bD, bU, bP, bV, bQ, rfl, rfl, R⟩ := I
  refine br_c (fun hb => br_t hb ⟨rfl, rl_mk R⟩) (fun hb => ?_)
  obtain ⟨hT, ha, hY, ⟨m, hE, rfl, hst, _⟩, t, ht, ht0, rfl, hS, hC, hcp⟩ := rl_op R hb
  have hm := hE.1
  refine sf_cr _ m fa fb fc fd (nI t) ff fg fh aK aE aV aS aC aY (fun _ => 0) aT aW hE (br_c (fun h0 => nm_e ?_) (fun h0 => ?_))
  · have e : m = 12 := by
      have := (nI_eq (a := 12 - m) (b := 0) (by omega) (by decide)).mp h0
      omega
    subst e
    have hE2 : rl_ep 0 (fg + 1) aE := ⟨by decide, fun i hi => absurd hi (by omega), fun i _ hi => by rw [hE.2.1 i hi]⟩
    refine sf_rn32 _ v1 0 fa fb fc 1 (nI t) ff (fg + 1) fh aK aE aV aS aC aY aT aW bC bD hT hE2 hC (fun j aK' aE' aT' aW' hj h1 h2 hT' hE' hC' => ?_)
    refine br_f hb (br_t rfl (sg_rn28 _ v1 0 j (by decide) hj hE'.1 fa fb fc 1 bC bD bU bP bV bQ h1 h2 ⟨rfl, rl_mk (rl_po hb ha hT' hY ⟨j, hE', rfl, fun _ _ => by decide, fun z => absurd z ha⟩ t ht ht0 hS hC' hcp)⟩))
  · refine sf_rn32 _ v1 m fa fb fc fd (nI t) ff fg fh aK aE aV aS aC aY aT aW bC bD hT hE hC (fun j aK' aE' aT' aW' hj h1 h2 hT' hE' hC' => ?_)
    refine br_f hb (br_f h0 (sg_rn28 _ v1 m j hm hj hE'.1 fa fb fc fd bC bD bU bP bV bQ h1 h2 ⟨rfl, rl_mk (rl_po hb ha hT' hY ⟨j, hE', rfl, fun hc _ => hst hc ?_, fun z => absurd z ha⟩ t ht ht0 hS hC' hcp)⟩))
    by_cases h : m < 12
    · exact h
    · exact absurd (by rw [show 12 - m = 0 by omega]; rfl) h0
theorem j_vc_toRenew {k : Nat} {u : SX} {v : SY} (I : i_Rel k u v) : wpX_toRenew (fun r => wpY_toRenew (fun r' => r' = r ∧ i_Rel (k + 4) u v) v) u := by
  obtain ⟨fa, fb, fc, fd, fe, ff, fg, fh, aK, aE, aV, aS, aC, aY, aD, aT, aW⟩ := u
  obtain ⟨gc, bC, bD, bU, bP, bV, bQ, rfl, rfl, R⟩ := I
  obtain ⟨m, hE, hg, _⟩ := R.2.2.1
  unfold wpX_toRenew
  exact sf_cr _ m fa fb fc fd fe ff fg fh aK aE aV aS aC aY (fun _ => 0) aT aW hE ⟨hg, rl_mk R⟩
/-! copies -/
theorem sf_sv12 (post : Int32 → SX → Prop) (t : Nat) (ht : t < 16) (m : Nat) (fa fb fc fd ff fg fh : Int32) (aK aE aV aS aY aD aT aW : Nat → Int32) (hE : rl_ep m fg aE)
    (hp : ∀ aC' : Nat → Int32, (∀ q, q < 64 → aC' q = aS q) → (m = 12 → post (nI (sv_pop t)) (fa, fb, 1, 0, nI t, nI t, fg, fh, aK, aE, aV, aS, aC', aY, aD, aT, aW)) ∧ (m < 12 → post (nI (sv_pop t)) (fa, fb, 1, 1, nI t, nI t, fg, fh, aK, aE, aV, aS, aC', aY, aD, aT, aW))) :
    ∀ (d j : Nat) (aC : Nat → Int32), j + d = 64 → (∀ q, q < j → aC q = aS q) → wX_saveSlots_12 post fa fb fc fd (nI t) ff fg fh (d + 1) (nI j) aK aE aV aS aC aY aD aT aW := by
  have hm := hE.1
  intro d
  induction d with
  | zero =>
    intro j aC hj h
    obtain ⟨h1, h2⟩ := hp aC (fun q hq => h q (by omega))
    refine br_t (sv_ge 64 (by omega) (by omega)) (sf_cr _ m fa fb 1 fd (nI t) (nI t) fg fh aK aE aV aS aC aY aD aT aW hE (br_c (fun z => ⟨rfl, rfl, sf_ct _ t ht fa fb 1 0 (nI t) fg fh aK aE aV aS aC aY aD aT aW (h1 ?_)⟩) (fun z => ⟨rfl, rfl, sf_ct _ t ht fa fb 1 1 (nI t) fg fh aK aE aV aS aC aY aD aT aW (h2 ?_)⟩)))
    · have z2 : nI (12 - m) ≤ nI 0 := z
      rw [nI_leI (by omega) (by decide)] at z2
      omega
    · have z2 : ¬ nI (12 - m) ≤ nI 0 := z
      rw [nI_leI (by omega) (by decide)] at z2
      omega
  | succ d ih =>
    intro j aC hj h
    refine br_f (sv_ng 64 (by omega) (by decide)) ⟨sv_i64 (by omega), sv_i64 (by omega), fun y ey => nm_r (nI_1 j) (ih (j + 1) _ (by omega) (fun q hq => ?_))⟩
    rw [ey, nI_clamp (n := j) (by omega)]
    by_cases hqj : q = j
    · subst hqj; exact pk_us
    · rw [pk_un hqj]; exact h q (by omega)
theorem sg_ss33 (post : Int32 → SY → Prop) (t : Nat) (ga gb gc gd ge : Int32) (bC bD bU bP : Nat → Int32) (hU : ∀ s, s < 4 → bU s = nI (sv_bt t s)) (hp : ∀ bV' bQ' : Nat → Int32, (∀ s, s < 4 → bV' s = bU s) → (∀ s, s < 4 → bQ' s = bP s) → post (nI (sv_pop t)) (ga, gb, gc, gd, ge, bC, bD, bU, bP, bV', bQ')) :
    ∀ (d j : Nat) (bV bQ : Nat → Int32), j + d = 4 → (∀ s, s < j → bV s = bU s) → (∀ s, s < j → bQ s = bP s) → wY_saveSlots_33 post ga gb gc gd ge (d + 1) (nI j) bC bD bU bP bV bQ := by
  intro d
  induction d with
  | zero => intro j bV bQ hj h1 h2; exact br_t (sv_ge 4 (by omega) (by omega)) (sg_cs _ t ga gb gc gd ge bC bD bU bP bV bQ hU (hp _ _ (fun s hs => h1 s (by omega)) (fun s hs => h2 s (by omega))))
  | succ d ih =>
    intro j bV bQ hj h1 h2
    have hi : vp_in (nI j) 4 := sy_i4 (by omega)
    refine br_f (sv_ng 4 (by omega) (by decide)) ⟨hi, hi, fun y ey => ⟨hi, hi, fun z ez => nm_r (nI_1 j) (ih (j + 1) _ _ (by omega) (fun s hs => ?_) (fun s hs => ?_))⟩⟩
    · rw [ey, nI_clamp (n := j) (by omega), hU j (by omega), sy_nb]
      by_cases hsj : s = j
      · subst hsj; rw [pk_us, hU s (by omega)]
      · rw [pk_un hsj]; exact h1 s (by omega)
    · rw [ez, nI_clamp (n := j) (by omega)]
      by_cases hsj : s = j
      · subst hsj; exact pk_us
      · rw [pk_un hsj]; exact h2 s (by omega)
theorem j_vc_saveSlots {k : Nat} {u : SX} {v : SY} (I : i_Rel k u v) : wpX_saveSlots (fun r u' => wpY_saveSlots (fun r' v' => r' = r ∧ i_Rel (k + 4) u' v') v) u := by
  obtain ⟨fa, fb, fc, fd, fe, ff, fg, fh, aK, aE, aV, aS, aC, aY, aD, aT, aW⟩ := u
  obtain ⟨gc, bC, bD, bU, bP, bV, bQ, rfl, rfl, R⟩ := I
  refine br_c (fun ha => br_t ha ⟨rfl, rl_mk R⟩) (fun ha => ?_)
  obtain ⟨hT, h0, ⟨m, hE, rfl, hst, hm12⟩, ky, t, hky, hY0, hY1, ht, rfl, ht0, hpr, hcp⟩ := R
  obtain ⟨htn, hS, hC⟩ := hpr ha
  have hm := hE.1
  have hU : ∀ s, s < 4 → bU s = nI (sv_bt t s) := fun s hs => (hS s hs).1
  refine ⟨65, sf_sv12 _ t ht m fa fb fc fd ff fg fh aK aE aV aS aY (fun _ => 0) aT aW hE (fun aC' hC' => ⟨fun hm1 => ?_, fun hm1 => ?_⟩) 64 0 aC rfl (fun q hq => absurd hq (by omega))⟩
  · refine br_f ha (br_t ?_ ⟨5, sg_ss33 _ t fa fb (nI (12 - m)) 1 0 bC bD bU bP hU (fun bV' bQ' h1 h2 => ⟨rfl, rl_mk ⟨hT, fun z => absurd z ha, ⟨m, hE, rfl, fun _ z => absurd hm1 (by omega), hm12⟩, ky, t, hky, hY0, hY1, ht, rfl, ht0, hpr, fun _ => ⟨t, ht, htn, rfl, sl_cp hS hC' h1 h2⟩⟩⟩) 4 0 bV bQ rfl (fun s hs => absurd hs (by omega)) (fun s hs => absurd hs (by omega))⟩)
    rw [show 12 - m = 0 by omega]
    decide
  · refine br_f ha (br_f ?_ ⟨5, sg_ss33 _ t fa fb (nI (12 - m)) 1 1 bC bD bU bP hU (fun bV' bQ' h1 h2 => ⟨rfl, rl_mk ⟨hT, fun z => absurd z ha, ⟨m, hE, rfl, fun _ _ => by decide, hm12⟩, ky, t, hky, hY0, hY1, ht, rfl, ht0, hpr, fun _ => ⟨t, ht, htn, rfl, sl_cp hS hC' h1 h2⟩⟩⟩) 4 0 bV bQ rfl (fun s hs => absurd hs (by omega)) (fun s hs => absurd hs (by omega))⟩)
    exact nI_nle (by omega) (by omega)
theorem sf_rs29 (post : Int32 → SX → Prop) (t : Nat) (ht : t < 16) (fa fb fc fd fe fg fh : Int32) (aK aE aV aC aY aD aT aW : Nat → Int32) (hT : ch_tl 16 aT) (hY : ch_tl 8 aY) (hp : ∀ aS' aW' : Nat → Int32, (∀ q, q < 64 → aS' q = aC q) → post (nI (sv_pop t)) (fa, 0, fc, fd, nI t, nI t, fg, fh, aK, aE, aV, aS', aC, (fun _ => 0), aD, (fun _ => 0), aW')) :
    ∀ (d j : Nat) (aS : Nat → Int32), j + d = 64 → (∀ q, q < j → aS q = aC q) → wX_restoreSlots_29 post fa fb fc fd fe (nI t) fg fh (d + 1) (nI j) aK aE aV aS aC aY aD aT aW := by
  intro d
  induction d with
  | zero =>
    intro j aS hj h
    exact br_t (sv_ge 64 (by omega) (by omega)) (sf_close _ fa fb fc fd (nI t) (nI t) fg fh aK aE aV aS aC aY aD aT aW hT hY (fun aW' => sf_ct _ t ht fa 0 fc fd (nI t) fg fh aK aE aV aS aC (fun _ => 0) aD (fun _ => 0) aW' (hp aS aW' (fun q hq => h q (by omega)))))
  | succ d ih =>
    intro j aS hj h
    refine br_f (sv_ng 64 (by omega) (by decide)) ⟨sv_i64 (by omega), sv_i64 (by omega), fun y ey => nm_r (nI_1 j) (ih (j + 1) _ (by omega) (fun q hq => ?_))⟩
    rw [ey, nI_clamp (n := j) (by omega)]
    by_cases hqj : q = j
    · subst hqj; exact pk_us
    · rw [pk_un hqj]; exact h q (by omega)
theorem sg_rs36 (post : Int32 → SY → Prop) (t : Nat) (ga gb gc gd ge : Int32) (bC bD bV bQ : Nat → Int32) (hV : ∀ s, s < 4 → bV s = nI (sv_bt t s)) (hp : ∀ bU' bP' : Nat → Int32, (∀ s, s < 4 → bU' s = bV s) → (∀ s, s < 4 → bP' s = bQ s) → post (nI (sv_pop t)) (ga, 0, gc, gd, ge, bC, bD, bU', bP', bV, bQ)) :
    ∀ (d j : Nat) (bU bP : Nat → Int32), j + d = 4 → (∀ s, s < j → bU s = bV s) → (∀ s, s < j → bP s = bQ s) → wY_restoreSlots_36 post ga gb gc gd ge (d + 1) (nI j) bC bD bU bP bV bQ := by
  intro d
  induction d with
  | zero => intro j bU bP hj h1 h2; exact br_t (sv_ge 4 (by omega) (by omega)) (sg_cs _ t ga 0 gc gd ge bC bD bU bP bV bQ (fun s hs => by rw [h1 s (by omega)]; exact hV s hs) (hp _ _ (fun s hs => h1 s (by omega)) (fun s hs => h2 s (by omega))))
  | succ d ih =>
    intro j bU bP hj h1 h2
    have hi : vp_in (nI j) 4 := sy_i4 (by omega)
    refine br_f (sv_ng 4 (by omega) (by decide)) ⟨hi, hi, fun y ey => ⟨hi, hi, fun z ez => nm_r (nI_1 j) (ih (j + 1) _ _ (by omega) (fun s hs => ?_) (fun s hs => ?_))⟩⟩
    · rw [ey, nI_clamp (n := j) (by omega), hV j (by omega), sy_nb]
      by_cases hsj : s = j
      · subst hsj; rw [pk_us, hV s (by omega)]
      · rw [pk_un hsj]; exact h1 s (by omega)
    · rw [ez, nI_clamp (n := j) (by omega)]
      by_cases hsj : s = j
      · subst hsj; exact pk_us
      · rw [pk_un hsj]; exact h2 s (by omega)
theorem j_vc_restoreSlots {k : Nat} {u : SX} {v : SY} (I : i_Rel k u v) : wpX_restoreSlots (fun r u' => wpY_restoreSlots (fun r' v' => r' = r ∧ i_Rel (k + 4) u' v') v) u := by
  obtain ⟨fa, fb, fc, fd, fe, ff, fg, fh, aK, aE, aV, aS, aC, aY, aD, aT, aW⟩ := u
  obtain ⟨gc, bC, bD, bU, bP, bV, bQ, rfl, rfl, R⟩ := I
  refine br_c (fun ha => br_t ha ⟨rfl, rl_mk R⟩) (fun ha => br_c (fun hc => br_f ha (br_t hc ⟨rfl, rl_mk R⟩)) (fun hc => br_c (fun hd => ?_) (fun hd => br_f ha (br_f hc (br_f hd ⟨rfl, rl_mk R⟩)))))
  have hY := rl_Y R
  obtain ⟨hT, h0, ⟨m, hE, rfl, hst, hm12⟩, ky, t, hky, hY0, hY1, ht, rfl, ht0, hpr, hcp⟩ := R
  obtain ⟨htn, hS, hC⟩ := hpr ha
  obtain ⟨t', ht', htn', rfl, hS'⟩ := hcp hc
  have hm := hE.1
  have hV : ∀ s, s < 4 → bV s = nI (sv_bt t' s) := fun s hs => (hS' s hs).1
  refine ⟨65, sf_rs29 _ t' ht' fa fb fc fd (nI t) fg fh aK aE aV aC aY (fun _ => 0) aT aW hT hY (fun aS' aW' hq => ?_) 64 0 aS rfl (fun q hq => absurd hq (by omega))⟩
  refine br_f ha (br_f hc (br_t hd (br_t ?_ ⟨5, sg_rs36 _ t' fa fb (nI (12 - m)) fc fd bC bD bV bQ hV (fun bU' bP' h1 h2 => ⟨rfl, rl_mk ⟨ch_tl_0 16, fun z => absurd z ha, ⟨m, hE, rfl, hst, hm12⟩, ky, t', hky, fun _ => rfl, fun z => absurd rfl z, ht', rfl, fun z => absurd z ha, fun _ => ⟨htn', sl_cp hS' hq h1 h2, hC⟩, fun _ => ⟨t', ht', htn', rfl, hS'⟩⟩⟩) 4 0 bU bP rfl (fun s hs => absurd hs (by omega)) (fun s hs => absurd hs (by omega))⟩)))
  have e : m = 12 := by
    by_cases h : m < 12
    · exact absurd hd (hst hc h)
    · omega
  rw [e]
  decide
/-! damage, crash, faults -/
theorem sv_rem (x : Int32) : (0 ≤ x - x / 288 * 288 → ∃ q : Nat, q < 288 ∧ x - x / 288 * 288 = nI q) ∧ (¬ 0 ≤ x - x / 288 * 288 → ∃ q : Nat, q < 288 ∧ x - x / 288 * 288 + 288 = nI q) := by
  have h := rem_toInt x 288
  rw [show (288 : Int32).toInt = 288 from by decide] at h
  have b := tmod_bounds (a := x.toInt) (M := 288) (by decide)
  rw [← h] at b
  generalize x - x / 288 * 288 = z at b
  refine ⟨fun h0 => ?_, fun h0 => ?_⟩
  · obtain ⟨j, hj, rfl⟩ := nI_of (x := z) (Int32.not_lt.mpr h0)
    rw [nI_toInt hj] at b
    exact ⟨j, by omega, rfl⟩
  · have hz : z.toInt < 0 := by
      have := Int32.not_le.mp h0
      rw [Int32.lt_iff_toInt_lt] at this
      exact this
    refine ⟨(z.toInt + 288).toNat, by omega, ?_⟩
    apply Int32.toInt_inj.mp
    rw [nI_toInt (by omega), Int32.toInt_add, show (288 : Int32).toInt = 288 from by decide, Int.bmod_eq_of_le (by omega) (by omega)]
    omega
theorem sf_dm50 (post : Int32 → SX → Prop) (i : Nat) (hi : i < 12) (q : Nat) (hq : q < 288) (fa fb fc fd fe ff fg fh : Int32) (aK aE aV aS aC aY aD aT aW : Nat → Int32) (hp : post 0 (fa, fb, fc, fd, fe, ff, fg, fh, upd aK (ch_row i (aE i) + q / 32) (aK (ch_row i (aE i) + q / 32) ^^^ ((1 : Int32) <<< (nI (q % 32) &&& 31))), aE, aV, aS, aC, aY, aD, aT, aW)) : wX_damage_50 post (nI i) (nI q) fa fb fc fd fe ff fg fh aK aE aV aS aC aY aD aT aW := by
  have hd : nI q / 32 = nI (q / 32) := pk_div (a := q) (d := 32) (by omega) (by decide) (by decide)
  have hr : nI q - nI q / 32 * 32 = nI (q % 32) := pk_rem (a := q) (d := 32) (by omega) (by decide) (by decide)
  have hw := ch_row_l hi (aE i)
  have h8 : q / 32 < 9 := by omega
  have hv : vp_in (nI (ch_row i (aE i)) + nI (q / 32)) 216 := sv_ia _ (q / 32) 216 (by omega) (by decide)
  have hc : (nI (ch_row i (aE i)) + nI (q / 32)).toNatClampNeg = ch_row i (aE i) + q / 32 := sv_ca _ _ (by omega)
  unfold wX_damage_50
  rw [hr, hd]
  refine ⟨sv_i12 hi, sf_rowOf _ i _ fa fb fc fd fe ff fg fh aK aE aV aS aC aY aD aT aW ?_⟩
  rw [nI_clamp (n := i) (by omega), hc]
  exact ⟨by decide, hv, by decide, hv, nm_e hp⟩
theorem j_vc_damage {k : Nat} {u : SX} {v : SY} (I : i_Rel k u v) (v1 : Int32) (v2 : Int32) : wpX_damage (fun r u' => wpY_damage (fun r' v' => r' = r ∧ i_Rel (k + 4) u' v') v v1 v2) u v1 v2 := by
  obtain ⟨fa, fb, fc, fd, fe, ff, fg, fh, aK, aE, aV, aS, aC, aY, aD, aT, aW⟩ := u
  obtain ⟨gc, bC, bD, bU, bP, bV, bQ, rfl, rfl, R⟩ := I
  unfold wpX_damage
  dsimp only
  unfold wpY_damage
  dsimp only
  by_cases hx : vp_in v1 12
  · refine pa_xSector_g _ _ _ hx (br_f (by decide) (br_c (fun ha => pa_ySector_g _ _ _ hx (br_t rfl (br_t ha ⟨rfl, rl_mk R⟩))) (fun ha => ?_)))
    obtain ⟨i, hi, rfl⟩ := vp_in_of hx (by decide)
    have hci : (nI i).toNatClampNeg = i := nI_clamp (by omega)
    have R0 := R
    obtain ⟨hT, h0, hm, ky, t, hky, hY0, hY1, ht, rfl, ht0, hpr, hcp⟩ := R
    obtain ⟨htn, hS, hC⟩ := hpr ha
    have hd := rl_dm hC i hi
    have hfin : ∀ q, q < 288 → aK (ch_row i (aE i) + 8) = ch_sm aK (ch_row i (aE i)) 8 → wX_damage_50 (fun r u' => wpY_badSector (fun r_1 => (((r_1 = 0 → (((fa = 0 → ((fun r' v' => r' = r ∧ i_Rel (k + 4) u' v') (-2) (fa, fb, gc, fc, fd, bC, bD, bU, bP, bV, bQ))) ∧ (¬ fa = 0 → (vp_in (nI i) 12 ∧ ((((bD (nI i).toNatClampNeg) = 0 → (vp_in (nI i) 12 ∧ ∀ a_damaged_18 : Nat → Int32, a_damaged_18 = upd bD (nI i).toNatClampNeg (vp_nar .boolean 1) → ((fun r' v' => r' = r ∧ i_Rel (k + 4) u' v') 0 (fa, fb, gc, fc, fd, bC, a_damaged_18, bU, bP, bV, bQ)))) ∧ (¬ (bD (nI i).toNatClampNeg) = 0 → ((fun r' v' => r' = r ∧ i_Rel (k + 4) u' v') (-5) (fa, fb, gc, fc, fd, bC, bD, bU, bP, bV, bQ)))))))))) ∧ (¬ r_1 = 0 → ((fun r' v' => r' = r ∧ i_Rel (k + 4) u' v') (-1) (fa, fb, gc, fc, fd, bC, bD, bU, bP, bV, bQ)))))) (fa, fb, gc, fc, fd, bC, bD, bU, bP, bV, bQ) (nI i)) (nI i) (nI q) fa fb fc fd (nI t) ff fg fh aK aE aV aS aC aY (fun _ => 0) aT aW := by
      intro q hq z
      refine sf_dm50 _ i hi q hq fa fb fc fd (nI t) ff fg fh aK aE aV aS aC aY (fun _ => 0) aT aW (pa_ySector_g _ _ _ hx (br_t rfl (br_f ha ⟨hx, ?_⟩)))
      rw [hci, sy_n1]
      exact br_t (hd.mp z) ⟨hx, nm_e ⟨rfl, rl_mk ⟨hT, h0, hm, ky, t, hky, hY0, hY1, ht, rfl, ht0, fun _ => ⟨htn, hS, rl_sc_d hC i hi (hd.mp z) (q / 32) (by omega) _ (ch_bit (q % 32) (Nat.mod_lt _ (by decide))) 1 (by decide)⟩, hcp⟩⟩⟩
    refine sf_isDamaged _ i hi fa fb fc fd (nI t) ff fg fh aK aE aV aS aC aY (fun _ => 0) aT aW (fun z => br_t rfl ⟨by decide, fun y ey => ?_⟩) (fun z => br_f (by decide) (pa_ySector_g _ _ _ hx (br_t rfl (br_f ha ⟨hx, ?_⟩))))
    · have hr := sv_rem v2
      rw [← ey] at hr
      refine br_c (fun hy => ?_) (fun hy => ?_)
      · obtain ⟨q, hq, e⟩ := hr.1 hy
        rw [e]
        exact hfin q hq z
      · obtain ⟨q, hq, e⟩ := hr.2 hy
        rw [e]
        exact hfin q hq z
    · rw [hci]
      exact br_f (fun y => z (hd.mpr y)) ⟨rfl, rl_mk R0⟩
  · exact pa_xSector_b _ _ _ hx (br_t rfl (pa_ySector_b _ _ _ hx (br_f (by decide) ⟨rfl, rl_mk R⟩)))
theorem j_vc_crash {k : Nat} {u : SX} {v : SY} (I : i_Rel k u v) (v1 : Int32) : wpX_crash (fun r u' => wpY_crash (fun r' v' => r' = r ∧ i_Rel (k + 4) u' v') v v1) u v1 := by
  obtain ⟨fa, fb, fc, fd, fe, ff, fg, fh, aK, aE, aV, aS, aC, aY, aD, aT, aW⟩ := u
  obtain ⟨gc, bC, bD, bU, bP, bV, bQ, rfl, rfl, R⟩ := I
  refine br_c (fun ha => br_t ha ⟨rfl, rl_mk R⟩) (fun ha => ?_)
  have hY := rl_Y R
  have hT := R.1
  have RL := rl_L R (ch_tl_0 16)
  obtain ⟨m, hE, hg, hst, hm12⟩ := R.2.2.1
  have hm := hE.1
  have h35 : wX_crash_35 (fun r u' => wpY_crash (fun r' v' => r' = r ∧ i_Rel (k + 4) u' v') (fa, fb, gc, fc, fd, bC, bD, bU, bP, bV, bQ) v1) (nI (12 - m)) fa fb fc fd fe ff fg fh aK aE aV aS aC aY (fun _ => 0) aT aW := sf_close _ fa fb fc fd fe ff fg fh aK aE aV aS aC aY (fun _ => 0) aT aW hT hY (fun aW' => br_f ha ⟨hg, rl_mk RL⟩)
  refine sf_cr _ m fa fb fc fd fe ff fg fh aK aE aV aS aC aY (fun _ => 0) aT aW hE (br_c (fun _ => h35) (fun hb => br_c (fun _ => h35) (fun hn => ?_)))
  have hm1 : m < 12 := by
    by_cases h : m < 12
    · exact h
    · exact absurd (show nI (12 - m) ≤ nI 0 from nI_le (by omega) (by decide)) hn
  have e : 12 - nI (12 - m) = nI m := by
    show nI 12 - nI (12 - m) = nI m
    rw [pk_sub (by omega)]
    exact congrArg nI (by omega)
  rw [e]
  obtain ⟨_, _, _, hmm, t, ht, ht0, hfe, hS, hC, hcp⟩ := rl_op R hb
  refine sf_writeRenewed _ m hm1 v1 fa fb fc fd fe ff fg fh aK aE aV aS aC aY aT aW hT (fun aW1 j hj hj9 => ?_)
  refine sf_close _ fa fb fc fd fe ff fg fh _ aE aV aS aC aY (fun _ => 0) (ch_S aY (nI m) fg (aV m)) aW1 (ch_tl_S _ _ _ _) hY (fun aW' => br_f ha ⟨hg, rl_mk (rl_L (fb := fb) (aY := aY) (aT := aT) ?_ (ch_tl_0 16))⟩)
  rw [hfe]
  refine rl_po hb ha hT hY hmm t ht ht0 hS (rl_sc_f hC (fun i hi c hc => ch_kw_off _ _ _ _ _ ?_ hj)) hcp
  by_cases him : i = m
  · subst him
    have hp := ch_par i (aE i) fg (hE.2.2 i (by omega) hi)
    omega
  · have hd := ch_row_d him (aE i) fg
    omega
theorem sv_fa69 (post : Int32 → Prop) (fa fb fc fd fe ff fg fh : Int32) (aK aE aV aS aC aY aD aT aW : Nat → Int32) (hY : fb = 0 → aY = fun _ => 0) (hp : post 0) :
    ∀ (d j : Nat), j + d = 8 → wX_faults_69 post fa fb fc fd fe ff fg fh aK aE aV aS aC aY aD aT aW (d + 1) 0 (nI j) := by
  intro d
  induction d with
  | zero => intro j hj; exact br_t (sv_ge 8 (by omega) (by omega)) hp
  | succ d ih =>
    intro j hj
    refine br_f (sv_ng 8 (by omega) (by decide)) (br_c (fun hb => ⟨sv_i8 (by omega), br_t ?_ (nm_r (nI_1 j) (ih (j + 1) (by omega)))⟩) (fun _ => nm_r (nI_1 j) (ih (j + 1) (by omega))))
    rw [hY hb]
theorem sv_fa24 (post : Int32 → Prop) (fa fb fc fd fe ff fg fh : Int32) (aK aE aV aS aC aY aD aT aW : Nat → Int32) (m : Nat) (h1 : ∀ i, i < m → aE i = fg) (h2 : ∀ i, m ≤ i → i < 12 → aE i ≠ fg) (hY : fb = 0 → aY = fun _ => 0) (hp : post 0) :
    ∀ (d j : Nat), j + 1 + d = 12 → wX_faults_24 post fa fb fc fd fe ff fg fh aK aE aV aS aC aY aD aT aW (d + 1) 0 (nI (j + 1)) := by
  intro d
  induction d with
  | zero => intro j hj; exact br_t (sv_ge 12 (by omega) (by omega)) ⟨9, sv_fa69 post fa fb fc fd fe ff fg fh aK aE aV aS aC aY aD aT aW hY hp 8 0 rfl⟩
  | succ d ih =>
    intro j hj
    have hn : ∀ y : Int32, y = nI (j + 1) + 1 → wX_faults_24 post fa fb fc fd fe ff fg fh aK aE aV aS aC aY aD aT aW (d + 1) 0 y := nm_r (nI_1 (j + 1)) (ih (j + 1) (by omega))
    have hc : (nI (j + 1)).toNatClampNeg = j + 1 := nI_clamp (by omega)
    have hc2 : (nI (j + 1) - 1).toNatClampNeg = j := by rw [nI_pred]; exact nI_clamp (by omega)
    have hv : vp_in (nI (j + 1) - 1) 12 := by rw [nI_pred]; exact sv_i12 (by omega)
    refine br_f (sv_ng 12 (by omega) (by decide)) ⟨sv_i12 (by omega), br_c (fun he => ⟨hv, br_t ?_ hn⟩) (fun _ => hn)⟩
    rw [hc] at he
    rw [hc2]
    by_cases hjm : j < m
    · exact h1 j hjm
    · exact absurd he (h2 (j + 1) (by omega) (by omega))
theorem j_vc_faults {k : Nat} {u : SX} {v : SY} (I : i_Rel k u v) : wpX_faults (fun r => wpY_faults (fun r' => r' = r ∧ i_Rel (k + 4) u v) v) u := by
  obtain ⟨fa, fb, fc, fd, fe, ff, fg, fh, aK, aE, aV, aS, aC, aY, aD, aT, aW⟩ := u
  obtain ⟨gc, bC, bD, bU, bP, bV, bQ, rfl, rfl, R⟩ := I
  have R0 := R
  obtain ⟨hT, h0, ⟨m, hE, _, _, _⟩, ky, t, hky, hY0, hY1, ht, rfl, ht0, hpr, hcp⟩ := R
  exact br_c (fun _ => ⟨rfl, rl_mk R0⟩) (fun ha => br_f (nI_ne0 (by have := (hpr ha).1; omega) (by omega)) ⟨12, sv_fa24 _ fa fb fc fd (nI t) ff fg fh aK aE aV aS aC aY (fun _ => 0) aT aW m hE.2.1 (rl_ep_n hE) hY0 ⟨rfl, rl_mk R0⟩ 11 0 rfl⟩)
end
section
/-! two walks of one method from one state meet: read off the predicates -/
theorem nd_b {c A B A' B' G : Prop} (hp : (c → A) ∧ (¬ c → B)) (hq : (c → A') ∧ (¬ c → B')) (k : A → A' → G) (l : B → B' → G) : G := by
  by_cases h : c
  · exact k (hp.1 h) (hq.1 h)
  · exact l (hp.2 h) (hq.2 h)
theorem nd_a {v A A' G : Prop} (hp : v ∧ A) (hq : v ∧ A') (k : A → A' → G) : G := k hp.2 hq.2
theorem nd_n {α : Sort _} {e : α} {A A' : α → Prop} {G : Prop} (hp : ∀ y, y = e → A y) (hq : ∀ y, y = e → A' y) (k : A e → A' e → G) : G := k (hp e rfl) (hq e rfl)
theorem nd_x {A A' : Nat → Prop} {G : Prop} (hp : ∃ n, A n) (hq : ∃ n, A' n) (k : ∀ n n', A n → A' n' → G) : G := by
  obtain ⟨n, hn⟩ := hp
  obtain ⟨m, hm⟩ := hq
  exact k n m hn hm
theorem nd_wX_scramble_144 (G : Prop) (P Q : SX → Prop) (h : ∀ a0, P a0 → Q a0 → G) {f_present : Int32} {f_open : Int32} {f_copied : Int32} {f_copyStale : Int32} {f_taken : Int32} {f_copyTaken : Int32} {f_volumeEpoch : Int32} {f_formats : Int32} :
    ∀ (n n' : Nat) (x1 : Int32) (a_kept : (Nat → Int32)) (a_epochs : (Nat → Int32)) (a_versions : (Nat → Int32)) (a_slotWords : (Nat → Int32)) (a_copyWords : (Nat → Int32)) (a_key : (Nat → Int32)) (a_seed : (Nat → Int32)) (a_stream : (Nat → Int32)) (a_work : (Nat → Int32)), wX_scramble_144 P f_present f_open f_copied f_copyStale f_taken f_copyTaken f_volumeEpoch f_formats n x1 a_kept a_epochs a_versions a_slotWords a_copyWords a_key a_seed a_stream a_work → wX_scramble_144 Q f_present f_open f_copied f_copyStale f_taken f_copyTaken f_volumeEpoch f_formats n' x1 a_kept a_epochs a_versions a_slotWords a_copyWords a_key a_seed a_stream a_work → G := by
  intro n
  induction n with
  | zero => intro n' x1 a_kept a_epochs a_versions a_slotWords a_copyWords a_key a_seed a_stream a_work hp; exact absurd hp (fun z => z)
  | succ n ih =>
    intro n' x1 a_kept a_epochs a_versions a_slotWords a_copyWords a_key a_seed a_stream a_work hp hq
    cases n' with
    | zero => exact absurd hq (fun z => z)
    | succ n' => exact nd_b hp hq (fun hp hq => h _ hp hq) (fun hp hq => nd_a hp hq (fun hp hq => nd_a hp hq (fun hp hq => nd_a hp hq (fun hp hq => nd_n hp hq (fun hp hq => nd_a hp hq (fun hp hq => nd_n hp hq (fun hp hq => nd_n hp hq (fun hp hq => ih _ _ _ _ _ _ _ _ _ _ _ hp hq))))))))
theorem nd_wpX_quarterRound (G : Prop) (P Q : SX → Prop) {u : SX} {p0 : Int32} {p1 : Int32} {p2 : Int32} {p3 : Int32} (hp : wpX_quarterRound P u p0 p1 p2 p3) (hq : wpX_quarterRound Q u p0 p1 p2 p3) (h : ∀ a0, P a0 → Q a0 → G) : G := by
  obtain ⟨_, _, _, _, _, _, _, _, _, _, _, _, _, _, _, _, _⟩ := u
  unfold wpX_quarterRound at hp hq
  exact nd_a hp hq (fun hp hq => nd_n hp hq (fun hp hq => nd_a hp hq (fun hp hq => nd_n hp hq (fun hp hq => nd_a hp hq (fun hp hq => nd_n hp hq (fun hp hq => nd_a hp hq (fun hp hq => nd_n hp hq (fun hp hq => nd_n hp hq (fun hp hq => nd_n hp hq (fun hp hq => nd_n hp hq (fun hp hq => nd_n hp hq (fun hp hq => nd_n hp hq (fun hp hq => nd_n hp hq (fun hp hq => nd_n hp hq (fun hp hq => nd_n hp hq (fun hp hq => nd_n hp hq (fun hp hq => nd_n hp hq (fun hp hq => nd_n hp hq (fun hp hq => nd_n hp hq (fun hp hq => nd_a hp hq (fun hp hq => nd_n hp hq (fun hp hq => nd_a hp hq (fun hp hq => nd_n hp hq (fun hp hq => nd_a hp hq (fun hp hq => nd_n hp hq (fun hp hq => nd_a hp hq (fun hp hq => nd_n hp hq (fun hp hq => h _ hp hq))))))))))))))))))))))))))))
theorem nd_wX_scramble_97 (G : Prop) (P Q : SX → Prop) (h : ∀ a0, P a0 → Q a0 → G) (J J' : Int32 → Int32 → Int32 → Int32 → Int32 → Int32 → Int32 → Int32 → Int32 → (Nat → Int32) → (Nat → Int32) → (Nat → Int32) → (Nat → Int32) → (Nat → Int32) → (Nat → Int32) → (Nat → Int32) → (Nat → Int32) → (Nat → Int32) → Prop) (hJ : ∀ z0 z1 z2 z3 z4 z5 z6 z7 z8 z9 z10 z11 z12 z13 z14 z15 z16 z17, J z0 z1 z2 z3 z4 z5 z6 z7 z8 z9 z10 z11 z12 z13 z14 z15 z16 z17 → J' z0 z1 z2 z3 z4 z5 z6 z7 z8 z9 z10 z11 z12 z13 z14 z15 z16 z17 → G) {x1 : Int32} :
    ∀ (n n' : Nat) (x2 : Int32) (f_present : Int32) (f_open : Int32) (f_copied : Int32) (f_copyStale : Int32) (f_taken : Int32) (f_copyTaken : Int32) (f_volumeEpoch : Int32) (f_formats : Int32) (a_kept : (Nat → Int32)) (a_epochs : (Nat → Int32)) (a_versions : (Nat → Int32)) (a_slotWords : (Nat → Int32)) (a_copyWords : (Nat → Int32)) (a_key : (Nat → Int32)) (a_seed : (Nat → Int32)) (a_stream : (Nat → Int32)) (a_work : (Nat → Int32)), wX_scramble_97 P J x1 n x2 f_present f_open f_copied f_copyStale f_taken f_copyTaken f_volumeEpoch f_formats a_kept a_epochs a_versions a_slotWords a_copyWords a_key a_seed a_stream a_work → wX_scramble_97 Q J' x1 n' x2 f_present f_open f_copied f_copyStale f_taken f_copyTaken f_volumeEpoch f_formats a_kept a_epochs a_versions a_slotWords a_copyWords a_key a_seed a_stream a_work → G := by
  intro n
  induction n with
  | zero => intro n' x2 f_present f_open f_copied f_copyStale f_taken f_copyTaken f_volumeEpoch f_formats a_kept a_epochs a_versions a_slotWords a_copyWords a_key a_seed a_stream a_work hp; exact absurd hp (fun z => z)
  | succ n ih =>
    intro n' x2 f_present f_open f_copied f_copyStale f_taken f_copyTaken f_volumeEpoch f_formats a_kept a_epochs a_versions a_slotWords a_copyWords a_key a_seed a_stream a_work hp hq
    cases n' with
    | zero => exact absurd hq (fun z => z)
    | succ n' => exact nd_b hp hq (fun hp hq => nd_n hp hq (fun hp hq => hJ _ _ _ _ _ _ _ _ _ _ _ _ _ _ _ _ _ _ hp hq)) (fun hp hq => nd_wpX_quarterRound G _ _ hp hq (fun  u hp hq => by
      obtain ⟨_, _, _, _, _, _, _, _, _, _, _, _, _, _, _, _, _⟩ := u
      exact nd_n hp hq (fun hp hq => ih _ _ _ _ _ _ _ _ _ _ _ _ _ _ _ _ _ _ _ hp hq)))
theorem nd_wX_scramble_68 (G : Prop) (P Q : SX → Prop) (h : ∀ a0, P a0 → Q a0 → G) (J J' : Int32 → Int32 → Int32 → Int32 → Int32 → Int32 → Int32 → Int32 → Int32 → (Nat → Int32) → (Nat → Int32) → (Nat → Int32) → (Nat → Int32) → (Nat → Int32) → (Nat → Int32) → (Nat → Int32) → (Nat → Int32) → (Nat → Int32) → Prop) (hJ : ∀ z0 z1 z2 z3 z4 z5 z6 z7 z8 z9 z10 z11 z12 z13 z14 z15 z16 z17, J z0 z1 z2 z3 z4 z5 z6 z7 z8 z9 z10 z11 z12 z13 z14 z15 z16 z17 → J' z0 z1 z2 z3 z4 z5 z6 z7 z8 z9 z10 z11 z12 z13 z14 z15 z16 z17 → G) {x1 : Int32} :
    ∀ (n n' : Nat) (x2 : Int32) (f_present : Int32) (f_open : Int32) (f_copied : Int32) (f_copyStale : Int32) (f_taken : Int32) (f_copyTaken : Int32) (f_volumeEpoch : Int32) (f_formats : Int32) (a_kept : (Nat → Int32)) (a_epochs : (Nat → Int32)) (a_versions : (Nat → Int32)) (a_slotWords : (Nat → Int32)) (a_copyWords : (Nat → Int32)) (a_key : (Nat → Int32)) (a_seed : (Nat → Int32)) (a_stream : (Nat → Int32)) (a_work : (Nat → Int32)), wX_scramble_68 P J x1 n x2 f_present f_open f_copied f_copyStale f_taken f_copyTaken f_volumeEpoch f_formats a_kept a_epochs a_versions a_slotWords a_copyWords a_key a_seed a_stream a_work → wX_scramble_68 Q J' x1 n' x2 f_present f_open f_copied f_copyStale f_taken f_copyTaken f_volumeEpoch f_formats a_kept a_epochs a_versions a_slotWords a_copyWords a_key a_seed a_stream a_work → G := by
  intro n
  induction n with
  | zero => intro n' x2 f_present f_open f_copied f_copyStale f_taken f_copyTaken f_volumeEpoch f_formats a_kept a_epochs a_versions a_slotWords a_copyWords a_key a_seed a_stream a_work hp; exact absurd hp (fun z => z)
  | succ n ih =>
    intro n' x2 f_present f_open f_copied f_copyStale f_taken f_copyTaken f_volumeEpoch f_formats a_kept a_epochs a_versions a_slotWords a_copyWords a_key a_seed a_stream a_work hp hq
    cases n' with
    | zero => exact absurd hq (fun z => z)
    | succ n' => exact nd_b hp hq (fun hp hq => nd_x hp hq (fun _ _ hp hq => nd_wX_scramble_97 G _ _ h _ _ hJ _ _ _ _ _ _ _ _ _ _ _ _ _ _ _ _ _ _ _ _ hp hq)) (fun hp hq => nd_wpX_quarterRound G _ _ hp hq (fun  u hp hq => by
      obtain ⟨_, _, _, _, _, _, _, _, _, _, _, _, _, _, _, _, _⟩ := u
      exact nd_n hp hq (fun hp hq => ih _ _ _ _ _ _ _ _ _ _ _ _ _ _ _ _ _ _ _ hp hq)))
theorem nd_wX_scramble_60 (G : Prop) (P Q : SX → Prop) (h : ∀ a0, P a0 → Q a0 → G)  :
    ∀ (n n' : Nat) (x1 : Int32) (f_present : Int32) (f_open : Int32) (f_copied : Int32) (f_copyStale : Int32) (f_taken : Int32) (f_copyTaken : Int32) (f_volumeEpoch : Int32) (f_formats : Int32) (a_kept : (Nat → Int32)) (a_epochs : (Nat → Int32)) (a_versions : (Nat → Int32)) (a_slotWords : (Nat → Int32)) (a_copyWords : (Nat → Int32)) (a_key : (Nat → Int32)) (a_seed : (Nat → Int32)) (a_stream : (Nat → Int32)) (a_work : (Nat → Int32)), wX_scramble_60 P n x1 f_present f_open f_copied f_copyStale f_taken f_copyTaken f_volumeEpoch f_formats a_kept a_epochs a_versions a_slotWords a_copyWords a_key a_seed a_stream a_work → wX_scramble_60 Q n' x1 f_present f_open f_copied f_copyStale f_taken f_copyTaken f_volumeEpoch f_formats a_kept a_epochs a_versions a_slotWords a_copyWords a_key a_seed a_stream a_work → G := by
  intro n
  induction n with
  | zero => intro n' x1 f_present f_open f_copied f_copyStale f_taken f_copyTaken f_volumeEpoch f_formats a_kept a_epochs a_versions a_slotWords a_copyWords a_key a_seed a_stream a_work hp; exact absurd hp (fun z => z)
  | succ n ih =>
    intro n' x1 f_present f_open f_copied f_copyStale f_taken f_copyTaken f_volumeEpoch f_formats a_kept a_epochs a_versions a_slotWords a_copyWords a_key a_seed a_stream a_work hp hq
    cases n' with
    | zero => exact absurd hq (fun z => z)
    | succ n' => exact nd_b hp hq (fun hp hq => nd_x hp hq (fun _ _ hp hq => nd_wX_scramble_144 G _ _ h _ _ _ _ _ _ _ _ _ _ _ _ hp hq)) (fun hp hq => nd_x hp hq (fun _ _ hp hq => nd_wX_scramble_68 G _ _ h _ _ (fun z0 z1 z2 z3 z4 z5 z6 z7 z8 z9 z10 z11 z12 z13 z14 z15 z16 z17 hp hq => ih _ z0 z1 z2 z3 z4 z5 z6 z7 z8 z9 z10 z11 z12 z13 z14 z15 z16 z17 hp hq) _ _ _ _ _ _ _ _ _ _ _ _ _ _ _ _ _ _ _ _ hp hq))
theorem nd_wX_scramble_34 (G : Prop) (P Q : SX → Prop) (h : ∀ a0, P a0 → Q a0 → G) {f_present : Int32} {f_open : Int32} {f_copied : Int32} {f_copyStale : Int32} {f_taken : Int32} {f_copyTaken : Int32} {f_volumeEpoch : Int32} {f_formats : Int32} :
    ∀ (n n' : Nat) (x1 : Int32) (a_kept : (Nat → Int32)) (a_epochs : (Nat → Int32)) (a_versions : (Nat → Int32)) (a_slotWords : (Nat → Int32)) (a_copyWords : (Nat → Int32)) (a_key : (Nat → Int32)) (a_seed : (Nat → Int32)) (a_stream : (Nat → Int32)) (a_work : (Nat → Int32)), wX_scramble_34 P f_present f_open f_copied f_copyStale f_taken f_copyTaken f_volumeEpoch f_formats n x1 a_kept a_epochs a_versions a_slotWords a_copyWords a_key a_seed a_stream a_work → wX_scramble_34 Q f_present f_open f_copied f_copyStale f_taken f_copyTaken f_volumeEpoch f_formats n' x1 a_kept a_epochs a_versions a_slotWords a_copyWords a_key a_seed a_stream a_work → G := by
  intro n
  induction n with
  | zero => intro n' x1 a_kept a_epochs a_versions a_slotWords a_copyWords a_key a_seed a_stream a_work hp; exact absurd hp (fun z => z)
  | succ n ih =>
    intro n' x1 a_kept a_epochs a_versions a_slotWords a_copyWords a_key a_seed a_stream a_work hp hq
    cases n' with
    | zero => exact absurd hq (fun z => z)
    | succ n' => exact nd_b hp hq (fun hp hq => nd_x hp hq (fun _ _ hp hq => nd_wX_scramble_60 G _ _ h _ _ _ _ _ _ _ _ _ _ _ _ _ _ _ _ _ _ _ _ hp hq)) (fun hp hq => nd_a hp hq (fun hp hq => nd_a hp hq (fun hp hq => nd_n hp hq (fun hp hq => nd_n hp hq (fun hp hq => ih _ _ _ _ _ _ _ _ _ _ _ hp hq)))))
theorem nd_wpX_scramble (G : Prop) (P Q : SX → Prop) {u : SX} (hp : wpX_scramble P u) (hq : wpX_scramble Q u) (h : ∀ a0, P a0 → Q a0 → G) : G := by
  obtain ⟨_, _, _, _, _, _, _, _, _, _, _, _, _, _, _, _, _⟩ := u
  unfold wpX_scramble at hp hq
  exact nd_n hp hq (fun hp hq => nd_n hp hq (fun hp hq => nd_n hp hq (fun hp hq => nd_n hp hq (fun hp hq => nd_x hp hq (fun _ _ hp hq => nd_wX_scramble_34 G _ _ h _ _ _ _ _ _ _ _ _ _ _ _ hp hq)))))
theorem nd_wpX_streamFromPassphrase (G : Prop) (P Q : SX → Prop) {u : SX} {p0 : Int32} {p1 : Int32} {p2 : Int32} (hp : wpX_streamFromPassphrase P u p0 p1 p2) (hq : wpX_streamFromPassphrase Q u p0 p1 p2) (h : ∀ a0, P a0 → Q a0 → G) : G := by
  obtain ⟨_, _, _, _, _, _, _, _, _, _, _, _, _, _, _, _, _⟩ := u
  unfold wpX_streamFromPassphrase at hp hq
  exact nd_n hp hq (fun hp hq => nd_n hp hq (fun hp hq => nd_n hp hq (fun hp hq => nd_wpX_scramble G _ _ hp hq (fun  u hp hq => by
  obtain ⟨_, _, _, _, _, _, _, _, _, _, _, _, _, _, _, _, _⟩ := u
  exact h _ hp hq))))
theorem nd_wX_makeKey_12 (G : Prop) (P Q : SX → Prop) (h : ∀ a0, P a0 → Q a0 → G) {f_present : Int32} {f_open : Int32} {f_copied : Int32} {f_copyStale : Int32} {f_taken : Int32} {f_copyTaken : Int32} {f_volumeEpoch : Int32} {f_formats : Int32} :
    ∀ (n n' : Nat) (x2 : Int32) (a_kept : (Nat → Int32)) (a_epochs : (Nat → Int32)) (a_versions : (Nat → Int32)) (a_slotWords : (Nat → Int32)) (a_copyWords : (Nat → Int32)) (a_key : (Nat → Int32)) (a_seed : (Nat → Int32)) (a_stream : (Nat → Int32)) (a_work : (Nat → Int32)), wX_makeKey_12 P f_present f_open f_copied f_copyStale f_taken f_copyTaken f_volumeEpoch f_formats n x2 a_kept a_epochs a_versions a_slotWords a_copyWords a_key a_seed a_stream a_work → wX_makeKey_12 Q f_present f_open f_copied f_copyStale f_taken f_copyTaken f_volumeEpoch f_formats n' x2 a_kept a_epochs a_versions a_slotWords a_copyWords a_key a_seed a_stream a_work → G := by
  intro n
  induction n with
  | zero => intro n' x2 a_kept a_epochs a_versions a_slotWords a_copyWords a_key a_seed a_stream a_work hp; exact absurd hp (fun z => z)
  | succ n ih =>
    intro n' x2 a_kept a_epochs a_versions a_slotWords a_copyWords a_key a_seed a_stream a_work hp hq
    cases n' with
    | zero => exact absurd hq (fun z => z)
    | succ n' => exact nd_b hp hq (fun hp hq => h _ hp hq) (fun hp hq => nd_a hp hq (fun hp hq => nd_a hp hq (fun hp hq => nd_n hp hq (fun hp hq => nd_n hp hq (fun hp hq => ih _ _ _ _ _ _ _ _ _ _ _ hp hq)))))
theorem nd_wpX_makeKey (G : Prop) (P Q : SX → Prop) {u : SX} {p0 : Int32} (hp : wpX_makeKey P u p0) (hq : wpX_makeKey Q u p0) (h : ∀ a0, P a0 → Q a0 → G) : G := by
  obtain ⟨_, _, _, _, _, _, _, _, _, _, _, _, _, _, _, _, _⟩ := u
  unfold wpX_makeKey at hp hq
  exact nd_wpX_streamFromPassphrase G _ _ hp hq (fun  u hp hq => by
  obtain ⟨_, _, _, _, _, _, _, _, _, _, _, _, _, _, _, _, _⟩ := u
  exact nd_x hp hq (fun _ _ hp hq => nd_wX_makeKey_12 G _ _ h _ _ _ _ _ _ _ _ _ _ _ _ hp hq))
theorem nd_wX_seedFromKey_2 (G : Prop) (P Q : SX → Prop) (h : ∀ a0, P a0 → Q a0 → G) {x1 : Int32} {x2 : Int32} {f_present : Int32} {f_open : Int32} {f_copied : Int32} {f_copyStale : Int32} {f_taken : Int32} {f_copyTaken : Int32} {f_volumeEpoch : Int32} {f_formats : Int32} :
    ∀ (n n' : Nat) (x3 : Int32) (a_kept : (Nat → Int32)) (a_epochs : (Nat → Int32)) (a_versions : (Nat → Int32)) (a_slotWords : (Nat → Int32)) (a_copyWords : (Nat → Int32)) (a_key : (Nat → Int32)) (a_seed : (Nat → Int32)) (a_stream : (Nat → Int32)) (a_work : (Nat → Int32)), wX_seedFromKey_2 P x1 x2 f_present f_open f_copied f_copyStale f_taken f_copyTaken f_volumeEpoch f_formats n x3 a_kept a_epochs a_versions a_slotWords a_copyWords a_key a_seed a_stream a_work → wX_seedFromKey_2 Q x1 x2 f_present f_open f_copied f_copyStale f_taken f_copyTaken f_volumeEpoch f_formats n' x3 a_kept a_epochs a_versions a_slotWords a_copyWords a_key a_seed a_stream a_work → G := by
  intro n
  induction n with
  | zero => intro n' x3 a_kept a_epochs a_versions a_slotWords a_copyWords a_key a_seed a_stream a_work hp; exact absurd hp (fun z => z)
  | succ n ih =>
    intro n' x3 a_kept a_epochs a_versions a_slotWords a_copyWords a_key a_seed a_stream a_work hp hq
    cases n' with
    | zero => exact absurd hq (fun z => z)
    | succ n' => exact nd_b hp hq (fun hp hq => nd_n hp hq (fun hp hq => nd_n hp hq (fun hp hq => nd_a hp hq (fun hp hq => nd_n hp hq (fun hp hq => h _ hp hq))))) (fun hp hq => nd_a hp hq (fun hp hq => nd_a hp hq (fun hp hq => nd_n hp hq (fun hp hq => nd_n hp hq (fun hp hq => ih _ _ _ _ _ _ _ _ _ _ _ hp hq)))))
theorem nd_wpX_seedFromKey (G : Prop) (P Q : SX → Prop) {u : SX} {p0 : Int32} {p1 : Int32} (hp : wpX_seedFromKey P u p0 p1) (hq : wpX_seedFromKey Q u p0 p1) (h : ∀ a0, P a0 → Q a0 → G) : G := by
  obtain ⟨_, _, _, _, _, _, _, _, _, _, _, _, _, _, _, _, _⟩ := u
  unfold wpX_seedFromKey at hp hq
  exact nd_x hp hq (fun _ _ hp hq => nd_wX_seedFromKey_2 G _ _ h _ _ _ _ _ _ _ _ _ _ _ _ hp hq)
theorem nd_wX_sumOf__work_6 (G : Prop) (P Q : Int32 → Prop) (h : ∀ a0, P a0 → Q a0 → G) {x2 : Int32} {f_present : Int32} {f_open : Int32} {f_copied : Int32} {f_copyStale : Int32} {f_taken : Int32} {f_copyTaken : Int32} {f_volumeEpoch : Int32} {f_formats : Int32} {a_kept : Nat → Int32} {a_epochs : Nat → Int32} {a_versions : Nat → Int32} {a_slotWords : Nat → Int32} {a_copyWords : Nat → Int32} {a_key : Nat → Int32} {a_seed : Nat → Int32} {a_stream : Nat → Int32} {a_work : Nat → Int32} :
    ∀ (n n' : Nat) (x3 : Int32) (x4 : Int32), wX_sumOf__work_6 P x2 f_present f_open f_copied f_copyStale f_taken f_copyTaken f_volumeEpoch f_formats a_kept a_epochs a_versions a_slotWords a_copyWords a_key a_seed a_stream a_work n x3 x4 → wX_sumOf__work_6 Q x2 f_present f_open f_copied f_copyStale f_taken f_copyTaken f_volumeEpoch f_formats a_kept a_epochs a_versions a_slotWords a_copyWords a_key a_seed a_stream a_work n' x3 x4 → G := by
  intro n
  induction n with
  | zero => intro n' x3 x4 hp; exact absurd hp (fun z => z)
  | succ n ih =>
    intro n' x3 x4 hp hq
    cases n' with
    | zero => exact absurd hq (fun z => z)
    | succ n' => exact nd_b hp hq (fun hp hq => h _ hp hq) (fun hp hq => nd_a hp hq (fun hp hq => nd_n hp hq (fun hp hq => nd_n hp hq (fun hp hq => ih _ _ _ hp hq))))
theorem nd_wpX_sumOf__work (G : Prop) (P Q : Int32 → Prop) {u : SX} {p1 : Int32} (hp : wpX_sumOf__work P u p1) (hq : wpX_sumOf__work Q u p1) (h : ∀ a0, P a0 → Q a0 → G) : G := by
  obtain ⟨_, _, _, _, _, _, _, _, _, _, _, _, _, _, _, _, _⟩ := u
  unfold wpX_sumOf__work at hp hq
  exact nd_x hp hq (fun _ _ hp hq => nd_wX_sumOf__work_6 G _ _ h _ _ _ _ hp hq)
theorem nd_wX_sealWork_12 (G : Prop) (P Q : SX → Prop) (h : ∀ a0, P a0 → Q a0 → G) {f_present : Int32} {f_open : Int32} {f_copied : Int32} {f_copyStale : Int32} {f_taken : Int32} {f_copyTaken : Int32} {f_volumeEpoch : Int32} {f_formats : Int32} :
    ∀ (n n' : Nat) (x3 : Int32) (a_kept : (Nat → Int32)) (a_epochs : (Nat → Int32)) (a_versions : (Nat → Int32)) (a_slotWords : (Nat → Int32)) (a_copyWords : (Nat → Int32)) (a_key : (Nat → Int32)) (a_seed : (Nat → Int32)) (a_stream : (Nat → Int32)) (a_work : (Nat → Int32)), wX_sealWork_12 P f_present f_open f_copied f_copyStale f_taken f_copyTaken f_volumeEpoch f_formats n x3 a_kept a_epochs a_versions a_slotWords a_copyWords a_key a_seed a_stream a_work → wX_sealWork_12 Q f_present f_open f_copied f_copyStale f_taken f_copyTaken f_volumeEpoch f_formats n' x3 a_kept a_epochs a_versions a_slotWords a_copyWords a_key a_seed a_stream a_work → G := by
  intro n
  induction n with
  | zero => intro n' x3 a_kept a_epochs a_versions a_slotWords a_copyWords a_key a_seed a_stream a_work hp; exact absurd hp (fun z => z)
  | succ n ih =>
    intro n' x3 a_kept a_epochs a_versions a_slotWords a_copyWords a_key a_seed a_stream a_work hp hq
    cases n' with
    | zero => exact absurd hq (fun z => z)
    | succ n' => exact nd_b hp hq (fun hp hq => nd_wpX_sumOf__work G _ _ hp hq (fun _ hp hq => nd_n hp hq (fun hp hq => h _ hp hq))) (fun hp hq => nd_a hp hq (fun hp hq => nd_a hp hq (fun hp hq => nd_a hp hq (fun hp hq => nd_n hp hq (fun hp hq => nd_n hp hq (fun hp hq => ih _ _ _ _ _ _ _ _ _ _ _ hp hq))))))
theorem nd_wpX_sealWork (G : Prop) (P Q : SX → Prop) {u : SX} {p0 : Int32} {p1 : Int32} (hp : wpX_sealWork P u p0 p1) (hq : wpX_sealWork Q u p0 p1) (h : ∀ a0, P a0 → Q a0 → G) : G := by
  obtain ⟨_, _, _, _, _, _, _, _, _, _, _, _, _, _, _, _, _⟩ := u
  unfold wpX_sealWork at hp hq
  exact nd_wpX_seedFromKey G _ _ hp hq (fun  u hp hq => by
  obtain ⟨_, _, _, _, _, _, _, _, _, _, _, _, _, _, _, _, _⟩ := u
  exact nd_wpX_scramble G _ _ hp hq (fun  u hp hq => by
  obtain ⟨_, _, _, _, _, _, _, _, _, _, _, _, _, _, _, _, _⟩ := u
  exact nd_x hp hq (fun _ _ hp hq => nd_wX_sealWork_12 G _ _ h _ _ _ _ _ _ _ _ _ _ _ _ hp hq)))
theorem nd_wpX_rowOf (G : Prop) (P Q : Int32 → Prop) {u : SX} {p0 : Int32} {p1 : Int32} (hp : wpX_rowOf P u p0 p1) (hq : wpX_rowOf Q u p0 p1) (h : ∀ a0, P a0 → Q a0 → G) : G := by
  obtain ⟨_, _, _, _, _, _, _, _, _, _, _, _, _, _, _, _, _⟩ := u
  unfold wpX_rowOf at hp hq
  exact h _ hp hq
theorem nd_wX_keepWork_2 (G : Prop) (P Q : SX → Prop) (h : ∀ a0, P a0 → Q a0 → G) {x1 : Int32} {x2 : Int32} {f_present : Int32} {f_open : Int32} {f_copied : Int32} {f_copyStale : Int32} {f_taken : Int32} {f_copyTaken : Int32} {f_volumeEpoch : Int32} {f_formats : Int32} :
    ∀ (n n' : Nat) (x3 : Int32) (a_kept : (Nat → Int32)) (a_epochs : (Nat → Int32)) (a_versions : (Nat → Int32)) (a_slotWords : (Nat → Int32)) (a_copyWords : (Nat → Int32)) (a_key : (Nat → Int32)) (a_seed : (Nat → Int32)) (a_stream : (Nat → Int32)) (a_work : (Nat → Int32)), wX_keepWork_2 P x1 x2 f_present f_open f_copied f_copyStale f_taken f_copyTaken f_volumeEpoch f_formats n x3 a_kept a_epochs a_versions a_slotWords a_copyWords a_key a_seed a_stream a_work → wX_keepWork_2 Q x1 x2 f_present f_open f_copied f_copyStale f_taken f_copyTaken f_volumeEpoch f_formats n' x3 a_kept a_epochs a_versions a_slotWords a_copyWords a_key a_seed a_stream a_work → G := by
  intro n
  induction n with
  | zero => intro n' x3 a_kept a_epochs a_versions a_slotWords a_copyWords a_key a_seed a_stream a_work hp; exact absurd hp (fun z => z)
  | succ n ih =>
    intro n' x3 a_kept a_epochs a_versions a_slotWords a_copyWords a_key a_seed a_stream a_work hp hq
    cases n' with
    | zero => exact absurd hq (fun z => z)
    | succ n' => exact nd_b hp hq (fun hp hq => h _ hp hq) (fun hp hq => nd_b hp hq (fun hp hq => h _ hp hq) (fun hp hq => nd_a hp hq (fun hp hq => nd_a hp hq (fun hp hq => nd_n hp hq (fun hp hq => nd_n hp hq (fun hp hq => ih _ _ _ _ _ _ _ _ _ _ _ hp hq))))))
theorem nd_wpX_keepWork (G : Prop) (P Q : SX → Prop) {u : SX} {p0 : Int32} {p1 : Int32} (hp : wpX_keepWork P u p0 p1) (hq : wpX_keepWork Q u p0 p1) (h : ∀ a0, P a0 → Q a0 → G) : G := by
  obtain ⟨_, _, _, _, _, _, _, _, _, _, _, _, _, _, _, _, _⟩ := u
  unfold wpX_keepWork at hp hq
  exact nd_x hp hq (fun _ _ hp hq => nd_wX_keepWork_2 G _ _ h _ _ _ _ _ _ _ _ _ _ _ _ hp hq)
theorem nd_wX_eraseSectors_44 (G : Prop) (P Q : SX → Prop) (h : ∀ a0, P a0 → Q a0 → G) (J J' : Int32 → Int32 → Int32 → Int32 → Int32 → Int32 → Int32 → Int32 → Int32 → (Nat → Int32) → (Nat → Int32) → (Nat → Int32) → (Nat → Int32) → (Nat → Int32) → (Nat → Int32) → (Nat → Int32) → (Nat → Int32) → (Nat → Int32) → Prop) (hJ : ∀ z0 z1 z2 z3 z4 z5 z6 z7 z8 z9 z10 z11 z12 z13 z14 z15 z16 z17, J z0 z1 z2 z3 z4 z5 z6 z7 z8 z9 z10 z11 z12 z13 z14 z15 z16 z17 → J' z0 z1 z2 z3 z4 z5 z6 z7 z8 z9 z10 z11 z12 z13 z14 z15 z16 z17 → G) {x1 : Int32} {f_present : Int32} {f_open : Int32} {f_copied : Int32} {f_copyStale : Int32} {f_taken : Int32} {f_copyTaken : Int32} {f_volumeEpoch : Int32} {f_formats : Int32} :
    ∀ (n n' : Nat) (x2 : Int32) (a_kept : (Nat → Int32)) (a_epochs : (Nat → Int32)) (a_versions : (Nat → Int32)) (a_slotWords : (Nat → Int32)) (a_copyWords : (Nat → Int32)) (a_key : (Nat → Int32)) (a_seed : (Nat → Int32)) (a_stream : (Nat → Int32)) (a_work : (Nat → Int32)), wX_eraseSectors_44 P J x1 f_present f_open f_copied f_copyStale f_taken f_copyTaken f_volumeEpoch f_formats n x2 a_kept a_epochs a_versions a_slotWords a_copyWords a_key a_seed a_stream a_work → wX_eraseSectors_44 Q J' x1 f_present f_open f_copied f_copyStale f_taken f_copyTaken f_volumeEpoch f_formats n' x2 a_kept a_epochs a_versions a_slotWords a_copyWords a_key a_seed a_stream a_work → G := by
  intro n
  induction n with
  | zero => intro n' x2 a_kept a_epochs a_versions a_slotWords a_copyWords a_key a_seed a_stream a_work hp; exact absurd hp (fun z => z)
  | succ n ih =>
    intro n' x2 a_kept a_epochs a_versions a_slotWords a_copyWords a_key a_seed a_stream a_work hp hq
    cases n' with
    | zero => exact absurd hq (fun z => z)
    | succ n' => exact nd_b hp hq (fun hp hq => nd_wpX_sealWork G _ _ hp hq (fun  u hp hq => by
      obtain ⟨_, _, _, _, _, _, _, _, _, _, _, _, _, _, _, _, _⟩ := u
      exact nd_wpX_rowOf G _ _ hp hq (fun _ hp hq => nd_wpX_keepWork G _ _ hp hq (fun  u hp hq => by
      obtain ⟨_, _, _, _, _, _, _, _, _, _, _, _, _, _, _, _, _⟩ := u
      exact nd_n hp hq (fun hp hq => hJ _ _ _ _ _ _ _ _ _ _ _ _ _ _ _ _ _ _ hp hq))))) (fun hp hq => nd_a hp hq (fun hp hq => nd_n hp hq (fun hp hq => nd_n hp hq (fun hp hq => ih _ _ _ _ _ _ _ _ _ _ _ hp hq))))
theorem nd_wX_eraseSectors_29 (G : Prop) (P Q : SX → Prop) (h : ∀ a0, P a0 → Q a0 → G)  :
    ∀ (n n' : Nat) (x1 : Int32) (f_present : Int32) (f_open : Int32) (f_copied : Int32) (f_copyStale : Int32) (f_taken : Int32) (f_copyTaken : Int32) (f_volumeEpoch : Int32) (f_formats : Int32) (a_kept : (Nat → Int32)) (a_epochs : (Nat → Int32)) (a_versions : (Nat → Int32)) (a_slotWords : (Nat → Int32)) (a_copyWords : (Nat → Int32)) (a_key : (Nat → Int32)) (a_seed : (Nat → Int32)) (a_stream : (Nat → Int32)) (a_work : (Nat → Int32)), wX_eraseSectors_29 P n x1 f_present f_open f_copied f_copyStale f_taken f_copyTaken f_volumeEpoch f_formats a_kept a_epochs a_versions a_slotWords a_copyWords a_key a_seed a_stream a_work → wX_eraseSectors_29 Q n' x1 f_present f_open f_copied f_copyStale f_taken f_copyTaken f_volumeEpoch f_formats a_kept a_epochs a_versions a_slotWords a_copyWords a_key a_seed a_stream a_work → G := by
  intro n
  induction n with
  | zero => intro n' x1 f_present f_open f_copied f_copyStale f_taken f_copyTaken f_volumeEpoch f_formats a_kept a_epochs a_versions a_slotWords a_copyWords a_key a_seed a_stream a_work hp; exact absurd hp (fun z => z)
  | succ n ih =>
    intro n' x1 f_present f_open f_copied f_copyStale f_taken f_copyTaken f_volumeEpoch f_formats a_kept a_epochs a_versions a_slotWords a_copyWords a_key a_seed a_stream a_work hp hq
    cases n' with
    | zero => exact absurd hq (fun z => z)
    | succ n' => exact nd_b hp hq (fun hp hq => h _ hp hq) (fun hp hq => nd_a hp hq (fun hp hq => nd_n hp hq (fun hp hq => nd_x hp hq (fun _ _ hp hq => nd_wX_eraseSectors_44 G _ _ h _ _ (fun z0 z1 z2 z3 z4 z5 z6 z7 z8 z9 z10 z11 z12 z13 z14 z15 z16 z17 hp hq => ih _ z0 z1 z2 z3 z4 z5 z6 z7 z8 z9 z10 z11 z12 z13 z14 z15 z16 z17 hp hq) _ _ _ _ _ _ _ _ _ _ _ _ hp hq))))
theorem nd_wX_eraseSectors_7 (G : Prop) (P Q : SX → Prop) (h : ∀ a0, P a0 → Q a0 → G) {f_present : Int32} {f_open : Int32} {f_copied : Int32} {f_copyStale : Int32} {f_taken : Int32} {f_copyTaken : Int32} {f_volumeEpoch : Int32} {f_formats : Int32} :
    ∀ (n n' : Nat) (x1 : Int32) (a_kept : (Nat → Int32)) (a_epochs : (Nat → Int32)) (a_versions : (Nat → Int32)) (a_slotWords : (Nat → Int32)) (a_copyWords : (Nat → Int32)) (a_key : (Nat → Int32)) (a_seed : (Nat → Int32)) (a_stream : (Nat → Int32)) (a_work : (Nat → Int32)), wX_eraseSectors_7 P f_present f_open f_copied f_copyStale f_taken f_copyTaken f_volumeEpoch f_formats n x1 a_kept a_epochs a_versions a_slotWords a_copyWords a_key a_seed a_stream a_work → wX_eraseSectors_7 Q f_present f_open f_copied f_copyStale f_taken f_copyTaken f_volumeEpoch f_formats n' x1 a_kept a_epochs a_versions a_slotWords a_copyWords a_key a_seed a_stream a_work → G := by
  intro n
  induction n with
  | zero => intro n' x1 a_kept a_epochs a_versions a_slotWords a_copyWords a_key a_seed a_stream a_work hp; exact absurd hp (fun z => z)
  | succ n ih =>
    intro n' x1 a_kept a_epochs a_versions a_slotWords a_copyWords a_key a_seed a_stream a_work hp hq
    cases n' with
    | zero => exact absurd hq (fun z => z)
    | succ n' => exact nd_b hp hq (fun hp hq => nd_x hp hq (fun _ _ hp hq => nd_wX_eraseSectors_29 G _ _ h _ _ _ _ _ _ _ _ _ _ _ _ _ _ _ _ _ _ _ _ hp hq)) (fun hp hq => nd_a hp hq (fun hp hq => nd_n hp hq (fun hp hq => nd_n hp hq (fun hp hq => ih _ _ _ _ _ _ _ _ _ _ _ hp hq))))
theorem nd_wpX_eraseSectors (G : Prop) (P Q : SX → Prop) {u : SX} (hp : wpX_eraseSectors P u) (hq : wpX_eraseSectors Q u) (h : ∀ a0, P a0 → Q a0 → G) : G := by
  obtain ⟨_, _, _, _, _, _, _, _, _, _, _, _, _, _, _, _, _⟩ := u
  unfold wpX_eraseSectors at hp hq
  exact nd_x hp hq (fun _ _ hp hq => nd_wX_eraseSectors_7 G _ _ h _ _ _ _ _ _ _ _ _ _ _ _ hp hq)
theorem nd_wX_eraseSlots_20 (G : Prop) (P Q : SX → Prop) (h : ∀ a0, P a0 → Q a0 → G) {f_present : Int32} {f_open : Int32} {f_copied : Int32} {f_copyStale : Int32} {f_taken : Int32} {f_copyTaken : Int32} {f_volumeEpoch : Int32} {f_formats : Int32} :
    ∀ (n n' : Nat) (x1 : Int32) (a_kept : (Nat → Int32)) (a_epochs : (Nat → Int32)) (a_versions : (Nat → Int32)) (a_slotWords : (Nat → Int32)) (a_copyWords : (Nat → Int32)) (a_key : (Nat → Int32)) (a_seed : (Nat → Int32)) (a_stream : (Nat → Int32)) (a_work : (Nat → Int32)), wX_eraseSlots_20 P f_present f_open f_copied f_copyStale f_taken f_copyTaken f_volumeEpoch f_formats n x1 a_kept a_epochs a_versions a_slotWords a_copyWords a_key a_seed a_stream a_work → wX_eraseSlots_20 Q f_present f_open f_copied f_copyStale f_taken f_copyTaken f_volumeEpoch f_formats n' x1 a_kept a_epochs a_versions a_slotWords a_copyWords a_key a_seed a_stream a_work → G := by
  intro n
  induction n with
  | zero => intro n' x1 a_kept a_epochs a_versions a_slotWords a_copyWords a_key a_seed a_stream a_work hp; exact absurd hp (fun z => z)
  | succ n ih =>
    intro n' x1 a_kept a_epochs a_versions a_slotWords a_copyWords a_key a_seed a_stream a_work hp hq
    cases n' with
    | zero => exact absurd hq (fun z => z)
    | succ n' => exact nd_b hp hq (fun hp hq => h _ hp hq) (fun hp hq => nd_a hp hq (fun hp hq => nd_n hp hq (fun hp hq => nd_n hp hq (fun hp hq => ih _ _ _ _ _ _ _ _ _ _ _ hp hq))))
theorem nd_wX_emptySlot_2 (G : Prop) (P Q : SX → Prop) (h : ∀ a0, P a0 → Q a0 → G) {x1 : Int32} {f_present : Int32} {f_open : Int32} {f_copied : Int32} {f_copyStale : Int32} {f_taken : Int32} {f_copyTaken : Int32} {f_volumeEpoch : Int32} {f_formats : Int32} :
    ∀ (n n' : Nat) (x2 : Int32) (a_kept : (Nat → Int32)) (a_epochs : (Nat → Int32)) (a_versions : (Nat → Int32)) (a_slotWords : (Nat → Int32)) (a_copyWords : (Nat → Int32)) (a_key : (Nat → Int32)) (a_seed : (Nat → Int32)) (a_stream : (Nat → Int32)) (a_work : (Nat → Int32)), wX_emptySlot_2 P x1 f_present f_open f_copied f_copyStale f_taken f_copyTaken f_volumeEpoch f_formats n x2 a_kept a_epochs a_versions a_slotWords a_copyWords a_key a_seed a_stream a_work → wX_emptySlot_2 Q x1 f_present f_open f_copied f_copyStale f_taken f_copyTaken f_volumeEpoch f_formats n' x2 a_kept a_epochs a_versions a_slotWords a_copyWords a_key a_seed a_stream a_work → G := by
  intro n
  induction n with
  | zero => intro n' x2 a_kept a_epochs a_versions a_slotWords a_copyWords a_key a_seed a_stream a_work hp; exact absurd hp (fun z => z)
  | succ n ih =>
    intro n' x2 a_kept a_epochs a_versions a_slotWords a_copyWords a_key a_seed a_stream a_work hp hq
    cases n' with
    | zero => exact absurd hq (fun z => z)
    | succ n' => exact nd_b hp hq (fun hp hq => nd_n hp hq (fun hp hq => h _ hp hq)) (fun hp hq => nd_a hp hq (fun hp hq => nd_n hp hq (fun hp hq => nd_n hp hq (fun hp hq => ih _ _ _ _ _ _ _ _ _ _ _ hp hq))))
theorem nd_wpX_emptySlot (G : Prop) (P Q : SX → Prop) {u : SX} {p0 : Int32} (hp : wpX_emptySlot P u p0) (hq : wpX_emptySlot Q u p0) (h : ∀ a0, P a0 → Q a0 → G) : G := by
  obtain ⟨_, _, _, _, _, _, _, _, _, _, _, _, _, _, _, _, _⟩ := u
  unfold wpX_emptySlot at hp hq
  exact nd_x hp hq (fun _ _ hp hq => nd_wX_emptySlot_2 G _ _ h _ _ _ _ _ _ _ _ _ _ _ _ hp hq)
theorem nd_wX_eraseSlots_2 (G : Prop) (P Q : SX → Prop) (h : ∀ a0, P a0 → Q a0 → G)  :
    ∀ (n n' : Nat) (x1 : Int32) (f_present : Int32) (f_open : Int32) (f_copied : Int32) (f_copyStale : Int32) (f_taken : Int32) (f_copyTaken : Int32) (f_volumeEpoch : Int32) (f_formats : Int32) (a_kept : (Nat → Int32)) (a_epochs : (Nat → Int32)) (a_versions : (Nat → Int32)) (a_slotWords : (Nat → Int32)) (a_copyWords : (Nat → Int32)) (a_key : (Nat → Int32)) (a_seed : (Nat → Int32)) (a_stream : (Nat → Int32)) (a_work : (Nat → Int32)), wX_eraseSlots_2 P n x1 f_present f_open f_copied f_copyStale f_taken f_copyTaken f_volumeEpoch f_formats a_kept a_epochs a_versions a_slotWords a_copyWords a_key a_seed a_stream a_work → wX_eraseSlots_2 Q n' x1 f_present f_open f_copied f_copyStale f_taken f_copyTaken f_volumeEpoch f_formats a_kept a_epochs a_versions a_slotWords a_copyWords a_key a_seed a_stream a_work → G := by
  intro n
  induction n with
  | zero => intro n' x1 f_present f_open f_copied f_copyStale f_taken f_copyTaken f_volumeEpoch f_formats a_kept a_epochs a_versions a_slotWords a_copyWords a_key a_seed a_stream a_work hp; exact absurd hp (fun z => z)
  | succ n ih =>
    intro n' x1 f_present f_open f_copied f_copyStale f_taken f_copyTaken f_volumeEpoch f_formats a_kept a_epochs a_versions a_slotWords a_copyWords a_key a_seed a_stream a_work hp hq
    cases n' with
    | zero => exact absurd hq (fun z => z)
    | succ n' => exact nd_b hp hq (fun hp hq => nd_x hp hq (fun _ _ hp hq => nd_wX_eraseSlots_20 G _ _ h _ _ _ _ _ _ _ _ _ _ _ _ hp hq)) (fun hp hq => nd_wpX_emptySlot G _ _ hp hq (fun  u hp hq => by
      obtain ⟨_, _, _, _, _, _, _, _, _, _, _, _, _, _, _, _, _⟩ := u
      exact nd_n hp hq (fun hp hq => ih _ _ _ _ _ _ _ _ _ _ _ _ _ _ _ _ _ _ _ hp hq)))
theorem nd_wpX_eraseSlots (G : Prop) (P Q : SX → Prop) {u : SX} (hp : wpX_eraseSlots P u) (hq : wpX_eraseSlots Q u) (h : ∀ a0, P a0 → Q a0 → G) : G := by
  obtain ⟨_, _, _, _, _, _, _, _, _, _, _, _, _, _, _, _, _⟩ := u
  unfold wpX_eraseSlots at hp hq
  exact nd_x hp hq (fun _ _ hp hq => nd_wX_eraseSlots_2 G _ _ h _ _ _ _ _ _ _ _ _ _ _ _ _ _ _ _ _ _ _ _ hp hq)
theorem nd_wX_putSlot_57 (G : Prop) (P Q : SX → Prop) (h : ∀ a0, P a0 → Q a0 → G) {x1 : Int32} {x3 : Int32} {f_present : Int32} {f_open : Int32} {f_copied : Int32} {f_copyStale : Int32} {f_taken : Int32} {f_copyTaken : Int32} {f_volumeEpoch : Int32} {f_formats : Int32} :
    ∀ (n n' : Nat) (x4 : Int32) (a_kept : (Nat → Int32)) (a_epochs : (Nat → Int32)) (a_versions : (Nat → Int32)) (a_slotWords : (Nat → Int32)) (a_copyWords : (Nat → Int32)) (a_key : (Nat → Int32)) (a_seed : (Nat → Int32)) (a_stream : (Nat → Int32)) (a_work : (Nat → Int32)), wX_putSlot_57 P x1 x3 f_present f_open f_copied f_copyStale f_taken f_copyTaken f_volumeEpoch f_formats n x4 a_kept a_epochs a_versions a_slotWords a_copyWords a_key a_seed a_stream a_work → wX_putSlot_57 Q x1 x3 f_present f_open f_copied f_copyStale f_taken f_copyTaken f_volumeEpoch f_formats n' x4 a_kept a_epochs a_versions a_slotWords a_copyWords a_key a_seed a_stream a_work → G := by
  intro n
  induction n with
  | zero => intro n' x4 a_kept a_epochs a_versions a_slotWords a_copyWords a_key a_seed a_stream a_work hp; exact absurd hp (fun z => z)
  | succ n ih =>
    intro n' x4 a_kept a_epochs a_versions a_slotWords a_copyWords a_key a_seed a_stream a_work hp hq
    cases n' with
    | zero => exact absurd hq (fun z => z)
    | succ n' => exact nd_b hp hq (fun hp hq => nd_n hp hq (fun hp hq => h _ hp hq)) (fun hp hq => nd_a hp hq (fun hp hq => nd_a hp hq (fun hp hq => nd_a hp hq (fun hp hq => nd_n hp hq (fun hp hq => nd_n hp hq (fun hp hq => ih _ _ _ _ _ _ _ _ _ _ _ hp hq))))))
theorem nd_wX_putSlot_15 (G : Prop) (P Q : SX → Prop) (h : ∀ a0, P a0 → Q a0 → G) {x1 : Int32} {x2 : Int32} {x3 : Int32} {f_present : Int32} {f_open : Int32} {f_copied : Int32} {f_copyStale : Int32} {f_taken : Int32} {f_copyTaken : Int32} {f_volumeEpoch : Int32} {f_formats : Int32} :
    ∀ (n n' : Nat) (x4 : Int32) (a_kept : (Nat → Int32)) (a_epochs : (Nat → Int32)) (a_versions : (Nat → Int32)) (a_slotWords : (Nat → Int32)) (a_copyWords : (Nat → Int32)) (a_key : (Nat → Int32)) (a_seed : (Nat → Int32)) (a_stream : (Nat → Int32)) (a_work : (Nat → Int32)), wX_putSlot_15 P x1 x2 x3 f_present f_open f_copied f_copyStale f_taken f_copyTaken f_volumeEpoch f_formats n x4 a_kept a_epochs a_versions a_slotWords a_copyWords a_key a_seed a_stream a_work → wX_putSlot_15 Q x1 x2 x3 f_present f_open f_copied f_copyStale f_taken f_copyTaken f_volumeEpoch f_formats n' x4 a_kept a_epochs a_versions a_slotWords a_copyWords a_key a_seed a_stream a_work → G := by
  intro n
  induction n with
  | zero => intro n' x4 a_kept a_epochs a_versions a_slotWords a_copyWords a_key a_seed a_stream a_work hp; exact absurd hp (fun z => z)
  | succ n ih =>
    intro n' x4 a_kept a_epochs a_versions a_slotWords a_copyWords a_key a_seed a_stream a_work hp hq
    cases n' with
    | zero => exact absurd hq (fun z => z)
    | succ n' => exact nd_b hp hq (fun hp hq => nd_wpX_streamFromPassphrase G _ _ hp hq (fun  u hp hq => by
      obtain ⟨_, _, _, _, _, _, _, _, _, _, _, _, _, _, _, _, _⟩ := u
      exact nd_x hp hq (fun _ _ hp hq => nd_wX_putSlot_57 G _ _ h _ _ _ _ _ _ _ _ _ _ _ _ hp hq))) (fun hp hq => nd_a hp hq (fun hp hq => nd_a hp hq (fun hp hq => nd_n hp hq (fun hp hq => nd_n hp hq (fun hp hq => ih _ _ _ _ _ _ _ _ _ _ _ hp hq)))))
theorem nd_wpX_putSlot (G : Prop) (P Q : SX → Prop) {u : SX} {p0 : Int32} {p1 : Int32} (hp : wpX_putSlot P u p0 p1) (hq : wpX_putSlot Q u p0 p1) (h : ∀ a0, P a0 → Q a0 → G) : G := by
  obtain ⟨_, _, _, _, _, _, _, _, _, _, _, _, _, _, _, _, _⟩ := u
  unfold wpX_putSlot at hp hq
  exact nd_n hp hq (fun hp hq => nd_wpX_streamFromPassphrase G _ _ hp hq (fun  u hp hq => by
  obtain ⟨_, _, _, _, _, _, _, _, _, _, _, _, _, _, _, _, _⟩ := u
  exact nd_x hp hq (fun _ _ hp hq => nd_wX_putSlot_15 G _ _ h _ _ _ _ _ _ _ _ _ _ _ _ hp hq)))
theorem nd_wX_forgetSecrets_44 (G : Prop) (P Q : SX → Prop) (h : ∀ a0, P a0 → Q a0 → G) {f_present : Int32} {f_open : Int32} {f_copied : Int32} {f_copyStale : Int32} {f_taken : Int32} {f_copyTaken : Int32} {f_volumeEpoch : Int32} {f_formats : Int32} :
    ∀ (n n' : Nat) (x1 : Int32) (a_kept : (Nat → Int32)) (a_epochs : (Nat → Int32)) (a_versions : (Nat → Int32)) (a_slotWords : (Nat → Int32)) (a_copyWords : (Nat → Int32)) (a_key : (Nat → Int32)) (a_seed : (Nat → Int32)) (a_stream : (Nat → Int32)) (a_work : (Nat → Int32)), wX_forgetSecrets_44 P f_present f_open f_copied f_copyStale f_taken f_copyTaken f_volumeEpoch f_formats n x1 a_kept a_epochs a_versions a_slotWords a_copyWords a_key a_seed a_stream a_work → wX_forgetSecrets_44 Q f_present f_open f_copied f_copyStale f_taken f_copyTaken f_volumeEpoch f_formats n' x1 a_kept a_epochs a_versions a_slotWords a_copyWords a_key a_seed a_stream a_work → G := by
  intro n
  induction n with
  | zero => intro n' x1 a_kept a_epochs a_versions a_slotWords a_copyWords a_key a_seed a_stream a_work hp; exact absurd hp (fun z => z)
  | succ n ih =>
    intro n' x1 a_kept a_epochs a_versions a_slotWords a_copyWords a_key a_seed a_stream a_work hp hq
    cases n' with
    | zero => exact absurd hq (fun z => z)
    | succ n' => exact nd_b hp hq (fun hp hq => h _ hp hq) (fun hp hq => nd_a hp hq (fun hp hq => nd_n hp hq (fun hp hq => nd_n hp hq (fun hp hq => ih _ _ _ _ _ _ _ _ _ _ _ hp hq))))
theorem nd_wX_forgetSecrets_23 (G : Prop) (P Q : SX → Prop) (h : ∀ a0, P a0 → Q a0 → G) {f_present : Int32} {f_open : Int32} {f_copied : Int32} {f_copyStale : Int32} {f_taken : Int32} {f_copyTaken : Int32} {f_volumeEpoch : Int32} {f_formats : Int32} :
    ∀ (n n' : Nat) (x1 : Int32) (a_kept : (Nat → Int32)) (a_epochs : (Nat → Int32)) (a_versions : (Nat → Int32)) (a_slotWords : (Nat → Int32)) (a_copyWords : (Nat → Int32)) (a_key : (Nat → Int32)) (a_seed : (Nat → Int32)) (a_stream : (Nat → Int32)) (a_work : (Nat → Int32)), wX_forgetSecrets_23 P f_present f_open f_copied f_copyStale f_taken f_copyTaken f_volumeEpoch f_formats n x1 a_kept a_epochs a_versions a_slotWords a_copyWords a_key a_seed a_stream a_work → wX_forgetSecrets_23 Q f_present f_open f_copied f_copyStale f_taken f_copyTaken f_volumeEpoch f_formats n' x1 a_kept a_epochs a_versions a_slotWords a_copyWords a_key a_seed a_stream a_work → G := by
  intro n
  induction n with
  | zero => intro n' x1 a_kept a_epochs a_versions a_slotWords a_copyWords a_key a_seed a_stream a_work hp; exact absurd hp (fun z => z)
  | succ n ih =>
    intro n' x1 a_kept a_epochs a_versions a_slotWords a_copyWords a_key a_seed a_stream a_work hp hq
    cases n' with
    | zero => exact absurd hq (fun z => z)
    | succ n' => exact nd_b hp hq (fun hp hq => nd_x hp hq (fun _ _ hp hq => nd_wX_forgetSecrets_44 G _ _ h _ _ _ _ _ _ _ _ _ _ _ _ hp hq)) (fun hp hq => nd_a hp hq (fun hp hq => nd_n hp hq (fun hp hq => nd_n hp hq (fun hp hq => ih _ _ _ _ _ _ _ _ _ _ _ hp hq))))
theorem nd_wX_forgetSecrets_2 (G : Prop) (P Q : SX → Prop) (h : ∀ a0, P a0 → Q a0 → G) {f_present : Int32} {f_open : Int32} {f_copied : Int32} {f_copyStale : Int32} {f_taken : Int32} {f_copyTaken : Int32} {f_volumeEpoch : Int32} {f_formats : Int32} :
    ∀ (n n' : Nat) (x1 : Int32) (a_kept : (Nat → Int32)) (a_epochs : (Nat → Int32)) (a_versions : (Nat → Int32)) (a_slotWords : (Nat → Int32)) (a_copyWords : (Nat → Int32)) (a_key : (Nat → Int32)) (a_seed : (Nat → Int32)) (a_stream : (Nat → Int32)) (a_work : (Nat → Int32)), wX_forgetSecrets_2 P f_present f_open f_copied f_copyStale f_taken f_copyTaken f_volumeEpoch f_formats n x1 a_kept a_epochs a_versions a_slotWords a_copyWords a_key a_seed a_stream a_work → wX_forgetSecrets_2 Q f_present f_open f_copied f_copyStale f_taken f_copyTaken f_volumeEpoch f_formats n' x1 a_kept a_epochs a_versions a_slotWords a_copyWords a_key a_seed a_stream a_work → G := by
  intro n
  induction n with
  | zero => intro n' x1 a_kept a_epochs a_versions a_slotWords a_copyWords a_key a_seed a_stream a_work hp; exact absurd hp (fun z => z)
  | succ n ih =>
    intro n' x1 a_kept a_epochs a_versions a_slotWords a_copyWords a_key a_seed a_stream a_work hp hq
    cases n' with
    | zero => exact absurd hq (fun z => z)
    | succ n' => exact nd_b hp hq (fun hp hq => nd_x hp hq (fun _ _ hp hq => nd_wX_forgetSecrets_23 G _ _ h _ _ _ _ _ _ _ _ _ _ _ _ hp hq)) (fun hp hq => nd_a hp hq (fun hp hq => nd_n hp hq (fun hp hq => nd_n hp hq (fun hp hq => ih _ _ _ _ _ _ _ _ _ _ _ hp hq))))
theorem nd_wpX_forgetSecrets (G : Prop) (P Q : SX → Prop) {u : SX} (hp : wpX_forgetSecrets P u) (hq : wpX_forgetSecrets Q u) (h : ∀ a0, P a0 → Q a0 → G) : G := by
  obtain ⟨_, _, _, _, _, _, _, _, _, _, _, _, _, _, _, _, _⟩ := u
  unfold wpX_forgetSecrets at hp hq
  exact nd_x hp hq (fun _ _ hp hq => nd_wX_forgetSecrets_2 G _ _ h _ _ _ _ _ _ _ _ _ _ _ _ hp hq)
theorem nd_wpX_format (G : Prop) (P Q : Int32 → SX → Prop) {u : SX} {p0 : Int32} (hp : wpX_format P u p0) (hq : wpX_format Q u p0) (h : ∀ a0 a1, P a0 a1 → Q a0 a1 → G) : G := by
  obtain ⟨_, _, _, _, _, _, _, _, _, _, _, _, _, _, _, _, _⟩ := u
  unfold wpX_format at hp hq
  exact nd_n hp hq (fun hp hq => nd_wpX_makeKey G _ _ hp hq (fun  u hp hq => by
  obtain ⟨_, _, _, _, _, _, _, _, _, _, _, _, _, _, _, _, _⟩ := u
  exact nd_wpX_eraseSectors G _ _ hp hq (fun  u hp hq => by
  obtain ⟨_, _, _, _, _, _, _, _, _, _, _, _, _, _, _, _, _⟩ := u
  exact nd_wpX_eraseSlots G _ _ hp hq (fun  u hp hq => by
  obtain ⟨_, _, _, _, _, _, _, _, _, _, _, _, _, _, _, _, _⟩ := u
  exact nd_wpX_putSlot G _ _ hp hq (fun  u hp hq => by
  obtain ⟨_, _, _, _, _, _, _, _, _, _, _, _, _, _, _, _, _⟩ := u
  exact nd_wpX_forgetSecrets G _ _ hp hq (fun  u hp hq => by
  obtain ⟨_, _, _, _, _, _, _, _, _, _, _, _, _, _, _, _, _⟩ := u
  exact h _ _ hp hq))))))
theorem nd_wY_format_64 (G : Prop) (P Q : Int32 → SY → Prop) (h : ∀ a0 a1, P a0 a1 → Q a0 a1 → G) {x1 : Int32} {f_isThere : Int32} {f_isOpen : Int32} {f_left : Int32} {f_hasCopy : Int32} {f_isStale : Int32} :
    ∀ (n n' : Nat) (x2 : Int32) (a_cells : (Nat → Int32)) (a_damaged : (Nat → Int32)) (a_used : (Nat → Int32)) (a_phrases : (Nat → Int32)) (a_copyUsed : (Nat → Int32)) (a_copyPhrases : (Nat → Int32)), wY_format_64 P x1 f_isThere f_isOpen f_left f_hasCopy f_isStale n x2 a_cells a_damaged a_used a_phrases a_copyUsed a_copyPhrases → wY_format_64 Q x1 f_isThere f_isOpen f_left f_hasCopy f_isStale n' x2 a_cells a_damaged a_used a_phrases a_copyUsed a_copyPhrases → G := by
  intro n
  induction n with
  | zero => intro n' x2 a_cells a_damaged a_used a_phrases a_copyUsed a_copyPhrases hp; exact absurd hp (fun z => z)
  | succ n ih =>
    intro n' x2 a_cells a_damaged a_used a_phrases a_copyUsed a_copyPhrases hp hq
    cases n' with
    | zero => exact absurd hq (fun z => z)
    | succ n' => exact nd_b hp hq (fun hp hq => nd_n hp hq (fun hp hq => h _ _ hp hq)) (fun hp hq => nd_b hp hq (fun hp hq => nd_a hp hq (fun hp hq => nd_n hp hq (fun hp hq => nd_n hp hq (fun hp hq => ih _ _ _ _ _ _ _ _ hp hq)))) (fun hp hq => nd_a hp hq (fun hp hq => nd_n hp hq (fun hp hq => nd_n hp hq (fun hp hq => ih _ _ _ _ _ _ _ _ hp hq)))))
theorem nd_wY_format_43 (G : Prop) (P Q : Int32 → SY → Prop) (h : ∀ a0 a1, P a0 a1 → Q a0 a1 → G) {x1 : Int32} {f_isThere : Int32} {f_isOpen : Int32} {f_left : Int32} {f_hasCopy : Int32} {f_isStale : Int32} :
    ∀ (n n' : Nat) (x2 : Int32) (a_cells : (Nat → Int32)) (a_damaged : (Nat → Int32)) (a_used : (Nat → Int32)) (a_phrases : (Nat → Int32)) (a_copyUsed : (Nat → Int32)) (a_copyPhrases : (Nat → Int32)), wY_format_43 P x1 f_isThere f_isOpen f_left f_hasCopy f_isStale n x2 a_cells a_damaged a_used a_phrases a_copyUsed a_copyPhrases → wY_format_43 Q x1 f_isThere f_isOpen f_left f_hasCopy f_isStale n' x2 a_cells a_damaged a_used a_phrases a_copyUsed a_copyPhrases → G := by
  intro n
  induction n with
  | zero => intro n' x2 a_cells a_damaged a_used a_phrases a_copyUsed a_copyPhrases hp; exact absurd hp (fun z => z)
  | succ n ih =>
    intro n' x2 a_cells a_damaged a_used a_phrases a_copyUsed a_copyPhrases hp hq
    cases n' with
    | zero => exact absurd hq (fun z => z)
    | succ n' => exact nd_b hp hq (fun hp hq => nd_x hp hq (fun _ _ hp hq => nd_wY_format_64 G _ _ h _ _ _ _ _ _ _ _ _ hp hq)) (fun hp hq => nd_a hp hq (fun hp hq => nd_n hp hq (fun hp hq => nd_n hp hq (fun hp hq => ih _ _ _ _ _ _ _ _ hp hq))))
theorem nd_wY_format_22 (G : Prop) (P Q : Int32 → SY → Prop) (h : ∀ a0 a1, P a0 a1 → Q a0 a1 → G) {x1 : Int32} {f_isThere : Int32} {f_isOpen : Int32} {f_left : Int32} {f_hasCopy : Int32} {f_isStale : Int32} :
    ∀ (n n' : Nat) (x2 : Int32) (a_cells : (Nat → Int32)) (a_damaged : (Nat → Int32)) (a_used : (Nat → Int32)) (a_phrases : (Nat → Int32)) (a_copyUsed : (Nat → Int32)) (a_copyPhrases : (Nat → Int32)), wY_format_22 P x1 f_isThere f_isOpen f_left f_hasCopy f_isStale n x2 a_cells a_damaged a_used a_phrases a_copyUsed a_copyPhrases → wY_format_22 Q x1 f_isThere f_isOpen f_left f_hasCopy f_isStale n' x2 a_cells a_damaged a_used a_phrases a_copyUsed a_copyPhrases → G := by
  intro n
  induction n with
  | zero => intro n' x2 a_cells a_damaged a_used a_phrases a_copyUsed a_copyPhrases hp; exact absurd hp (fun z => z)
  | succ n ih =>
    intro n' x2 a_cells a_damaged a_used a_phrases a_copyUsed a_copyPhrases hp hq
    cases n' with
    | zero => exact absurd hq (fun z => z)
    | succ n' => exact nd_b hp hq (fun hp hq => nd_x hp hq (fun _ _ hp hq => nd_wY_format_43 G _ _ h _ _ _ _ _ _ _ _ _ hp hq)) (fun hp hq => nd_a hp hq (fun hp hq => nd_n hp hq (fun hp hq => nd_n hp hq (fun hp hq => ih _ _ _ _ _ _ _ _ hp hq))))
theorem nd_wpY_format (G : Prop) (P Q : Int32 → SY → Prop) {u : SY} {p0 : Int32} (hp : wpY_format P u p0) (hq : wpY_format Q u p0) (h : ∀ a0 a1, P a0 a1 → Q a0 a1 → G) : G := by
  obtain ⟨_, _, _, _, _, _, _, _, _, _, _⟩ := u
  unfold wpY_format at hp hq
  exact nd_x hp hq (fun _ _ hp hq => nd_wY_format_22 G _ _ h _ _ _ _ _ _ _ _ _ hp hq)
theorem nd_wpX_isTaken (G : Prop) (P Q : Int32 → Prop) {u : SX} {p0 : Int32} (hp : wpX_isTaken P u p0) (hq : wpX_isTaken Q u p0) (h : ∀ a0, P a0 → Q a0 → G) : G := by
  obtain ⟨_, _, _, _, _, _, _, _, _, _, _, _, _, _, _, _, _⟩ := u
  unfold wpX_isTaken at hp hq
  exact nd_b hp hq (fun hp hq => h _ hp hq) (fun hp hq => h _ hp hq)
theorem nd_wX_streamBelongsTo_4 (G : Prop) (P Q : Int32 → Prop) (h : ∀ a0, P a0 → Q a0 → G) {x1 : Int32} {f_present : Int32} {f_open : Int32} {f_copied : Int32} {f_copyStale : Int32} {f_taken : Int32} {f_copyTaken : Int32} {f_volumeEpoch : Int32} {f_formats : Int32} {a_kept : Nat → Int32} {a_epochs : Nat → Int32} {a_versions : Nat → Int32} {a_slotWords : Nat → Int32} {a_copyWords : Nat → Int32} {a_key : Nat → Int32} {a_seed : Nat → Int32} {a_stream : Nat → Int32} {a_work : Nat → Int32} :
    ∀ (n n' : Nat) (x2 : Int32) (x3 : Int32), wX_streamBelongsTo_4 P x1 f_present f_open f_copied f_copyStale f_taken f_copyTaken f_volumeEpoch f_formats a_kept a_epochs a_versions a_slotWords a_copyWords a_key a_seed a_stream a_work n x2 x3 → wX_streamBelongsTo_4 Q x1 f_present f_open f_copied f_copyStale f_taken f_copyTaken f_volumeEpoch f_formats a_kept a_epochs a_versions a_slotWords a_copyWords a_key a_seed a_stream a_work n' x2 x3 → G := by
  intro n
  induction n with
  | zero => intro n' x2 x3 hp; exact absurd hp (fun z => z)
  | succ n ih =>
    intro n' x2 x3 hp hq
    cases n' with
    | zero => exact absurd hq (fun z => z)
    | succ n' => exact nd_b hp hq (fun hp hq => nd_b hp hq (fun hp hq => h _ hp hq) (fun hp hq => h _ hp hq)) (fun hp hq => nd_a hp hq (fun hp hq => nd_a hp hq (fun hp hq => nd_n hp hq (fun hp hq => nd_n hp hq (fun hp hq => ih _ _ _ hp hq)))))
theorem nd_wpX_streamBelongsTo (G : Prop) (P Q : Int32 → Prop) {u : SX} {p0 : Int32} (hp : wpX_streamBelongsTo P u p0) (hq : wpX_streamBelongsTo Q u p0) (h : ∀ a0, P a0 → Q a0 → G) : G := by
  obtain ⟨_, _, _, _, _, _, _, _, _, _, _, _, _, _, _, _, _⟩ := u
  unfold wpX_streamBelongsTo at hp hq
  exact nd_x hp hq (fun _ _ hp hq => nd_wX_streamBelongsTo_4 G _ _ h _ _ _ _ hp hq)
theorem nd_wX_findSlot_9 (G : Prop) (P Q : Int32 → SX → Prop) (h : ∀ a0 a1, P a0 a1 → Q a0 a1 → G) {f_present : Int32} {f_open : Int32} {f_copied : Int32} {f_copyStale : Int32} {f_taken : Int32} {f_copyTaken : Int32} {f_volumeEpoch : Int32} {f_formats : Int32} {a_kept : Nat → Int32} {a_epochs : Nat → Int32} {a_versions : Nat → Int32} {a_slotWords : Nat → Int32} {a_copyWords : Nat → Int32} {a_key : Nat → Int32} {a_seed : Nat → Int32} {a_stream : Nat → Int32} {a_work : Nat → Int32} :
    ∀ (n n' : Nat) (x2 : Int32), wX_findSlot_9 P f_present f_open f_copied f_copyStale f_taken f_copyTaken f_volumeEpoch f_formats a_kept a_epochs a_versions a_slotWords a_copyWords a_key a_seed a_stream a_work n x2 → wX_findSlot_9 Q f_present f_open f_copied f_copyStale f_taken f_copyTaken f_volumeEpoch f_formats a_kept a_epochs a_versions a_slotWords a_copyWords a_key a_seed a_stream a_work n' x2 → G := by
  intro n
  induction n with
  | zero => intro n' x2 hp; exact absurd hp (fun z => z)
  | succ n ih =>
    intro n' x2 hp hq
    cases n' with
    | zero => exact absurd hq (fun z => z)
    | succ n' => exact nd_b hp hq (fun hp hq => h _ _ hp hq) (fun hp hq => nd_wpX_isTaken G _ _ hp hq (fun _ hp hq => nd_b hp hq (fun hp hq => nd_n hp hq (fun hp hq => ih _ _ hp hq)) (fun hp hq => nd_wpX_streamBelongsTo G _ _ hp hq (fun _ hp hq => nd_b hp hq (fun hp hq => nd_n hp hq (fun hp hq => ih _ _ hp hq)) (fun hp hq => h _ _ hp hq)))))
theorem nd_wpX_findSlot (G : Prop) (P Q : Int32 → SX → Prop) {u : SX} {p0 : Int32} (hp : wpX_findSlot P u p0) (hq : wpX_findSlot Q u p0) (h : ∀ a0 a1, P a0 a1 → Q a0 a1 → G) : G := by
  obtain ⟨_, _, _, _, _, _, _, _, _, _, _, _, _, _, _, _, _⟩ := u
  unfold wpX_findSlot at hp hq
  exact nd_wpX_streamFromPassphrase G _ _ hp hq (fun  u hp hq => by
  obtain ⟨_, _, _, _, _, _, _, _, _, _, _, _, _, _, _, _, _⟩ := u
  exact nd_x hp hq (fun _ _ hp hq => nd_wX_findSlot_9 G _ _ h _ _ _ hp hq))
theorem nd_wX_unwrapKey_21 (G : Prop) (P Q : SX → Prop) (h : ∀ a0, P a0 → Q a0 → G) {x3 : Int32} {f_present : Int32} {f_open : Int32} {f_copied : Int32} {f_copyStale : Int32} {f_taken : Int32} {f_copyTaken : Int32} {f_volumeEpoch : Int32} {f_formats : Int32} :
    ∀ (n n' : Nat) (x4 : Int32) (a_kept : (Nat → Int32)) (a_epochs : (Nat → Int32)) (a_versions : (Nat → Int32)) (a_slotWords : (Nat → Int32)) (a_copyWords : (Nat → Int32)) (a_key : (Nat → Int32)) (a_seed : (Nat → Int32)) (a_stream : (Nat → Int32)) (a_work : (Nat → Int32)), wX_unwrapKey_21 P x3 f_present f_open f_copied f_copyStale f_taken f_copyTaken f_volumeEpoch f_formats n x4 a_kept a_epochs a_versions a_slotWords a_copyWords a_key a_seed a_stream a_work → wX_unwrapKey_21 Q x3 f_present f_open f_copied f_copyStale f_taken f_copyTaken f_volumeEpoch f_formats n' x4 a_kept a_epochs a_versions a_slotWords a_copyWords a_key a_seed a_stream a_work → G := by
  intro n
  induction n with
  | zero => intro n' x4 a_kept a_epochs a_versions a_slotWords a_copyWords a_key a_seed a_stream a_work hp; exact absurd hp (fun z => z)
  | succ n ih =>
    intro n' x4 a_kept a_epochs a_versions a_slotWords a_copyWords a_key a_seed a_stream a_work hp hq
    cases n' with
    | zero => exact absurd hq (fun z => z)
    | succ n' => exact nd_b hp hq (fun hp hq => h _ hp hq) (fun hp hq => nd_a hp hq (fun hp hq => nd_a hp hq (fun hp hq => nd_a hp hq (fun hp hq => nd_n hp hq (fun hp hq => nd_n hp hq (fun hp hq => ih _ _ _ _ _ _ _ _ _ _ _ hp hq))))))
theorem nd_wpX_unwrapKey (G : Prop) (P Q : SX → Prop) {u : SX} {p0 : Int32} {p1 : Int32} (hp : wpX_unwrapKey P u p0 p1) (hq : wpX_unwrapKey Q u p0 p1) (h : ∀ a0, P a0 → Q a0 → G) : G := by
  obtain ⟨_, _, _, _, _, _, _, _, _, _, _, _, _, _, _, _, _⟩ := u
  unfold wpX_unwrapKey at hp hq
  exact nd_n hp hq (fun hp hq => nd_wpX_streamFromPassphrase G _ _ hp hq (fun  u hp hq => by
  obtain ⟨_, _, _, _, _, _, _, _, _, _, _, _, _, _, _, _, _⟩ := u
  exact nd_x hp hq (fun _ _ hp hq => nd_wX_unwrapKey_21 G _ _ h _ _ _ _ _ _ _ _ _ _ _ _ hp hq)))
theorem nd_wpX_unlock (G : Prop) (P Q : Int32 → SX → Prop) {u : SX} {p0 : Int32} (hp : wpX_unlock P u p0) (hq : wpX_unlock Q u p0) (h : ∀ a0 a1, P a0 a1 → Q a0 a1 → G) : G := by
  obtain ⟨_, _, _, _, _, _, _, _, _, _, _, _, _, _, _, _, _⟩ := u
  unfold wpX_unlock at hp hq
  exact nd_b hp hq (fun hp hq => h _ _ hp hq) (fun hp hq => nd_b hp hq (fun hp hq => nd_wpX_findSlot G _ _ hp hq (fun _ u hp hq => by
  obtain ⟨_, _, _, _, _, _, _, _, _, _, _, _, _, _, _, _, _⟩ := u
  exact nd_b hp hq (fun hp hq => nd_wpX_forgetSecrets G _ _ hp hq (fun  u hp hq => by
  obtain ⟨_, _, _, _, _, _, _, _, _, _, _, _, _, _, _, _, _⟩ := u
  exact h _ _ hp hq)) (fun hp hq => nd_wpX_unwrapKey G _ _ hp hq (fun  u hp hq => by
  obtain ⟨_, _, _, _, _, _, _, _, _, _, _, _, _, _, _, _, _⟩ := u
  exact h _ _ hp hq)))) (fun hp hq => h _ _ hp hq))
theorem nd_wY_find_2 (G : Prop) (P Q : Int32 → Prop) (h : ∀ a0, P a0 → Q a0 → G) {x1 : Int32} {f_isThere : Int32} {f_isOpen : Int32} {f_left : Int32} {f_hasCopy : Int32} {f_isStale : Int32} {a_cells : Nat → Int32} {a_damaged : Nat → Int32} {a_used : Nat → Int32} {a_phrases : Nat → Int32} {a_copyUsed : Nat → Int32} {a_copyPhrases : Nat → Int32} :
    ∀ (n n' : Nat) (x2 : Int32), wY_find_2 P x1 f_isThere f_isOpen f_left f_hasCopy f_isStale a_cells a_damaged a_used a_phrases a_copyUsed a_copyPhrases n x2 → wY_find_2 Q x1 f_isThere f_isOpen f_left f_hasCopy f_isStale a_cells a_damaged a_used a_phrases a_copyUsed a_copyPhrases n' x2 → G := by
  intro n
  induction n with
  | zero => intro n' x2 hp; exact absurd hp (fun z => z)
  | succ n ih =>
    intro n' x2 hp hq
    cases n' with
    | zero => exact absurd hq (fun z => z)
    | succ n' => exact nd_b hp hq (fun hp hq => h _ hp hq) (fun hp hq => nd_a hp hq (fun hp hq => nd_b hp hq (fun hp hq => nd_n hp hq (fun hp hq => ih _ _ hp hq)) (fun hp hq => nd_a hp hq (fun hp hq => nd_b hp hq (fun hp hq => h _ hp hq) (fun hp hq => nd_n hp hq (fun hp hq => ih _ _ hp hq))))))
theorem nd_wpY_find (G : Prop) (P Q : Int32 → Prop) {u : SY} {p0 : Int32} (hp : wpY_find P u p0) (hq : wpY_find Q u p0) (h : ∀ a0, P a0 → Q a0 → G) : G := by
  obtain ⟨_, _, _, _, _, _, _, _, _, _, _⟩ := u
  unfold wpY_find at hp hq
  exact nd_x hp hq (fun _ _ hp hq => nd_wY_find_2 G _ _ h _ _ _ hp hq)
theorem nd_wpY_unlock (G : Prop) (P Q : Int32 → SY → Prop) {u : SY} {p0 : Int32} (hp : wpY_unlock P u p0) (hq : wpY_unlock Q u p0) (h : ∀ a0 a1, P a0 a1 → Q a0 a1 → G) : G := by
  obtain ⟨_, _, _, _, _, _, _, _, _, _, _⟩ := u
  unfold wpY_unlock at hp hq
  exact nd_b hp hq (fun hp hq => h _ _ hp hq) (fun hp hq => nd_b hp hq (fun hp hq => nd_wpY_find G _ _ hp hq (fun _ hp hq => nd_b hp hq (fun hp hq => h _ _ hp hq) (fun hp hq => h _ _ hp hq))) (fun hp hq => h _ _ hp hq))
theorem nd_wpX_close (G : Prop) (P Q : SX → Prop) {u : SX} (hp : wpX_close P u) (hq : wpX_close Q u) (h : ∀ a0, P a0 → Q a0 → G) : G := by
  obtain ⟨_, _, _, _, _, _, _, _, _, _, _, _, _, _, _, _, _⟩ := u
  unfold wpX_close at hp hq
  exact nd_wpX_forgetSecrets G _ _ hp hq (fun  u hp hq => by
  obtain ⟨_, _, _, _, _, _, _, _, _, _, _, _, _, _, _, _, _⟩ := u
  exact h _ hp hq)
theorem nd_wX_lock_22 (G : Prop) (P Q : Int32 → SX → Prop) {z0 : Int32} {f_present : Int32} {f_open : Int32} {f_copied : Int32} {f_copyStale : Int32} {f_taken : Int32} {f_copyTaken : Int32} {f_volumeEpoch : Int32} {f_formats : Int32} {a_kept : Nat → Int32} {a_epochs : Nat → Int32} {a_versions : Nat → Int32} {a_slotWords : Nat → Int32} {a_copyWords : Nat → Int32} {a_key : Nat → Int32} {a_seed : Nat → Int32} {a_stream : Nat → Int32} {a_work : Nat → Int32} (hp : wX_lock_22 P z0 f_present f_open f_copied f_copyStale f_taken f_copyTaken f_volumeEpoch f_formats a_kept a_epochs a_versions a_slotWords a_copyWords a_key a_seed a_stream a_work) (hq : wX_lock_22 Q z0 f_present f_open f_copied f_copyStale f_taken f_copyTaken f_volumeEpoch f_formats a_kept a_epochs a_versions a_slotWords a_copyWords a_key a_seed a_stream a_work) (h : ∀ a0 a1, P a0 a1 → Q a0 a1 → G) : G := by
  unfold wX_lock_22 at hp hq
  exact nd_wpX_close G _ _ hp hq (fun  u hp hq => by
  obtain ⟨_, _, _, _, _, _, _, _, _, _, _, _, _, _, _, _, _⟩ := u
  exact h _ _ hp hq)
theorem nd_wpX_lock (G : Prop) (P Q : Int32 → SX → Prop) {u : SX} (hp : wpX_lock P u) (hq : wpX_lock Q u) (h : ∀ a0 a1, P a0 a1 → Q a0 a1 → G) : G := by
  obtain ⟨_, _, _, _, _, _, _, _, _, _, _, _, _, _, _, _, _⟩ := u
  unfold wpX_lock at hp hq
  exact nd_b hp hq (fun hp hq => h _ _ hp hq) (fun hp hq => nd_b hp hq (fun hp hq => nd_wX_lock_22 G _ _ hp hq h) (fun hp hq => nd_wX_lock_22 G _ _ hp hq h))
theorem nd_wpY_lock (G : Prop) (P Q : Int32 → SY → Prop) {u : SY} (hp : wpY_lock P u) (hq : wpY_lock Q u) (h : ∀ a0 a1, P a0 a1 → Q a0 a1 → G) : G := by
  obtain ⟨_, _, _, _, _, _, _, _, _, _, _⟩ := u
  unfold wpY_lock at hp hq
  exact nd_b hp hq (fun hp hq => h _ _ hp hq) (fun hp hq => nd_b hp hq (fun hp hq => h _ _ hp hq) (fun hp hq => h _ _ hp hq))
theorem nd_wpX_state (G : Prop) (P Q : Int32 → Prop) {u : SX} (hp : wpX_state P u) (hq : wpX_state Q u) (h : ∀ a0, P a0 → Q a0 → G) : G := by
  obtain ⟨_, _, _, _, _, _, _, _, _, _, _, _, _, _, _, _, _⟩ := u
  unfold wpX_state at hp hq
  exact nd_b hp hq (fun hp hq => h _ hp hq) (fun hp hq => nd_b hp hq (fun hp hq => h _ hp hq) (fun hp hq => h _ hp hq))
theorem nd_wpY_state (G : Prop) (P Q : Int32 → Prop) {u : SY} (hp : wpY_state P u) (hq : wpY_state Q u) (h : ∀ a0, P a0 → Q a0 → G) : G := by
  obtain ⟨_, _, _, _, _, _, _, _, _, _, _⟩ := u
  unfold wpY_state at hp hq
  exact nd_b hp hq (fun hp hq => h _ hp hq) (fun hp hq => nd_b hp hq (fun hp hq => h _ hp hq) (fun hp hq => h _ hp hq))
theorem nd_wpX_isSector (G : Prop) (P Q : Int32 → Prop) {u : SX} {p0 : Int32} (hp : wpX_isSector P u p0) (hq : wpX_isSector Q u p0) (h : ∀ a0, P a0 → Q a0 → G) : G := by
  obtain ⟨_, _, _, _, _, _, _, _, _, _, _, _, _, _, _, _, _⟩ := u
  unfold wpX_isSector at hp hq
  exact nd_b hp hq (fun hp hq => h _ hp hq) (fun hp hq => nd_b hp hq (fun hp hq => h _ hp hq) (fun hp hq => h _ hp hq))
theorem nd_wpX_isCell (G : Prop) (P Q : Int32 → Prop) {u : SX} {p0 : Int32} (hp : wpX_isCell P u p0) (hq : wpX_isCell Q u p0) (h : ∀ a0, P a0 → Q a0 → G) : G := by
  obtain ⟨_, _, _, _, _, _, _, _, _, _, _, _, _, _, _, _, _⟩ := u
  unfold wpX_isCell at hp hq
  exact nd_b hp hq (fun hp hq => h _ hp hq) (fun hp hq => nd_b hp hq (fun hp hq => h _ hp hq) (fun hp hq => h _ hp hq))
theorem nd_wX_sumOf__kept_6 (G : Prop) (P Q : Int32 → Prop) (h : ∀ a0, P a0 → Q a0 → G) {x2 : Int32} {f_present : Int32} {f_open : Int32} {f_copied : Int32} {f_copyStale : Int32} {f_taken : Int32} {f_copyTaken : Int32} {f_volumeEpoch : Int32} {f_formats : Int32} {a_kept : Nat → Int32} {a_epochs : Nat → Int32} {a_versions : Nat → Int32} {a_slotWords : Nat → Int32} {a_copyWords : Nat → Int32} {a_key : Nat → Int32} {a_seed : Nat → Int32} {a_stream : Nat → Int32} {a_work : Nat → Int32} :
    ∀ (n n' : Nat) (x3 : Int32) (x4 : Int32), wX_sumOf__kept_6 P x2 f_present f_open f_copied f_copyStale f_taken f_copyTaken f_volumeEpoch f_formats a_kept a_epochs a_versions a_slotWords a_copyWords a_key a_seed a_stream a_work n x3 x4 → wX_sumOf__kept_6 Q x2 f_present f_open f_copied f_copyStale f_taken f_copyTaken f_volumeEpoch f_formats a_kept a_epochs a_versions a_slotWords a_copyWords a_key a_seed a_stream a_work n' x3 x4 → G := by
  intro n
  induction n with
  | zero => intro n' x3 x4 hp; exact absurd hp (fun z => z)
  | succ n ih =>
    intro n' x3 x4 hp hq
    cases n' with
    | zero => exact absurd hq (fun z => z)
    | succ n' => exact nd_b hp hq (fun hp hq => h _ hp hq) (fun hp hq => nd_a hp hq (fun hp hq => nd_n hp hq (fun hp hq => nd_n hp hq (fun hp hq => ih _ _ _ hp hq))))
theorem nd_wpX_sumOf__kept (G : Prop) (P Q : Int32 → Prop) {u : SX} {p1 : Int32} (hp : wpX_sumOf__kept P u p1) (hq : wpX_sumOf__kept Q u p1) (h : ∀ a0, P a0 → Q a0 → G) : G := by
  obtain ⟨_, _, _, _, _, _, _, _, _, _, _, _, _, _, _, _, _⟩ := u
  unfold wpX_sumOf__kept at hp hq
  exact nd_x hp hq (fun _ _ hp hq => nd_wX_sumOf__kept_6 G _ _ h _ _ _ _ hp hq)
theorem nd_wpX_isDamaged (G : Prop) (P Q : Int32 → Prop) {u : SX} {p0 : Int32} (hp : wpX_isDamaged P u p0) (hq : wpX_isDamaged Q u p0) (h : ∀ a0, P a0 → Q a0 → G) : G := by
  obtain ⟨_, _, _, _, _, _, _, _, _, _, _, _, _, _, _, _, _⟩ := u
  unfold wpX_isDamaged at hp hq
  exact nd_a hp hq (fun hp hq => nd_wpX_rowOf G _ _ hp hq (fun _ hp hq => nd_a hp hq (fun hp hq => nd_wpX_sumOf__kept G _ _ hp hq (fun _ hp hq => nd_b hp hq (fun hp hq => h _ hp hq) (fun hp hq => h _ hp hq)))))
theorem nd_wX_unsealToWork_29 (G : Prop) (P Q : SX → Prop) (h : ∀ a0, P a0 → Q a0 → G) {x2 : Int32} {f_present : Int32} {f_open : Int32} {f_copied : Int32} {f_copyStale : Int32} {f_taken : Int32} {f_copyTaken : Int32} {f_volumeEpoch : Int32} {f_formats : Int32} :
    ∀ (n n' : Nat) (x3 : Int32) (a_kept : (Nat → Int32)) (a_epochs : (Nat → Int32)) (a_versions : (Nat → Int32)) (a_slotWords : (Nat → Int32)) (a_copyWords : (Nat → Int32)) (a_key : (Nat → Int32)) (a_seed : (Nat → Int32)) (a_stream : (Nat → Int32)) (a_work : (Nat → Int32)), wX_unsealToWork_29 P x2 f_present f_open f_copied f_copyStale f_taken f_copyTaken f_volumeEpoch f_formats n x3 a_kept a_epochs a_versions a_slotWords a_copyWords a_key a_seed a_stream a_work → wX_unsealToWork_29 Q x2 f_present f_open f_copied f_copyStale f_taken f_copyTaken f_volumeEpoch f_formats n' x3 a_kept a_epochs a_versions a_slotWords a_copyWords a_key a_seed a_stream a_work → G := by
  intro n
  induction n with
  | zero => intro n' x3 a_kept a_epochs a_versions a_slotWords a_copyWords a_key a_seed a_stream a_work hp; exact absurd hp (fun z => z)
  | succ n ih =>
    intro n' x3 a_kept a_epochs a_versions a_slotWords a_copyWords a_key a_seed a_stream a_work hp hq
    cases n' with
    | zero => exact absurd hq (fun z => z)
    | succ n' => exact nd_b hp hq (fun hp hq => h _ hp hq) (fun hp hq => nd_a hp hq (fun hp hq => nd_a hp hq (fun hp hq => nd_a hp hq (fun hp hq => nd_n hp hq (fun hp hq => nd_n hp hq (fun hp hq => ih _ _ _ _ _ _ _ _ _ _ _ hp hq))))))
theorem nd_wpX_unsealToWork (G : Prop) (P Q : SX → Prop) {u : SX} {p0 : Int32} (hp : wpX_unsealToWork P u p0) (hq : wpX_unsealToWork Q u p0) (h : ∀ a0, P a0 → Q a0 → G) : G := by
  obtain ⟨_, _, _, _, _, _, _, _, _, _, _, _, _, _, _, _, _⟩ := u
  unfold wpX_unsealToWork at hp hq
  exact nd_a hp hq (fun hp hq => nd_wpX_seedFromKey G _ _ hp hq (fun  u hp hq => by
  obtain ⟨_, _, _, _, _, _, _, _, _, _, _, _, _, _, _, _, _⟩ := u
  exact nd_wpX_scramble G _ _ hp hq (fun  u hp hq => by
  obtain ⟨_, _, _, _, _, _, _, _, _, _, _, _, _, _, _, _, _⟩ := u
  exact nd_a hp hq (fun hp hq => nd_wpX_rowOf G _ _ hp hq (fun _ hp hq => nd_x hp hq (fun _ _ hp hq => nd_wX_unsealToWork_29 G _ _ h _ _ _ _ _ _ _ _ _ _ _ _ hp hq))))))
theorem nd_wpX_read (G : Prop) (P Q : Int32 → SX → Prop) {u : SX} {p0 : Int32} {p1 : Int32} (hp : wpX_read P u p0 p1) (hq : wpX_read Q u p0 p1) (h : ∀ a0 a1, P a0 a1 → Q a0 a1 → G) : G := by
  obtain ⟨_, _, _, _, _, _, _, _, _, _, _, _, _, _, _, _, _⟩ := u
  unfold wpX_read at hp hq
  exact nd_wpX_isSector G _ _ hp hq (fun _ hp hq => nd_b hp hq (fun hp hq => h _ _ hp hq) (fun hp hq => nd_wpX_isCell G _ _ hp hq (fun _ hp hq => nd_b hp hq (fun hp hq => h _ _ hp hq) (fun hp hq => nd_b hp hq (fun hp hq => h _ _ hp hq) (fun hp hq => nd_wpX_isDamaged G _ _ hp hq (fun _ hp hq => nd_b hp hq (fun hp hq => nd_wpX_unsealToWork G _ _ hp hq (fun  u hp hq => by
  obtain ⟨_, _, _, _, _, _, _, _, _, _, _, _, _, _, _, _, _⟩ := u
  exact nd_a hp hq (fun hp hq => h _ _ hp hq))) (fun hp hq => h _ _ hp hq)))))))
theorem nd_wpY_badSector (G : Prop) (P Q : Int32 → Prop) {u : SY} {p0 : Int32} (hp : wpY_badSector P u p0) (hq : wpY_badSector Q u p0) (h : ∀ a0, P a0 → Q a0 → G) : G := by
  obtain ⟨_, _, _, _, _, _, _, _, _, _, _⟩ := u
  unfold wpY_badSector at hp hq
  exact nd_b hp hq (fun hp hq => h _ hp hq) (fun hp hq => nd_b hp hq (fun hp hq => h _ hp hq) (fun hp hq => h _ hp hq))
theorem nd_wpY_badCell (G : Prop) (P Q : Int32 → Prop) {u : SY} {p0 : Int32} (hp : wpY_badCell P u p0) (hq : wpY_badCell Q u p0) (h : ∀ a0, P a0 → Q a0 → G) : G := by
  obtain ⟨_, _, _, _, _, _, _, _, _, _, _⟩ := u
  unfold wpY_badCell at hp hq
  exact nd_b hp hq (fun hp hq => h _ hp hq) (fun hp hq => nd_b hp hq (fun hp hq => h _ hp hq) (fun hp hq => h _ hp hq))
theorem nd_wpY_read (G : Prop) (P Q : Int32 → Prop) {u : SY} {p0 : Int32} {p1 : Int32} (hp : wpY_read P u p0 p1) (hq : wpY_read Q u p0 p1) (h : ∀ a0, P a0 → Q a0 → G) : G := by
  obtain ⟨_, _, _, _, _, _, _, _, _, _, _⟩ := u
  unfold wpY_read at hp hq
  exact nd_wpY_badSector G _ _ hp hq (fun _ hp hq => nd_b hp hq (fun hp hq => nd_wpY_badCell G _ _ hp hq (fun _ hp hq => nd_b hp hq (fun hp hq => nd_b hp hq (fun hp hq => h _ hp hq) (fun hp hq => nd_a hp hq (fun hp hq => nd_b hp hq (fun hp hq => nd_a hp hq (fun hp hq => h _ hp hq)) (fun hp hq => h _ hp hq)))) (fun hp hq => h _ hp hq))) (fun hp hq => h _ hp hq))
theorem nd_wpX_keepNewContents (G : Prop) (P Q : SX → Prop) {u : SX} {p0 : Int32} (hp : wpX_keepNewContents P u p0) (hq : wpX_keepNewContents Q u p0) (h : ∀ a0, P a0 → Q a0 → G) : G := by
  obtain ⟨_, _, _, _, _, _, _, _, _, _, _, _, _, _, _, _, _⟩ := u
  unfold wpX_keepNewContents at hp hq
  exact nd_a hp hq (fun hp hq => nd_a hp hq (fun hp hq => nd_n hp hq (fun hp hq => nd_a hp hq (fun hp hq => nd_wpX_sealWork G _ _ hp hq (fun  u hp hq => by
  obtain ⟨_, _, _, _, _, _, _, _, _, _, _, _, _, _, _, _, _⟩ := u
  exact nd_a hp hq (fun hp hq => nd_wpX_rowOf G _ _ hp hq (fun _ hp hq => nd_wpX_keepWork G _ _ hp hq (fun  u hp hq => by
  obtain ⟨_, _, _, _, _, _, _, _, _, _, _, _, _, _, _, _, _⟩ := u
  exact h _ hp hq))))))))
theorem nd_wpX_write (G : Prop) (P Q : Int32 → SX → Prop) {u : SX} {p0 : Int32} {p1 : Int32} {p2 : Int32} (hp : wpX_write P u p0 p1 p2) (hq : wpX_write Q u p0 p1 p2) (h : ∀ a0 a1, P a0 a1 → Q a0 a1 → G) : G := by
  obtain ⟨_, _, _, _, _, _, _, _, _, _, _, _, _, _, _, _, _⟩ := u
  unfold wpX_write at hp hq
  exact nd_wpX_isSector G _ _ hp hq (fun _ hp hq => nd_b hp hq (fun hp hq => h _ _ hp hq) (fun hp hq => nd_wpX_isCell G _ _ hp hq (fun _ hp hq => nd_b hp hq (fun hp hq => h _ _ hp hq) (fun hp hq => nd_b hp hq (fun hp hq => h _ _ hp hq) (fun hp hq => nd_wpX_isDamaged G _ _ hp hq (fun _ hp hq => nd_b hp hq (fun hp hq => nd_wpX_unsealToWork G _ _ hp hq (fun  u hp hq => by
  obtain ⟨_, _, _, _, _, _, _, _, _, _, _, _, _, _, _, _, _⟩ := u
  exact nd_a hp hq (fun hp hq => nd_n hp hq (fun hp hq => nd_wpX_keepNewContents G _ _ hp hq (fun  u hp hq => by
  obtain ⟨_, _, _, _, _, _, _, _, _, _, _, _, _, _, _, _, _⟩ := u
  exact h _ _ hp hq))))) (fun hp hq => h _ _ hp hq)))))))
theorem nd_wpY_write (G : Prop) (P Q : Int32 → SY → Prop) {u : SY} {p0 : Int32} {p1 : Int32} {p2 : Int32} (hp : wpY_write P u p0 p1 p2) (hq : wpY_write Q u p0 p1 p2) (h : ∀ a0 a1, P a0 a1 → Q a0 a1 → G) : G := by
  obtain ⟨_, _, _, _, _, _, _, _, _, _, _⟩ := u
  unfold wpY_write at hp hq
  exact nd_wpY_badSector G _ _ hp hq (fun _ hp hq => nd_b hp hq (fun hp hq => nd_wpY_badCell G _ _ hp hq (fun _ hp hq => nd_b hp hq (fun hp hq => nd_b hp hq (fun hp hq => h _ _ hp hq) (fun hp hq => nd_a hp hq (fun hp hq => nd_b hp hq (fun hp hq => nd_a hp hq (fun hp hq => nd_n hp hq (fun hp hq => h _ _ hp hq))) (fun hp hq => h _ _ hp hq)))) (fun hp hq => h _ _ hp hq))) (fun hp hq => h _ _ hp hq))
theorem nd_wX_fill_38 (G : Prop) (P Q : Int32 → SX → Prop) (h : ∀ a0 a1, P a0 a1 → Q a0 a1 → G) {x1 : Int32} {x2 : Int32} {x3 : Int32} {x4 : Int32} {f_present : Int32} {f_open : Int32} {f_copied : Int32} {f_copyStale : Int32} {f_taken : Int32} {f_copyTaken : Int32} {f_volumeEpoch : Int32} {f_formats : Int32} :
    ∀ (n n' : Nat) (x5 : Int32) (a_kept : (Nat → Int32)) (a_epochs : (Nat → Int32)) (a_versions : (Nat → Int32)) (a_slotWords : (Nat → Int32)) (a_copyWords : (Nat → Int32)) (a_key : (Nat → Int32)) (a_seed : (Nat → Int32)) (a_stream : (Nat → Int32)) (a_work : (Nat → Int32)), wX_fill_38 P x1 x2 x3 x4 f_present f_open f_copied f_copyStale f_taken f_copyTaken f_volumeEpoch f_formats n x5 a_kept a_epochs a_versions a_slotWords a_copyWords a_key a_seed a_stream a_work → wX_fill_38 Q x1 x2 x3 x4 f_present f_open f_copied f_copyStale f_taken f_copyTaken f_volumeEpoch f_formats n' x5 a_kept a_epochs a_versions a_slotWords a_copyWords a_key a_seed a_stream a_work → G := by
  intro n
  induction n with
  | zero => intro n' x5 a_kept a_epochs a_versions a_slotWords a_copyWords a_key a_seed a_stream a_work hp; exact absurd hp (fun z => z)
  | succ n ih =>
    intro n' x5 a_kept a_epochs a_versions a_slotWords a_copyWords a_key a_seed a_stream a_work hp hq
    cases n' with
    | zero => exact absurd hq (fun z => z)
    | succ n' => exact nd_b hp hq (fun hp hq => nd_wpX_keepNewContents G _ _ hp hq (fun  u hp hq => by
      obtain ⟨_, _, _, _, _, _, _, _, _, _, _, _, _, _, _, _, _⟩ := u
      exact h _ _ hp hq)) (fun hp hq => nd_a hp hq (fun hp hq => nd_n hp hq (fun hp hq => nd_n hp hq (fun hp hq => ih _ _ _ _ _ _ _ _ _ _ _ hp hq))))
theorem nd_wpX_fill (G : Prop) (P Q : Int32 → SX → Prop) {u : SX} {p0 : Int32} {p1 : Int32} {p2 : Int32} (hp : wpX_fill P u p0 p1 p2) (hq : wpX_fill Q u p0 p1 p2) (h : ∀ a0 a1, P a0 a1 → Q a0 a1 → G) : G := by
  obtain ⟨_, _, _, _, _, _, _, _, _, _, _, _, _, _, _, _, _⟩ := u
  unfold wpX_fill at hp hq
  exact nd_wpX_isSector G _ _ hp hq (fun _ hp hq => nd_b hp hq (fun hp hq => h _ _ hp hq) (fun hp hq => nd_b hp hq (fun hp hq => h _ _ hp hq) (fun hp hq => nd_wpX_isDamaged G _ _ hp hq (fun _ hp hq => nd_b hp hq (fun hp hq => nd_x hp hq (fun _ _ hp hq => nd_wX_fill_38 G _ _ h _ _ _ _ _ _ _ _ _ _ _ _ hp hq)) (fun hp hq => nd_x hp hq (fun _ _ hp hq => nd_wX_fill_38 G _ _ h _ _ _ _ _ _ _ _ _ _ _ _ hp hq))))))
theorem nd_wY_fill_23 (G : Prop) (P Q : Int32 → SY → Prop) (h : ∀ a0 a1, P a0 a1 → Q a0 a1 → G) {x1 : Int32} {x2 : Int32} {x3 : Int32} {f_isThere : Int32} {f_isOpen : Int32} {f_left : Int32} {f_hasCopy : Int32} {f_isStale : Int32} :
    ∀ (n n' : Nat) (x4 : Int32) (a_cells : (Nat → Int32)) (a_damaged : (Nat → Int32)) (a_used : (Nat → Int32)) (a_phrases : (Nat → Int32)) (a_copyUsed : (Nat → Int32)) (a_copyPhrases : (Nat → Int32)), wY_fill_23 P x1 x2 x3 f_isThere f_isOpen f_left f_hasCopy f_isStale n x4 a_cells a_damaged a_used a_phrases a_copyUsed a_copyPhrases → wY_fill_23 Q x1 x2 x3 f_isThere f_isOpen f_left f_hasCopy f_isStale n' x4 a_cells a_damaged a_used a_phrases a_copyUsed a_copyPhrases → G := by
  intro n
  induction n with
  | zero => intro n' x4 a_cells a_damaged a_used a_phrases a_copyUsed a_copyPhrases hp; exact absurd hp (fun z => z)
  | succ n ih =>
    intro n' x4 a_cells a_damaged a_used a_phrases a_copyUsed a_copyPhrases hp hq
    cases n' with
    | zero => exact absurd hq (fun z => z)
    | succ n' => exact nd_b hp hq (fun hp hq => nd_a hp hq (fun hp hq => nd_n hp hq (fun hp hq => nd_a hp hq (fun hp hq => nd_n hp hq (fun hp hq => nd_b hp hq (fun hp hq => h _ _ hp hq) (fun hp hq => h _ _ hp hq)))))) (fun hp hq => nd_a hp hq (fun hp hq => nd_n hp hq (fun hp hq => nd_n hp hq (fun hp hq => ih _ _ _ _ _ _ _ _ hp hq))))
theorem nd_wpY_fill (G : Prop) (P Q : Int32 → SY → Prop) {u : SY} {p0 : Int32} {p1 : Int32} {p2 : Int32} (hp : wpY_fill P u p0 p1 p2) (hq : wpY_fill Q u p0 p1 p2) (h : ∀ a0 a1, P a0 a1 → Q a0 a1 → G) : G := by
  obtain ⟨_, _, _, _, _, _, _, _, _, _, _⟩ := u
  unfold wpY_fill at hp hq
  exact nd_wpY_badSector G _ _ hp hq (fun _ hp hq => nd_b hp hq (fun hp hq => nd_b hp hq (fun hp hq => h _ _ hp hq) (fun hp hq => nd_x hp hq (fun _ _ hp hq => nd_wY_fill_23 G _ _ h _ _ _ _ _ _ _ _ _ hp hq))) (fun hp hq => h _ _ hp hq))
theorem nd_wpX_check (G : Prop) (P Q : Int32 → Prop) {u : SX} {p0 : Int32} (hp : wpX_check P u p0) (hq : wpX_check Q u p0) (h : ∀ a0, P a0 → Q a0 → G) : G := by
  obtain ⟨_, _, _, _, _, _, _, _, _, _, _, _, _, _, _, _, _⟩ := u
  unfold wpX_check at hp hq
  exact nd_wpX_isSector G _ _ hp hq (fun _ hp hq => nd_b hp hq (fun hp hq => h _ hp hq) (fun hp hq => nd_b hp hq (fun hp hq => h _ hp hq) (fun hp hq => nd_wpX_isDamaged G _ _ hp hq (fun _ hp hq => nd_b hp hq (fun hp hq => h _ hp hq) (fun hp hq => h _ hp hq)))))
theorem nd_wpY_check (G : Prop) (P Q : Int32 → Prop) {u : SY} {p0 : Int32} (hp : wpY_check P u p0) (hq : wpY_check Q u p0) (h : ∀ a0, P a0 → Q a0 → G) : G := by
  obtain ⟨_, _, _, _, _, _, _, _, _, _, _⟩ := u
  unfold wpY_check at hp hq
  exact nd_wpY_badSector G _ _ hp hq (fun _ hp hq => nd_b hp hq (fun hp hq => nd_b hp hq (fun hp hq => h _ hp hq) (fun hp hq => nd_a hp hq (fun hp hq => nd_b hp hq (fun hp hq => h _ hp hq) (fun hp hq => h _ hp hq)))) (fun hp hq => h _ hp hq))
theorem nd_wX_digestOfSector_9 (G : Prop) (P Q : Int32 → SX → Prop) (h : ∀ a0 a1, P a0 a1 → Q a0 a1 → G) {x1 : Int32} {f_present : Int32} {f_open : Int32} {f_copied : Int32} {f_copyStale : Int32} {f_taken : Int32} {f_copyTaken : Int32} {f_volumeEpoch : Int32} {f_formats : Int32} {a_kept : Nat → Int32} {a_epochs : Nat → Int32} {a_versions : Nat → Int32} {a_slotWords : Nat → Int32} {a_copyWords : Nat → Int32} {a_key : Nat → Int32} {a_seed : Nat → Int32} {a_stream : Nat → Int32} {a_work : Nat → Int32} :
    ∀ (n n' : Nat) (x2 : Int32) (x3 : Int32), wX_digestOfSector_9 P x1 f_present f_open f_copied f_copyStale f_taken f_copyTaken f_volumeEpoch f_formats a_kept a_epochs a_versions a_slotWords a_copyWords a_key a_seed a_stream a_work n x2 x3 → wX_digestOfSector_9 Q x1 f_present f_open f_copied f_copyStale f_taken f_copyTaken f_volumeEpoch f_formats a_kept a_epochs a_versions a_slotWords a_copyWords a_key a_seed a_stream a_work n' x2 x3 → G := by
  intro n
  induction n with
  | zero => intro n' x2 x3 hp; exact absurd hp (fun z => z)
  | succ n ih =>
    intro n' x2 x3 hp hq
    cases n' with
    | zero => exact absurd hq (fun z => z)
    | succ n' => exact nd_b hp hq (fun hp hq => h _ _ hp hq) (fun hp hq => nd_a hp hq (fun hp hq => nd_n hp hq (fun hp hq => nd_n hp hq (fun hp hq => ih _ _ _ hp hq))))
theorem nd_wpX_digestOfSector (G : Prop) (P Q : Int32 → SX → Prop) {u : SX} {p0 : Int32} (hp : wpX_digestOfSector P u p0) (hq : wpX_digestOfSector Q u p0) (h : ∀ a0 a1, P a0 a1 → Q a0 a1 → G) : G := by
  obtain ⟨_, _, _, _, _, _, _, _, _, _, _, _, _, _, _, _, _⟩ := u
  unfold wpX_digestOfSector at hp hq
  exact nd_wpX_unsealToWork G _ _ hp hq (fun  u hp hq => by
  obtain ⟨_, _, _, _, _, _, _, _, _, _, _, _, _, _, _, _, _⟩ := u
  exact nd_x hp hq (fun _ _ hp hq => nd_wX_digestOfSector_9 G _ _ h _ _ _ _ hp hq))
theorem nd_wX_digest_13 (G : Prop) (P Q : Int32 → SX → Prop) (h : ∀ a0 a1, P a0 a1 → Q a0 a1 → G)  :
    ∀ (n n' : Nat) (x1 : Int32) (x2 : Int32) (f_present : Int32) (f_open : Int32) (f_copied : Int32) (f_copyStale : Int32) (f_taken : Int32) (f_copyTaken : Int32) (f_volumeEpoch : Int32) (f_formats : Int32) (a_kept : (Nat → Int32)) (a_epochs : (Nat → Int32)) (a_versions : (Nat → Int32)) (a_slotWords : (Nat → Int32)) (a_copyWords : (Nat → Int32)) (a_key : (Nat → Int32)) (a_seed : (Nat → Int32)) (a_stream : (Nat → Int32)) (a_work : (Nat → Int32)), wX_digest_13 P n x1 x2 f_present f_open f_copied f_copyStale f_taken f_copyTaken f_volumeEpoch f_formats a_kept a_epochs a_versions a_slotWords a_copyWords a_key a_seed a_stream a_work → wX_digest_13 Q n' x1 x2 f_present f_open f_copied f_copyStale f_taken f_copyTaken f_volumeEpoch f_formats a_kept a_epochs a_versions a_slotWords a_copyWords a_key a_seed a_stream a_work → G := by
  intro n
  induction n with
  | zero => intro n' x1 x2 f_present f_open f_copied f_copyStale f_taken f_copyTaken f_volumeEpoch f_formats a_kept a_epochs a_versions a_slotWords a_copyWords a_key a_seed a_stream a_work hp; exact absurd hp (fun z => z)
  | succ n ih =>
    intro n' x1 x2 f_present f_open f_copied f_copyStale f_taken f_copyTaken f_volumeEpoch f_formats a_kept a_epochs a_versions a_slotWords a_copyWords a_key a_seed a_stream a_work hp hq
    cases n' with
    | zero => exact absurd hq (fun z => z)
    | succ n' => exact nd_b hp hq (fun hp hq => h _ _ hp hq) (fun hp hq => nd_wpX_isDamaged G _ _ hp hq (fun _ hp hq => nd_b hp hq (fun hp hq => nd_wpX_digestOfSector G _ _ hp hq (fun _ u hp hq => by
      obtain ⟨_, _, _, _, _, _, _, _, _, _, _, _, _, _, _, _, _⟩ := u
      exact nd_n hp hq (fun hp hq => nd_n hp hq (fun hp hq => ih _ _ _ _ _ _ _ _ _ _ _ _ _ _ _ _ _ _ _ _ hp hq)))) (fun hp hq => nd_n hp hq (fun hp hq => ih _ _ _ _ _ _ _ _ _ _ _ _ _ _ _ _ _ _ _ _ hp hq))))
theorem nd_wpX_digest (G : Prop) (P Q : Int32 → SX → Prop) {u : SX} (hp : wpX_digest P u) (hq : wpX_digest Q u) (h : ∀ a0 a1, P a0 a1 → Q a0 a1 → G) : G := by
  obtain ⟨_, _, _, _, _, _, _, _, _, _, _, _, _, _, _, _, _⟩ := u
  unfold wpX_digest at hp hq
  exact nd_b hp hq (fun hp hq => h _ _ hp hq) (fun hp hq => nd_x hp hq (fun _ _ hp hq => nd_wX_digest_13 G _ _ h _ _ _ _ _ _ _ _ _ _ _ _ _ _ _ _ _ _ _ _ _ hp hq))
theorem nd_wY_digest_4 (G : Prop) (P Q : Int32 → Prop) (h : ∀ a0, P a0 → Q a0 → G) {f_isThere : Int32} {f_isOpen : Int32} {f_left : Int32} {f_hasCopy : Int32} {f_isStale : Int32} {a_cells : Nat → Int32} {a_damaged : Nat → Int32} {a_used : Nat → Int32} {a_phrases : Nat → Int32} {a_copyUsed : Nat → Int32} {a_copyPhrases : Nat → Int32} :
    ∀ (n n' : Nat) (x1 : Int32) (x2 : Int32), wY_digest_4 P f_isThere f_isOpen f_left f_hasCopy f_isStale a_cells a_damaged a_used a_phrases a_copyUsed a_copyPhrases n x1 x2 → wY_digest_4 Q f_isThere f_isOpen f_left f_hasCopy f_isStale a_cells a_damaged a_used a_phrases a_copyUsed a_copyPhrases n' x1 x2 → G := by
  intro n
  induction n with
  | zero => intro n' x1 x2 hp; exact absurd hp (fun z => z)
  | succ n ih =>
    intro n' x1 x2 hp hq
    cases n' with
    | zero => exact absurd hq (fun z => z)
    | succ n' => exact nd_b hp hq (fun hp hq => h _ hp hq) (fun hp hq => nd_a hp hq (fun hp hq => nd_a hp hq (fun hp hq => nd_wpY_read G _ _ hp hq (fun _ hp hq => nd_n hp hq (fun hp hq => nd_n hp hq (fun hp hq => ih _ _ _ hp hq))))))
theorem nd_wpY_digest (G : Prop) (P Q : Int32 → Prop) {u : SY} (hp : wpY_digest P u) (hq : wpY_digest Q u) (h : ∀ a0, P a0 → Q a0 → G) : G := by
  obtain ⟨_, _, _, _, _, _, _, _, _, _, _⟩ := u
  unfold wpY_digest at hp hq
  exact nd_x hp hq (fun _ _ hp hq => nd_wY_digest_4 G _ _ h _ _ _ _ hp hq)
theorem nd_wX_addKey_24 (G : Prop) (P Q : Int32 → SX → Prop) (h : ∀ a0 a1, P a0 a1 → Q a0 a1 → G) {x1 : Int32} {f_present : Int32} {f_open : Int32} {f_copied : Int32} {f_copyStale : Int32} {f_taken : Int32} {f_copyTaken : Int32} {f_volumeEpoch : Int32} {f_formats : Int32} {a_kept : Nat → Int32} {a_epochs : Nat → Int32} {a_versions : Nat → Int32} {a_slotWords : Nat → Int32} {a_copyWords : Nat → Int32} {a_key : Nat → Int32} {a_seed : Nat → Int32} {a_stream : Nat → Int32} {a_work : Nat → Int32} :
    ∀ (n n' : Nat) (x2 : Int32), wX_addKey_24 P x1 f_present f_open f_copied f_copyStale f_taken f_copyTaken f_volumeEpoch f_formats a_kept a_epochs a_versions a_slotWords a_copyWords a_key a_seed a_stream a_work n x2 → wX_addKey_24 Q x1 f_present f_open f_copied f_copyStale f_taken f_copyTaken f_volumeEpoch f_formats a_kept a_epochs a_versions a_slotWords a_copyWords a_key a_seed a_stream a_work n' x2 → G := by
  intro n
  induction n with
  | zero => intro n' x2 hp; exact absurd hp (fun z => z)
  | succ n ih =>
    intro n' x2 hp hq
    cases n' with
    | zero => exact absurd hq (fun z => z)
    | succ n' => exact nd_b hp hq (fun hp hq => h _ _ hp hq) (fun hp hq => nd_wpX_isTaken G _ _ hp hq (fun _ hp hq => nd_b hp hq (fun hp hq => nd_wpX_putSlot G _ _ hp hq (fun  u hp hq => by
      obtain ⟨_, _, _, _, _, _, _, _, _, _, _, _, _, _, _, _, _⟩ := u
      exact h _ _ hp hq)) (fun hp hq => nd_n hp hq (fun hp hq => ih _ _ hp hq))))
theorem nd_wpX_addKey (G : Prop) (P Q : Int32 → SX → Prop) {u : SX} {p0 : Int32} (hp : wpX_addKey P u p0) (hq : wpX_addKey Q u p0) (h : ∀ a0 a1, P a0 a1 → Q a0 a1 → G) : G := by
  obtain ⟨_, _, _, _, _, _, _, _, _, _, _, _, _, _, _, _, _⟩ := u
  unfold wpX_addKey at hp hq
  exact nd_b hp hq (fun hp hq => h _ _ hp hq) (fun hp hq => nd_wpX_findSlot G _ _ hp hq (fun _ u hp hq => by
  obtain ⟨_, _, _, _, _, _, _, _, _, _, _, _, _, _, _, _, _⟩ := u
  exact nd_b hp hq (fun hp hq => nd_x hp hq (fun _ _ hp hq => nd_wX_addKey_24 G _ _ h _ _ _ hp hq)) (fun hp hq => h _ _ hp hq)))
theorem nd_wY_addKey_23 (G : Prop) (P Q : Int32 → SY → Prop) (h : ∀ a0 a1, P a0 a1 → Q a0 a1 → G) {x1 : Int32} {f_isThere : Int32} {f_isOpen : Int32} {f_left : Int32} {f_hasCopy : Int32} {f_isStale : Int32} {a_cells : Nat → Int32} {a_damaged : Nat → Int32} {a_used : Nat → Int32} {a_phrases : Nat → Int32} {a_copyUsed : Nat → Int32} {a_copyPhrases : Nat → Int32} :
    ∀ (n n' : Nat) (x2 : Int32), wY_addKey_23 P x1 f_isThere f_isOpen f_left f_hasCopy f_isStale a_cells a_damaged a_used a_phrases a_copyUsed a_copyPhrases n x2 → wY_addKey_23 Q x1 f_isThere f_isOpen f_left f_hasCopy f_isStale a_cells a_damaged a_used a_phrases a_copyUsed a_copyPhrases n' x2 → G := by
  intro n
  induction n with
  | zero => intro n' x2 hp; exact absurd hp (fun z => z)
  | succ n ih =>
    intro n' x2 hp hq
    cases n' with
    | zero => exact absurd hq (fun z => z)
    | succ n' => exact nd_b hp hq (fun hp hq => h _ _ hp hq) (fun hp hq => nd_a hp hq (fun hp hq => nd_b hp hq (fun hp hq => nd_a hp hq (fun hp hq => nd_n hp hq (fun hp hq => nd_a hp hq (fun hp hq => nd_n hp hq (fun hp hq => h _ _ hp hq))))) (fun hp hq => nd_n hp hq (fun hp hq => ih _ _ hp hq))))
theorem nd_wpY_addKey (G : Prop) (P Q : Int32 → SY → Prop) {u : SY} {p0 : Int32} (hp : wpY_addKey P u p0) (hq : wpY_addKey Q u p0) (h : ∀ a0 a1, P a0 a1 → Q a0 a1 → G) : G := by
  obtain ⟨_, _, _, _, _, _, _, _, _, _, _⟩ := u
  unfold wpY_addKey at hp hq
  exact nd_b hp hq (fun hp hq => h _ _ hp hq) (fun hp hq => nd_wpY_find G _ _ hp hq (fun _ hp hq => nd_b hp hq (fun hp hq => nd_x hp hq (fun _ _ hp hq => nd_wY_addKey_23 G _ _ h _ _ _ hp hq)) (fun hp hq => h _ _ hp hq)))
theorem nd_wpX_isSlot (G : Prop) (P Q : Int32 → Prop) {u : SX} {p0 : Int32} (hp : wpX_isSlot P u p0) (hq : wpX_isSlot Q u p0) (h : ∀ a0, P a0 → Q a0 → G) : G := by
  obtain ⟨_, _, _, _, _, _, _, _, _, _, _, _, _, _, _, _, _⟩ := u
  unfold wpX_isSlot at hp hq
  exact nd_b hp hq (fun hp hq => h _ hp hq) (fun hp hq => nd_b hp hq (fun hp hq => h _ hp hq) (fun hp hq => h _ hp hq))
theorem nd_wX_countTaken_4 (G : Prop) (P Q : Int32 → Prop) (h : ∀ a0, P a0 → Q a0 → G) {f_present : Int32} {f_open : Int32} {f_copied : Int32} {f_copyStale : Int32} {f_taken : Int32} {f_copyTaken : Int32} {f_volumeEpoch : Int32} {f_formats : Int32} {a_kept : Nat → Int32} {a_epochs : Nat → Int32} {a_versions : Nat → Int32} {a_slotWords : Nat → Int32} {a_copyWords : Nat → Int32} {a_key : Nat → Int32} {a_seed : Nat → Int32} {a_stream : Nat → Int32} {a_work : Nat → Int32} :
    ∀ (n n' : Nat) (x1 : Int32) (x2 : Int32), wX_countTaken_4 P f_present f_open f_copied f_copyStale f_taken f_copyTaken f_volumeEpoch f_formats a_kept a_epochs a_versions a_slotWords a_copyWords a_key a_seed a_stream a_work n x1 x2 → wX_countTaken_4 Q f_present f_open f_copied f_copyStale f_taken f_copyTaken f_volumeEpoch f_formats a_kept a_epochs a_versions a_slotWords a_copyWords a_key a_seed a_stream a_work n' x1 x2 → G := by
  intro n
  induction n with
  | zero => intro n' x1 x2 hp; exact absurd hp (fun z => z)
  | succ n ih =>
    intro n' x1 x2 hp hq
    cases n' with
    | zero => exact absurd hq (fun z => z)
    | succ n' => exact nd_b hp hq (fun hp hq => h _ hp hq) (fun hp hq => nd_n hp hq (fun hp hq => nd_n hp hq (fun hp hq => ih _ _ _ hp hq)))
theorem nd_wpX_countTaken (G : Prop) (P Q : Int32 → Prop) {u : SX} (hp : wpX_countTaken P u) (hq : wpX_countTaken Q u) (h : ∀ a0, P a0 → Q a0 → G) : G := by
  obtain ⟨_, _, _, _, _, _, _, _, _, _, _, _, _, _, _, _, _⟩ := u
  unfold wpX_countTaken at hp hq
  exact nd_x hp hq (fun _ _ hp hq => nd_wX_countTaken_4 G _ _ h _ _ _ _ hp hq)
theorem nd_wpX_removeKey (G : Prop) (P Q : Int32 → SX → Prop) {u : SX} {p0 : Int32} (hp : wpX_removeKey P u p0) (hq : wpX_removeKey Q u p0) (h : ∀ a0 a1, P a0 a1 → Q a0 a1 → G) : G := by
  obtain ⟨_, _, _, _, _, _, _, _, _, _, _, _, _, _, _, _, _⟩ := u
  unfold wpX_removeKey at hp hq
  exact nd_wpX_isSlot G _ _ hp hq (fun _ hp hq => nd_b hp hq (fun hp hq => h _ _ hp hq) (fun hp hq => nd_b hp hq (fun hp hq => h _ _ hp hq) (fun hp hq => nd_wpX_isTaken G _ _ hp hq (fun _ hp hq => nd_b hp hq (fun hp hq => h _ _ hp hq) (fun hp hq => nd_wpX_countTaken G _ _ hp hq (fun _ hp hq => nd_b hp hq (fun hp hq => h _ _ hp hq) (fun hp hq => nd_wpX_emptySlot G _ _ hp hq (fun  u hp hq => by
  obtain ⟨_, _, _, _, _, _, _, _, _, _, _, _, _, _, _, _, _⟩ := u
  exact nd_wpX_countTaken G _ _ hp hq (fun _ hp hq => h _ _ hp hq)))))))))
theorem nd_wpY_badSlot (G : Prop) (P Q : Int32 → Prop) {u : SY} {p0 : Int32} (hp : wpY_badSlot P u p0) (hq : wpY_badSlot Q u p0) (h : ∀ a0, P a0 → Q a0 → G) : G := by
  obtain ⟨_, _, _, _, _, _, _, _, _, _, _⟩ := u
  unfold wpY_badSlot at hp hq
  exact nd_b hp hq (fun hp hq => h _ hp hq) (fun hp hq => nd_b hp hq (fun hp hq => h _ hp hq) (fun hp hq => h _ hp hq))
theorem nd_wY_countSlots_4 (G : Prop) (P Q : Int32 → Prop) (h : ∀ a0, P a0 → Q a0 → G) {f_isThere : Int32} {f_isOpen : Int32} {f_left : Int32} {f_hasCopy : Int32} {f_isStale : Int32} {a_cells : Nat → Int32} {a_damaged : Nat → Int32} {a_used : Nat → Int32} {a_phrases : Nat → Int32} {a_copyUsed : Nat → Int32} {a_copyPhrases : Nat → Int32} :
    ∀ (n n' : Nat) (x1 : Int32) (x2 : Int32), wY_countSlots_4 P f_isThere f_isOpen f_left f_hasCopy f_isStale a_cells a_damaged a_used a_phrases a_copyUsed a_copyPhrases n x1 x2 → wY_countSlots_4 Q f_isThere f_isOpen f_left f_hasCopy f_isStale a_cells a_damaged a_used a_phrases a_copyUsed a_copyPhrases n' x1 x2 → G := by
  intro n
  induction n with
  | zero => intro n' x1 x2 hp; exact absurd hp (fun z => z)
  | succ n ih =>
    intro n' x1 x2 hp hq
    cases n' with
    | zero => exact absurd hq (fun z => z)
    | succ n' => exact nd_b hp hq (fun hp hq => h _ hp hq) (fun hp hq => nd_a hp hq (fun hp hq => nd_b hp hq (fun hp hq => nd_n hp hq (fun hp hq => ih _ _ _ hp hq)) (fun hp hq => nd_n hp hq (fun hp hq => nd_n hp hq (fun hp hq => ih _ _ _ hp hq)))))
theorem nd_wpY_countSlots (G : Prop) (P Q : Int32 → Prop) {u : SY} (hp : wpY_countSlots P u) (hq : wpY_countSlots Q u) (h : ∀ a0, P a0 → Q a0 → G) : G := by
  obtain ⟨_, _, _, _, _, _, _, _, _, _, _⟩ := u
  unfold wpY_countSlots at hp hq
  exact nd_x hp hq (fun _ _ hp hq => nd_wY_countSlots_4 G _ _ h _ _ _ _ hp hq)
theorem nd_wpY_removeKey (G : Prop) (P Q : Int32 → SY → Prop) {u : SY} {p0 : Int32} (hp : wpY_removeKey P u p0) (hq : wpY_removeKey Q u p0) (h : ∀ a0 a1, P a0 a1 → Q a0 a1 → G) : G := by
  obtain ⟨_, _, _, _, _, _, _, _, _, _, _⟩ := u
  unfold wpY_removeKey at hp hq
  exact nd_wpY_badSlot G _ _ hp hq (fun _ hp hq => nd_b hp hq (fun hp hq => nd_b hp hq (fun hp hq => h _ _ hp hq) (fun hp hq => nd_a hp hq (fun hp hq => nd_b hp hq (fun hp hq => h _ _ hp hq) (fun hp hq => nd_wpY_countSlots G _ _ hp hq (fun _ hp hq => nd_b hp hq (fun hp hq => h _ _ hp hq) (fun hp hq => nd_a hp hq (fun hp hq => nd_n hp hq (fun hp hq => nd_wpY_countSlots G _ _ hp hq (fun _ hp hq => h _ _ hp hq))))))))) (fun hp hq => h _ _ hp hq))
theorem nd_wpX_changeKey (G : Prop) (P Q : Int32 → SX → Prop) {u : SX} {p0 : Int32} {p1 : Int32} (hp : wpX_changeKey P u p0 p1) (hq : wpX_changeKey Q u p0 p1) (h : ∀ a0 a1, P a0 a1 → Q a0 a1 → G) : G := by
  obtain ⟨_, _, _, _, _, _, _, _, _, _, _, _, _, _, _, _, _⟩ := u
  unfold wpX_changeKey at hp hq
  exact nd_wpX_isSlot G _ _ hp hq (fun _ hp hq => nd_b hp hq (fun hp hq => h _ _ hp hq) (fun hp hq => nd_b hp hq (fun hp hq => h _ _ hp hq) (fun hp hq => nd_wpX_isTaken G _ _ hp hq (fun _ hp hq => nd_b hp hq (fun hp hq => h _ _ hp hq) (fun hp hq => nd_wpX_findSlot G _ _ hp hq (fun _ u hp hq => by
  obtain ⟨_, _, _, _, _, _, _, _, _, _, _, _, _, _, _, _, _⟩ := u
  exact nd_b hp hq (fun hp hq => h _ _ hp hq) (fun hp hq => nd_b hp hq (fun hp hq => nd_wpX_putSlot G _ _ hp hq (fun  u hp hq => by
  obtain ⟨_, _, _, _, _, _, _, _, _, _, _, _, _, _, _, _, _⟩ := u
  exact h _ _ hp hq)) (fun hp hq => h _ _ hp hq))))))))
theorem nd_wpY_changeKey (G : Prop) (P Q : Int32 → SY → Prop) {u : SY} {p0 : Int32} {p1 : Int32} (hp : wpY_changeKey P u p0 p1) (hq : wpY_changeKey Q u p0 p1) (h : ∀ a0 a1, P a0 a1 → Q a0 a1 → G) : G := by
  obtain ⟨_, _, _, _, _, _, _, _, _, _, _⟩ := u
  unfold wpY_changeKey at hp hq
  exact nd_wpY_badSlot G _ _ hp hq (fun _ hp hq => nd_b hp hq (fun hp hq => nd_b hp hq (fun hp hq => h _ _ hp hq) (fun hp hq => nd_a hp hq (fun hp hq => nd_b hp hq (fun hp hq => h _ _ hp hq) (fun hp hq => nd_wpY_find G _ _ hp hq (fun _ hp hq => nd_b hp hq (fun hp hq => h _ _ hp hq) (fun hp hq => nd_b hp hq (fun hp hq => nd_a hp hq (fun hp hq => nd_n hp hq (fun hp hq => h _ _ hp hq))) (fun hp hq => h _ _ hp hq))))))) (fun hp hq => h _ _ hp hq))
theorem nd_wpX_slots (G : Prop) (P Q : Int32 → Prop) {u : SX} (hp : wpX_slots P u) (hq : wpX_slots Q u) (h : ∀ a0, P a0 → Q a0 → G) : G := by
  obtain ⟨_, _, _, _, _, _, _, _, _, _, _, _, _, _, _, _, _⟩ := u
  unfold wpX_slots at hp hq
  exact h _ hp hq
theorem nd_wY_slots_4 (G : Prop) (P Q : Int32 → Prop) (h : ∀ a0, P a0 → Q a0 → G) {f_isThere : Int32} {f_isOpen : Int32} {f_left : Int32} {f_hasCopy : Int32} {f_isStale : Int32} {a_cells : Nat → Int32} {a_damaged : Nat → Int32} {a_used : Nat → Int32} {a_phrases : Nat → Int32} {a_copyUsed : Nat → Int32} {a_copyPhrases : Nat → Int32} :
    ∀ (n n' : Nat) (x1 : Int32) (x2 : Int32), wY_slots_4 P f_isThere f_isOpen f_left f_hasCopy f_isStale a_cells a_damaged a_used a_phrases a_copyUsed a_copyPhrases n x1 x2 → wY_slots_4 Q f_isThere f_isOpen f_left f_hasCopy f_isStale a_cells a_damaged a_used a_phrases a_copyUsed a_copyPhrases n' x1 x2 → G := by
  intro n
  induction n with
  | zero => intro n' x1 x2 hp; exact absurd hp (fun z => z)
  | succ n ih =>
    intro n' x1 x2 hp hq
    cases n' with
    | zero => exact absurd hq (fun z => z)
    | succ n' => exact nd_b hp hq (fun hp hq => h _ hp hq) (fun hp hq => nd_b hp hq (fun hp hq => nd_n hp hq (fun hp hq => ih _ _ _ hp hq)) (fun hp hq => nd_a hp hq (fun hp hq => nd_b hp hq (fun hp hq => nd_n hp hq (fun hp hq => ih _ _ _ hp hq)) (fun hp hq => nd_n hp hq (fun hp hq => nd_n hp hq (fun hp hq => ih _ _ _ hp hq))))))
theorem nd_wpY_slots (G : Prop) (P Q : Int32 → Prop) {u : SY} (hp : wpY_slots P u) (hq : wpY_slots Q u) (h : ∀ a0, P a0 → Q a0 → G) : G := by
  obtain ⟨_, _, _, _, _, _, _, _, _, _, _⟩ := u
  unfold wpY_slots at hp hq
  exact nd_x hp hq (fun _ _ hp hq => nd_wY_slots_4 G _ _ h _ _ _ _ hp hq)
theorem nd_wX_slotOf_27 (G : Prop) (P Q : Int32 → SX → Prop) {x2 : Int32} {f_present : Int32} {f_open : Int32} {f_copied : Int32} {f_copyStale : Int32} {f_taken : Int32} {f_copyTaken : Int32} {f_volumeEpoch : Int32} {f_formats : Int32} {a_kept : Nat → Int32} {a_epochs : Nat → Int32} {a_versions : Nat → Int32} {a_slotWords : Nat → Int32} {a_copyWords : Nat → Int32} {a_key : Nat → Int32} {a_seed : Nat → Int32} {a_stream : Nat → Int32} {a_work : Nat → Int32} (hp : wX_slotOf_27 P x2 f_present f_open f_copied f_copyStale f_taken f_copyTaken f_volumeEpoch f_formats a_kept a_epochs a_versions a_slotWords a_copyWords a_key a_seed a_stream a_work) (hq : wX_slotOf_27 Q x2 f_present f_open f_copied f_copyStale f_taken f_copyTaken f_volumeEpoch f_formats a_kept a_epochs a_versions a_slotWords a_copyWords a_key a_seed a_stream a_work) (h : ∀ a0 a1, P a0 a1 → Q a0 a1 → G) : G := by
  unfold wX_slotOf_27 at hp hq
  exact nd_b hp hq (fun hp hq => h _ _ hp hq) (fun hp hq => h _ _ hp hq)
theorem nd_wpX_slotOf (G : Prop) (P Q : Int32 → SX → Prop) {u : SX} {p0 : Int32} (hp : wpX_slotOf P u p0) (hq : wpX_slotOf Q u p0) (h : ∀ a0 a1, P a0 a1 → Q a0 a1 → G) : G := by
  obtain ⟨_, _, _, _, _, _, _, _, _, _, _, _, _, _, _, _, _⟩ := u
  unfold wpX_slotOf at hp hq
  exact nd_b hp hq (fun hp hq => h _ _ hp hq) (fun hp hq => nd_wpX_findSlot G _ _ hp hq (fun _ u hp hq => by
  obtain ⟨_, _, _, _, _, _, _, _, _, _, _, _, _, _, _, _, _⟩ := u
  exact nd_b hp hq (fun hp hq => nd_wpX_forgetSecrets G _ _ hp hq (fun  u hp hq => by
  obtain ⟨_, _, _, _, _, _, _, _, _, _, _, _, _, _, _, _, _⟩ := u
  exact nd_wX_slotOf_27 G _ _ hp hq h)) (fun hp hq => nd_wX_slotOf_27 G _ _ hp hq h)))
theorem nd_wpY_slotOf (G : Prop) (P Q : Int32 → Prop) {u : SY} {p0 : Int32} (hp : wpY_slotOf P u p0) (hq : wpY_slotOf Q u p0) (h : ∀ a0, P a0 → Q a0 → G) : G := by
  obtain ⟨_, _, _, _, _, _, _, _, _, _, _⟩ := u
  unfold wpY_slotOf at hp hq
  exact nd_b hp hq (fun hp hq => h _ hp hq) (fun hp hq => nd_wpY_find G _ _ hp hq (fun _ hp hq => nd_b hp hq (fun hp hq => h _ hp hq) (fun hp hq => h _ hp hq)))
theorem nd_wX_countToRenew_4 (G : Prop) (P Q : Int32 → Prop) (h : ∀ a0, P a0 → Q a0 → G) {f_present : Int32} {f_open : Int32} {f_copied : Int32} {f_copyStale : Int32} {f_taken : Int32} {f_copyTaken : Int32} {f_volumeEpoch : Int32} {f_formats : Int32} {a_kept : Nat → Int32} {a_epochs : Nat → Int32} {a_versions : Nat → Int32} {a_slotWords : Nat → Int32} {a_copyWords : Nat → Int32} {a_key : Nat → Int32} {a_seed : Nat → Int32} {a_stream : Nat → Int32} {a_work : Nat → Int32} :
    ∀ (n n' : Nat) (x1 : Int32) (x2 : Int32), wX_countToRenew_4 P f_present f_open f_copied f_copyStale f_taken f_copyTaken f_volumeEpoch f_formats a_kept a_epochs a_versions a_slotWords a_copyWords a_key a_seed a_stream a_work n x1 x2 → wX_countToRenew_4 Q f_present f_open f_copied f_copyStale f_taken f_copyTaken f_volumeEpoch f_formats a_kept a_epochs a_versions a_slotWords a_copyWords a_key a_seed a_stream a_work n' x1 x2 → G := by
  intro n
  induction n with
  | zero => intro n' x1 x2 hp; exact absurd hp (fun z => z)
  | succ n ih =>
    intro n' x1 x2 hp hq
    cases n' with
    | zero => exact absurd hq (fun z => z)
    | succ n' => exact nd_b hp hq (fun hp hq => h _ hp hq) (fun hp hq => nd_a hp hq (fun hp hq => nd_b hp hq (fun hp hq => nd_n hp hq (fun hp hq => ih _ _ _ hp hq)) (fun hp hq => nd_n hp hq (fun hp hq => nd_n hp hq (fun hp hq => ih _ _ _ hp hq)))))
theorem nd_wpX_countToRenew (G : Prop) (P Q : Int32 → Prop) {u : SX} (hp : wpX_countToRenew P u) (hq : wpX_countToRenew Q u) (h : ∀ a0, P a0 → Q a0 → G) : G := by
  obtain ⟨_, _, _, _, _, _, _, _, _, _, _, _, _, _, _, _, _⟩ := u
  unfold wpX_countToRenew at hp hq
  exact nd_x hp hq (fun _ _ hp hq => nd_wX_countToRenew_4 G _ _ h _ _ _ _ hp hq)
theorem nd_wX_renew_73 (G : Prop) (P Q : Int32 → SX → Prop) {f_present : Int32} {f_open : Int32} {f_copied : Int32} {f_copyStale : Int32} {f_taken : Int32} {f_copyTaken : Int32} {f_volumeEpoch : Int32} {f_formats : Int32} {a_kept : Nat → Int32} {a_epochs : Nat → Int32} {a_versions : Nat → Int32} {a_slotWords : Nat → Int32} {a_copyWords : Nat → Int32} {a_key : Nat → Int32} {a_seed : Nat → Int32} {a_stream : Nat → Int32} {a_work : Nat → Int32} (hp : wX_renew_73 P f_present f_open f_copied f_copyStale f_taken f_copyTaken f_volumeEpoch f_formats a_kept a_epochs a_versions a_slotWords a_copyWords a_key a_seed a_stream a_work) (hq : wX_renew_73 Q f_present f_open f_copied f_copyStale f_taken f_copyTaken f_volumeEpoch f_formats a_kept a_epochs a_versions a_slotWords a_copyWords a_key a_seed a_stream a_work) (h : ∀ a0 a1, P a0 a1 → Q a0 a1 → G) : G := by
  unfold wX_renew_73 at hp hq
  exact nd_wpX_countToRenew G _ _ hp hq (fun _ hp hq => h _ _ hp hq)
theorem nd_wpX_writeRenewed (G : Prop) (P Q : SX → Prop) {u : SX} {p0 : Int32} {p1 : Int32} (hp : wpX_writeRenewed P u p0 p1) (hq : wpX_writeRenewed Q u p0 p1) (h : ∀ a0, P a0 → Q a0 → G) : G := by
  obtain ⟨_, _, _, _, _, _, _, _, _, _, _, _, _, _, _, _, _⟩ := u
  unfold wpX_writeRenewed at hp hq
  exact nd_a hp hq (fun hp hq => nd_wpX_rowOf G _ _ hp hq (fun _ hp hq => nd_a hp hq (fun hp hq => nd_wpX_sumOf__kept G _ _ hp hq (fun _ hp hq => nd_n hp hq (fun hp hq => nd_wpX_unsealToWork G _ _ hp hq (fun  u hp hq => by
  obtain ⟨_, _, _, _, _, _, _, _, _, _, _, _, _, _, _, _, _⟩ := u
  exact nd_wpX_sealWork G _ _ hp hq (fun  u hp hq => by
  obtain ⟨_, _, _, _, _, _, _, _, _, _, _, _, _, _, _, _, _⟩ := u
  exact nd_n hp hq (fun hp hq => nd_wpX_rowOf G _ _ hp hq (fun _ hp hq => nd_wpX_keepWork G _ _ hp hq (fun  u hp hq => by
  obtain ⟨_, _, _, _, _, _, _, _, _, _, _, _, _, _, _, _, _⟩ := u
  exact h _ hp hq))))))))))
theorem nd_wX_finishRenewed_24 (G : Prop) (P Q : SX → Prop) (h : ∀ a0, P a0 → Q a0 → G) {x2 : Int32} {f_present : Int32} {f_open : Int32} {f_copied : Int32} {f_copyStale : Int32} {f_taken : Int32} {f_copyTaken : Int32} {f_volumeEpoch : Int32} {f_formats : Int32} :
    ∀ (n n' : Nat) (x3 : Int32) (a_kept : (Nat → Int32)) (a_epochs : (Nat → Int32)) (a_versions : (Nat → Int32)) (a_slotWords : (Nat → Int32)) (a_copyWords : (Nat → Int32)) (a_key : (Nat → Int32)) (a_seed : (Nat → Int32)) (a_stream : (Nat → Int32)) (a_work : (Nat → Int32)), wX_finishRenewed_24 P x2 f_present f_open f_copied f_copyStale f_taken f_copyTaken f_volumeEpoch f_formats n x3 a_kept a_epochs a_versions a_slotWords a_copyWords a_key a_seed a_stream a_work → wX_finishRenewed_24 Q x2 f_present f_open f_copied f_copyStale f_taken f_copyTaken f_volumeEpoch f_formats n' x3 a_kept a_epochs a_versions a_slotWords a_copyWords a_key a_seed a_stream a_work → G := by
  intro n
  induction n with
  | zero => intro n' x3 a_kept a_epochs a_versions a_slotWords a_copyWords a_key a_seed a_stream a_work hp; exact absurd hp (fun z => z)
  | succ n ih =>
    intro n' x3 a_kept a_epochs a_versions a_slotWords a_copyWords a_key a_seed a_stream a_work hp hq
    cases n' with
    | zero => exact absurd hq (fun z => z)
    | succ n' => exact nd_b hp hq (fun hp hq => h _ hp hq) (fun hp hq => nd_a hp hq (fun hp hq => nd_n hp hq (fun hp hq => nd_n hp hq (fun hp hq => ih _ _ _ _ _ _ _ _ _ _ _ hp hq))))
theorem nd_wpX_finishRenewed (G : Prop) (P Q : SX → Prop) {u : SX} {p0 : Int32} (hp : wpX_finishRenewed P u p0) (hq : wpX_finishRenewed Q u p0) (h : ∀ a0, P a0 → Q a0 → G) : G := by
  obtain ⟨_, _, _, _, _, _, _, _, _, _, _, _, _, _, _, _, _⟩ := u
  unfold wpX_finishRenewed at hp hq
  exact nd_a hp hq (fun hp hq => nd_wpX_rowOf G _ _ hp hq (fun _ hp hq => nd_a hp hq (fun hp hq => nd_n hp hq (fun hp hq => nd_x hp hq (fun _ _ hp hq => nd_wX_finishRenewed_24 G _ _ h _ _ _ _ _ _ _ _ _ _ _ _ hp hq)))))
theorem nd_wX_renew_42 (G : Prop) (P Q : Int32 → SX → Prop) (h : ∀ a0 a1, P a0 a1 → Q a0 a1 → G) {x1 : Int32} {x2 : Int32} :
    ∀ (n n' : Nat) (x3 : Int32) (f_present : Int32) (f_open : Int32) (f_copied : Int32) (f_copyStale : Int32) (f_taken : Int32) (f_copyTaken : Int32) (f_volumeEpoch : Int32) (f_formats : Int32) (a_kept : (Nat → Int32)) (a_epochs : (Nat → Int32)) (a_versions : (Nat → Int32)) (a_slotWords : (Nat → Int32)) (a_copyWords : (Nat → Int32)) (a_key : (Nat → Int32)) (a_seed : (Nat → Int32)) (a_stream : (Nat → Int32)) (a_work : (Nat → Int32)), wX_renew_42 P x1 x2 n x3 f_present f_open f_copied f_copyStale f_taken f_copyTaken f_volumeEpoch f_formats a_kept a_epochs a_versions a_slotWords a_copyWords a_key a_seed a_stream a_work → wX_renew_42 Q x1 x2 n' x3 f_present f_open f_copied f_copyStale f_taken f_copyTaken f_volumeEpoch f_formats a_kept a_epochs a_versions a_slotWords a_copyWords a_key a_seed a_stream a_work → G := by
  intro n
  induction n with
  | zero => intro n' x3 f_present f_open f_copied f_copyStale f_taken f_copyTaken f_volumeEpoch f_formats a_kept a_epochs a_versions a_slotWords a_copyWords a_key a_seed a_stream a_work hp; exact absurd hp (fun z => z)
  | succ n ih =>
    intro n' x3 f_present f_open f_copied f_copyStale f_taken f_copyTaken f_volumeEpoch f_formats a_kept a_epochs a_versions a_slotWords a_copyWords a_key a_seed a_stream a_work hp hq
    cases n' with
    | zero => exact absurd hq (fun z => z)
    | succ n' => exact nd_b hp hq (fun hp hq => nd_wX_renew_73 G _ _ hp hq h) (fun hp hq => nd_b hp hq (fun hp hq => nd_wX_renew_73 G _ _ hp hq h) (fun hp hq => nd_wpX_writeRenewed G _ _ hp hq (fun  u hp hq => by
      obtain ⟨_, _, _, _, _, _, _, _, _, _, _, _, _, _, _, _, _⟩ := u
      exact nd_wpX_finishRenewed G _ _ hp hq (fun  u hp hq => by
      obtain ⟨_, _, _, _, _, _, _, _, _, _, _, _, _, _, _, _, _⟩ := u
      exact nd_n hp hq (fun hp hq => ih _ _ _ _ _ _ _ _ _ _ _ _ _ _ _ _ _ _ _ hp hq)))))
theorem nd_wX_renew_32 (G : Prop) (P Q : Int32 → SX → Prop) {x1 : Int32} {f_present : Int32} {f_open : Int32} {f_copied : Int32} {f_copyStale : Int32} {f_taken : Int32} {f_copyTaken : Int32} {f_volumeEpoch : Int32} {f_formats : Int32} {a_kept : Nat → Int32} {a_epochs : Nat → Int32} {a_versions : Nat → Int32} {a_slotWords : Nat → Int32} {a_copyWords : Nat → Int32} {a_key : Nat → Int32} {a_seed : Nat → Int32} {a_stream : Nat → Int32} {a_work : Nat → Int32} (hp : wX_renew_32 P x1 f_present f_open f_copied f_copyStale f_taken f_copyTaken f_volumeEpoch f_formats a_kept a_epochs a_versions a_slotWords a_copyWords a_key a_seed a_stream a_work) (hq : wX_renew_32 Q x1 f_present f_open f_copied f_copyStale f_taken f_copyTaken f_volumeEpoch f_formats a_kept a_epochs a_versions a_slotWords a_copyWords a_key a_seed a_stream a_work) (h : ∀ a0 a1, P a0 a1 → Q a0 a1 → G) : G := by
  unfold wX_renew_32 at hp hq
  exact nd_wpX_countToRenew G _ _ hp hq (fun _ hp hq => nd_n hp hq (fun hp hq => nd_x hp hq (fun _ _ hp hq => nd_wX_renew_42 G _ _ h _ _ _ _ _ _ _ _ _ _ _ _ _ _ _ _ _ _ _ _ hp hq)))
theorem nd_wpX_renew (G : Prop) (P Q : Int32 → SX → Prop) {u : SX} {p0 : Int32} (hp : wpX_renew P u p0) (hq : wpX_renew Q u p0) (h : ∀ a0 a1, P a0 a1 → Q a0 a1 → G) : G := by
  obtain ⟨_, _, _, _, _, _, _, _, _, _, _, _, _, _, _, _, _⟩ := u
  unfold wpX_renew at hp hq
  exact nd_b hp hq (fun hp hq => h _ _ hp hq) (fun hp hq => nd_wpX_countToRenew G _ _ hp hq (fun _ hp hq => nd_b hp hq (fun hp hq => nd_n hp hq (fun hp hq => nd_wX_renew_32 G _ _ hp hq h)) (fun hp hq => nd_wX_renew_32 G _ _ hp hq h)))
theorem nd_wY_renew_28 (G : Prop) (P Q : Int32 → SY → Prop) {x1 : Int32} {f_isThere : Int32} {f_isOpen : Int32} {f_left : Int32} {f_hasCopy : Int32} {f_isStale : Int32} {a_cells : Nat → Int32} {a_damaged : Nat → Int32} {a_used : Nat → Int32} {a_phrases : Nat → Int32} {a_copyUsed : Nat → Int32} {a_copyPhrases : Nat → Int32} (hp : wY_renew_28 P x1 f_isThere f_isOpen f_left f_hasCopy f_isStale a_cells a_damaged a_used a_phrases a_copyUsed a_copyPhrases) (hq : wY_renew_28 Q x1 f_isThere f_isOpen f_left f_hasCopy f_isStale a_cells a_damaged a_used a_phrases a_copyUsed a_copyPhrases) (h : ∀ a0 a1, P a0 a1 → Q a0 a1 → G) : G := by
  unfold wY_renew_28 at hp hq
  exact nd_b hp hq (fun hp hq => h _ _ hp hq) (fun hp hq => nd_b hp hq (fun hp hq => nd_n hp hq (fun hp hq => h _ _ hp hq)) (fun hp hq => h _ _ hp hq))
theorem nd_wpY_renew (G : Prop) (P Q : Int32 → SY → Prop) {u : SY} {p0 : Int32} (hp : wpY_renew P u p0) (hq : wpY_renew Q u p0) (h : ∀ a0 a1, P a0 a1 → Q a0 a1 → G) : G := by
  obtain ⟨_, _, _, _, _, _, _, _, _, _, _⟩ := u
  unfold wpY_renew at hp hq
  exact nd_b hp hq (fun hp hq => h _ _ hp hq) (fun hp hq => nd_b hp hq (fun hp hq => nd_wY_renew_28 G _ _ hp hq h) (fun hp hq => nd_wY_renew_28 G _ _ hp hq h))
theorem nd_wpX_toRenew (G : Prop) (P Q : Int32 → Prop) {u : SX} (hp : wpX_toRenew P u) (hq : wpX_toRenew Q u) (h : ∀ a0, P a0 → Q a0 → G) : G := by
  obtain ⟨_, _, _, _, _, _, _, _, _, _, _, _, _, _, _, _, _⟩ := u
  unfold wpX_toRenew at hp hq
  exact nd_wpX_countToRenew G _ _ hp hq (fun _ hp hq => h _ hp hq)
theorem nd_wpY_toRenew (G : Prop) (P Q : Int32 → Prop) {u : SY} (hp : wpY_toRenew P u) (hq : wpY_toRenew Q u) (h : ∀ a0, P a0 → Q a0 → G) : G := by
  obtain ⟨_, _, _, _, _, _, _, _, _, _, _⟩ := u
  unfold wpY_toRenew at hp hq
  exact h _ hp hq
theorem nd_wX_saveSlots_62 (G : Prop) (P Q : Int32 → SX → Prop) {z0 : Int32} {f_present : Int32} {f_open : Int32} {f_copied : Int32} {f_copyStale : Int32} {f_taken : Int32} {f_copyTaken : Int32} {f_volumeEpoch : Int32} {f_formats : Int32} {a_kept : Nat → Int32} {a_epochs : Nat → Int32} {a_versions : Nat → Int32} {a_slotWords : Nat → Int32} {a_copyWords : Nat → Int32} {a_key : Nat → Int32} {a_seed : Nat → Int32} {a_stream : Nat → Int32} {a_work : Nat → Int32} (hp : wX_saveSlots_62 P z0 f_present f_open f_copied f_copyStale f_taken f_copyTaken f_volumeEpoch f_formats a_kept a_epochs a_versions a_slotWords a_copyWords a_key a_seed a_stream a_work) (hq : wX_saveSlots_62 Q z0 f_present f_open f_copied f_copyStale f_taken f_copyTaken f_volumeEpoch f_formats a_kept a_epochs a_versions a_slotWords a_copyWords a_key a_seed a_stream a_work) (h : ∀ a0 a1, P a0 a1 → Q a0 a1 → G) : G := by
  unfold wX_saveSlots_62 at hp hq
  exact nd_a hp hq (fun hp hq => nd_a hp hq (fun hp hq => nd_wpX_countTaken G _ _ hp hq (fun _ hp hq => h _ _ hp hq)))
theorem nd_wX_saveSlots_12 (G : Prop) (P Q : Int32 → SX → Prop) (h : ∀ a0 a1, P a0 a1 → Q a0 a1 → G) {f_present : Int32} {f_open : Int32} {f_copied : Int32} {f_copyStale : Int32} {f_taken : Int32} {f_copyTaken : Int32} {f_volumeEpoch : Int32} {f_formats : Int32} :
    ∀ (n n' : Nat) (x1 : Int32) (a_kept : (Nat → Int32)) (a_epochs : (Nat → Int32)) (a_versions : (Nat → Int32)) (a_slotWords : (Nat → Int32)) (a_copyWords : (Nat → Int32)) (a_key : (Nat → Int32)) (a_seed : (Nat → Int32)) (a_stream : (Nat → Int32)) (a_work : (Nat → Int32)), wX_saveSlots_12 P f_present f_open f_copied f_copyStale f_taken f_copyTaken f_volumeEpoch f_formats n x1 a_kept a_epochs a_versions a_slotWords a_copyWords a_key a_seed a_stream a_work → wX_saveSlots_12 Q f_present f_open f_copied f_copyStale f_taken f_copyTaken f_volumeEpoch f_formats n' x1 a_kept a_epochs a_versions a_slotWords a_copyWords a_key a_seed a_stream a_work → G := by
  intro n
  induction n with
  | zero => intro n' x1 a_kept a_epochs a_versions a_slotWords a_copyWords a_key a_seed a_stream a_work hp; exact absurd hp (fun z => z)
  | succ n ih =>
    intro n' x1 a_kept a_epochs a_versions a_slotWords a_copyWords a_key a_seed a_stream a_work hp hq
    cases n' with
    | zero => exact absurd hq (fun z => z)
    | succ n' => exact nd_b hp hq (fun hp hq => nd_wpX_countToRenew G _ _ hp hq (fun _ hp hq => nd_b hp hq (fun hp hq => nd_wX_saveSlots_62 G _ _ hp hq h) (fun hp hq => nd_wX_saveSlots_62 G _ _ hp hq h))) (fun hp hq => nd_a hp hq (fun hp hq => nd_a hp hq (fun hp hq => nd_n hp hq (fun hp hq => nd_n hp hq (fun hp hq => ih _ _ _ _ _ _ _ _ _ _ _ hp hq)))))
theorem nd_wpX_saveSlots (G : Prop) (P Q : Int32 → SX → Prop) {u : SX} (hp : wpX_saveSlots P u) (hq : wpX_saveSlots Q u) (h : ∀ a0 a1, P a0 a1 → Q a0 a1 → G) : G := by
  obtain ⟨_, _, _, _, _, _, _, _, _, _, _, _, _, _, _, _, _⟩ := u
  unfold wpX_saveSlots at hp hq
  exact nd_b hp hq (fun hp hq => h _ _ hp hq) (fun hp hq => nd_x hp hq (fun _ _ hp hq => nd_wX_saveSlots_12 G _ _ h _ _ _ _ _ _ _ _ _ _ _ _ hp hq))
theorem nd_wY_saveSlots_33 (G : Prop) (P Q : Int32 → SY → Prop) (h : ∀ a0 a1, P a0 a1 → Q a0 a1 → G) {f_isThere : Int32} {f_isOpen : Int32} {f_left : Int32} {f_hasCopy : Int32} {f_isStale : Int32} :
    ∀ (n n' : Nat) (x1 : Int32) (a_cells : (Nat → Int32)) (a_damaged : (Nat → Int32)) (a_used : (Nat → Int32)) (a_phrases : (Nat → Int32)) (a_copyUsed : (Nat → Int32)) (a_copyPhrases : (Nat → Int32)), wY_saveSlots_33 P f_isThere f_isOpen f_left f_hasCopy f_isStale n x1 a_cells a_damaged a_used a_phrases a_copyUsed a_copyPhrases → wY_saveSlots_33 Q f_isThere f_isOpen f_left f_hasCopy f_isStale n' x1 a_cells a_damaged a_used a_phrases a_copyUsed a_copyPhrases → G := by
  intro n
  induction n with
  | zero => intro n' x1 a_cells a_damaged a_used a_phrases a_copyUsed a_copyPhrases hp; exact absurd hp (fun z => z)
  | succ n ih =>
    intro n' x1 a_cells a_damaged a_used a_phrases a_copyUsed a_copyPhrases hp hq
    cases n' with
    | zero => exact absurd hq (fun z => z)
    | succ n' => exact nd_b hp hq (fun hp hq => nd_wpY_countSlots G _ _ hp hq (fun _ hp hq => h _ _ hp hq)) (fun hp hq => nd_a hp hq (fun hp hq => nd_a hp hq (fun hp hq => nd_n hp hq (fun hp hq => nd_a hp hq (fun hp hq => nd_a hp hq (fun hp hq => nd_n hp hq (fun hp hq => nd_n hp hq (fun hp hq => ih _ _ _ _ _ _ _ _ hp hq))))))))
theorem nd_wpY_saveSlots (G : Prop) (P Q : Int32 → SY → Prop) {u : SY} (hp : wpY_saveSlots P u) (hq : wpY_saveSlots Q u) (h : ∀ a0 a1, P a0 a1 → Q a0 a1 → G) : G := by
  obtain ⟨_, _, _, _, _, _, _, _, _, _, _⟩ := u
  unfold wpY_saveSlots at hp hq
  exact nd_b hp hq (fun hp hq => h _ _ hp hq) (fun hp hq => nd_b hp hq (fun hp hq => nd_x hp hq (fun _ _ hp hq => nd_wY_saveSlots_33 G _ _ h _ _ _ _ _ _ _ _ _ hp hq)) (fun hp hq => nd_x hp hq (fun _ _ hp hq => nd_wY_saveSlots_33 G _ _ h _ _ _ _ _ _ _ _ _ hp hq)))
theorem nd_wX_restoreSlots_29 (G : Prop) (P Q : Int32 → SX → Prop) (h : ∀ a0 a1, P a0 a1 → Q a0 a1 → G) {f_present : Int32} {f_open : Int32} {f_copied : Int32} {f_copyStale : Int32} {f_taken : Int32} {f_copyTaken : Int32} {f_volumeEpoch : Int32} {f_formats : Int32} :
    ∀ (n n' : Nat) (x1 : Int32) (a_kept : (Nat → Int32)) (a_epochs : (Nat → Int32)) (a_versions : (Nat → Int32)) (a_slotWords : (Nat → Int32)) (a_copyWords : (Nat → Int32)) (a_key : (Nat → Int32)) (a_seed : (Nat → Int32)) (a_stream : (Nat → Int32)) (a_work : (Nat → Int32)), wX_restoreSlots_29 P f_present f_open f_copied f_copyStale f_taken f_copyTaken f_volumeEpoch f_formats n x1 a_kept a_epochs a_versions a_slotWords a_copyWords a_key a_seed a_stream a_work → wX_restoreSlots_29 Q f_present f_open f_copied f_copyStale f_taken f_copyTaken f_volumeEpoch f_formats n' x1 a_kept a_epochs a_versions a_slotWords a_copyWords a_key a_seed a_stream a_work → G := by
  intro n
  induction n with
  | zero => intro n' x1 a_kept a_epochs a_versions a_slotWords a_copyWords a_key a_seed a_stream a_work hp; exact absurd hp (fun z => z)
  | succ n ih =>
    intro n' x1 a_kept a_epochs a_versions a_slotWords a_copyWords a_key a_seed a_stream a_work hp hq
    cases n' with
    | zero => exact absurd hq (fun z => z)
    | succ n' => exact nd_b hp hq (fun hp hq => nd_wpX_close G _ _ hp hq (fun  u hp hq => by
      obtain ⟨_, _, _, _, _, _, _, _, _, _, _, _, _, _, _, _, _⟩ := u
      exact nd_wpX_countTaken G _ _ hp hq (fun _ hp hq => h _ _ hp hq))) (fun hp hq => nd_a hp hq (fun hp hq => nd_a hp hq (fun hp hq => nd_n hp hq (fun hp hq => nd_n hp hq (fun hp hq => ih _ _ _ _ _ _ _ _ _ _ _ hp hq)))))
theorem nd_wpX_restoreSlots (G : Prop) (P Q : Int32 → SX → Prop) {u : SX} (hp : wpX_restoreSlots P u) (hq : wpX_restoreSlots Q u) (h : ∀ a0 a1, P a0 a1 → Q a0 a1 → G) : G := by
  obtain ⟨_, _, _, _, _, _, _, _, _, _, _, _, _, _, _, _, _⟩ := u
  unfold wpX_restoreSlots at hp hq
  exact nd_b hp hq (fun hp hq => h _ _ hp hq) (fun hp hq => nd_b hp hq (fun hp hq => h _ _ hp hq) (fun hp hq => nd_b hp hq (fun hp hq => nd_x hp hq (fun _ _ hp hq => nd_wX_restoreSlots_29 G _ _ h _ _ _ _ _ _ _ _ _ _ _ _ hp hq)) (fun hp hq => h _ _ hp hq)))
theorem nd_wY_restoreSlots_36 (G : Prop) (P Q : Int32 → SY → Prop) (h : ∀ a0 a1, P a0 a1 → Q a0 a1 → G) {f_isThere : Int32} {f_isOpen : Int32} {f_left : Int32} {f_hasCopy : Int32} {f_isStale : Int32} :
    ∀ (n n' : Nat) (x1 : Int32) (a_cells : (Nat → Int32)) (a_damaged : (Nat → Int32)) (a_used : (Nat → Int32)) (a_phrases : (Nat → Int32)) (a_copyUsed : (Nat → Int32)) (a_copyPhrases : (Nat → Int32)), wY_restoreSlots_36 P f_isThere f_isOpen f_left f_hasCopy f_isStale n x1 a_cells a_damaged a_used a_phrases a_copyUsed a_copyPhrases → wY_restoreSlots_36 Q f_isThere f_isOpen f_left f_hasCopy f_isStale n' x1 a_cells a_damaged a_used a_phrases a_copyUsed a_copyPhrases → G := by
  intro n
  induction n with
  | zero => intro n' x1 a_cells a_damaged a_used a_phrases a_copyUsed a_copyPhrases hp; exact absurd hp (fun z => z)
  | succ n ih =>
    intro n' x1 a_cells a_damaged a_used a_phrases a_copyUsed a_copyPhrases hp hq
    cases n' with
    | zero => exact absurd hq (fun z => z)
    | succ n' => exact nd_b hp hq (fun hp hq => nd_wpY_countSlots G _ _ hp hq (fun _ hp hq => h _ _ hp hq)) (fun hp hq => nd_a hp hq (fun hp hq => nd_a hp hq (fun hp hq => nd_n hp hq (fun hp hq => nd_a hp hq (fun hp hq => nd_a hp hq (fun hp hq => nd_n hp hq (fun hp hq => nd_n hp hq (fun hp hq => ih _ _ _ _ _ _ _ _ hp hq))))))))
theorem nd_wpY_restoreSlots (G : Prop) (P Q : Int32 → SY → Prop) {u : SY} (hp : wpY_restoreSlots P u) (hq : wpY_restoreSlots Q u) (h : ∀ a0 a1, P a0 a1 → Q a0 a1 → G) : G := by
  obtain ⟨_, _, _, _, _, _, _, _, _, _, _⟩ := u
  unfold wpY_restoreSlots at hp hq
  exact nd_b hp hq (fun hp hq => h _ _ hp hq) (fun hp hq => nd_b hp hq (fun hp hq => h _ _ hp hq) (fun hp hq => nd_b hp hq (fun hp hq => nd_b hp hq (fun hp hq => nd_x hp hq (fun _ _ hp hq => nd_wY_restoreSlots_36 G _ _ h _ _ _ _ _ _ _ _ _ hp hq)) (fun hp hq => h _ _ hp hq)) (fun hp hq => h _ _ hp hq)))
theorem nd_wX_damage_50 (G : Prop) (P Q : Int32 → SX → Prop) {x1 : Int32} {z0 : Int32} {f_present : Int32} {f_open : Int32} {f_copied : Int32} {f_copyStale : Int32} {f_taken : Int32} {f_copyTaken : Int32} {f_volumeEpoch : Int32} {f_formats : Int32} {a_kept : Nat → Int32} {a_epochs : Nat → Int32} {a_versions : Nat → Int32} {a_slotWords : Nat → Int32} {a_copyWords : Nat → Int32} {a_key : Nat → Int32} {a_seed : Nat → Int32} {a_stream : Nat → Int32} {a_work : Nat → Int32} (hp : wX_damage_50 P x1 z0 f_present f_open f_copied f_copyStale f_taken f_copyTaken f_volumeEpoch f_formats a_kept a_epochs a_versions a_slotWords a_copyWords a_key a_seed a_stream a_work) (hq : wX_damage_50 Q x1 z0 f_present f_open f_copied f_copyStale f_taken f_copyTaken f_volumeEpoch f_formats a_kept a_epochs a_versions a_slotWords a_copyWords a_key a_seed a_stream a_work) (h : ∀ a0 a1, P a0 a1 → Q a0 a1 → G) : G := by
  unfold wX_damage_50 at hp hq
  exact nd_a hp hq (fun hp hq => nd_wpX_rowOf G _ _ hp hq (fun _ hp hq => nd_a hp hq (fun hp hq => nd_a hp hq (fun hp hq => nd_a hp hq (fun hp hq => nd_a hp hq (fun hp hq => nd_n hp hq (fun hp hq => h _ _ hp hq)))))))
theorem nd_wpX_damage (G : Prop) (P Q : Int32 → SX → Prop) {u : SX} {p0 : Int32} {p1 : Int32} (hp : wpX_damage P u p0 p1) (hq : wpX_damage Q u p0 p1) (h : ∀ a0 a1, P a0 a1 → Q a0 a1 → G) : G := by
  obtain ⟨_, _, _, _, _, _, _, _, _, _, _, _, _, _, _, _, _⟩ := u
  unfold wpX_damage at hp hq
  exact nd_wpX_isSector G _ _ hp hq (fun _ hp hq => nd_b hp hq (fun hp hq => h _ _ hp hq) (fun hp hq => nd_b hp hq (fun hp hq => h _ _ hp hq) (fun hp hq => nd_wpX_isDamaged G _ _ hp hq (fun _ hp hq => nd_b hp hq (fun hp hq => nd_a hp hq (fun hp hq => nd_n hp hq (fun hp hq => nd_b hp hq (fun hp hq => nd_wX_damage_50 G _ _ hp hq h) (fun hp hq => nd_wX_damage_50 G _ _ hp hq h)))) (fun hp hq => h _ _ hp hq)))))
theorem nd_wpY_damage (G : Prop) (P Q : Int32 → SY → Prop) {u : SY} {p0 : Int32} {p1 : Int32} (hp : wpY_damage P u p0 p1) (hq : wpY_damage Q u p0 p1) (h : ∀ a0 a1, P a0 a1 → Q a0 a1 → G) : G := by
  obtain ⟨_, _, _, _, _, _, _, _, _, _, _⟩ := u
  unfold wpY_damage at hp hq
  exact nd_wpY_badSector G _ _ hp hq (fun _ hp hq => nd_b hp hq (fun hp hq => nd_b hp hq (fun hp hq => h _ _ hp hq) (fun hp hq => nd_a hp hq (fun hp hq => nd_b hp hq (fun hp hq => nd_a hp hq (fun hp hq => nd_n hp hq (fun hp hq => h _ _ hp hq))) (fun hp hq => h _ _ hp hq)))) (fun hp hq => h _ _ hp hq))
theorem nd_wX_crash_35 (G : Prop) (P Q : Int32 → SX → Prop) {x2 : Int32} {f_present : Int32} {f_open : Int32} {f_copied : Int32} {f_copyStale : Int32} {f_taken : Int32} {f_copyTaken : Int32} {f_volumeEpoch : Int32} {f_formats : Int32} {a_kept : Nat → Int32} {a_epochs : Nat → Int32} {a_versions : Nat → Int32} {a_slotWords : Nat → Int32} {a_copyWords : Nat → Int32} {a_key : Nat → Int32} {a_seed : Nat → Int32} {a_stream : Nat → Int32} {a_work : Nat → Int32} (hp : wX_crash_35 P x2 f_present f_open f_copied f_copyStale f_taken f_copyTaken f_volumeEpoch f_formats a_kept a_epochs a_versions a_slotWords a_copyWords a_key a_seed a_stream a_work) (hq : wX_crash_35 Q x2 f_present f_open f_copied f_copyStale f_taken f_copyTaken f_volumeEpoch f_formats a_kept a_epochs a_versions a_slotWords a_copyWords a_key a_seed a_stream a_work) (h : ∀ a0 a1, P a0 a1 → Q a0 a1 → G) : G := by
  unfold wX_crash_35 at hp hq
  exact nd_wpX_close G _ _ hp hq (fun  u hp hq => by
  obtain ⟨_, _, _, _, _, _, _, _, _, _, _, _, _, _, _, _, _⟩ := u
  exact h _ _ hp hq)
theorem nd_wpX_crash (G : Prop) (P Q : Int32 → SX → Prop) {u : SX} {p0 : Int32} (hp : wpX_crash P u p0) (hq : wpX_crash Q u p0) (h : ∀ a0 a1, P a0 a1 → Q a0 a1 → G) : G := by
  obtain ⟨_, _, _, _, _, _, _, _, _, _, _, _, _, _, _, _, _⟩ := u
  unfold wpX_crash at hp hq
  exact nd_b hp hq (fun hp hq => h _ _ hp hq) (fun hp hq => nd_wpX_countToRenew G _ _ hp hq (fun _ hp hq => nd_b hp hq (fun hp hq => nd_wX_crash_35 G _ _ hp hq h) (fun hp hq => nd_b hp hq (fun hp hq => nd_wX_crash_35 G _ _ hp hq h) (fun hp hq => nd_wpX_writeRenewed G _ _ hp hq (fun  u hp hq => by
  obtain ⟨_, _, _, _, _, _, _, _, _, _, _, _, _, _, _, _, _⟩ := u
  exact nd_wX_crash_35 G _ _ hp hq h)))))
theorem nd_wpY_crash (G : Prop) (P Q : Int32 → SY → Prop) {u : SY} {p0 : Int32} (hp : wpY_crash P u p0) (hq : wpY_crash Q u p0) (h : ∀ a0 a1, P a0 a1 → Q a0 a1 → G) : G := by
  obtain ⟨_, _, _, _, _, _, _, _, _, _, _⟩ := u
  unfold wpY_crash at hp hq
  exact nd_b hp hq (fun hp hq => h _ _ hp hq) (fun hp hq => h _ _ hp hq)
end
section
def rc_format (i_R : Nat → SX → SY → Prop) : Prop := ∀ (k : Nat) (u : SX) (v : SY), i_R k u v → k + 4 ≤ 2048 → ∀ (v1 : Int32), wpX_format (fun r u' => wpY_format (fun r' v' => r' = r ∧ i_R (k + 4) u' v') v v1) u v1
def ro_format (i_R : Nat → SX → SY → Prop) : Prop := ∀ (k : Nat) (u : SX) (v : SY), i_R k u v → k + 4 ≤ 2048 → ∀ (v1 : Int32), wpX_format (fun r u' => wpY_format (fun r' v' => i_R (k + 4) u' v') v v1) u v1
theorem me_format {S : Int32 → Int32 → SX → SY → Prop} {k : Nat} {u : SX} {v w : SY} {ca cb : Int32} {FA FB : SY → Prop} {v1 : Int32} (hrow : wpX_format (fun r u' => wpY_format (fun r' v' => S r r' u' v') v v1) u v1) (hmine : wpX_format (fun r u' => wpY_format (fun r' v' => r' = r ∧ i_Rel k u' v') w v1) u v1) (eA : wpY_format (fun r' v' => r' = ca ∧ FA v') v v1) (eB : wpY_format (fun r' v' => r' = cb ∧ FB v') w v1) : ∃ u' va vb, S cb ca u' va ∧ FA va ∧ FB vb ∧ i_Rel k u' vb :=
  nd_wpX_format _ _ _ hrow hmine (fun r u' A B => nd_wpY_format _ _ _ A eA (fun r1 v1 s e1 => nd_wpY_format _ _ _ B eB (fun r2 v2 s2 e2 => by
    rw [e1.1, ← s2.1, e2.1] at s
    exact ⟨u', v1, v2, s, e1.2, e2.2, s2.2⟩)))
theorem mx_format {S : Int32 → Int32 → SX → SY → Prop} {u : SX} {v : SY} {ca cb : Int32} {FA : SY → Prop} {FX : SX → Prop} {v1 : Int32} (hrow : wpX_format (fun r u' => wpY_format (fun r' v' => S r r' u' v') v v1) u v1) (hmine : wpX_format (fun r u' => r = cb ∧ FX u') u v1) (eA : wpY_format (fun r' v' => r' = ca ∧ FA v') v v1) : ∃ u' va, S cb ca u' va ∧ FA va ∧ FX u' :=
  nd_wpX_format _ _ _ hrow hmine (fun r u' A B => nd_wpY_format _ _ _ A eA (fun r1 v1 s e1 => by
    rw [e1.1, B.1] at s
    exact ⟨u', v1, s, e1.2, B.2⟩))
def rc_unlock (i_R : Nat → SX → SY → Prop) : Prop := ∀ (k : Nat) (u : SX) (v : SY), i_R k u v → k + 4 ≤ 2048 → ∀ (v1 : Int32), wpX_unlock (fun r u' => wpY_unlock (fun r' v' => r' = r ∧ i_R (k + 4) u' v') v v1) u v1
def ro_unlock (i_R : Nat → SX → SY → Prop) : Prop := ∀ (k : Nat) (u : SX) (v : SY), i_R k u v → k + 4 ≤ 2048 → ∀ (v1 : Int32), wpX_unlock (fun r u' => wpY_unlock (fun r' v' => i_R (k + 4) u' v') v v1) u v1
theorem me_unlock {S : Int32 → Int32 → SX → SY → Prop} {k : Nat} {u : SX} {v w : SY} {ca cb : Int32} {FA FB : SY → Prop} {v1 : Int32} (hrow : wpX_unlock (fun r u' => wpY_unlock (fun r' v' => S r r' u' v') v v1) u v1) (hmine : wpX_unlock (fun r u' => wpY_unlock (fun r' v' => r' = r ∧ i_Rel k u' v') w v1) u v1) (eA : wpY_unlock (fun r' v' => r' = ca ∧ FA v') v v1) (eB : wpY_unlock (fun r' v' => r' = cb ∧ FB v') w v1) : ∃ u' va vb, S cb ca u' va ∧ FA va ∧ FB vb ∧ i_Rel k u' vb :=
  nd_wpX_unlock _ _ _ hrow hmine (fun r u' A B => nd_wpY_unlock _ _ _ A eA (fun r1 v1 s e1 => nd_wpY_unlock _ _ _ B eB (fun r2 v2 s2 e2 => by
    rw [e1.1, ← s2.1, e2.1] at s
    exact ⟨u', v1, v2, s, e1.2, e2.2, s2.2⟩)))
theorem mx_unlock {S : Int32 → Int32 → SX → SY → Prop} {u : SX} {v : SY} {ca cb : Int32} {FA : SY → Prop} {FX : SX → Prop} {v1 : Int32} (hrow : wpX_unlock (fun r u' => wpY_unlock (fun r' v' => S r r' u' v') v v1) u v1) (hmine : wpX_unlock (fun r u' => r = cb ∧ FX u') u v1) (eA : wpY_unlock (fun r' v' => r' = ca ∧ FA v') v v1) : ∃ u' va, S cb ca u' va ∧ FA va ∧ FX u' :=
  nd_wpX_unlock _ _ _ hrow hmine (fun r u' A B => nd_wpY_unlock _ _ _ A eA (fun r1 v1 s e1 => by
    rw [e1.1, B.1] at s
    exact ⟨u', v1, s, e1.2, B.2⟩))
def rc_lock (i_R : Nat → SX → SY → Prop) : Prop := ∀ (k : Nat) (u : SX) (v : SY), i_R k u v → k + 4 ≤ 2048 → wpX_lock (fun r u' => wpY_lock (fun r' v' => r' = r ∧ i_R (k + 4) u' v') v) u
def ro_lock (i_R : Nat → SX → SY → Prop) : Prop := ∀ (k : Nat) (u : SX) (v : SY), i_R k u v → k + 4 ≤ 2048 → wpX_lock (fun r u' => wpY_lock (fun r' v' => i_R (k + 4) u' v') v) u
theorem me_lock {S : Int32 → Int32 → SX → SY → Prop} {k : Nat} {u : SX} {v w : SY} {ca cb : Int32} {FA FB : SY → Prop} (hrow : wpX_lock (fun r u' => wpY_lock (fun r' v' => S r r' u' v') v ) u ) (hmine : wpX_lock (fun r u' => wpY_lock (fun r' v' => r' = r ∧ i_Rel k u' v') w ) u ) (eA : wpY_lock (fun r' v' => r' = ca ∧ FA v') v ) (eB : wpY_lock (fun r' v' => r' = cb ∧ FB v') w ) : ∃ u' va vb, S cb ca u' va ∧ FA va ∧ FB vb ∧ i_Rel k u' vb :=
  nd_wpX_lock _ _ _ hrow hmine (fun r u' A B => nd_wpY_lock _ _ _ A eA (fun r1 v1 s e1 => nd_wpY_lock _ _ _ B eB (fun r2 v2 s2 e2 => by
    rw [e1.1, ← s2.1, e2.1] at s
    exact ⟨u', v1, v2, s, e1.2, e2.2, s2.2⟩)))
theorem mx_lock {S : Int32 → Int32 → SX → SY → Prop} {u : SX} {v : SY} {ca cb : Int32} {FA : SY → Prop} {FX : SX → Prop} (hrow : wpX_lock (fun r u' => wpY_lock (fun r' v' => S r r' u' v') v ) u ) (hmine : wpX_lock (fun r u' => r = cb ∧ FX u') u ) (eA : wpY_lock (fun r' v' => r' = ca ∧ FA v') v ) : ∃ u' va, S cb ca u' va ∧ FA va ∧ FX u' :=
  nd_wpX_lock _ _ _ hrow hmine (fun r u' A B => nd_wpY_lock _ _ _ A eA (fun r1 v1 s e1 => by
    rw [e1.1, B.1] at s
    exact ⟨u', v1, s, e1.2, B.2⟩))
def rc_state (i_R : Nat → SX → SY → Prop) : Prop := ∀ (k : Nat) (u : SX) (v : SY), i_R k u v → k + 4 ≤ 2048 → wpX_state (fun r => wpY_state (fun r' => r' = r ∧ i_R (k + 4) u v) v) u
def ro_state (i_R : Nat → SX → SY → Prop) : Prop := ∀ (k : Nat) (u : SX) (v : SY), i_R k u v → k + 4 ≤ 2048 → wpX_state (fun r => wpY_state (fun r' => i_R (k + 4) u v) v) u
theorem me_state {S : Int32 → Int32 → Prop} {k : Nat} {u : SX} {v w : SY} {ca cb : Int32} (hrow : wpX_state (fun r => wpY_state (fun r' => S r r') v ) u ) (hmine : wpX_state (fun r => wpY_state (fun r' => r' = r ∧ i_Rel k u w) w ) u ) (eA : wpY_state (fun r' => r' = ca) v ) (eB : wpY_state (fun r' => r' = cb) w ) : S cb ca :=
  nd_wpX_state _ _ _ hrow hmine (fun r A B => nd_wpY_state _ _ _ A eA (fun r1 s e1 => nd_wpY_state _ _ _ B eB (fun r2 s2 e2 => by
    rw [e1, ← s2.1, e2] at s
    exact s)))
def rc_read (i_R : Nat → SX → SY → Prop) : Prop := ∀ (k : Nat) (u : SX) (v : SY), i_R k u v → k + 4 ≤ 2048 → ∀ (v1 : Int32) (v2 : Int32), wpX_read (fun r u' => wpY_read (fun r' => r' = r ∧ i_R (k + 4) u' v) v v1 v2) u v1 v2
def ro_read (i_R : Nat → SX → SY → Prop) : Prop := ∀ (k : Nat) (u : SX) (v : SY), i_R k u v → k + 4 ≤ 2048 → ∀ (v1 : Int32) (v2 : Int32), wpX_read (fun r u' => wpY_read (fun r' => i_R (k + 4) u' v) v v1 v2) u v1 v2
theorem me_read {S : Int32 → Int32 → SX → Prop} {k : Nat} {u : SX} {v w : SY} {ca cb : Int32} {v1 v2 : Int32} (hrow : wpX_read (fun r u' => wpY_read (fun r' => S r r' u') v v1 v2) u v1 v2) (hmine : wpX_read (fun r u' => wpY_read (fun r' => r' = r ∧ i_Rel k u' w) w v1 v2) u v1 v2) (eA : wpY_read (fun r' => r' = ca) v v1 v2) (eB : wpY_read (fun r' => r' = cb) w v1 v2) : ∃ u', S cb ca u' ∧ i_Rel k u' w :=
  nd_wpX_read _ _ _ hrow hmine (fun r u' A B => nd_wpY_read _ _ _ A eA (fun r1 s e1 => nd_wpY_read _ _ _ B eB (fun r2 s2 e2 => by
    rw [e1, ← s2.1, e2] at s
    exact ⟨u', s, s2.2⟩)))
def rc_write (i_R : Nat → SX → SY → Prop) : Prop := ∀ (k : Nat) (u : SX) (v : SY), i_R k u v → k + 4 ≤ 2048 → ∀ (v1 : Int32) (v2 : Int32) (v3 : Int32), wpX_write (fun r u' => wpY_write (fun r' v' => r' = r ∧ i_R (k + 4) u' v') v v1 v2 v3) u v1 v2 v3
def ro_write (i_R : Nat → SX → SY → Prop) : Prop := ∀ (k : Nat) (u : SX) (v : SY), i_R k u v → k + 4 ≤ 2048 → ∀ (v1 : Int32) (v2 : Int32) (v3 : Int32), wpX_write (fun r u' => wpY_write (fun r' v' => i_R (k + 4) u' v') v v1 v2 v3) u v1 v2 v3
theorem me_write {S : Int32 → Int32 → SX → SY → Prop} {k : Nat} {u : SX} {v w : SY} {ca cb : Int32} {FA FB : SY → Prop} {v1 v2 v3 : Int32} (hrow : wpX_write (fun r u' => wpY_write (fun r' v' => S r r' u' v') v v1 v2 v3) u v1 v2 v3) (hmine : wpX_write (fun r u' => wpY_write (fun r' v' => r' = r ∧ i_Rel k u' v') w v1 v2 v3) u v1 v2 v3) (eA : wpY_write (fun r' v' => r' = ca ∧ FA v') v v1 v2 v3) (eB : wpY_write (fun r' v' => r' = cb ∧ FB v') w v1 v2 v3) : ∃ u' va vb, S cb ca u' va ∧ FA va ∧ FB vb ∧ i_Rel k u' vb :=
  nd_wpX_write _ _ _ hrow hmine (fun r u' A B => nd_wpY_write _ _ _ A eA (fun r1 v1 s e1 => nd_wpY_write _ _ _ B eB (fun r2 v2 s2 e2 => by
    rw [e1.1, ← s2.1, e2.1] at s
    exact ⟨u', v1, v2, s, e1.2, e2.2, s2.2⟩)))
theorem mx_write {S : Int32 → Int32 → SX → SY → Prop} {u : SX} {v : SY} {ca cb : Int32} {FA : SY → Prop} {FX : SX → Prop} {v1 v2 v3 : Int32} (hrow : wpX_write (fun r u' => wpY_write (fun r' v' => S r r' u' v') v v1 v2 v3) u v1 v2 v3) (hmine : wpX_write (fun r u' => r = cb ∧ FX u') u v1 v2 v3) (eA : wpY_write (fun r' v' => r' = ca ∧ FA v') v v1 v2 v3) : ∃ u' va, S cb ca u' va ∧ FA va ∧ FX u' :=
  nd_wpX_write _ _ _ hrow hmine (fun r u' A B => nd_wpY_write _ _ _ A eA (fun r1 v1 s e1 => by
    rw [e1.1, B.1] at s
    exact ⟨u', v1, s, e1.2, B.2⟩))
def rc_fill (i_R : Nat → SX → SY → Prop) : Prop := ∀ (k : Nat) (u : SX) (v : SY), i_R k u v → k + 4 ≤ 2048 → ∀ (v1 : Int32) (v2 : Int32) (v3 : Int32), wpX_fill (fun r u' => wpY_fill (fun r' v' => r' = r ∧ i_R (k + 4) u' v') v v1 v2 v3) u v1 v2 v3
def ro_fill (i_R : Nat → SX → SY → Prop) : Prop := ∀ (k : Nat) (u : SX) (v : SY), i_R k u v → k + 4 ≤ 2048 → ∀ (v1 : Int32) (v2 : Int32) (v3 : Int32), wpX_fill (fun r u' => wpY_fill (fun r' v' => i_R (k + 4) u' v') v v1 v2 v3) u v1 v2 v3
theorem me_fill {S : Int32 → Int32 → SX → SY → Prop} {k : Nat} {u : SX} {v w : SY} {ca cb : Int32} {FA FB : SY → Prop} {v1 v2 v3 : Int32} (hrow : wpX_fill (fun r u' => wpY_fill (fun r' v' => S r r' u' v') v v1 v2 v3) u v1 v2 v3) (hmine : wpX_fill (fun r u' => wpY_fill (fun r' v' => r' = r ∧ i_Rel k u' v') w v1 v2 v3) u v1 v2 v3) (eA : wpY_fill (fun r' v' => r' = ca ∧ FA v') v v1 v2 v3) (eB : wpY_fill (fun r' v' => r' = cb ∧ FB v') w v1 v2 v3) : ∃ u' va vb, S cb ca u' va ∧ FA va ∧ FB vb ∧ i_Rel k u' vb :=
  nd_wpX_fill _ _ _ hrow hmine (fun r u' A B => nd_wpY_fill _ _ _ A eA (fun r1 v1 s e1 => nd_wpY_fill _ _ _ B eB (fun r2 v2 s2 e2 => by
    rw [e1.1, ← s2.1, e2.1] at s
    exact ⟨u', v1, v2, s, e1.2, e2.2, s2.2⟩)))
theorem mx_fill {S : Int32 → Int32 → SX → SY → Prop} {u : SX} {v : SY} {ca cb : Int32} {FA : SY → Prop} {FX : SX → Prop} {v1 v2 v3 : Int32} (hrow : wpX_fill (fun r u' => wpY_fill (fun r' v' => S r r' u' v') v v1 v2 v3) u v1 v2 v3) (hmine : wpX_fill (fun r u' => r = cb ∧ FX u') u v1 v2 v3) (eA : wpY_fill (fun r' v' => r' = ca ∧ FA v') v v1 v2 v3) : ∃ u' va, S cb ca u' va ∧ FA va ∧ FX u' :=
  nd_wpX_fill _ _ _ hrow hmine (fun r u' A B => nd_wpY_fill _ _ _ A eA (fun r1 v1 s e1 => by
    rw [e1.1, B.1] at s
    exact ⟨u', v1, s, e1.2, B.2⟩))
def rc_check (i_R : Nat → SX → SY → Prop) : Prop := ∀ (k : Nat) (u : SX) (v : SY), i_R k u v → k + 4 ≤ 2048 → ∀ (v1 : Int32), wpX_check (fun r => wpY_check (fun r' => r' = r ∧ i_R (k + 4) u v) v v1) u v1
def ro_check (i_R : Nat → SX → SY → Prop) : Prop := ∀ (k : Nat) (u : SX) (v : SY), i_R k u v → k + 4 ≤ 2048 → ∀ (v1 : Int32), wpX_check (fun r => wpY_check (fun r' => i_R (k + 4) u v) v v1) u v1
theorem me_check {S : Int32 → Int32 → Prop} {k : Nat} {u : SX} {v w : SY} {ca cb : Int32} {v1 : Int32} (hrow : wpX_check (fun r => wpY_check (fun r' => S r r') v v1) u v1) (hmine : wpX_check (fun r => wpY_check (fun r' => r' = r ∧ i_Rel k u w) w v1) u v1) (eA : wpY_check (fun r' => r' = ca) v v1) (eB : wpY_check (fun r' => r' = cb) w v1) : S cb ca :=
  nd_wpX_check _ _ _ hrow hmine (fun r A B => nd_wpY_check _ _ _ A eA (fun r1 s e1 => nd_wpY_check _ _ _ B eB (fun r2 s2 e2 => by
    rw [e1, ← s2.1, e2] at s
    exact s)))
def rc_digest (i_R : Nat → SX → SY → Prop) : Prop := ∀ (k : Nat) (u : SX) (v : SY), i_R k u v → k + 4 ≤ 2048 → wpX_digest (fun r u' => wpY_digest (fun r' => r' = r ∧ i_R (k + 4) u' v) v) u
def ro_digest (i_R : Nat → SX → SY → Prop) : Prop := ∀ (k : Nat) (u : SX) (v : SY), i_R k u v → k + 4 ≤ 2048 → wpX_digest (fun r u' => wpY_digest (fun r' => i_R (k + 4) u' v) v) u
theorem me_digest {S : Int32 → Int32 → SX → Prop} {k : Nat} {u : SX} {v w : SY} {ca cb : Int32} (hrow : wpX_digest (fun r u' => wpY_digest (fun r' => S r r' u') v ) u ) (hmine : wpX_digest (fun r u' => wpY_digest (fun r' => r' = r ∧ i_Rel k u' w) w ) u ) (eA : wpY_digest (fun r' => r' = ca) v ) (eB : wpY_digest (fun r' => r' = cb) w ) : ∃ u', S cb ca u' ∧ i_Rel k u' w :=
  nd_wpX_digest _ _ _ hrow hmine (fun r u' A B => nd_wpY_digest _ _ _ A eA (fun r1 s e1 => nd_wpY_digest _ _ _ B eB (fun r2 s2 e2 => by
    rw [e1, ← s2.1, e2] at s
    exact ⟨u', s, s2.2⟩)))
def rc_addKey (i_R : Nat → SX → SY → Prop) : Prop := ∀ (k : Nat) (u : SX) (v : SY), i_R k u v → k + 4 ≤ 2048 → ∀ (v1 : Int32), wpX_addKey (fun r u' => wpY_addKey (fun r' v' => r' = r ∧ i_R (k + 4) u' v') v v1) u v1
def ro_addKey (i_R : Nat → SX → SY → Prop) : Prop := ∀ (k : Nat) (u : SX) (v : SY), i_R k u v → k + 4 ≤ 2048 → ∀ (v1 : Int32), wpX_addKey (fun r u' => wpY_addKey (fun r' v' => i_R (k + 4) u' v') v v1) u v1
theorem me_addKey {S : Int32 → Int32 → SX → SY → Prop} {k : Nat} {u : SX} {v w : SY} {ca cb : Int32} {FA FB : SY → Prop} {v1 : Int32} (hrow : wpX_addKey (fun r u' => wpY_addKey (fun r' v' => S r r' u' v') v v1) u v1) (hmine : wpX_addKey (fun r u' => wpY_addKey (fun r' v' => r' = r ∧ i_Rel k u' v') w v1) u v1) (eA : wpY_addKey (fun r' v' => r' = ca ∧ FA v') v v1) (eB : wpY_addKey (fun r' v' => r' = cb ∧ FB v') w v1) : ∃ u' va vb, S cb ca u' va ∧ FA va ∧ FB vb ∧ i_Rel k u' vb :=
  nd_wpX_addKey _ _ _ hrow hmine (fun r u' A B => nd_wpY_addKey _ _ _ A eA (fun r1 v1 s e1 => nd_wpY_addKey _ _ _ B eB (fun r2 v2 s2 e2 => by
    rw [e1.1, ← s2.1, e2.1] at s
    exact ⟨u', v1, v2, s, e1.2, e2.2, s2.2⟩)))
theorem mx_addKey {S : Int32 → Int32 → SX → SY → Prop} {u : SX} {v : SY} {ca cb : Int32} {FA : SY → Prop} {FX : SX → Prop} {v1 : Int32} (hrow : wpX_addKey (fun r u' => wpY_addKey (fun r' v' => S r r' u' v') v v1) u v1) (hmine : wpX_addKey (fun r u' => r = cb ∧ FX u') u v1) (eA : wpY_addKey (fun r' v' => r' = ca ∧ FA v') v v1) : ∃ u' va, S cb ca u' va ∧ FA va ∧ FX u' :=
  nd_wpX_addKey _ _ _ hrow hmine (fun r u' A B => nd_wpY_addKey _ _ _ A eA (fun r1 v1 s e1 => by
    rw [e1.1, B.1] at s
    exact ⟨u', v1, s, e1.2, B.2⟩))
def rc_removeKey (i_R : Nat → SX → SY → Prop) : Prop := ∀ (k : Nat) (u : SX) (v : SY), i_R k u v → k + 4 ≤ 2048 → ∀ (v1 : Int32), wpX_removeKey (fun r u' => wpY_removeKey (fun r' v' => r' = r ∧ i_R (k + 4) u' v') v v1) u v1
def ro_removeKey (i_R : Nat → SX → SY → Prop) : Prop := ∀ (k : Nat) (u : SX) (v : SY), i_R k u v → k + 4 ≤ 2048 → ∀ (v1 : Int32), wpX_removeKey (fun r u' => wpY_removeKey (fun r' v' => i_R (k + 4) u' v') v v1) u v1
theorem me_removeKey {S : Int32 → Int32 → SX → SY → Prop} {k : Nat} {u : SX} {v w : SY} {ca cb : Int32} {FA FB : SY → Prop} {v1 : Int32} (hrow : wpX_removeKey (fun r u' => wpY_removeKey (fun r' v' => S r r' u' v') v v1) u v1) (hmine : wpX_removeKey (fun r u' => wpY_removeKey (fun r' v' => r' = r ∧ i_Rel k u' v') w v1) u v1) (eA : wpY_removeKey (fun r' v' => r' = ca ∧ FA v') v v1) (eB : wpY_removeKey (fun r' v' => r' = cb ∧ FB v') w v1) : ∃ u' va vb, S cb ca u' va ∧ FA va ∧ FB vb ∧ i_Rel k u' vb :=
  nd_wpX_removeKey _ _ _ hrow hmine (fun r u' A B => nd_wpY_removeKey _ _ _ A eA (fun r1 v1 s e1 => nd_wpY_removeKey _ _ _ B eB (fun r2 v2 s2 e2 => by
    rw [e1.1, ← s2.1, e2.1] at s
    exact ⟨u', v1, v2, s, e1.2, e2.2, s2.2⟩)))
theorem mx_removeKey {S : Int32 → Int32 → SX → SY → Prop} {u : SX} {v : SY} {ca cb : Int32} {FA : SY → Prop} {FX : SX → Prop} {v1 : Int32} (hrow : wpX_removeKey (fun r u' => wpY_removeKey (fun r' v' => S r r' u' v') v v1) u v1) (hmine : wpX_removeKey (fun r u' => r = cb ∧ FX u') u v1) (eA : wpY_removeKey (fun r' v' => r' = ca ∧ FA v') v v1) : ∃ u' va, S cb ca u' va ∧ FA va ∧ FX u' :=
  nd_wpX_removeKey _ _ _ hrow hmine (fun r u' A B => nd_wpY_removeKey _ _ _ A eA (fun r1 v1 s e1 => by
    rw [e1.1, B.1] at s
    exact ⟨u', v1, s, e1.2, B.2⟩))
def rc_changeKey (i_R : Nat → SX → SY → Prop) : Prop := ∀ (k : Nat) (u : SX) (v : SY), i_R k u v → k + 4 ≤ 2048 → ∀ (v1 : Int32) (v2 : Int32), wpX_changeKey (fun r u' => wpY_changeKey (fun r' v' => r' = r ∧ i_R (k + 4) u' v') v v1 v2) u v1 v2
def ro_changeKey (i_R : Nat → SX → SY → Prop) : Prop := ∀ (k : Nat) (u : SX) (v : SY), i_R k u v → k + 4 ≤ 2048 → ∀ (v1 : Int32) (v2 : Int32), wpX_changeKey (fun r u' => wpY_changeKey (fun r' v' => i_R (k + 4) u' v') v v1 v2) u v1 v2
theorem me_changeKey {S : Int32 → Int32 → SX → SY → Prop} {k : Nat} {u : SX} {v w : SY} {ca cb : Int32} {FA FB : SY → Prop} {v1 v2 : Int32} (hrow : wpX_changeKey (fun r u' => wpY_changeKey (fun r' v' => S r r' u' v') v v1 v2) u v1 v2) (hmine : wpX_changeKey (fun r u' => wpY_changeKey (fun r' v' => r' = r ∧ i_Rel k u' v') w v1 v2) u v1 v2) (eA : wpY_changeKey (fun r' v' => r' = ca ∧ FA v') v v1 v2) (eB : wpY_changeKey (fun r' v' => r' = cb ∧ FB v') w v1 v2) : ∃ u' va vb, S cb ca u' va ∧ FA va ∧ FB vb ∧ i_Rel k u' vb :=
  nd_wpX_changeKey _ _ _ hrow hmine (fun r u' A B => nd_wpY_changeKey _ _ _ A eA (fun r1 v1 s e1 => nd_wpY_changeKey _ _ _ B eB (fun r2 v2 s2 e2 => by
    rw [e1.1, ← s2.1, e2.1] at s
    exact ⟨u', v1, v2, s, e1.2, e2.2, s2.2⟩)))
theorem mx_changeKey {S : Int32 → Int32 → SX → SY → Prop} {u : SX} {v : SY} {ca cb : Int32} {FA : SY → Prop} {FX : SX → Prop} {v1 v2 : Int32} (hrow : wpX_changeKey (fun r u' => wpY_changeKey (fun r' v' => S r r' u' v') v v1 v2) u v1 v2) (hmine : wpX_changeKey (fun r u' => r = cb ∧ FX u') u v1 v2) (eA : wpY_changeKey (fun r' v' => r' = ca ∧ FA v') v v1 v2) : ∃ u' va, S cb ca u' va ∧ FA va ∧ FX u' :=
  nd_wpX_changeKey _ _ _ hrow hmine (fun r u' A B => nd_wpY_changeKey _ _ _ A eA (fun r1 v1 s e1 => by
    rw [e1.1, B.1] at s
    exact ⟨u', v1, s, e1.2, B.2⟩))
def rc_slots (i_R : Nat → SX → SY → Prop) : Prop := ∀ (k : Nat) (u : SX) (v : SY), i_R k u v → k + 4 ≤ 2048 → wpX_slots (fun r => wpY_slots (fun r' => r' = r ∧ i_R (k + 4) u v) v) u
def ro_slots (i_R : Nat → SX → SY → Prop) : Prop := ∀ (k : Nat) (u : SX) (v : SY), i_R k u v → k + 4 ≤ 2048 → wpX_slots (fun r => wpY_slots (fun r' => i_R (k + 4) u v) v) u
theorem me_slots {S : Int32 → Int32 → Prop} {k : Nat} {u : SX} {v w : SY} {ca cb : Int32} (hrow : wpX_slots (fun r => wpY_slots (fun r' => S r r') v ) u ) (hmine : wpX_slots (fun r => wpY_slots (fun r' => r' = r ∧ i_Rel k u w) w ) u ) (eA : wpY_slots (fun r' => r' = ca) v ) (eB : wpY_slots (fun r' => r' = cb) w ) : S cb ca :=
  nd_wpX_slots _ _ _ hrow hmine (fun r A B => nd_wpY_slots _ _ _ A eA (fun r1 s e1 => nd_wpY_slots _ _ _ B eB (fun r2 s2 e2 => by
    rw [e1, ← s2.1, e2] at s
    exact s)))
def rc_slotOf (i_R : Nat → SX → SY → Prop) : Prop := ∀ (k : Nat) (u : SX) (v : SY), i_R k u v → k + 4 ≤ 2048 → ∀ (v1 : Int32), wpX_slotOf (fun r u' => wpY_slotOf (fun r' => r' = r ∧ i_R (k + 4) u' v) v v1) u v1
def ro_slotOf (i_R : Nat → SX → SY → Prop) : Prop := ∀ (k : Nat) (u : SX) (v : SY), i_R k u v → k + 4 ≤ 2048 → ∀ (v1 : Int32), wpX_slotOf (fun r u' => wpY_slotOf (fun r' => i_R (k + 4) u' v) v v1) u v1
theorem me_slotOf {S : Int32 → Int32 → SX → Prop} {k : Nat} {u : SX} {v w : SY} {ca cb : Int32} {v1 : Int32} (hrow : wpX_slotOf (fun r u' => wpY_slotOf (fun r' => S r r' u') v v1) u v1) (hmine : wpX_slotOf (fun r u' => wpY_slotOf (fun r' => r' = r ∧ i_Rel k u' w) w v1) u v1) (eA : wpY_slotOf (fun r' => r' = ca) v v1) (eB : wpY_slotOf (fun r' => r' = cb) w v1) : ∃ u', S cb ca u' ∧ i_Rel k u' w :=
  nd_wpX_slotOf _ _ _ hrow hmine (fun r u' A B => nd_wpY_slotOf _ _ _ A eA (fun r1 s e1 => nd_wpY_slotOf _ _ _ B eB (fun r2 s2 e2 => by
    rw [e1, ← s2.1, e2] at s
    exact ⟨u', s, s2.2⟩)))
def rc_renew (i_R : Nat → SX → SY → Prop) : Prop := ∀ (k : Nat) (u : SX) (v : SY), i_R k u v → k + 4 ≤ 2048 → ∀ (v1 : Int32), wpX_renew (fun r u' => wpY_renew (fun r' v' => r' = r ∧ i_R (k + 4) u' v') v v1) u v1
def ro_renew (i_R : Nat → SX → SY → Prop) : Prop := ∀ (k : Nat) (u : SX) (v : SY), i_R k u v → k + 4 ≤ 2048 → ∀ (v1 : Int32), wpX_renew (fun r u' => wpY_renew (fun r' v' => i_R (k + 4) u' v') v v1) u v1
theorem me_renew {S : Int32 → Int32 → SX → SY → Prop} {k : Nat} {u : SX} {v w : SY} {ca cb : Int32} {FA FB : SY → Prop} {v1 : Int32} (hrow : wpX_renew (fun r u' => wpY_renew (fun r' v' => S r r' u' v') v v1) u v1) (hmine : wpX_renew (fun r u' => wpY_renew (fun r' v' => r' = r ∧ i_Rel k u' v') w v1) u v1) (eA : wpY_renew (fun r' v' => r' = ca ∧ FA v') v v1) (eB : wpY_renew (fun r' v' => r' = cb ∧ FB v') w v1) : ∃ u' va vb, S cb ca u' va ∧ FA va ∧ FB vb ∧ i_Rel k u' vb :=
  nd_wpX_renew _ _ _ hrow hmine (fun r u' A B => nd_wpY_renew _ _ _ A eA (fun r1 v1 s e1 => nd_wpY_renew _ _ _ B eB (fun r2 v2 s2 e2 => by
    rw [e1.1, ← s2.1, e2.1] at s
    exact ⟨u', v1, v2, s, e1.2, e2.2, s2.2⟩)))
theorem mx_renew {S : Int32 → Int32 → SX → SY → Prop} {u : SX} {v : SY} {ca cb : Int32} {FA : SY → Prop} {FX : SX → Prop} {v1 : Int32} (hrow : wpX_renew (fun r u' => wpY_renew (fun r' v' => S r r' u' v') v v1) u v1) (hmine : wpX_renew (fun r u' => r = cb ∧ FX u') u v1) (eA : wpY_renew (fun r' v' => r' = ca ∧ FA v') v v1) : ∃ u' va, S cb ca u' va ∧ FA va ∧ FX u' :=
  nd_wpX_renew _ _ _ hrow hmine (fun r u' A B => nd_wpY_renew _ _ _ A eA (fun r1 v1 s e1 => by
    rw [e1.1, B.1] at s
    exact ⟨u', v1, s, e1.2, B.2⟩))
def rc_toRenew (i_R : Nat → SX → SY → Prop) : Prop := ∀ (k : Nat) (u : SX) (v : SY), i_R k u v → k + 4 ≤ 2048 → wpX_toRenew (fun r => wpY_toRenew (fun r' => r' = r ∧ i_R (k + 4) u v) v) u
def ro_toRenew (i_R : Nat → SX → SY → Prop) : Prop := ∀ (k : Nat) (u : SX) (v : SY), i_R k u v → k + 4 ≤ 2048 → wpX_toRenew (fun r => wpY_toRenew (fun r' => i_R (k + 4) u v) v) u
theorem me_toRenew {S : Int32 → Int32 → Prop} {k : Nat} {u : SX} {v w : SY} {ca cb : Int32} (hrow : wpX_toRenew (fun r => wpY_toRenew (fun r' => S r r') v ) u ) (hmine : wpX_toRenew (fun r => wpY_toRenew (fun r' => r' = r ∧ i_Rel k u w) w ) u ) (eA : wpY_toRenew (fun r' => r' = ca) v ) (eB : wpY_toRenew (fun r' => r' = cb) w ) : S cb ca :=
  nd_wpX_toRenew _ _ _ hrow hmine (fun r A B => nd_wpY_toRenew _ _ _ A eA (fun r1 s e1 => nd_wpY_toRenew _ _ _ B eB (fun r2 s2 e2 => by
    rw [e1, ← s2.1, e2] at s
    exact s)))
def rc_saveSlots (i_R : Nat → SX → SY → Prop) : Prop := ∀ (k : Nat) (u : SX) (v : SY), i_R k u v → k + 4 ≤ 2048 → wpX_saveSlots (fun r u' => wpY_saveSlots (fun r' v' => r' = r ∧ i_R (k + 4) u' v') v) u
def ro_saveSlots (i_R : Nat → SX → SY → Prop) : Prop := ∀ (k : Nat) (u : SX) (v : SY), i_R k u v → k + 4 ≤ 2048 → wpX_saveSlots (fun r u' => wpY_saveSlots (fun r' v' => i_R (k + 4) u' v') v) u
theorem me_saveSlots {S : Int32 → Int32 → SX → SY → Prop} {k : Nat} {u : SX} {v w : SY} {ca cb : Int32} {FA FB : SY → Prop} (hrow : wpX_saveSlots (fun r u' => wpY_saveSlots (fun r' v' => S r r' u' v') v ) u ) (hmine : wpX_saveSlots (fun r u' => wpY_saveSlots (fun r' v' => r' = r ∧ i_Rel k u' v') w ) u ) (eA : wpY_saveSlots (fun r' v' => r' = ca ∧ FA v') v ) (eB : wpY_saveSlots (fun r' v' => r' = cb ∧ FB v') w ) : ∃ u' va vb, S cb ca u' va ∧ FA va ∧ FB vb ∧ i_Rel k u' vb :=
  nd_wpX_saveSlots _ _ _ hrow hmine (fun r u' A B => nd_wpY_saveSlots _ _ _ A eA (fun r1 v1 s e1 => nd_wpY_saveSlots _ _ _ B eB (fun r2 v2 s2 e2 => by
    rw [e1.1, ← s2.1, e2.1] at s
    exact ⟨u', v1, v2, s, e1.2, e2.2, s2.2⟩)))
theorem mx_saveSlots {S : Int32 → Int32 → SX → SY → Prop} {u : SX} {v : SY} {ca cb : Int32} {FA : SY → Prop} {FX : SX → Prop} (hrow : wpX_saveSlots (fun r u' => wpY_saveSlots (fun r' v' => S r r' u' v') v ) u ) (hmine : wpX_saveSlots (fun r u' => r = cb ∧ FX u') u ) (eA : wpY_saveSlots (fun r' v' => r' = ca ∧ FA v') v ) : ∃ u' va, S cb ca u' va ∧ FA va ∧ FX u' :=
  nd_wpX_saveSlots _ _ _ hrow hmine (fun r u' A B => nd_wpY_saveSlots _ _ _ A eA (fun r1 v1 s e1 => by
    rw [e1.1, B.1] at s
    exact ⟨u', v1, s, e1.2, B.2⟩))
def rc_restoreSlots (i_R : Nat → SX → SY → Prop) : Prop := ∀ (k : Nat) (u : SX) (v : SY), i_R k u v → k + 4 ≤ 2048 → wpX_restoreSlots (fun r u' => wpY_restoreSlots (fun r' v' => r' = r ∧ i_R (k + 4) u' v') v) u
def ro_restoreSlots (i_R : Nat → SX → SY → Prop) : Prop := ∀ (k : Nat) (u : SX) (v : SY), i_R k u v → k + 4 ≤ 2048 → wpX_restoreSlots (fun r u' => wpY_restoreSlots (fun r' v' => i_R (k + 4) u' v') v) u
theorem me_restoreSlots {S : Int32 → Int32 → SX → SY → Prop} {k : Nat} {u : SX} {v w : SY} {ca cb : Int32} {FA FB : SY → Prop} (hrow : wpX_restoreSlots (fun r u' => wpY_restoreSlots (fun r' v' => S r r' u' v') v ) u ) (hmine : wpX_restoreSlots (fun r u' => wpY_restoreSlots (fun r' v' => r' = r ∧ i_Rel k u' v') w ) u ) (eA : wpY_restoreSlots (fun r' v' => r' = ca ∧ FA v') v ) (eB : wpY_restoreSlots (fun r' v' => r' = cb ∧ FB v') w ) : ∃ u' va vb, S cb ca u' va ∧ FA va ∧ FB vb ∧ i_Rel k u' vb :=
  nd_wpX_restoreSlots _ _ _ hrow hmine (fun r u' A B => nd_wpY_restoreSlots _ _ _ A eA (fun r1 v1 s e1 => nd_wpY_restoreSlots _ _ _ B eB (fun r2 v2 s2 e2 => by
    rw [e1.1, ← s2.1, e2.1] at s
    exact ⟨u', v1, v2, s, e1.2, e2.2, s2.2⟩)))
theorem mx_restoreSlots {S : Int32 → Int32 → SX → SY → Prop} {u : SX} {v : SY} {ca cb : Int32} {FA : SY → Prop} {FX : SX → Prop} (hrow : wpX_restoreSlots (fun r u' => wpY_restoreSlots (fun r' v' => S r r' u' v') v ) u ) (hmine : wpX_restoreSlots (fun r u' => r = cb ∧ FX u') u ) (eA : wpY_restoreSlots (fun r' v' => r' = ca ∧ FA v') v ) : ∃ u' va, S cb ca u' va ∧ FA va ∧ FX u' :=
  nd_wpX_restoreSlots _ _ _ hrow hmine (fun r u' A B => nd_wpY_restoreSlots _ _ _ A eA (fun r1 v1 s e1 => by
    rw [e1.1, B.1] at s
    exact ⟨u', v1, s, e1.2, B.2⟩))
def rc_damage (i_R : Nat → SX → SY → Prop) : Prop := ∀ (k : Nat) (u : SX) (v : SY), i_R k u v → k + 4 ≤ 2048 → ∀ (v1 : Int32) (v2 : Int32), wpX_damage (fun r u' => wpY_damage (fun r' v' => r' = r ∧ i_R (k + 4) u' v') v v1 v2) u v1 v2
def ro_damage (i_R : Nat → SX → SY → Prop) : Prop := ∀ (k : Nat) (u : SX) (v : SY), i_R k u v → k + 4 ≤ 2048 → ∀ (v1 : Int32) (v2 : Int32), wpX_damage (fun r u' => wpY_damage (fun r' v' => i_R (k + 4) u' v') v v1 v2) u v1 v2
theorem me_damage {S : Int32 → Int32 → SX → SY → Prop} {k : Nat} {u : SX} {v w : SY} {ca cb : Int32} {FA FB : SY → Prop} {v1 v2 : Int32} (hrow : wpX_damage (fun r u' => wpY_damage (fun r' v' => S r r' u' v') v v1 v2) u v1 v2) (hmine : wpX_damage (fun r u' => wpY_damage (fun r' v' => r' = r ∧ i_Rel k u' v') w v1 v2) u v1 v2) (eA : wpY_damage (fun r' v' => r' = ca ∧ FA v') v v1 v2) (eB : wpY_damage (fun r' v' => r' = cb ∧ FB v') w v1 v2) : ∃ u' va vb, S cb ca u' va ∧ FA va ∧ FB vb ∧ i_Rel k u' vb :=
  nd_wpX_damage _ _ _ hrow hmine (fun r u' A B => nd_wpY_damage _ _ _ A eA (fun r1 v1 s e1 => nd_wpY_damage _ _ _ B eB (fun r2 v2 s2 e2 => by
    rw [e1.1, ← s2.1, e2.1] at s
    exact ⟨u', v1, v2, s, e1.2, e2.2, s2.2⟩)))
theorem mx_damage {S : Int32 → Int32 → SX → SY → Prop} {u : SX} {v : SY} {ca cb : Int32} {FA : SY → Prop} {FX : SX → Prop} {v1 v2 : Int32} (hrow : wpX_damage (fun r u' => wpY_damage (fun r' v' => S r r' u' v') v v1 v2) u v1 v2) (hmine : wpX_damage (fun r u' => r = cb ∧ FX u') u v1 v2) (eA : wpY_damage (fun r' v' => r' = ca ∧ FA v') v v1 v2) : ∃ u' va, S cb ca u' va ∧ FA va ∧ FX u' :=
  nd_wpX_damage _ _ _ hrow hmine (fun r u' A B => nd_wpY_damage _ _ _ A eA (fun r1 v1 s e1 => by
    rw [e1.1, B.1] at s
    exact ⟨u', v1, s, e1.2, B.2⟩))
def rc_crash (i_R : Nat → SX → SY → Prop) : Prop := ∀ (k : Nat) (u : SX) (v : SY), i_R k u v → k + 4 ≤ 2048 → ∀ (v1 : Int32), wpX_crash (fun r u' => wpY_crash (fun r' v' => r' = r ∧ i_R (k + 4) u' v') v v1) u v1
def ro_crash (i_R : Nat → SX → SY → Prop) : Prop := ∀ (k : Nat) (u : SX) (v : SY), i_R k u v → k + 4 ≤ 2048 → ∀ (v1 : Int32), wpX_crash (fun r u' => wpY_crash (fun r' v' => i_R (k + 4) u' v') v v1) u v1
theorem me_crash {S : Int32 → Int32 → SX → SY → Prop} {k : Nat} {u : SX} {v w : SY} {ca cb : Int32} {FA FB : SY → Prop} {v1 : Int32} (hrow : wpX_crash (fun r u' => wpY_crash (fun r' v' => S r r' u' v') v v1) u v1) (hmine : wpX_crash (fun r u' => wpY_crash (fun r' v' => r' = r ∧ i_Rel k u' v') w v1) u v1) (eA : wpY_crash (fun r' v' => r' = ca ∧ FA v') v v1) (eB : wpY_crash (fun r' v' => r' = cb ∧ FB v') w v1) : ∃ u' va vb, S cb ca u' va ∧ FA va ∧ FB vb ∧ i_Rel k u' vb :=
  nd_wpX_crash _ _ _ hrow hmine (fun r u' A B => nd_wpY_crash _ _ _ A eA (fun r1 v1 s e1 => nd_wpY_crash _ _ _ B eB (fun r2 v2 s2 e2 => by
    rw [e1.1, ← s2.1, e2.1] at s
    exact ⟨u', v1, v2, s, e1.2, e2.2, s2.2⟩)))
theorem mx_crash {S : Int32 → Int32 → SX → SY → Prop} {u : SX} {v : SY} {ca cb : Int32} {FA : SY → Prop} {FX : SX → Prop} {v1 : Int32} (hrow : wpX_crash (fun r u' => wpY_crash (fun r' v' => S r r' u' v') v v1) u v1) (hmine : wpX_crash (fun r u' => r = cb ∧ FX u') u v1) (eA : wpY_crash (fun r' v' => r' = ca ∧ FA v') v v1) : ∃ u' va, S cb ca u' va ∧ FA va ∧ FX u' :=
  nd_wpX_crash _ _ _ hrow hmine (fun r u' A B => nd_wpY_crash _ _ _ A eA (fun r1 v1 s e1 => by
    rw [e1.1, B.1] at s
    exact ⟨u', v1, s, e1.2, B.2⟩))
def rc_faults (i_R : Nat → SX → SY → Prop) : Prop := ∀ (k : Nat) (u : SX) (v : SY), i_R k u v → k + 4 ≤ 2048 → wpX_faults (fun r => wpY_faults (fun r' => r' = r ∧ i_R (k + 4) u v) v) u
def ro_faults (i_R : Nat → SX → SY → Prop) : Prop := ∀ (k : Nat) (u : SX) (v : SY), i_R k u v → k + 4 ≤ 2048 → wpX_faults (fun r => wpY_faults (fun r' => i_R (k + 4) u v) v) u
end
section
/-! if two passphrases shared their check words, the rows could not hold -/
def ne_U : Nat → Int32 := fun s => if s = 0 then 1 else 0
def ne_v (z : Int32) (C : Nat → Int32) : SY := (1, 0, 0, 0, 0, C, (fun _ => 0), ne_U, (fun _ => z), (fun _ => 0), (fun _ => 0))
theorem ne_U_b : ∀ s, s < 4 → ne_U s = nI (sv_bt 1 s) := by decide +kernel
theorem ne_fx (x z : Int32) (hw : ∀ i, i < 8 → ch_P x 2 0 i = ch_P z 2 0 i) : wpX_format (fun r u' => r = 0 ∧ ∃ C : Nat → Int32, i_Rel 0 u' (ne_v z C) ∧ (z = x → C = fun _ => 0)) (0, 0, 0, 0, 0, 0, 0, 0, (fun _ => 0), (fun _ => 0), (fun _ => 0), (fun _ => 0), (fun _ => 0), (fun _ => 0), (fun _ => 0), (fun _ => 0), (fun _ => 0)) x := by
  refine nm_e (sf_makeKey _ 1 0 0 0 0 0 0 (0 + 1) (fun _ => 0) (fun _ => 0) (fun _ => 0) (fun _ => 0) (fun _ => 0) (fun _ => 0) (fun _ => 0) (fun _ => 0) x (ch_tl_0 16) (ch_tl_0 8) ?_)
  refine sf_eraseSectors _ 1 0 0 0 0 0 0 (0 + 1) (fun _ => 0) (fun _ => 0) (fun _ => 0) (fun _ => 0) (fun _ => 0) (ch_key x (0 + 1)) (ch_P x 1 (0 + 1)) (fun _ => 0) (ch_tl_P _ _ _) (fun aK' aE' aT' aW' hT' hE => ?_)
  refine sf_eraseSlots _ 0 (by decide) 1 0 0 0 0 0 (0 + 1) aK' aE' (fun _ => 0) (fun _ => 0) (fun _ => 0) (ch_key x (0 + 1)) (fun _ => 0) aT' aW' (fun aS1 aC' => ?_)
  refine sf_putSlot _ 0 (by decide) x 1 0 0 0 0 0 0 (0 + 1) aK' aE' (fun _ => 0) aS1 aC' (ch_key x (0 + 1)) aT' aW' hT' (fun aS' hf h1 h2 => ?_)
  refine sf_forget _ 1 0 0 0 (0 ||| ((1 : Int32) <<< (nI 0 &&& 31))) 0 0 (0 + 1) aK' aE' (fun _ => 0) aS' aC' (ch_key x (0 + 1)) (fun _ => 0) (ch_P x 3 (0 + 1)) aW' (ch_tl_P _ _ _) (ch_tl_k _ _) (fun aW2 => ?_)
  have hsl : ∀ ky : Nat → Int32, (∀ i, i < 8 → aS' (0 * 16 + 8 + i) = ch_P z 3 (0 + 1) i ^^^ ky i) → sl_ok 1 (0 + 1) ky aS' ne_U (fun _ => z) := by
    intro ky hk s hs
    refine ⟨ne_U_b s hs, fun hb => ?_⟩
    have hs0 : s = 0 := by
      have h4 : s = 0 ∨ s = 1 ∨ s = 2 ∨ s = 3 := by omega
      rcases h4 with rfl | rfl | rfl | rfl
      · rfl
      · exact absurd hb (by decide)
      · exact absurd hb (by decide)
      · exact absurd hb (by decide)
    subst hs0
    exact ⟨fun i hi => by rw [h1 i hi, hw i hi], hk⟩
  refine ⟨rfl, ?_⟩
  by_cases hzx : z = x
  · refine ⟨fun _ => 0, rl_mk ?_, fun _ => rfl⟩
    refine ⟨ch_tl_0 16, fun z => absurd z (by decide), ⟨12, ⟨by decide, fun i hi => (hE i hi).1, fun i a b => absurd b (by omega)⟩, rfl, fun z => absurd rfl z, fun _ => rfl⟩, ch_key x (0 + 1), 1, ch_tl_k _ _, fun _ => rfl, fun z => absurd rfl z, by decide, by decide +kernel, fun z => absurd z (by decide), fun _ => ⟨by decide, hsl _ (by rw [hzx]; exact h2), ?_⟩, fun z => absurd rfl z⟩
    intro i hi
    refine ⟨fun _ => ?_, fun z => absurd rfl z⟩
    rw [(hE i hi).1]
    exact (hE i hi).2
  · refine ⟨fun q => aK' (ch_row (q / 8) 0 + q % 8) ^^^ ch_S (fun i => if i < 8 then (ch_P x 3 (0 + 1) i ^^^ ch_key x (0 + 1) i) ^^^ ch_P z 3 (0 + 1) i else 0) (nI (q / 8)) 0 0 (q % 8), rl_mk ?_, fun h => absurd h hzx⟩
    refine ⟨ch_tl_0 16, fun z => absurd z (by decide), ⟨12, ⟨by decide, fun i hi => (hE i hi).1, fun i a b => absurd b (by omega)⟩, rfl, fun z => absurd rfl z, fun _ => rfl⟩, (fun i => if i < 8 then (ch_P x 3 (0 + 1) i ^^^ ch_key x (0 + 1) i) ^^^ ch_P z 3 (0 + 1) i else 0), 1, fun i hi => if_neg (by omega), fun _ => rfl, fun z => absurd rfl z, by decide, by decide +kernel, fun z => absurd z (by decide), fun _ => ⟨by decide, hsl _ (fun i hi => ?_), ?_⟩, fun z => absurd rfl z⟩
    · rw [h2 i hi, if_pos hi, Int32.xor_comm (ch_P z 3 (0 + 1) i), ch_xx]
    · intro i hi
      refine ⟨fun _ => ?_, fun z => absurd rfl z⟩
      rw [(hE i hi).1]
      refine ⟨(hE i hi).2.1, fun c hc => ?_⟩
      dsimp only
      rw [show (8 * i + c) / 8 = i by omega, show (8 * i + c) % 8 = c by omega]
/-- the reference after format(x) -/
def ne_A (x : Int32) (v : SY) : Prop := ∃ C D U : Nat → Int32, (∀ s, s < 96 → C s = 0) ∧ (∀ s, s < 12 → D s = 0) ∧ (∀ s, s < 4 → U s = nI (sv_bt 1 s)) ∧ v = (1, 0, 0, 0, 0, C, D, U, upd (fun _ => 0) 0 x, (fun _ => 0), (fun _ => 0))
theorem ne_fy (x : Int32) : wpY_format (fun r' v' => r' = 0 ∧ ne_A x v') (0, 0, 0, 0, 0, (fun _ => 0), (fun _ => 0), (fun _ => 0), (fun _ => 0), (fun _ => 0), (fun _ => 0)) x :=
  sg_format _ x 0 0 0 0 0 (fun _ => 0) (fun _ => 0) (fun _ => 0) (fun _ => 0) (fun _ => 0) (fun _ => 0) (fun bC' bD' bU' hC hD hU => ⟨rfl, bC', bD', bU', hC, hD, fun s hs => by rw [hU s hs]; exact ne_U_b s hs, rfl⟩)
theorem ne_start {i_R : Nat → SX → SY → Prop} (h0 : wpX_init (fun u => wpY_init (fun v => i_R 0 u v))) (hf : ro_format i_R) (x z : Int32) (hw : ∀ i, i < 8 → ch_P x 2 0 i = ch_P z 2 0 i) :
    ∃ u v C, i_R 4 u v ∧ ne_A x v ∧ i_Rel 0 u (ne_v z C) ∧ (z = x → C = fun _ => 0) := by
  obtain ⟨u, v, hr, hA, C, h1, h2⟩ := mx_format (S := fun _ _ u' v' => i_R (0 + 4) u' v') (hf 0 _ _ h0 (by decide) x) (ne_fx x z hw) (ne_fy x)
  exact ⟨u, v, C, hr, hA, h1, h2⟩
theorem ne_bt1 {s : Nat} (hs : s < 4) (h : sv_bt 1 s = 1) : s = 0 := by
  have h4 : s = 0 ∨ s = 1 ∨ s = 2 ∨ s = 3 := by omega
  rcases h4 with rfl | rfl | rfl | rfl
  · rfl
  · exact absurd h (by decide)
  · exact absurd h (by decide)
  · exact absurd h (by decide)
theorem ne_fd_n {x y : Int32} (h : ¬ x = y) (P : Nat → Int32) (hP : P 0 = x) : sl_fd 1 P y 4 0 = -1 := by
  rcases sl_fd_p 1 P y 4 0 with ⟨e, _⟩ | ⟨s, _, hs, _, hb, hp⟩
  · exact e
  · have := ne_bt1 (by omega) hb
    subst this
    exact absurd (hP.symm.trans hp) h
theorem ne_fd_s (y : Int32) (P : Nat → Int32) (hP : P 0 = y) : sl_fd 1 P y 4 0 = nI 0 := if_pos ⟨by decide, hP⟩
theorem ev_unlock_n (t : Nat) (x : Int32) (ga gb gc gd ge : Int32) (bC bD bU bP bV bQ : Nat → Int32) (ha : ¬ ga = 0) (hb : gb = 0) (hU : ∀ s, s < 4 → bU s = nI (sv_bt t s)) (hf : sl_fd t bP x 4 0 = -1) : wpY_unlock (fun r' v' => r' = -4 ∧ v' = (ga, gb, gc, gd, ge, bC, bD, bU, bP, bV, bQ)) (ga, gb, gc, gd, ge, bC, bD, bU, bP, bV, bQ) x :=
  br_f ha (br_t hb (sg_find _ x t ga gb gc gd ge bC bD bU bP bV bQ hU (by rw [hf]; exact br_f (by decide) ⟨rfl, rfl⟩)))
theorem ev_unlock_s (t : Nat) (x : Int32) (ga gb gc gd ge : Int32) (bC bD bU bP bV bQ : Nat → Int32) (ha : ¬ ga = 0) (hb : gb = 0) (hU : ∀ s, s < 4 → bU s = nI (sv_bt t s)) (hf : sl_fd t bP x 4 0 = nI 0) : wpY_unlock (fun r' v' => r' = nI 0 ∧ v' = (ga, 1, gc, gd, ge, bC, bD, bU, bP, bV, bQ)) (ga, gb, gc, gd, ge, bC, bD, bU, bP, bV, bQ) x :=
  br_f ha (br_t hb (sg_find _ x t ga gb gc gd ge bC bD bU bP bV bQ hU (by rw [hf]; exact br_t (by decide) ⟨rfl, rfl⟩)))
theorem ne_loc (z : Int32) (C : Nat → Int32) : yv_loc (ne_v z C) z := fun _ _ _ _ => rfl
/-- format(x), unlock(y): the reference stays locked, the class opens -/
theorem ne_open {S : Int32 → Int32 → SX → SY → Prop} {x y : Int32} (hxy : ¬ x = y) {u : SX} {v : SY} {C : Nat → Int32} (hA : ne_A x v) (hI : i_Rel 0 u (ne_v y C))
    (hrow : wpX_unlock (fun r u' => wpY_unlock (fun r' v' => S r r' u' v') v y) u y) :
    ∃ u', S (nI 0) (-4) u' v ∧ i_Rel 4 u' (1, 1, 0, 0, 0, C, (fun _ => 0), ne_U, (fun _ => y), (fun _ => 0), (fun _ => 0)) := by
  obtain ⟨C1, D1, U1, hC1, hD1, hU1, rfl⟩ := hA
  obtain ⟨u', va, vb, h1, rfl, rfl, h2⟩ := me_unlock (S := S) hrow (j_vc_unlock hI y (ne_loc y C)) (ev_unlock_n 1 y _ _ _ _ _ _ _ _ _ _ _ (by decide) rfl hU1 (ne_fd_n hxy _ pk_us)) (ev_unlock_s 1 y _ _ _ _ _ _ _ _ _ _ _ (by decide) rfl ne_U_b (ne_fd_s y _ rfl))
  exact ⟨u', h1, h2⟩
theorem ne_inj (h : ∀ x y : Int32, ¬ x = y → (∀ i, i < 8 → ch_P x 2 0 i = ch_P y 2 0 i) → False) : ch_inj := fun x y hw => by
  by_cases e : x = y
  · exact e
  · exact absurd hw (fun hw => h x y e hw)
theorem need_p3 {i_R : Nat → SX → SY → Prop} (h0 : wpX_init (fun u => wpY_init (fun v => i_R 0 u v))) (hf : ro_format i_R) (hu : rc_unlock i_R) : ch_inj := ne_inj (fun x y hxy hw => by
  obtain ⟨u, v, C, h1, hA, hI, _⟩ := ne_start h0 hf x y hw
  obtain ⟨u', h, _⟩ := ne_open (S := fun r r' u' v' => r' = r ∧ i_R (4 + 4) u' v') hxy hA hI (hu 4 u v h1 (by decide) y)
  exact absurd h.1 (by decide))
/-- what the other parts begin with -/
theorem ne_two {i_R : Nat → SX → SY → Prop} (h0 : wpX_init (fun u => wpY_init (fun v => i_R 0 u v))) (hf : ro_format i_R) (hu : ro_unlock i_R) {x y : Int32} (hxy : ¬ x = y) (hw : ∀ i, i < 8 → ch_P x 2 0 i = ch_P y 2 0 i) :
    ∃ (u : SX) (C1 D1 U1 C : Nat → Int32), i_R 8 u (1, 0, 0, 0, 0, C1, D1, U1, upd (fun _ => 0) 0 x, (fun _ => 0), (fun _ => 0)) ∧ (∀ s, s < 12 → D1 s = 0) ∧ i_Rel 4 u (1, 1, 0, 0, 0, C, (fun _ => 0), ne_U, (fun _ => y), (fun _ => 0), (fun _ => 0)) := by
  obtain ⟨u, v, C, h1, hA, hI, _⟩ := ne_start h0 hf x y hw
  obtain ⟨u', h, h2⟩ := ne_open (S := fun _ _ u' v' => i_R (4 + 4) u' v') hxy hA hI (hu 4 u v h1 (by decide) y)
  obtain ⟨C1, D1, U1, _, hD, _, rfl⟩ := hA
  exact ⟨u', C1, D1, U1, C, h, hD, h2⟩
theorem need_p4 {i_R : Nat → SX → SY → Prop} (h0 : wpX_init (fun u => wpY_init (fun v => i_R 0 u v))) (hf : ro_format i_R) (hu : ro_unlock i_R) (hc : rc_lock i_R) : ch_inj := ne_inj (fun x y hxy hw => by
  obtain ⟨u, C1, D1, U1, C, h1, hD, hI⟩ := ne_two h0 hf hu hxy hw
  obtain ⟨u', va, vb, h, _⟩ := me_lock (S := fun r r' u' v' => r' = r ∧ i_R (8 + 4) u' v') (ca := 0) (cb := 1) (FA := fun _ => True) (FB := fun _ => True) (hc 8 u _ h1 (by decide)) (j_vc_lock hI) (br_f (by decide) (br_t rfl ⟨rfl, trivial⟩)) (br_f (by decide) (br_f (by decide) ⟨rfl, trivial⟩))
  exact absurd h.1 (by decide))
theorem need_p5 {i_R : Nat → SX → SY → Prop} (h0 : wpX_init (fun u => wpY_init (fun v => i_R 0 u v))) (hf : ro_format i_R) (hu : ro_unlock i_R) (hc : rc_state i_R) : ch_inj := ne_inj (fun x y hxy hw => by
  obtain ⟨u, C1, D1, U1, C, h1, hD, hI⟩ := ne_two h0 hf hu hxy hw
  have h := me_state (S := fun r r' => r' = r ∧ i_R (8 + 4) u _) (ca := 1) (cb := 2) (hc 8 u _ h1 (by decide)) (j_vc_state hI) (br_f (by decide) (br_t rfl rfl)) (br_f (by decide) (br_f (by decide) rfl))
  exact absurd h.1 (by decide))
theorem ev_write_l (x y z : Int32) (ga gb gc gd ge : Int32) (bC bD bU bP bV bQ : Nat → Int32) (hb : gb = 0) (hx : vp_in x 12) (hy : vp_in y 8) : wpY_write (fun r' v' => r' = -3 ∧ v' = (ga, gb, gc, gd, ge, bC, bD, bU, bP, bV, bQ)) (ga, gb, gc, gd, ge, bC, bD, bU, bP, bV, bQ) x y z := by
  unfold wpY_write
  dsimp only
  exact pa_ySector_g _ _ _ hx (br_t rfl (pa_yCell_g _ _ _ hy (br_t rfl (br_t hb ⟨rfl, rfl⟩))))
theorem ev_write_o (z : Int32) (ga gb gc gd ge : Int32) (bC bD bU bP bV bQ : Nat → Int32) (hb : ¬ gb = 0) (hd : bD 0 = 0) : wpY_write (fun r' v' => r' = 0 ∧ v' = (ga, gb, gc, gd, ge, upd bC 0 z, bD, bU, bP, bV, bQ)) (ga, gb, gc, gd, ge, bC, bD, bU, bP, bV, bQ) 0 0 z := by
  unfold wpY_write
  dsimp only
  exact pa_ySector_g _ _ _ (sv_i12 (j := 0) (by decide)) (br_t rfl (pa_yCell_g _ _ _ (sv_i8 (j := 0) (by decide)) (br_t rfl (br_f hb ⟨sv_i12 (j := 0) (by decide), br_t hd ⟨sy_i96 (i := 0) (j := 0) (by decide) (by decide), nm_e ⟨rfl, rfl⟩⟩⟩))))
theorem need_p7 {i_R : Nat → SX → SY → Prop} (h0 : wpX_init (fun u => wpY_init (fun v => i_R 0 u v))) (hf : ro_format i_R) (hu : ro_unlock i_R) (hc : rc_write i_R) : ch_inj := ne_inj (fun x y hxy hw => by
  obtain ⟨u, C1, D1, U1, C, h1, hD, hI⟩ := ne_two h0 hf hu hxy hw
  obtain ⟨u', va, vb, h, _⟩ := me_write (S := fun r r' u' v' => r' = r ∧ i_R (8 + 4) u' v') (hc 8 u _ h1 (by decide) 0 0 7) (j_vc_write hI 0 0 7) (ev_write_l 0 0 7 _ _ _ _ _ _ _ _ _ _ _ rfl (sv_i12 (j := 0) (by decide)) (sv_i8 (j := 0) (by decide))) (ev_write_o 7 _ _ _ _ _ _ _ _ _ _ _ (by decide) rfl)
  exact absurd h.1 (by decide))
theorem ev_fill_l (x y z : Int32) (ga gb gc gd ge : Int32) (bC bD bU bP bV bQ : Nat → Int32) (hb : gb = 0) (hx : vp_in x 12) : wpY_fill (fun r' v' => r' = -3 ∧ v' = (ga, gb, gc, gd, ge, bC, bD, bU, bP, bV, bQ)) (ga, gb, gc, gd, ge, bC, bD, bU, bP, bV, bQ) x y z := by
  unfold wpY_fill
  dsimp only
  exact pa_ySector_g _ _ _ hx (br_t rfl (br_t hb ⟨rfl, rfl⟩))
theorem ev_fill_o (y z c : Int32) (ga gb gc gd ge : Int32) (bC bD bU bP bV bQ : Nat → Int32) (hb : ¬ gb = 0) (hc : (bD 0 = 0 → c = 0) ∧ (¬ bD 0 = 0 → c = 1)) : wpY_fill (fun r' v' => r' = c ∧ ∃ C, v' = (ga, gb, gc, gd, ge, C, upd bD 0 0, bU, bP, bV, bQ)) (ga, gb, gc, gd, ge, bC, bD, bU, bP, bV, bQ) 0 y z := by
  unfold wpY_fill
  dsimp only
  exact pa_ySector_g _ _ _ (sv_i12 (j := 0) (by decide)) (br_t rfl (br_f hb ⟨9, sg_fl23 _ 0 (by decide) y z ga gb gc gd ge bD bU bP bV bQ bC (fun bC' _ _ => ⟨fun h => ⟨(hc.1 h).symm, bC', rfl⟩, fun h => ⟨(hc.2 h).symm, bC', rfl⟩⟩) 8 0 bC rfl (fun q hq => absurd hq (by omega)) (fun _ _ => rfl)⟩))
theorem need_p8 {i_R : Nat → SX → SY → Prop} (h0 : wpX_init (fun u => wpY_init (fun v => i_R 0 u v))) (hf : ro_format i_R) (hu : ro_unlock i_R) (hc : rc_fill i_R) : ch_inj := ne_inj (fun x y hxy hw => by
  obtain ⟨u, C1, D1, U1, C, h1, hD, hI⟩ := ne_two h0 hf hu hxy hw
  obtain ⟨u', va, vb, h, _⟩ := me_fill (S := fun r r' u' v' => r' = r ∧ i_R (8 + 4) u' v') (hc 8 u _ h1 (by decide) 0 0 0) (j_vc_fill hI 0 0 0) (ev_fill_l 0 0 0 _ _ _ _ _ _ _ _ _ _ _ rfl (sv_i12 (j := 0) (by decide))) (ev_fill_o 0 0 0 _ _ _ _ _ _ _ _ _ _ _ (by decide) ⟨fun _ => rfl, fun z => absurd rfl z⟩)
  exact absurd h.1 (by decide))
theorem need_p9 {i_R : Nat → SX → SY → Prop} (h0 : wpX_init (fun u => wpY_init (fun v => i_R 0 u v))) (hf : ro_format i_R) (hu : ro_unlock i_R) (hc : rc_check i_R) : ch_inj := ne_inj (fun x y hxy hw => by
  obtain ⟨u, C1, D1, U1, C, h1, hD, hI⟩ := ne_two h0 hf hu hxy hw
  have e1 : wpY_check (fun r' => r' = -3) (1, 0, 0, 0, 0, C1, D1, U1, upd (fun _ => 0) 0 x, (fun _ => 0), (fun _ => 0)) 0 := by
    unfold wpY_check
    dsimp only
    exact pa_ySector_g _ _ _ (sv_i12 (j := 0) (by decide)) (br_t rfl (br_t rfl rfl))
  have e2 : wpY_check (fun r' => r' = 0) (1, 1, 0, 0, 0, C, (fun _ => 0), ne_U, (fun _ => y), (fun _ => 0), (fun _ => 0)) 0 := by
    unfold wpY_check
    dsimp only
    exact pa_ySector_g _ _ _ (sv_i12 (j := 0) (by decide)) (br_t rfl (br_f (by decide) ⟨sv_i12 (j := 0) (by decide), br_t rfl rfl⟩))
  have h := me_check (S := fun r r' => r' = r ∧ i_R (8 + 4) u _) (hc 8 u _ h1 (by decide) 0) (j_vc_check hI 0) e1 e2
  exact absurd h.1 (by decide))
theorem need_p15 {i_R : Nat → SX → SY → Prop} (h0 : wpX_init (fun u => wpY_init (fun v => i_R 0 u v))) (hf : ro_format i_R) (hc : rc_slotOf i_R) : ch_inj := ne_inj (fun x y hxy hw => by
  obtain ⟨u, v, C, h1, hA, hI, _⟩ := ne_start h0 hf x y hw
  obtain ⟨C1, D1, U1, hC1, hD1, hU1, rfl⟩ := hA
  obtain ⟨u', h, _⟩ := me_slotOf (S := fun r r' u' => r' = r ∧ i_R (4 + 4) u' _) (ca := -4) (cb := nI 0) (hc 4 u _ h1 (by decide) y) (j_vc_slotOf hI y (ne_loc y C)) (br_f (by decide) (sg_find _ y 1 _ _ _ _ _ _ _ _ _ _ _ hU1 (by rw [ne_fd_n hxy _ pk_us]; exact br_f (by decide) rfl))) (br_f (by decide) (sg_find _ y 1 _ _ _ _ _ _ _ _ _ _ _ ne_U_b (by rw [ne_fd_s y _ rfl]; exact br_t (by decide) rfl)))
  exact absurd h.1 (by decide))
end
section
theorem need_whole {i_R : Nat → SX → SY → Prop} (h0 : wpX_init (fun u => wpY_init (fun v => i_R 0 u v))) (hf : rc_format i_R) (hc : rc_slotOf i_R) : ch_inj := ne_inj (fun x y hxy hw => by
  obtain ⟨u, v, hr, hA, C, hI, _⟩ := mx_format (S := fun r r' u' v' => r' = r ∧ i_R (0 + 4) u' v') (hf 0 _ _ h0 (by decide) x) (ne_fx x y hw) (ne_fy x)
  obtain ⟨C1, D1, U1, hC1, hD1, hU1, rfl⟩ := hA
  obtain ⟨u', h, _⟩ := me_slotOf (S := fun r r' u' => r' = r ∧ i_R (4 + 4) u' _) (ca := -4) (cb := nI 0) (hc 4 u _ hr.2 (by decide) y) (j_vc_slotOf hI y (ne_loc y C)) (br_f (by decide) (sg_find _ y 1 _ _ _ _ _ _ _ _ _ _ _ hU1 (by rw [ne_fd_n hxy _ pk_us]; exact br_f (by decide) rfl))) (br_f (by decide) (sg_find _ y 1 _ _ _ _ _ _ _ _ _ _ _ ne_U_b (by rw [ne_fd_s y _ rfl]; exact br_t (by decide) rfl)))
  exact absurd h.1 (by decide))
theorem ev_renew_l (x : Int32) (ga gb gc gd ge : Int32) (bC bD bU bP bV bQ : Nat → Int32) (hb : gb = 0) : wpY_renew (fun r' v' => r' = -3 ∧ v' = (ga, gb, gc, gd, ge, bC, bD, bU, bP, bV, bQ)) (ga, gb, gc, gd, ge, bC, bD, bU, bP, bV, bQ) x := br_t hb ⟨rfl, rfl⟩
theorem ev_renew_o (ga gb gc gd ge : Int32) (bC bD bU bP bV bQ : Nat → Int32) (hb : ¬ gb = 0) (hc : gc = 0) : wpY_renew (fun r' v' => r' = 12 ∧ v' = (ga, gb, 12, gd, 1, bC, bD, bU, bP, bV, bQ)) (ga, gb, gc, gd, ge, bC, bD, bU, bP, bV, bQ) 0 := br_f hb (br_t hc (br_t (by decide) ⟨rfl, rfl⟩))
theorem need_p16 {i_R : Nat → SX → SY → Prop} (h0 : wpX_init (fun u => wpY_init (fun v => i_R 0 u v))) (hf : ro_format i_R) (hu : ro_unlock i_R) (hc : rc_renew i_R) : ch_inj := ne_inj (fun x y hxy hw => by
  obtain ⟨u, C1, D1, U1, C, h1, hD, hI⟩ := ne_two h0 hf hu hxy hw
  obtain ⟨u', va, vb, h, _⟩ := me_renew (S := fun r r' u' v' => r' = r ∧ i_R (8 + 4) u' v') (hc 8 u _ h1 (by decide) 0) (j_vc_renew hI 0) (ev_renew_l 0 _ _ _ _ _ _ _ _ _ _ _ rfl) (ev_renew_o _ _ _ _ _ _ _ _ _ _ _ (by decide) rfl)
  exact absurd h.1 (by decide))
theorem ne_ren {i_R : Nat → SX → SY → Prop} (h0 : wpX_init (fun u => wpY_init (fun v => i_R 0 u v))) (hf : ro_format i_R) (hu : ro_unlock i_R) (hn : ro_renew i_R) {x y : Int32} (hxy : ¬ x = y) (hw : ∀ i, i < 8 → ch_P x 2 0 i = ch_P y 2 0 i) :
    ∃ (u : SX) (C1 D1 U1 C : Nat → Int32), i_R 12 u (1, 0, 0, 0, 0, C1, D1, U1, upd (fun _ => 0) 0 x, (fun _ => 0), (fun _ => 0)) ∧ i_Rel 8 u (1, 1, 12, 0, 1, C, (fun _ => 0), ne_U, (fun _ => y), (fun _ => 0), (fun _ => 0)) := by
  obtain ⟨u, C1, D1, U1, C, h1, hD, hI⟩ := ne_two h0 hf hu hxy hw
  obtain ⟨u', va, vb, h, rfl, rfl, h2⟩ := me_renew (S := fun _ _ u' v' => i_R (8 + 4) u' v') (hn 8 u _ h1 (by decide) 0) (j_vc_renew hI 0) (ev_renew_l 0 _ _ _ _ _ _ _ _ _ _ _ rfl) (ev_renew_o _ _ _ _ _ _ _ _ _ _ _ (by decide) rfl)
  exact ⟨u', C1, D1, U1, C, h, h2⟩
theorem need_p17 {i_R : Nat → SX → SY → Prop} (h0 : wpX_init (fun u => wpY_init (fun v => i_R 0 u v))) (hf : ro_format i_R) (hu : ro_unlock i_R) (hn : ro_renew i_R) (hc : rc_toRenew i_R) : ch_inj := ne_inj (fun x y hxy hw => by
  obtain ⟨u, C1, D1, U1, C, h1, hI⟩ := ne_ren h0 hf hu hn hxy hw
  have e1 : wpY_toRenew (fun r' => r' = 0) (1, 0, 0, 0, 0, C1, D1, U1, upd (fun _ => 0) 0 x, (fun _ => 0), (fun _ => 0)) := rfl
  have e2 : wpY_toRenew (fun r' => r' = 12) (1, 1, 12, 0, 1, C, (fun _ => 0), ne_U, (fun _ => y), (fun _ => 0), (fun _ => 0)) := rfl
  have h := me_toRenew (S := fun r r' => r' = r ∧ i_R (12 + 4) u _) (hc 12 u _ h1 (by decide)) (j_vc_toRenew hI) e1 e2
  exact absurd h.1 (by decide))
theorem need_p21 {i_R : Nat → SX → SY → Prop} (h0 : wpX_init (fun u => wpY_init (fun v => i_R 0 u v))) (hf : ro_format i_R) (hu : ro_unlock i_R) (hn : ro_renew i_R) (hc : rc_crash i_R) : ch_inj := ne_inj (fun x y hxy hw => by
  obtain ⟨u, C1, D1, U1, C, h1, hI⟩ := ne_ren h0 hf hu hn hxy hw
  obtain ⟨u', va, vb, h, _⟩ := me_crash (S := fun r r' u' v' => r' = r ∧ i_R (12 + 4) u' v') (ca := 0) (cb := 12) (FA := fun _ => True) (FB := fun _ => True) (hc 12 u _ h1 (by decide) 0) (j_vc_crash hI 0) (br_f (by decide) ⟨rfl, trivial⟩) (br_f (by decide) ⟨rfl, trivial⟩)
  exact absurd h.1 (by decide))
theorem ev_damage_s (p : Int32) (ga gb gc gd ge : Int32) (bC bD bU bP bV bQ : Nat → Int32) (ha : ¬ ga = 0) (hd : bD 0 = 0) : wpY_damage (fun r' v' => r' = 0 ∧ v' = (ga, gb, gc, gd, ge, bC, upd bD 0 1, bU, bP, bV, bQ)) (ga, gb, gc, gd, ge, bC, bD, bU, bP, bV, bQ) 0 p := by
  unfold wpY_damage
  dsimp only
  refine pa_ySector_g _ _ _ (sv_i12 (j := 0) (by decide)) (br_t rfl (br_f ha ⟨sv_i12 (j := 0) (by decide), br_t hd ⟨sv_i12 (j := 0) (by decide), ?_⟩⟩))
  rw [sy_n1]
  exact nm_e ⟨rfl, rfl⟩
theorem ev_damage_b (p : Int32) (ga gb gc gd ge : Int32) (bC bD bU bP bV bQ : Nat → Int32) (ha : ¬ ga = 0) (hd : ¬ bD 0 = 0) : wpY_damage (fun r' v' => r' = -5 ∧ v' = (ga, gb, gc, gd, ge, bC, bD, bU, bP, bV, bQ)) (ga, gb, gc, gd, ge, bC, bD, bU, bP, bV, bQ) 0 p := by
  unfold wpY_damage
  dsimp only
  exact pa_ySector_g _ _ _ (sv_i12 (j := 0) (by decide)) (br_t rfl (br_f ha ⟨sv_i12 (j := 0) (by decide), br_f hd ⟨rfl, rfl⟩⟩))
theorem need_p20 {i_R : Nat → SX → SY → Prop} (h0 : wpX_init (fun u => wpY_init (fun v => i_R 0 u v))) (hf : ro_format i_R) (hu : ro_unlock i_R) (hl : ro_fill i_R) (hc : rc_damage i_R) : ch_inj := ne_inj (fun x y hxy hw => by
  obtain ⟨u, v, C, h1, hA, hI, _⟩ := ne_start h0 hf x y hw
  obtain ⟨C1, D1, U1, hC1, hD1, hU1, rfl⟩ := hA
  obtain ⟨u1, va, vb, h2, rfl, rfl, hI1⟩ := me_damage (S := fun r r' u' v' => r' = r ∧ i_R (4 + 4) u' v') (hc 4 u _ h1 (by decide) 0 0) (j_vc_damage hI 0 0) (ev_damage_s 0 _ _ _ _ _ _ _ _ _ _ _ (by decide) (hD1 0 (by decide))) (ev_damage_s 0 _ _ _ _ _ _ _ _ _ _ _ (by decide) rfl)
  obtain ⟨u2, va, vb, h3, rfl, rfl, hI2⟩ := me_unlock (S := fun _ _ u' v' => i_R (8 + 4) u' v') (hu 8 u1 _ h2.2 (by decide) y) (j_vc_unlock hI1 y (fun _ _ _ _ => rfl)) (ev_unlock_n 1 y _ _ _ _ _ _ _ _ _ _ _ (by decide) rfl hU1 (ne_fd_n hxy _ pk_us)) (ev_unlock_s 1 y _ _ _ _ _ _ _ _ _ _ _ (by decide) rfl ne_U_b (ne_fd_s y _ rfl))
  obtain ⟨u3, va, vb, h4, rfl, ⟨C3, rfl⟩, hI3⟩ := me_fill (S := fun _ _ u' v' => i_R (12 + 4) u' v') (hl 12 u2 _ h3 (by decide) 0 0 0) (j_vc_fill hI2 0 0 0) (ev_fill_l 0 0 0 _ _ _ _ _ _ _ _ _ _ _ rfl (sv_i12 (j := 0) (by decide))) (ev_fill_o 0 0 1 _ _ _ _ _ _ _ _ _ _ _ (by decide) ⟨fun z => absurd z (by decide), fun _ => rfl⟩)
  obtain ⟨u4, va, vb, h5, _⟩ := me_damage (S := fun r r' u' v' => r' = r ∧ i_R (16 + 4) u' v') (hc 16 u3 _ h4 (by decide) 0 0) (j_vc_damage hI3 0 0) (ev_damage_b 0 _ _ _ _ _ _ _ _ _ _ _ (by decide) (by rw [pk_us]; decide)) (ev_damage_s 0 _ _ _ _ _ _ _ _ _ _ _ (by decide) pk_us)
  exact absurd h5.1 (by decide))
/-! format(x), unlock(x), then y -/
theorem ne_find0 (post : Int32 → SX → Prop) (y : Int32) (t : Nat) (ht : t < 16) (fa fb fc fd ff fg fh : Int32) (aK aE aV aS aC aY aT aW : Nat → Int32) (hT : ch_tl 16 aT) (hb : sv_bt t 0 = 1) (hS : ∀ i, i < 8 → aS (0 * 16 + i) = ch_P y 2 0 i) (hp : post (nI 0) (fa, fb, fc, fd, nI t, ff, fg, fh, aK, aE, aV, aS, aC, aY, (fun _ => 0), ch_P y 2 0, aW)) : wpX_findSlot post (fa, fb, fc, fd, nI t, ff, fg, fh, aK, aE, aV, aS, aC, aY, (fun _ => 0), aT, aW) y := by
  unfold wpX_findSlot
  exact sf_stream _ fa fb fc fd (nI t) ff fg fh aK aE aV aS aC aY aT aW _ _ _ hT ⟨1, br_f (by decide) (sf_isTaken _ 0 (by decide) t ht fa fb fc fd ff fg fh aK aE aV aS aC aY (fun _ => 0) (ch_P y 2 0) aW (fun _ => br_f (by decide) (sf_belongs _ 0 (by decide) fa fb fc fd (nI t) ff fg fh aK aE aV aS aC aY (fun _ => 0) (ch_P y 2 0) aW (fun _ => br_f (by decide) hp) (fun z => absurd hS z))) (fun z => absurd hb (by omega)))⟩
def ne_w (x : Int32) : SY := (1, 1, 0, 0, 0, (fun _ => 0), (fun _ => 0), ne_U, (fun _ => x), (fun _ => 0), (fun _ => 0))
theorem ne_bt0 {t : Nat} (h : ne_U 0 = nI (sv_bt t 0)) : sv_bt t 0 = 1 := sy_b1 (t := t) (s := 0) (fun z => absurd (h.trans z) (by decide))
theorem ne_ax {k : Nat} {u : SX} {x y : Int32} (hw : ∀ i, i < 8 → ch_P x 2 0 i = ch_P y 2 0 i) (I : i_Rel k u (ne_w x)) : wpX_addKey (fun r u' => r = -6 ∧ i_Rel k u' (ne_w x)) u y := by
  obtain ⟨fa, fb, fc, fd, fe, ff, fg, fh, aK, aE, aV, aS, aC, aY, aD, aT, aW⟩ := u
  obtain ⟨gc, bC, bD, bU, bP, bV, bQ, ev, rfl, R⟩ := I
  injection ev with e1 ev
  injection ev with e2 ev
  injection ev with e3 ev
  injection ev with e4 ev
  injection ev with e5 ev
  injection ev with e6 ev
  injection ev with e7 ev
  injection ev with e8 ev
  injection ev with e9 ev
  injection ev with e10 e11
  subst e1 e2 e3 e4 e5 e6 e7 e8 e9 e10 e11
  obtain ⟨hT, ha, hY, hm, t, ht, ht0, rfl, hS, hC, hcp⟩ := rl_op R (by decide)
  have hb := ne_bt0 (t := t) (hS 0 (by decide)).1
  refine br_f (by decide) (ne_find0 _ y t ht 1 1 0 0 ff fg fh aK aE aV aS aC aY aT aW hT hb (fun i hi => by rw [((hS 0 (by decide)).2 hb).1 i hi]; exact hw i hi) ?_)
  exact br_f (by decide) ⟨rfl, rl_mk (rl_T R (ch_tl_P _ _ _))⟩
theorem ne_cx {k : Nat} {u : SX} {x y : Int32} (hw : ∀ i, i < 8 → ch_P x 2 0 i = ch_P y 2 0 i) (I : i_Rel k u (ne_w x)) : wpX_changeKey (fun r _ => r = 0 ∧ True) u 0 y := by
  obtain ⟨fa, fb, fc, fd, fe, ff, fg, fh, aK, aE, aV, aS, aC, aY, aD, aT, aW⟩ := u
  obtain ⟨gc, bC, bD, bU, bP, bV, bQ, ev, rfl, R⟩ := I
  injection ev with e1 ev
  injection ev with e2 ev
  injection ev with e3 ev
  injection ev with e4 ev
  injection ev with e5 ev
  injection ev with e6 ev
  injection ev with e7 ev
  injection ev with e8 ev
  injection ev with e9 ev
  injection ev with e10 e11
  subst e1 e2 e3 e4 e5 e6 e7 e8 e9 e10 e11
  obtain ⟨hT, ha, hY, hm, t, ht, ht0, rfl, hS, hC, hcp⟩ := rl_op R (by decide)
  have hb := ne_bt0 (t := t) (hS 0 (by decide)).1
  unfold wpX_changeKey
  dsimp only
  refine pa_xSlot_g _ _ _ (sy_i4 (j := 0) (by decide)) (br_f (by decide) (br_f (by decide) (sf_isTaken _ 0 (by decide) t ht 1 1 0 0 ff fg fh aK aE aV aS aC aY (fun _ => 0) aT aW (fun _ => br_f (by decide) ?_) (fun z => absurd hb (by omega)))))
  exact ne_find0 _ y t ht 1 1 0 0 ff fg fh aK aE aV aS aC aY aT aW hT hb (fun i hi => by rw [((hS 0 (by decide)).2 hb).1 i hi]; exact hw i hi) (br_t rfl ⟨rfl, trivial⟩)
/-- format(x), unlock(x): both open -/
theorem ne_x2 {i_R : Nat → SX → SY → Prop} (h0 : wpX_init (fun u => wpY_init (fun v => i_R 0 u v))) (hf : ro_format i_R) (hu : ro_unlock i_R) (x : Int32) :
    ∃ (u : SX) (C D U : Nat → Int32), i_R 8 u (1, 1, 0, 0, 0, C, D, U, upd (fun _ => 0) 0 x, (fun _ => 0), (fun _ => 0)) ∧ (∀ s, s < 4 → U s = nI (sv_bt 1 s)) ∧ i_Rel 4 u (ne_w x) := by
  obtain ⟨u, v, C, h1, hA, hI, hC⟩ := ne_start h0 hf x x (fun _ _ => rfl)
  obtain ⟨C1, D1, U1, hC1, hD1, hU1, rfl⟩ := hA
  rw [hC rfl] at hI
  obtain ⟨u', va, vb, h, rfl, rfl, h2⟩ := me_unlock (S := fun _ _ u' v' => i_R (4 + 4) u' v') (hu 4 u _ h1 (by decide) x) (j_vc_unlock hI x (ne_loc x _)) (ev_unlock_s 1 x _ _ _ _ _ _ _ _ _ _ _ (by decide) rfl hU1 (ne_fd_s x _ pk_us)) (ev_unlock_s 1 x _ _ _ _ _ _ _ _ _ _ _ (by decide) rfl ne_U_b (ne_fd_s x _ rfl))
  exact ⟨u', C1, D1, U1, h, hU1, h2⟩
theorem need_p13 {i_R : Nat → SX → SY → Prop} (h0 : wpX_init (fun u => wpY_init (fun v => i_R 0 u v))) (hf : ro_format i_R) (hu : ro_unlock i_R) (hc : rc_changeKey i_R) : ch_inj := ne_inj (fun x y hxy hw => by
  obtain ⟨u, C, D, U, h1, hU, hI⟩ := ne_x2 h0 hf hu x
  have e1 : wpY_changeKey (fun r' v' => r' = 1 ∧ True) (1, 1, 0, 0, 0, C, D, U, upd (fun _ => 0) 0 x, (fun _ => 0), (fun _ => 0)) 0 y := by
    unfold wpY_changeKey
    dsimp only
    refine pa_ySlot_g _ _ _ (sy_i4 (j := 0) (by decide)) (br_t rfl (br_f (by decide) ⟨sy_i4 (j := 0) (by decide), br_f ?_ (sg_find _ y 1 1 1 0 0 0 C D U (upd (fun _ => 0) 0 x) (fun _ => 0) (fun _ => 0) hU ?_)⟩))
    · show ¬ U 0 = 0
      rw [hU 0 (by decide)]
      decide
    · rw [ne_fd_n hxy _ pk_us]
      exact br_f (by decide) (br_t (by decide) ⟨sy_i4 (j := 0) (by decide), nm_e ⟨rfl, trivial⟩⟩)
  obtain ⟨u', va, h, _⟩ := mx_changeKey (S := fun r r' u' v' => r' = r ∧ i_R (8 + 4) u' v') (hc 8 u _ h1 (by decide) 0 y) (ne_cx hw hI) e1
  exact absurd h.1 (by decide))
theorem ne_ay {x y : Int32} (hxy : ¬ x = y) (C D U : Nat → Int32) (hU : ∀ s, s < 4 → U s = nI (sv_bt 1 s)) : wpY_addKey (fun r' v' => r' = nI 1 ∧ v' = (1, 1, 0, 0, 0, C, D, upd U 1 1, upd (upd (fun _ => 0) 0 x) 1 y, (fun _ => 0), (fun _ => 0))) (1, 1, 0, 0, 0, C, D, U, upd (fun _ => 0) 0 x, (fun _ => 0), (fun _ => 0)) y := by
  refine br_f (by decide) (sg_find _ y 1 1 1 0 0 0 C D U (upd (fun _ => 0) 0 x) (fun _ => 0) (fun _ => 0) hU ?_)
  rw [ne_fd_n hxy _ pk_us]
  refine br_t (by decide) ⟨2, sg_ak23 _ y 1 1 1 0 0 0 C D U (upd (fun _ => 0) 0 x) (fun _ => 0) (fun _ => 0) hU 1 (by decide) (by decide) ⟨rfl, rfl⟩ 1 0 rfl (fun r _ h => ?_)⟩
  have : r = 0 := by omega
  subst this
  decide
theorem need_p11 {i_R : Nat → SX → SY → Prop} (h0 : wpX_init (fun u => wpY_init (fun v => i_R 0 u v))) (hf : ro_format i_R) (hu : ro_unlock i_R) (hc : rc_addKey i_R) : ch_inj := ne_inj (fun x y hxy hw => by
  obtain ⟨u, C, D, U, h1, hU, hI⟩ := ne_x2 h0 hf hu x
  obtain ⟨u', va, h, _⟩ := mx_addKey (S := fun r r' u' v' => r' = r ∧ i_R (8 + 4) u' v') (hc 8 u _ h1 (by decide) y) (ne_ax hw hI) (ne_ay hxy C D U hU)
  exact absurd h.1 (by decide))
/-- then addKey(y): the reference has it in slot 1, the class has refused it -/
theorem ne_x3 {i_R : Nat → SX → SY → Prop} (h0 : wpX_init (fun u => wpY_init (fun v => i_R 0 u v))) (hf : ro_format i_R) (hu : ro_unlock i_R) (hk : ro_addKey i_R) {x y : Int32} (hxy : ¬ x = y) (hw : ∀ i, i < 8 → ch_P x 2 0 i = ch_P y 2 0 i) :
    ∃ (u : SX) (C D U : Nat → Int32), i_R 12 u (1, 1, 0, 0, 0, C, D, U, upd (upd (fun _ => 0) 0 x) 1 y, (fun _ => 0), (fun _ => 0)) ∧ (∀ s, s < 4 → U s = nI (sv_bt 3 s)) ∧ i_Rel 4 u (ne_w x) := by
  obtain ⟨u, C, D, U, h1, hU, hI⟩ := ne_x2 h0 hf hu x
  obtain ⟨u', va, h, rfl, h2⟩ := mx_addKey (S := fun _ _ u' v' => i_R (8 + 4) u' v') (hk 8 u _ h1 (by decide) y) (ne_ax hw hI) (ne_ay hxy C D U hU)
  refine ⟨u', C, D, upd U 1 1, h, fun s hs => ?_, h2⟩
  have h4 : s = 0 ∨ s = 1 ∨ s = 2 ∨ s = 3 := by omega
  rcases h4 with rfl | rfl | rfl | rfl
  · rw [pk_un (by decide), hU 0 (by decide)]; decide
  · rw [pk_us]; decide
  · rw [pk_un (by decide), hU 2 (by decide)]; decide
  · rw [pk_un (by decide), hU 3 (by decide)]; decide
theorem need_p14 {i_R : Nat → SX → SY → Prop} (h0 : wpX_init (fun u => wpY_init (fun v => i_R 0 u v))) (hf : ro_format i_R) (hu : ro_unlock i_R) (hk : ro_addKey i_R) (hc : rc_slots i_R) : ch_inj := ne_inj (fun x y hxy hw => by
  obtain ⟨u, C, D, U, h1, hU, hI⟩ := ne_x3 h0 hf hu hk hxy hw
  have e1 : wpY_slots (fun r' => r' = nI 3) (1, 1, 0, 0, 0, C, D, U, upd (upd (fun _ => 0) 0 x) 1 y, (fun _ => 0), (fun _ => 0)) := ⟨5, sg_sl4 (fun r' => r' = nI 3) 3 (by decide) 1 1 0 0 0 C D U (upd (upd (fun _ => 0) 0 x) 1 y) (fun _ => 0) (fun _ => 0) (by decide) hU rfl 4 0 rfl⟩
  have e2 : wpY_slots (fun r' => r' = nI 1) (ne_w x) := ⟨5, sg_sl4 (fun r' => r' = nI 1) 1 (by decide) 1 1 0 0 0 (fun _ => 0) (fun _ => 0) ne_U (fun _ => x) (fun _ => 0) (fun _ => 0) (by decide) ne_U_b rfl 4 0 rfl⟩
  have h := me_slots (S := fun r r' => r' = r ∧ i_R (12 + 4) u _) (hc 12 u _ h1 (by decide)) (j_vc_slots hI) e1 e2
  exact absurd h.1 (by decide))
theorem ev_remove_l (t : Nat) (ga gb gc gd ge : Int32) (bC bD bU bP bV bQ : Nat → Int32) (hb : ¬ gb = 0) (hU : ∀ s, s < 4 → bU s = nI (sv_bt t s)) (h1 : sv_bt t 0 = 1) (hp : sv_pop t = 1) : wpY_removeKey (fun r' v' => r' = -8 ∧ v' = (ga, gb, gc, gd, ge, bC, bD, bU, bP, bV, bQ)) (ga, gb, gc, gd, ge, bC, bD, bU, bP, bV, bQ) 0 := by
  unfold wpY_removeKey
  dsimp only
  refine pa_ySlot_g _ _ _ (sy_i4 (j := 0) (by decide)) (br_t rfl (br_f hb ⟨sy_i4 (j := 0) (by decide), br_f ?_ (sg_cs _ t ga gb gc gd ge bC bD bU bP bV bQ hU (br_t (by rw [hp]; rfl) ⟨rfl, rfl⟩))⟩))
  show ¬ bU 0 = 0
  rw [hU 0 (by decide), h1]
  decide
theorem ev_remove_s (t : Nat) (ht : t < 16) (ga gb gc gd ge : Int32) (bC bD bU bP bV bQ : Nat → Int32) (hb : ¬ gb = 0) (hU : ∀ s, s < 4 → bU s = nI (sv_bt t s)) (h1 : sv_bt t 0 = 1) (hp : ¬ nI (sv_pop t) = 1) : wpY_removeKey (fun r' v' => r' = nI (sv_pop (sv_clr t 0)) ∧ v' = (ga, gb, gc, gd, ge, bC, bD, upd bU 0 0, bP, bV, bQ)) (ga, gb, gc, gd, ge, bC, bD, bU, bP, bV, bQ) 0 := by
  unfold wpY_removeKey
  dsimp only
  refine pa_ySlot_g _ _ _ (sy_i4 (j := 0) (by decide)) (br_t rfl (br_f hb ⟨sy_i4 (j := 0) (by decide), br_f ?_ (sg_cs _ t ga gb gc gd ge bC bD bU bP bV bQ hU (br_f hp ⟨sy_i4 (j := 0) (by decide), ?_⟩))⟩))
  · show ¬ bU 0 = 0
    rw [hU 0 (by decide), h1]
    decide
  · rw [sy_n0]
    refine nm_e (sg_cs _ (sv_clr t 0) ga gb gc gd ge bC bD (upd bU 0 0) bP bV bQ (fun s hs => ?_) ⟨rfl, rfl⟩)
    rw [sv_clr_b 0 (by decide) t ht s hs]
    by_cases hs0 : s = 0
    · rw [if_pos hs0, hs0]; exact pk_us
    · rw [if_neg hs0, pk_un hs0]; exact hU s hs
theorem need_p12 {i_R : Nat → SX → SY → Prop} (h0 : wpX_init (fun u => wpY_init (fun v => i_R 0 u v))) (hf : ro_format i_R) (hu : ro_unlock i_R) (hk : ro_addKey i_R) (hc : rc_removeKey i_R) : ch_inj := ne_inj (fun x y hxy hw => by
  obtain ⟨u, C, D, U, h1, hU, hI⟩ := ne_x3 h0 hf hu hk hxy hw
  obtain ⟨u', va, vb, h, _⟩ := me_removeKey (S := fun r r' u' v' => r' = r ∧ i_R (12 + 4) u' v') (hc 12 u _ h1 (by decide) 0) (j_vc_removeKey hI 0) (ev_remove_s 3 (by decide) _ _ _ _ _ _ _ _ _ _ _ (by decide) hU (by decide) (by decide)) (ev_remove_l 1 _ _ _ _ _ _ _ _ _ _ _ (by decide) ne_U_b (by decide) (by decide))
  exact absurd h.1 (by decide))
theorem ev_save (t : Nat) (ga gb gc gd ge : Int32) (bC bD bU bP bV bQ : Nat → Int32) (ha : ¬ ga = 0) (hc : gc = 0) (hU : ∀ s, s < 4 → bU s = nI (sv_bt t s)) : wpY_saveSlots (fun r' v' => r' = nI (sv_pop t) ∧ ∃ V Q, (∀ s, s < 4 → V s = nI (sv_bt t s)) ∧ v' = (ga, gb, gc, 1, 0, bC, bD, bU, bP, V, Q)) (ga, gb, gc, gd, ge, bC, bD, bU, bP, bV, bQ) :=
  br_f ha (br_t (by rw [hc]; decide) ⟨5, sg_ss33 _ t ga gb gc 1 0 bC bD bU bP hU (fun bV' bQ' h1 h2 => ⟨rfl, bV', bQ', fun s hs => by rw [h1 s hs]; exact hU s hs, rfl⟩) 4 0 bV bQ rfl (fun s hs => absurd hs (by omega)) (fun s hs => absurd hs (by omega))⟩)
theorem ev_restore (t : Nat) (ga gb gc gd ge : Int32) (bC bD bU bP bV bQ : Nat → Int32) (ha : ¬ ga = 0) (hd : ¬ gd = 0) (he : ge = 0) (hc : gc = 0) (hV : ∀ s, s < 4 → bV s = nI (sv_bt t s)) : wpY_restoreSlots (fun r' v' => r' = nI (sv_pop t) ∧ True) (ga, gb, gc, gd, ge, bC, bD, bU, bP, bV, bQ) :=
  br_f ha (br_f hd (br_t he (br_t (by rw [hc]; decide) ⟨5, sg_rs36 _ t ga gb gc gd ge bC bD bV bQ hV (fun bU' bP' _ _ => ⟨rfl, trivial⟩) 4 0 bU bP rfl (fun s hs => absurd hs (by omega)) (fun s hs => absurd hs (by omega))⟩)))
theorem need_p18 {i_R : Nat → SX → SY → Prop} (h0 : wpX_init (fun u => wpY_init (fun v => i_R 0 u v))) (hf : ro_format i_R) (hu : ro_unlock i_R) (hk : ro_addKey i_R) (hc : rc_saveSlots i_R) : ch_inj := ne_inj (fun x y hxy hw => by
  obtain ⟨u, C, D, U, h1, hU, hI⟩ := ne_x3 h0 hf hu hk hxy hw
  obtain ⟨u', va, vb, h, _⟩ := me_saveSlots (S := fun r r' u' v' => r' = r ∧ i_R (12 + 4) u' v') (hc 12 u _ h1 (by decide)) (j_vc_saveSlots hI) (ev_save 3 _ _ _ _ _ _ _ _ _ _ _ (by decide) rfl hU) (ev_save 1 _ _ _ _ _ _ _ _ _ _ _ (by decide) rfl ne_U_b)
  exact absurd h.1 (by decide))
theorem need_p19 {i_R : Nat → SX → SY → Prop} (h0 : wpX_init (fun u => wpY_init (fun v => i_R 0 u v))) (hf : ro_format i_R) (hu : ro_unlock i_R) (hk : ro_addKey i_R) (hs : ro_saveSlots i_R) (hc : rc_restoreSlots i_R) : ch_inj := ne_inj (fun x y hxy hw => by
  obtain ⟨u, C, D, U, h1, hU, hI⟩ := ne_x3 h0 hf hu hk hxy hw
  obtain ⟨u', va, vb, h, ⟨V, Q, hV, rfl⟩, ⟨V2, Q2, hV2, rfl⟩, hI2⟩ := me_saveSlots (S := fun _ _ u' v' => i_R (12 + 4) u' v') (hs 12 u _ h1 (by decide)) (j_vc_saveSlots hI) (ev_save 3 _ _ _ _ _ _ _ _ _ _ _ (by decide) rfl hU) (ev_save 1 _ _ _ _ _ _ _ _ _ _ _ (by decide) rfl ne_U_b)
  obtain ⟨u'', va, vb, h2, _⟩ := me_restoreSlots (S := fun r r' u' v' => r' = r ∧ i_R (16 + 4) u' v') (FA := fun _ => True) (FB := fun _ => True) (hc 16 u' _ h (by decide)) (j_vc_restoreSlots hI2) (ev_restore 3 _ _ _ _ _ _ _ _ _ _ _ (by decide) (by decide) rfl rfl hV) (ev_restore 1 _ _ _ _ _ _ _ _ _ _ _ (by decide) (by decide) rfl rfl hV2)
  exact absurd h2.1 (by decide))
/-- then removeKey(0), lock(), unlock(x), write(0, 0, 7): the class has it, the reference is locked -/
theorem ne_x7 {i_R : Nat → SX → SY → Prop} (h0 : wpX_init (fun u => wpY_init (fun v => i_R 0 u v))) (hf : ro_format i_R) (hu : ro_unlock i_R) (hk : ro_addKey i_R) (hr : ro_removeKey i_R) (hl : ro_lock i_R) (hwr : ro_write i_R) {x y : Int32} (hxy : ¬ x = y) (hw : ∀ i, i < 8 → ch_P x 2 0 i = ch_P y 2 0 i) :
    ∃ (u : SX) (C D U P : Nat → Int32), i_R 28 u (1, 0, 0, 0, 0, C, D, U, P, (fun _ => 0), (fun _ => 0)) ∧ i_Rel 20 u (1, 1, 0, 0, 0, upd (fun _ => 0) 0 7, (fun _ => 0), ne_U, (fun _ => x), (fun _ => 0), (fun _ => 0)) := by
  obtain ⟨u, C, D, U, h1, hU, hI⟩ := ne_x3 h0 hf hu hk hxy hw
  obtain ⟨u1, va, vb, h2, rfl, rfl, hI1⟩ := me_removeKey (S := fun _ _ u' v' => i_R (12 + 4) u' v') (hr 12 u _ h1 (by decide) 0) (j_vc_removeKey hI 0) (ev_remove_s 3 (by decide) _ _ _ _ _ _ _ _ _ _ _ (by decide) hU (by decide) (by decide)) (ev_remove_l 1 _ _ _ _ _ _ _ _ _ _ _ (by decide) ne_U_b (by decide) (by decide))
  obtain ⟨u2, va, vb, h3, rfl, rfl, hI2⟩ := me_lock (S := fun _ _ u' v' => i_R (16 + 4) u' v') (ca := 1) (cb := 1) (FA := fun v' => v' = (1, 0, 0, 0, 0, C, D, upd U 0 0, upd (upd (fun _ => 0) 0 x) 1 y, (fun _ => 0), (fun _ => 0))) (FB := fun v' => v' = ne_v x (fun _ => 0)) (hl 16 u1 _ h2 (by decide)) (j_vc_lock hI1) (br_f (by decide) (br_f (by decide) ⟨rfl, rfl⟩)) (br_f (by decide) (br_f (by decide) ⟨rfl, rfl⟩))
  have hU2 : ∀ s, s < 4 → upd U 0 0 s = nI (sv_bt 2 s) := fun s hs => by
    have h4 : s = 0 ∨ s = 1 ∨ s = 2 ∨ s = 3 := by omega
    rcases h4 with rfl | rfl | rfl | rfl
    · rw [pk_us]; decide
    · rw [pk_un (by decide), hU 1 (by decide)]; decide
    · rw [pk_un (by decide), hU 2 (by decide)]; decide
    · rw [pk_un (by decide), hU 3 (by decide)]; decide
  have hfd : sl_fd 2 (upd (upd (fun _ => 0) 0 x) 1 y) x 4 0 = -1 := by
    rcases sl_fd_p 2 (upd (upd (fun _ => 0) 0 x) 1 y) x 4 0 with ⟨e, _⟩ | ⟨s, _, hs, _, hb, hp⟩
    · exact e
    · have h4 : s = 0 ∨ s = 1 ∨ s = 2 ∨ s = 3 := by omega
      rcases h4 with rfl | rfl | rfl | rfl
      · exact absurd hb (by decide)
      · rw [pk_us] at hp
        exact absurd hp.symm hxy
      · exact absurd hb (by decide)
      · exact absurd hb (by decide)
  obtain ⟨u3, va, vb, h4, rfl, rfl, hI3⟩ := me_unlock (S := fun _ _ u' v' => i_R (20 + 4) u' v') (hu 20 u2 _ h3 (by decide) x) (j_vc_unlock hI2 x (ne_loc x _)) (ev_unlock_n 2 x _ _ _ _ _ _ _ _ _ _ _ (by decide) rfl hU2 hfd) (ev_unlock_s 1 x _ _ _ _ _ _ _ _ _ _ _ (by decide) rfl ne_U_b (ne_fd_s x _ rfl))
  obtain ⟨u4, va, vb, h5, rfl, rfl, hI4⟩ := me_write (S := fun _ _ u' v' => i_R (24 + 4) u' v') (hwr 24 u3 _ h4 (by decide) 0 0 7) (j_vc_write hI3 0 0 7) (ev_write_l 0 0 7 _ _ _ _ _ _ _ _ _ _ _ rfl (sv_i12 (j := 0) (by decide)) (sv_i8 (j := 0) (by decide))) (ev_write_o 7 _ _ _ _ _ _ _ _ _ _ _ (by decide) rfl)
  exact ⟨u4, C, D, upd U 0 0, upd (upd (fun _ => 0) 0 x) 1 y, h5, hI4⟩
theorem need_p6 {i_R : Nat → SX → SY → Prop} (h0 : wpX_init (fun u => wpY_init (fun v => i_R 0 u v))) (hf : ro_format i_R) (hu : ro_unlock i_R) (hk : ro_addKey i_R) (hr : ro_removeKey i_R) (hl : ro_lock i_R) (hwr : ro_write i_R) (hc : rc_read i_R) : ch_inj := ne_inj (fun x y hxy hw => by
  obtain ⟨u, C, D, U, P, h1, hI⟩ := ne_x7 h0 hf hu hk hr hl hwr hxy hw
  have e1 : wpY_read (fun r' => r' = 0) (1, 0, 0, 0, 0, C, D, U, P, (fun _ => 0), (fun _ => 0)) 0 0 := sg_read_b _ 0 0 1 0 0 0 0 C D U P (fun _ => 0) (fun _ => 0) (Or.inr (Or.inr rfl)) rfl
  have e2 : wpY_read (fun r' => r' = 7) (1, 1, 0, 0, 0, upd (fun _ => 0) 0 7, (fun _ => 0), ne_U, (fun _ => x), (fun _ => 0), (fun _ => 0)) 0 0 := sg_read _ 0 0 (by decide) (by decide) 1 1 0 0 0 (upd (fun _ => 0) 0 7) (fun _ => 0) ne_U (fun _ => x) (fun _ => 0) (fun _ => 0) (by decide) (fun _ => pk_us) (fun z => absurd rfl z)
  obtain ⟨u', h, _⟩ := me_read (S := fun r r' u' => r' = r ∧ i_R (28 + 4) u' _) (hc 28 u _ h1 (by decide) 0 0) (j_vc_read hI 0 0) e1 e2
  exact absurd h.1 (by decide))
theorem ne_dg : ∀ n : Nat, rl_dg (upd (fun _ => 0) 0 7) (fun _ => 0) (n + 1) = 7
  | 0 => by
    show 0 + (nI 0 + 1) * (if (0 : Int32) = 0 then upd (fun _ => 0) 0 7 0 else 0) = 7
    rw [if_pos rfl, pk_us]
    decide
  | n + 1 => by
    show rl_dg (upd (fun _ => 0) 0 7) (fun _ => 0) (n + 1) + (nI (n + 1) + 1) * (if (0 : Int32) = 0 then upd (fun _ => 0) 0 7 (n + 1) else 0) = 7
    rw [ne_dg n, if_pos rfl, pk_un (by omega), Int32.mul_zero, Int32.add_zero]
theorem need_p10 {i_R : Nat → SX → SY → Prop} (h0 : wpX_init (fun u => wpY_init (fun v => i_R 0 u v))) (hf : ro_format i_R) (hu : ro_unlock i_R) (hk : ro_addKey i_R) (hr : ro_removeKey i_R) (hl : ro_lock i_R) (hwr : ro_write i_R) (hc : rc_digest i_R) : ch_inj := ne_inj (fun x y hxy hw => by
  obtain ⟨u, C, D, U, P, h1, hI⟩ := ne_x7 h0 hf hu hk hr hl hwr hxy hw
  have e1 : wpY_digest (fun r' => r' = 0) (1, 0, 0, 0, 0, C, D, U, P, (fun _ => 0), (fun _ => 0)) := ⟨97, sg_di4z (fun r' => r' = 0) 1 0 0 0 0 C D U P (fun _ => 0) (fun _ => 0) rfl rfl 96 0 rfl⟩
  have e2 : wpY_digest (fun r' => r' = 7) (1, 1, 0, 0, 0, upd (fun _ => 0) 0 7, (fun _ => 0), ne_U, (fun _ => x), (fun _ => 0), (fun _ => 0)) := ⟨97, sg_di4 (fun r' => r' = 7) 1 1 0 0 0 (upd (fun _ => 0) 0 7) (fun _ => 0) ne_U (fun _ => x) (fun _ => 0) (fun _ => 0) (by decide) (ne_dg 95) 96 0 rfl⟩
  obtain ⟨u', h, _⟩ := me_digest (S := fun r r' u' => r' = r ∧ i_R (28 + 4) u' _) (hc 28 u _ h1 (by decide)) (j_vc_digest hI) e1 e2
  exact absurd h.1 (by decide))
end
