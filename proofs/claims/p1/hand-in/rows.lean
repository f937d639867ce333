section
theorem pk_us {f : Nat → Int32} {k : Nat} {x : Int32} : upd f k x k = x := if_pos rfl
theorem pk_un {f : Nat → Int32} {k j : Nat} {x : Int32} (h : j ≠ k) : upd f k x j = f j := if_neg h
theorem pk_sub {a b : Nat} (h : b ≤ a) : nI a - nI b = nI (a - b) := by
  obtain ⟨c, rfl⟩ : ∃ c, a = c + b := ⟨a - b, by omega⟩
  rw [← nI_add, Int32.add_sub_cancel, Nat.add_sub_cancel]
theorem pk_mul (a b : Nat) : nI a * nI b = nI (a * b) := (Int32.ofNat_mul a b).symm
theorem pk_div {a d : Nat} (ha : a < 2 ^ 31) (h0 : 0 < d) (hd : d < 2 ^ 31) : nI a / nI d = nI (a / d) := by
  apply Int32.toInt_inj.mp
  rw [lg_idiv_nonneg (by rw [nI_toInt ha]; omega) (by rw [nI_toInt hd]; omega), nI_toInt ha, nI_toInt hd, nI_toInt (Nat.lt_of_le_of_lt (Nat.div_le_self a d) ha)]
  first | rfl | exact (Int.natCast_ediv _ _).symm
theorem pk_rem {a d : Nat} (ha : a < 2 ^ 31) (h0 : 0 < d) (hd : d < 2 ^ 31) : nI a - nI a / nI d * nI d = nI (a % d) := by
  rw [pk_div ha h0 hd, pk_mul, pk_sub (Nat.div_mul_le_self a d)]
  exact congrArg nI (by have := Nat.div_add_mod' a d; omega)
theorem pk_ix (x : Int32) {n : Nat} (hn : n < 2 ^ 31) : x < 0 ∨ nI n ≤ x ∨ ∃ j : Nat, j < n ∧ x = nI j := by
  by_cases h : x < 0
  · exact Or.inl h
  · obtain ⟨j, hj, rfl⟩ := nI_of h
    by_cases h2 : j < n
    · exact Or.inr (Or.inr ⟨j, h2, rfl⟩)
    · exact Or.inr (Or.inl (nI_le (by omega) hj))
theorem pk_le {x y : Int32} {A B : Prop} (a b : Nat) (f : a ≤ b → A) (g : b < a → B) (hx : x = nI a := by rfl) (hy : y = nI b := by rfl) (ha : a < 2 ^ 31 := by omega) (hb : b < 2 ^ 31 := by omega) : (x ≤ y → A) ∧ (¬ x ≤ y → B) := by
  subst hx hy
  rw [nI_leI ha hb]
  exact ⟨f, fun z => g (by omega)⟩
theorem pk_lt {x y : Int32} {A B : Prop} (a b : Nat) (f : a < b → A) (g : b ≤ a → B) (hx : x = nI a := by rfl) (hy : y = nI b := by rfl) (ha : a < 2 ^ 31 := by omega) (hb : b < 2 ^ 31 := by omega) : (x < y → A) ∧ (¬ x < y → B) := by
  subst hx hy
  rw [nI_ltI ha hb]
  exact ⟨f, fun z => g (by omega)⟩
theorem pk_eq {x y : Int32} {A B : Prop} (a b : Nat) (f : a = b → A) (g : a ≠ b → B) (hx : x = nI a := by rfl) (hy : y = nI b := by rfl) (ha : a < 2 ^ 31 := by omega) (hb : b < 2 ^ 31 := by omega) : (x = y → A) ∧ (¬ x = y → B) := by
  subst hx hy
  rw [nI_eq ha hb]
  exact ⟨f, g⟩
theorem pk_in {x : Int32} (n N : Nat) (h : n < N) (hx : x = nI n := by rfl) (hN : N < 2 ^ 31 := by omega) : vp_in x N := by
  subst hx
  exact vp_in_nI h hN
theorem pk_cl {x : Int32} (n : Nat) (hx : x = nI n := by rfl) (h : n < 2 ^ 31 := by omega) : x.toNatClampNeg = n := by
  subst hx
  exact nI_clamp h
theorem pk_tn {n : Nat} (h : n < 2 ^ 32) : (nI n).toBitVec.toNat = n := Nat.mod_eq_of_lt h
theorem pk_and (x : Int32) {m : Int32} (k : Nat) (hm : m.toBitVec.toNat = 2 ^ k - 1) : x &&& m = nI (x.toBitVec.toNat % 2 ^ k) := by
  apply Int32.toBitVec_inj.mp
  apply BitVec.eq_of_toNat_eq
  rw [Int32.toBitVec_and, BitVec.toNat_and, hm, Nat.and_two_pow_sub_one_eq_mod]
  show _ = (BitVec.ofNat 32 _).toNat
  rw [BitVec.toNat_ofNat]
  exact (Nat.mod_eq_of_lt (Nat.lt_of_le_of_lt (Nat.mod_le _ _) x.toBitVec.isLt)).symm
theorem pk_andN {n : Nat} (h : n < 2 ^ 32) {m : Int32} (k : Nat) (hm : m.toBitVec.toNat = 2 ^ k - 1) : nI n &&& m = nI (n % 2 ^ k) := by
  rw [pk_and _ k hm, pk_tn h]
theorem pk_andE (x : Int32) {m : Int32} (k : Nat) (hm : m.toBitVec.toNat = 2 ^ k - 1) : ∃ j : Nat, j < 2 ^ k ∧ x &&& m = nI j := ⟨_, Nat.mod_lt _ (Nat.two_pow_pos k), pk_and x k hm⟩
end
section
theorem sv_i8 {j : Nat} (h : j < 8) : vp_in (nI j) 8 := vp_in_nI h (by decide)
theorem sv_i9 {j : Nat} (h : j < 9) : vp_in (nI j) 9 := vp_in_nI h (by decide)
theorem sv_i12 {j : Nat} (h : j < 12) : vp_in (nI j) 12 := vp_in_nI h (by decide)
theorem sv_i16 {j : Nat} (h : j < 16) : vp_in (nI j) 16 := vp_in_nI h (by decide)
theorem sv_i64 {j : Nat} (h : j < 64) : vp_in (nI j) 64 := vp_in_nI h (by decide)
theorem sv_i216 {j : Nat} (h : j < 216) : vp_in (nI j) 216 := vp_in_nI h (by decide)
theorem sv_ia (a j N : Nat) (h : a + j < N) (hN : N < 2 ^ 31) : vp_in (nI a + nI j) N := by
  rw [nI_add]; exact vp_in_nI h hN
theorem sv_ge (b : Nat) {j : Nat} (h : b ≤ j) (hj : j < 2 ^ 31) : nI b ≤ nI j := nI_le h hj
theorem sv_ng (b : Nat) {j : Nat} (h : j < b) (hb : b < 2 ^ 31) : ¬ nI b ≤ nI j := nI_ge h hb
theorem sv_x4 {j : Nat} (h : j < 4) : vp_in (4 + ((nI j + 1) &&& 3)) 16 ∧ vp_in (8 + ((nI j + 2) &&& 3)) 16 ∧ vp_in (12 + ((nI j + 3) &&& 3)) 16 := by
  have h4 : j = 0 ∨ j = 1 ∨ j = 2 ∨ j = 3 := by omega
  rcases h4 with rfl | rfl | rfl | rfl <;>
    exact ⟨vp_in_iff.mpr (by decide +kernel), vp_in_iff.mpr (by decide +kernel), vp_in_iff.mpr (by decide +kernel)⟩
theorem sv_quarter (post : SX → Prop) (fa fb fc fd fe ff fg fh : Int32) (aK aE aV aS aC aY aD aT aW : Nat → Int32) (p0 p1 p2 p3 : Int32) (h0 : vp_in p0 16) (h1 : vp_in p1 16) (h2 : vp_in p2 16) (h3 : vp_in p3 16)
    (hp : ∀ aT' : Nat → Int32, post (fa, fb, fc, fd, fe, ff, fg, fh, aK, aE, aV, aS, aC, aY, aD, aT', aW)) : wpX_quarterRound post (fa, fb, fc, fd, fe, ff, fg, fh, aK, aE, aV, aS, aC, aY, aD, aT, aW) p0 p1 p2 p3 :=
  ⟨h0, fun _ _ => ⟨h1, fun _ _ => ⟨h2, fun _ _ => ⟨h3, fun _ _ => fun _ _ => fun _ _ => fun _ _ => fun _ _ => fun _ _ => fun _ _ => fun _ _ => fun _ _ => fun _ _ => fun _ _ => fun _ _ => fun _ _ =>
    ⟨h0, fun _ _ => ⟨h1, fun _ _ => ⟨h2, fun _ _ => ⟨h3, fun _ _ => hp _⟩⟩⟩⟩⟩⟩⟩⟩
theorem sv_scr144 (post : SX → Prop) (fa fb fc fd fe ff fg fh : Int32) (aK aE aV aS aC aY aW : Nat → Int32) (hp : ∀ aD' aT' : Nat → Int32, post (fa, fb, fc, fd, fe, ff, fg, fh, aK, aE, aV, aS, aC, aY, aD', aT', aW)) :
    ∀ (d j : Nat) (aD aT : Nat → Int32), j + d = 16 → wX_scramble_144 post fa fb fc fd fe ff fg fh (d + 1) (nI j) aK aE aV aS aC aY aD aT aW := by
  intro d
  induction d with
  | zero => intro j aD aT hj; exact br_t (sv_ge 16 (by omega) (by omega)) (hp _ _)
  | succ d ih =>
    intro j aD aT hj
    have hi : vp_in (nI j) 16 := sv_i16 (by omega)
    exact br_f (sv_ng 16 (by omega) (by decide)) ⟨hi, hi, hi, fun _ _ => ⟨hi, fun _ _ => nm_r (nI_1 j) (ih (j + 1) _ _ (by omega))⟩⟩
theorem sv_scr97 (post : SX → Prop) (J : Int32 → Int32 → Int32 → Int32 → Int32 → Int32 → Int32 → Int32 → Int32 → (Nat → Int32) → (Nat → Int32) → (Nat → Int32) → (Nat → Int32) → (Nat → Int32) → (Nat → Int32) → (Nat → Int32) → (Nat → Int32) → (Nat → Int32) → Prop) (x1 : Int32) (fa fb fc fd fe ff fg fh : Int32) (aK aE aV aS aC aY aD aW : Nat → Int32)
    (hJ : ∀ aT' : Nat → Int32, ∀ y : Int32, y = x1 + 1 → J y fa fb fc fd fe ff fg fh aK aE aV aS aC aY aD aT' aW) :
    ∀ (d j : Nat) (aT : Nat → Int32), j + d = 4 → wX_scramble_97 post J x1 (d + 1) (nI j) fa fb fc fd fe ff fg fh aK aE aV aS aC aY aD aT aW := by
  intro d
  induction d with
  | zero => intro j aT hj; exact br_t (sv_ge 4 (by omega) (by omega)) (hJ _)
  | succ d ih =>
    intro j aT hj
    obtain ⟨h1, h2, h3⟩ := sv_x4 (j := j) (by omega)
    exact br_f (sv_ng 4 (by omega) (by decide)) (sv_quarter _ fa fb fc fd fe ff fg fh aK aE aV aS aC aY aD aT aW _ _ _ _ (sv_i16 (by omega)) h1 h2 h3 (fun aT' => nm_r (nI_1 j) (ih (j + 1) aT' (by omega))))
theorem sv_scr68 (post : SX → Prop) (J : Int32 → Int32 → Int32 → Int32 → Int32 → Int32 → Int32 → Int32 → Int32 → (Nat → Int32) → (Nat → Int32) → (Nat → Int32) → (Nat → Int32) → (Nat → Int32) → (Nat → Int32) → (Nat → Int32) → (Nat → Int32) → (Nat → Int32) → Prop) (x1 : Int32) (fa fb fc fd fe ff fg fh : Int32) (aK aE aV aS aC aY aD aW : Nat → Int32)
    (hJ : ∀ aT' : Nat → Int32, ∀ y : Int32, y = x1 + 1 → J y fa fb fc fd fe ff fg fh aK aE aV aS aC aY aD aT' aW) :
    ∀ (d j : Nat) (aT : Nat → Int32), j + d = 4 → wX_scramble_68 post J x1 (d + 1) (nI j) fa fb fc fd fe ff fg fh aK aE aV aS aC aY aD aT aW := by
  intro d
  induction d with
  | zero => intro j aT hj; exact br_t (sv_ge 4 (by omega) (by omega)) ⟨5, sv_scr97 post J x1 fa fb fc fd fe ff fg fh aK aE aV aS aC aY aD aW hJ 4 0 aT rfl⟩
  | succ d ih =>
    intro j aT hj
    exact br_f (sv_ng 4 (by omega) (by decide)) (sv_quarter _ fa fb fc fd fe ff fg fh aK aE aV aS aC aY aD aT aW _ _ _ _ (sv_i16 (by omega)) (sv_ia 4 j 16 (by omega) (by decide)) (sv_ia 8 j 16 (by omega) (by decide)) (sv_ia 12 j 16 (by omega) (by decide)) (fun aT' => nm_r (nI_1 j) (ih (j + 1) aT' (by omega))))
theorem sv_scr60 (post : SX → Prop) (fa fb fc fd fe ff fg fh : Int32) (aK aE aV aS aC aY aD aW : Nat → Int32) (hp : ∀ aD' aT' : Nat → Int32, post (fa, fb, fc, fd, fe, ff, fg, fh, aK, aE, aV, aS, aC, aY, aD', aT', aW)) :
    ∀ (d j : Nat) (aT : Nat → Int32), j + d = 10 → wX_scramble_60 post (d + 1) (nI j) fa fb fc fd fe ff fg fh aK aE aV aS aC aY aD aT aW := by
  intro d
  induction d with
  | zero => intro j aT hj; exact br_t (sv_ge 10 (by omega) (by omega)) ⟨17, sv_scr144 post fa fb fc fd fe ff fg fh aK aE aV aS aC aY aW hp 16 0 aD aT rfl⟩
  | succ d ih =>
    intro j aT hj
    exact br_f (sv_ng 10 (by omega) (by decide)) ⟨5, sv_scr68 post (wX_scramble_60 post (d + 1)) (nI j) fa fb fc fd fe ff fg fh aK aE aV aS aC aY aD aW (fun aT' => nm_r (nI_1 j) (ih (j + 1) aT' (by omega))) 4 0 aT rfl⟩
theorem sv_scr34 (post : SX → Prop) (fa fb fc fd fe ff fg fh : Int32) (aK aE aV aS aC aY aD aW : Nat → Int32) (hp : ∀ aD' aT' : Nat → Int32, post (fa, fb, fc, fd, fe, ff, fg, fh, aK, aE, aV, aS, aC, aY, aD', aT', aW)) :
    ∀ (d j : Nat) (aT : Nat → Int32), j + d = 16 → wX_scramble_34 post fa fb fc fd fe ff fg fh (d + 1) (nI j) aK aE aV aS aC aY aD aT aW := by
  intro d
  induction d with
  | zero => intro j aT hj; exact br_t (sv_ge 16 (by omega) (by omega)) ⟨11, sv_scr60 post fa fb fc fd fe ff fg fh aK aE aV aS aC aY aD aW hp 10 0 aT rfl⟩
  | succ d ih =>
    intro j aT hj
    have hi : vp_in (nI j) 16 := sv_i16 (by omega)
    exact br_f (sv_ng 16 (by omega) (by decide)) ⟨hi, hi, fun _ _ => nm_r (nI_1 j) (ih (j + 1) _ (by omega))⟩
theorem sv_scramble (post : SX → Prop) (fa fb fc fd fe ff fg fh : Int32) (aK aE aV aS aC aY aD aT aW : Nat → Int32) (hp : ∀ aD' aT' : Nat → Int32, post (fa, fb, fc, fd, fe, ff, fg, fh, aK, aE, aV, aS, aC, aY, aD', aT', aW)) : wpX_scramble post (fa, fb, fc, fd, fe, ff, fg, fh, aK, aE, aV, aS, aC, aY, aD, aT, aW) :=
  fun _ _ => fun _ _ => fun _ _ => fun aD' _ => ⟨17, sv_scr34 post fa fb fc fd fe ff fg fh aK aE aV aS aC aY aD' aW hp 16 0 aT rfl⟩
theorem sv_stream (post : SX → Prop) (fa fb fc fd fe ff fg fh : Int32) (aK aE aV aS aC aY aD aT aW : Nat → Int32) (p0 p1 p2 : Int32) (hp : ∀ aD' aT' : Nat → Int32, post (fa, fb, fc, fd, fe, ff, fg, fh, aK, aE, aV, aS, aC, aY, aD', aT', aW)) : wpX_streamFromPassphrase post (fa, fb, fc, fd, fe, ff, fg, fh, aK, aE, aV, aS, aC, aY, aD, aT, aW) p0 p1 p2 :=
  fun _ _ => fun _ _ => fun aD' _ => sv_scramble _ fa fb fc fd fe ff fg fh aK aE aV aS aC aY aD' aT aW hp
end
section
theorem sv_mk12 (post : SX → Prop) (fa fb fc fd fe ff fg fh : Int32) (aK aE aV aS aC aD aT aW : Nat → Int32) (hp : ∀ aY' : Nat → Int32, post (fa, fb, fc, fd, fe, ff, fg, fh, aK, aE, aV, aS, aC, aY', aD, aT, aW)) :
    ∀ (d j : Nat) (aY : Nat → Int32), j + d = 8 → wX_makeKey_12 post fa fb fc fd fe ff fg fh (d + 1) (nI j) aK aE aV aS aC aY aD aT aW := by
  intro d
  induction d with
  | zero => intro j aY hj; exact br_t (sv_ge 8 (by omega) (by omega)) (hp _)
  | succ d ih =>
    intro j aY hj
    exact br_f (sv_ng 8 (by omega) (by decide)) ⟨sv_i16 (by omega), sv_i8 (by omega), fun _ _ => nm_r (nI_1 j) (ih (j + 1) _ (by omega))⟩
theorem sv_makeKey (post : SX → Prop) (fa fb fc fd fe ff fg fh : Int32) (aK aE aV aS aC aY aD aT aW : Nat → Int32) (p0 : Int32) (hp : ∀ aY' aD' aT' : Nat → Int32, post (fa, fb, fc, fd, fe, ff, fg, fh, aK, aE, aV, aS, aC, aY', aD', aT', aW)) : wpX_makeKey post (fa, fb, fc, fd, fe, ff, fg, fh, aK, aE, aV, aS, aC, aY, aD, aT, aW) p0 := by
  unfold wpX_makeKey
  exact sv_stream _ fa fb fc fd fe ff fg fh aK aE aV aS aC aY aD aT aW _ _ _ (fun aD' aT' => ⟨9, sv_mk12 post fa fb fc fd fe ff fg fh aK aE aV aS aC aD' aT' aW (fun aY' => hp aY' aD' aT') 8 0 aY rfl⟩)
theorem sv_sfk2 (post : SX → Prop) (i : Nat) (hi : i < 12) (x2 : Int32) (fa fb fc fd fe ff fg fh : Int32) (aK aE aV aS aC aY aT aW : Nat → Int32) (hp : ∀ aD' : Nat → Int32, post (fa, fb, fc, fd, fe, ff, fg, fh, aK, aE, aV, aS, aC, aY, aD', aT, aW)) :
    ∀ (d j : Nat) (aD : Nat → Int32), j + d = 8 → wX_seedFromKey_2 post (nI i) x2 fa fb fc fd fe ff fg fh (d + 1) (nI j) aK aE aV aS aC aY aD aT aW := by
  intro d
  induction d with
  | zero => intro j aD hj; exact br_t (sv_ge 8 (by omega) (by omega)) (fun _ _ => fun _ _ => ⟨sv_i12 hi, fun _ _ => hp _⟩)
  | succ d ih =>
    intro j aD hj
    exact br_f (sv_ng 8 (by omega) (by decide)) ⟨sv_i8 (by omega), sv_ia 4 j 16 (by omega) (by decide), fun _ _ => nm_r (nI_1 j) (ih (j + 1) _ (by omega))⟩
theorem sv_seedFromKey (post : SX → Prop) (i : Nat) (hi : i < 12) (x2 : Int32) (fa fb fc fd fe ff fg fh : Int32) (aK aE aV aS aC aY aD aT aW : Nat → Int32) (hp : ∀ aD' : Nat → Int32, post (fa, fb, fc, fd, fe, ff, fg, fh, aK, aE, aV, aS, aC, aY, aD', aT, aW)) : wpX_seedFromKey post (fa, fb, fc, fd, fe, ff, fg, fh, aK, aE, aV, aS, aC, aY, aD, aT, aW) (nI i) x2 :=
  ⟨9, sv_sfk2 post i hi x2 fa fb fc fd fe ff fg fh aK aE aV aS aC aY aT aW hp 8 0 aD rfl⟩
theorem sv_sumW6 (post : Int32 → Prop) (fa fb fc fd fe ff fg fh : Int32) (aK aE aV aS aC aY aD aT aW : Nat → Int32) (hp : ∀ r : Int32, post r) :
    ∀ (d j : Nat) (x3 : Int32), j + d = 8 → wX_sumOf__work_6 post 0 fa fb fc fd fe ff fg fh aK aE aV aS aC aY aD aT aW (d + 1) x3 (nI j) := by
  intro d
  induction d with
  | zero => intro j x3 hj; exact br_t (sv_ge 8 (by omega) (by omega)) (hp _)
  | succ d ih =>
    intro j x3 hj
    exact br_f (sv_ng 8 (by omega) (by decide)) ⟨sv_ia 0 j 9 (by omega) (by decide), fun _ _ => nm_r (nI_1 j) (ih (j + 1) _ (by omega))⟩
theorem sv_sumW (post : Int32 → Prop) (fa fb fc fd fe ff fg fh : Int32) (aK aE aV aS aC aY aD aT aW : Nat → Int32) (hp : ∀ r : Int32, post r) : wpX_sumOf__work post (fa, fb, fc, fd, fe, ff, fg, fh, aK, aE, aV, aS, aC, aY, aD, aT, aW) 0 :=
  ⟨9, sv_sumW6 post fa fb fc fd fe ff fg fh aK aE aV aS aC aY aD aT aW hp 8 0 _ rfl⟩
theorem sv_sumK6 (post : Int32 → Prop) (w : Nat) (hw : w + 9 ≤ 216) (fa fb fc fd fe ff fg fh : Int32) (aK aE aV aS aC aY aD aT aW : Nat → Int32) (hp : ∀ r : Int32, post r) :
    ∀ (d j : Nat) (x3 : Int32), j + d = 8 → wX_sumOf__kept_6 post (nI w) fa fb fc fd fe ff fg fh aK aE aV aS aC aY aD aT aW (d + 1) x3 (nI j) := by
  intro d
  induction d with
  | zero => intro j x3 hj; exact br_t (sv_ge 8 (by omega) (by omega)) (hp _)
  | succ d ih =>
    intro j x3 hj
    exact br_f (sv_ng 8 (by omega) (by decide)) ⟨sv_ia w j 216 (by omega) (by decide), fun _ _ => nm_r (nI_1 j) (ih (j + 1) _ (by omega))⟩
theorem sv_sumK (post : Int32 → Prop) (w : Nat) (hw : w + 9 ≤ 216) (fa fb fc fd fe ff fg fh : Int32) (aK aE aV aS aC aY aD aT aW : Nat → Int32) (hp : ∀ r : Int32, post r) : wpX_sumOf__kept post (fa, fb, fc, fd, fe, ff, fg, fh, aK, aE, aV, aS, aC, aY, aD, aT, aW) (nI w) :=
  ⟨9, sv_sumK6 post w hw fa fb fc fd fe ff fg fh aK aE aV aS aC aY aD aT aW hp 8 0 _ rfl⟩
theorem sv_seal12 (post : SX → Prop) (fa fb fc fd fe ff fg fh : Int32) (aK aE aV aS aC aY aD aT : Nat → Int32) (hp : ∀ aW' : Nat → Int32, post (fa, fb, fc, fd, fe, ff, fg, fh, aK, aE, aV, aS, aC, aY, aD, aT, aW')) :
    ∀ (d j : Nat) (aW : Nat → Int32), j + d = 8 → wX_sealWork_12 post fa fb fc fd fe ff fg fh (d + 1) (nI j) aK aE aV aS aC aY aD aT aW := by
  intro d
  induction d with
  | zero => intro j aW hj; exact br_t (sv_ge 8 (by omega) (by omega)) (sv_sumW _ fa fb fc fd fe ff fg fh aK aE aV aS aC aY aD aT aW (fun _ => fun _ _ => hp _))
  | succ d ih =>
    intro j aW hj
    exact br_f (sv_ng 8 (by omega) (by decide)) ⟨sv_i9 (by omega), sv_i16 (by omega), sv_i9 (by omega), fun _ _ => nm_r (nI_1 j) (ih (j + 1) _ (by omega))⟩
theorem sv_sealWork (post : SX → Prop) (i : Nat) (hi : i < 12) (x2 : Int32) (fa fb fc fd fe ff fg fh : Int32) (aK aE aV aS aC aY aD aT aW : Nat → Int32) (hp : ∀ aD' aT' aW' : Nat → Int32, post (fa, fb, fc, fd, fe, ff, fg, fh, aK, aE, aV, aS, aC, aY, aD', aT', aW')) : wpX_sealWork post (fa, fb, fc, fd, fe, ff, fg, fh, aK, aE, aV, aS, aC, aY, aD, aT, aW) (nI i) x2 :=
  sv_seedFromKey _ i hi x2 fa fb fc fd fe ff fg fh aK aE aV aS aC aY aD aT aW (fun aD1 => sv_scramble _ fa fb fc fd fe ff fg fh aK aE aV aS aC aY aD1 aT aW (fun aD' aT' =>
    ⟨9, sv_seal12 post fa fb fc fd fe ff fg fh aK aE aV aS aC aY aD' aT' (fun aW' => hp aD' aT' aW') 8 0 aW rfl⟩))
theorem sv_row (i : Nat) (hi : i < 12) (e : Int32) : ∃ w : Nat, w + 9 ≤ 216 ∧ (2 * nI i + (e &&& 1)) * 9 = nI w := by
  obtain ⟨j, hj, ej⟩ := pk_andE e (m := 1) 1 (by decide)
  refine ⟨(2 * i + j) * 9, by omega, ?_⟩
  rw [ej]
  show (nI 2 * nI i + nI j) * nI 9 = _
  rw [pk_mul, nI_add, pk_mul]
theorem sv_rowOf (post : Int32 → Prop) (i : Nat) (hi : i < 12) (e : Int32) (fa fb fc fd fe ff fg fh : Int32) (aK aE aV aS aC aY aD aT aW : Nat → Int32) (hp : ∀ w : Nat, w + 9 ≤ 216 → post (nI w)) : wpX_rowOf post (fa, fb, fc, fd, fe, ff, fg, fh, aK, aE, aV, aS, aC, aY, aD, aT, aW) (nI i) e := by
  obtain ⟨w, hw, ew⟩ := sv_row i hi e
  show post ((2 * nI i + (e &&& 1)) * 9)
  rw [ew]
  exact hp w hw
theorem sv_kw2 (post : SX → Prop) (w : Nat) (hw : w + 9 ≤ 216) (x2 : Int32) (fa fb fc fd fe ff fg fh : Int32) (aE aV aS aC aY aD aT aW : Nat → Int32) (hp : ∀ aK' : Nat → Int32, post (fa, fb, fc, fd, fe, ff, fg, fh, aK', aE, aV, aS, aC, aY, aD, aT, aW)) :
    ∀ (d j : Nat) (aK : Nat → Int32), j + d = 9 → wX_keepWork_2 post (nI w) x2 fa fb fc fd fe ff fg fh (d + 1) (nI j) aK aE aV aS aC aY aD aT aW := by
  intro d
  induction d with
  | zero => intro j aK hj; exact br_t (sv_ge 9 (by omega) (by omega)) (hp _)
  | succ d ih =>
    intro j aK hj
    exact br_f (sv_ng 9 (by omega) (by decide)) (br_c (fun _ => hp _) (fun _ => ⟨sv_i9 (by omega), sv_ia w j 216 (by omega) (by decide), fun _ _ => nm_r (nI_1 j) (ih (j + 1) _ (by omega))⟩))
theorem sv_keepWork (post : SX → Prop) (w : Nat) (hw : w + 9 ≤ 216) (x2 : Int32) (fa fb fc fd fe ff fg fh : Int32) (aK aE aV aS aC aY aD aT aW : Nat → Int32) (hp : ∀ aK' : Nat → Int32, post (fa, fb, fc, fd, fe, ff, fg, fh, aK', aE, aV, aS, aC, aY, aD, aT, aW)) : wpX_keepWork post (fa, fb, fc, fd, fe, ff, fg, fh, aK, aE, aV, aS, aC, aY, aD, aT, aW) (nI w) x2 :=
  ⟨10, sv_kw2 post w hw x2 fa fb fc fd fe ff fg fh aE aV aS aC aY aD aT aW hp 9 0 aK rfl⟩
theorem sv_er44 (post : SX → Prop) (J : Int32 → Int32 → Int32 → Int32 → Int32 → Int32 → Int32 → Int32 → Int32 → (Nat → Int32) → (Nat → Int32) → (Nat → Int32) → (Nat → Int32) → (Nat → Int32) → (Nat → Int32) → (Nat → Int32) → (Nat → Int32) → (Nat → Int32) → Prop) (i : Nat) (hi : i < 12) (fa fb fc fd fe ff fg fh : Int32) (aK aE aV aS aC aY aD aT : Nat → Int32)
    (hJ : ∀ aK' aD' aT' aW' : Nat → Int32, ∀ y : Int32, y = nI i + 1 → J y fa fb fc fd fe ff fg fh aK' aE aV aS aC aY aD' aT' aW') :
    ∀ (d j : Nat) (aW : Nat → Int32), j + d = 8 → wX_eraseSectors_44 post J (nI i) fa fb fc fd fe ff fg fh (d + 1) (nI j) aK aE aV aS aC aY aD aT aW := by
  intro d
  induction d with
  | zero =>
    intro j aW hj
    exact br_t (sv_ge 8 (by omega) (by omega)) (sv_sealWork _ i hi 0 fa fb fc fd fe ff fg fh aK aE aV aS aC aY aD aT aW (fun aD' aT' aW' =>
      sv_rowOf _ i hi 0 fa fb fc fd fe ff fg fh aK aE aV aS aC aY aD' aT' aW' (fun w hw => sv_keepWork _ w hw 9 fa fb fc fd fe ff fg fh aK aE aV aS aC aY aD' aT' aW' (fun aK' => hJ aK' aD' aT' aW'))))
  | succ d ih =>
    intro j aW hj
    exact br_f (sv_ng 8 (by omega) (by decide)) ⟨sv_i9 (by omega), fun _ _ => nm_r (nI_1 j) (ih (j + 1) _ (by omega))⟩
theorem sv_er29 (post : SX → Prop) (fa fb fc fd fe ff fg fh : Int32) (aV aS aC aY : Nat → Int32) (hp : ∀ aK' aE' aD' aT' aW' : Nat → Int32, (∀ i, i < 12 → aE' i = 0) → post (fa, fb, fc, fd, fe, ff, fg, fh, aK', aE', aV, aS, aC, aY, aD', aT', aW')) :
    ∀ (d j : Nat) (aK aE aD aT aW : Nat → Int32), j + d = 12 → (∀ i, i < j → aE i = 0) → wX_eraseSectors_29 post (d + 1) (nI j) fa fb fc fd fe ff fg fh aK aE aV aS aC aY aD aT aW := by
  intro d
  induction d with
  | zero => intro j aK aE aD aT aW hj hE; exact br_t (sv_ge 12 (by omega) (by omega)) (hp _ _ _ _ _ (fun i hi => hE i (by omega)))
  | succ d ih =>
    intro j aK aE aD aT aW hj hE
    refine br_f (sv_ng 12 (by omega) (by decide)) ⟨sv_i12 (by omega), fun aE' hE' => ⟨9, sv_er44 post (wX_eraseSectors_29 post (d + 1)) j (by omega) fa fb fc fd fe ff fg fh aK aE' aV aS aC aY aD aT (fun aK' aD' aT' aW' => nm_r (nI_1 j) (ih (j + 1) aK' aE' aD' aT' aW' (by omega) ?_)) 8 0 aW rfl⟩⟩
    intro i hi
    rw [hE', nI_clamp (by omega)]
    by_cases hij : i = j
    · rw [hij]; exact pk_us
    · rw [pk_un hij]; exact hE i (by omega)
theorem sv_er7 (post : SX → Prop) (fa fb fc fd fe ff fg fh : Int32) (aE aV aS aC aY aD aT aW : Nat → Int32) (hp : ∀ aK' aE' aD' aT' aW' : Nat → Int32, (∀ i, i < 12 → aE' i = 0) → post (fa, fb, fc, fd, fe, ff, fg, fh, aK', aE', aV, aS, aC, aY, aD', aT', aW')) :
    ∀ (d j : Nat) (aK : Nat → Int32), j + d = 216 → wX_eraseSectors_7 post fa fb fc fd fe ff fg fh (d + 1) (nI j) aK aE aV aS aC aY aD aT aW := by
  intro d
  induction d with
  | zero => intro j aK hj; exact br_t (sv_ge 216 (by omega) (by omega)) ⟨13, sv_er29 post fa fb fc fd fe ff fg fh aV aS aC aY hp 12 0 aK aE aD aT aW rfl (fun i hi => absurd hi (by omega))⟩
  | succ d ih =>
    intro j aK hj
    exact br_f (sv_ng 216 (by omega) (by decide)) ⟨sv_i216 (by omega), fun _ _ => nm_r (nI_1 j) (ih (j + 1) _ (by omega))⟩
theorem sv_eraseSectors (post : SX → Prop) (fa fb fc fd fe ff fg fh : Int32) (aK aE aV aS aC aY aD aT aW : Nat → Int32) (hp : ∀ aK' aE' aD' aT' aW' : Nat → Int32, (∀ i, i < 12 → aE' i = 0) → post (fa, fb, fc, fd, fe, ff, 0, fh, aK', aE', aV, aS, aC, aY, aD', aT', aW')) : wpX_eraseSectors post (fa, fb, fc, fd, fe, ff, fg, fh, aK, aE, aV, aS, aC, aY, aD, aT, aW) :=
  ⟨217, sv_er7 post fa fb fc fd fe ff 0 fh aE aV aS aC aY aD aT aW hp 216 0 aK rfl⟩
theorem sv_em2 (post : SX → Prop) (s : Nat) (hs : s < 4) (fa fb fc fd fe ff fg fh : Int32) (aK aE aV aC aY aD aT aW : Nat → Int32) (hp : ∀ aS' : Nat → Int32, post (fa, fb, fc, fd, (fe &&& (((1 : Int32) <<< (nI s &&& 31)) ^^^ (-1))), ff, fg, fh, aK, aE, aV, aS', aC, aY, aD, aT, aW)) :
    ∀ (d j : Nat) (aS : Nat → Int32), j + d = 16 → wX_emptySlot_2 post (nI s) fa fb fc fd fe ff fg fh (d + 1) (nI j) aK aE aV aS aC aY aD aT aW := by
  intro d
  induction d with
  | zero => intro j aS hj; exact br_t (sv_ge 16 (by omega) (by omega)) (nm_e (hp _))
  | succ d ih =>
    intro j aS hj
    have h : vp_in ((nI s * 16) + nI j) 64 := by
      rw [show nI s * 16 = nI (s * 16) from pk_mul s 16]; exact sv_ia (s * 16) j 64 (by omega) (by decide)
    exact br_f (sv_ng 16 (by omega) (by decide)) ⟨h, fun _ _ => nm_r (nI_1 j) (ih (j + 1) _ (by omega))⟩
theorem sv_emptySlot (post : SX → Prop) (s : Nat) (hs : s < 4) (fa fb fc fd fe ff fg fh : Int32) (aK aE aV aS aC aY aD aT aW : Nat → Int32) (hp : ∀ aS' : Nat → Int32, post (fa, fb, fc, fd, (fe &&& (((1 : Int32) <<< (nI s &&& 31)) ^^^ (-1))), ff, fg, fh, aK, aE, aV, aS', aC, aY, aD, aT, aW)) : wpX_emptySlot post (fa, fb, fc, fd, fe, ff, fg, fh, aK, aE, aV, aS, aC, aY, aD, aT, aW) (nI s) :=
  ⟨17, sv_em2 post s hs fa fb fc fd fe ff fg fh aK aE aV aC aY aD aT aW hp 16 0 aS rfl⟩
theorem sv_es20 (post : SX → Prop) (fa fb fc fd fe ff fg fh : Int32) (aK aE aV aS aY aD aT aW : Nat → Int32) (hp : ∀ aC' : Nat → Int32, post (fa, fb, fc, fd, fe, ff, fg, fh, aK, aE, aV, aS, aC', aY, aD, aT, aW)) :
    ∀ (d j : Nat) (aC : Nat → Int32), j + d = 64 → wX_eraseSlots_20 post fa fb fc fd fe ff fg fh (d + 1) (nI j) aK aE aV aS aC aY aD aT aW := by
  intro d
  induction d with
  | zero => intro j aC hj; exact br_t (sv_ge 64 (by omega) (by omega)) (hp _)
  | succ d ih =>
    intro j aC hj
    exact br_f (sv_ng 64 (by omega) (by decide)) ⟨sv_i64 (by omega), fun _ _ => nm_r (nI_1 j) (ih (j + 1) _ (by omega))⟩
def sv_clr (t s : Nat) : Nat := if t / 2 ^ s % 2 = 1 then t - 2 ^ s else t
theorem sv_clr_e : ∀ s, s < 4 → ∀ t, t < 16 → nI t &&& (((1 : Int32) <<< (nI s &&& 31)) ^^^ (-1)) = nI (sv_clr t s) ∧ sv_clr t s < 16 := by decide +kernel
theorem sv_clr_4 : ∀ t, t < 16 → sv_clr (sv_clr (sv_clr (sv_clr t 0) 1) 2) 3 = 0 := by decide +kernel
theorem sv_k0 : ∀ x, x < 16 → sv_clr x 0 % 2 = 0 := by decide +kernel
theorem sv_k1 : ∀ x, x < 16 → x % 2 = 0 → sv_clr x 1 % 4 = 0 := by decide +kernel
theorem sv_k2 : ∀ x, x < 16 → x % 4 = 0 → sv_clr x 2 % 8 = 0 := by decide +kernel
theorem sv_k3 : ∀ x, x < 16 → x % 8 = 0 → sv_clr x 3 = 0 := by decide +kernel
theorem sv_em (post : SX → Prop) (s : Nat) (hs : s < 4) (t : Nat) (ht : t < 16) (fa fb fc fd ff fg fh : Int32) (aK aE aV aS aC aY aD aT aW : Nat → Int32) (hp : ∀ aS' : Nat → Int32, post (fa, fb, fc, fd, nI (sv_clr t s), ff, fg, fh, aK, aE, aV, aS', aC, aY, aD, aT, aW)) : wpX_emptySlot post (fa, fb, fc, fd, nI t, ff, fg, fh, aK, aE, aV, aS, aC, aY, aD, aT, aW) (nI s) := by
  refine sv_emptySlot post s hs fa fb fc fd (nI t) ff fg fh aK aE aV aS aC aY aD aT aW (fun aS' => ?_)
  rw [(sv_clr_e s hs t ht).1]
  exact hp aS'
theorem sv_es2 (post : SX → Prop) (fa fb fc fd ff fg fh : Int32) (aK aE aV aC aY aD aT aW : Nat → Int32) (hp : ∀ aS' aC' : Nat → Int32, ∀ t : Nat, t = 0 → post (fa, fb, fc, fd, nI t, ff, fg, fh, aK, aE, aV, aS', aC', aY, aD, aT, aW)) :
    ∀ (d j t : Nat) (aS : Nat → Int32), j + d = 4 → t < 16 → (j = 0 ∨ j = 1 ∧ t % 2 = 0 ∨ j = 2 ∧ t % 4 = 0 ∨ j = 3 ∧ t % 8 = 0 ∨ j = 4 ∧ t = 0) → wX_eraseSlots_2 post (d + 1) (nI j) fa fb fc fd (nI t) ff fg fh aK aE aV aS aC aY aD aT aW := by
  intro d
  induction d with
  | zero =>
    intro j t aS hj ht h
    exact br_t (sv_ge 4 (by omega) (by omega)) ⟨65, sv_es20 post fa fb fc fd (nI t) ff fg fh aK aE aV aS aY aD aT aW (fun aC' => hp aS aC' t (by omega)) 64 0 aC rfl⟩
  | succ d ih =>
    intro j t aS hj ht h
    have hc := sv_clr_e j (by omega) t ht
    refine br_f (sv_ng 4 (by omega) (by decide)) (sv_em _ j (by omega) t ht fa fb fc fd ff fg fh aK aE aV aS aC aY aD aT aW (fun aS' => nm_r (nI_1 j) (ih (j + 1) (sv_clr t j) aS' (by omega) hc.2 ?_)))
    have h4 : j = 0 ∨ j = 1 ∨ j = 2 ∨ j = 3 := by omega
    rcases h4 with rfl | rfl | rfl | rfl
    · have := sv_k0 t ht; omega
    · have := sv_k1 t ht (by omega); omega
    · have := sv_k2 t ht (by omega); omega
    · have := sv_k3 t ht (by omega); omega
theorem sv_eraseSlots (post : SX → Prop) (t : Nat) (ht : t < 16) (fa fb fc fd ff fg fh : Int32) (aK aE aV aS aC aY aD aT aW : Nat → Int32) (hp : ∀ aS' aC' : Nat → Int32, post (fa, fb, fc, fd, 0, ff, fg, fh, aK, aE, aV, aS', aC', aY, aD, aT, aW)) : wpX_eraseSlots post (fa, fb, fc, fd, nI t, ff, fg, fh, aK, aE, aV, aS, aC, aY, aD, aT, aW) :=
  ⟨5, sv_es2 post fa fb fc fd ff fg fh aK aE aV aC aY aD aT aW (fun aS' aC' t' e => by rw [e]; exact hp aS' aC') 4 0 t aS rfl ht (Or.inl rfl)⟩
theorem sv_ps57 (post : SX → Prop) (s : Nat) (hs : s < 4) (fa fb fc fd fe ff fg fh : Int32) (aK aE aV aC aY aD aT aW : Nat → Int32) (hp : ∀ aS' : Nat → Int32, post (fa, fb, fc, fd, (fe ||| ((1 : Int32) <<< (nI s &&& 31))), ff, fg, fh, aK, aE, aV, aS', aC, aY, aD, aT, aW)) :
    ∀ (d j : Nat) (aS : Nat → Int32), j + d = 8 → wX_putSlot_57 post (nI s) (nI (s * 16)) fa fb fc fd fe ff fg fh (d + 1) (nI j) aK aE aV aS aC aY aD aT aW := by
  intro d
  induction d with
  | zero => intro j aS hj; exact br_t (sv_ge 8 (by omega) (by omega)) (nm_e (hp _))
  | succ d ih =>
    intro j aS hj
    have h : vp_in ((nI (s * 16) + 8) + nI j) 64 := by
      rw [show nI (s * 16) + 8 = nI (s * 16 + 8) from nI_add (s * 16) 8]; exact sv_ia (s * 16 + 8) j 64 (by omega) (by decide)
    exact br_f (sv_ng 8 (by omega) (by decide)) ⟨sv_i16 (by omega), sv_i8 (by omega), h, fun _ _ => nm_r (nI_1 j) (ih (j + 1) _ (by omega))⟩
theorem sv_ps15 (post : SX → Prop) (s : Nat) (hs : s < 4) (x2 : Int32) (fa fb fc fd fe ff fg fh : Int32) (aK aE aV aC aY aD aT aW : Nat → Int32) (hp : ∀ aS' aD' aT' : Nat → Int32, post (fa, fb, fc, fd, (fe ||| ((1 : Int32) <<< (nI s &&& 31))), ff, fg, fh, aK, aE, aV, aS', aC, aY, aD', aT', aW)) :
    ∀ (d j : Nat) (aS : Nat → Int32), j + d = 8 → wX_putSlot_15 post (nI s) x2 (nI (s * 16)) fa fb fc fd fe ff fg fh (d + 1) (nI j) aK aE aV aS aC aY aD aT aW := by
  intro d
  induction d with
  | zero =>
    intro j aS hj
    exact br_t (sv_ge 8 (by omega) (by omega)) (sv_stream _ fa fb fc fd fe ff fg fh aK aE aV aS aC aY aD aT aW _ _ _ (fun aD' aT' => ⟨9, sv_ps57 post s hs fa fb fc fd fe ff fg fh aK aE aV aC aY aD' aT' aW (fun aS' => hp aS' aD' aT') 8 0 aS rfl⟩))
  | succ d ih =>
    intro j aS hj
    exact br_f (sv_ng 8 (by omega) (by decide)) ⟨sv_i16 (by omega), sv_ia (s * 16) j 64 (by omega) (by decide), fun _ _ => nm_r (nI_1 j) (ih (j + 1) _ (by omega))⟩
theorem sv_putSlot (post : SX → Prop) (s : Nat) (hs : s < 4) (x2 : Int32) (fa fb fc fd fe ff fg fh : Int32) (aK aE aV aS aC aY aD aT aW : Nat → Int32) (hp : ∀ aS' aD' aT' : Nat → Int32, post (fa, fb, fc, fd, (fe ||| ((1 : Int32) <<< (nI s &&& 31))), ff, fg, fh, aK, aE, aV, aS', aC, aY, aD', aT', aW)) : wpX_putSlot post (fa, fb, fc, fd, fe, ff, fg, fh, aK, aE, aV, aS, aC, aY, aD, aT, aW) (nI s) x2 :=
  nm_r (pk_mul s 16) (sv_stream _ fa fb fc fd fe ff fg fh aK aE aV aS aC aY aD aT aW _ _ _ (fun aD' aT' => ⟨9, sv_ps15 post s hs x2 fa fb fc fd fe ff fg fh aK aE aV aC aY aD' aT' aW hp 8 0 aS rfl⟩))
theorem sv_fs44 (post : SX → Prop) (fa fb fc fd fe ff fg fh : Int32) (aK aE aV aS aC aY aD aT : Nat → Int32) (hp : ∀ aW' : Nat → Int32, post (fa, fb, fc, fd, fe, ff, fg, fh, aK, aE, aV, aS, aC, aY, aD, aT, aW')) :
    ∀ (d j : Nat) (aW : Nat → Int32), j + d = 9 → wX_forgetSecrets_44 post fa fb fc fd fe ff fg fh (d + 1) (nI j) aK aE aV aS aC aY aD aT aW := by
  intro d
  induction d with
  | zero => intro j aW hj; exact br_t (sv_ge 9 (by omega) (by omega)) (hp _)
  | succ d ih =>
    intro j aW hj
    exact br_f (sv_ng 9 (by omega) (by decide)) ⟨sv_i9 (by omega), fun _ _ => nm_r (nI_1 j) (ih (j + 1) _ (by omega))⟩
theorem sv_fs23 (post : SX → Prop) (fa fb fc fd fe ff fg fh : Int32) (aK aE aV aS aC aY aD aW : Nat → Int32) (hp : ∀ aT' aW' : Nat → Int32, post (fa, fb, fc, fd, fe, ff, fg, fh, aK, aE, aV, aS, aC, aY, aD, aT', aW')) :
    ∀ (d j : Nat) (aT : Nat → Int32), j + d = 16 → wX_forgetSecrets_23 post fa fb fc fd fe ff fg fh (d + 1) (nI j) aK aE aV aS aC aY aD aT aW := by
  intro d
  induction d with
  | zero => intro j aT hj; exact br_t (sv_ge 16 (by omega) (by omega)) ⟨10, sv_fs44 post fa fb fc fd fe ff fg fh aK aE aV aS aC aY aD aT (hp aT) 9 0 aW rfl⟩
  | succ d ih =>
    intro j aT hj
    exact br_f (sv_ng 16 (by omega) (by decide)) ⟨sv_i16 (by omega), fun _ _ => nm_r (nI_1 j) (ih (j + 1) _ (by omega))⟩
theorem sv_fs2 (post : SX → Prop) (fa fb fc fd fe ff fg fh : Int32) (aK aE aV aS aC aD aT aW : Nat → Int32) (hp : ∀ aY' aT' aW' : Nat → Int32, (∀ i, i < 8 → aY' i = 0) → post (fa, fb, fc, fd, fe, ff, fg, fh, aK, aE, aV, aS, aC, aY', aD, aT', aW')) :
    ∀ (d j : Nat) (aY : Nat → Int32), j + d = 8 → (∀ i, i < j → aY i = 0) → wX_forgetSecrets_2 post fa fb fc fd fe ff fg fh (d + 1) (nI j) aK aE aV aS aC aY aD aT aW := by
  intro d
  induction d with
  | zero => intro j aY hj hY; exact br_t (sv_ge 8 (by omega) (by omega)) ⟨17, sv_fs23 post fa fb fc fd fe ff fg fh aK aE aV aS aC aY aD aW (fun aT' aW' => hp aY aT' aW' (fun i hi => hY i (by omega))) 16 0 aT rfl⟩
  | succ d ih =>
    intro j aY hj hY
    refine br_f (sv_ng 8 (by omega) (by decide)) ⟨sv_i8 (by omega), fun aY' hY' => nm_r (nI_1 j) (ih (j + 1) aY' (by omega) ?_)⟩
    intro i hi
    rw [hY', nI_clamp (by omega)]
    by_cases hij : i = j
    · rw [hij]; exact pk_us
    · rw [pk_un hij]; exact hY i (by omega)
theorem sv_forget (post : SX → Prop) (fa fb fc fd fe ff fg fh : Int32) (aK aE aV aS aC aY aD aT aW : Nat → Int32) (hp : ∀ aY' aT' aW' : Nat → Int32, (∀ i, i < 8 → aY' i = 0) → post (fa, fb, fc, fd, fe, ff, fg, fh, aK, aE, aV, aS, aC, aY', aD, aT', aW')) : wpX_forgetSecrets post (fa, fb, fc, fd, fe, ff, fg, fh, aK, aE, aV, aS, aC, aY, aD, aT, aW) :=
  ⟨9, sv_fs2 post fa fb fc fd fe ff fg fh aK aE aV aS aC aD aT aW hp 8 0 aY rfl (fun i hi => absurd hi (by omega))⟩
end
section
theorem sv_isTaken (post : Int32 → Prop) (x : Int32) (fa fb fc fd fe ff fg fh : Int32) (aK aE aV aS aC aY aD aT aW : Nat → Int32) (h0 : post 0) (h1 : post 1) : wpX_isTaken post (fa, fb, fc, fd, fe, ff, fg, fh, aK, aE, aV, aS, aC, aY, aD, aT, aW) x :=
  br_c (fun _ => h1) (fun _ => h0)
theorem sv_sb4 (post : Int32 → Prop) (s : Nat) (hs : s < 4) (fa fb fc fd fe ff fg fh : Int32) (aK aE aV aS aC aY aD aT aW : Nat → Int32) (h0 : post 0) (h1 : post 1) :
    ∀ (d j : Nat) (x2 : Int32), j + d = 8 → wX_streamBelongsTo_4 post (nI s) fa fb fc fd fe ff fg fh aK aE aV aS aC aY aD aT aW (d + 1) x2 (nI j) := by
  intro d
  induction d with
  | zero => intro j x2 hj; exact br_t (sv_ge 8 (by omega) (by omega)) (br_c (fun _ => h1) (fun _ => h0))
  | succ d ih =>
    intro j x2 hj
    have h : vp_in ((nI s * 16) + nI j) 64 := by
      rw [show nI s * 16 = nI (s * 16) from pk_mul s 16]; exact sv_ia (s * 16) j 64 (by omega) (by decide)
    exact br_f (sv_ng 8 (by omega) (by decide)) ⟨h, sv_i16 (by omega), fun _ _ => nm_r (nI_1 j) (ih (j + 1) _ (by omega))⟩
theorem sv_belongs (post : Int32 → Prop) (s : Nat) (hs : s < 4) (fa fb fc fd fe ff fg fh : Int32) (aK aE aV aS aC aY aD aT aW : Nat → Int32) (h0 : post 0) (h1 : post 1) : wpX_streamBelongsTo post (fa, fb, fc, fd, fe, ff, fg, fh, aK, aE, aV, aS, aC, aY, aD, aT, aW) (nI s) :=
  ⟨9, sv_sb4 post s hs fa fb fc fd fe ff fg fh aK aE aV aS aC aY aD aT aW h0 h1 8 0 0 rfl⟩
theorem sv_fi9 (post : Int32 → SX → Prop) (fa fb fc fd fe ff fg fh : Int32) (aK aE aV aS aC aY aD aT aW : Nat → Int32) (hn : post (-1) (fa, fb, fc, fd, fe, ff, fg, fh, aK, aE, aV, aS, aC, aY, aD, aT, aW)) (hp : ∀ s : Nat, s < 4 → post (nI s) (fa, fb, fc, fd, fe, ff, fg, fh, aK, aE, aV, aS, aC, aY, aD, aT, aW)) :
    ∀ (d j : Nat), j + d = 4 → wX_findSlot_9 post fa fb fc fd fe ff fg fh aK aE aV aS aC aY aD aT aW (d + 1) (nI j) := by
  intro d
  induction d with
  | zero => intro j hj; exact br_t (sv_ge 4 (by omega) (by omega)) hn
  | succ d ih =>
    intro j hj
    have hnext : ∀ y : Int32, y = nI j + 1 → wX_findSlot_9 post fa fb fc fd fe ff fg fh aK aE aV aS aC aY aD aT aW (d + 1) y := nm_r (nI_1 j) (ih (j + 1) (by omega))
    exact br_f (sv_ng 4 (by omega) (by decide)) (sv_isTaken _ (nI j) fa fb fc fd fe ff fg fh aK aE aV aS aC aY aD aT aW (br_t rfl hnext) (br_f (by decide) (sv_belongs _ j (by omega) fa fb fc fd fe ff fg fh aK aE aV aS aC aY aD aT aW (br_t rfl hnext) (br_f (by decide) (hp j (by omega))))))
theorem sv_findSlot (post : Int32 → SX → Prop) (x : Int32) (fa fb fc fd fe ff fg fh : Int32) (aK aE aV aS aC aY aD aT aW : Nat → Int32) (hn : ∀ aD' aT' : Nat → Int32, post (-1) (fa, fb, fc, fd, fe, ff, fg, fh, aK, aE, aV, aS, aC, aY, aD', aT', aW)) (hp : ∀ aD' aT' : Nat → Int32, ∀ s : Nat, s < 4 → post (nI s) (fa, fb, fc, fd, fe, ff, fg, fh, aK, aE, aV, aS, aC, aY, aD', aT', aW)) : wpX_findSlot post (fa, fb, fc, fd, fe, ff, fg, fh, aK, aE, aV, aS, aC, aY, aD, aT, aW) x := by
  unfold wpX_findSlot
  exact sv_stream _ fa fb fc fd fe ff fg fh aK aE aV aS aC aY aD aT aW _ _ _ (fun aD' aT' => ⟨5, sv_fi9 post fa fb fc fd fe ff fg fh aK aE aV aS aC aY aD' aT' aW (hn aD' aT') (hp aD' aT') 4 0 rfl⟩)
theorem sv_uk21 (post : SX → Prop) (w : Nat) (hw : w + 8 ≤ 64) (fa fb fc fd fe ff fg fh : Int32) (aK aE aV aS aC aD aT aW : Nat → Int32) (hp : ∀ aY' : Nat → Int32, post (fa, fb, fc, fd, fe, ff, fg, fh, aK, aE, aV, aS, aC, aY', aD, aT, aW)) :
    ∀ (d j : Nat) (aY : Nat → Int32), j + d = 8 → wX_unwrapKey_21 post (nI w) fa fb fc fd fe ff fg fh (d + 1) (nI j) aK aE aV aS aC aY aD aT aW := by
  intro d
  induction d with
  | zero => intro j aY hj; exact br_t (sv_ge 8 (by omega) (by omega)) (hp _)
  | succ d ih =>
    intro j aY hj
    exact br_f (sv_ng 8 (by omega) (by decide)) ⟨sv_ia w j 64 (by omega) (by decide), sv_i16 (by omega), sv_i8 (by omega), fun _ _ => nm_r (nI_1 j) (ih (j + 1) _ (by omega))⟩
theorem sv_unwrap (post : SX → Prop) (s : Nat) (hs : s < 4) (x : Int32) (fa fb fc fd fe ff fg fh : Int32) (aK aE aV aS aC aY aD aT aW : Nat → Int32) (hp : ∀ aY' aD' aT' : Nat → Int32, post (fa, fb, fc, fd, fe, ff, fg, fh, aK, aE, aV, aS, aC, aY', aD', aT', aW)) : wpX_unwrapKey post (fa, fb, fc, fd, fe, ff, fg, fh, aK, aE, aV, aS, aC, aY, aD, aT, aW) (nI s) x :=
  nm_r (show nI s * 16 + 8 = nI (s * 16 + 8) by rw [show nI s * 16 = nI (s * 16) from pk_mul s 16]; exact nI_add (s * 16) 8) (sv_stream _ fa fb fc fd fe ff fg fh aK aE aV aS aC aY aD aT aW _ _ _ (fun aD' aT' =>
    ⟨9, sv_uk21 post (s * 16 + 8) (by omega) fa fb fc fd fe ff fg fh aK aE aV aS aC aD' aT' aW (fun aY' => hp aY' aD' aT') 8 0 aY rfl⟩))
theorem sv_close (post : SX → Prop) (fa fb fc fd fe ff fg fh : Int32) (aK aE aV aS aC aY aD aT aW : Nat → Int32) (hp : ∀ aY' aT' aW' : Nat → Int32, (∀ i, i < 8 → aY' i = 0) → post (fa, 0, fc, fd, fe, ff, fg, fh, aK, aE, aV, aS, aC, aY', aD, aT', aW')) : wpX_close post (fa, fb, fc, fd, fe, ff, fg, fh, aK, aE, aV, aS, aC, aY, aD, aT, aW) :=
  sv_forget _ fa 0 fc fd fe ff fg fh aK aE aV aS aC aY aD aT aW hp
theorem sv_isSector (post : Int32 → Prop) (x : Int32) (fa fb fc fd fe ff fg fh : Int32) (aK aE aV aS aC aY aD aT aW : Nat → Int32) (h0 : post 0) (h1 : ∀ i : Nat, i < 12 → x = nI i → post 1) : wpX_isSector post (fa, fb, fc, fd, fe, ff, fg, fh, aK, aE, aV, aS, aC, aY, aD, aT, aW) x :=
  br_c (fun _ => h0) (fun hx => br_c (fun _ => h0) (fun hy => by
    obtain ⟨i, hi, e⟩ := nI_of hx
    refine h1 i ?_ e
    rw [e] at hy
    by_cases h : i < 12
    · exact h
    · exact absurd (nI_le (a := 12) (b := i) (by omega) hi) hy))
theorem sv_isCell (post : Int32 → Prop) (x : Int32) (fa fb fc fd fe ff fg fh : Int32) (aK aE aV aS aC aY aD aT aW : Nat → Int32) (h0 : post 0) (h1 : ∀ i : Nat, i < 8 → x = nI i → post 1) : wpX_isCell post (fa, fb, fc, fd, fe, ff, fg, fh, aK, aE, aV, aS, aC, aY, aD, aT, aW) x :=
  br_c (fun _ => h0) (fun hx => br_c (fun _ => h0) (fun hy => by
    obtain ⟨i, hi, e⟩ := nI_of hx
    refine h1 i ?_ e
    rw [e] at hy
    by_cases h : i < 8
    · exact h
    · exact absurd (nI_le (a := 8) (b := i) (by omega) hi) hy))
theorem sv_isSlot (post : Int32 → Prop) (x : Int32) (fa fb fc fd fe ff fg fh : Int32) (aK aE aV aS aC aY aD aT aW : Nat → Int32) (h0 : post 0) (h1 : ∀ i : Nat, i < 4 → x = nI i → post 1) : wpX_isSlot post (fa, fb, fc, fd, fe, ff, fg, fh, aK, aE, aV, aS, aC, aY, aD, aT, aW) x :=
  br_c (fun _ => h0) (fun hx => br_c (fun _ => h0) (fun hy => by
    obtain ⟨i, hi, e⟩ := nI_of hx
    refine h1 i ?_ e
    rw [e] at hy
    by_cases h : i < 4
    · exact h
    · exact absurd (nI_le (a := 4) (b := i) (by omega) hi) hy))
theorem sv_isDamaged (post : Int32 → Prop) (i : Nat) (hi : i < 12) (fa fb fc fd fe ff fg fh : Int32) (aK aE aV aS aC aY aD aT aW : Nat → Int32) (h0 : post 0) (h1 : post 1) : wpX_isDamaged post (fa, fb, fc, fd, fe, ff, fg, fh, aK, aE, aV, aS, aC, aY, aD, aT, aW) (nI i) :=
  ⟨sv_i12 hi, sv_rowOf _ i hi _ fa fb fc fd fe ff fg fh aK aE aV aS aC aY aD aT aW (fun w hw => ⟨sv_ia w 8 216 (by omega) (by decide), sv_sumK _ w hw fa fb fc fd fe ff fg fh aK aE aV aS aC aY aD aT aW (fun _ => br_c (fun _ => h0) (fun _ => h1))⟩)⟩
theorem sv_uw29 (post : SX → Prop) (w : Nat) (hw : w + 9 ≤ 216) (fa fb fc fd fe ff fg fh : Int32) (aK aE aV aS aC aY aD aT : Nat → Int32) (hp : ∀ aW' : Nat → Int32, post (fa, fb, fc, fd, fe, ff, fg, fh, aK, aE, aV, aS, aC, aY, aD, aT, aW')) :
    ∀ (d j : Nat) (aW : Nat → Int32), j + d = 8 → wX_unsealToWork_29 post (nI w) fa fb fc fd fe ff fg fh (d + 1) (nI j) aK aE aV aS aC aY aD aT aW := by
  intro d
  induction d with
  | zero => intro j aW hj; exact br_t (sv_ge 8 (by omega) (by omega)) (hp _)
  | succ d ih =>
    intro j aW hj
    exact br_f (sv_ng 8 (by omega) (by decide)) ⟨sv_ia w j 216 (by omega) (by decide), sv_i16 (by omega), sv_i9 (by omega), fun _ _ => nm_r (nI_1 j) (ih (j + 1) _ (by omega))⟩
theorem sv_unseal (post : SX → Prop) (i : Nat) (hi : i < 12) (fa fb fc fd fe ff fg fh : Int32) (aK aE aV aS aC aY aD aT aW : Nat → Int32) (hp : ∀ aD' aT' aW' : Nat → Int32, post (fa, fb, fc, fd, fe, ff, fg, fh, aK, aE, aV, aS, aC, aY, aD', aT', aW')) : wpX_unsealToWork post (fa, fb, fc, fd, fe, ff, fg, fh, aK, aE, aV, aS, aC, aY, aD, aT, aW) (nI i) :=
  ⟨sv_i12 hi, sv_seedFromKey _ i hi _ fa fb fc fd fe ff fg fh aK aE aV aS aC aY aD aT aW (fun aD1 => sv_scramble _ fa fb fc fd fe ff fg fh aK aE aV aS aC aY aD1 aT aW (fun aD' aT' => ⟨sv_i12 hi, sv_rowOf _ i hi _ fa fb fc fd fe ff fg fh aK aE aV aS aC aY aD' aT' aW (fun w hw =>
    ⟨9, sv_uw29 post w hw fa fb fc fd fe ff fg fh aK aE aV aS aC aY aD' aT' (fun aW' => hp aD' aT' aW') 8 0 aW rfl⟩)⟩))⟩
theorem sv_keepNew (post : SX → Prop) (i : Nat) (hi : i < 12) (fa fb fc fd fe ff fg fh : Int32) (aK aE aV aS aC aY aD aT aW : Nat → Int32) (hp : ∀ aK' aV' aD' aT' aW' : Nat → Int32, post (fa, fb, fc, fd, fe, ff, fg, fh, aK', aE, aV', aS, aC, aY, aD', aT', aW')) : wpX_keepNewContents post (fa, fb, fc, fd, fe, ff, fg, fh, aK, aE, aV, aS, aC, aY, aD, aT, aW) (nI i) :=
  ⟨sv_i12 hi, sv_i12 hi, fun aV' _ => ⟨sv_i12 hi, sv_sealWork _ i hi _ fa fb fc fd fe ff fg fh aK aE aV' aS aC aY aD aT aW (fun aD' aT' aW' => ⟨sv_i12 hi, sv_rowOf _ i hi _ fa fb fc fd fe ff fg fh aK aE aV' aS aC aY aD' aT' aW' (fun w hw =>
    sv_keepWork _ w hw 9 fa fb fc fd fe ff fg fh aK aE aV' aS aC aY aD' aT' aW' (fun aK' => hp aK' aV' aD' aT' aW'))⟩)⟩⟩
theorem sv_writeRenewed (post : SX → Prop) (i : Nat) (hi : i < 12) (x : Int32) (fa fb fc fd fe ff fg fh : Int32) (aK aE aV aS aC aY aD aT aW : Nat → Int32) (hp : ∀ aK' aD' aT' aW' : Nat → Int32, post (fa, fb, fc, fd, fe, ff, fg, fh, aK', aE, aV, aS, aC, aY, aD', aT', aW')) : wpX_writeRenewed post (fa, fb, fc, fd, fe, ff, fg, fh, aK, aE, aV, aS, aC, aY, aD, aT, aW) (nI i) x :=
  ⟨sv_i12 hi, sv_rowOf _ i hi _ fa fb fc fd fe ff fg fh aK aE aV aS aC aY aD aT aW (fun w hw => ⟨sv_ia w 8 216 (by omega) (by decide), sv_sumK _ w hw fa fb fc fd fe ff fg fh aK aE aV aS aC aY aD aT aW (fun _ => fun _ _ =>
    sv_unseal _ i hi fa fb fc fd fe ff fg fh aK aE aV aS aC aY aD aT aW (fun aD1 aT1 aW1 => sv_sealWork _ i hi _ fa fb fc fd fe ff fg fh aK aE aV aS aC aY aD1 aT1 aW1 (fun aD' aT' aW2 => fun aW' _ =>
      sv_rowOf _ i hi _ fa fb fc fd fe ff fg fh aK aE aV aS aC aY aD' aT' aW' (fun w2 hw2 => sv_keepWork _ w2 hw2 x fa fb fc fd fe ff fg fh aK aE aV aS aC aY aD' aT' aW' (fun aK' => hp aK' aD' aT' aW')))))⟩)⟩
theorem sv_fr24 (post : SX → Prop) (w : Nat) (hw : w + 9 ≤ 216) (fa fb fc fd fe ff fg fh : Int32) (aE aV aS aC aY aD aT aW : Nat → Int32) (hp : ∀ aK' : Nat → Int32, post (fa, fb, fc, fd, fe, ff, fg, fh, aK', aE, aV, aS, aC, aY, aD, aT, aW)) :
    ∀ (d j : Nat) (aK : Nat → Int32), j + d = 9 → wX_finishRenewed_24 post (nI w) fa fb fc fd fe ff fg fh (d + 1) (nI j) aK aE aV aS aC aY aD aT aW := by
  intro d
  induction d with
  | zero => intro j aK hj; exact br_t (sv_ge 9 (by omega) (by omega)) (hp _)
  | succ d ih =>
    intro j aK hj
    exact br_f (sv_ng 9 (by omega) (by decide)) ⟨sv_ia w j 216 (by omega) (by decide), fun _ _ => nm_r (nI_1 j) (ih (j + 1) _ (by omega))⟩
theorem sv_finish (post : SX → Prop) (i : Nat) (hi : i < 12) (fa fb fc fd fe ff fg fh : Int32) (aK aE aV aS aC aY aD aT aW : Nat → Int32) (hp : ∀ aK' : Nat → Int32, post (fa, fb, fc, fd, fe, ff, fg, fh, aK', (upd aE i fg), aV, aS, aC, aY, aD, aT, aW)) : wpX_finishRenewed post (fa, fb, fc, fd, fe, ff, fg, fh, aK, aE, aV, aS, aC, aY, aD, aT, aW) (nI i) :=
  ⟨sv_i12 hi, sv_rowOf _ i hi _ fa fb fc fd fe ff fg fh aK aE aV aS aC aY aD aT aW (fun w hw => ⟨sv_i12 hi, nm_r (congrArg (fun z => upd aE z fg) (nI_clamp (by omega)))
    ⟨10, sv_fr24 post w hw fa fb fc fd fe ff fg fh (upd aE i fg) aV aS aC aY aD aT aW hp 9 0 aK rfl⟩⟩)⟩
theorem sv_ct4 (post : Int32 → Prop) (fa fb fc fd fe ff fg fh : Int32) (aK aE aV aS aC aY aD aT aW : Nat → Int32) :
    ∀ (d j : Nat) (x : Int32), j + d = 4 → (∀ r : Int32, post r) → wX_countTaken_4 post fa fb fc fd fe ff fg fh aK aE aV aS aC aY aD aT aW (d + 1) x (nI j) := by
  intro d
  induction d with
  | zero => intro j x hj hp; exact br_t (sv_ge 4 (by omega) (by omega)) (hp _)
  | succ d ih =>
    intro j x hj hp
    exact br_f (sv_ng 4 (by omega) (by decide)) (fun _ _ => nm_r (nI_1 j) (ih (j + 1) _ (by omega) hp))
theorem sv_count (post : Int32 → Prop) (fa fb fc fd fe ff fg fh : Int32) (aK aE aV aS aC aY aD aT aW : Nat → Int32) (hp : ∀ r : Int32, post r) : wpX_countTaken post (fa, fb, fc, fd, fe, ff, fg, fh, aK, aE, aV, aS, aC, aY, aD, aT, aW) :=
  ⟨5, sv_ct4 post fa fb fc fd fe ff fg fh aK aE aV aS aC aY aD aT aW 4 0 0 rfl hp⟩
def sv_pop (t : Nat) : Nat := t % 2 + t / 2 % 2 + t / 4 % 2 + t / 8 % 2
theorem sv_bit : ∀ s, s < 4 → ∀ t, t < 16 → (nI t >>> (nI s &&& 31)) &&& 1 = nI (t / 2 ^ s % 2) := by decide +kernel
theorem sv_countT (post : Int32 → Prop) (t : Nat) (ht : t < 16) (fa fb fc fd ff fg fh : Int32) (aK aE aV aS aC aY aD aT aW : Nat → Int32) (hp : post (nI (sv_pop t))) : wpX_countTaken post (fa, fb, fc, fd, nI t, ff, fg, fh, aK, aE, aV, aS, aC, aY, aD, aT, aW) := by
  have h0 := sv_bit 0 (by decide) t ht
  have h1 := sv_bit 1 (by decide) t ht
  have h2 := sv_bit 2 (by decide) t ht
  have h3 := sv_bit 3 (by decide) t ht
  refine ⟨5, br_f (by decide) (nm_r (e' := nI (t % 2)) ?_ (nm_r (e' := nI 1) rfl (br_f (by decide) (nm_r (e' := nI (t % 2 + t / 2 % 2)) ?_ (nm_r (e' := nI 2) rfl (br_f (by decide) (nm_r (e' := nI (t % 2 + t / 2 % 2 + t / 4 % 2)) ?_ (nm_r (e' := nI 3) rfl (br_f (by decide) (nm_r (e' := nI (sv_pop t)) ?_ (nm_r (e' := nI 4) rfl (br_t (by decide) hp)))))))))))) ⟩
  · rw [show ((0 : Int32)) = nI 0 from rfl, h0, nI_add]; exact congrArg nI (by omega)
  · rw [h1, nI_add]
  · rw [h2, nI_add]
  · rw [h3, nI_add]; rfl
end
section
/-! what holds of the class's own state at every turn: the slots' bits, the copy's bits, which sectors are of the newest epoch, and that a locked volume holds no key -/
def sv_P (fa fb fc fe ff fg : Int32) (aE aY : Nat → Int32) : Prop :=
  (∃ t : Nat, t < 16 ∧ fe = nI t ∧ (¬ fa = 0 → t ≠ 0)) ∧ (∃ t : Nat, t < 16 ∧ ff = nI t ∧ (¬ fc = 0 → t ≠ 0)) ∧
  (∃ m : Nat, m ≤ 12 ∧ (∀ i, i < m → aE i = fg) ∧ (∀ i, m ≤ i → i < 12 → aE i ≠ fg)) ∧ (fb = 0 → ∀ i, i < 8 → aY i = 0)
def sv_Inv (u : SX) : Prop := match u with
  | (fa, fb, fc, fd, fe, ff, fg, fh, aK, aE, aV, aS, aC, aY, aD, aT, aW) => sv_P fa fb fc fe ff fg aE aY
def sv_set (t s : Nat) : Nat := if t / 2 ^ s % 2 = 1 then t else t + 2 ^ s
theorem sv_set_e : ∀ s, s < 4 → ∀ t, t < 16 → nI t ||| ((1 : Int32) <<< (nI s &&& 31)) = nI (sv_set t s) ∧ sv_set t s < 16 ∧ sv_set t s ≠ 0 := by decide +kernel
theorem sv_clr_n : ∀ s, s < 4 → ∀ t, t < 16 → t / 2 ^ s % 2 = 1 → sv_pop t ≠ 1 → sv_clr t s ≠ 0 := by decide +kernel
theorem sv_pop_l : ∀ t, t < 16 → sv_pop t < 5 := by decide +kernel
theorem sv_Pset {fa fb fc fe ff fg : Int32} {aE aY : Nat → Int32} (h : sv_P fa fb fc fe ff fg aE aY) (s : Nat) (hs : s < 4) : sv_P fa fb fc (fe ||| ((1 : Int32) <<< (nI s &&& 31))) ff fg aE aY := by
  obtain ⟨⟨t, ht, e, _⟩, h2, h3, h4⟩ := h
  have hc := sv_set_e s hs t ht
  exact ⟨⟨sv_set t s, hc.2.1, by rw [e]; exact hc.1, fun _ => hc.2.2⟩, h2, h3, h4⟩
theorem sv_Pkey {fa fb fb' fc fe ff fg : Int32} {aE aY aY' : Nat → Int32} (h : sv_P fa fb fc fe ff fg aE aY) (hY : fb' = 0 → ∀ i, i < 8 → aY' i = 0) : sv_P fa fb' fc fe ff fg aE aY' :=
  ⟨h.1, h.2.1, h.2.2.1, hY⟩
theorem sv_format (post : Int32 → SX → Prop) (u : SX) (x : Int32) (I : sv_Inv u) (hp : ∀ u', sv_Inv u' → post 0 u') : wpX_format post u x := by
  obtain ⟨fa, fb, fc, fd, fe, ff, fg, fh, aK, aE, aV, aS, aC, aY, aD, aT, aW⟩ := u
  obtain ⟨⟨t, ht, rfl, _⟩, ⟨t2, ht2, rfl, _⟩, _, _⟩ := I
  refine fun fh' _ => sv_makeKey _ 1 0 0 fd (nI t) (nI t2) fg fh' aK aE aV aS aC aY aD aT aW _ (fun aY1 aD1 aT1 => ?_)
  refine sv_eraseSectors _ 1 0 0 fd (nI t) (nI t2) fg fh' aK aE aV aS aC aY1 aD1 aT1 aW (fun aK' aE' aD2 aT2 aW2 hE => ?_)
  refine sv_eraseSlots _ t ht 1 0 0 fd (nI t2) 0 fh' aK' aE' aV aS aC aY1 aD2 aT2 aW2 (fun aS1 aC' => ?_)
  refine sv_putSlot _ 0 (by decide) x 1 0 0 fd 0 (nI t2) 0 fh' aK' aE' aV aS1 aC' aY1 aD2 aT2 aW2 (fun aS' aD' aT3 => ?_)
  refine sv_forget _ 1 0 0 fd (0 ||| ((1 : Int32) <<< (nI 0 &&& 31))) (nI t2) 0 fh' aK' aE' aV aS' aC' aY1 aD' aT3 aW2 (fun aY' aT' aW' hY => ?_)
  exact hp _ ⟨⟨1, by decide, by decide +kernel, fun _ => by decide⟩, ⟨t2, ht2, rfl, fun h => absurd rfl h⟩, ⟨12, by decide, hE, fun i h1 h2 => absurd h2 (by omega)⟩, fun _ => hY⟩
theorem sv_unlock (post : Int32 → SX → Prop) (u : SX) (x : Int32) (I : sv_Inv u) (hp : ∀ r u', sv_Inv u' → post r u') : wpX_unlock post u x := by
  obtain ⟨fa, fb, fc, fd, fe, ff, fg, fh, aK, aE, aV, aS, aC, aY, aD, aT, aW⟩ := u
  have J : sv_P fa fb fc fe ff fg aE aY := I
  refine br_c (fun _ => hp _ _ I) (fun _ => br_c (fun hb => ?_) (fun _ => hp _ _ I))
  refine sv_findSlot _ x fa fb fc fd fe ff fg fh aK aE aV aS aC aY aD aT aW (fun aD' aT' => br_t rfl (sv_forget _ fa fb fc fd fe ff fg fh aK aE aV aS aC aY aD' aT' aW (fun aY' aT2 aW' hY => hp _ _ (sv_Pkey J (fun _ => hY))))) (fun aD' aT' s hs => br_f ?_ (sv_unwrap _ s hs x fa fb fc fd fe ff fg fh aK aE aV aS aC aY aD' aT' aW (fun aY' aD2 aT2 => hp _ _ (sv_Pkey J (fun h => absurd h (by decide))))))
  have h4 : s = 0 ∨ s = 1 ∨ s = 2 ∨ s = 3 := by omega
  rcases h4 with rfl | rfl | rfl | rfl <;> decide
theorem sv_lock (post : Int32 → SX → Prop) (u : SX) (I : sv_Inv u) (hp : ∀ r u', sv_Inv u' → post r u') : wpX_lock post u := by
  obtain ⟨fa, fb, fc, fd, fe, ff, fg, fh, aK, aE, aV, aS, aC, aY, aD, aT, aW⟩ := u
  have J : sv_P fa fb fc fe ff fg aE aY := I
  have h : ∀ z : Int32, wX_lock_22 post z fa fb fc fd fe ff fg fh aK aE aV aS aC aY aD aT aW := fun z => sv_close _ fa fb fc fd fe ff fg fh aK aE aV aS aC aY aD aT aW (fun aY' aT' aW' hY => hp _ _ (sv_Pkey J (fun _ => hY)))
  exact br_c (fun _ => hp _ _ I) (fun _ => br_c (fun _ => h _) (fun _ => h _))
theorem sv_state (post : Int32 → Prop) (u : SX) (hp : ∀ r, post r) : wpX_state post u := by
  obtain ⟨fa, fb, fc, fd, fe, ff, fg, fh, aK, aE, aV, aS, aC, aY, aD, aT, aW⟩ := u
  exact br_c (fun _ => hp _) (fun _ => br_c (fun _ => hp _) (fun _ => hp _))
theorem sv_read (post : Int32 → SX → Prop) (u : SX) (x y : Int32) (I : sv_Inv u) (hp : ∀ r u', sv_Inv u' → post r u') : wpX_read post u x y := by
  obtain ⟨fa, fb, fc, fd, fe, ff, fg, fh, aK, aE, aV, aS, aC, aY, aD, aT, aW⟩ := u
  unfold wpX_read
  refine sv_isSector _ x fa fb fc fd fe ff fg fh aK aE aV aS aC aY aD aT aW (br_t rfl (hp _ _ I)) (fun i hi ei => br_f (by decide) ?_)
  refine sv_isCell _ y fa fb fc fd fe ff fg fh aK aE aV aS aC aY aD aT aW (br_t rfl (hp _ _ I)) (fun j hj ej => br_f (by decide) (br_c (fun _ => hp _ _ I) (fun _ => ?_)))
  rw [ei, ej]
  exact sv_isDamaged _ i hi fa fb fc fd fe ff fg fh aK aE aV aS aC aY aD aT aW (br_t rfl (sv_unseal _ i hi fa fb fc fd fe ff fg fh aK aE aV aS aC aY aD aT aW (fun aD' aT' aW' => ⟨sv_i9 (by omega), hp _ _ I⟩))) (br_f (by decide) (hp _ _ I))
theorem sv_write (post : Int32 → SX → Prop) (u : SX) (x y z : Int32) (I : sv_Inv u) (hp : ∀ r u', sv_Inv u' → post r u') : wpX_write post u x y z := by
  obtain ⟨fa, fb, fc, fd, fe, ff, fg, fh, aK, aE, aV, aS, aC, aY, aD, aT, aW⟩ := u
  unfold wpX_write
  refine sv_isSector _ x fa fb fc fd fe ff fg fh aK aE aV aS aC aY aD aT aW (br_t rfl (hp _ _ I)) (fun i hi ei => br_f (by decide) ?_)
  refine sv_isCell _ y fa fb fc fd fe ff fg fh aK aE aV aS aC aY aD aT aW (br_t rfl (hp _ _ I)) (fun j hj ej => br_f (by decide) (br_c (fun _ => hp _ _ I) (fun _ => ?_)))
  rw [ei, ej]
  exact sv_isDamaged _ i hi fa fb fc fd fe ff fg fh aK aE aV aS aC aY aD aT aW (br_t rfl (sv_unseal _ i hi fa fb fc fd fe ff fg fh aK aE aV aS aC aY aD aT aW (fun aD1 aT1 aW1 => ⟨sv_i9 (by omega), fun aW2 _ =>
    sv_keepNew _ i hi fa fb fc fd fe ff fg fh aK aE aV aS aC aY aD1 aT1 aW2 (fun aK' aV' aD' aT' aW' => hp _ _ I)⟩))) (br_f (by decide) (hp _ _ I))
theorem sv_fl38 (post : Int32 → SX → Prop) (i : Nat) (hi : i < 12) (x2 x3 x4 : Int32) (fa fb fc fd fe ff fg fh : Int32) (aK aE aV aS aC aY aD aT : Nat → Int32) (hp : ∀ aK' aV' aD' aT' aW' : Nat → Int32, post x4 (fa, fb, fc, fd, fe, ff, fg, fh, aK', aE, aV', aS, aC, aY, aD', aT', aW')) :
    ∀ (d j : Nat) (aW : Nat → Int32), j + d = 8 → wX_fill_38 post (nI i) x2 x3 x4 fa fb fc fd fe ff fg fh (d + 1) (nI j) aK aE aV aS aC aY aD aT aW := by
  intro d
  induction d with
  | zero => intro j aW hj; exact br_t (sv_ge 8 (by omega) (by omega)) (sv_keepNew _ i hi fa fb fc fd fe ff fg fh aK aE aV aS aC aY aD aT aW hp)
  | succ d ih =>
    intro j aW hj
    exact br_f (sv_ng 8 (by omega) (by decide)) ⟨sv_i9 (by omega), fun _ _ => nm_r (nI_1 j) (ih (j + 1) _ (by omega))⟩
theorem sv_fill (post : Int32 → SX → Prop) (u : SX) (x y z : Int32) (I : sv_Inv u) (hp : ∀ r u', sv_Inv u' → post r u') : wpX_fill post u x y z := by
  obtain ⟨fa, fb, fc, fd, fe, ff, fg, fh, aK, aE, aV, aS, aC, aY, aD, aT, aW⟩ := u
  unfold wpX_fill
  refine sv_isSector _ x fa fb fc fd fe ff fg fh aK aE aV aS aC aY aD aT aW (br_t rfl (hp _ _ I)) (fun i hi ei => br_f (by decide) (br_c (fun _ => hp _ _ I) (fun _ => ?_)))
  rw [ei]
  exact sv_isDamaged _ i hi fa fb fc fd fe ff fg fh aK aE aV aS aC aY aD aT aW (br_t rfl ⟨9, sv_fl38 post i hi y z 0 fa fb fc fd fe ff fg fh aK aE aV aS aC aY aD aT (fun aK' aV' aD' aT' aW' => hp _ _ I) 8 0 aW rfl⟩) (br_f (by decide) ⟨9, sv_fl38 post i hi y z 1 fa fb fc fd fe ff fg fh aK aE aV aS aC aY aD aT (fun aK' aV' aD' aT' aW' => hp _ _ I) 8 0 aW rfl⟩)
theorem sv_check (post : Int32 → Prop) (u : SX) (x : Int32) (hp : ∀ r, post r) : wpX_check post u x := by
  obtain ⟨fa, fb, fc, fd, fe, ff, fg, fh, aK, aE, aV, aS, aC, aY, aD, aT, aW⟩ := u
  unfold wpX_check
  refine sv_isSector _ x fa fb fc fd fe ff fg fh aK aE aV aS aC aY aD aT aW (br_t rfl (hp _)) (fun i hi ei => br_f (by decide) (br_c (fun _ => hp _) (fun _ => ?_)))
  rw [ei]
  exact sv_isDamaged _ i hi fa fb fc fd fe ff fg fh aK aE aV aS aC aY aD aT aW (br_t rfl (hp _)) (br_f (by decide) (hp _))
theorem sv_ds9 (post : Int32 → SX → Prop) (x1 : Int32) (fa fb fc fd fe ff fg fh : Int32) (aK aE aV aS aC aY aD aT aW : Nat → Int32) (hp : ∀ r : Int32, post r (fa, fb, fc, fd, fe, ff, fg, fh, aK, aE, aV, aS, aC, aY, aD, aT, aW)) :
    ∀ (d j : Nat) (x2 : Int32), j + d = 8 → wX_digestOfSector_9 post x1 fa fb fc fd fe ff fg fh aK aE aV aS aC aY aD aT aW (d + 1) x2 (nI j) := by
  intro d
  induction d with
  | zero => intro j x2 hj; exact br_t (sv_ge 8 (by omega) (by omega)) (hp _)
  | succ d ih =>
    intro j x2 hj
    exact br_f (sv_ng 8 (by omega) (by decide)) ⟨sv_i9 (by omega), fun _ _ => nm_r (nI_1 j) (ih (j + 1) _ (by omega))⟩
theorem sv_digSec (post : Int32 → SX → Prop) (i : Nat) (hi : i < 12) (fa fb fc fd fe ff fg fh : Int32) (aK aE aV aS aC aY aD aT aW : Nat → Int32) (hp : ∀ aD' aT' aW' : Nat → Int32, ∀ r : Int32, post r (fa, fb, fc, fd, fe, ff, fg, fh, aK, aE, aV, aS, aC, aY, aD', aT', aW')) : wpX_digestOfSector post (fa, fb, fc, fd, fe, ff, fg, fh, aK, aE, aV, aS, aC, aY, aD, aT, aW) (nI i) := by
  unfold wpX_digestOfSector
  exact sv_unseal _ i hi fa fb fc fd fe ff fg fh aK aE aV aS aC aY aD aT aW (fun aD' aT' aW' => ⟨9, sv_ds9 post (nI i) fa fb fc fd fe ff fg fh aK aE aV aS aC aY aD' aT' aW' (hp aD' aT' aW') 8 0 0 rfl⟩)
theorem sv_di13 (post : Int32 → SX → Prop) (fa fb fc fd fe ff fg fh : Int32) (aK aE aV aS aC aY : Nat → Int32) (hp : ∀ aD' aT' aW' : Nat → Int32, ∀ r : Int32, post r (fa, fb, fc, fd, fe, ff, fg, fh, aK, aE, aV, aS, aC, aY, aD', aT', aW')) :
    ∀ (d j : Nat) (x1 : Int32) (aD aT aW : Nat → Int32), j + d = 12 → wX_digest_13 post (d + 1) x1 (nI j) fa fb fc fd fe ff fg fh aK aE aV aS aC aY aD aT aW := by
  intro d
  induction d with
  | zero => intro j x1 aD aT aW hj; exact br_t (sv_ge 12 (by omega) (by omega)) (hp _ _ _ _)
  | succ d ih =>
    intro j x1 aD aT aW hj
    exact br_f (sv_ng 12 (by omega) (by decide)) (sv_isDamaged _ j (by omega) fa fb fc fd fe ff fg fh aK aE aV aS aC aY aD aT aW (br_t rfl (sv_digSec _ j (by omega) fa fb fc fd fe ff fg fh aK aE aV aS aC aY aD aT aW (fun aD' aT' aW' r => fun _ _ => nm_r (nI_1 j) (ih (j + 1) _ aD' aT' aW' (by omega))))) (br_f (by decide) (nm_r (nI_1 j) (ih (j + 1) _ aD aT aW (by omega)))))
theorem sv_digest (post : Int32 → SX → Prop) (u : SX) (I : sv_Inv u) (hp : ∀ r u', sv_Inv u' → post r u') : wpX_digest post u := by
  obtain ⟨fa, fb, fc, fd, fe, ff, fg, fh, aK, aE, aV, aS, aC, aY, aD, aT, aW⟩ := u
  exact br_c (fun _ => hp _ _ I) (fun _ => ⟨13, sv_di13 post fa fb fc fd fe ff fg fh aK aE aV aS aC aY (fun aD' aT' aW' r => hp _ _ I) 12 0 0 aD aT aW rfl⟩)
theorem sv_ak24 (post : Int32 → SX → Prop) (x : Int32) (fa fb fc fd fe ff fg fh : Int32) (aK aE aV aS aC aY aD aT aW : Nat → Int32) (hf : post (-7) (fa, fb, fc, fd, fe, ff, fg, fh, aK, aE, aV, aS, aC, aY, aD, aT, aW)) (hp : ∀ aS' aD' aT' : Nat → Int32, ∀ s : Nat, s < 4 → post (nI s) (fa, fb, fc, fd, (fe ||| ((1 : Int32) <<< (nI s &&& 31))), ff, fg, fh, aK, aE, aV, aS', aC, aY, aD', aT', aW)) :
    ∀ (d j : Nat), j + d = 4 → wX_addKey_24 post x fa fb fc fd fe ff fg fh aK aE aV aS aC aY aD aT aW (d + 1) (nI j) := by
  intro d
  induction d with
  | zero => intro j hj; exact br_t (sv_ge 4 (by omega) (by omega)) hf
  | succ d ih =>
    intro j hj
    exact br_f (sv_ng 4 (by omega) (by decide)) (sv_isTaken _ (nI j) fa fb fc fd fe ff fg fh aK aE aV aS aC aY aD aT aW (br_t rfl (sv_putSlot _ j (by omega) x fa fb fc fd fe ff fg fh aK aE aV aS aC aY aD aT aW (fun aS' aD' aT' => hp aS' aD' aT' j (by omega)))) (br_f (by decide) (nm_r (nI_1 j) (ih (j + 1) (by omega)))))
theorem sv_addKey (post : Int32 → SX → Prop) (u : SX) (x : Int32) (I : sv_Inv u) (hp : ∀ r u', sv_Inv u' → post r u') : wpX_addKey post u x := by
  obtain ⟨fa, fb, fc, fd, fe, ff, fg, fh, aK, aE, aV, aS, aC, aY, aD, aT, aW⟩ := u
  have J : sv_P fa fb fc fe ff fg aE aY := I
  refine br_c (fun _ => hp _ _ I) (fun _ => sv_findSlot _ x fa fb fc fd fe ff fg fh aK aE aV aS aC aY aD aT aW (fun aD' aT' => br_t rfl ⟨5, sv_ak24 post x fa fb fc fd fe ff fg fh aK aE aV aS aC aY aD' aT' aW (hp _ _ J) (fun aS' aD2 aT2 s hs => hp _ _ (sv_Pset J s hs)) 4 0 rfl⟩) (fun aD' aT' s hs => br_f ?_ (hp _ _ J)))
  have h4 : s = 0 ∨ s = 1 ∨ s = 2 ∨ s = 3 := by omega
  rcases h4 with rfl | rfl | rfl | rfl <;> decide
theorem sv_removeKey (post : Int32 → SX → Prop) (u : SX) (x : Int32) (I : sv_Inv u) (hp : ∀ r u', sv_Inv u' → post r u') : wpX_removeKey post u x := by
  obtain ⟨fa, fb, fc, fd, fe, ff, fg, fh, aK, aE, aV, aS, aC, aY, aD, aT, aW⟩ := u
  have J : sv_P fa fb fc fe ff fg aE aY := I
  obtain ⟨⟨t, ht, rfl, hz⟩, h2, h3, hY⟩ := J
  unfold wpX_removeKey
  refine sv_isSlot _ x fa fb fc fd (nI t) ff fg fh aK aE aV aS aC aY aD aT aW (br_t rfl (hp _ _ I)) (fun s hs es => br_f (by decide) (br_c (fun _ => hp _ _ I) (fun _ => ?_)))
  rw [es]
  refine br_c (fun hb => br_f (by decide) (sv_countT _ t ht fa fb fc fd ff fg fh aK aE aV aS aC aY aD aT aW (br_c (fun _ => hp _ _ I) (fun h1 => ?_)))) (fun _ => br_t rfl (hp _ _ I))
  refine sv_em _ s hs t ht fa fb fc fd ff fg fh aK aE aV aS aC aY aD aT aW (fun aS' => sv_count _ fa fb fc fd (nI (sv_clr t s)) ff fg fh aK aE aV aS' aC aY aD aT aW (fun r => hp _ _ ⟨⟨sv_clr t s, (sv_clr_e s hs t ht).2, rfl, fun _ => ?_⟩, h2, h3, hY⟩))
  rw [sv_bit s hs t ht] at hb
  refine sv_clr_n s hs t ht ?_ (fun h => h1 (by rw [h]; rfl))
  have h2' : t / 2 ^ s % 2 < 2 := Nat.mod_lt _ (by decide)
  exact (nI_eq (by omega) (by decide)).mp hb
theorem sv_changeKey (post : Int32 → SX → Prop) (u : SX) (x y : Int32) (I : sv_Inv u) (hp : ∀ r u', sv_Inv u' → post r u') : wpX_changeKey post u x y := by
  obtain ⟨fa, fb, fc, fd, fe, ff, fg, fh, aK, aE, aV, aS, aC, aY, aD, aT, aW⟩ := u
  have J : sv_P fa fb fc fe ff fg aE aY := I
  unfold wpX_changeKey
  refine sv_isSlot _ x fa fb fc fd fe ff fg fh aK aE aV aS aC aY aD aT aW (br_t rfl (hp _ _ I)) (fun s hs es => br_f (by decide) (br_c (fun _ => hp _ _ I) (fun _ => ?_)))
  rw [es]
  refine sv_isTaken _ _ fa fb fc fd fe ff fg fh aK aE aV aS aC aY aD aT aW (br_t rfl (hp _ _ I)) (br_f (by decide) (sv_findSlot _ y fa fb fc fd fe ff fg fh aK aE aV aS aC aY aD aT aW (fun aD' aT' => ?_) (fun aD' aT' s' hs' => ?_)))
  · exact br_c (fun _ => hp _ _ J) (fun _ => br_t rfl (sv_putSlot _ s hs y fa fb fc fd fe ff fg fh aK aE aV aS aC aY aD' aT' aW (fun aS' aD2 aT2 => hp _ _ (sv_Pset J s hs))))
  · exact br_c (fun _ => hp _ _ J) (fun _ => br_c (fun _ => sv_putSlot _ s hs y fa fb fc fd fe ff fg fh aK aE aV aS aC aY aD' aT' aW (fun aS' aD2 aT2 => hp _ _ (sv_Pset J s hs))) (fun _ => hp _ _ J))
theorem sv_slotOf (post : Int32 → SX → Prop) (u : SX) (x : Int32) (I : sv_Inv u) (hp : ∀ r u', sv_Inv u' → post r u') : wpX_slotOf post u x := by
  obtain ⟨fa, fb, fc, fd, fe, ff, fg, fh, aK, aE, aV, aS, aC, aY, aD, aT, aW⟩ := u
  have J : sv_P fa fb fc fe ff fg aE aY := I
  have h27 : ∀ (r : Int32) (aD aT : Nat → Int32), ((fb = 0 → wpX_forgetSecrets (fun u => wX_slotOf_27 post r u.1 u.2.1 u.2.2.1 u.2.2.2.1 u.2.2.2.2.1 u.2.2.2.2.2.1 u.2.2.2.2.2.2.1 u.2.2.2.2.2.2.2.1 u.2.2.2.2.2.2.2.2.1 u.2.2.2.2.2.2.2.2.2.1 u.2.2.2.2.2.2.2.2.2.2.1 u.2.2.2.2.2.2.2.2.2.2.2.1 u.2.2.2.2.2.2.2.2.2.2.2.2.1 u.2.2.2.2.2.2.2.2.2.2.2.2.2.1 u.2.2.2.2.2.2.2.2.2.2.2.2.2.2.1 u.2.2.2.2.2.2.2.2.2.2.2.2.2.2.2.1 u.2.2.2.2.2.2.2.2.2.2.2.2.2.2.2.2) (fa, fb, fc, fd, fe, ff, fg, fh, aK, aE, aV, aS, aC, aY, aD, aT, aW)) ∧ (¬ fb = 0 → wX_slotOf_27 post r fa fb fc fd fe ff fg fh aK aE aV aS aC aY aD aT aW)) := by
    intro r aD aT
    exact br_c (fun hb => sv_forget _ fa fb fc fd fe ff fg fh aK aE aV aS aC aY aD aT aW (fun aY' aT' aW' hY => br_c (fun _ => hp _ _ (sv_Pkey J (fun _ => hY))) (fun _ => hp _ _ (sv_Pkey J (fun _ => hY))))) (fun hb => br_c (fun _ => hp _ _ J) (fun _ => hp _ _ J))
  exact br_c (fun _ => hp _ _ I) (fun _ => sv_findSlot _ x fa fb fc fd fe ff fg fh aK aE aV aS aC aY aD aT aW (fun aD' aT' => h27 _ aD' aT') (fun aD' aT' s hs => h27 _ aD' aT'))
end
section
def sv_Ep (fg : Int32) (aE : Nat → Int32) : Prop := ∃ m : Nat, m ≤ 12 ∧ (∀ i, i < m → aE i = fg) ∧ (∀ i, m ≤ i → i < 12 → aE i ≠ fg)
theorem sv_Pep {fa fb fc fe ff fg fg' : Int32} {aE aE' aY : Nat → Int32} (h : sv_P fa fb fc fe ff fg aE aY) (hE : sv_Ep fg' aE') : sv_P fa fb fc fe ff fg' aE' aY :=
  ⟨h.1, h.2.1, hE, h.2.2.2⟩
theorem sv_cr4 (post : Int32 → Prop) (m : Nat) (hm : m ≤ 12) (fa fb fc fd fe ff fg fh : Int32) (aK aE aV aS aC aY aD aT aW : Nat → Int32) (h1 : ∀ i, i < m → aE i = fg) (h2 : ∀ i, m ≤ i → i < 12 → aE i ≠ fg) (hp : post (nI (12 - m))) :
    ∀ (d j : Nat), j + d = 12 → wX_countToRenew_4 post fa fb fc fd fe ff fg fh aK aE aV aS aC aY aD aT aW (d + 1) (nI (j - m)) (nI j) := by
  intro d
  induction d with
  | zero => intro j hj; refine br_t (sv_ge 12 (by omega) (by omega)) ?_; rw [show j = 12 by omega]; exact hp
  | succ d ih =>
    intro j hj
    have hc : (nI j).toNatClampNeg = j := nI_clamp (by omega)
    have hn := ih (j + 1) (by omega)
    refine br_f (sv_ng 12 (by omega) (by decide)) ⟨sv_i12 (by omega), ?_⟩
    rw [hc]
    by_cases hjm : j < m
    · rw [show j + 1 - m = j - m by omega] at hn
      exact br_t (h1 j hjm) (nm_r (nI_1 j) hn)
    · rw [show j + 1 - m = (j - m) + 1 by omega] at hn
      exact br_f (h2 j (by omega) (by omega)) (nm_r (nI_1 (j - m)) (nm_r (nI_1 j) hn))
theorem sv_cr (post : Int32 → Prop) (m : Nat) (hm : m ≤ 12) (fa fb fc fd fe ff fg fh : Int32) (aK aE aV aS aC aY aD aT aW : Nat → Int32) (h1 : ∀ i, i < m → aE i = fg) (h2 : ∀ i, m ≤ i → i < 12 → aE i ≠ fg) (hp : post (nI (12 - m))) : wpX_countToRenew post (fa, fb, fc, fd, fe, ff, fg, fh, aK, aE, aV, aS, aC, aY, aD, aT, aW) :=
  ⟨13, by
    have h := sv_cr4 post m hm fa fb fc fd fe ff fg fh aK aE aV aS aC aY aD aT aW h1 h2 hp 12 0 rfl
    rw [show 0 - m = 0 by omega] at h
    exact h⟩
theorem sv_rn42 (post : Int32 → SX → Prop) (x1 x2 : Int32) (fa fb fc fd fe ff fg fh : Int32) (aV aS aC aY : Nat → Int32) (hp : ∀ aK' aE' aD' aT' aW' : Nat → Int32, ∀ r : Int32, sv_Ep fg aE' → post r (fa, fb, fc, fd, fe, ff, fg, fh, aK', aE', aV, aS, aC, aY, aD', aT', aW')) :
    ∀ (d j : Nat) (aK aE aD aT aW : Nat → Int32), j + d = 12 → (∀ i, i < j → aE i = fg) → (∀ i, j ≤ i → i < 12 → aE i ≠ fg) → wX_renew_42 post x1 x2 (d + 1) (nI j) fa fb fc fd fe ff fg fh aK aE aV aS aC aY aD aT aW := by
  intro d
  induction d with
  | zero =>
    intro j aK aE aD aT aW hj h1 h2
    exact br_t (sv_ge 12 (by omega) (by omega)) (sv_cr _ j (by omega) fa fb fc fd fe ff fg fh aK aE aV aS aC aY aD aT aW h1 h2 (hp _ _ _ _ _ _ ⟨j, by omega, h1, h2⟩))
  | succ d ih =>
    intro j aK aE aD aT aW hj h1 h2
    refine br_f (sv_ng 12 (by omega) (by decide)) (br_c (fun _ => sv_cr _ j (by omega) fa fb fc fd fe ff fg fh aK aE aV aS aC aY aD aT aW h1 h2 (hp _ _ _ _ _ _ ⟨j, by omega, h1, h2⟩)) (fun _ => ?_))
    refine sv_writeRenewed _ j (by omega) 9 fa fb fc fd fe ff fg fh aK aE aV aS aC aY aD aT aW (fun aK1 aD1 aT1 aW1 => sv_finish _ j (by omega) fa fb fc fd fe ff fg fh aK1 aE aV aS aC aY aD1 aT1 aW1 (fun aK2 => nm_r (nI_1 j) (ih (j + 1) aK2 (upd aE j fg) aD1 aT1 aW1 (by omega) ?_ ?_)))
    · intro i hi
      by_cases hij : i = j
      · rw [hij]; exact pk_us
      · rw [pk_un hij]; exact h1 i (by omega)
    · intro i hi hi2
      rw [pk_un (by omega)]
      exact h2 i (by omega) hi2
theorem sv_rn32 (post : Int32 → SX → Prop) (x : Int32) (fa fb fc fd fe ff fg fh : Int32) (aK aE aV aS aC aY aD aT aW : Nat → Int32) (hE : sv_Ep fg aE) (hp : ∀ aK' aE' aD' aT' aW' : Nat → Int32, ∀ r : Int32, sv_Ep fg aE' → post r (fa, fb, fc, fd, fe, ff, fg, fh, aK', aE', aV, aS, aC, aY, aD', aT', aW')) : wX_renew_32 post x fa fb fc fd fe ff fg fh aK aE aV aS aC aY aD aT aW := by
  obtain ⟨m, hm, h1, h2⟩ := hE
  refine sv_cr _ m hm fa fb fc fd fe ff fg fh aK aE aV aS aC aY aD aT aW h1 h2 (nm_r (e' := nI m) ?_ ⟨12 - m + 1, sv_rn42 post x (nI m) fa fb fc fd fe ff fg fh aV aS aC aY hp (12 - m) m aK aE aD aT aW (by omega) h1 h2⟩)
  show nI 12 - nI (12 - m) = nI m
  rw [pk_sub (by omega)]
  exact congrArg nI (by omega)
theorem sv_ne1 (x : Int32) : x ≠ x + 1 := by
  intro h
  have h2 : x + 0 = x + 1 := by rw [Int32.add_zero]; exact h
  exact absurd ((Int32.add_right_inj x).mp h2) (by decide)
theorem sv_renew (post : Int32 → SX → Prop) (u : SX) (x : Int32) (I : sv_Inv u) (hp : ∀ r u', sv_Inv u' → post r u') : wpX_renew post u x := by
  obtain ⟨fa, fb, fc, fd, fe, ff, fg, fh, aK, aE, aV, aS, aC, aY, aD, aT, aW⟩ := u
  have J : sv_P fa fb fc fe ff fg aE aY := I
  obtain ⟨m, hm, h1, h2⟩ := J.2.2.1
  refine br_c (fun _ => hp _ _ I) (fun _ => sv_cr _ m hm fa fb fc fd fe ff fg fh aK aE aV aS aC aY aD aT aW h1 h2 (br_c (fun h0 => fun fg' hg => ?_) (fun _ => ?_)))
  · have hm0 : 12 - m = 0 := (nI_eq (by omega) (by decide)).mp h0
    exact sv_rn32 post x fa fb fc 1 fe ff fg' fh aK aE aV aS aC aY aD aT aW ⟨0, by decide, fun i hi => absurd hi (by omega), fun i _ hi => by rw [h1 i (by omega), hg]; exact sv_ne1 fg⟩ (fun aK' aE' aD' aT' aW' r hE => hp _ _ (sv_Pep J hE))
  · exact sv_rn32 post x fa fb fc fd fe ff fg fh aK aE aV aS aC aY aD aT aW ⟨m, hm, h1, h2⟩ (fun aK' aE' aD' aT' aW' r hE => hp _ _ (sv_Pep J hE))
theorem sv_toRenew (post : Int32 → Prop) (u : SX) (I : sv_Inv u) (hp : ∀ r, post r) : wpX_toRenew post u := by
  obtain ⟨fa, fb, fc, fd, fe, ff, fg, fh, aK, aE, aV, aS, aC, aY, aD, aT, aW⟩ := u
  obtain ⟨m, hm, h1, h2⟩ := I.2.2.1
  unfold wpX_toRenew
  exact sv_cr _ m hm fa fb fc fd fe ff fg fh aK aE aV aS aC aY aD aT aW h1 h2 (hp _)
theorem sv_sv12 (post : Int32 → SX → Prop) (fa fb fc fd fe ff fg fh : Int32) (aK aE aV aS aY aD aT aW : Nat → Int32) (hE : sv_Ep fg aE) (hp : ∀ aC' : Nat → Int32, ∀ r z : Int32, post r (fa, fb, 1, z, fe, fe, fg, fh, aK, aE, aV, aS, aC', aY, aD, aT, aW)) :
    ∀ (d j : Nat) (aC : Nat → Int32), j + d = 64 → wX_saveSlots_12 post fa fb fc fd fe ff fg fh (d + 1) (nI j) aK aE aV aS aC aY aD aT aW := by
  obtain ⟨m, hm, h1, h2⟩ := hE
  intro d
  induction d with
  | zero =>
    intro j aC hj
    exact br_t (sv_ge 64 (by omega) (by omega)) (sv_cr _ m hm fa fb 1 fd fe fe fg fh aK aE aV aS aC aY aD aT aW h1 h2 (br_c (fun _ => ⟨rfl, rfl, sv_count _ fa fb 1 0 fe fe fg fh aK aE aV aS aC aY aD aT aW (fun r => hp _ r 0)⟩) (fun _ => ⟨rfl, rfl, sv_count _ fa fb 1 1 fe fe fg fh aK aE aV aS aC aY aD aT aW (fun r => hp _ r 1)⟩)))
  | succ d ih =>
    intro j aC hj
    exact br_f (sv_ng 64 (by omega) (by decide)) ⟨sv_i64 (by omega), sv_i64 (by omega), fun _ _ => nm_r (nI_1 j) (ih (j + 1) _ (by omega))⟩
theorem sv_saveSlots (post : Int32 → SX → Prop) (u : SX) (I : sv_Inv u) (hp : ∀ r u', sv_Inv u' → post r u') : wpX_saveSlots post u := by
  obtain ⟨fa, fb, fc, fd, fe, ff, fg, fh, aK, aE, aV, aS, aC, aY, aD, aT, aW⟩ := u
  have J : sv_P fa fb fc fe ff fg aE aY := I
  refine br_c (fun _ => hp _ _ I) (fun ha => ⟨65, sv_sv12 post fa fb fc fd fe ff fg fh aK aE aV aS aY aD aT aW J.2.2.1 (fun aC' r z => hp _ _ ⟨J.1, ?_, J.2.2.1, J.2.2.2⟩) 64 0 aC rfl⟩)
  obtain ⟨t, ht, e, hz⟩ := J.1
  exact ⟨t, ht, e, fun _ => hz ha⟩
theorem sv_rs29 (post : Int32 → SX → Prop) (fa fb fc fd fe ff fg fh : Int32) (aK aE aV aC aY aD aT aW : Nat → Int32) (hp : ∀ aS' aY' aT' aW' : Nat → Int32, ∀ r : Int32, (∀ i, i < 8 → aY' i = 0) → post r (fa, 0, fc, fd, ff, ff, fg, fh, aK, aE, aV, aS', aC, aY', aD, aT', aW')) :
    ∀ (d j : Nat) (aS : Nat → Int32), j + d = 64 → wX_restoreSlots_29 post fa fb fc fd fe ff fg fh (d + 1) (nI j) aK aE aV aS aC aY aD aT aW := by
  intro d
  induction d with
  | zero =>
    intro j aS hj
    exact br_t (sv_ge 64 (by omega) (by omega)) (sv_close _ fa fb fc fd ff ff fg fh aK aE aV aS aC aY aD aT aW (fun aY' aT' aW' hY => sv_count _ fa 0 fc fd ff ff fg fh aK aE aV aS aC aY' aD aT' aW' (fun r => hp _ _ _ _ r hY)))
  | succ d ih =>
    intro j aS hj
    exact br_f (sv_ng 64 (by omega) (by decide)) ⟨sv_i64 (by omega), sv_i64 (by omega), fun _ _ => nm_r (nI_1 j) (ih (j + 1) _ (by omega))⟩
theorem sv_restoreSlots (post : Int32 → SX → Prop) (u : SX) (I : sv_Inv u) (hp : ∀ r u', sv_Inv u' → post r u') : wpX_restoreSlots post u := by
  obtain ⟨fa, fb, fc, fd, fe, ff, fg, fh, aK, aE, aV, aS, aC, aY, aD, aT, aW⟩ := u
  have J : sv_P fa fb fc fe ff fg aE aY := I
  refine br_c (fun _ => hp _ _ I) (fun _ => br_c (fun _ => hp _ _ I) (fun hc => br_c (fun _ => ⟨65, sv_rs29 post fa fb fc fd fe ff fg fh aK aE aV aC aY aD aT aW (fun aS' aY' aT' aW' r hY => hp _ _ ⟨?_, J.2.1, J.2.2.1, fun _ => hY⟩) 64 0 aS rfl⟩) (fun _ => hp _ _ I)))
  obtain ⟨t, ht, e, hz⟩ := J.2.1
  exact ⟨t, ht, e, fun _ => hz hc⟩
theorem sv_rem (x : Int32) : (0 ≤ x - x / 288 * 288 → ∃ q : Nat, q < 288 ∧ x - x / 288 * 288 = nI q) ∧ (¬ 0 ≤ x - x / 288 * 288 → ∃ q : Nat, q < 288 ∧ x - x / 288 * 288 + 288 = nI q) := by
  have h := rem_toInt x 288
  rw [show (288 : Int32).toInt = 288 from by decide] at h
  have b := tmod_bounds (a := x.toInt) (M := 288) (by decide)
  rw [← h] at b
  generalize x - x / 288 * 288 = z at b
  refine ⟨fun h0 => ?_, fun h0 => ?_⟩
  · obtain ⟨j, hj, rfl⟩ := nI_of (x := z) (Int32.not_lt.mpr h0)
    rw [nI_toInt hj] at b
    exact ⟨j, by omega, rfl⟩
  · have hz : z.toInt < 0 := by
      have := Int32.not_le.mp h0
      rw [Int32.lt_iff_toInt_lt] at this
      exact this
    refine ⟨(z.toInt + 288).toNat, by omega, ?_⟩
    apply Int32.toInt_inj.mp
    rw [nI_toInt (by omega), Int32.toInt_add, show (288 : Int32).toInt = 288 from by decide, Int.bmod_eq_of_le (by omega) (by omega)]
    omega
theorem sv_dm50 (post : Int32 → SX → Prop) (i : Nat) (hi : i < 12) (q : Nat) (hq : q < 288) (fa fb fc fd fe ff fg fh : Int32) (aK aE aV aS aC aY aD aT aW : Nat → Int32) (hp : ∀ aK' : Nat → Int32, post 0 (fa, fb, fc, fd, fe, ff, fg, fh, aK', aE, aV, aS, aC, aY, aD, aT, aW)) : wX_damage_50 post (nI i) (nI q) fa fb fc fd fe ff fg fh aK aE aV aS aC aY aD aT aW := by
  have hd : nI q / 32 = nI (q / 32) := pk_div (a := q) (d := 32) (by omega) (by decide) (by decide)
  have h8 : q / 32 < 9 := by omega
  refine ⟨sv_i12 hi, sv_rowOf _ i hi _ fa fb fc fd fe ff fg fh aK aE aV aS aC aY aD aT aW (fun w hw => ?_)⟩
  have hv : vp_in (nI w + nI q / 32) 216 := by rw [hd]; exact sv_ia w (q / 32) 216 (by omega) (by decide)
  exact ⟨by decide, hv, by decide, hv, fun _ _ => hp _⟩
theorem sv_damage (post : Int32 → SX → Prop) (u : SX) (x y : Int32) (I : sv_Inv u) (hp : ∀ r u', sv_Inv u' → post r u') : wpX_damage post u x y := by
  obtain ⟨fa, fb, fc, fd, fe, ff, fg, fh, aK, aE, aV, aS, aC, aY, aD, aT, aW⟩ := u
  unfold wpX_damage
  refine sv_isSector _ x fa fb fc fd fe ff fg fh aK aE aV aS aC aY aD aT aW (br_t rfl (hp _ _ I)) (fun i hi ei => br_f (by decide) (br_c (fun _ => hp _ _ I) (fun _ => ?_)))
  rw [ei]
  refine sv_isDamaged _ i hi fa fb fc fd fe ff fg fh aK aE aV aS aC aY aD aT aW (br_t rfl ⟨by decide, fun z ez => ?_⟩) (br_f (by decide) (hp _ _ I))
  have hr := sv_rem y
  rw [← ez] at hr
  refine br_c (fun h0 => ?_) (fun h0 => ?_)
  · obtain ⟨q, hq, e⟩ := hr.1 h0
    rw [e]
    exact sv_dm50 post i hi q hq fa fb fc fd fe ff fg fh aK aE aV aS aC aY aD aT aW (fun _ => hp _ _ I)
  · obtain ⟨q, hq, e⟩ := hr.2 h0
    rw [e]
    exact sv_dm50 post i hi q hq fa fb fc fd fe ff fg fh aK aE aV aS aC aY aD aT aW (fun _ => hp _ _ I)
theorem sv_crash (post : Int32 → SX → Prop) (u : SX) (x : Int32) (I : sv_Inv u) (hp : ∀ r u', sv_Inv u' → post r u') : wpX_crash post u x := by
  obtain ⟨fa, fb, fc, fd, fe, ff, fg, fh, aK, aE, aV, aS, aC, aY, aD, aT, aW⟩ := u
  have J : sv_P fa fb fc fe ff fg aE aY := I
  obtain ⟨m, hm, h1, h2⟩ := J.2.2.1
  have h35 : ∀ (r : Int32) (aK aD aT aW : Nat → Int32), wX_crash_35 post r fa fb fc fd fe ff fg fh aK aE aV aS aC aY aD aT aW := fun r aK aD aT aW => sv_close _ fa fb fc fd fe ff fg fh aK aE aV aS aC aY aD aT aW (fun aY' aT' aW' hY => hp _ _ (sv_Pkey J (fun _ => hY)))
  refine br_c (fun _ => hp _ _ I) (fun _ => sv_cr _ m hm fa fb fc fd fe ff fg fh aK aE aV aS aC aY aD aT aW h1 h2 (br_c (fun _ => h35 _ _ _ _ _) (fun _ => br_c (fun _ => h35 _ _ _ _ _) (fun hn => ?_))))
  have hm1 : m < 12 := by
    by_cases h : m < 12
    · exact h
    · exact absurd (show nI (12 - m) ≤ nI 0 from nI_le (by omega) (by decide)) hn
  have e : 12 - nI (12 - m) = nI m := by
    show nI 12 - nI (12 - m) = nI m
    rw [pk_sub (by omega)]
    exact congrArg nI (by omega)
  rw [e]
  exact sv_writeRenewed _ m hm1 x fa fb fc fd fe ff fg fh aK aE aV aS aC aY aD aT aW (fun aK' aD' aT' aW' => h35 _ _ _ _ _)
theorem sv_fa69 (post : Int32 → Prop) (fa fb fc fd fe ff fg fh : Int32) (aK aE aV aS aC aY aD aT aW : Nat → Int32) (hY : fb = 0 → ∀ i, i < 8 → aY i = 0) (hp : post 0) :
    ∀ (d j : Nat), j + d = 8 → wX_faults_69 post fa fb fc fd fe ff fg fh aK aE aV aS aC aY aD aT aW (d + 1) 0 (nI j) := by
  intro d
  induction d with
  | zero => intro j hj; exact br_t (sv_ge 8 (by omega) (by omega)) hp
  | succ d ih =>
    intro j hj
    refine br_f (sv_ng 8 (by omega) (by decide)) (br_c (fun hb => ⟨sv_i8 (by omega), br_t ?_ (nm_r (nI_1 j) (ih (j + 1) (by omega)))⟩) (fun _ => nm_r (nI_1 j) (ih (j + 1) (by omega))))
    rw [nI_clamp (by omega)]
    exact hY hb j (by omega)
theorem sv_fa24 (post : Int32 → Prop) (fa fb fc fd fe ff fg fh : Int32) (aK aE aV aS aC aY aD aT aW : Nat → Int32) (m : Nat) (h1 : ∀ i, i < m → aE i = fg) (h2 : ∀ i, m ≤ i → i < 12 → aE i ≠ fg) (hY : fb = 0 → ∀ i, i < 8 → aY i = 0) (hp : post 0) :
    ∀ (d j : Nat), j + 1 + d = 12 → wX_faults_24 post fa fb fc fd fe ff fg fh aK aE aV aS aC aY aD aT aW (d + 1) 0 (nI (j + 1)) := by
  intro d
  induction d with
  | zero => intro j hj; exact br_t (sv_ge 12 (by omega) (by omega)) ⟨9, sv_fa69 post fa fb fc fd fe ff fg fh aK aE aV aS aC aY aD aT aW hY hp 8 0 rfl⟩
  | succ d ih =>
    intro j hj
    have hn : ∀ y : Int32, y = nI (j + 1) + 1 → wX_faults_24 post fa fb fc fd fe ff fg fh aK aE aV aS aC aY aD aT aW (d + 1) 0 y := nm_r (nI_1 (j + 1)) (ih (j + 1) (by omega))
    have hc : (nI (j + 1)).toNatClampNeg = j + 1 := nI_clamp (by omega)
    have hc2 : (nI (j + 1) - 1).toNatClampNeg = j := by rw [nI_pred]; exact nI_clamp (by omega)
    have hv : vp_in (nI (j + 1) - 1) 12 := by rw [nI_pred]; exact sv_i12 (by omega)
    refine br_f (sv_ng 12 (by omega) (by decide)) ⟨sv_i12 (by omega), br_c (fun he => ⟨hv, br_t ?_ hn⟩) (fun _ => hn)⟩
    rw [hc] at he
    rw [hc2]
    by_cases hjm : j < m
    · exact h1 j hjm
    · exact absurd he (h2 (j + 1) (by omega) (by omega))
theorem sv_faults (post : Int32 → Prop) (u : SX) (I : sv_Inv u) (hp : post 0) : wpX_faults post u := by
  obtain ⟨fa, fb, fc, fd, fe, ff, fg, fh, aK, aE, aV, aS, aC, aY, aD, aT, aW⟩ := u
  obtain ⟨⟨t, ht, rfl, hz⟩, _, ⟨m, hm, h1, h2⟩, hY⟩ := I
  refine br_c (fun _ => hp) (fun ha => br_f (nI_ne0 (by have := hz ha; omega) (by omega)) ⟨12, sv_fa24 post fa fb fc fd (nI t) ff fg fh aK aE aV aS aC aY aD aT aW m h1 h2 hY hp 11 0 rfl⟩)
end
section
theorem sy_badSector (post : Int32 → Prop) (v : SY) (x : Int32) (h1 : post 1) (h0 : ∀ i : Nat, i < 12 → x = nI i → post 0) : wpY_badSector post v x := by
  obtain ⟨ga, gb, gc, gd, ge, bC, bD, bU, bP, bV, bQ⟩ := v
  refine br_c (fun _ => h1) (fun hx => br_c (fun hy => ?_) (fun _ => h1))
  obtain ⟨i, hi, e⟩ := nI_of2 (M := 11) (n := 11) (by decide) hx hy
  exact h0 i (by omega) e
theorem sy_badCell (post : Int32 → Prop) (v : SY) (x : Int32) (h1 : post 1) (h0 : ∀ i : Nat, i < 8 → x = nI i → post 0) : wpY_badCell post v x := by
  obtain ⟨ga, gb, gc, gd, ge, bC, bD, bU, bP, bV, bQ⟩ := v
  refine br_c (fun _ => h1) (fun hx => br_c (fun hy => ?_) (fun _ => h1))
  obtain ⟨i, hi, e⟩ := nI_of2 (M := 7) (n := 7) (by decide) hx hy
  exact h0 i (by omega) e
theorem sy_badSlot (post : Int32 → Prop) (v : SY) (x : Int32) (h1 : post 1) (h0 : ∀ i : Nat, i < 4 → x = nI i → post 0) : wpY_badSlot post v x := by
  obtain ⟨ga, gb, gc, gd, ge, bC, bD, bU, bP, bV, bQ⟩ := v
  refine br_c (fun _ => h1) (fun hx => br_c (fun hy => ?_) (fun _ => h1))
  obtain ⟨i, hi, e⟩ := nI_of2 (M := 3) (n := 3) (by decide) hx hy
  exact h0 i (by omega) e
theorem sy_i4 {j : Nat} (h : j < 4) : vp_in (nI j) 4 := vp_in_nI h (by decide)
theorem sy_i96 {i j : Nat} (hi : i < 12) (hj : j < 8) : vp_in ((8 * nI i) + nI j) 96 := by
  rw [show 8 * nI i = nI (8 * i) from pk_mul 8 i]
  exact sv_ia (8 * i) j 96 (by omega) (by decide)
theorem sy_fi2 (post : Int32 → Prop) (x : Int32) (ga gb gc gd ge : Int32) (bC bD bU bP bV bQ : Nat → Int32) (hn : post (-1)) (hp : ∀ s : Nat, s < 4 → post (nI s)) :
    ∀ (d j : Nat), j + d = 4 → wY_find_2 post x ga gb gc gd ge bC bD bU bP bV bQ (d + 1) (nI j) := by
  intro d
  induction d with
  | zero => intro j hj; exact br_t (sv_ge 4 (by omega) (by omega)) hn
  | succ d ih =>
    intro j hj
    have hx : ∀ y : Int32, y = nI j + 1 → wY_find_2 post x ga gb gc gd ge bC bD bU bP bV bQ (d + 1) y := nm_r (nI_1 j) (ih (j + 1) (by omega))
    exact br_f (sv_ng 4 (by omega) (by decide)) ⟨sy_i4 (by omega), br_c (fun _ => hx) (fun _ => ⟨sy_i4 (by omega), br_c (fun _ => hp j (by omega)) (fun _ => hx)⟩)⟩
theorem sy_find (post : Int32 → Prop) (x : Int32) (ga gb gc gd ge : Int32) (bC bD bU bP bV bQ : Nat → Int32) (hp : ∀ r : Int32, post r) : wpY_find post (ga, gb, gc, gd, ge, bC, bD, bU, bP, bV, bQ) x :=
  ⟨5, sy_fi2 post x ga gb gc gd ge bC bD bU bP bV bQ (hp _) (fun _ _ => hp _) 4 0 rfl⟩
theorem sy_cs4 (post : Int32 → Prop) (ga gb gc gd ge : Int32) (bC bD bU bP bV bQ : Nat → Int32) (hp : ∀ r : Int32, post r) :
    ∀ (d j : Nat) (x1 : Int32), j + d = 4 → wY_countSlots_4 post ga gb gc gd ge bC bD bU bP bV bQ (d + 1) x1 (nI j) := by
  intro d
  induction d with
  | zero => intro j x1 hj; exact br_t (sv_ge 4 (by omega) (by omega)) (hp _)
  | succ d ih =>
    intro j x1 hj
    exact br_f (sv_ng 4 (by omega) (by decide)) ⟨sy_i4 (by omega), br_c (fun _ => nm_r (nI_1 j) (ih (j + 1) _ (by omega))) (fun _ => fun _ _ => nm_r (nI_1 j) (ih (j + 1) _ (by omega)))⟩
theorem sy_count (post : Int32 → Prop) (ga gb gc gd ge : Int32) (bC bD bU bP bV bQ : Nat → Int32) (hp : ∀ r : Int32, post r) : wpY_countSlots post (ga, gb, gc, gd, ge, bC, bD, bU, bP, bV, bQ) :=
  ⟨5, sy_cs4 post ga gb gc gd ge bC bD bU bP bV bQ hp 4 0 0 rfl⟩
theorem sy_fo64 (post : Int32 → SY → Prop) (x : Int32) (ga gb gc gd ge : Int32) (bC bD bP bV bQ : Nat → Int32) (hp : ∀ v', post 0 v') :
    ∀ (d j : Nat) (bU : Nat → Int32), j + d = 4 → wY_format_64 post x ga gb gc gd ge (d + 1) (nI j) bC bD bU bP bV bQ := by
  intro d
  induction d with
  | zero => intro j bU hj; exact br_t (sv_ge 4 (by omega) (by omega)) (fun _ _ => hp _)
  | succ d ih =>
    intro j bU hj
    exact br_f (sv_ng 4 (by omega) (by decide)) (br_c (fun _ => ⟨sy_i4 (by omega), fun _ _ => nm_r (nI_1 j) (ih (j + 1) _ (by omega))⟩) (fun _ => ⟨sy_i4 (by omega), fun _ _ => nm_r (nI_1 j) (ih (j + 1) _ (by omega))⟩))
theorem sy_fo43 (post : Int32 → SY → Prop) (x : Int32) (ga gb gc gd ge : Int32) (bC bU bP bV bQ : Nat → Int32) (hp : ∀ v', post 0 v') :
    ∀ (d j : Nat) (bD : Nat → Int32), j + d = 12 → wY_format_43 post x ga gb gc gd ge (d + 1) (nI j) bC bD bU bP bV bQ := by
  intro d
  induction d with
  | zero => intro j bD hj; exact br_t (sv_ge 12 (by omega) (by omega)) ⟨5, sy_fo64 post x ga gb gc gd ge bC bD bP bV bQ hp 4 0 bU rfl⟩
  | succ d ih =>
    intro j bD hj
    exact br_f (sv_ng 12 (by omega) (by decide)) ⟨sv_i12 (by omega), fun _ _ => nm_r (nI_1 j) (ih (j + 1) _ (by omega))⟩
theorem sy_fo22 (post : Int32 → SY → Prop) (x : Int32) (ga gb gc gd ge : Int32) (bD bU bP bV bQ : Nat → Int32) (hp : ∀ v', post 0 v') :
    ∀ (d j : Nat) (bC : Nat → Int32), j + d = 96 → wY_format_22 post x ga gb gc gd ge (d + 1) (nI j) bC bD bU bP bV bQ := by
  intro d
  induction d with
  | zero => intro j bC hj; exact br_t (sv_ge 96 (by omega) (by omega)) ⟨13, sy_fo43 post x ga gb gc gd ge bC bU bP bV bQ hp 12 0 bD rfl⟩
  | succ d ih =>
    intro j bC hj
    exact br_f (sv_ng 96 (by omega) (by decide)) ⟨vp_in_nI (by omega) (by decide), fun _ _ => nm_r (nI_1 j) (ih (j + 1) _ (by omega))⟩
theorem sy_format (post : Int32 → SY → Prop) (v : SY) (x : Int32) (hp : ∀ v', post 0 v') : wpY_format post v x := by
  obtain ⟨ga, gb, gc, gd, ge, bC, bD, bU, bP, bV, bQ⟩ := v
  exact ⟨97, sy_fo22 post x 1 0 0 0 ge bD bU bP bV bQ hp 96 0 bC rfl⟩
theorem sy_unlock (post : Int32 → SY → Prop) (v : SY) (x : Int32) (hp : ∀ r v', post r v') : wpY_unlock post v x := by
  obtain ⟨ga, gb, gc, gd, ge, bC, bD, bU, bP, bV, bQ⟩ := v
  exact br_c (fun _ => hp _ _) (fun _ => br_c (fun _ => sy_find _ x ga gb gc gd ge bC bD bU bP bV bQ (fun _ => br_c (fun _ => hp _ _) (fun _ => hp _ _))) (fun _ => hp _ _))
theorem sy_lock (post : Int32 → SY → Prop) (v : SY) (hp : ∀ r v', post r v') : wpY_lock post v := by
  obtain ⟨ga, gb, gc, gd, ge, bC, bD, bU, bP, bV, bQ⟩ := v
  exact br_c (fun _ => hp _ _) (fun _ => br_c (fun _ => hp _ _) (fun _ => hp _ _))
theorem sy_state (post : Int32 → Prop) (v : SY) (hp : ∀ r, post r) : wpY_state post v := by
  obtain ⟨ga, gb, gc, gd, ge, bC, bD, bU, bP, bV, bQ⟩ := v
  exact br_c (fun _ => hp _) (fun _ => br_c (fun _ => hp _) (fun _ => hp _))
theorem sy_read (post : Int32 → Prop) (v : SY) (x y : Int32) (hp : ∀ r, post r) : wpY_read post v x y := by
  obtain ⟨ga, gb, gc, gd, ge, bC, bD, bU, bP, bV, bQ⟩ := v
  unfold wpY_read
  refine sy_badSector _ _ x (br_f (by decide) (hp _)) (fun i hi ei => br_t rfl ?_)
  refine sy_badCell _ _ y (br_f (by decide) (hp _)) (fun j hj ej => br_t rfl (br_c (fun _ => hp _) (fun _ => ?_)))
  rw [ei, ej]
  exact ⟨sv_i12 hi, br_c (fun _ => ⟨sy_i96 hi hj, hp _⟩) (fun _ => hp _)⟩
theorem sy_write (post : Int32 → SY → Prop) (v : SY) (x y z : Int32) (hp : ∀ r v', post r v') : wpY_write post v x y z := by
  obtain ⟨ga, gb, gc, gd, ge, bC, bD, bU, bP, bV, bQ⟩ := v
  unfold wpY_write
  refine sy_badSector _ _ x (br_f (by decide) (hp _ _)) (fun i hi ei => br_t rfl ?_)
  refine sy_badCell _ _ y (br_f (by decide) (hp _ _)) (fun j hj ej => br_t rfl (br_c (fun _ => hp _ _) (fun _ => ?_)))
  rw [ei, ej]
  exact ⟨sv_i12 hi, br_c (fun _ => ⟨sy_i96 hi hj, fun _ _ => hp _ _⟩) (fun _ => hp _ _)⟩
theorem sy_fl23 (post : Int32 → SY → Prop) (i : Nat) (hi : i < 12) (x2 x3 : Int32) (ga gb gc gd ge : Int32) (bD bU bP bV bQ : Nat → Int32) (hp : ∀ r v', post r v') :
    ∀ (d j : Nat) (bC : Nat → Int32), j + d = 8 → wY_fill_23 post (nI i) x2 x3 ga gb gc gd ge (d + 1) (nI j) bC bD bU bP bV bQ := by
  intro d
  induction d with
  | zero => intro j bC hj; exact br_t (sv_ge 8 (by omega) (by omega)) ⟨sv_i12 hi, fun _ _ => ⟨sv_i12 hi, fun _ _ => br_c (fun _ => hp _ _) (fun _ => hp _ _)⟩⟩
  | succ d ih =>
    intro j bC hj
    exact br_f (sv_ng 8 (by omega) (by decide)) ⟨sy_i96 hi (by omega), fun _ _ => nm_r (nI_1 j) (ih (j + 1) _ (by omega))⟩
theorem sy_fill (post : Int32 → SY → Prop) (v : SY) (x y z : Int32) (hp : ∀ r v', post r v') : wpY_fill post v x y z := by
  obtain ⟨ga, gb, gc, gd, ge, bC, bD, bU, bP, bV, bQ⟩ := v
  unfold wpY_fill
  refine sy_badSector _ _ x (br_f (by decide) (hp _ _)) (fun i hi ei => br_t rfl (br_c (fun _ => hp _ _) (fun _ => ?_)))
  rw [ei]
  exact ⟨9, sy_fl23 post i hi y z ga gb gc gd ge bD bU bP bV bQ hp 8 0 bC rfl⟩
theorem sy_check (post : Int32 → Prop) (v : SY) (x : Int32) (hp : ∀ r, post r) : wpY_check post v x := by
  obtain ⟨ga, gb, gc, gd, ge, bC, bD, bU, bP, bV, bQ⟩ := v
  unfold wpY_check
  refine sy_badSector _ _ x (br_f (by decide) (hp _)) (fun i hi ei => br_t rfl (br_c (fun _ => hp _) (fun _ => ?_)))
  rw [ei]
  exact ⟨sv_i12 hi, br_c (fun _ => hp _) (fun _ => hp _)⟩
theorem sy_di4 (post : Int32 → Prop) (ga gb gc gd ge : Int32) (bC bD bU bP bV bQ : Nat → Int32) (hp : ∀ r, post r) :
    ∀ (d j : Nat) (x1 : Int32), j + d = 96 → wY_digest_4 post ga gb gc gd ge bC bD bU bP bV bQ (d + 1) x1 (nI j) := by
  intro d
  induction d with
  | zero => intro j x1 hj; exact br_t (sv_ge 96 (by omega) (by omega)) (hp _)
  | succ d ih =>
    intro j x1 hj
    exact br_f (sv_ng 96 (by omega) (by decide)) ⟨by decide, by decide, sy_read _ _ _ _ (fun _ => fun _ _ => nm_r (nI_1 j) (ih (j + 1) _ (by omega)))⟩
theorem sy_digest (post : Int32 → Prop) (v : SY) (hp : ∀ r, post r) : wpY_digest post v := by
  obtain ⟨ga, gb, gc, gd, ge, bC, bD, bU, bP, bV, bQ⟩ := v
  exact ⟨97, sy_di4 post ga gb gc gd ge bC bD bU bP bV bQ hp 96 0 0 rfl⟩
theorem sy_ak23 (post : Int32 → SY → Prop) (x : Int32) (ga gb gc gd ge : Int32) (bC bD bU bP bV bQ : Nat → Int32) (hp : ∀ r v', post r v') :
    ∀ (d j : Nat), j + d = 4 → wY_addKey_23 post x ga gb gc gd ge bC bD bU bP bV bQ (d + 1) (nI j) := by
  intro d
  induction d with
  | zero => intro j hj; exact br_t (sv_ge 4 (by omega) (by omega)) (hp _ _)
  | succ d ih =>
    intro j hj
    exact br_f (sv_ng 4 (by omega) (by decide)) ⟨sy_i4 (by omega), br_c (fun _ => ⟨sy_i4 (by omega), fun _ _ => ⟨sy_i4 (by omega), fun _ _ => hp _ _⟩⟩) (fun _ => nm_r (nI_1 j) (ih (j + 1) (by omega)))⟩
theorem sy_addKey (post : Int32 → SY → Prop) (v : SY) (x : Int32) (hp : ∀ r v', post r v') : wpY_addKey post v x := by
  obtain ⟨ga, gb, gc, gd, ge, bC, bD, bU, bP, bV, bQ⟩ := v
  exact br_c (fun _ => hp _ _) (fun _ => sy_find _ x ga gb gc gd ge bC bD bU bP bV bQ (fun _ => br_c (fun _ => ⟨5, sy_ak23 post x ga gb gc gd ge bC bD bU bP bV bQ hp 4 0 rfl⟩) (fun _ => hp _ _)))
theorem sy_removeKey (post : Int32 → SY → Prop) (v : SY) (x : Int32) (hp : ∀ r v', post r v') : wpY_removeKey post v x := by
  obtain ⟨ga, gb, gc, gd, ge, bC, bD, bU, bP, bV, bQ⟩ := v
  unfold wpY_removeKey
  refine sy_badSlot _ _ x (br_f (by decide) (hp _ _)) (fun i hi ei => br_t rfl (br_c (fun _ => hp _ _) (fun _ => ?_)))
  rw [ei]
  exact ⟨sy_i4 hi, br_c (fun _ => hp _ _) (fun _ => sy_count _ ga gb gc gd ge bC bD bU bP bV bQ (fun _ => br_c (fun _ => hp _ _) (fun _ => ⟨sy_i4 hi, fun bU' _ => sy_count _ ga gb gc gd ge bC bD bU' bP bV bQ (fun _ => hp _ _)⟩)))⟩
theorem sy_changeKey (post : Int32 → SY → Prop) (v : SY) (x y : Int32) (hp : ∀ r v', post r v') : wpY_changeKey post v x y := by
  obtain ⟨ga, gb, gc, gd, ge, bC, bD, bU, bP, bV, bQ⟩ := v
  unfold wpY_changeKey
  refine sy_badSlot _ _ x (br_f (by decide) (hp _ _)) (fun i hi ei => br_t rfl (br_c (fun _ => hp _ _) (fun _ => ?_)))
  rw [ei]
  exact ⟨sy_i4 hi, br_c (fun _ => hp _ _) (fun _ => sy_find _ y ga gb gc gd ge bC bD bU bP bV bQ (fun _ => br_c (fun _ => hp _ _) (fun _ => br_c (fun _ => ⟨sy_i4 hi, fun _ _ => hp _ _⟩) (fun _ => hp _ _))))⟩
theorem sy_sl4 (post : Int32 → Prop) (ga gb gc gd ge : Int32) (bC bD bU bP bV bQ : Nat → Int32) (hp : ∀ r, post r) :
    ∀ (d j : Nat) (x1 : Int32), j + d = 4 → wY_slots_4 post ga gb gc gd ge bC bD bU bP bV bQ (d + 1) x1 (nI j) := by
  intro d
  induction d with
  | zero => intro j x1 hj; exact br_t (sv_ge 4 (by omega) (by omega)) (hp _)
  | succ d ih =>
    intro j x1 hj
    exact br_f (sv_ng 4 (by omega) (by decide)) (br_c (fun _ => nm_r (nI_1 j) (ih (j + 1) _ (by omega))) (fun _ => ⟨sy_i4 (by omega), br_c (fun _ => nm_r (nI_1 j) (ih (j + 1) _ (by omega))) (fun _ => fun _ _ => nm_r (nI_1 j) (ih (j + 1) _ (by omega)))⟩))
theorem sy_slots (post : Int32 → Prop) (v : SY) (hp : ∀ r, post r) : wpY_slots post v := by
  obtain ⟨ga, gb, gc, gd, ge, bC, bD, bU, bP, bV, bQ⟩ := v
  exact ⟨5, sy_sl4 post ga gb gc gd ge bC bD bU bP bV bQ hp 4 0 0 rfl⟩
theorem sy_slotOf (post : Int32 → Prop) (v : SY) (x : Int32) (hp : ∀ r, post r) : wpY_slotOf post v x := by
  obtain ⟨ga, gb, gc, gd, ge, bC, bD, bU, bP, bV, bQ⟩ := v
  exact br_c (fun _ => hp _) (fun _ => sy_find _ x ga gb gc gd ge bC bD bU bP bV bQ (fun _ => br_c (fun _ => hp _) (fun _ => hp _)))
theorem sy_rn28 (post : Int32 → SY → Prop) (x : Int32) (ga gb gc gd ge : Int32) (bC bD bU bP bV bQ : Nat → Int32) (hp : ∀ r v', post r v') : wY_renew_28 post x ga gb gc gd ge bC bD bU bP bV bQ :=
  br_c (fun _ => hp _ _) (fun _ => br_c (fun _ => fun _ _ => hp _ _) (fun _ => hp _ _))
theorem sy_renew (post : Int32 → SY → Prop) (v : SY) (x : Int32) (hp : ∀ r v', post r v') : wpY_renew post v x := by
  obtain ⟨ga, gb, gc, gd, ge, bC, bD, bU, bP, bV, bQ⟩ := v
  exact br_c (fun _ => hp _ _) (fun _ => br_c (fun _ => sy_rn28 post x ga gb 12 gd 1 bC bD bU bP bV bQ hp) (fun _ => sy_rn28 post x ga gb gc gd ge bC bD bU bP bV bQ hp))
theorem sy_toRenew (post : Int32 → Prop) (v : SY) (hp : ∀ r, post r) : wpY_toRenew post v := by
  obtain ⟨ga, gb, gc, gd, ge, bC, bD, bU, bP, bV, bQ⟩ := v
  exact hp _
theorem sy_ss33 (post : Int32 → SY → Prop) (ga gb gc gd ge : Int32) (bC bD bU bP : Nat → Int32) (hp : ∀ r v', post r v') :
    ∀ (d j : Nat) (bV bQ : Nat → Int32), j + d = 4 → wY_saveSlots_33 post ga gb gc gd ge (d + 1) (nI j) bC bD bU bP bV bQ := by
  intro d
  induction d with
  | zero => intro j bV bQ hj; exact br_t (sv_ge 4 (by omega) (by omega)) (sy_count _ ga gb gc gd ge bC bD bU bP bV bQ (fun _ => hp _ _))
  | succ d ih =>
    intro j bV bQ hj
    have hi : vp_in (nI j) 4 := sy_i4 (by omega)
    exact br_f (sv_ng 4 (by omega) (by decide)) ⟨hi, hi, fun _ _ => ⟨hi, hi, fun _ _ => nm_r (nI_1 j) (ih (j + 1) _ _ (by omega))⟩⟩
theorem sy_saveSlots (post : Int32 → SY → Prop) (v : SY) (hp : ∀ r v', post r v') : wpY_saveSlots post v := by
  obtain ⟨ga, gb, gc, gd, ge, bC, bD, bU, bP, bV, bQ⟩ := v
  exact br_c (fun _ => hp _ _) (fun _ => br_c (fun _ => ⟨5, sy_ss33 post ga gb gc 1 0 bC bD bU bP hp 4 0 bV bQ rfl⟩) (fun _ => ⟨5, sy_ss33 post ga gb gc 1 1 bC bD bU bP hp 4 0 bV bQ rfl⟩))
theorem sy_rs36 (post : Int32 → SY → Prop) (ga gb gc gd ge : Int32) (bC bD bV bQ : Nat → Int32) (hp : ∀ r v', post r v') :
    ∀ (d j : Nat) (bU bP : Nat → Int32), j + d = 4 → wY_restoreSlots_36 post ga gb gc gd ge (d + 1) (nI j) bC bD bU bP bV bQ := by
  intro d
  induction d with
  | zero => intro j bU bP hj; exact br_t (sv_ge 4 (by omega) (by omega)) (sy_count _ ga 0 gc gd ge bC bD bU bP bV bQ (fun _ => hp _ _))
  | succ d ih =>
    intro j bU bP hj
    have hi : vp_in (nI j) 4 := sy_i4 (by omega)
    exact br_f (sv_ng 4 (by omega) (by decide)) ⟨hi, hi, fun _ _ => ⟨hi, hi, fun _ _ => nm_r (nI_1 j) (ih (j + 1) _ _ (by omega))⟩⟩
theorem sy_restoreSlots (post : Int32 → SY → Prop) (v : SY) (hp : ∀ r v', post r v') : wpY_restoreSlots post v := by
  obtain ⟨ga, gb, gc, gd, ge, bC, bD, bU, bP, bV, bQ⟩ := v
  exact br_c (fun _ => hp _ _) (fun _ => br_c (fun _ => hp _ _) (fun _ => br_c (fun _ => br_c (fun _ => ⟨5, sy_rs36 post ga gb gc gd ge bC bD bV bQ hp 4 0 bU bP rfl⟩) (fun _ => hp _ _)) (fun _ => hp _ _)))
theorem sy_damage (post : Int32 → SY → Prop) (v : SY) (x y : Int32) (hp : ∀ r v', post r v') : wpY_damage post v x y := by
  obtain ⟨ga, gb, gc, gd, ge, bC, bD, bU, bP, bV, bQ⟩ := v
  unfold wpY_damage
  refine sy_badSector _ _ x (br_f (by decide) (hp _ _)) (fun i hi ei => br_t rfl (br_c (fun _ => hp _ _) (fun _ => ?_)))
  rw [ei]
  exact ⟨sv_i12 hi, br_c (fun _ => ⟨sv_i12 hi, fun _ _ => hp _ _⟩) (fun _ => hp _ _)⟩
theorem sy_crash (post : Int32 → SY → Prop) (v : SY) (x : Int32) (hp : ∀ r v', post r v') : wpY_crash post v x := by
  obtain ⟨ga, gb, gc, gd, ge, bC, bD, bU, bP, bV, bQ⟩ := v
  exact br_c (fun _ => hp _ _) (fun _ => hp _ _)
end
section
def pa_x : SX := (0, 0, 0, 0, 0, 0, 0, 0, (fun _ => 0), (fun _ => 0), (fun _ => 0), (fun _ => 0), (fun _ => 0), (fun _ => 0), (fun _ => 0), (fun _ => 0), (fun _ => 0))
def pa_y : SY := (0, 0, 0, 0, 0, (fun _ => 0), (fun _ => 0), (fun _ => 0), (fun _ => 0), (fun _ => 0), (fun _ => 0))
theorem pa_inv : sv_Inv pa_x := ⟨⟨0, by decide, rfl, fun h => absurd rfl h⟩, ⟨0, by decide, rfl, fun h => absurd rfl h⟩, ⟨12, by decide, fun _ _ => rfl, fun i h1 h2 => absurd h2 (by omega)⟩, fun _ _ _ => rfl⟩
theorem pa_lt {x M : Int32} {N : Nat} (hN : M.toInt = N) (h : vp_in x N) : ¬ x < 0 ∧ ¬ M ≤ x := by
  rw [vp_in_iff] at h
  rw [Int32.lt_iff_toInt_lt, Int32.le_iff_toInt_le, show (0 : Int32).toInt = 0 from by decide]
  omega
theorem pa_le {x M : Int32} {N : Nat} (hN : M.toInt + 1 = N) (h : vp_in x N) : ¬ x < 0 ∧ x ≤ M := by
  rw [vp_in_iff] at h
  rw [Int32.lt_iff_toInt_lt, Int32.le_iff_toInt_le, show (0 : Int32).toInt = 0 from by decide]
  omega
theorem pa_nlt {x M : Int32} {N : Nat} (hN : M.toInt = N) (h : ¬ vp_in x N) (h0 : ¬ x < 0) : M ≤ x := by
  rw [vp_in_iff] at h
  rw [Int32.lt_iff_toInt_lt, show (0 : Int32).toInt = 0 from by decide] at h0
  rw [Int32.le_iff_toInt_le]
  omega
theorem pa_nle {x M : Int32} {N : Nat} (hN : M.toInt + 1 = N) (h : ¬ vp_in x N) (h0 : ¬ x < 0) : ¬ x ≤ M := by
  rw [vp_in_iff] at h
  rw [Int32.lt_iff_toInt_lt, show (0 : Int32).toInt = 0 from by decide] at h0
  rw [Int32.le_iff_toInt_le]
  omega
theorem pa_xSector_g (post : Int32 → Prop) (u : SX) (x : Int32) (h : vp_in x 12) (hp : post 1) : wpX_isSector post u x := by
  obtain ⟨fa, fb, fc, fd, fe, ff, fg, fh, aK, aE, aV, aS, aC, aY, aD, aT, aW⟩ := u
  have b := pa_lt (M := 12) (by decide) h
  exact br_f b.1 (br_f b.2 hp)
theorem pa_xSector_b (post : Int32 → Prop) (u : SX) (x : Int32) (h : ¬ vp_in x 12) (hp : post 0) : wpX_isSector post u x := by
  obtain ⟨fa, fb, fc, fd, fe, ff, fg, fh, aK, aE, aV, aS, aC, aY, aD, aT, aW⟩ := u
  exact br_c (fun _ => hp) (fun h0 => br_t (pa_nlt (M := 12) (by decide) h h0) hp)
theorem pa_ySector_g (post : Int32 → Prop) (v : SY) (x : Int32) (h : vp_in x 12) (hp : post 0) : wpY_badSector post v x := by
  obtain ⟨ga, gb, gc, gd, ge, bC, bD, bU, bP, bV, bQ⟩ := v
  have b := pa_le (M := 11) (by decide) h
  exact br_f b.1 (br_t b.2 hp)
theorem pa_ySector_b (post : Int32 → Prop) (v : SY) (x : Int32) (h : ¬ vp_in x 12) (hp : post 1) : wpY_badSector post v x := by
  obtain ⟨ga, gb, gc, gd, ge, bC, bD, bU, bP, bV, bQ⟩ := v
  exact br_c (fun _ => hp) (fun h0 => br_f (pa_nle (M := 11) (by decide) h h0) hp)
theorem pa_xCell_g (post : Int32 → Prop) (u : SX) (x : Int32) (h : vp_in x 8) (hp : post 1) : wpX_isCell post u x := by
  obtain ⟨fa, fb, fc, fd, fe, ff, fg, fh, aK, aE, aV, aS, aC, aY, aD, aT, aW⟩ := u
  have b := pa_lt (M := 8) (by decide) h
  exact br_f b.1 (br_f b.2 hp)
theorem pa_xCell_b (post : Int32 → Prop) (u : SX) (x : Int32) (h : ¬ vp_in x 8) (hp : post 0) : wpX_isCell post u x := by
  obtain ⟨fa, fb, fc, fd, fe, ff, fg, fh, aK, aE, aV, aS, aC, aY, aD, aT, aW⟩ := u
  exact br_c (fun _ => hp) (fun h0 => br_t (pa_nlt (M := 8) (by decide) h h0) hp)
theorem pa_yCell_g (post : Int32 → Prop) (v : SY) (x : Int32) (h : vp_in x 8) (hp : post 0) : wpY_badCell post v x := by
  obtain ⟨ga, gb, gc, gd, ge, bC, bD, bU, bP, bV, bQ⟩ := v
  have b := pa_le (M := 7) (by decide) h
  exact br_f b.1 (br_t b.2 hp)
theorem pa_yCell_b (post : Int32 → Prop) (v : SY) (x : Int32) (h : ¬ vp_in x 8) (hp : post 1) : wpY_badCell post v x := by
  obtain ⟨ga, gb, gc, gd, ge, bC, bD, bU, bP, bV, bQ⟩ := v
  exact br_c (fun _ => hp) (fun h0 => br_f (pa_nle (M := 7) (by decide) h h0) hp)
theorem pa_xSlot_g (post : Int32 → Prop) (u : SX) (x : Int32) (h : vp_in x 4) (hp : post 1) : wpX_isSlot post u x := by
  obtain ⟨fa, fb, fc, fd, fe, ff, fg, fh, aK, aE, aV, aS, aC, aY, aD, aT, aW⟩ := u
  have b := pa_lt (M := 4) (by decide) h
  exact br_f b.1 (br_f b.2 hp)
theorem pa_xSlot_b (post : Int32 → Prop) (u : SX) (x : Int32) (h : ¬ vp_in x 4) (hp : post 0) : wpX_isSlot post u x := by
  obtain ⟨fa, fb, fc, fd, fe, ff, fg, fh, aK, aE, aV, aS, aC, aY, aD, aT, aW⟩ := u
  exact br_c (fun _ => hp) (fun h0 => br_t (pa_nlt (M := 4) (by decide) h h0) hp)
theorem pa_ySlot_g (post : Int32 → Prop) (v : SY) (x : Int32) (h : vp_in x 4) (hp : post 0) : wpY_badSlot post v x := by
  obtain ⟨ga, gb, gc, gd, ge, bC, bD, bU, bP, bV, bQ⟩ := v
  have b := pa_le (M := 3) (by decide) h
  exact br_f b.1 (br_t b.2 hp)
theorem pa_ySlot_b (post : Int32 → Prop) (v : SY) (x : Int32) (h : ¬ vp_in x 4) (hp : post 1) : wpY_badSlot post v x := by
  obtain ⟨ga, gb, gc, gd, ge, bC, bD, bU, bP, bV, bQ⟩ := v
  exact br_c (fun _ => hp) (fun h0 => br_f (pa_nle (M := 3) (by decide) h h0) hp)
theorem pa_yread (post : Int32 → Prop) (x y : Int32) (hp : post 0) : wpY_read post pa_y x y := by
  unfold wpY_read pa_y
  dsimp only
  by_cases hx : vp_in x 12
  · refine pa_ySector_g _ _ _ hx (br_t rfl ?_)
    by_cases hy : vp_in y 8
    · exact pa_yCell_g _ _ _ hy (br_t rfl (br_t rfl hp))
    · exact pa_yCell_b _ _ _ hy (br_f (by decide) hp)
  · exact pa_ySector_b _ _ _ hx (br_f (by decide) hp)
theorem pa_ydi4 (post : Int32 → Prop) (hp : post 0) :
    ∀ (d j : Nat), j + d = 96 → wY_digest_4 post 0 0 0 0 0 (fun _ => 0) (fun _ => 0) (fun _ => 0) (fun _ => 0) (fun _ => 0) (fun _ => 0) (d + 1) 0 (nI j) := by
  intro d
  induction d with
  | zero => intro j hj; exact br_t (sv_ge 96 (by omega) (by omega)) hp
  | succ d ih =>
    intro j hj
    refine br_f (sv_ng 96 (by omega) (by decide)) ⟨by decide, by decide, pa_yread _ _ _ (nm_r (e' := 0) ?_ (nm_r (nI_1 j) (ih (j + 1) (by omega))))⟩
    rw [Int32.mul_zero, Int32.add_zero]
theorem pa_ysl4 (post : Int32 → Prop) (hp : post 0) :
    ∀ (d j : Nat), j + d = 4 → wY_slots_4 post 0 0 0 0 0 (fun _ => 0) (fun _ => 0) (fun _ => 0) (fun _ => 0) (fun _ => 0) (fun _ => 0) (d + 1) 0 (nI j) := by
  intro d
  induction d with
  | zero => intro j hj; exact br_t (sv_ge 4 (by omega) (by omega)) hp
  | succ d ih =>
    intro j hj
    exact br_f (sv_ng 4 (by omega) (by decide)) (br_t rfl (nm_r (nI_1 j) (ih (j + 1) (by omega))))
def i_Rel (k : Nat) (u : SX) (v : SY) : Prop := k = 0 → u = pa_x ∧ v = pa_y
theorem i_up {k : Nat} {u : SX} {v : SY} (h : i_Rel k u v) : i_Rel (k + 4) u v := fun z => absurd z (by omega)
theorem i_vc0 : wpX_init (fun u => wpY_init (fun v => i_Rel 0 u v)) := fun _ => ⟨rfl, rfl⟩
theorem i_vc_format {k : Nat} {u : SX} {v : SY} (I : i_Rel k u v) (hk : k + 4 ≤ 4) (v1 : Int32) : wpX_format (fun r u' => wpY_format (fun r' v' => r' = r ∧ i_Rel (k + 4) u' v') v v1) u v1 := by
  obtain ⟨hu, hv⟩ := I (by omega)
  have T : ∀ (u' : SX) (v' : SY), i_Rel (k + 4) u' v' := fun _ _ h => absurd h (by omega)
  rw [hu, hv]
  exact sv_format _ _ v1 pa_inv (fun _ _ => sy_format _ _ v1 (fun _ => ⟨rfl, T _ _⟩))
theorem i_vc_unlock {k : Nat} {u : SX} {v : SY} (I : i_Rel k u v) (hk : k + 4 ≤ 4) (v1 : Int32) : wpX_unlock (fun r u' => wpY_unlock (fun r' v' => r' = r ∧ i_Rel (k + 4) u' v') v v1) u v1 := by
  obtain ⟨hu, hv⟩ := I (by omega)
  have T : ∀ (u' : SX) (v' : SY), i_Rel (k + 4) u' v' := fun _ _ h => absurd h (by omega)
  rw [hu, hv]
  exact br_t rfl (br_t rfl ⟨rfl, T _ _⟩)
theorem i_vc_lock {k : Nat} {u : SX} {v : SY} (I : i_Rel k u v) (hk : k + 4 ≤ 4) : wpX_lock (fun r u' => wpY_lock (fun r' v' => r' = r ∧ i_Rel (k + 4) u' v') v) u := by
  obtain ⟨hu, hv⟩ := I (by omega)
  have T : ∀ (u' : SX) (v' : SY), i_Rel (k + 4) u' v' := fun _ _ h => absurd h (by omega)
  rw [hu, hv]
  exact br_t rfl (br_t rfl ⟨rfl, T _ _⟩)
theorem i_vc_state {k : Nat} {u : SX} {v : SY} (I : i_Rel k u v) (hk : k + 4 ≤ 4) : wpX_state (fun r => wpY_state (fun r' => r' = r ∧ i_Rel (k + 4) u v) v) u := by
  obtain ⟨hu, hv⟩ := I (by omega)
  have T : ∀ (u' : SX) (v' : SY), i_Rel (k + 4) u' v' := fun _ _ h => absurd h (by omega)
  rw [hu, hv]
  exact br_t rfl (br_t rfl ⟨rfl, T _ _⟩)
theorem i_vc_read {k : Nat} {u : SX} {v : SY} (I : i_Rel k u v) (hk : k + 4 ≤ 4) (v1 : Int32) (v2 : Int32) : wpX_read (fun r u' => wpY_read (fun r' => r' = r ∧ i_Rel (k + 4) u' v) v v1 v2) u v1 v2 := by
  obtain ⟨hu, hv⟩ := I (by omega)
  have T : ∀ (u' : SX) (v' : SY), i_Rel (k + 4) u' v' := fun _ _ h => absurd h (by omega)
  rw [hu, hv]
  unfold wpX_read pa_x
  dsimp only
  by_cases hx : vp_in v1 12
  · refine pa_xSector_g _ _ _ hx (br_f (by decide) ?_)
    by_cases hy : vp_in v2 8
    · exact pa_xCell_g _ _ _ hy (br_f (by decide) (br_t rfl (pa_yread _ _ _ ⟨rfl, T _ _⟩)))
    · exact pa_xCell_b _ _ _ hy (br_t rfl (pa_yread _ _ _ ⟨rfl, T _ _⟩))
  · exact pa_xSector_b _ _ _ hx (br_t rfl (pa_yread _ _ _ ⟨rfl, T _ _⟩))
theorem i_vc_write {k : Nat} {u : SX} {v : SY} (I : i_Rel k u v) (hk : k + 4 ≤ 4) (v1 : Int32) (v2 : Int32) (v3 : Int32) : wpX_write (fun r u' => wpY_write (fun r' v' => r' = r ∧ i_Rel (k + 4) u' v') v v1 v2 v3) u v1 v2 v3 := by
  obtain ⟨hu, hv⟩ := I (by omega)
  have T : ∀ (u' : SX) (v' : SY), i_Rel (k + 4) u' v' := fun _ _ h => absurd h (by omega)
  rw [hu, hv]
  unfold wpX_write pa_x
  dsimp only
  unfold wpY_write pa_y
  dsimp only
  by_cases hx : vp_in v1 12
  · refine pa_xSector_g _ _ _ hx (br_f (by decide) ?_)
    by_cases hy : vp_in v2 8
    · exact pa_xCell_g _ _ _ hy (br_f (by decide) (br_t rfl (pa_ySector_g _ _ _ hx (br_t rfl (pa_yCell_g _ _ _ hy (br_t rfl (br_t rfl ⟨rfl, T _ _⟩)))))))
    · exact pa_xCell_b _ _ _ hy (br_t rfl (pa_ySector_g _ _ _ hx (br_t rfl (pa_yCell_b _ _ _ hy (br_f (by decide) ⟨rfl, T _ _⟩)))))
  · exact pa_xSector_b _ _ _ hx (br_t rfl (pa_ySector_b _ _ _ hx (br_f (by decide) ⟨rfl, T _ _⟩)))
theorem i_vc_fill {k : Nat} {u : SX} {v : SY} (I : i_Rel k u v) (hk : k + 4 ≤ 4) (v1 : Int32) (v2 : Int32) (v3 : Int32) : wpX_fill (fun r u' => wpY_fill (fun r' v' => r' = r ∧ i_Rel (k + 4) u' v') v v1 v2 v3) u v1 v2 v3 := by
  obtain ⟨hu, hv⟩ := I (by omega)
  have T : ∀ (u' : SX) (v' : SY), i_Rel (k + 4) u' v' := fun _ _ h => absurd h (by omega)
  rw [hu, hv]
  unfold wpX_fill pa_x
  dsimp only
  unfold wpY_fill pa_y
  dsimp only
  by_cases hx : vp_in v1 12
  · exact pa_xSector_g _ _ _ hx (br_f (by decide) (br_t rfl (pa_ySector_g _ _ _ hx (br_t rfl (br_t rfl ⟨rfl, T _ _⟩)))))
  · exact pa_xSector_b _ _ _ hx (br_t rfl (pa_ySector_b _ _ _ hx (br_f (by decide) ⟨rfl, T _ _⟩)))
theorem i_vc_check {k : Nat} {u : SX} {v : SY} (I : i_Rel k u v) (hk : k + 4 ≤ 4) (v1 : Int32) : wpX_check (fun r => wpY_check (fun r' => r' = r ∧ i_Rel (k + 4) u v) v v1) u v1 := by
  obtain ⟨hu, hv⟩ := I (by omega)
  have T : ∀ (u' : SX) (v' : SY), i_Rel (k + 4) u' v' := fun _ _ h => absurd h (by omega)
  rw [hu, hv]
  unfold wpX_check pa_x
  dsimp only
  unfold wpY_check pa_y
  dsimp only
  by_cases hx : vp_in v1 12
  · exact pa_xSector_g _ _ _ hx (br_f (by decide) (br_t rfl (pa_ySector_g _ _ _ hx (br_t rfl (br_t rfl ⟨rfl, T _ _⟩)))))
  · exact pa_xSector_b _ _ _ hx (br_t rfl (pa_ySector_b _ _ _ hx (br_f (by decide) ⟨rfl, T _ _⟩)))
theorem i_vc_digest {k : Nat} {u : SX} {v : SY} (I : i_Rel k u v) (hk : k + 4 ≤ 4) : wpX_digest (fun r u' => wpY_digest (fun r' => r' = r ∧ i_Rel (k + 4) u' v) v) u := by
  obtain ⟨hu, hv⟩ := I (by omega)
  have T : ∀ (u' : SX) (v' : SY), i_Rel (k + 4) u' v' := fun _ _ h => absurd h (by omega)
  rw [hu, hv]
  exact br_t rfl ⟨97, pa_ydi4 _ ⟨rfl, T _ _⟩ 96 0 rfl⟩
theorem i_vc_addKey {k : Nat} {u : SX} {v : SY} (I : i_Rel k u v) (hk : k + 4 ≤ 4) (v1 : Int32) : wpX_addKey (fun r u' => wpY_addKey (fun r' v' => r' = r ∧ i_Rel (k + 4) u' v') v v1) u v1 := by
  obtain ⟨hu, hv⟩ := I (by omega)
  have T : ∀ (u' : SX) (v' : SY), i_Rel (k + 4) u' v' := fun _ _ h => absurd h (by omega)
  rw [hu, hv]
  exact br_t rfl (br_t rfl ⟨rfl, T _ _⟩)
theorem i_vc_removeKey {k : Nat} {u : SX} {v : SY} (I : i_Rel k u v) (hk : k + 4 ≤ 4) (v1 : Int32) : wpX_removeKey (fun r u' => wpY_removeKey (fun r' v' => r' = r ∧ i_Rel (k + 4) u' v') v v1) u v1 := by
  obtain ⟨hu, hv⟩ := I (by omega)
  have T : ∀ (u' : SX) (v' : SY), i_Rel (k + 4) u' v' := fun _ _ h => absurd h (by omega)
  rw [hu, hv]
  unfold wpX_removeKey pa_x
  dsimp only
  unfold wpY_removeKey pa_y
  dsimp only
  by_cases hx : vp_in v1 4
  · exact pa_xSlot_g _ _ _ hx (br_f (by decide) (br_t rfl (pa_ySlot_g _ _ _ hx (br_t rfl (br_t rfl ⟨rfl, T _ _⟩)))))
  · exact pa_xSlot_b _ _ _ hx (br_t rfl (pa_ySlot_b _ _ _ hx (br_f (by decide) ⟨rfl, T _ _⟩)))
theorem i_vc_changeKey {k : Nat} {u : SX} {v : SY} (I : i_Rel k u v) (hk : k + 4 ≤ 4) (v1 : Int32) (v2 : Int32) : wpX_changeKey (fun r u' => wpY_changeKey (fun r' v' => r' = r ∧ i_Rel (k + 4) u' v') v v1 v2) u v1 v2 := by
  obtain ⟨hu, hv⟩ := I (by omega)
  have T : ∀ (u' : SX) (v' : SY), i_Rel (k + 4) u' v' := fun _ _ h => absurd h (by omega)
  rw [hu, hv]
  unfold wpX_changeKey pa_x
  dsimp only
  unfold wpY_changeKey pa_y
  dsimp only
  by_cases hx : vp_in v1 4
  · exact pa_xSlot_g _ _ _ hx (br_f (by decide) (br_t rfl (pa_ySlot_g _ _ _ hx (br_t rfl (br_t rfl ⟨rfl, T _ _⟩)))))
  · exact pa_xSlot_b _ _ _ hx (br_t rfl (pa_ySlot_b _ _ _ hx (br_f (by decide) ⟨rfl, T _ _⟩)))
theorem i_vc_slots {k : Nat} {u : SX} {v : SY} (I : i_Rel k u v) (hk : k + 4 ≤ 4) : wpX_slots (fun r => wpY_slots (fun r' => r' = r ∧ i_Rel (k + 4) u v) v) u := by
  obtain ⟨hu, hv⟩ := I (by omega)
  have T : ∀ (u' : SX) (v' : SY), i_Rel (k + 4) u' v' := fun _ _ h => absurd h (by omega)
  rw [hu, hv]
  unfold wpX_slots pa_x
  dsimp only
  exact ⟨5, pa_ysl4 _ ⟨rfl, T _ _⟩ 4 0 rfl⟩
theorem i_vc_slotOf {k : Nat} {u : SX} {v : SY} (I : i_Rel k u v) (hk : k + 4 ≤ 4) (v1 : Int32) : wpX_slotOf (fun r u' => wpY_slotOf (fun r' => r' = r ∧ i_Rel (k + 4) u' v) v v1) u v1 := by
  obtain ⟨hu, hv⟩ := I (by omega)
  have T : ∀ (u' : SX) (v' : SY), i_Rel (k + 4) u' v' := fun _ _ h => absurd h (by omega)
  rw [hu, hv]
  exact br_t rfl (br_t rfl ⟨rfl, T _ _⟩)
theorem i_vc_renew {k : Nat} {u : SX} {v : SY} (I : i_Rel k u v) (hk : k + 4 ≤ 4) (v1 : Int32) : wpX_renew (fun r u' => wpY_renew (fun r' v' => r' = r ∧ i_Rel (k + 4) u' v') v v1) u v1 := by
  obtain ⟨hu, hv⟩ := I (by omega)
  have T : ∀ (u' : SX) (v' : SY), i_Rel (k + 4) u' v' := fun _ _ h => absurd h (by omega)
  rw [hu, hv]
  exact br_t rfl (br_t rfl ⟨rfl, T _ _⟩)
theorem i_vc_toRenew {k : Nat} {u : SX} {v : SY} (I : i_Rel k u v) (hk : k + 4 ≤ 4) : wpX_toRenew (fun r => wpY_toRenew (fun r' => r' = r ∧ i_Rel (k + 4) u v) v) u := by
  obtain ⟨hu, hv⟩ := I (by omega)
  have T : ∀ (u' : SX) (v' : SY), i_Rel (k + 4) u' v' := fun _ _ h => absurd h (by omega)
  rw [hu, hv]
  unfold wpX_toRenew pa_x
  dsimp only
  exact sv_cr _ 12 (by decide) 0 0 0 0 0 0 0 0 (fun _ => 0) (fun _ => 0) (fun _ => 0) (fun _ => 0) (fun _ => 0) (fun _ => 0) (fun _ => 0) (fun _ => 0) (fun _ => 0) (fun _ _ => rfl) (fun i h1 h2 => absurd h2 (by omega)) ⟨rfl, T _ _⟩
theorem i_vc_saveSlots {k : Nat} {u : SX} {v : SY} (I : i_Rel k u v) (hk : k + 4 ≤ 4) : wpX_saveSlots (fun r u' => wpY_saveSlots (fun r' v' => r' = r ∧ i_Rel (k + 4) u' v') v) u := by
  obtain ⟨hu, hv⟩ := I (by omega)
  have T : ∀ (u' : SX) (v' : SY), i_Rel (k + 4) u' v' := fun _ _ h => absurd h (by omega)
  rw [hu, hv]
  exact br_t rfl (br_t rfl ⟨rfl, T _ _⟩)
theorem i_vc_restoreSlots {k : Nat} {u : SX} {v : SY} (I : i_Rel k u v) (hk : k + 4 ≤ 4) : wpX_restoreSlots (fun r u' => wpY_restoreSlots (fun r' v' => r' = r ∧ i_Rel (k + 4) u' v') v) u := by
  obtain ⟨hu, hv⟩ := I (by omega)
  have T : ∀ (u' : SX) (v' : SY), i_Rel (k + 4) u' v' := fun _ _ h => absurd h (by omega)
  rw [hu, hv]
  exact br_t rfl (br_t rfl ⟨rfl, T _ _⟩)
theorem i_vc_damage {k : Nat} {u : SX} {v : SY} (I : i_Rel k u v) (hk : k + 4 ≤ 4) (v1 : Int32) (v2 : Int32) : wpX_damage (fun r u' => wpY_damage (fun r' v' => r' = r ∧ i_Rel (k + 4) u' v') v v1 v2) u v1 v2 := by
  obtain ⟨hu, hv⟩ := I (by omega)
  have T : ∀ (u' : SX) (v' : SY), i_Rel (k + 4) u' v' := fun _ _ h => absurd h (by omega)
  rw [hu, hv]
  unfold wpX_damage pa_x
  dsimp only
  unfold wpY_damage pa_y
  dsimp only
  by_cases hx : vp_in v1 12
  · exact pa_xSector_g _ _ _ hx (br_f (by decide) (br_t rfl (pa_ySector_g _ _ _ hx (br_t rfl (br_t rfl ⟨rfl, T _ _⟩)))))
  · exact pa_xSector_b _ _ _ hx (br_t rfl (pa_ySector_b _ _ _ hx (br_f (by decide) ⟨rfl, T _ _⟩)))
theorem i_vc_crash {k : Nat} {u : SX} {v : SY} (I : i_Rel k u v) (hk : k + 4 ≤ 4) (v1 : Int32) : wpX_crash (fun r u' => wpY_crash (fun r' v' => r' = r ∧ i_Rel (k + 4) u' v') v v1) u v1 := by
  obtain ⟨hu, hv⟩ := I (by omega)
  have T : ∀ (u' : SX) (v' : SY), i_Rel (k + 4) u' v' := fun _ _ h => absurd h (by omega)
  rw [hu, hv]
  exact br_t rfl (br_t rfl ⟨rfl, T _ _⟩)
theorem i_vc_faults {k : Nat} {u : SX} {v : SY} (I : i_Rel k u v) (hk : k + 4 ≤ 4) : wpX_faults (fun r => wpY_faults (fun r' => r' = r ∧ i_Rel (k + 4) u v) v) u := by
  obtain ⟨hu, hv⟩ := I (by omega)
  have T : ∀ (u' : SX) (v' : SY), i_Rel (k + 4) u' v' := fun _ _ h => absurd h (by omega)
  rw [hu, hv]
  exact br_t rfl ⟨rfl, T _ _⟩
end
