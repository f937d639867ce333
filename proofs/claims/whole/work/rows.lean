section
theorem pk_us {f : Nat → Int32} {k : Nat} {x : Int32} : upd f k x k = x := if_pos rfl
theorem pk_un {f : Nat → Int32} {k j : Nat} {x : Int32} (h : j ≠ k) : upd f k x j = f j := if_neg h
theorem pk_sub {a b : Nat} (h : b ≤ a) : nI a - nI b = nI (a - b) := by
  obtain ⟨c, rfl⟩ : ∃ c, a = c + b := ⟨a - b, by omega⟩
  rw [← nI_add, Int32.add_sub_cancel, Nat.add_sub_cancel]
theorem pk_mul (a b : Nat) : nI a * nI b = nI (a * b) := (Int32.ofNat_mul a b).symm
theorem pk_div {a d : Nat} (ha : a < 2 ^ 31) (h0 : 0 < d) (hd : d < 2 ^ 31) : nI a / nI d = nI (a / d) := by
  apply Int32.toInt_inj.mp
  rw [lg_idiv_nonneg (by rw [nI_toInt ha]; omega) (by rw [nI_toInt hd]; omega), nI_toInt ha, nI_toInt hd, nI_toInt (Nat.lt_of_le_of_lt (Nat.div_le_self a d) ha)]
  first | rfl | exact (Int.natCast_ediv _ _).symm
theorem pk_rem {a d : Nat} (ha : a < 2 ^ 31) (h0 : 0 < d) (hd : d < 2 ^ 31) : nI a - nI a / nI d * nI d = nI (a % d) := by
  rw [pk_div ha h0 hd, pk_mul, pk_sub (Nat.div_mul_le_self a d)]
  exact congrArg nI (by have := Nat.div_add_mod' a d; omega)
theorem pk_ix (x : Int32) {n : Nat} (hn : n < 2 ^ 31) : x < 0 ∨ nI n ≤ x ∨ ∃ j : Nat, j < n ∧ x = nI j := by
  by_cases h : x < 0
  · exact Or.inl h
  · obtain ⟨j, hj, rfl⟩ := nI_of h
    by_cases h2 : j < n
    · exact Or.inr (Or.inr ⟨j, h2, rfl⟩)
    · exact Or.inr (Or.inl (nI_le (by omega) hj))
theorem pk_le {x y : Int32} {A B : Prop} (a b : Nat) (f : a ≤ b → A) (g : b < a → B) (hx : x = nI a := by rfl) (hy : y = nI b := by rfl) (ha : a < 2 ^ 31 := by omega) (hb : b < 2 ^ 31 := by omega) : (x ≤ y → A) ∧ (¬ x ≤ y → B) := by
  subst hx hy
  rw [nI_leI ha hb]
  exact ⟨f, fun z => g (by omega)⟩
theorem pk_lt {x y : Int32} {A B : Prop} (a b : Nat) (f : a < b → A) (g : b ≤ a → B) (hx : x = nI a := by rfl) (hy : y = nI b := by rfl) (ha : a < 2 ^ 31 := by omega) (hb : b < 2 ^ 31 := by omega) : (x < y → A) ∧ (¬ x < y → B) := by
  subst hx hy
  rw [nI_ltI ha hb]
  exact ⟨f, fun z => g (by omega)⟩
theorem pk_eq {x y : Int32} {A B : Prop} (a b : Nat) (f : a = b → A) (g : a ≠ b → B) (hx : x = nI a := by rfl) (hy : y = nI b := by rfl) (ha : a < 2 ^ 31 := by omega) (hb : b < 2 ^ 31 := by omega) : (x = y → A) ∧ (¬ x = y → B) := by
  subst hx hy
  rw [nI_eq ha hb]
  exact ⟨f, g⟩
theorem pk_in {x : Int32} (n N : Nat) (h : n < N) (hx : x = nI n := by rfl) (hN : N < 2 ^ 31 := by omega) : vp_in x N := by
  subst hx
  exact vp_in_nI h hN
theorem pk_cl {x : Int32} (n : Nat) (hx : x = nI n := by rfl) (h : n < 2 ^ 31 := by omega) : x.toNatClampNeg = n := by
  subst hx
  exact nI_clamp h
theorem pk_tn {n : Nat} (h : n < 2 ^ 32) : (nI n).toBitVec.toNat = n := Nat.mod_eq_of_lt h
theorem pk_and (x : Int32) {m : Int32} (k : Nat) (hm : m.toBitVec.toNat = 2 ^ k - 1) : x &&& m = nI (x.toBitVec.toNat % 2 ^ k) := by
  apply Int32.toBitVec_inj.mp
  apply BitVec.eq_of_toNat_eq
  rw [Int32.toBitVec_and, BitVec.toNat_and, hm, Nat.and_two_pow_sub_one_eq_mod]
  show _ = (BitVec.ofNat 32 _).toNat
  rw [BitVec.toNat_ofNat]
  exact (Nat.mod_eq_of_lt (Nat.lt_of_le_of_lt (Nat.mod_le _ _) x.toBitVec.isLt)).symm
theorem pk_andN {n : Nat} (h : n < 2 ^ 32) {m : Int32} (k : Nat) (hm : m.toBitVec.toNat = 2 ^ k - 1) : nI n &&& m = nI (n % 2 ^ k) := by
  rw [pk_and _ k hm, pk_tn h]
theorem pk_andE (x : Int32) {m : Int32} (k : Nat) (hm : m.toBitVec.toNat = 2 ^ k - 1) : ∃ j : Nat, j < 2 ^ k ∧ x &&& m = nI j := ⟨_, Nat.mod_lt _ (Nat.two_pow_pos k), pk_and x k hm⟩
end
section
theorem sv_i8 {j : Nat} (h : j < 8) : vp_in (nI j) 8 := vp_in_nI h (by decide)
theorem sv_i9 {j : Nat} (h : j < 9) : vp_in (nI j) 9 := vp_in_nI h (by decide)
theorem sv_i12 {j : Nat} (h : j < 12) : vp_in (nI j) 12 := vp_in_nI h (by decide)
theorem sv_i16 {j : Nat} (h : j < 16) : vp_in (nI j) 16 := vp_in_nI h (by decide)
theorem sv_i64 {j : Nat} (h : j < 64) : vp_in (nI j) 64 := vp_in_nI h (by decide)
theorem sv_i216 {j : Nat} (h : j < 216) : vp_in (nI j) 216 := vp_in_nI h (by decide)
theorem sv_ia (a j N : Nat) (h : a + j < N) (hN : N < 2 ^ 31) : vp_in (nI a + nI j) N := by
  rw [nI_add]; exact vp_in_nI h hN
theorem sv_ge (b : Nat) {j : Nat} (h : b ≤ j) (hj : j < 2 ^ 31) : nI b ≤ nI j := nI_le h hj
theorem sv_ng (b : Nat) {j : Nat} (h : j < b) (hb : b < 2 ^ 31) : ¬ nI b ≤ nI j := nI_ge h hb
theorem sv_x4 {j : Nat} (h : j < 4) : vp_in (4 + ((nI j + 1) &&& 3)) 16 ∧ vp_in (8 + ((nI j + 2) &&& 3)) 16 ∧ vp_in (12 + ((nI j + 3) &&& 3)) 16 := by
  have h4 : j = 0 ∨ j = 1 ∨ j = 2 ∨ j = 3 := by omega
  rcases h4 with rfl | rfl | rfl | rfl <;>
    exact ⟨vp_in_iff.mpr (by decide +kernel), vp_in_iff.mpr (by decide +kernel), vp_in_iff.mpr (by decide +kernel)⟩
theorem sv_quarter (post : SX → Prop) (fa fb fc fd fe ff fg fh : Int32) (aK aE aV aS aC aY aD aT aW : Nat → Int32) (p0 p1 p2 p3 : Int32) (h0 : vp_in p0 16) (h1 : vp_in p1 16) (h2 : vp_in p2 16) (h3 : vp_in p3 16)
    (hp : ∀ aT' : Nat → Int32, post (fa, fb, fc, fd, fe, ff, fg, fh, aK, aE, aV, aS, aC, aY, aD, aT', aW)) : wpX_quarterRound post (fa, fb, fc, fd, fe, ff, fg, fh, aK, aE, aV, aS, aC, aY, aD, aT, aW) p0 p1 p2 p3 :=
  ⟨h0, fun _ _ => ⟨h1, fun _ _ => ⟨h2, fun _ _ => ⟨h3, fun _ _ => fun _ _ => fun _ _ => fun _ _ => fun _ _ => fun _ _ => fun _ _ => fun _ _ => fun _ _ => fun _ _ => fun _ _ => fun _ _ => fun _ _ =>
    ⟨h0, fun _ _ => ⟨h1, fun _ _ => ⟨h2, fun _ _ => ⟨h3, fun _ _ => hp _⟩⟩⟩⟩⟩⟩⟩⟩
theorem sv_scr144 (post : SX → Prop) (fa fb fc fd fe ff fg fh : Int32) (aK aE aV aS aC aY aW : Nat → Int32) (hp : ∀ aD' aT' : Nat → Int32, post (fa, fb, fc, fd, fe, ff, fg, fh, aK, aE, aV, aS, aC, aY, aD', aT', aW)) :
    ∀ (d j : Nat) (aD aT : Nat → Int32), j + d = 16 → wX_scramble_144 post fa fb fc fd fe ff fg fh (d + 1) (nI j) aK aE aV aS aC aY aD aT aW := by
  intro d
  induction d with
  | zero => intro j aD aT hj; exact br_t (sv_ge 16 (by omega) (by omega)) (hp _ _)
  | succ d ih =>
    intro j aD aT hj
    have hi : vp_in (nI j) 16 := sv_i16 (by omega)
    exact br_f (sv_ng 16 (by omega) (by decide)) ⟨hi, hi, hi, fun _ _ => ⟨hi, fun _ _ => nm_r (nI_1 j) (ih (j + 1) _ _ (by omega))⟩⟩
theorem sv_scr97 (post : SX → Prop) (J : Int32 → Int32 → Int32 → Int32 → Int32 → Int32 → Int32 → Int32 → Int32 → (Nat → Int32) → (Nat → Int32) → (Nat → Int32) → (Nat → Int32) → (Nat → Int32) → (Nat → Int32) → (Nat → Int32) → (Nat → Int32) → (Nat → Int32) → Prop) (x1 : Int32) (fa fb fc fd fe ff fg fh : Int32) (aK aE aV aS aC aY aD aW : Nat → Int32)
    (hJ : ∀ aT' : Nat → Int32, ∀ y : Int32, y = x1 + 1 → J y fa fb fc fd fe ff fg fh aK aE aV aS aC aY aD aT' aW) :
    ∀ (d j : Nat) (aT : Nat → Int32), j + d = 4 → wX_scramble_97 post J x1 (d + 1) (nI j) fa fb fc fd fe ff fg fh aK aE aV aS aC aY aD aT aW := by
  intro d
  induction d with
  | zero => intro j aT hj; exact br_t (sv_ge 4 (by omega) (by omega)) (hJ _)
  | succ d ih =>
    intro j aT hj
    obtain ⟨h1, h2, h3⟩ := sv_x4 (j := j) (by omega)
    exact br_f (sv_ng 4 (by omega) (by decide)) (sv_quarter _ fa fb fc fd fe ff fg fh aK aE aV aS aC aY aD aT aW _ _ _ _ (sv_i16 (by omega)) h1 h2 h3 (fun aT' => nm_r (nI_1 j) (ih (j + 1) aT' (by omega))))
theorem sv_scr68 (post : SX → Prop) (J : Int32 → Int32 → Int32 → Int32 → Int32 → Int32 → Int32 → Int32 → Int32 → (Nat → Int32) → (Nat → Int32) → (Nat → Int32) → (Nat → Int32) → (Nat → Int32) → (Nat → Int32) → (Nat → Int32) → (Nat → Int32) → (Nat → Int32) → Prop) (x1 : Int32) (fa fb fc fd fe ff fg fh : Int32) (aK aE aV aS aC aY aD aW : Nat → Int32)
    (hJ : ∀ aT' : Nat → Int32, ∀ y : Int32, y = x1 + 1 → J y fa fb fc fd fe ff fg fh aK aE aV aS aC aY aD aT' aW) :
    ∀ (d j : Nat) (aT : Nat → Int32), j + d = 4 → wX_scramble_68 post J x1 (d + 1) (nI j) fa fb fc fd fe ff fg fh aK aE aV aS aC aY aD aT aW := by
  intro d
  induction d with
  | zero => intro j aT hj; exact br_t (sv_ge 4 (by omega) (by omega)) ⟨5, sv_scr97 post J x1 fa fb fc fd fe ff fg fh aK aE aV aS aC aY aD aW hJ 4 0 aT rfl⟩
  | succ d ih =>
    intro j aT hj
    exact br_f (sv_ng 4 (by omega) (by decide)) (sv_quarter _ fa fb fc fd fe ff fg fh aK aE aV aS aC aY aD aT aW _ _ _ _ (sv_i16 (by omega)) (sv_ia 4 j 16 (by omega) (by decide)) (sv_ia 8 j 16 (by omega) (by decide)) (sv_ia 12 j 16 (by omega) (by decide)) (fun aT' => nm_r (nI_1 j) (ih (j + 1) aT' (by omega))))
theorem sv_scr60 (post : SX → Prop) (fa fb fc fd fe ff fg fh : Int32) (aK aE aV aS aC aY aD aW : Nat → Int32) (hp : ∀ aD' aT' : Nat → Int32, post (fa, fb, fc, fd, fe, ff, fg, fh, aK, aE, aV, aS, aC, aY, aD', aT', aW)) :
    ∀ (d j : Nat) (aT : Nat → Int32), j + d = 10 → wX_scramble_60 post (d + 1) (nI j) fa fb fc fd fe ff fg fh aK aE aV aS aC aY aD aT aW := by
  intro d
  induction d with
  | zero => intro j aT hj; exact br_t (sv_ge 10 (by omega) (by omega)) ⟨17, sv_scr144 post fa fb fc fd fe ff fg fh aK aE aV aS aC aY aW hp 16 0 aD aT rfl⟩
  | succ d ih =>
    intro j aT hj
    exact br_f (sv_ng 10 (by omega) (by decide)) ⟨5, sv_scr68 post (wX_scramble_60 post (d + 1)) (nI j) fa fb fc fd fe ff fg fh aK aE aV aS aC aY aD aW (fun aT' => nm_r (nI_1 j) (ih (j + 1) aT' (by omega))) 4 0 aT rfl⟩
theorem sv_scr34 (post : SX → Prop) (fa fb fc fd fe ff fg fh : Int32) (aK aE aV aS aC aY aD aW : Nat → Int32) (hp : ∀ aD' aT' : Nat → Int32, post (fa, fb, fc, fd, fe, ff, fg, fh, aK, aE, aV, aS, aC, aY, aD', aT', aW)) :
    ∀ (d j : Nat) (aT : Nat → Int32), j + d = 16 → wX_scramble_34 post fa fb fc fd fe ff fg fh (d + 1) (nI j) aK aE aV aS aC aY aD aT aW := by
  intro d
  induction d with
  | zero => intro j aT hj; exact br_t (sv_ge 16 (by omega) (by omega)) ⟨11, sv_scr60 post fa fb fc fd fe ff fg fh aK aE aV aS aC aY aD aW hp 10 0 aT rfl⟩
  | succ d ih =>
    intro j aT hj
    have hi : vp_in (nI j) 16 := sv_i16 (by omega)
    exact br_f (sv_ng 16 (by omega) (by decide)) ⟨hi, hi, fun _ _ => nm_r (nI_1 j) (ih (j + 1) _ (by omega))⟩
theorem sv_scramble (post : SX → Prop) (fa fb fc fd fe ff fg fh : Int32) (aK aE aV aS aC aY aD aT aW : Nat → Int32) (hp : ∀ aD' aT' : Nat → Int32, post (fa, fb, fc, fd, fe, ff, fg, fh, aK, aE, aV, aS, aC, aY, aD', aT', aW)) : wpX_scramble post (fa, fb, fc, fd, fe, ff, fg, fh, aK, aE, aV, aS, aC, aY, aD, aT, aW) :=
  fun _ _ => fun _ _ => fun _ _ => fun aD' _ => ⟨17, sv_scr34 post fa fb fc fd fe ff fg fh aK aE aV aS aC aY aD' aW hp 16 0 aT rfl⟩
theorem sv_stream (post : SX → Prop) (fa fb fc fd fe ff fg fh : Int32) (aK aE aV aS aC aY aD aT aW : Nat → Int32) (p0 p1 p2 : Int32) (hp : ∀ aD' aT' : Nat → Int32, post (fa, fb, fc, fd, fe, ff, fg, fh, aK, aE, aV, aS, aC, aY, aD', aT', aW)) : wpX_streamFromPassphrase post (fa, fb, fc, fd, fe, ff, fg, fh, aK, aE, aV, aS, aC, aY, aD, aT, aW) p0 p1 p2 :=
  fun _ _ => fun _ _ => fun aD' _ => sv_scramble _ fa fb fc fd fe ff fg fh aK aE aV aS aC aY aD' aT aW hp
end
section
theorem sv_mk12 (post : SX → Prop) (fa fb fc fd fe ff fg fh : Int32) (aK aE aV aS aC aD aT aW : Nat → Int32) (hp : ∀ aY' : Nat → Int32, post (fa, fb, fc, fd, fe, ff, fg, fh, aK, aE, aV, aS, aC, aY', aD, aT, aW)) :
    ∀ (d j : Nat) (aY : Nat → Int32), j + d = 8 → wX_makeKey_12 post fa fb fc fd fe ff fg fh (d + 1) (nI j) aK aE aV aS aC aY aD aT aW := by
  intro d
  induction d with
  | zero => intro j aY hj; exact br_t (sv_ge 8 (by omega) (by omega)) (hp _)
  | succ d ih =>
    intro j aY hj
    exact br_f (sv_ng 8 (by omega) (by decide)) ⟨sv_i16 (by omega), sv_i8 (by omega), fun _ _ => nm_r (nI_1 j) (ih (j + 1) _ (by omega))⟩
theorem sv_makeKey (post : SX → Prop) (fa fb fc fd fe ff fg fh : Int32) (aK aE aV aS aC aY aD aT aW : Nat → Int32) (p0 : Int32) (hp : ∀ aY' aD' aT' : Nat → Int32, post (fa, fb, fc, fd, fe, ff, fg, fh, aK, aE, aV, aS, aC, aY', aD', aT', aW)) : wpX_makeKey post (fa, fb, fc, fd, fe, ff, fg, fh, aK, aE, aV, aS, aC, aY, aD, aT, aW) p0 := by
  unfold wpX_makeKey
  exact sv_stream _ fa fb fc fd fe ff fg fh aK aE aV aS aC aY aD aT aW _ _ _ (fun aD' aT' => ⟨9, sv_mk12 post fa fb fc fd fe ff fg fh aK aE aV aS aC aD' aT' aW (fun aY' => hp aY' aD' aT') 8 0 aY rfl⟩)
theorem sv_sfk2 (post : SX → Prop) (i : Nat) (hi : i < 12) (x2 : Int32) (fa fb fc fd fe ff fg fh : Int32) (aK aE aV aS aC aY aT aW : Nat → Int32) (hp : ∀ aD' : Nat → Int32, post (fa, fb, fc, fd, fe, ff, fg, fh, aK, aE, aV, aS, aC, aY, aD', aT, aW)) :
    ∀ (d j : Nat) (aD : Nat → Int32), j + d = 8 → wX_seedFromKey_2 post (nI i) x2 fa fb fc fd fe ff fg fh (d + 1) (nI j) aK aE aV aS aC aY aD aT aW := by
  intro d
  induction d with
  | zero => intro j aD hj; exact br_t (sv_ge 8 (by omega) (by omega)) (fun _ _ => fun _ _ => ⟨sv_i12 hi, fun _ _ => hp _⟩)
  | succ d ih =>
    intro j aD hj
    exact br_f (sv_ng 8 (by omega) (by decide)) ⟨sv_i8 (by omega), sv_ia 4 j 16 (by omega) (by decide), fun _ _ => nm_r (nI_1 j) (ih (j + 1) _ (by omega))⟩
theorem sv_seedFromKey (post : SX → Prop) (i : Nat) (hi : i < 12) (x2 : Int32) (fa fb fc fd fe ff fg fh : Int32) (aK aE aV aS aC aY aD aT aW : Nat → Int32) (hp : ∀ aD' : Nat → Int32, post (fa, fb, fc, fd, fe, ff, fg, fh, aK, aE, aV, aS, aC, aY, aD', aT, aW)) : wpX_seedFromKey post (fa, fb, fc, fd, fe, ff, fg, fh, aK, aE, aV, aS, aC, aY, aD, aT, aW) (nI i) x2 :=
  ⟨9, sv_sfk2 post i hi x2 fa fb fc fd fe ff fg fh aK aE aV aS aC aY aT aW hp 8 0 aD rfl⟩
theorem sv_sumW6 (post : Int32 → Prop) (fa fb fc fd fe ff fg fh : Int32) (aK aE aV aS aC aY aD aT aW : Nat → Int32) (hp : ∀ r : Int32, post r) :
    ∀ (d j : Nat) (x3 : Int32), j + d = 8 → wX_sumOf__work_6 post 0 fa fb fc fd fe ff fg fh aK aE aV aS aC aY aD aT aW (d + 1) x3 (nI j) := by
  intro d
  induction d with
  | zero => intro j x3 hj; exact br_t (sv_ge 8 (by omega) (by omega)) (hp _)
  | succ d ih =>
    intro j x3 hj
    exact br_f (sv_ng 8 (by omega) (by decide)) ⟨sv_ia 0 j 9 (by omega) (by decide), fun _ _ => nm_r (nI_1 j) (ih (j + 1) _ (by omega))⟩
theorem sv_sumW (post : Int32 → Prop) (fa fb fc fd fe ff fg fh : Int32) (aK aE aV aS aC aY aD aT aW : Nat → Int32) (hp : ∀ r : Int32, post r) : wpX_sumOf__work post (fa, fb, fc, fd, fe, ff, fg, fh, aK, aE, aV, aS, aC, aY, aD, aT, aW) 0 :=
  ⟨9, sv_sumW6 post fa fb fc fd fe ff fg fh aK aE aV aS aC aY aD aT aW hp 8 0 _ rfl⟩
theorem sv_sumK6 (post : Int32 → Prop) (w : Nat) (hw : w + 9 ≤ 216) (fa fb fc fd fe ff fg fh : Int32) (aK aE aV aS aC aY aD aT aW : Nat → Int32) (hp : ∀ r : Int32, post r) :
    ∀ (d j : Nat) (x3 : Int32), j + d = 8 → wX_sumOf__kept_6 post (nI w) fa fb fc fd fe ff fg fh aK aE aV aS aC aY aD aT aW (d + 1) x3 (nI j) := by
  intro d
  induction d with
  | zero => intro j x3 hj; exact br_t (sv_ge 8 (by omega) (by omega)) (hp _)
  | succ d ih =>
    intro j x3 hj
    exact br_f (sv_ng 8 (by omega) (by decide)) ⟨sv_ia w j 216 (by omega) (by decide), fun _ _ => nm_r (nI_1 j) (ih (j + 1) _ (by omega))⟩
theorem sv_sumK (post : Int32 → Prop) (w : Nat) (hw : w + 9 ≤ 216) (fa fb fc fd fe ff fg fh : Int32) (aK aE aV aS aC aY aD aT aW : Nat → Int32) (hp : ∀ r : Int32, post r) : wpX_sumOf__kept post (fa, fb, fc, fd, fe, ff, fg, fh, aK, aE, aV, aS, aC, aY, aD, aT, aW) (nI w) :=
  ⟨9, sv_sumK6 post w hw fa fb fc fd fe ff fg fh aK aE aV aS aC aY aD aT aW hp 8 0 _ rfl⟩
theorem sv_seal12 (post : SX → Prop) (fa fb fc fd fe ff fg fh : Int32) (aK aE aV aS aC aY aD aT : Nat → Int32) (hp : ∀ aW' : Nat → Int32, post (fa, fb, fc, fd, fe, ff, fg, fh, aK, aE, aV, aS, aC, aY, aD, aT, aW')) :
    ∀ (d j : Nat) (aW : Nat → Int32), j + d = 8 → wX_sealWork_12 post fa fb fc fd fe ff fg fh (d + 1) (nI j) aK aE aV aS aC aY aD aT aW := by
  intro d
  induction d with
  | zero => intro j aW hj; exact br_t (sv_ge 8 (by omega) (by omega)) (sv_sumW _ fa fb fc fd fe ff fg fh aK aE aV aS aC aY aD aT aW (fun _ => fun _ _ => hp _))
  | succ d ih =>
    intro j aW hj
    exact br_f (sv_ng 8 (by omega) (by decide)) ⟨sv_i9 (by omega), sv_i16 (by omega), sv_i9 (by omega), fun _ _ => nm_r (nI_1 j) (ih (j + 1) _ (by omega))⟩
theorem sv_sealWork (post : SX → Prop) (i : Nat) (hi : i < 12) (x2 : Int32) (fa fb fc fd fe ff fg fh : Int32) (aK aE aV aS aC aY aD aT aW : Nat → Int32) (hp : ∀ aD' aT' aW' : Nat → Int32, post (fa, fb, fc, fd, fe, ff, fg, fh, aK, aE, aV, aS, aC, aY, aD', aT', aW')) : wpX_sealWork post (fa, fb, fc, fd, fe, ff, fg, fh, aK, aE, aV, aS, aC, aY, aD, aT, aW) (nI i) x2 :=
  sv_seedFromKey _ i hi x2 fa fb fc fd fe ff fg fh aK aE aV aS aC aY aD aT aW (fun aD1 => sv_scramble _ fa fb fc fd fe ff fg fh aK aE aV aS aC aY aD1 aT aW (fun aD' aT' =>
    ⟨9, sv_seal12 post fa fb fc fd fe ff fg fh aK aE aV aS aC aY aD' aT' (fun aW' => hp aD' aT' aW') 8 0 aW rfl⟩))
theorem sv_row (i : Nat) (hi : i < 12) (e : Int32) : ∃ w : Nat, w + 9 ≤ 216 ∧ (2 * nI i + (e &&& 1)) * 9 = nI w := by
  obtain ⟨j, hj, ej⟩ := pk_andE e (m := 1) 1 (by decide)
  refine ⟨(2 * i + j) * 9, by omega, ?_⟩
  rw [ej]
  show (nI 2 * nI i + nI j) * nI 9 = _
  rw [pk_mul, nI_add, pk_mul]
theorem sv_rowOf (post : Int32 → Prop) (i : Nat) (hi : i < 12) (e : Int32) (fa fb fc fd fe ff fg fh : Int32) (aK aE aV aS aC aY aD aT aW : Nat → Int32) (hp : ∀ w : Nat, w + 9 ≤ 216 → post (nI w)) : wpX_rowOf post (fa, fb, fc, fd, fe, ff, fg, fh, aK, aE, aV, aS, aC, aY, aD, aT, aW) (nI i) e := by
  obtain ⟨w, hw, ew⟩ := sv_row i hi e
  show post ((2 * nI i + (e &&& 1)) * 9)
  rw [ew]
  exact hp w hw
theorem sv_kw2 (post : SX → Prop) (w : Nat) (hw : w + 9 ≤ 216) (x2 : Int32) (fa fb fc fd fe ff fg fh : Int32) (aE aV aS aC aY aD aT aW : Nat → Int32) (hp : ∀ aK' : Nat → Int32, post (fa, fb, fc, fd, fe, ff, fg, fh, aK', aE, aV, aS, aC, aY, aD, aT, aW)) :
    ∀ (d j : Nat) (aK : Nat → Int32), j + d = 9 → wX_keepWork_2 post (nI w) x2 fa fb fc fd fe ff fg fh (d + 1) (nI j) aK aE aV aS aC aY aD aT aW := by
  intro d
  induction d with
  | zero => intro j aK hj; exact br_t (sv_ge 9 (by omega) (by omega)) (hp _)
  | succ d ih =>
    intro j aK hj
    exact br_f (sv_ng 9 (by omega) (by decide)) (br_c (fun _ => hp _) (fun _ => ⟨sv_i9 (by omega), sv_ia w j 216 (by omega) (by decide), fun _ _ => nm_r (nI_1 j) (ih (j + 1) _ (by omega))⟩))
theorem sv_keepWork (post : SX → Prop) (w : Nat) (hw : w + 9 ≤ 216) (x2 : Int32) (fa fb fc fd fe ff fg fh : Int32) (aK aE aV aS aC aY aD aT aW : Nat → Int32) (hp : ∀ aK' : Nat → Int32, post (fa, fb, fc, fd, fe, ff, fg, fh, aK', aE, aV, aS, aC, aY, aD, aT, aW)) : wpX_keepWork post (fa, fb, fc, fd, fe, ff, fg, fh, aK, aE, aV, aS, aC, aY, aD, aT, aW) (nI w) x2 :=
  ⟨10, sv_kw2 post w hw x2 fa fb fc fd fe ff fg fh aE aV aS aC aY aD aT aW hp 9 0 aK rfl⟩
theorem sv_er44 (post : SX → Prop) (J : Int32 → Int32 → Int32 → Int32 → Int32 → Int32 → Int32 → Int32 → Int32 → (Nat → Int32) → (Nat → Int32) → (Nat → Int32) → (Nat → Int32) → (Nat → Int32) → (Nat → Int32) → (Nat → Int32) → (Nat → Int32) → (Nat → Int32) → Prop) (i : Nat) (hi : i < 12) (fa fb fc fd fe ff fg fh : Int32) (aK aE aV aS aC aY aD aT : Nat → Int32)
    (hJ : ∀ aK' aD' aT' aW' : Nat → Int32, ∀ y : Int32, y = nI i + 1 → J y fa fb fc fd fe ff fg fh aK' aE aV aS aC aY aD' aT' aW') :
    ∀ (d j : Nat) (aW : Nat → Int32), j + d = 8 → wX_eraseSectors_44 post J (nI i) fa fb fc fd fe ff fg fh (d + 1) (nI j) aK aE aV aS aC aY aD aT aW := by
  intro d
  induction d with
  | zero =>
    intro j aW hj
    exact br_t (sv_ge 8 (by omega) (by omega)) (sv_sealWork _ i hi 0 fa fb fc fd fe ff fg fh aK aE aV aS aC aY aD aT aW (fun aD' aT' aW' =>
      sv_rowOf _ i hi 0 fa fb fc fd fe ff fg fh aK aE aV aS aC aY aD' aT' aW' (fun w hw => sv_keepWork _ w hw 9 fa fb fc fd fe ff fg fh aK aE aV aS aC aY aD' aT' aW' (fun aK' => hJ aK' aD' aT' aW'))))
  | succ d ih =>
    intro j aW hj
    exact br_f (sv_ng 8 (by omega) (by decide)) ⟨sv_i9 (by omega), fun _ _ => nm_r (nI_1 j) (ih (j + 1) _ (by omega))⟩
theorem sv_er29 (post : SX → Prop) (fa fb fc fd fe ff fg fh : Int32) (aV aS aC aY : Nat → Int32) (hp : ∀ aK' aE' aD' aT' aW' : Nat → Int32, (∀ i, i < 12 → aE' i = 0) → post (fa, fb, fc, fd, fe, ff, fg, fh, aK', aE', aV, aS, aC, aY, aD', aT', aW')) :
    ∀ (d j : Nat) (aK aE aD aT aW : Nat → Int32), j + d = 12 → (∀ i, i < j → aE i = 0) → wX_eraseSectors_29 post (d + 1) (nI j) fa fb fc fd fe ff fg fh aK aE aV aS aC aY aD aT aW := by
  intro d
  induction d with
  | zero => intro j aK aE aD aT aW hj hE; exact br_t (sv_ge 12 (by omega) (by omega)) (hp _ _ _ _ _ (fun i hi => hE i (by omega)))
  | succ d ih =>
    intro j aK aE aD aT aW hj hE
    refine br_f (sv_ng 12 (by omega) (by decide)) ⟨sv_i12 (by omega), fun aE' hE' => ⟨9, sv_er44 post (wX_eraseSectors_29 post (d + 1)) j (by omega) fa fb fc fd fe ff fg fh aK aE' aV aS aC aY aD aT (fun aK' aD' aT' aW' => nm_r (nI_1 j) (ih (j + 1) aK' aE' aD' aT' aW' (by omega) ?_)) 8 0 aW rfl⟩⟩
    intro i hi
    rw [hE', nI_clamp (by omega)]
    by_cases hij : i = j
    · rw [hij]; exact pk_us
    · rw [pk_un hij]; exact hE i (by omega)
theorem sv_er7 (post : SX → Prop) (fa fb fc fd fe ff fg fh : Int32) (aE aV aS aC aY aD aT aW : Nat → Int32) (hp : ∀ aK' aE' aD' aT' aW' : Nat → Int32, (∀ i, i < 12 → aE' i = 0) → post (fa, fb, fc, fd, fe, ff, fg, fh, aK', aE', aV, aS, aC, aY, aD', aT', aW')) :
    ∀ (d j : Nat) (aK : Nat → Int32), j + d = 216 → wX_eraseSectors_7 post fa fb fc fd fe ff fg fh (d + 1) (nI j) aK aE aV aS aC aY aD aT aW := by
  intro d
  induction d with
  | zero => intro j aK hj; exact br_t (sv_ge 216 (by omega) (by omega)) ⟨13, sv_er29 post fa fb fc fd fe ff fg fh aV aS aC aY hp 12 0 aK aE aD aT aW rfl (fun i hi => absurd hi (by omega))⟩
  | succ d ih =>
    intro j aK hj
    exact br_f (sv_ng 216 (by omega) (by decide)) ⟨sv_i216 (by omega), fun _ _ => nm_r (nI_1 j) (ih (j + 1) _ (by omega))⟩
theorem sv_eraseSectors (post : SX → Prop) (fa fb fc fd fe ff fg fh : Int32) (aK aE aV aS aC aY aD aT aW : Nat → Int32) (hp : ∀ aK' aE' aD' aT' aW' : Nat → Int32, (∀ i, i < 12 → aE' i = 0) → post (fa, fb, fc, fd, fe, ff, 0, fh, aK', aE', aV, aS, aC, aY, aD', aT', aW')) : wpX_eraseSectors post (fa, fb, fc, fd, fe, ff, fg, fh, aK, aE, aV, aS, aC, aY, aD, aT, aW) :=
  ⟨217, sv_er7 post fa fb fc fd fe ff 0 fh aE aV aS aC aY aD aT aW hp 216 0 aK rfl⟩
theorem sv_em2 (post : SX → Prop) (s : Nat) (hs : s < 4) (fa fb fc fd fe ff fg fh : Int32) (aK aE aV aC aY aD aT aW : Nat → Int32) (hp : ∀ aS' : Nat → Int32, post (fa, fb, fc, fd, (fe &&& (((1 : Int32) <<< (nI s &&& 31)) ^^^ (-1))), ff, fg, fh, aK, aE, aV, aS', aC, aY, aD, aT, aW)) :
    ∀ (d j : Nat) (aS : Nat → Int32), j + d = 16 → wX_emptySlot_2 post (nI s) fa fb fc fd fe ff fg fh (d + 1) (nI j) aK aE aV aS aC aY aD aT aW := by
  intro d
  induction d with
  | zero => intro j aS hj; exact br_t (sv_ge 16 (by omega) (by omega)) (nm_e (hp _))
  | succ d ih =>
    intro j aS hj
    have h : vp_in ((nI s * 16) + nI j) 64 := by
      rw [show nI s * 16 = nI (s * 16) from pk_mul s 16]; exact sv_ia (s * 16) j 64 (by omega) (by decide)
    exact br_f (sv_ng 16 (by omega) (by decide)) ⟨h, fun _ _ => nm_r (nI_1 j) (ih (j + 1) _ (by omega))⟩
theorem sv_emptySlot (post : SX → Prop) (s : Nat) (hs : s < 4) (fa fb fc fd fe ff fg fh : Int32) (aK aE aV aS aC aY aD aT aW : Nat → Int32) (hp : ∀ aS' : Nat → Int32, post (fa, fb, fc, fd, (fe &&& (((1 : Int32) <<< (nI s &&& 31)) ^^^ (-1))), ff, fg, fh, aK, aE, aV, aS', aC, aY, aD, aT, aW)) : wpX_emptySlot post (fa, fb, fc, fd, fe, ff, fg, fh, aK, aE, aV, aS, aC, aY, aD, aT, aW) (nI s) :=
  ⟨17, sv_em2 post s hs fa fb fc fd fe ff fg fh aK aE aV aC aY aD aT aW hp 16 0 aS rfl⟩
theorem sv_es20 (post : SX → Prop) (fa fb fc fd fe ff fg fh : Int32) (aK aE aV aS aY aD aT aW : Nat → Int32) (hp : ∀ aC' : Nat → Int32, post (fa, fb, fc, fd, fe, ff, fg, fh, aK, aE, aV, aS, aC', aY, aD, aT, aW)) :
    ∀ (d j : Nat) (aC : Nat → Int32), j + d = 64 → wX_eraseSlots_20 post fa fb fc fd fe ff fg fh (d + 1) (nI j) aK aE aV aS aC aY aD aT aW := by
  intro d
  induction d with
  | zero => intro j aC hj; exact br_t (sv_ge 64 (by omega) (by omega)) (hp _)
  | succ d ih =>
    intro j aC hj
    exact br_f (sv_ng 64 (by omega) (by decide)) ⟨sv_i64 (by omega), fun _ _ => nm_r (nI_1 j) (ih (j + 1) _ (by omega))⟩
def sv_clr (t s : Nat) : Nat := if t / 2 ^ s % 2 = 1 then t - 2 ^ s else t
theorem sv_clr_e : ∀ s, s < 4 → ∀ t, t < 16 → nI t &&& (((1 : Int32) <<< (nI s &&& 31)) ^^^ (-1)) = nI (sv_clr t s) ∧ sv_clr t s < 16 := by decide +kernel
theorem sv_clr_4 : ∀ t, t < 16 → sv_clr (sv_clr (sv_clr (sv_clr t 0) 1) 2) 3 = 0 := by decide +kernel
theorem sv_k0 : ∀ x, x < 16 → sv_clr x 0 % 2 = 0 := by decide +kernel
theorem sv_k1 : ∀ x, x < 16 → x % 2 = 0 → sv_clr x 1 % 4 = 0 := by decide +kernel
theorem sv_k2 : ∀ x, x < 16 → x % 4 = 0 → sv_clr x 2 % 8 = 0 := by decide +kernel
theorem sv_k3 : ∀ x, x < 16 → x % 8 = 0 → sv_clr x 3 = 0 := by decide +kernel
theorem sv_em (post : SX → Prop) (s : Nat) (hs : s < 4) (t : Nat) (ht : t < 16) (fa fb fc fd ff fg fh : Int32) (aK aE aV aS aC aY aD aT aW : Nat → Int32) (hp : ∀ aS' : Nat → Int32, post (fa, fb, fc, fd, nI (sv_clr t s), ff, fg, fh, aK, aE, aV, aS', aC, aY, aD, aT, aW)) : wpX_emptySlot post (fa, fb, fc, fd, nI t, ff, fg, fh, aK, aE, aV, aS, aC, aY, aD, aT, aW) (nI s) := by
  refine sv_emptySlot post s hs fa fb fc fd (nI t) ff fg fh aK aE aV aS aC aY aD aT aW (fun aS' => ?_)
  rw [(sv_clr_e s hs t ht).1]
  exact hp aS'
theorem sv_es2 (post : SX → Prop) (fa fb fc fd ff fg fh : Int32) (aK aE aV aC aY aD aT aW : Nat → Int32) (hp : ∀ aS' aC' : Nat → Int32, ∀ t : Nat, t = 0 → post (fa, fb, fc, fd, nI t, ff, fg, fh, aK, aE, aV, aS', aC', aY, aD, aT, aW)) :
    ∀ (d j t : Nat) (aS : Nat → Int32), j + d = 4 → t < 16 → (j = 0 ∨ j = 1 ∧ t % 2 = 0 ∨ j = 2 ∧ t % 4 = 0 ∨ j = 3 ∧ t % 8 = 0 ∨ j = 4 ∧ t = 0) → wX_eraseSlots_2 post (d + 1) (nI j) fa fb fc fd (nI t) ff fg fh aK aE aV aS aC aY aD aT aW := by
  intro d
  induction d with
  | zero =>
    intro j t aS hj ht h
    exact br_t (sv_ge 4 (by omega) (by omega)) ⟨65, sv_es20 post fa fb fc fd (nI t) ff fg fh aK aE aV aS aY aD aT aW (fun aC' => hp aS aC' t (by omega)) 64 0 aC rfl⟩
  | succ d ih =>
    intro j t aS hj ht h
    have hc := sv_clr_e j (by omega) t ht
    refine br_f (sv_ng 4 (by omega) (by decide)) (sv_em _ j (by omega) t ht fa fb fc fd ff fg fh aK aE aV aS aC aY aD aT aW (fun aS' => nm_r (nI_1 j) (ih (j + 1) (sv_clr t j) aS' (by omega) hc.2 ?_)))
    have h4 : j = 0 ∨ j = 1 ∨ j = 2 ∨ j = 3 := by omega
    rcases h4 with rfl | rfl | rfl | rfl
    · have := sv_k0 t ht; omega
    · have := sv_k1 t ht (by omega); omega
    · have := sv_k2 t ht (by omega); omega
    · have := sv_k3 t ht (by omega); omega
theorem sv_eraseSlots (post : SX → Prop) (t : Nat) (ht : t < 16) (fa fb fc fd ff fg fh : Int32) (aK aE aV aS aC aY aD aT aW : Nat → Int32) (hp : ∀ aS' aC' : Nat → Int32, post (fa, fb, fc, fd, 0, ff, fg, fh, aK, aE, aV, aS', aC', aY, aD, aT, aW)) : wpX_eraseSlots post (fa, fb, fc, fd, nI t, ff, fg, fh, aK, aE, aV, aS, aC, aY, aD, aT, aW) :=
  ⟨5, sv_es2 post fa fb fc fd ff fg fh aK aE aV aC aY aD aT aW (fun aS' aC' t' e => by rw [e]; exact hp aS' aC') 4 0 t aS rfl ht (Or.inl rfl)⟩
theorem sv_ps57 (post : SX → Prop) (s : Nat) (hs : s < 4) (fa fb fc fd fe ff fg fh : Int32) (aK aE aV aC aY aD aT aW : Nat → Int32) (hp : ∀ aS' : Nat → Int32, post (fa, fb, fc, fd, (fe ||| ((1 : Int32) <<< (nI s &&& 31))), ff, fg, fh, aK, aE, aV, aS', aC, aY, aD, aT, aW)) :
    ∀ (d j : Nat) (aS : Nat → Int32), j + d = 8 → wX_putSlot_57 post (nI s) (nI (s * 16)) fa fb fc fd fe ff fg fh (d + 1) (nI j) aK aE aV aS aC aY aD aT aW := by
  intro d
  induction d with
  | zero => intro j aS hj; exact br_t (sv_ge 8 (by omega) (by omega)) (nm_e (hp _))
  | succ d ih =>
    intro j aS hj
    have h : vp_in ((nI (s * 16) + 8) + nI j) 64 := by
      rw [show nI (s * 16) + 8 = nI (s * 16 + 8) from nI_add (s * 16) 8]; exact sv_ia (s * 16 + 8) j 64 (by omega) (by decide)
    exact br_f (sv_ng 8 (by omega) (by decide)) ⟨sv_i16 (by omega), sv_i8 (by omega), h, fun _ _ => nm_r (nI_1 j) (ih (j + 1) _ (by omega))⟩
theorem sv_ps15 (post : SX → Prop) (s : Nat) (hs : s < 4) (x2 : Int32) (fa fb fc fd fe ff fg fh : Int32) (aK aE aV aC aY aD aT aW : Nat → Int32) (hp : ∀ aS' aD' aT' : Nat → Int32, post (fa, fb, fc, fd, (fe ||| ((1 : Int32) <<< (nI s &&& 31))), ff, fg, fh, aK, aE, aV, aS', aC, aY, aD', aT', aW)) :
    ∀ (d j : Nat) (aS : Nat → Int32), j + d = 8 → wX_putSlot_15 post (nI s) x2 (nI (s * 16)) fa fb fc fd fe ff fg fh (d + 1) (nI j) aK aE aV aS aC aY aD aT aW := by
  intro d
  induction d with
  | zero =>
    intro j aS hj
    exact br_t (sv_ge 8 (by omega) (by omega)) (sv_stream _ fa fb fc fd fe ff fg fh aK aE aV aS aC aY aD aT aW _ _ _ (fun aD' aT' => ⟨9, sv_ps57 post s hs fa fb fc fd fe ff fg fh aK aE aV aC aY aD' aT' aW (fun aS' => hp aS' aD' aT') 8 0 aS rfl⟩))
  | succ d ih =>
    intro j aS hj
    exact br_f (sv_ng 8 (by omega) (by decide)) ⟨sv_i16 (by omega), sv_ia (s * 16) j 64 (by omega) (by decide), fun _ _ => nm_r (nI_1 j) (ih (j + 1) _ (by omega))⟩
theorem sv_putSlot (post : SX → Prop) (s : Nat) (hs : s < 4) (x2 : Int32) (fa fb fc fd fe ff fg fh : Int32) (aK aE aV aS aC aY aD aT aW : Nat → Int32) (hp : ∀ aS' aD' aT' : Nat → Int32, post (fa, fb, fc, fd, (fe ||| ((1 : Int32) <<< (nI s &&& 31))), ff, fg, fh, aK, aE, aV, aS', aC, aY, aD', aT', aW)) : wpX_putSlot post (fa, fb, fc, fd, fe, ff, fg, fh, aK, aE, aV, aS, aC, aY, aD, aT, aW) (nI s) x2 :=
  nm_r (pk_mul s 16) (sv_stream _ fa fb fc fd fe ff fg fh aK aE aV aS aC aY aD aT aW _ _ _ (fun aD' aT' => ⟨9, sv_ps15 post s hs x2 fa fb fc fd fe ff fg fh aK aE aV aC aY aD' aT' aW hp 8 0 aS rfl⟩))
theorem sv_fs44 (post : SX → Prop) (fa fb fc fd fe ff fg fh : Int32) (aK aE aV aS aC aY aD aT : Nat → Int32) (hp : ∀ aW' : Nat → Int32, post (fa, fb, fc, fd, fe, ff, fg, fh, aK, aE, aV, aS, aC, aY, aD, aT, aW')) :
    ∀ (d j : Nat) (aW : Nat → Int32), j + d = 9 → wX_forgetSecrets_44 post fa fb fc fd fe ff fg fh (d + 1) (nI j) aK aE aV aS aC aY aD aT aW := by
  intro d
  induction d with
  | zero => intro j aW hj; exact br_t (sv_ge 9 (by omega) (by omega)) (hp _)
  | succ d ih =>
    intro j aW hj
    exact br_f (sv_ng 9 (by omega) (by decide)) ⟨sv_i9 (by omega), fun _ _ => nm_r (nI_1 j) (ih (j + 1) _ (by omega))⟩
theorem sv_fs23 (post : SX → Prop) (fa fb fc fd fe ff fg fh : Int32) (aK aE aV aS aC aY aD aW : Nat → Int32) (hp : ∀ aT' aW' : Nat → Int32, post (fa, fb, fc, fd, fe, ff, fg, fh, aK, aE, aV, aS, aC, aY, aD, aT', aW')) :
    ∀ (d j : Nat) (aT : Nat → Int32), j + d = 16 → wX_forgetSecrets_23 post fa fb fc fd fe ff fg fh (d + 1) (nI j) aK aE aV aS aC aY aD aT aW := by
  intro d
  induction d with
  | zero => intro j aT hj; exact br_t (sv_ge 16 (by omega) (by omega)) ⟨10, sv_fs44 post fa fb fc fd fe ff fg fh aK aE aV aS aC aY aD aT (hp aT) 9 0 aW rfl⟩
  | succ d ih =>
    intro j aT hj
    exact br_f (sv_ng 16 (by omega) (by decide)) ⟨sv_i16 (by omega), fun _ _ => nm_r (nI_1 j) (ih (j + 1) _ (by omega))⟩
theorem sv_fs2 (post : SX → Prop) (fa fb fc fd fe ff fg fh : Int32) (aK aE aV aS aC aD aT aW : Nat → Int32) (hp : ∀ aY' aT' aW' : Nat → Int32, (∀ i, i < 8 → aY' i = 0) → post (fa, fb, fc, fd, fe, ff, fg, fh, aK, aE, aV, aS, aC, aY', aD, aT', aW')) :
    ∀ (d j : Nat) (aY : Nat → Int32), j + d = 8 → (∀ i, i < j → aY i = 0) → wX_forgetSecrets_2 post fa fb fc fd fe ff fg fh (d + 1) (nI j) aK aE aV aS aC aY aD aT aW := by
  intro d
  induction d with
  | zero => intro j aY hj hY; exact br_t (sv_ge 8 (by omega) (by omega)) ⟨17, sv_fs23 post fa fb fc fd fe ff fg fh aK aE aV aS aC aY aD aW (fun aT' aW' => hp aY aT' aW' (fun i hi => hY i (by omega))) 16 0 aT rfl⟩
  | succ d ih =>
    intro j aY hj hY
    refine br_f (sv_ng 8 (by omega) (by decide)) ⟨sv_i8 (by omega), fun aY' hY' => nm_r (nI_1 j) (ih (j + 1) aY' (by omega) ?_)⟩
    intro i hi
    rw [hY', nI_clamp (by omega)]
    by_cases hij : i = j
    · rw [hij]; exact pk_us
    · rw [pk_un hij]; exact hY i (by omega)
theorem sv_forget (post : SX → Prop) (fa fb fc fd fe ff fg fh : Int32) (aK aE aV aS aC aY aD aT aW : Nat → Int32) (hp : ∀ aY' aT' aW' : Nat → Int32, (∀ i, i < 8 → aY' i = 0) → post (fa, fb, fc, fd, fe, ff, fg, fh, aK, aE, aV, aS, aC, aY', aD, aT', aW')) : wpX_forgetSecrets post (fa, fb, fc, fd, fe, ff, fg, fh, aK, aE, aV, aS, aC, aY, aD, aT, aW) :=
  ⟨9, sv_fs2 post fa fb fc fd fe ff fg fh aK aE aV aS aC aD aT aW hp 8 0 aY rfl (fun i hi => absurd hi (by omega))⟩
end
section
theorem sv_isTaken (post : Int32 → Prop) (x : Int32) (fa fb fc fd fe ff fg fh : Int32) (aK aE aV aS aC aY aD aT aW : Nat → Int32) (h0 : post 0) (h1 : post 1) : wpX_isTaken post (fa, fb, fc, fd, fe, ff, fg, fh, aK, aE, aV, aS, aC, aY, aD, aT, aW) x :=
  br_c (fun _ => h1) (fun _ => h0)
theorem sv_sb4 (post : Int32 → Prop) (s : Nat) (hs : s < 4) (fa fb fc fd fe ff fg fh : Int32) (aK aE aV aS aC aY aD aT aW : Nat → Int32) (h0 : post 0) (h1 : post 1) :
    ∀ (d j : Nat) (x2 : Int32), j + d = 8 → wX_streamBelongsTo_4 post (nI s) fa fb fc fd fe ff fg fh aK aE aV aS aC aY aD aT aW (d + 1) x2 (nI j) := by
  intro d
  induction d with
  | zero => intro j x2 hj; exact br_t (sv_ge 8 (by omega) (by omega)) (br_c (fun _ => h1) (fun _ => h0))
  | succ d ih =>
    intro j x2 hj
    have h : vp_in ((nI s * 16) + nI j) 64 := by
      rw [show nI s * 16 = nI (s * 16) from pk_mul s 16]; exact sv_ia (s * 16) j 64 (by omega) (by decide)
    exact br_f (sv_ng 8 (by omega) (by decide)) ⟨h, sv_i16 (by omega), fun _ _ => nm_r (nI_1 j) (ih (j + 1) _ (by omega))⟩
theorem sv_belongs (post : Int32 → Prop) (s : Nat) (hs : s < 4) (fa fb fc fd fe ff fg fh : Int32) (aK aE aV aS aC aY aD aT aW : Nat → Int32) (h0 : post 0) (h1 : post 1) : wpX_streamBelongsTo post (fa, fb, fc, fd, fe, ff, fg, fh, aK, aE, aV, aS, aC, aY, aD, aT, aW) (nI s) :=
  ⟨9, sv_sb4 post s hs fa fb fc fd fe ff fg fh aK aE aV aS aC aY aD aT aW h0 h1 8 0 0 rfl⟩
theorem sv_fi9 (post : Int32 → SX → Prop) (fa fb fc fd fe ff fg fh : Int32) (aK aE aV aS aC aY aD aT aW : Nat → Int32) (hn : post (-1) (fa, fb, fc, fd, fe, ff, fg, fh, aK, aE, aV, aS, aC, aY, aD, aT, aW)) (hp : ∀ s : Nat, s < 4 → post (nI s) (fa, fb, fc, fd, fe, ff, fg, fh, aK, aE, aV, aS, aC, aY, aD, aT, aW)) :
    ∀ (d j : Nat), j + d = 4 → wX_findSlot_9 post fa fb fc fd fe ff fg fh aK aE aV aS aC aY aD aT aW (d + 1) (nI j) := by
  intro d
  induction d with
  | zero => intro j hj; exact br_t (sv_ge 4 (by omega) (by omega)) hn
  | succ d ih =>
    intro j hj
    have hnext : ∀ y : Int32, y = nI j + 1 → wX_findSlot_9 post fa fb fc fd fe ff fg fh aK aE aV aS aC aY aD aT aW (d + 1) y := nm_r (nI_1 j) (ih (j + 1) (by omega))
    exact br_f (sv_ng 4 (by omega) (by decide)) (sv_isTaken _ (nI j) fa fb fc fd fe ff fg fh aK aE aV aS aC aY aD aT aW (br_t rfl hnext) (br_f (by decide) (sv_belongs _ j (by omega) fa fb fc fd fe ff fg fh aK aE aV aS aC aY aD aT aW (br_t rfl hnext) (br_f (by decide) (hp j (by omega))))))
theorem sv_findSlot (post : Int32 → SX → Prop) (x : Int32) (fa fb fc fd fe ff fg fh : Int32) (aK aE aV aS aC aY aD aT aW : Nat → Int32) (hn : ∀ aD' aT' : Nat → Int32, post (-1) (fa, fb, fc, fd, fe, ff, fg, fh, aK, aE, aV, aS, aC, aY, aD', aT', aW)) (hp : ∀ aD' aT' : Nat → Int32, ∀ s : Nat, s < 4 → post (nI s) (fa, fb, fc, fd, fe, ff, fg, fh, aK, aE, aV, aS, aC, aY, aD', aT', aW)) : wpX_findSlot post (fa, fb, fc, fd, fe, ff, fg, fh, aK, aE, aV, aS, aC, aY, aD, aT, aW) x := by
  unfold wpX_findSlot
  exact sv_stream _ fa fb fc fd fe ff fg fh aK aE aV aS aC aY aD aT aW _ _ _ (fun aD' aT' => ⟨5, sv_fi9 post fa fb fc fd fe ff fg fh aK aE aV aS aC aY aD' aT' aW (hn aD' aT') (hp aD' aT') 4 0 rfl⟩)
theorem sv_uk21 (post : SX → Prop) (w : Nat) (hw : w + 8 ≤ 64) (fa fb fc fd fe ff fg fh : Int32) (aK aE aV aS aC aD aT aW : Nat → Int32) (hp : ∀ aY' : Nat → Int32, post (fa, fb, fc, fd, fe, ff, fg, fh, aK, aE, aV, aS, aC, aY', aD, aT, aW)) :
    ∀ (d j : Nat) (aY : Nat → Int32), j + d = 8 → wX_unwrapKey_21 post (nI w) fa fb fc fd fe ff fg fh (d + 1) (nI j) aK aE aV aS aC aY aD aT aW := by
  intro d
  induction d with
  | zero => intro j aY hj; exact br_t (sv_ge 8 (by omega) (by omega)) (hp _)
  | succ d ih =>
    intro j aY hj
    exact br_f (sv_ng 8 (by omega) (by decide)) ⟨sv_ia w j 64 (by omega) (by decide), sv_i16 (by omega), sv_i8 (by omega), fun _ _ => nm_r (nI_1 j) (ih (j + 1) _ (by omega))⟩
theorem sv_unwrap (post : SX → Prop) (s : Nat) (hs : s < 4) (x : Int32) (fa fb fc fd fe ff fg fh : Int32) (aK aE aV aS aC aY aD aT aW : Nat → Int32) (hp : ∀ aY' aD' aT' : Nat → Int32, post (fa, fb, fc, fd, fe, ff, fg, fh, aK, aE, aV, aS, aC, aY', aD', aT', aW)) : wpX_unwrapKey post (fa, fb, fc, fd, fe, ff, fg, fh, aK, aE, aV, aS, aC, aY, aD, aT, aW) (nI s) x :=
  nm_r (show nI s * 16 + 8 = nI (s * 16 + 8) by rw [show nI s * 16 = nI (s * 16) from pk_mul s 16]; exact nI_add (s * 16) 8) (sv_stream _ fa fb fc fd fe ff fg fh aK aE aV aS aC aY aD aT aW _ _ _ (fun aD' aT' =>
    ⟨9, sv_uk21 post (s * 16 + 8) (by omega) fa fb fc fd fe ff fg fh aK aE aV aS aC aD' aT' aW (fun aY' => hp aY' aD' aT') 8 0 aY rfl⟩))
theorem sv_close (post : SX → Prop) (fa fb fc fd fe ff fg fh : Int32) (aK aE aV aS aC aY aD aT aW : Nat → Int32) (hp : ∀ aY' aT' aW' : Nat → Int32, (∀ i, i < 8 → aY' i = 0) → post (fa, 0, fc, fd, fe, ff, fg, fh, aK, aE, aV, aS, aC, aY', aD, aT', aW')) : wpX_close post (fa, fb, fc, fd, fe, ff, fg, fh, aK, aE, aV, aS, aC, aY, aD, aT, aW) :=
  sv_forget _ fa 0 fc fd fe ff fg fh aK aE aV aS aC aY aD aT aW hp
theorem sv_isSector (post : Int32 → Prop) (x : Int32) (fa fb fc fd fe ff fg fh : Int32) (aK aE aV aS aC aY aD aT aW : Nat → Int32) (h0 : post 0) (h1 : ∀ i : Nat, i < 12 → x = nI i → post 1) : wpX_isSector post (fa, fb, fc, fd, fe, ff, fg, fh, aK, aE, aV, aS, aC, aY, aD, aT, aW) x :=
  br_c (fun _ => h0) (fun hx => br_c (fun _ => h0) (fun hy => by
    obtain ⟨i, hi, e⟩ := nI_of hx
    refine h1 i ?_ e
    rw [e] at hy
    by_cases h : i < 12
    · exact h
    · exact absurd (nI_le (a := 12) (b := i) (by omega) hi) hy))
theorem sv_isCell (post : Int32 → Prop) (x : Int32) (fa fb fc fd fe ff fg fh : Int32) (aK aE aV aS aC aY aD aT aW : Nat → Int32) (h0 : post 0) (h1 : ∀ i : Nat, i < 8 → x = nI i → post 1) : wpX_isCell post (fa, fb, fc, fd, fe, ff, fg, fh, aK, aE, aV, aS, aC, aY, aD, aT, aW) x :=
  br_c (fun _ => h0) (fun hx => br_c (fun _ => h0) (fun hy => by
    obtain ⟨i, hi, e⟩ := nI_of hx
    refine h1 i ?_ e
    rw [e] at hy
    by_cases h : i < 8
    · exact h
    · exact absurd (nI_le (a := 8) (b := i) (by omega) hi) hy))
theorem sv_isSlot (post : Int32 → Prop) (x : Int32) (fa fb fc fd fe ff fg fh : Int32) (aK aE aV aS aC aY aD aT aW : Nat → Int32) (h0 : post 0) (h1 : ∀ i : Nat, i < 4 → x = nI i → post 1) : wpX_isSlot post (fa, fb, fc, fd, fe, ff, fg, fh, aK, aE, aV, aS, aC, aY, aD, aT, aW) x :=
  br_c (fun _ => h0) (fun hx => br_c (fun _ => h0) (fun hy => by
    obtain ⟨i, hi, e⟩ := nI_of hx
    refine h1 i ?_ e
    rw [e] at hy
    by_cases h : i < 4
    · exact h
    · exact absurd (nI_le (a := 4) (b := i) (by omega) hi) hy))
theorem sv_isDamaged (post : Int32 → Prop) (i : Nat) (hi : i < 12) (fa fb fc fd fe ff fg fh : Int32) (aK aE aV aS aC aY aD aT aW : Nat → Int32) (h0 : post 0) (h1 : post 1) : wpX_isDamaged post (fa, fb, fc, fd, fe, ff, fg, fh, aK, aE, aV, aS, aC, aY, aD, aT, aW) (nI i) :=
  ⟨sv_i12 hi, sv_rowOf _ i hi _ fa fb fc fd fe ff fg fh aK aE aV aS aC aY aD aT aW (fun w hw => ⟨sv_ia w 8 216 (by omega) (by decide), sv_sumK _ w hw fa fb fc fd fe ff fg fh aK aE aV aS aC aY aD aT aW (fun _ => br_c (fun _ => h0) (fun _ => h1))⟩)⟩
theorem sv_uw29 (post : SX → Prop) (w : Nat) (hw : w + 9 ≤ 216) (fa fb fc fd fe ff fg fh : Int32) (aK aE aV aS aC aY aD aT : Nat → Int32) (hp : ∀ aW' : Nat → Int32, post (fa, fb, fc, fd, fe, ff, fg, fh, aK, aE, aV, aS, aC, aY, aD, aT, aW')) :
    ∀ (d j : Nat) (aW : Nat → Int32), j + d = 8 → wX_unsealToWork_29 post (nI w) fa fb fc fd fe ff fg fh (d + 1) (nI j) aK aE aV aS aC aY aD aT aW := by
  intro d
  induction d with
  | zero => intro j aW hj; exact br_t (sv_ge 8 (by omega) (by omega)) (hp _)
  | succ d ih =>
    intro j aW hj
    exact br_f (sv_ng 8 (by omega) (by decide)) ⟨sv_ia w j 216 (by omega) (by decide), sv_i16 (by omega), sv_i9 (by omega), fun _ _ => nm_r (nI_1 j) (ih (j + 1) _ (by omega))⟩
theorem sv_unseal (post : SX → Prop) (i : Nat) (hi : i < 12) (fa fb fc fd fe ff fg fh : Int32) (aK aE aV aS aC aY aD aT aW : Nat → Int32) (hp : ∀ aD' aT' aW' : Nat → Int32, post (fa, fb, fc, fd, fe, ff, fg, fh, aK, aE, aV, aS, aC, aY, aD', aT', aW')) : wpX_unsealToWork post (fa, fb, fc, fd, fe, ff, fg, fh, aK, aE, aV, aS, aC, aY, aD, aT, aW) (nI i) :=
  ⟨sv_i12 hi, sv_seedFromKey _ i hi _ fa fb fc fd fe ff fg fh aK aE aV aS aC aY aD aT aW (fun aD1 => sv_scramble _ fa fb fc fd fe ff fg fh aK aE aV aS aC aY aD1 aT aW (fun aD' aT' => ⟨sv_i12 hi, sv_rowOf _ i hi _ fa fb fc fd fe ff fg fh aK aE aV aS aC aY aD' aT' aW (fun w hw =>
    ⟨9, sv_uw29 post w hw fa fb fc fd fe ff fg fh aK aE aV aS aC aY aD' aT' (fun aW' => hp aD' aT' aW') 8 0 aW rfl⟩)⟩))⟩
theorem sv_keepNew (post : SX → Prop) (i : Nat) (hi : i < 12) (fa fb fc fd fe ff fg fh : Int32) (aK aE aV aS aC aY aD aT aW : Nat → Int32) (hp : ∀ aK' aV' aD' aT' aW' : Nat → Int32, post (fa, fb, fc, fd, fe, ff, fg, fh, aK', aE, aV', aS, aC, aY, aD', aT', aW')) : wpX_keepNewContents post (fa, fb, fc, fd, fe, ff, fg, fh, aK, aE, aV, aS, aC, aY, aD, aT, aW) (nI i) :=
  ⟨sv_i12 hi, sv_i12 hi, fun aV' _ => ⟨sv_i12 hi, sv_sealWork _ i hi _ fa fb fc fd fe ff fg fh aK aE aV' aS aC aY aD aT aW (fun aD' aT' aW' => ⟨sv_i12 hi, sv_rowOf _ i hi _ fa fb fc fd fe ff fg fh aK aE aV' aS aC aY aD' aT' aW' (fun w hw =>
    sv_keepWork _ w hw 9 fa fb fc fd fe ff fg fh aK aE aV' aS aC aY aD' aT' aW' (fun aK' => hp aK' aV' aD' aT' aW'))⟩)⟩⟩
theorem sv_writeRenewed (post : SX → Prop) (i : Nat) (hi : i < 12) (x : Int32) (fa fb fc fd fe ff fg fh : Int32) (aK aE aV aS aC aY aD aT aW : Nat → Int32) (hp : ∀ aK' aD' aT' aW' : Nat → Int32, post (fa, fb, fc, fd, fe, ff, fg, fh, aK', aE, aV, aS, aC, aY, aD', aT', aW')) : wpX_writeRenewed post (fa, fb, fc, fd, fe, ff, fg, fh, aK, aE, aV, aS, aC, aY, aD, aT, aW) (nI i) x :=
  ⟨sv_i12 hi, sv_rowOf _ i hi _ fa fb fc fd fe ff fg fh aK aE aV aS aC aY aD aT aW (fun w hw => ⟨sv_ia w 8 216 (by omega) (by decide), sv_sumK _ w hw fa fb fc fd fe ff fg fh aK aE aV aS aC aY aD aT aW (fun _ => fun _ _ =>
    sv_unseal _ i hi fa fb fc fd fe ff fg fh aK aE aV aS aC aY aD aT aW (fun aD1 aT1 aW1 => sv_sealWork _ i hi _ fa fb fc fd fe ff fg fh aK aE aV aS aC aY aD1 aT1 aW1 (fun aD' aT' aW2 => fun aW' _ =>
      sv_rowOf _ i hi _ fa fb fc fd fe ff fg fh aK aE aV aS aC aY aD' aT' aW' (fun w2 hw2 => sv_keepWork _ w2 hw2 x fa fb fc fd fe ff fg fh aK aE aV aS aC aY aD' aT' aW' (fun aK' => hp aK' aD' aT' aW')))))⟩)⟩
theorem sv_fr24 (post : SX → Prop) (w : Nat) (hw : w + 9 ≤ 216) (fa fb fc fd fe ff fg fh : Int32) (aE aV aS aC aY aD aT aW : Nat → Int32) (hp : ∀ aK' : Nat → Int32, post (fa, fb, fc, fd, fe, ff, fg, fh, aK', aE, aV, aS, aC, aY, aD, aT, aW)) :
    ∀ (d j : Nat) (aK : Nat → Int32), j + d = 9 → wX_finishRenewed_24 post (nI w) fa fb fc fd fe ff fg fh (d + 1) (nI j) aK aE aV aS aC aY aD aT aW := by
  intro d
  induction d with
  | zero => intro j aK hj; exact br_t (sv_ge 9 (by omega) (by omega)) (hp _)
  | succ d ih =>
    intro j aK hj
    exact br_f (sv_ng 9 (by omega) (by decide)) ⟨sv_ia w j 216 (by omega) (by decide), fun _ _ => nm_r (nI_1 j) (ih (j + 1) _ (by omega))⟩
theorem sv_finish (post : SX → Prop) (i : Nat) (hi : i < 12) (fa fb fc fd fe ff fg fh : Int32) (aK aE aV aS aC aY aD aT aW : Nat → Int32) (hp : ∀ aK' : Nat → Int32, post (fa, fb, fc, fd, fe, ff, fg, fh, aK', (upd aE i fg), aV, aS, aC, aY, aD, aT, aW)) : wpX_finishRenewed post (fa, fb, fc, fd, fe, ff, fg, fh, aK, aE, aV, aS, aC, aY, aD, aT, aW) (nI i) :=
  ⟨sv_i12 hi, sv_rowOf _ i hi _ fa fb fc fd fe ff fg fh aK aE aV aS aC aY aD aT aW (fun w hw => ⟨sv_i12 hi, nm_r (congrArg (fun z => upd aE z fg) (nI_clamp (by omega)))
    ⟨10, sv_fr24 post w hw fa fb fc fd fe ff fg fh (upd aE i fg) aV aS aC aY aD aT aW hp 9 0 aK rfl⟩⟩)⟩
theorem sv_ct4 (post : Int32 → Prop) (fa fb fc fd fe ff fg fh : Int32) (aK aE aV aS aC aY aD aT aW : Nat → Int32) :
    ∀ (d j : Nat) (x : Int32), j + d = 4 → (∀ r : Int32, post r) → wX_countTaken_4 post fa fb fc fd fe ff fg fh aK aE aV aS aC aY aD aT aW (d + 1) x (nI j) := by
  intro d
  induction d with
  | zero => intro j x hj hp; exact br_t (sv_ge 4 (by omega) (by omega)) (hp _)
  | succ d ih =>
    intro j x hj hp
    exact br_f (sv_ng 4 (by omega) (by decide)) (fun _ _ => nm_r (nI_1 j) (ih (j + 1) _ (by omega) hp))
theorem sv_count (post : Int32 → Prop) (fa fb fc fd fe ff fg fh : Int32) (aK aE aV aS aC aY aD aT aW : Nat → Int32) (hp : ∀ r : Int32, post r) : wpX_countTaken post (fa, fb, fc, fd, fe, ff, fg, fh, aK, aE, aV, aS, aC, aY, aD, aT, aW) :=
  ⟨5, sv_ct4 post fa fb fc fd fe ff fg fh aK aE aV aS aC aY aD aT aW 4 0 0 rfl hp⟩
def sv_pop (t : Nat) : Nat := t % 2 + t / 2 % 2 + t / 4 % 2 + t / 8 % 2
theorem sv_bit : ∀ s, s < 4 → ∀ t, t < 16 → (nI t >>> (nI s &&& 31)) &&& 1 = nI (t / 2 ^ s % 2) := by decide +kernel
theorem sv_countT (post : Int32 → Prop) (t : Nat) (ht : t < 16) (fa fb fc fd ff fg fh : Int32) (aK aE aV aS aC aY aD aT aW : Nat → Int32) (hp : post (nI (sv_pop t))) : wpX_countTaken post (fa, fb, fc, fd, nI t, ff, fg, fh, aK, aE, aV, aS, aC, aY, aD, aT, aW) := by
  have h0 := sv_bit 0 (by decide) t ht
  have h1 := sv_bit 1 (by decide) t ht
  have h2 := sv_bit 2 (by decide) t ht
  have h3 := sv_bit 3 (by decide) t ht
  refine ⟨5, br_f (by decide) (nm_r (e' := nI (t % 2)) ?_ (nm_r (e' := nI 1) rfl (br_f (by decide) (nm_r (e' := nI (t % 2 + t / 2 % 2)) ?_ (nm_r (e' := nI 2) rfl (br_f (by decide) (nm_r (e' := nI (t % 2 + t / 2 % 2 + t / 4 % 2)) ?_ (nm_r (e' := nI 3) rfl (br_f (by decide) (nm_r (e' := nI (sv_pop t)) ?_ (nm_r (e' := nI 4) rfl (br_t (by decide) hp)))))))))))) ⟩
  · rw [show ((0 : Int32)) = nI 0 from rfl, h0, nI_add]; exact congrArg nI (by omega)
  · rw [h1, nI_add]
  · rw [h2, nI_add]
  · rw [h3, nI_add]; rfl
end
