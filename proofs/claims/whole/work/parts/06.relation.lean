def rl_ep (m : Nat) (fg : Int32) (E : Nat → Int32) : Prop := m ≤ 12 ∧ (∀ i, i < m → E i = fg) ∧ (∀ i, m ≤ i → i < 12 → E i + 1 = fg)
def rl_sc (ky K E V C B : Nat → Int32) : Prop := ∀ i, i < 12 → (B i = 0 → ch_ok K (ch_row i (E i)) (ch_S ky (nI i) (E i) (V i)) (fun c => C (8 * i + c))) ∧ (¬ B i = 0 → ¬ K (ch_row i (E i) + 8) = ch_sm K (ch_row i (E i)) 8)
def rl (fa fb fc fd fe ff fg fh : Int32) (aK aE aV aS aC aY aT : Nat → Int32) (gc : Int32) (bC bD bU bP bV bQ : Nat → Int32) : Prop :=
  ch_tl 16 aT ∧ (fa = 0 → fb = 0 ∧ fc = 0) ∧
  (∃ m : Nat, rl_ep m fg aE ∧ gc = nI (12 - m) ∧ (¬ fc = 0 → m < 12 → ¬ fd = 0) ∧ (fa = 0 → m = 12)) ∧
  (∃ (ky : Nat → Int32) (t : Nat), ch_tl 8 ky ∧ (fb = 0 → aY = fun _ => 0) ∧ (¬ fb = 0 → aY = ky) ∧ t < 16 ∧ fe = nI t ∧ (fa = 0 → t = 0) ∧
    (¬ fa = 0 → t ≠ 0 ∧ sl_ok t fh ky aS bU bP ∧ rl_sc ky aK aE aV bC bD) ∧
    (¬ fc = 0 → ∃ t' : Nat, t' < 16 ∧ t' ≠ 0 ∧ ff = nI t' ∧ sl_ok t' fh ky aC bV bQ))
def i_Rel (_ : Nat) (u : SX) (v : SY) : Prop := match u with
  | (fa, fb, fc, fd, fe, ff, fg, fh, aK, aE, aV, aS, aC, aY, aD, aT, aW) => ∃ (gc : Int32) (bC bD bU bP bV bQ : Nat → Int32), v = (fa, fb, gc, fc, fd, bC, bD, bU, bP, bV, bQ) ∧ aD = (fun _ => 0) ∧ rl fa fb fc fd fe ff fg fh aK aE aV aS aC aY aT gc bC bD bU bP bV bQ
theorem rl_mk {k : Nat} {fa fb fc fd fe ff fg fh : Int32} {aK aE aV aS aC aY aT aW : Nat → Int32} {gc : Int32} {bC bD bU bP bV bQ : Nat → Int32} (h : rl fa fb fc fd fe ff fg fh aK aE aV aS aC aY aT gc bC bD bU bP bV bQ) :
    i_Rel k (fa, fb, fc, fd, fe, ff, fg, fh, aK, aE, aV, aS, aC, aY, (fun _ => 0), aT, aW) (fa, fb, gc, fc, fd, bC, bD, bU, bP, bV, bQ) := ⟨gc, bC, bD, bU, bP, bV, bQ, rfl, rfl, h⟩
theorem rl_Y {fa fb fc fd fe ff fg fh : Int32} {aK aE aV aS aC aY aT : Nat → Int32} {gc : Int32} {bC bD bU bP bV bQ : Nat → Int32} (h : rl fa fb fc fd fe ff fg fh aK aE aV aS aC aY aT gc bC bD bU bP bV bQ) : ch_tl 8 aY := by
  obtain ⟨ky, t, h1, h2, h3, _⟩ := h.2.2.2
  by_cases hb : fb = 0
  · rw [h2 hb]; exact ch_tl_0 8
  · rw [h3 hb]; exact h1
theorem rl_T {fa fb fc fd fe ff fg fh : Int32} {aK aE aV aS aC aY aT aT' : Nat → Int32} {gc : Int32} {bC bD bU bP bV bQ : Nat → Int32} (h : rl fa fb fc fd fe ff fg fh aK aE aV aS aC aY aT gc bC bD bU bP bV bQ) (hT : ch_tl 16 aT') : rl fa fb fc fd fe ff fg fh aK aE aV aS aC aY aT' gc bC bD bU bP bV bQ :=
  ⟨hT, h.2⟩
/-- locked -/
theorem rl_L {fa fb fc fd fe ff fg fh : Int32} {aK aE aV aS aC aY aT aT' : Nat → Int32} {gc : Int32} {bC bD bU bP bV bQ : Nat → Int32} (h : rl fa fb fc fd fe ff fg fh aK aE aV aS aC aY aT gc bC bD bU bP bV bQ) (hT : ch_tl 16 aT') : rl fa 0 fc fd fe ff fg fh aK aE aV aS aC (fun _ => 0) aT' gc bC bD bU bP bV bQ := by
  obtain ⟨_, h0, hm, ky, t, h1, h2, h3, h4⟩ := h
  exact ⟨hT, fun ha => ⟨rfl, (h0 ha).2⟩, hm, ky, t, h1, fun _ => rfl, fun hb => absurd rfl hb, h4⟩
/-- other sectors' rows -/
theorem rl_sc_w {ky K E V C B : Nat → Int32} (h : rl_sc ky K E V C B) (i : Nat) (hi : i < 12) (W C' B' : Nat → Int32) (hW : ∀ q, q < 8 → C' (8 * i + q) = W q) (hC : ∀ j, j ≠ i → ∀ q, q < 8 → C' (8 * j + q) = C (8 * j + q)) (hB : B' i = 0) (hB2 : ∀ j, j ≠ i → B' j = B j) :
    rl_sc ky (ch_kw K (ch_sl W (ch_S ky (nI i) (E i) (V i + 1))) (ch_row i (E i)) 9) E (upd V i (V i + 1)) C' B' := by
  intro j hj
  by_cases hji : j = i
  · subst hji
    refine ⟨fun _ => ?_, fun z => absurd hB z⟩
    rw [pk_us]
    exact ch_ok_C hW (ch_ok_n _ _ _ _)
  · have hd := ch_row_d hji (E j) (E i)
    have hf : ∀ c, c < 9 → ch_kw K (ch_sl W (ch_S ky (nI i) (E i) (V i + 1))) (ch_row i (E i)) 9 (ch_row j (E j) + c) = K (ch_row j (E j) + c) := fun c hc => ch_kw_off _ _ _ _ _ (by omega) (by decide)
    obtain ⟨h1, h2⟩ := h j hj
    rw [pk_un hji]
    refine ⟨fun z => ?_, fun z => ?_⟩
    · rw [hB2 j hji] at z
      exact ch_ok_C (hC j hji) (ch_ok_c hf (h1 z))
    · rw [hB2 j hji] at z
      rw [hf 8 (by decide), ch_sm_c 8 (fun c hc => hf c (by omega))]
      exact h2 z
/-- a change outside all rows that hold -/
theorem rl_sc_f {ky K K' E V C B : Nat → Int32} (h : rl_sc ky K E V C B) (hf : ∀ j, j < 12 → ∀ c, c < 9 → K' (ch_row j (E j) + c) = K (ch_row j (E j) + c)) : rl_sc ky K' E V C B := by
  intro j hj
  obtain ⟨h1, h2⟩ := h j hj
  refine ⟨fun z => ch_ok_c (hf j hj) (h1 z), fun z => ?_⟩
  rw [hf j hj 8 (by decide), ch_sm_c 8 (fun c hc => hf j hj c (by omega))]
  exact h2 z
theorem ch_par (j : Nat) (e e' : Int32) (h : e + 1 = e') : ch_row j e + 9 ≤ ch_row j e' ∨ ch_row j e' + 9 ≤ ch_row j e := by
  have hb : e'.toBitVec.toNat = (e.toBitVec.toNat + 1) % 2 ^ 32 := by
    rw [← h, Int32.toBitVec_add, BitVec.toNat_add]
    rfl
  unfold ch_row
  omega
/-- the sums of a renewed row -/
theorem ch_rk_s (K st W : Nat → Int32) (w v : Nat) : ∀ c, c < 8 → ch_kw K (ch_rk K st w W) v 9 (v + c) = W c ^^^ st c := fun c hc => by
  rw [ch_kw_at _ _ _ _ (by omega)]
  show upd (ch_sl W st) 8 _ c = _
  rw [pk_un (by omega)]
  show upd (ch_w8 W st) 8 _ c = _
  rw [pk_un (by omega)]
  exact if_pos hc
theorem ch_rk_m (K st W : Nat → Int32) (w v : Nat) : ch_sm (ch_kw K (ch_rk K st w W) v 9) v 8 = ch_sm (ch_w8 W st) 0 8 :=
  ch_sm_c 8 (fun c hc => by
    rw [ch_rk_s K st W w v c hc]
    show _ = (if 0 + c < 8 then _ else _)
    rw [if_pos (by omega), Nat.zero_add])
theorem ch_rk_8 (K st W : Nat → Int32) (w v : Nat) : ch_kw K (ch_rk K st w W) v 9 (v + 8) = ch_sm (ch_w8 W st) 0 8 ^^^ (K (w + 8) ^^^ ch_sm K w 8) := by
  rw [ch_kw_at _ _ _ _ (by decide)]
  show upd (ch_sl W st) 8 (ch_sl W st 8 ^^^ (K (w + 8) ^^^ ch_sm K w 8)) 8 = _
  rw [pk_us]
  show upd (ch_w8 W st) 8 _ 8 ^^^ _ = _
  rw [pk_us]
theorem rl_sc_r {ky K K2 E V C B : Nat → Int32} {fg : Int32} (W0 : Nat → Int32) (h : rl_sc ky K E V C B) (i : Nat) (hi : i < 12) (he : E i + 1 = fg)
    (hK : ∀ q, q < ch_row i (E i) ∨ ch_row i (E i) + 9 ≤ q → K2 q = ch_kw K (ch_rk K (ch_S ky (nI i) fg (V i)) (ch_row i (E i)) (ch_un K W0 (ch_S ky (nI i) (E i) (V i)) (ch_row i (E i)))) (ch_row i fg) 9 q) :
    rl_sc ky K2 (upd E i fg) V C B := by
  intro j hj
  obtain ⟨h1, h2⟩ := h j hj
  by_cases hji : j = i
  · subst hji
    rw [pk_us]
    have hp := ch_par j (E j) fg he
    have hf : ∀ c, c < 9 → K2 (ch_row j fg + c) = ch_kw K (ch_rk K (ch_S ky (nI j) fg (V j)) (ch_row j (E j)) (ch_un K W0 (ch_S ky (nI j) (E j) (V j)) (ch_row j (E j)))) (ch_row j fg) 9 (ch_row j fg + c) := fun c hc => hK _ (by omega)
    refine ⟨fun z => ?_, fun z => ?_⟩
    · obtain ⟨k1, k2⟩ := h1 z
      refine ch_ok_c hf ⟨?_, fun c hc => ?_⟩
      · rw [ch_rk_8, ch_rk_m, k1, Int32.xor_self, Int32.xor_zero]
      · rw [ch_rk_s _ _ _ _ _ c hc, ch_xx]
        show (if c < 8 then _ else _) = _
        rw [if_pos hc]
        exact k2 c hc
    · rw [hf 8 (by decide), ch_sm_c 8 (fun c hc => hf c (by omega)), ch_rk_8, ch_rk_m]
      intro hx
      refine h2 z ((ch_xor0 _ _).mp ?_)
      generalize ch_sm (ch_w8 _ _) 0 8 = a at hx
      have e2 : a ^^^ (a ^^^ (K (ch_row j (E j) + 8) ^^^ ch_sm K (ch_row j (E j)) 8)) = a ^^^ a := by rw [hx]
      rw [← Int32.xor_assoc, Int32.xor_self, Int32.zero_xor] at e2
      exact e2
  · rw [pk_un hji]
    have hd1 := ch_row_d hji (E j) (E i)
    have hd2 := ch_row_d hji (E j) fg
    have hf : ∀ c, c < 9 → K2 (ch_row j (E j) + c) = K (ch_row j (E j) + c) := fun c hc => by
      rw [hK _ (by omega)]
      exact ch_kw_off _ _ _ _ _ (by omega) (by decide)
    refine ⟨fun z => ch_ok_c hf (h1 z), fun z => ?_⟩
    rw [hf 8 (by decide), ch_sm_c 8 (fun c hc => hf c (by omega))]
    exact h2 z
/-! one turned bit -/
theorem ch_mul_inj (a b : Int32) (h : a * (-1640531535) = b * (-1640531535)) : a = b := by
  have e : ∀ x : Int32, x * (-1640531535) * 244002641 = x := fun x => by
    rw [Int32.mul_assoc, show (-1640531535 : Int32) * 244002641 = 1 from by decide +kernel, Int32.mul_one]
  rw [← e a, h, e b]
theorem ch_xor_inj (a b c : Int32) (h : a ^^^ c = b ^^^ c) : a = b := by rw [← ch_xx a c, h, ch_xx]
theorem ch_xor_inj2 (a b c : Int32) (h : c ^^^ a = c ^^^ b) : a = b := by
  rw [Int32.xor_comm c a, Int32.xor_comm c b] at h
  exact ch_xor_inj a b c h
theorem ch_sm_inj (K L : Nat → Int32) (w p : Nat) (hf : ∀ c, c ≠ p → L (w + c) = K (w + c)) (hp : L (w + p) ≠ K (w + p)) : ∀ n, p < n → ch_sm L w n ≠ ch_sm K w n
  | 0, h => absurd h (by omega)
  | n + 1, h => by
    intro e
    have e1 : (ch_sm L w n ^^^ L (w + n)) * (-1640531535) = (ch_sm K w n ^^^ K (w + n)) * (-1640531535) := e
    have e2 := ch_mul_inj _ _ e1
    by_cases hn : n = p
    · subst hn
      rw [ch_sm_c n (fun c hc => hf c (by omega))] at e2
      exact hp (ch_xor_inj2 _ _ _ e2)
    · rw [hf n hn] at e2
      exact ch_sm_inj K L w p hf hp n (by omega) (ch_xor_inj _ _ _ e2)
theorem ch_bit : ∀ b, b < 32 → (1 : Int32) <<< (nI b &&& 31) ≠ 0 := by decide +kernel
theorem rl_sc_d {ky K E V C B : Nat → Int32} (h : rl_sc ky K E V C B) (i : Nat) (hi : i < 12) (hz : B i = 0) (p : Nat) (hp : p < 9) (x : Int32) (hx : x ≠ 0) (y : Int32) (hy : ¬ y = 0) :
    rl_sc ky (upd K (ch_row i (E i) + p) (K (ch_row i (E i) + p) ^^^ x)) E V C (upd B i y) := by
  intro j hj
  obtain ⟨h1, h2⟩ := h j hj
  by_cases hji : j = i
  · subst hji
    rw [pk_us]
    refine ⟨fun z => absurd z hy, fun _ => ?_⟩
    have k1 := (h1 hz).1
    have hne : K (ch_row j (E j) + p) ^^^ x ≠ K (ch_row j (E j) + p) := fun e => hx (by
      have e2 : K (ch_row j (E j) + p) ^^^ x = K (ch_row j (E j) + p) ^^^ 0 := by rw [Int32.xor_zero]; exact e
      exact ch_xor_inj2 _ _ _ e2)
    by_cases hp8 : p = 8
    · subst hp8
      rw [pk_us, ch_sm_c 8 (L := K) (v := ch_row j (E j)) (fun c hc => pk_un (by omega)), ← k1]
      exact hne
    · rw [pk_un (by omega), k1]
      intro e
      refine ch_sm_inj K (upd K (ch_row j (E j) + p) (K (ch_row j (E j) + p) ^^^ x)) (ch_row j (E j)) p (fun c hc => pk_un (by omega)) ?_ 8 (by omega) e.symm
      rw [pk_us]
      exact hne
  · rw [pk_un hji]
    have hd := ch_row_d hji (E j) (E i)
    have hf : ∀ c, c < 9 → upd K (ch_row i (E i) + p) (K (ch_row i (E i) + p) ^^^ x) (ch_row j (E j) + c) = K (ch_row j (E j) + c) := fun c hc => pk_un (by omega)
    refine ⟨fun z => ch_ok_c hf (h1 z), fun z => ?_⟩
    rw [hf 8 (by decide), ch_sm_c 8 (fun c hc => hf c (by omega))]
    exact h2 z
/-! slots -/
def sv_set (t s : Nat) : Nat := if t / 2 ^ s % 2 = 1 then t else t + 2 ^ s
def sv_pop (t : Nat) : Nat := sv_bt t 0 + sv_bt t 1 + sv_bt t 2 + sv_bt t 3
theorem sv_set_e : ∀ s, s < 4 → ∀ t, t < 16 → nI t ||| ((1 : Int32) <<< (nI s &&& 31)) = nI (sv_set t s) ∧ sv_set t s < 16 ∧ sv_set t s ≠ 0 := by decide +kernel
theorem sv_set_b : ∀ s, s < 4 → ∀ t, t < 16 → ∀ r, r < 4 → sv_bt (sv_set t s) r = if r = s then 1 else sv_bt t r := by decide +kernel
theorem sv_set_i : ∀ s, s < 4 → ∀ t, t < 16 → sv_bt t s = 1 → sv_set t s = t := by decide +kernel
theorem sv_clr_b : ∀ s, s < 4 → ∀ t, t < 16 → ∀ r, r < 4 → sv_bt (sv_clr t s) r = if r = s then 0 else sv_bt t r := by decide +kernel
theorem sv_clr_n : ∀ s, s < 4 → ∀ t, t < 16 → sv_bt t s = 1 → sv_pop t ≠ 1 → sv_clr t s ≠ 0 := by decide +kernel
theorem sl_set {t : Nat} {fh : Int32} {ky S S' U P : Nat → Int32} (h : sl_ok t fh ky S U P) (ht : t < 16) (s : Nat) (hs : s < 4) (x : Int32)
    (hf : ∀ q, q < s * 16 ∨ s * 16 + 16 ≤ q → S' q = S q) (h1 : ∀ i, i < 8 → S' (s * 16 + i) = ch_P x 2 0 i) (h2 : ∀ i, i < 8 → S' (s * 16 + 8 + i) = ch_P x 3 fh i ^^^ ky i) : sl_ok (sv_set t s) fh ky S' (upd U s 1) (upd P s x) := by
  intro r hr
  rw [sv_set_b s hs t ht r hr]
  by_cases hrs : r = s
  · subst hrs
    rw [if_pos rfl, pk_us, pk_us]
    exact ⟨rfl, fun _ => ⟨h1, h2⟩⟩
  · rw [if_neg hrs, pk_un hrs, pk_un hrs]
    obtain ⟨k1, k2⟩ := h r hr
    exact ⟨k1, fun z => ⟨fun i hi => by rw [hf _ (by omega)]; exact (k2 z).1 i hi, fun i hi => by rw [hf _ (by omega)]; exact (k2 z).2 i hi⟩⟩
theorem sl_chg {t : Nat} {fh : Int32} {ky S S' U P : Nat → Int32} (h : sl_ok t fh ky S U P) (s : Nat) (hs : s < 4) (hb : sv_bt t s = 1) (x : Int32)
    (hf : ∀ q, q < s * 16 ∨ s * 16 + 16 ≤ q → S' q = S q) (h1 : ∀ i, i < 8 → S' (s * 16 + i) = ch_P x 2 0 i) (h2 : ∀ i, i < 8 → S' (s * 16 + 8 + i) = ch_P x 3 fh i ^^^ ky i) : sl_ok t fh ky S' U (upd P s x) := by
  intro r hr
  by_cases hrs : r = s
  · subst hrs
    rw [pk_us]
    exact ⟨(h r hr).1, fun _ => ⟨h1, h2⟩⟩
  · rw [pk_un hrs]
    obtain ⟨k1, k2⟩ := h r hr
    exact ⟨k1, fun z => ⟨fun i hi => by rw [hf _ (by omega)]; exact (k2 z).1 i hi, fun i hi => by rw [hf _ (by omega)]; exact (k2 z).2 i hi⟩⟩
theorem sl_clr {t : Nat} {fh : Int32} {ky S S' U P : Nat → Int32} (h : sl_ok t fh ky S U P) (ht : t < 16) (s : Nat) (hs : s < 4)
    (hf : ∀ q, q < s * 16 ∨ s * 16 + 16 ≤ q → S' q = S q) : sl_ok (sv_clr t s) fh ky S' (upd U s 0) P := by
  intro r hr
  rw [sv_clr_b s hs t ht r hr]
  by_cases hrs : r = s
  · subst hrs
    rw [if_pos rfl, pk_us]
    exact ⟨rfl, fun z => absurd z (by decide)⟩
  · rw [if_neg hrs, pk_un hrs]
    obtain ⟨k1, k2⟩ := h r hr
    exact ⟨k1, fun z => ⟨fun i hi => by rw [hf _ (by omega)]; exact (k2 z).1 i hi, fun i hi => by rw [hf _ (by omega)]; exact (k2 z).2 i hi⟩⟩
theorem sl_cp {t : Nat} {fh : Int32} {ky S S' U U' P P' : Nat → Int32} (h : sl_ok t fh ky S U P) (hS : ∀ q, q < 64 → S' q = S q) (hU : ∀ s, s < 4 → U' s = U s) (hP : ∀ s, s < 4 → P' s = P s) : sl_ok t fh ky S' U' P' := by
  intro r hr
  obtain ⟨k1, k2⟩ := h r hr
  rw [hU r hr, hP r hr]
  exact ⟨k1, fun z => ⟨fun i hi => by rw [hS _ (by omega)]; exact (k2 z).1 i hi, fun i hi => by rw [hS _ (by omega)]; exact (k2 z).2 i hi⟩⟩
