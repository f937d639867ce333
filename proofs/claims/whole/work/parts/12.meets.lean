def rc_format (i_R : Nat → SX → SY → Prop) : Prop := ∀ (k : Nat) (u : SX) (v : SY), i_R k u v → k + 4 ≤ 2048 → ∀ (v1 : Int32), wpX_format (fun r u' => wpY_format (fun r' v' => r' = r ∧ i_R (k + 4) u' v') v v1) u v1
def ro_format (i_R : Nat → SX → SY → Prop) : Prop := ∀ (k : Nat) (u : SX) (v : SY), i_R k u v → k + 4 ≤ 2048 → ∀ (v1 : Int32), wpX_format (fun r u' => wpY_format (fun r' v' => i_R (k + 4) u' v') v v1) u v1
theorem me_format {S : Int32 → Int32 → SX → SY → Prop} {k : Nat} {u : SX} {v w : SY} {ca cb : Int32} {FA FB : SY → Prop} {v1 : Int32} (hrow : wpX_format (fun r u' => wpY_format (fun r' v' => S r r' u' v') v v1) u v1) (hmine : wpX_format (fun r u' => wpY_format (fun r' v' => r' = r ∧ i_Rel k u' v') w v1) u v1) (eA : wpY_format (fun r' v' => r' = ca ∧ FA v') v v1) (eB : wpY_format (fun r' v' => r' = cb ∧ FB v') w v1) : ∃ u' va vb, S cb ca u' va ∧ FA va ∧ FB vb ∧ i_Rel k u' vb :=
  nd_wpX_format _ _ _ hrow hmine (fun r u' A B => nd_wpY_format _ _ _ A eA (fun r1 v1 s e1 => nd_wpY_format _ _ _ B eB (fun r2 v2 s2 e2 => by
    rw [e1.1, ← s2.1, e2.1] at s
    exact ⟨u', v1, v2, s, e1.2, e2.2, s2.2⟩)))
theorem mx_format {S : Int32 → Int32 → SX → SY → Prop} {u : SX} {v : SY} {ca cb : Int32} {FA : SY → Prop} {FX : SX → Prop} {v1 : Int32} (hrow : wpX_format (fun r u' => wpY_format (fun r' v' => S r r' u' v') v v1) u v1) (hmine : wpX_format (fun r u' => r = cb ∧ FX u') u v1) (eA : wpY_format (fun r' v' => r' = ca ∧ FA v') v v1) : ∃ u' va, S cb ca u' va ∧ FA va ∧ FX u' :=
  nd_wpX_format _ _ _ hrow hmine (fun r u' A B => nd_wpY_format _ _ _ A eA (fun r1 v1 s e1 => by
    rw [e1.1, B.1] at s
    exact ⟨u', v1, s, e1.2, B.2⟩))
def rc_unlock (i_R : Nat → SX → SY → Prop) : Prop := ∀ (k : Nat) (u : SX) (v : SY), i_R k u v → k + 4 ≤ 2048 → ∀ (v1 : Int32), wpX_unlock (fun r u' => wpY_unlock (fun r' v' => r' = r ∧ i_R (k + 4) u' v') v v1) u v1
def ro_unlock (i_R : Nat → SX → SY → Prop) : Prop := ∀ (k : Nat) (u : SX) (v : SY), i_R k u v → k + 4 ≤ 2048 → ∀ (v1 : Int32), wpX_unlock (fun r u' => wpY_unlock (fun r' v' => i_R (k + 4) u' v') v v1) u v1
theorem me_unlock {S : Int32 → Int32 → SX → SY → Prop} {k : Nat} {u : SX} {v w : SY} {ca cb : Int32} {FA FB : SY → Prop} {v1 : Int32} (hrow : wpX_unlock (fun r u' => wpY_unlock (fun r' v' => S r r' u' v') v v1) u v1) (hmine : wpX_unlock (fun r u' => wpY_unlock (fun r' v' => r' = r ∧ i_Rel k u' v') w v1) u v1) (eA : wpY_unlock (fun r' v' => r' = ca ∧ FA v') v v1) (eB : wpY_unlock (fun r' v' => r' = cb ∧ FB v') w v1) : ∃ u' va vb, S cb ca u' va ∧ FA va ∧ FB vb ∧ i_Rel k u' vb :=
  nd_wpX_unlock _ _ _ hrow hmine (fun r u' A B => nd_wpY_unlock _ _ _ A eA (fun r1 v1 s e1 => nd_wpY_unlock _ _ _ B eB (fun r2 v2 s2 e2 => by
    rw [e1.1, ← s2.1, e2.1] at s
    exact ⟨u', v1, v2, s, e1.2, e2.2, s2.2⟩)))
theorem mx_unlock {S : Int32 → Int32 → SX → SY → Prop} {u : SX} {v : SY} {ca cb : Int32} {FA : SY → Prop} {FX : SX → Prop} {v1 : Int32} (hrow : wpX_unlock (fun r u' => wpY_unlock (fun r' v' => S r r' u' v') v v1) u v1) (hmine : wpX_unlock (fun r u' => r = cb ∧ FX u') u v1) (eA : wpY_unlock (fun r' v' => r' = ca ∧ FA v') v v1) : ∃ u' va, S cb ca u' va ∧ FA va ∧ FX u' :=
  nd_wpX_unlock _ _ _ hrow hmine (fun r u' A B => nd_wpY_unlock _ _ _ A eA (fun r1 v1 s e1 => by
    rw [e1.1, B.1] at s
    exact ⟨u', v1, s, e1.2, B.2⟩))
def rc_lock (i_R : Nat → SX → SY → Prop) : Prop := ∀ (k : Nat) (u : SX) (v : SY), i_R k u v → k + 4 ≤ 2048 → wpX_lock (fun r u' => wpY_lock (fun r' v' => r' = r ∧ i_R (k + 4) u' v') v) u
def ro_lock (i_R : Nat → SX → SY → Prop) : Prop := ∀ (k : Nat) (u : SX) (v : SY), i_R k u v → k + 4 ≤ 2048 → wpX_lock (fun r u' => wpY_lock (fun r' v' => i_R (k + 4) u' v') v) u
theorem me_lock {S : Int32 → Int32 → SX → SY → Prop} {k : Nat} {u : SX} {v w : SY} {ca cb : Int32} {FA FB : SY → Prop} (hrow : wpX_lock (fun r u' => wpY_lock (fun r' v' => S r r' u' v') v ) u ) (hmine : wpX_lock (fun r u' => wpY_lock (fun r' v' => r' = r ∧ i_Rel k u' v') w ) u ) (eA : wpY_lock (fun r' v' => r' = ca ∧ FA v') v ) (eB : wpY_lock (fun r' v' => r' = cb ∧ FB v') w ) : ∃ u' va vb, S cb ca u' va ∧ FA va ∧ FB vb ∧ i_Rel k u' vb :=
  nd_wpX_lock _ _ _ hrow hmine (fun r u' A B => nd_wpY_lock _ _ _ A eA (fun r1 v1 s e1 => nd_wpY_lock _ _ _ B eB (fun r2 v2 s2 e2 => by
    rw [e1.1, ← s2.1, e2.1] at s
    exact ⟨u', v1, v2, s, e1.2, e2.2, s2.2⟩)))
theorem mx_lock {S : Int32 → Int32 → SX → SY → Prop} {u : SX} {v : SY} {ca cb : Int32} {FA : SY → Prop} {FX : SX → Prop} (hrow : wpX_lock (fun r u' => wpY_lock (fun r' v' => S r r' u' v') v ) u ) (hmine : wpX_lock (fun r u' => r = cb ∧ FX u') u ) (eA : wpY_lock (fun r' v' => r' = ca ∧ FA v') v ) : ∃ u' va, S cb ca u' va ∧ FA va ∧ FX u' :=
  nd_wpX_lock _ _ _ hrow hmine (fun r u' A B => nd_wpY_lock _ _ _ A eA (fun r1 v1 s e1 => by
    rw [e1.1, B.1] at s
    exact ⟨u', v1, s, e1.2, B.2⟩))
def rc_state (i_R : Nat → SX → SY → Prop) : Prop := ∀ (k : Nat) (u : SX) (v : SY), i_R k u v → k + 4 ≤ 2048 → wpX_state (fun r => wpY_state (fun r' => r' = r ∧ i_R (k + 4) u v) v) u
def ro_state (i_R : Nat → SX → SY → Prop) : Prop := ∀ (k : Nat) (u : SX) (v : SY), i_R k u v → k + 4 ≤ 2048 → wpX_state (fun r => wpY_state (fun r' => i_R (k + 4) u v) v) u
theorem me_state {S : Int32 → Int32 → Prop} {k : Nat} {u : SX} {v w : SY} {ca cb : Int32} (hrow : wpX_state (fun r => wpY_state (fun r' => S r r') v ) u ) (hmine : wpX_state (fun r => wpY_state (fun r' => r' = r ∧ i_Rel k u w) w ) u ) (eA : wpY_state (fun r' => r' = ca) v ) (eB : wpY_state (fun r' => r' = cb) w ) : S cb ca :=
  nd_wpX_state _ _ _ hrow hmine (fun r A B => nd_wpY_state _ _ _ A eA (fun r1 s e1 => nd_wpY_state _ _ _ B eB (fun r2 s2 e2 => by
    rw [e1, ← s2.1, e2] at s
    exact s)))
def rc_read (i_R : Nat → SX → SY → Prop) : Prop := ∀ (k : Nat) (u : SX) (v : SY), i_R k u v → k + 4 ≤ 2048 → ∀ (v1 : Int32) (v2 : Int32), wpX_read (fun r u' => wpY_read (fun r' => r' = r ∧ i_R (k + 4) u' v) v v1 v2) u v1 v2
def ro_read (i_R : Nat → SX → SY → Prop) : Prop := ∀ (k : Nat) (u : SX) (v : SY), i_R k u v → k + 4 ≤ 2048 → ∀ (v1 : Int32) (v2 : Int32), wpX_read (fun r u' => wpY_read (fun r' => i_R (k + 4) u' v) v v1 v2) u v1 v2
theorem me_read {S : Int32 → Int32 → SX → Prop} {k : Nat} {u : SX} {v w : SY} {ca cb : Int32} {v1 v2 : Int32} (hrow : wpX_read (fun r u' => wpY_read (fun r' => S r r' u') v v1 v2) u v1 v2) (hmine : wpX_read (fun r u' => wpY_read (fun r' => r' = r ∧ i_Rel k u' w) w v1 v2) u v1 v2) (eA : wpY_read (fun r' => r' = ca) v v1 v2) (eB : wpY_read (fun r' => r' = cb) w v1 v2) : ∃ u', S cb ca u' ∧ i_Rel k u' w :=
  nd_wpX_read _ _ _ hrow hmine (fun r u' A B => nd_wpY_read _ _ _ A eA (fun r1 s e1 => nd_wpY_read _ _ _ B eB (fun r2 s2 e2 => by
    rw [e1, ← s2.1, e2] at s
    exact ⟨u', s, s2.2⟩)))
def rc_write (i_R : Nat → SX → SY → Prop) : Prop := ∀ (k : Nat) (u : SX) (v : SY), i_R k u v → k + 4 ≤ 2048 → ∀ (v1 : Int32) (v2 : Int32) (v3 : Int32), wpX_write (fun r u' => wpY_write (fun r' v' => r' = r ∧ i_R (k + 4) u' v') v v1 v2 v3) u v1 v2 v3
def ro_write (i_R : Nat → SX → SY → Prop) : Prop := ∀ (k : Nat) (u : SX) (v : SY), i_R k u v → k + 4 ≤ 2048 → ∀ (v1 : Int32) (v2 : Int32) (v3 : Int32), wpX_write (fun r u' => wpY_write (fun r' v' => i_R (k + 4) u' v') v v1 v2 v3) u v1 v2 v3
theorem me_write {S : Int32 → Int32 → SX → SY → Prop} {k : Nat} {u : SX} {v w : SY} {ca cb : Int32} {FA FB : SY → Prop} {v1 v2 v3 : Int32} (hrow : wpX_write (fun r u' => wpY_write (fun r' v' => S r r' u' v') v v1 v2 v3) u v1 v2 v3) (hmine : wpX_write (fun r u' => wpY_write (fun r' v' => r' = r ∧ i_Rel k u' v') w v1 v2 v3) u v1 v2 v3) (eA : wpY_write (fun r' v' => r' = ca ∧ FA v') v v1 v2 v3) (eB : wpY_write (fun r' v' => r' = cb ∧ FB v') w v1 v2 v3) : ∃ u' va vb, S cb ca u' va ∧ FA va ∧ FB vb ∧ i_Rel k u' vb :=
  nd_wpX_write _ _ _ hrow hmine (fun r u' A B => nd_wpY_write _ _ _ A eA (fun r1 v1 s e1 => nd_wpY_write _ _ _ B eB (fun r2 v2 s2 e2 => by
    rw [e1.1, ← s2.1, e2.1] at s
    exact ⟨u', v1, v2, s, e1.2, e2.2, s2.2⟩)))
theorem mx_write {S : Int32 → Int32 → SX → SY → Prop} {u : SX} {v : SY} {ca cb : Int32} {FA : SY → Prop} {FX : SX → Prop} {v1 v2 v3 : Int32} (hrow : wpX_write (fun r u' => wpY_write (fun r' v' => S r r' u' v') v v1 v2 v3) u v1 v2 v3) (hmine : wpX_write (fun r u' => r = cb ∧ FX u') u v1 v2 v3) (eA : wpY_write (fun r' v' => r' = ca ∧ FA v') v v1 v2 v3) : ∃ u' va, S cb ca u' va ∧ FA va ∧ FX u' :=
  nd_wpX_write _ _ _ hrow hmine (fun r u' A B => nd_wpY_write _ _ _ A eA (fun r1 v1 s e1 => by
    rw [e1.1, B.1] at s
    exact ⟨u', v1, s, e1.2, B.2⟩))
def rc_fill (i_R : Nat → SX → SY → Prop) : Prop := ∀ (k : Nat) (u : SX) (v : SY), i_R k u v → k + 4 ≤ 2048 → ∀ (v1 : Int32) (v2 : Int32) (v3 : Int32), wpX_fill (fun r u' => wpY_fill (fun r' v' => r' = r ∧ i_R (k + 4) u' v') v v1 v2 v3) u v1 v2 v3
def ro_fill (i_R : Nat → SX → SY → Prop) : Prop := ∀ (k : Nat) (u : SX) (v : SY), i_R k u v → k + 4 ≤ 2048 → ∀ (v1 : Int32) (v2 : Int32) (v3 : Int32), wpX_fill (fun r u' => wpY_fill (fun r' v' => i_R (k + 4) u' v') v v1 v2 v3) u v1 v2 v3
theorem me_fill {S : Int32 → Int32 → SX → SY → Prop} {k : Nat} {u : SX} {v w : SY} {ca cb : Int32} {FA FB : SY → Prop} {v1 v2 v3 : Int32} (hrow : wpX_fill (fun r u' => wpY_fill (fun r' v' => S r r' u' v') v v1 v2 v3) u v1 v2 v3) (hmine : wpX_fill (fun r u' => wpY_fill (fun r' v' => r' = r ∧ i_Rel k u' v') w v1 v2 v3) u v1 v2 v3) (eA : wpY_fill (fun r' v' => r' = ca ∧ FA v') v v1 v2 v3) (eB : wpY_fill (fun r' v' => r' = cb ∧ FB v') w v1 v2 v3) : ∃ u' va vb, S cb ca u' va ∧ FA va ∧ FB vb ∧ i_Rel k u' vb :=
  nd_wpX_fill _ _ _ hrow hmine (fun r u' A B => nd_wpY_fill _ _ _ A eA (fun r1 v1 s e1 => nd_wpY_fill _ _ _ B eB (fun r2 v2 s2 e2 => by
    rw [e1.1, ← s2.1, e2.1] at s
    exact ⟨u', v1, v2, s, e1.2, e2.2, s2.2⟩)))
theorem mx_fill {S : Int32 → Int32 → SX → SY → Prop} {u : SX} {v : SY} {ca cb : Int32} {FA : SY → Prop} {FX : SX → Prop} {v1 v2 v3 : Int32} (hrow : wpX_fill (fun r u' => wpY_fill (fun r' v' => S r r' u' v') v v1 v2 v3) u v1 v2 v3) (hmine : wpX_fill (fun r u' => r = cb ∧ FX u') u v1 v2 v3) (eA : wpY_fill (fun r' v' => r' = ca ∧ FA v') v v1 v2 v3) : ∃ u' va, S cb ca u' va ∧ FA va ∧ FX u' :=
  nd_wpX_fill _ _ _ hrow hmine (fun r u' A B => nd_wpY_fill _ _ _ A eA (fun r1 v1 s e1 => by
    rw [e1.1, B.1] at s
    exact ⟨u', v1, s, e1.2, B.2⟩))
def rc_check (i_R : Nat → SX → SY → Prop) : Prop := ∀ (k : Nat) (u : SX) (v : SY), i_R k u v → k + 4 ≤ 2048 → ∀ (v1 : Int32), wpX_check (fun r => wpY_check (fun r' => r' = r ∧ i_R (k + 4) u v) v v1) u v1
def ro_check (i_R : Nat → SX → SY → Prop) : Prop := ∀ (k : Nat) (u : SX) (v : SY), i_R k u v → k + 4 ≤ 2048 → ∀ (v1 : Int32), wpX_check (fun r => wpY_check (fun r' => i_R (k + 4) u v) v v1) u v1
theorem me_check {S : Int32 → Int32 → Prop} {k : Nat} {u : SX} {v w : SY} {ca cb : Int32} {v1 : Int32} (hrow : wpX_check (fun r => wpY_check (fun r' => S r r') v v1) u v1) (hmine : wpX_check (fun r => wpY_check (fun r' => r' = r ∧ i_Rel k u w) w v1) u v1) (eA : wpY_check (fun r' => r' = ca) v v1) (eB : wpY_check (fun r' => r' = cb) w v1) : S cb ca :=
  nd_wpX_check _ _ _ hrow hmine (fun r A B => nd_wpY_check _ _ _ A eA (fun r1 s e1 => nd_wpY_check _ _ _ B eB (fun r2 s2 e2 => by
    rw [e1, ← s2.1, e2] at s
    exact s)))
def rc_digest (i_R : Nat → SX → SY → Prop) : Prop := ∀ (k : Nat) (u : SX) (v : SY), i_R k u v → k + 4 ≤ 2048 → wpX_digest (fun r u' => wpY_digest (fun r' => r' = r ∧ i_R (k + 4) u' v) v) u
def ro_digest (i_R : Nat → SX → SY → Prop) : Prop := ∀ (k : Nat) (u : SX) (v : SY), i_R k u v → k + 4 ≤ 2048 → wpX_digest (fun r u' => wpY_digest (fun r' => i_R (k + 4) u' v) v) u
theorem me_digest {S : Int32 → Int32 → SX → Prop} {k : Nat} {u : SX} {v w : SY} {ca cb : Int32} (hrow : wpX_digest (fun r u' => wpY_digest (fun r' => S r r' u') v ) u ) (hmine : wpX_digest (fun r u' => wpY_digest (fun r' => r' = r ∧ i_Rel k u' w) w ) u ) (eA : wpY_digest (fun r' => r' = ca) v ) (eB : wpY_digest (fun r' => r' = cb) w ) : ∃ u', S cb ca u' ∧ i_Rel k u' w :=
  nd_wpX_digest _ _ _ hrow hmine (fun r u' A B => nd_wpY_digest _ _ _ A eA (fun r1 s e1 => nd_wpY_digest _ _ _ B eB (fun r2 s2 e2 => by
    rw [e1, ← s2.1, e2] at s
    exact ⟨u', s, s2.2⟩)))
def rc_addKey (i_R : Nat → SX → SY → Prop) : Prop := ∀ (k : Nat) (u : SX) (v : SY), i_R k u v → k + 4 ≤ 2048 → ∀ (v1 : Int32), wpX_addKey (fun r u' => wpY_addKey (fun r' v' => r' = r ∧ i_R (k + 4) u' v') v v1) u v1
def ro_addKey (i_R : Nat → SX → SY → Prop) : Prop := ∀ (k : Nat) (u : SX) (v : SY), i_R k u v → k + 4 ≤ 2048 → ∀ (v1 : Int32), wpX_addKey (fun r u' => wpY_addKey (fun r' v' => i_R (k + 4) u' v') v v1) u v1
theorem me_addKey {S : Int32 → Int32 → SX → SY → Prop} {k : Nat} {u : SX} {v w : SY} {ca cb : Int32} {FA FB : SY → Prop} {v1 : Int32} (hrow : wpX_addKey (fun r u' => wpY_addKey (fun r' v' => S r r' u' v') v v1) u v1) (hmine : wpX_addKey (fun r u' => wpY_addKey (fun r' v' => r' = r ∧ i_Rel k u' v') w v1) u v1) (eA : wpY_addKey (fun r' v' => r' = ca ∧ FA v') v v1) (eB : wpY_addKey (fun r' v' => r' = cb ∧ FB v') w v1) : ∃ u' va vb, S cb ca u' va ∧ FA va ∧ FB vb ∧ i_Rel k u' vb :=
  nd_wpX_addKey _ _ _ hrow hmine (fun r u' A B => nd_wpY_addKey _ _ _ A eA (fun r1 v1 s e1 => nd_wpY_addKey _ _ _ B eB (fun r2 v2 s2 e2 => by
    rw [e1.1, ← s2.1, e2.1] at s
    exact ⟨u', v1, v2, s, e1.2, e2.2, s2.2⟩)))
theorem mx_addKey {S : Int32 → Int32 → SX → SY → Prop} {u : SX} {v : SY} {ca cb : Int32} {FA : SY → Prop} {FX : SX → Prop} {v1 : Int32} (hrow : wpX_addKey (fun r u' => wpY_addKey (fun r' v' => S r r' u' v') v v1) u v1) (hmine : wpX_addKey (fun r u' => r = cb ∧ FX u') u v1) (eA : wpY_addKey (fun r' v' => r' = ca ∧ FA v') v v1) : ∃ u' va, S cb ca u' va ∧ FA va ∧ FX u' :=
  nd_wpX_addKey _ _ _ hrow hmine (fun r u' A B => nd_wpY_addKey _ _ _ A eA (fun r1 v1 s e1 => by
    rw [e1.1, B.1] at s
    exact ⟨u', v1, s, e1.2, B.2⟩))
def rc_removeKey (i_R : Nat → SX → SY → Prop) : Prop := ∀ (k : Nat) (u : SX) (v : SY), i_R k u v → k + 4 ≤ 2048 → ∀ (v1 : Int32), wpX_removeKey (fun r u' => wpY_removeKey (fun r' v' => r' = r ∧ i_R (k + 4) u' v') v v1) u v1
def ro_removeKey (i_R : Nat → SX → SY → Prop) : Prop := ∀ (k : Nat) (u : SX) (v : SY), i_R k u v → k + 4 ≤ 2048 → ∀ (v1 : Int32), wpX_removeKey (fun r u' => wpY_removeKey (fun r' v' => i_R (k + 4) u' v') v v1) u v1
theorem me_removeKey {S : Int32 → Int32 → SX → SY → Prop} {k : Nat} {u : SX} {v w : SY} {ca cb : Int32} {FA FB : SY → Prop} {v1 : Int32} (hrow : wpX_removeKey (fun r u' => wpY_removeKey (fun r' v' => S r r' u' v') v v1) u v1) (hmine : wpX_removeKey (fun r u' => wpY_removeKey (fun r' v' => r' = r ∧ i_Rel k u' v') w v1) u v1) (eA : wpY_removeKey (fun r' v' => r' = ca ∧ FA v') v v1) (eB : wpY_removeKey (fun r' v' => r' = cb ∧ FB v') w v1) : ∃ u' va vb, S cb ca u' va ∧ FA va ∧ FB vb ∧ i_Rel k u' vb :=
  nd_wpX_removeKey _ _ _ hrow hmine (fun r u' A B => nd_wpY_removeKey _ _ _ A eA (fun r1 v1 s e1 => nd_wpY_removeKey _ _ _ B eB (fun r2 v2 s2 e2 => by
    rw [e1.1, ← s2.1, e2.1] at s
    exact ⟨u', v1, v2, s, e1.2, e2.2, s2.2⟩)))
theorem mx_removeKey {S : Int32 → Int32 → SX → SY → Prop} {u : SX} {v : SY} {ca cb : Int32} {FA : SY → Prop} {FX : SX → Prop} {v1 : Int32} (hrow : wpX_removeKey (fun r u' => wpY_removeKey (fun r' v' => S r r' u' v') v v1) u v1) (hmine : wpX_removeKey (fun r u' => r = cb ∧ FX u') u v1) (eA : wpY_removeKey (fun r' v' => r' = ca ∧ FA v') v v1) : ∃ u' va, S cb ca u' va ∧ FA va ∧ FX u' :=
  nd_wpX_removeKey _ _ _ hrow hmine (fun r u' A B => nd_wpY_removeKey _ _ _ A eA (fun r1 v1 s e1 => by
    rw [e1.1, B.1] at s
    exact ⟨u', v1, s, e1.2, B.2⟩))
def rc_changeKey (i_R : Nat → SX → SY → Prop) : Prop := ∀ (k : Nat) (u : SX) (v : SY), i_R k u v → k + 4 ≤ 2048 → ∀ (v1 : Int32) (v2 : Int32), wpX_changeKey (fun r u' => wpY_changeKey (fun r' v' => r' = r ∧ i_R (k + 4) u' v') v v1 v2) u v1 v2
def ro_changeKey (i_R : Nat → SX → SY → Prop) : Prop := ∀ (k : Nat) (u : SX) (v : SY), i_R k u v → k + 4 ≤ 2048 → ∀ (v1 : Int32) (v2 : Int32), wpX_changeKey (fun r u' => wpY_changeKey (fun r' v' => i_R (k + 4) u' v') v v1 v2) u v1 v2
theorem me_changeKey {S : Int32 → Int32 → SX → SY → Prop} {k : Nat} {u : SX} {v w : SY} {ca cb : Int32} {FA FB : SY → Prop} {v1 v2 : Int32} (hrow : wpX_changeKey (fun r u' => wpY_changeKey (fun r' v' => S r r' u' v') v v1 v2) u v1 v2) (hmine : wpX_changeKey (fun r u' => wpY_changeKey (fun r' v' => r' = r ∧ i_Rel k u' v') w v1 v2) u v1 v2) (eA : wpY_changeKey (fun r' v' => r' = ca ∧ FA v') v v1 v2) (eB : wpY_changeKey (fun r' v' => r' = cb ∧ FB v') w v1 v2) : ∃ u' va vb, S cb ca u' va ∧ FA va ∧ FB vb ∧ i_Rel k u' vb :=
  nd_wpX_changeKey _ _ _ hrow hmine (fun r u' A B => nd_wpY_changeKey _ _ _ A eA (fun r1 v1 s e1 => nd_wpY_changeKey _ _ _ B eB (fun r2 v2 s2 e2 => by
    rw [e1.1, ← s2.1, e2.1] at s
    exact ⟨u', v1, v2, s, e1.2, e2.2, s2.2⟩)))
theorem mx_changeKey {S : Int32 → Int32 → SX → SY → Prop} {u : SX} {v : SY} {ca cb : Int32} {FA : SY → Prop} {FX : SX → Prop} {v1 v2 : Int32} (hrow : wpX_changeKey (fun r u' => wpY_changeKey (fun r' v' => S r r' u' v') v v1 v2) u v1 v2) (hmine : wpX_changeKey (fun r u' => r = cb ∧ FX u') u v1 v2) (eA : wpY_changeKey (fun r' v' => r' = ca ∧ FA v') v v1 v2) : ∃ u' va, S cb ca u' va ∧ FA va ∧ FX u' :=
  nd_wpX_changeKey _ _ _ hrow hmine (fun r u' A B => nd_wpY_changeKey _ _ _ A eA (fun r1 v1 s e1 => by
    rw [e1.1, B.1] at s
    exact ⟨u', v1, s, e1.2, B.2⟩))
def rc_slots (i_R : Nat → SX → SY → Prop) : Prop := ∀ (k : Nat) (u : SX) (v : SY), i_R k u v → k + 4 ≤ 2048 → wpX_slots (fun r => wpY_slots (fun r' => r' = r ∧ i_R (k + 4) u v) v) u
def ro_slots (i_R : Nat → SX → SY → Prop) : Prop := ∀ (k : Nat) (u : SX) (v : SY), i_R k u v → k + 4 ≤ 2048 → wpX_slots (fun r => wpY_slots (fun r' => i_R (k + 4) u v) v) u
theorem me_slots {S : Int32 → Int32 → Prop} {k : Nat} {u : SX} {v w : SY} {ca cb : Int32} (hrow : wpX_slots (fun r => wpY_slots (fun r' => S r r') v ) u ) (hmine : wpX_slots (fun r => wpY_slots (fun r' => r' = r ∧ i_Rel k u w) w ) u ) (eA : wpY_slots (fun r' => r' = ca) v ) (eB : wpY_slots (fun r' => r' = cb) w ) : S cb ca :=
  nd_wpX_slots _ _ _ hrow hmine (fun r A B => nd_wpY_slots _ _ _ A eA (fun r1 s e1 => nd_wpY_slots _ _ _ B eB (fun r2 s2 e2 => by
    rw [e1, ← s2.1, e2] at s
    exact s)))
def rc_slotOf (i_R : Nat → SX → SY → Prop) : Prop := ∀ (k : Nat) (u : SX) (v : SY), i_R k u v → k + 4 ≤ 2048 → ∀ (v1 : Int32), wpX_slotOf (fun r u' => wpY_slotOf (fun r' => r' = r ∧ i_R (k + 4) u' v) v v1) u v1
def ro_slotOf (i_R : Nat → SX → SY → Prop) : Prop := ∀ (k : Nat) (u : SX) (v : SY), i_R k u v → k + 4 ≤ 2048 → ∀ (v1 : Int32), wpX_slotOf (fun r u' => wpY_slotOf (fun r' => i_R (k + 4) u' v) v v1) u v1
theorem me_slotOf {S : Int32 → Int32 → SX → Prop} {k : Nat} {u : SX} {v w : SY} {ca cb : Int32} {v1 : Int32} (hrow : wpX_slotOf (fun r u' => wpY_slotOf (fun r' => S r r' u') v v1) u v1) (hmine : wpX_slotOf (fun r u' => wpY_slotOf (fun r' => r' = r ∧ i_Rel k u' w) w v1) u v1) (eA : wpY_slotOf (fun r' => r' = ca) v v1) (eB : wpY_slotOf (fun r' => r' = cb) w v1) : ∃ u', S cb ca u' ∧ i_Rel k u' w :=
  nd_wpX_slotOf _ _ _ hrow hmine (fun r u' A B => nd_wpY_slotOf _ _ _ A eA (fun r1 s e1 => nd_wpY_slotOf _ _ _ B eB (fun r2 s2 e2 => by
    rw [e1, ← s2.1, e2] at s
    exact ⟨u', s, s2.2⟩)))
def rc_renew (i_R : Nat → SX → SY → Prop) : Prop := ∀ (k : Nat) (u : SX) (v : SY), i_R k u v → k + 4 ≤ 2048 → ∀ (v1 : Int32), wpX_renew (fun r u' => wpY_renew (fun r' v' => r' = r ∧ i_R (k + 4) u' v') v v1) u v1
def ro_renew (i_R : Nat → SX → SY → Prop) : Prop := ∀ (k : Nat) (u : SX) (v : SY), i_R k u v → k + 4 ≤ 2048 → ∀ (v1 : Int32), wpX_renew (fun r u' => wpY_renew (fun r' v' => i_R (k + 4) u' v') v v1) u v1
theorem me_renew {S : Int32 → Int32 → SX → SY → Prop} {k : Nat} {u : SX} {v w : SY} {ca cb : Int32} {FA FB : SY → Prop} {v1 : Int32} (hrow : wpX_renew (fun r u' => wpY_renew (fun r' v' => S r r' u' v') v v1) u v1) (hmine : wpX_renew (fun r u' => wpY_renew (fun r' v' => r' = r ∧ i_Rel k u' v') w v1) u v1) (eA : wpY_renew (fun r' v' => r' = ca ∧ FA v') v v1) (eB : wpY_renew (fun r' v' => r' = cb ∧ FB v') w v1) : ∃ u' va vb, S cb ca u' va ∧ FA va ∧ FB vb ∧ i_Rel k u' vb :=
  nd_wpX_renew _ _ _ hrow hmine (fun r u' A B => nd_wpY_renew _ _ _ A eA (fun r1 v1 s e1 => nd_wpY_renew _ _ _ B eB (fun r2 v2 s2 e2 => by
    rw [e1.1, ← s2.1, e2.1] at s
    exact ⟨u', v1, v2, s, e1.2, e2.2, s2.2⟩)))
theorem mx_renew {S : Int32 → Int32 → SX → SY → Prop} {u : SX} {v : SY} {ca cb : Int32} {FA : SY → Prop} {FX : SX → Prop} {v1 : Int32} (hrow : wpX_renew (fun r u' => wpY_renew (fun r' v' => S r r' u' v') v v1) u v1) (hmine : wpX_renew (fun r u' => r = cb ∧ FX u') u v1) (eA : wpY_renew (fun r' v' => r' = ca ∧ FA v') v v1) : ∃ u' va, S cb ca u' va ∧ FA va ∧ FX u' :=
  nd_wpX_renew _ _ _ hrow hmine (fun r u' A B => nd_wpY_renew _ _ _ A eA (fun r1 v1 s e1 => by
    rw [e1.1, B.1] at s
    exact ⟨u', v1, s, e1.2, B.2⟩))
def rc_toRenew (i_R : Nat → SX → SY → Prop) : Prop := ∀ (k : Nat) (u : SX) (v : SY), i_R k u v → k + 4 ≤ 2048 → wpX_toRenew (fun r => wpY_toRenew (fun r' => r' = r ∧ i_R (k + 4) u v) v) u
def ro_toRenew (i_R : Nat → SX → SY → Prop) : Prop := ∀ (k : Nat) (u : SX) (v : SY), i_R k u v → k + 4 ≤ 2048 → wpX_toRenew (fun r => wpY_toRenew (fun r' => i_R (k + 4) u v) v) u
theorem me_toRenew {S : Int32 → Int32 → Prop} {k : Nat} {u : SX} {v w : SY} {ca cb : Int32} (hrow : wpX_toRenew (fun r => wpY_toRenew (fun r' => S r r') v ) u ) (hmine : wpX_toRenew (fun r => wpY_toRenew (fun r' => r' = r ∧ i_Rel k u w) w ) u ) (eA : wpY_toRenew (fun r' => r' = ca) v ) (eB : wpY_toRenew (fun r' => r' = cb) w ) : S cb ca :=
  nd_wpX_toRenew _ _ _ hrow hmine (fun r A B => nd_wpY_toRenew _ _ _ A eA (fun r1 s e1 => nd_wpY_toRenew _ _ _ B eB (fun r2 s2 e2 => by
    rw [e1, ← s2.1, e2] at s
    exact s)))
def rc_saveSlots (i_R : Nat → SX → SY → Prop) : Prop := ∀ (k : Nat) (u : SX) (v : SY), i_R k u v → k + 4 ≤ 2048 → wpX_saveSlots (fun r u' => wpY_saveSlots (fun r' v' => r' = r ∧ i_R (k + 4) u' v') v) u
def ro_saveSlots (i_R : Nat → SX → SY → Prop) : Prop := ∀ (k : Nat) (u : SX) (v : SY), i_R k u v → k + 4 ≤ 2048 → wpX_saveSlots (fun r u' => wpY_saveSlots (fun r' v' => i_R (k + 4) u' v') v) u
theorem me_saveSlots {S : Int32 → Int32 → SX → SY → Prop} {k : Nat} {u : SX} {v w : SY} {ca cb : Int32} {FA FB : SY → Prop} (hrow : wpX_saveSlots (fun r u' => wpY_saveSlots (fun r' v' => S r r' u' v') v ) u ) (hmine : wpX_saveSlots (fun r u' => wpY_saveSlots (fun r' v' => r' = r ∧ i_Rel k u' v') w ) u ) (eA : wpY_saveSlots (fun r' v' => r' = ca ∧ FA v') v ) (eB : wpY_saveSlots (fun r' v' => r' = cb ∧ FB v') w ) : ∃ u' va vb, S cb ca u' va ∧ FA va ∧ FB vb ∧ i_Rel k u' vb :=
  nd_wpX_saveSlots _ _ _ hrow hmine (fun r u' A B => nd_wpY_saveSlots _ _ _ A eA (fun r1 v1 s e1 => nd_wpY_saveSlots _ _ _ B eB (fun r2 v2 s2 e2 => by
    rw [e1.1, ← s2.1, e2.1] at s
    exact ⟨u', v1, v2, s, e1.2, e2.2, s2.2⟩)))
theorem mx_saveSlots {S : Int32 → Int32 → SX → SY → Prop} {u : SX} {v : SY} {ca cb : Int32} {FA : SY → Prop} {FX : SX → Prop} (hrow : wpX_saveSlots (fun r u' => wpY_saveSlots (fun r' v' => S r r' u' v') v ) u ) (hmine : wpX_saveSlots (fun r u' => r = cb ∧ FX u') u ) (eA : wpY_saveSlots (fun r' v' => r' = ca ∧ FA v') v ) : ∃ u' va, S cb ca u' va ∧ FA va ∧ FX u' :=
  nd_wpX_saveSlots _ _ _ hrow hmine (fun r u' A B => nd_wpY_saveSlots _ _ _ A eA (fun r1 v1 s e1 => by
    rw [e1.1, B.1] at s
    exact ⟨u', v1, s, e1.2, B.2⟩))
def rc_restoreSlots (i_R : Nat → SX → SY → Prop) : Prop := ∀ (k : Nat) (u : SX) (v : SY), i_R k u v → k + 4 ≤ 2048 → wpX_restoreSlots (fun r u' => wpY_restoreSlots (fun r' v' => r' = r ∧ i_R (k + 4) u' v') v) u
def ro_restoreSlots (i_R : Nat → SX → SY → Prop) : Prop := ∀ (k : Nat) (u : SX) (v : SY), i_R k u v → k + 4 ≤ 2048 → wpX_restoreSlots (fun r u' => wpY_restoreSlots (fun r' v' => i_R (k + 4) u' v') v) u
theorem me_restoreSlots {S : Int32 → Int32 → SX → SY → Prop} {k : Nat} {u : SX} {v w : SY} {ca cb : Int32} {FA FB : SY → Prop} (hrow : wpX_restoreSlots (fun r u' => wpY_restoreSlots (fun r' v' => S r r' u' v') v ) u ) (hmine : wpX_restoreSlots (fun r u' => wpY_restoreSlots (fun r' v' => r' = r ∧ i_Rel k u' v') w ) u ) (eA : wpY_restoreSlots (fun r' v' => r' = ca ∧ FA v') v ) (eB : wpY_restoreSlots (fun r' v' => r' = cb ∧ FB v') w ) : ∃ u' va vb, S cb ca u' va ∧ FA va ∧ FB vb ∧ i_Rel k u' vb :=
  nd_wpX_restoreSlots _ _ _ hrow hmine (fun r u' A B => nd_wpY_restoreSlots _ _ _ A eA (fun r1 v1 s e1 => nd_wpY_restoreSlots _ _ _ B eB (fun r2 v2 s2 e2 => by
    rw [e1.1, ← s2.1, e2.1] at s
    exact ⟨u', v1, v2, s, e1.2, e2.2, s2.2⟩)))
theorem mx_restoreSlots {S : Int32 → Int32 → SX → SY → Prop} {u : SX} {v : SY} {ca cb : Int32} {FA : SY → Prop} {FX : SX → Prop} (hrow : wpX_restoreSlots (fun r u' => wpY_restoreSlots (fun r' v' => S r r' u' v') v ) u ) (hmine : wpX_restoreSlots (fun r u' => r = cb ∧ FX u') u ) (eA : wpY_restoreSlots (fun r' v' => r' = ca ∧ FA v') v ) : ∃ u' va, S cb ca u' va ∧ FA va ∧ FX u' :=
  nd_wpX_restoreSlots _ _ _ hrow hmine (fun r u' A B => nd_wpY_restoreSlots _ _ _ A eA (fun r1 v1 s e1 => by
    rw [e1.1, B.1] at s
    exact ⟨u', v1, s, e1.2, B.2⟩))
def rc_damage (i_R : Nat → SX → SY → Prop) : Prop := ∀ (k : Nat) (u : SX) (v : SY), i_R k u v → k + 4 ≤ 2048 → ∀ (v1 : Int32) (v2 : Int32), wpX_damage (fun r u' => wpY_damage (fun r' v' => r' = r ∧ i_R (k + 4) u' v') v v1 v2) u v1 v2
def ro_damage (i_R : Nat → SX → SY → Prop) : Prop := ∀ (k : Nat) (u : SX) (v : SY), i_R k u v → k + 4 ≤ 2048 → ∀ (v1 : Int32) (v2 : Int32), wpX_damage (fun r u' => wpY_damage (fun r' v' => i_R (k + 4) u' v') v v1 v2) u v1 v2
theorem me_damage {S : Int32 → Int32 → SX → SY → Prop} {k : Nat} {u : SX} {v w : SY} {ca cb : Int32} {FA FB : SY → Prop} {v1 v2 : Int32} (hrow : wpX_damage (fun r u' => wpY_damage (fun r' v' => S r r' u' v') v v1 v2) u v1 v2) (hmine : wpX_damage (fun r u' => wpY_damage (fun r' v' => r' = r ∧ i_Rel k u' v') w v1 v2) u v1 v2) (eA : wpY_damage (fun r' v' => r' = ca ∧ FA v') v v1 v2) (eB : wpY_damage (fun r' v' => r' = cb ∧ FB v') w v1 v2) : ∃ u' va vb, S cb ca u' va ∧ FA va ∧ FB vb ∧ i_Rel k u' vb :=
  nd_wpX_damage _ _ _ hrow hmine (fun r u' A B => nd_wpY_damage _ _ _ A eA (fun r1 v1 s e1 => nd_wpY_damage _ _ _ B eB (fun r2 v2 s2 e2 => by
    rw [e1.1, ← s2.1, e2.1] at s
    exact ⟨u', v1, v2, s, e1.2, e2.2, s2.2⟩)))
theorem mx_damage {S : Int32 → Int32 → SX → SY → Prop} {u : SX} {v : SY} {ca cb : Int32} {FA : SY → Prop} {FX : SX → Prop} {v1 v2 : Int32} (hrow : wpX_damage (fun r u' => wpY_damage (fun r' v' => S r r' u' v') v v1 v2) u v1 v2) (hmine : wpX_damage (fun r u' => r = cb ∧ FX u') u v1 v2) (eA : wpY_damage (fun r' v' => r' = ca ∧ FA v') v v1 v2) : ∃ u' va, S cb ca u' va ∧ FA va ∧ FX u' :=
  nd_wpX_damage _ _ _ hrow hmine (fun r u' A B => nd_wpY_damage _ _ _ A eA (fun r1 v1 s e1 => by
    rw [e1.1, B.1] at s
    exact ⟨u', v1, s, e1.2, B.2⟩))
def rc_crash (i_R : Nat → SX → SY → Prop) : Prop := ∀ (k : Nat) (u : SX) (v : SY), i_R k u v → k + 4 ≤ 2048 → ∀ (v1 : Int32), wpX_crash (fun r u' => wpY_crash (fun r' v' => r' = r ∧ i_R (k + 4) u' v') v v1) u v1
def ro_crash (i_R : Nat → SX → SY → Prop) : Prop := ∀ (k : Nat) (u : SX) (v : SY), i_R k u v → k + 4 ≤ 2048 → ∀ (v1 : Int32), wpX_crash (fun r u' => wpY_crash (fun r' v' => i_R (k + 4) u' v') v v1) u v1
theorem me_crash {S : Int32 → Int32 → SX → SY → Prop} {k : Nat} {u : SX} {v w : SY} {ca cb : Int32} {FA FB : SY → Prop} {v1 : Int32} (hrow : wpX_crash (fun r u' => wpY_crash (fun r' v' => S r r' u' v') v v1) u v1) (hmine : wpX_crash (fun r u' => wpY_crash (fun r' v' => r' = r ∧ i_Rel k u' v') w v1) u v1) (eA : wpY_crash (fun r' v' => r' = ca ∧ FA v') v v1) (eB : wpY_crash (fun r' v' => r' = cb ∧ FB v') w v1) : ∃ u' va vb, S cb ca u' va ∧ FA va ∧ FB vb ∧ i_Rel k u' vb :=
  nd_wpX_crash _ _ _ hrow hmine (fun r u' A B => nd_wpY_crash _ _ _ A eA (fun r1 v1 s e1 => nd_wpY_crash _ _ _ B eB (fun r2 v2 s2 e2 => by
    rw [e1.1, ← s2.1, e2.1] at s
    exact ⟨u', v1, v2, s, e1.2, e2.2, s2.2⟩)))
theorem mx_crash {S : Int32 → Int32 → SX → SY → Prop} {u : SX} {v : SY} {ca cb : Int32} {FA : SY → Prop} {FX : SX → Prop} {v1 : Int32} (hrow : wpX_crash (fun r u' => wpY_crash (fun r' v' => S r r' u' v') v v1) u v1) (hmine : wpX_crash (fun r u' => r = cb ∧ FX u') u v1) (eA : wpY_crash (fun r' v' => r' = ca ∧ FA v') v v1) : ∃ u' va, S cb ca u' va ∧ FA va ∧ FX u' :=
  nd_wpX_crash _ _ _ hrow hmine (fun r u' A B => nd_wpY_crash _ _ _ A eA (fun r1 v1 s e1 => by
    rw [e1.1, B.1] at s
    exact ⟨u', v1, s, e1.2, B.2⟩))
def rc_faults (i_R : Nat → SX → SY → Prop) : Prop := ∀ (k : Nat) (u : SX) (v : SY), i_R k u v → k + 4 ≤ 2048 → wpX_faults (fun r => wpY_faults (fun r' => r' = r ∧ i_R (k + 4) u v) v) u
def ro_faults (i_R : Nat → SX → SY → Prop) : Prop := ∀ (k : Nat) (u : SX) (v : SY), i_R k u v → k + 4 ≤ 2048 → wpX_faults (fun r => wpY_faults (fun r' => i_R (k + 4) u v) v) u
