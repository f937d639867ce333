/-! two walks of one method from one state meet: read off the predicates -/
theorem nd_b {c A B A' B' G : Prop} (hp : (c → A) ∧ (¬ c → B)) (hq : (c → A') ∧ (¬ c → B')) (k : A → A' → G) (l : B → B' → G) : G := by
  by_cases h : c
  · exact k (hp.1 h) (hq.1 h)
  · exact l (hp.2 h) (hq.2 h)
theorem nd_a {v A A' G : Prop} (hp : v ∧ A) (hq : v ∧ A') (k : A → A' → G) : G := k hp.2 hq.2
theorem nd_n {α : Sort _} {e : α} {A A' : α → Prop} {G : Prop} (hp : ∀ y, y = e → A y) (hq : ∀ y, y = e → A' y) (k : A e → A' e → G) : G := k (hp e rfl) (hq e rfl)
theorem nd_x {A A' : Nat → Prop} {G : Prop} (hp : ∃ n, A n) (hq : ∃ n, A' n) (k : ∀ n n', A n → A' n' → G) : G := by
  obtain ⟨n, hn⟩ := hp
  obtain ⟨m, hm⟩ := hq
  exact k n m hn hm
theorem nd_wX_scramble_144 (G : Prop) (P Q : SX → Prop) (h : ∀ a0, P a0 → Q a0 → G) {f_present : Int32} {f_open : Int32} {f_copied : Int32} {f_copyStale : Int32} {f_taken : Int32} {f_copyTaken : Int32} {f_volumeEpoch : Int32} {f_formats : Int32} :
    ∀ (n n' : Nat) (x1 : Int32) (a_kept : (Nat → Int32)) (a_epochs : (Nat → Int32)) (a_versions : (Nat → Int32)) (a_slotWords : (Nat → Int32)) (a_copyWords : (Nat → Int32)) (a_key : (Nat → Int32)) (a_seed : (Nat → Int32)) (a_stream : (Nat → Int32)) (a_work : (Nat → Int32)), wX_scramble_144 P f_present f_open f_copied f_copyStale f_taken f_copyTaken f_volumeEpoch f_formats n x1 a_kept a_epochs a_versions a_slotWords a_copyWords a_key a_seed a_stream a_work → wX_scramble_144 Q f_present f_open f_copied f_copyStale f_taken f_copyTaken f_volumeEpoch f_formats n' x1 a_kept a_epochs a_versions a_slotWords a_copyWords a_key a_seed a_stream a_work → G := by
  intro n
  induction n with
  | zero => intro n' x1 a_kept a_epochs a_versions a_slotWords a_copyWords a_key a_seed a_stream a_work hp; exact absurd hp (fun z => z)
  | succ n ih =>
    intro n' x1 a_kept a_epochs a_versions a_slotWords a_copyWords a_key a_seed a_stream a_work hp hq
    cases n' with
    | zero => exact absurd hq (fun z => z)
    | succ n' => exact nd_b hp hq (fun hp hq => h _ hp hq) (fun hp hq => nd_a hp hq (fun hp hq => nd_a hp hq (fun hp hq => nd_a hp hq (fun hp hq => nd_n hp hq (fun hp hq => nd_a hp hq (fun hp hq => nd_n hp hq (fun hp hq => nd_n hp hq (fun hp hq => ih _ _ _ _ _ _ _ _ _ _ _ hp hq))))))))
theorem nd_wpX_quarterRound (G : Prop) (P Q : SX → Prop) {u : SX} {p0 : Int32} {p1 : Int32} {p2 : Int32} {p3 : Int32} (hp : wpX_quarterRound P u p0 p1 p2 p3) (hq : wpX_quarterRound Q u p0 p1 p2 p3) (h : ∀ a0, P a0 → Q a0 → G) : G := by
  obtain ⟨_, _, _, _, _, _, _, _, _, _, _, _, _, _, _, _, _⟩ := u
  unfold wpX_quarterRound at hp hq
  exact nd_a hp hq (fun hp hq => nd_n hp hq (fun hp hq => nd_a hp hq (fun hp hq => nd_n hp hq (fun hp hq => nd_a hp hq (fun hp hq => nd_n hp hq (fun hp hq => nd_a hp hq (fun hp hq => nd_n hp hq (fun hp hq => nd_n hp hq (fun hp hq => nd_n hp hq (fun hp hq => nd_n hp hq (fun hp hq => nd_n hp hq (fun hp hq => nd_n hp hq (fun hp hq => nd_n hp hq (fun hp hq => nd_n hp hq (fun hp hq => nd_n hp hq (fun hp hq => nd_n hp hq (fun hp hq => nd_n hp hq (fun hp hq => nd_n hp hq (fun hp hq => nd_n hp hq (fun hp hq => nd_a hp hq (fun hp hq => nd_n hp hq (fun hp hq => nd_a hp hq (fun hp hq => nd_n hp hq (fun hp hq => nd_a hp hq (fun hp hq => nd_n hp hq (fun hp hq => nd_a hp hq (fun hp hq => nd_n hp hq (fun hp hq => h _ hp hq))))))))))))))))))))))))))))
theorem nd_wX_scramble_97 (G : Prop) (P Q : SX → Prop) (h : ∀ a0, P a0 → Q a0 → G) (J J' : Int32 → Int32 → Int32 → Int32 → Int32 → Int32 → Int32 → Int32 → Int32 → (Nat → Int32) → (Nat → Int32) → (Nat → Int32) → (Nat → Int32) → (Nat → Int32) → (Nat → Int32) → (Nat → Int32) → (Nat → Int32) → (Nat → Int32) → Prop) (hJ : ∀ z0 z1 z2 z3 z4 z5 z6 z7 z8 z9 z10 z11 z12 z13 z14 z15 z16 z17, J z0 z1 z2 z3 z4 z5 z6 z7 z8 z9 z10 z11 z12 z13 z14 z15 z16 z17 → J' z0 z1 z2 z3 z4 z5 z6 z7 z8 z9 z10 z11 z12 z13 z14 z15 z16 z17 → G) {x1 : Int32} :
    ∀ (n n' : Nat) (x2 : Int32) (f_present : Int32) (f_open : Int32) (f_copied : Int32) (f_copyStale : Int32) (f_taken : Int32) (f_copyTaken : Int32) (f_volumeEpoch : Int32) (f_formats : Int32) (a_kept : (Nat → Int32)) (a_epochs : (Nat → Int32)) (a_versions : (Nat → Int32)) (a_slotWords : (Nat → Int32)) (a_copyWords : (Nat → Int32)) (a_key : (Nat → Int32)) (a_seed : (Nat → Int32)) (a_stream : (Nat → Int32)) (a_work : (Nat → Int32)), wX_scramble_97 P J x1 n x2 f_present f_open f_copied f_copyStale f_taken f_copyTaken f_volumeEpoch f_formats a_kept a_epochs a_versions a_slotWords a_copyWords a_key a_seed a_stream a_work → wX_scramble_97 Q J' x1 n' x2 f_present f_open f_copied f_copyStale f_taken f_copyTaken f_volumeEpoch f_formats a_kept a_epochs a_versions a_slotWords a_copyWords a_key a_seed a_stream a_work → G := by
  intro n
  induction n with
  | zero => intro n' x2 f_present f_open f_copied f_copyStale f_taken f_copyTaken f_volumeEpoch f_formats a_kept a_epochs a_versions a_slotWords a_copyWords a_key a_seed a_stream a_work hp; exact absurd hp (fun z => z)
  | succ n ih =>
    intro n' x2 f_present f_open f_copied f_copyStale f_taken f_copyTaken f_volumeEpoch f_formats a_kept a_epochs a_versions a_slotWords a_copyWords a_key a_seed a_stream a_work hp hq
    cases n' with
    | zero => exact absurd hq (fun z => z)
    | succ n' => exact nd_b hp hq (fun hp hq => nd_n hp hq (fun hp hq => hJ _ _ _ _ _ _ _ _ _ _ _ _ _ _ _ _ _ _ hp hq)) (fun hp hq => nd_wpX_quarterRound G _ _ hp hq (fun  u hp hq => by
      obtain ⟨_, _, _, _, _, _, _, _, _, _, _, _, _, _, _, _, _⟩ := u
      exact nd_n hp hq (fun hp hq => ih _ _ _ _ _ _ _ _ _ _ _ _ _ _ _ _ _ _ _ hp hq)))
theorem nd_wX_scramble_68 (G : Prop) (P Q : SX → Prop) (h : ∀ a0, P a0 → Q a0 → G) (J J' : Int32 → Int32 → Int32 → Int32 → Int32 → Int32 → Int32 → Int32 → Int32 → (Nat → Int32) → (Nat → Int32) → (Nat → Int32) → (Nat → Int32) → (Nat → Int32) → (Nat → Int32) → (Nat → Int32) → (Nat → Int32) → (Nat → Int32) → Prop) (hJ : ∀ z0 z1 z2 z3 z4 z5 z6 z7 z8 z9 z10 z11 z12 z13 z14 z15 z16 z17, J z0 z1 z2 z3 z4 z5 z6 z7 z8 z9 z10 z11 z12 z13 z14 z15 z16 z17 → J' z0 z1 z2 z3 z4 z5 z6 z7 z8 z9 z10 z11 z12 z13 z14 z15 z16 z17 → G) {x1 : Int32} :
    ∀ (n n' : Nat) (x2 : Int32) (f_present : Int32) (f_open : Int32) (f_copied : Int32) (f_copyStale : Int32) (f_taken : Int32) (f_copyTaken : Int32) (f_volumeEpoch : Int32) (f_formats : Int32) (a_kept : (Nat → Int32)) (a_epochs : (Nat → Int32)) (a_versions : (Nat → Int32)) (a_slotWords : (Nat → Int32)) (a_copyWords : (Nat → Int32)) (a_key : (Nat → Int32)) (a_seed : (Nat → Int32)) (a_stream : (Nat → Int32)) (a_work : (Nat → Int32)), wX_scramble_68 P J x1 n x2 f_present f_open f_copied f_copyStale f_taken f_copyTaken f_volumeEpoch f_formats a_kept a_epochs a_versions a_slotWords a_copyWords a_key a_seed a_stream a_work → wX_scramble_68 Q J' x1 n' x2 f_present f_open f_copied f_copyStale f_taken f_copyTaken f_volumeEpoch f_formats a_kept a_epochs a_versions a_slotWords a_copyWords a_key a_seed a_stream a_work → G := by
  intro n
  induction n with
  | zero => intro n' x2 f_present f_open f_copied f_copyStale f_taken f_copyTaken f_volumeEpoch f_formats a_kept a_epochs a_versions a_slotWords a_copyWords a_key a_seed a_stream a_work hp; exact absurd hp (fun z => z)
  | succ n ih =>
    intro n' x2 f_present f_open f_copied f_copyStale f_taken f_copyTaken f_volumeEpoch f_formats a_kept a_epochs a_versions a_slotWords a_copyWords a_key a_seed a_stream a_work hp hq
    cases n' with
    | zero => exact absurd hq (fun z => z)
    | succ n' => exact nd_b hp hq (fun hp hq => nd_x hp hq (fun _ _ hp hq => nd_wX_scramble_97 G _ _ h _ _ hJ _ _ _ _ _ _ _ _ _ _ _ _ _ _ _ _ _ _ _ _ hp hq)) (fun hp hq => nd_wpX_quarterRound G _ _ hp hq (fun  u hp hq => by
      obtain ⟨_, _, _, _, _, _, _, _, _, _, _, _, _, _, _, _, _⟩ := u
      exact nd_n hp hq (fun hp hq => ih _ _ _ _ _ _ _ _ _ _ _ _ _ _ _ _ _ _ _ hp hq)))
theorem nd_wX_scramble_60 (G : Prop) (P Q : SX → Prop) (h : ∀ a0, P a0 → Q a0 → G)  :
    ∀ (n n' : Nat) (x1 : Int32) (f_present : Int32) (f_open : Int32) (f_copied : Int32) (f_copyStale : Int32) (f_taken : Int32) (f_copyTaken : Int32) (f_volumeEpoch : Int32) (f_formats : Int32) (a_kept : (Nat → Int32)) (a_epochs : (Nat → Int32)) (a_versions : (Nat → Int32)) (a_slotWords : (Nat → Int32)) (a_copyWords : (Nat → Int32)) (a_key : (Nat → Int32)) (a_seed : (Nat → Int32)) (a_stream : (Nat → Int32)) (a_work : (Nat → Int32)), wX_scramble_60 P n x1 f_present f_open f_copied f_copyStale f_taken f_copyTaken f_volumeEpoch f_formats a_kept a_epochs a_versions a_slotWords a_copyWords a_key a_seed a_stream a_work → wX_scramble_60 Q n' x1 f_present f_open f_copied f_copyStale f_taken f_copyTaken f_volumeEpoch f_formats a_kept a_epochs a_versions a_slotWords a_copyWords a_key a_seed a_stream a_work → G := by
  intro n
  induction n with
  | zero => intro n' x1 f_present f_open f_copied f_copyStale f_taken f_copyTaken f_volumeEpoch f_formats a_kept a_epochs a_versions a_slotWords a_copyWords a_key a_seed a_stream a_work hp; exact absurd hp (fun z => z)
  | succ n ih =>
    intro n' x1 f_present f_open f_copied f_copyStale f_taken f_copyTaken f_volumeEpoch f_formats a_kept a_epochs a_versions a_slotWords a_copyWords a_key a_seed a_stream a_work hp hq
    cases n' with
    | zero => exact absurd hq (fun z => z)
    | succ n' => exact nd_b hp hq (fun hp hq => nd_x hp hq (fun _ _ hp hq => nd_wX_scramble_144 G _ _ h _ _ _ _ _ _ _ _ _ _ _ _ hp hq)) (fun hp hq => nd_x hp hq (fun _ _ hp hq => nd_wX_scramble_68 G _ _ h _ _ (fun z0 z1 z2 z3 z4 z5 z6 z7 z8 z9 z10 z11 z12 z13 z14 z15 z16 z17 hp hq => ih _ z0 z1 z2 z3 z4 z5 z6 z7 z8 z9 z10 z11 z12 z13 z14 z15 z16 z17 hp hq) _ _ _ _ _ _ _ _ _ _ _ _ _ _ _ _ _ _ _ _ hp hq))
theorem nd_wX_scramble_34 (G : Prop) (P Q : SX → Prop) (h : ∀ a0, P a0 → Q a0 → G) {f_present : Int32} {f_open : Int32} {f_copied : Int32} {f_copyStale : Int32} {f_taken : Int32} {f_copyTaken : Int32} {f_volumeEpoch : Int32} {f_formats : Int32} :
    ∀ (n n' : Nat) (x1 : Int32) (a_kept : (Nat → Int32)) (a_epochs : (Nat → Int32)) (a_versions : (Nat → Int32)) (a_slotWords : (Nat → Int32)) (a_copyWords : (Nat → Int32)) (a_key : (Nat → Int32)) (a_seed : (Nat → Int32)) (a_stream : (Nat → Int32)) (a_work : (Nat → Int32)), wX_scramble_34 P f_present f_open f_copied f_copyStale f_taken f_copyTaken f_volumeEpoch f_formats n x1 a_kept a_epochs a_versions a_slotWords a_copyWords a_key a_seed a_stream a_work → wX_scramble_34 Q f_present f_open f_copied f_copyStale f_taken f_copyTaken f_volumeEpoch f_formats n' x1 a_kept a_epochs a_versions a_slotWords a_copyWords a_key a_seed a_stream a_work → G := by
  intro n
  induction n with
  | zero => intro n' x1 a_kept a_epochs a_versions a_slotWords a_copyWords a_key a_seed a_stream a_work hp; exact absurd hp (fun z => z)
  | succ n ih =>
    intro n' x1 a_kept a_epochs a_versions a_slotWords a_copyWords a_key a_seed a_stream a_work hp hq
    cases n' with
    | zero => exact absurd hq (fun z => z)
    | succ n' => exact nd_b hp hq (fun hp hq => nd_x hp hq (fun _ _ hp hq => nd_wX_scramble_60 G _ _ h _ _ _ _ _ _ _ _ _ _ _ _ _ _ _ _ _ _ _ _ hp hq)) (fun hp hq => nd_a hp hq (fun hp hq => nd_a hp hq (fun hp hq => nd_n hp hq (fun hp hq => nd_n hp hq (fun hp hq => ih _ _ _ _ _ _ _ _ _ _ _ hp hq)))))
theorem nd_wpX_scramble (G : Prop) (P Q : SX → Prop) {u : SX} (hp : wpX_scramble P u) (hq : wpX_scramble Q u) (h : ∀ a0, P a0 → Q a0 → G) : G := by
  obtain ⟨_, _, _, _, _, _, _, _, _, _, _, _, _, _, _, _, _⟩ := u
  unfold wpX_scramble at hp hq
  exact nd_n hp hq (fun hp hq => nd_n hp hq (fun hp hq => nd_n hp hq (fun hp hq => nd_n hp hq (fun hp hq => nd_x hp hq (fun _ _ hp hq => nd_wX_scramble_34 G _ _ h _ _ _ _ _ _ _ _ _ _ _ _ hp hq)))))
theorem nd_wpX_streamFromPassphrase (G : Prop) (P Q : SX → Prop) {u : SX} {p0 : Int32} {p1 : Int32} {p2 : Int32} (hp : wpX_streamFromPassphrase P u p0 p1 p2) (hq : wpX_streamFromPassphrase Q u p0 p1 p2) (h : ∀ a0, P a0 → Q a0 → G) : G := by
  obtain ⟨_, _, _, _, _, _, _, _, _, _, _, _, _, _, _, _, _⟩ := u
  unfold wpX_streamFromPassphrase at hp hq
  exact nd_n hp hq (fun hp hq => nd_n hp hq (fun hp hq => nd_n hp hq (fun hp hq => nd_wpX_scramble G _ _ hp hq (fun  u hp hq => by
  obtain ⟨_, _, _, _, _, _, _, _, _, _, _, _, _, _, _, _, _⟩ := u
  exact h _ hp hq))))
theorem nd_wX_makeKey_12 (G : Prop) (P Q : SX → Prop) (h : ∀ a0, P a0 → Q a0 → G) {f_present : Int32} {f_open : Int32} {f_copied : Int32} {f_copyStale : Int32} {f_taken : Int32} {f_copyTaken : Int32} {f_volumeEpoch : Int32} {f_formats : Int32} :
    ∀ (n n' : Nat) (x2 : Int32) (a_kept : (Nat → Int32)) (a_epochs : (Nat → Int32)) (a_versions : (Nat → Int32)) (a_slotWords : (Nat → Int32)) (a_copyWords : (Nat → Int32)) (a_key : (Nat → Int32)) (a_seed : (Nat → Int32)) (a_stream : (Nat → Int32)) (a_work : (Nat → Int32)), wX_makeKey_12 P f_present f_open f_copied f_copyStale f_taken f_copyTaken f_volumeEpoch f_formats n x2 a_kept a_epochs a_versions a_slotWords a_copyWords a_key a_seed a_stream a_work → wX_makeKey_12 Q f_present f_open f_copied f_copyStale f_taken f_copyTaken f_volumeEpoch f_formats n' x2 a_kept a_epochs a_versions a_slotWords a_copyWords a_key a_seed a_stream a_work → G := by
  intro n
  induction n with
  | zero => intro n' x2 a_kept a_epochs a_versions a_slotWords a_copyWords a_key a_seed a_stream a_work hp; exact absurd hp (fun z => z)
  | succ n ih =>
    intro n' x2 a_kept a_epochs a_versions a_slotWords a_copyWords a_key a_seed a_stream a_work hp hq
    cases n' with
    | zero => exact absurd hq (fun z => z)
    | succ n' => exact nd_b hp hq (fun hp hq => h _ hp hq) (fun hp hq => nd_a hp hq (fun hp hq => nd_a hp hq (fun hp hq => nd_n hp hq (fun hp hq => nd_n hp hq (fun hp hq => ih _ _ _ _ _ _ _ _ _ _ _ hp hq)))))
theorem nd_wpX_makeKey (G : Prop) (P Q : SX → Prop) {u : SX} {p0 : Int32} (hp : wpX_makeKey P u p0) (hq : wpX_makeKey Q u p0) (h : ∀ a0, P a0 → Q a0 → G) : G := by
  obtain ⟨_, _, _, _, _, _, _, _, _, _, _, _, _, _, _, _, _⟩ := u
  unfold wpX_makeKey at hp hq
  exact nd_wpX_streamFromPassphrase G _ _ hp hq (fun  u hp hq => by
  obtain ⟨_, _, _, _, _, _, _, _, _, _, _, _, _, _, _, _, _⟩ := u
  exact nd_x hp hq (fun _ _ hp hq => nd_wX_makeKey_12 G _ _ h _ _ _ _ _ _ _ _ _ _ _ _ hp hq))
theorem nd_wX_seedFromKey_2 (G : Prop) (P Q : SX → Prop) (h : ∀ a0, P a0 → Q a0 → G) {x1 : Int32} {x2 : Int32} {f_present : Int32} {f_open : Int32} {f_copied : Int32} {f_copyStale : Int32} {f_taken : Int32} {f_copyTaken : Int32} {f_volumeEpoch : Int32} {f_formats : Int32} :
    ∀ (n n' : Nat) (x3 : Int32) (a_kept : (Nat → Int32)) (a_epochs : (Nat → Int32)) (a_versions : (Nat → Int32)) (a_slotWords : (Nat → Int32)) (a_copyWords : (Nat → Int32)) (a_key : (Nat → Int32)) (a_seed : (Nat → Int32)) (a_stream : (Nat → Int32)) (a_work : (Nat → Int32)), wX_seedFromKey_2 P x1 x2 f_present f_open f_copied f_copyStale f_taken f_copyTaken f_volumeEpoch f_formats n x3 a_kept a_epochs a_versions a_slotWords a_copyWords a_key a_seed a_stream a_work → wX_seedFromKey_2 Q x1 x2 f_present f_open f_copied f_copyStale f_taken f_copyTaken f_volumeEpoch f_formats n' x3 a_kept a_epochs a_versions a_slotWords a_copyWords a_key a_seed a_stream a_work → G := by
  intro n
  induction n with
  | zero => intro n' x3 a_kept a_epochs a_versions a_slotWords a_copyWords a_key a_seed a_stream a_work hp; exact absurd hp (fun z => z)
  | succ n ih =>
    intro n' x3 a_kept a_epochs a_versions a_slotWords a_copyWords a_key a_seed a_stream a_work hp hq
    cases n' with
    | zero => exact absurd hq (fun z => z)
    | succ n' => exact nd_b hp hq (fun hp hq => nd_n hp hq (fun hp hq => nd_n hp hq (fun hp hq => nd_a hp hq (fun hp hq => nd_n hp hq (fun hp hq => h _ hp hq))))) (fun hp hq => nd_a hp hq (fun hp hq => nd_a hp hq (fun hp hq => nd_n hp hq (fun hp hq => nd_n hp hq (fun hp hq => ih _ _ _ _ _ _ _ _ _ _ _ hp hq)))))
theorem nd_wpX_seedFromKey (G : Prop) (P Q : SX → Prop) {u : SX} {p0 : Int32} {p1 : Int32} (hp : wpX_seedFromKey P u p0 p1) (hq : wpX_seedFromKey Q u p0 p1) (h : ∀ a0, P a0 → Q a0 → G) : G := by
  obtain ⟨_, _, _, _, _, _, _, _, _, _, _, _, _, _, _, _, _⟩ := u
  unfold wpX_seedFromKey at hp hq
  exact nd_x hp hq (fun _ _ hp hq => nd_wX_seedFromKey_2 G _ _ h _ _ _ _ _ _ _ _ _ _ _ _ hp hq)
theorem nd_wX_sumOf__work_6 (G : Prop) (P Q : Int32 → Prop) (h : ∀ a0, P a0 → Q a0 → G) {x2 : Int32} {f_present : Int32} {f_open : Int32} {f_copied : Int32} {f_copyStale : Int32} {f_taken : Int32} {f_copyTaken : Int32} {f_volumeEpoch : Int32} {f_formats : Int32} {a_kept : Nat → Int32} {a_epochs : Nat → Int32} {a_versions : Nat → Int32} {a_slotWords : Nat → Int32} {a_copyWords : Nat → Int32} {a_key : Nat → Int32} {a_seed : Nat → Int32} {a_stream : Nat → Int32} {a_work : Nat → Int32} :
    ∀ (n n' : Nat) (x3 : Int32) (x4 : Int32), wX_sumOf__work_6 P x2 f_present f_open f_copied f_copyStale f_taken f_copyTaken f_volumeEpoch f_formats a_kept a_epochs a_versions a_slotWords a_copyWords a_key a_seed a_stream a_work n x3 x4 → wX_sumOf__work_6 Q x2 f_present f_open f_copied f_copyStale f_taken f_copyTaken f_volumeEpoch f_formats a_kept a_epochs a_versions a_slotWords a_copyWords a_key a_seed a_stream a_work n' x3 x4 → G := by
  intro n
  induction n with
  | zero => intro n' x3 x4 hp; exact absurd hp (fun z => z)
  | succ n ih =>
    intro n' x3 x4 hp hq
    cases n' with
    | zero => exact absurd hq (fun z => z)
    | succ n' => exact nd_b hp hq (fun hp hq => h _ hp hq) (fun hp hq => nd_a hp hq (fun hp hq => nd_n hp hq (fun hp hq => nd_n hp hq (fun hp hq => ih _ _ _ hp hq))))
theorem nd_wpX_sumOf__work (G : Prop) (P Q : Int32 → Prop) {u : SX} {p1 : Int32} (hp : wpX_sumOf__work P u p1) (hq : wpX_sumOf__work Q u p1) (h : ∀ a0, P a0 → Q a0 → G) : G := by
  obtain ⟨_, _, _, _, _, _, _, _, _, _, _, _, _, _, _, _, _⟩ := u
  unfold wpX_sumOf__work at hp hq
  exact nd_x hp hq (fun _ _ hp hq => nd_wX_sumOf__work_6 G _ _ h _ _ _ _ hp hq)
theorem nd_wX_sealWork_12 (G : Prop) (P Q : SX → Prop) (h : ∀ a0, P a0 → Q a0 → G) {f_present : Int32} {f_open : Int32} {f_copied : Int32} {f_copyStale : Int32} {f_taken : Int32} {f_copyTaken : Int32} {f_volumeEpoch : Int32} {f_formats : Int32} :
    ∀ (n n' : Nat) (x3 : Int32) (a_kept : (Nat → Int32)) (a_epochs : (Nat → Int32)) (a_versions : (Nat → Int32)) (a_slotWords : (Nat → Int32)) (a_copyWords : (Nat → Int32)) (a_key : (Nat → Int32)) (a_seed : (Nat → Int32)) (a_stream : (Nat → Int32)) (a_work : (Nat → Int32)), wX_sealWork_12 P f_present f_open f_copied f_copyStale f_taken f_copyTaken f_volumeEpoch f_formats n x3 a_kept a_epochs a_versions a_slotWords a_copyWords a_key a_seed a_stream a_work → wX_sealWork_12 Q f_present f_open f_copied f_copyStale f_taken f_copyTaken f_volumeEpoch f_formats n' x3 a_kept a_epochs a_versions a_slotWords a_copyWords a_key a_seed a_stream a_work → G := by
  intro n
  induction n with
  | zero => intro n' x3 a_kept a_epochs a_versions a_slotWords a_copyWords a_key a_seed a_stream a_work hp; exact absurd hp (fun z => z)
  | succ n ih =>
    intro n' x3 a_kept a_epochs a_versions a_slotWords a_copyWords a_key a_seed a_stream a_work hp hq
    cases n' with
    | zero => exact absurd hq (fun z => z)
    | succ n' => exact nd_b hp hq (fun hp hq => nd_wpX_sumOf__work G _ _ hp hq (fun _ hp hq => nd_n hp hq (fun hp hq => h _ hp hq))) (fun hp hq => nd_a hp hq (fun hp hq => nd_a hp hq (fun hp hq => nd_a hp hq (fun hp hq => nd_n hp hq (fun hp hq => nd_n hp hq (fun hp hq => ih _ _ _ _ _ _ _ _ _ _ _ hp hq))))))
theorem nd_wpX_sealWork (G : Prop) (P Q : SX → Prop) {u : SX} {p0 : Int32} {p1 : Int32} (hp : wpX_sealWork P u p0 p1) (hq : wpX_sealWork Q u p0 p1) (h : ∀ a0, P a0 → Q a0 → G) : G := by
  obtain ⟨_, _, _, _, _, _, _, _, _, _, _, _, _, _, _, _, _⟩ := u
  unfold wpX_sealWork at hp hq
  exact nd_wpX_seedFromKey G _ _ hp hq (fun  u hp hq => by
  obtain ⟨_, _, _, _, _, _, _, _, _, _, _, _, _, _, _, _, _⟩ := u
  exact nd_wpX_scramble G _ _ hp hq (fun  u hp hq => by
  obtain ⟨_, _, _, _, _, _, _, _, _, _, _, _, _, _, _, _, _⟩ := u
  exact nd_x hp hq (fun _ _ hp hq => nd_wX_sealWork_12 G _ _ h _ _ _ _ _ _ _ _ _ _ _ _ hp hq)))
theorem nd_wpX_rowOf (G : Prop) (P Q : Int32 → Prop) {u : SX} {p0 : Int32} {p1 : Int32} (hp : wpX_rowOf P u p0 p1) (hq : wpX_rowOf Q u p0 p1) (h : ∀ a0, P a0 → Q a0 → G) : G := by
  obtain ⟨_, _, _, _, _, _, _, _, _, _, _, _, _, _, _, _, _⟩ := u
  unfold wpX_rowOf at hp hq
  exact h _ hp hq
theorem nd_wX_keepWork_2 (G : Prop) (P Q : SX → Prop) (h : ∀ a0, P a0 → Q a0 → G) {x1 : Int32} {x2 : Int32} {f_present : Int32} {f_open : Int32} {f_copied : Int32} {f_copyStale : Int32} {f_taken : Int32} {f_copyTaken : Int32} {f_volumeEpoch : Int32} {f_formats : Int32} :
    ∀ (n n' : Nat) (x3 : Int32) (a_kept : (Nat → Int32)) (a_epochs : (Nat → Int32)) (a_versions : (Nat → Int32)) (a_slotWords : (Nat → Int32)) (a_copyWords : (Nat → Int32)) (a_key : (Nat → Int32)) (a_seed : (Nat → Int32)) (a_stream : (Nat → Int32)) (a_work : (Nat → Int32)), wX_keepWork_2 P x1 x2 f_present f_open f_copied f_copyStale f_taken f_copyTaken f_volumeEpoch f_formats n x3 a_kept a_epochs a_versions a_slotWords a_copyWords a_key a_seed a_stream a_work → wX_keepWork_2 Q x1 x2 f_present f_open f_copied f_copyStale f_taken f_copyTaken f_volumeEpoch f_formats n' x3 a_kept a_epochs a_versions a_slotWords a_copyWords a_key a_seed a_stream a_work → G := by
  intro n
  induction n with
  | zero => intro n' x3 a_kept a_epochs a_versions a_slotWords a_copyWords a_key a_seed a_stream a_work hp; exact absurd hp (fun z => z)
  | succ n ih =>
    intro n' x3 a_kept a_epochs a_versions a_slotWords a_copyWords a_key a_seed a_stream a_work hp hq
    cases n' with
    | zero => exact absurd hq (fun z => z)
    | succ n' => exact nd_b hp hq (fun hp hq => h _ hp hq) (fun hp hq => nd_b hp hq (fun hp hq => h _ hp hq) (fun hp hq => nd_a hp hq (fun hp hq => nd_a hp hq (fun hp hq => nd_n hp hq (fun hp hq => nd_n hp hq (fun hp hq => ih _ _ _ _ _ _ _ _ _ _ _ hp hq))))))
theorem nd_wpX_keepWork (G : Prop) (P Q : SX → Prop) {u : SX} {p0 : Int32} {p1 : Int32} (hp : wpX_keepWork P u p0 p1) (hq : wpX_keepWork Q u p0 p1) (h : ∀ a0, P a0 → Q a0 → G) : G := by
  obtain ⟨_, _, _, _, _, _, _, _, _, _, _, _, _, _, _, _, _⟩ := u
  unfold wpX_keepWork at hp hq
  exact nd_x hp hq (fun _ _ hp hq => nd_wX_keepWork_2 G _ _ h _ _ _ _ _ _ _ _ _ _ _ _ hp hq)
theorem nd_wX_eraseSectors_44 (G : Prop) (P Q : SX → Prop) (h : ∀ a0, P a0 → Q a0 → G) (J J' : Int32 → Int32 → Int32 → Int32 → Int32 → Int32 → Int32 → Int32 → Int32 → (Nat → Int32) → (Nat → Int32) → (Nat → Int32) → (Nat → Int32) → (Nat → Int32) → (Nat → Int32) → (Nat → Int32) → (Nat → Int32) → (Nat → Int32) → Prop) (hJ : ∀ z0 z1 z2 z3 z4 z5 z6 z7 z8 z9 z10 z11 z12 z13 z14 z15 z16 z17, J z0 z1 z2 z3 z4 z5 z6 z7 z8 z9 z10 z11 z12 z13 z14 z15 z16 z17 → J' z0 z1 z2 z3 z4 z5 z6 z7 z8 z9 z10 z11 z12 z13 z14 z15 z16 z17 → G) {x1 : Int32} {f_present : Int32} {f_open : Int32} {f_copied : Int32} {f_copyStale : Int32} {f_taken : Int32} {f_copyTaken : Int32} {f_volumeEpoch : Int32} {f_formats : Int32} :
    ∀ (n n' : Nat) (x2 : Int32) (a_kept : (Nat → Int32)) (a_epochs : (Nat → Int32)) (a_versions : (Nat → Int32)) (a_slotWords : (Nat → Int32)) (a_copyWords : (Nat → Int32)) (a_key : (Nat → Int32)) (a_seed : (Nat → Int32)) (a_stream : (Nat → Int32)) (a_work : (Nat → Int32)), wX_eraseSectors_44 P J x1 f_present f_open f_copied f_copyStale f_taken f_copyTaken f_volumeEpoch f_formats n x2 a_kept a_epochs a_versions a_slotWords a_copyWords a_key a_seed a_stream a_work → wX_eraseSectors_44 Q J' x1 f_present f_open f_copied f_copyStale f_taken f_copyTaken f_volumeEpoch f_formats n' x2 a_kept a_epochs a_versions a_slotWords a_copyWords a_key a_seed a_stream a_work → G := by
  intro n
  induction n with
  | zero => intro n' x2 a_kept a_epochs a_versions a_slotWords a_copyWords a_key a_seed a_stream a_work hp; exact absurd hp (fun z => z)
  | succ n ih =>
    intro n' x2 a_kept a_epochs a_versions a_slotWords a_copyWords a_key a_seed a_stream a_work hp hq
    cases n' with
    | zero => exact absurd hq (fun z => z)
    | succ n' => exact nd_b hp hq (fun hp hq => nd_wpX_sealWork G _ _ hp hq (fun  u hp hq => by
      obtain ⟨_, _, _, _, _, _, _, _, _, _, _, _, _, _, _, _, _⟩ := u
      exact nd_wpX_rowOf G _ _ hp hq (fun _ hp hq => nd_wpX_keepWork G _ _ hp hq (fun  u hp hq => by
      obtain ⟨_, _, _, _, _, _, _, _, _, _, _, _, _, _, _, _, _⟩ := u
      exact nd_n hp hq (fun hp hq => hJ _ _ _ _ _ _ _ _ _ _ _ _ _ _ _ _ _ _ hp hq))))) (fun hp hq => nd_a hp hq (fun hp hq => nd_n hp hq (fun hp hq => nd_n hp hq (fun hp hq => ih _ _ _ _ _ _ _ _ _ _ _ hp hq))))
theorem nd_wX_eraseSectors_29 (G : Prop) (P Q : SX → Prop) (h : ∀ a0, P a0 → Q a0 → G)  :
    ∀ (n n' : Nat) (x1 : Int32) (f_present : Int32) (f_open : Int32) (f_copied : Int32) (f_copyStale : Int32) (f_taken : Int32) (f_copyTaken : Int32) (f_volumeEpoch : Int32) (f_formats : Int32) (a_kept : (Nat → Int32)) (a_epochs : (Nat → Int32)) (a_versions : (Nat → Int32)) (a_slotWords : (Nat → Int32)) (a_copyWords : (Nat → Int32)) (a_key : (Nat → Int32)) (a_seed : (Nat → Int32)) (a_stream : (Nat → Int32)) (a_work : (Nat → Int32)), wX_eraseSectors_29 P n x1 f_present f_open f_copied f_copyStale f_taken f_copyTaken f_volumeEpoch f_formats a_kept a_epochs a_versions a_slotWords a_copyWords a_key a_seed a_stream a_work → wX_eraseSectors_29 Q n' x1 f_present f_open f_copied f_copyStale f_taken f_copyTaken f_volumeEpoch f_formats a_kept a_epochs a_versions a_slotWords a_copyWords a_key a_seed a_stream a_work → G := by
  intro n
  induction n with
  | zero => intro n' x1 f_present f_open f_copied f_copyStale f_taken f_copyTaken f_volumeEpoch f_formats a_kept a_epochs a_versions a_slotWords a_copyWords a_key a_seed a_stream a_work hp; exact absurd hp (fun z => z)
  | succ n ih =>
    intro n' x1 f_present f_open f_copied f_copyStale f_taken f_copyTaken f_volumeEpoch f_formats a_kept a_epochs a_versions a_slotWords a_copyWords a_key a_seed a_stream a_work hp hq
    cases n' with
    | zero => exact absurd hq (fun z => z)
    | succ n' => exact nd_b hp hq (fun hp hq => h _ hp hq) (fun hp hq => nd_a hp hq (fun hp hq => nd_n hp hq (fun hp hq => nd_x hp hq (fun _ _ hp hq => nd_wX_eraseSectors_44 G _ _ h _ _ (fun z0 z1 z2 z3 z4 z5 z6 z7 z8 z9 z10 z11 z12 z13 z14 z15 z16 z17 hp hq => ih _ z0 z1 z2 z3 z4 z5 z6 z7 z8 z9 z10 z11 z12 z13 z14 z15 z16 z17 hp hq) _ _ _ _ _ _ _ _ _ _ _ _ hp hq))))
theorem nd_wX_eraseSectors_7 (G : Prop) (P Q : SX → Prop) (h : ∀ a0, P a0 → Q a0 → G) {f_present : Int32} {f_open : Int32} {f_copied : Int32} {f_copyStale : Int32} {f_taken : Int32} {f_copyTaken : Int32} {f_volumeEpoch : Int32} {f_formats : Int32} :
    ∀ (n n' : Nat) (x1 : Int32) (a_kept : (Nat → Int32)) (a_epochs : (Nat → Int32)) (a_versions : (Nat → Int32)) (a_slotWords : (Nat → Int32)) (a_copyWords : (Nat → Int32)) (a_key : (Nat → Int32)) (a_seed : (Nat → Int32)) (a_stream : (Nat → Int32)) (a_work : (Nat → Int32)), wX_eraseSectors_7 P f_present f_open f_copied f_copyStale f_taken f_copyTaken f_volumeEpoch f_formats n x1 a_kept a_epochs a_versions a_slotWords a_copyWords a_key a_seed a_stream a_work → wX_eraseSectors_7 Q f_present f_open f_copied f_copyStale f_taken f_copyTaken f_volumeEpoch f_formats n' x1 a_kept a_epochs a_versions a_slotWords a_copyWords a_key a_seed a_stream a_work → G := by
  intro n
  induction n with
  | zero => intro n' x1 a_kept a_epochs a_versions a_slotWords a_copyWords a_key a_seed a_stream a_work hp; exact absurd hp (fun z => z)
  | succ n ih =>
    intro n' x1 a_kept a_epochs a_versions a_slotWords a_copyWords a_key a_seed a_stream a_work hp hq
    cases n' with
    | zero => exact absurd hq (fun z => z)
    | succ n' => exact nd_b hp hq (fun hp hq => nd_x hp hq (fun _ _ hp hq => nd_wX_eraseSectors_29 G _ _ h _ _ _ _ _ _ _ _ _ _ _ _ _ _ _ _ _ _ _ _ hp hq)) (fun hp hq => nd_a hp hq (fun hp hq => nd_n hp hq (fun hp hq => nd_n hp hq (fun hp hq => ih _ _ _ _ _ _ _ _ _ _ _ hp hq))))
theorem nd_wpX_eraseSectors (G : Prop) (P Q : SX → Prop) {u : SX} (hp : wpX_eraseSectors P u) (hq : wpX_eraseSectors Q u) (h : ∀ a0, P a0 → Q a0 → G) : G := by
  obtain ⟨_, _, _, _, _, _, _, _, _, _, _, _, _, _, _, _, _⟩ := u
  unfold wpX_eraseSectors at hp hq
  exact nd_x hp hq (fun _ _ hp hq => nd_wX_eraseSectors_7 G _ _ h _ _ _ _ _ _ _ _ _ _ _ _ hp hq)
theorem nd_wX_eraseSlots_20 (G : Prop) (P Q : SX → Prop) (h : ∀ a0, P a0 → Q a0 → G) {f_present : Int32} {f_open : Int32} {f_copied : Int32} {f_copyStale : Int32} {f_taken : Int32} {f_copyTaken : Int32} {f_volumeEpoch : Int32} {f_formats : Int32} :
    ∀ (n n' : Nat) (x1 : Int32) (a_kept : (Nat → Int32)) (a_epochs : (Nat → Int32)) (a_versions : (Nat → Int32)) (a_slotWords : (Nat → Int32)) (a_copyWords : (Nat → Int32)) (a_key : (Nat → Int32)) (a_seed : (Nat → Int32)) (a_stream : (Nat → Int32)) (a_work : (Nat → Int32)), wX_eraseSlots_20 P f_present f_open f_copied f_copyStale f_taken f_copyTaken f_volumeEpoch f_formats n x1 a_kept a_epochs a_versions a_slotWords a_copyWords a_key a_seed a_stream a_work → wX_eraseSlots_20 Q f_present f_open f_copied f_copyStale f_taken f_copyTaken f_volumeEpoch f_formats n' x1 a_kept a_epochs a_versions a_slotWords a_copyWords a_key a_seed a_stream a_work → G := by
  intro n
  induction n with
  | zero => intro n' x1 a_kept a_epochs a_versions a_slotWords a_copyWords a_key a_seed a_stream a_work hp; exact absurd hp (fun z => z)
  | succ n ih =>
    intro n' x1 a_kept a_epochs a_versions a_slotWords a_copyWords a_key a_seed a_stream a_work hp hq
    cases n' with
    | zero => exact absurd hq (fun z => z)
    | succ n' => exact nd_b hp hq (fun hp hq => h _ hp hq) (fun hp hq => nd_a hp hq (fun hp hq => nd_n hp hq (fun hp hq => nd_n hp hq (fun hp hq => ih _ _ _ _ _ _ _ _ _ _ _ hp hq))))
theorem nd_wX_emptySlot_2 (G : Prop) (P Q : SX → Prop) (h : ∀ a0, P a0 → Q a0 → G) {x1 : Int32} {f_present : Int32} {f_open : Int32} {f_copied : Int32} {f_copyStale : Int32} {f_taken : Int32} {f_copyTaken : Int32} {f_volumeEpoch : Int32} {f_formats : Int32} :
    ∀ (n n' : Nat) (x2 : Int32) (a_kept : (Nat → Int32)) (a_epochs : (Nat → Int32)) (a_versions : (Nat → Int32)) (a_slotWords : (Nat → Int32)) (a_copyWords : (Nat → Int32)) (a_key : (Nat → Int32)) (a_seed : (Nat → Int32)) (a_stream : (Nat → Int32)) (a_work : (Nat → Int32)), wX_emptySlot_2 P x1 f_present f_open f_copied f_copyStale f_taken f_copyTaken f_volumeEpoch f_formats n x2 a_kept a_epochs a_versions a_slotWords a_copyWords a_key a_seed a_stream a_work → wX_emptySlot_2 Q x1 f_present f_open f_copied f_copyStale f_taken f_copyTaken f_volumeEpoch f_formats n' x2 a_kept a_epochs a_versions a_slotWords a_copyWords a_key a_seed a_stream a_work → G := by
  intro n
  induction n with
  | zero => intro n' x2 a_kept a_epochs a_versions a_slotWords a_copyWords a_key a_seed a_stream a_work hp; exact absurd hp (fun z => z)
  | succ n ih =>
    intro n' x2 a_kept a_epochs a_versions a_slotWords a_copyWords a_key a_seed a_stream a_work hp hq
    cases n' with
    | zero => exact absurd hq (fun z => z)
    | succ n' => exact nd_b hp hq (fun hp hq => nd_n hp hq (fun hp hq => h _ hp hq)) (fun hp hq => nd_a hp hq (fun hp hq => nd_n hp hq (fun hp hq => nd_n hp hq (fun hp hq => ih _ _ _ _ _ _ _ _ _ _ _ hp hq))))
theorem nd_wpX_emptySlot (G : Prop) (P Q : SX → Prop) {u : SX} {p0 : Int32} (hp : wpX_emptySlot P u p0) (hq : wpX_emptySlot Q u p0) (h : ∀ a0, P a0 → Q a0 → G) : G := by
  obtain ⟨_, _, _, _, _, _, _, _, _, _, _, _, _, _, _, _, _⟩ := u
  unfold wpX_emptySlot at hp hq
  exact nd_x hp hq (fun _ _ hp hq => nd_wX_emptySlot_2 G _ _ h _ _ _ _ _ _ _ _ _ _ _ _ hp hq)
theorem nd_wX_eraseSlots_2 (G : Prop) (P Q : SX → Prop) (h : ∀ a0, P a0 → Q a0 → G)  :
    ∀ (n n' : Nat) (x1 : Int32) (f_present : Int32) (f_open : Int32) (f_copied : Int32) (f_copyStale : Int32) (f_taken : Int32) (f_copyTaken : Int32) (f_volumeEpoch : Int32) (f_formats : Int32) (a_kept : (Nat → Int32)) (a_epochs : (Nat → Int32)) (a_versions : (Nat → Int32)) (a_slotWords : (Nat → Int32)) (a_copyWords : (Nat → Int32)) (a_key : (Nat → Int32)) (a_seed : (Nat → Int32)) (a_stream : (Nat → Int32)) (a_work : (Nat → Int32)), wX_eraseSlots_2 P n x1 f_present f_open f_copied f_copyStale f_taken f_copyTaken f_volumeEpoch f_formats a_kept a_epochs a_versions a_slotWords a_copyWords a_key a_seed a_stream a_work → wX_eraseSlots_2 Q n' x1 f_present f_open f_copied f_copyStale f_taken f_copyTaken f_volumeEpoch f_formats a_kept a_epochs a_versions a_slotWords a_copyWords a_key a_seed a_stream a_work → G := by
  intro n
  induction n with
  | zero => intro n' x1 f_present f_open f_copied f_copyStale f_taken f_copyTaken f_volumeEpoch f_formats a_kept a_epochs a_versions a_slotWords a_copyWords a_key a_seed a_stream a_work hp; exact absurd hp (fun z => z)
  | succ n ih =>
    intro n' x1 f_present f_open f_copied f_copyStale f_taken f_copyTaken f_volumeEpoch f_formats a_kept a_epochs a_versions a_slotWords a_copyWords a_key a_seed a_stream a_work hp hq
    cases n' with
    | zero => exact absurd hq (fun z => z)
    | succ n' => exact nd_b hp hq (fun hp hq => nd_x hp hq (fun _ _ hp hq => nd_wX_eraseSlots_20 G _ _ h _ _ _ _ _ _ _ _ _ _ _ _ hp hq)) (fun hp hq => nd_wpX_emptySlot G _ _ hp hq (fun  u hp hq => by
      obtain ⟨_, _, _, _, _, _, _, _, _, _, _, _, _, _, _, _, _⟩ := u
      exact nd_n hp hq (fun hp hq => ih _ _ _ _ _ _ _ _ _ _ _ _ _ _ _ _ _ _ _ hp hq)))
theorem nd_wpX_eraseSlots (G : Prop) (P Q : SX → Prop) {u : SX} (hp : wpX_eraseSlots P u) (hq : wpX_eraseSlots Q u) (h : ∀ a0, P a0 → Q a0 → G) : G := by
  obtain ⟨_, _, _, _, _, _, _, _, _, _, _, _, _, _, _, _, _⟩ := u
  unfold wpX_eraseSlots at hp hq
  exact nd_x hp hq (fun _ _ hp hq => nd_wX_eraseSlots_2 G _ _ h _ _ _ _ _ _ _ _ _ _ _ _ _ _ _ _ _ _ _ _ hp hq)
theorem nd_wX_putSlot_57 (G : Prop) (P Q : SX → Prop) (h : ∀ a0, P a0 → Q a0 → G) {x1 : Int32} {x3 : Int32} {f_present : Int32} {f_open : Int32} {f_copied : Int32} {f_copyStale : Int32} {f_taken : Int32} {f_copyTaken : Int32} {f_volumeEpoch : Int32} {f_formats : Int32} :
    ∀ (n n' : Nat) (x4 : Int32) (a_kept : (Nat → Int32)) (a_epochs : (Nat → Int32)) (a_versions : (Nat → Int32)) (a_slotWords : (Nat → Int32)) (a_copyWords : (Nat → Int32)) (a_key : (Nat → Int32)) (a_seed : (Nat → Int32)) (a_stream : (Nat → Int32)) (a_work : (Nat → Int32)), wX_putSlot_57 P x1 x3 f_present f_open f_copied f_copyStale f_taken f_copyTaken f_volumeEpoch f_formats n x4 a_kept a_epochs a_versions a_slotWords a_copyWords a_key a_seed a_stream a_work → wX_putSlot_57 Q x1 x3 f_present f_open f_copied f_copyStale f_taken f_copyTaken f_volumeEpoch f_formats n' x4 a_kept a_epochs a_versions a_slotWords a_copyWords a_key a_seed a_stream a_work → G := by
  intro n
  induction n with
  | zero => intro n' x4 a_kept a_epochs a_versions a_slotWords a_copyWords a_key a_seed a_stream a_work hp; exact absurd hp (fun z => z)
  | succ n ih =>
    intro n' x4 a_kept a_epochs a_versions a_slotWords a_copyWords a_key a_seed a_stream a_work hp hq
    cases n' with
    | zero => exact absurd hq (fun z => z)
    | succ n' => exact nd_b hp hq (fun hp hq => nd_n hp hq (fun hp hq => h _ hp hq)) (fun hp hq => nd_a hp hq (fun hp hq => nd_a hp hq (fun hp hq => nd_a hp hq (fun hp hq => nd_n hp hq (fun hp hq => nd_n hp hq (fun hp hq => ih _ _ _ _ _ _ _ _ _ _ _ hp hq))))))
theorem nd_wX_putSlot_15 (G : Prop) (P Q : SX → Prop) (h : ∀ a0, P a0 → Q a0 → G) {x1 : Int32} {x2 : Int32} {x3 : Int32} {f_present : Int32} {f_open : Int32} {f_copied : Int32} {f_copyStale : Int32} {f_taken : Int32} {f_copyTaken : Int32} {f_volumeEpoch : Int32} {f_formats : Int32} :
    ∀ (n n' : Nat) (x4 : Int32) (a_kept : (Nat → Int32)) (a_epochs : (Nat → Int32)) (a_versions : (Nat → Int32)) (a_slotWords : (Nat → Int32)) (a_copyWords : (Nat → Int32)) (a_key : (Nat → Int32)) (a_seed : (Nat → Int32)) (a_stream : (Nat → Int32)) (a_work : (Nat → Int32)), wX_putSlot_15 P x1 x2 x3 f_present f_open f_copied f_copyStale f_taken f_copyTaken f_volumeEpoch f_formats n x4 a_kept a_epochs a_versions a_slotWords a_copyWords a_key a_seed a_stream a_work → wX_putSlot_15 Q x1 x2 x3 f_present f_open f_copied f_copyStale f_taken f_copyTaken f_volumeEpoch f_formats n' x4 a_kept a_epochs a_versions a_slotWords a_copyWords a_key a_seed a_stream a_work → G := by
  intro n
  induction n with
  | zero => intro n' x4 a_kept a_epochs a_versions a_slotWords a_copyWords a_key a_seed a_stream a_work hp; exact absurd hp (fun z => z)
  | succ n ih =>
    intro n' x4 a_kept a_epochs a_versions a_slotWords a_copyWords a_key a_seed a_stream a_work hp hq
    cases n' with
    | zero => exact absurd hq (fun z => z)
    | succ n' => exact nd_b hp hq (fun hp hq => nd_wpX_streamFromPassphrase G _ _ hp hq (fun  u hp hq => by
      obtain ⟨_, _, _, _, _, _, _, _, _, _, _, _, _, _, _, _, _⟩ := u
      exact nd_x hp hq (fun _ _ hp hq => nd_wX_putSlot_57 G _ _ h _ _ _ _ _ _ _ _ _ _ _ _ hp hq))) (fun hp hq => nd_a hp hq (fun hp hq => nd_a hp hq (fun hp hq => nd_n hp hq (fun hp hq => nd_n hp hq (fun hp hq => ih _ _ _ _ _ _ _ _ _ _ _ hp hq)))))
theorem nd_wpX_putSlot (G : Prop) (P Q : SX → Prop) {u : SX} {p0 : Int32} {p1 : Int32} (hp : wpX_putSlot P u p0 p1) (hq : wpX_putSlot Q u p0 p1) (h : ∀ a0, P a0 → Q a0 → G) : G := by
  obtain ⟨_, _, _, _, _, _, _, _, _, _, _, _, _, _, _, _, _⟩ := u
  unfold wpX_putSlot at hp hq
  exact nd_n hp hq (fun hp hq => nd_wpX_streamFromPassphrase G _ _ hp hq (fun  u hp hq => by
  obtain ⟨_, _, _, _, _, _, _, _, _, _, _, _, _, _, _, _, _⟩ := u
  exact nd_x hp hq (fun _ _ hp hq => nd_wX_putSlot_15 G _ _ h _ _ _ _ _ _ _ _ _ _ _ _ hp hq)))
theorem nd_wX_forgetSecrets_44 (G : Prop) (P Q : SX → Prop) (h : ∀ a0, P a0 → Q a0 → G) {f_present : Int32} {f_open : Int32} {f_copied : Int32} {f_copyStale : Int32} {f_taken : Int32} {f_copyTaken : Int32} {f_volumeEpoch : Int32} {f_formats : Int32} :
    ∀ (n n' : Nat) (x1 : Int32) (a_kept : (Nat → Int32)) (a_epochs : (Nat → Int32)) (a_versions : (Nat → Int32)) (a_slotWords : (Nat → Int32)) (a_copyWords : (Nat → Int32)) (a_key : (Nat → Int32)) (a_seed : (Nat → Int32)) (a_stream : (Nat → Int32)) (a_work : (Nat → Int32)), wX_forgetSecrets_44 P f_present f_open f_copied f_copyStale f_taken f_copyTaken f_volumeEpoch f_formats n x1 a_kept a_epochs a_versions a_slotWords a_copyWords a_key a_seed a_stream a_work → wX_forgetSecrets_44 Q f_present f_open f_copied f_copyStale f_taken f_copyTaken f_volumeEpoch f_formats n' x1 a_kept a_epochs a_versions a_slotWords a_copyWords a_key a_seed a_stream a_work → G := by
  intro n
  induction n with
  | zero => intro n' x1 a_kept a_epochs a_versions a_slotWords a_copyWords a_key a_seed a_stream a_work hp; exact absurd hp (fun z => z)
  | succ n ih =>
    intro n' x1 a_kept a_epochs a_versions a_slotWords a_copyWords a_key a_seed a_stream a_work hp hq
    cases n' with
    | zero => exact absurd hq (fun z => z)
    | succ n' => exact nd_b hp hq (fun hp hq => h _ hp hq) (fun hp hq => nd_a hp hq (fun hp hq => nd_n hp hq (fun hp hq => nd_n hp hq (fun hp hq => ih _ _ _ _ _ _ _ _ _ _ _ hp hq))))
theorem nd_wX_forgetSecrets_23 (G : Prop) (P Q : SX → Prop) (h : ∀ a0, P a0 → Q a0 → G) {f_present : Int32} {f_open : Int32} {f_copied : Int32} {f_copyStale : Int32} {f_taken : Int32} {f_copyTaken : Int32} {f_volumeEpoch : Int32} {f_formats : Int32} :
    ∀ (n n' : Nat) (x1 : Int32) (a_kept : (Nat → Int32)) (a_epochs : (Nat → Int32)) (a_versions : (Nat → Int32)) (a_slotWords : (Nat → Int32)) (a_copyWords : (Nat → Int32)) (a_key : (Nat → Int32)) (a_seed : (Nat → Int32)) (a_stream : (Nat → Int32)) (a_work : (Nat → Int32)), wX_forgetSecrets_23 P f_present f_open f_copied f_copyStale f_taken f_copyTaken f_volumeEpoch f_formats n x1 a_kept a_epochs a_versions a_slotWords a_copyWords a_key a_seed a_stream a_work → wX_forgetSecrets_23 Q f_present f_open f_copied f_copyStale f_taken f_copyTaken f_volumeEpoch f_formats n' x1 a_kept a_epochs a_versions a_slotWords a_copyWords a_key a_seed a_stream a_work → G := by
  intro n
  induction n with
  | zero => intro n' x1 a_kept a_epochs a_versions a_slotWords a_copyWords a_key a_seed a_stream a_work hp; exact absurd hp (fun z => z)
  | succ n ih =>
    intro n' x1 a_kept a_epochs a_versions a_slotWords a_copyWords a_key a_seed a_stream a_work hp hq
    cases n' with
    | zero => exact absurd hq (fun z => z)
    | succ n' => exact nd_b hp hq (fun hp hq => nd_x hp hq (fun _ _ hp hq => nd_wX_forgetSecrets_44 G _ _ h _ _ _ _ _ _ _ _ _ _ _ _ hp hq)) (fun hp hq => nd_a hp hq (fun hp hq => nd_n hp hq (fun hp hq => nd_n hp hq (fun hp hq => ih _ _ _ _ _ _ _ _ _ _ _ hp hq))))
theorem nd_wX_forgetSecrets_2 (G : Prop) (P Q : SX → Prop) (h : ∀ a0, P a0 → Q a0 → G) {f_present : Int32} {f_open : Int32} {f_copied : Int32} {f_copyStale : Int32} {f_taken : Int32} {f_copyTaken : Int32} {f_volumeEpoch : Int32} {f_formats : Int32} :
    ∀ (n n' : Nat) (x1 : Int32) (a_kept : (Nat → Int32)) (a_epochs : (Nat → Int32)) (a_versions : (Nat → Int32)) (a_slotWords : (Nat → Int32)) (a_copyWords : (Nat → Int32)) (a_key : (Nat → Int32)) (a_seed : (Nat → Int32)) (a_stream : (Nat → Int32)) (a_work : (Nat → Int32)), wX_forgetSecrets_2 P f_present f_open f_copied f_copyStale f_taken f_copyTaken f_volumeEpoch f_formats n x1 a_kept a_epochs a_versions a_slotWords a_copyWords a_key a_seed a_stream a_work → wX_forgetSecrets_2 Q f_present f_open f_copied f_copyStale f_taken f_copyTaken f_volumeEpoch f_formats n' x1 a_kept a_epochs a_versions a_slotWords a_copyWords a_key a_seed a_stream a_work → G := by
  intro n
  induction n with
  | zero => intro n' x1 a_kept a_epochs a_versions a_slotWords a_copyWords a_key a_seed a_stream a_work hp; exact absurd hp (fun z => z)
  | succ n ih =>
    intro n' x1 a_kept a_epochs a_versions a_slotWords a_copyWords a_key a_seed a_stream a_work hp hq
    cases n' with
    | zero => exact absurd hq (fun z => z)
    | succ n' => exact nd_b hp hq (fun hp hq => nd_x hp hq (fun _ _ hp hq => nd_wX_forgetSecrets_23 G _ _ h _ _ _ _ _ _ _ _ _ _ _ _ hp hq)) (fun hp hq => nd_a hp hq (fun hp hq => nd_n hp hq (fun hp hq => nd_n hp hq (fun hp hq => ih _ _ _ _ _ _ _ _ _ _ _ hp hq))))
theorem nd_wpX_forgetSecrets (G : Prop) (P Q : SX → Prop) {u : SX} (hp : wpX_forgetSecrets P u) (hq : wpX_forgetSecrets Q u) (h : ∀ a0, P a0 → Q a0 → G) : G := by
  obtain ⟨_, _, _, _, _, _, _, _, _, _, _, _, _, _, _, _, _⟩ := u
  unfold wpX_forgetSecrets at hp hq
  exact nd_x hp hq (fun _ _ hp hq => nd_wX_forgetSecrets_2 G _ _ h _ _ _ _ _ _ _ _ _ _ _ _ hp hq)
theorem nd_wpX_format (G : Prop) (P Q : Int32 → SX → Prop) {u : SX} {p0 : Int32} (hp : wpX_format P u p0) (hq : wpX_format Q u p0) (h : ∀ a0 a1, P a0 a1 → Q a0 a1 → G) : G := by
  obtain ⟨_, _, _, _, _, _, _, _, _, _, _, _, _, _, _, _, _⟩ := u
  unfold wpX_format at hp hq
  exact nd_n hp hq (fun hp hq => nd_wpX_makeKey G _ _ hp hq (fun  u hp hq => by
  obtain ⟨_, _, _, _, _, _, _, _, _, _, _, _, _, _, _, _, _⟩ := u
  exact nd_wpX_eraseSectors G _ _ hp hq (fun  u hp hq => by
  obtain ⟨_, _, _, _, _, _, _, _, _, _, _, _, _, _, _, _, _⟩ := u
  exact nd_wpX_eraseSlots G _ _ hp hq (fun  u hp hq => by
  obtain ⟨_, _, _, _, _, _, _, _, _, _, _, _, _, _, _, _, _⟩ := u
  exact nd_wpX_putSlot G _ _ hp hq (fun  u hp hq => by
  obtain ⟨_, _, _, _, _, _, _, _, _, _, _, _, _, _, _, _, _⟩ := u
  exact nd_wpX_forgetSecrets G _ _ hp hq (fun  u hp hq => by
  obtain ⟨_, _, _, _, _, _, _, _, _, _, _, _, _, _, _, _, _⟩ := u
  exact h _ _ hp hq))))))
theorem nd_wY_format_64 (G : Prop) (P Q : Int32 → SY → Prop) (h : ∀ a0 a1, P a0 a1 → Q a0 a1 → G) {x1 : Int32} {f_isThere : Int32} {f_isOpen : Int32} {f_left : Int32} {f_hasCopy : Int32} {f_isStale : Int32} :
    ∀ (n n' : Nat) (x2 : Int32) (a_cells : (Nat → Int32)) (a_damaged : (Nat → Int32)) (a_used : (Nat → Int32)) (a_phrases : (Nat → Int32)) (a_copyUsed : (Nat → Int32)) (a_copyPhrases : (Nat → Int32)), wY_format_64 P x1 f_isThere f_isOpen f_left f_hasCopy f_isStale n x2 a_cells a_damaged a_used a_phrases a_copyUsed a_copyPhrases → wY_format_64 Q x1 f_isThere f_isOpen f_left f_hasCopy f_isStale n' x2 a_cells a_damaged a_used a_phrases a_copyUsed a_copyPhrases → G := by
  intro n
  induction n with
  | zero => intro n' x2 a_cells a_damaged a_used a_phrases a_copyUsed a_copyPhrases hp; exact absurd hp (fun z => z)
  | succ n ih =>
    intro n' x2 a_cells a_damaged a_used a_phrases a_copyUsed a_copyPhrases hp hq
    cases n' with
    | zero => exact absurd hq (fun z => z)
    | succ n' => exact nd_b hp hq (fun hp hq => nd_n hp hq (fun hp hq => h _ _ hp hq)) (fun hp hq => nd_b hp hq (fun hp hq => nd_a hp hq (fun hp hq => nd_n hp hq (fun hp hq => nd_n hp hq (fun hp hq => ih _ _ _ _ _ _ _ _ hp hq)))) (fun hp hq => nd_a hp hq (fun hp hq => nd_n hp hq (fun hp hq => nd_n hp hq (fun hp hq => ih _ _ _ _ _ _ _ _ hp hq)))))
theorem nd_wY_format_43 (G : Prop) (P Q : Int32 → SY → Prop) (h : ∀ a0 a1, P a0 a1 → Q a0 a1 → G) {x1 : Int32} {f_isThere : Int32} {f_isOpen : Int32} {f_left : Int32} {f_hasCopy : Int32} {f_isStale : Int32} :
    ∀ (n n' : Nat) (x2 : Int32) (a_cells : (Nat → Int32)) (a_damaged : (Nat → Int32)) (a_used : (Nat → Int32)) (a_phrases : (Nat → Int32)) (a_copyUsed : (Nat → Int32)) (a_copyPhrases : (Nat → Int32)), wY_format_43 P x1 f_isThere f_isOpen f_left f_hasCopy f_isStale n x2 a_cells a_damaged a_used a_phrases a_copyUsed a_copyPhrases → wY_format_43 Q x1 f_isThere f_isOpen f_left f_hasCopy f_isStale n' x2 a_cells a_damaged a_used a_phrases a_copyUsed a_copyPhrases → G := by
  intro n
  induction n with
  | zero => intro n' x2 a_cells a_damaged a_used a_phrases a_copyUsed a_copyPhrases hp; exact absurd hp (fun z => z)
  | succ n ih =>
    intro n' x2 a_cells a_damaged a_used a_phrases a_copyUsed a_copyPhrases hp hq
    cases n' with
    | zero => exact absurd hq (fun z => z)
    | succ n' => exact nd_b hp hq (fun hp hq => nd_x hp hq (fun _ _ hp hq => nd_wY_format_64 G _ _ h _ _ _ _ _ _ _ _ _ hp hq)) (fun hp hq => nd_a hp hq (fun hp hq => nd_n hp hq (fun hp hq => nd_n hp hq (fun hp hq => ih _ _ _ _ _ _ _ _ hp hq))))
theorem nd_wY_format_22 (G : Prop) (P Q : Int32 → SY → Prop) (h : ∀ a0 a1, P a0 a1 → Q a0 a1 → G) {x1 : Int32} {f_isThere : Int32} {f_isOpen : Int32} {f_left : Int32} {f_hasCopy : Int32} {f_isStale : Int32} :
    ∀ (n n' : Nat) (x2 : Int32) (a_cells : (Nat → Int32)) (a_damaged : (Nat → Int32)) (a_used : (Nat → Int32)) (a_phrases : (Nat → Int32)) (a_copyUsed : (Nat → Int32)) (a_copyPhrases : (Nat → Int32)), wY_format_22 P x1 f_isThere f_isOpen f_left f_hasCopy f_isStale n x2 a_cells a_damaged a_used a_phrases a_copyUsed a_copyPhrases → wY_format_22 Q x1 f_isThere f_isOpen f_left f_hasCopy f_isStale n' x2 a_cells a_damaged a_used a_phrases a_copyUsed a_copyPhrases → G := by
  intro n
  induction n with
  | zero => intro n' x2 a_cells a_damaged a_used a_phrases a_copyUsed a_copyPhrases hp; exact absurd hp (fun z => z)
  | succ n ih =>
    intro n' x2 a_cells a_damaged a_used a_phrases a_copyUsed a_copyPhrases hp hq
    cases n' with
    | zero => exact absurd hq (fun z => z)
    | succ n' => exact nd_b hp hq (fun hp hq => nd_x hp hq (fun _ _ hp hq => nd_wY_format_43 G _ _ h _ _ _ _ _ _ _ _ _ hp hq)) (fun hp hq => nd_a hp hq (fun hp hq => nd_n hp hq (fun hp hq => nd_n hp hq (fun hp hq => ih _ _ _ _ _ _ _ _ hp hq))))
theorem nd_wpY_format (G : Prop) (P Q : Int32 → SY → Prop) {u : SY} {p0 : Int32} (hp : wpY_format P u p0) (hq : wpY_format Q u p0) (h : ∀ a0 a1, P a0 a1 → Q a0 a1 → G) : G := by
  obtain ⟨_, _, _, _, _, _, _, _, _, _, _⟩ := u
  unfold wpY_format at hp hq
  exact nd_x hp hq (fun _ _ hp hq => nd_wY_format_22 G _ _ h _ _ _ _ _ _ _ _ _ hp hq)
theorem nd_wpX_isTaken (G : Prop) (P Q : Int32 → Prop) {u : SX} {p0 : Int32} (hp : wpX_isTaken P u p0) (hq : wpX_isTaken Q u p0) (h : ∀ a0, P a0 → Q a0 → G) : G := by
  obtain ⟨_, _, _, _, _, _, _, _, _, _, _, _, _, _, _, _, _⟩ := u
  unfold wpX_isTaken at hp hq
  exact nd_b hp hq (fun hp hq => h _ hp hq) (fun hp hq => h _ hp hq)
theorem nd_wX_streamBelongsTo_4 (G : Prop) (P Q : Int32 → Prop) (h : ∀ a0, P a0 → Q a0 → G) {x1 : Int32} {f_present : Int32} {f_open : Int32} {f_copied : Int32} {f_copyStale : Int32} {f_taken : Int32} {f_copyTaken : Int32} {f_volumeEpoch : Int32} {f_formats : Int32} {a_kept : Nat → Int32} {a_epochs : Nat → Int32} {a_versions : Nat → Int32} {a_slotWords : Nat → Int32} {a_copyWords : Nat → Int32} {a_key : Nat → Int32} {a_seed : Nat → Int32} {a_stream : Nat → Int32} {a_work : Nat → Int32} :
    ∀ (n n' : Nat) (x2 : Int32) (x3 : Int32), wX_streamBelongsTo_4 P x1 f_present f_open f_copied f_copyStale f_taken f_copyTaken f_volumeEpoch f_formats a_kept a_epochs a_versions a_slotWords a_copyWords a_key a_seed a_stream a_work n x2 x3 → wX_streamBelongsTo_4 Q x1 f_present f_open f_copied f_copyStale f_taken f_copyTaken f_volumeEpoch f_formats a_kept a_epochs a_versions a_slotWords a_copyWords a_key a_seed a_stream a_work n' x2 x3 → G := by
  intro n
  induction n with
  | zero => intro n' x2 x3 hp; exact absurd hp (fun z => z)
  | succ n ih =>
    intro n' x2 x3 hp hq
    cases n' with
    | zero => exact absurd hq (fun z => z)
    | succ n' => exact nd_b hp hq (fun hp hq => nd_b hp hq (fun hp hq => h _ hp hq) (fun hp hq => h _ hp hq)) (fun hp hq => nd_a hp hq (fun hp hq => nd_a hp hq (fun hp hq => nd_n hp hq (fun hp hq => nd_n hp hq (fun hp hq => ih _ _ _ hp hq)))))
theorem nd_wpX_streamBelongsTo (G : Prop) (P Q : Int32 → Prop) {u : SX} {p0 : Int32} (hp : wpX_streamBelongsTo P u p0) (hq : wpX_streamBelongsTo Q u p0) (h : ∀ a0, P a0 → Q a0 → G) : G := by
  obtain ⟨_, _, _, _, _, _, _, _, _, _, _, _, _, _, _, _, _⟩ := u
  unfold wpX_streamBelongsTo at hp hq
  exact nd_x hp hq (fun _ _ hp hq => nd_wX_streamBelongsTo_4 G _ _ h _ _ _ _ hp hq)
theorem nd_wX_findSlot_9 (G : Prop) (P Q : Int32 → SX → Prop) (h : ∀ a0 a1, P a0 a1 → Q a0 a1 → G) {f_present : Int32} {f_open : Int32} {f_copied : Int32} {f_copyStale : Int32} {f_taken : Int32} {f_copyTaken : Int32} {f_volumeEpoch : Int32} {f_formats : Int32} {a_kept : Nat → Int32} {a_epochs : Nat → Int32} {a_versions : Nat → Int32} {a_slotWords : Nat → Int32} {a_copyWords : Nat → Int32} {a_key : Nat → Int32} {a_seed : Nat → Int32} {a_stream : Nat → Int32} {a_work : Nat → Int32} :
    ∀ (n n' : Nat) (x2 : Int32), wX_findSlot_9 P f_present f_open f_copied f_copyStale f_taken f_copyTaken f_volumeEpoch f_formats a_kept a_epochs a_versions a_slotWords a_copyWords a_key a_seed a_stream a_work n x2 → wX_findSlot_9 Q f_present f_open f_copied f_copyStale f_taken f_copyTaken f_volumeEpoch f_formats a_kept a_epochs a_versions a_slotWords a_copyWords a_key a_seed a_stream a_work n' x2 → G := by
  intro n
  induction n with
  | zero => intro n' x2 hp; exact absurd hp (fun z => z)
  | succ n ih =>
    intro n' x2 hp hq
    cases n' with
    | zero => exact absurd hq (fun z => z)
    | succ n' => exact nd_b hp hq (fun hp hq => h _ _ hp hq) (fun hp hq => nd_wpX_isTaken G _ _ hp hq (fun _ hp hq => nd_b hp hq (fun hp hq => nd_n hp hq (fun hp hq => ih _ _ hp hq)) (fun hp hq => nd_wpX_streamBelongsTo G _ _ hp hq (fun _ hp hq => nd_b hp hq (fun hp hq => nd_n hp hq (fun hp hq => ih _ _ hp hq)) (fun hp hq => h _ _ hp hq)))))
theorem nd_wpX_findSlot (G : Prop) (P Q : Int32 → SX → Prop) {u : SX} {p0 : Int32} (hp : wpX_findSlot P u p0) (hq : wpX_findSlot Q u p0) (h : ∀ a0 a1, P a0 a1 → Q a0 a1 → G) : G := by
  obtain ⟨_, _, _, _, _, _, _, _, _, _, _, _, _, _, _, _, _⟩ := u
  unfold wpX_findSlot at hp hq
  exact nd_wpX_streamFromPassphrase G _ _ hp hq (fun  u hp hq => by
  obtain ⟨_, _, _, _, _, _, _, _, _, _, _, _, _, _, _, _, _⟩ := u
  exact nd_x hp hq (fun _ _ hp hq => nd_wX_findSlot_9 G _ _ h _ _ _ hp hq))
theorem nd_wX_unwrapKey_21 (G : Prop) (P Q : SX → Prop) (h : ∀ a0, P a0 → Q a0 → G) {x3 : Int32} {f_present : Int32} {f_open : Int32} {f_copied : Int32} {f_copyStale : Int32} {f_taken : Int32} {f_copyTaken : Int32} {f_volumeEpoch : Int32} {f_formats : Int32} :
    ∀ (n n' : Nat) (x4 : Int32) (a_kept : (Nat → Int32)) (a_epochs : (Nat → Int32)) (a_versions : (Nat → Int32)) (a_slotWords : (Nat → Int32)) (a_copyWords : (Nat → Int32)) (a_key : (Nat → Int32)) (a_seed : (Nat → Int32)) (a_stream : (Nat → Int32)) (a_work : (Nat → Int32)), wX_unwrapKey_21 P x3 f_present f_open f_copied f_copyStale f_taken f_copyTaken f_volumeEpoch f_formats n x4 a_kept a_epochs a_versions a_slotWords a_copyWords a_key a_seed a_stream a_work → wX_unwrapKey_21 Q x3 f_present f_open f_copied f_copyStale f_taken f_copyTaken f_volumeEpoch f_formats n' x4 a_kept a_epochs a_versions a_slotWords a_copyWords a_key a_seed a_stream a_work → G := by
  intro n
  induction n with
  | zero => intro n' x4 a_kept a_epochs a_versions a_slotWords a_copyWords a_key a_seed a_stream a_work hp; exact absurd hp (fun z => z)
  | succ n ih =>
    intro n' x4 a_kept a_epochs a_versions a_slotWords a_copyWords a_key a_seed a_stream a_work hp hq
    cases n' with
    | zero => exact absurd hq (fun z => z)
    | succ n' => exact nd_b hp hq (fun hp hq => h _ hp hq) (fun hp hq => nd_a hp hq (fun hp hq => nd_a hp hq (fun hp hq => nd_a hp hq (fun hp hq => nd_n hp hq (fun hp hq => nd_n hp hq (fun hp hq => ih _ _ _ _ _ _ _ _ _ _ _ hp hq))))))
theorem nd_wpX_unwrapKey (G : Prop) (P Q : SX → Prop) {u : SX} {p0 : Int32} {p1 : Int32} (hp : wpX_unwrapKey P u p0 p1) (hq : wpX_unwrapKey Q u p0 p1) (h : ∀ a0, P a0 → Q a0 → G) : G := by
  obtain ⟨_, _, _, _, _, _, _, _, _, _, _, _, _, _, _, _, _⟩ := u
  unfold wpX_unwrapKey at hp hq
  exact nd_n hp hq (fun hp hq => nd_wpX_streamFromPassphrase G _ _ hp hq (fun  u hp hq => by
  obtain ⟨_, _, _, _, _, _, _, _, _, _, _, _, _, _, _, _, _⟩ := u
  exact nd_x hp hq (fun _ _ hp hq => nd_wX_unwrapKey_21 G _ _ h _ _ _ _ _ _ _ _ _ _ _ _ hp hq)))
theorem nd_wpX_unlock (G : Prop) (P Q : Int32 → SX → Prop) {u : SX} {p0 : Int32} (hp : wpX_unlock P u p0) (hq : wpX_unlock Q u p0) (h : ∀ a0 a1, P a0 a1 → Q a0 a1 → G) : G := by
  obtain ⟨_, _, _, _, _, _, _, _, _, _, _, _, _, _, _, _, _⟩ := u
  unfold wpX_unlock at hp hq
  exact nd_b hp hq (fun hp hq => h _ _ hp hq) (fun hp hq => nd_b hp hq (fun hp hq => nd_wpX_findSlot G _ _ hp hq (fun _ u hp hq => by
  obtain ⟨_, _, _, _, _, _, _, _, _, _, _, _, _, _, _, _, _⟩ := u
  exact nd_b hp hq (fun hp hq => nd_wpX_forgetSecrets G _ _ hp hq (fun  u hp hq => by
  obtain ⟨_, _, _, _, _, _, _, _, _, _, _, _, _, _, _, _, _⟩ := u
  exact h _ _ hp hq)) (fun hp hq => nd_wpX_unwrapKey G _ _ hp hq (fun  u hp hq => by
  obtain ⟨_, _, _, _, _, _, _, _, _, _, _, _, _, _, _, _, _⟩ := u
  exact h _ _ hp hq)))) (fun hp hq => h _ _ hp hq))
theorem nd_wY_find_2 (G : Prop) (P Q : Int32 → Prop) (h : ∀ a0, P a0 → Q a0 → G) {x1 : Int32} {f_isThere : Int32} {f_isOpen : Int32} {f_left : Int32} {f_hasCopy : Int32} {f_isStale : Int32} {a_cells : Nat → Int32} {a_damaged : Nat → Int32} {a_used : Nat → Int32} {a_phrases : Nat → Int32} {a_copyUsed : Nat → Int32} {a_copyPhrases : Nat → Int32} :
    ∀ (n n' : Nat) (x2 : Int32), wY_find_2 P x1 f_isThere f_isOpen f_left f_hasCopy f_isStale a_cells a_damaged a_used a_phrases a_copyUsed a_copyPhrases n x2 → wY_find_2 Q x1 f_isThere f_isOpen f_left f_hasCopy f_isStale a_cells a_damaged a_used a_phrases a_copyUsed a_copyPhrases n' x2 → G := by
  intro n
  induction n with
  | zero => intro n' x2 hp; exact absurd hp (fun z => z)
  | succ n ih =>
    intro n' x2 hp hq
    cases n' with
    | zero => exact absurd hq (fun z => z)
    | succ n' => exact nd_b hp hq (fun hp hq => h _ hp hq) (fun hp hq => nd_a hp hq (fun hp hq => nd_b hp hq (fun hp hq => nd_n hp hq (fun hp hq => ih _ _ hp hq)) (fun hp hq => nd_a hp hq (fun hp hq => nd_b hp hq (fun hp hq => h _ hp hq) (fun hp hq => nd_n hp hq (fun hp hq => ih _ _ hp hq))))))
theorem nd_wpY_find (G : Prop) (P Q : Int32 → Prop) {u : SY} {p0 : Int32} (hp : wpY_find P u p0) (hq : wpY_find Q u p0) (h : ∀ a0, P a0 → Q a0 → G) : G := by
  obtain ⟨_, _, _, _, _, _, _, _, _, _, _⟩ := u
  unfold wpY_find at hp hq
  exact nd_x hp hq (fun _ _ hp hq => nd_wY_find_2 G _ _ h _ _ _ hp hq)
theorem nd_wpY_unlock (G : Prop) (P Q : Int32 → SY → Prop) {u : SY} {p0 : Int32} (hp : wpY_unlock P u p0) (hq : wpY_unlock Q u p0) (h : ∀ a0 a1, P a0 a1 → Q a0 a1 → G) : G := by
  obtain ⟨_, _, _, _, _, _, _, _, _, _, _⟩ := u
  unfold wpY_unlock at hp hq
  exact nd_b hp hq (fun hp hq => h _ _ hp hq) (fun hp hq => nd_b hp hq (fun hp hq => nd_wpY_find G _ _ hp hq (fun _ hp hq => nd_b hp hq (fun hp hq => h _ _ hp hq) (fun hp hq => h _ _ hp hq))) (fun hp hq => h _ _ hp hq))
theorem nd_wpX_close (G : Prop) (P Q : SX → Prop) {u : SX} (hp : wpX_close P u) (hq : wpX_close Q u) (h : ∀ a0, P a0 → Q a0 → G) : G := by
  obtain ⟨_, _, _, _, _, _, _, _, _, _, _, _, _, _, _, _, _⟩ := u
  unfold wpX_close at hp hq
  exact nd_wpX_forgetSecrets G _ _ hp hq (fun  u hp hq => by
  obtain ⟨_, _, _, _, _, _, _, _, _, _, _, _, _, _, _, _, _⟩ := u
  exact h _ hp hq)
theorem nd_wX_lock_22 (G : Prop) (P Q : Int32 → SX → Prop) {z0 : Int32} {f_present : Int32} {f_open : Int32} {f_copied : Int32} {f_copyStale : Int32} {f_taken : Int32} {f_copyTaken : Int32} {f_volumeEpoch : Int32} {f_formats : Int32} {a_kept : Nat → Int32} {a_epochs : Nat → Int32} {a_versions : Nat → Int32} {a_slotWords : Nat → Int32} {a_copyWords : Nat → Int32} {a_key : Nat → Int32} {a_seed : Nat → Int32} {a_stream : Nat → Int32} {a_work : Nat → Int32} (hp : wX_lock_22 P z0 f_present f_open f_copied f_copyStale f_taken f_copyTaken f_volumeEpoch f_formats a_kept a_epochs a_versions a_slotWords a_copyWords a_key a_seed a_stream a_work) (hq : wX_lock_22 Q z0 f_present f_open f_copied f_copyStale f_taken f_copyTaken f_volumeEpoch f_formats a_kept a_epochs a_versions a_slotWords a_copyWords a_key a_seed a_stream a_work) (h : ∀ a0 a1, P a0 a1 → Q a0 a1 → G) : G := by
  unfold wX_lock_22 at hp hq
  exact nd_wpX_close G _ _ hp hq (fun  u hp hq => by
  obtain ⟨_, _, _, _, _, _, _, _, _, _, _, _, _, _, _, _, _⟩ := u
  exact h _ _ hp hq)
theorem nd_wpX_lock (G : Prop) (P Q : Int32 → SX → Prop) {u : SX} (hp : wpX_lock P u) (hq : wpX_lock Q u) (h : ∀ a0 a1, P a0 a1 → Q a0 a1 → G) : G := by
  obtain ⟨_, _, _, _, _, _, _, _, _, _, _, _, _, _, _, _, _⟩ := u
  unfold wpX_lock at hp hq
  exact nd_b hp hq (fun hp hq => h _ _ hp hq) (fun hp hq => nd_b hp hq (fun hp hq => nd_wX_lock_22 G _ _ hp hq h) (fun hp hq => nd_wX_lock_22 G _ _ hp hq h))
theorem nd_wpY_lock (G : Prop) (P Q : Int32 → SY → Prop) {u : SY} (hp : wpY_lock P u) (hq : wpY_lock Q u) (h : ∀ a0 a1, P a0 a1 → Q a0 a1 → G) : G := by
  obtain ⟨_, _, _, _, _, _, _, _, _, _, _⟩ := u
  unfold wpY_lock at hp hq
  exact nd_b hp hq (fun hp hq => h _ _ hp hq) (fun hp hq => nd_b hp hq (fun hp hq => h _ _ hp hq) (fun hp hq => h _ _ hp hq))
theorem nd_wpX_state (G : Prop) (P Q : Int32 → Prop) {u : SX} (hp : wpX_state P u) (hq : wpX_state Q u) (h : ∀ a0, P a0 → Q a0 → G) : G := by
  obtain ⟨_, _, _, _, _, _, _, _, _, _, _, _, _, _, _, _, _⟩ := u
  unfold wpX_state at hp hq
  exact nd_b hp hq (fun hp hq => h _ hp hq) (fun hp hq => nd_b hp hq (fun hp hq => h _ hp hq) (fun hp hq => h _ hp hq))
theorem nd_wpY_state (G : Prop) (P Q : Int32 → Prop) {u : SY} (hp : wpY_state P u) (hq : wpY_state Q u) (h : ∀ a0, P a0 → Q a0 → G) : G := by
  obtain ⟨_, _, _, _, _, _, _, _, _, _, _⟩ := u
  unfold wpY_state at hp hq
  exact nd_b hp hq (fun hp hq => h _ hp hq) (fun hp hq => nd_b hp hq (fun hp hq => h _ hp hq) (fun hp hq => h _ hp hq))
theorem nd_wpX_isSector (G : Prop) (P Q : Int32 → Prop) {u : SX} {p0 : Int32} (hp : wpX_isSector P u p0) (hq : wpX_isSector Q u p0) (h : ∀ a0, P a0 → Q a0 → G) : G := by
  obtain ⟨_, _, _, _, _, _, _, _, _, _, _, _, _, _, _, _, _⟩ := u
  unfold wpX_isSector at hp hq
  exact nd_b hp hq (fun hp hq => h _ hp hq) (fun hp hq => nd_b hp hq (fun hp hq => h _ hp hq) (fun hp hq => h _ hp hq))
theorem nd_wpX_isCell (G : Prop) (P Q : Int32 → Prop) {u : SX} {p0 : Int32} (hp : wpX_isCell P u p0) (hq : wpX_isCell Q u p0) (h : ∀ a0, P a0 → Q a0 → G) : G := by
  obtain ⟨_, _, _, _, _, _, _, _, _, _, _, _, _, _, _, _, _⟩ := u
  unfold wpX_isCell at hp hq
  exact nd_b hp hq (fun hp hq => h _ hp hq) (fun hp hq => nd_b hp hq (fun hp hq => h _ hp hq) (fun hp hq => h _ hp hq))
theorem nd_wX_sumOf__kept_6 (G : Prop) (P Q : Int32 → Prop) (h : ∀ a0, P a0 → Q a0 → G) {x2 : Int32} {f_present : Int32} {f_open : Int32} {f_copied : Int32} {f_copyStale : Int32} {f_taken : Int32} {f_copyTaken : Int32} {f_volumeEpoch : Int32} {f_formats : Int32} {a_kept : Nat → Int32} {a_epochs : Nat → Int32} {a_versions : Nat → Int32} {a_slotWords : Nat → Int32} {a_copyWords : Nat → Int32} {a_key : Nat → Int32} {a_seed : Nat → Int32} {a_stream : Nat → Int32} {a_work : Nat → Int32} :
    ∀ (n n' : Nat) (x3 : Int32) (x4 : Int32), wX_sumOf__kept_6 P x2 f_present f_open f_copied f_copyStale f_taken f_copyTaken f_volumeEpoch f_formats a_kept a_epochs a_versions a_slotWords a_copyWords a_key a_seed a_stream a_work n x3 x4 → wX_sumOf__kept_6 Q x2 f_present f_open f_copied f_copyStale f_taken f_copyTaken f_volumeEpoch f_formats a_kept a_epochs a_versions a_slotWords a_copyWords a_key a_seed a_stream a_work n' x3 x4 → G := by
  intro n
  induction n with
  | zero => intro n' x3 x4 hp; exact absurd hp (fun z => z)
  | succ n ih =>
    intro n' x3 x4 hp hq
    cases n' with
    | zero => exact absurd hq (fun z => z)
    | succ n' => exact nd_b hp hq (fun hp hq => h _ hp hq) (fun hp hq => nd_a hp hq (fun hp hq => nd_n hp hq (fun hp hq => nd_n hp hq (fun hp hq => ih _ _ _ hp hq))))
theorem nd_wpX_sumOf__kept (G : Prop) (P Q : Int32 → Prop) {u : SX} {p1 : Int32} (hp : wpX_sumOf__kept P u p1) (hq : wpX_sumOf__kept Q u p1) (h : ∀ a0, P a0 → Q a0 → G) : G := by
  obtain ⟨_, _, _, _, _, _, _, _, _, _, _, _, _, _, _, _, _⟩ := u
  unfold wpX_sumOf__kept at hp hq
  exact nd_x hp hq (fun _ _ hp hq => nd_wX_sumOf__kept_6 G _ _ h _ _ _ _ hp hq)
theorem nd_wpX_isDamaged (G : Prop) (P Q : Int32 → Prop) {u : SX} {p0 : Int32} (hp : wpX_isDamaged P u p0) (hq : wpX_isDamaged Q u p0) (h : ∀ a0, P a0 → Q a0 → G) : G := by
  obtain ⟨_, _, _, _, _, _, _, _, _, _, _, _, _, _, _, _, _⟩ := u
  unfold wpX_isDamaged at hp hq
  exact nd_a hp hq (fun hp hq => nd_wpX_rowOf G _ _ hp hq (fun _ hp hq => nd_a hp hq (fun hp hq => nd_wpX_sumOf__kept G _ _ hp hq (fun _ hp hq => nd_b hp hq (fun hp hq => h _ hp hq) (fun hp hq => h _ hp hq)))))
theorem nd_wX_unsealToWork_29 (G : Prop) (P Q : SX → Prop) (h : ∀ a0, P a0 → Q a0 → G) {x2 : Int32} {f_present : Int32} {f_open : Int32} {f_copied : Int32} {f_copyStale : Int32} {f_taken : Int32} {f_copyTaken : Int32} {f_volumeEpoch : Int32} {f_formats : Int32} :
    ∀ (n n' : Nat) (x3 : Int32) (a_kept : (Nat → Int32)) (a_epochs : (Nat → Int32)) (a_versions : (Nat → Int32)) (a_slotWords : (Nat → Int32)) (a_copyWords : (Nat → Int32)) (a_key : (Nat → Int32)) (a_seed : (Nat → Int32)) (a_stream : (Nat → Int32)) (a_work : (Nat → Int32)), wX_unsealToWork_29 P x2 f_present f_open f_copied f_copyStale f_taken f_copyTaken f_volumeEpoch f_formats n x3 a_kept a_epochs a_versions a_slotWords a_copyWords a_key a_seed a_stream a_work → wX_unsealToWork_29 Q x2 f_present f_open f_copied f_copyStale f_taken f_copyTaken f_volumeEpoch f_formats n' x3 a_kept a_epochs a_versions a_slotWords a_copyWords a_key a_seed a_stream a_work → G := by
  intro n
  induction n with
  | zero => intro n' x3 a_kept a_epochs a_versions a_slotWords a_copyWords a_key a_seed a_stream a_work hp; exact absurd hp (fun z => z)
  | succ n ih =>
    intro n' x3 a_kept a_epochs a_versions a_slotWords a_copyWords a_key a_seed a_stream a_work hp hq
    cases n' with
    | zero => exact absurd hq (fun z => z)
    | succ n' => exact nd_b hp hq (fun hp hq => h _ hp hq) (fun hp hq => nd_a hp hq (fun hp hq => nd_a hp hq (fun hp hq => nd_a hp hq (fun hp hq => nd_n hp hq (fun hp hq => nd_n hp hq (fun hp hq => ih _ _ _ _ _ _ _ _ _ _ _ hp hq))))))
theorem nd_wpX_unsealToWork (G : Prop) (P Q : SX → Prop) {u : SX} {p0 : Int32} (hp : wpX_unsealToWork P u p0) (hq : wpX_unsealToWork Q u p0) (h : ∀ a0, P a0 → Q a0 → G) : G := by
  obtain ⟨_, _, _, _, _, _, _, _, _, _, _, _, _, _, _, _, _⟩ := u
  unfold wpX_unsealToWork at hp hq
  exact nd_a hp hq (fun hp hq => nd_wpX_seedFromKey G _ _ hp hq (fun  u hp hq => by
  obtain ⟨_, _, _, _, _, _, _, _, _, _, _, _, _, _, _, _, _⟩ := u
  exact nd_wpX_scramble G _ _ hp hq (fun  u hp hq => by
  obtain ⟨_, _, _, _, _, _, _, _, _, _, _, _, _, _, _, _, _⟩ := u
  exact nd_a hp hq (fun hp hq => nd_wpX_rowOf G _ _ hp hq (fun _ hp hq => nd_x hp hq (fun _ _ hp hq => nd_wX_unsealToWork_29 G _ _ h _ _ _ _ _ _ _ _ _ _ _ _ hp hq))))))
theorem nd_wpX_read (G : Prop) (P Q : Int32 → SX → Prop) {u : SX} {p0 : Int32} {p1 : Int32} (hp : wpX_read P u p0 p1) (hq : wpX_read Q u p0 p1) (h : ∀ a0 a1, P a0 a1 → Q a0 a1 → G) : G := by
  obtain ⟨_, _, _, _, _, _, _, _, _, _, _, _, _, _, _, _, _⟩ := u
  unfold wpX_read at hp hq
  exact nd_wpX_isSector G _ _ hp hq (fun _ hp hq => nd_b hp hq (fun hp hq => h _ _ hp hq) (fun hp hq => nd_wpX_isCell G _ _ hp hq (fun _ hp hq => nd_b hp hq (fun hp hq => h _ _ hp hq) (fun hp hq => nd_b hp hq (fun hp hq => h _ _ hp hq) (fun hp hq => nd_wpX_isDamaged G _ _ hp hq (fun _ hp hq => nd_b hp hq (fun hp hq => nd_wpX_unsealToWork G _ _ hp hq (fun  u hp hq => by
  obtain ⟨_, _, _, _, _, _, _, _, _, _, _, _, _, _, _, _, _⟩ := u
  exact nd_a hp hq (fun hp hq => h _ _ hp hq))) (fun hp hq => h _ _ hp hq)))))))
theorem nd_wpY_badSector (G : Prop) (P Q : Int32 → Prop) {u : SY} {p0 : Int32} (hp : wpY_badSector P u p0) (hq : wpY_badSector Q u p0) (h : ∀ a0, P a0 → Q a0 → G) : G := by
  obtain ⟨_, _, _, _, _, _, _, _, _, _, _⟩ := u
  unfold wpY_badSector at hp hq
  exact nd_b hp hq (fun hp hq => h _ hp hq) (fun hp hq => nd_b hp hq (fun hp hq => h _ hp hq) (fun hp hq => h _ hp hq))
theorem nd_wpY_badCell (G : Prop) (P Q : Int32 → Prop) {u : SY} {p0 : Int32} (hp : wpY_badCell P u p0) (hq : wpY_badCell Q u p0) (h : ∀ a0, P a0 → Q a0 → G) : G := by
  obtain ⟨_, _, _, _, _, _, _, _, _, _, _⟩ := u
  unfold wpY_badCell at hp hq
  exact nd_b hp hq (fun hp hq => h _ hp hq) (fun hp hq => nd_b hp hq (fun hp hq => h _ hp hq) (fun hp hq => h _ hp hq))
theorem nd_wpY_read (G : Prop) (P Q : Int32 → Prop) {u : SY} {p0 : Int32} {p1 : Int32} (hp : wpY_read P u p0 p1) (hq : wpY_read Q u p0 p1) (h : ∀ a0, P a0 → Q a0 → G) : G := by
  obtain ⟨_, _, _, _, _, _, _, _, _, _, _⟩ := u
  unfold wpY_read at hp hq
  exact nd_wpY_badSector G _ _ hp hq (fun _ hp hq => nd_b hp hq (fun hp hq => nd_wpY_badCell G _ _ hp hq (fun _ hp hq => nd_b hp hq (fun hp hq => nd_b hp hq (fun hp hq => h _ hp hq) (fun hp hq => nd_a hp hq (fun hp hq => nd_b hp hq (fun hp hq => nd_a hp hq (fun hp hq => h _ hp hq)) (fun hp hq => h _ hp hq)))) (fun hp hq => h _ hp hq))) (fun hp hq => h _ hp hq))
theorem nd_wpX_keepNewContents (G : Prop) (P Q : SX → Prop) {u : SX} {p0 : Int32} (hp : wpX_keepNewContents P u p0) (hq : wpX_keepNewContents Q u p0) (h : ∀ a0, P a0 → Q a0 → G) : G := by
  obtain ⟨_, _, _, _, _, _, _, _, _, _, _, _, _, _, _, _, _⟩ := u
  unfold wpX_keepNewContents at hp hq
  exact nd_a hp hq (fun hp hq => nd_a hp hq (fun hp hq => nd_n hp hq (fun hp hq => nd_a hp hq (fun hp hq => nd_wpX_sealWork G _ _ hp hq (fun  u hp hq => by
  obtain ⟨_, _, _, _, _, _, _, _, _, _, _, _, _, _, _, _, _⟩ := u
  exact nd_a hp hq (fun hp hq => nd_wpX_rowOf G _ _ hp hq (fun _ hp hq => nd_wpX_keepWork G _ _ hp hq (fun  u hp hq => by
  obtain ⟨_, _, _, _, _, _, _, _, _, _, _, _, _, _, _, _, _⟩ := u
  exact h _ hp hq))))))))
theorem nd_wpX_write (G : Prop) (P Q : Int32 → SX → Prop) {u : SX} {p0 : Int32} {p1 : Int32} {p2 : Int32} (hp : wpX_write P u p0 p1 p2) (hq : wpX_write Q u p0 p1 p2) (h : ∀ a0 a1, P a0 a1 → Q a0 a1 → G) : G := by
  obtain ⟨_, _, _, _, _, _, _, _, _, _, _, _, _, _, _, _, _⟩ := u
  unfold wpX_write at hp hq
  exact nd_wpX_isSector G _ _ hp hq (fun _ hp hq => nd_b hp hq (fun hp hq => h _ _ hp hq) (fun hp hq => nd_wpX_isCell G _ _ hp hq (fun _ hp hq => nd_b hp hq (fun hp hq => h _ _ hp hq) (fun hp hq => nd_b hp hq (fun hp hq => h _ _ hp hq) (fun hp hq => nd_wpX_isDamaged G _ _ hp hq (fun _ hp hq => nd_b hp hq (fun hp hq => nd_wpX_unsealToWork G _ _ hp hq (fun  u hp hq => by
  obtain ⟨_, _, _, _, _, _, _, _, _, _, _, _, _, _, _, _, _⟩ := u
  exact nd_a hp hq (fun hp hq => nd_n hp hq (fun hp hq => nd_wpX_keepNewContents G _ _ hp hq (fun  u hp hq => by
  obtain ⟨_, _, _, _, _, _, _, _, _, _, _, _, _, _, _, _, _⟩ := u
  exact h _ _ hp hq))))) (fun hp hq => h _ _ hp hq)))))))
theorem nd_wpY_write (G : Prop) (P Q : Int32 → SY → Prop) {u : SY} {p0 : Int32} {p1 : Int32} {p2 : Int32} (hp : wpY_write P u p0 p1 p2) (hq : wpY_write Q u p0 p1 p2) (h : ∀ a0 a1, P a0 a1 → Q a0 a1 → G) : G := by
  obtain ⟨_, _, _, _, _, _, _, _, _, _, _⟩ := u
  unfold wpY_write at hp hq
  exact nd_wpY_badSector G _ _ hp hq (fun _ hp hq => nd_b hp hq (fun hp hq => nd_wpY_badCell G _ _ hp hq (fun _ hp hq => nd_b hp hq (fun hp hq => nd_b hp hq (fun hp hq => h _ _ hp hq) (fun hp hq => nd_a hp hq (fun hp hq => nd_b hp hq (fun hp hq => nd_a hp hq (fun hp hq => nd_n hp hq (fun hp hq => h _ _ hp hq))) (fun hp hq => h _ _ hp hq)))) (fun hp hq => h _ _ hp hq))) (fun hp hq => h _ _ hp hq))
theorem nd_wX_fill_38 (G : Prop) (P Q : Int32 → SX → Prop) (h : ∀ a0 a1, P a0 a1 → Q a0 a1 → G) {x1 : Int32} {x2 : Int32} {x3 : Int32} {x4 : Int32} {f_present : Int32} {f_open : Int32} {f_copied : Int32} {f_copyStale : Int32} {f_taken : Int32} {f_copyTaken : Int32} {f_volumeEpoch : Int32} {f_formats : Int32} :
    ∀ (n n' : Nat) (x5 : Int32) (a_kept : (Nat → Int32)) (a_epochs : (Nat → Int32)) (a_versions : (Nat → Int32)) (a_slotWords : (Nat → Int32)) (a_copyWords : (Nat → Int32)) (a_key : (Nat → Int32)) (a_seed : (Nat → Int32)) (a_stream : (Nat → Int32)) (a_work : (Nat → Int32)), wX_fill_38 P x1 x2 x3 x4 f_present f_open f_copied f_copyStale f_taken f_copyTaken f_volumeEpoch f_formats n x5 a_kept a_epochs a_versions a_slotWords a_copyWords a_key a_seed a_stream a_work → wX_fill_38 Q x1 x2 x3 x4 f_present f_open f_copied f_copyStale f_taken f_copyTaken f_volumeEpoch f_formats n' x5 a_kept a_epochs a_versions a_slotWords a_copyWords a_key a_seed a_stream a_work → G := by
  intro n
  induction n with
  | zero => intro n' x5 a_kept a_epochs a_versions a_slotWords a_copyWords a_key a_seed a_stream a_work hp; exact absurd hp (fun z => z)
  | succ n ih =>
    intro n' x5 a_kept a_epochs a_versions a_slotWords a_copyWords a_key a_seed a_stream a_work hp hq
    cases n' with
    | zero => exact absurd hq (fun z => z)
    | succ n' => exact nd_b hp hq (fun hp hq => nd_wpX_keepNewContents G _ _ hp hq (fun  u hp hq => by
      obtain ⟨_, _, _, _, _, _, _, _, _, _, _, _, _, _, _, _, _⟩ := u
      exact h _ _ hp hq)) (fun hp hq => nd_a hp hq (fun hp hq => nd_n hp hq (fun hp hq => nd_n hp hq (fun hp hq => ih _ _ _ _ _ _ _ _ _ _ _ hp hq))))
theorem nd_wpX_fill (G : Prop) (P Q : Int32 → SX → Prop) {u : SX} {p0 : Int32} {p1 : Int32} {p2 : Int32} (hp : wpX_fill P u p0 p1 p2) (hq : wpX_fill Q u p0 p1 p2) (h : ∀ a0 a1, P a0 a1 → Q a0 a1 → G) : G := by
  obtain ⟨_, _, _, _, _, _, _, _, _, _, _, _, _, _, _, _, _⟩ := u
  unfold wpX_fill at hp hq
  exact nd_wpX_isSector G _ _ hp hq (fun _ hp hq => nd_b hp hq (fun hp hq => h _ _ hp hq) (fun hp hq => nd_b hp hq (fun hp hq => h _ _ hp hq) (fun hp hq => nd_wpX_isDamaged G _ _ hp hq (fun _ hp hq => nd_b hp hq (fun hp hq => nd_x hp hq (fun _ _ hp hq => nd_wX_fill_38 G _ _ h _ _ _ _ _ _ _ _ _ _ _ _ hp hq)) (fun hp hq => nd_x hp hq (fun _ _ hp hq => nd_wX_fill_38 G _ _ h _ _ _ _ _ _ _ _ _ _ _ _ hp hq))))))
theorem nd_wY_fill_23 (G : Prop) (P Q : Int32 → SY → Prop) (h : ∀ a0 a1, P a0 a1 → Q a0 a1 → G) {x1 : Int32} {x2 : Int32} {x3 : Int32} {f_isThere : Int32} {f_isOpen : Int32} {f_left : Int32} {f_hasCopy : Int32} {f_isStale : Int32} :
    ∀ (n n' : Nat) (x4 : Int32) (a_cells : (Nat → Int32)) (a_damaged : (Nat → Int32)) (a_used : (Nat → Int32)) (a_phrases : (Nat → Int32)) (a_copyUsed : (Nat → Int32)) (a_copyPhrases : (Nat → Int32)), wY_fill_23 P x1 x2 x3 f_isThere f_isOpen f_left f_hasCopy f_isStale n x4 a_cells a_damaged a_used a_phrases a_copyUsed a_copyPhrases → wY_fill_23 Q x1 x2 x3 f_isThere f_isOpen f_left f_hasCopy f_isStale n' x4 a_cells a_damaged a_used a_phrases a_copyUsed a_copyPhrases → G := by
  intro n
  induction n with
  | zero => intro n' x4 a_cells a_damaged a_used a_phrases a_copyUsed a_copyPhrases hp; exact absurd hp (fun z => z)
  | succ n ih =>
    intro n' x4 a_cells a_damaged a_used a_phrases a_copyUsed a_copyPhrases hp hq
    cases n' with
    | zero => exact absurd hq (fun z => z)
    | succ n' => exact nd_b hp hq (fun hp hq => nd_a hp hq (fun hp hq => nd_n hp hq (fun hp hq => nd_a hp hq (fun hp hq => nd_n hp hq (fun hp hq => nd_b hp hq (fun hp hq => h _ _ hp hq) (fun hp hq => h _ _ hp hq)))))) (fun hp hq => nd_a hp hq (fun hp hq => nd_n hp hq (fun hp hq => nd_n hp hq (fun hp hq => ih _ _ _ _ _ _ _ _ hp hq))))
theorem nd_wpY_fill (G : Prop) (P Q : Int32 → SY → Prop) {u : SY} {p0 : Int32} {p1 : Int32} {p2 : Int32} (hp : wpY_fill P u p0 p1 p2) (hq : wpY_fill Q u p0 p1 p2) (h : ∀ a0 a1, P a0 a1 → Q a0 a1 → G) : G := by
  obtain ⟨_, _, _, _, _, _, _, _, _, _, _⟩ := u
  unfold wpY_fill at hp hq
  exact nd_wpY_badSector G _ _ hp hq (fun _ hp hq => nd_b hp hq (fun hp hq => nd_b hp hq (fun hp hq => h _ _ hp hq) (fun hp hq => nd_x hp hq (fun _ _ hp hq => nd_wY_fill_23 G _ _ h _ _ _ _ _ _ _ _ _ hp hq))) (fun hp hq => h _ _ hp hq))
theorem nd_wpX_check (G : Prop) (P Q : Int32 → Prop) {u : SX} {p0 : Int32} (hp : wpX_check P u p0) (hq : wpX_check Q u p0) (h : ∀ a0, P a0 → Q a0 → G) : G := by
  obtain ⟨_, _, _, _, _, _, _, _, _, _, _, _, _, _, _, _, _⟩ := u
  unfold wpX_check at hp hq
  exact nd_wpX_isSector G _ _ hp hq (fun _ hp hq => nd_b hp hq (fun hp hq => h _ hp hq) (fun hp hq => nd_b hp hq (fun hp hq => h _ hp hq) (fun hp hq => nd_wpX_isDamaged G _ _ hp hq (fun _ hp hq => nd_b hp hq (fun hp hq => h _ hp hq) (fun hp hq => h _ hp hq)))))
theorem nd_wpY_check (G : Prop) (P Q : Int32 → Prop) {u : SY} {p0 : Int32} (hp : wpY_check P u p0) (hq : wpY_check Q u p0) (h : ∀ a0, P a0 → Q a0 → G) : G := by
  obtain ⟨_, _, _, _, _, _, _, _, _, _, _⟩ := u
  unfold wpY_check at hp hq
  exact nd_wpY_badSector G _ _ hp hq (fun _ hp hq => nd_b hp hq (fun hp hq => nd_b hp hq (fun hp hq => h _ hp hq) (fun hp hq => nd_a hp hq (fun hp hq => nd_b hp hq (fun hp hq => h _ hp hq) (fun hp hq => h _ hp hq)))) (fun hp hq => h _ hp hq))
theorem nd_wX_digestOfSector_9 (G : Prop) (P Q : Int32 → SX → Prop) (h : ∀ a0 a1, P a0 a1 → Q a0 a1 → G) {x1 : Int32} {f_present : Int32} {f_open : Int32} {f_copied : Int32} {f_copyStale : Int32} {f_taken : Int32} {f_copyTaken : Int32} {f_volumeEpoch : Int32} {f_formats : Int32} {a_kept : Nat → Int32} {a_epochs : Nat → Int32} {a_versions : Nat → Int32} {a_slotWords : Nat → Int32} {a_copyWords : Nat → Int32} {a_key : Nat → Int32} {a_seed : Nat → Int32} {a_stream : Nat → Int32} {a_work : Nat → Int32} :
    ∀ (n n' : Nat) (x2 : Int32) (x3 : Int32), wX_digestOfSector_9 P x1 f_present f_open f_copied f_copyStale f_taken f_copyTaken f_volumeEpoch f_formats a_kept a_epochs a_versions a_slotWords a_copyWords a_key a_seed a_stream a_work n x2 x3 → wX_digestOfSector_9 Q x1 f_present f_open f_copied f_copyStale f_taken f_copyTaken f_volumeEpoch f_formats a_kept a_epochs a_versions a_slotWords a_copyWords a_key a_seed a_stream a_work n' x2 x3 → G := by
  intro n
  induction n with
  | zero => intro n' x2 x3 hp; exact absurd hp (fun z => z)
  | succ n ih =>
    intro n' x2 x3 hp hq
    cases n' with
    | zero => exact absurd hq (fun z => z)
    | succ n' => exact nd_b hp hq (fun hp hq => h _ _ hp hq) (fun hp hq => nd_a hp hq (fun hp hq => nd_n hp hq (fun hp hq => nd_n hp hq (fun hp hq => ih _ _ _ hp hq))))
theorem nd_wpX_digestOfSector (G : Prop) (P Q : Int32 → SX → Prop) {u : SX} {p0 : Int32} (hp : wpX_digestOfSector P u p0) (hq : wpX_digestOfSector Q u p0) (h : ∀ a0 a1, P a0 a1 → Q a0 a1 → G) : G := by
  obtain ⟨_, _, _, _, _, _, _, _, _, _, _, _, _, _, _, _, _⟩ := u
  unfold wpX_digestOfSector at hp hq
  exact nd_wpX_unsealToWork G _ _ hp hq (fun  u hp hq => by
  obtain ⟨_, _, _, _, _, _, _, _, _, _, _, _, _, _, _, _, _⟩ := u
  exact nd_x hp hq (fun _ _ hp hq => nd_wX_digestOfSector_9 G _ _ h _ _ _ _ hp hq))
theorem nd_wX_digest_13 (G : Prop) (P Q : Int32 → SX → Prop) (h : ∀ a0 a1, P a0 a1 → Q a0 a1 → G)  :
    ∀ (n n' : Nat) (x1 : Int32) (x2 : Int32) (f_present : Int32) (f_open : Int32) (f_copied : Int32) (f_copyStale : Int32) (f_taken : Int32) (f_copyTaken : Int32) (f_volumeEpoch : Int32) (f_formats : Int32) (a_kept : (Nat → Int32)) (a_epochs : (Nat → Int32)) (a_versions : (Nat → Int32)) (a_slotWords : (Nat → Int32)) (a_copyWords : (Nat → Int32)) (a_key : (Nat → Int32)) (a_seed : (Nat → Int32)) (a_stream : (Nat → Int32)) (a_work : (Nat → Int32)), wX_digest_13 P n x1 x2 f_present f_open f_copied f_copyStale f_taken f_copyTaken f_volumeEpoch f_formats a_kept a_epochs a_versions a_slotWords a_copyWords a_key a_seed a_stream a_work → wX_digest_13 Q n' x1 x2 f_present f_open f_copied f_copyStale f_taken f_copyTaken f_volumeEpoch f_formats a_kept a_epochs a_versions a_slotWords a_copyWords a_key a_seed a_stream a_work → G := by
  intro n
  induction n with
  | zero => intro n' x1 x2 f_present f_open f_copied f_copyStale f_taken f_copyTaken f_volumeEpoch f_formats a_kept a_epochs a_versions a_slotWords a_copyWords a_key a_seed a_stream a_work hp; exact absurd hp (fun z => z)
  | succ n ih =>
    intro n' x1 x2 f_present f_open f_copied f_copyStale f_taken f_copyTaken f_volumeEpoch f_formats a_kept a_epochs a_versions a_slotWords a_copyWords a_key a_seed a_stream a_work hp hq
    cases n' with
    | zero => exact absurd hq (fun z => z)
    | succ n' => exact nd_b hp hq (fun hp hq => h _ _ hp hq) (fun hp hq => nd_wpX_isDamaged G _ _ hp hq (fun _ hp hq => nd_b hp hq (fun hp hq => nd_wpX_digestOfSector G _ _ hp hq (fun _ u hp hq => by
      obtain ⟨_, _, _, _, _, _, _, _, _, _, _, _, _, _, _, _, _⟩ := u
      exact nd_n hp hq (fun hp hq => nd_n hp hq (fun hp hq => ih _ _ _ _ _ _ _ _ _ _ _ _ _ _ _ _ _ _ _ _ hp hq)))) (fun hp hq => nd_n hp hq (fun hp hq => ih _ _ _ _ _ _ _ _ _ _ _ _ _ _ _ _ _ _ _ _ hp hq))))
theorem nd_wpX_digest (G : Prop) (P Q : Int32 → SX → Prop) {u : SX} (hp : wpX_digest P u) (hq : wpX_digest Q u) (h : ∀ a0 a1, P a0 a1 → Q a0 a1 → G) : G := by
  obtain ⟨_, _, _, _, _, _, _, _, _, _, _, _, _, _, _, _, _⟩ := u
  unfold wpX_digest at hp hq
  exact nd_b hp hq (fun hp hq => h _ _ hp hq) (fun hp hq => nd_x hp hq (fun _ _ hp hq => nd_wX_digest_13 G _ _ h _ _ _ _ _ _ _ _ _ _ _ _ _ _ _ _ _ _ _ _ _ hp hq))
theorem nd_wY_digest_4 (G : Prop) (P Q : Int32 → Prop) (h : ∀ a0, P a0 → Q a0 → G) {f_isThere : Int32} {f_isOpen : Int32} {f_left : Int32} {f_hasCopy : Int32} {f_isStale : Int32} {a_cells : Nat → Int32} {a_damaged : Nat → Int32} {a_used : Nat → Int32} {a_phrases : Nat → Int32} {a_copyUsed : Nat → Int32} {a_copyPhrases : Nat → Int32} :
    ∀ (n n' : Nat) (x1 : Int32) (x2 : Int32), wY_digest_4 P f_isThere f_isOpen f_left f_hasCopy f_isStale a_cells a_damaged a_used a_phrases a_copyUsed a_copyPhrases n x1 x2 → wY_digest_4 Q f_isThere f_isOpen f_left f_hasCopy f_isStale a_cells a_damaged a_used a_phrases a_copyUsed a_copyPhrases n' x1 x2 → G := by
  intro n
  induction n with
  | zero => intro n' x1 x2 hp; exact absurd hp (fun z => z)
  | succ n ih =>
    intro n' x1 x2 hp hq
    cases n' with
    | zero => exact absurd hq (fun z => z)
    | succ n' => exact nd_b hp hq (fun hp hq => h _ hp hq) (fun hp hq => nd_a hp hq (fun hp hq => nd_a hp hq (fun hp hq => nd_wpY_read G _ _ hp hq (fun _ hp hq => nd_n hp hq (fun hp hq => nd_n hp hq (fun hp hq => ih _ _ _ hp hq))))))
theorem nd_wpY_digest (G : Prop) (P Q : Int32 → Prop) {u : SY} (hp : wpY_digest P u) (hq : wpY_digest Q u) (h : ∀ a0, P a0 → Q a0 → G) : G := by
  obtain ⟨_, _, _, _, _, _, _, _, _, _, _⟩ := u
  unfold wpY_digest at hp hq
  exact nd_x hp hq (fun _ _ hp hq => nd_wY_digest_4 G _ _ h _ _ _ _ hp hq)
theorem nd_wX_addKey_24 (G : Prop) (P Q : Int32 → SX → Prop) (h : ∀ a0 a1, P a0 a1 → Q a0 a1 → G) {x1 : Int32} {f_present : Int32} {f_open : Int32} {f_copied : Int32} {f_copyStale : Int32} {f_taken : Int32} {f_copyTaken : Int32} {f_volumeEpoch : Int32} {f_formats : Int32} {a_kept : Nat → Int32} {a_epochs : Nat → Int32} {a_versions : Nat → Int32} {a_slotWords : Nat → Int32} {a_copyWords : Nat → Int32} {a_key : Nat → Int32} {a_seed : Nat → Int32} {a_stream : Nat → Int32} {a_work : Nat → Int32} :
    ∀ (n n' : Nat) (x2 : Int32), wX_addKey_24 P x1 f_present f_open f_copied f_copyStale f_taken f_copyTaken f_volumeEpoch f_formats a_kept a_epochs a_versions a_slotWords a_copyWords a_key a_seed a_stream a_work n x2 → wX_addKey_24 Q x1 f_present f_open f_copied f_copyStale f_taken f_copyTaken f_volumeEpoch f_formats a_kept a_epochs a_versions a_slotWords a_copyWords a_key a_seed a_stream a_work n' x2 → G := by
  intro n
  induction n with
  | zero => intro n' x2 hp; exact absurd hp (fun z => z)
  | succ n ih =>
    intro n' x2 hp hq
    cases n' with
    | zero => exact absurd hq (fun z => z)
    | succ n' => exact nd_b hp hq (fun hp hq => h _ _ hp hq) (fun hp hq => nd_wpX_isTaken G _ _ hp hq (fun _ hp hq => nd_b hp hq (fun hp hq => nd_wpX_putSlot G _ _ hp hq (fun  u hp hq => by
      obtain ⟨_, _, _, _, _, _, _, _, _, _, _, _, _, _, _, _, _⟩ := u
      exact h _ _ hp hq)) (fun hp hq => nd_n hp hq (fun hp hq => ih _ _ hp hq))))
theorem nd_wpX_addKey (G : Prop) (P Q : Int32 → SX → Prop) {u : SX} {p0 : Int32} (hp : wpX_addKey P u p0) (hq : wpX_addKey Q u p0) (h : ∀ a0 a1, P a0 a1 → Q a0 a1 → G) : G := by
  obtain ⟨_, _, _, _, _, _, _, _, _, _, _, _, _, _, _, _, _⟩ := u
  unfold wpX_addKey at hp hq
  exact nd_b hp hq (fun hp hq => h _ _ hp hq) (fun hp hq => nd_wpX_findSlot G _ _ hp hq (fun _ u hp hq => by
  obtain ⟨_, _, _, _, _, _, _, _, _, _, _, _, _, _, _, _, _⟩ := u
  exact nd_b hp hq (fun hp hq => nd_x hp hq (fun _ _ hp hq => nd_wX_addKey_24 G _ _ h _ _ _ hp hq)) (fun hp hq => h _ _ hp hq)))
theorem nd_wY_addKey_23 (G : Prop) (P Q : Int32 → SY → Prop) (h : ∀ a0 a1, P a0 a1 → Q a0 a1 → G) {x1 : Int32} {f_isThere : Int32} {f_isOpen : Int32} {f_left : Int32} {f_hasCopy : Int32} {f_isStale : Int32} {a_cells : Nat → Int32} {a_damaged : Nat → Int32} {a_used : Nat → Int32} {a_phrases : Nat → Int32} {a_copyUsed : Nat → Int32} {a_copyPhrases : Nat → Int32} :
    ∀ (n n' : Nat) (x2 : Int32), wY_addKey_23 P x1 f_isThere f_isOpen f_left f_hasCopy f_isStale a_cells a_damaged a_used a_phrases a_copyUsed a_copyPhrases n x2 → wY_addKey_23 Q x1 f_isThere f_isOpen f_left f_hasCopy f_isStale a_cells a_damaged a_used a_phrases a_copyUsed a_copyPhrases n' x2 → G := by
  intro n
  induction n with
  | zero => intro n' x2 hp; exact absurd hp (fun z => z)
  | succ n ih =>
    intro n' x2 hp hq
    cases n' with
    | zero => exact absurd hq (fun z => z)
    | succ n' => exact nd_b hp hq (fun hp hq => h _ _ hp hq) (fun hp hq => nd_a hp hq (fun hp hq => nd_b hp hq (fun hp hq => nd_a hp hq (fun hp hq => nd_n hp hq (fun hp hq => nd_a hp hq (fun hp hq => nd_n hp hq (fun hp hq => h _ _ hp hq))))) (fun hp hq => nd_n hp hq (fun hp hq => ih _ _ hp hq))))
theorem nd_wpY_addKey (G : Prop) (P Q : Int32 → SY → Prop) {u : SY} {p0 : Int32} (hp : wpY_addKey P u p0) (hq : wpY_addKey Q u p0) (h : ∀ a0 a1, P a0 a1 → Q a0 a1 → G) : G := by
  obtain ⟨_, _, _, _, _, _, _, _, _, _, _⟩ := u
  unfold wpY_addKey at hp hq
  exact nd_b hp hq (fun hp hq => h _ _ hp hq) (fun hp hq => nd_wpY_find G _ _ hp hq (fun _ hp hq => nd_b hp hq (fun hp hq => nd_x hp hq (fun _ _ hp hq => nd_wY_addKey_23 G _ _ h _ _ _ hp hq)) (fun hp hq => h _ _ hp hq)))
theorem nd_wpX_isSlot (G : Prop) (P Q : Int32 → Prop) {u : SX} {p0 : Int32} (hp : wpX_isSlot P u p0) (hq : wpX_isSlot Q u p0) (h : ∀ a0, P a0 → Q a0 → G) : G := by
  obtain ⟨_, _, _, _, _, _, _, _, _, _, _, _, _, _, _, _, _⟩ := u
  unfold wpX_isSlot at hp hq
  exact nd_b hp hq (fun hp hq => h _ hp hq) (fun hp hq => nd_b hp hq (fun hp hq => h _ hp hq) (fun hp hq => h _ hp hq))
theorem nd_wX_countTaken_4 (G : Prop) (P Q : Int32 → Prop) (h : ∀ a0, P a0 → Q a0 → G) {f_present : Int32} {f_open : Int32} {f_copied : Int32} {f_copyStale : Int32} {f_taken : Int32} {f_copyTaken : Int32} {f_volumeEpoch : Int32} {f_formats : Int32} {a_kept : Nat → Int32} {a_epochs : Nat → Int32} {a_versions : Nat → Int32} {a_slotWords : Nat → Int32} {a_copyWords : Nat → Int32} {a_key : Nat → Int32} {a_seed : Nat → Int32} {a_stream : Nat → Int32} {a_work : Nat → Int32} :
    ∀ (n n' : Nat) (x1 : Int32) (x2 : Int32), wX_countTaken_4 P f_present f_open f_copied f_copyStale f_taken f_copyTaken f_volumeEpoch f_formats a_kept a_epochs a_versions a_slotWords a_copyWords a_key a_seed a_stream a_work n x1 x2 → wX_countTaken_4 Q f_present f_open f_copied f_copyStale f_taken f_copyTaken f_volumeEpoch f_formats a_kept a_epochs a_versions a_slotWords a_copyWords a_key a_seed a_stream a_work n' x1 x2 → G := by
  intro n
  induction n with
  | zero => intro n' x1 x2 hp; exact absurd hp (fun z => z)
  | succ n ih =>
    intro n' x1 x2 hp hq
    cases n' with
    | zero => exact absurd hq (fun z => z)
    | succ n' => exact nd_b hp hq (fun hp hq => h _ hp hq) (fun hp hq => nd_n hp hq (fun hp hq => nd_n hp hq (fun hp hq => ih _ _ _ hp hq)))
theorem nd_wpX_countTaken (G : Prop) (P Q : Int32 → Prop) {u : SX} (hp : wpX_countTaken P u) (hq : wpX_countTaken Q u) (h : ∀ a0, P a0 → Q a0 → G) : G := by
  obtain ⟨_, _, _, _, _, _, _, _, _, _, _, _, _, _, _, _, _⟩ := u
  unfold wpX_countTaken at hp hq
  exact nd_x hp hq (fun _ _ hp hq => nd_wX_countTaken_4 G _ _ h _ _ _ _ hp hq)
theorem nd_wpX_removeKey (G : Prop) (P Q : Int32 → SX → Prop) {u : SX} {p0 : Int32} (hp : wpX_removeKey P u p0) (hq : wpX_removeKey Q u p0) (h : ∀ a0 a1, P a0 a1 → Q a0 a1 → G) : G := by
  obtain ⟨_, _, _, _, _, _, _, _, _, _, _, _, _, _, _, _, _⟩ := u
  unfold wpX_removeKey at hp hq
  exact nd_wpX_isSlot G _ _ hp hq (fun _ hp hq => nd_b hp hq (fun hp hq => h _ _ hp hq) (fun hp hq => nd_b hp hq (fun hp hq => h _ _ hp hq) (fun hp hq => nd_wpX_isTaken G _ _ hp hq (fun _ hp hq => nd_b hp hq (fun hp hq => h _ _ hp hq) (fun hp hq => nd_wpX_countTaken G _ _ hp hq (fun _ hp hq => nd_b hp hq (fun hp hq => h _ _ hp hq) (fun hp hq => nd_wpX_emptySlot G _ _ hp hq (fun  u hp hq => by
  obtain ⟨_, _, _, _, _, _, _, _, _, _, _, _, _, _, _, _, _⟩ := u
  exact nd_wpX_countTaken G _ _ hp hq (fun _ hp hq => h _ _ hp hq)))))))))
theorem nd_wpY_badSlot (G : Prop) (P Q : Int32 → Prop) {u : SY} {p0 : Int32} (hp : wpY_badSlot P u p0) (hq : wpY_badSlot Q u p0) (h : ∀ a0, P a0 → Q a0 → G) : G := by
  obtain ⟨_, _, _, _, _, _, _, _, _, _, _⟩ := u
  unfold wpY_badSlot at hp hq
  exact nd_b hp hq (fun hp hq => h _ hp hq) (fun hp hq => nd_b hp hq (fun hp hq => h _ hp hq) (fun hp hq => h _ hp hq))
theorem nd_wY_countSlots_4 (G : Prop) (P Q : Int32 → Prop) (h : ∀ a0, P a0 → Q a0 → G) {f_isThere : Int32} {f_isOpen : Int32} {f_left : Int32} {f_hasCopy : Int32} {f_isStale : Int32} {a_cells : Nat → Int32} {a_damaged : Nat → Int32} {a_used : Nat → Int32} {a_phrases : Nat → Int32} {a_copyUsed : Nat → Int32} {a_copyPhrases : Nat → Int32} :
    ∀ (n n' : Nat) (x1 : Int32) (x2 : Int32), wY_countSlots_4 P f_isThere f_isOpen f_left f_hasCopy f_isStale a_cells a_damaged a_used a_phrases a_copyUsed a_copyPhrases n x1 x2 → wY_countSlots_4 Q f_isThere f_isOpen f_left f_hasCopy f_isStale a_cells a_damaged a_used a_phrases a_copyUsed a_copyPhrases n' x1 x2 → G := by
  intro n
  induction n with
  | zero => intro n' x1 x2 hp; exact absurd hp (fun z => z)
  | succ n ih =>
    intro n' x1 x2 hp hq
    cases n' with
    | zero => exact absurd hq (fun z => z)
    | succ n' => exact nd_b hp hq (fun hp hq => h _ hp hq) (fun hp hq => nd_a hp hq (fun hp hq => nd_b hp hq (fun hp hq => nd_n hp hq (fun hp hq => ih _ _ _ hp hq)) (fun hp hq => nd_n hp hq (fun hp hq => nd_n hp hq (fun hp hq => ih _ _ _ hp hq)))))
theorem nd_wpY_countSlots (G : Prop) (P Q : Int32 → Prop) {u : SY} (hp : wpY_countSlots P u) (hq : wpY_countSlots Q u) (h : ∀ a0, P a0 → Q a0 → G) : G := by
  obtain ⟨_, _, _, _, _, _, _, _, _, _, _⟩ := u
  unfold wpY_countSlots at hp hq
  exact nd_x hp hq (fun _ _ hp hq => nd_wY_countSlots_4 G _ _ h _ _ _ _ hp hq)
theorem nd_wpY_removeKey (G : Prop) (P Q : Int32 → SY → Prop) {u : SY} {p0 : Int32} (hp : wpY_removeKey P u p0) (hq : wpY_removeKey Q u p0) (h : ∀ a0 a1, P a0 a1 → Q a0 a1 → G) : G := by
  obtain ⟨_, _, _, _, _, _, _, _, _, _, _⟩ := u
  unfold wpY_removeKey at hp hq
  exact nd_wpY_badSlot G _ _ hp hq (fun _ hp hq => nd_b hp hq (fun hp hq => nd_b hp hq (fun hp hq => h _ _ hp hq) (fun hp hq => nd_a hp hq (fun hp hq => nd_b hp hq (fun hp hq => h _ _ hp hq) (fun hp hq => nd_wpY_countSlots G _ _ hp hq (fun _ hp hq => nd_b hp hq (fun hp hq => h _ _ hp hq) (fun hp hq => nd_a hp hq (fun hp hq => nd_n hp hq (fun hp hq => nd_wpY_countSlots G _ _ hp hq (fun _ hp hq => h _ _ hp hq))))))))) (fun hp hq => h _ _ hp hq))
theorem nd_wpX_changeKey (G : Prop) (P Q : Int32 → SX → Prop) {u : SX} {p0 : Int32} {p1 : Int32} (hp : wpX_changeKey P u p0 p1) (hq : wpX_changeKey Q u p0 p1) (h : ∀ a0 a1, P a0 a1 → Q a0 a1 → G) : G := by
  obtain ⟨_, _, _, _, _, _, _, _, _, _, _, _, _, _, _, _, _⟩ := u
  unfold wpX_changeKey at hp hq
  exact nd_wpX_isSlot G _ _ hp hq (fun _ hp hq => nd_b hp hq (fun hp hq => h _ _ hp hq) (fun hp hq => nd_b hp hq (fun hp hq => h _ _ hp hq) (fun hp hq => nd_wpX_isTaken G _ _ hp hq (fun _ hp hq => nd_b hp hq (fun hp hq => h _ _ hp hq) (fun hp hq => nd_wpX_findSlot G _ _ hp hq (fun _ u hp hq => by
  obtain ⟨_, _, _, _, _, _, _, _, _, _, _, _, _, _, _, _, _⟩ := u
  exact nd_b hp hq (fun hp hq => h _ _ hp hq) (fun hp hq => nd_b hp hq (fun hp hq => nd_wpX_putSlot G _ _ hp hq (fun  u hp hq => by
  obtain ⟨_, _, _, _, _, _, _, _, _, _, _, _, _, _, _, _, _⟩ := u
  exact h _ _ hp hq)) (fun hp hq => h _ _ hp hq))))))))
theorem nd_wpY_changeKey (G : Prop) (P Q : Int32 → SY → Prop) {u : SY} {p0 : Int32} {p1 : Int32} (hp : wpY_changeKey P u p0 p1) (hq : wpY_changeKey Q u p0 p1) (h : ∀ a0 a1, P a0 a1 → Q a0 a1 → G) : G := by
  obtain ⟨_, _, _, _, _, _, _, _, _, _, _⟩ := u
  unfold wpY_changeKey at hp hq
  exact nd_wpY_badSlot G _ _ hp hq (fun _ hp hq => nd_b hp hq (fun hp hq => nd_b hp hq (fun hp hq => h _ _ hp hq) (fun hp hq => nd_a hp hq (fun hp hq => nd_b hp hq (fun hp hq => h _ _ hp hq) (fun hp hq => nd_wpY_find G _ _ hp hq (fun _ hp hq => nd_b hp hq (fun hp hq => h _ _ hp hq) (fun hp hq => nd_b hp hq (fun hp hq => nd_a hp hq (fun hp hq => nd_n hp hq (fun hp hq => h _ _ hp hq))) (fun hp hq => h _ _ hp hq))))))) (fun hp hq => h _ _ hp hq))
theorem nd_wpX_slots (G : Prop) (P Q : Int32 → Prop) {u : SX} (hp : wpX_slots P u) (hq : wpX_slots Q u) (h : ∀ a0, P a0 → Q a0 → G) : G := by
  obtain ⟨_, _, _, _, _, _, _, _, _, _, _, _, _, _, _, _, _⟩ := u
  unfold wpX_slots at hp hq
  exact h _ hp hq
theorem nd_wY_slots_4 (G : Prop) (P Q : Int32 → Prop) (h : ∀ a0, P a0 → Q a0 → G) {f_isThere : Int32} {f_isOpen : Int32} {f_left : Int32} {f_hasCopy : Int32} {f_isStale : Int32} {a_cells : Nat → Int32} {a_damaged : Nat → Int32} {a_used : Nat → Int32} {a_phrases : Nat → Int32} {a_copyUsed : Nat → Int32} {a_copyPhrases : Nat → Int32} :
    ∀ (n n' : Nat) (x1 : Int32) (x2 : Int32), wY_slots_4 P f_isThere f_isOpen f_left f_hasCopy f_isStale a_cells a_damaged a_used a_phrases a_copyUsed a_copyPhrases n x1 x2 → wY_slots_4 Q f_isThere f_isOpen f_left f_hasCopy f_isStale a_cells a_damaged a_used a_phrases a_copyUsed a_copyPhrases n' x1 x2 → G := by
  intro n
  induction n with
  | zero => intro n' x1 x2 hp; exact absurd hp (fun z => z)
  | succ n ih =>
    intro n' x1 x2 hp hq
    cases n' with
    | zero => exact absurd hq (fun z => z)
    | succ n' => exact nd_b hp hq (fun hp hq => h _ hp hq) (fun hp hq => nd_b hp hq (fun hp hq => nd_n hp hq (fun hp hq => ih _ _ _ hp hq)) (fun hp hq => nd_a hp hq (fun hp hq => nd_b hp hq (fun hp hq => nd_n hp hq (fun hp hq => ih _ _ _ hp hq)) (fun hp hq => nd_n hp hq (fun hp hq => nd_n hp hq (fun hp hq => ih _ _ _ hp hq))))))
theorem nd_wpY_slots (G : Prop) (P Q : Int32 → Prop) {u : SY} (hp : wpY_slots P u) (hq : wpY_slots Q u) (h : ∀ a0, P a0 → Q a0 → G) : G := by
  obtain ⟨_, _, _, _, _, _, _, _, _, _, _⟩ := u
  unfold wpY_slots at hp hq
  exact nd_x hp hq (fun _ _ hp hq => nd_wY_slots_4 G _ _ h _ _ _ _ hp hq)
theorem nd_wX_slotOf_27 (G : Prop) (P Q : Int32 → SX → Prop) {x2 : Int32} {f_present : Int32} {f_open : Int32} {f_copied : Int32} {f_copyStale : Int32} {f_taken : Int32} {f_copyTaken : Int32} {f_volumeEpoch : Int32} {f_formats : Int32} {a_kept : Nat → Int32} {a_epochs : Nat → Int32} {a_versions : Nat → Int32} {a_slotWords : Nat → Int32} {a_copyWords : Nat → Int32} {a_key : Nat → Int32} {a_seed : Nat → Int32} {a_stream : Nat → Int32} {a_work : Nat → Int32} (hp : wX_slotOf_27 P x2 f_present f_open f_copied f_copyStale f_taken f_copyTaken f_volumeEpoch f_formats a_kept a_epochs a_versions a_slotWords a_copyWords a_key a_seed a_stream a_work) (hq : wX_slotOf_27 Q x2 f_present f_open f_copied f_copyStale f_taken f_copyTaken f_volumeEpoch f_formats a_kept a_epochs a_versions a_slotWords a_copyWords a_key a_seed a_stream a_work) (h : ∀ a0 a1, P a0 a1 → Q a0 a1 → G) : G := by
  unfold wX_slotOf_27 at hp hq
  exact nd_b hp hq (fun hp hq => h _ _ hp hq) (fun hp hq => h _ _ hp hq)
theorem nd_wpX_slotOf (G : Prop) (P Q : Int32 → SX → Prop) {u : SX} {p0 : Int32} (hp : wpX_slotOf P u p0) (hq : wpX_slotOf Q u p0) (h : ∀ a0 a1, P a0 a1 → Q a0 a1 → G) : G := by
  obtain ⟨_, _, _, _, _, _, _, _, _, _, _, _, _, _, _, _, _⟩ := u
  unfold wpX_slotOf at hp hq
  exact nd_b hp hq (fun hp hq => h _ _ hp hq) (fun hp hq => nd_wpX_findSlot G _ _ hp hq (fun _ u hp hq => by
  obtain ⟨_, _, _, _, _, _, _, _, _, _, _, _, _, _, _, _, _⟩ := u
  exact nd_b hp hq (fun hp hq => nd_wpX_forgetSecrets G _ _ hp hq (fun  u hp hq => by
  obtain ⟨_, _, _, _, _, _, _, _, _, _, _, _, _, _, _, _, _⟩ := u
  exact nd_wX_slotOf_27 G _ _ hp hq h)) (fun hp hq => nd_wX_slotOf_27 G _ _ hp hq h)))
theorem nd_wpY_slotOf (G : Prop) (P Q : Int32 → Prop) {u : SY} {p0 : Int32} (hp : wpY_slotOf P u p0) (hq : wpY_slotOf Q u p0) (h : ∀ a0, P a0 → Q a0 → G) : G := by
  obtain ⟨_, _, _, _, _, _, _, _, _, _, _⟩ := u
  unfold wpY_slotOf at hp hq
  exact nd_b hp hq (fun hp hq => h _ hp hq) (fun hp hq => nd_wpY_find G _ _ hp hq (fun _ hp hq => nd_b hp hq (fun hp hq => h _ hp hq) (fun hp hq => h _ hp hq)))
theorem nd_wX_countToRenew_4 (G : Prop) (P Q : Int32 → Prop) (h : ∀ a0, P a0 → Q a0 → G) {f_present : Int32} {f_open : Int32} {f_copied : Int32} {f_copyStale : Int32} {f_taken : Int32} {f_copyTaken : Int32} {f_volumeEpoch : Int32} {f_formats : Int32} {a_kept : Nat → Int32} {a_epochs : Nat → Int32} {a_versions : Nat → Int32} {a_slotWords : Nat → Int32} {a_copyWords : Nat → Int32} {a_key : Nat → Int32} {a_seed : Nat → Int32} {a_stream : Nat → Int32} {a_work : Nat → Int32} :
    ∀ (n n' : Nat) (x1 : Int32) (x2 : Int32), wX_countToRenew_4 P f_present f_open f_copied f_copyStale f_taken f_copyTaken f_volumeEpoch f_formats a_kept a_epochs a_versions a_slotWords a_copyWords a_key a_seed a_stream a_work n x1 x2 → wX_countToRenew_4 Q f_present f_open f_copied f_copyStale f_taken f_copyTaken f_volumeEpoch f_formats a_kept a_epochs a_versions a_slotWords a_copyWords a_key a_seed a_stream a_work n' x1 x2 → G := by
  intro n
  induction n with
  | zero => intro n' x1 x2 hp; exact absurd hp (fun z => z)
  | succ n ih =>
    intro n' x1 x2 hp hq
    cases n' with
    | zero => exact absurd hq (fun z => z)
    | succ n' => exact nd_b hp hq (fun hp hq => h _ hp hq) (fun hp hq => nd_a hp hq (fun hp hq => nd_b hp hq (fun hp hq => nd_n hp hq (fun hp hq => ih _ _ _ hp hq)) (fun hp hq => nd_n hp hq (fun hp hq => nd_n hp hq (fun hp hq => ih _ _ _ hp hq)))))
theorem nd_wpX_countToRenew (G : Prop) (P Q : Int32 → Prop) {u : SX} (hp : wpX_countToRenew P u) (hq : wpX_countToRenew Q u) (h : ∀ a0, P a0 → Q a0 → G) : G := by
  obtain ⟨_, _, _, _, _, _, _, _, _, _, _, _, _, _, _, _, _⟩ := u
  unfold wpX_countToRenew at hp hq
  exact nd_x hp hq (fun _ _ hp hq => nd_wX_countToRenew_4 G _ _ h _ _ _ _ hp hq)
theorem nd_wX_renew_73 (G : Prop) (P Q : Int32 → SX → Prop) {f_present : Int32} {f_open : Int32} {f_copied : Int32} {f_copyStale : Int32} {f_taken : Int32} {f_copyTaken : Int32} {f_volumeEpoch : Int32} {f_formats : Int32} {a_kept : Nat → Int32} {a_epochs : Nat → Int32} {a_versions : Nat → Int32} {a_slotWords : Nat → Int32} {a_copyWords : Nat → Int32} {a_key : Nat → Int32} {a_seed : Nat → Int32} {a_stream : Nat → Int32} {a_work : Nat → Int32} (hp : wX_renew_73 P f_present f_open f_copied f_copyStale f_taken f_copyTaken f_volumeEpoch f_formats a_kept a_epochs a_versions a_slotWords a_copyWords a_key a_seed a_stream a_work) (hq : wX_renew_73 Q f_present f_open f_copied f_copyStale f_taken f_copyTaken f_volumeEpoch f_formats a_kept a_epochs a_versions a_slotWords a_copyWords a_key a_seed a_stream a_work) (h : ∀ a0 a1, P a0 a1 → Q a0 a1 → G) : G := by
  unfold wX_renew_73 at hp hq
  exact nd_wpX_countToRenew G _ _ hp hq (fun _ hp hq => h _ _ hp hq)
theorem nd_wpX_writeRenewed (G : Prop) (P Q : SX → Prop) {u : SX} {p0 : Int32} {p1 : Int32} (hp : wpX_writeRenewed P u p0 p1) (hq : wpX_writeRenewed Q u p0 p1) (h : ∀ a0, P a0 → Q a0 → G) : G := by
  obtain ⟨_, _, _, _, _, _, _, _, _, _, _, _, _, _, _, _, _⟩ := u
  unfold wpX_writeRenewed at hp hq
  exact nd_a hp hq (fun hp hq => nd_wpX_rowOf G _ _ hp hq (fun _ hp hq => nd_a hp hq (fun hp hq => nd_wpX_sumOf__kept G _ _ hp hq (fun _ hp hq => nd_n hp hq (fun hp hq => nd_wpX_unsealToWork G _ _ hp hq (fun  u hp hq => by
  obtain ⟨_, _, _, _, _, _, _, _, _, _, _, _, _, _, _, _, _⟩ := u
  exact nd_wpX_sealWork G _ _ hp hq (fun  u hp hq => by
  obtain ⟨_, _, _, _, _, _, _, _, _, _, _, _, _, _, _, _, _⟩ := u
  exact nd_n hp hq (fun hp hq => nd_wpX_rowOf G _ _ hp hq (fun _ hp hq => nd_wpX_keepWork G _ _ hp hq (fun  u hp hq => by
  obtain ⟨_, _, _, _, _, _, _, _, _, _, _, _, _, _, _, _, _⟩ := u
  exact h _ hp hq))))))))))
theorem nd_wX_finishRenewed_24 (G : Prop) (P Q : SX → Prop) (h : ∀ a0, P a0 → Q a0 → G) {x2 : Int32} {f_present : Int32} {f_open : Int32} {f_copied : Int32} {f_copyStale : Int32} {f_taken : Int32} {f_copyTaken : Int32} {f_volumeEpoch : Int32} {f_formats : Int32} :
    ∀ (n n' : Nat) (x3 : Int32) (a_kept : (Nat → Int32)) (a_epochs : (Nat → Int32)) (a_versions : (Nat → Int32)) (a_slotWords : (Nat → Int32)) (a_copyWords : (Nat → Int32)) (a_key : (Nat → Int32)) (a_seed : (Nat → Int32)) (a_stream : (Nat → Int32)) (a_work : (Nat → Int32)), wX_finishRenewed_24 P x2 f_present f_open f_copied f_copyStale f_taken f_copyTaken f_volumeEpoch f_formats n x3 a_kept a_epochs a_versions a_slotWords a_copyWords a_key a_seed a_stream a_work → wX_finishRenewed_24 Q x2 f_present f_open f_copied f_copyStale f_taken f_copyTaken f_volumeEpoch f_formats n' x3 a_kept a_epochs a_versions a_slotWords a_copyWords a_key a_seed a_stream a_work → G := by
  intro n
  induction n with
  | zero => intro n' x3 a_kept a_epochs a_versions a_slotWords a_copyWords a_key a_seed a_stream a_work hp; exact absurd hp (fun z => z)
  | succ n ih =>
    intro n' x3 a_kept a_epochs a_versions a_slotWords a_copyWords a_key a_seed a_stream a_work hp hq
    cases n' with
    | zero => exact absurd hq (fun z => z)
    | succ n' => exact nd_b hp hq (fun hp hq => h _ hp hq) (fun hp hq => nd_a hp hq (fun hp hq => nd_n hp hq (fun hp hq => nd_n hp hq (fun hp hq => ih _ _ _ _ _ _ _ _ _ _ _ hp hq))))
theorem nd_wpX_finishRenewed (G : Prop) (P Q : SX → Prop) {u : SX} {p0 : Int32} (hp : wpX_finishRenewed P u p0) (hq : wpX_finishRenewed Q u p0) (h : ∀ a0, P a0 → Q a0 → G) : G := by
  obtain ⟨_, _, _, _, _, _, _, _, _, _, _, _, _, _, _, _, _⟩ := u
  unfold wpX_finishRenewed at hp hq
  exact nd_a hp hq (fun hp hq => nd_wpX_rowOf G _ _ hp hq (fun _ hp hq => nd_a hp hq (fun hp hq => nd_n hp hq (fun hp hq => nd_x hp hq (fun _ _ hp hq => nd_wX_finishRenewed_24 G _ _ h _ _ _ _ _ _ _ _ _ _ _ _ hp hq)))))
theorem nd_wX_renew_42 (G : Prop) (P Q : Int32 → SX → Prop) (h : ∀ a0 a1, P a0 a1 → Q a0 a1 → G) {x1 : Int32} {x2 : Int32} :
    ∀ (n n' : Nat) (x3 : Int32) (f_present : Int32) (f_open : Int32) (f_copied : Int32) (f_copyStale : Int32) (f_taken : Int32) (f_copyTaken : Int32) (f_volumeEpoch : Int32) (f_formats : Int32) (a_kept : (Nat → Int32)) (a_epochs : (Nat → Int32)) (a_versions : (Nat → Int32)) (a_slotWords : (Nat → Int32)) (a_copyWords : (Nat → Int32)) (a_key : (Nat → Int32)) (a_seed : (Nat → Int32)) (a_stream : (Nat → Int32)) (a_work : (Nat → Int32)), wX_renew_42 P x1 x2 n x3 f_present f_open f_copied f_copyStale f_taken f_copyTaken f_volumeEpoch f_formats a_kept a_epochs a_versions a_slotWords a_copyWords a_key a_seed a_stream a_work → wX_renew_42 Q x1 x2 n' x3 f_present f_open f_copied f_copyStale f_taken f_copyTaken f_volumeEpoch f_formats a_kept a_epochs a_versions a_slotWords a_copyWords a_key a_seed a_stream a_work → G := by
  intro n
  induction n with
  | zero => intro n' x3 f_present f_open f_copied f_copyStale f_taken f_copyTaken f_volumeEpoch f_formats a_kept a_epochs a_versions a_slotWords a_copyWords a_key a_seed a_stream a_work hp; exact absurd hp (fun z => z)
  | succ n ih =>
    intro n' x3 f_present f_open f_copied f_copyStale f_taken f_copyTaken f_volumeEpoch f_formats a_kept a_epochs a_versions a_slotWords a_copyWords a_key a_seed a_stream a_work hp hq
    cases n' with
    | zero => exact absurd hq (fun z => z)
    | succ n' => exact nd_b hp hq (fun hp hq => nd_wX_renew_73 G _ _ hp hq h) (fun hp hq => nd_b hp hq (fun hp hq => nd_wX_renew_73 G _ _ hp hq h) (fun hp hq => nd_wpX_writeRenewed G _ _ hp hq (fun  u hp hq => by
      obtain ⟨_, _, _, _, _, _, _, _, _, _, _, _, _, _, _, _, _⟩ := u
      exact nd_wpX_finishRenewed G _ _ hp hq (fun  u hp hq => by
      obtain ⟨_, _, _, _, _, _, _, _, _, _, _, _, _, _, _, _, _⟩ := u
      exact nd_n hp hq (fun hp hq => ih _ _ _ _ _ _ _ _ _ _ _ _ _ _ _ _ _ _ _ hp hq)))))
theorem nd_wX_renew_32 (G : Prop) (P Q : Int32 → SX → Prop) {x1 : Int32} {f_present : Int32} {f_open : Int32} {f_copied : Int32} {f_copyStale : Int32} {f_taken : Int32} {f_copyTaken : Int32} {f_volumeEpoch : Int32} {f_formats : Int32} {a_kept : Nat → Int32} {a_epochs : Nat → Int32} {a_versions : Nat → Int32} {a_slotWords : Nat → Int32} {a_copyWords : Nat → Int32} {a_key : Nat → Int32} {a_seed : Nat → Int32} {a_stream : Nat → Int32} {a_work : Nat → Int32} (hp : wX_renew_32 P x1 f_present f_open f_copied f_copyStale f_taken f_copyTaken f_volumeEpoch f_formats a_kept a_epochs a_versions a_slotWords a_copyWords a_key a_seed a_stream a_work) (hq : wX_renew_32 Q x1 f_present f_open f_copied f_copyStale f_taken f_copyTaken f_volumeEpoch f_formats a_kept a_epochs a_versions a_slotWords a_copyWords a_key a_seed a_stream a_work) (h : ∀ a0 a1, P a0 a1 → Q a0 a1 → G) : G := by
  unfold wX_renew_32 at hp hq
  exact nd_wpX_countToRenew G _ _ hp hq (fun _ hp hq => nd_n hp hq (fun hp hq => nd_x hp hq (fun _ _ hp hq => nd_wX_renew_42 G _ _ h _ _ _ _ _ _ _ _ _ _ _ _ _ _ _ _ _ _ _ _ hp hq)))
theorem nd_wpX_renew (G : Prop) (P Q : Int32 → SX → Prop) {u : SX} {p0 : Int32} (hp : wpX_renew P u p0) (hq : wpX_renew Q u p0) (h : ∀ a0 a1, P a0 a1 → Q a0 a1 → G) : G := by
  obtain ⟨_, _, _, _, _, _, _, _, _, _, _, _, _, _, _, _, _⟩ := u
  unfold wpX_renew at hp hq
  exact nd_b hp hq (fun hp hq => h _ _ hp hq) (fun hp hq => nd_wpX_countToRenew G _ _ hp hq (fun _ hp hq => nd_b hp hq (fun hp hq => nd_n hp hq (fun hp hq => nd_wX_renew_32 G _ _ hp hq h)) (fun hp hq => nd_wX_renew_32 G _ _ hp hq h)))
theorem nd_wY_renew_28 (G : Prop) (P Q : Int32 → SY → Prop) {x1 : Int32} {f_isThere : Int32} {f_isOpen : Int32} {f_left : Int32} {f_hasCopy : Int32} {f_isStale : Int32} {a_cells : Nat → Int32} {a_damaged : Nat → Int32} {a_used : Nat → Int32} {a_phrases : Nat → Int32} {a_copyUsed : Nat → Int32} {a_copyPhrases : Nat → Int32} (hp : wY_renew_28 P x1 f_isThere f_isOpen f_left f_hasCopy f_isStale a_cells a_damaged a_used a_phrases a_copyUsed a_copyPhrases) (hq : wY_renew_28 Q x1 f_isThere f_isOpen f_left f_hasCopy f_isStale a_cells a_damaged a_used a_phrases a_copyUsed a_copyPhrases) (h : ∀ a0 a1, P a0 a1 → Q a0 a1 → G) : G := by
  unfold wY_renew_28 at hp hq
  exact nd_b hp hq (fun hp hq => h _ _ hp hq) (fun hp hq => nd_b hp hq (fun hp hq => nd_n hp hq (fun hp hq => h _ _ hp hq)) (fun hp hq => h _ _ hp hq))
theorem nd_wpY_renew (G : Prop) (P Q : Int32 → SY → Prop) {u : SY} {p0 : Int32} (hp : wpY_renew P u p0) (hq : wpY_renew Q u p0) (h : ∀ a0 a1, P a0 a1 → Q a0 a1 → G) : G := by
  obtain ⟨_, _, _, _, _, _, _, _, _, _, _⟩ := u
  unfold wpY_renew at hp hq
  exact nd_b hp hq (fun hp hq => h _ _ hp hq) (fun hp hq => nd_b hp hq (fun hp hq => nd_wY_renew_28 G _ _ hp hq h) (fun hp hq => nd_wY_renew_28 G _ _ hp hq h))
theorem nd_wpX_toRenew (G : Prop) (P Q : Int32 → Prop) {u : SX} (hp : wpX_toRenew P u) (hq : wpX_toRenew Q u) (h : ∀ a0, P a0 → Q a0 → G) : G := by
  obtain ⟨_, _, _, _, _, _, _, _, _, _, _, _, _, _, _, _, _⟩ := u
  unfold wpX_toRenew at hp hq
  exact nd_wpX_countToRenew G _ _ hp hq (fun _ hp hq => h _ hp hq)
theorem nd_wpY_toRenew (G : Prop) (P Q : Int32 → Prop) {u : SY} (hp : wpY_toRenew P u) (hq : wpY_toRenew Q u) (h : ∀ a0, P a0 → Q a0 → G) : G := by
  obtain ⟨_, _, _, _, _, _, _, _, _, _, _⟩ := u
  unfold wpY_toRenew at hp hq
  exact h _ hp hq
theorem nd_wX_saveSlots_62 (G : Prop) (P Q : Int32 → SX → Prop) {z0 : Int32} {f_present : Int32} {f_open : Int32} {f_copied : Int32} {f_copyStale : Int32} {f_taken : Int32} {f_copyTaken : Int32} {f_volumeEpoch : Int32} {f_formats : Int32} {a_kept : Nat → Int32} {a_epochs : Nat → Int32} {a_versions : Nat → Int32} {a_slotWords : Nat → Int32} {a_copyWords : Nat → Int32} {a_key : Nat → Int32} {a_seed : Nat → Int32} {a_stream : Nat → Int32} {a_work : Nat → Int32} (hp : wX_saveSlots_62 P z0 f_present f_open f_copied f_copyStale f_taken f_copyTaken f_volumeEpoch f_formats a_kept a_epochs a_versions a_slotWords a_copyWords a_key a_seed a_stream a_work) (hq : wX_saveSlots_62 Q z0 f_present f_open f_copied f_copyStale f_taken f_copyTaken f_volumeEpoch f_formats a_kept a_epochs a_versions a_slotWords a_copyWords a_key a_seed a_stream a_work) (h : ∀ a0 a1, P a0 a1 → Q a0 a1 → G) : G := by
  unfold wX_saveSlots_62 at hp hq
  exact nd_a hp hq (fun hp hq => nd_a hp hq (fun hp hq => nd_wpX_countTaken G _ _ hp hq (fun _ hp hq => h _ _ hp hq)))
theorem nd_wX_saveSlots_12 (G : Prop) (P Q : Int32 → SX → Prop) (h : ∀ a0 a1, P a0 a1 → Q a0 a1 → G) {f_present : Int32} {f_open : Int32} {f_copied : Int32} {f_copyStale : Int32} {f_taken : Int32} {f_copyTaken : Int32} {f_volumeEpoch : Int32} {f_formats : Int32} :
    ∀ (n n' : Nat) (x1 : Int32) (a_kept : (Nat → Int32)) (a_epochs : (Nat → Int32)) (a_versions : (Nat → Int32)) (a_slotWords : (Nat → Int32)) (a_copyWords : (Nat → Int32)) (a_key : (Nat → Int32)) (a_seed : (Nat → Int32)) (a_stream : (Nat → Int32)) (a_work : (Nat → Int32)), wX_saveSlots_12 P f_present f_open f_copied f_copyStale f_taken f_copyTaken f_volumeEpoch f_formats n x1 a_kept a_epochs a_versions a_slotWords a_copyWords a_key a_seed a_stream a_work → wX_saveSlots_12 Q f_present f_open f_copied f_copyStale f_taken f_copyTaken f_volumeEpoch f_formats n' x1 a_kept a_epochs a_versions a_slotWords a_copyWords a_key a_seed a_stream a_work → G := by
  intro n
  induction n with
  | zero => intro n' x1 a_kept a_epochs a_versions a_slotWords a_copyWords a_key a_seed a_stream a_work hp; exact absurd hp (fun z => z)
  | succ n ih =>
    intro n' x1 a_kept a_epochs a_versions a_slotWords a_copyWords a_key a_seed a_stream a_work hp hq
    cases n' with
    | zero => exact absurd hq (fun z => z)
    | succ n' => exact nd_b hp hq (fun hp hq => nd_wpX_countToRenew G _ _ hp hq (fun _ hp hq => nd_b hp hq (fun hp hq => nd_wX_saveSlots_62 G _ _ hp hq h) (fun hp hq => nd_wX_saveSlots_62 G _ _ hp hq h))) (fun hp hq => nd_a hp hq (fun hp hq => nd_a hp hq (fun hp hq => nd_n hp hq (fun hp hq => nd_n hp hq (fun hp hq => ih _ _ _ _ _ _ _ _ _ _ _ hp hq)))))
theorem nd_wpX_saveSlots (G : Prop) (P Q : Int32 → SX → Prop) {u : SX} (hp : wpX_saveSlots P u) (hq : wpX_saveSlots Q u) (h : ∀ a0 a1, P a0 a1 → Q a0 a1 → G) : G := by
  obtain ⟨_, _, _, _, _, _, _, _, _, _, _, _, _, _, _, _, _⟩ := u
  unfold wpX_saveSlots at hp hq
  exact nd_b hp hq (fun hp hq => h _ _ hp hq) (fun hp hq => nd_x hp hq (fun _ _ hp hq => nd_wX_saveSlots_12 G _ _ h _ _ _ _ _ _ _ _ _ _ _ _ hp hq))
theorem nd_wY_saveSlots_33 (G : Prop) (P Q : Int32 → SY → Prop) (h : ∀ a0 a1, P a0 a1 → Q a0 a1 → G) {f_isThere : Int32} {f_isOpen : Int32} {f_left : Int32} {f_hasCopy : Int32} {f_isStale : Int32} :
    ∀ (n n' : Nat) (x1 : Int32) (a_cells : (Nat → Int32)) (a_damaged : (Nat → Int32)) (a_used : (Nat → Int32)) (a_phrases : (Nat → Int32)) (a_copyUsed : (Nat → Int32)) (a_copyPhrases : (Nat → Int32)), wY_saveSlots_33 P f_isThere f_isOpen f_left f_hasCopy f_isStale n x1 a_cells a_damaged a_used a_phrases a_copyUsed a_copyPhrases → wY_saveSlots_33 Q f_isThere f_isOpen f_left f_hasCopy f_isStale n' x1 a_cells a_damaged a_used a_phrases a_copyUsed a_copyPhrases → G := by
  intro n
  induction n with
  | zero => intro n' x1 a_cells a_damaged a_used a_phrases a_copyUsed a_copyPhrases hp; exact absurd hp (fun z => z)
  | succ n ih =>
    intro n' x1 a_cells a_damaged a_used a_phrases a_copyUsed a_copyPhrases hp hq
    cases n' with
    | zero => exact absurd hq (fun z => z)
    | succ n' => exact nd_b hp hq (fun hp hq => nd_wpY_countSlots G _ _ hp hq (fun _ hp hq => h _ _ hp hq)) (fun hp hq => nd_a hp hq (fun hp hq => nd_a hp hq (fun hp hq => nd_n hp hq (fun hp hq => nd_a hp hq (fun hp hq => nd_a hp hq (fun hp hq => nd_n hp hq (fun hp hq => nd_n hp hq (fun hp hq => ih _ _ _ _ _ _ _ _ hp hq))))))))
theorem nd_wpY_saveSlots (G : Prop) (P Q : Int32 → SY → Prop) {u : SY} (hp : wpY_saveSlots P u) (hq : wpY_saveSlots Q u) (h : ∀ a0 a1, P a0 a1 → Q a0 a1 → G) : G := by
  obtain ⟨_, _, _, _, _, _, _, _, _, _, _⟩ := u
  unfold wpY_saveSlots at hp hq
  exact nd_b hp hq (fun hp hq => h _ _ hp hq) (fun hp hq => nd_b hp hq (fun hp hq => nd_x hp hq (fun _ _ hp hq => nd_wY_saveSlots_33 G _ _ h _ _ _ _ _ _ _ _ _ hp hq)) (fun hp hq => nd_x hp hq (fun _ _ hp hq => nd_wY_saveSlots_33 G _ _ h _ _ _ _ _ _ _ _ _ hp hq)))
theorem nd_wX_restoreSlots_29 (G : Prop) (P Q : Int32 → SX → Prop) (h : ∀ a0 a1, P a0 a1 → Q a0 a1 → G) {f_present : Int32} {f_open : Int32} {f_copied : Int32} {f_copyStale : Int32} {f_taken : Int32} {f_copyTaken : Int32} {f_volumeEpoch : Int32} {f_formats : Int32} :
    ∀ (n n' : Nat) (x1 : Int32) (a_kept : (Nat → Int32)) (a_epochs : (Nat → Int32)) (a_versions : (Nat → Int32)) (a_slotWords : (Nat → Int32)) (a_copyWords : (Nat → Int32)) (a_key : (Nat → Int32)) (a_seed : (Nat → Int32)) (a_stream : (Nat → Int32)) (a_work : (Nat → Int32)), wX_restoreSlots_29 P f_present f_open f_copied f_copyStale f_taken f_copyTaken f_volumeEpoch f_formats n x1 a_kept a_epochs a_versions a_slotWords a_copyWords a_key a_seed a_stream a_work → wX_restoreSlots_29 Q f_present f_open f_copied f_copyStale f_taken f_copyTaken f_volumeEpoch f_formats n' x1 a_kept a_epochs a_versions a_slotWords a_copyWords a_key a_seed a_stream a_work → G := by
  intro n
  induction n with
  | zero => intro n' x1 a_kept a_epochs a_versions a_slotWords a_copyWords a_key a_seed a_stream a_work hp; exact absurd hp (fun z => z)
  | succ n ih =>
    intro n' x1 a_kept a_epochs a_versions a_slotWords a_copyWords a_key a_seed a_stream a_work hp hq
    cases n' with
    | zero => exact absurd hq (fun z => z)
    | succ n' => exact nd_b hp hq (fun hp hq => nd_wpX_close G _ _ hp hq (fun  u hp hq => by
      obtain ⟨_, _, _, _, _, _, _, _, _, _, _, _, _, _, _, _, _⟩ := u
      exact nd_wpX_countTaken G _ _ hp hq (fun _ hp hq => h _ _ hp hq))) (fun hp hq => nd_a hp hq (fun hp hq => nd_a hp hq (fun hp hq => nd_n hp hq (fun hp hq => nd_n hp hq (fun hp hq => ih _ _ _ _ _ _ _ _ _ _ _ hp hq)))))
theorem nd_wpX_restoreSlots (G : Prop) (P Q : Int32 → SX → Prop) {u : SX} (hp : wpX_restoreSlots P u) (hq : wpX_restoreSlots Q u) (h : ∀ a0 a1, P a0 a1 → Q a0 a1 → G) : G := by
  obtain ⟨_, _, _, _, _, _, _, _, _, _, _, _, _, _, _, _, _⟩ := u
  unfold wpX_restoreSlots at hp hq
  exact nd_b hp hq (fun hp hq => h _ _ hp hq) (fun hp hq => nd_b hp hq (fun hp hq => h _ _ hp hq) (fun hp hq => nd_b hp hq (fun hp hq => nd_x hp hq (fun _ _ hp hq => nd_wX_restoreSlots_29 G _ _ h _ _ _ _ _ _ _ _ _ _ _ _ hp hq)) (fun hp hq => h _ _ hp hq)))
theorem nd_wY_restoreSlots_36 (G : Prop) (P Q : Int32 → SY → Prop) (h : ∀ a0 a1, P a0 a1 → Q a0 a1 → G) {f_isThere : Int32} {f_isOpen : Int32} {f_left : Int32} {f_hasCopy : Int32} {f_isStale : Int32} :
    ∀ (n n' : Nat) (x1 : Int32) (a_cells : (Nat → Int32)) (a_damaged : (Nat → Int32)) (a_used : (Nat → Int32)) (a_phrases : (Nat → Int32)) (a_copyUsed : (Nat → Int32)) (a_copyPhrases : (Nat → Int32)), wY_restoreSlots_36 P f_isThere f_isOpen f_left f_hasCopy f_isStale n x1 a_cells a_damaged a_used a_phrases a_copyUsed a_copyPhrases → wY_restoreSlots_36 Q f_isThere f_isOpen f_left f_hasCopy f_isStale n' x1 a_cells a_damaged a_used a_phrases a_copyUsed a_copyPhrases → G := by
  intro n
  induction n with
  | zero => intro n' x1 a_cells a_damaged a_used a_phrases a_copyUsed a_copyPhrases hp; exact absurd hp (fun z => z)
  | succ n ih =>
    intro n' x1 a_cells a_damaged a_used a_phrases a_copyUsed a_copyPhrases hp hq
    cases n' with
    | zero => exact absurd hq (fun z => z)
    | succ n' => exact nd_b hp hq (fun hp hq => nd_wpY_countSlots G _ _ hp hq (fun _ hp hq => h _ _ hp hq)) (fun hp hq => nd_a hp hq (fun hp hq => nd_a hp hq (fun hp hq => nd_n hp hq (fun hp hq => nd_a hp hq (fun hp hq => nd_a hp hq (fun hp hq => nd_n hp hq (fun hp hq => nd_n hp hq (fun hp hq => ih _ _ _ _ _ _ _ _ hp hq))))))))
theorem nd_wpY_restoreSlots (G : Prop) (P Q : Int32 → SY → Prop) {u : SY} (hp : wpY_restoreSlots P u) (hq : wpY_restoreSlots Q u) (h : ∀ a0 a1, P a0 a1 → Q a0 a1 → G) : G := by
  obtain ⟨_, _, _, _, _, _, _, _, _, _, _⟩ := u
  unfold wpY_restoreSlots at hp hq
  exact nd_b hp hq (fun hp hq => h _ _ hp hq) (fun hp hq => nd_b hp hq (fun hp hq => h _ _ hp hq) (fun hp hq => nd_b hp hq (fun hp hq => nd_b hp hq (fun hp hq => nd_x hp hq (fun _ _ hp hq => nd_wY_restoreSlots_36 G _ _ h _ _ _ _ _ _ _ _ _ hp hq)) (fun hp hq => h _ _ hp hq)) (fun hp hq => h _ _ hp hq)))
theorem nd_wX_damage_50 (G : Prop) (P Q : Int32 → SX → Prop) {x1 : Int32} {z0 : Int32} {f_present : Int32} {f_open : Int32} {f_copied : Int32} {f_copyStale : Int32} {f_taken : Int32} {f_copyTaken : Int32} {f_volumeEpoch : Int32} {f_formats : Int32} {a_kept : Nat → Int32} {a_epochs : Nat → Int32} {a_versions : Nat → Int32} {a_slotWords : Nat → Int32} {a_copyWords : Nat → Int32} {a_key : Nat → Int32} {a_seed : Nat → Int32} {a_stream : Nat → Int32} {a_work : Nat → Int32} (hp : wX_damage_50 P x1 z0 f_present f_open f_copied f_copyStale f_taken f_copyTaken f_volumeEpoch f_formats a_kept a_epochs a_versions a_slotWords a_copyWords a_key a_seed a_stream a_work) (hq : wX_damage_50 Q x1 z0 f_present f_open f_copied f_copyStale f_taken f_copyTaken f_volumeEpoch f_formats a_kept a_epochs a_versions a_slotWords a_copyWords a_key a_seed a_stream a_work) (h : ∀ a0 a1, P a0 a1 → Q a0 a1 → G) : G := by
  unfold wX_damage_50 at hp hq
  exact nd_a hp hq (fun hp hq => nd_wpX_rowOf G _ _ hp hq (fun _ hp hq => nd_a hp hq (fun hp hq => nd_a hp hq (fun hp hq => nd_a hp hq (fun hp hq => nd_a hp hq (fun hp hq => nd_n hp hq (fun hp hq => h _ _ hp hq)))))))
theorem nd_wpX_damage (G : Prop) (P Q : Int32 → SX → Prop) {u : SX} {p0 : Int32} {p1 : Int32} (hp : wpX_damage P u p0 p1) (hq : wpX_damage Q u p0 p1) (h : ∀ a0 a1, P a0 a1 → Q a0 a1 → G) : G := by
  obtain ⟨_, _, _, _, _, _, _, _, _, _, _, _, _, _, _, _, _⟩ := u
  unfold wpX_damage at hp hq
  exact nd_wpX_isSector G _ _ hp hq (fun _ hp hq => nd_b hp hq (fun hp hq => h _ _ hp hq) (fun hp hq => nd_b hp hq (fun hp hq => h _ _ hp hq) (fun hp hq => nd_wpX_isDamaged G _ _ hp hq (fun _ hp hq => nd_b hp hq (fun hp hq => nd_a hp hq (fun hp hq => nd_n hp hq (fun hp hq => nd_b hp hq (fun hp hq => nd_wX_damage_50 G _ _ hp hq h) (fun hp hq => nd_wX_damage_50 G _ _ hp hq h)))) (fun hp hq => h _ _ hp hq)))))
theorem nd_wpY_damage (G : Prop) (P Q : Int32 → SY → Prop) {u : SY} {p0 : Int32} {p1 : Int32} (hp : wpY_damage P u p0 p1) (hq : wpY_damage Q u p0 p1) (h : ∀ a0 a1, P a0 a1 → Q a0 a1 → G) : G := by
  obtain ⟨_, _, _, _, _, _, _, _, _, _, _⟩ := u
  unfold wpY_damage at hp hq
  exact nd_wpY_badSector G _ _ hp hq (fun _ hp hq => nd_b hp hq (fun hp hq => nd_b hp hq (fun hp hq => h _ _ hp hq) (fun hp hq => nd_a hp hq (fun hp hq => nd_b hp hq (fun hp hq => nd_a hp hq (fun hp hq => nd_n hp hq (fun hp hq => h _ _ hp hq))) (fun hp hq => h _ _ hp hq)))) (fun hp hq => h _ _ hp hq))
theorem nd_wX_crash_35 (G : Prop) (P Q : Int32 → SX → Prop) {x2 : Int32} {f_present : Int32} {f_open : Int32} {f_copied : Int32} {f_copyStale : Int32} {f_taken : Int32} {f_copyTaken : Int32} {f_volumeEpoch : Int32} {f_formats : Int32} {a_kept : Nat → Int32} {a_epochs : Nat → Int32} {a_versions : Nat → Int32} {a_slotWords : Nat → Int32} {a_copyWords : Nat → Int32} {a_key : Nat → Int32} {a_seed : Nat → Int32} {a_stream : Nat → Int32} {a_work : Nat → Int32} (hp : wX_crash_35 P x2 f_present f_open f_copied f_copyStale f_taken f_copyTaken f_volumeEpoch f_formats a_kept a_epochs a_versions a_slotWords a_copyWords a_key a_seed a_stream a_work) (hq : wX_crash_35 Q x2 f_present f_open f_copied f_copyStale f_taken f_copyTaken f_volumeEpoch f_formats a_kept a_epochs a_versions a_slotWords a_copyWords a_key a_seed a_stream a_work) (h : ∀ a0 a1, P a0 a1 → Q a0 a1 → G) : G := by
  unfold wX_crash_35 at hp hq
  exact nd_wpX_close G _ _ hp hq (fun  u hp hq => by
  obtain ⟨_, _, _, _, _, _, _, _, _, _, _, _, _, _, _, _, _⟩ := u
  exact h _ _ hp hq)
theorem nd_wpX_crash (G : Prop) (P Q : Int32 → SX → Prop) {u : SX} {p0 : Int32} (hp : wpX_crash P u p0) (hq : wpX_crash Q u p0) (h : ∀ a0 a1, P a0 a1 → Q a0 a1 → G) : G := by
  obtain ⟨_, _, _, _, _, _, _, _, _, _, _, _, _, _, _, _, _⟩ := u
  unfold wpX_crash at hp hq
  exact nd_b hp hq (fun hp hq => h _ _ hp hq) (fun hp hq => nd_wpX_countToRenew G _ _ hp hq (fun _ hp hq => nd_b hp hq (fun hp hq => nd_wX_crash_35 G _ _ hp hq h) (fun hp hq => nd_b hp hq (fun hp hq => nd_wX_crash_35 G _ _ hp hq h) (fun hp hq => nd_wpX_writeRenewed G _ _ hp hq (fun  u hp hq => by
  obtain ⟨_, _, _, _, _, _, _, _, _, _, _, _, _, _, _, _, _⟩ := u
  exact nd_wX_crash_35 G _ _ hp hq h)))))
theorem nd_wpY_crash (G : Prop) (P Q : Int32 → SY → Prop) {u : SY} {p0 : Int32} (hp : wpY_crash P u p0) (hq : wpY_crash Q u p0) (h : ∀ a0 a1, P a0 a1 → Q a0 a1 → G) : G := by
  obtain ⟨_, _, _, _, _, _, _, _, _, _, _⟩ := u
  unfold wpY_crash at hp hq
  exact nd_b hp hq (fun hp hq => h _ _ hp hq) (fun hp hq => h _ _ hp hq)
