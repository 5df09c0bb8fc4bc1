/-! words and sayings -/
theorem sw3 {x : Int32} {A0 A1 A2 D : Prop} (a0 : x = nI 0 → A0) (a1 : x = nI 1 → A1) (a2 : x = nI 2 → A2) (d : (x < 0 ∨ nI 3 ≤ x) → D) : ((x = nI 0 → A0) ∧ (x = nI 1 → A1) ∧ (x = nI 2 → A2) ∧ True) ∧ ((x < 0 ∨ nI 3 ≤ x) → D) := ⟨⟨a0, a1, a2, trivial⟩, d⟩
theorem swN {x : Int32} {s n : Nat} (hx : x = nI s) (hs : s < 2 ^ 31) (hn : n < 2 ^ 31) {D : Prop} (h : n ≤ s → D) : (x < 0 ∨ nI n ≤ x) → D := by
  subst hx
  intro q
  rcases q with q | q
  · exact absurd q (nI_pos hs)
  · exact h ((nI_leI hn hs).mp q)
theorem swE {x : Int32} {s n : Nat} (hx : x = nI s) (hs : s < 2 ^ 31) (hn : n < 2 ^ 31) {D : Prop} (h : s = n → D) : x = nI n → D := by
  subst hx
  intro q
  exact h ((nI_eq hs hn).mp q)
def ov (N s k l : Nat) (b : Bool) (w : Nat) : Nat :=
  if s = 0 then (if w = k then l else if w = l then k else w)
  else if s = 1 then (if w = k then l else w)
  else if s = 2 then (bif b then (w + N - k) % N else (w + k) % N)
  else w
theorem ov_lt {N s k l w : Nat} {b : Bool} (hN : 0 < N) (hk : k < N) (hl : l < N) (hw : w < N) : ov N s k l b w < N := by
  unfold ov
  split
  · split
    · exact hl
    · split
      · exact hk
      · exact hw
  · split
    · split
      · exact hl
      · exact hw
    · split
      · cases b <;> exact Nat.mod_lt _ hN
      · exact hw
theorem k_X10_putOver {Q : Option Value → zM → Prop} {M : zM} {s k l N w : Nat} {b : Bool} (hs : s < 4) (hN : 0 < N) (hN8 : N ≤ 8) (hk : k < N) (hl : l < N) (hw : w < N) (h : Q (some (.int (nI (ov N s k l b w)))) M) : zCon fX10_putOver [.int (nI s), .int (nI k), .int (nI l), .int (nI N), .int (zbl b), .int (nI w)] M Q := by
  refine zc_of zkX10_putOver [] 60 (Nat.le_of_ble_eq_true rfl) ?_
  refine sw3 (swE rfl (by omega) (by omega) (fun e => ?_)) (swE rfl (by omega) (by omega) (fun e => ?_)) (swE rfl (by omega) (by omega) (fun e => ?_)) (swN rfl (by omega) (by omega) (fun e => ?_))
  · refine iNe rfl rfl (by omega) (by omega) (fun c => iNe rfl rfl (by omega) (by omega) (fun d => ?_) (fun d => ?_)) (fun c => ?_)
    · rw [show ov N s k l b w = w by simp [ov, e, c, d]] at h; exact h
    · rw [show ov N s k l b w = k by unfold ov; rw [if_pos e, if_neg c, if_pos d]] at h; exact h
    · rw [show ov N s k l b w = l by unfold ov; rw [if_pos e, if_pos c]] at h; exact h
  · refine iNe rfl rfl (by omega) (by omega) (fun c => ?_) (fun c => ?_)
    · rw [show ov N s k l b w = w by unfold ov; rw [if_neg (by omega), if_pos e, if_neg c]] at h; exact h
    · rw [show ov N s k l b w = l by unfold ov; rw [if_neg (by omega), if_pos e, if_pos c]] at h; exact h
  · refine nf_ (nI_lt (a := 0) (by omega) (by omega)) ?_
    have e2 : ov N s k l b w = bif b then (w + N - k) % N else (w + k) % N := by unfold ov; rw [if_neg (by omega), if_neg (by omega), if_pos e]
    rw [e2] at h
    cases b with
    | true =>
      refine bT ⟨a_ne0 rfl hN (by omega), ?_⟩
      rw [a_rem (a_sub (a_add rfl rfl) rfl (by omega)) rfl (by omega) hN (by omega)]
      exact h
    | false =>
      refine bF ⟨a_ne0 rfl hN (by omega), ?_⟩
      rw [a_rem (a_add rfl rfl) rfl (by omega) hN (by omega)]
      exact h
  · rw [show ov N s k l b w = w by unfold ov; rw [if_neg (by omega), if_neg (by omega), if_neg (by omega)]] at h; exact h
theorem k_X11_slipBy {Q : Option Value → zM → Prop} {M : zM} {s k l N w : Nat} (hs : s < 4) (hN : 0 < N) (hN8 : N ≤ 8) (hMN : M 47 0 = nI N) (hk : k < N) (hl : l < N) (hw : w < N) (h : Q (some (.int (nI (ov N s k l false w)))) M) : zCon fX11_slipBy [.ref 47, .int (nI s), .int (nI k), .int (nI l), .int (nI w)] M Q := by
  refine zc_of zkX11_slipBy [] 60 (Nat.le_of_ble_eq_true rfl) ?_
  refine sw3 (swE rfl (by omega) (by omega) (fun e => ?_)) (swE rfl (by omega) (by omega) (fun e => ?_)) (swE rfl (by omega) (by omega) (fun e => ?_)) (swN rfl (by omega) (by omega) (fun e => ?_))
  · refine iNe rfl rfl (by omega) (by omega) (fun c => iNe rfl rfl (by omega) (by omega) (fun d => ?_) (fun d => ?_)) (fun c => ?_)
    · rw [show ov N s k l false w = w by simp [ov, e, c, d]] at h; exact h
    · rw [show ov N s k l false w = k by unfold ov; rw [if_pos e, if_neg c, if_pos d]] at h; exact h
    · rw [show ov N s k l false w = l by unfold ov; rw [if_pos e, if_pos c]] at h; exact h
  · refine iNe rfl rfl (by omega) (by omega) (fun c => ?_) (fun c => ?_)
    · rw [show ov N s k l false w = w by unfold ov; rw [if_neg (by omega), if_pos e, if_neg c]] at h; exact h
    · rw [show ov N s k l false w = l by unfold ov; rw [if_neg (by omega), if_pos e, if_pos c]] at h; exact h
  · have e2 : ov N s k l false w = (w + k) % N := by unfold ov; rw [if_neg (by omega), if_neg (by omega), if_pos e]; rfl
    rw [e2] at h
    refine ⟨a_ne0 hMN hN (by omega), ?_⟩
    rw [a_rem (a_add rfl rfl) hMN (by omega) hN (by omega)]
    exact h
  · rw [show ov N s k l false w = w by unfold ov; rw [if_neg (by omega), if_neg (by omega), if_neg (by omega)]] at h; exact h
/-- has the saying v the word w among its lowest n figures -/
def hd (w : Nat) : Nat → Nat → Bool
  | 0, _ => false
  | n + 1, v => bif Nat.beq v 0 then false else (Nat.beq (v % 10) (w + 1) || hd w n (v / 10))
theorem hd_0 (w n : Nat) : hd w n 0 = false := by cases n <;> rfl
theorem k_X10_holdsWord {Q : Option Value → zM → Prop} {M : zM} {x y : Int32} {v w : Nat} (hx : x = nI v) (hy : y = nI w) (hv : v < 2 ^ 30) (hw : w < 2 ^ 30) (h1 : hd w 4 v = true → Q (some (.int 1)) M) (h0 : hd w 4 v = false → Q (some (.int 0)) M) : zCon fX10_holdsWord [.int x, .int y] M Q := by
  have L : ∀ f, f ≤ 4 → ∀ x' r' r, x' = nI f → r' = nI r → r < 2 ^ 30 → (hd w (4 - f) r = true → Q (some (.int 1)) M) → (hd w (4 - f) r = false → Q (some (.int 0)) M) → zEv fX10_holdsWord Q 4 [(0, .int x), (1, .int y), (2, .int r'), (3, .int x')] [] M := by
    refine zloop 4 ?_ ?_
    · intro x' r' r hx' hr hr2 h1 h0
      refine zev_go zkX10_holdsWord [4] 60 ?_
      exact iGe hx' n_4 (by omega) (by omega) (fun _ => ⟨Or.inl rfl, h0 rfl⟩) (fun q => absurd q (by omega))
    · intro f hf ih x' r' r hx' hr hr2 h1 h0
      have e4 : 4 - f = (4 - (f + 1)) + 1 := by omega
      rw [e4] at h1 h0
      refine zev_go zkX10_holdsWord [4] 60 ?_
      refine iGe hx' n_4 (by omega) (by omega) (fun q => absurd q (by omega)) (fun _ => ?_)
      refine iGe (y := r') n_0 hr (by omega) (by omega) (fun q => ?_) (fun q => ?_)
      · have : r = 0 := by omega
        subst this
        exact ⟨Or.inl rfl, h0 (hd_0 _ _)⟩
      · have er : hd w (4 - (f + 1) + 1) r = (Nat.beq (r % 10) (w + 1) || hd w (4 - (f + 1)) (r / 10)) := by
          show (bif Nat.beq r 0 then false else _) = _
          rw [show Nat.beq r 0 = false from beqF (by omega)]
          rfl
        rw [er] at h1 h0
        refine ⟨by decide, ?_⟩
        rw [a_rem hr n_10 (by omega) (by omega) (by omega)]
        refine iNe rfl (a_add hy n_1) (by omega) (by omega) (fun c => ?_) (fun c => ?_)
        · refine ⟨by decide, ?_⟩
          rw [show Nat.beq (r % 10) (w + 1) = false from beqF c] at h1 h0
          exact ih (x' + 1) _ (r / 10) (by rw [hx', nI_1]) (a_div hr n_10 (by omega) (by omega) (by omega)) (by omega) h1 h0
        · rw [show Nat.beq (r % 10) (w + 1) = true from beqT c] at h1
          exact ⟨Or.inr rfl, h1 rfl⟩
  exact zc_of zkX10_holdsWord [4] 60 (Nat.le_of_ble_eq_true rfl) (L 0 (by omega) 0 x v rfl hx hv h1 h0)
