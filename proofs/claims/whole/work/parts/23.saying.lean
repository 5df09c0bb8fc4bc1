/-! sayings: are they such, and put over -/
/-- the lowest n figures of v, up to the highest one, are words of N -/
def sok (N : Nat) : Nat → Nat → Bool
  | 0, _ => true
  | n + 1, v => bif Nat.beq v 0 then true else (decide (1 ≤ v % 10) && decide (v % 10 ≤ N)) && sok N n (v / 10)
theorem sok_0 (N n : Nat) : sok N n 0 = true := by cases n <;> rfl
theorem sok_s (N n : Nat) {v : Nat} (h : v ≠ 0) : sok N (n + 1) v = ((decide (1 ≤ v % 10) && decide (v % 10 ≤ N)) && sok N n (v / 10)) := by
  show (bif Nat.beq v 0 then true else _) = _
  rw [beqF h]
  rfl
def isSay (N : Nat) (v : Nat) : Prop := 1 ≤ v ∧ v ≤ 9999 ∧ sok N 4 v = true
/-- what a saying becomes, figure by figure -/
def mpd (φ : Nat → Nat) : Nat → Nat → Nat
  | 0, _ => 0
  | n + 1, v => bif Nat.beq v 0 then 0 else 10 * mpd φ n (v / 10) + (φ (v % 10 - 1) + 1)
theorem mpd_0 (φ : Nat → Nat) (n : Nat) : mpd φ n 0 = 0 := by cases n <;> rfl
theorem mpd_s (φ : Nat → Nat) (n : Nat) {v : Nat} (h : v ≠ 0) : mpd φ (n + 1) v = 10 * mpd φ n (v / 10) + (φ (v % 10 - 1) + 1) := by
  show (bif Nat.beq v 0 then 0 else _) = _
  rw [beqF h]
  rfl
theorem mpd_lt {φ : Nat → Nat} {N : Nat} (hN : N ≤ 8) (hφ : ∀ w, w < N → φ w < N) : ∀ n v, sok N n v = true → mpd φ n v < 10 ^ n := by
  intro n
  induction n with
  | zero => intro v _; exact Nat.one_pos
  | succ n ih =>
    intro v hv
    by_cases h0 : v = 0
    · subst h0; rw [mpd_0]; exact Nat.pow_pos (by omega)
    · rw [sok_s N n h0, Bool.and_eq_true, Bool.and_eq_true, decide_eq_true_eq, decide_eq_true_eq] at hv
      rw [mpd_s φ n h0, Nat.pow_succ]
      have h1 := ih (v / 10) hv.2
      have h2 := hφ (v % 10 - 1) (by omega)
      omega
theorem mpd_pos {φ : Nat → Nat} {n v : Nat} (h : v ≠ 0) : 0 < mpd φ (n + 1) v := by rw [mpd_s φ n h]; omega
theorem mpd_ok {φ : Nat → Nat} {N : Nat} (hN : N ≤ 8) (hφ : ∀ w, w < N → φ w < N) : ∀ n v, sok N n v = true → sok N n (mpd φ n v) = true := by
  intro n
  induction n with
  | zero => intro v _; rfl
  | succ n ih =>
    intro v hv
    by_cases h0 : v = 0
    · subst h0; rw [mpd_0]; exact sok_0 _ _
    · rw [sok_s N n h0, Bool.and_eq_true, Bool.and_eq_true, decide_eq_true_eq, decide_eq_true_eq] at hv
      have h2 := hφ (v % 10 - 1) (by omega)
      have e := mpd_s φ n h0
      have hne : mpd φ (n + 1) v ≠ 0 := by omega
      rw [sok_s N n hne]
      have e1 : mpd φ (n + 1) v % 10 = φ (v % 10 - 1) + 1 := by omega
      have e2 : mpd φ (n + 1) v / 10 = mpd φ n (v / 10) := by omega
      rw [e1, e2, ih _ hv.2]
      simp
      omega
theorem mpd_say {φ : Nat → Nat} {N v : Nat} (hN : N ≤ 8) (hφ : ∀ w, w < N → φ w < N) (h : isSay N v) : isSay N (mpd φ 4 v) := by
  have h1 := mpd_lt hN hφ 4 v h.2.2
  have h2 : 0 < mpd φ (3 + 1) v := mpd_pos (by have := h.1; omega)
  exact ⟨h2, by omega, mpd_ok hN hφ 4 v h.2.2⟩
theorem k_X8_hasSaying {Q : Option Value → zM → Prop} {M : zM} {x : Int32} {N : Nat} (hN : N ≤ 8) (hM : M 1 1 = nI N) (h1 : ∀ v, x = nI v → isSay N v → Q (some (.int 1)) M) (h0 : (∀ v, x = nI v → ¬ isSay N v) → Q (some (.int 0)) M) : zCon fX8_hasSaying [.ref 1, .int x] M Q := by
  have bad : (x < 1 ∨ 9999 < x) → Q (some (.int 0)) M := fun c => h0 (fun v e hv => by
    subst e
    have a1 := hv.1
    have a2 := hv.2.1
    rcases c with c | c
    · exact nI_nlt (a := v) (b := 1) (by omega) (by omega) c
    · exact nI_nlt (a := 9999) (b := v) (by omega) (by omega) c)
  have L : ∀ f, f ≤ 4 → ∀ y r' r v, y = nI f → r' = nI r → r < 10000 → x = nI v → (sok N (4 - f) r = true → Q (some (.int 1)) M) → (sok N (4 - f) r = false → Q (some (.int 0)) M) → zEv fX8_hasSaying Q 18 [(0, .ref 1), (1, .int x), (2, .int r'), (3, .int y)] [] M := by
    refine zloop 4 ?_ ?_
    · intro y r' r v hy hr hr2 hx h1 h0
      refine zev_go zkX8_hasSaying [18] 60 ?_
      exact iGe hy n_4 (by omega) (by omega) (fun _ => ⟨Or.inr rfl, h1 rfl⟩) (fun q => absurd q (by omega))
    · intro f hf ih y r' r v hy hr hr2 hx h1 h0
      have e4 : 4 - f = (4 - (f + 1)) + 1 := by omega
      rw [e4] at h1 h0
      refine zev_go zkX8_hasSaying [18] 60 ?_
      refine iGe hy n_4 (by omega) (by omega) (fun q => absurd q (by omega)) (fun _ => ?_)
      refine iGe n_0 hr (by omega) (by omega) (fun q => ?_) (fun q => ⟨by decide, ?_⟩)
      · have : r = 0 := by omega
        subst this
        exact ⟨Or.inr rfl, h1 (sok_0 _ _)⟩
      · rw [sok_s N _ (by omega)] at h1 h0
        rw [a_rem hr n_10 (by omega) (by omega) (by omega)]
        have ed := a_div hr n_10 (by omega) (by omega) (by omega)
        refine k_X8_hasWord (n := N) (by omega) hM (fun j hj e => cT ⟨by decide, ?_⟩) (fun ho => cF ⟨Or.inl rfl, h0 ?_⟩)
        · have hj2 : r % 10 = j + 1 := by
            have e2 : nI (r % 10) = nI (j + 1) := by
              rw [← nI_1, ← e]
              exact (Int32.sub_add_cancel _ _).symm
            exact (nI_eq (by omega) (by omega)).mp e2
          rw [show (decide (1 ≤ r % 10) && decide (r % 10 ≤ N)) = true by simp; omega, Bool.true_and] at h1 h0
          exact ih _ _ (r / 10) v (by rw [hy, nI_1]) ed (by omega) hx h1 h0
        · have : ¬ (1 ≤ r % 10 ∧ r % 10 ≤ N) := fun q => ho (r % 10 - 1) (by omega) (by rw [n_1, pk_sub q.1])
          rw [Bool.and_eq_false_iff]
          left
          simp only [Bool.and_eq_false_iff, decide_eq_false_iff_not]
          omega
  refine zc_of zkX8_hasSaying [18] 60 (Nat.le_of_ble_eq_true rfl) ?_
  refine br (fun c => ⟨Or.inl rfl, bad (Or.inl c)⟩) (fun c => nr (fun d => ?_) (fun d => ⟨Or.inl rfl, bad (Or.inr d)⟩))
  have hx : ∃ v, x = nI v ∧ 1 ≤ v ∧ v ≤ 9999 := by
    rw [n_1, Int32.lt_iff_toInt_lt, nI_toInt (by omega)] at c
    rw [n_9999, Int32.lt_iff_toInt_lt, nI_toInt (by omega)] at d
    refine ⟨x.toInt.toNat, ?_, by omega, by omega⟩
    apply Int32.toInt_inj.mp
    rw [nI_toInt (by omega)]
    omega
  obtain ⟨v, e, hv1, hv2⟩ := hx
  refine L 0 (by omega) 0 x v v rfl e (by omega) e (fun q => h1 v e ⟨hv1, hv2, q⟩) (fun q => h0 (fun v' e' hs => ?_))
  have : v = v' := by
    have a2 := hs.2.1
    exact (nI_eq (by omega) (by omega)).mp (e.symm.trans e')
  subst this
  rw [hs.2.2] at q
  cases q
