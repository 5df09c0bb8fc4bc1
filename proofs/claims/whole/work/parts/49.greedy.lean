/-! the way that is gone -/
def fstb (p : Nat → Bool) : Nat → Option Nat
  | 0 => none
  | n + 1 => match fstb p n with
    | some i => some i
    | none => bif p n then some n else none
theorem fstb_s {p : Nat → Bool} {n : Nat} (h : fstb p n = none) : fstb p (n + 1) = bif p n then some n else none := by
  show (match fstb p n with | some i => some i | none => bif p n then some n else none) = _
  rw [h]
theorem fstb_k {p : Nat → Bool} {n i : Nat} (h : fstb p n = some i) : ∀ k, fstb p (n + k) = some i
  | 0 => h
  | k + 1 => by
    show (match fstb p (n + k) with | some i => some i | none => bif p (n + k) then some (n + k) else none) = _
    rw [fstb_k h k]
theorem fstb_at {p : Nat → Bool} {n i : Nat} (h : fstb p i = none) (hp : p i = true) (hi : i < n) : fstb p n = some i := by
  have a : fstb p (i + 1) = some i := by rw [fstb_s h, hp]; rfl
  have b := fstb_k a (n - (i + 1))
  rw [show i + 1 + (n - (i + 1)) = n by omega] at b
  exact b
theorem fstb_ok {p : Nat → Bool} : ∀ {n i : Nat}, fstb p n = some i → i < n ∧ p i = true
  | 0, i, h => by cases h
  | n + 1, i, h => by
    cases q : fstb p n with
    | some j =>
      have := fstb_k q 1
      rw [this] at h
      cases h
      have := fstb_ok q
      exact ⟨by omega, this.2⟩
    | none =>
      rw [fstb_s q] at h
      cases r : p n with
      | true => rw [r] at h; cases h; exact ⟨by omega, r⟩
      | false => rw [r] at h; cases h
theorem fstb_ex {p : Nat → Bool} {n j : Nat} (hj : j < n) (hp : p j = true) : ∃ i, fstb p n = some i := by
  cases q : fstb p n with
  | some i => exact ⟨i, rfl⟩
  | none =>
    exfalso
    have K : ∀ n, fstb p n = none → ∀ j, j < n → p j = false := by
      intro n
      induction n with
      | zero => intro _ j hj; omega
      | succ n ih =>
        intro h j hj
        cases r : fstb p n with
        | some i => have := fstb_k r 1; rw [this] at h; cases h
        | none =>
          rw [fstb_s r] at h
          by_cases c : j = n
          · subst c
            cases t : p j with
            | true => rw [t] at h; cases h
            | false => rfl
          · exact ih r j (by omega)
    have := K n q j hj
    rw [hp] at this
    cases this
def oe (T : zTn) (i v : Nat) : Nat := if tA T i = v then tB T i else tA T i
def adj (T : zTn) (i v : Nat) : Bool := Nat.beq (tA T i) v || Nat.beq (tB T i) v
/-- costs of the class, at the end of the rounds; the model's -/
def dC (T : zTn) (s b v : Nat) : Nat := dw 16 100000000 T s b (tS T) v
def dM (T : zTn) (s b v : Nat) : Nat := dw 100 1000000 T s b (tS T) v
def wP (T : zTn) (s b v : Nat) : Nat := dC T s b v / 16
def wL (T : zTn) (s b v : Nat) : Nat := dC T s b v % 16
abbrev wOK (T : zTn) (s b v : Nat) : Prop := dC T s b v < 100000000
theorem d_cases {T : zTn} {s b : Nat} (hv : zTv T) (v : Nat) : (wOK T s b v ∧ dC T s b v = 16 * wP T s b v + wL T s b v ∧ dM T s b v = 100 * wP T s b v + wL T s b v ∧ wP T s b v ≤ 693 ∧ wL T s b v ≤ 7) ∨ (dC T s b v = 100000000 ∧ dM T s b v = 1000000) := by
  have hS := zTv_S hv
  rcases dw_rel (s := s) (b := b) hv (tS T) (by omega) v with ⟨p, l, h1, h2, h3, h4⟩ | h
  · left
    have e : dC T s b v = 16 * p + l := h3
    have e2 : dM T s b v = 100 * p + l := h4
    have ep : wP T s b v = p := by unfold wP; rw [e]; omega
    have el : wL T s b v = l := by unfold wL; rw [e]; omega
    rw [ep, el]
    unfold wOK
    exact ⟨by omega, e, e2, by omega, by omega⟩
  · exact Or.inr h
theorem wOK_fin {T : zTn} {s b v : Nat} (hv : zTv T) (h : wOK T s b v) : dC T s b v = 16 * wP T s b v + wL T s b v ∧ dM T s b v = 100 * wP T s b v + wL T s b v ∧ wP T s b v ≤ 693 ∧ wL T s b v ≤ 7 := by
  rcases d_cases (s := s) (b := b) hv v with q | q
  · exact q.2
  · unfold wOK at h; omega
theorem wOK_no {T : zTn} {s b v : Nat} (hv : zTv T) (h : ¬ wOK T s b v) : dC T s b v = 100000000 ∧ dM T s b v = 1000000 := by
  rcases d_cases (s := s) (b := b) hv v with q | q
  · exact absurd q.1 h
  · exact q
theorem dC_b {T : zTn} {s b : Nat} : dC T s b b = 0 := by
  have : dC T s b b ≤ (fun v => if v = b then 0 else 100000000) b := jr_an (r := 0) (Nat.zero_le _) b
  dsimp only at this
  rw [if_pos rfl] at this
  omega
def tgt (T : zTn) (s b v i : Nat) : Bool := (!(s.testBit i)) && (adj T i v && Nat.beq (dC T s b (oe T i v) + (16 * tP T i + 1)) (dC T s b v))
theorem beq_iff {a b : Nat} : Nat.beq a b = true ↔ a = b := ⟨Nat.eq_of_beq_eq_true, fun h => beqT h⟩
theorem adj_iff {T : zTn} {i v : Nat} : adj T i v = true ↔ tA T i = v ∨ tB T i = v := by
  unfold adj; rw [Bool.or_eq_true, beq_iff, beq_iff]
theorem tgt_iff {T : zTn} {s b v i : Nat} : tgt T s b v i = true ↔ s.testBit i = false ∧ (tA T i = v ∨ tB T i = v) ∧ dC T s b (oe T i v) + (16 * tP T i + 1) = dC T s b v := by
  unfold tgt
  rw [Bool.and_eq_true, Bool.and_eq_true, adj_iff, beq_iff]
  cases s.testBit i <;> simp
theorem oe_lt {T : zTn} {i v : Nat} (hv : zTv T) (hi : i < tC T) : oe T i v < tS T := by
  have := zTv_i hv hi
  unfold oe
  split
  · exact this.2.1
  · exact this.1
def nx (T : zTn) (s b v : Nat) : Option Nat := fstb (tgt T s b v) (tC T)
theorem nx_ok {T : zTn} {s b v i : Nat} (hv : zTv T) (h : nx T s b v = some i) (hw : wOK T s b v) : i < tC T ∧ s.testBit i = false ∧ (tA T i = v ∨ tB T i = v) ∧ wOK T s b (oe T i v) ∧ wL T s b (oe T i v) + 1 = wL T s b v ∧ wP T s b (oe T i v) + tP T i = wP T s b v := by
  obtain ⟨h1, h2⟩ := fstb_ok h
  obtain ⟨h3, h4, h5⟩ := tgt_iff.mp h2
  have f := wOK_fin hv hw
  have ho : wOK T s b (oe T i v) := by unfold wOK at hw ⊢; omega
  have g := wOK_fin hv ho
  refine ⟨h1, h3, h4, ho, ?_, ?_⟩ <;> omega
theorem nx_ex {T : zTn} {s b v : Nat} (hv : zTv T) (hw : wOK T s b v) (hb : v ≠ b) : ∃ i, nx T s b v = some i := by
  rcases jr_ti (d0 := fun v => if v = b then 0 else 100000000) (eW_bd (K := 16) (s := s) hv) v with q | ⟨e, e1, e2, e3⟩
  · rw [if_neg hb] at q
    unfold wOK dC dw at hw
    omega
  · obtain ⟨i, i1, i2, i3⟩ := eW_mem.mp e1
    have hi := zTv_i hv i1
    refine fstb_ex i1 (tgt_iff.mpr ⟨i2, ?_⟩)
    rcases i3 with r | r
    · subst r
      have e2' : tB T i = v := e2
      refine ⟨Or.inr e2', ?_⟩
      unfold oe
      rw [if_neg (by omega)]
      exact e3.symm
    · subst r
      have e2' : tA T i = v := e2
      refine ⟨Or.inl e2', ?_⟩
      unfold oe
      rw [if_pos e2']
      exact e3.symm
/-- the street after k corners -/
def gw (T : zTn) (s b a : Nat) : Nat → Nat
  | 0 => a
  | k + 1 => match nx T s b (gw T s b a k) with
    | some i => oe T i (gw T s b a k)
    | none => gw T s b a k
theorem gw_s {T : zTn} {s b a k i : Nat} (h : nx T s b (gw T s b a k) = some i) : gw T s b a (k + 1) = oe T i (gw T s b a k) := by
  show (match nx T s b (gw T s b a k) with | some i => oe T i (gw T s b a k) | none => gw T s b a k) = _
  rw [h]
theorem gw_ok {T : zTn} {s b a : Nat} (hv : zTv T) (ha : a < tS T) (hw : wOK T s b a) : ∀ k, k ≤ wL T s b a → gw T s b a k < tS T ∧ wOK T s b (gw T s b a k) ∧ wL T s b (gw T s b a k) + k = wL T s b a := by
  intro k
  induction k with
  | zero => intro _; exact ⟨ha, hw, rfl⟩
  | succ k ih =>
    intro hk
    obtain ⟨h1, h2, h3⟩ := ih (by omega)
    have hb : gw T s b a k ≠ b := by
      intro q
      rw [q] at h3
      unfold wL at h3 hk
      rw [dC_b] at h3
      omega
    obtain ⟨i, hi⟩ := nx_ex hv h2 hb
    obtain ⟨n1, n2, n3, n4, n5, n6⟩ := nx_ok hv hi h2
    rw [gw_s hi]
    exact ⟨oe_lt hv n1, n4, by omega⟩
theorem gw_nb {T : zTn} {s b a : Nat} (hv : zTv T) (ha : a < tS T) (hw : wOK T s b a) {k : Nat} (hk : k < wL T s b a) : gw T s b a k ≠ b := by
  obtain ⟨h1, h2, h3⟩ := gw_ok hv ha hw k (by omega)
  intro q
  rw [q] at h3
  unfold wL at h3 hk
  rw [dC_b] at h3
  omega
theorem gw_b {T : zTn} {s b a : Nat} (hv : zTv T) (ha : a < tS T) (hw : wOK T s b a) : gw T s b a (wL T s b a) = b := by
  obtain ⟨h1, h2, h3⟩ := gw_ok hv ha hw _ (Nat.le_refl _)
  by_cases c : gw T s b a (wL T s b a) = b
  · exact c
  · obtain ⟨i, hi⟩ := nx_ex hv h2 c
    have := (nx_ok hv hi h2).2.2.2.2.1
    omega
def gn (T : zTn) (s b a k : Nat) : Nat := match nx T s b (gw T s b a k) with
  | some i => i
  | none => 0
theorem gn_ok {T : zTn} {s b a : Nat} (hv : zTv T) (ha : a < tS T) (hw : wOK T s b a) {k : Nat} (hk : k < wL T s b a) : nx T s b (gw T s b a k) = some (gn T s b a k) ∧ gn T s b a k < tC T ∧ s.testBit (gn T s b a k) = false ∧ (tA T (gn T s b a k) = gw T s b a k ∨ tB T (gn T s b a k) = gw T s b a k) ∧ gw T s b a (k + 1) = oe T (gn T s b a k) (gw T s b a k) := by
  obtain ⟨h1, h2, h3⟩ := gw_ok hv ha hw k (by omega)
  obtain ⟨i, hi⟩ := nx_ex hv h2 (gw_nb hv ha hw hk)
  have e : gn T s b a k = i := by unfold gn; rw [hi]
  have := nx_ok hv hi h2
  rw [e]
  exact ⟨hi, this.1, this.2.1, this.2.2.1, gw_s hi⟩
theorem wL_pos {T : zTn} {s b a : Nat} (hv : zTv T) (hab : a ≠ b) (hw : wOK T s b a) : 0 < wL T s b a := by
  obtain ⟨i, hi⟩ := nx_ex hv hw hab
  have := (nx_ok hv hi hw).2.2.2.2.1
  omega
/-- the saying after k corners -/
def gy (T : zTn) (f : zAf) (b a v : Nat) : Nat → Nat
  | 0 => v
  | k + 1 => mpd (ovr T f (gn T (aS f) b a k) (Nat.beq (tB T (gn T (aS f) b a k)) (gw T (aS f) b a k))) 4 (gy T f b a v k)
def gsay (T : zTn) (f : zAf) (b a v : Nat) : Nat := gy T f b a v (wL T (aS f) b a)
