/-! the town and the affairs, as numbers -/
abbrev zTn : Type := (Nat × Nat × Nat) × (Nat → Nat → Nat)
abbrev zAf : Type := (Nat × Nat × Nat × Nat) × (Nat → Nat → Nat)
abbrev tN (T : zTn) : Nat := T.1.1
abbrev tS (T : zTn) : Nat := T.1.2.1
abbrev tC (T : zTn) : Nat := T.1.2.2
abbrev tI (T : zTn) : Nat → Nat := T.2 0
abbrev tY (T : zTn) : Nat → Nat := T.2 1
abbrev tA (T : zTn) : Nat → Nat := T.2 2
abbrev tB (T : zTn) : Nat → Nat := T.2 3
abbrev tK (T : zTn) : Nat → Nat := T.2 4
abbrev tL (T : zTn) : Nat → Nat := T.2 5
abbrev tP (T : zTn) : Nat → Nat := T.2 6
abbrev aP (a : zAf) : Nat := a.1.1
abbrev aH (a : zAf) : Nat := a.1.2.1
abbrev aS (a : zAf) : Nat := a.1.2.2.1
abbrev aL (a : zAf) : Nat := a.1.2.2.2
abbrev aHe (a : zAf) : Nat → Nat := a.2 0
abbrev aFe (a : zAf) : Nat → Nat := a.2 1
abbrev aSo (a : zAf) : Nat → Nat := a.2 2
/-- the class's town -/
def zTc (T : zTn) (M : zM) : Prop :=
  M 1 1 = nI (tN T) ∧ M 1 2 = nI (tS T) ∧ M 1 3 = nI (tC T) ∧ M 1 0 = (if tN T = 0 then 0 else 1) ∧
  (∀ a, a < tS T → M 2 a = nI (tI T a)) ∧ (∀ a, a < tS T → M 3 a = nI (tY T a)) ∧
  (∀ i, i < tC T → M 4 i = nI (tA T i)) ∧ (∀ i, i < tC T → M 5 i = nI (tB T i)) ∧
  (∀ i, i < tC T → M 7 i = nI (tK T i)) ∧ (∀ i, i < tC T → M 8 i = nI (tL T i)) ∧ (∀ i, i < tC T → M 9 i = nI (tP T i))
/-- the model's -/
def zTm (T : zTn) (M : zM) : Prop :=
  M 47 0 = nI (tN T) ∧ M 47 1 = nI (tS T) ∧ M 47 4 = nI (tC T) ∧
  (∀ a, a < tS T → M 48 a = nI (tI T a)) ∧ (∀ a, a < tS T → M 49 a = nI (tY T a)) ∧
  (∀ i, i < tC T → M 50 i = nI (tA T i)) ∧ (∀ i, i < tC T → M 51 i = nI (tB T i)) ∧
  (∀ i, i < tC T → M 53 i = nI (tK T i)) ∧ (∀ i, i < tC T → M 54 i = nI (tL T i)) ∧ (∀ i, i < tC T → M 55 i = nI (tP T i))
/-- what a town is -/
def zTv (T : zTn) : Prop :=
  tN T ≤ 8 ∧ tS T ≤ 7 ∧ tC T ≤ 10 ∧ (tN T = 0 → tS T = 0) ∧ (tS T = 0 → tC T = 0) ∧
  (∀ a, a < tS T → tI T a < tN T ∧ tY T a < tN T) ∧
  (∀ i, i < tC T → tA T i < tS T ∧ tB T i < tS T ∧ tA T i ≠ tB T i ∧ tK T i < tN T ∧ tL T i < tN T ∧ tP T i ≤ 99) ∧
  (∀ i j, i < tC T → j < tC T → (tA T i = tA T j ∧ tB T i = tB T j ∨ tA T i = tB T j ∧ tB T i = tA T j) → i = j)
theorem zTv_N {T : zTn} (h : zTv T) : tN T ≤ 8 := h.1
theorem zTv_S {T : zTn} (h : zTv T) : tS T ≤ 7 := h.2.1
theorem zTv_C {T : zTn} (h : zTv T) : tC T ≤ 10 := h.2.2.1
theorem zTv_0 {T : zTn} (h : zTv T) (hS : 0 < tS T) : 0 < tN T := by
  rcases Nat.eq_zero_or_pos (tN T) with e | e
  · have := h.2.2.2.1 e; omega
  · exact e
theorem zTv_C0 {T : zTn} (h : zTv T) (hC : 0 < tC T) : 0 < tS T := by
  rcases Nat.eq_zero_or_pos (tS T) with e | e
  · have := h.2.2.2.2.1 e; omega
  · exact e
theorem zTv_i {T : zTn} (h : zTv T) {i : Nat} (hi : i < tC T) : tA T i < tS T ∧ tB T i < tS T ∧ tA T i ≠ tB T i ∧ tK T i < tN T ∧ tL T i < tN T ∧ tP T i ≤ 99 := h.2.2.2.2.2.2.1 i hi
theorem zTv_a {T : zTn} (h : zTv T) {a : Nat} (ha : a < tS T) : tI T a < tN T ∧ tY T a < tN T := h.2.2.2.2.2.1 a ha
/-- the class's affairs in a row of 108, the model's in one of 88 -/
def cA (T : zTn) (a : zAf) (g : Nat → Int32) : Prop :=
  g 0 = nI (aP a) ∧ g 1 = nI (aH a) ∧ g 2 = nI (aS a) ∧ g 3 = nI (aL a) ∧
  (∀ x, x < 7 → g (4 + x) = nI (aHe a x)) ∧ (∀ x, x < 7 → g (11 + x) = nI (aFe a x)) ∧
  (∀ i, i < tC T → g (18 + i) = nI (aSo a i)) ∧ (∀ e, e < aL a → ∀ w, w < 4 → g (28 + e * 4 + w) = nI (a.2 (3 + w) e))
def mA (T : zTn) (a : zAf) (g : Nat → Int32) : Prop :=
  g 25 = nI (aP a) ∧ g 26 = nI (aH a) ∧ g 10 = nI (aS a) ∧ g 27 = nI (aL a) ∧
  (∀ x, x < 7 → g (11 + x) = nI (aHe a x)) ∧ (∀ x, x < 7 → g (18 + x) = nI (aFe a x)) ∧
  (∀ i, i < tC T → g i = nI (aSo a i)) ∧ (∀ e, e < aL a → g (28 + (aL a - 1 - e)) = nI (10 * a.2 3 e + a.2 4 e) ∧ g (48 + (aL a - 1 - e)) = nI (a.2 5 e) ∧ g (68 + (aL a - 1 - e)) = nI (a.2 6 e))
def vA (T : zTn) (a : zAf) : Prop :=
  aP a ≤ 999999 ∧ aH a ≤ 999999 ∧ aS a < 2 ^ tC T ∧ aL a ≤ 20 ∧
  (∀ x, x < 7 → aHe a x ≤ 9999) ∧ (∀ x, x < 7 → aFe a x < 2 ^ tS T ∧ (tS T ≤ x → aFe a x = 0)) ∧
  (∀ i, i < tC T → aSo a i < 4) ∧ (∀ e, e < aL a → a.2 3 e < tS T ∧ a.2 4 e < tS T ∧ a.2 5 e ≤ 9999 ∧ a.2 6 e ≤ 9999) ∧
  (∀ x y, x < 7 → y < 7 → (aFe a x).testBit y = (aFe a y).testBit x)
theorem vA_S {T : zTn} {a : zAf} (hv : zTv T) (h : vA T a) : aS a < 1024 := Nat.lt_of_lt_of_le h.2.2.1 (Nat.pow_le_pow_right (by omega) (zTv_C hv))
theorem vA_F {T : zTn} {a : zAf} (hv : zTv T) (h : vA T a) {x : Nat} (hx : x < 7) : aFe a x < 128 := Nat.lt_of_lt_of_le (h.2.2.2.2.2.1 x hx).1 (Nat.pow_le_pow_right (by omega) (zTv_S hv))
def ovr (T : zTn) (a : zAf) (i : Nat) (b : Bool) (w : Nat) : Nat := ov (tN T) (aSo a i) (tK T i) (tL T i) b w
theorem ovr_lt {T : zTn} {a : zAf} {i w : Nat} {b : Bool} (hv : zTv T) (hi : i < tC T) (hw : w < tN T) : ovr T a i b w < tN T := ov_lt (by omega) (zTv_i hv hi).2.2.2.1 (zTv_i hv hi).2.2.2.2.1 hw
theorem k_putOver {Q : Option Value → zM → Prop} {M : zM} {xs xk xl xn xw : Int32} {s k l N w : Nat} {b : Bool} (es : xs = nI s) (ek : xk = nI k) (el : xl = nI l) (en : xn = nI N) (ew : xw = nI w) (hs : s < 4) (hN : 0 < N) (hN8 : N ≤ 8) (hk : k < N) (hl : l < N) (hw : w < N) (h : Q (some (.int (nI (ov N s k l b w)))) M) : zCon fX10_putOver [.int xs, .int xk, .int xl, .int xn, .int (zbl b), .int xw] M Q := by
  subst es; subst ek; subst el; subst en; subst ew
  exact k_X10_putOver hs hN hN8 hk hl hw h
theorem k_slipBy {Q : Option Value → zM → Prop} {M : zM} {xs xk xl xw : Int32} {s k l N w : Nat} (es : xs = nI s) (ek : xk = nI k) (el : xl = nI l) (ew : xw = nI w) (hs : s < 4) (hN : 0 < N) (hN8 : N ≤ 8) (hMN : M 47 0 = nI N) (hk : k < N) (hl : l < N) (hw : w < N) (h : Q (some (.int (nI (ov N s k l false w)))) M) : zCon fX11_slipBy [.ref 47, .int xs, .int xk, .int xl, .int xw] M Q := by
  subst es; subst ek; subst el; subst ew
  exact k_X11_slipBy hs hN hN8 hMN hk hl hw h
theorem k_X2_wordOver {Q : Option Value → zM → Prop} {M : zM} {T : zTn} {a : zAf} {x y : Int32} {i w : Nat} {b : Bool} (hv : zTv T) (hT : zTc T M) (ha : cA T a (M 22)) (hva : vA T a) (hx : x = nI i) (hi : i < tC T) (hy : y = nI w) (hw : w < tN T) (h : Q (some (.int (nI (ovr T a i b w)))) M) : zCon fX2_wordOver [.ref 27, .int x, .int (zbl b), .int y] M Q := by
  have hC := zTv_C hv
  have hN := zTv_N hv
  refine zc_of zkX2_wordOver [] 60 (Nat.le_of_ble_eq_true rfl) ?_
  refine k_X0_sortOf hx (by omega) ?_
  refine zix i hx (by omega) (zix i hx (by omega) ?_)
  exact k_putOver (ha.2.2.2.2.2.2.1 i hi) (hT.2.2.2.2.2.2.2.2.1 i hi) (hT.2.2.2.2.2.2.2.2.2.1 i hi) hT.1 hy (hva.2.2.2.2.2.2.1 i hi) (by omega) hN (zTv_i hv hi).2.2.2.1 (zTv_i hv hi).2.2.2.2.1 hw h
theorem k_X11_in {Q : Option Value → zM → Prop} {M : zM} {v lo hi : Int64} (h1 : lo ≤ v → v ≤ hi → Q (some (.int 1)) M) (h0 : (v < lo ∨ hi < v) → Q (some (.int 0)) M) : zCon fX11_in [.long v, .long lo, .long hi] M Q := by
  refine zc_of zkX11_in [] 60 (Nat.le_of_ble_eq_true rfl) ?_
  refine br (fun c => ⟨Or.inl rfl, h0 (Or.inl ?_)⟩) (fun c => br (fun d => ⟨Or.inl rfl, h0 (Or.inr ?_)⟩) (fun d => ⟨Or.inr rfl, h1 ?_ ?_⟩))
  · rw [← Int64.not_le]
    intro q
    exact Int32.not_lt.mpr ((lg_cmp_ge v lo).mpr q) c
  · unfold lg_cmp at d
    by_cases q : v > hi
    · exact q
    · rw [if_neg q] at d
      split at d <;> exact absurd d (by decide)
  · exact (lg_cmp_ge v lo).mp (Int32.not_lt.mp c)
  · rw [← Int64.not_lt]
    intro q
    apply d
    unfold lg_cmp
    rw [if_pos q]
    decide
theorem k_X11_has {Q : Option Value → zM → Prop} {M : zM} {x y : Int32} {s k : Nat} (hx : x = nI s) (hy : y = nI k) (hs : s < 2 ^ 31) (hk : k < 32) (h1 : s.testBit k = true → Q (some (.int 1)) M) (h0 : s.testBit k = false → Q (some (.int 0)) M) : zCon fX11_has [.int x, .int y] M Q := by
  refine zc_of zkX11_has [] 60 (Nat.le_of_ble_eq_true rfl) ?_
  exact a_has hx hy hs hk (fun q => ⟨Or.inr rfl, h1 q⟩) (fun q => ⟨Or.inl rfl, h0 q⟩)
theorem k_X11_bits {Q : Option Value → zM → Prop} {M : zM} {x : Int32} {s : Nat} (hx : x = nI s) (hs : s < 2 ^ 31) (h : Q (some (.int (nI (pc s 10)))) M) : zCon fX11_bits [.int x] M Q := by
  have L : ∀ i, i ≤ 10 → ∀ y n, y = nI i → n = nI (pc s i) → zEv fX11_bits Q 4 [(0, .int x), (1, .int n), (2, .int y)] [] M := by
    refine zloop 10 ?_ ?_
    · intro y n hy hn
      refine zev_go zkX11_bits [4] 60 ?_
      exact iGe hy n_10 (by omega) (by omega) (fun _ => by rw [← hn] at h; exact h) (fun q => absurd q (by omega))
    · intro i hi ih y n hy hn
      refine zev_go zkX11_bits [4] 60 ?_
      refine iGe hy n_10 (by omega) (by omega) (fun q => absurd q (by omega)) (fun _ => ?_)
      exact ih _ _ (by rw [hy, nI_1]) (by rw [a_bit hx hy hs (by omega), tb_eq, hn, nI_add]; rfl)
  exact zc_of zkX11_bits [4] 60 (Nat.le_of_ble_eq_true rfl) (L 0 (by omega) 0 0 rfl rfl)
