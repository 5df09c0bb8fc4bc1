/-! what can be undone, and the images -/
theorem cA_ext {T : zTn} {a : zAf} {g g' : Nat → Int32} (hC : tC T ≤ 10) (hL : aL a ≤ 20) (h : ∀ j, j < 108 → g' j = g j) (ha : cA T a g) : cA T a g' := by
  obtain ⟨a1, a2, a3, a4, a5, a6, a7, a8⟩ := ha
  refine ⟨(h 0 (by omega)).trans a1, (h 1 (by omega)).trans a2, (h 2 (by omega)).trans a3, (h 3 (by omega)).trans a4, fun x hx => (h _ (by omega)).trans (a5 x hx), fun x hx => (h _ (by omega)).trans (a6 x hx), fun x hx => (h _ (by omega)).trans (a7 x hx), fun e he w hw => (h _ (by omega)).trans (a8 e he w hw)⟩
theorem mA_ext {T : zTn} {a : zAf} {g g' : Nat → Int32} (hC : tC T ≤ 10) (hL : aL a ≤ 20) (h : ∀ j, j < 88 → g' j = g j) (ha : mA T a g) : mA T a g' := by
  obtain ⟨a1, a2, a3, a4, a5, a6, a7, a8⟩ := ha
  refine ⟨(h _ (by omega)).trans a1, (h _ (by omega)).trans a2, (h _ (by omega)).trans a3, (h _ (by omega)).trans a4, fun x hx => (h _ (by omega)).trans (a5 x hx), fun x hx => (h _ (by omega)).trans (a6 x hx), fun x hx => (h _ (by omega)).trans (a7 x hx), fun e he => ?_⟩
  obtain ⟨b1, b2, b3⟩ := a8 e he
  exact ⟨(h _ (by omega)).trans b1, (h _ (by omega)).trans b2, (h _ (by omega)).trans b3⟩
def remU (a : zAf) (u : Nat × (Nat → zAf)) : Nat × (Nat → zAf) := (min 16 (u.1 + 1), fun e => if e = 0 then a else u.2 (e - 1))
def popU (u : Nat × (Nat → zAf)) : Nat × (Nat → zAf) := (u.1 - 1, fun e => u.2 (e + 1))
theorem v_remU {T : zTn} {a : zAf} {u : Nat × (Nat → zAf)} (ha : vA T a) (hu : vU T u) : vU T (remU a u) := by
  refine ⟨Nat.min_le_left _ _, fun e he => ?_⟩
  have he' : e < min 16 (u.1 + 1) := he
  show vA T (if e = 0 then a else u.2 (e - 1))
  by_cases q : e = 0
  · rw [if_pos q]; exact ha
  · rw [if_neg q]; exact hu.2 _ (by omega)
theorem v_popU {T : zTn} {u : Nat × (Nat → zAf)} (hu : vU T u) : vU T (popU u) := ⟨by have := hu.1; show u.1 - 1 ≤ 16; omega, fun e he => hu.2 _ (by have he' : e < u.1 - 1 := he; omega)⟩
theorem k_X5_remember {Q : Option Value → zM → Prop} {M : zM} {T : zTn} {a : zAf} {u : Nat × (Nat → zAf)} (hv : zTv T) (ha : cA T a (M 22)) (hva : vA T a) (hU : cU T u M) (hvU : vU T u) (hq : ∀ M', cU T (remU a u) M' → (∀ k, k ≠ 23 → k ≠ 24 → M' k = M k) → M' 23 3 = M 23 3 → Q none M') : zCon fX5_remember [.ref 23, .ref 21] M Q := by
  obtain ⟨u1, nw, hnw, u2, u3⟩ := hU
  have hu := hvU.1
  refine zc_of zkX5_remember [] 60 (Nat.le_of_ble_eq_true rfl) ?_
  have e1 : zrem (M 23 4 + 1) 16 = nI ((nw + 1) % 16) := a_rem (a_add u2 n_1) n_16 (by omega) (by omega) (by omega)
  have key : ∀ x y, x = nI ((nw + 1) % 16) → y = nI (min 16 (u.1 + 1)) → ∀ z, z = nI ((nw + 1) % 16 * 108) → Q none (zset (zu (zu M 23 4 x) 23 5 y) 24 (va_cpy (M 22) (M 24) 0 ((nw + 1) % 16 * 108) 108)) := by
    intro x y hx hy z hz
    subst hx; subst hy
    refine hq _ ⟨?_, (nw + 1) % 16, by omega, ?_, ?_⟩ (fun k h1 h2 => by rw [zset_n _ _ h2, zu_n _ _ _ h1, zu_n _ _ _ h1]) ?_
    · rfl
    · rfl
    · intro e he
      have he' : e < min 16 (u.1 + 1) := he
      rw [zset_s]
      show cA T (if e = 0 then a else u.2 (e - 1)) _
      by_cases q : e = 0
      · subst q
        rw [if_pos rfl]
        refine cA_ext (zTv_C hv) hva.2.2.2.1 (fun j hj => ?_) ha
        rw [pk_cpy_in (by omega) (by omega)]
        exact congrArg _ (by omega)
      · rw [if_neg q]
        refine cA_ext (zTv_C hv) (hvU.2 (e - 1) (by omega)).2.2.2.1 (fun j hj => ?_) (u3 (e - 1) (by omega))
        rw [pk_cpy_out (by omega)]
        exact congrArg _ (by omega)
    · rfl
  refine ⟨by decide, ?_⟩
  refine ⟨0, (nw + 1) % 16 * 108, 108, rfl, ?_, rfl, by decide, by omega, ?_⟩
  · show zu (zu M 23 4 (zrem (M 23 4 + 1) 16)) 23 5 _ 23 4 * 108 = _
    rw [zu_ne _ _ (by decide), zu_at]
    exact a_mul e1 n_108
  · exact key _ _ e1 (a_min n_16 (a_add (by rw [zu_ne _ _ (by decide)]; exact u1) n_1) (by decide) (by omega)) _ rfl
theorem k_X5_takeBack {Q : Option Value → zM → Prop} {M : zM} {T : zTn} {u : Nat × (Nat → zAf)} (hv : zTv T) (hU : cU T u M) (hvU : vU T u) (h0 : 0 < u.1) (hq : ∀ M', cU T (popU u) M' → cA T (u.2 0) (M' 22) → (∀ k, k ≠ 22 → k ≠ 23 → M' k = M k) → M' 23 3 = M 23 3 → Q none M') : zCon fX5_takeBack [.ref 23, .ref 21] M Q := by
  obtain ⟨u1, nw, hnw, u2, u3⟩ := hU
  have hu := hvU.1
  refine zc_of zkX5_takeBack [] 60 (Nat.le_of_ble_eq_true rfl) ?_
  refine ⟨nw * 108, 0, 108, a_mul u2 n_108, rfl, rfl, by omega, by decide, by decide, ?_⟩
  have key : ∀ x y, x = nI ((nw + 15) % 16) → y = nI (u.1 - 1) → Q none (zu (zu (zset M 22 (va_cpy (M 24) (M 22) (nw * 108) 0 108)) 23 4 x) 23 5 y) := by
    intro x y hx hy
    subst hx; subst hy
    refine hq _ ⟨rfl, (nw + 15) % 16, by omega, rfl, ?_⟩ ?_ (fun k h1 h2 => by rw [zu_n _ _ _ h2, zu_n _ _ _ h2, zset_n _ _ h1]) rfl
    · intro e he
      have he' : e < u.1 - 1 := he
      refine cA_ext (zTv_C hv) (hvU.2 (e + 1) (by omega)).2.2.2.1 (fun j hj => ?_) (u3 (e + 1) (by omega))
      show M 24 _ = M 24 _
      exact congrArg _ (by omega)
    · have h1 := u3 0 h0
      refine cA_ext (zTv_C hv) (hvU.2 0 h0).2.2.2.1 (fun j hj => ?_) h1
      show va_cpy (M 24) (M 22) (nw * 108) 0 108 j = _
      rw [pk_cpy_in (by omega) (by omega)]
      exact congrArg _ (by omega)
  refine key _ _ ?_ ?_
  · exact a_rem (a_sub (a_add u2 n_16) n_1 (by omega)) n_16 (by omega) (by omega) (by omega)
  · exact a_sub u1 n_1 (by omega)
