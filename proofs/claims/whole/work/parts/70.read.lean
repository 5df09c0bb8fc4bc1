/-! reading -/
abbrev rX : Type := Nat × (Nat → Nat)
abbrev rF : Type := Nat × Nat
def skb (X : rX) : Nat → Nat → Nat
  | 0, p => p
  | k + 1, p => if p < X.1 ∧ X.2 p = 32 then skb X k (p + 1) else p
def sB (X : rX) (p : Nat) : Nat := skb X (X.1 - p) p
theorem sB_go {X : rX} {p : Nat} (h : p < X.1) (h2 : X.2 p = 32) : sB X p = sB X (p + 1) := by
  unfold sB
  rw [show X.1 - p = (X.1 - (p + 1)) + 1 by omega]
  show (if p < X.1 ∧ X.2 p = 32 then _ else _) = _
  rw [if_pos ⟨h, h2⟩]
theorem sB_st {X : rX} {p : Nat} (h : ¬ (p < X.1 ∧ X.2 p = 32)) : sB X p = p := by
  unfold sB
  cases X.1 - p with
  | zero => rfl
  | succ k =>
    show (if p < X.1 ∧ X.2 p = 32 then _ else _) = _
    rw [if_neg h]
theorem sB_b {X : rX} : ∀ k p, p + k = X.1 → p ≤ sB X p ∧ sB X p ≤ X.1 ∧ ¬ (sB X p < X.1 ∧ X.2 (sB X p) = 32) := by
  intro k
  induction k with
  | zero => intro p h; rw [sB_st (by omega)]; omega
  | succ k ih =>
    intro p h
    by_cases c : X.2 p = 32
    · rw [sB_go (by omega) c]
      have := ih (p + 1) (by omega)
      omega
    · rw [sB_st (fun q => c q.2)]
      exact ⟨by omega, by omega, fun q => c q.2⟩
theorem sB_le {X : rX} {p : Nat} (h : p ≤ X.1) : p ≤ sB X p ∧ sB X p ≤ X.1 := ⟨(sB_b (X.1 - p) p (by omega)).1, (sB_b (X.1 - p) p (by omega)).2.1⟩
theorem sB_sB {X : rX} {p : Nat} (h : p ≤ X.1) : sB X (sB X p) = sB X p := sB_st (sB_b (X.1 - p) p (by omega)).2.2
abbrev fig (X : rX) (q : Nat) : Prop := q < X.1 ∧ 48 ≤ X.2 q ∧ X.2 q ≤ 57
def fge (X : rX) : Nat → Nat → Nat
  | 0, p => p
  | k + 1, p => if fig X p then fge X k (p + 1) else p
def eN (X : rX) (p : Nat) : Nat := fge X (X.1 - p) p
theorem eN_go {X : rX} {p : Nat} (h : fig X p) : eN X p = eN X (p + 1) := by
  unfold eN
  have := h.1
  rw [show X.1 - p = (X.1 - (p + 1)) + 1 by omega]
  show (if fig X p then _ else _) = _
  rw [if_pos h]
theorem eN_st {X : rX} {p : Nat} (h : ¬ fig X p) : eN X p = p := by
  unfold eN
  cases X.1 - p with
  | zero => rfl
  | succ k =>
    show (if fig X p then _ else _) = _
    rw [if_neg h]
theorem eN_b {X : rX} : ∀ k p, p + k = X.1 → p ≤ eN X p ∧ eN X p ≤ X.1 := by
  intro k
  induction k with
  | zero => intro p h; rw [eN_st (fun q => by have := q.1; omega)]; omega
  | succ k ih =>
    intro p h
    by_cases c : fig X p
    · rw [eN_go c]
      have := ih (p + 1) (by omega)
      omega
    · rw [eN_st c]
      omega
theorem eN_le {X : rX} {p : Nat} (h : p ≤ X.1) : p ≤ eN X p ∧ eN X p ≤ X.1 := eN_b (X.1 - p) p (by omega)
def vN (X : rX) (q : Nat) : Nat → Nat
  | 0 => 0
  | k + 1 => 10 * vN X q k + (X.2 (q + k) - 48)
theorem vN_s (X : rX) (q k : Nat) : vN X q (k + 1) = 10 * vN X q k + (X.2 (q + k) - 48) := rfl
theorem vN_b {X : rX} {q : Nat} : ∀ k, (∀ j, j < k → fig X (q + j)) → vN X q k < 10 ^ k
  | 0, _ => by show 0 < 10 ^ 0; decide
  | k + 1, h => by
    have ih := vN_b k (fun j hj => h j (by omega))
    have := (h k (by omega)).2
    rw [vN_s, Nat.pow_succ]
    omega
theorem vN_3 {X : rX} {q k : Nat} (hk : k ≤ 3) (h : ∀ j, j < k → fig X (q + j)) : vN X q k ≤ 999 := by
  have a := vN_b k h
  have b : (10 : Nat) ^ k ≤ 10 ^ 3 := Nat.pow_le_pow_right (by omega) hk
  omega
def rdN (X : rX) (lo h p : Nat) : rF ⊕ (Nat × Nat × Nat) :=
  if fig X (sB X p) then (if 3 < eN X (sB X p) - sB X p ∨ vN X (sB X p) (min 3 (eN X (sB X p) - sB X p)) < lo ∨ h ≤ vN X (sB X p) (min 3 (eN X (sB X p) - sB X p)) then .inl (2, sB X p) else .inr (vN X (sB X p) (min 3 (eN X (sB X p) - sB X p)), sB X p, eN X (sB X p))) else .inl (1, sB X p)
theorem rdN_1 {X : rX} {lo h p : Nat} (c : ¬ fig X (sB X p)) : rdN X lo h p = .inl (1, sB X p) := if_neg c
theorem rdN_2 {X : rX} {lo h p : Nat} (c : fig X (sB X p)) (d : 3 < eN X (sB X p) - sB X p ∨ vN X (sB X p) (min 3 (eN X (sB X p) - sB X p)) < lo ∨ h ≤ vN X (sB X p) (min 3 (eN X (sB X p) - sB X p))) : rdN X lo h p = .inl (2, sB X p) := by unfold rdN; rw [if_pos c, if_pos d]
theorem rdN_3 {X : rX} {lo h p : Nat} (c : fig X (sB X p)) (d : ¬ (3 < eN X (sB X p) - sB X p ∨ vN X (sB X p) (min 3 (eN X (sB X p) - sB X p)) < lo ∨ h ≤ vN X (sB X p) (min 3 (eN X (sB X p) - sB X p)))) : rdN X lo h p = .inr (vN X (sB X p) (min 3 (eN X (sB X p) - sB X p)), sB X p, eN X (sB X p)) := by unfold rdN; rw [if_pos c, if_neg d]
theorem rdN_ok {X : rX} {lo h p v q e : Nat} (hp : p ≤ X.1) (c : rdN X lo h p = .inr (v, q, e)) : lo ≤ v ∧ v < h ∧ q < e ∧ p ≤ q ∧ e ≤ X.1 := by
  unfold rdN at c
  by_cases f : fig X (sB X p)
  · rw [if_pos f] at c
    by_cases g : 3 < eN X (sB X p) - sB X p ∨ vN X (sB X p) (min 3 (eN X (sB X p) - sB X p)) < lo ∨ h ≤ vN X (sB X p) (min 3 (eN X (sB X p) - sB X p))
    · rw [if_pos g] at c; exact absurd c (by simp)
    · rw [if_neg g] at c
      have s := sB_le hp
      have e2 := eN_le (X := X) (p := sB X p + 1) f.1
      rw [← eN_go f] at e2
      have := Sum.inr.inj c
      rw [Prod.mk.injEq, Prod.mk.injEq] at this
      omega
  · rw [if_neg f] at c; exact absurd c (by simp)
theorem rdN_f {X : rX} {lo h p f w : Nat} (hp : p ≤ X.1) (c : rdN X lo h p = .inl (f, w)) : 0 < f ∧ f < 5 ∧ w ≤ X.1 := by
  have s := sB_le hp
  unfold rdN at c
  by_cases k : fig X (sB X p)
  · rw [if_pos k] at c
    split at c
    · have := Sum.inl.inj c; rw [Prod.mk.injEq] at this; omega
    · exact absurd c (by simp)
  · rw [if_neg k] at c; have := Sum.inl.inj c; rw [Prod.mk.injEq] at this; omega
def rdE (X : rX) (p : Nat) : rF ⊕ Nat := if sB X p < X.1 ∧ X.2 (sB X p) = 59 then .inr (sB X p + 1) else .inl (1, sB X p)
theorem rdE_ok {X : rX} {p e : Nat} (hp : p ≤ X.1) (c : rdE X p = .inr e) : p < e ∧ e ≤ X.1 := by
  have s := sB_le hp
  unfold rdE at c
  by_cases k : sB X p < X.1 ∧ X.2 (sB X p) = 59
  · rw [if_pos k] at c; have := Sum.inr.inj c; omega
  · rw [if_neg k] at c; exact absurd c (by simp)
/-- what is read: a town and the told sorts -/
abbrev rD : Type := zTn × (Nat → Nat)
def r0 : rD := (((0, 0, 0), fun _ _ => 0), fun _ => 0)
def rN (D : rD) (v : Nat) : rD := (((v, tS D.1, tC D.1), D.1.2), D.2)
def rS (D : rD) (a b : Nat) : rD := (((tN D.1, tS D.1 + 1, tC D.1), fun k => if k = 0 then nup (tI D.1) (tS D.1) a else if k = 1 then nup (tY D.1) (tS D.1) b else D.1.2 k), D.2)
def rK (D : rD) (a b s k l p : Nat) : rD := (((tN D.1, tS D.1, tC D.1 + 1), fun m => if m = 2 then nup (tA D.1) (tC D.1) a else if m = 3 then nup (tB D.1) (tC D.1) b else if m = 4 then nup (tK D.1) (tC D.1) k else if m = 5 then nup (tL D.1) (tC D.1) l else if m = 6 then nup (tP D.1) (tC D.1) p else D.1.2 m), nup D.2 (tC D.1) s)
def rdT (X : rX) (D : rD) (p : Nat) : rF ⊕ (rD × Nat) := match rdN X 2 9 p with
  | .inl f => .inl f
  | .inr (v, _, e) => match rdE X e with
    | .inl f => .inl f
    | .inr e => .inr (rN D v, e)
def rdS (X : rX) (D : rD) (p : Nat) : rF ⊕ (rD × Nat) := match rdN X 0 (tN D.1) p with
  | .inl f => .inl f
  | .inr (a, _, e) => match rdN X 0 (tN D.1) e with
    | .inl f => .inl f
    | .inr (b, q, e) => if b = a then .inl (4, q) else match rdE X e with
      | .inl f => .inl f
      | .inr e => .inr (rS D a b, e)
def rdK2 (X : rX) (D : rD) (a b p : Nat) : rF ⊕ (rD × Nat) := match rdN X 0 4 p with
  | .inl f => .inl f
  | .inr (s, _, e) => match rdN X 0 (tN D.1) e with
    | .inl f => .inl f
    | .inr (k, _, e) => match rdN X 0 (tN D.1) e with
      | .inl f => .inl f
      | .inr (l, _, e) => match rdN X 0 100 e with
        | .inl f => .inl f
        | .inr (c, _, e) => match rdE X e with
          | .inl f => .inl f
          | .inr e => .inr (rK D a b s k l c, e)
def rdK (X : rX) (D : rD) (p : Nat) : rF ⊕ (rD × Nat) := match rdN X 0 (tS D.1) p with
  | .inl f => .inl f
  | .inr (a, _, e) => match rdN X 0 (tS D.1) e with
    | .inl f => .inl f
    | .inr (b, q, e) => if b = a ∨ jn D.1 a b (tC D.1) = true then .inl (4, q) else rdK2 X D a b e
def rdC (X : rX) (D : rD) (q : Nat) : rF ⊕ (rD × Nat) :=
  if X.2 q = 116 then (if tN D.1 = 0 then rdT X D (q + 1) else .inl (3, q))
  else if X.2 q = 115 ∧ tN D.1 ≠ 0 then (if tS D.1 < 7 then rdS X D (q + 1) else .inl (3, q))
  else if X.2 q = 105 ∧ tN D.1 ≠ 0 then (if tC D.1 < 10 then rdK X D (q + 1) else .inl (3, q))
  else .inl (1, q)
def rdA (X : rX) : Nat → rD → Nat → rF ⊕ rD
  | 0, D, _ => .inr D
  | k + 1, D, p => if sB X p < X.1 then (match rdC X D (sB X p) with
    | .inl f => .inl f
    | .inr (D, p) => rdA X k D p) else .inr D
/-- what is read is a town -/
def vD (D : rD) : Prop := zTv D.1 ∧ ∀ i, i < tC D.1 → D.2 i < 4
theorem vD_0 : vD r0 := ⟨⟨by decide, by decide, by decide, fun _ => rfl, fun _ => rfl, fun a h => absurd h (Nat.not_lt_zero _), fun i h => absurd h (Nat.not_lt_zero _), fun i j h => absurd h (Nat.not_lt_zero _)⟩, fun i h => absurd h (Nat.not_lt_zero _)⟩
theorem jn_no {T : zTn} {a b : Nat} : ∀ n, jn T a b n = false → ∀ i, i < n → ¬ (tA T i = a ∧ tB T i = b ∨ tA T i = b ∧ tB T i = a)
  | 0, _, i, hi => absurd hi (by omega)
  | n + 1, h, i, hi => by
    rw [jn_s, Bool.or_eq_false_iff] at h
    by_cases c : i = n
    · rw [c]; exact of_decide_eq_false h.2
    · exact jn_no n h.1 i (by omega)
theorem vD_N {D : rD} {v : Nat} (h : vD D) (h0 : tN D.1 = 0) (hv : v < 9) (hv2 : 2 ≤ v) : vD (rN D v) := by
  obtain ⟨⟨h1, h2, h3, h4, h5, h6, h7, h8⟩, h9⟩ := h
  have s0 := h4 h0
  have c0 := h5 s0
  have es : tS (rN D v).1 = 0 := s0
  have ec : tC (rN D v).1 = 0 := c0
  have en : tN (rN D v).1 = v := rfl
  refine ⟨⟨by omega, by omega, by omega, fun _ => es, fun _ => ec, fun a ha => absurd ha (by omega), fun i hi => absurd hi (by omega), fun i j hi => absurd hi (by omega)⟩, fun i hi => absurd hi (by omega)⟩
theorem vD_S {D : rD} {a b : Nat} (h : vD D) (hS : tS D.1 < 7) (ha : a < tN D.1) (hb : b < tN D.1) : vD (rS D a b) := by
  obtain ⟨⟨h1, h2, h3, h4, h5, h6, h7, h8⟩, h9⟩ := h
  refine ⟨⟨h1, ?_, h3, fun e => ?_, fun e => ?_, fun x hx => ?_, fun i hi => ?_, h8⟩, h9⟩
  · show tS D.1 + 1 ≤ 7; omega
  · have : tN D.1 = 0 := e; omega
  · have : tS D.1 + 1 = 0 := e; omega
  · have hx' : x < tS D.1 + 1 := hx
    show nup (tI D.1) (tS D.1) a x < tN D.1 ∧ nup (tY D.1) (tS D.1) b x < tN D.1
    by_cases c : x = tS D.1
    · rw [c, nup_s, nup_s]; exact ⟨ha, hb⟩
    · rw [nup_n _ _ c, nup_n _ _ c]; exact h6 x (by omega)
  · have k := h7 i hi
    show tA D.1 i < tS D.1 + 1 ∧ tB D.1 i < tS D.1 + 1 ∧ _
    exact ⟨by omega, by omega, k.2.2⟩
theorem vD_K {D : rD} {a b s k l p : Nat} (h : vD D) (hC : tC D.1 < 10) (ha : a < tS D.1) (hb : b < tS D.1) (hab : b ≠ a) (hj : jn D.1 a b (tC D.1) = false) (hs : s < 4) (hk : k < tN D.1) (hl : l < tN D.1) (hp : p < 100) : vD (rK D a b s k l p) := by
  obtain ⟨⟨h1, h2, h3, h4, h5, h6, h7, h8⟩, h9⟩ := h
  have no := jn_no _ hj
  refine ⟨⟨h1, h2, ?_, h4, fun e => ?_, h6, fun i hi => ?_, fun i j hi hj => ?_⟩, fun i hi => ?_⟩
  · show tC D.1 + 1 ≤ 10; omega
  · have : tS D.1 = 0 := e; omega
  · have hi' : i < tC D.1 + 1 := hi
    show nup (tA D.1) (tC D.1) a i < tS D.1 ∧ nup (tB D.1) (tC D.1) b i < tS D.1 ∧ nup (tA D.1) (tC D.1) a i ≠ nup (tB D.1) (tC D.1) b i ∧ nup (tK D.1) (tC D.1) k i < tN D.1 ∧ nup (tL D.1) (tC D.1) l i < tN D.1 ∧ nup (tP D.1) (tC D.1) p i ≤ 99
    by_cases c : i = tC D.1
    · rw [c, nup_s, nup_s, nup_s, nup_s, nup_s]; exact ⟨ha, hb, fun e => hab e.symm, hk, hl, by omega⟩
    · rw [nup_n _ _ c, nup_n _ _ c, nup_n _ _ c, nup_n _ _ c, nup_n _ _ c]; exact h7 i (by omega)
  · have hi' : i < tC D.1 + 1 := hi
    have hj' : j < tC D.1 + 1 := hj
    show (nup (tA D.1) (tC D.1) a i = nup (tA D.1) (tC D.1) a j ∧ nup (tB D.1) (tC D.1) b i = nup (tB D.1) (tC D.1) b j ∨ nup (tA D.1) (tC D.1) a i = nup (tB D.1) (tC D.1) b j ∧ nup (tB D.1) (tC D.1) b i = nup (tA D.1) (tC D.1) a j) → i = j
    by_cases c : i = tC D.1
    · by_cases d : j = tC D.1
      · intro _; omega
      · rw [c, nup_s, nup_s, nup_n _ _ d, nup_n _ _ d]
        intro q
        exact absurd (show tA D.1 j = a ∧ tB D.1 j = b ∨ tA D.1 j = b ∧ tB D.1 j = a by omega) (no j (by omega))
    · by_cases d : j = tC D.1
      · rw [d, nup_s, nup_s, nup_n _ _ c, nup_n _ _ c]
        intro q
        exact absurd (show tA D.1 i = a ∧ tB D.1 i = b ∨ tA D.1 i = b ∧ tB D.1 i = a by omega) (no i (by omega))
      · rw [nup_n _ _ c, nup_n _ _ c, nup_n _ _ d, nup_n _ _ d]
        exact h8 i j (by omega) (by omega)
  · have hi' : i < tC D.1 + 1 := hi
    show nup D.2 (tC D.1) s i < 4
    by_cases c : i = tC D.1
    · rw [c, nup_s]; exact hs
    · rw [nup_n _ _ c]; exact h9 i (by omega)
