/-! shortest ways: rounds over a list of edges (from, to, weight) -/
theorem pigeon : ∀ (N : Nat) (f : Nat → Nat), (∀ i, i ≤ N → f i < N) → ∃ i j, i < j ∧ j ≤ N ∧ f i = f j := by
  intro N
  induction N with
  | zero => intro f h; exact absurd (h 0 (by omega)) (by omega)
  | succ N ih =>
    intro f h
    by_cases q : ∃ i, i ≤ N ∧ f i = f (N + 1)
    · obtain ⟨i, h1, h2⟩ := q
      exact ⟨i, N + 1, by omega, by omega, h2⟩
    · have q' : ∀ i, i ≤ N → f i ≠ f (N + 1) := fun i h1 h2 => q ⟨i, h1, h2⟩
      obtain ⟨i, j, h1, h2, h3⟩ := ih (fun i => if f i = N then f (N + 1) else f i) (fun i hi => by
        have a := h i (by omega)
        have b := h (N + 1) (by omega)
        have c := q' i hi
        split <;> omega)
      refine ⟨i, j, h1, by omega, ?_⟩
      have a := q' i (by omega)
      have b := q' j h2
      split at h3 <;> split at h3 <;> omega
abbrev eE : Type := Nat × Nat × Nat
def jac (d : Nat → Nat) : List eE → Nat → Nat
  | [], v => d v
  | e :: l, v => if e.2.1 = v then min (jac d l v) (d e.1 + e.2.2) else jac d l v
theorem jac_s (d : Nat → Nat) (e : eE) (l : List eE) (v : Nat) : jac d (e :: l) v = if e.2.1 = v then min (jac d l v) (d e.1 + e.2.2) else jac d l v := rfl
theorem jac_le (d : Nat → Nat) (v : Nat) : ∀ L, jac d L v ≤ d v
  | [] => Nat.le_refl _
  | e :: l => by
    have h := jac_le d v l
    rw [jac_s]
    split
    · omega
    · exact h
theorem jac_e (d : Nat → Nat) {e : eE} : ∀ {L : List eE}, e ∈ L → jac d L e.2.1 ≤ d e.1 + e.2.2
  | [], h => absurd h (by simp)
  | f :: l, h => by
    rw [jac_s]
    rcases List.mem_cons.mp h with q | q
    · subst q; rw [if_pos rfl]; omega
    · have h := jac_e d q
      split
      · omega
      · exact h
theorem jac_c (d : Nat → Nat) (v : Nat) : ∀ L, jac d L v = d v ∨ ∃ e, e ∈ L ∧ e.2.1 = v ∧ jac d L v = d e.1 + e.2.2
  | [] => Or.inl rfl
  | e :: l => by
    rw [jac_s]
    split
    · next q =>
      rcases Nat.le_total (jac d l v) (d e.1 + e.2.2) with h | h
      · rw [Nat.min_eq_left h]
        rcases jac_c d v l with r | ⟨f, f1, f2, f3⟩
        · exact Or.inl r
        · exact Or.inr ⟨f, List.mem_cons_of_mem _ f1, f2, f3⟩
      · rw [Nat.min_eq_right h]
        exact Or.inr ⟨e, List.mem_cons_self, q, rfl⟩
    · rcases jac_c d v l with r | ⟨f, f1, f2, f3⟩
      · exact Or.inl r
      · exact Or.inr ⟨f, List.mem_cons_of_mem _ f1, f2, f3⟩
def jr (L : List eE) (d0 : Nat → Nat) : Nat → Nat → Nat
  | 0 => d0
  | r + 1 => jac (jr L d0 r) L
theorem jr_s (L : List eE) (d0 : Nat → Nat) (r : Nat) : jr L d0 (r + 1) = jac (jr L d0 r) L := rfl
theorem jr_1 (L : List eE) (d0 : Nat → Nat) (r v : Nat) : jr L d0 (r + 1) v ≤ jr L d0 r v := by rw [jr_s]; exact jac_le _ v L
theorem jr_e {L : List eE} {d0 : Nat → Nat} (r : Nat) {e : eE} (h : e ∈ L) : jr L d0 (r + 1) e.2.1 ≤ jr L d0 r e.1 + e.2.2 := by rw [jr_s]; exact jac_e _ h
theorem jr_c {L : List eE} {d0 : Nat → Nat} (r v : Nat) : jr L d0 (r + 1) v = jr L d0 r v ∨ ∃ e, e ∈ L ∧ e.2.1 = v ∧ jr L d0 (r + 1) v = jr L d0 r e.1 + e.2.2 := by rw [jr_s]; exact jac_c _ v L
theorem jr_anti (L : List eE) (d0 : Nat → Nat) (v r : Nat) : ∀ k, jr L d0 (r + k) v ≤ jr L d0 r v
  | 0 => Nat.le_refl _
  | k + 1 => Nat.le_trans (jr_1 L d0 (r + k) v) (jr_anti L d0 v r k)
theorem jr_an {L : List eE} {d0 : Nat → Nat} {r s : Nat} (h : r ≤ s) (v : Nat) : jr L d0 s v ≤ jr L d0 r v := by
  have := jr_anti L d0 v r (s - r)
  rw [show r + (s - r) = s by omega] at this
  exact this
theorem jr_ch {L : List eE} {d0 : Nat → Nat} {N : Nat} (hN : ∀ e, e ∈ L → e.1 < N ∧ e.2.1 < N) : ∀ r v, jr L d0 (r + 1) v < jr L d0 r v → ∃ f : Nat → Nat, f (r + 1) = v ∧ (∀ j, j ≤ r + 1 → f j < N) ∧ (∀ j, j ≤ r → jr L d0 (j + 1) (f (j + 1)) < jr L d0 j (f (j + 1)) ∧ jr L d0 j (f j) ≤ jr L d0 (j + 1) (f (j + 1))) := by
  intro r
  induction r with
  | zero =>
    intro v h
    rcases jr_c (L := L) (d0 := d0) 0 v with q | ⟨e, e1, e2, e3⟩
    · omega
    · refine ⟨fun j => if j = 0 then e.1 else v, rfl, fun j hj => ?_, fun j hj => ?_⟩
      · have := hN e e1
        dsimp only
        split <;> omega
      · have : j = 0 := by omega
        subst this
        refine ⟨h, ?_⟩
        show jr L d0 0 e.1 ≤ jr L d0 (0 + 1) v
        omega
  | succ r ih =>
    intro v h
    rcases jr_c (L := L) (d0 := d0) (r + 1) v with q | ⟨e, e1, e2, e3⟩
    · omega
    · have h2 : jr L d0 (r + 1) e.1 < jr L d0 r e.1 := by
        have a := jr_1 L d0 r e.1
        have b := jr_e (d0 := d0) r e1
        rw [e2] at b
        omega
      obtain ⟨f, f1, f2, f3⟩ := ih e.1 h2
      refine ⟨fun j => if j = r + 2 then v else f j, if_pos rfl, fun j hj => ?_, fun j hj => ?_⟩
      · have := hN e e1
        dsimp only
        split
        · omega
        · exact f2 j (by omega)
      · dsimp only
        by_cases q : j = r + 1
        · subst q
          rw [if_pos rfl, if_neg (by omega)]
          refine ⟨h, ?_⟩
          rw [f1]; omega
        · rw [if_neg (by omega), if_neg (by omega)]
          exact f3 j (by omega)
theorem jr_cl {L : List eE} {d0 : Nat → Nat} {N : Nat} (hN : ∀ e, e ∈ L → e.1 < N ∧ e.2.1 < N) (v : Nat) : jr L d0 (N + 1) v = jr L d0 N v := by
  rcases Nat.lt_or_ge (jr L d0 (N + 1) v) (jr L d0 N v) with h | h
  · exfalso
    obtain ⟨f, f1, f2, f3⟩ := jr_ch hN N v h
    obtain ⟨i, j, h1, h2, h3⟩ := pigeon N f (fun i hi => f2 i (by omega))
    have up : ∀ k, i + k ≤ N → jr L d0 i (f i) ≤ jr L d0 (i + k) (f (i + k)) := by
      intro k
      induction k with
      | zero => intro _; exact Nat.le_refl _
      | succ k ih => intro hk; exact Nat.le_trans (ih (by omega)) (f3 (i + k) (by omega)).2
    have a := up (j - i) (by omega)
    rw [show i + (j - i) = j by omega] at a
    have b := (f3 (j - 1) (by omega)).1
    rw [show j - 1 + 1 = j by omega] at b
    have c := jr_an (L := L) (d0 := d0) (show i ≤ j - 1 by omega) (f j)
    rw [h3] at a
    omega
  · have := jr_1 L d0 N v
    omega
theorem jr_cd {L : List eE} {d0 : Nat → Nat} {N : Nat} (hN : ∀ e, e ∈ L → e.1 < N ∧ e.2.1 < N) {e : eE} (h : e ∈ L) : jr L d0 N e.2.1 ≤ jr L d0 N e.1 + e.2.2 := by
  have a := jr_e (d0 := d0) N h
  rw [jr_cl hN] at a
  exact a
theorem jr_min {L : List eE} {d0 c : Nat → Nat} (hc : ∀ e, e ∈ L → c e.2.1 ≤ c e.1 + e.2.2) (h0 : ∀ v, c v ≤ d0 v) : ∀ r v, c v ≤ jr L d0 r v := by
  intro r
  induction r with
  | zero => exact h0
  | succ r ih =>
    intro v
    rcases jr_c (L := L) (d0 := d0) r v with q | ⟨e, e1, e2, e3⟩
    · rw [q]; exact ih v
    · rw [e3]
      have a := hc e e1
      have b := ih e.1
      rw [e2] at a
      omega
theorem jr_up {L : List eE} {d0 d : Nat → Nat} {r : Nat} (h1 : ∀ v, d v ≤ jr L d0 r v) (h2 : ∀ e, e ∈ L → d e.2.1 ≤ jr L d0 r e.1 + e.2.2) (v : Nat) : d v ≤ jr L d0 (r + 1) v := by
  rcases jr_c (L := L) (d0 := d0) r v with q | ⟨e, e1, e2, e3⟩
  · rw [q]; exact h1 v
  · rw [e3, ← e2]; exact h2 e e1
theorem jr_ti {L : List eE} {d0 : Nat → Nat} {N : Nat} (hN : ∀ e, e ∈ L → e.1 < N ∧ e.2.1 < N) (v : Nat) : jr L d0 N v = d0 v ∨ ∃ e, e ∈ L ∧ e.2.1 = v ∧ jr L d0 N v = jr L d0 N e.1 + e.2.2 := by
  have K : ∀ r, r ≤ N → jr L d0 r v = jr L d0 N v → jr L d0 N v = d0 v ∨ ∃ e, e ∈ L ∧ e.2.1 = v ∧ jr L d0 N v = jr L d0 N e.1 + e.2.2 := by
    intro r
    induction r with
    | zero => intro _ h; exact Or.inl h.symm
    | succ r ih =>
      intro hr h
      rcases jr_c (L := L) (d0 := d0) r v with q | ⟨e, e1, e2, e3⟩
      · exact ih (by omega) (by rw [← q]; exact h)
      · refine Or.inr ⟨e, e1, e2, ?_⟩
        have a := jr_cd (d0 := d0) hN e1
        have b := jr_an (L := L) (d0 := d0) (show r ≤ N by omega) e.1
        rw [e2] at a
        omega
  exact K N (Nat.le_refl N) rfl
theorem jr_eq {L : List eE} {d0 d : Nat → Nat} {N : Nat} (hN : ∀ e, e ∈ L → e.1 < N ∧ e.2.1 < N) (h1 : ∀ v, jr L d0 N v ≤ d v) (h2 : (∀ v, d v ≤ jr L d0 N v) ∨ ((∀ e, e ∈ L → d e.2.1 ≤ d e.1 + e.2.2) ∧ ∀ v, d v ≤ d0 v)) (v : Nat) : d v = jr L d0 N v := by
  rcases h2 with h | ⟨h, h0⟩
  · exact Nat.le_antisymm (h v) (h1 v)
  · exact Nat.le_antisymm (jr_min h h0 N v) (h1 v)
/-- the ways: weight of a corner -/
def eW (K : Nat) (T : zTn) (s : Nat) : Nat → List eE
  | 0 => []
  | i + 1 => if s.testBit i = true then eW K T s i else (tA T i, tB T i, K * tP T i + 1) :: (tB T i, tA T i, K * tP T i + 1) :: eW K T s i
theorem eW_s (K : Nat) (T : zTn) (s i : Nat) : eW K T s (i + 1) = if s.testBit i = true then eW K T s i else (tA T i, tB T i, K * tP T i + 1) :: (tB T i, tA T i, K * tP T i + 1) :: eW K T s i := rfl
theorem eW_mem {K : Nat} {T : zTn} {s : Nat} {e : eE} : ∀ {n : Nat}, e ∈ eW K T s n ↔ ∃ i, i < n ∧ s.testBit i = false ∧ (e = (tA T i, tB T i, K * tP T i + 1) ∨ e = (tB T i, tA T i, K * tP T i + 1))
  | 0 => ⟨fun h => absurd h (by simp [eW]), fun ⟨i, h, _⟩ => absurd h (by omega)⟩
  | n + 1 => by
    have ih := eW_mem (K := K) (T := T) (s := s) (e := e) (n := n)
    rw [eW_s]
    constructor
    · intro h
      split at h
      · obtain ⟨i, h1, h2⟩ := ih.mp h
        exact ⟨i, by omega, h2⟩
      · next q =>
        have q2 : s.testBit n = false := by cases r : s.testBit n with
          | true => exact absurd r q
          | false => rfl
        rcases List.mem_cons.mp h with r | r
        · exact ⟨n, by omega, q2, Or.inl r⟩
        · rcases List.mem_cons.mp r with r | r
          · exact ⟨n, by omega, q2, Or.inr r⟩
          · obtain ⟨i, h1, h2⟩ := ih.mp r
            exact ⟨i, by omega, h2⟩
    · intro ⟨i, h1, h2, h3⟩
      by_cases c : i = n
      · subst c
        rw [if_neg (by rw [h2]; decide)]
        rcases h3 with r | r
        · rw [r]; exact List.mem_cons_self
        · rw [r]; exact List.mem_cons_of_mem _ List.mem_cons_self
      · have m := ih.mpr ⟨i, by omega, h2, h3⟩
        split
        · exact m
        · exact List.mem_cons_of_mem _ (List.mem_cons_of_mem _ m)
theorem eW_bd {K : Nat} {T : zTn} {s : Nat} (hv : zTv T) : ∀ e, e ∈ eW K T s (tC T) → e.1 < tS T ∧ e.2.1 < tS T := by
  intro e h
  obtain ⟨i, h1, h2, h3⟩ := eW_mem.mp h
  have := zTv_i hv h1
  rcases h3 with r | r
  · subst r; exact ⟨this.1, this.2.1⟩
  · subst r; exact ⟨this.2.1, this.1⟩
def wR (r x y : Nat) : Prop := (∃ p l, p ≤ 99 * r ∧ l ≤ r ∧ x = 16 * p + l ∧ y = 100 * p + l) ∨ (x = 100000000 ∧ y = 1000000)
theorem wR_step {r x y u v p : Nat} (h : wR (r + 1) x y) (g : wR r u v) (hp : p ≤ 99) (hr : r ≤ 7) : wR (r + 1) (min x (u + (16 * p + 1))) (min y (v + (100 * p + 1))) := by
  rcases h with ⟨P, l, h1, h2, h3, h4⟩ | ⟨h3, h4⟩
  · rcases g with ⟨P', l', g1, g2, g3, g4⟩ | ⟨g3, g4⟩
    · by_cases c : 16 * P + l ≤ 16 * (P' + p) + (l' + 1)
      · exact Or.inl ⟨P, l, h1, h2, by omega, by omega⟩
      · exact Or.inl ⟨P' + p, l' + 1, by omega, by omega, by omega, by omega⟩
    · exact Or.inl ⟨P, l, h1, h2, by omega, by omega⟩
  · rcases g with ⟨P', l', g1, g2, g3, g4⟩ | ⟨g3, g4⟩
    · exact Or.inl ⟨P' + p, l' + 1, by omega, by omega, by omega, by omega⟩
    · exact Or.inr ⟨by omega, by omega⟩
def dw (K F : Nat) (T : zTn) (s b : Nat) : Nat → Nat → Nat := jr (eW K T s (tC T)) (fun v => if v = b then 0 else F)
theorem wR_mono {r x y : Nat} (h : wR r x y) : wR (r + 1) x y := by
  rcases h with ⟨P, l, h1, h2, h3, h4⟩ | h
  · exact Or.inl ⟨P, l, by omega, by omega, h3, h4⟩
  · exact Or.inr h
theorem dw_rel {T : zTn} {s b : Nat} (hv : zTv T) : ∀ r, r ≤ 8 → ∀ v, wR r (dw 16 100000000 T s b r v) (dw 100 1000000 T s b r v) := by
  intro r
  induction r with
  | zero =>
    intro _ v
    show wR 0 (if v = b then 0 else 100000000) (if v = b then 0 else 1000000)
    split
    · exact Or.inl ⟨0, 0, by omega, by omega, rfl, rfl⟩
    · exact Or.inr ⟨rfl, rfl⟩
  | succ r ih =>
    intro hr v
    have K : ∀ n, n ≤ tC T → wR (r + 1) (jac (dw 16 100000000 T s b r) (eW 16 T s n) v) (jac (dw 100 1000000 T s b r) (eW 100 T s n) v) := by
      intro n
      induction n with
      | zero => intro _; exact wR_mono (ih (by omega) v)
      | succ n ih2 =>
        intro hn
        have h := ih2 (by omega)
        have hp := (zTv_i hv (i := n) (by omega)).2.2.2.2.2
        rw [eW_s, eW_s]
        split
        · exact h
        · rw [jac_s, jac_s, jac_s, jac_s]
          dsimp only
          have h2 : wR (r + 1) (if tA T n = v then min (jac (dw 16 100000000 T s b r) (eW 16 T s n) v) (dw 16 100000000 T s b r (tB T n) + (16 * tP T n + 1)) else jac (dw 16 100000000 T s b r) (eW 16 T s n) v) (if tA T n = v then min (jac (dw 100 1000000 T s b r) (eW 100 T s n) v) (dw 100 1000000 T s b r (tB T n) + (100 * tP T n + 1)) else jac (dw 100 1000000 T s b r) (eW 100 T s n) v) := by
            split
            · exact wR_step h (ih (by omega) _) hp (by omega)
            · exact h
          split
          · exact wR_step h2 (ih (by omega) _) hp (by omega)
          · exact h2
    exact K (tC T) (Nat.le_refl _)
