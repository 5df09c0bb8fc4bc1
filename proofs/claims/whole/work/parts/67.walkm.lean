/-! a walk through all streets -/
def wE (T : zTn) (σ : Nat) : Nat → List eE
  | 0 => []
  | i + 1 => (7 * σ + tA T i, 7 * (σ ||| 2 ^ tB T i) + tB T i, 1) :: (7 * σ + tB T i, 7 * (σ ||| 2 ^ tA T i) + tA T i, 1) :: wE T σ i
theorem wE_s (T : zTn) (σ i : Nat) : wE T σ (i + 1) = (7 * σ + tA T i, 7 * (σ ||| 2 ^ tB T i) + tB T i, 1) :: (7 * σ + tB T i, 7 * (σ ||| 2 ^ tA T i) + tA T i, 1) :: wE T σ i := rfl
theorem wE_mem {T : zTn} {σ : Nat} {e : eE} : ∀ {n : Nat}, e ∈ wE T σ n ↔ ∃ i, i < n ∧ (e = (7 * σ + tA T i, 7 * (σ ||| 2 ^ tB T i) + tB T i, 1) ∨ e = (7 * σ + tB T i, 7 * (σ ||| 2 ^ tA T i) + tA T i, 1))
  | 0 => ⟨fun h => absurd h (by simp [wE]), fun ⟨i, h, _⟩ => absurd h (by omega)⟩
  | n + 1 => by
    have ih := wE_mem (T := T) (σ := σ) (e := e) (n := n)
    rw [wE_s]
    constructor
    · intro h
      rcases List.mem_cons.mp h with r | r
      · exact ⟨n, by omega, Or.inl r⟩
      · rcases List.mem_cons.mp r with r | r
        · exact ⟨n, by omega, Or.inr r⟩
        · obtain ⟨i, h1, h2⟩ := ih.mp r
          exact ⟨i, by omega, h2⟩
    · intro ⟨i, h1, h2⟩
      by_cases c : i = n
      · subst c
        rcases h2 with r | r
        · rw [r]; exact List.mem_cons_self
        · rw [r]; exact List.mem_cons_of_mem _ List.mem_cons_self
      · exact List.mem_cons_of_mem _ (List.mem_cons_of_mem _ (ih.mpr ⟨i, by omega, h2⟩))
def wS (T : zTn) : Nat → List eE
  | 0 => []
  | σ + 1 => wE T σ (tC T) ++ wS T σ
theorem wS_s (T : zTn) (σ : Nat) : wS T (σ + 1) = wE T σ (tC T) ++ wS T σ := rfl
theorem wS_mem {T : zTn} {e : eE} : ∀ {n : Nat}, e ∈ wS T n ↔ ∃ σ i, σ < n ∧ i < tC T ∧ (e = (7 * σ + tA T i, 7 * (σ ||| 2 ^ tB T i) + tB T i, 1) ∨ e = (7 * σ + tB T i, 7 * (σ ||| 2 ^ tA T i) + tA T i, 1))
  | 0 => ⟨fun h => absurd h (by simp [wS]), fun ⟨σ, i, h, _⟩ => absurd h (by omega)⟩
  | n + 1 => by
    have ih := wS_mem (T := T) (e := e) (n := n)
    rw [wS_s, List.mem_append, wE_mem, ih]
    constructor
    · intro h
      rcases h with ⟨i, h1, h2⟩ | ⟨σ, i, h1, h2, h3⟩
      · exact ⟨n, i, by omega, h1, h2⟩
      · exact ⟨σ, i, by omega, h2, h3⟩
    · intro ⟨σ, i, h1, h2, h3⟩
      by_cases c : σ = n
      · subst c; exact Or.inl ⟨i, h2, h3⟩
      · exact Or.inr ⟨σ, i, by omega, h2, h3⟩
abbrev wL2 (T : zTn) : List eE := wS T (2 ^ tS T)
def w0 (a : Nat) : Nat → Nat := fun p => if p = 7 * 2 ^ a + a then 0 else 1000000
theorem w_lt {T : zTn} (hv : zTv T) {σ b : Nat} (hσ : σ < 2 ^ tS T) (hb : b < tS T) : σ ||| 2 ^ b < 2 ^ tS T ∧ 2 ^ tS T ≤ 128 := by
  have hS := zTv_S hv
  exact ⟨set_lt hσ hb, Nat.pow_le_pow_right (n := 2) (by omega) hS⟩
theorem w_bd {T : zTn} (hv : zTv T) : ∀ e, e ∈ wL2 T → e.1 < 896 ∧ e.2.1 < 896 := by
  intro e h
  have hS := zTv_S hv
  obtain ⟨σ, i, h1, h2, h3⟩ := wS_mem.mp h
  obtain ⟨i1, i2, _⟩ := zTv_i hv h2
  have a := w_lt hv h1 i1
  have b := w_lt hv h1 i2
  rcases h3 with r | r <;> subst r <;> refine ⟨?_, ?_⟩ <;> dsimp only <;> omega
/-- what the steps of a walk are -/
def wD (T : zTn) (a : Nat) : Nat → Nat := jr (wL2 T) (w0 a) 896
theorem wD_cd {T : zTn} {a : Nat} (hv : zTv T) {e : eE} (h : e ∈ wL2 T) : wD T a e.2.1 ≤ wD T a e.1 + e.2.2 := jr_cd (w_bd hv) h
theorem wD_e {T : zTn} {a : Nat} (hv : zTv T) {σ i : Nat} (hσ : σ < 2 ^ tS T) (hi : i < tC T) : wD T a (7 * (σ ||| 2 ^ tB T i) + tB T i) ≤ wD T a (7 * σ + tA T i) + 1 ∧ wD T a (7 * (σ ||| 2 ^ tA T i) + tA T i) ≤ wD T a (7 * σ + tB T i) + 1 :=
  ⟨wD_cd hv (e := (7 * σ + tA T i, 7 * (σ ||| 2 ^ tB T i) + tB T i, 1)) (wS_mem.mpr ⟨σ, i, hσ, hi, Or.inl rfl⟩), wD_cd hv (e := (7 * σ + tB T i, 7 * (σ ||| 2 ^ tA T i) + tA T i, 1)) (wS_mem.mpr ⟨σ, i, hσ, hi, Or.inr rfl⟩)⟩
theorem wD_an {T : zTn} {a r : Nat} (h : r ≤ 896) (v : Nat) : wD T a v ≤ jr (wL2 T) (w0 a) r v := jr_an h v
theorem wD_min {T : zTn} {a : Nat} {c : Nat → Nat} (hc : ∀ e, e ∈ wL2 T → c e.2.1 ≤ c e.1 + e.2.2) (h0 : ∀ v, c v ≤ w0 a v) (v : Nat) : c v ≤ wD T a v := jr_min hc h0 896 v
theorem wD_ti {T : zTn} {a : Nat} (hv : zTv T) (v : Nat) : wD T a v = w0 a v ∨ ∃ e, e ∈ wL2 T ∧ e.2.1 = v ∧ wD T a v = wD T a e.1 + e.2.2 := jr_ti (w_bd hv) v
theorem wD_0 (T : zTn) (a : Nat) : wD T a (7 * 2 ^ a + a) = 0 := by
  have := wD_an (T := T) (a := a) (r := 0) (by omega) (7 * 2 ^ a + a)
  have e : jr (wL2 T) (w0 a) 0 (7 * 2 ^ a + a) = 0 := if_pos rfl
  omega
theorem wD_le (T : zTn) (a p : Nat) : wD T a p ≤ 1000000 := by
  have := wD_an (T := T) (a := a) (r := 0) (by omega) p
  have e : jr (wL2 T) (w0 a) 0 p ≤ 1000000 := by
    show (if p = 7 * 2 ^ a + a then 0 else 1000000) ≤ 1000000
    split <;> omega
  omega
theorem w_one {T : zTn} {e : eE} (h : e ∈ wL2 T) : e.2.2 = 1 := by
  obtain ⟨σ, i, h1, h2, h3⟩ := wS_mem.mp h
  rcases h3 with r | r <;> rw [r]
theorem wD_r {T : zTn} {a : Nat} (hv : zTv T) : ∀ r p, wD T a p ≤ r → r < 1000000 → jr (wL2 T) (w0 a) r p ≤ wD T a p := by
  intro r
  induction r with
  | zero =>
    intro p h _
    rcases wD_ti (a := a) hv p with q | ⟨e, e1, e2, e3⟩
    · rw [q]; exact Nat.le_refl _
    · have := w_one e1; omega
  | succ r ih =>
    intro p h hr
    rcases wD_ti (a := a) hv p with q | ⟨e, e1, e2, e3⟩
    · rw [q]; exact jr_an (r := 0) (Nat.zero_le _) p
    · have o := w_one e1
      have i := ih e.1 (by omega) (by omega)
      have j := jr_e (d0 := w0 a) r e1
      rw [e2] at j
      omega
/-- the chain to a state -/
theorem w_ch {T : zTn} {a : Nat} (hv : zTv T) : ∀ m p, wD T a p = m → m < 1000000 → ∃ f : Nat → Nat, f m = p ∧ (∀ i, i ≤ m → wD T a (f i) = i) ∧ f 0 = 7 * 2 ^ a + a ∧ ∀ i, i < m → ∃ e, e ∈ wL2 T ∧ e.1 = f i ∧ e.2.1 = f (i + 1) := by
  intro m
  induction m with
  | zero =>
    intro p h _
    refine ⟨fun _ => p, rfl, fun i hi => by rw [h]; omega, ?_, fun i hi => absurd hi (by omega)⟩
    rcases wD_ti (a := a) hv p with q | ⟨e, e1, e2, e3⟩
    · rw [h] at q
      unfold w0 at q
      by_cases c : p = 7 * 2 ^ a + a
      · exact c
      · rw [if_neg c] at q; omega
    · have := w_one e1; omega
  | succ m ih =>
    intro p h hm
    rcases wD_ti (a := a) hv p with q | ⟨e, e1, e2, e3⟩
    · rw [h] at q
      unfold w0 at q
      split at q <;> omega
    · have o := w_one e1
      obtain ⟨f, f1, f2, f3, f4⟩ := ih e.1 (by omega) (by omega)
      refine ⟨fun i => if i = m + 1 then p else f i, if_pos rfl, fun i hi => ?_, ?_, fun i hi => ?_⟩
      · dsimp only
        split
        · next q => rw [q]; exact h
        · exact f2 i (by omega)
      · dsimp only
        rw [if_neg (by omega)]; exact f3
      · dsimp only
        by_cases c : i = m
        · subst c
          rw [if_pos rfl, if_neg (by omega)]
          exact ⟨e, e1, f1.symm, e2⟩
        · rw [if_neg (by omega), if_neg (by omega)]
          exact f4 i (by omega)
theorem pc_s (s n : Nat) : pc s (n + 1) = pc s n + (s.testBit n).toNat := rfl
theorem pc_mono {s n : Nat} : ∀ k, pc s n ≤ pc s (n + k)
  | 0 => Nat.le_refl _
  | k + 1 => Nat.le_trans (pc_mono k) (by rw [show n + (k + 1) = (n + k) + 1 by omega, pc_s]; omega)
theorem pc_in {s v n : Nat} (h : s.testBit v = true) (hn : v < n) : pc s v < pc s n := by
  have a := pc_mono (s := s) (n := v + 1) (n - (v + 1))
  rw [show v + 1 + (n - (v + 1)) = n by omega, pc_s, h] at a
  have : (true : Bool).toNat = 1 := rfl
  omega
theorem pc_same {s t : Nat} (h : ∀ i, s.testBit i = true → t.testBit i = true) : ∀ n, pc s n = pc t n → ∀ i, i < n → s.testBit i = t.testBit i
  | 0, _, i, hi => absurd hi (by omega)
  | n + 1, e, i, hi => by
    have a := pc_sub h n
    rw [pc_s, pc_s] at e
    have b : s.testBit n = t.testBit n ∧ pc s n = pc t n := by
      cases q : s.testBit n with
      | true => rw [q, h n q] at e; rw [h n q]; exact ⟨rfl, by omega⟩
      | false =>
        cases r : t.testBit n with
        | true => rw [q, r] at e; exact absurd e (by show ¬ pc s n + 0 = pc t n + 1; omega)
        | false => rw [q, r] at e; exact ⟨rfl, by omega⟩
    by_cases c : i = n
    · rw [c]; exact b.1
    · exact pc_same h n b.2 i (by omega)
def tri : Nat → Nat
  | 0 => 0
  | k + 1 => tri k + k
theorem tri_s (k : Nat) : tri (k + 1) = tri k + k := rfl
theorem tri_m (k : Nat) : ∀ j, tri k ≤ tri (k + j)
  | 0 => Nat.le_refl _
  | j + 1 => Nat.le_trans (tri_m k j) (by rw [show k + (j + 1) = (k + j) + 1 by omega, tri_s]; omega)
theorem tri_lt {k l r : Nat} (h : k < l) (hr : r < k) : tri k + r < tri l := by
  have := tri_m (k + 1) (l - (k + 1))
  rw [show k + 1 + (l - (k + 1)) = l by omega, tri_s] at this
  omega
theorem tri_inj {k l r s : Nat} (hr : r < k) (hs : s < l) (h : tri k + r = tri l + s) : k = l ∧ r = s := by
  rcases Nat.lt_trichotomy k l with c | c | c
  · have := tri_lt c hr; omega
  · subst c; exact ⟨rfl, by omega⟩
  · have := tri_lt c hs; omega
theorem w_step {T : zTn} (hv : zTv T) {e : eE} (h : e ∈ wL2 T) : (∀ i, (e.1 / 7).testBit i = true → (e.2.1 / 7).testBit i = true) ∧ (e.2.1 / 7).testBit (e.2.1 % 7) = true := by
  have hS := zTv_S hv
  obtain ⟨σ, i, h1, h2, h3⟩ := wS_mem.mp h
  obtain ⟨i1, i2, _⟩ := zTv_i hv h2
  rcases h3 with r | r
  · subst r
    dsimp only
    rw [show (7 * σ + tA T i) / 7 = σ by omega, show (7 * (σ ||| 2 ^ tB T i) + tB T i) / 7 = σ ||| 2 ^ tB T i by omega, show (7 * (σ ||| 2 ^ tB T i) + tB T i) % 7 = tB T i by omega]
    refine ⟨fun j hj => by rw [set_tb, hj]; rfl, by rw [set_tb, decide_eq_true rfl, Bool.or_true]⟩
  · subst r
    dsimp only
    rw [show (7 * σ + tB T i) / 7 = σ by omega, show (7 * (σ ||| 2 ^ tA T i) + tA T i) / 7 = σ ||| 2 ^ tA T i by omega, show (7 * (σ ||| 2 ^ tA T i) + tA T i) % 7 = tA T i by omega]
    refine ⟨fun j hj => by rw [set_tb, hj]; rfl, by rw [set_tb, decide_eq_true rfl, Bool.or_true]⟩
/-- a least walk is short -/
theorem w_short {T : zTn} {a p m : Nat} (hv : zTv T) (ha : a < tS T) (hp : wD T a p = m) (hm : m < 1000000) (hl : ∀ q, q / 7 = 2 ^ tS T - 1 → m ≤ wD T a q) : m ≤ 21 := by
  have hS := zTv_S hv
  obtain ⟨f, f1, f2, f3, f4⟩ := w_ch hv m p hp hm
  rcases Nat.lt_or_ge 21 m with c | c
  · exfalso
    have sub1 : ∀ k i, i + k ≤ m → ∀ j, (f i / 7).testBit j = true → (f (i + k) / 7).testBit j = true := by
      intro k
      induction k with
      | zero => intro i _ j h; exact h
      | succ k ih =>
        intro i hi j h
        obtain ⟨e, e1, e2, e3⟩ := f4 (i + k) (by omega)
        have s := (w_step hv e1).1 j
        rw [e2, e3] at s
        exact s (ih i (by omega) j h)
    have inn : ∀ i, i ≤ m → (f i / 7).testBit (f i % 7) = true ∧ f i < 896 ∧ f i / 7 < 2 ^ tS T := by
      intro i hi
      have h128 : 2 ^ tS T ≤ 128 := Nat.pow_le_pow_right (n := 2) (by omega) hS
      cases i with
      | zero =>
        have h2 : 2 ^ a < 2 ^ tS T := Nat.pow_lt_pow_right (by omega) ha
        rw [f3, show (7 * 2 ^ a + a) / 7 = 2 ^ a by omega, show (7 * 2 ^ a + a) % 7 = a by omega]
        refine ⟨by rw [Nat.testBit_two_pow]; simp, by omega, h2⟩
      | succ i =>
        obtain ⟨e, e1, e2, e3⟩ := f4 i (by omega)
        have s := (w_step hv e1).2
        have b := (w_bd hv e e1).2
        rw [e3] at s b
        refine ⟨s, b, ?_⟩
        obtain ⟨σ, i, h1, h2, h3⟩ := wS_mem.mp e1
        obtain ⟨i1, i2, _⟩ := zTv_i hv h2
        have l1 := (w_lt hv h1 i1).1
        have l2 := (w_lt hv h1 i2).1
        rw [← e3]
        rcases h3 with r | r <;> subst r <;> dsimp only <;> omega
    have no : ∀ i, i < m → f i / 7 ≠ 2 ^ tS T - 1 := fun i hi q => by
      have := hl (f i) q
      have := f2 i (by omega)
      omega
    have few : ∀ i, i < m → pc (f i / 7) 7 ≤ 6 := by
      intro i hi
      rcases Nat.lt_or_ge (pc (f i / 7) 7) 7 with q | q
      · omega
      · exfalso
        refine no i hi ?_
        have full : ∀ j, j < 7 → (f i / 7).testBit j = true := fun j hj => by
          have h1 : pc 127 7 = 7 := by decide
          have h2 := pc_le (f i / 7) 7
          have h3 := pc_same (s := f i / 7) (t := 127) (fun j hj => by
            have lt := (inn i (by omega)).2.1
            rcases Nat.lt_or_ge j 7 with d | d
            · exact (by decide : ∀ j, j < 7 → (127 : Nat).testBit j = true) j d
            · rw [tb_lt (show f i / 7 < 2 ^ 7 by omega) d] at hj; exact absurd hj (by decide)) 7 (by omega) j hj
          rw [h3]
          exact (by decide : ∀ j, j < 7 → (127 : Nat).testBit j = true) j hj
        apply Nat.eq_of_testBit_eq
        intro j
        rw [Nat.testBit_two_pow_sub_one]
        by_cases d : j < tS T
        · rw [full j (by omega), decide_eq_true d]
        · rw [tb_lt (inn i (by omega)).2.2 (by omega), decide_eq_false d]
    have rk : ∀ i, i < m → pc (f i / 7) (f i % 7) < pc (f i / 7) 7 := fun i hi => pc_in (inn i (by omega)).1 (by omega)
    obtain ⟨i, j, h1, h2, h3⟩ := pigeon 21 (fun i => tri (pc (f i / 7) 7) + pc (f i / 7) (f i % 7)) (fun i hi => by
      have := tri_lt (l := 7) (by have := few i (by omega); omega) (rk i (by omega))
      exact this)
    obtain ⟨k1, k2⟩ := tri_inj (rk i (by omega)) (rk j (by omega)) h3
    have sb := sub1 (j - i) i (by omega)
    rw [show i + (j - i) = j by omega] at sb
    have es : f i / 7 = f j / 7 := by
      apply Nat.eq_of_testBit_eq
      intro t
      rcases Nat.lt_or_ge t 7 with d | d
      · exact pc_same sb 7 k1 t d
      · have a1 := (inn i (by omega)).2.1
        have a2 := (inn j (by omega)).2.1
        rw [tb_lt (show f i / 7 < 2 ^ 7 by omega) d, tb_lt (show f j / 7 < 2 ^ 7 by omega) d]
    have ev : f i % 7 = f j % 7 := by
      rw [← es] at k2
      have a1 := (inn i (by omega)).1
      have a2 := (inn j (by omega)).1
      rw [← es] at a2
      rcases Nat.lt_trichotomy (f i % 7) (f j % 7) with d | d | d
      · have := pc_in a1 d; omega
      · exact d
      · have := pc_in a2 d; omega
    have ef : f i = f j := by omega
    have d1 := f2 i (by omega)
    have d2 := f2 j (by omega)
    rw [ef] at d1
    omega
  · exact c
/-- the least over the streets where it ends -/
def lmn (g : Nat → Nat) (o : Nat) : Nat → Nat
  | 0 => 1000000
  | n + 1 => min (lmn g o n) (g (o + n))
theorem lmn_s (g : Nat → Nat) (o n : Nat) : lmn g o (n + 1) = min (lmn g o n) (g (o + n)) := rfl
theorem lmn_le {g : Nat → Nat} {o b : Nat} : ∀ n, b < n → lmn g o n ≤ g (o + b)
  | 0, h => absurd h (by omega)
  | n + 1, h => by
    rw [lmn_s]
    by_cases c : b = n
    · subst c; omega
    · have := lmn_le (g := g) (o := o) n (show b < n by omega); omega
theorem lmn_at (g : Nat → Nat) (o : Nat) : ∀ n, lmn g o n = 1000000 ∨ ∃ b, b < n ∧ lmn g o n = g (o + b)
  | 0 => Or.inl rfl
  | n + 1 => by
    rw [lmn_s]
    rcases Nat.le_total (lmn g o n) (g (o + n)) with c | c
    · rw [Nat.min_eq_left c]
      rcases lmn_at g o n with h | ⟨b, h1, h2⟩
      · exact Or.inl h
      · exact Or.inr ⟨b, by omega, h2⟩
    · rw [Nat.min_eq_right c]; exact Or.inr ⟨n, by omega, rfl⟩
theorem lmn_F (g : Nat → Nat) (o : Nat) : ∀ n, lmn g o n ≤ 1000000
  | 0 => Nat.le_refl _
  | n + 1 => by have := lmn_F g o n; rw [lmn_s]; omega
def wk (T : zTn) (a : Nat) : Nat := lmn (wD T a) (7 * (2 ^ tS T - 1)) (tS T)
/-- 28 rounds are enough -/
theorem wk_eq {T : zTn} {a : Nat} {g : Nat → Nat} (hv : zTv T) (ha : a < tS T) (h1 : ∀ p, p < 896 → wD T a p ≤ g p) (h2 : ∀ p, p < 896 → g p ≤ jr (wL2 T) (w0 a) 28 p) : lmn g (7 * (2 ^ tS T - 1)) (tS T) = wk T a := by
  have hS := zTv_S hv
  have h128 : 2 ^ tS T ≤ 128 := Nat.pow_le_pow_right (n := 2) (by omega) hS
  have lo : wk T a ≤ lmn g (7 * (2 ^ tS T - 1)) (tS T) := by
    rcases lmn_at g (7 * (2 ^ tS T - 1)) (tS T) with q | ⟨b, q1, q2⟩
    · rw [q]; exact lmn_F _ _ _
    · rw [q2]
      exact Nat.le_trans (lmn_le _ q1) (h1 _ (by omega))
  apply Nat.le_antisymm ?_ lo
  rcases lmn_at (wD T a) (7 * (2 ^ tS T - 1)) (tS T) with q | ⟨b, q1, q2⟩
  · unfold wk; rw [q]; exact lmn_F _ _ _
  · have e : wk T a = wD T a (7 * (2 ^ tS T - 1) + b) := q2
    rcases Nat.lt_or_ge (wk T a) 1000000 with c | c
    · have hm : wk T a ≤ 21 := w_short hv ha e.symm c (fun q hq => by
        rcases Nat.lt_or_ge (q % 7) (tS T) with d | d
        · have := lmn_le (g := wD T a) (o := 7 * (2 ^ tS T - 1)) (tS T) d
          rw [show 7 * (2 ^ tS T - 1) + q % 7 = q by omega] at this
          exact this
        · have hq1 : wD T a q = 1000000 := by
            rcases wD_ti (a := a) hv q with r | ⟨f, f1, f2, f3⟩
            · rw [r]
              refine if_neg (fun s => ?_)
              rw [s] at d
              omega
            · obtain ⟨σ, i, s1, s2, s3⟩ := wS_mem.mp f1
              obtain ⟨i1, i2, _⟩ := zTv_i hv s2
              rcases s3 with s | s
              · rw [s] at f2; dsimp only at f2; omega
              · rw [s] at f2; dsimp only at f2; omega
          omega)
      have a1 := wD_r hv 28 (7 * (2 ^ tS T - 1) + b) (by omega) (by omega) (a := a)
      have a2 := h2 (7 * (2 ^ tS T - 1) + b) (by omega)
      have a3 := lmn_le (g := g) (o := 7 * (2 ^ tS T - 1)) (tS T) q1
      omega
    · have := lmn_F g (7 * (2 ^ tS T - 1)) (tS T); omega
def o_walk (G : zG) (a : Int32) : Int32 := match ix a (tS (gT G)) with
  | none => cUNK
  | some j => if wk (gT G) j < 1000000 then nI (wk (gT G) j) else -1
