/-! small helpers for the walks -/
theorem zc_of {f : zF} {Q : Option Value → zM → Prop} {vs : List Value} {M : zM} (hf : zOK f) (S : List Nat) (n : Nat) (hn : (lg_sl vs).length ≤ f.2.1.1) (h : zgo f Q S n 0 (lv_args 0 vs) [] M) : zCon f vs M Q := zcon_of hf.1 hn (zev_go hf S n h)
theorem bT {A B : Prop} (h : B) : ((1 : Int32) = 0 → A) ∧ (¬ (1 : Int32) = 0 → B) := ⟨fun q => absurd q (by decide), fun _ => h⟩
theorem bF {A B : Prop} (h : A) : ((0 : Int32) = 0 → A) ∧ (¬ (0 : Int32) = 0 → B) := ⟨fun _ => h, fun q => absurd rfl q⟩
theorem cT {A B : Prop} (h : A) : (¬ (1 : Int32) = 0 → A) ∧ ((1 : Int32) = 0 → B) := ⟨fun _ => h, fun q => absurd q (by decide)⟩
theorem cF {A B : Prop} (h : B) : (¬ (0 : Int32) = 0 → A) ∧ ((0 : Int32) = 0 → B) := ⟨fun q => absurd rfl q, fun _ => h⟩
theorem br {c A B : Prop} (a : c → A) (b : ¬ c → B) : (c → A) ∧ (¬ c → B) := ⟨a, b⟩
theorem nr {c A B : Prop} (a : ¬ c → A) (b : c → B) : (¬ c → A) ∧ (c → B) := ⟨a, b⟩
theorem bt_ {c A B : Prop} (h : c) (a : A) : (c → A) ∧ (¬ c → B) := ⟨fun _ => a, fun q => absurd h q⟩
theorem bf_ {c A B : Prop} (h : ¬ c) (b : B) : (c → A) ∧ (¬ c → B) := ⟨fun q => absurd q h, fun _ => b⟩
theorem nt_ {c A B : Prop} (h : ¬ c) (a : A) : (¬ c → A) ∧ (c → B) := ⟨fun _ => a, fun q => absurd q h⟩
theorem nf_ {c A B : Prop} (h : c) (b : B) : (¬ c → A) ∧ (c → B) := ⟨fun q => absurd h q, fun _ => b⟩
/-- compares of numbers -/
theorem iLt {x y : Int32} {A B : Prop} {a b : Nat} (hx : x = nI a) (hy : y = nI b) (ha : a < 2 ^ 31) (hb : b < 2 ^ 31) (f : a < b → A) (g : b ≤ a → B) : (x < y → A) ∧ (¬ x < y → B) := by
  subst hx; subst hy
  rw [nI_ltI ha hb]
  exact ⟨f, fun h => g (Nat.le_of_not_lt h)⟩
theorem iGe {x y : Int32} {A B : Prop} {a b : Nat} (hx : x = nI a) (hy : y = nI b) (ha : a < 2 ^ 31) (hb : b < 2 ^ 31) (f : b ≤ a → A) (g : a < b → B) : (¬ x < y → A) ∧ (x < y → B) := by
  subst hx; subst hy
  rw [nI_ltI ha hb]
  exact ⟨fun h => f (Nat.le_of_not_lt h), g⟩
theorem iEq {x y : Int32} {A B : Prop} {a b : Nat} (hx : x = nI a) (hy : y = nI b) (ha : a < 2 ^ 31) (hb : b < 2 ^ 31) (f : a = b → A) (g : a ≠ b → B) : (x = y → A) ∧ (¬ x = y → B) := by
  subst hx; subst hy
  rw [nI_eq ha hb]
  exact ⟨f, g⟩
theorem iNe {x y : Int32} {A B : Prop} {a b : Nat} (hx : x = nI a) (hy : y = nI b) (ha : a < 2 ^ 31) (hb : b < 2 ^ 31) (f : a ≠ b → A) (g : a = b → B) : (¬ x = y → A) ∧ (x = y → B) := by
  subst hx; subst hy
  rw [nI_eq ha hb]
  exact ⟨f, g⟩
/-- loops: from the last to the first -/
theorem zloop {P : Nat → Prop} (e : Nat) (hx : P e) (hs : ∀ i, i < e → P (i + 1) → P i) : ∀ i, i ≤ e → P i := by
  intro i hi
  have h : ∀ d i, i + d = e → P i := by
    intro d
    induction d with
    | zero => intro i hi; have : i = e := by omega
              subst this; exact hx
    | succ d ih => intro i hi; exact hs i (by omega) (ih (i + 1) (by omega))
  exact h (e - i) i (by omega)
def zit {α : Type} (f : Nat → α → α) : Nat → α → α
  | 0, a => a
  | n + 1, a => f n (zit f n a)
theorem zit_s {α : Type} (f : Nat → α → α) (n : Nat) (a : α) : zit f (n + 1) a = f n (zit f n a) := rfl
/-- worlds -/
theorem zset_s (M : zM) (k : Nat) (g : Nat → Int32) : zset M k g k = g := by unfold zset; rw [if_pos rfl]
theorem zset_n (M : zM) {k a : Nat} (g : Nat → Int32) (h : a ≠ k) : zset M k g a = M a := by unfold zset; rw [if_neg h]
theorem zu_s (M : zM) (k j : Nat) (x : Int32) : zu M k j x k = upd (M k) j x := zset_s M k _
theorem zu_n (M : zM) {k a : Nat} (j : Nat) (x : Int32) (h : a ≠ k) : zu M k j x a = M a := zset_n M _ h
theorem zu_at (M : zM) (k j : Nat) (x : Int32) : zu M k j x k j = x := by rw [zu_s, pk_us]
theorem zu_ne (M : zM) {k j i : Nat} (x : Int32) (h : i ≠ j) : zu M k j x k i = M k i := by rw [zu_s, pk_un h]
theorem zset_u (M : zM) (k : Nat) (g h : Nat → Int32) : zset (zset M k g) k h = zset M k h := by
  funext a; unfold zset; by_cases q : a = k
  · rw [if_pos q, if_pos q]
  · rw [if_neg q, if_neg q, if_neg q]
/-- an argument is a number below n, or not -/
theorem znum (a : Int32) {n : Nat} (hn : n < 2 ^ 31) : (∃ j, j < n ∧ a = nI j) ∨ (a < 0 ∨ ¬ a < nI n) := by
  rcases pk_ix a hn with h | h | ⟨j, hj, h⟩
  · exact Or.inr (Or.inl h)
  · exact Or.inr (Or.inr (Int32.not_lt.mpr h))
  · exact Or.inl ⟨j, hj, h⟩
theorem znum_no {a : Int32} {n j : Nat} (hn : n < 2 ^ 31) (h : a < 0 ∨ ¬ a < nI n) (hj : j < n) (e : a = nI j) : False := by
  subst e
  rcases h with h | h
  · exact nI_pos (by omega) h
  · exact h (nI_lt hj hn)
theorem zneg {a : Int32} {j : Nat} (hj : j < 2 ^ 31) (h : nI j < 0) : False := nI_pos hj h
def zout (a : Int32) (n : Nat) : Prop := ∀ j, j < n → a ≠ nI j
theorem zout_of {a : Int32} {n : Nat} (hn : n < 2 ^ 31) (h : a < 0 ∨ ¬ a < nI n) : zout a n := fun _ hj e => znum_no hn h hj e
/-- two-sided test 0 <= a < n, as two branches -/
theorem iIn {a : Int32} {n : Nat} (hn : n < 2 ^ 31) {A B : Prop} (hi : ∀ j, j < n → a = nI j → A) (ho : zout a n → B) : (a < 0 → B) ∧ (¬ a < 0 → (¬ a < nI n → B) ∧ (a < nI n → A)) := by
  refine ⟨fun h => ho (zout_of hn (Or.inl h)), fun h => ⟨fun h2 => ho (zout_of hn (Or.inr h2)), fun h2 => ?_⟩⟩
  rcases znum a hn with ⟨j, hj, e⟩ | h3
  · exact hi j hj e
  · rcases h3 with h3 | h3
    · exact absurd h3 h
    · exact absurd h2 h3
