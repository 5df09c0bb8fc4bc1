/-! fares between all streets -/
abbrev mX2 : Type := Nat → Nat → Nat
def fwS (D : mX2) (m : Nat) : mX2 := fun a b => min (D a b) (D a m + D m b)
theorem fwS_e (D : mX2) (m a b : Nat) : fwS D m a b = min (D a b) (D a m + D m b) := rfl
def fwN (D : mX2) : Nat → mX2
  | 0 => D
  | m + 1 => fwS (fwN D m) m
theorem fwN_s (D : mX2) (m : Nat) : fwN D (m + 1) = fwS (fwN D m) m := rfl
theorem fw_le (D : mX2) (a b : Nat) : ∀ m, fwN D m a b ≤ D a b
  | 0 => Nat.le_refl _
  | m + 1 => by have := fw_le D a b m; rw [fwN_s, fwS_e]; omega
theorem fw_z {D : mX2} (hD : ∀ a, D a a = 0) (a m : Nat) : fwN D m a a = 0 := by have := fw_le D a a m; have := hD a; omega
theorem fw_tri {D : mX2} (hD : ∀ a, D a a = 0) : ∀ m k, k < m → ∀ a b, fwN D m a b ≤ fwN D m a k + fwN D m k b := by
  intro m
  induction m with
  | zero => intro k h; exact absurd h (by omega)
  | succ m ih =>
    intro k hk a b
    have z := fw_z hD m m
    rw [fwN_s, fwS_e, fwS_e, fwS_e]
    by_cases q : k = m
    · subst q; omega
    · have h1 := ih k (by omega) a b
      have h2 := ih k (by omega) a m
      have h3 := ih k (by omega) m b
      omega
theorem fw_min {D c : mX2} {N : Nat} (hc : ∀ k, k < N → ∀ a b, c a b ≤ c a k + c k b) (h0 : ∀ a b, c a b ≤ D a b) : ∀ m, m ≤ N → ∀ a b, c a b ≤ fwN D m a b := by
  intro m
  induction m with
  | zero => intro _; exact h0
  | succ m ih =>
    intro hm a b
    have h1 := ih (by omega) a b
    have h2 := ih (by omega) a m
    have h3 := ih (by omega) m b
    have h4 := hc m (by omega) a b
    rw [fwN_s, fwS_e]
    omega
def wz (D : mX2) (x y : Nat) : mX2 := fun a b => if (a = x ∧ b = y) ∨ (a = y ∧ b = x) then 0 else D a b
theorem wz_le (D : mX2) (x y a b : Nat) : wz D x y a b ≤ D a b := by unfold wz; split <;> omega
theorem wz_z {D : mX2} (hD : ∀ a, D a a = 0) (x y a : Nat) : wz D x y a a = 0 := by have := wz_le D x y a a; have := hD a; omega
def byN (d : mX2) (x y : Nat) : mX2 := fun a b => min (d a b) (min (d a x + d y b) (d a y + d x b))
theorem byN_e (d : mX2) (x y a b : Nat) : byN d x y a b = min (d a b) (min (d a x + d y b) (d a y + d x b)) := rfl
theorem fw_new {D : mX2} {N x y : Nat} (hD : ∀ a, D a a = 0) (hx : x < N) (hy : y < N) (a b : Nat) : byN (fwN D N) x y a b = fwN (wz D x y) N a b := by
  have t1 := fw_tri hD N
  have t2 := fw_tri (wz_z hD x y) N
  apply Nat.le_antisymm
  · refine fw_min (N := N) (c := byN (fwN D N) x y) ?_ ?_ N (Nat.le_refl _) a b
    · intro k hk a b
      rw [byN_e, byN_e, byN_e]
      have a1 := t1 k hk a b
      have a2 := t1 k hk a x
      have a3 := t1 k hk a y
      have a4 := t1 k hk x b
      have a5 := t1 k hk y b
      have a6 := t1 x hx a b
      have a7 := t1 y hy a b
      have a8 := t1 k hk x x
      have a9 := t1 k hk y y
      omega
    · intro a b
      have l := fw_le D a b N
      have zx := fw_z hD x N
      have zy := fw_z hD y N
      rw [byN_e]
      unfold wz
      split
      · next q => rcases q with ⟨q1, q2⟩ | ⟨q1, q2⟩ <;> subst q1 <;> subst q2 <;> omega
      · omega
  · have L : ∀ a b, fwN (wz D x y) N a b ≤ fwN D N a b := fun a b => fw_min (N := N) (c := fwN (wz D x y) N) t2 (fun a b => Nat.le_trans (fw_le _ a b N) (wz_le D x y a b)) N (Nat.le_refl _) a b
    have e1 : fwN (wz D x y) N x y = 0 := by
      have := fw_le (wz D x y) x y N
      have : wz D x y x y = 0 := if_pos (Or.inl ⟨rfl, rfl⟩)
      omega
    have e2 : fwN (wz D x y) N y x = 0 := by
      have := fw_le (wz D x y) y x N
      have : wz D x y y x = 0 := if_pos (Or.inr ⟨rfl, rfl⟩)
      omega
    rw [byN_e]
    have a1 := t2 x hx a b
    have a2 := t2 y hy x b
    have a3 := t2 y hy a b
    have a4 := t2 x hx y b
    have l1 := L a b
    have l2 := L a x
    have l3 := L y b
    have l4 := L a y
    have l5 := L x b
    omega
def fR (B x y : Nat) : Prop := (x = y ∧ x ≤ B) ∨ (x = 100000000 ∧ y = 1000000)
theorem fR_step {B x y u v u' v' : Nat} (hB : B ≤ 100000) (h : fR B x y) (g : fR B u u') (g' : fR B v v') : fR (2 * B) (min x (u + v)) (min y (u' + v')) := by
  unfold fR at h g g' ⊢
  omega
theorem fw_rel {D E : mX2} (h : ∀ a b, fR 99 (D a b) (E a b)) : ∀ m, m ≤ 9 → ∀ a b, fR (99 * 2 ^ m) (fwN D m a b) (fwN E m a b) := by
  intro m
  induction m with
  | zero => intro _ a b; exact h a b
  | succ m ih =>
    intro hm a b
    have q : (2 : Nat) ^ m ≤ 2 ^ 8 := Nat.pow_le_pow_right (by omega) (by omega)
    rw [fwN_s, fwN_s, fwS_e, fwS_e, Nat.pow_succ, show 99 * (2 ^ m * 2) = 2 * (99 * 2 ^ m) by omega]
    exact fR_step (by omega) (ih (by omega) a b) (ih (by omega) a m) (ih (by omega) m b)
/-- the fares of the open corners -/
def wm (F : Nat) (T : zTn) (s : Nat) : Nat → mX2
  | 0 => fun a b => if a = b then 0 else F
  | n + 1 => fun a b => if s.testBit n = true then wm F T s n a b else if a = tB T n ∧ b = tA T n then tP T n else if a = tA T n ∧ b = tB T n then tP T n else wm F T s n a b
theorem wm_s (F : Nat) (T : zTn) (s n a b : Nat) : wm F T s (n + 1) a b = if s.testBit n = true then wm F T s n a b else if a = tB T n ∧ b = tA T n then tP T n else if a = tA T n ∧ b = tB T n then tP T n else wm F T s n a b := rfl
theorem wm_z {F : Nat} {T : zTn} {s : Nat} (hv : zTv T) (a : Nat) : ∀ n, n ≤ tC T → wm F T s n a a = 0
  | 0, _ => if_pos rfl
  | n + 1, h => by
    have ih := wm_z (F := F) (s := s) hv a n (by omega)
    have := (zTv_i hv (i := n) (by omega)).2.2.1
    rw [wm_s, if_neg (show ¬ (a = tB T n ∧ a = tA T n) by omega), if_neg (show ¬ (a = tA T n ∧ a = tB T n) by omega)]
    split <;> exact ih
theorem wm_rel {T : zTn} {s : Nat} (hv : zTv T) (a b : Nat) : ∀ n, n ≤ tC T → fR 99 (wm 100000000 T s n a b) (wm 1000000 T s n a b)
  | 0, _ => by
    show fR 99 (if a = b then 0 else 100000000) (if a = b then 0 else 1000000)
    unfold fR
    split <;> omega
  | n + 1, h => by
    have ih := wm_rel (s := s) hv a b n (by omega)
    have := (zTv_i hv (i := n) (by omega)).2.2.2.2.2
    rw [wm_s, wm_s]
    split
    · exact ih
    · split
      · unfold fR; omega
      · split
        · unfold fR; omega
        · exact ih
theorem fw_sr {E : mX2} (h : ∀ a b, fR 99 (E a b) (E a b) ∨ E a b = 1000000) : ∀ m, m ≤ 9 → ∀ a b, fwN E m a b ≤ 99 * 2 ^ m ∨ fwN E m a b = 1000000 := by
  have K := fw_rel (D := fun a b => if E a b = 1000000 then 100000000 else E a b) (E := E) (fun a b => by
    have := h a b
    unfold fR at this ⊢
    split <;> omega)
  intro m hm a b
  have := K m hm a b
  unfold fR at this
  omega
def wW (T : zTn) (s : Nat) : mX2 := wm 1000000 T s (tC T)
def feM (T : zTn) (s x y : Nat) : mX2 := fwN (wz (wW T s) x y) (tS T)
def capV (n : Nat) : Nat := if n < 1000000 then n else 100
theorem feM_b {T : zTn} {s : Nat} (hv : zTv T) (x y a b : Nat) : feM T s x y a b ≤ 12672 ∨ feM T s x y a b = 1000000 := by
  have hS := zTv_S hv
  have q : (2 : Nat) ^ tS T ≤ 2 ^ 7 := Nat.pow_le_pow_right (by omega) hS
  have := fw_sr (E := wz (wW T s) x y) (fun a b => by
    have r := wm_rel (s := s) hv a b (tC T) (Nat.le_refl _)
    unfold fR at r ⊢
    unfold wz wW
    split <;> omega) (tS T) (by omega) a b
  unfold feM
  omega
theorem capV_b {T : zTn} {s : Nat} (hv : zTv T) (x y a b : Nat) : capV (feM T s x y a b) ≤ 12672 := by
  have := feM_b (s := s) hv x y a b
  unfold capV
  split <;> omega
/-- what the class adds is the same -/
theorem cap_eq {T : zTn} {s x y a b : Nat} (hv : zTv T) (hx : x < tS T) (hy : y < tS T) : (if byN (fwN (wm 100000000 T s (tC T)) (tS T)) x y a b < 100000000 then byN (fwN (wm 100000000 T s (tC T)) (tS T)) x y a b else 100) = capV (feM T s x y a b) ∧ (∀ a b, fwN (wm 100000000 T s (tC T)) (tS T) a b ≤ 100000000) := by
  have hS := zTv_S hv
  have q : (2 : Nat) ^ tS T ≤ 2 ^ 7 := Nat.pow_le_pow_right (by omega) hS
  have R := fw_rel (fun a b => wm_rel (s := s) hv a b (tC T) (Nat.le_refl _)) (tS T) (by omega)
  refine ⟨?_, fun a b => by have := R a b; unfold fR at this; omega⟩
  have e : feM T s x y a b = byN (fwN (wm 1000000 T s (tC T)) (tS T)) x y a b := (fw_new (fun a => wm_z hv a (tC T) (Nat.le_refl _)) hx hy a b).symm
  rw [e, byN_e, byN_e]
  have r1 := R a b
  have r2 := R a x
  have r3 := R y b
  have r4 := R a y
  have r5 := R x b
  unfold fR at r1 r2 r3 r4 r5
  unfold capV
  split <;> split <;> omega
def fsm (f : Nat → Nat) : Nat → Nat
  | 0 => 0
  | n + 1 => fsm f n + f n
theorem fsm_s (f : Nat → Nat) (n : Nat) : fsm f (n + 1) = fsm f n + f n := rfl
theorem fsm_b {f : Nat → Nat} {B : Nat} (h : ∀ i, f i ≤ B) : ∀ n, fsm f n ≤ n * B
  | 0 => by show 0 ≤ 0 * B; omega
  | n + 1 => by have := fsm_b h n; have := h n; rw [fsm_s, Nat.succ_mul]; omega
def tot (T : zTn) (s x y : Nat) : Nat := fsm (fun a => fsm (fun b => capV (feM T s x y a b)) (tS T)) (tS T)
theorem tot_b {T : zTn} {s : Nat} (hv : zTv T) (x y : Nat) : (∀ a n, n ≤ 7 → fsm (fun b => capV (feM T s x y a b)) n ≤ 88704) ∧ ∀ n, n ≤ 7 → fsm (fun a => fsm (fun b => capV (feM T s x y a b)) (tS T)) n ≤ 620928 := by
  have hS := zTv_S hv
  have h1 : ∀ a n, n ≤ 7 → fsm (fun b => capV (feM T s x y a b)) n ≤ 88704 := fun a n hn => Nat.le_trans (fsm_b (B := 12672) (fun b => capV_b hv x y a b) n) (by omega)
  exact ⟨h1, fun n hn => Nat.le_trans (fsm_b (B := 88704) (fun a => h1 a _ hS) n) (by omega)⟩
def jn (T : zTn) (a b : Nat) : Nat → Bool
  | 0 => false
  | n + 1 => jn T a b n || decide (tA T n = a ∧ tB T n = b ∨ tA T n = b ∧ tB T n = a)
theorem jn_s (T : zTn) (a b n : Nat) : jn T a b (n + 1) = (jn T a b n || decide (tA T n = a ∧ tB T n = b ∨ tA T n = b ∧ tB T n = a)) := rfl
def mst (T : zTn) (s : Nat) (st : Option (Nat × Nat)) (a b : Nat) : Option (Nat × Nat) := if jn T a b (tC T) = true then st else match st with
  | none => some (10 * a + b, tot T s a b)
  | some (p, t) => if tot T s a b < t then some (10 * a + b, tot T s a b) else some (p, t)
def mi (T : zTn) (s : Nat) (st : Option (Nat × Nat)) (a : Nat) : Nat → Option (Nat × Nat)
  | 0 => st
  | n + 1 => mst T s (mi T s st a n) a (a + 1 + n)
theorem mi_s (T : zTn) (s : Nat) (st : Option (Nat × Nat)) (a n : Nat) : mi T s st a (n + 1) = mst T s (mi T s st a n) a (a + 1 + n) := rfl
def mo (T : zTn) (s : Nat) : Nat → Option (Nat × Nat)
  | 0 => none
  | a + 1 => mi T s (mo T s a) a (tS T - 1 - a)
theorem mo_s (T : zTn) (s a : Nat) : mo T s (a + 1) = mi T s (mo T s a) a (tS T - 1 - a) := rfl
def o_more (G : zG) (w : Int32) : Int32 := match ix w 2 with
  | none => cOUT
  | some m => if tN (gT G) = 0 then cNOT else match mo (gT G) (aS (gA G)) (tS (gT G)) with
    | none => -1
    | some (p, t) => if m = 0 then nI p else nI t
