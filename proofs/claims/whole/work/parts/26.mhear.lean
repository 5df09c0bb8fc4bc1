/-! the model: pay, feuds, log, hear -/
theorem k_X11_pay {Q : Option Value → zM → Prop} {M : zM} {x : Int32} {p q : Nat} (hx : x = nI p) (hq : M 56 25 = nI q) (hp : p < 2 ^ 30) (hq2 : q < 2 ^ 30) (h : Q none (zu M 56 25 (nI (min 999999 (q + p))))) : zCon fX11_pay [.ref 47, .int x] M Q := by
  refine zc_of zkX11_pay [] 60 (Nat.le_of_ble_eq_true rfl) (zix 25 rfl (by decide) ?_)
  refine iGe (a_add hq hx) n_999999 (by omega) (by decide) (fun c => zix 25 rfl (by decide) ?_) (fun c => zix 25 rfl (by decide) (zix 25 rfl (by decide) ?_))
  · rw [Nat.min_eq_left c] at h
    exact h
  · rw [a_add hq hx]
    rw [Nat.min_eq_right (by omega)] at h
    exact h
theorem k_X11_setFeud {Q : Option Value → zM → Prop} {M : zM} {x y : Int32} {a c s t : Nat} {b : Bool} (hx : x = nI a) (hy : y = nI c) (ha : a < 7) (hc : c < 7) (hac : a ≠ c) (hs : M 56 (18 + a) = nI s) (ht : M 56 (18 + c) = nI t) (h : Q none (zset M 56 (fput (M 56) 18 a c (nI (bif b then s ||| 2 ^ c else clr s c)) (nI (bif b then t ||| 2 ^ a else clr t a))))) : zCon fX11_setFeud [.ref 47, .int x, .int y, .int (zbl b)] M Q := by
  have e2 : ∀ v, zu M 56 (18 + a) v 56 (18 + c) = nI t := fun v => by rw [zu_ne _ _ (by omega)]; exact ht
  have e3 : ∀ v w, zu (zu M 56 (18 + a) v) 56 (18 + c) w = zset M 56 (fput (M 56) 18 a c v w) := fun v w => by
    unfold zu fput; rw [zset_s, zset_u]
  cases b with
  | true =>
    refine zc_of zkX11_setFeud [] 90 (Nat.le_of_ble_eq_true rfl) (bT (zix (18 + a) (a_add rfl hx) (show 18 + a < 88 by omega) (zix (18 + a) (a_add rfl hx) (show 18 + a < 88 by omega) (bT (zix (18 + c) (a_add rfl hy) (show 18 + c < 88 by omega) (zix (18 + c) (a_add rfl hy) (show 18 + c < 88 by omega) ?_))))))
    rw [a_set hs hy (by omega), a_set (e2 _) hx (by omega), e3]
    exact h
  | false =>
    refine zc_of zkX11_setFeud [] 90 (Nat.le_of_ble_eq_true rfl) (bF (zix (18 + a) (a_add rfl hx) (show 18 + a < 88 by omega) (zix (18 + a) (a_add rfl hx) (show 18 + a < 88 by omega) (bF (zix (18 + c) (a_add rfl hy) (show 18 + c < 88 by omega) (zix (18 + c) (a_add rfl hy) (show 18 + c < 88 by omega) ?_))))))
    rw [a_clr hs hy (by omega), a_clr (e2 _) hx (by omega), e3]
    exact h
def shf (g : Nat → Int32) (m : Nat) : Nat → Int32 := fun j => if (28 ≤ j ∧ j < 28 + m) ∨ (48 ≤ j ∧ j < 48 + m) ∨ (68 ≤ j ∧ j < 68 + m) then g (j + 1) else g j
theorem shf_in {g : Nat → Int32} {m j : Nat} (h : (28 ≤ j ∧ j < 28 + m) ∨ (48 ≤ j ∧ j < 48 + m) ∨ (68 ≤ j ∧ j < 68 + m)) : shf g m j = g (j + 1) := by unfold shf; rw [if_pos h]
theorem shf_out {g : Nat → Int32} {m j : Nat} (h : ¬ ((28 ≤ j ∧ j < 28 + m) ∨ (48 ≤ j ∧ j < 48 + m) ∨ (68 ≤ j ∧ j < 68 + m))) : shf g m j = g j := by unfold shf; rw [if_neg h]
theorem shf_s (g : Nat → Int32) {m : Nat} (hm : m < 19) : upd (upd (upd (shf g m) (28 + m) (g (28 + m + 1))) (48 + m) (g (48 + m + 1))) (68 + m) (g (68 + m + 1)) = shf g (m + 1) := by
  funext j
  by_cases c1 : j = 68 + m
  · subst c1; rw [pk_us, shf_in (by omega)]
  · rw [pk_un c1]
    by_cases c2 : j = 48 + m
    · subst c2; rw [pk_us, shf_in (by omega)]
    · rw [pk_un c2]
      by_cases c3 : j = 28 + m
      · subst c3; rw [pk_us, shf_in (by omega)]
      · rw [pk_un c3]
        by_cases c : (28 ≤ j ∧ j < 28 + m) ∨ (48 ≤ j ∧ j < 48 + m) ∨ (68 ≤ j ∧ j < 68 + m)
        · rw [shf_in c, shf_in (by omega)]
        · rw [shf_out c, shf_out (by omega)]
theorem shf_0 (g : Nat → Int32) : shf g 0 = g := by funext j; rw [shf_out (by omega)]
theorem zset_id (M : zM) (k : Nat) : zset M k (M k) = M := by
  funext a; unfold zset; by_cases q : a = k
  · rw [if_pos q, q]
  · rw [if_neg q]
theorem k_X11_log {Q : Option Value → zM → Prop} {M : zM} {f t s h : Int32} {n : Nat} (hn : M 56 27 = nI n) (hn2 : n ≤ 20)
    (hq : ∀ g, (∀ j, j < 27 → g j = M 56 j) → g 27 = nI (min 20 (n + 1)) → g (28 + (min 20 (n + 1) - 1)) = 10 * f + t → g (48 + (min 20 (n + 1) - 1)) = s → g (68 + (min 20 (n + 1) - 1)) = h → (∀ c, (c = 28 ∨ c = 48 ∨ c = 68) → ∀ e, 1 ≤ e → e < min 20 (n + 1) → g (c + (min 20 (n + 1) - 1 - e)) = M 56 (c + (n - e))) → Q none (zset M 56 g)) : zCon fX11_log [.ref 47, .int f, .int t, .int s, .int h] M Q := by
  have J : ∀ E0 m, (∀ q ∈ [((0 : Nat), Value.ref 47), (1, .int f), (2, .int t), (3, .int s), (4, .int h)], q ∈ E0) → ∀ g1 : Nat → Int32, g1 27 = nI m → m < 20 → (∀ g, (∀ j, j ≠ 27 → j ≠ 28 + m → j ≠ 48 + m → j ≠ 68 + m → g j = g1 j) → g 27 = nI (m + 1) → g (28 + m) = 10 * f + t → g (48 + m) = s → g (68 + m) = h → Q none (zset M 56 g)) → zEv fX11_log Q 105 E0 [] (zset M 56 g1) := by
    intro E0 m hE g1 hm hm2 hk
    refine zev_sub hE (zev_go zkX11_log [] 60 ?_)
    refine zix 27 rfl (by decide) (zix (28 + m) (a_add rfl (by rw [zset_s]; exact hm)) (show 28 + m < 88 by omega) ?_)
    refine zix 27 rfl (by decide) (zix (48 + m) (a_add rfl (by rw [zu_ne _ _ (by omega), zset_s]; exact hm)) (show 48 + m < 88 by omega) ?_)
    refine zix 27 rfl (by decide) (zix (68 + m) (a_add rfl (by rw [zu_ne _ _ (by omega), zu_ne _ _ (by omega), zset_s]; exact hm)) (show 68 + m < 88 by omega) ?_)
    refine zix 27 rfl (by decide) (zix 27 rfl (by decide) ?_)
    have e27 : zu (zu (zu (zset M 56 g1) 56 (28 + m) (10 * f + t)) 56 (48 + m) s) 56 (68 + m) h 56 27 = nI m := by
      rw [zu_ne _ _ (by omega), zu_ne _ _ (by omega), zu_ne _ _ (by omega), zset_s]; exact hm
    rw [a_add e27 n_1]
    have eu : ∀ v, zu (zu (zu (zu (zset M 56 g1) 56 (28 + m) (10 * f + t)) 56 (48 + m) s) 56 (68 + m) h) 56 27 v = zset M 56 (upd (upd (upd (upd g1 (28 + m) (10 * f + t)) (48 + m) s) (68 + m) h) 27 v) := by
      intro v; unfold zu; simp only [zset_s, zset_u]
    rw [eu]
    refine hk _ ?_ ?_ ?_ ?_ ?_
    · intro j h1 h2 h3 h4
      rw [pk_un h1, pk_un h4, pk_un h3, pk_un h2]
    · rw [pk_us]
    · rw [pk_un (by omega), pk_un (by omega), pk_un (by omega), pk_us]
    · rw [pk_un (by omega), pk_un (by omega), pk_us]
    · rw [pk_un (by omega), pk_us]
  refine zc_of zkX11_log [15, 105] 60 (Nat.le_of_ble_eq_true rfl) (zix 27 rfl (by decide) ?_)
  refine iNe hn n_20 (by omega) (by decide) (fun c => ?_) (fun c => ?_)
  · rw [← zset_id M 56]
    refine J _ n (fun _ h => h) (M 56) hn (by omega) (fun g k1 k2 k3 k4 k5 => ?_)
    rw [show min 20 (n + 1) = n + 1 by omega] at hq
    refine hq g (fun j hj => k1 j (by omega) (by omega) (by omega) (by omega)) k2 k3 k4 k5 ?_
    intro c hc e h1 h2
    rw [k1 _ (by omega) (by omega) (by omega) (by omega)]
    congr 1
  · subst c
    have L : ∀ m, m ≤ 19 → ∀ x, x = nI (m + 1) → zEv fX11_log Q 15 [(0, .ref 47), (1, .int f), (2, .int t), (3, .int s), (4, .int h), (5, .int x)] [] (zset M 56 (shf (M 56) m)) := by
      refine zloop 19 ?_ ?_
      · intro x hx
        refine zev_go zkX11_log [15, 105] 60 (iGe hx n_20 (by omega) (by decide) (fun _ => ?_) (fun q => absurd q (by omega)))
        refine zix 27 rfl (by decide) (zix 27 rfl (by decide) ?_)
        rw [zset_s, shf_out (by omega), a_sub hn n_1 (by omega)]
        have e : zu (zset M 56 (shf (M 56) 19)) 56 27 (nI (20 - 1)) = zset M 56 (upd (shf (M 56) 19) 27 (nI 19)) := by unfold zu; rw [zset_s, zset_u]
        rw [e]
        refine J _ 19 ?_ _ (by rw [pk_us]) (by omega) (fun g k1 k2 k3 k4 k5 => ?_)
        · intro q hq
          simp only [List.mem_cons, List.not_mem_nil, or_false] at hq
          rcases hq with rfl | rfl | rfl | rfl | rfl <;> simp
        · refine hq g (fun j hj => ?_) k2 k3 k4 k5 ?_
          · rw [k1 j (by omega) (by omega) (by omega) (by omega), pk_un (by omega), shf_out (by omega)]
          · intro c hc e h1 h2
            have h2' : e < 20 := h2
            have q1 : c + (min 20 (20 + 1) - 1 - e) = c + (19 - e) := rfl
            rw [q1, k1 _ (by omega) (by omega) (by omega) (by omega), pk_un (by omega), shf_in (by omega)]
            congr 1
            omega
      · intro m hm ih x hx
        refine zev_go zkX11_log [15, 105] 60 (iGe hx n_20 (by omega) (by decide) (fun q => absurd q (by omega)) (fun _ => ?_))
        have ix : ∀ c, nI c + x - 1 = nI (c + m) := fun c => by rw [a_sub (a_add rfl hx) n_1 (by omega)]; congr 1
        refine zix (28 + (m + 1)) (a_add rfl hx) (show 28 + (m + 1) < 88 by omega) (zix (28 + m) (ix 28) (show 28 + m < 88 by omega) ?_)
        refine zix (48 + (m + 1)) (a_add rfl hx) (show 48 + (m + 1) < 88 by omega) (zix (48 + m) (ix 48) (show 48 + m < 88 by omega) ?_)
        refine zix (68 + (m + 1)) (a_add rfl hx) (show 68 + (m + 1) < 88 by omega) (zix (68 + m) (ix 68) (show 68 + m < 88 by omega) ?_)
        have r1 : (zset M 56 (shf (M 56) m)) 56 (28 + (m + 1)) = M 56 (28 + m + 1) := by rw [zset_s, shf_out (by omega)]; rfl
        have r2 : ∀ v, zu (zset M 56 (shf (M 56) m)) 56 (28 + m) v 56 (48 + (m + 1)) = M 56 (48 + m + 1) := fun v => by rw [zu_ne _ _ (by omega), zset_s, shf_out (by omega)]; rfl
        have r3 : ∀ v w, zu (zu (zset M 56 (shf (M 56) m)) 56 (28 + m) v) 56 (48 + m) w 56 (68 + (m + 1)) = M 56 (68 + m + 1) := fun v w => by rw [zu_ne _ _ (by omega), zu_ne _ _ (by omega), zset_s, shf_out (by omega)]; rfl
        rw [r1, r2, r3]
        have eu : zu (zu (zu (zset M 56 (shf (M 56) m)) 56 (28 + m) (M 56 (28 + m + 1))) 56 (48 + m) (M 56 (48 + m + 1))) 56 (68 + m) (M 56 (68 + m + 1)) = zset M 56 (shf (M 56) (m + 1)) := by
          rw [← shf_s (M 56) hm]; unfold zu; simp only [zset_s, zset_u]
        rw [eu]
        exact ih _ (by rw [hx, nI_1])
    have L0 := L 0 (by omega) 1 rfl
    rw [shf_0, zset_id] at L0
    exact L0
theorem mA_hear {T : zTn} {a : zAf} {f t s h : Nat} {g g0 g1 : Nat → Int32} (ha : mA T a g0) (hva : vA T a) (hv : zTv T) (hf : f < tS T) (ht : t < tS T)
    (e1 : ∀ j, (11 ≤ j ∧ j < 18) → g1 j = if j = 11 + t then nI h else g0 j) (e2 : ∀ x, x < 7 → g1 (18 + x) = nI (aFeud T a f t h x)) (e3 : g1 26 = nI (aHus T a f t h)) (e4 : g1 25 = g0 25) (e5 : ∀ j, j < 11 → g1 j = g0 j) (e6 : ∀ j, 28 ≤ j → g1 j = g0 j)
    (k1 : ∀ j, j < 27 → g j = g1 j) (k2 : g 27 = nI (min 20 (aL a + 1))) (k3 : g (28 + (min 20 (aL a + 1) - 1)) = nI (10 * f + t)) (k4 : g (48 + (min 20 (aL a + 1) - 1)) = nI s) (k5 : g (68 + (min 20 (aL a + 1) - 1)) = nI h)
    (k6 : ∀ c, (c = 28 ∨ c = 48 ∨ c = 68) → ∀ e, 1 ≤ e → e < min 20 (aL a + 1) → g (c + (min 20 (aL a + 1) - 1 - e)) = g1 (c + (aL a - e))) : mA T (aHear T a f t s h) g := by
  have hS := zTv_S hv
  have hC := zTv_C hv
  obtain ⟨a1, a2, a3, a4, a5, a6, a7, a8⟩ := ha
  have hL := hva.2.2.2.1
  refine ⟨?_, ?_, ?_, k2, ?_, ?_, ?_, ?_⟩
  · rw [k1 25 (by omega), e4]; exact a1
  · rw [k1 26 (by omega), e3]; rfl
  · rw [k1 10 (by omega), e5 10 (by omega)]; exact a3
  · intro x hx
    rw [k1 _ (by omega), e1 _ (by omega)]
    show _ = nI (if x = t then h else aHe a x)
    by_cases q : x = t
    · rw [if_pos q, if_pos (by omega)]
    · rw [if_neg q, if_neg (by omega)]; exact a5 x hx
  · intro x hx
    rw [k1 _ (by omega), e2 x hx]; rfl
  · intro i hi
    rw [k1 _ (by omega), e5 _ (by omega)]; exact a7 i hi
  · intro e he
    have he' : e < min 20 (aL a + 1) := he
    have eL : aL (aHear T a f t s h) = min 20 (aL a + 1) := rfl
    rw [eL]
    cases e with
    | zero => exact ⟨k3, k4, k5⟩
    | succ e =>
      obtain ⟨o1, o2, o3⟩ := a8 e (by omega)
      rw [k6 28 (by omega) _ (by omega) he', k6 48 (by omega) _ (by omega) he', k6 68 (by omega) _ (by omega) he', e6 _ (by omega), e6 _ (by omega), e6 _ (by omega)]
      rw [show aL a - (e + 1) = aL a - 1 - e by omega]
      exact ⟨o1, o2, o3⟩
