/-! what is heard: feuds, husbands, the log -/
def fS (fe : Nat → Nat) (x y : Nat) (b : Bool) : Nat → Nat := fun z => if z = y then (bif b then fe y ||| 2 ^ x else clr (fe y) x) else if z = x then (bif b then fe x ||| 2 ^ y else clr (fe x) y) else fe z
def sft (g : Nat → Nat) (v : Nat) : Nat → Nat := fun e => if e = 0 then v else g (e - 1)
def aFeud (T : zTn) (a : zAf) (f t h : Nat) : Nat → Nat := bif hd (tI T t) 4 h then fS (aFe a) f t true else bif hd (tY T t) 4 h && (aFe a f).testBit t then fS (aFe a) f t false else aFe a
def aHus (T : zTn) (a : zAf) (f t h : Nat) : Nat := bif hd (tI T t) 4 h then aH a else bif hd (tY T t) 4 h && !((aFe a f).testBit t) then min 999999 (aH a + 1) else aH a
def aHear (T : zTn) (a : zAf) (f t s h : Nat) : zAf := ((aP a, aHus T a f t h, aS a, min 20 (aL a + 1)), fun c => match c with
  | 0 => fun x => if x = t then h else aHe a x
  | 1 => aFeud T a f t h
  | 2 => aSo a
  | 3 => sft (a.2 3) f
  | 4 => sft (a.2 4) t
  | 5 => sft (a.2 5) s
  | 6 => sft (a.2 6) h
  | c => a.2 c)
theorem k_X0_enter {Q : Option Value → zM → Prop} {M : zM} {f t s h : Int32} {n : Nat} (hn : M 22 3 = nI n) (hn2 : n ≤ 20) (hq : ∀ g, (∀ j, j < 28 → j ≠ 3 → g j = M 22 j) → g 3 = nI (min 20 (n + 1)) → g 28 = f → g 29 = t → g 30 = s → g 31 = h → (∀ j, 32 ≤ j → j < 108 → g j = M 22 (j - 4)) → Q none (zset M 22 g)) : zCon fX0_enter [.ref 21, .int f, .int t, .int s, .int h] M Q := by
  refine zc_of zkX0_enter [] 60 (Nat.le_of_ble_eq_true rfl) ?_
  refine ⟨28, 32, 76, rfl, rfl, rfl, by decide, by decide, ?_⟩
  refine zix 28 rfl (by decide) (zix 29 rfl (by decide) (zix 30 rfl (by decide) (zix 31 rfl (by decide) (zix 3 rfl (by decide) (zix 3 rfl (by decide) ?_)))))
  have e3 : (zu (zu (zu (zu (zset M 22 (va_cpy (M 22) (M 22) 28 32 76)) 22 28 f) 22 29 t) 22 30 s) 22 31 h) 22 3 = nI n := by
    rw [zu_ne _ _ (by decide), zu_ne _ _ (by decide), zu_ne _ _ (by decide), zu_ne _ _ (by decide), zset_s, pk_cpy_out (by omega)]
    exact hn
  rw [a_min n_20 (a_add e3 n_1) (by decide) (by omega)]
  have eu : ∀ (v : Int32), zu (zu (zu (zu (zu (zset M 22 (va_cpy (M 22) (M 22) 28 32 76)) 22 28 f) 22 29 t) 22 30 s) 22 31 h) 22 3 v = zset M 22 (upd (upd (upd (upd (upd (va_cpy (M 22) (M 22) 28 32 76) 28 f) 29 t) 30 s) 31 h) 3 v) := by
    intro v
    unfold zu
    simp only [zset_s, zset_u]
  rw [eu]
  refine hq _ ?_ ?_ ?_ ?_ ?_ ?_ ?_
  · intro j h1 h2
    rw [pk_un h2, pk_un (by omega), pk_un (by omega), pk_un (by omega), pk_un (by omega), pk_cpy_out (by omega)]
  · rw [pk_us]
  · rw [pk_un (by omega), pk_un (by omega), pk_un (by omega), pk_un (by omega), pk_us]
  · rw [pk_un (by omega), pk_un (by omega), pk_un (by omega), pk_us]
  · rw [pk_un (by omega), pk_un (by omega), pk_us]
  · rw [pk_un (by omega), pk_us]
  · intro j h1 h2
    rw [pk_un (by omega), pk_un (by omega), pk_un (by omega), pk_un (by omega), pk_un (by omega), pk_cpy_in (by omega) (by omega)]
    congr 1
    omega
theorem k_X0_makePeace {Q : Option Value → zM → Prop} {M : zM} {x y : Int32} {f t s u n : Nat} (hx : x = nI f) (hy : y = nI t) (hf : f < 7) (ht : t < 7) (hft : f ≠ t) (hs : M 22 (11 + f) = nI s) (hu : M 22 (11 + t) = nI u) (hs2 : s < 128) (hn : M 22 1 = nI n) (hn2 : n ≤ 999999) (h1 : s.testBit t = true → Q none (zset M 22 (fput (M 22) 11 f t (nI (clr s t)) (nI (clr u f))))) (h0 : s.testBit t = false → Q none (zu M 22 1 (nI (min 999999 (n + 1))))) : zCon fX0_makePeace [.ref 21, .int x, .int y] M Q := by
  refine zc_of zkX0_makePeace [] 60 (Nat.le_of_ble_eq_true rfl) ?_
  refine k_X0_inFeud hx hy hf ht hs hs2 (fun q => bT ?_) (fun q => bF ?_)
  · exact k_X0_setFeud (b := false) hx hy hf ht hft hs hu (h1 q)
  · refine zix 1 rfl (by decide) (zix 1 rfl (by decide) ?_)
    rw [a_min n_999999 (a_add hn n_1) (by decide) (by omega)]
    exact h0 q
theorem cA_hear {T : zTn} {a : zAf} {f t s h : Nat} {g g0 g1 : Nat → Int32} (ha : cA T a g0) (hva : vA T a) (hv : zTv T) (hf : f < tS T) (ht : t < tS T)
    (e1 : ∀ j, (4 ≤ j ∧ j < 11) → g1 j = if j = 4 + t then nI h else g0 j) (e2 : ∀ x, x < 7 → g1 (11 + x) = nI (aFeud T a f t h x)) (e3 : g1 1 = nI (aHus T a f t h)) (e4 : g1 0 = g0 0) (e5 : g1 2 = g0 2) (e6 : ∀ j, 18 ≤ j → g1 j = g0 j)
    (k1 : ∀ j, j < 28 → j ≠ 3 → g j = g1 j) (k2 : g 3 = nI (min 20 (aL a + 1))) (k3 : g 28 = nI f) (k4 : g 29 = nI t) (k5 : g 30 = nI s) (k6 : g 31 = nI h) (k7 : ∀ j, 32 ≤ j → j < 108 → g j = g1 (j - 4)) : cA T (aHear T a f t s h) g := by
  have hS := zTv_S hv
  have hC := zTv_C hv
  obtain ⟨a1, a2, a3, a4, a5, a6, a7, a8⟩ := ha
  have hL := hva.2.2.2.1
  refine ⟨?_, ?_, ?_, k2, ?_, ?_, ?_, ?_⟩
  · rw [k1 0 (by omega) (by omega), e4]; exact a1
  · rw [k1 1 (by omega) (by omega), e3]; rfl
  · rw [k1 2 (by omega) (by omega), e5]; exact a3
  · intro x hx
    rw [k1 _ (by omega) (by omega), e1 _ (by omega)]
    show _ = nI (if x = t then h else aHe a x)
    by_cases q : x = t
    · rw [if_pos q, if_pos (by omega)]
    · rw [if_neg q, if_neg (by omega)]; exact a5 x hx
  · intro x hx
    rw [k1 _ (by omega) (by omega), e2 x hx]; rfl
  · intro i hi
    rw [k1 _ (by omega) (by omega), e6 _ (by omega)]; exact a7 i hi
  · intro e he w hw
    have he' : e < min 20 (aL a + 1) := he
    cases e with
    | zero =>
      have : w = 0 ∨ w = 1 ∨ w = 2 ∨ w = 3 := by omega
      rcases this with rfl | rfl | rfl | rfl
      · exact k3
      · exact k4
      · exact k5
      · exact k6
    | succ e =>
      have hold := a8 e (by omega) w hw
      rw [k7 _ (by omega) (by omega), show 28 + (e + 1) * 4 + w - 4 = 28 + e * 4 + w by omega, e6 _ (by omega), hold]
      have : w = 0 ∨ w = 1 ∨ w = 2 ∨ w = 3 := by omega
      rcases this with rfl | rfl | rfl | rfl <;> simp [aHear, sft]
theorem k_X0_hear {Q : Option Value → zM → Prop} {M : zM} {T : zTn} {a : zAf} {x y z w : Int32} {f t s h : Nat} (hv : zTv T) (hT : zTc T M) (ha : cA T a (M 22)) (hva : vA T a) (hx : x = nI f) (hy : y = nI t) (hz : z = nI s) (hw : w = nI h) (hf : f < tS T) (ht : t < tS T) (hft : f ≠ t) (hh : h ≤ 9999) (hq : ∀ g, cA T (aHear T a f t s h) g → Q none (zset M 22 g)) : zCon fX0_hear [.ref 21, .ref 1, .int x, .int y, .int z, .int w] M Q := by
  have hS := zTv_S hv
  have hI := zTv_a hv ht
  have hN := zTv_N hv
  obtain ⟨a1, a2, a3, a4, a5, a6, a7, a8⟩ := id ha
  have hFf := vA_F hv hva (x := f) (by omega)
  have hFt := vA_F hv hva (x := t) (by omega)
  refine zc_of zkX0_hear [54] 60 (Nat.le_of_ble_eq_true rfl) ?_
  refine zix (4 + t) (a_add n_4 hy) (show 4 + t < 108 by omega) ?_
  have m22 : ∀ j, j ≠ 4 + t → zu M 22 (4 + t) w 22 j = M 22 j := fun j hj => zu_ne _ _ hj
  have J : ∀ g1, (∀ j, (4 ≤ j ∧ j < 11) → g1 j = if j = 4 + t then nI h else M 22 j) → (∀ x, x < 7 → g1 (11 + x) = nI (aFeud T a f t h x)) → g1 1 = nI (aHus T a f t h) → g1 0 = M 22 0 → g1 2 = M 22 2 → g1 3 = M 22 3 → (∀ j, 18 ≤ j → g1 j = M 22 j) → zEv fX0_hear Q 54 [(0, .ref 21), (1, .ref 1), (2, .int x), (3, .int y), (4, .int z), (5, .int w)] [] (zset M 22 g1) := by
    intro g1 e1 e2 e3 e4 e5 e7 e6
    refine zev_go zkX0_hear [54] 60 ?_
    refine k_X0_enter (n := aL a) (by rw [zset_s, e7]; exact a4) hva.2.2.2.1 (fun g k1 k2 k3 k4 k5 k6 k7 => ?_)
    rw [zset_u]
    rw [zset_s] at k1 k7
    exact hq g (cA_hear ha hva hv hf ht e1 e2 e3 e4 e5 e6 k1 k2 (k3.trans hx) (k4.trans hy) (k5.trans hz) (k6.trans hw) k7)
  have m1 : zu M 22 (4 + t) w = zset M 22 (upd (M 22) (4 + t) w) := rfl
  have u1 : ∀ j, (4 ≤ j ∧ j < 11) → upd (M 22) (4 + t) w j = if j = 4 + t then nI h else M 22 j := fun j _ => by
    unfold upd; by_cases q : j = 4 + t
    · rw [if_pos q, if_pos q, hw]
    · rw [if_neg q, if_neg q]
  refine zix t hy (show t < 7 by omega) ?_
  refine k_X10_holdsWord (v := h) (w := tI T t) hw ((by rw [zu_n _ _ _ (by decide)]; exact hT.2.2.2.2.1 t ht)) (by omega) (by omega) (fun q1 => bT ?_) (fun q1 => bF ?_)
  · refine k_X0_setFeud (b := true) hx hy (by omega) (by omega) hft (s := aFe a f) (t := aFe a t) (by rw [m22 _ (by omega)]; exact a6 f (by omega)) (by rw [m22 _ (by omega)]; exact a6 t (by omega)) ?_
    rw [m1, zset_u, zset_s]
    have eF : aFeud T a f t h = fS (aFe a) f t true := by unfold aFeud; rw [q1]; rfl
    have eH : aHus T a f t h = aH a := by unfold aHus; rw [q1]; rfl
    refine J _ ?_ ?_ ?_ ?_ ?_ ?_ ?_
    · intro j hj
      unfold fput
      rw [pk_un (by omega), pk_un (by omega)]
      exact u1 j hj
    · intro x hx7
      rw [eF]
      unfold fput fS
      by_cases c1 : x = t
      · subst c1; rw [pk_us, if_pos rfl]
      · rw [pk_un (by omega), if_neg c1]
        by_cases c2 : x = f
        · subst c2; rw [pk_us, if_pos rfl]
        · rw [pk_un (by omega), if_neg c2, pk_un (by omega)]; exact a6 x hx7
    · rw [eH]; unfold fput; rw [pk_un (by omega), pk_un (by omega), pk_un (by omega)]; exact a2
    · unfold fput; rw [pk_un (by omega), pk_un (by omega), pk_un (by omega)]
    · unfold fput; rw [pk_un (by omega), pk_un (by omega), pk_un (by omega)]
    · unfold fput; rw [pk_un (by omega), pk_un (by omega), pk_un (by omega)]
    · intro j hj; unfold fput; rw [pk_un (by omega), pk_un (by omega), pk_un (by omega)]
  · refine zix t hy (show t < 7 by omega) ?_
    refine k_X10_holdsWord (v := h) (w := tY T t) hw ((by rw [zu_n _ _ _ (by decide)]; exact hT.2.2.2.2.2.1 t ht)) (by omega) (by omega) (fun q2 => bT ?_) (fun q2 => bF ?_)
    · refine k_X0_makePeace (s := aFe a f) (u := aFe a t) (n := aH a) hx hy (by omega) (by omega) hft (by rw [m22 _ (by omega)]; exact a6 f (by omega)) (by rw [m22 _ (by omega)]; exact a6 t (by omega)) hFf (by rw [m22 _ (by omega)]; exact a2) hva.2.1 (fun q3 => ?_) (fun q3 => ?_)
      · rw [m1, zset_u, zset_s]
        have eF : aFeud T a f t h = fS (aFe a) f t false := by unfold aFeud; rw [q1, q2, q3]; rfl
        have eH : aHus T a f t h = aH a := by unfold aHus; rw [q1, q2, q3]; rfl
        refine J _ ?_ ?_ ?_ ?_ ?_ ?_ ?_
        · intro j hj
          unfold fput
          rw [pk_un (by omega), pk_un (by omega)]
          exact u1 j hj
        · intro x hx7
          rw [eF]
          unfold fput fS
          by_cases c1 : x = t
          · subst c1; rw [pk_us, if_pos rfl]; rfl
          · rw [pk_un (by omega), if_neg c1]
            by_cases c2 : x = f
            · subst c2; rw [pk_us, if_pos rfl]; rfl
            · rw [pk_un (by omega), if_neg c2, pk_un (by omega)]; exact a6 x hx7
        · rw [eH]; unfold fput; rw [pk_un (by omega), pk_un (by omega), pk_un (by omega)]; exact a2
        · unfold fput; rw [pk_un (by omega), pk_un (by omega), pk_un (by omega)]
        · unfold fput; rw [pk_un (by omega), pk_un (by omega), pk_un (by omega)]
        · unfold fput; rw [pk_un (by omega), pk_un (by omega), pk_un (by omega)]
        · intro j hj; unfold fput; rw [pk_un (by omega), pk_un (by omega), pk_un (by omega)]
      · have eF : aFeud T a f t h = aFe a := by unfold aFeud; rw [q1, q2, q3]; rfl
        have eH : aHus T a f t h = min 999999 (aH a + 1) := by unfold aHus; rw [q1, q2, q3]; rfl
        have m2 : ∀ v, zu (zu M 22 (4 + t) w) 22 1 v = zset M 22 (upd (upd (M 22) (4 + t) w) 1 v) := fun v => by unfold zu; rw [zset_u, zset_s]
        rw [m2]
        refine J _ ?_ ?_ ?_ ?_ ?_ ?_ ?_
        · intro j hj; rw [pk_un (by omega)]; exact u1 j hj
        · intro x hx7; rw [eF, pk_un (by omega), pk_un (by omega)]; exact a6 x hx7
        · rw [eH, pk_us]
        · rw [pk_un (by omega), pk_un (by omega)]
        · rw [pk_un (by omega), pk_un (by omega)]
        · rw [pk_un (by omega), pk_un (by omega)]
        · intro j hj; rw [pk_un (by omega), pk_un (by omega)]
    · have eF : aFeud T a f t h = aFe a := by unfold aFeud; rw [q1, q2]; rfl
      have eH : aHus T a f t h = aH a := by unfold aHus; rw [q1, q2]; rfl
      rw [m1]
      refine J _ ?_ ?_ ?_ ?_ ?_ ?_ ?_
      · intro j hj; exact u1 j hj
      · intro x hx7; rw [eF, pk_un (by omega)]; exact a6 x hx7
      · rw [eH, pk_un (by omega)]; exact a2
      · rw [pk_un (by omega)]
      · rw [pk_un (by omega)]
      · rw [pk_un (by omega)]
      · intro j hj; rw [pk_un (by omega)]
