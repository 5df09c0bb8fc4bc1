/-! the model: hear -/
theorem fS_none {fe : Nat → Nat} {x y : Nat} (h1 : (fe x).testBit y = false) (h2 : (fe y).testBit x = false) (b1 : fe x < 2 ^ 32) (b2 : fe y < 2 ^ 32) : fS fe x y false = fe := by
  funext z
  unfold fS
  by_cases c1 : z = y
  · subst c1; rw [if_pos rfl]; exact clr_same b2 h2
  · rw [if_neg c1]
    by_cases c2 : z = x
    · subst c2; rw [if_pos rfl]; exact clr_same b1 h1
    · rw [if_neg c2]
theorem fput_at {g : Nat → Int32} {fe : Nat → Nat} {o f t : Nat} {b : Bool} (hft : f ≠ t) (hg : ∀ x, x < 7 → g (o + x) = nI (fe x)) {x : Nat} (hx : x < 7) : fput g o f t (nI (bif b then fe f ||| 2 ^ t else clr (fe f) t)) (nI (bif b then fe t ||| 2 ^ f else clr (fe t) f)) (o + x) = nI (fS fe f t b x) := by
  unfold fput fS
  by_cases c1 : x = t
  · subst c1; rw [pk_us, if_pos rfl]
  · rw [pk_un (by omega), if_neg c1]
    by_cases c2 : x = f
    · subst c2; rw [pk_us, if_pos rfl]
    · rw [pk_un (by omega), if_neg c2]; exact hg x hx
theorem k_X11_hear {Q : Option Value → zM → Prop} {M : zM} {T : zTn} {a : zAf} {x y z w : Int32} {f t s h : Nat} (hv : zTv T) (hT : zTm T M) (ha : mA T a (M 56)) (hva : vA T a) (hx : x = nI f) (hy : y = nI t) (hz : z = nI s) (hw : w = nI h) (hf : f < tS T) (ht : t < tS T) (hft : f ≠ t) (hh : h ≤ 9999) (hq : ∀ g, mA T (aHear T a f t s h) g → Q none (zset M 56 g)) : zCon fX11_hear [.ref 47, .int x, .int y, .int z, .int w] M Q := by
  have hS := zTv_S hv
  have hI := zTv_a hv ht
  have hN := zTv_N hv
  obtain ⟨a1, a2, a3, a4, a5, a6, a7, a8⟩ := id ha
  have hFf := vA_F hv hva (x := f) (by omega)
  have hFt := vA_F hv hva (x := t) (by omega)
  have hsym : (aFe a t).testBit f = (aFe a f).testBit t := hva.2.2.2.2.2.2.2.2 t f (by omega) (by omega)
  refine zc_of zkX11_hear [26] 60 (Nat.le_of_ble_eq_true rfl) ?_
  refine zix (11 + t) (a_add n_11 hy) (show 11 + t < 88 by omega) ?_
  have m56 : ∀ j, j ≠ 11 + t → zu M 56 (11 + t) w 56 j = M 56 j := fun j hj => zu_ne _ _ hj
  have J : ∀ v5 g1, (∀ j, (11 ≤ j ∧ j < 18) → g1 j = if j = 11 + t then nI h else M 56 j) → (∀ x, x < 7 → g1 (18 + x) = nI (aFeud T a f t h x)) → g1 26 = nI (aHus T a f t h) → g1 25 = M 56 25 → (∀ j, j < 11 → g1 j = M 56 j) → (∀ j, 27 ≤ j → g1 j = M 56 j) → zEv fX11_hear Q 103 [(0, .ref 47), (1, .int x), (2, .int y), (3, .int z), (4, .int w), (5, .int v5)] [] (zset M 56 g1) := by
    intro v5 g1 e1 e2 e3 e4 e5 e6
    refine zev_go zkX11_hear [103] 60 ?_
    refine k_X11_log (n := aL a) (by rw [zset_s, e6 _ (by omega)]; exact a4) hva.2.2.2.1 (fun g k1 k2 k3 k4 k5 k6 => ?_)
    rw [zset_u]
    rw [zset_s] at k1 k6
    exact hq g (mA_hear ha hva hv hf ht e1 e2 e3 e4 e5 (fun j hj => e6 j (by omega)) k1 k2 (by rw [k3, hx, hy, n_10, pk_mul, nI_add]) (k4.trans hz) (k5.trans hw) k6)
  have m1 : zu M 56 (11 + t) w = zset M 56 (upd (M 56) (11 + t) w) := rfl
  have u1 : ∀ j, (11 ≤ j ∧ j < 18) → upd (M 56) (11 + t) w j = if j = 11 + t then nI h else M 56 j := fun j _ => by
    unfold upd; by_cases q : j = 11 + t
    · rw [if_pos q, if_pos q, hw]
    · rw [if_neg q, if_neg q]
  refine zix (18 + t) (a_add n_18 hy) (show 18 + t < 88 by omega) ?_
  have main : ∀ fd : Bool, (aFe a f).testBit t = fd → zEv fX11_hear Q 26 [(0, .ref 47), (1, .int x), (2, .int y), (3, .int z), (4, .int w), (5, .int (zbl fd))] [] (zu M 56 (11 + t) w) := by
    intro fd hfd
    refine zev_go zkX11_hear [96, 103] 60 ?_
    refine zix t hy (show t < 7 by omega) ?_
    refine k_X11_hasWord (v := h) (w := tI T t) hw ((by rw [zu_n _ _ _ (by decide)]; exact hT.2.2.2.1 t ht)) (by omega) (by omega) (fun q1 => bT ?_) (fun q1 => bF ?_)
    · refine k_X11_setFeud (b := true) hx hy (by omega) (by omega) hft (s := aFe a f) (t := aFe a t) (by rw [m56 _ (by omega)]; exact a6 f (by omega)) (by rw [m56 _ (by omega)]; exact a6 t (by omega)) ?_
      rw [m1, zset_u, zset_s]
      have eF : aFeud T a f t h = fS (aFe a) f t true := by unfold aFeud; rw [q1]; rfl
      have eH : aHus T a f t h = aH a := by unfold aHus; rw [q1]; rfl
      refine J _ _ ?_ ?_ ?_ ?_ ?_ ?_
      · intro j hj; unfold fput; rw [pk_un (by omega), pk_un (by omega)]; exact u1 j hj
      · intro x hx7
        rw [eF]
        exact fput_at hft (fun x hx => by rw [pk_un (by omega)]; exact a6 x hx) hx7
      · rw [eH]; unfold fput; rw [pk_un (by omega), pk_un (by omega), pk_un (by omega)]; exact a2
      · unfold fput; rw [pk_un (by omega), pk_un (by omega), pk_un (by omega)]
      · intro j hj; unfold fput; rw [pk_un (by omega), pk_un (by omega), pk_un (by omega)]
      · intro j hj; unfold fput; rw [pk_un (by omega), pk_un (by omega), pk_un (by omega)]
    · refine zix t hy (show t < 7 by omega) ?_
      refine k_X11_hasWord (v := h) (w := tY T t) hw ((by rw [zu_n _ _ _ (by decide)]; exact hT.2.2.2.2.1 t ht)) (by omega) (by omega) (fun q2 => bT ?_) (fun q2 => bF ?_)
      · have e26 : zu M 56 (11 + t) w 56 26 = nI (aH a) := by rw [m56 _ (by omega)]; exact a2
        have hH := hva.2.1
        have fin : ∀ v : Nat, v = aHus T a f t h → zEv fX11_hear Q 96 [(0, .ref 47), (1, .int x), (2, .int y), (3, .int z), (4, .int w), (5, .int (zbl fd))] [] (zu (zu M 56 (11 + t) w) 56 26 (nI v)) := by
          intro v hv'
          refine zev_go zkX11_hear [103] 60 ?_
          have m2 : ∀ v, zu (zu M 56 (11 + t) w) 56 26 v = zset M 56 (upd (upd (M 56) (11 + t) w) 26 v) := fun v => by unfold zu; rw [zset_u, zset_s]
          have m3 : ∀ j, j ≠ 11 + t → j ≠ 26 → zu (zu M 56 (11 + t) w) 56 26 (nI v) 56 j = M 56 j := fun j h1 h2 => by rw [zu_ne _ _ h2, zu_ne _ _ h1]
          refine k_X11_setFeud (b := false) hx hy (by omega) (by omega) hft (s := aFe a f) (t := aFe a t) (by rw [m3 _ (by omega) (by omega)]; exact a6 f (by omega)) (by rw [m3 _ (by omega) (by omega)]; exact a6 t (by omega)) ?_
          rw [m2, zset_u, zset_s]
          have eF : aFeud T a f t h = fS (aFe a) f t false := by
            unfold aFeud; rw [q1, q2]
            cases c : (aFe a f).testBit t with
            | true => rfl
            | false => exact (fS_none c (by rw [hsym]; exact c) (by omega) (by omega)).symm
          refine J _ _ ?_ ?_ ?_ ?_ ?_ ?_
          · intro j hj; unfold fput; rw [pk_un (by omega), pk_un (by omega), pk_un (by omega)]; exact u1 j hj
          · intro x hx7
            rw [eF]
            exact fput_at hft (fun x hx => by rw [pk_un (by omega), pk_un (by omega)]; exact a6 x hx) hx7
          · unfold fput; rw [pk_un (by omega), pk_un (by omega), pk_us, hv']
          · unfold fput; rw [pk_un (by omega), pk_un (by omega), pk_un (by omega), pk_un (by omega)]
          · intro j hj; unfold fput; rw [pk_un (by omega), pk_un (by omega), pk_un (by omega), pk_un (by omega)]
          · intro j hj; unfold fput; rw [pk_un (by omega), pk_un (by omega), pk_un (by omega), pk_un (by omega)]
        refine zix 26 rfl (by decide) ?_
        cases fd with
        | true =>
          refine cT (zix 26 rfl (by decide) ?_)
          rw [a_add e26 n_0]
          exact fin (aH a + 0) (by unfold aHus; rw [q1, q2, hfd]; rfl)
        | false =>
          refine cF (zix 26 rfl (by decide) ?_)
          refine iGe e26 n_999999 (by omega) (by decide) (fun c => zix 26 rfl (by decide) ?_) (fun c => zix 26 rfl (by decide) ?_)
          · rw [a_add e26 n_0]
            exact fin (aH a + 0) (by unfold aHus; rw [q1, q2, hfd]; show aH a + 0 = min 999999 (aH a + 1); omega)
          · rw [a_add e26 n_1]
            exact fin (aH a + 1) (by unfold aHus; rw [q1, q2, hfd]; show aH a + 1 = min 999999 (aH a + 1); omega)
      · have eF : aFeud T a f t h = aFe a := by unfold aFeud; rw [q1, q2]; rfl
        have eH : aHus T a f t h = aH a := by unfold aHus; rw [q1, q2]; rfl
        rw [m1]
        refine J _ _ ?_ ?_ ?_ ?_ ?_ ?_
        · intro j hj; exact u1 j hj
        · intro x hx7; rw [eF, pk_un (by omega)]; exact a6 x hx7
        · rw [eH, pk_un (by omega)]; exact a2
        · rw [pk_un (by omega)]
        · intro j hj; rw [pk_un (by omega)]
        · intro j hj; rw [pk_un (by omega)]
  refine k_X11_has (s := aFe a t) (k := f) (by rw [m56 _ (by omega)]; exact a6 t (by omega)) hx (by omega) (by omega) (fun q => ?_) (fun q => ?_)
  · exact main true (by rw [← hsym]; exact q)
  · exact main false (by rw [← hsym]; exact q)
