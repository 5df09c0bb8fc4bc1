/-! walk of the class -/
def bI (T : zTn) (a q B : Nat) (u g : Nat → Nat) (vis : Nat → Bool) : Prop :=
  q ≤ 896 ∧ (∀ i, i < q → vis (u i) = true ∧ u i < 896 ∧ u i % 7 < tS T ∧ u i / 7 < 2 ^ tS T ∧ g (u i) ≤ i ∧ g (u i) ≤ B) ∧
  (∀ p, vis p = true → ∃ i, i < q ∧ u i = p) ∧ (∀ i j, i < j → j < q → u i ≠ u j ∧ g (u i) ≤ g (u j)) ∧
  (∀ p, vis p = true → wD T a p ≤ g p) ∧ vis (7 * 2 ^ a + a) = true ∧ g (7 * 2 ^ a + a) = 0
def bD (T : zTn) (nx : Nat) (u g : Nat → Nat) (vis : Nat → Bool) : Prop := ∀ i, i < nx → u i / 7 ≠ 2 ^ tS T - 1 ∧ ∀ e, e ∈ wL2 T → e.1 = u i → vis e.2.1 = true ∧ g e.2.1 ≤ g (u i) + 1
theorem bI_q {T : zTn} {a q B p : Nat} {u g : Nat → Nat} {vis : Nat → Bool} (h : bI T a q B u g vis) (hp : p < 896) (hn : vis p = false) : q < 896 := by
  obtain ⟨h1, h2, h3, h4, h5, h6, h7⟩ := h
  rcases Nat.lt_or_ge q 896 with c | c
  · exact c
  · exfalso
    have e : q = 896 := by omega
    subst e
    obtain ⟨i, j, p1, p2, p3⟩ := pigeon 896 (fun i => if i = 896 then p else u i) (fun i hi => by
      split
      · exact hp
      · exact (h2 i (by omega)).2.1)
    rw [if_neg (show i ≠ 896 by omega)] at p3
    by_cases d : j = 896
    · rw [if_pos d] at p3
      have := (h2 i (by omega)).1
      rw [p3, hn] at this
      exact absurd this (by decide)
    · rw [if_neg d] at p3
      exact (h4 i j p1 (by omega)).1 p3
abbrev vup (vis : Nat → Bool) (p : Nat) : Nat → Bool := fun x => decide (x = p) || vis x
theorem vup_s (vis : Nat → Bool) (p : Nat) : vup vis p p = true := by unfold vup; rw [decide_eq_true rfl]; rfl
theorem vup_n {vis : Nat → Bool} {p x : Nat} (h : x ≠ p) : vup vis p x = vis x := by unfold vup; rw [decide_eq_false h]; rfl
theorem vup_m {vis : Nat → Bool} {p x : Nat} (h : vis x = true) : vup vis p x = true := by unfold vup; rw [h, Bool.or_true]
theorem bI_app {T : zTn} {a q B p : Nat} {u g : Nat → Nat} {vis : Nat → Bool} (h : bI T a q B u g vis) (hp : p < 896) (hp1 : p % 7 < tS T) (hp2 : p / 7 < 2 ^ tS T) (hn : vis p = false) (hd : wD T a p ≤ B) (hB : B ≤ q) : bI T a (q + 1) B (nup u q p) (nup g p B) (vup vis p) := by
  have hq := bI_q h hp hn
  obtain ⟨h1, h2, h3, h4, h5, h6, h7⟩ := h
  have ne : ∀ x, vis x = true → x ≠ p := fun x hx e => by rw [e, hn] at hx; exact absurd hx (by decide)
  refine ⟨by omega, fun i hi => ?_, fun x hx => ?_, fun i j hij hj => ?_, fun x hx => ?_, vup_m h6, by rw [nup_n _ _ (ne _ h6)]; exact h7⟩
  · by_cases c : i = q
    · rw [c, nup_s, nup_s]; exact ⟨vup_s vis p, hp, hp1, hp2, hB, Nat.le_refl _⟩
    · obtain ⟨a1, a2, a3, a4, a5, a6⟩ := h2 i (by omega)
      rw [nup_n _ _ c, nup_n _ _ (ne _ a1)]
      exact ⟨vup_m a1, a2, a3, a4, a5, a6⟩
  · by_cases c : x = p
    · exact ⟨q, by omega, by rw [nup_s, c]⟩
    · rw [vup_n c] at hx
      obtain ⟨i, i1, i2⟩ := h3 x hx
      exact ⟨i, by omega, by rw [nup_n _ _ (by omega)]; exact i2⟩
  · have a1 := h2 i (by omega)
    rw [nup_n u _ (show i ≠ q by omega), nup_n g _ (ne _ a1.1)]
    by_cases c : j = q
    · rw [c, nup_s, nup_s]; exact ⟨ne _ a1.1, a1.2.2.2.2.2⟩
    · have a2 := h2 j (by omega)
      rw [nup_n u _ c, nup_n g _ (ne _ a2.1)]
      exact h4 i j hij (by omega)
  · by_cases c : x = p
    · rw [c, nup_s]; exact hd
    · rw [vup_n c] at hx
      rw [nup_n _ _ c]; exact h5 x hx
theorem bD_app {T : zTn} {a q B p nx : Nat} {u g : Nat → Nat} {vis : Nat → Bool} (h : bI T a q B u g vis) (hn : vis p = false) (hnx : nx ≤ q) (hd : bD T nx u g vis) : bD T nx (nup u q p) (nup g p B) (vup vis p) := by
  obtain ⟨h1, h2, h3, h4, h5, h6, h7⟩ := h
  have ne : ∀ x, vis x = true → x ≠ p := fun x hx e => by rw [e, hn] at hx; exact absurd hx (by decide)
  intro i hi
  have a1 := (h2 i (by omega)).1
  rw [nup_n u _ (show i ≠ q by omega), nup_n g _ (ne _ a1)]
  refine ⟨(hd i hi).1, fun e he e1 => ?_⟩
  obtain ⟨b1, b2⟩ := (hd i hi).2 e he e1
  rw [nup_n g _ (ne _ b1)]
  exact ⟨vup_m b1, b2⟩
theorem b_found {T : zTn} {a q B nx : Nat} {u g : Nat → Nat} {vis : Nat → Bool} (hv : zTv T) (h : bI T a q B u g vis) (hd : bD T nx u g vis) (hnx : nx < q) (hal : u nx / 7 = 2 ^ tS T - 1) : wk T a = g (u nx) := by
  obtain ⟨h1, h2, h3, h4, h5, h6, h7⟩ := h
  have n1 := h2 nx hnx
  have up : ∀ i, i < q → nx ≤ i → g (u nx) ≤ g (u i) := fun i hi hni => by
    by_cases c : i = nx
    · rw [c]; exact Nat.le_refl _
    · exact (h4 nx i (by omega) hi).2
  have C := wD_min (T := T) (a := a) (c := fun s => if vis s = true then min (g s) (g (u nx)) else g (u nx)) (fun e he => by
    have o := w_one he
    by_cases c : vis e.1 = true
    · rw [if_pos c]
      obtain ⟨i, i1, i2⟩ := h3 _ c
      by_cases d : i < nx
      · obtain ⟨b1, b2⟩ := (hd i d).2 e he i2.symm
        rw [if_pos b1]
        rw [i2] at b2
        omega
      · have := up i i1 (by omega)
        rw [i2] at this
        split <;> omega
    · rw [if_neg c]
      split <;> omega) (fun v => by
    unfold w0
    by_cases c : v = 7 * 2 ^ a + a
    · rw [if_pos c, c, if_pos h6, h7]; omega
    · rw [if_neg c]; split <;> omega)
  have al : ∀ t, t / 7 = 2 ^ tS T - 1 → g (u nx) ≤ wD T a t := fun t ht => by
    have := C t
    by_cases c : vis t = true
    · rw [if_pos c] at this
      obtain ⟨i, i1, i2⟩ := h3 _ c
      have : nx ≤ i := by
        rcases Nat.lt_or_ge i nx with d | d
        · have := (hd i d).1; rw [i2] at this; exact absurd ht this
        · exact d
      have := up i i1 this
      rw [i2] at this
      omega
    · rw [if_neg c] at this; exact this
  apply Nat.le_antisymm
  · have l := lmn_le (g := wD T a) (o := 7 * (2 ^ tS T - 1)) (tS T) n1.2.2.1
    rw [show 7 * (2 ^ tS T - 1) + u nx % 7 = u nx by omega] at l
    exact Nat.le_trans l (h5 _ n1.1)
  · rcases lmn_at (wD T a) (7 * (2 ^ tS T - 1)) (tS T) with r | ⟨b, r1, r2⟩
    · unfold wk; rw [r]; omega
    · unfold wk; rw [r2]
      have hS := zTv_S hv
      exact al _ (by omega)
theorem b_none {T : zTn} {a q B : Nat} {u g : Nat → Nat} {vis : Nat → Bool} (hv : zTv T) (h : bI T a q B u g vis) (hd : bD T q u g vis) : wk T a = 1000000 := by
  obtain ⟨h1, h2, h3, h4, h5, h6, h7⟩ := h
  have C := wD_min (T := T) (a := a) (c := fun s => if vis s = true then g s else 1000000) (fun e he => by
    have o := w_one he
    by_cases c : vis e.1 = true
    · rw [if_pos c]
      obtain ⟨i, i1, i2⟩ := h3 _ c
      obtain ⟨b1, b2⟩ := (hd i i1).2 e he i2.symm
      rw [if_pos b1]
      rw [i2] at b2
      omega
    · rw [if_neg c]
      split
      · next c2 =>
        obtain ⟨i, i1, i2⟩ := h3 _ c2
        have := (h2 i i1).2.2.2.2.1
        rw [i2] at this
        omega
      · omega) (fun v => by
    unfold w0
    by_cases c : v = 7 * 2 ^ a + a
    · rw [if_pos c, c, if_pos h6, h7]; omega
    · rw [if_neg c]
      split
      · next c2 =>
        obtain ⟨i, i1, i2⟩ := h3 _ c2
        have := (h2 i i1).2.2.2.2.1
        rw [i2] at this
        omega
      · omega)
  rcases lmn_at (wD T a) (7 * (2 ^ tS T - 1)) (tS T) with r | ⟨b, r1, r2⟩
  · exact r
  · have hS := zTv_S hv
    have := C (7 * (2 ^ tS T - 1) + b)
    have l := lmn_F (wD T a) (7 * (2 ^ tS T - 1)) (tS T)
    unfold wk
    split at this
    · next c =>
      obtain ⟨i, i1, i2⟩ := h3 _ c
      have := (hd i i1).1
      rw [i2] at this
      exact absurd (show (7 * (2 ^ tS T - 1) + b) / 7 = 2 ^ tS T - 1 by omega) this
    · omega
/-- the world of it -/
def bW (q : Nat) (u g : Nat → Nat) (vis : Nat → Bool) (M : zM) : Prop := M 35 5 = nI q ∧ (∀ i, i < q → M 38 i = nI (u i)) ∧ ∀ p, p < 896 → M 37 p = if vis p = true then nI (g p) else -1
theorem k_X6_visit {Q : Option Value → zM → Prop} {M : zM} {x y z : Int32} {T : zTn} {a q B σ v : Nat} {u g : Nat → Nat} {vis : Nat → Bool} (hv : zTv T) (hI : bI T a q B u g vis) (hW : bW q u g vis M) (hx : x = nI σ) (hy : y = nI v) (hz : z = nI B) (hσ : σ < 2 ^ tS T) (hvS : v < tS T) (hd : wD T a (7 * σ + v) ≤ B) (hB : B ≤ q) (h1 : vis (7 * σ + v) = true → g (7 * σ + v) ≤ B → Q none M) (h0 : vis (7 * σ + v) = false → ∀ M', frR 35 38 M M' → bW (q + 1) (nup u q (7 * σ + v)) (nup g (7 * σ + v) B) (vup vis (7 * σ + v)) M' → Q none M') : zCon fX6_visit [.ref 35, .int x, .int y, .int z] M Q := by
  have hS := zTv_S hv
  have h128 : 2 ^ tS T ≤ 128 := Nat.pow_le_pow_right (n := 2) (by omega) hS
  obtain ⟨w1, w2, w3⟩ := hW
  have hp : 7 * σ + v < 896 := by omega
  have ep : x * 7 + y = nI (7 * σ + v) := by rw [a_add (a_mul hx n_7) hy, Nat.mul_comm]
  have e37 := w3 _ hp
  refine zc_of zkX6_visit [] 60 (Nat.le_of_ble_eq_true rfl) (zix (7 * σ + v) ep hp ?_)
  cases c : vis (7 * σ + v) with
  | true =>
    rw [if_pos c] at e37
    obtain ⟨i, i1, i2⟩ := hI.2.2.1 _ c
    have gB := (hI.2.1 i i1).2.2.2.2.2
    have gi := (hI.2.1 i i1).2.2.2.2.1
    rw [i2] at gB gi
    have := hI.1
    exact nt_ (fun e => nI_m1 (p := g (7 * σ + v)) (by omega) (by rw [← e37]; exact e)) (h1 c gB)
  | false =>
    rw [if_neg (by rw [c]; decide)] at e37
    have hq := bI_q hI hp c
    refine nf_ e37 (iGe w1 n_896 (by omega) (by decide) (fun r => absurd r (by omega)) (fun _ => zix (7 * σ + v) ep hp (zix q w1 hq ?_)))
    refine h0 c _ (frR_u (by omega) (by omega) (frR_u (by omega) (by omega) (frR_u (by omega) (by omega) (frR_r _ _ _)))) ⟨?_, fun i hi => ?_, fun p hp' => ?_⟩
    · rw [zu_at]; exact (congrArg (· + 1) w1).trans (nI_1 q)
    · rw [zu_n _ _ _ (by decide), zu_s, upd_if]
      by_cases d : i = q
      · rw [if_pos d, d, nup_s]; exact ep
      · rw [if_neg d, nup_n _ _ d, zu_n _ _ _ (by decide)]; exact w2 i (by omega)
    · rw [zu_n _ _ _ (by decide), zu_n _ _ _ (by decide), zu_s, upd_if]
      by_cases d : p = 7 * σ + v
      · rw [if_pos d, d, vup_s, nup_s, if_pos rfl]; exact hz
      · rw [if_neg d, vup_n d, nup_n _ _ d]; exact w3 p hp'
theorem k_X6_visit0 {Q : Option Value → zM → Prop} {M : zM} {x y z : Int32} {p : Nat} (hp : p < 896) (ep : x * 7 + y = nI p) (h37 : M 37 p = -1) (h35 : M 35 5 = nI 0) (h : ∀ M', frR 35 38 M M' → M' 35 5 = nI 1 → M' 38 0 = nI p → M' 37 = upd (M 37) p z → Q none M') : zCon fX6_visit [.ref 35, .int x, .int y, .int z] M Q := by
  refine zc_of zkX6_visit [] 60 (Nat.le_of_ble_eq_true rfl) (zix p ep hp ?_)
  refine nf_ h37 (iGe h35 n_896 (by omega) (by decide) (fun r => absurd r (by omega)) (fun _ => zix p ep hp (zix 0 h35 (by decide) ?_)))
  refine h _ (frR_u (by omega) (by omega) (frR_u (by omega) (by omega) (frR_u (by omega) (by omega) (frR_r _ _ _)))) ?_ ?_ ?_
  · rw [zu_at]; exact (congrArg (· + 1) h35).trans (nI_1 0)
  · rw [zu_n _ _ _ (by decide), zu_at]; exact ep
  · rw [zu_n _ _ _ (by decide), zu_n _ _ _ (by decide), zu_s]
theorem k_X6_shortestWalk {Q : Option Value → zM → Prop} {M : zM} {T : zTn} {x : Int32} {a : Nat} (hv : zTv T) (hT : zTc T M) (hx : x = nI a) (ha : a < tS T) (h : ∀ M', frR 35 38 M M' → Q (some (.int (if wk T a < 1000000 then nI (wk T a) else -1))) M') : zCon fX6_shortestWalk [.ref 35, .int x] M Q := by
  have hS := zTv_S hv
  have hC := zTv_C hv
  have h128 : 2 ^ tS T ≤ 128 := Nat.pow_le_pow_right (n := 2) (by omega) hS
  have h1p : 1 ≤ 2 ^ tS T := Nat.one_le_two_pow
  have h2a : 2 ^ a < 2 ^ tS T := Nat.pow_lt_pow_right (by omega) ha
  have eall : zshl 1 (M 1 2) - 1 = nI (2 ^ tS T - 1) := a_sub (a_shl1 hT.2.1 (by omega)) n_1 h1p
  refine zc_of zkX6_shortestWalk [36] 60 (Nat.le_of_ble_eq_true rfl) (k_fill_37 ?_)
  have O : ∀ n, ∀ nx, nx + n = 896 → ∀ y M' q B u g vis, y = nI nx → frR 35 38 M M' → bI T a q B u g vis → bW q u g vis M' → bD T nx u g vis → nx ≤ q → (nx < q → B ≤ g (u nx) + 1) → zEv fX6_shortestWalk Q 36 [(0, .ref 35), (1, .int x), (2, .int (zshl 1 (M 1 2) - 1)), (3, .int y)] [] M' := by
    intro n
    induction n with
    | zero =>
      intro nx hn y M' q B u g vis hy hfr hI hW hD hnq hB
      have := hI.1
      refine zev_go zkX6_shortestWalk [36] 60 (iGe hy hW.1 (by omega) (by omega) (fun _ => ?_) (fun c => absurd c (by omega)))
      have e : nx = q := by omega
      subst e
      have hh := h M' hfr
      rw [b_none hv hI hD, if_neg (by omega)] at hh
      exact hh
    | succ n ih =>
      intro nx hn y M' q B u g vis hy hfr hI hW hD hnq hB
      have q896 := hI.1
      refine zev_go zkX6_shortestWalk [100] 60 (iGe hy hW.1 (by omega) (by omega) (fun c => ?_) (fun c => iGe hy n_896 (by omega) (by decide) (fun d => absurd d (by omega)) (fun _ => ?_)))
      · have e : nx = q := by omega
        subst e
        have hh := h M' hfr
        rw [b_none hv hI hD, if_neg (by omega)] at hh
        exact hh
      · obtain ⟨p1, p2, p3, p4, p5, p6⟩ := hI.2.1 nx c
        have hB' := hB c
        have eq := hW.2.1 nx c
        have est := hW.2.2 (u nx) p2
        rw [if_pos p1] at est
        generalize ep : u nx = p at *
        have ed : M' 38 nx / 7 = nI (p / 7) := a_div eq n_7 (by omega) (by decide) (by decide)
        have er : zrem (M' 38 nx) 7 = nI (p % 7) := a_rem eq n_7 (by omega) (by decide) (by decide)
        refine zix nx hy (show nx < 896 by omega) ⟨by decide, zix nx hy (show nx < 896 by omega) ⟨by decide, zix nx hy (show nx < 896 by omega) (zix p eq p2 ?_)⟩⟩
        refine iNe ed eall (by omega) (by omega) (fun d => ?_) (fun d => ?_)
        · have I : ∀ i, i ≤ tC T → ∀ z M' q u g' vis, z = nI i → frR 35 38 M M' → bI T a q (g p + 1) u g' vis → bW q u g' vis M' → bD T nx u g' vis → nx < q → u nx = p → g' p = g p → (∀ c, c < i → (tA T c = p % 7 ∨ tB T c = p % 7) → vis (7 * (p / 7 ||| 2 ^ oe T c (p % 7)) + oe T c (p % 7)) = true ∧ g' (7 * (p / 7 ||| 2 ^ oe T c (p % 7)) + oe T c (p % 7)) ≤ g p + 1) → ∀ k4 k5 k6, k4 = nI (p / 7) → k5 = nI (p % 7) → k6 = nI (g p) → zEv fX6_shortestWalk Q 100 [(0, .ref 35), (1, .int x), (2, .int (zshl 1 (M 1 2) - 1)), (3, .int y), (4, .int k4), (5, .int k5), (6, .int k6), (7, .int z)] [] M' := by
            refine zloop (tC T) ?_ ?_
            · intro z M' q u g' vis hz hfr hI hW hD hnq eu eg hc k4 k5 k6 h4 h5 h6
              refine zev_go zkX6_shortestWalk [36] 60 (iGe hz (zTc_R (by omega) hfr hT).2.2.1 (by omega) (by omega) (fun _ => ?_) (fun c => absurd c (by omega)))
              refine zev_pick [0, 1, 2, 3] (ih (nx + 1) (by omega) _ M' q (g p + 1) u g' vis (by rw [hy, nI_1]) hfr hI hW (fun i hi => ?_) (by omega) (fun c => ?_))
              · by_cases e : i = nx
                · subst e
                  rw [eu, eg]
                  refine ⟨d, fun e he e1 => ?_⟩
                  obtain ⟨σ, j, s1, s2, s3⟩ := wS_mem.mp he
                  obtain ⟨i1, i2, i3, _⟩ := zTv_i hv s2
                  rcases s3 with s | s
                  · subst s
                    dsimp only at e1 ⊢
                    have k := hc j s2 (Or.inl (by omega))
                    rw [show oe T j (p % 7) = tB T j by unfold oe; rw [if_pos (by omega)], show p / 7 = σ by omega] at k
                    exact k
                  · subst s
                    dsimp only at e1 ⊢
                    have k := hc j s2 (Or.inr (by omega))
                    rw [show oe T j (p % 7) = tA T j by unfold oe; rw [if_neg (by omega)], show p / 7 = σ by omega] at k
                    exact k
                · exact hD i (by omega)
              · have := (hI.2.2.2.1 nx (nx + 1) (by omega) c).2
                rw [eu, eg] at this
                omega
            · intro i hi ihI z M' q u g' vis hz hfr hI hW hD hnq eu eg hc k4 k5 k6 h4 h5 h6
              obtain ⟨i1, i2, i3, _⟩ := zTv_i hv hi
              have hT' := zTc_R (by omega) hfr hT
              refine zev_go zkX6_shortestWalk [100] 60 (iGe hz hT'.2.2.1 (by omega) (by omega) (fun c => absurd c (by omega)) (fun _ => ?_))
              refine k_X8_otherEnd hv hT' hz hi h5 (by omega) (fun w => ?_) (fun w => ?_)
              · have ol : oe T i (p % 7) < tS T := by unfold oe; split <;> omega
                have q2 := (hI.2.1 nx hnq).2.2.2.2.1
                rw [eu, eg] at q2
                have dd : wD T a (7 * (p / 7 ||| 2 ^ oe T i (p % 7)) + oe T i (p % 7)) ≤ g p + 1 := by
                  have k := hI.2.2.2.2.1 p (by have := (hI.2.1 nx hnq).1; rw [eu] at this; exact this)
                  rw [eg] at k
                  obtain ⟨e1, e2⟩ := wD_e (a := a) hv p4 hi
                  rcases Classical.em (tA T i = p % 7) with r | r
                  · rw [show oe T i (p % 7) = tB T i by unfold oe; rw [if_pos r]]
                    rw [r, show 7 * (p / 7) + p % 7 = p by omega] at e1
                    omega
                  · have r2 : tB T i = p % 7 := by omega
                    rw [show oe T i (p % 7) = tA T i by unfold oe; rw [if_neg r]]
                    rw [r2, show 7 * (p / 7) + p % 7 = p by omega] at e2
                    omega
                refine bf_ (nI_m1 (by omega)) ?_
                refine k_X6_visit hv hI hW (a_set h4 rfl (by omega)) rfl (a_add h6 n_1) (w_lt hv p4 ol).1 ol dd (by omega) (fun v1 v2 => ?_) (fun v0 M2 hf2 hW2 => ?_)
                · refine zev_pick [0, 1, 2, 3, 4, 5, 6, 7] (ihI _ M' q u g' vis (by rw [hz, nI_1]) hfr hI hW hD hnq eu eg (fun c hci hcw => ?_) _ _ _ h4 h5 h6)
                  by_cases e : c = i
                  · subst e; exact ⟨v1, v2⟩
                  · exact hc c (by omega) hcw
                · have pv : vis p = true := by have := (hI.2.1 nx hnq).1; rw [eu] at this; exact this
                  have np : p ≠ 7 * (p / 7 ||| 2 ^ oe T i (p % 7)) + oe T i (p % 7) := fun e => by rw [← e, pv] at v0; exact absurd v0 (by decide)
                  have bnd : 7 * (p / 7 ||| 2 ^ oe T i (p % 7)) + oe T i (p % 7) < 896 := by have := (w_lt hv p4 ol).1; omega
                  have wl := (w_lt hv p4 ol).1
                  refine zev_pick [0, 1, 2, 3, 4, 5, 6, 7] (ihI _ M2 (q + 1) _ _ _ (by rw [hz, nI_1]) (frR_t hfr hf2) (bI_app hI bnd (by omega) (by omega) v0 dd (by omega)) hW2 (bD_app hI v0 (by omega) hD) (by omega) (by rw [nup_n _ _ (by omega)]; exact eu) (by rw [nup_n _ _ np]; exact eg) (fun c hci hcw => ?_) _ _ _ h4 h5 h6)
                  by_cases e : c = i
                  · subst e; rw [vup_s, nup_s]; exact ⟨rfl, Nat.le_refl _⟩
                  · obtain ⟨b1, b2⟩ := hc c (by omega) hcw
                    rw [vup_m b1, nup_n _ _ (fun e => by rw [e, v0] at b1; exact absurd b1 (by decide))]
                    exact ⟨rfl, b2⟩
              · refine bt_ rfl (zev_pick [0, 1, 2, 3, 4, 5, 6, 7] (ihI _ M' q u g' vis (by rw [hz, nI_1]) hfr hI hW hD hnq eu eg (fun c hci hcw => ?_) _ _ _ h4 h5 h6))
                by_cases e : c = i
                · subst e; exact absurd hcw w
                · exact hc c (by omega) hcw
          refine I 0 (Nat.zero_le _) 0 M' q u g vis n_0 hfr ⟨hI.1, fun i hi => ?_, hI.2.2⟩ hW hD c ep rfl (fun c hc => absurd hc (by omega)) _ _ _ ed er est
          obtain ⟨a1, a2, a3, a4, a5, a6⟩ := hI.2.1 i hi
          exact ⟨a1, a2, a3, a4, a5, by omega⟩
        · have hh := h M' hfr
          have e := b_found hv hI hD c (by rw [ep]; exact d)
          rw [ep] at e
          rw [e, if_pos (by omega), ← est] at hh
          exact hh
  refine k_X6_visit0 (p := 7 * 2 ^ a + a) (by omega) (by rw [a_add (a_mul (a_shl1 hx (by omega)) n_7) hx, Nat.mul_comm]) ?_ (zu_at _ _ _ _) (fun M' hf e5 e38 e37 => ?_)
  · rw [zu_n _ _ _ (by decide), zset_s]
    unfold zfill
    rw [if_pos (by omega)]
  · refine O 896 0 (by omega) 0 M' 1 1 (fun _ => 7 * 2 ^ a + a) (fun _ => 0) (fun x => decide (x = 7 * 2 ^ a + a)) n_0 (frR_t (frR_u (by omega) (by omega) (frR_z (by omega) (by omega) (frR_r _ _ _))) hf) ⟨by omega, fun i hi => ⟨decide_eq_true rfl, show 7 * 2 ^ a + a < 896 by omega, show (7 * 2 ^ a + a) % 7 < tS T by omega, show (7 * 2 ^ a + a) / 7 < 2 ^ tS T by omega, Nat.zero_le _, Nat.zero_le _⟩, fun p hp => ⟨0, by omega, (of_decide_eq_true hp).symm⟩, fun i j hij hj => absurd hij (by omega), fun p hp => ?_, decide_eq_true rfl, rfl⟩ ⟨e5, fun i hi => ?_, fun p hp => ?_⟩ (fun i hi => absurd hi (by omega)) (by omega) (fun _ => by omega)
    · rw [of_decide_eq_true hp, wD_0]; exact Nat.le_refl _
    · rw [show i = 0 by omega]; exact e38
    · rw [e37, upd_if]
      by_cases c : p = 7 * 2 ^ a + a
      · rw [if_pos c, if_pos (decide_eq_true c)]; rfl
      · rw [if_neg c, if_neg (fun q => c (of_decide_eq_true q)), zu_n _ _ _ (by decide), zset_s]
        unfold zfill
        rw [if_pos hp]
theorem kc_walk {Q : Option Value → zM → Prop} {G : zG} {M : zM} {a : Int32} (hC : zC G M) (hV : zV G) (hq : ∀ M', zC G M' → frM M M' → Q (some (.int (o_walk G a))) M') : zCon fX10_walk [.ref 0, .int a] M Q := by
  obtain ⟨c1, c2, c3, c4, c5, c6, c7, c8, c9⟩ := id hC
  have hS := zTv_S hV.1
  refine zc_of zkX10_walk [] 60 (Nat.le_of_ble_eq_true rfl) (k_X8_hasStreet (by omega) c1.2.1 (fun j hj ej => cT ?_) (fun ho => cF ?_))
  · unfold o_walk at hq
    rw [show ix a (tS (gT G)) = some j by rw [ej]; exact ix_in hj (by omega)] at hq
    exact k_X6_shortestWalk hV.1 c1 ej hj (fun M' hf => hq M' (zC_fr (fun k hk => hf k (by unfold zown1 at hk; omega)) hC) (fun k hk => hf k (by omega)))
  · unfold o_walk at hq
    rw [ix_out (by omega) ho] at hq
    exact hq M hC (fun _ _ => rfl)
