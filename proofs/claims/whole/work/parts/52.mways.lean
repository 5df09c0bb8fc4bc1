/-! ways of the model -/
theorem k_X11_keyOf {Q : Option Value → zM → Prop} {M : zM} {T : zTn} {x : Int32} {i : Nat} (hv : zTv T) (hT : zTm T M) (hx : x = nI i) (hi : i < tC T) (h : Q (some (.int (nI (100 * tP T i + 1)))) M) : zCon fX11_keyOf [.ref 47, .int x] M Q := by
  have hC := zTv_C hv
  refine zc_of zkX11_keyOf [] 60 (Nat.le_of_ble_eq_true rfl) (zix i hx (show i < 10 by omega) ?_)
  have e : 100 * M 55 i + 1 = nI (100 * tP T i + 1) := by rw [a_add (a_mul n_100 (hT.2.2.2.2.2.2.2.2.2 i hi)) n_1]
  rw [← e] at h
  exact h
theorem rm_le {d : Nat → Nat} {A B x y : Nat} (hx : x ≤ d A) (hy : y ≤ d B) : ∀ v, nup (nup d A x) B y v ≤ d v := by
  intro v
  by_cases q : v = B
  · rw [q, nup_s]; exact hy
  · rw [nup_n _ _ q]
    by_cases r : v = A
    · rw [r, nup_s]; exact hx
    · rw [nup_n _ _ r]; exact Nat.le_refl _
theorem k_X11_findAway {Q : Option Value → zM → Prop} {M : zM} {T : zTn} {a : zAf} {x : Int32} {b : Nat} (hv : zTv T) (hT : zTm T M) (ha : mA T a (M 56)) (hva : vA T a) (hx : x = nI b) (hb : b < tS T) (h : ∀ g, (∀ c, c < 7 → g c = nI (dM T (aS a) b c)) → Q none (zset M 67 g)) : zCon fX11_findAway [.ref 47, .int x] M Q := by
  have hS := zTv_S hv
  have hC := zTv_C hv
  have hsh := vA_S hv hva
  have bd := eW_bd (K := 100) (s := aS a) hv
  have hT' : ∀ g, zTm T (zset M 67 g) := fun g => zTm_fr (M := M) (M' := zset M 67 g) ⟨rfl, rfl, rfl⟩ (fun k h1 h2 => zset_n _ _ (by omega)) hT
  have d0le : ∀ (d : Nat → Nat) k, (∀ v, d v ≤ dw 100 1000000 T (aS a) b k v) → ∀ v, d v ≤ 1000000 := fun d k hd v => by
    have h1 := hd v
    have h2 : dw 100 1000000 T (aS a) b k v ≤ (if v = b then 0 else 1000000) := jr_an (r := 0) (Nat.zero_le _) v
    split at h2 <;> omega
  have L : ∀ k, k ≤ tS T → ∀ y (g : Nat → Int32) (d : Nat → Nat), y = nI k → (∀ c, c < 7 → g c = nI (d c)) → (∀ v, dM T (aS a) b v ≤ d v) → (∀ v, d v ≤ dw 100 1000000 T (aS a) b k v) → zEv fX11_findAway Q 33 [(0, .ref 47), (1, .int x), (2, .int y)] [] (zset M 67 g) := by
    refine zloop (tS T) ?_ ?_
    · intro y g d hy hg hlo hhi
      refine zev_go zkX11_findAway [33] 60 (iGe hy (hT' g).2.1 (by omega) (by omega) (fun _ => ?_) (fun q => absurd q (by omega)))
      refine h g (fun c hc => ?_)
      rw [hg c hc]
      exact congrArg nI (jr_eq bd hlo (Or.inl hhi) c)
    · intro k hk ih y g d hy hg hlo hhi
      refine zev_go zkX11_findAway [43] 60 (iGe hy (hT' g).2.1 (by omega) (by omega) (fun q => absurd q (by omega)) (fun _ => ?_))
      have I : ∀ i, i ≤ tC T → ∀ z (g : Nat → Int32) (d : Nat → Nat), z = nI i → (∀ c, c < 7 → g c = nI (d c)) → (∀ v, dM T (aS a) b v ≤ d v) → (∀ v, d v ≤ dw 100 1000000 T (aS a) b k v) → (∀ e, e ∈ eW 100 T (aS a) i → d e.2.1 ≤ dw 100 1000000 T (aS a) b k e.1 + e.2.2) → zEv fX11_findAway Q 43 [(0, .ref 47), (1, .int x), (2, .int y), (3, .int z)] [] (zset M 67 g) := by
        refine zloop (tC T) ?_ ?_
        · intro z g d hz hg hlo hhi hpr
          refine zev_go zkX11_findAway [33] 60 (iGe hz (hT' g).2.2.1 (by omega) (by omega) (fun _ => ?_) (fun q => absurd q (by omega)))
          exact zev_pick [0, 1, 2] (ih _ g d (by rw [hy, nI_1]) hg hlo (jr_up hhi hpr))
        · intro i hi ihI z g d hz hg hlo hhi hpr
          obtain ⟨i1, i2, i3, i4, i5, i6⟩ := zTv_i hv hi
          refine zev_go zkX11_findAway [43, 139] 60 (iGe hz (hT' g).2.2.1 (by omega) (by omega) (fun q => absurd q (by omega)) (fun _ => ?_))
          refine k_X11_isOpen hz (by omega) (show (zset M 67 g) 56 10 = nI (aS a) from ha.2.2.1) (by omega) (fun q => bT ?_) (fun q => bF ?_)
          · have e : eW 100 T (aS a) (i + 1) = (tA T i, tB T i, 100 * tP T i + 1) :: (tB T i, tA T i, 100 * tP T i + 1) :: eW 100 T (aS a) i := by rw [eW_s, if_neg (by rw [q]; decide)]
            have c1 : dM T (aS a) b (tB T i) ≤ dM T (aS a) b (tA T i) + (100 * tP T i + 1) := jr_cd bd (eW_mem.mpr ⟨i, hi, q, Or.inl rfl⟩)
            have c2 : dM T (aS a) b (tA T i) ≤ dM T (aS a) b (tB T i) + (100 * tP T i + 1) := jr_cd bd (eW_mem.mpr ⟨i, hi, q, Or.inr rfl⟩)
            have eA := fun g => (hT' g).2.2.2.2.2.1 i hi
            have eB := fun g => (hT' g).2.2.2.2.2.2.1 i hi
            have dA := d0le d k hhi (tA T i)
            have dB := d0le d k hhi (tB T i)
            have i10 : i < 10 := by omega
            have A7 : tA T i < 7 := by omega
            have B7 : tB T i < 7 := by omega
            have gA := hg _ A7
            have gB := hg _ B7
            have J2 : ∀ u v w1 w2, u = nI (min (d (tB T i) + (100 * tP T i + 1)) (d (tA T i))) → v = nI (min (d (tA T i) + (100 * tP T i + 1)) (d (tB T i))) → zEv fX11_findAway Q 182 [(0, .ref 47), (1, .int x), (2, .int y), (3, .int z), (4, .int w1), (5, .int w2)] [.int v, .int ((zset M 67 (upd g (tA T i) u)) 51 i), .ref 67] (zset M 67 (upd g (tA T i) u)) := by
              intro u v w1 w2 hu hv2
              refine zev_go zkX11_findAway [43] 60 (zix (tB T i) (eB _) B7 ?_)
              rw [zsetset, hu, hv2]
              refine zev_pick [0, 1, 2, 3] (ihI _ _ (nup (nup d (tA T i) (min (d (tB T i) + (100 * tP T i + 1)) (d (tA T i)))) (tB T i) (min (d (tA T i) + (100 * tP T i + 1)) (d (tB T i)))) (by rw [hz, nI_1]) (upd_nu (upd_nu hg)) ?_ ?_ ?_)
              · intro v
                have l1 := hlo (tA T i)
                have l2 := hlo (tB T i)
                by_cases q : v = tB T i
                · rw [q, nup_s]; omega
                · rw [nup_n _ _ q]
                  by_cases r : v = tA T i
                  · rw [r, nup_s]; omega
                  · rw [nup_n _ _ r]; exact hlo v
              · exact fun v => Nat.le_trans (rm_le (Nat.min_le_right _ _) (Nat.min_le_right _ _) v) (hhi v)
              · intro f hf
                have u1 := hhi (tA T i)
                have u2 := hhi (tB T i)
                rw [e] at hf
                rcases List.mem_cons.mp hf with r | r
                · subst r
                  show nup (nup d (tA T i) _) (tB T i) _ (tB T i) ≤ dw 100 1000000 T (aS a) b k (tA T i) + (100 * tP T i + 1)
                  rw [nup_s]
                  omega
                · rcases List.mem_cons.mp r with r | r
                  · subst r
                    show nup (nup d (tA T i) _) (tB T i) _ (tA T i) ≤ dw 100 1000000 T (aS a) b k (tB T i) + (100 * tP T i + 1)
                    rw [nup_n _ _ i3, nup_s]
                    omega
                  · exact Nat.le_trans (rm_le (Nat.min_le_right _ _) (Nat.min_le_right _ _) _) (hpr f r)
            have J1 : ∀ u w1 w2, w1 = nI (d (tB T i) + (100 * tP T i + 1)) → w2 = nI (d (tA T i) + (100 * tP T i + 1)) → u = nI (min (d (tB T i) + (100 * tP T i + 1)) (d (tA T i))) → zEv fX11_findAway Q 139 [(0, .ref 47), (1, .int x), (2, .int y), (3, .int z), (4, .int w1), (5, .int w2)] [.int u, .int ((zset M 67 g) 50 i), .ref 67] (zset M 67 g) := by
              intro u w1 w2 h1 h2 hu
              refine zev_go zkX11_findAway [182] 60 (zix (tA T i) (eA _) A7 ?_)
              rw [zsetset]
              have gB2 : (zset M 67 (upd g (tA T i) u)) 67 (tB T i) = nI (d (tB T i)) := by rw [zset_s, pk_un (fun q => i3 q.symm)]; exact gB
              refine zix i hz i10 (zix i hz i10 (zix (tB T i) (eB _) B7 ?_))
              refine iGe h2 gB2 (by omega) (by omega) (fun c => zix i hz i10 (zix (tB T i) (eB _) B7 (J2 u _ w1 w2 hu ?_))) (fun c => J2 u _ w1 w2 hu ?_)
              · rw [gB2, Nat.min_eq_right c]
              · rw [h2, Nat.min_eq_left (by omega)]
            refine zix i hz i10 (zix (tB T i) (eB _) B7 (k_X11_keyOf hv (hT' g) hz hi (zix i hz i10 (zix (tA T i) (eA _) A7 (k_X11_keyOf hv (hT' g) hz hi (zix i hz i10 (zix i hz i10 (zix (tA T i) (eA _) A7 ?_))))))))
            have gA1 : (zset M 67 g) 67 (tA T i) = nI (d (tA T i)) := by rw [zset_s]; exact gA
            have gB1 : (zset M 67 g) 67 (tB T i) = nI (d (tB T i)) := by rw [zset_s]; exact gB
            have x1 := a_add gB1 (rfl : nI (100 * tP T i + 1) = nI (100 * tP T i + 1))
            have x2 := a_add gA1 (rfl : nI (100 * tP T i + 1) = nI (100 * tP T i + 1))
            refine iGe x1 gA1 (by omega) (by omega) (fun c => zix i hz i10 (zix (tA T i) (eA _) A7 (J1 _ _ _ x1 x2 ?_))) (fun c => J1 _ _ _ x1 x2 ?_)
            · rw [gA1, Nat.min_eq_right c]
            · rw [x1, Nat.min_eq_left (by omega)]
          · have e : eW 100 T (aS a) (i + 1) = eW 100 T (aS a) i := by rw [eW_s, if_pos q]
            exact ihI _ g d (by rw [hz, nI_1]) hg hlo hhi (by rw [e]; exact hpr)
      exact I 0 (by omega) 0 g d rfl hg hlo hhi (fun e he => absurd he (by simp [eW]))
  have L0 : ∀ k, k ≤ 7 → ∀ y (g : Nat → Int32), y = nI k → (∀ c, c < k → g c = nI (if c = b then 0 else 1000000)) → zEv fX11_findAway Q 2 [(0, .ref 47), (1, .int x), (2, .int y)] [] (zset M 67 g) := by
    refine zloop 7 ?_ ?_
    · intro y g hy hg
      refine zev_go zkX11_findAway [33] 60 (iGe hy n_7 (by omega) (by decide) (fun _ => ?_) (fun q => absurd q (by omega)))
      exact L 0 (by omega) 0 g (fun v => if v = b then 0 else 1000000) rfl hg (fun v => jr_an (r := 0) (Nat.zero_le _) v) (fun v => Nat.le_refl _)
    · intro k hk ih y g hy hg
      refine zev_go zkX11_findAway [2] 60 (iGe hy n_7 (by omega) (by decide) (fun q => absurd q (by omega)) (fun _ => iNe hy hx (by omega) (by omega) (fun c => zix k hy hk ?_) (fun c => zix k hy hk ?_)))
      · rw [zsetset]
        refine ih _ _ (by rw [hy, nI_1]) (fun j hj => ?_)
        by_cases q : j = k
        · rw [q, pk_us, if_neg c]; rfl
        · rw [pk_un q]; exact hg j (by omega)
      · rw [zsetset]
        refine ih _ _ (by rw [hy, nI_1]) (fun j hj => ?_)
        by_cases q : j = k
        · rw [q, pk_us, if_pos c]; rfl
        · rw [pk_un q]; exact hg j (by omega)
  refine zc_of zkX11_findAway [2] 60 (Nat.le_of_ble_eq_true rfl) ?_
  have e0 : M = zset M 67 (M 67) := by funext k; unfold zset; split <;> simp_all
  rw [e0]
  exact L0 0 (by omega) 0 _ rfl (fun c hc => absurd hc (by omega))
theorem dM_le {T : zTn} {s b : Nat} (c : Nat) : dM T s b c ≤ 1000000 := by
  have h2 : dM T s b c ≤ (if c = b then 0 else 1000000) := jr_an (r := 0) (Nat.zero_le _) c
  split at h2 <;> omega
theorem tgt_m {T : zTn} {s b v i : Nat} (hv : zTv T) (hi : i < tC T) (hw : wOK T s b v) : dC T s b (oe T i v) + (16 * tP T i + 1) = dC T s b v ↔ dM T s b v = 100 * tP T i + 1 + dM T s b (oe T i v) := by
  have p := (zTv_i hv hi).2.2.2.2.2
  have f := wOK_fin hv hw
  rcases d_cases (s := s) (b := b) hv (oe T i v) with q | q
  · have q1 := q.2
    constructor <;> intro r <;> omega
  · unfold wOK at hw
    constructor <;> intro r <;> omega
theorem k_X11_nextCorner {Q : Option Value → zM → Prop} {M : zM} {T : zTn} {a : zAf} {x : Int32} {b v : Nat} (hv : zTv T) (hT : zTm T M) (ha : mA T a (M 56)) (hva : vA T a) (hc : ∀ c, c < 7 → M 67 c = nI (dM T (aS a) b c)) (hx : x = nI v) (hvl : v < tS T) (hw : wOK T (aS a) b v) (h1 : ∀ i, nx T (aS a) b v = some i → Q (some (.int (nI i))) M) (h0 : nx T (aS a) b v = none → Q (some (.int (-1))) M) : zCon fX11_nextCorner [.ref 47, .int x] M Q := by
  have hS := zTv_S hv
  have hC := zTv_C hv
  have hsh := vA_S hv hva
  have L : ∀ i, i ≤ tC T → ∀ y, y = nI i → fstb (tgt T (aS a) b v) i = none → zEv fX11_nextCorner Q 2 [(0, .ref 47), (1, .int x), (2, .int y)] [] M := by
    refine zloop (tC T) ?_ ?_
    · intro y hy hn
      exact zev_go zkX11_nextCorner [2] 60 (iGe hy hT.2.2.1 (by omega) (by omega) (fun _ => h0 hn) (fun q => absurd q (by omega)))
    · intro i hi ih y hy hn
      obtain ⟨i1, i2, i3, i4, i5, i6⟩ := zTv_i hv hi
      have i10 : i < 10 := by omega
      have eA := hT.2.2.2.2.2.1 i hi
      have eB := hT.2.2.2.2.2.2.1 i hi
      have no : ∀ w, tgt T (aS a) b v i = false → zEv fX11_nextCorner Q 95 [(0, .ref 47), (1, .int x), (2, .int y), (3, .int w)] [] M := fun w q =>
        zev_go zkX11_nextCorner [2] 60 (zev_pick [0, 1, 2] (ih _ (by rw [hy, nI_1]) (by rw [fstb_s hn, q]; rfl)))
      have tf : ¬ ((aS a).testBit i = false ∧ (tA T i = v ∨ tB T i = v) ∧ dC T (aS a) b (oe T i v) + (16 * tP T i + 1) = dC T (aS a) b v) → tgt T (aS a) b v i = false := fun r => by
        cases t : tgt T (aS a) b v i with
        | false => rfl
        | true => exact absurd (tgt_iff.mp t) r
      have o7 := oe_lt (v := v) hv hi
      have d1 := dM_le (T := T) (s := aS a) (b := b) (oe T i v)
      have d2 := dM_le (T := T) (s := aS a) (b := b) v
      have yes : (aS a).testBit i = false → (tA T i = v ∨ tB T i = v) → zEv fX11_nextCorner Q 43 [(0, .ref 47), (1, .int x), (2, .int y)] [.int 1] M := by
        intro r q
        have J : ∀ u w, u = nI (oe T i v) → w = nI (dM T (aS a) b v) → zEv fX11_nextCorner Q 88 [(0, .ref 47), (1, .int x), (2, .int y), (3, .int 1)] [.int u, .ref 67, .int (nI (100 * tP T i + 1)), .int w] M := by
          intro u w hu hw'
          refine zev_go zkX11_nextCorner [95] 60 (zix (oe T i v) hu (show oe T i v < 7 by omega) ?_)
          refine iNe hw' (a_add rfl (hc _ (by omega))) (by omega) (by omega) (fun c => no _ (tf (fun t => c ((tgt_m hv hi hw).mp t.2.2)))) (fun c => ?_)
          have hh := h1 i (fstb_at hn (tgt_iff.mpr ⟨r, q, (tgt_m hv hi hw).mpr c⟩) hi)
          rw [← hy] at hh
          exact hh
        refine zev_go zkX11_nextCorner [88] 60 (bT (zix v hx (show v < 7 by omega) (k_X11_keyOf hv hT hy hi (zix i hy i10 ?_))))
        refine iNe eA hx (by omega) (by omega) (fun c => zix i hy i10 (J _ _ ?_ (hc v (by omega)))) (fun c => zix i hy i10 (J _ _ ?_ (hc v (by omega))))
        · rw [eA]; unfold oe; rw [if_neg c]
        · rw [eB]; unfold oe; rw [if_pos c]
      have not : tgt T (aS a) b v i = false → zEv fX11_nextCorner Q 42 [(0, .ref 47), (1, .int x), (2, .int y)] [] M := fun r => zev_go zkX11_nextCorner [95] 60 (bF (no _ r))
      refine zev_go zkX11_nextCorner [42, 43] 60 (iGe hy hT.2.2.1 (by omega) (by omega) (fun q => absurd q (by omega)) (fun _ => ?_))
      refine k_X11_isOpen hy (by omega) ha.2.2.1 (by omega) (fun r => bT (zix i hy i10 ?_)) (fun r => bF (not (tf (fun t => by rw [r] at t; exact absurd t.1 (by decide)))))
      refine iEq eA hx (by omega) (by omega) (fun c => yes r (Or.inl c)) (fun c => zix i hy i10 ?_)
      exact iNe eB hx (by omega) (by omega) (fun d => not (tf (fun t => by rcases t.2.1 with t | t; exact c t; exact d t))) (fun d => yes r (Or.inr d))
  exact zc_of zkX11_nextCorner [2] 60 (Nat.le_of_ble_eq_true rfl) (L 0 (by omega) 0 rfl rfl)
theorem k_X11_sentBy {Q : Option Value → zM → Prop} {M : zM} {T : zTn} {f : zAf} {x y s : Int32} {a b v : Nat} (hv : zTv T) (hT : zTm T M) (hf : mA T f (M 56)) (hvf : vA T f) (hc : ∀ c, c < 7 → M 67 c = nI (dM T (aS f) b c)) (hx : x = nI a) (hy : y = nI b) (ha : a < tS T) (hb : b < tS T) (hw : wOK T (aS f) b a) (hs' : s = nI v) (hs : isSay (tN T) v) (h : Q (some (.int (nI (gsay T f b a v)))) M) : zCon fX11_sentBy [.ref 47, .int x, .int y, .int s] M Q := by
  have hS := zTv_S hv
  have hC := zTv_C hv
  have L : ∀ k, k ≤ wL T (aS f) b a → ∀ z u, z = nI (gw T (aS f) b a k) → u = nI (gy T f b a v k) → zEv fX11_sentBy Q 6 [(0, .ref 47), (1, .int x), (2, .int y), (3, .int s), (4, .int z), (5, .int u)] [] M := by
    refine zloop (wL T (aS f) b a) ?_ ?_
    · intro z u hz hu
      rw [gw_b hv ha hw] at hz
      refine zev_go zkX11_sentBy [6] 60 (bt_ (by rw [hz, hy]) ?_)
      unfold gsay at h
      rw [← hu] at h
      exact h
    · intro k hk ih z u hz hu
      obtain ⟨g1, g2, g3⟩ := gw_ok hv ha hw k (by omega)
      obtain ⟨n1, n2, n3, n4, n5⟩ := gn_ok hv ha hw hk
      obtain ⟨i1, i2, i3, i4, i5, i6⟩ := zTv_i hv n2
      have i10 : gn T (aS f) b a k < 10 := by omega
      have eA := hT.2.2.2.2.2.1 _ n2
      have eB := hT.2.2.2.2.2.2.1 _ n2
      have J : ∀ u', u' = nI (gy T f b a v (k + 1)) → zEv fX11_sentBy Q 45 [(0, .ref 47), (1, .int x), (2, .int y), (3, .int s), (4, .int z), (5, .int u), (6, .int (nI (gn T (aS f) b a k)))] [.int u'] M := by
        intro u' hu'
        refine zev_go zkX11_sentBy [6] 60 (zix _ rfl i10 (iNe eA hz (by omega) (by omega) (fun c => zix _ rfl i10 (zev_pick [0, 1, 2, 3, 4, 5] (ih _ _ ?_ hu'))) (fun c => zix _ rfl i10 (zev_pick [0, 1, 2, 3, 4, 5] (ih _ _ ?_ hu')))))
        · rw [n5, eA]; unfold oe; rw [if_neg c]
        · rw [n5, eB]; unfold oe; rw [if_pos c]
      refine zev_go zkX11_sentBy [45] 60 (iEq hz hy (by omega) (by omega) (fun q => absurd q (gw_nb hv ha hw hk)) (fun _ => ?_))
      refine k_X11_nextCorner hv hT hf hvf hc hz g1 g2 (fun i hi => ?_) (fun q => by rw [n1] at q; cases q)
      rw [n1] at hi
      cases hi
      refine zix _ rfl i10 (iNe eB hz (by omega) (by omega) (fun c => ?_) (fun c => ?_))
      · refine k_X11_sayingOver (b := false) hv hT hf hvf rfl n2 hu (gy_say hv ha hw hs k (by omega)) (J _ ?_)
        show _ = nI (mpd (ovr T f (gn T (aS f) b a k) (Nat.beq (tB T (gn T (aS f) b a k)) (gw T (aS f) b a k))) 4 (gy T f b a v k))
        rw [beqF c]
      · refine k_X11_sayingOver (b := true) hv hT hf hvf rfl n2 hu (gy_say hv ha hw hs k (by omega)) (J _ ?_)
        show _ = nI (mpd (ovr T f (gn T (aS f) b a k) (Nat.beq (tB T (gn T (aS f) b a k)) (gw T (aS f) b a k))) 4 (gy T f b a v k))
        rw [beqT c]
  exact zc_of zkX11_sentBy [6] 60 (Nat.le_of_ble_eq_true rfl) (L 0 (by omega) x s hx hs')
