/-! the way of the class: corner by corner -/
theorem k_X9_firstCorner {Q : Option Value → zM → Prop} {M : zM} {T : zTn} {a : zAf} {x : Int32} {b v : Nat} (hv : zTv T) (hT : zTc T M) (ha : cA T a (M 22)) (hva : vA T a) (hc : ∀ c, c < 7 → M 29 c = nI (dC T (aS a) b c)) (hx : x = nI v) (hvl : v < tS T) (h1 : ∀ i, nx T (aS a) b v = some i → Q (some (.int (nI i))) M) (h0 : nx T (aS a) b v = none → Q (some (.int (-1))) M) : zCon fX9_firstCorner [.ref 28, .int x] M Q := by
  have hS := zTv_S hv
  have hC := zTv_C hv
  have hsh := vA_S hv hva
  have dle : ∀ c, dC T (aS a) b c ≤ 100000000 := fun c => by
    have h2 : dC T (aS a) b c ≤ (if c = b then 0 else 100000000) := jr_an (r := 0) (Nat.zero_le _) c
    split at h2 <;> omega
  have L : ∀ i, i ≤ tC T → ∀ y, y = nI i → fstb (tgt T (aS a) b v) i = none → zEv fX9_firstCorner Q 2 [(0, .ref 28), (1, .int x), (2, .int y)] [] M := by
    refine zloop (tC T) ?_ ?_
    · intro y hy hn
      exact zev_go zkX9_firstCorner [2] 60 (iGe hy hT.2.2.1 (by omega) (by omega) (fun _ => h0 hn) (fun q => absurd q (by omega)))
    · intro i hi ih y hy hn
      obtain ⟨i1, i2, i3, i4, i5, i6⟩ := zTv_i hv hi
      have no : ∀ w, tgt T (aS a) b v i = false → zEv fX9_firstCorner Q 71 [(0, .ref 28), (1, .int x), (2, .int y), (3, .int w)] [] M := fun w q =>
        zev_go zkX9_firstCorner [2] 60 (zev_pick [0, 1, 2] (ih _ (by rw [hy, nI_1]) (by rw [fstb_s hn, q]; rfl)))
      refine zev_go zkX9_firstCorner [71] 60 (iGe hy hT.2.2.1 (by omega) (by omega) (fun q => absurd q (by omega)) (fun _ => ?_))
      refine k_X8_otherEnd hv hT hy hi hx (by omega) (fun q => bf_ (fun r => ?_) ?_) (fun q => bt_ rfl (no _ ?_))
      · have h2 := m1_out (n := 7) (by omega) r
        rw [ix_in (by have := oe_lt (v := v) hv hi; omega) (by omega)] at h2
        cases h2
      · refine k_X0_isShut hy (by omega) ha.2.2.1 hsh (fun r => cT (no _ ?_)) (fun r => cF ?_)
        · cases t : tgt T (aS a) b v i with
          | false => rfl
          | true => have := (tgt_iff.mp t).1; rw [r] at this; cases this
        · have o7 := oe_lt (v := v) hv hi
          refine zix (oe T i v) rfl (show oe T i v < 7 by omega) (k_X9_price hv hT hy hi (zix v hx (show v < 7 by omega) ?_))
          have d1 := dle (oe T i v)
          have d2 := dle v
          refine iNe (a_add (hc _ (by omega)) rfl) (hc v (by omega)) (by omega) (by omega) (fun c => no _ ?_) (fun c => ?_)
          · cases t : tgt T (aS a) b v i with
            | false => rfl
            | true => exact absurd (tgt_iff.mp t).2.2 c
          · have hh := h1 i (fstb_at hn (tgt_iff.mpr ⟨r, q, c⟩) hi)
            rw [← hy] at hh
            exact hh
      · cases t : tgt T (aS a) b v i with
        | false => rfl
        | true => exact absurd (tgt_iff.mp t).2.1 q
  exact zc_of zkX9_firstCorner [2] 60 (Nat.le_of_ble_eq_true rfl) (L 0 (by omega) 0 rfl rfl)
/-- what find leaves -/
def cWay (T : zTn) (s b a : Nat) (M : zM) : Prop := M 28 3 = nI a ∧ M 28 4 = nI (wL T s b a) ∧ M 28 5 = nI (wP T s b a) ∧ ∀ k, k < wL T s b a → M 30 k = nI (gn T s b a k)
theorem k_X9_find {Q : Option Value → zM → Prop} {M : zM} {T : zTn} {f : zAf} {x y : Int32} {a b : Nat} (hv : zTv T) (hT : zTc T M) (hf : cA T f (M 22)) (hvf : vA T f) (hx : x = nI a) (hy : y = nI b) (ha : a < tS T) (hb : b < tS T) (h1 : wOK T (aS f) b a → ∀ M', (∀ k, k ≠ 28 → k ≠ 29 → k ≠ 30 → M' k = M k) → cWay T (aS f) b a M' → Q (some (.int 1)) M') (h0 : ¬ wOK T (aS f) b a → ∀ M', (∀ k, k ≠ 28 → k ≠ 29 → k ≠ 30 → M' k = M k) → Q (some (.int 0)) M') : zCon fX9_find [.ref 28, .int x, .int y] M Q := by
  have hS := zTv_S hv
  have hC := zTv_C hv
  have dle : ∀ c, dC T (aS f) b c ≤ 100000000 := fun c => by
    have h2 : dC T (aS f) b c ≤ (if c = b then 0 else 100000000) := jr_an (r := 0) (Nat.zero_le _) c
    split at h2 <;> omega
  refine zc_of zkX9_find [46] 60 (Nat.le_of_ble_eq_true rfl) ?_
  refine k_X9_measure hv hT hf hvf hy hb (fun g hg => ?_)
  have d1 := dle a
  refine zix a hx (show a < 7 by omega) (iLt (hg a (by omega)) n_100000000 (by omega) (by decide) (fun c => zix a hx (show a < 7 by omega) ⟨by decide, ?_⟩) (fun c => ⟨Or.inl rfl, ?_⟩))
  · have hw : wOK T (aS f) b a := c
    have fn := wOK_fin hv hw
    have L : ∀ k, k ≤ wL T (aS f) b a → ∀ z w M1, z = nI (gw T (aS f) b a k) → w = nI k → (∀ k, k ≠ 28 → k ≠ 29 → k ≠ 30 → M1 k = M k) → (∀ c, c < 7 → M1 29 c = nI (dC T (aS f) b c)) → M1 28 3 = nI a → M1 28 4 = nI k → M1 28 5 = nI (wP T (aS f) b a) → (∀ j, j < k → M1 30 j = nI (gn T (aS f) b a j)) → zEv fX9_find Q 46 [(0, .ref 28), (1, .int x), (2, .int y), (3, .int z), (4, .int w)] [] M1 := by
      refine zloop (wL T (aS f) b a) ?_ ?_
      · intro z w M1 hz hw' hfr hcost m3 m4 m5 mch
        have fin := h1 hw M1 hfr ⟨m3, m4, m5, mch⟩
        rw [gw_b hv ha hw] at hz
        exact zev_go zkX9_find [46] 60 (iGe hw' n_7 (by omega) (by decide) (fun _ => ⟨Or.inr rfl, fin⟩) (fun _ => bt_ (by rw [hz, hy]) ⟨Or.inr rfl, fin⟩))
      · intro k hk ih z w M1 hz hw' hfr hcost m3 m4 m5 mch
        obtain ⟨g1, g2, g3⟩ := gw_ok hv ha hw k (by omega)
        obtain ⟨n1, n2, n3, n4, n5⟩ := gn_ok hv ha hw hk
        have hT1 : zTc T M1 := zTc_fr (fun k h1 h2 => hfr k (by omega) (by omega) (by omega)) hT
        have hf1 : cA T f (M1 22) := by rw [hfr 22 (by omega) (by omega) (by omega)]; exact hf
        refine zev_go zkX9_find [46] 60 (iGe hw' n_7 (by omega) (by decide) (fun q => absurd q (by omega)) (fun _ => iEq hz hy (by omega) (by omega) (fun q => absurd q (gw_nb hv ha hw hk)) (fun _ => ?_)))
        refine k_X9_firstCorner hv hT1 hf1 hvf hcost hz g1 (fun i hi => ?_) (fun q => by rw [n1] at q; cases q)
        rw [n1] at hi
        cases hi
        refine nt_ (fun r => ?_) (zix k m4 (show k < 7 by omega) ?_)
        · have h2 := m1_out (n := 10) (by omega) r
          rw [ix_in (by omega) (by omega)] at h2
          cases h2
        · have hT2 : ∀ v, zTc T (zu (zu M1 30 k (nI (gn T (aS f) b a k))) 28 4 v) := fun v => zTc_fr (fun k h1 h2 => by rw [zu_n _ _ _ (by omega), zu_n _ _ _ (by omega)]) hT1
          refine k_X8_otherEnd hv (hT2 _) rfl n2 hz (by omega) (fun _ => ?_) (fun q => absurd n4 q)
          refine zev_pick [0, 1, 2, 3, 4] (ih _ _ _ (by rw [n5]) (by rw [hw', nI_1]) (fun c h1 h2 h3 => by rw [zu_n _ _ _ h1, zu_n _ _ _ h3]; exact hfr c h1 h2 h3) hcost m3 ?_ m5 (fun j hj => ?_))
          · exact (zu_at _ _ _ _).trans (a_add m4 n_1)
          · show zu M1 30 k (nI (gn T (aS f) b a k)) 30 j = _
            by_cases q : j = k
            · rw [q, zu_at]
            · rw [zu_ne _ _ q]; exact mch j (by omega)
    refine L 0 (by omega) x 0 _ hx rfl (fun k h1 h2 h3 => ?_) hg ?_ ?_ ?_ (fun j hj => absurd hj (by omega))
    · rw [zu_n _ _ _ h1, zu_n _ _ _ h1, zu_n _ _ _ h1, zset_n _ _ h2]
    · exact (zu_at _ _ _ _).trans hx
    · exact (zu_ne _ _ (by decide)).trans ((zu_ne _ _ (by decide)).trans (zu_at _ _ _ _))
    · exact (zu_ne _ _ (by decide)).trans ((zu_at _ _ _ _).trans (a_div (hg a (by omega)) n_16 (by omega) (by omega) (by decide)))
  · exact h0 (by unfold wOK; omega) _ (fun k h1 h2 h3 => by rw [zu_n _ _ _ h1, zset_n _ _ h2])
theorem gy_say {T : zTn} {f : zAf} {a b v : Nat} (hv : zTv T) (ha : a < tS T) (hw : wOK T (aS f) b a) (hs : isSay (tN T) v) : ∀ k, k ≤ wL T (aS f) b a → isSay (tN T) (gy T f b a v k)
  | 0, _ => hs
  | k + 1, hk => said_ok hv (gn_ok hv ha hw (by omega)).2.1 (gy_say hv ha hw hs k (by omega))
theorem k_X9_sayingOnWay {Q : Option Value → zM → Prop} {M : zM} {T : zTn} {f : zAf} {x : Int32} {a b v : Nat} (hv : zTv T) (hT : zTc T M) (hf : cA T f (M 22)) (hvf : vA T f) (ha : a < tS T) (hw : wOK T (aS f) b a) (hc : cWay T (aS f) b a M) (hx : x = nI v) (hs : isSay (tN T) v) (h : Q (some (.int (nI (gsay T f b a v)))) M) : zCon fX9_sayingOnWay [.ref 28, .int x] M Q := by
  have hS := zTv_S hv
  have hC := zTv_C hv
  have fn := wOK_fin hv hw
  have L : ∀ k, k ≤ wL T (aS f) b a → ∀ z u w, z = nI (gw T (aS f) b a k) → u = nI (gy T f b a v k) → w = nI k → zEv fX9_sayingOnWay Q 10 [(0, .ref 28), (1, .int x), (2, .int z), (3, .int u), (4, .int w)] [] M := by
    refine zloop (wL T (aS f) b a) ?_ ?_
    · intro z u w hz hu hw'
      refine zev_go zkX9_sayingOnWay [10] 60 (iGe hw' hc.2.1 (by omega) (by omega) (fun _ => ?_) (fun q => absurd q (by omega)))
      unfold gsay at h
      rw [← hu] at h
      exact h
    · intro k hk ih z u w hz hu hw'
      obtain ⟨g1, g2, g3⟩ := gw_ok hv ha hw k (by omega)
      obtain ⟨n1, n2, n3, n4, n5⟩ := gn_ok hv ha hw hk
      obtain ⟨i1, i2, i3, i4, i5, i6⟩ := zTv_i hv n2
      have e30 := hc.2.2.2 k hk
      have J : ∀ u', u' = nI (gy T f b a v (k + 1)) → zEv fX9_sayingOnWay Q 60 [(0, .ref 28), (1, .int x), (2, .int z), (3, .int u), (4, .int w), (5, .int (M 30 k))] [.int u'] M := by
        intro u' hu'
        refine zev_go zkX9_sayingOnWay [10] 60 ?_
        refine k_X8_otherEnd hv hT e30 n2 hz (by omega) (fun _ => ?_) (fun q => absurd n4 q)
        exact zev_pick [0, 1, 2, 3, 4] (ih _ _ _ (by rw [n5]) hu' (by rw [hw', nI_1]))
      refine zev_go zkX9_sayingOnWay [60] 60 (iGe hw' hc.2.1 (by omega) (by omega) (fun q => absurd q (by omega)) (fun _ => zix k hw' (show k < 7 by omega) (zix (gn T (aS f) b a k) e30 (show gn T (aS f) b a k < 10 by omega) ?_)))
      refine iNe (hT.2.2.2.2.2.2.2.1 _ n2) hz (by omega) (by omega) (fun c => ?_) (fun c => ?_)
      · refine k_X2_sayingOver (b := false) hv hT hf hvf e30 n2 hu (gy_say hv ha hw hs k (by omega)) (J _ ?_)
        show _ = nI (mpd (ovr T f (gn T (aS f) b a k) (Nat.beq (tB T (gn T (aS f) b a k)) (gw T (aS f) b a k))) 4 (gy T f b a v k))
        rw [beqF c]
      · refine k_X2_sayingOver (b := true) hv hT hf hvf e30 n2 hu (gy_say hv ha hw hs k (by omega)) (J _ ?_)
        show _ = nI (mpd (ovr T f (gn T (aS f) b a k) (Nat.beq (tB T (gn T (aS f) b a k)) (gw T (aS f) b a k))) 4 (gy T f b a v k))
        rw [beqT c]
  exact zc_of zkX9_sayingOnWay [10] 60 (Nat.le_of_ble_eq_true rfl) (L 0 (by omega) _ x 0 hc.1 hx rfl)
theorem say1 {N w : Nat} (hN : N ≤ 8) (hw : w < N) : isSay N (w + 1) := by
  refine ⟨by omega, by omega, ?_⟩
  rw [sok_s N 3 (by omega), show (w + 1) / 10 = 0 by omega, sok_0, show (w + 1) % 10 = w + 1 by omega]
  simp
  omega
theorem k_X9_wordOnWay {Q : Option Value → zM → Prop} {M : zM} {T : zTn} {f : zAf} {x : Int32} {a b w : Nat} (hv : zTv T) (hT : zTc T M) (hf : cA T f (M 22)) (hvf : vA T f) (ha : a < tS T) (hw : wOK T (aS f) b a) (hc : cWay T (aS f) b a M) (hx : x = nI w) (hww : w < tN T) (h : Q (some (.int (nI (gsay T f b a (w + 1) - 1)))) M) : zCon fX9_wordOnWay [.ref 28, .int x] M Q := by
  refine zc_of zkX9_wordOnWay [] 60 (Nat.le_of_ble_eq_true rfl) ?_
  have hs := say1 (zTv_N hv) hww
  refine k_X9_sayingOnWay hv hT hf hvf ha hw hc (a_add hx n_1) hs ?_
  have e : nI (gsay T f b a (w + 1)) - 1 = nI (gsay T f b a (w + 1) - 1) := a_sub rfl n_1 (gy_say hv ha hw hs _ (Nat.le_refl _)).1
  rw [← e] at h
  exact h
