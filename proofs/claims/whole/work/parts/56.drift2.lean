/-! drift -/
def o_drift (G : zG) (n : Int32) : Int32 × zG := match ix n 61 with
  | none => (cOUT, G)
  | some n => if n = 0 then (cOUT, G) else if tN (gT G) = 0 then (cNOT, G) else if tS (gT G) < 2 then (nI (aP (gA G)), stp G (gA G)) else
    (nI (aP (dys (gT G) (gA G, gSd G) n).1), sSd (stp G (dys (gT G) (gA G, gSd G) n).1) (dys (gT G) (gA G, gSd G) n).2)
theorem v_drift {G : zG} {n : Int32} (h : zV G) : zV (o_drift G n).2 := by
  unfold o_drift
  split
  · exact h
  · split
    · exact h
    · split
      · exact h
      · split
        · exact v_stp h h.2.1
        · next n _ _ _ q =>
          have v := v_dys (p := (gA G, gSd G)) h.1 h.2.1 h.2.2.2.2.1 (by omega) n
          obtain ⟨v1, v2, v3, v4, v5, v6, v7, v8⟩ := v_stp h v.1
          exact ⟨v1, v2, v3, v4, v.2, v6, v7, v8⟩
theorem dys_s (T : zTn) (p : zAf × Nat) (n : Nat) : dys T p (n + 1) = dy T (dys T p n) := rfl
theorem outG1 {n : Int32} (h : n < 1 ∨ 60 < n) : ix n 61 = none ∨ ix n 61 = some 0 := by
  cases q : ix n 61 with
  | none => exact Or.inl rfl
  | some j =>
    right
    unfold ix at q
    split at q
    · next c =>
      cases q
      rcases h with h | h
      · rw [Int32.lt_iff_toInt_lt, show (1 : Int32).toInt = 1 from by decide] at h
        congr 1
        omega
      · rw [Int32.lt_iff_toInt_lt, show (60 : Int32).toInt = 60 from by decide] at h
        omega
    · cases q
theorem o_drift_o {G : zG} {n : Int32} (h : ix n 61 = none ∨ ix n 61 = some 0) : o_drift G n = (cOUT, G) := by
  unfold o_drift
  rcases h with h | h
  · rw [h]
  · rw [h]; exact if_pos rfl
theorem kc_drift {Q : Option Value → zM → Prop} {G : zG} {M : zM} {n : Int32} (hC : zC G M) (hV : zV G) (hq : ∀ M', zC (o_drift G n).2 M' → frM M M' → Q (some (.int (o_drift G n).1)) M') : zCon fX10_drift [.ref 0, .int n] M Q := by
  obtain ⟨c1, c2, c3, c4, c5, c6, c7, c8, c9⟩ := id hC
  have hS := zTv_S hV.1
  have out : (n < 1 ∨ 60 < n) → Q (some (.int cOUT)) M := fun ho => by
    rw [o_drift_o (outG1 ho)] at hq
    exact hq M hC (fun _ _ => rfl)
  refine zc_of zkX10_drift [51] 60 (Nat.le_of_ble_eq_true rfl) ?_
  refine br (fun d0 => out (Or.inl d0)) (fun d0 => nr (fun d1 => ?_) (fun d1 => out (Or.inr d1)))
  obtain ⟨m, hm, e⟩ : ∃ m, (m < 61 ∧ 0 < m) ∧ n = nI m := by
    rw [Int32.lt_iff_toInt_lt, show (1 : Int32).toInt = 1 from by decide] at d0
    rw [Int32.lt_iff_toInt_lt, show (60 : Int32).toInt = 60 from by decide] at d1
    refine ⟨n.toInt.toNat, by omega, ?_⟩
    apply Int32.toInt_inj.mp
    rw [nI_toInt (by omega)]
    omega
  unfold o_drift at hq
  rw [show ix n 61 = some m by rw [e]; exact ix_in hm.1 (by omega)] at hq
  dsimp only at hq
  rw [if_neg (by omega)] at hq
  by_cases hN : tN (gT G) = 0
  · rw [if_pos hN] at hq
    have e0 : M 1 0 = 0 := by rw [c1.2.2.2.1, if_pos hN]
    refine nf_ e0 ?_
    exact hq M hC (fun _ _ => rfl)
  · rw [if_neg hN] at hq
    have e0 : M 1 0 = 1 := by rw [c1.2.2.2.1, if_neg hN]
    refine nt_ (by rw [e0]; decide) ?_
    refine k_X5_remember hV.1 c2 hV.2.1 c3 hV.2.2.1 (fun M1 h1 h2 h3 => ?_)
    have hT1 : zTc (gT G) M1 := zTc_fr (fun k a b => h2 k (by omega) (by omega)) c1
    have ha1 : cA (gT G) (gA G) (M1 22) := by rw [h2 22 (by omega) (by omega)]; exact c2
    refine iLt hT1.2.1 n_2 (by omega) (by decide) (fun d => ?_) (fun d => ?_)
    · rw [if_pos d] at hq
      have e1 : M1 = zset M1 22 (M1 22) := by funext k; unfold zset; split <;> simp_all
      have hz := zC_stp hC h1 h2 h3 ha1
      rw [← e1] at hz
      refine k_X0_pence ?_
      have h' := hq M1 hz (fun k hk => h2 k (by omega) (by omega))
      rw [← ha1.1] at h'
      exact h'
    · rw [if_neg (by omega)] at hq
      have L : ∀ k, k ≤ m → ∀ y M2, y = nI k → (∀ k, k ≠ 0 → k ≠ 22 → k ≠ 28 → k ≠ 29 → k ≠ 30 → M2 k = M1 k) → cA (gT G) (dys (gT G) (gA G, gSd G) k).1 (M2 22) → M2 0 10 = nI (dys (gT G) (gA G, gSd G) k).2 → zEv fX10_drift Q 51 [(0, .ref 0), (1, .int n), (2, .int y)] [] M2 := by
        refine zloop m ?_ ?_
        · intro y M2 hy hfr hc hs
          refine zev_go zkX10_drift [51] 60 (iGe hy e (by omega) (by omega) (fun _ => k_X0_pence ?_) (fun q => absurd q (by omega)))
          have e1 : M2 = zset M2 22 (M2 22) := by funext k; unfold zset; split <;> simp_all
          have hz := zC_stp hC h1 h2 h3 hc
          obtain ⟨z1, z2, z3, z4, z5, z6, z7, z8, z9⟩ := hz
          have o : ∀ k, k ≠ 0 → k ≠ 28 → k ≠ 29 → k ≠ 30 → M2 k = zset M1 22 (M2 22) k := fun k a c d e => by
            by_cases q : k = 22
            · rw [q, zset_s]
            · rw [zset_n _ _ q]; exact hfr k a q c d e
          have h' := hq M2 ⟨zTc_fr (fun k a b => o k (by omega) (by omega) (by omega) (by omega)) z1, hc, cU_fr (by rw [o 23 (by omega) (by omega) (by omega) (by omega)]) (by rw [o 23 (by omega) (by omega) (by omega) (by omega)]) (o 24 (by omega) (by omega) (by omega) (by omega)) z3, cIm_fr (by rw [o 23 (by omega) (by omega) (by omega) (by omega)]) (o 25 (by omega) (by omega) (by omega) (by omega)) (o 26 (by omega) (by omega) (by omega) (by omega)) z4, hs, (by rw [o 10 (by omega) (by omega) (by omega) (by omega)]; exact z6), cX_fr (by rw [o 10 (by omega) (by omega) (by omega) (by omega)]) (o 11 (by omega) (by omega) (by omega) (by omega)) z7, cSn_fr (o 39 (by omega) (by omega) (by omega) (by omega)) (o 40 (by omega) (by omega) (by omega) (by omega)) (o 41 (by omega) (by omega) (by omega) (by omega)) z8, cBk_fr (o 44 (by omega) (by omega) (by omega) (by omega)) (o 45 (by omega) (by omega) (by omega) (by omega)) (o 46 (by omega) (by omega) (by omega) (by omega)) z9⟩ (fun k hk => by rw [hfr k (by omega) (by omega) (by omega) (by omega) (by omega)]; exact h2 k (by omega) (by omega))
          rw [← hc.1] at h'
          exact h'
        · intro k hk ih y M2 hy hfr hc hs
          have v := v_dys (p := (gA G, gSd G)) hV.1 hV.2.1 hV.2.2.2.2.1 (by omega) k
          refine zev_go zkX10_drift [51] 60 (iGe hy e (by omega) (by omega) (fun q => absurd q (by omega)) (fun _ => ?_))
          refine k_X10_passDay (T := gT G) (f := (dys (gT G) (gA G, gSd G) k).1) (s := (dys (gT G) (gA G, gSd G) k).2) rfl rfl rfl rfl rfl hV.1 (zTc_fr (fun k a b => hfr k (by omega) (by omega) (by omega) (by omega) (by omega)) hT1) hc v.1 hs v.2 (by omega) (fun M3 hfr3 hc3 hs3 => ?_)
          have ed : dys (gT G) (gA G, gSd G) (k + 1) = dyG (gT G) (dys (gT G) (gA G, gSd G) k).1 (drS (dys (gT G) (gA G, gSd G) k).2) (drS (drS (dys (gT G) (gA G, gSd G) k).2)) (drS (drS (drS (dys (gT G) (gA G, gSd G) k).2))) (drS (drS (drS (drS (dys (gT G) (gA G, gSd G) k).2)))) (drS (drS (drS (drS (drS (dys (gT G) (gA G, gSd G) k).2))))) := by
            rw [dys_s]
            exact dy_G (gT G) _ rfl rfl rfl rfl rfl
          rw [← ed] at hc3 hs3
          exact ih _ M3 (by rw [hy, nI_1]) (fun k a b c d e => by rw [hfr3 k a b c d e]; exact hfr k a b c d e) hc3 hs3
      exact L 0 (by omega) 0 M1 rfl (fun _ _ _ _ _ _ => rfl) ha1 (by rw [h2 0 (by omega) (by omega)]; exact c5)
theorem km_drift {Q : Option Value → zM → Prop} {G : zG} {M : zM} {n : Int32} (hC : zD G M) (hV : zV G) (hq : ∀ M', zD (o_drift G n).2 M' → frC M M' → Q (some (.int (o_drift G n).1)) M') : zCon fX11_drift [.ref 47, .int n] M Q := by
  obtain ⟨c1, c2, c3, c4, c5, c6, c7, c8, c9⟩ := id hC
  have hS := zTv_S hV.1
  have hNN := zTv_N hV.1
  refine zc_of zkX11_drift [32] 60 (Nat.le_of_ble_eq_true rfl) ?_
  refine k_in2 1 60 (by omega) (by omega) (fun m m1 m2 e => cT ?_) (fun ho => cF ?_)
  · unfold o_drift at hq
    rw [show ix n 61 = some m by rw [e]; exact ix_in (by omega) (by omega)] at hq
    dsimp only at hq
    rw [if_neg (by omega)] at hq
    refine iNe c1.1 n_0 (by omega) (by decide) (fun hN => ?_) (fun hN => ?_)
    · rw [if_neg hN] at hq
      refine k_X11_remember hV.1 c2 hV.2.1 c3 hV.2.2.1 (fun M1 h1 h2 h3 => ?_)
      have hT1 : zTm (gT G) M1 := zTm_fr ⟨h3 _ (by omega), h3 _ (by omega), h3 _ (by omega)⟩ (fun k a b => h2 k (by omega) (by omega)) c1
      have ha1 : mA (gT G) (gA G) (M1 56) := by rw [h2 56 (by omega) (by omega)]; exact c2
      by_cases d : tS (gT G) < 2
      · rw [if_pos d] at hq
        have e1 : M1 = zset M1 56 (M1 56) := by funext k; unfold zset; split <;> simp_all
        have hz := zD_stp hC h1 h2 h3 ha1
        rw [← e1] at hz
        have h' := hq M1 hz (fun k hk => h2 k (by omega) (by omega))
        rw [← ha1.1] at h'
        refine zev_go zkX11_drift [] 60 (iGe n_0 e (by omega) (by omega) (fun _ => zix 25 rfl (by decide) h') (fun _ => iGe n_1 hT1.2.1 (by omega) (by omega) (fun _ => zix 25 rfl (by decide) h') (fun q => absurd q (by omega))))
      · rw [if_neg d] at hq
        have L : ∀ k, k ≤ m → ∀ y M2, y = nI k → (∀ k, k ≠ 47 → k ≠ 56 → k ≠ 67 → M2 k = M1 k) → (∀ j, j ≠ 12 → M2 47 j = M1 47 j) → mA (gT G) (dys (gT G) (gA G, gSd G) k).1 (M2 56) → M2 47 12 = nI (dys (gT G) (gA G, gSd G) k).2 → zEv fX11_drift Q 32 [(0, .ref 47), (1, .int n), (2, .int y)] [] M2 := by
          refine zloop m ?_ ?_
          · intro y M2 hy hfr hfr2 hc hs
            refine zev_go zkX11_drift [32] 60 (iGe hy e (by omega) (by omega) (fun _ => zix 25 rfl (by decide) ?_) (fun q => absurd q (by omega)))
            have hz := zD_stp hC h1 h2 h3 hc
            obtain ⟨z1, z2, z3, z4, z5, z6, z7, z8, z9⟩ := hz
            have o : ∀ k, k ≠ 47 → k ≠ 67 → M2 k = zset M1 56 (M2 56) k := fun k a c => by
              by_cases q : k = 56
              · rw [q, zset_s]
              · rw [zset_n _ _ q]; exact hfr k a q c
            have o47 : ∀ j, j ≠ 12 → M2 47 j = zset M1 56 (M2 56) 47 j := fun j hj => by rw [zset_n _ _ (by decide)]; exact hfr2 j hj
            have h' := hq M2 ⟨zTm_fr ⟨o47 _ (by omega), o47 _ (by omega), o47 _ (by omega)⟩ (fun k a b => o k (by omega) (by omega)) z1, hc, mU_fr (o47 _ (by omega)) (o 68 (by omega) (by omega)) z3, mIm_fr (o 79 (by omega) (by omega)) (o 78 (by omega) (by omega)) z4, hs, (by rw [o47 _ (by omega)]; exact z6), mX_fr (o47 _ (by omega)) (o 57 (by omega) (by omega)) z7, mSn_fr (o47 _ (by omega)) (o 74 (by omega) (by omega)) (o 75 (by omega) (by omega)) z8, mBk_fr (o47 _ (by omega)) (o 76 (by omega) (by omega)) (o 77 (by omega) (by omega)) z9⟩ (fun k hk => by rw [hfr k (by omega) (by omega) (by omega)]; exact h2 k (by omega) (by omega))
            rw [← hc.1] at h'
            exact h'
          · intro k hk ih y M2 hy hfr hfr2 hc hs
            have v := v_dys (p := (gA G, gSd G)) hV.1 hV.2.1 hV.2.2.2.2.1 (by omega) k
            have hT2 : zTm (gT G) M2 := zTm_fr ⟨hfr2 _ (by omega), hfr2 _ (by omega), hfr2 _ (by omega)⟩ (fun k a b => hfr k (by omega) (by omega) (by omega)) hT1
            refine zev_go zkX11_drift [32] 60 (iGe hy e (by omega) (by omega) (fun q => absurd q (by omega)) (fun _ => iGe n_1 hT2.2.1 (by omega) (by omega) (fun q => absurd q (by omega)) (fun _ => ?_)))
            refine k_X11_chance (T := gT G) (f := (dys (gT G) (gA G, gSd G) k).1) (s := (dys (gT G) (gA G, gSd G) k).2) rfl rfl rfl rfl rfl hV.1 hT2 hc v.1 hs v.2 (by omega) (fun M3 hfr3 hfr4 hc3 hs3 => ?_)
            have ed : dys (gT G) (gA G, gSd G) (k + 1) = dyG (gT G) (dys (gT G) (gA G, gSd G) k).1 (drS (dys (gT G) (gA G, gSd G) k).2) (drS (drS (dys (gT G) (gA G, gSd G) k).2)) (drS (drS (drS (dys (gT G) (gA G, gSd G) k).2))) (drS (drS (drS (drS (dys (gT G) (gA G, gSd G) k).2)))) (drS (drS (drS (drS (drS (dys (gT G) (gA G, gSd G) k).2))))) := by
              rw [dys_s]
              exact dy_G (gT G) _ rfl rfl rfl rfl rfl
            rw [← ed] at hc3 hs3
            exact ih _ M3 (by rw [hy, nI_1]) (fun k a b c => by rw [hfr3 k a b c]; exact hfr k a b c) (fun j hj => by rw [hfr4 j hj]; exact hfr2 j hj) hc3 hs3
        exact L 0 (by omega) 0 M1 rfl (fun _ _ _ _ => rfl) (fun _ _ => rfl) ha1 (by rw [h3 12 (by omega)]; exact c5)
    · rw [if_pos hN] at hq
      exact hq M hC (fun _ _ => rfl)
  · have hh : ix n 61 = none ∨ ix n 61 = some 0 := by
      cases q : ix n 61 with
      | none => exact Or.inl rfl
      | some j =>
        right
        unfold ix at q
        split at q
        · next c =>
          cases q
          by_cases z : n.toInt.toNat = 0
          · rw [z]
          · exfalso
            refine ho n.toInt.toNat (by omega) (by omega) ?_
            apply Int32.toInt_inj.mp
            rw [nI_toInt (by omega)]
            omega
        · cases q
    rw [o_drift_o hh] at hq
    exact hq M hC (fun _ _ => rfl)
