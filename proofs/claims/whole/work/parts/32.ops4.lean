/-! holds, street, corner, logged -/
theorem kc_holds {Q : Option Value → zM → Prop} {M : zM} {n q : Int32} (hq : Q (some (.int (o_holds n q))) M) : zCon fX10_holds [.ref 0, .int n, .int q] M Q := by
  have bad : (zout n 61 ∨ zout q 101) → Q (some (.int cOUT)) M := fun h => by
    rcases h with h | h
    · rw [o_holds_u1 (ix_out (by omega) h)] at hq; exact hq
    · rw [o_holds_u2 (ix_out (by omega) h)] at hq; exact hq
  refine zc_of zkX10_holds [30] 60 (Nat.le_of_ble_eq_true rfl) ?_
  refine br (fun d => bad (Or.inl (outLe (n := 60) (by omega) (Or.inl d)))) (fun d1 => br (fun d => bad (Or.inl (outLe (n := 60) (by omega) (Or.inr d)))) (fun d2 => br (fun d => bad (Or.inr (outLe (n := 100) (by omega) (Or.inl d)))) (fun d3 => nr (fun d4 => ?_) (fun d => bad (Or.inr (outLe (n := 100) (by omega) (Or.inr d)))))))
  obtain ⟨k, hk, ek⟩ := numLe (n := 60) (by omega) d1 d2
  obtain ⟨r, hr, er⟩ := numLe (n := 100) (by omega) d3 d4
  have eo : o_holds n q = nI (odds r k) := by unfold o_holds; rw [ek, er, ix_in hk (by omega), ix_in hr (by omega)]
  rw [eo] at hq
  have L : ∀ i, i ≤ k → ∀ x y, x = nI i → y = lN (odds r i) → zEv fX10_holds Q 30 [(0, .ref 0), (1, .int n), (2, .int q), (3, .long y), (5, .int x)] [] M := by
    refine zloop k ?_ ?_
    · intro x y hx hy
      refine zev_go zkX10_holds [30] 60 (iGe hx ek (by omega) (by omega) (fun _ => ?_) (fun q => absurd q (by omega)))
      have e : y.toInt32 = nI (odds r k) := by rw [hy, lN_i]
      rw [← e] at hq
      exact hq
    · intro i hi ih x y hx hy
      refine zev_go zkX10_holds [30] 60 (iGe hx ek (by omega) (by omega) (fun q => absurd q (by omega)) (fun _ => ⟨by decide, ?_⟩))
      exact ih _ _ (by rw [hx, nI_1]) (odds_step (by omega) er hy)
  exact L 0 (by omega) 0 _ rfl rfl
theorem km_holds {Q : Option Value → zM → Prop} {M : zM} {n q : Int32} (hq : Q (some (.int (o_holds n q))) M) : zCon fX11_holds [.ref 47, .int n, .int q] M Q := by
  refine zc_of zkX11_holds [34] 60 (Nat.le_of_ble_eq_true rfl) ?_
  refine k_in (S := 61) (by omega) l0_ (by decide) (fun k hk ek => bT ?_) (fun ho => bF ?_)
  · refine k_in (S := 101) (by omega) l0_ (by decide) (fun r hr er => cT ?_) (fun ho => cF ?_)
    · have eo : o_holds n q = nI (odds r k) := by unfold o_holds; rw [ek, er, ix_in hk (by omega), ix_in hr (by omega)]
      rw [eo] at hq
      have L : ∀ i, i ≤ k → ∀ x y, x = nI i → y = lN (odds r i) → zEv fX11_holds Q 34 [(0, .ref 47), (1, .int n), (2, .int q), (3, .long y), (5, .int x)] [] M := by
        refine zloop k ?_ ?_
        · intro x y hx hy
          refine zev_go zkX11_holds [34] 60 (iGe hx ek (by omega) (by omega) (fun _ => ?_) (fun q => absurd q (by omega)))
          have e : y.toInt32 = nI (odds r k) := by rw [hy, lN_i]
          rw [← e] at hq
          exact hq
        · intro i hi ih x y hx hy
          refine zev_go zkX11_holds [34] 60 (iGe hx ek (by omega) (by omega) (fun q => absurd q (by omega)) (fun _ => ⟨by decide, ?_⟩))
          exact ih _ _ (by rw [hx, nI_1]) (odds_step (by omega) er hy)
      exact L 0 (by omega) 0 _ rfl rfl
    · rw [o_holds_u2 (ix_out (by omega) ho)] at hq; exact hq
  · rw [o_holds_u1 (ix_out (by omega) ho)] at hq; exact hq
theorem sw4 {x : Int32} {A0 A1 A2 A3 D : Prop} (a0 : x = nI 0 → A0) (a1 : x = nI 1 → A1) (a2 : x = nI 2 → A2) (a3 : x = nI 3 → A3) (d : (x < 0 ∨ nI 4 ≤ x) → D) : ((x = nI 0 → A0) ∧ (x = nI 1 → A1) ∧ (x = nI 2 → A2) ∧ (x = nI 3 → A3) ∧ True) ∧ ((x < 0 ∨ nI 4 ≤ x) → D) := ⟨⟨a0, a1, a2, a3, trivial⟩, d⟩
theorem sw7 {x : Int32} {A0 A1 A2 A3 A4 A5 A6 D : Prop} (a0 : x = nI 0 → A0) (a1 : x = nI 1 → A1) (a2 : x = nI 2 → A2) (a3 : x = nI 3 → A3) (a4 : x = nI 4 → A4) (a5 : x = nI 5 → A5) (a6 : x = nI 6 → A6) (d : (x < 0 ∨ nI 7 ≤ x) → D) : ((x = nI 0 → A0) ∧ (x = nI 1 → A1) ∧ (x = nI 2 → A2) ∧ (x = nI 3 → A3) ∧ (x = nI 4 → A4) ∧ (x = nI 5 → A5) ∧ (x = nI 6 → A6) ∧ True) ∧ ((x < 0 ∨ nI 7 ≤ x) → D) := ⟨⟨a0, a1, a2, a3, a4, a5, a6, trivial⟩, d⟩
theorem sw_ix {x : Int32} {n k : Nat} (hn : n < 2 ^ 31) (hk : k < n) (e : x = nI k) : ix x n = some k := by rw [e]; exact ix_in hk hn
theorem sw_out {x : Int32} {n : Nat} (hn : n < 2 ^ 31) (h : x < 0 ∨ nI n ≤ x) : ix x n = none := ix_out hn (zout_of hn (h.elim Or.inl (fun q => Or.inr (Int32.not_lt.mpr q))))
def o_street (G : zG) (a w : Int32) : Int32 := match ix a (tS (gT G)) with
  | none => cUNK
  | some a => match ix w 4 with
    | some 0 => nI (tI (gT G) a)
    | some 1 => nI (tY (gT G) a)
    | some 2 => nI (aHe (gA G) a)
    | some 3 => nI (aFe (gA G) a)
    | _ => cOUT
theorem kc_street {Q : Option Value → zM → Prop} {G : zG} {M : zM} {a w : Int32} (hC : zC G M) (hV : zV G) (hq : Q (some (.int (o_street G a w))) M) : zCon fX10_street [.ref 0, .int a, .int w] M Q := by
  obtain ⟨c1, c2, c3, c4, c5, c6, c7, c8, c9⟩ := id hC
  have hS := zTv_S hV.1
  refine zc_of zkX10_street [] 60 (Nat.le_of_ble_eq_true rfl) ?_
  refine k_X8_hasStreet (by omega) c1.2.1 (fun j hj ej => cT ?_) (fun ho => cF ?_)
  · unfold o_street at hq
    rw [show ix a (tS (gT G)) = some j by rw [ej]; exact ix_in hj (by omega)] at hq
    refine sw4 (fun e => ?_) (fun e => ?_) (fun e => ?_) (fun e => ?_) (fun e => ?_)
    · rw [sw_ix (by omega) (by omega) e] at hq
      refine zix j ej (show j < 7 by omega) ?_
      have hq : Q (some (.int (nI (tI (gT G) j)))) M := hq
      rw [← c1.2.2.2.2.1 j hj] at hq
      exact hq
    · rw [sw_ix (by omega) (by omega) e] at hq
      refine zix j ej (show j < 7 by omega) ?_
      have hq : Q (some (.int (nI (tY (gT G) j)))) M := hq
      rw [← c1.2.2.2.2.2.1 j hj] at hq
      exact hq
    · rw [sw_ix (by omega) (by omega) e] at hq
      have hq : Q (some (.int (nI (aHe (gA G) j)))) M := hq
      rw [← c2.2.2.2.2.1 j (by omega)] at hq
      exact k_X0_heardBy ej (by omega) hq
    · rw [sw_ix (by omega) (by omega) e] at hq
      have hq : Q (some (.int (nI (aFe (gA G) j)))) M := hq
      rw [← c2.2.2.2.2.2.1 j (by omega)] at hq
      exact k_X0_feudsOf ej (by omega) hq
    · rw [sw_out (by omega) e] at hq
      exact hq
  · unfold o_street at hq
    rw [ix_out (by omega) ho] at hq
    exact hq
theorem km_street {Q : Option Value → zM → Prop} {G : zG} {M : zM} {a w : Int32} (hC : zD G M) (hV : zV G) (hq : Q (some (.int (o_street G a w))) M) : zCon fX11_street [.ref 47, .int a, .int w] M Q := by
  obtain ⟨c1, c2, c3, c4, c5, c6, c7, c8, c9⟩ := id hC
  have hS := zTv_S hV.1
  refine zc_of zkX11_street [] 60 (Nat.le_of_ble_eq_true rfl) ?_
  refine k_X11_isStreet (by omega) c1.2.1 (fun j hj ej => cT ?_) (fun ho => cF ?_)
  · unfold o_street at hq
    rw [show ix a (tS (gT G)) = some j by rw [ej]; exact ix_in hj (by omega)] at hq
    refine sw4 (fun e => ?_) (fun e => ?_) (fun e => ?_) (fun e => ?_) (fun e => ?_)
    · rw [sw_ix (by omega) (by omega) e] at hq
      refine zix j ej (show j < 7 by omega) ?_
      have hq : Q (some (.int (nI (tI (gT G) j)))) M := hq
      rw [← c1.2.2.2.1 j hj] at hq
      exact hq
    · rw [sw_ix (by omega) (by omega) e] at hq
      refine zix j ej (show j < 7 by omega) ?_
      have hq : Q (some (.int (nI (tY (gT G) j)))) M := hq
      rw [← c1.2.2.2.2.1 j hj] at hq
      exact hq
    · rw [sw_ix (by omega) (by omega) e] at hq
      have hq : Q (some (.int (nI (aHe (gA G) j)))) M := hq
      rw [← c2.2.2.2.2.1 j (by omega)] at hq
      exact zix (11 + j) (a_add rfl ej) (show 11 + j < 88 by omega) hq
    · rw [sw_ix (by omega) (by omega) e] at hq
      have hq : Q (some (.int (nI (aFe (gA G) j)))) M := hq
      rw [← c2.2.2.2.2.2.1 j (by omega)] at hq
      exact zix (18 + j) (a_add rfl ej) (show 18 + j < 88 by omega) hq
    · rw [sw_out (by omega) e] at hq
      exact hq
  · unfold o_street at hq
    rw [ix_out (by omega) ho] at hq
    exact hq
def o_corner (G : zG) (i w : Int32) : Int32 := match ix i (tC (gT G)) with
  | none => cUNK
  | some i => match ix w 7 with
    | some 0 => nI (tA (gT G) i)
    | some 1 => nI (tB (gT G) i)
    | some 2 => nI (aSo (gA G) i)
    | some 3 => nI (tK (gT G) i)
    | some 4 => nI (tL (gT G) i)
    | some 5 => nI (tP (gT G) i)
    | some 6 => zbl ((aS (gA G)).testBit i)
    | _ => cOUT
theorem kc_corner {Q : Option Value → zM → Prop} {G : zG} {M : zM} {a w : Int32} (hC : zC G M) (hV : zV G) (hq : Q (some (.int (o_corner G a w))) M) : zCon fX10_corner [.ref 0, .int a, .int w] M Q := by
  obtain ⟨c1, c2, c3, c4, c5, c6, c7, c8, c9⟩ := id hC
  have hS := zTv_C hV.1
  refine zc_of zkX10_corner [] 60 (Nat.le_of_ble_eq_true rfl) ?_
  refine k_X8_hasCorner (by omega) c1.2.2.1 (fun j hj ej => cT ?_) (fun ho => cF ?_)
  · unfold o_corner at hq
    rw [show ix a (tC (gT G)) = some j by rw [ej]; exact ix_in hj (by omega)] at hq
    refine sw7 (fun e => ?_) (fun e => ?_) (fun e => ?_) (fun e => ?_) (fun e => ?_) (fun e => ?_) (fun e => ?_) (fun e => ?_)
    · rw [sw_ix (by omega) (by omega) e] at hq
      have hq : Q (some (.int (nI (tA (gT G) j)))) M := hq
      rw [← c1.2.2.2.2.2.2.1 j hj] at hq
      exact zix j ej (show j < 10 by omega) hq
    · rw [sw_ix (by omega) (by omega) e] at hq
      have hq : Q (some (.int (nI (tB (gT G) j)))) M := hq
      rw [← c1.2.2.2.2.2.2.2.1 j hj] at hq
      exact zix j ej (show j < 10 by omega) hq
    · rw [sw_ix (by omega) (by omega) e] at hq
      have hq : Q (some (.int (nI (aSo (gA G) j)))) M := hq
      rw [← c2.2.2.2.2.2.2.1 j hj] at hq
      exact k_X0_sortOf ej (by omega) hq
    · rw [sw_ix (by omega) (by omega) e] at hq
      have hq : Q (some (.int (nI (tK (gT G) j)))) M := hq
      rw [← c1.2.2.2.2.2.2.2.2.1 j hj] at hq
      exact zix j ej (show j < 10 by omega) hq
    · rw [sw_ix (by omega) (by omega) e] at hq
      have hq : Q (some (.int (nI (tL (gT G) j)))) M := hq
      rw [← c1.2.2.2.2.2.2.2.2.2.1 j hj] at hq
      exact zix j ej (show j < 10 by omega) hq
    · rw [sw_ix (by omega) (by omega) e] at hq
      have hq : Q (some (.int (nI (tP (gT G) j)))) M := hq
      rw [← c1.2.2.2.2.2.2.2.2.2.2 j hj] at hq
      exact zix j ej (show j < 10 by omega) hq
    · rw [sw_ix (by omega) (by omega) e] at hq
      have hq : Q (some (.int (zbl ((aS (gA G)).testBit j)))) M := hq
      refine k_X0_isShut ej (by omega) c2.2.2.1 (vA_S hV.1 hV.2.1) (fun q => bT ?_) (fun q => bF ?_)
      · rw [q] at hq; exact hq
      · rw [q] at hq; exact hq
    · rw [sw_out (by omega) e] at hq
      exact hq
  · unfold o_corner at hq
    rw [ix_out (by omega) ho] at hq
    exact hq
theorem km_corner {Q : Option Value → zM → Prop} {G : zG} {M : zM} {a w : Int32} (hC : zD G M) (hV : zV G) (hq : Q (some (.int (o_corner G a w))) M) : zCon fX11_corner [.ref 47, .int a, .int w] M Q := by
  obtain ⟨c1, c2, c3, c4, c5, c6, c7, c8, c9⟩ := id hC
  have hS := zTv_C hV.1
  refine zc_of zkX11_corner [] 60 (Nat.le_of_ble_eq_true rfl) ?_
  refine k_X11_isCorner (by omega) c1.2.2.1 (fun j hj ej => cT ?_) (fun ho => cF ?_)
  · unfold o_corner at hq
    rw [show ix a (tC (gT G)) = some j by rw [ej]; exact ix_in hj (by omega)] at hq
    refine sw7 (fun e => ?_) (fun e => ?_) (fun e => ?_) (fun e => ?_) (fun e => ?_) (fun e => ?_) (fun e => ?_) (fun e => ?_)
    · rw [sw_ix (by omega) (by omega) e] at hq
      have hq : Q (some (.int (nI (tA (gT G) j)))) M := hq
      rw [← c1.2.2.2.2.2.1 j hj] at hq
      exact zix j ej (show j < 10 by omega) hq
    · rw [sw_ix (by omega) (by omega) e] at hq
      have hq : Q (some (.int (nI (tB (gT G) j)))) M := hq
      rw [← c1.2.2.2.2.2.2.1 j hj] at hq
      exact zix j ej (show j < 10 by omega) hq
    · rw [sw_ix (by omega) (by omega) e] at hq
      have hq : Q (some (.int (nI (aSo (gA G) j)))) M := hq
      rw [← c2.2.2.2.2.2.2.1 j hj] at hq
      exact zix j (by rw [ej, n_0, nI_add, Nat.zero_add]) (show j < 88 by omega) hq
    · rw [sw_ix (by omega) (by omega) e] at hq
      have hq : Q (some (.int (nI (tK (gT G) j)))) M := hq
      rw [← c1.2.2.2.2.2.2.2.1 j hj] at hq
      exact zix j ej (show j < 10 by omega) hq
    · rw [sw_ix (by omega) (by omega) e] at hq
      have hq : Q (some (.int (nI (tL (gT G) j)))) M := hq
      rw [← c1.2.2.2.2.2.2.2.2.1 j hj] at hq
      exact zix j ej (show j < 10 by omega) hq
    · rw [sw_ix (by omega) (by omega) e] at hq
      have hq : Q (some (.int (nI (tP (gT G) j)))) M := hq
      rw [← c1.2.2.2.2.2.2.2.2.2 j hj] at hq
      exact zix j ej (show j < 10 by omega) hq
    · rw [sw_ix (by omega) (by omega) e] at hq
      have hq : Q (some (.int (zbl ((aS (gA G)).testBit j)))) M := hq
      have hs := vA_S hV.1 hV.2.1
      refine k_X11_isOpen ej (by omega) c2.2.2.1 (by omega) (fun q => bT ?_) (fun q => bF ?_)
      · rw [q] at hq; exact hq
      · rw [q] at hq; exact hq
    · rw [sw_out (by omega) e] at hq
      exact hq
  · unfold o_corner at hq
    rw [ix_out (by omega) ho] at hq
    exact hq
def o_logged (G : zG) (i w : Int32) : Int32 := match ix w 4 with
  | none => cOUT
  | some w => match ix i (aL (gA G)) with
    | none => -1
    | some i => nI ((gA G).2 (3 + w) i)
theorem kc_logged {Q : Option Value → zM → Prop} {G : zG} {M : zM} {i w : Int32} (hC : zC G M) (hV : zV G) (hq : Q (some (.int (o_logged G i w))) M) : zCon fX10_logged [.ref 0, .int i, .int w] M Q := by
  obtain ⟨c1, c2, c3, c4, c5, c6, c7, c8, c9⟩ := id hC
  have hL := hV.2.1.2.2.2.1
  refine zc_of zkX10_logged [] 60 (Nat.le_of_ble_eq_true rfl) ?_
  have bad : zout w 4 → Q (some (.int cOUT)) M := fun ho => by
    unfold o_logged at hq; rw [ix_out (by omega) ho] at hq; exact hq
  refine br (fun d => bad (zout_of (by omega) (Or.inl d))) (fun d1 => br (fun d2 => ?_) (fun d => bad (zout_of (by omega) (Or.inr d))))
  obtain ⟨k, hk, ek⟩ := numLt (n := 4) (by omega) d1 d2
  unfold o_logged at hq
  rw [show ix w 4 = some k by rw [ek]; exact ix_in hk (by omega)] at hq
  have bad2 : zout i (aL (gA G)) → Q (some (.int (-1))) M := fun ho => by
    rw [ix_out (by omega) ho] at hq; exact hq
  refine br (fun d => bad2 (zout_of (by omega) (Or.inl d))) (fun d3 => ?_)
  refine k_X0_logCount ?_
  rw [c2.2.2.2.1]
  refine br (fun d4 => ?_) (fun d => bad2 (zout_of (by omega) (Or.inr d)))
  obtain ⟨e, he, ee⟩ := numLt (n := aL (gA G)) (by omega) d3 d4
  rw [show ix i (aL (gA G)) = some e by rw [ee]; exact ix_in he (by omega)] at hq
  refine k_X0_logEntry ee ek (by omega) hk ?_
  rw [c2.2.2.2.2.2.2.2 e he k hk]
  exact hq
theorem km_logged {Q : Option Value → zM → Prop} {G : zG} {M : zM} {i w : Int32} (hC : zD G M) (hV : zV G) (hq : Q (some (.int (o_logged G i w))) M) : zCon fX11_logged [.ref 47, .int i, .int w] M Q := by
  obtain ⟨c1, c2, c3, c4, c5, c6, c7, c8, c9⟩ := id hC
  have hL := hV.2.1.2.2.2.1
  have hS := zTv_S hV.1
  refine zc_of zkX11_logged [] 60 (Nat.le_of_ble_eq_true rfl) ?_
  refine k_in (S := 4) (by omega) l0_ (by decide) (fun k hk ek => cT ?_) (fun ho => cF ?_)
  · unfold o_logged at hq
    rw [show ix w 4 = some k by rw [ek]; exact ix_in hk (by omega)] at hq
    refine zix 27 rfl (by decide) ?_
    refine k_in (S := aL (gA G)) (by omega) l0_ (sub1 (by omega) c2.2.2.2.1) (fun e he ee => cT ?_) (fun ho => cF ?_)
    · rw [show ix i (aL (gA G)) = some e by rw [ee]; exact ix_in he (by omega)] at hq
      obtain ⟨q1, q2, q3⟩ := c2.2.2.2.2.2.2.2 e he
      obtain ⟨w1, w2, w3, w4⟩ := hV.2.1.2.2.2.2.2.2.2.1 e he
      have e3 : M 56 27 - 1 - i = nI (aL (gA G) - 1 - e) := a_sub (a_sub c2.2.2.2.1 n_1 (by omega)) ee (by omega)
      have hq : Q (some (.int (nI ((gA G).2 (3 + k) e)))) M := hq
      refine zix 27 rfl (by decide) ?_
      refine iNe ek n_0 (by omega) (by omega) (fun d => ?_) (fun d => ?_)
      · refine iNe ek n_1 (by omega) (by omega) (fun d2 => ?_) (fun d2 => ?_)
        · refine iNe ek n_2 (by omega) (by omega) (fun d3 => ?_) (fun d3 => ?_)
          · have : k = 3 := by omega
            subst this
            rw [← q3] at hq
            exact zix (68 + (aL (gA G) - 1 - e)) (a_add rfl e3) (show 68 + (aL (gA G) - 1 - e) < 88 by omega) hq
          · subst d3
            rw [← q2] at hq
            exact zix (48 + (aL (gA G) - 1 - e)) (a_add rfl e3) (show 48 + (aL (gA G) - 1 - e) < 88 by omega) hq
        · subst d2
          refine zix (28 + (aL (gA G) - 1 - e)) (a_add rfl e3) (show 28 + (aL (gA G) - 1 - e) < 88 by omega) ⟨by decide, ?_⟩
          rw [a_rem q1 n_10 (by omega) (by omega) (by omega), show (10 * (gA G).2 3 e + (gA G).2 4 e) % 10 = (gA G).2 4 e by omega]
          exact hq
      · subst d
        refine zix (28 + (aL (gA G) - 1 - e)) (a_add rfl e3) (show 28 + (aL (gA G) - 1 - e) < 88 by omega) ⟨by decide, ?_⟩
        rw [a_div q1 n_10 (by omega) (by omega) (by omega), show (10 * (gA G).2 3 e + (gA G).2 4 e) / 10 = (gA G).2 3 e by omega]
        exact hq
    · rw [ix_out (by omega) ho] at hq; exact hq
  · unfold o_logged at hq; rw [ix_out (by omega) ho] at hq; exact hq
