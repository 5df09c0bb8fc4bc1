/-! say -/
def aSaid (T : zTn) (a : zAf) (i : Nat) (b : Bool) (v : Nat) : zAf := aHear T (aPay a (tP T i)) (bif b then tB T i else tA T i) (bif b then tA T i else tB T i) v (mpd (ovr T a i b) 4 v)
def o_say (G : zG) (i : Int32) (b : Bool) (s : Int32) : Int32 × zG := match ix i (tC (gT G)) with
  | none => (cUNK, G)
  | some i => if sayB (tN (gT G)) s = false then (cOUT, G) else if (aS (gA G)).testBit i = true then (cNOT, G) else (nI (mpd (ovr (gT G) (gA G) i b) 4 (sayN s)), stp G (aSaid (gT G) (gA G) i b (sayN s)))
theorem sayB_is {N : Nat} {s : Int32} (h : sayB N s = true) : isSay N (sayN s) := by
  unfold sayB at h
  simp only [Bool.and_eq_true, decide_eq_true_eq] at h
  exact ⟨h.2.1, h.2.2.1, h.2.2.2⟩
theorem said_ok {T : zTn} {a : zAf} {i v : Nat} {b : Bool} (hv : zTv T) (hi : i < tC T) (hs : isSay (tN T) v) : isSay (tN T) (mpd (ovr T a i b) 4 v) := mpd_say (zTv_N hv) (fun _ hw => ovr_lt hv hi hw) hs
theorem vA_said {T : zTn} {a : zAf} {i v : Nat} {b : Bool} (hv : zTv T) (ha : vA T a) (hi : i < tC T) (hs : isSay (tN T) v) : vA T (aSaid T a i b v) := by
  obtain ⟨i1, i2, i3, i4, i5, i6⟩ := zTv_i hv hi
  cases b with
  | true => exact vA_hear hv (vA_pay ha) (fun q => i3 q.symm) i2 i1 hs.2.1 (said_ok hv hi hs).2.1
  | false => exact vA_hear hv (vA_pay ha) i3 i1 i2 hs.2.1 (said_ok hv hi hs).2.1
theorem v_say {G : zG} {i s : Int32} {b : Bool} (h : zV G) : zV (o_say G i b s).2 := by
  unfold o_say
  split
  · exact h
  · next i hi =>
    split
    · exact h
    · next q =>
      split
      · exact h
      · exact v_stp h (vA_said h.1 h.2.1 (ix_some hi) (sayB_is (by simpa using q)))
theorem kc_say {Q : Option Value → zM → Prop} {G : zG} {M : zM} {i s : Int32} {b : Bool} (hC : zC G M) (hV : zV G) (hq : ∀ M', zC (o_say G i b s).2 M' → frM M M' → Q (some (.int (o_say G i b s).1)) M') : zCon fX10_say [.ref 0, .int i, .int (zbl b), .int s] M Q := by
  obtain ⟨c1, c2, c3, c4, c5, c6, c7, c8, c9⟩ := id hC
  have hCc := zTv_C hV.1
  have hN := zTv_N hV.1
  have hS := zTv_S hV.1
  refine zc_of zkX10_say [107] 90 (Nat.le_of_ble_eq_true rfl) ?_
  refine k_X8_hasCorner (by omega) c1.2.2.1 (fun j hj ej => cT ?_) (fun ho => cF ?_)
  · unfold o_say at hq
    rw [show ix i (tC (gT G)) = some j by rw [ej]; exact ix_in hj (by omega)] at hq
    dsimp only at hq
    obtain ⟨i1, i2, i3, i4, i5, i6⟩ := zTv_i hV.1 hj
    refine k_X8_hasSaying hN c1.1 (fun v ev hs => cT ?_) (fun ho => cF ?_)
    · obtain ⟨w1, w2⟩ := sayB_in ev hs
      rw [if_neg (by rw [w1]; decide), w2] at hq
      refine k_X0_isShut ej (by omega) c2.2.2.1 (vA_S hV.1 hV.2.1) (fun q => bT ?_) (fun q => bF ?_)
      · rw [if_pos q] at hq
        exact hq M hC (fun _ _ => rfl)
      · rw [if_neg (by rw [q]; decide)] at hq
        refine k_X5_remember hV.1 c2 hV.2.1 c3 hV.2.2.1 (fun M1 h1 h2 h3 => ?_)
        have e22 := h2 22 (by omega) (by omega)
        have hT1 : zTc (gT G) M1 := zTc_fr (fun k a b => h2 k (by omega) (by omega)) c1
        have ha1 : cA (gT G) (gA G) (M1 22) := by rw [e22]; exact c2
        have hh := said_ok (a := gA G) (b := b) hV.1 hj hs
        have J : ∀ x y, x = nI (bif b then tB (gT G) j else tA (gT G) j) → y = nI (bif b then tA (gT G) j else tB (gT G) j) → zEv fX10_say Q 107 [(0, .ref 0), (1, .int i), (2, .int (zbl b)), (3, .int s), (4, .int x), (5, .int y)] [] M1 := by
          intro x y hx hy
          refine zev_go zkX10_say [] 60 ?_
          refine k_X2_sayingOver hV.1 hT1 ha1 hV.2.1 ej hj ev hs ?_
          refine zix j ej (show j < 10 by omega) ?_
          refine k_X0_pay (hT1.2.2.2.2.2.2.2.2.2.2 j hj) ha1.1 (by omega) (by have := hV.2.1.1; omega) ?_
          refine k_X0_hear (T := gT G) (a := aPay (gA G) (tP (gT G) j)) hV.1 hT1 (cA_P ha1) (vA_pay hV.2.1) hx hy ev rfl ?_ ?_ ?_ hh.2.1 (fun g hg => ?_)
          · cases b with
            | true => exact i2
            | false => exact i1
          · cases b with
            | true => exact i1
            | false => exact i2
          · cases b with
            | true => exact fun q => i3 q.symm
            | false => exact i3
          · have e : zset (zu M1 22 0 (nI (min 999999 (aP (gA G) + tP (gT G) j)))) 22 g = zset M1 22 g := zset_u _ _ _ _
            rw [e]
            exact hq _ (zC_stp hC h1 h2 h3 hg) (fun k hk => by rw [zset_n _ _ (by omega), h2 k (by omega) (by omega)])
        cases b with
        | true => exact bT (zix j ej (show j < 10 by omega) (bT (zix j ej (show j < 10 by omega) (J _ _ (hT1.2.2.2.2.2.2.2.1 j hj) (hT1.2.2.2.2.2.2.1 j hj)))))
        | false => exact bF (zix j ej (show j < 10 by omega) (bF (zix j ej (show j < 10 by omega) (J _ _ (hT1.2.2.2.2.2.2.1 j hj) (hT1.2.2.2.2.2.2.2.1 j hj)))))
    · rw [if_pos (sayB_out ho)] at hq
      exact hq M hC (fun _ _ => rfl)
  · unfold o_say at hq
    rw [ix_out (by omega) ho] at hq
    exact hq M hC (fun _ _ => rfl)
theorem km_say {Q : Option Value → zM → Prop} {G : zG} {M : zM} {i s : Int32} {b : Bool} (hC : zD G M) (hV : zV G) (hq : ∀ M', zD (o_say G i b s).2 M' → frC M M' → Q (some (.int (o_say G i b s).1)) M') : zCon fX11_say [.ref 47, .int i, .int (zbl b), .int s] M Q := by
  obtain ⟨c1, c2, c3, c4, c5, c6, c7, c8, c9⟩ := id hC
  have hCc := zTv_C hV.1
  have hN := zTv_N hV.1
  have hS := zTv_S hV.1
  have hsh := vA_S hV.1 hV.2.1
  refine zc_of zkX11_say [] 90 (Nat.le_of_ble_eq_true rfl) ?_
  refine k_X11_isCorner (by omega) c1.2.2.1 (fun j hj ej => cT ?_) (fun ho => cF ?_)
  · unfold o_say at hq
    rw [show ix i (tC (gT G)) = some j by rw [ej]; exact ix_in hj (by omega)] at hq
    dsimp only at hq
    obtain ⟨i1, i2, i3, i4, i5, i6⟩ := zTv_i hV.1 hj
    refine k_X11_isSaying hN c1.1 (fun v ev hs => cT ?_) (fun ho => cF ?_)
    · obtain ⟨w1, w2⟩ := sayB_in ev hs
      rw [if_neg (by rw [w1]; decide), w2] at hq
      refine k_X11_isOpen ej (by omega) c2.2.2.1 (by omega) (fun q => cT ?_) (fun q => cF ?_)
      · rw [if_neg (by rw [q]; decide)] at hq
        refine k_X11_remember hV.1 c2 hV.2.1 c3 hV.2.2.1 (fun M1 h1 h2 h3 => ?_)
        have e56 := h2 56 (by omega) (by omega)
        have hT1 : zTm (gT G) M1 := zTm_fr ⟨h3 _ (by omega), h3 _ (by omega), h3 _ (by omega)⟩ (fun k a b => h2 k (by omega) (by omega)) c1
        have ha1 : mA (gT G) (gA G) (M1 56) := by rw [e56]; exact c2
        have hh := said_ok (a := gA G) (b := b) hV.1 hj hs
        refine k_X11_sayingOver hV.1 hT1 ha1 hV.2.1 ej hj ev hs ?_
        refine zix j ej (show j < 10 by omega) ?_
        refine k_X11_pay (hT1.2.2.2.2.2.2.2.2.2 j hj) ha1.1 (by omega) (by have := hV.2.1.1; omega) ?_
        have fin : ∀ x y (Q' : Option Value → zM → Prop), x = nI (bif b then tB (gT G) j else tA (gT G) j) → y = nI (bif b then tA (gT G) j else tB (gT G) j) → (∀ g, mA (gT G) (aSaid (gT G) (gA G) j b v) g → Q' none (zset M1 56 g)) → zCon fX11_hear [.ref 47, .int x, .int y, .int s, .int (nI (mpd (ovr (gT G) (gA G) j b) 4 v))] (zu M1 56 25 (nI (min 999999 (aP (gA G) + tP (gT G) j)))) Q' := by
          intro x y Q' hx hy hk
          refine k_X11_hear (T := gT G) (a := aPay (gA G) (tP (gT G) j)) hV.1 hT1 (mA_P hCc ha1) (vA_pay hV.2.1) hx hy ev rfl ?_ ?_ ?_ hh.2.1 (fun g hg => ?_)
          · cases b with
            | true => exact i2
            | false => exact i1
          · cases b with
            | true => exact i1
            | false => exact i2
          · cases b with
            | true => exact fun q => i3 q.symm
            | false => exact i3
          · have e : zset (zu M1 56 25 (nI (min 999999 (aP (gA G) + tP (gT G) j)))) 56 g = zset M1 56 g := zset_u _ _ _ _
            rw [e]
            exact hk g hg
        have done : ∀ g, mA (gT G) (aSaid (gT G) (gA G) j b v) g → Q (some (.int (nI (mpd (ovr (gT G) (gA G) j b) 4 v)))) (zset M1 56 g) := fun g hg => hq _ (zD_stp hC h1 h2 h3 hg) (fun k hk => by rw [zset_n _ _ (by omega), h2 k (by omega) (by omega)])
        cases b with
        | true => exact bT (zix j ej (show j < 10 by omega) (bT (zix j ej (show j < 10 by omega) (fin _ _ _ (hT1.2.2.2.2.2.2.1 j hj) (hT1.2.2.2.2.2.1 j hj) done))))
        | false => exact bF (zix j ej (show j < 10 by omega) (bF (zix j ej (show j < 10 by omega) (fin _ _ _ (hT1.2.2.2.2.2.1 j hj) (hT1.2.2.2.2.2.2.1 j hj) done))))
      · rw [if_pos q] at hq
        exact hq M hC (fun _ _ => rfl)
    · rw [if_pos (sayB_out ho)] at hq
      exact hq M hC (fun _ _ => rfl)
  · unfold o_say at hq
    rw [ix_out (by omega) ho] at hq
    exact hq M hC (fun _ _ => rfl)
