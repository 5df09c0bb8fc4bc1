/-! which word to try next -/
theorem take_succ' {l : List Nat} {i c : Nat} (h : l[i]? = some c) : l.take (i + 1) = l.take i ++ [c] := by
  rw [List.take_add_one, h]; rfl
theorem k_X3_greatestPart {Q : Option Value → zM → Prop} {M : zM} {x y : Int32} {N w : Nat} {l : List Nat} (hN : 0 < N) (hN8 : N ≤ 8) (hM : M 1 1 = nI N) (hl : l.length ≤ 256) (hr : rwH l (M 42)) (hok : ∀ c, c ∈ l → c < 400 ∧ c / 10 % 10 < N ∧ c % 10 < N) (hx : x = nI l.length) (hy : y = nI w) (hw : w < N) (h : ∀ g, Q (some (.int (nI (gp N w l).2))) (zset M 43 g)) : zCon fX3_greatestPart [.ref 39, .int x, .int y] M Q := by
  refine zc_of zkX3_greatestPart [13] 60 (Nat.le_of_ble_eq_true rfl) (k_fill_43 ?_)
  have L : ∀ i, i ≤ l.length → ∀ u m g, u = nI i → m = nI (gp N w (l.take i)).2 → (∀ v, v < 8 → g v = nI ((gp N w (l.take i)).1 v)) → zEv fX3_greatestPart Q 13 [(0, .ref 39), (1, .int x), (2, .int y), (3, .int m), (4, .int u)] [] (zset M 43 g) := by
    refine zloop l.length ?_ ?_
    · intro u m g hu hm hg
      refine zev_go zkX3_greatestPart [13] 60 (iGe hu hx (by omega) (by omega) (fun _ => ?_) (fun q => absurd q (by omega)))
      rw [List.take_length] at hm
      have h' := h g
      rw [← hm] at h'
      exact h'
    · intro i hi ih u m g hu hm hg
      obtain ⟨c, hc⟩ : ∃ c, l[i]? = some c := ⟨_, List.getElem?_eq_getElem hi⟩
      have er : M 42 i = nI c := hr i c hc
      obtain ⟨o1, o2, o3⟩ := hok c (List.mem_of_getElem? hc)
      have ol := ov_lt (s := c / 100) (b := false) hN o2 o3 hw
      obtain ⟨g1, g2⟩ := gp_bd N w (l.take i)
      have ht : (l.take i).length ≤ 256 := by rw [List.length_take]; omega
      have g1v := g1 (ov N (c / 100) (c / 10 % 10) (c % 10) false w)
      refine zev_go zkX3_greatestPart [13] 60 (iGe hu hx (by omega) (by omega) (fun q => absurd q (by omega)) (fun _ => ?_))
      refine zix i hu (show i < 256 by omega) ⟨by decide, zix i hu (show i < 256 by omega) ⟨by decide, by decide, zix i hu (show i < 256 by omega) ⟨by decide, ?_⟩⟩⟩
      refine k_putOver (b := false) (s := c / 100) (k := c / 10 % 10) (l := c % 10) (a_div er n_100 (by omega) (by omega) (by omega)) (a_rem (a_div er n_10 (by omega) (by omega) (by omega)) n_10 (by omega) (by omega) (by omega)) (a_rem er n_10 (by omega) (by omega) (by omega)) hM hy (by omega) hN hN8 o2 o3 hw ?_
      have ep : (zset M 43 g) 43 (ov N (c / 100) (c / 10 % 10) (c % 10) false w) = nI ((gp N w (l.take i)).1 (ov N (c / 100) (c / 10 % 10) (c % 10) false w)) := by rw [zset_s]; exact hg _ (by omega)
      refine zix (ov N (c / 100) (c / 10 % 10) (c % 10) false w) rfl (show ov N (c / 100) (c / 10 % 10) (c % 10) false w < 8 by omega) (zix (ov N (c / 100) (c / 10 % 10) (c % 10) false w) rfl (show ov N (c / 100) (c / 10 % 10) (c % 10) false w < 8 by omega) (zix (ov N (c / 100) (c / 10 % 10) (c % 10) false w) rfl (show ov N (c / 100) (c / 10 % 10) (c % 10) false w < 8 by omega) ?_))
      rw [a_add ep n_1, zu_at]
      have eu : ∀ z, zu (zset M 43 g) 43 (ov N (c / 100) (c / 10 % 10) (c % 10) false w) z = zset M 43 (upd g (ov N (c / 100) (c / 10 % 10) (c % 10) false w) z) := fun z => by unfold zu; rw [zset_s, zset_u]
      rw [eu]
      refine zev_pick [0, 1, 2, 3, 4] (ih _ _ _ (by rw [hu, nI_1]) ?_ (fun v hv => ?_))
      · rw [take_succ' hc, gp_app, a_max hm rfl (by omega) (by omega)]; rfl
      · rw [take_succ' hc, gp_app]
        show _ = nI (nup _ _ _ v)
        by_cases q : v = ov N (c / 100) (c / 10 % 10) (c % 10) false w
        · rw [q, pk_us, nup_s]
        · rw [pk_un q, nup_n _ _ q]; exact hg v hv
  refine L 0 (by omega) 0 0 _ rfl rfl (fun v hv => ?_)
  unfold zfill; rw [if_pos hv]; rfl
theorem k_X11_greatestPart {Q : Option Value → zM → Prop} {M : zM} {y : Int32} {N w : Nat} {sn : Nat × (Nat → Nat) × (Nat → Nat)} (hN : 0 < N) (hN8 : N ≤ 8) (hM : M 47 0 = nI N) (hS : mSn sn M) (hn : sn.1 ≤ 6) (hv : ∀ j, j < sn.1 → sn.2.1 j < N ∧ sn.2.2 j < N) (hy : y = nI w) (hw : w < N) (h : ∀ g, Q (some (.int (nI (gp N w (Fl N sn 400)).2))) (zset M 66 g)) : zCon fX11_greatestPart [.ref 47, .int y] M Q := by
  have L2 : ∀ c, c ≤ 400 → ∀ u m g, u = nI c → m = nI (gp N w (Fl N sn c)).2 → (∀ v, v < 9 → g v = nI ((gp N w (Fl N sn c)).1 v)) → zEv fX11_greatestPart Q 25 [(0, .ref 47), (1, .int y), (2, .int m), (3, .int u)] [] (zset M 66 g) := by
    refine zloop 400 ?_ ?_
    · intro u m g hu hm hg
      refine zev_go zkX11_greatestPart [25] 60 (iGe hu n_400 (by omega) (by decide) (fun _ => ?_) (fun q => absurd q (by omega)))
      have h' := h g
      rw [← hm] at h'
      exact h'
    · intro c hc ih u m g hu hm hg
      obtain ⟨g1, g2⟩ := gp_bd N w (Fl N sn c)
      have hlen := Fl_len (N := N) (sn := sn) c
      have g1v := g1 (ov N (c / 100) (c / 10 % 10) (c % 10) false w)
      refine zev_go zkX11_greatestPart [25] 60 (iGe hu n_400 (by omega) (by decide) (fun q => absurd q (by omega)) (fun _ => ?_))
      refine k_X11_couldSlip (sn := sn) hN8 hM (mSn_fr rfl rfl rfl hS) hn hv hu hc (fun q => bT ⟨by decide, by decide, by decide, by decide, ?_⟩) (fun q => bF ?_)
      · have e : Fl N sn (c + 1) = Fl N sn c ++ [c] := by show (bif okS N sn c then _ else _) = _; rw [q]; rfl
        obtain ⟨o2, o3⟩ := okS_bd q
        have ol := ov_lt (s := c / 100) (b := false) hN o2 o3 hw
        refine k_slipBy (s := c / 100) (k := c / 10 % 10) (l := c % 10) (N := N) (a_div hu n_100 (by omega) (by omega) (by omega)) (a_rem (a_div hu n_10 (by omega) (by omega) (by omega)) n_10 (by omega) (by omega) (by omega)) (a_rem hu n_10 (by omega) (by omega) (by omega)) hy (by omega) hN hN8 hM o2 o3 hw ?_
        have ep : (zset M 66 g) 66 (ov N (c / 100) (c / 10 % 10) (c % 10) false w) = nI ((gp N w (Fl N sn c)).1 (ov N (c / 100) (c / 10 % 10) (c % 10) false w)) := by rw [zset_s]; exact hg _ (by omega)
        refine zix (ov N (c / 100) (c / 10 % 10) (c % 10) false w) rfl (show ov N (c / 100) (c / 10 % 10) (c % 10) false w < 9 by omega) (zix (ov N (c / 100) (c / 10 % 10) (c % 10) false w) rfl (show ov N (c / 100) (c / 10 % 10) (c % 10) false w < 9 by omega) (zix (ov N (c / 100) (c / 10 % 10) (c % 10) false w) rfl (show ov N (c / 100) (c / 10 % 10) (c % 10) false w < 9 by omega) ?_))
        have eu : ∀ z, zu (zset M 66 g) 66 (ov N (c / 100) (c / 10 % 10) (c % 10) false w) z = zset M 66 (upd g (ov N (c / 100) (c / 10 % 10) (c % 10) false w) z) := fun z => by unfold zu; rw [zset_s, zset_u]
        rw [a_add ep n_1, eu]
        have fin : ∀ m', m' = nI (max (gp N w (Fl N sn c)).2 ((gp N w (Fl N sn c)).1 (ov N (c / 100) (c / 10 % 10) (c % 10) false w) + 1)) → zEv fX11_greatestPart Q 25 [(0, .ref 47), (1, .int y), (2, .int m'), (3, .int (u + 1))] [] (zset M 66 (upd g (ov N (c / 100) (c / 10 % 10) (c % 10) false w) (nI ((gp N w (Fl N sn c)).1 (ov N (c / 100) (c / 10 % 10) (c % 10) false w) + 1)))) := by
          intro m' hm'
          refine ih _ _ _ (by rw [hu, nI_1]) ?_ (fun v hv => ?_)
          · rw [e, gp_app]; exact hm'
          · rw [e, gp_app]
            show _ = nI (nup _ _ _ v)
            by_cases q : v = ov N (c / 100) (c / 10 % 10) (c % 10) false w
            · rw [q, pk_us, nup_s]
            · rw [pk_un q, nup_n _ _ q]; exact hg v hv
        have e9 : (zset M 66 (upd g (ov N (c / 100) (c / 10 % 10) (c % 10) false w) (nI ((gp N w (Fl N sn c)).1 (ov N (c / 100) (c / 10 % 10) (c % 10) false w) + 1)))) 66 (ov N (c / 100) (c / 10 % 10) (c % 10) false w) = nI ((gp N w (Fl N sn c)).1 (ov N (c / 100) (c / 10 % 10) (c % 10) false w) + 1) := by rw [zset_s, pk_us]
        refine iGe hm e9 (by omega) (by omega) (fun d => ?_) (fun d => zix (ov N (c / 100) (c / 10 % 10) (c % 10) false w) rfl (show ov N (c / 100) (c / 10 % 10) (c % 10) false w < 9 by omega) ?_)
        · refine zev_pick [0, 1, 2, 3] (fin _ ?_)
          rw [Nat.max_eq_left d]; exact hm
        · refine zev_pick [0, 1, 2, 3] (fin _ ?_)
          rw [Nat.max_eq_right (by omega)]; exact e9
      · have e : Fl N sn (c + 1) = Fl N sn c := by show (bif okS N sn c then _ else _) = _; rw [q]; rfl
        refine ih _ _ _ (by rw [hu, nI_1]) ?_ (fun v hv => ?_)
        · rw [e]; exact hm
        · rw [e]; exact hg v hv
  have L1 : ∀ k, k ≤ 9 → ∀ x, x = nI k → zEv fX11_greatestPart Q 4 [(0, .ref 47), (1, .int y), (2, .int 0), (3, .int x)] [] (zset M 66 (zfill (M 66) k 0)) := by
    refine zloop 9 ?_ ?_
    · intro x hx
      refine zev_go zkX11_greatestPart [25] 60 (iGe hx n_9 (by omega) (by decide) (fun _ => ?_) (fun q => absurd q (by omega)))
      refine L2 0 (by omega) 0 0 _ rfl rfl (fun v hv => ?_)
      unfold zfill; rw [if_pos hv]; rfl
    · intro k hk ih x hx
      refine zev_go zkX11_greatestPart [4] 60 (iGe hx n_9 (by omega) (by decide) (fun q => absurd q (by omega)) (fun _ => zix k hx hk ?_))
      rw [zfill_s]
      exact ih _ (by rw [hx, nI_1])
  refine zc_of zkX11_greatestPart [4] 60 (Nat.le_of_ble_eq_true rfl) ?_
  rw [zfill_0 M 66 0]
  exact L1 0 (by omega) 0 rfl
/-- the first least -/
def bsl (f : Nat → Nat) (s : Nat) : Nat → Int32 × Nat
  | 0 => (-1, s)
  | n + 1 => if f n < (bsl f s n).2 then (nI n, f n) else bsl f s n
theorem bsl_le {f : Nat → Nat} {s c : Nat} (hs : s ≤ c) (h : ∀ k, f k ≤ c) : ∀ n, (bsl f s n).2 ≤ c
  | 0 => hs
  | n + 1 => by
    unfold bsl
    split
    · exact h n
    · exact bsl_le hs h n
def o_try (G : zG) : Int32 := (bsl (fun w => (gp (tN (gT G)) w (Fl (tN (gT G)) (gSn G) 400)).2) (Fl (tN (gT G)) (gSn G) 400).length (tN (gT G))).1
theorem kc_try {Q : Option Value → zM → Prop} {G : zG} {M : zM} (hC : zC G M) (hV : zV G) (hq : ∀ M', zC G M' → frM M M' → Q (some (.int (o_try G))) M') : zCon fX10_tryNext [.ref 0] M Q := by
  obtain ⟨c1, c2, c3, c4, c5, c6, c7, c8, c9⟩ := id hC
  have hN := zTv_N hV.1
  refine zc_of zkX10_tryNext [] 60 (Nat.le_of_ble_eq_true rfl) ?_
  refine zc_of zkX3_bestWord [12] 60 (Nat.le_of_ble_eq_true rfl) ?_
  refine k_X3_findRows hN c1.1 c8 hV.2.2.2.2.2.2.1.1 hV.2.2.2.2.2.2.1.2 (fun g hg hle => ?_)
  have gb : ∀ w, (gp (tN (gT G)) w (Fl (tN (gT G)) (gSn G) 400)).2 ≤ 256 := fun w => Nat.le_trans (gp_bd _ _ _).2 hle
  have L : ∀ w, w ≤ tN (gT G) → ∀ x b n M1, x = nI w → b = (bsl (fun w => (gp (tN (gT G)) w (Fl (tN (gT G)) (gSn G) 400)).2) (Fl (tN (gT G)) (gSn G) 400).length w).1 → n = nI (bsl (fun w => (gp (tN (gT G)) w (Fl (tN (gT G)) (gSn G) 400)).2) (Fl (tN (gT G)) (gSn G) 400).length w).2 → (∀ k, k ≠ 42 → k ≠ 43 → M1 k = M k) → M1 42 = g → ∀ (Q' : Option Value → zM → Prop), (∀ M2, (∀ k, k ≠ 42 → k ≠ 43 → M2 k = M k) → Q' (some (.int (o_try G))) M2) → zEv fX3_bestWord Q' 12 [(0, .ref 39), (1, .int (nI (Fl (tN (gT G)) (gSn G) 400).length)), (2, .int b), (3, .int n), (4, .int x)] [] M1 := by
    refine zloop (tN (gT G)) ?_ ?_
    · intro x b n M1 hx hb hn hf h42 Q' hk
      refine zev_go zkX3_bestWord [12] 60 (iGe hx (by rw [hf 1 (by omega) (by omega)]; exact c1.1) (by omega) (by omega) (fun _ => ?_) (fun q => absurd q (by omega)))
      have h' := hk M1 hf
      unfold o_try at h'
      rw [← hb] at h'
      exact h'
    · intro w hw ih x b n M1 hx hb hn hf h42 Q' hk
      have l1 := gb w
      have l2 := bsl_le (s := (Fl (tN (gT G)) (gSn G) 400).length) (c := 256) hle gb w
      have e11 : M1 1 1 = nI (tN (gT G)) := by rw [hf 1 (by omega) (by omega)]; exact c1.1
      refine zev_go zkX3_bestWord [12] 60 (iGe hx e11 (by omega) (by omega) (fun q => absurd q (by omega)) (fun _ => ?_))
      refine k_X3_greatestPart (N := tN (gT G)) (l := Fl (tN (gT G)) (gSn G) 400) (by omega) hN e11 hle (by rw [h42]; exact hg) (fun c hc => ⟨(Fl_ok hc).2, okS_bd (Fl_ok hc).1⟩) rfl hx hw (fun g' => ?_)
      have hf' : ∀ k, k ≠ 42 → k ≠ 43 → (zset M1 43 g') k = M k := fun k h1 h2 => by rw [zset_n _ _ h2]; exact hf k h1 h2
      refine iGe rfl hn (by omega) (by omega) (fun c => zev_pick [0, 1, 2, 3, 4] (ih _ _ _ _ (by rw [hx, nI_1]) ?_ ?_ hf' h42 Q' hk)) (fun c => zev_pick [0, 1, 2, 3, 4] (ih _ _ _ _ (by rw [hx, nI_1]) ?_ ?_ hf' h42 Q' hk))
      · unfold bsl; rw [if_neg (by omega)]; exact hb
      · unfold bsl; rw [if_neg (by omega)]; exact hn
      · unfold bsl; rw [if_pos c]; exact hx
      · unfold bsl; rw [if_pos c]
  refine L 0 (by omega) 0 (-1) _ (zset M 42 g) rfl rfl rfl (fun k h1 h2 => zset_n _ _ h1) (zset_s _ _ _) _ (fun M2 hf => ?_)
  exact hq M2 (zC_fr (fun k hk => hf k (by unfold zown1 at hk; omega) (by unfold zown1 at hk; omega)) hC) (fun k hk => hf k (by omega) (by omega))
theorem km_try {Q : Option Value → zM → Prop} {G : zG} {M : zM} (hC : zD G M) (hV : zV G) (hq : ∀ M', zD G M' → frC M M' → Q (some (.int (o_try G))) M') : zCon fX11_tryNext [.ref 47] M Q := by
  obtain ⟨c1, c2, c3, c4, c5, c6, c7, c8, c9⟩ := id hC
  have hN := zTv_N hV.1
  have hlen := Fl_len (N := tN (gT G)) (sn := gSn G) 400
  have gb : ∀ w, (gp (tN (gT G)) w (Fl (tN (gT G)) (gSn G) 400)).2 ≤ 400 := fun w => Nat.le_trans (gp_bd _ _ _).2 hlen
  have L : ∀ w, w ≤ tN (gT G) → ∀ x b n M1, x = nI w → b = (bsl (fun w => (gp (tN (gT G)) w (Fl (tN (gT G)) (gSn G) 400)).2) (Fl (tN (gT G)) (gSn G) 400).length w).1 → n = nI (bsl (fun w => (gp (tN (gT G)) w (Fl (tN (gT G)) (gSn G) 400)).2) (Fl (tN (gT G)) (gSn G) 400).length w).2 → (∀ k, k ≠ 66 → M1 k = M k) → zEv fX11_tryNext Q 10 [(0, .ref 47), (1, .int b), (2, .int n), (3, .int x)] [] M1 := by
    refine zloop (tN (gT G)) ?_ ?_
    · intro x b n M1 hx hb hn hf
      refine zev_go zkX11_tryNext [10] 60 (iGe hx (by rw [hf 47 (by omega)]; exact c1.1) (by omega) (by omega) (fun _ => ?_) (fun q => absurd q (by omega)))
      have h' := hq M1 (zD_fr (fun k hk => hf k (by unfold zown2 at hk; omega)) hC) (fun k hk => hf k (by omega))
      unfold o_try at h'
      rw [← hb] at h'
      exact h'
    · intro w hw ih x b n M1 hx hb hn hf
      have l1 := gb w
      have l2 := bsl_le (s := (Fl (tN (gT G)) (gSn G) 400).length) (c := 400) hlen gb w
      have e11 : M1 47 0 = nI (tN (gT G)) := by rw [hf 47 (by omega)]; exact c1.1
      refine zev_go zkX11_tryNext [10] 60 (iGe hx e11 (by omega) (by omega) (fun q => absurd q (by omega)) (fun _ => ?_))
      refine k_X11_greatestPart (N := tN (gT G)) (sn := gSn G) (by omega) hN e11 (mSn_fr (by rw [hf 47 (by omega)]) (hf 74 (by omega)) (hf 75 (by omega)) c8) hV.2.2.2.2.2.2.1.1 hV.2.2.2.2.2.2.1.2 hx hw (fun g' => ?_)
      have hf' : ∀ k, k ≠ 66 → (zset M1 66 g') k = M k := fun k h1 => by rw [zset_n _ _ h1]; exact hf k h1
      refine iGe rfl hn (by omega) (by omega) (fun c => ?_) (fun c => ?_)
      · refine iGe rfl hn (by omega) (by omega) (fun _ => zev_pick [0, 1, 2, 3] (ih _ _ _ _ (by rw [hx, nI_1]) ?_ ?_ hf')) (fun q => absurd q (by omega))
        · unfold bsl; rw [if_neg (by omega)]; exact hb
        · unfold bsl; rw [if_neg (by omega)]; exact hn
      · refine iGe rfl hn (by omega) (by omega) (fun q => absurd q (by omega)) (fun _ => zev_pick [0, 1, 2, 3] (ih _ _ _ _ (by rw [hx, nI_1]) ?_ ?_ hf'))
        · unfold bsl; rw [if_pos c]; exact hx
        · unfold bsl; rw [if_pos c]
  refine zc_of zkX11_tryNext [10] 60 (Nat.le_of_ble_eq_true rfl) ?_
  refine k_X11_slips (k := 0) (N := tN (gT G)) (sn := gSn G) hN c1.1 c8 hV.2.2.2.2.2.2.1.1 hV.2.2.2.2.2.2.1.2 rfl (by omega) ?_
  exact L 0 (by omega) 0 (-1) _ M rfl rfl rfl (fun _ _ => rfl)
