/-! origin, both -/
theorem k_X4_countOrigins {Q : Option Value → zM → Prop} {M : zM} {s : Nat → Nat} (hs : ∀ c, c < 7 → M 33 c = nI (s c) ∧ s c < 256) (h : Q (some (.int (nI (sm (fun x => pc (s x) 10) 7)))) M) : zCon fX4_countOrigins [.ref 31] M Q := by
  have L : ∀ i, i ≤ 7 → ∀ n x, n = nI (sm (fun x => pc (s x) 10) i) → x = nI i → zEv fX4_countOrigins Q 4 [(0, .ref 31), (1, .int n), (2, .int x)] [] M := by
    refine zloop 7 ?_ ?_
    · intro n x hn hx
      refine zev_go zkX4_countOrigins [4] 60 (iGe hx n_7 (by omega) (by decide) (fun _ => ?_) (fun q => absurd q (by omega)))
      rw [← hn] at h; exact h
    · intro i hi ih n x hn hx
      refine zev_go zkX4_countOrigins [4] 60 (iGe hx n_7 (by omega) (by decide) (fun q => absurd q (by omega)) (fun _ => zix i hx hi ?_))
      obtain ⟨e, b⟩ := hs i hi
      refine k_bitCount ?_
      exact ih _ _ (by rw [e, bc_pc (s i) (by omega), hn, nI_add]; rfl) (by rw [hx, nI_1])
  exact zc_of zkX4_countOrigins [4] 60 (Nat.le_of_ble_eq_true rfl) (L 0 (by omega) 0 0 rfl rfl)
theorem o_origin_u3 {G : zG} {b v n a : Int32} {j w : Nat} (hb : ix b (tS (gT G)) = some j) (hw : ix v (tN (gT G)) = some w) (h1 : a ≠ -1) (h2 : ix a (tS (gT G)) = none) : o_origin G b v n a = cUNK := by unfold o_origin; rw [hb, hw]; exact if_pos ⟨h1, h2⟩
theorem o_origin_u4 {G : zG} {b v n a : Int32} {j w : Nat} (hb : ix b (tS (gT G)) = some j) (hw : ix v (tN (gT G)) = some w) (h1 : ¬ (a ≠ -1 ∧ ix a (tS (gT G)) = none)) (h2 : ix n 10 = none) : o_origin G b v n a = cOUT := by unfold o_origin; rw [hb, hw]; dsimp only; rw [if_neg h1, h2]
theorem o_origin_c {G : zG} {b v n a : Int32} {j w m : Nat} (hb : ix b (tS (gT G)) = some j) (hw : ix v (tN (gT G)) = some w) (h1 : a = -1) (h3 : ix a (tS (gT G)) = none) (h2 : ix n 10 = some m) : o_origin G b v n a = nI (orN (gT G) (gA G) j w m) := by unfold o_origin; rw [hb, hw]; dsimp only; rw [if_neg (fun q => q.1 h1), h2, h3]
theorem o_origin_s {G : zG} {b v n a : Int32} {j w m c : Nat} (hb : ix b (tS (gT G)) = some j) (hw : ix v (tN (gT G)) = some w) (h3 : ix a (tS (gT G)) = some c) (h2 : ix n 10 = some m) : o_origin G b v n a = nI (orS (gT G) (gA G) j w m c) := by unfold o_origin; rw [hb, hw]; dsimp only; rw [if_neg (fun q => by rw [h3] at q; exact absurd q.2 (by simp)), h2, h3]
theorem kc_origin {Q : Option Value → zM → Prop} {G : zG} {M : zM} {b v n a : Int32} (hC : zC G M) (hV : zV G) (hq : ∀ M', zC G M' → frM M M' → Q (some (.int (o_origin G b v n a))) M') : zCon fX10_origin [.ref 0, .int b, .int v, .int n, .int a] M Q := by
  obtain ⟨c1, c2, c3, c4, c5, c6, c7, c8, c9⟩ := id hC
  have hN := zTv_N hV.1
  have hS := zTv_S hV.1
  refine zc_of zkX10_origin [40, 43] 60 (Nat.le_of_ble_eq_true rfl) ?_
  have unk : o_origin G b v n a = cUNK → zEv fX10_origin Q 40 [(0, .ref 0), (1, .int b), (2, .int v), (3, .int n), (4, .int a)] [] M := by
    intro e
    refine zev_go zkX10_origin [] 60 ?_
    have h' := hq M hC (fun _ _ => rfl)
    rw [e] at h'; exact h'
  refine k_X8_hasStreet (by omega) c1.2.1 (fun j hj e1 => bT ?_) (fun ho => bF (unk (o_origin_u1 (ix_out (by omega) ho))))
  have i1 : ix b (tS (gT G)) = some j := by rw [e1]; exact ix_in hj (by omega)
  refine k_X8_hasWord (by omega) c1.1 (fun w hw e2 => bT ?_) (fun ho => bF (unk (o_origin_u2 (ix_out (by omega) ho))))
  have i2 : ix v (tN (gT G)) = some w := by rw [e2]; exact ix_in hw (by omega)
  have go : ¬ (a ≠ -1 ∧ ix a (tS (gT G)) = none) → zEv fX10_origin Q 43 [(0, .ref 0), (1, .int b), (2, .int v), (3, .int n), (4, .int a)] [] M := by
    intro hna
    have out : zout n 10 → Q (some (.int cOUT)) M := fun ho => by
      have h' := hq M hC (fun _ _ => rfl)
      rw [o_origin_u4 i1 i2 hna (ix_out (by omega) ho)] at h'; exact h'
    refine zev_go zkX10_origin [] 60 (br (fun d0 => out (outLe (n := 9) (by omega) (Or.inl d0))) (fun d0 => nr (fun d1 => ?_) (fun d1 => out (outLe (n := 9) (by omega) (Or.inr d1)))))
    obtain ⟨m, hm, e3⟩ := numLe (n := 9) (by omega) d0 d1
    have i3 : ix n 10 = some m := by rw [e3]; exact ix_in hm (by omega)
    refine k_X4_findOrigins hV.1 c1 c2 hV.2.1 e1 hj e2 hw e3 hm (fun M' hf hg => ?_)
    have hC' : zC G M' := zC_fr (fun k hk => hf k (by unfold zown1 at hk; omega) (by unfold zown1 at hk; omega)) hC
    have h' := hq M' hC' (fun k hk => hf k (by omega) (by omega))
    refine nr (fun d => ?_) (fun d => ?_)
    · cases i4 : ix a (tS (gT G)) with
      | none => exact absurd ⟨d, i4⟩ hna
      | some c =>
        have hc : c < tS (gT G) ∧ a = nI c := by
          unfold ix at i4
          split at i4
          · next q =>
            cases i4
            refine ⟨by omega, ?_⟩
            apply Int32.toInt_inj.mp
            rw [nI_toInt (by omega)]
            omega
          · cases i4
        refine zix c hc.2 (show c < 7 by omega) ?_
        rw [o_origin_s i1 i2 i4 i3] at h'
        rw [hg c (by omega)]; exact h'
    · refine k_X4_countOrigins (s := orS (gT G) (gA G) j w m) (fun c hc => ⟨hg c hc, (orS_bd hV.1 hj hw m c).1⟩) ?_
      rw [orN_7 hV.1 hj hw]
      rw [o_origin_c i1 i2 d (m1_out (by omega) d) i3] at h'; exact h'
  refine br (fun d => go (fun q => q.1 d)) (fun d => ?_)
  refine k_X8_hasStreet (by omega) c1.2.1 (fun c hc e4 => cT (go (fun q => ?_))) (fun ho => cF (unk (o_origin_u3 i1 i2 d (ix_out (by omega) ho))))
  have q2 := q.2
  rw [e4, ix_in hc (by omega)] at q2
  cases q2
theorem km_origin {Q : Option Value → zM → Prop} {G : zG} {M : zM} {b v n a : Int32} (hC : zD G M) (hV : zV G) (hq : ∀ M', zD G M' → frC M M' → Q (some (.int (o_origin G b v n a))) M') : zCon fX11_origin [.ref 47, .int b, .int v, .int n, .int a] M Q := by
  obtain ⟨c1, c2, c3, c4, c5, c6, c7, c8, c9⟩ := id hC
  have hN := zTv_N hV.1
  have hS := zTv_S hV.1
  refine zc_of zkX11_origin [31, 34] 60 (Nat.le_of_ble_eq_true rfl) ?_
  have unk : o_origin G b v n a = cUNK → zEv fX11_origin Q 31 [(0, .ref 47), (1, .int b), (2, .int v), (3, .int n), (4, .int a)] [] M := by
    intro e
    refine zev_go zkX11_origin [] 60 ?_
    have h' := hq M hC (fun _ _ => rfl)
    rw [e] at h'; exact h'
  refine k_X11_isStreet (by omega) c1.2.1 (fun j hj e1 => bT ?_) (fun ho => bF (unk (o_origin_u1 (ix_out (by omega) ho))))
  have i1 : ix b (tS (gT G)) = some j := by rw [e1]; exact ix_in hj (by omega)
  refine k_X11_isWord (by omega) c1.1 (fun w hw e2 => bT ?_) (fun ho => bF (unk (o_origin_u2 (ix_out (by omega) ho))))
  have i2 : ix v (tN (gT G)) = some w := by rw [e2]; exact ix_in hw (by omega)
  have go : ¬ (a ≠ -1 ∧ ix a (tS (gT G)) = none) → zEv fX11_origin Q 34 [(0, .ref 47), (1, .int b), (2, .int v), (3, .int n), (4, .int a)] [] M := by
    intro hna
    refine zev_go zkX11_origin [52] 60 (k_in (S := 10) (by omega) l0_ (by decide) (fun m hm e3 => cT ?_) (fun ho => cF ?_))
    · have i3 : ix n 10 = some m := by rw [e3]; exact ix_in hm (by omega)
      have hb := orS_bd (a := gA G) hV.1 hj hw
      have L3 : ∀ x, x ≤ tS (gT G) → ∀ y z M1, y = nI (sm (fun x => pc (orS (gT G) (gA G) j w m x) 10) x) → z = nI x → (∀ k, k ≠ 70 → k ≠ 71 → M1 k = M k) → (∀ c, c < 7 → M1 70 c = nI (orS (gT G) (gA G) j w m c)) → zEv fX11_origin Q 110 [(0, .ref 47), (1, .int b), (2, .int v), (3, .int n), (4, .int a), (5, .int y), (6, .int z)] [] M1 := by
        refine zloop (tS (gT G)) ?_ ?_
        · intro y z M1 hy hz hf hg
          have e47 : M1 47 1 = nI (tS (gT G)) := by rw [hf 47 (by omega) (by omega)]; exact c1.2.1
          have h' := hq M1 (zD_fr (fun k hk => hf k (by unfold zown2 at hk; omega) (by unfold zown2 at hk; omega)) hC) (fun k hk => hf k (by omega) (by omega))
          refine zev_go zkX11_origin [110] 60 (iGe hz e47 (by omega) (by omega) (fun _ => ?_) (fun q => absurd q (by omega)))
          refine nr (fun d => ?_) (fun d => ?_)
          · cases i4 : ix a (tS (gT G)) with
            | none => exact absurd ⟨d, i4⟩ hna
            | some c =>
              have hc : c < tS (gT G) ∧ a = nI c := by
                unfold ix at i4
                split at i4
                · next q =>
                  cases i4
                  refine ⟨by omega, ?_⟩
                  apply Int32.toInt_inj.mp
                  rw [nI_toInt (by omega)]
                  omega
                · cases i4
              refine zix c hc.2 (show c < 7 by omega) ?_
              rw [o_origin_s i1 i2 i4 i3] at h'
              rw [hg c (by omega)]; exact h'
          · rw [o_origin_c i1 i2 d (m1_out (by omega) d) i3] at h'
            unfold orN at h'
            rw [← hy] at h'; exact h'
        · intro x hx ih y z M1 hy hz hf hg
          have e47 : M1 47 1 = nI (tS (gT G)) := by rw [hf 47 (by omega) (by omega)]; exact c1.2.1
          refine zev_go zkX11_origin [110] 60 (iGe hz e47 (by omega) (by omega) (fun q => absurd q (by omega)) (fun _ => zix x hz (show x < 7 by omega) ?_))
          refine k_X11_bits (hg x (by omega)) (by have := (hb m x).1; omega) ?_
          exact ih _ _ M1 (by rw [hy, nI_add]; rfl) (by rw [hz, nI_1]) hf hg
      have L2 : ∀ k, k ≤ m → ∀ y M1, y = nI k → (∀ c, c ≠ 70 → c ≠ 71 → M1 c = M c) → (∀ c, c < 7 → M1 70 c = nI (orS (gT G) (gA G) j w k c)) → zEv fX11_origin Q 88 [(0, .ref 47), (1, .int b), (2, .int v), (3, .int n), (4, .int a), (5, .int y)] [] M1 := by
        refine zloop m ?_ ?_
        · intro y M1 hy hf hg
          refine zev_go zkX11_origin [88, 110] 60 (iGe hy e3 (by omega) (by omega) (fun _ => L3 0 (by omega) _ _ M1 rfl rfl hf hg) (fun q => absurd q (by omega)))
        · intro k hk ih y M1 hy hf hg
          refine zev_go zkX11_origin [88] 60 (iGe hy e3 (by omega) (by omega) (fun q => absurd q (by omega)) (fun _ => ?_))
          refine k_X11_stepBack (T := gT G) (a := gA G) (s := orS (gT G) (gA G) j w k) hV.1 (zTm_fr (by rw [hf 47 (by omega) (by omega)]; exact ⟨rfl, rfl, rfl⟩) (fun k h1 h2 => hf k (by omega) (by omega)) c1) (by rw [hf 56 (by omega) (by omega)]; exact c2) hV.2.1 (fun c hc => ⟨hg c hc, (hb k c).1⟩) (fun M' hf' hg' => ?_)
          exact ih _ M' (by rw [hy, nI_1]) (fun c h1 h2 => by rw [hf' c h1 h2]; exact hf c h1 h2) hg'
      have L1 : ∀ k, k ≤ 7 → ∀ y g, y = nI k → (∀ c, c < k → g c = nI (orS (gT G) (gA G) j w 0 c)) → zEv fX11_origin Q 52 [(0, .ref 47), (1, .int b), (2, .int v), (3, .int n), (4, .int a), (5, .int y)] [] (zset M 70 g) := by
        refine zloop 7 ?_ ?_
        · intro y g hy hg
          refine zev_go zkX11_origin [52, 88] 60 (iGe hy n_7 (by omega) (by decide) (fun _ => ?_) (fun q => absurd q (by omega)))
          exact L2 0 (by omega) 0 _ rfl (fun c h1 h2 => zset_n _ _ h1) (fun c hc => by rw [zset_s]; exact hg c hc)
        · intro k hk ih y g hy hg
          have u : ∀ v, zu (zset M 70 g) 70 k v = zset M 70 (upd g k v) := fun v => by unfold zu; rw [zset_s, zset_u]
          refine zev_go zkX11_origin [52] 60 (iGe hy n_7 (by omega) (by decide) (fun q => absurd q (by omega)) (fun _ => iNe hy e1 (by omega) (by omega) (fun d => zix k hy hk ?_) (fun d => zix k hy hk ?_)))
          · rw [u]
            refine ih _ _ (by rw [hy, nI_1]) (fun c hc => ?_)
            by_cases q : c = k
            · rw [q, pk_us]; unfold orS; rw [if_neg d]; rfl
            · rw [pk_un q]; exact hg c (by omega)
          · rw [u]
            refine ih _ _ (by rw [hy, nI_1]) (fun c hc => ?_)
            by_cases q : c = k
            · rw [q, pk_us]; unfold orS; rw [if_pos d]; exact a_shl1 e2 (by omega)
            · rw [pk_un q]; exact hg c (by omega)
      have e0 : M = zset M 70 (M 70) := by funext k; unfold zset; split <;> simp_all
      rw [e0]
      exact L1 0 (by omega) 0 _ rfl (fun c hc => absurd hc (by omega))
    · have h' := hq M hC (fun _ _ => rfl)
      rw [o_origin_u4 i1 i2 hna (ix_out (by omega) ho)] at h'; exact h'
  refine br (fun d => go (fun q => q.1 d)) (fun d => ?_)
  refine k_X11_isStreet (by omega) c1.2.1 (fun c hc e4 => cT (go (fun q => ?_))) (fun ho => cF (unk (o_origin_u3 i1 i2 d (ix_out (by omega) ho))))
  have q2 := q.2
  rw [e4, ix_in hc (by omega)] at q2
  cases q2
