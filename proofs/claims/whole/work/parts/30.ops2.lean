/-! fault, seed, tear, see, write, judge, over -/
theorem kc_fault {Q : Option Value → zM → Prop} {G : zG} {M : zM} (hC : zC G M) (hq : Q (some (.int (gFp G))) M) : zCon fX10_fault [.ref 0] M Q := by
  refine zc_of zkX10_fault [] 60 (Nat.le_of_ble_eq_true rfl) ?_
  rw [← hC.2.2.2.2.2.1] at hq
  exact hq
theorem km_fault {Q : Option Value → zM → Prop} {G : zG} {M : zM} (hC : zD G M) (hq : Q (some (.int (gFp G))) M) : zCon fX11_fault [.ref 47] M Q := by
  refine zc_of zkX11_fault [] 60 (Nat.le_of_ble_eq_true rfl) ?_
  rw [← hC.2.2.2.2.2.1] at hq
  exact hq
def o_seed (G : zG) (v : Int32) : Int32 × zG := if v < 0 then (cOUT, G) else (nI (gSd G), sSd G v.toInt.toNat)
theorem pos_num {v : Int32} (h : ¬ v < 0) : v = nI v.toInt.toNat ∧ v.toInt.toNat < 2 ^ 31 := by
  rw [Int32.lt_iff_toInt_lt, Int32.toInt_zero] at h
  have h2 : v.toInt < 2 ^ 31 := v.toInt_lt
  refine ⟨?_, by omega⟩
  apply Int32.toInt_inj.mp
  rw [nI_toInt (by omega)]
  omega
theorem v_seed {G : zG} {c : Int32} (h : zV G) : zV (o_seed G c).2 := by
  unfold o_seed
  split
  · exact h
  · next q =>
    obtain ⟨v1, v2, v3, v4, v5, v6, v7, v8⟩ := h
    exact ⟨v1, v2, v3, v4, (pos_num q).2, v6, v7, v8⟩
theorem kc_seed {Q : Option Value → zM → Prop} {G : zG} {M : zM} {c : Int32} (hC : zC G M) (hq : ∀ M', zC (o_seed G c).2 M' → frM M M' → Q (some (.int (o_seed G c).1)) M') : zCon fX10_seed [.ref 0, .int c] M Q := by
  obtain ⟨c1, c2, c3, c4, c5, c6, c7, c8, c9⟩ := id hC
  refine zc_of zkX10_seed [] 60 (Nat.le_of_ble_eq_true rfl) (nr (fun d => ?_) (fun d => ?_))
  · unfold o_seed at hq; rw [if_neg d] at hq
    have h := hq (zu M 0 10 c) ⟨c1, c2, cU_fr rfl rfl rfl c3, cIm_fr rfl rfl rfl c4, (pos_num d).1, c6, cX_fr rfl rfl c7, cSn_fr rfl rfl rfl c8, cBk_fr rfl rfl rfl c9⟩ (fun k hk => zu_n _ _ _ (by omega))
    rw [← c5] at h
    exact h
  · unfold o_seed at hq; rw [if_pos d] at hq
    exact hq M hC (fun _ _ => rfl)
theorem km_seed {Q : Option Value → zM → Prop} {G : zG} {M : zM} {c : Int32} (hC : zD G M) (hq : ∀ M', zD (o_seed G c).2 M' → frC M M' → Q (some (.int (o_seed G c).1)) M') : zCon fX11_seed [.ref 47, .int c] M Q := by
  obtain ⟨c1, c2, c3, c4, c5, c6, c7, c8, c9⟩ := id hC
  refine zc_of zkX11_seed [] 60 (Nat.le_of_ble_eq_true rfl) (nr (fun d => ?_) (fun d => ?_))
  · unfold o_seed at hq; rw [if_neg d] at hq
    have h := hq (zu M 47 12 c) ⟨zTm_fr ⟨rfl, rfl, rfl⟩ (fun k h1 h2 => by rw [zu_n _ _ _ (by omega)]) c1, c2, mU_fr rfl rfl c3, mIm_fr rfl rfl c4, (pos_num d).1, c6, mX_fr rfl rfl c7, mSn_fr rfl rfl rfl c8, mBk_fr rfl rfl rfl c9⟩ (fun k hk => zu_n _ _ _ (by omega))
    rw [← c5] at h
    exact h
  · unfold o_seed at hq; rw [if_pos d] at hq
    exact hq M hC (fun _ _ => rfl)
def o_tear (G : zG) : Int32 × zG := (nI ((gSn G).1 + (gBk G).1), sBk (sSn G (0, (gSn G).2)) (0, (gBk G).2))
theorem v_tear {G : zG} (h : zV G) : zV (o_tear G).2 := by
  obtain ⟨v1, v2, v3, v4, v5, v6, v7, v8⟩ := h
  exact ⟨v1, v2, v3, v4, v5, v6, ⟨Nat.zero_le _, fun j hj => absurd hj (Nat.not_lt_zero j)⟩, ⟨Nat.zero_le _, fun j hj => absurd hj (Nat.not_lt_zero j)⟩⟩
theorem kc_tear {Q : Option Value → zM → Prop} {G : zG} {M : zM} (hC : zC G M) (hq : ∀ M', zC (o_tear G).2 M' → frM M M' → Q (some (.int (o_tear G).1)) M') : zCon fX10_tear [.ref 0] M Q := by
  obtain ⟨c1, c2, c3, c4, c5, c6, c7, c8, c9⟩ := id hC
  refine zc_of zkX10_tear [] 60 (Nat.le_of_ble_eq_true rfl) ?_
  refine zc_of zkX3_clear [] 60 (Nat.le_of_ble_eq_true rfl) (zc_of zkX1_clear [] 60 (Nat.le_of_ble_eq_true rfl) ?_)
  have h := hq (zu (zu M 39 5 0) 44 2 0) ⟨c1, c2, cU_fr rfl rfl rfl c3, cIm_fr rfl rfl rfl c4, c5, c6, cX_fr rfl rfl c7, ⟨rfl, fun j hj => absurd hj (Nat.not_lt_zero j)⟩, ⟨rfl, fun j hj => absurd hj (Nat.not_lt_zero j)⟩⟩ (fun k hk => by rw [zu_n _ _ _ (by omega), zu_n _ _ _ (by omega)])
  have e : (o_tear G).1 = M 39 5 + M 44 2 := (a_add c8.1 c9.1).symm
  rw [e] at h
  exact h
theorem km_tear {Q : Option Value → zM → Prop} {G : zG} {M : zM} (hC : zD G M) (hq : ∀ M', zD (o_tear G).2 M' → frC M M' → Q (some (.int (o_tear G).1)) M') : zCon fX11_tear [.ref 47] M Q := by
  obtain ⟨c1, c2, c3, c4, c5, c6, c7, c8, c9⟩ := id hC
  refine zc_of zkX11_tear [] 60 (Nat.le_of_ble_eq_true rfl) ?_
  have h := hq (zu (zu M 47 39 0) 47 42 0) ⟨zTm_fr ⟨rfl, rfl, rfl⟩ (fun k h1 h2 => by rw [zu_n _ _ _ (by omega), zu_n _ _ _ (by omega)]) c1, c2, mU_fr rfl rfl c3, mIm_fr rfl rfl c4, c5, c6, mX_fr rfl rfl c7, ⟨rfl, fun j hj => absurd hj (Nat.not_lt_zero j)⟩, ⟨rfl, fun j hj => absurd hj (Nat.not_lt_zero j)⟩⟩ (fun k hk => by rw [zu_n _ _ _ (by omega), zu_n _ _ _ (by omega)])
  have e : (o_tear G).1 = M 47 39 + M 47 42 := (a_add c8.1 c9.1).symm
  rw [e] at h
  exact h
def o_see (G : zG) (w v : Int32) : Int32 × zG := match ix w (tN (gT G)), ix v (tN (gT G)) with
  | some i, some j => if (gSn G).1 = 6 then (cFUL, G) else (nI ((gSn G).1 + 1), sSn G ((gSn G).1 + 1, nup (gSn G).2.1 (gSn G).1 i, nup (gSn G).2.2 (gSn G).1 j))
  | _, _ => (cUNK, G)
theorem ix_some {i : Int32} {n j : Nat} (h : ix i n = some j) : j < n := by
  unfold ix at h
  split at h
  · cases h; omega
  · cases h
theorem v_see {G : zG} {w v : Int32} (h : zV G) : zV (o_see G w v).2 := by
  unfold o_see
  split
  · next i j hi hj =>
    split
    · exact h
    · next hne =>
      obtain ⟨v1, v2, v3, v4, v5, v6, v7, v8⟩ := h
      refine ⟨v1, v2, v3, v4, v5, v6, ⟨?_, ?_⟩, v8⟩
      · show (gSn G).1 + 1 ≤ 6
        have := v7.1; omega
      · intro k hk
        have hk' : k < (gSn G).1 + 1 := hk
        show nup (gSn G).2.1 (gSn G).1 i k < _ ∧ nup (gSn G).2.2 (gSn G).1 j k < _
        by_cases q : k = (gSn G).1
        · rw [q, nup_s, nup_s]; exact ⟨ix_some hi, ix_some hj⟩
        · rw [nup_n _ _ q, nup_n _ _ q]; exact v7.2 k (by omega)
  · exact h
theorem o_see_u1 {G : zG} {w v : Int32} (h : ix w (tN (gT G)) = none) : o_see G w v = (cUNK, G) := by unfold o_see; rw [h]
theorem o_see_u2 {G : zG} {w v : Int32} (h : ix v (tN (gT G)) = none) : o_see G w v = (cUNK, G) := by unfold o_see; rw [h]; cases ix w (tN (gT G)) <;> rfl
theorem kc_see {Q : Option Value → zM → Prop} {G : zG} {M : zM} {w v : Int32} (hC : zC G M) (hV : zV G) (hq : ∀ M', zC (o_see G w v).2 M' → frM M M' → Q (some (.int (o_see G w v).1)) M') : zCon fX10_see [.ref 0, .int w, .int v] M Q := by
  obtain ⟨c1, c2, c3, c4, c5, c6, c7, c8, c9⟩ := id hC
  have hN := zTv_N hV.1
  have hn := hV.2.2.2.2.2.2.1.1
  refine zc_of zkX10_see [] 60 (Nat.le_of_ble_eq_true rfl) ?_
  refine k_X8_hasWord (by omega) c1.1 (fun i hi ei => bT ?_) (fun ho => bF ?_)
  · refine k_X8_hasWord (by omega) c1.1 (fun j hj ej => cT ?_) (fun ho => cF ?_)
    · have eo : o_see G w v = if (gSn G).1 = 6 then (cFUL, G) else (nI ((gSn G).1 + 1), sSn G ((gSn G).1 + 1, nup (gSn G).2.1 (gSn G).1 i, nup (gSn G).2.2 (gSn G).1 j)) := by unfold o_see; rw [ei, ej, ix_in hi (by omega), ix_in hj (by omega)]
      refine iLt c8.1 n_6 (by omega) (by decide) (fun d => ?_) (fun d => ?_)
      · rw [eo, if_neg (by omega)] at hq
        refine zc_of zkX3_append [] 60 (Nat.le_of_ble_eq_true rfl) ?_
        refine iGe c8.1 n_6 (by omega) (by decide) (fun q => absurd q (by omega)) (fun _ => ?_)
        refine zix (gSn G).1 c8.1 d (zix (gSn G).1 c8.1 d ?_)
        have key : ∀ x, x = nI ((gSn G).1 + 1) → Q (some (.int (zu (zu (zu M 40 (gSn G).1 w) 41 (gSn G).1 v) 39 5 x 39 5))) (zu (zu (zu M 40 (gSn G).1 w) 41 (gSn G).1 v) 39 5 x) := by
          intro x hx
          subst hx
          rw [zu_at]
          refine hq _ ⟨c1, c2, cU_fr rfl rfl rfl c3, cIm_fr rfl rfl rfl c4, c5, c6, cX_fr rfl rfl c7, ⟨rfl, ?_⟩, cBk_fr rfl rfl rfl c9⟩ (fun k hk => by rw [zu_n _ _ _ (by omega), zu_n _ _ _ (by omega), zu_n _ _ _ (by omega)])
          exact fun j hj => ⟨upd_nup ei (fun j hj => (c8.2 j hj).1) j hj, upd_nup ej (fun j hj => (c8.2 j hj).2) j hj⟩
        exact key _ (a_add c8.1 n_1)
      · rw [eo, if_pos (by omega)] at hq
        exact hq M hC (fun _ _ => rfl)
    · rw [o_see_u2 (ix_out (by omega) ho)] at hq
      exact hq M hC (fun _ _ => rfl)
  · rw [o_see_u1 (ix_out (by omega) ho)] at hq
    exact hq M hC (fun _ _ => rfl)
theorem km_see {Q : Option Value → zM → Prop} {G : zG} {M : zM} {w v : Int32} (hC : zD G M) (hV : zV G) (hq : ∀ M', zD (o_see G w v).2 M' → frC M M' → Q (some (.int (o_see G w v).1)) M') : zCon fX11_see [.ref 47, .int w, .int v] M Q := by
  obtain ⟨c1, c2, c3, c4, c5, c6, c7, c8, c9⟩ := id hC
  have hN := zTv_N hV.1
  have hn := hV.2.2.2.2.2.2.1.1
  refine zc_of zkX11_see [] 60 (Nat.le_of_ble_eq_true rfl) ?_
  refine k_X11_isWord (by omega) c1.1 (fun i hi ei => bT ?_) (fun ho => bF ?_)
  · refine k_X11_isWord (by omega) c1.1 (fun j hj ej => cT ?_) (fun ho => cF ?_)
    · have eo : o_see G w v = if (gSn G).1 = 6 then (cFUL, G) else (nI ((gSn G).1 + 1), sSn G ((gSn G).1 + 1, nup (gSn G).2.1 (gSn G).1 i, nup (gSn G).2.2 (gSn G).1 j)) := by unfold o_see; rw [ei, ej, ix_in hi (by omega), ix_in hj (by omega)]
      refine iNe c8.1 n_6 (by omega) (by decide) (fun d => ?_) (fun d => ?_)
      · rw [eo, if_neg d] at hq
        refine zix (gSn G).1 c8.1 (show (gSn G).1 < 6 by omega) (zix (gSn G).1 c8.1 (show (gSn G).1 < 6 by omega) ?_)
        have key : ∀ x, x = nI ((gSn G).1 + 1) → Q (some (.int (zu (zu (zu M 74 (gSn G).1 w) 75 (gSn G).1 v) 47 39 x 47 39))) (zu (zu (zu M 74 (gSn G).1 w) 75 (gSn G).1 v) 47 39 x) := by
          intro x hx
          subst hx
          rw [zu_at]
          refine hq _ ⟨zTm_fr ⟨rfl, rfl, rfl⟩ (fun k h1 h2 => by rw [zu_n _ _ _ (by omega), zu_n _ _ _ (by omega), zu_n _ _ _ (by omega)]) c1, c2, mU_fr rfl rfl c3, mIm_fr rfl rfl c4, c5, c6, mX_fr rfl rfl c7, ⟨rfl, ?_⟩, mBk_fr rfl rfl rfl c9⟩ (fun k hk => by rw [zu_n _ _ _ (by omega), zu_n _ _ _ (by omega), zu_n _ _ _ (by omega)])
          exact fun j hj => ⟨upd_nup ei (fun j hj => (c8.2 j hj).1) j hj, upd_nup ej (fun j hj => (c8.2 j hj).2) j hj⟩
        exact key _ (a_add c8.1 n_1)
      · rw [eo, if_pos d] at hq
        exact hq M hC (fun _ _ => rfl)
    · rw [o_see_u2 (ix_out (by omega) ho)] at hq
      exact hq M hC (fun _ _ => rfl)
  · rw [o_see_u1 (ix_out (by omega) ho)] at hq
    exact hq M hC (fun _ _ => rfl)
/-- the place of a saying -/
def sayN (x : Int32) : Nat := x.toInt.toNat
def sayB (N : Nat) (x : Int32) : Bool := decide (0 ≤ x.toInt) && (decide (1 ≤ sayN x) && (decide (sayN x ≤ 9999) && sok N 4 (sayN x)))
theorem sayB_in {N v : Nat} {x : Int32} (e : x = nI v) (h : isSay N v) : sayB N x = true ∧ sayN x = v := by
  have hv : v < 2 ^ 31 := by have := h.2.1; omega
  have e2 : sayN x = v := by unfold sayN; rw [e, nI_toInt hv]; simp
  refine ⟨?_, e2⟩
  unfold sayB
  rw [e2, e, nI_toInt hv, h.2.2]
  have := h.1; have := h.2.1
  simp; omega
theorem sayB_out {N : Nat} {x : Int32} (h : ∀ v, x = nI v → ¬ isSay N v) : sayB N x = false := by
  cases q : sayB N x with
  | false => rfl
  | true =>
    exfalso
    unfold sayB at q
    simp only [Bool.and_eq_true, decide_eq_true_eq] at q
    refine h (sayN x) ?_ ⟨q.2.1, q.2.2.1, q.2.2.2⟩
    unfold sayN
    apply Int32.toInt_inj.mp
    have := q.2.2.1
    unfold sayN at this
    rw [nI_toInt (by omega)]
    omega
def o_write (G : zG) (a s : Int32) : Int32 × zG := match ix a (tS (gT G)) with
  | none => (cUNK, G)
  | some i => if s ≠ 0 ∧ sayB (tN (gT G)) s = false then (cOUT, G) else if (gBk G).1 = 15 then (cFUL, G) else (nI ((gBk G).1 + 1), sBk G ((gBk G).1 + 1, nup (gBk G).2.1 (gBk G).1 i, nup (gBk G).2.2 (gBk G).1 (sayN s)))
theorem v_write {G : zG} {a s : Int32} (h : zV G) : zV (o_write G a s).2 := by
  unfold o_write
  split
  · exact h
  · next i hi =>
    split
    · exact h
    · next hs =>
      split
      · exact h
      · next hne =>
        obtain ⟨v1, v2, v3, v4, v5, v6, v7, v8⟩ := h
        refine ⟨v1, v2, v3, v4, v5, v6, v7, ⟨?_, ?_⟩⟩
        · show (gBk G).1 + 1 ≤ 15
          have := v8.1; omega
        · intro k hk
          have hk' : k < (gBk G).1 + 1 := hk
          show nup (gBk G).2.1 (gBk G).1 i k < _ ∧ nup (gBk G).2.2 (gBk G).1 (sayN s) k ≤ _
          by_cases q : k = (gBk G).1
          · rw [q, nup_s, nup_s]
            refine ⟨ix_some hi, ?_⟩
            by_cases s0 : s = 0
            · rw [s0]; decide
            · have : sayB (tN (gT G)) s = true := by
                cases c : sayB (tN (gT G)) s with
                | true => rfl
                | false => exact absurd ⟨s0, c⟩ hs
              unfold sayB at this
              simp only [Bool.and_eq_true, decide_eq_true_eq] at this
              exact this.2.2.1
          · rw [nup_n _ _ q, nup_n _ _ q]; exact v8.2 k (by omega)
theorem say_val {N : Nat} {s : Int32} (h : ¬ (s ≠ 0 ∧ sayB N s = false)) : s = nI (sayN s) := by
  by_cases s0 : s = 0
  · rw [s0]; rfl
  · have : sayB N s = true := by
      cases c : sayB N s with
      | true => rfl
      | false => exact absurd ⟨s0, c⟩ h
    unfold sayB at this
    simp only [Bool.and_eq_true, decide_eq_true_eq] at this
    unfold sayN at this ⊢
    apply Int32.toInt_inj.mp
    rw [nI_toInt (by omega)]
    omega
