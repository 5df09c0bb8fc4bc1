/-! feed, fault, seed, tear, see, write, judge -/
def sX (G : zG) (X : Nat × (Nat → Nat)) : zG := (G.1, G.2.1, G.2.2.1, G.2.2.2.1, X, G.2.2.2.2.2.1, G.2.2.2.2.2.2)
def sSn (G : zG) (S : Nat × (Nat → Nat) × (Nat → Nat)) : zG := (G.1, G.2.1, G.2.2.1, G.2.2.2.1, G.2.2.2.2.1, S, G.2.2.2.2.2.2)
def sBk (G : zG) (S : Nat × (Nat → Nat) × (Nat → Nat)) : zG := (G.1, G.2.1, G.2.2.1, G.2.2.2.1, G.2.2.2.2.1, G.2.2.2.2.2.1, S)
def sSd (G : zG) (s : Nat) : zG := (G.1, G.2.1, G.2.2.1, (s, G.2.2.2.1.2), G.2.2.2.2)
def nup (g : Nat → Nat) (k v : Nat) : Nat → Nat := fun j => if j = k then v else g j
theorem nup_s (g : Nat → Nat) (k v : Nat) : nup g k v k = v := by unfold nup; rw [if_pos rfl]
theorem nup_n (g : Nat → Nat) {k j : Nat} (v : Nat) (h : j ≠ k) : nup g k v j = g j := by unfold nup; rw [if_neg h]
theorem upd_nup {g : Nat → Int32} {t : Nat → Nat} {n v : Nat} {x : Int32} (hx : x = nI v) (h : ∀ j, j < n → g j = nI (t j)) : ∀ j, j < n + 1 → upd g n x j = nI (nup t n v j) := by
  intro j hj
  by_cases c : j = n
  · subst c; rw [pk_us, nup_s, hx]
  · rw [pk_un c, nup_n _ _ c]; exact h j (by omega)
theorem numLe {a : Int32} {n : Nat} (hn : n + 1 < 2 ^ 31) (h0 : ¬ a < 0) (h1 : ¬ nI n < a) : ∃ j, j < n + 1 ∧ a = nI j := by
  rw [Int32.lt_iff_toInt_lt, Int32.toInt_zero] at h0
  rw [Int32.lt_iff_toInt_lt, nI_toInt (by omega)] at h1
  refine ⟨a.toInt.toNat, by omega, ?_⟩
  apply Int32.toInt_inj.mp
  rw [nI_toInt (by omega)]
  omega
theorem numLt {a : Int32} {n : Nat} (hn : n < 2 ^ 31) (h0 : ¬ a < 0) (h1 : a < nI n) : ∃ j, j < n ∧ a = nI j := by
  rw [Int32.lt_iff_toInt_lt, Int32.toInt_zero] at h0
  rw [Int32.lt_iff_toInt_lt, nI_toInt (by omega)] at h1
  refine ⟨a.toInt.toNat, by omega, ?_⟩
  apply Int32.toInt_inj.mp
  rw [nI_toInt (by omega)]
  omega
theorem outLe {a : Int32} {n : Nat} (hn : n + 1 < 2 ^ 31) (h : a < 0 ∨ nI n < a) : zout a (n + 1) := by
  intro j hj e
  subst e
  rcases h with h | h
  · exact nI_pos (by omega) h
  · exact nI_nlt (by omega) (by omega) h
def o_feed (G : zG) (c : Int32) : Int32 × zG := match ix c 256 with
  | none => (cOUT, G)
  | some j => if (gX G).1 = 240 then (cFUL, G) else (nI ((gX G).1 + 1), sX G ((gX G).1 + 1, nup (gX G).2 (gX G).1 j))
theorem v_feed {G : zG} {c : Int32} (h : zV G) : zV (o_feed G c).2 := by
  unfold o_feed
  cases hc : ix c 256 with
  | none => exact h
  | some j =>
    dsimp only
    split
    · exact h
    · next hne =>
      obtain ⟨v1, v2, v3, v4, v5, v6, v7, v8⟩ := h
      refine ⟨v1, v2, v3, v4, v5, ⟨?_, ?_⟩, v7, v8⟩
      · show (gX G).1 + 1 ≤ 240
        have := v6.1; omega
      · intro k hk
        show nup (gX G).2 (gX G).1 j k < 256
        have hk' : k < (gX G).1 + 1 := hk
        by_cases q : k = (gX G).1
        · rw [q, nup_s]
          unfold ix at hc
          split at hc
          · cases hc; omega
          · cases hc
        · rw [nup_n _ _ q]; exact v6.2 k (by omega)
theorem kc_feed {Q : Option Value → zM → Prop} {G : zG} {M : zM} {c : Int32} (hC : zC G M) (hV : zV G) (hq : ∀ M', zC (o_feed G c).2 M' → frM M M' → Q (some (.int (o_feed G c).1)) M') : zCon fX10_feed [.ref 0, .int c] M Q := by
  obtain ⟨c1, c2, c3, c4, c5, c6, c7, c8, c9⟩ := id hC
  have hn := hV.2.2.2.2.2.1.1
  have bad : zout c 256 → Q (some (.int cOUT)) M := fun ho => by
    have eo : o_feed G c = (cOUT, G) := by unfold o_feed; rw [ix_out (by omega) ho]
    rw [eo] at hq
    exact hq M hC (fun _ _ => rfl)
  refine zc_of zkX10_feed [] 60 (Nat.le_of_ble_eq_true rfl) ?_
  refine br (fun d0 => bad (outLe (n := 255) (by omega) (Or.inl d0))) (fun d0 => nr (fun d1 => ?_) (fun d1 => bad (outLe (n := 255) (by omega) (Or.inr d1))))
  · obtain ⟨j, hj, e⟩ := numLe (n := 255) (by omega) d0 d1
    have hix : ix c 256 = some j := by rw [e]; exact ix_in hj (by omega)
    have eo : o_feed G c = if (gX G).1 = 240 then (cFUL, G) else (nI ((gX G).1 + 1), sX G ((gX G).1 + 1, nup (gX G).2 (gX G).1 j)) := by unfold o_feed; rw [hix]
    refine zc_of zkX7_isFull [] 60 (Nat.le_of_ble_eq_true rfl) ?_
    refine iLt c7.1 n_240 (by omega) (by decide) (fun d => ⟨Or.inl rfl, bF ?_⟩) (fun d => ⟨Or.inr rfl, bT ?_⟩)
    · rw [eo, if_neg (by omega)] at hq
      refine zc_of zkX7_append [] 60 (Nat.le_of_ble_eq_true rfl) ?_
      refine iGe c7.1 n_240 (by omega) (by decide) (fun q => absurd q (by omega)) (fun _ => ?_)
      refine zix (gX G).1 c7.1 d ?_
      have e1 : zu M 11 (gX G).1 c 10 2 = nI (gX G).1 := by rw [zu_n _ _ _ (by decide)]; exact c7.1
      have key : ∀ v, v = nI ((gX G).1 + 1) → Q (some (.int (zu (zu M 11 (gX G).1 c) 10 2 v 10 2))) (zu (zu M 11 (gX G).1 c) 10 2 v) := by
        intro v hv
        subst hv
        rw [zu_at]
        refine hq _ ⟨zTc_fr (fun k h1 h2 => by rw [zu_n _ _ _ (by omega), zu_n _ _ _ (by omega)]) c1, ?_, cU_fr rfl rfl rfl c3, cIm_fr rfl rfl rfl c4, c5, ?_, ⟨zu_at _ _ _ _, ?_⟩, cSn_fr rfl rfl rfl c8, cBk_fr rfl rfl rfl c9⟩ (fun k hk => by rw [zu_n _ _ _ (by omega), zu_n _ _ _ (by omega)])
        · exact c2
        · exact c6
        · exact upd_nup e c7.2
      exact key _ (a_add e1 n_1)
    · rw [eo, if_pos (by omega)] at hq
      exact hq M hC (fun _ _ => rfl)

theorem km_feed {Q : Option Value → zM → Prop} {G : zG} {M : zM} {c : Int32} (hC : zD G M) (hV : zV G) (hq : ∀ M', zD (o_feed G c).2 M' → frC M M' → Q (some (.int (o_feed G c).1)) M') : zCon fX11_feed [.ref 47, .int c] M Q := by
  obtain ⟨c1, c2, c3, c4, c5, c6, c7, c8, c9⟩ := id hC
  have hn := hV.2.2.2.2.2.1.1
  refine zc_of zkX11_feed [] 60 (Nat.le_of_ble_eq_true rfl) ?_
  refine k_in (S := 256) (by omega) l0_ (by decide) (fun j hj e => cT ?_) (fun ho => cF ?_)
  · have hix : ix c 256 = some j := by rw [e]; exact ix_in hj (by omega)
    have eo : o_feed G c = if (gX G).1 = 240 then (cFUL, G) else (nI ((gX G).1 + 1), sX G ((gX G).1 + 1, nup (gX G).2 (gX G).1 j)) := by unfold o_feed; rw [hix]
    refine iNe c7.1 n_240 (by omega) (by decide) (fun d => ?_) (fun d => ?_)
    · rw [eo, if_neg d] at hq
      refine zix (gX G).1 c7.1 (show (gX G).1 < 240 by omega) ?_
      have e1 : zu M 57 (gX G).1 c 47 14 = nI (gX G).1 := c7.1
      have key : ∀ v, v = nI ((gX G).1 + 1) → Q (some (.int (zu (zu M 57 (gX G).1 c) 47 14 v 47 14))) (zu (zu M 57 (gX G).1 c) 47 14 v) := by
        intro v hv
        subst hv
        rw [zu_at]
        refine hq _ ⟨zTm_fr ⟨rfl, rfl, rfl⟩ (fun k h1 h2 => by rw [zu_n _ _ _ (by omega), zu_n _ _ _ (by omega)]) c1, c2, mU_fr rfl rfl c3, mIm_fr rfl rfl c4, c5, c6, ⟨zu_at _ _ _ _, ?_⟩, mSn_fr rfl rfl rfl c8, mBk_fr rfl rfl rfl c9⟩ (fun k hk => by rw [zu_n _ _ _ (by omega), zu_n _ _ _ (by omega)])
        exact upd_nup e c7.2
      exact key _ (a_add e1 n_1)
    · rw [eo, if_pos d] at hq
      exact hq M hC (fun _ _ => rfl)
  · have eo : o_feed G c = (cOUT, G) := by unfold o_feed; rw [ix_out (by omega) ho]
    rw [eo] at hq
    exact hq M hC (fun _ _ => rfl)
