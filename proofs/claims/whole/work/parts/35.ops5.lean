/-! undo, keep, goBack -/
def sAU (G : zG) (a : zAf) (u : Nat × (Nat → zAf)) : zG := ((G.1.1, a), u, G.2.2)
def o_undo (G : zG) : Int32 × zG := if (gU G).1 = 0 then (cNOT, G) else (nI ((gU G).1 - 1), sAU G ((gU G).2 0) (popU (gU G)))
theorem v_undo {G : zG} (h : zV G) : zV (o_undo G).2 := by
  unfold o_undo
  split
  · exact h
  · next q =>
    obtain ⟨v1, v2, v3, v4, v5, v6, v7, v8⟩ := h
    exact ⟨v1, v3.2 0 (by omega), v_popU v3, v4, v5, v6, v7, v8⟩
theorem kc_undo {Q : Option Value → zM → Prop} {G : zG} {M : zM} (hC : zC G M) (hV : zV G) (hq : ∀ M', zC (o_undo G).2 M' → frM M M' → Q (some (.int (o_undo G).1)) M') : zCon fX10_undo [.ref 0] M Q := by
  obtain ⟨c1, c2, c3, c4, c5, c6, c7, c8, c9⟩ := id hC
  have hu := hV.2.2.1.1
  refine zc_of zkX10_undo [] 60 (Nat.le_of_ble_eq_true rfl) ?_
  refine iNe c3.1 n_0 (by omega) (by omega) (fun d => ?_) (fun d => ?_)
  · unfold o_undo at hq
    rw [if_neg d] at hq
    refine k_X5_takeBack hV.1 c3 hV.2.2.1 (by omega) (fun M' h1 h2 h3 h4 => ?_)
    have e5 : M' 23 5 = nI ((gU G).1 - 1) := h1.1
    have h := hq M' ⟨zTc_fr (fun k a b => h3 k (by omega) (by omega)) c1, h2, h1, cIm_fr h4 (h3 25 (by omega) (by omega)) (h3 26 (by omega) (by omega)) c4, by rw [h3 0 (by omega) (by omega)]; exact c5, by rw [h3 10 (by omega) (by omega)]; exact c6, cX_fr (by rw [h3 10 (by omega) (by omega)]) (h3 11 (by omega) (by omega)) c7, cSn_fr (h3 39 (by omega) (by omega)) (h3 40 (by omega) (by omega)) (h3 41 (by omega) (by omega)) c8, cBk_fr (h3 44 (by omega) (by omega)) (h3 45 (by omega) (by omega)) (h3 46 (by omega) (by omega)) c9⟩ (fun k hk => h3 k (by omega) (by omega))
    rw [← e5] at h
    exact h
  · unfold o_undo at hq
    rw [if_pos d] at hq
    exact hq M hC (fun _ _ => rfl)
theorem km_undo {Q : Option Value → zM → Prop} {G : zG} {M : zM} (hC : zD G M) (hV : zV G) (hq : ∀ M', zD (o_undo G).2 M' → frC M M' → Q (some (.int (o_undo G).1)) M') : zCon fX11_undo [.ref 47] M Q := by
  obtain ⟨c1, c2, c3, c4, c5, c6, c7, c8, c9⟩ := id hC
  have hu := hV.2.2.1.1
  refine zc_of zkX11_undo [23] 60 (Nat.le_of_ble_eq_true rfl) ?_
  refine iNe c3.1 n_0 (by omega) (by omega) (fun d => ?_) (fun d => ?_)
  · unfold o_undo at hq
    rw [if_neg d] at hq
    have key : ∀ x, x = nI ((gU G).1 - 1) → zEv fX11_undo Q 23 [(0, .ref 47), (1, .int 0)] [] (zu M 47 32 x) := by
      intro x hx0
      have L : ∀ k, k ≤ 88 → ∀ y, y = nI k → zEv fX11_undo Q 23 [(0, .ref 47), (1, .int y)] [] (zset (zu M 47 32 x) 56 (pt88 (M 56) (fun j => M 68 (88 * ((gU G).1 - 1) + j)) 0 k)) := by
        refine zloop 88 ?_ ?_
        · intro y hy
          refine zev_go zkX11_undo [23] 60 (iGe hy n_88 (by omega) (by decide) (fun _ => ?_) (fun q => absurd q (by omega)))
          have h := hq (zset (zu M 47 32 x) 56 (pt88 (M 56) (fun j => M 68 (88 * ((gU G).1 - 1) + j)) 0 88)) ⟨zTm_fr ⟨rfl, rfl, rfl⟩ (fun k h1 h2 => by rw [zset_n _ _ (by omega), zu_n _ _ _ (by omega)]) c1, ?_, ⟨hx0, fun e he => ?_⟩, mIm_fr rfl rfl c4, c5, c6, mX_fr rfl rfl c7, mSn_fr rfl rfl rfl c8, mBk_fr rfl rfl rfl c9⟩ (fun k hk => by rw [zset_n _ _ (by omega), zu_n _ _ _ (by omega)])
          · rw [← hx0] at h
            exact h
          · have h1 := c3.2 0 (by omega)
            refine mA_ext (zTv_C hV.1) (hV.2.2.1.2 0 (by omega)).2.2.2.1 (fun j hj => ?_) h1
            rw [zset_s]
            unfold pt88
            rw [if_pos (by omega)]
            rfl
          · have he' : e < (gU G).1 - 1 := he
            have h1 := c3.2 (e + 1) (by omega)
            refine mA_ext (zTv_C hV.1) (hV.2.2.1.2 (e + 1) (by omega)).2.2.2.1 (fun j hj => ?_) h1
            show M 68 (88 * ((gU G).1 - 1 - 1 - e) + j) = M 68 (88 * ((gU G).1 - 1 - (e + 1)) + j)
            exact congrArg _ (by omega)
        · intro k hk ih y hy
          refine zev_go zkX11_undo [23] 60 (iGe hy n_88 (by omega) (by decide) (fun q => absurd q (by omega)) (fun _ => ?_))
          refine zix (88 * ((gU G).1 - 1) + k) (a_add (a_mul n_88 hx0) hy) (show 88 * ((gU G).1 - 1) + k < 1408 by omega) (zix k hy hk ?_)
          have e : zu (zset (zu M 47 32 x) 56 (pt88 (M 56) (fun j => M 68 (88 * ((gU G).1 - 1) + j)) 0 k)) 56 k (M 68 (88 * ((gU G).1 - 1) + k)) = zset (zu M 47 32 x) 56 (pt88 (M 56) (fun j => M 68 (88 * ((gU G).1 - 1) + j)) 0 (k + 1)) := by
            rw [← pt88_s (M 56) (fun j => M 68 (88 * ((gU G).1 - 1) + j)) 0 k, Nat.zero_add]
            unfold zu; rw [zset_s, zset_u]
          have e2 : (zset (zu M 47 32 x) 56 (pt88 (M 56) (fun j => M 68 (88 * ((gU G).1 - 1) + j)) 0 k)) 68 (88 * ((gU G).1 - 1) + k) = M 68 (88 * ((gU G).1 - 1) + k) := rfl
          rw [e2, e]
          exact ih _ (by rw [hy, nI_1])
      have L0 := L 0 (by omega) 0 rfl
      rw [pt88_0] at L0
      have e56 : zset (zu M 47 32 x) 56 (M 56) = zu M 47 32 x := zset_id (zu M 47 32 x) 56
      rw [e56] at L0
      exact L0
    exact key _ (a_sub c3.1 n_1 (by omega))
  · unfold o_undo at hq
    rw [if_pos d] at hq
    exact hq M hC (fun _ _ => rfl)
def bup {α : Type} (g : Nat → α) (k : Nat) (v : α) : Nat → α := fun j => if j = k then v else g j
theorem bup_s {α : Type} (g : Nat → α) (k : Nat) (v : α) : bup g k v k = v := by unfold bup; rw [if_pos rfl]
theorem bup_n {α : Type} (g : Nat → α) {k j : Nat} (v : α) (h : j ≠ k) : bup g k v j = g j := by unfold bup; rw [if_neg h]
def sUI (G : zG) (u : Nat × (Nat → zAf)) (I : (Nat → Bool) × (Nat → zAf) × (Nat → Nat)) : zG := (G.1, u, I, G.2.2.2)
def o_keep (G : zG) (i : Int32) : Int32 × zG := match ix i 2 with
  | none => (cUNK, G)
  | some i => (1, sUI G (0, (gU G).2) (bup (gI G).1 i true, bup (gI G).2.1 i (gA G), bup (gI G).2.2 i (gSd G)))
theorem v_keep {G : zG} {i : Int32} (h : zV G) : zV (o_keep G i).2 := by
  unfold o_keep
  split
  · exact h
  · next i hi =>
    obtain ⟨v1, v2, v3, v4, v5, v6, v7, v8⟩ := h
    refine ⟨v1, v2, ⟨Nat.zero_le _, fun e he => absurd he (Nat.not_lt_zero e)⟩, fun k hk hb => ?_, v5, v6, v7, v8⟩
    have hb' : bup (gI G).1 i true k = true := hb
    show vA (gT G) (bup (gI G).2.1 i (gA G) k) ∧ bup (gI G).2.2 i (gSd G) k < 2 ^ 31
    by_cases q : k = i
    · rw [q, bup_s, bup_s]; exact ⟨v2, v5⟩
    · rw [bup_n _ _ q] at hb'
      rw [bup_n _ _ q, bup_n _ _ q]
      exact v4 k hk hb'
theorem kc_keep {Q : Option Value → zM → Prop} {G : zG} {M : zM} {i : Int32} (hC : zC G M) (hV : zV G) (hq : ∀ M', zC (o_keep G i).2 M' → frM M M' → Q (some (.int (o_keep G i).1)) M') : zCon fX10_keep [.ref 0, .int i] M Q := by
  obtain ⟨c1, c2, c3, c4, c5, c6, c7, c8, c9⟩ := id hC
  obtain ⟨s, hs, s1, s2⟩ := c4
  refine zc_of zkX10_keep [] 60 (Nat.le_of_ble_eq_true rfl) ?_
  have bad : zout i 2 → Q (some (.int cUNK)) M := fun ho => by
    unfold o_keep at hq; rw [ix_out (by omega) ho] at hq; exact hq M hC (fun _ _ => rfl)
  refine br (fun d => bad (zout_of (by omega) (Or.inl d))) (fun d1 => br (fun d2 => ?_) (fun d => bad (zout_of (by omega) (Or.inr d))))
  obtain ⟨k, hk, ek⟩ := numLt (n := 2) (by omega) d1 d2
  unfold o_keep at hq
  rw [show ix i 2 = some k by rw [ek]; exact ix_in hk (by omega)] at hq
  refine zc_of zkX5_keepImage [] 60 (Nat.le_of_ble_eq_true rfl) ?_
  refine ⟨0, k * 108, 108, rfl, a_mul ek n_108, rfl, by decide, by omega, ?_⟩
  refine zix k ek hk ?_
  have key : ∀ x, x = nI (s ||| 2 ^ k) → Q (some (.int 1)) (zu (zu (zu (zset M 25 (va_cpy (M 22) (M 25) 0 (k * 108) 108)) 26 k (M 0 10)) 23 3 x) 23 5 0) := by
    intro x hx
    subst hx
    refine hq _ ⟨c1, c2, ⟨rfl, ?_⟩, ⟨s ||| 2 ^ k, set_lt (n := 2) hs hk, rfl, fun j hj => ⟨?_, fun hb => ?_⟩⟩, c5, c6, cX_fr rfl rfl c7, cSn_fr rfl rfl rfl c8, cBk_fr rfl rfl rfl c9⟩ (fun k hk => by rw [zu_n _ _ _ (by omega), zu_n _ _ _ (by omega), zu_n _ _ _ (by omega), zset_n _ _ (by omega)])
    · obtain ⟨u1, nw, hnw, u2, u3⟩ := c3
      exact ⟨nw, hnw, u2, fun e he => absurd he (Nat.not_lt_zero e)⟩
    · show (s ||| 2 ^ k).testBit j = bup (gI G).1 k true j
      rw [set_tb]
      by_cases q : j = k
      · rw [q, bup_s]; simp
      · rw [bup_n _ _ q, (s2 j hj).1]; simp [q]
    · have hb' : bup (gI G).1 k true j = true := hb
      show cA (gT G) (bup (gI G).2.1 k (gA G) j) (fun jj => va_cpy (M 22) (M 25) 0 (k * 108) 108 (j * 108 + jj)) ∧ zu (zset M 25 _) 26 k (M 0 10) 26 j = nI (bup (gI G).2.2 k (gSd G) j)
      by_cases q : j = k
      · subst q
        rw [bup_s, bup_s, zu_at]
        refine ⟨cA_ext (zTv_C hV.1) hV.2.1.2.2.2.1 (fun jj hjj => ?_) c2, c5⟩
        rw [pk_cpy_in (by omega) (by omega)]
        exact congrArg _ (by omega)
      · rw [bup_n _ _ q] at hb'
        rw [bup_n _ _ q, bup_n _ _ q, zu_ne _ _ q]
        obtain ⟨w1, w2⟩ := (s2 j hj).2 hb'
        refine ⟨cA_ext (zTv_C hV.1) (hV.2.2.2.1 j hj hb').1.2.2.2.1 (fun jj hjj => ?_) w1, w2⟩
        rw [pk_cpy_out (by omega)]
  exact key _ (a_set s1 ek (by omega))
theorem km_keep {Q : Option Value → zM → Prop} {G : zG} {M : zM} {i : Int32} (hC : zD G M) (hV : zV G) (hq : ∀ M', zD (o_keep G i).2 M' → frC M M' → Q (some (.int (o_keep G i).1)) M') : zCon fX11_keep [.ref 47, .int i] M Q := by
  obtain ⟨c1, c2, c3, c4, c5, c6, c7, c8, c9⟩ := id hC
  refine zc_of zkX11_keep [15] 60 (Nat.le_of_ble_eq_true rfl) ?_
  refine k_in (S := 2) (by omega) l0_ (by decide) (fun k hk ek => cT ?_) (fun ho => cF ?_)
  · unfold o_keep at hq
    rw [show ix i 2 = some k by rw [ek]; exact ix_in hk (by omega)] at hq
    have L : ∀ m, m ≤ 88 → ∀ y, y = nI m → zEv fX11_keep Q 15 [(0, .ref 47), (1, .int i), (2, .int y)] [] (zset M 78 (pt88 (M 78) (M 56) (89 * k) m)) := by
      refine zloop 88 ?_ ?_
      · intro y hy
        refine zev_go zkX11_keep [15] 60 (iGe hy n_88 (by omega) (by decide) (fun _ => ?_) (fun q => absurd q (by omega)))
        refine zix (89 * k + 88) (a_add (a_mul n_89 ek) n_88) (show 89 * k + 88 < 178 by omega) ⟨Or.inr rfl, zix k ek hk ?_⟩
        refine hq (zu (zu (zu (zset M 78 (pt88 (M 78) (M 56) (89 * k) 88)) 78 (89 * k + 88) (M 47 12)) 79 k 1) 47 32 0) ⟨zTm_fr ⟨rfl, rfl, rfl⟩ (fun k h1 h2 => by rw [zu_n _ _ _ (by omega), zu_n _ _ _ (by omega), zu_n _ _ _ (by omega), zset_n _ _ (by omega)]) c1, c2, ⟨rfl, fun e he => absurd he (Nat.not_lt_zero e)⟩, fun j hj => ⟨?_, fun hb => ?_⟩, c5, c6, mX_fr rfl rfl c7, mSn_fr rfl rfl rfl c8, mBk_fr rfl rfl rfl c9⟩ (fun k hk => by rw [zu_n _ _ _ (by omega), zu_n _ _ _ (by omega), zu_n _ _ _ (by omega), zset_n _ _ (by omega)])
        · show zu _ 79 k 1 79 j = zbl (bup (gI G).1 k true j)
          by_cases q : j = k
          · rw [q, bup_s, zu_at]; rfl
          · rw [bup_n _ _ q, zu_ne _ _ q]; exact (c4 j hj).1
        · have hb' : bup (gI G).1 k true j = true := hb
          show mA (gT G) (bup (gI G).2.1 k (gA G) j) (fun jj => zu (zset M 78 (pt88 (M 78) (M 56) (89 * k) 88)) 78 (89 * k + 88) (M 47 12) 78 (89 * j + jj)) ∧ zu (zset M 78 (pt88 (M 78) (M 56) (89 * k) 88)) 78 (89 * k + 88) (M 47 12) 78 (89 * j + 88) = nI (bup (gI G).2.2 k (gSd G) j)
          by_cases q : j = k
          · subst q
            rw [bup_s, bup_s, zu_at]
            refine ⟨mA_ext (zTv_C hV.1) hV.2.1.2.2.2.1 (fun jj hjj => ?_) c2, c5⟩
            rw [zu_ne _ _ (by omega), zset_s]
            unfold pt88
            rw [if_pos (by omega)]
            exact congrArg _ (by omega)
          · rw [bup_n _ _ q] at hb'
            rw [bup_n _ _ q, bup_n _ _ q, zu_ne _ _ (by omega), zset_s]
            obtain ⟨w1, w2⟩ := (c4 j hj).2 hb'
            refine ⟨mA_ext (zTv_C hV.1) (hV.2.2.2.1 j hj hb').1.2.2.2.1 (fun jj hjj => ?_) w1, ?_⟩
            · rw [zu_ne _ _ (by omega), zset_s]
              unfold pt88
              rw [if_neg (by omega)]
            · unfold pt88
              rw [if_neg (by omega)]
              exact w2
      · intro m hm ih y hy
        refine zev_go zkX11_keep [15] 60 (iGe hy n_88 (by omega) (by decide) (fun q => absurd q (by omega)) (fun _ => ?_))
        refine zix m hy hm (zix (89 * k + m) (a_add (a_mul n_89 ek) hy) (show 89 * k + m < 178 by omega) ?_)
        have e : zu (zset M 78 (pt88 (M 78) (M 56) (89 * k) m)) 78 (89 * k + m) (M 56 m) = zset M 78 (pt88 (M 78) (M 56) (89 * k) (m + 1)) := by
          unfold zu; rw [zset_s, zset_u, pt88_s]
        have e2 : (zset M 78 (pt88 (M 78) (M 56) (89 * k) m)) 56 m = M 56 m := rfl
        rw [e2, e]
        exact ih _ (by rw [hy, nI_1])
    have L0 := L 0 (by omega) 0 rfl
    rw [pt88_0, zset_id] at L0
    exact L0
  · unfold o_keep at hq; rw [ix_out (by omega) ho] at hq; exact hq M hC (fun _ _ => rfl)
