/-! walk of the model -/
abbrev wG (d : Nat → Nat) (M : zM) : Prop := ∀ p, p < 896 → M 73 p = nI (d p)
theorem wG_u {d : Nat → Nat} {M : zM} {t x : Nat} {v : Int32} (hv : v = nI x) (h : wG d M) : wG (nup d t x) (zu M 73 t v) := fun p hp => by
  rw [zu_s, upd_if]
  by_cases c : p = t
  · rw [if_pos c, c, nup_s]; exact hv
  · rw [if_neg c, nup_n _ _ c]; exact h p hp
theorem rl_hi {d : Nat → Nat} {t v : Nat} : ∀ p, nup d t (min v (d t)) p ≤ d p := fun p => by
  by_cases c : p = t
  · rw [c, nup_s]; omega
  · rw [nup_n _ _ c]; exact Nat.le_refl _
theorem rl_lo {c d : Nat → Nat} {t v : Nat} (hc : c t ≤ v) (h : ∀ p, c p ≤ d p) : ∀ p, c p ≤ nup d t (min v (d t)) p := fun p => by
  by_cases e : p = t
  · rw [e, nup_s]; have := h t; omega
  · rw [nup_n _ _ e]; exact h p
def wP2 (T : zTn) (j d : Nat → Nat) (σ i : Nat) : Prop := d (7 * (σ ||| 2 ^ tB T i) + tB T i) ≤ j (7 * σ + tA T i) + 1 ∧ d (7 * (σ ||| 2 ^ tA T i) + tA T i) ≤ j (7 * σ + tB T i) + 1
theorem wP2_m {T : zTn} {j d d' : Nat → Nat} {σ i : Nat} (h : ∀ p, d' p ≤ d p) (hp : wP2 T j d σ i) : wP2 T j d' σ i := ⟨Nat.le_trans (h _) hp.1, Nat.le_trans (h _) hp.2⟩
theorem km_walk {Q : Option Value → zM → Prop} {G : zG} {M : zM} {x : Int32} (hC : zD G M) (hV : zV G) (hq : ∀ M', zD G M' → frC M M' → Q (some (.int (o_walk G x))) M') : zCon fX11_walk [.ref 47, .int x] M Q := by
  obtain ⟨c1, c2, c3, c4, c5, c6, c7, c8, c9⟩ := id hC
  have hS := zTv_S hV.1
  have hCc := zTv_C hV.1
  have hv := hV.1
  have hq1 : ∀ M', frR 73 73 M M' → Q (some (.int (o_walk G x))) M' := fun M' hf => hq M' (zD_fr (fun k hk => hf k (by unfold zown2 at hk; omega)) hC) (fun k hk => hf k (by omega))
  refine zc_of zkX11_walk [13] 60 (Nat.le_of_ble_eq_true rfl) (k_X11_isStreet (by omega) c1.2.1 (fun a ha ex => cT ?_) (fun ho => cF ?_))
  · unfold o_walk at hq1
    rw [show ix x (tS (gT G)) = some a by rw [ex]; exact ix_in ha (by omega)] at hq1
    have hT := c1
    generalize gT G = T at *
    have hq2 : ∀ M', frR 73 73 M M' → Q (some (.int (if wk T a < 1000000 then nI (wk T a) else -1))) M' := hq1
    have h128 : 2 ^ tS T ≤ 128 := Nat.pow_le_pow_right (n := 2) (by omega) hS
    have h1p : 1 ≤ 2 ^ tS T := Nat.one_le_two_pow
    have h2a : 2 ^ a < 2 ^ tS T := Nat.pow_lt_pow_right (by omega) ha
    have eall : zshl 1 (M 47 1) - 1 = nI (2 ^ tS T - 1) := a_sub (a_shl1 hT.2.1 (by omega)) n_1 h1p
    have hT' : ∀ M', frR 73 73 M M' → zTm T M' := fun M' hf => zTm_R (by omega) hf hT
    -- the end
    have E : ∀ al M' d, al = nI (2 ^ tS T - 1) → frR 73 73 M M' → wG d M' → (∀ p, wD T a p ≤ d p) → (∀ p, d p ≤ jr (wL2 T) (w0 a) 28 p) → zEv fX11_walk Q 260 [(0, .ref 47), (1, .int x), (2, .int al)] [] M' := by
      intro al M' d hal hf hg hlo hhi
      have ew : lmn d (7 * (2 ^ tS T - 1)) (tS T) = wk T a := wk_eq hv ha (fun p _ => hlo p) (fun p _ => hhi p)
      have dle : ∀ p, d p ≤ 1000000 := fun p => by
        have q1 := hhi p
        have q2 := jr_an (L := wL2 T) (d0 := w0 a) (show 0 ≤ 28 by omega) p
        have q3 : jr (wL2 T) (w0 a) 0 p ≤ 1000000 := by
          show (if p = 7 * 2 ^ a + a then 0 else 1000000) ≤ 1000000
          split <;> omega
        omega
      have L : ∀ b, b ≤ tS T → ∀ l z, l = nI (lmn d (7 * (2 ^ tS T - 1)) b) → z = nI b → zEv fX11_walk Q 266 [(0, .ref 47), (1, .int x), (2, .int al), (3, .int l), (4, .int z)] [] M' := by
        refine zloop (tS T) ?_ ?_
        · intro l z hl hz
          have hh := hq2 M' hf
          have F := lmn_F d (7 * (2 ^ tS T - 1)) (tS T)
          rw [ew] at hl F
          refine zev_go zkX11_walk [266] 60 (iGe hz (hT' M' hf).2.1 (by omega) (by omega) (fun _ => ?_) (fun q => absurd q (by omega)))
          refine iLt hl n_1000000 (by omega) (by decide) (fun c => ?_) (fun c => ?_)
          · rw [if_pos c, ← hl] at hh; exact hh
          · rw [if_neg (by omega)] at hh; exact hh
        · intro b hb ih l z hl hz
          have F := lmn_F d (7 * (2 ^ tS T - 1)) b
          have pl : 7 * (2 ^ tS T - 1) + b < 896 := by omega
          have ei : 7 * al + z = nI (7 * (2 ^ tS T - 1) + b) := a_add (a_mul n_7 hal) hz
          have D := dle (7 * (2 ^ tS T - 1) + b)
          refine zev_go zkX11_walk [266] 60 (iGe hz (hT' M' hf).2.1 (by omega) (by omega) (fun q => absurd q (by omega)) (fun _ => zix _ ei pl ?_))
          refine iGe (hg _ pl) hl (by omega) (by omega) (fun c => ?_) (fun c => zix _ ei pl ?_)
          · exact zev_pick [0, 1, 2, 3, 4] (ih _ _ (by rw [lmn_s, Nat.min_eq_left c]; exact hl) (by rw [hz, nI_1]))
          · exact zev_pick [0, 1, 2, 3, 4] (ih _ _ (by rw [lmn_s, Nat.min_eq_right (by omega)]; exact hg _ pl) (by rw [hz, nI_1]))
      exact zev_go zkX11_walk [266] 60 (L 0 (Nat.zero_le _) _ 0 n_1000000 n_0)
    -- the rounds
    have R : ∀ k, k ≤ 28 → ∀ al z M' d, al = nI (2 ^ tS T - 1) → z = nI k → frR 73 73 M M' → wG d M' → (∀ p, wD T a p ≤ d p) → (∀ p, d p ≤ jr (wL2 T) (w0 a) k p) → zEv fX11_walk Q 59 [(0, .ref 47), (1, .int x), (2, .int al), (3, .int z)] [] M' := by
      refine zloop 28 ?_ ?_
      · intro al z M' d hal hz hf hg hlo hhi
        exact zev_go zkX11_walk [260] 60 (iGe hz n_28 (by omega) (by decide) (fun _ => zev_pick [0, 1, 2] (E _ M' d hal hf hg hlo hhi)) (fun q => absurd q (by omega)))
      · intro k hk ih al z M' d hal hz hf hg hlo hhi
        refine zev_go zkX11_walk [68] 60 (iGe hz n_28 (by omega) (by decide) (fun q => absurd q (by omega)) (fun _ => ?_))
        have jle : ∀ p, jr (wL2 T) (w0 a) k p ≤ 1000000 := fun p => by
          have q2 := jr_an (L := wL2 T) (d0 := w0 a) (show 0 ≤ k by omega) p
          have q3 : jr (wL2 T) (w0 a) 0 p ≤ 1000000 := by
            show (if p = 7 * 2 ^ a + a then 0 else 1000000) ≤ 1000000
            split <;> omega
          omega
        have up : ∀ d : Nat → Nat, (∀ p, d p ≤ jr (wL2 T) (w0 a) k p) → (∀ σ, σ < 2 ^ tS T → ∀ i, i < tC T → wP2 T (jr (wL2 T) (w0 a) k) d σ i) → ∀ p, d p ≤ jr (wL2 T) (w0 a) (k + 1) p := fun d h1 h2 p => jr_up h1 (fun e he => by
          obtain ⟨σ, i, s1, s2, s3⟩ := wS_mem.mp he
          obtain ⟨k1, k2⟩ := h2 σ s1 i s2
          rcases s3 with s | s
          · rw [s]; exact k1
          · rw [s]; exact k2) p
        generalize jr (wL2 T) (w0 a) k = j at *
        have S : ∀ σ, σ ≤ 2 ^ tS T → ∀ w M' d, w = nI σ → frR 73 73 M M' → wG d M' → (∀ p, wD T a p ≤ d p) → (∀ p, d p ≤ j p) → (∀ σ', σ' < σ → ∀ i, i < tC T → wP2 T j d σ' i) → zEv fX11_walk Q 68 [(0, .ref 47), (1, .int x), (2, .int al), (3, .int z), (4, .int w)] [] M' := by
          refine zloop (2 ^ tS T) ?_ ?_
          · intro w M' d hw hf hg hlo hhi hpr
            refine zev_go zkX11_walk [59] 60 (iLt hal hw (by omega) (by omega) (fun _ => ?_) (fun q => absurd q (by omega)))
            exact zev_pick [0, 1, 2, 3] (ih _ _ M' d hal (by rw [hz, nI_1]) hf hg hlo (up d hhi hpr))
          · intro σ hσ ihS w M' d hw hf hg hlo hhi hpr
            refine zev_go zkX11_walk [77] 60 (iLt hal hw (by omega) (by omega) (fun q => absurd q (by omega)) (fun _ => ?_))
            have I : ∀ i, i ≤ tC T → ∀ y M' d, y = nI i → frR 73 73 M M' → wG d M' → (∀ p, wD T a p ≤ d p) → (∀ p, d p ≤ j p) → (∀ σ', σ' < σ → ∀ i, i < tC T → wP2 T j d σ' i) → (∀ i', i' < i → wP2 T j d σ i') → zEv fX11_walk Q 77 [(0, .ref 47), (1, .int x), (2, .int al), (3, .int z), (4, .int w), (5, .int y)] [] M' := by
              refine zloop (tC T) ?_ ?_
              · intro y M' d hy hf hg hlo hhi hpr hp2
                refine zev_go zkX11_walk [68] 60 (iGe hy (hT' M' hf).2.2.1 (by omega) (by omega) (fun _ => ?_) (fun q => absurd q (by omega)))
                refine zev_pick [0, 1, 2, 3, 4] (ihS _ M' d (by rw [hw, nI_1]) hf hg hlo hhi (fun σ' hσ' i hi => ?_))
                by_cases c : σ' = σ
                · subst c; exact hp2 i hi
                · exact hpr σ' (by omega) i hi
              · intro i hi ihI y M' d hy hf hg hlo hhi hpr hp2
                obtain ⟨i1, i2, i3, _⟩ := zTv_i hv hi
                have i10 : i < 10 := by omega
                have eA : ∀ M', frR 73 73 M M' → M' 50 i = nI (tA T i) := fun M' hf => (hT' M' hf).2.2.2.2.2.1 i hi
                have eB : ∀ M', frR 73 73 M M' → M' 51 i = nI (tB T i) := fun M' hf => (hT' M' hf).2.2.2.2.2.2.1 i hi
                have lA := (w_lt hv hσ i1).1
                have lB := (w_lt hv hσ i2).1
                obtain ⟨dA', dB'⟩ := wD_e (a := a) hv hσ hi
                have et : 7 * (w ||| zshl 1 (M' 51 i)) + M' 51 i = nI (7 * (σ ||| 2 ^ tB T i) + tB T i) := a_add (a_mul n_7 (a_set hw (eB M' hf) (by omega))) (eB M' hf)
                have eh : 7 * (w ||| zshl 1 (M' 50 i)) + M' 50 i = nI (7 * (σ ||| 2 ^ tA T i) + tA T i) := a_add (a_mul n_7 (a_set hw (eA M' hf) (by omega))) (eA M' hf)
                have gA' := hg (7 * σ + tA T i) (by omega)
                have gB' := hg (7 * σ + tB T i) (by omega)
                have ex' := a_add gA' n_1
                have ey' := a_add gB' n_1
                have bA := Nat.le_trans (hhi (7 * σ + tA T i)) (jle _)
                have bB := Nat.le_trans (hhi (7 * σ + tB T i)) (jle _)
                have hA := hhi (7 * σ + tA T i)
                have hB := hhi (7 * σ + tB T i)
                have lo1 := hlo (7 * σ + tA T i)
                have lo2 := hlo (7 * σ + tB T i)
                have J : ∀ M2 d2 k6 k7 k8 k9, k7 = nI (7 * (σ ||| 2 ^ tA T i) + tA T i) → k9 = nI (d (7 * σ + tB T i) + 1) → frR 73 73 M M2 → wG d2 M2 → (∀ p, wD T a p ≤ d2 p) → (∀ p, d2 p ≤ d p) → d2 (7 * (σ ||| 2 ^ tB T i) + tB T i) ≤ j (7 * σ + tA T i) + 1 → zEv fX11_walk Q 211 [(0, .ref 47), (1, .int x), (2, .int al), (3, .int z), (4, .int w), (5, .int y), (6, .int k6), (7, .int k7), (8, .int k8), (9, .int k9)] [] M2 := by
                  intro M2 d2 k6 k7 k8 k9 h7 h9 hf2 hg2 hlo2 hle h1
                  have pl : 7 * (σ ||| 2 ^ tA T i) + tA T i < 896 := by omega
                  have b2 := Nat.le_trans (Nat.le_trans (hle (7 * (σ ||| 2 ^ tA T i) + tA T i)) (hhi _)) (jle _)
                  have nx : ∀ v, v = nI (min (d (7 * σ + tB T i) + 1) (d2 (7 * (σ ||| 2 ^ tA T i) + tA T i))) → zEv fX11_walk Q 77 [(0, .ref 47), (1, .int x), (2, .int al), (3, .int z), (4, .int w), (5, .int (y + 1))] [] (zu M2 73 (7 * (σ ||| 2 ^ tA T i) + tA T i) v) := fun v hvv => by
                    have hle2 : ∀ p, nup d2 (7 * (σ ||| 2 ^ tA T i) + tA T i) (min (d (7 * σ + tB T i) + 1) (d2 (7 * (σ ||| 2 ^ tA T i) + tA T i))) p ≤ d p := fun p => Nat.le_trans (rl_hi p) (hle p)
                    refine ihI _ _ _ (by rw [hy, nI_1]) (frR_u (by omega) (by omega) hf2) (wG_u hvv hg2) (rl_lo (by omega) hlo2) (fun p => Nat.le_trans (hle2 p) (hhi p)) (fun σ' hσ' i' hi' => wP2_m hle2 (hpr σ' hσ' i' hi')) (fun i' hi' => ?_)
                    by_cases c : i' = i
                    · subst c
                      refine ⟨Nat.le_trans (rl_hi _) h1, ?_⟩
                      rw [nup_s]
                      omega
                    · exact wP2_m hle2 (hp2 i' (by omega))
                  refine zev_go zkX11_walk [77] 60 (zix _ h7 pl ?_)
                  refine iGe h9 (hg2 _ pl) (by omega) (by omega) (fun c => zix _ h7 pl (zix _ h7 pl ?_)) (fun c => zix _ h7 pl ?_)
                  · exact zev_pick [0, 1, 2, 3, 4, 5] (nx _ (by rw [Nat.min_eq_right c]; exact hg2 _ pl))
                  · exact zev_pick [0, 1, 2, 3, 4, 5] (nx _ (by rw [Nat.min_eq_left (by omega)]; exact h9))
                have pl : 7 * (σ ||| 2 ^ tB T i) + tB T i < 896 := by omega
                have b2 := Nat.le_trans (hhi (7 * (σ ||| 2 ^ tB T i) + tB T i)) (jle _)
                refine zev_go zkX11_walk [77, 211] 90 (iGe hy (hT' M' hf).2.2.1 (by omega) (by omega) (fun q => absurd q (by omega)) (fun _ => ?_))
                refine zix i hy i10 (zix i hy i10 (zix i hy i10 (zix i hy i10 (zix i hy i10 (zix (7 * σ + tA T i) (a_add (a_mul n_7 hw) (eA M' hf)) (show _ < 896 by omega) ?_)))))
                refine zix i hy i10 (zix (7 * σ + tB T i) (a_add (a_mul n_7 hw) (eB M' hf)) (show _ < 896 by omega) (zix _ et pl ?_))
                refine iGe ex' (hg _ pl) (by omega) (by omega) (fun c => zix _ et pl (zix _ et pl ?_)) (fun c => zix _ et pl ?_)
                · exact J _ (nup d (7 * (σ ||| 2 ^ tB T i) + tB T i) (min (d (7 * σ + tA T i) + 1) (d (7 * (σ ||| 2 ^ tB T i) + tB T i)))) _ _ _ _ eh ey' (frR_u (by omega) (by omega) hf) (wG_u (by rw [Nat.min_eq_right c]; exact hg _ pl) hg) (rl_lo (by omega) hlo) rl_hi (by rw [nup_s]; omega)
                · exact J _ (nup d (7 * (σ ||| 2 ^ tB T i) + tB T i) (min (d (7 * σ + tA T i) + 1) (d (7 * (σ ||| 2 ^ tB T i) + tB T i)))) _ _ _ _ eh ey' (frR_u (by omega) (by omega) hf) (wG_u (by rw [Nat.min_eq_left (by omega)]; exact ex') hg) (rl_lo (by omega) hlo) rl_hi (by rw [nup_s]; omega)
            exact I 0 (Nat.zero_le _) 0 M' d n_0 hf hg hlo hhi hpr (fun i' hi' => absurd hi' (by omega))
        exact S 0 (Nat.zero_le _) 0 M' d n_0 hf hg hlo hhi (fun σ' hσ' => absurd hσ' (by omega))
    -- the start
    have F : ∀ k, k ≤ 896 → ∀ z M', z = nI k → frR 73 73 M M' → (∀ p, p < k → M' 73 p = nI 1000000) → zEv fX11_walk Q 13 [(0, .ref 47), (1, .int x), (2, .int z)] [] M' := by
      refine zloop 896 ?_ ?_
      · intro z M' hz hf hg
        have pl : 7 * 2 ^ a + a < 896 := by omega
        refine zev_go zkX11_walk [59] 60 (iGe hz n_896 (by omega) (by decide) (fun _ => zix (7 * 2 ^ a + a) (a_add (a_mul n_7 (a_shl1 ex (by omega))) ex) pl ?_) (fun q => absurd q (by omega)))
        have hf2 : frR 73 73 M (zu M' 73 (7 * 2 ^ a + a) 0) := frR_u (by omega) (by omega) hf
        refine R 0 (Nat.zero_le _) _ 0 _ (w0 a) ?_ n_0 hf2 (fun p hp => ?_) (fun p => wD_an (r := 0) (by omega) p) (fun p => Nat.le_refl _)
        · exact a_sub (a_shl1 (hT' _ hf2).2.1 (by omega)) n_1 h1p
        · rw [zu_s, upd_if]
          unfold w0
          by_cases c : p = 7 * 2 ^ a + a
          · rw [if_pos c, if_pos c]; rfl
          · rw [if_neg c, if_neg c]; exact hg p hp
      · intro k hk ih z M' hz hf hg
        refine zev_go zkX11_walk [13] 60 (iGe hz n_896 (by omega) (by decide) (fun q => absurd q (by omega)) (fun _ => zix k hz hk ?_))
        refine ih _ _ (by rw [hz, nI_1]) (frR_u (by omega) (by omega) hf) (fun p hp => ?_)
        rw [zu_s, upd_if]
        by_cases c : p = k
        · rw [if_pos c]; rfl
        · rw [if_neg c]; exact hg p (by omega)
    exact F 0 (Nat.zero_le _) 0 M n_0 (frR_r _ _ _) (fun p hp => absurd hp (by omega))
  · unfold o_walk at hq1
    rw [ix_out (by omega) ho] at hq1
    exact hq1 M (frR_r _ _ _)
