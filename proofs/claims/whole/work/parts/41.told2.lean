/-! told -/
theorem sw14 {x : Int32} {A0 A1 A2 A3 A4 A5 A6 A7 A8 A9 A10 A11 A12 A13 D : Prop} (a0 : x = nI 0 → A0) (a1 : x = nI 1 → A1) (a2 : x = nI 2 → A2) (a3 : x = nI 3 → A3) (a4 : x = nI 4 → A4) (a5 : x = nI 5 → A5) (a6 : x = nI 6 → A6) (a7 : x = nI 7 → A7) (a8 : x = nI 8 → A8) (a9 : x = nI 9 → A9) (a10 : x = nI 10 → A10) (a11 : x = nI 11 → A11) (a12 : x = nI 12 → A12) (a13 : x = nI 13 → A13) (d : (x < 0 ∨ nI 14 ≤ x) → D) : ((x = nI 0 → A0) ∧ (x = nI 1 → A1) ∧ (x = nI 2 → A2) ∧ (x = nI 3 → A3) ∧ (x = nI 4 → A4) ∧ (x = nI 5 → A5) ∧ (x = nI 6 → A6) ∧ (x = nI 7 → A7) ∧ (x = nI 8 → A8) ∧ (x = nI 9 → A9) ∧ (x = nI 10 → A10) ∧ (x = nI 11 → A11) ∧ (x = nI 12 → A12) ∧ (x = nI 13 → A13) ∧ True) ∧ ((x < 0 ∨ nI 14 ≤ x) → D) := ⟨⟨a0, a1, a2, a3, a4, a5, a6, a7, a8, a9, a10, a11, a12, a13, trivial⟩, d⟩
def o_told (G : zG) (w : Int32) : Int32 := match ix w 14 with
  | some 0 => nI (tN (gT G))
  | some 1 => nI (tS (gT G))
  | some 2 => nI (tC (gT G))
  | some 3 => nI (gX G).1
  | some 4 => nI (aP (gA G))
  | some 5 => nI (aH (gA G))
  | some 6 => nI (o_feuds (gT G) (gA G))
  | some 7 => nI (aS (gA G))
  | some 8 => nI (o_every (gT G) (gA G))
  | some 9 => o_blame (gT G) (gA G)
  | some 10 => nI (aL (gA G))
  | some 11 => nI (gSn G).1
  | some 12 => nI (gBk G).1
  | some 13 => nI (gU G).1
  | _ => cOUT
theorem kc_told {Q : Option Value → zM → Prop} {G : zG} {M : zM} {w : Int32} (hC : zC G M) (hV : zV G) (hq : ∀ M', zC G M' → frM M M' → Q (some (.int (o_told G w))) M') : zCon fX10_told [.ref 0, .int w] M Q := by
  obtain ⟨c1, c2, c3, c4, c5, c6, c7, c8, c9⟩ := id hC
  refine zc_of zkX10_told [] 60 (Nat.le_of_ble_eq_true rfl) ?_
  unfold o_told at hq
  refine sw14 (fun e => ?_) (fun e => ?_) (fun e => ?_) (fun e => ?_) (fun e => ?_) (fun e => ?_) (fun e => ?_) (fun e => ?_) (fun e => ?_) (fun e => ?_) (fun e => ?_) (fun e => ?_) (fun e => ?_) (fun e => ?_) (fun e => ?_)
  · rw [sw_ix (by omega) (by omega) e] at hq
    have hq : ∀ M', zC G M' → frM M M' → Q (some (.int (nI (tN (gT G))))) M' := hq
    have h := hq M hC (fun _ _ => rfl)
    rw [← c1.1] at h
    exact h
  · rw [sw_ix (by omega) (by omega) e] at hq
    have hq : ∀ M', zC G M' → frM M M' → Q (some (.int (nI (tS (gT G))))) M' := hq
    have h := hq M hC (fun _ _ => rfl)
    rw [← c1.2.1] at h
    exact h
  · rw [sw_ix (by omega) (by omega) e] at hq
    have hq : ∀ M', zC G M' → frM M M' → Q (some (.int (nI (tC (gT G))))) M' := hq
    have h := hq M hC (fun _ _ => rfl)
    rw [← c1.2.2.1] at h
    exact h
  · rw [sw_ix (by omega) (by omega) e] at hq
    have hq : ∀ M', zC G M' → frM M M' → Q (some (.int (nI (gX G).1))) M' := hq
    have h := hq M hC (fun _ _ => rfl)
    rw [← c7.1] at h
    exact h
  · rw [sw_ix (by omega) (by omega) e] at hq
    have hq : ∀ M', zC G M' → frM M M' → Q (some (.int (nI (aP (gA G))))) M' := hq
    have h := hq M hC (fun _ _ => rfl)
    rw [← c2.1] at h
    exact k_X0_pence h
  · rw [sw_ix (by omega) (by omega) e] at hq
    have hq : ∀ M', zC G M' → frM M M' → Q (some (.int (nI (aH (gA G))))) M' := hq
    have h := hq M hC (fun _ _ => rfl)
    rw [← c2.2.1] at h
    exact k_X0_husbands h
  · rw [sw_ix (by omega) (by omega) e] at hq
    have hq : ∀ M', zC G M' → frM M M' → Q (some (.int (nI (o_feuds (gT G) (gA G))))) M' := hq
    exact k_X0_countFeuds hV.1 c2 hV.2.1 (hq M hC (fun _ _ => rfl))
  · rw [sw_ix (by omega) (by omega) e] at hq
    have hq : ∀ M', zC G M' → frM M M' → Q (some (.int (nI (aS (gA G))))) M' := hq
    have h := hq M hC (fun _ _ => rfl)
    rw [← c2.2.2.1] at h
    exact k_X0_shutSet h
  · rw [sw_ix (by omega) (by omega) e] at hq
    have hq : ∀ M', zC G M' → frM M M' → Q (some (.int (nI (o_every (gT G) (gA G))))) M' := hq
    exact k_X2_everywhere hV.1 c1 c2 hV.2.1 (hq M hC (fun _ _ => rfl))
  · rw [sw_ix (by omega) (by omega) e] at hq
    have hq : ∀ M', zC G M' → frM M M' → Q (some (.int (o_blame (gT G) (gA G)))) M' := hq
    exact k_X0_blame hV.1 c1 c2 hV.2.1 (hq M hC (fun _ _ => rfl))
  · rw [sw_ix (by omega) (by omega) e] at hq
    have hq : ∀ M', zC G M' → frM M M' → Q (some (.int (nI (aL (gA G))))) M' := hq
    have h := hq M hC (fun _ _ => rfl)
    rw [← c2.2.2.2.1] at h
    exact k_X0_logCount h
  · rw [sw_ix (by omega) (by omega) e] at hq
    have hq : ∀ M', zC G M' → frM M M' → Q (some (.int (nI (gSn G).1))) M' := hq
    have h := hq M hC (fun _ _ => rfl)
    rw [← c8.1] at h
    exact h
  · rw [sw_ix (by omega) (by omega) e] at hq
    have hq : ∀ M', zC G M' → frM M M' → Q (some (.int (nI (gBk G).1))) M' := hq
    have h := hq M hC (fun _ _ => rfl)
    rw [← c9.1] at h
    exact h
  · rw [sw_ix (by omega) (by omega) e] at hq
    have hq : ∀ M', zC G M' → frM M M' → Q (some (.int (nI (gU G).1))) M' := hq
    have h := hq M hC (fun _ _ => rfl)
    rw [← c3.1] at h
    exact h
  · rw [sw_out (by omega) e] at hq
    exact hq M hC (fun _ _ => rfl)
theorem km_told {Q : Option Value → zM → Prop} {G : zG} {M : zM} {w : Int32} (hC : zD G M) (hV : zV G) (hq : ∀ M', zD G M' → frC M M' → Q (some (.int (o_told G w))) M') : zCon fX11_told [.ref 47, .int w] M Q := by
  obtain ⟨c1, c2, c3, c4, c5, c6, c7, c8, c9⟩ := id hC
  refine zc_of zkX11_told [] 60 (Nat.le_of_ble_eq_true rfl) ?_
  unfold o_told at hq
  refine sw14 (fun e => ?_) (fun e => ?_) (fun e => ?_) (fun e => ?_) (fun e => ?_) (fun e => ?_) (fun e => ?_) (fun e => ?_) (fun e => ?_) (fun e => ?_) (fun e => ?_) (fun e => ?_) (fun e => ?_) (fun e => ?_) (fun e => ?_)
  · rw [sw_ix (by omega) (by omega) e] at hq
    have hq : ∀ M', zD G M' → frC M M' → Q (some (.int (nI (tN (gT G))))) M' := hq
    have h := hq M hC (fun _ _ => rfl)
    rw [← c1.1] at h
    exact h
  · rw [sw_ix (by omega) (by omega) e] at hq
    have hq : ∀ M', zD G M' → frC M M' → Q (some (.int (nI (tS (gT G))))) M' := hq
    have h := hq M hC (fun _ _ => rfl)
    rw [← c1.2.1] at h
    exact h
  · rw [sw_ix (by omega) (by omega) e] at hq
    have hq : ∀ M', zD G M' → frC M M' → Q (some (.int (nI (tC (gT G))))) M' := hq
    have h := hq M hC (fun _ _ => rfl)
    rw [← c1.2.2.1] at h
    exact h
  · rw [sw_ix (by omega) (by omega) e] at hq
    have hq : ∀ M', zD G M' → frC M M' → Q (some (.int (nI (gX G).1))) M' := hq
    have h := hq M hC (fun _ _ => rfl)
    rw [← c7.1] at h
    exact h
  · rw [sw_ix (by omega) (by omega) e] at hq
    have hq : ∀ M', zD G M' → frC M M' → Q (some (.int (nI (aP (gA G))))) M' := hq
    have h := hq M hC (fun _ _ => rfl)
    rw [← c2.1] at h
    exact zix 25 rfl (by decide) h
  · rw [sw_ix (by omega) (by omega) e] at hq
    have hq : ∀ M', zD G M' → frC M M' → Q (some (.int (nI (aH (gA G))))) M' := hq
    have h := hq M hC (fun _ _ => rfl)
    rw [← c2.2.1] at h
    exact zix 26 rfl (by decide) h
  · rw [sw_ix (by omega) (by omega) e] at hq
    have hq : ∀ M', zD G M' → frC M M' → Q (some (.int (nI (o_feuds (gT G) (gA G))))) M' := hq
    exact k_X11_feuds hV.1 c1 c2 hV.2.1 (hq M hC (fun _ _ => rfl))
  · rw [sw_ix (by omega) (by omega) e] at hq
    have hq : ∀ M', zD G M' → frC M M' → Q (some (.int (nI (aS (gA G))))) M' := hq
    have h := hq M hC (fun _ _ => rfl)
    rw [← c2.2.2.1] at h
    exact zix 10 rfl (by decide) h
  · rw [sw_ix (by omega) (by omega) e] at hq
    have hq : ∀ M', zD G M' → frC M M' → Q (some (.int (nI (o_every (gT G) (gA G))))) M' := hq
    exact k_X11_everywhere hV.1 c1 c2 hV.2.1 (hq M hC (fun _ _ => rfl))
  · rw [sw_ix (by omega) (by omega) e] at hq
    have hq : ∀ M', zD G M' → frC M M' → Q (some (.int (o_blame (gT G) (gA G)))) M' := hq
    exact k_X11_blame hV.1 c1 c2 hV.2.1 (fun g => hq _ (zD_fr (fun k hk => zset_n _ _ (by unfold zown2 at hk; omega)) hC) (fun k hk => zset_n _ _ (by omega)))
  · rw [sw_ix (by omega) (by omega) e] at hq
    have hq : ∀ M', zD G M' → frC M M' → Q (some (.int (nI (aL (gA G))))) M' := hq
    have h := hq M hC (fun _ _ => rfl)
    rw [← c2.2.2.2.1] at h
    exact zix 27 rfl (by decide) h
  · rw [sw_ix (by omega) (by omega) e] at hq
    have hq : ∀ M', zD G M' → frC M M' → Q (some (.int (nI (gSn G).1))) M' := hq
    have h := hq M hC (fun _ _ => rfl)
    rw [← c8.1] at h
    exact h
  · rw [sw_ix (by omega) (by omega) e] at hq
    have hq : ∀ M', zD G M' → frC M M' → Q (some (.int (nI (gBk G).1))) M' := hq
    have h := hq M hC (fun _ _ => rfl)
    rw [← c9.1] at h
    exact h
  · rw [sw_ix (by omega) (by omega) e] at hq
    have hq : ∀ M', zD G M' → frC M M' → Q (some (.int (nI (gU G).1))) M' := hq
    have h := hq M hC (fun _ _ => rfl)
    rw [← c3.1] at h
    exact h
  · rw [sw_out (by omega) e] at hq
    exact hq M hC (fun _ _ => rfl)
