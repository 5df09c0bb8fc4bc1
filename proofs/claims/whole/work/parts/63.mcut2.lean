/-! cut of the model -/
def cI (T : zTn) (f : zAf) (a b n : Nat) (u : Int32) : Prop := (u = -1 ∧ ∀ s, s < n → ¬ sep T f a b s) ∨ ∃ r, u = nI r ∧ r < n ∧ sep T f a b r ∧ ∀ s, s < n → sep T f a b s → key r ≤ key s
theorem cI_keep {T : zTn} {f : zAf} {a b n : Nat} {u : Int32} (h : cI T f a b n u) (hn : ¬ sep T f a b n) : cI T f a b (n + 1) u := by
  rcases h with ⟨h1, h2⟩ | ⟨r, h1, h2, h3, h4⟩
  · refine Or.inl ⟨h1, fun s hs => ?_⟩
    by_cases c : s = n
    · rw [c]; exact hn
    · exact h2 s (by omega)
  · refine Or.inr ⟨r, h1, by omega, h3, fun s hs hss => ?_⟩
    by_cases c : s = n
    · rw [c] at hss; exact absurd hss hn
    · exact h4 s (by omega) hss
theorem km_cut {Q : Option Value → zM → Prop} {G : zG} {M : zM} {a b w : Int32} (hC : zD G M) (hV : zV G) (hq : ∀ M', zD G M' → frC M M' → Q (some (.int (o_cut G a b w))) M') : zCon fX11_cut [.ref 47, .int a, .int b, .int w] M Q := by
  obtain ⟨c1, c2, c3, c4, c5, c6, c7, c8, c9⟩ := id hC
  have hS := zTv_S hV.1
  have hCc := zTv_C hV.1
  have hsh := vA_S hV.1 hV.2.1
  refine zc_of zkX11_cut [31] 60 (Nat.le_of_ble_eq_true rfl) ?_
  refine k_X11_areTwo (by omega) c1.2.1 (fun f t hf ht hft ef et => cT ?_) (fun ho => cF ?_)
  · unfold o_cut at hq
    rw [show ix2 a b (tS (gT G)) = some (f, t) by rw [ef, et]; exact ix2_in hf ht (by omega) hft] at hq
    dsimp only at hq
    refine k_in (S := 2) (by omega) l0_ (by decide) (fun m hm e3 => cT ?_) (fun ho => cF ?_)
    · rw [show ix w 2 = some m by rw [e3]; exact ix_in hm (by omega)] at hq
      dsimp only at hq
      have h' := hq M hC (fun _ _ => rfl)
      have h1024 : 2 ^ tC (gT G) ≤ 1024 := Nat.pow_le_pow_right (n := 2) (by omega) hCc
      have e1 : zshl 1 (M 47 4) = nI (2 ^ tC (gT G)) := a_shl1 c1.2.2.1 (by omega)
      have L : ∀ n, n ≤ 2 ^ tC (gT G) → ∀ u z, cI (gT G) (gA G) f t n u → z = nI n → zEv fX11_cut Q 31 [(0, .ref 47), (1, .int a), (2, .int b), (3, .int w), (4, .int u), (5, .int z)] [] M := by
        refine zloop (2 ^ tC (gT G)) ?_ ?_
        · intro u z hu hz
          obtain ⟨r0, p1, p2, p3⟩ := cut_some (f := gA G) hf hft
          obtain ⟨r, r1, r2, r3, r4⟩ : ∃ r, u = nI r ∧ r < 2 ^ tC (gT G) ∧ sep (gT G) (gA G) f t r ∧ ∀ s, s < 2 ^ tC (gT G) → sep (gT G) (gA G) f t s → key r ≤ key s := by
            rcases hu with ⟨h1, h2⟩ | h
            · exact absurd p3 (h2 r0 p2)
            · exact h
          have er : cutR (gT G) (gA G) f t = r := by unfold cutR; rw [cut_eq hV.1 hf hft r2 r3 r4]
          rw [er] at h'
          refine zev_go zkX11_cut [31] 60 (iGe hz e1 (by omega) (by omega) (fun _ => ?_) (fun q => absurd q (by omega)))
          refine iNe e3 n_0 (by omega) (by decide) (fun d => k_X11_bits r1 (by omega) ?_) (fun d => ?_)
          · rw [if_neg d] at h'; exact h'
          · rw [if_pos d, ← r1] at h'; exact h'
        · intro n hn ih u z hu hz
          have J2 : ∀ (c : Bool) u6, (c = true → cI (gT G) (gA G) f t (n + 1) z) → (c = false → cI (gT G) (gA G) f t (n + 1) u) → zEv fX11_cut Q 112 [(0, .ref 47), (1, .int a), (2, .int b), (3, .int w), (4, .int u), (5, .int z), (6, .int u6)] [.int (zbl c)] M := by
            intro c u6 ht hf'
            cases c with
            | true => exact zev_go zkX11_cut [31] 60 (bT (zev_pick [0, 1, 2, 3, 4, 5] (ih _ _ (ht rfl) (by rw [hz, nI_1]))))
            | false => exact zev_go zkX11_cut [31] 60 (bF (zev_pick [0, 1, 2, 3, 4, 5] (ih _ _ (hf' rfl) (by rw [hz, nI_1]))))
          have J1 : ∀ c : Bool, (c = false → cI (gT G) (gA G) f t (n + 1) u) → (c = true → sep (gT G) (gA G) f t n → cI (gT G) (gA G) f t (n + 1) z) → zEv fX11_cut Q 67 [(0, .ref 47), (1, .int a), (2, .int b), (3, .int w), (4, .int u), (5, .int z), (6, .int (zbl c))] [] M := by
            intro c h0 h1
            cases c with
            | false => exact zev_go zkX11_cut [112] 60 (bF (J2 false _ (fun q => absurd q (by decide)) (fun _ => h0 rfl)))
            | true =>
              have no : ¬ sep (gT G) (gA G) f t n → zEv fX11_cut Q 112 [(0, .ref 47), (1, .int a), (2, .int b), (3, .int w), (4, .int u), (5, .int z), (6, .int (zbl true))] [.int (zbl false)] M := fun q => J2 false _ (fun r => absurd r (by decide)) (fun _ => cI_keep hu q)
              refine zev_go zkX11_cut [112] 60 (bT (zix 10 rfl (by decide) ?_))
              refine iNe (a_and hz c2.2.2.1) n_0 (Nat.lt_of_le_of_lt Nat.and_le_left (by omega)) (by decide) (fun d => no (fun q => d q.1)) (fun d => zix 10 rfl (by decide) ?_)
              refine k_X11_getsTo hV.1 c1 ef (a_or hz c2.2.2.1) hf (Nat.or_lt_two_pow (n := 10) (by omega) hsh) (fun s hs hR => ?_)
              refine k_X11_has rfl et (by omega) (by omega) (fun q => cT (no (fun r => r.2 ((hR t).mp q)))) (fun q => cF (J2 true _ (fun _ => h1 rfl ⟨d, fun r => ?_⟩) (fun q => absurd q (by decide))))
              have := (hR t).mpr r
              rw [q] at this
              cases this
          refine zev_go zkX11_cut [67] 60 (iGe hz e1 (by omega) (by omega) (fun q => absurd q (by omega)) (fun _ => ?_))
          rcases id hu with ⟨h1, h2⟩ | ⟨r, h1, h2, h3, h4⟩
          · refine bt_ (by rw [h1]; decide) (J1 true (fun q => absurd q (by decide)) (fun _ hs => Or.inr ⟨n, hz, by omega, hs, fun s hs' hss => ?_⟩))
            by_cases c : s = n
            · rw [c]; exact Nat.le_refl _
            · exact absurd hss (h2 s (by omega))
          · refine bf_ (by rw [h1]; exact nI_pos (by omega)) (k_X11_bits hz (by omega) (k_X11_bits h1 (by omega) ?_))
            have p1 := pc_le n 10
            have p2 := pc_le r 10
            refine iGe rfl rfl (by omega) (by omega) (fun c => J1 false (fun _ => Or.inr ⟨r, h1, by omega, h3, fun s hs hss => ?_⟩) (fun q => absurd q (by decide))) (fun c => J1 true (fun q => absurd q (by decide)) (fun _ hs => Or.inr ⟨n, hz, by omega, hs, fun s hs' hss => ?_⟩))
            · by_cases d : s = n
              · rw [d]; unfold key; omega
              · exact h4 s (by omega) hss
            · by_cases d : s = n
              · rw [d]; exact Nat.le_refl _
              · have := h4 s (by omega) hss
                have k : key n < key r := by unfold key; omega
                omega
      exact L 0 (Nat.zero_le _) (-1) 0 (Or.inl ⟨rfl, fun s hs => absurd hs (by omega)⟩) rfl
    · rw [ix_out (by omega) ho] at hq
      exact hq M hC (fun _ _ => rfl)
  · unfold o_cut at hq
    rw [ix2_out (by omega) ho] at hq
    exact hq M hC (fun _ _ => rfl)
