/-! days: t1 .. t5 are the lots that follow one another -/
def dyR (t n : Nat) : Nat := t / 65536 % n
theorem dyR_lt {t n : Nat} (h : 0 < n) : dyR t n < n := Nat.mod_lt _ h
def dyF (T : zTn) (f : zAf) (t1 t2 t3 : Nat) : zAf := if dyR t1 (tS T) ≠ dyR t2 (tS T) ∧ wOK T (aS f) (dyR t2 (tS T)) (dyR t1 (tS T)) then aSent T f (dyR t1 (tS T)) (dyR t2 (tS T)) (dyR t3 (tN T) + 1) else f
def dyE (T : zTn) (f : zAf) (t3 t4 t5 : Nat) : zAf × Nat := if tC T = 0 then (f, t3) else if dyR t4 8 = 0 then (aSetS f (sMv (aS f) (dyR t5 (tC T)) (!((aS f).testBit (dyR t5 (tC T))))), t5) else (f, t4)
def dyG (T : zTn) (f : zAf) (t1 t2 t3 t4 t5 : Nat) : zAf × Nat := dyE T (dyF T f t1 t2 t3) t3 t4 t5
def dyH (T : zTn) (f : zAf) (t1 t2 t3 : Nat) : zAf × Nat := dyG T f t1 t2 t3 (drS t3) (drS (drS t3))
def dy (T : zTn) (p : zAf × Nat) : zAf × Nat := dyH T p.1 (drS p.2) (drS (drS p.2)) (drS (drS (drS p.2)))
def dys (T : zTn) (p : zAf × Nat) : Nat → zAf × Nat
  | 0 => p
  | n + 1 => dy T (dys T p n)
theorem v_dyF {T : zTn} {f : zAf} {t1 t2 t3 : Nat} (hv : zTv T) (hf : vA T f) (hS : 0 < tS T) : vA T (dyF T f t1 t2 t3) := by
  unfold dyF
  split
  · next q => exact vA_sent hv hf (dyR_lt hS) (dyR_lt hS) q.1 q.2 (say1 (zTv_N hv) (dyR_lt (zTv_0 hv hS)))
  · exact hf
theorem v_dyE {T : zTn} {f : zAf} {t3 t4 t5 : Nat} (hf : vA T f) (h3 : t3 < 2 ^ 31) (h4 : t4 < 2 ^ 31) (h5 : t5 < 2 ^ 31) : vA T (dyE T f t3 t4 t5).1 ∧ (dyE T f t3 t4 t5).2 < 2 ^ 31 := by
  unfold dyE
  split
  · exact ⟨hf, h3⟩
  · next q =>
    split
    · exact ⟨vA_setS hf (sMv_lt hf.2.2.1 (dyR_lt (by omega))), h5⟩
    · exact ⟨hf, h4⟩
theorem v_dyG {T : zTn} {f : zAf} {t1 t2 t3 t4 t5 : Nat} (hv : zTv T) (hf : vA T f) (hS : 0 < tS T) (h3 : t3 < 2 ^ 31) (h4 : t4 < 2 ^ 31) (h5 : t5 < 2 ^ 31) : vA T (dyG T f t1 t2 t3 t4 t5).1 ∧ (dyG T f t1 t2 t3 t4 t5).2 < 2 ^ 31 := v_dyE (v_dyF hv hf hS) h3 h4 h5
theorem dy_G (T : zTn) (f : zAf) {s t1 t2 t3 t4 t5 : Nat} (h1 : drS s = t1) (h2 : drS t1 = t2) (h3 : drS t2 = t3) (h4 : drS t3 = t4) (h5 : drS t4 = t5) : dy T (f, s) = dyG T f t1 t2 t3 t4 t5 := by
  unfold dy dyH
  dsimp only
  rw [h1, h2, h3, h4, h5]
theorem v_dy {T : zTn} {f : zAf} {s : Nat} (hv : zTv T) (hf : vA T f) (hS : 0 < tS T) : vA T (dy T (f, s)).1 ∧ (dy T (f, s)).2 < 2 ^ 31 := by
  rw [dy_G T f (s := s) rfl rfl rfl rfl rfl]
  exact v_dyG hv hf hS (drS_lt _) (drS_lt _) (drS_lt _)
theorem v_dys {T : zTn} {p : zAf × Nat} (hv : zTv T) (hf : vA T p.1) (hs : p.2 < 2 ^ 31) (hS : 0 < tS T) : ∀ n, vA T (dys T p n).1 ∧ (dys T p n).2 < 2 ^ 31
  | 0 => ⟨hf, hs⟩
  | n + 1 => v_dy (f := (dys T p n).1) (s := (dys T p n).2) hv (v_dys hv hf hs hS n).1 hS
theorem k_X10_passDay {Q : Option Value → zM → Prop} {M : zM} {T : zTn} {f : zAf} {s t1 t2 t3 t4 t5 : Nat} (d1 : drS s = t1) (d2 : drS t1 = t2) (d3 : drS t2 = t3) (d4 : drS t3 = t4) (d5 : drS t4 = t5) (hv : zTv T) (hT : zTc T M) (hf : cA T f (M 22)) (hvf : vA T f) (hs' : M 0 10 = nI s) (hs : s < 2 ^ 31) (hS2 : 0 < tS T) (hq : ∀ M', (∀ k, k ≠ 0 → k ≠ 22 → k ≠ 28 → k ≠ 29 → k ≠ 30 → M' k = M k) → cA T (dyG T f t1 t2 t3 t4 t5).1 (M' 22) → M' 0 10 = nI (dyG T f t1 t2 t3 t4 t5).2 → Q none M') : zCon fX10_passDay [.ref 0] M Q := by
  have hS := zTv_S hv
  have hN := zTv_N hv
  have hC := zTv_C hv
  have hN0 := zTv_0 hv hS2
  have l1 : t1 < 2 ^ 31 := by rw [← d1]; exact drS_lt _
  have l2 : t2 < 2 ^ 31 := by rw [← d2]; exact drS_lt _
  have l3 : t3 < 2 ^ 31 := by rw [← d3]; exact drS_lt _
  have l4 : t4 < 2 ^ 31 := by rw [← d4]; exact drS_lt _
  have x1 : dyR t1 (tS T) < tS T := dyR_lt hS2
  have x2 : dyR t2 (tS T) < tS T := dyR_lt hS2
  have x3 : dyR t3 (tN T) < tN T := dyR_lt hN0
  have hvF := v_dyF (t1 := t1) (t2 := t2) (t3 := t3) hv hvf hS2
  have eF : ∃ F, F = dyF T f t1 t2 t3 := ⟨_, rfl⟩
  obtain ⟨F, eF⟩ := eF
  have eG : dyG T f t1 t2 t3 t4 t5 = dyE T F t3 t4 t5 := by unfold dyG; rw [eF]
  rw [eG] at hq
  rw [← eF] at hvF
  have J : ∀ x y z M1, (∀ k, k ≠ 0 → k ≠ 22 → k ≠ 28 → k ≠ 29 → k ≠ 30 → M1 k = M k) → cA T F (M1 22) → M1 0 10 = nI t3 → zEv fX10_passDay Q 63 [(0, .ref 0), (1, .int x), (2, .int y), (3, .int z)] [] M1 := by
    intro x y z M1 hfr hc1 hs1
    have e13 : M1 1 3 = nI (tC T) := by rw [hfr 1 (by omega) (by omega) (by omega) (by omega) (by omega)]; exact hT.2.2.1
    refine zev_go zkX10_passDay [] 60 (iGe n_0 e13 (by omega) (by omega) (fun q => ?_) (fun q => ?_))
    · have e : dyE T F t3 t4 t5 = (F, t3) := by unfold dyE; rw [if_pos (by omega)]
      rw [e] at hq
      exact hq M1 hfr hc1 hs1
    · refine k_drawC hs1 l3 d4 n_8 (by omega) (by decide) ?_
      refine iNe (a := dyR t4 8) rfl n_0 (by have := dyR_lt (t := t4) (n := 8) (by omega); omega) (by decide) (fun c => ?_) (fun c => ?_)
      · have e : dyE T F t3 t4 t5 = (F, t4) := by unfold dyE; rw [if_neg (by omega), if_neg c]
        rw [e] at hq
        exact hq _ (fun k a b c d e => by rw [zu_n _ _ _ a]; exact hfr k a b c d e) hc1 (zu_at _ _ _ _)
      · have e : dyE T F t3 t4 t5 = (aSetS F (sMv (aS F) (dyR t5 (tC T)) (!((aS F).testBit (dyR t5 (tC T))))), t5) := by unfold dyE; rw [if_neg (by omega), if_pos c]
        rw [e] at hq
        have x4 : dyR t5 (tC T) < tC T := dyR_lt q
        refine k_drawC (s := t4) (zu_at _ _ _ _) l4 d5 (show zu M1 0 10 (nI t4) 1 3 = nI (tC T) from e13) q (by omega) ?_
        have fin : ∀ b, b = !((aS F).testBit (dyR t5 (tC T))) → ∀ (Q' : Option Value → zM → Prop), (∀ M', Q none M' → Q' none M') → zCon fX0_setShut [.ref 21, .int (nI (dyR t5 (tC T))), .int (zbl b)] (zu (zu M1 0 10 (nI t4)) 0 10 (nI t5)) Q' := by
          intro b hb Q' hQ
          refine k_X0_setShut (i := dyR t5 (tC T)) (s := aS F) rfl (by omega) hc1.2.2.1 (hQ _ ?_)
          rw [hb]
          refine hq _ (fun k a b c d e => by rw [zu_n _ _ _ b, zu_n _ _ _ a, zu_n _ _ _ a]; exact hfr k a b c d e) ?_ ?_
          · exact cA_S hc1
          · rw [zu_n _ _ _ (by decide), zu_at]
        refine k_X0_isShut (i := dyR t5 (tC T)) (s := aS F) rfl (by omega) hc1.2.2.1 (vA_S hv hvF) (fun r => cT ?_) (fun r => cF ?_)
        · exact fin false (by rw [r]; rfl) _ (fun _ h => h)
        · exact fin true (by rw [r]; rfl) _ (fun _ h => h)
  refine zc_of zkX10_passDay [63] 60 (Nat.le_of_ble_eq_true rfl) ?_
  refine k_drawC hs' hs d1 hT.2.1 hS2 (by omega) ?_
  refine k_drawC (s := t1) (zu_at _ _ _ _) l1 d2 (show zu M 0 10 (nI t1) 1 2 = nI (tS T) from hT.2.1) hS2 (by omega) ?_
  refine k_drawC (s := t2) (zu_at _ _ _ _) l2 d3 (show zu (zu M 0 10 (nI t1)) 0 10 (nI t2) 1 1 = nI (tN T) from hT.1) hN0 (by omega) ?_
  have fr0 : ∀ k, k ≠ 0 → zu (zu (zu M 0 10 (nI t1)) 0 10 (nI t2)) 0 10 (nI t3) k = M k := fun k hk => by rw [zu_n _ _ _ hk, zu_n _ _ _ hk, zu_n _ _ _ hk]
  refine iEq (a := dyR t1 (tS T)) (b := dyR t2 (tS T)) rfl rfl (by omega) (by omega) (fun c => ?_) (fun c => ?_)
  · refine J _ _ _ _ (fun k a _ _ _ _ => fr0 k a) ?_ (zu_at _ _ _ _)
    rw [eF]
    unfold dyF
    rw [if_neg (fun q => q.1 c)]
    exact hf
  · have hT3 : zTc T (zu (zu (zu M 0 10 (nI t1)) 0 10 (nI t2)) 0 10 (nI t3)) := zTc_fr (fun k h1 h2 => fr0 k (by omega)) hT
    refine k_X9_find (a := dyR t1 (tS T)) (b := dyR t2 (tS T)) hv hT3 hf hvf rfl rfl x1 x2 (fun hw M' hfr hc => bT ?_) (fun hw M' hfr => bF ?_)
    · refine k_X10_deliver (a := dyR t1 (tS T)) (b := dyR t2 (tS T)) (v := dyR t3 (tN T) + 1) hv (zTc_fr (fun k h1 h2 => hfr k (by omega) (by omega) (by omega)) hT3) (by rw [hfr 22 (by omega) (by omega) (by omega)]; exact hf) hvf hc rfl rfl x1 x2 c hw (a_add (a := dyR t3 (tN T)) rfl n_1) (say1 hN x3) (fun g hg => ?_)
      refine J _ _ _ _ (fun k a b c d e => by rw [zset_n _ _ b, hfr k c d e]; exact fr0 k a) ?_ ?_
      · rw [zset_s, eF]
        unfold dyF
        rw [if_pos ⟨c, hw⟩]
        exact hg
      · rw [zset_n _ _ (by decide), hfr 0 (by omega) (by omega) (by omega), zu_at]
    · refine J _ _ _ _ (fun k a b c d e => by rw [hfr k c d e]; exact fr0 k a) ?_ ?_
      · rw [hfr 22 (by omega) (by omega) (by omega), eF]
        unfold dyF
        rw [if_neg (fun q => hw q.2)]
        exact hf
      · rw [hfr 0 (by omega) (by omega) (by omega), zu_at]
theorem k_X11_chance {Q : Option Value → zM → Prop} {M : zM} {T : zTn} {f : zAf} {s t1 t2 t3 t4 t5 : Nat} (d1 : drS s = t1) (d2 : drS t1 = t2) (d3 : drS t2 = t3) (d4 : drS t3 = t4) (d5 : drS t4 = t5) (hv : zTv T) (hT : zTm T M) (hf : mA T f (M 56)) (hvf : vA T f) (hs' : M 47 12 = nI s) (hs : s < 2 ^ 31) (hS2 : 0 < tS T) (hq : ∀ M', (∀ k, k ≠ 47 → k ≠ 56 → k ≠ 67 → M' k = M k) → (∀ j, j ≠ 12 → M' 47 j = M 47 j) → mA T (dyG T f t1 t2 t3 t4 t5).1 (M' 56) → M' 47 12 = nI (dyG T f t1 t2 t3 t4 t5).2 → Q none M') : zCon fX11_chance [.ref 47] M Q := by
  have hS := zTv_S hv
  have hN := zTv_N hv
  have hC := zTv_C hv
  have hN0 := zTv_0 hv hS2
  have l1 : t1 < 2 ^ 31 := by rw [← d1]; exact drS_lt _
  have l2 : t2 < 2 ^ 31 := by rw [← d2]; exact drS_lt _
  have l3 : t3 < 2 ^ 31 := by rw [← d3]; exact drS_lt _
  have l4 : t4 < 2 ^ 31 := by rw [← d4]; exact drS_lt _
  have x1 : dyR t1 (tS T) < tS T := dyR_lt hS2
  have x2 : dyR t2 (tS T) < tS T := dyR_lt hS2
  have x3 : dyR t3 (tN T) < tN T := dyR_lt hN0
  have hvF := v_dyF (t1 := t1) (t2 := t2) (t3 := t3) hv hvf hS2
  have eF : ∃ F, F = dyF T f t1 t2 t3 := ⟨_, rfl⟩
  obtain ⟨F, eF⟩ := eF
  have eG : dyG T f t1 t2 t3 t4 t5 = dyE T F t3 t4 t5 := by unfold dyG; rw [eF]
  rw [eG] at hq
  rw [← eF] at hvF
  have J : ∀ x y z M1, (∀ k, k ≠ 47 → k ≠ 56 → k ≠ 67 → M1 k = M k) → (∀ j, j ≠ 12 → M1 47 j = M 47 j) → mA T F (M1 56) → M1 47 12 = nI t3 → zEv fX11_chance Q 59 [(0, .ref 47), (1, .int x), (2, .int y), (3, .int z)] [] M1 := by
    intro x y z M1 hfr hfr2 hc1 hs1
    have e13 : M1 47 4 = nI (tC T) := by rw [hfr2 4 (by omega)]; exact hT.2.2.1
    refine zev_go zkX11_chance [] 60 (iGe n_0 e13 (by omega) (by omega) (fun q => ?_) (fun q => ?_))
    · have e : dyE T F t3 t4 t5 = (F, t3) := by unfold dyE; rw [if_pos (by omega)]
      rw [e] at hq
      exact hq M1 hfr hfr2 hc1 hs1
    · refine k_drawM hs1 l3 d4 n_8 (by omega) (by decide) ?_
      refine iNe (a := dyR t4 8) rfl n_0 (by have := dyR_lt (t := t4) (n := 8) (by omega); omega) (by decide) (fun c => ?_) (fun c => ?_)
      · have e : dyE T F t3 t4 t5 = (F, t4) := by unfold dyE; rw [if_neg (by omega), if_neg c]
        rw [e] at hq
        exact hq _ (fun k a b c => by rw [zu_n _ _ _ a]; exact hfr k a b c) (fun j hj => by rw [zu_ne _ _ hj]; exact hfr2 j hj) hc1 (zu_at _ _ _ _)
      · have e : dyE T F t3 t4 t5 = (aSetS F (sMv (aS F) (dyR t5 (tC T)) (!((aS F).testBit (dyR t5 (tC T))))), t5) := by unfold dyE; rw [if_neg (by omega), if_pos c]
        rw [e] at hq
        have x4 : dyR t5 (tC T) < tC T := dyR_lt q
        refine k_drawM (s := t4) (zu_at _ _ _ _) l4 d5 (show zu M1 47 12 (nI t4) 47 4 = nI (tC T) from e13) q (by omega) ?_
        refine k_X11_turn (i := dyR t5 (tC T)) (s := aS F) rfl (by omega) hc1.2.2.1 (vA_S hv hvF) ?_
        refine hq _ (fun k a b c => by rw [zset_n _ _ b, zu_n _ _ _ a, zu_n _ _ _ a]; exact hfr k a b c) (fun j hj => ?_) ?_ ?_
        · rw [zset_n _ _ (by decide), zu_ne _ _ hj, zu_ne _ _ hj]; exact hfr2 j hj
        · rw [zset_s]; exact mA_S hC hc1
        · rw [zset_n _ _ (by decide), zu_at]
  refine zc_of zkX11_chance [59] 60 (Nat.le_of_ble_eq_true rfl) ?_
  refine k_drawM hs' hs d1 hT.2.1 hS2 (by omega) ?_
  refine k_drawM (s := t1) (zu_at _ _ _ _) l1 d2 (show zu M 47 12 (nI t1) 47 1 = nI (tS T) from hT.2.1) hS2 (by omega) ?_
  refine k_drawM (s := t2) (zu_at _ _ _ _) l2 d3 (show zu (zu M 47 12 (nI t1)) 47 12 (nI t2) 47 0 = nI (tN T) from hT.1) hN0 (by omega) ?_
  have fr0 : ∀ k, k ≠ 47 → zu (zu (zu M 47 12 (nI t1)) 47 12 (nI t2)) 47 12 (nI t3) k = M k := fun k hk => by rw [zu_n _ _ _ hk, zu_n _ _ _ hk, zu_n _ _ _ hk]
  have fr1 : ∀ j, j ≠ 12 → zu (zu (zu M 47 12 (nI t1)) 47 12 (nI t2)) 47 12 (nI t3) 47 j = M 47 j := fun j hj => by rw [zu_ne _ _ hj, zu_ne _ _ hj, zu_ne _ _ hj]
  have hT3 : zTm T (zu (zu (zu M 47 12 (nI t1)) 47 12 (nI t2)) 47 12 (nI t3)) := zTm_fr ⟨fr1 _ (by decide), fr1 _ (by decide), fr1 _ (by decide)⟩ (fun k h1 h2 => fr0 k (by omega)) hT
  refine k_X11_findAway (b := dyR t2 (tS T)) hv hT3 hf hvf rfl x2 (fun g hg => ?_)
  have dl := dM_le (T := T) (s := aS f) (b := dyR t2 (tS T)) (dyR t1 (tS T))
  have no : ¬ (dyR t1 (tS T) ≠ dyR t2 (tS T) ∧ wOK T (aS f) (dyR t2 (tS T)) (dyR t1 (tS T))) → ∀ x y z, zEv fX11_chance Q 59 [(0, .ref 47), (1, .int x), (2, .int y), (3, .int z)] [] (zset (zu (zu (zu M 47 12 (nI t1)) 47 12 (nI t2)) 47 12 (nI t3)) 67 g) := by
    intro hno x y z
    refine J _ _ _ _ (fun k a b c => by rw [zset_n _ _ c]; exact fr0 k a) (fun j hj => by rw [zset_n _ _ (by decide)]; exact fr1 j hj) ?_ ?_
    · rw [eF]
      unfold dyF
      rw [if_neg hno]
      exact hf
    · rw [zset_n _ _ (by decide), zu_at]
  refine iEq (a := dyR t1 (tS T)) (b := dyR t2 (tS T)) rfl rfl (by omega) (by omega) (fun c => no (fun q => q.1 c) _ _ _) (fun c => ?_)
  refine zix (dyR t1 (tS T)) rfl (show dyR t1 (tS T) < 7 by omega) (iGe (hg (dyR t1 (tS T)) (by omega)) n_1000000 (by omega) (by decide) (fun d => no (fun q => wOK_ge hv d q.2) _ _ _) (fun d => ?_))
  have hw := wOK_lt hv d
  have hT4 : zTm T (zset (zu (zu (zu M 47 12 (nI t1)) 47 12 (nI t2)) 47 12 (nI t3)) 67 g) := zTm_fr (M := (zu (zu (zu M 47 12 (nI t1)) 47 12 (nI t2)) 47 12 (nI t3))) (by rw [zset_n _ _ (by decide)]; exact ⟨rfl, rfl, rfl⟩) (fun k h1 h2 => zset_n _ _ (by omega)) hT3
  refine k_X11_sendNow (a := dyR t1 (tS T)) (b := dyR t2 (tS T)) (v := dyR t3 (tN T) + 1) hv hT4 hf hvf hg rfl rfl x1 x2 c hw (a_add (a := dyR t3 (tN T)) rfl n_1) (say1 hN x3) (fun g' hg' => ?_)
  refine zev_pick [0, 1, 2, 3] (J _ _ _ _ (fun k a b c => by rw [zset_n _ _ b, zset_n _ _ c]; exact fr0 k a) (fun j hj => by rw [zset_n _ _ (by decide), zset_n _ _ (by decide)]; exact fr1 j hj) ?_ ?_)
  · rw [zset_s, eF]
    unfold dyF
    rw [if_pos ⟨c, hw⟩]
    exact hg'
  · rw [zset_n _ _ (by decide), zset_n _ _ (by decide), zu_at]
