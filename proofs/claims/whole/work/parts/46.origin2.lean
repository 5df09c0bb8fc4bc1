/-! origins in the model -/
theorem or_step (o p : Nat) (c : Bool) (w : Nat) : (o ||| p) ||| (bif c then 2 ^ w else 0) = o ||| (bif c then p ||| 2 ^ w else p) := by
  cases c with
  | true => exact Nat.or_assoc _ _ _
  | false => exact Nat.or_zero _
theorem k_X11_stepBack {Q : Option Value → zM → Prop} {M : zM} {T : zTn} {a : zAf} {s : Nat → Nat} (hv : zTv T) (hT : zTm T M) (ha : mA T a (M 56)) (hva : vA T a) (hs : ∀ c, c < 7 → M 70 c = nI (s c) ∧ s c < 256) (h : ∀ M', (∀ k, k ≠ 70 → k ≠ 71 → M' k = M k) → (∀ c, c < 7 → M' 70 c = nI (orC T a s (tC T) c)) → Q none M') : zCon fX11_stepBack [.ref 47] M Q := by
  have hN := zTv_N hv
  have hS := zTv_S hv
  have hC := zTv_C hv
  have hsh := vA_S hv hva
  have fr : ∀ g, ∀ k, k ≠ 71 → (zset M 71 g) k = M k := fun g k h2 => zset_n _ _ h2
  have L2 : ∀ i, i ≤ tC T → ∀ x g, x = nI i → (∀ c, c < 7 → g c = nI (orC T a s i c)) → zEv fX11_stepBack Q 23 [(0, .ref 47), (1, .int x)] [] (zset M 71 g) := by
    refine zloop (tC T) ?_ ?_
    · intro x g hx hg
      refine zev_go zkX11_stepBack [23] 60 (iGe hx hT.2.2.1 (by omega) (by omega) (fun _ => ?_) (fun q => absurd q (by omega)))
      refine k_copyRow_71 n_7 (by omega) (h _ (fun k h1 h2 => by rw [zset_n _ _ h1, zset_n _ _ h2]) (fun c hc => ?_))
      rw [zset_s]
      unfold pt88
      rw [if_pos (by omega), zset_s]
      exact hg c (by omega)
    · intro i hi ih x g hx hg
      obtain ⟨i1, i2, i3, i4, i5, i6⟩ := zTv_i hv hi
      obtain ⟨sA, bA⟩ := hs (tA T i) (by omega)
      obtain ⟨sB, bB⟩ := hs (tB T i) (by omega)
      have eA : M 50 i = nI (tA T i) := hT.2.2.2.2.2.1 i hi
      have eB : M 51 i = nI (tB T i) := hT.2.2.2.2.2.2.1 i hi
      refine zev_go zkX11_stepBack [33] 60 (iGe hx hT.2.2.1 (by omega) (by omega) (fun q => absurd q (by omega)) (fun _ => ?_))
      cases q : (aS a).testBit i with
      | true =>
        have stop : zEv fX11_stepBack Q 33 [(0, .ref 47), (1, .int x), (2, .int 0)] [] (zset M 71 g) := by
          have nx : zEv fX11_stepBack Q 23 [(0, .ref 47), (1, .int (x + 1))] [] (zset M 71 g) := ih _ g (by rw [hx, nI_1]) (fun c hc => by rw [orC_s, if_pos q]; exact hg c hc)
          refine zev_go zkX11_stepBack [23] 60 (iGe n_0 hT.1 (by omega) (by omega) (fun _ => zev_pick [0, 1] nx) (fun _ => ?_))
          refine k_X11_isOpen hx (by omega) ha.2.2.1 (by omega) (fun r => absurd r (by rw [q]; decide)) (fun _ => bF (zev_pick [0, 1] nx))
        exact stop
      | false =>
        have I : ∀ w, w ≤ tN T → ∀ u g', u = nI w → (∀ c, c < 7 → c ≠ tA T i → c ≠ tB T i → g' c = g c) → g' (tA T i) = nI (orC T a s i (tA T i) ||| bset (fun w => (s (tB T i)).testBit (ovr T a i false w)) w) → g' (tB T i) = nI (orC T a s i (tB T i) ||| bset (fun w => (s (tA T i)).testBit (ovr T a i true w)) w) → zEv fX11_stepBack Q 33 [(0, .ref 47), (1, .int x), (2, .int u)] [] (zset M 71 g') := by
          refine zloop (tN T) ?_ ?_
          · intro u g' hu h1 h2 h3
            refine zev_go zkX11_stepBack [23] 60 (iGe hu hT.1 (by omega) (by omega) (fun _ => ?_) (fun q => absurd q (by omega)))
            refine zev_pick [0, 1] (ih _ g' (by rw [hx, nI_1]) (fun c hc => ?_))
            rw [orC_s, if_neg (by rw [q]; decide)]
            by_cases d1 : c = tB T i
            · rw [if_pos d1, d1]; exact h3
            · rw [if_neg d1]
              by_cases d2 : c = tA T i
              · rw [if_pos d2, d2]; exact h2
              · rw [if_neg d2, h1 c hc d2 d1]; exact hg c hc
          · intro w hw ihI u g' hu h1 h2 h3
            have l1 := ovr_lt (a := a) (b := false) hv hi hw
            have l2 := ovr_lt (a := a) (b := true) hv hi hw
            have fin : ∀ c1 c2, c1 = (s (tB T i)).testBit (ovr T a i false w) → c2 = (s (tA T i)).testBit (ovr T a i true w) → ∀ y1 y2, y1 = nI ((orC T a s i (tA T i) ||| bset (fun w => (s (tB T i)).testBit (ovr T a i false w)) w) ||| (bif c1 then 2 ^ w else 0)) → y2 = nI ((orC T a s i (tB T i) ||| bset (fun w => (s (tA T i)).testBit (ovr T a i true w)) w) ||| (bif c2 then 2 ^ w else 0)) → zEv fX11_stepBack Q 33 [(0, .ref 47), (1, .int x), (2, .int (u + 1))] [] (zset M 71 (upd (upd g' (tA T i) y1) (tB T i) y2)) := by
              intro c1 c2 hc1 hc2 y1 y2 hy1 hy2
              refine ihI _ _ (by rw [hu, nI_1]) (fun c hc d1 d2 => ?_) ?_ ?_
              · rw [pk_un d2, pk_un d1]; exact h1 c hc d1 d2
              · rw [pk_un i3, pk_us, hy1, or_step, hc1]; rfl
              · rw [pk_us, hy2, or_step, hc2]; rfl
            refine zev_go zkX11_stepBack [94] 60 (iGe hu hT.1 (by omega) (by omega) (fun q => absurd q (by omega)) (fun _ => ?_))
            refine k_X11_isOpen hx (by omega) ha.2.2.1 (by omega) (fun _ => bT ?_) (fun r => absurd r (by rw [q]; decide))
            refine zix i hx (show i < 10 by omega) (zix (tA T i) eA (show tA T i < 7 by omega) (zix i hx (show i < 10 by omega) (zix (tB T i) eB (show tB T i < 7 by omega) ?_)))
            refine k_X11_overAt (b := false) (T := T) (a := a) hv hT ha hva hx hi hu hw ?_
            have J : ∀ c1, c1 = (s (tB T i)).testBit (ovr T a i false w) → ∀ y1, y1 = nI ((orC T a s i (tA T i) ||| bset (fun w => (s (tB T i)).testBit (ovr T a i false w)) w) ||| (bif c1 then 2 ^ w else 0)) → zEv fX11_stepBack Q 94 [(0, .ref 47), (1, .int x), (2, .int u)] [] (zset M 71 (upd g' (tA T i) y1)) := by
              intro c1 hc1 y1 hy1
              refine zev_go zkX11_stepBack [33] 60 ?_
              refine zix i hx (show i < 10 by omega) (zix (tB T i) eB (show tB T i < 7 by omega) (zix i hx (show i < 10 by omega) (zix (tA T i) eA (show tA T i < 7 by omega) ?_)))
              refine k_X11_overAt (b := true) (T := T) (a := a) hv hT ha hva hx hi hu hw ?_
              have eo : (zset M 71 (upd g' (tA T i) y1)) 71 (tB T i) = nI (orC T a s i (tB T i) ||| bset (fun w => (s (tA T i)).testBit (ovr T a i true w)) w) := by rw [zset_s, pk_un (fun q => i3 q.symm)]; exact h3
              have u2 : ∀ y2, zu (zset M 71 (upd g' (tA T i) y1)) 71 (tB T i) y2 = zset M 71 (upd (upd g' (tA T i) y1) (tB T i) y2) := fun y2 => by unfold zu; rw [zset_s, zset_u]
              refine k_X11_has sA rfl (by omega) (by omega) (fun r => bT (zix (tB T i) eB (show tB T i < 7 by omega) ?_)) (fun r => bF (zix (tB T i) eB (show tB T i < 7 by omega) ?_))
              · rw [u2]
                exact fin c1 true hc1 r.symm y1 _ hy1 (a_or eo (a_shl1 hu (by omega)))
              · rw [u2]
                exact fin c1 false hc1 r.symm y1 _ hy1 (a_or eo n_0)
            have eo : (zset M 71 g') 71 (tA T i) = nI (orC T a s i (tA T i) ||| bset (fun w => (s (tB T i)).testBit (ovr T a i false w)) w) := by rw [zset_s]; exact h2
            have u1 : ∀ y1, zu (zset M 71 g') 71 (tA T i) y1 = zset M 71 (upd g' (tA T i) y1) := fun y1 => by unfold zu; rw [zset_s, zset_u]
            refine k_X11_has sB rfl (by omega) (by omega) (fun r => bT (zix (tA T i) eA (show tA T i < 7 by omega) ?_)) (fun r => bF (zix (tA T i) eA (show tA T i < 7 by omega) ?_))
            · rw [u1]
              exact J true r.symm _ (a_or eo (a_shl1 hu (by omega)))
            · rw [u1]
              exact J false r.symm _ (a_or eo n_0)
        refine I 0 (by omega) 0 g rfl (fun _ _ _ _ => rfl) ?_ ?_
        · show _ = nI (_ ||| 0); rw [Nat.or_zero]; exact hg _ (by omega)
        · show _ = nI (_ ||| 0); rw [Nat.or_zero]; exact hg _ (by omega)
  have L1 : ∀ k, k ≤ 7 → ∀ x, x = nI k → zEv fX11_stepBack Q 2 [(0, .ref 47), (1, .int x)] [] (zset M 71 (zfill (M 71) k 0)) := by
    refine zloop 7 ?_ ?_
    · intro x hx
      refine zev_go zkX11_stepBack [23] 60 (iGe hx n_7 (by omega) (by decide) (fun _ => ?_) (fun q => absurd q (by omega)))
      refine L2 0 (by omega) 0 _ rfl (fun v hv => ?_)
      unfold zfill; rw [if_pos hv]; rfl
    · intro k hk ih x hx
      refine zev_go zkX11_stepBack [2] 60 (iGe hx n_7 (by omega) (by decide) (fun q => absurd q (by omega)) (fun _ => zix k hx hk ?_))
      rw [zfill_s]
      exact ih _ (by rw [hx, nI_1])
  refine zc_of zkX11_stepBack [2] 60 (Nat.le_of_ble_eq_true rfl) ?_
  rw [zfill_0 M 71 0]
  exact L1 0 (by omega) 0 rfl
def orN (T : zTn) (a : zAf) (b v n : Nat) : Nat := sm (fun x => pc (orS T a b v n x) 10) (tS T)
theorem orN_7 {T : zTn} {a : zAf} {b v n : Nat} (hv : zTv T) (hb : b < tS T) (hw : v < tN T) : sm (fun x => pc (orS T a b v n x) 10) 7 = orN T a b v n := by
  have hS := zTv_S hv
  have L : ∀ m, tS T ≤ m → m ≤ 7 → sm (fun x => pc (orS T a b v n x) 10) m = sm (fun x => pc (orS T a b v n x) 10) (tS T) := by
    intro m
    induction m with
    | zero => intro h1 h2; have : tS T = 0 := by omega
              rw [this]
    | succ m ih =>
      intro h1 h2
      by_cases q : tS T = m + 1
      · rw [q]
      · show sm _ m + pc (orS T a b v n m) 10 = _
        rw [(orS_bd hv hb hw n m).2 (by omega), pc_0, ih (by omega) (by omega)]
        rfl
  exact L 7 hS (Nat.le_refl 7)
def o_origin (G : zG) (b v n a : Int32) : Int32 := match ix b (tS (gT G)), ix v (tN (gT G)) with
  | some b, some v => if a ≠ -1 ∧ ix a (tS (gT G)) = none then cUNK else match ix n 10 with
    | none => cOUT
    | some n => match ix a (tS (gT G)) with
      | none => nI (orN (gT G) (gA G) b v n)
      | some a => nI (orS (gT G) (gA G) b v n a)
  | _, _ => cUNK
theorem o_origin_u1 {G : zG} {b v n a : Int32} (h : ix b (tS (gT G)) = none) : o_origin G b v n a = cUNK := by unfold o_origin; rw [h]
theorem o_origin_u2 {G : zG} {b v n a : Int32} (h : ix v (tN (gT G)) = none) : o_origin G b v n a = cUNK := by unfold o_origin; rw [h]; cases ix b (tS (gT G)) <;> rfl
theorem m1_out {a : Int32} {n : Nat} (hn : n < 2 ^ 31) (h : a = -1) : ix a n = none := by
  subst h
  exact ix_out hn (fun j hj e => by
    have h2 : (-1 : Int32).toInt = (nI j).toInt := by rw [e]
    rw [nI_toInt (by omega)] at h2
    have h3 : (-1 : Int32).toInt = -1 := by decide
    omega)
