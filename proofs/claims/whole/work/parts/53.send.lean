/-! way, becomes, code, send -/
def aSent (T : zTn) (f : zAf) (a b v : Nat) : zAf := aHear T (aPay f (wP T (aS f) b a)) a b v (gsay T f b a v)
theorem gsay_ok {T : zTn} {f : zAf} {a b v : Nat} (hv : zTv T) (ha : a < tS T) (hw : wOK T (aS f) b a) (hs : isSay (tN T) v) : isSay (tN T) (gsay T f b a v) := gy_say hv ha hw hs _ (Nat.le_refl _)
theorem vA_sent {T : zTn} {f : zAf} {a b v : Nat} (hv : zTv T) (hf : vA T f) (ha : a < tS T) (hb : b < tS T) (hab : a ≠ b) (hw : wOK T (aS f) b a) (hs : isSay (tN T) v) : vA T (aSent T f a b v) := vA_hear hv (vA_pay hf) hab ha hb hs.2.1 (gsay_ok hv ha hw hs).2.1
theorem k_X10_deliver {Q : Option Value → zM → Prop} {M : zM} {T : zTn} {f : zAf} {x y s : Int32} {a b v : Nat} (hv : zTv T) (hT : zTc T M) (hf : cA T f (M 22)) (hvf : vA T f) (hc : cWay T (aS f) b a M) (hx : x = nI a) (hy : y = nI b) (ha : a < tS T) (hb : b < tS T) (hab : a ≠ b) (hw : wOK T (aS f) b a) (hs' : s = nI v) (hs : isSay (tN T) v) (h : ∀ g, cA T (aSent T f a b v) g → Q (some (.int (nI (gsay T f b a v)))) (zset M 22 g)) : zCon fX10_deliver [.ref 0, .int x, .int y, .int s] M Q := by
  have fn := wOK_fin hv hw
  refine zc_of zkX10_deliver [] 60 (Nat.le_of_ble_eq_true rfl) ?_
  refine k_X9_sayingOnWay hv hT hf hvf ha hw hc hs' hs ?_
  refine k_X0_pay hc.2.2.1 hf.1 (by omega) (by have := hvf.1; omega) ?_
  refine k_X0_hear (T := T) (a := aPay f (wP T (aS f) b a)) hv hT (cA_P hf) (vA_pay hvf) hx hy hs' rfl ha hb hab (gsay_ok hv ha hw hs).2.1 (fun g hg => ?_)
  have e : zset (zu M 22 0 (nI (min 999999 (aP f + wP T (aS f) b a)))) 22 g = zset M 22 g := zset_u _ _ _ _
  rw [e]
  exact h g hg
theorem k_X11_sendNow {Q : Option Value → zM → Prop} {M : zM} {T : zTn} {f : zAf} {x y s : Int32} {a b v : Nat} (hv : zTv T) (hT : zTm T M) (hf : mA T f (M 56)) (hvf : vA T f) (hc : ∀ c, c < 7 → M 67 c = nI (dM T (aS f) b c)) (hx : x = nI a) (hy : y = nI b) (ha : a < tS T) (hb : b < tS T) (hab : a ≠ b) (hw : wOK T (aS f) b a) (hs' : s = nI v) (hs : isSay (tN T) v) (h : ∀ g, mA T (aSent T f a b v) g → Q (some (.int (nI (gsay T f b a v)))) (zset M 56 g)) : zCon fX11_sendNow [.ref 47, .int x, .int y, .int s] M Q := by
  have hS := zTv_S hv
  have fn := wOK_fin hv hw
  refine zc_of zkX11_sendNow [] 60 (Nat.le_of_ble_eq_true rfl) ?_
  refine k_X11_sentBy hv hT hf hvf hc hx hy ha hb hw hs' hs ?_
  refine zix a hx (show a < 7 by omega) ⟨by decide, ?_⟩
  have ep : M 67 a / 100 = nI (wP T (aS f) b a) := by
    rw [a_div (hc a (by omega)) n_100 (by omega) (by omega) (by decide)]
    exact congrArg nI (by omega)
  refine k_X11_pay ep hf.1 (by omega) (by have := hvf.1; omega) ?_
  refine k_X11_hear (T := T) (a := aPay f (wP T (aS f) b a)) hv hT (mA_P (zTv_C hv) hf) (vA_pay hvf) hx hy hs' rfl ha hb hab (gsay_ok hv ha hw hs).2.1 (fun g hg => ?_)
  have e : zset (zu M 56 25 (nI (min 999999 (aP f + wP T (aS f) b a)))) 56 g = zset M 56 g := zset_u _ _ _ _
  rw [e]
  exact h g hg
def o_way (G : zG) (a b w : Int32) : Int32 := match ix2 a b (tS (gT G)) with
  | none => cUNK
  | some (x, y) => match ix w 3 with
    | none => cOUT
    | some w => if wOK (gT G) (aS (gA G)) y x then (if w = 0 then nI (wP (gT G) (aS (gA G)) y x) else if w = 1 then nI (wL (gT G) (aS (gA G)) y x) else nI (gn (gT G) (aS (gA G)) y x 0)) else -1
theorem zC_way {G : zG} {M M' : zM} (hC : zC G M) (h : ∀ k, k ≠ 28 → k ≠ 29 → k ≠ 30 → M' k = M k) : zC G M' := zC_fr (fun k hk => h k (by unfold zown1 at hk; omega) (by unfold zown1 at hk; omega) (by unfold zown1 at hk; omega)) hC
theorem kc_way {Q : Option Value → zM → Prop} {G : zG} {M : zM} {a b w : Int32} (hC : zC G M) (hV : zV G) (hq : ∀ M', zC G M' → frM M M' → Q (some (.int (o_way G a b w))) M') : zCon fX10_way [.ref 0, .int a, .int b, .int w] M Q := by
  obtain ⟨c1, c2, c3, c4, c5, c6, c7, c8, c9⟩ := id hC
  have hS := zTv_S hV.1
  refine zc_of zkX10_way [] 60 (Nat.le_of_ble_eq_true rfl) ?_
  refine k_X8_hasTwoStreets (by omega) c1.2.1 (fun f t hf ht hft ef et => cT ?_) (fun ho => cF ?_)
  · unfold o_way at hq
    rw [show ix2 a b (tS (gT G)) = some (f, t) by rw [ef, et]; exact ix2_in hf ht (by omega) hft] at hq
    dsimp only at hq
    have out : zout w 3 → Q (some (.int cOUT)) M := fun ho => by
      have h' := hq M hC (fun _ _ => rfl)
      rw [ix_out (by omega) ho] at h'
      exact h'
    refine br (fun d0 => out (outLe (n := 2) (by omega) (Or.inl d0))) (fun d0 => nr (fun d1 => ?_) (fun d1 => out (outLe (n := 2) (by omega) (Or.inr d1))))
    obtain ⟨m, hm, e3⟩ := numLe (n := 2) (by omega) d0 d1
    rw [show ix w 3 = some m by rw [e3]; exact ix_in hm (by omega)] at hq
    dsimp only at hq
    refine k_X9_find hV.1 c1 c2 hV.2.1 ef et hf ht (fun hw M' hfr hc => cT ?_) (fun hw M' hfr => cF ?_)
    · rw [if_pos hw] at hq
      have h' := hq M' (zC_way hC hfr) (fun k hk => hfr k (by omega) (by omega) (by omega))
      have hp := wL_pos hV.1 hft hw
      refine iNe e3 n_0 (by omega) (by decide) (fun d => iNe e3 n_1 (by omega) (by decide) (fun d2 => zix 0 rfl (by decide) ?_) (fun d2 => ?_)) (fun d => ?_)
      · rw [if_neg d, if_neg d2] at h'
        rw [hc.2.2.2 0 hp]
        exact h'
      · rw [if_neg d, if_pos d2, ← hc.2.1] at h'
        exact h'
      · rw [if_pos d, ← hc.2.2.1] at h'
        exact h'
    · rw [if_neg hw] at hq
      exact hq M' (zC_way hC hfr) (fun k hk => hfr k (by omega) (by omega) (by omega))
  · unfold o_way at hq
    rw [ix2_out (by omega) ho] at hq
    exact hq M hC (fun _ _ => rfl)
theorem zD_away {G : zG} {M : zM} {g : Nat → Int32} (hC : zD G M) : zD G (zset M 67 g) := zD_fr (fun k hk => zset_n _ _ (by unfold zown2 at hk; omega)) hC
theorem km_way {Q : Option Value → zM → Prop} {G : zG} {M : zM} {a b w : Int32} (hC : zD G M) (hV : zV G) (hq : ∀ M', zD G M' → frC M M' → Q (some (.int (o_way G a b w))) M') : zCon fX11_way [.ref 47, .int a, .int b, .int w] M Q := by
  obtain ⟨c1, c2, c3, c4, c5, c6, c7, c8, c9⟩ := id hC
  have hS := zTv_S hV.1
  refine zc_of zkX11_way [] 60 (Nat.le_of_ble_eq_true rfl) ?_
  refine k_X11_areTwo (by omega) c1.2.1 (fun f t hf ht hft ef et => cT ?_) (fun ho => cF ?_)
  · unfold o_way at hq
    rw [show ix2 a b (tS (gT G)) = some (f, t) by rw [ef, et]; exact ix2_in hf ht (by omega) hft] at hq
    dsimp only at hq
    refine k_in (S := 3) (by omega) l0_ (by decide) (fun m hm e3 => cT ?_) (fun ho => cF ?_)
    · rw [show ix w 3 = some m by rw [e3]; exact ix_in hm (by omega)] at hq
      dsimp only at hq
      refine k_X11_findAway hV.1 c1 c2 hV.2.1 et ht (fun g hg => ?_)
      have dl := dM_le (T := gT G) (s := aS (gA G)) (b := t) f
      have hD := zD_away (g := g) hC
      have h' := hq _ hD (fun k hk => zset_n _ _ (by omega))
      refine zix f ef (show f < 7 by omega) (iLt (hg f (by omega)) n_1000000 (by omega) (by decide) (fun c => ?_) (fun c => ?_))
      · have hw : wOK (gT G) (aS (gA G)) t f := by
          rcases d_cases (s := aS (gA G)) (b := t) hV.1 f with q | q
          · exact q.1
          · omega
        have fn := wOK_fin hV.1 hw
        rw [if_pos hw] at h'
        have hp := wL_pos hV.1 hft hw
        refine iNe e3 n_0 (by omega) (by decide) (fun d => iNe e3 n_1 (by omega) (by decide) (fun d2 => ?_) (fun d2 => zix f ef (show f < 7 by omega) ⟨by decide, ?_⟩)) (fun d => zix f ef (show f < 7 by omega) ⟨by decide, ?_⟩)
        · rw [if_neg d, if_neg d2] at h'
          refine k_X11_nextCorner hV.1 hD.1 hD.2.1 hV.2.1 (b := t) hg ef hf hw (fun i hi => ?_) (fun q => ?_)
          · have := (gn_ok hV.1 hf hw hp).1
            have e : gw (gT G) (aS (gA G)) t f 0 = f := rfl
            rw [e, hi] at this
            cases this
            exact h'
          · have := (gn_ok hV.1 hf hw hp).1
            have e : gw (gT G) (aS (gA G)) t f 0 = f := rfl
            rw [e, q] at this
            cases this
        · rw [if_neg d, if_pos d2] at h'
          have e : zrem ((zset M 67 g) 67 f) 100 = nI (wL (gT G) (aS (gA G)) t f) := by
            rw [zset_s, a_rem (hg f (by omega)) n_100 (by omega) (by omega) (by decide)]
            exact congrArg nI (by omega)
          rw [← e] at h'
          exact h'
        · rw [if_pos d] at h'
          have e : (zset M 67 g) 67 f / 100 = nI (wP (gT G) (aS (gA G)) t f) := by
            rw [zset_s, a_div (hg f (by omega)) n_100 (by omega) (by omega) (by decide)]
            exact congrArg nI (by omega)
          rw [← e] at h'
          exact h'
      · have hw : ¬ wOK (gT G) (aS (gA G)) t f := fun q => by
          have := wOK_fin hV.1 q
          omega
        rw [if_neg hw] at h'
        exact h'
    · rw [ix_out (by omega) ho] at hq
      exact hq M hC (fun _ _ => rfl)
  · unfold o_way at hq
    rw [ix2_out (by omega) ho] at hq
    exact hq M hC (fun _ _ => rfl)
/-- what the model's own test says -/
theorem wOK_lt {T : zTn} {s b v : Nat} (hv : zTv T) (h : dM T s b v < 1000000) : wOK T s b v := by
  rcases d_cases (s := s) (b := b) hv v with q | q
  · exact q.1
  · omega
theorem wOK_ge {T : zTn} {s b v : Nat} (hv : zTv T) (h : 1000000 ≤ dM T s b v) : ¬ wOK T s b v := fun q => by
  have := wOK_fin hv q
  omega
def o_becomes (G : zG) (a b w : Int32) : Int32 := match ix2 a b (tS (gT G)), ix w (tN (gT G)) with
  | some (x, y), some w => if wOK (gT G) (aS (gA G)) y x then nI (gsay (gT G) (gA G) y x (w + 1) - 1) else -1
  | _, _ => cUNK
theorem o_becomes_1 {G : zG} {a b w : Int32} (h : ix2 a b (tS (gT G)) = none) : o_becomes G a b w = cUNK := by unfold o_becomes; rw [h]
theorem o_becomes_2 {G : zG} {a b w : Int32} (h : ix w (tN (gT G)) = none) : o_becomes G a b w = cUNK := by unfold o_becomes; rw [h]; cases ix2 a b (tS (gT G)) <;> rfl
theorem kc_becomes {Q : Option Value → zM → Prop} {G : zG} {M : zM} {a b w : Int32} (hC : zC G M) (hV : zV G) (hq : ∀ M', zC G M' → frM M M' → Q (some (.int (o_becomes G a b w))) M') : zCon fX10_becomes [.ref 0, .int a, .int b, .int w] M Q := by
  obtain ⟨c1, c2, c3, c4, c5, c6, c7, c8, c9⟩ := id hC
  have hS := zTv_S hV.1
  have hN := zTv_N hV.1
  have unk : o_becomes G a b w = cUNK → Q (some (.int cUNK)) M := fun e => by
    have h' := hq M hC (fun _ _ => rfl)
    rw [e] at h'
    exact h'
  refine zc_of zkX10_becomes [] 60 (Nat.le_of_ble_eq_true rfl) ?_
  refine k_X8_hasTwoStreets (by omega) c1.2.1 (fun f t hf ht hft ef et => bT ?_) (fun ho => bF (unk (o_becomes_1 (ix2_out (by omega) ho))))
  refine k_X8_hasWord (by omega) c1.1 (fun v hvv ev => cT ?_) (fun ho => cF (unk (o_becomes_2 (ix_out (by omega) ho))))
  unfold o_becomes at hq
  rw [show ix2 a b (tS (gT G)) = some (f, t) by rw [ef, et]; exact ix2_in hf ht (by omega) hft, show ix w (tN (gT G)) = some v by rw [ev]; exact ix_in hvv (by omega)] at hq
  dsimp only at hq
  refine k_X9_find hV.1 c1 c2 hV.2.1 ef et hf ht (fun hw M' hfr hc => bT ?_) (fun hw M' hfr => bF ?_)
  · rw [if_pos hw] at hq
    have hC' := zC_way hC hfr
    exact k_X9_wordOnWay hV.1 hC'.1 hC'.2.1 hV.2.1 hf hw hc ev hvv (hq M' hC' (fun k hk => hfr k (by omega) (by omega) (by omega)))
  · rw [if_neg hw] at hq
    exact hq M' (zC_way hC hfr) (fun k hk => hfr k (by omega) (by omega) (by omega))
theorem km_becomes {Q : Option Value → zM → Prop} {G : zG} {M : zM} {a b w : Int32} (hC : zD G M) (hV : zV G) (hq : ∀ M', zD G M' → frC M M' → Q (some (.int (o_becomes G a b w))) M') : zCon fX11_becomes [.ref 47, .int a, .int b, .int w] M Q := by
  obtain ⟨c1, c2, c3, c4, c5, c6, c7, c8, c9⟩ := id hC
  have hS := zTv_S hV.1
  have hN := zTv_N hV.1
  have unk : o_becomes G a b w = cUNK → Q (some (.int cUNK)) M := fun e => by
    have h' := hq M hC (fun _ _ => rfl)
    rw [e] at h'
    exact h'
  refine zc_of zkX11_becomes [] 60 (Nat.le_of_ble_eq_true rfl) ?_
  refine k_X11_areTwo (by omega) c1.2.1 (fun f t hf ht hft ef et => bT ?_) (fun ho => bF (unk (o_becomes_1 (ix2_out (by omega) ho))))
  refine k_X11_isWord (by omega) c1.1 (fun v hvv ev => cT ?_) (fun ho => cF (unk (o_becomes_2 (ix_out (by omega) ho))))
  unfold o_becomes at hq
  rw [show ix2 a b (tS (gT G)) = some (f, t) by rw [ef, et]; exact ix2_in hf ht (by omega) hft, show ix w (tN (gT G)) = some v by rw [ev]; exact ix_in hvv (by omega)] at hq
  dsimp only at hq
  refine k_X11_findAway hV.1 c1 c2 hV.2.1 et ht (fun g hg => ?_)
  have dl := dM_le (T := gT G) (s := aS (gA G)) (b := t) f
  have hD := zD_away (g := g) hC
  have h' := hq _ hD (fun k hk => zset_n _ _ (by omega))
  have hs := say1 hN hvv
  refine zix f ef (show f < 7 by omega) (iLt (hg f (by omega)) n_1000000 (by omega) (by decide) (fun c => ?_) (fun c => ?_))
  · have hw := wOK_lt hV.1 c
    rw [if_pos hw] at h'
    refine k_X11_sentBy hV.1 hD.1 hD.2.1 hV.2.1 hg ef et hf ht hw (a_add ev n_1) hs ?_
    have e : nI (gsay (gT G) (gA G) t f (v + 1)) - 1 = nI (gsay (gT G) (gA G) t f (v + 1) - 1) := a_sub rfl n_1 (gsay_ok hV.1 hf hw hs).1
    rw [← e] at h'
    exact h'
  · rw [if_neg (wOK_ge hV.1 c)] at h'
    exact h'
def o_code (G : zG) (a b w : Int32) : Int32 := match ix2 a b (tS (gT G)), ix w (tN (gT G)) with
  | some (x, y), some v => if wOK (gT G) (aS (gA G)) y x then nI (bset (fun w => Nat.beq (gsay (gT G) (gA G) y x (w + 1)) (v + 1)) (tN (gT G))) else 0
  | _, _ => cUNK
theorem o_code_1 {G : zG} {a b w : Int32} (h : ix2 a b (tS (gT G)) = none) : o_code G a b w = cUNK := by unfold o_code; rw [h]
theorem o_code_2 {G : zG} {a b w : Int32} (h : ix w (tN (gT G)) = none) : o_code G a b w = cUNK := by unfold o_code; rw [h]; cases ix2 a b (tS (gT G)) <;> rfl
theorem bset_s (p : Nat → Bool) (n : Nat) : bset p (n + 1) = bif p n then bset p n ||| 2 ^ n else bset p n := rfl
theorem kc_code {Q : Option Value → zM → Prop} {G : zG} {M : zM} {a b w : Int32} (hC : zC G M) (hV : zV G) (hq : ∀ M', zC G M' → frM M M' → Q (some (.int (o_code G a b w))) M') : zCon fX10_code [.ref 0, .int a, .int b, .int w] M Q := by
  obtain ⟨c1, c2, c3, c4, c5, c6, c7, c8, c9⟩ := id hC
  have hS := zTv_S hV.1
  have hN := zTv_N hV.1
  have unk : o_code G a b w = cUNK → Q (some (.int cUNK)) M := fun e => by
    have h' := hq M hC (fun _ _ => rfl)
    rw [e] at h'
    exact h'
  refine zc_of zkX10_code [44] 60 (Nat.le_of_ble_eq_true rfl) ?_
  refine k_X8_hasTwoStreets (by omega) c1.2.1 (fun f t hf ht hft ef et => bT ?_) (fun ho => bF (unk (o_code_1 (ix2_out (by omega) ho))))
  refine k_X8_hasWord (by omega) c1.1 (fun v hvv ev => cT ?_) (fun ho => cF (unk (o_code_2 (ix_out (by omega) ho))))
  unfold o_code at hq
  rw [show ix2 a b (tS (gT G)) = some (f, t) by rw [ef, et]; exact ix2_in hf ht (by omega) hft, show ix w (tN (gT G)) = some v by rw [ev]; exact ix_in hvv (by omega)] at hq
  dsimp only at hq
  refine k_X9_find hV.1 c1 c2 hV.2.1 ef et hf ht (fun hw M' hfr hc => bT ?_) (fun hw M' hfr => bF ?_)
  · rw [if_pos hw] at hq
    have hC' := zC_way hC hfr
    have h' := hq M' hC' (fun k hk => hfr k (by omega) (by omega) (by omega))
    have L : ∀ u, u ≤ tN (gT G) → ∀ y z, y = nI (bset (fun w => Nat.beq (gsay (gT G) (gA G) t f (w + 1)) (v + 1)) u) → z = nI u → zEv fX10_code Q 44 [(0, .ref 0), (1, .int a), (2, .int b), (3, .int w), (4, .int y), (5, .int z)] [] M' := by
      refine zloop (tN (gT G)) ?_ ?_
      · intro y z hy hz
        refine zev_go zkX10_code [44] 60 (iGe hz hC'.1.1 (by omega) (by omega) (fun _ => ?_) (fun q => absurd q (by omega)))
        rw [← hy] at h'
        exact h'
      · intro u hu ih y z hy hz
        refine zev_go zkX10_code [44] 60 (iGe hz hC'.1.1 (by omega) (by omega) (fun q => absurd q (by omega)) (fun _ => ?_))
        have go := gsay_ok (f := gA G) hV.1 hf hw (say1 hN hu)
        have o1 := go.1
        have o2 := go.2.1
        refine k_X9_wordOnWay hV.1 hC'.1 hC'.2.1 hV.2.1 hf hw hc hz hu ?_
        refine iNe rfl ev (by omega) (by omega) (fun c => ih _ _ ?_ (by rw [hz, nI_1])) (fun c => ih _ _ ?_ (by rw [hz, nI_1]))
        · rw [bset_s, beqF (by omega)]; exact hy
        · rw [bset_s, beqT (by omega)]; exact a_set hy hz (by omega)
    exact L 0 (by omega) 0 0 rfl rfl
  · rw [if_neg hw] at hq
    exact hq M' (zC_way hC hfr) (fun k hk => hfr k (by omega) (by omega) (by omega))
theorem km_code {Q : Option Value → zM → Prop} {G : zG} {M : zM} {a b w : Int32} (hC : zD G M) (hV : zV G) (hq : ∀ M', zD G M' → frC M M' → Q (some (.int (o_code G a b w))) M') : zCon fX11_code [.ref 47, .int a, .int b, .int w] M Q := by
  obtain ⟨c1, c2, c3, c4, c5, c6, c7, c8, c9⟩ := id hC
  have hS := zTv_S hV.1
  have hN := zTv_N hV.1
  have unk : o_code G a b w = cUNK → Q (some (.int cUNK)) M := fun e => by
    have h' := hq M hC (fun _ _ => rfl)
    rw [e] at h'
    exact h'
  refine zc_of zkX11_code [31] 60 (Nat.le_of_ble_eq_true rfl) ?_
  refine k_X11_areTwo (by omega) c1.2.1 (fun f t hf ht hft ef et => bT ?_) (fun ho => bF (unk (o_code_1 (ix2_out (by omega) ho))))
  refine k_X11_isWord (by omega) c1.1 (fun v hvv ev => cT ?_) (fun ho => cF (unk (o_code_2 (ix_out (by omega) ho))))
  unfold o_code at hq
  rw [show ix2 a b (tS (gT G)) = some (f, t) by rw [ef, et]; exact ix2_in hf ht (by omega) hft, show ix w (tN (gT G)) = some v by rw [ev]; exact ix_in hvv (by omega)] at hq
  dsimp only at hq
  refine k_X11_findAway hV.1 c1 c2 hV.2.1 et ht (fun g hg => ?_)
  have dl := dM_le (T := gT G) (s := aS (gA G)) (b := t) f
  have hD := zD_away (g := g) hC
  have h' := hq _ hD (fun k hk => zset_n _ _ (by omega))
  by_cases hw : wOK (gT G) (aS (gA G)) t f
  · rw [if_pos hw] at h'
    have fn := wOK_fin hV.1 hw
    have L : ∀ u, u ≤ tN (gT G) → ∀ y z, y = nI (bset (fun w => Nat.beq (gsay (gT G) (gA G) t f (w + 1)) (v + 1)) u) → z = nI u → zEv fX11_code Q 31 [(0, .ref 47), (1, .int a), (2, .int b), (3, .int w), (4, .int y), (5, .int z)] [] (zset M 67 g) := by
      refine zloop (tN (gT G)) ?_ ?_
      · intro y z hy hz
        refine zev_go zkX11_code [31] 60 (iGe hz hD.1.1 (by omega) (by omega) (fun _ => ?_) (fun q => absurd q (by omega)))
        rw [← hy] at h'
        exact h'
      · intro u hu ih y z hy hz
        have hs := say1 hN hu
        have go := gsay_ok (f := gA G) hV.1 hf hw hs
        have o1 := go.1
        have o2 := go.2.1
        refine zev_go zkX11_code [31] 60 (iGe hz hD.1.1 (by omega) (by omega) (fun q => absurd q (by omega)) (fun _ => zix f ef (show f < 7 by omega) (iGe (hg f (by omega)) n_1000000 (by omega) (by decide) (fun q => absurd q (by omega)) (fun _ => ?_))))
        refine k_X11_sentBy hV.1 hD.1 hD.2.1 hV.2.1 hg ef et hf ht hw (a_add hz n_1) hs ?_
        refine iNe rfl (a_add ev n_1) (by omega) (by omega) (fun c => ih _ _ ?_ (by rw [hz, nI_1])) (fun c => ih _ _ ?_ (by rw [hz, nI_1]))
        · rw [bset_s, beqF c, a_or hy n_0, Nat.or_zero]; rfl
        · rw [bset_s, beqT c]; exact a_set hy hz (by omega)
    exact L 0 (by omega) 0 0 rfl rfl
  · rw [if_neg hw] at h'
    have no := (wOK_no hV.1 hw).2
    refine zev_go zkX11_code [] 60 (iGe (b := tN (gT G)) n_0 hD.1.1 (by omega) (by omega) (fun _ => h') (fun _ => zix f ef (show f < 7 by omega) (iGe (hg f (by omega)) n_1000000 (by omega) (by decide) (fun _ => h') (fun q => absurd q (by omega)))))
def o_send (G : zG) (a b s : Int32) : Int32 × zG := match ix2 a b (tS (gT G)) with
  | none => (cUNK, G)
  | some (x, y) => if sayB (tN (gT G)) s = false then (cOUT, G) else if wOK (gT G) (aS (gA G)) y x then (nI (gsay (gT G) (gA G) y x (sayN s)), stp G (aSent (gT G) (gA G) x y (sayN s))) else (cNOT, G)
theorem v_send {G : zG} {a b s : Int32} (h : zV G) : zV (o_send G a b s).2 := by
  unfold o_send
  split
  · exact h
  · next x y hxy =>
    obtain ⟨q1, q2, q3⟩ := ix2_some hxy
    split
    · exact h
    · next q =>
      split
      · next hw => exact v_stp h (vA_sent h.1 h.2.1 q1 q2 q3 hw (sayB_is (by simpa using q)))
      · exact h
theorem kc_send {Q : Option Value → zM → Prop} {G : zG} {M : zM} {a b s : Int32} (hC : zC G M) (hV : zV G) (hq : ∀ M', zC (o_send G a b s).2 M' → frM M M' → Q (some (.int (o_send G a b s).1)) M') : zCon fX10_send [.ref 0, .int a, .int b, .int s] M Q := by
  obtain ⟨c1, c2, c3, c4, c5, c6, c7, c8, c9⟩ := id hC
  have hS := zTv_S hV.1
  have hN := zTv_N hV.1
  refine zc_of zkX10_send [] 60 (Nat.le_of_ble_eq_true rfl) ?_
  refine k_X8_hasTwoStreets (by omega) c1.2.1 (fun f t hf ht hft ef et => cT ?_) (fun ho => cF ?_)
  · unfold o_send at hq
    rw [show ix2 a b (tS (gT G)) = some (f, t) by rw [ef, et]; exact ix2_in hf ht (by omega) hft] at hq
    dsimp only at hq
    refine k_X8_hasSaying hN c1.1 (fun v ev hs => cT ?_) (fun ho => cF ?_)
    · obtain ⟨w1, w2⟩ := sayB_in ev hs
      rw [if_neg (by rw [w1]; decide), w2] at hq
      refine k_X9_find hV.1 c1 c2 hV.2.1 ef et hf ht (fun hw M' hfr hc => cT ?_) (fun hw M' hfr => cF ?_)
      · rw [if_pos hw] at hq
        have hC' := zC_way hC hfr
        refine k_X5_remember hV.1 hC'.2.1 hV.2.1 hC'.2.2.1 hV.2.2.1 (fun M1 h1 h2 h3 => ?_)
        have hT1 : zTc (gT G) M1 := zTc_fr (fun k a b => h2 k (by omega) (by omega)) hC'.1
        have ha1 : cA (gT G) (gA G) (M1 22) := by rw [h2 22 (by omega) (by omega)]; exact hC'.2.1
        refine k_X10_deliver hV.1 hT1 ha1 hV.2.1 (b := t) (a := f) (by unfold cWay at hc ⊢; rw [h2 28 (by omega) (by omega), h2 30 (by omega) (by omega)]; exact hc) ef et hf ht hft hw ev hs (fun g hg => ?_)
        exact hq _ (zC_stp hC' h1 h2 h3 hg) (fun k hk => by rw [zset_n _ _ (by omega), h2 k (by omega) (by omega)]; exact hfr k (by omega) (by omega) (by omega))
      · rw [if_neg hw] at hq
        exact hq M' (zC_way hC hfr) (fun k hk => hfr k (by omega) (by omega) (by omega))
    · rw [if_pos (sayB_out ho)] at hq
      exact hq M hC (fun _ _ => rfl)
  · unfold o_send at hq
    rw [ix2_out (by omega) ho] at hq
    exact hq M hC (fun _ _ => rfl)
theorem km_send {Q : Option Value → zM → Prop} {G : zG} {M : zM} {a b s : Int32} (hC : zD G M) (hV : zV G) (hq : ∀ M', zD (o_send G a b s).2 M' → frC M M' → Q (some (.int (o_send G a b s).1)) M') : zCon fX11_send [.ref 47, .int a, .int b, .int s] M Q := by
  obtain ⟨c1, c2, c3, c4, c5, c6, c7, c8, c9⟩ := id hC
  have hS := zTv_S hV.1
  have hN := zTv_N hV.1
  refine zc_of zkX11_send [] 60 (Nat.le_of_ble_eq_true rfl) ?_
  refine k_X11_areTwo (by omega) c1.2.1 (fun f t hf ht hft ef et => cT ?_) (fun ho => cF ?_)
  · unfold o_send at hq
    rw [show ix2 a b (tS (gT G)) = some (f, t) by rw [ef, et]; exact ix2_in hf ht (by omega) hft] at hq
    dsimp only at hq
    refine k_X11_isSaying hN c1.1 (fun v ev hs => cT ?_) (fun ho => cF ?_)
    · obtain ⟨w1, w2⟩ := sayB_in ev hs
      rw [if_neg (by rw [w1]; decide), w2] at hq
      refine k_X11_findAway hV.1 c1 c2 hV.2.1 et ht (fun g hg => ?_)
      have dl := dM_le (T := gT G) (s := aS (gA G)) (b := t) f
      have hD := zD_away (g := g) hC
      refine zix f ef (show f < 7 by omega) (iLt (hg f (by omega)) n_1000000 (by omega) (by decide) (fun c => ?_) (fun c => ?_))
      · have hw := wOK_lt hV.1 c
        rw [if_pos hw] at hq
        refine k_X11_remember hV.1 hD.2.1 hV.2.1 hD.2.2.1 hV.2.2.1 (fun M1 h1 h2 h3 => ?_)
        have hT1 : zTm (gT G) M1 := zTm_fr ⟨h3 _ (by omega), h3 _ (by omega), h3 _ (by omega)⟩ (fun k a b => h2 k (by omega) (by omega)) hD.1
        have ha1 : mA (gT G) (gA G) (M1 56) := by rw [h2 56 (by omega) (by omega)]; exact hD.2.1
        refine k_X11_sendNow hV.1 hT1 ha1 hV.2.1 (b := t) (a := f) (by rw [h2 67 (by omega) (by omega)]; exact hg) ef et hf ht hft hw ev hs (fun g' hg' => ?_)
        exact hq _ (zD_stp hD h1 h2 h3 hg') (fun k hk => by rw [zset_n _ _ (by omega), h2 k (by omega) (by omega)]; exact zset_n _ _ (by omega))
      · rw [if_neg (wOK_ge hV.1 c)] at hq
        exact hq _ hD (fun k hk => zset_n _ _ (by omega))
    · rw [if_pos (sayB_out ho)] at hq
      exact hq M hC (fun _ _ => rfl)
  · unfold o_send at hq
    rw [ix2_out (by omega) ho] at hq
    exact hq M hC (fun _ _ => rfl)
