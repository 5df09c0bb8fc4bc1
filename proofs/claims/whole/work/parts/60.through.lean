/-! through and ring, both -/
def nt (x : Int32) : Nat := x.toInt.toNat
theorem nt_I {j : Nat} (h : j < 2 ^ 31) : nt (nI j) = j := by unfold nt; rw [nI_toInt h]; omega
def o_through (G : zG) (a w b v q : Int32) : Int32 := if ix a (tS (gT G)) = none ∨ ix w (tN (gT G)) = none ∨ ix b (tS (gT G)) = none ∨ ix v (tN (gT G)) = none then cUNK else match ix q 2 with
  | none => cOUT
  | some k => mAns (gT G) (gA G) (Nat.beq k 1) (sT (nt a) (nt w)) 0 (nt b * 8 + nt v)
theorem ix_ne {j n : Nat} {x : Int32} (e : x = nI j) (h : j < n) (hn : n < 2 ^ 31) : ix x n ≠ none := by rw [e, ix_in h hn]; simp
theorem kc_through {Q : Option Value → zM → Prop} {G : zG} {M : zM} {a w b v q : Int32} (hC : zC G M) (hV : zV G) (hq : ∀ M', zC G M' → frM M M' → Q (some (.int (o_through G a w b v q))) M') : zCon fX10_through [.ref 0, .int a, .int w, .int b, .int v, .int q] M Q := by
  obtain ⟨c1, c2, c3, c4, c5, c6, c7, c8, c9⟩ := id hC
  have hS := zTv_S hV.1
  have hN := zTv_N hV.1
  have unk : (ix a (tS (gT G)) = none ∨ ix w (tN (gT G)) = none ∨ ix b (tS (gT G)) = none ∨ ix v (tN (gT G)) = none) → Q (some (.int cUNK)) M := fun e => by
    have h' := hq M hC (fun _ _ => rfl)
    unfold o_through at h'
    rw [if_pos e] at h'
    exact h'
  refine zc_of zkX10_through [] 60 (Nat.le_of_ble_eq_true rfl) ?_
  refine k_X8_hasStreet (by omega) c1.2.1 (fun a' la ea => bT ?_) (fun ho => bF (unk (Or.inl (ix_out (by omega) ho))))
  refine k_X8_hasWord (by omega) c1.1 (fun w' lw ew => bT ?_) (fun ho => bF (unk (Or.inr (Or.inl (ix_out (by omega) ho)))))
  refine k_X8_hasStreet (by omega) c1.2.1 (fun b' lb eb => bT ?_) (fun ho => bF (unk (Or.inr (Or.inr (Or.inl (ix_out (by omega) ho))))))
  refine k_X8_hasWord (by omega) c1.1 (fun v' lv ev => cT ?_) (fun ho => cF (unk (Or.inr (Or.inr (Or.inr (ix_out (by omega) ho))))))
  have ok : ¬ (ix a (tS (gT G)) = none ∨ ix w (tN (gT G)) = none ∨ ix b (tS (gT G)) = none ∨ ix v (tN (gT G)) = none) := fun r => by
    rcases r with r | r | r | r
    · exact ix_ne ea la (by omega) r
    · exact ix_ne ew lw (by omega) r
    · exact ix_ne eb lb (by omega) r
    · exact ix_ne ev lv (by omega) r
  unfold o_through at hq
  rw [if_neg ok] at hq
  have out : zout q 2 → Q (some (.int cOUT)) M := fun ho => by
    have h' := hq M hC (fun _ _ => rfl)
    rw [ix_out (by omega) ho] at h'
    exact h'
  refine br (fun d0 => out (outLe (n := 1) (by omega) (Or.inl d0))) (fun d0 => nr (fun d1 => ?_) (fun d1 => out (outLe (n := 1) (by omega) (Or.inr d1))))
  obtain ⟨k, hk, e5⟩ := numLe (n := 1) (by omega) d0 d1
  rw [show ix q 2 = some k by rw [e5]; exact ix_in hk (by omega), ea, ew, eb, ev, nt_I (by omega), nt_I (by omega), nt_I (by omega), nt_I (by omega)] at hq
  dsimp only at hq
  have fin : ∀ p, p = Nat.beq k 1 → ∀ g, Q (some (.int (mAns (gT G) (gA G) p (sT a' w') 0 (b' * 8 + v')))) (zset M 32 g) := fun p hp g => by
    rw [hp]
    exact hq _ (zC_fr (fun k hk => zset_n _ _ (by unfold zown1 at hk; omega)) hC) (fun k hk => zset_n _ _ (by omega))
  refine iNe e5 n_1 (by omega) (by decide) (fun c => ?_) (fun c => ?_)
  · exact k_X4_leastThrough (p := false) hV.1 c1 c2 hV.2.1 ea ew eb ev la lw lb lv (fin false (beqF c).symm)
  · exact k_X4_leastThrough (p := true) hV.1 c1 c2 hV.2.1 ea ew eb ev la lw lb lv (fin true (beqT c).symm)
theorem mAns_m {T : zTn} {f : zAf} {p : Bool} {S : Nat → Bool} {x0 v : Nat} (hv : zTv T) (hx0 : x0 ≤ 1) : mAns T f p S x0 v = if mm T f p S x0 v < 1000000 then nI (mm T f p S x0 v) else -1 := by
  unfold mAns
  rcases mc_mm (a := f) (p := p) (S := S) hv hx0 v with q | q
  · rw [if_pos (by omega), if_pos (by omega), q.1]
  · rw [if_neg (by omega), if_neg (by omega)]
theorem km_through {Q : Option Value → zM → Prop} {G : zG} {M : zM} {a w b v q : Int32} (hC : zD G M) (hV : zV G) (hq : ∀ M', zD G M' → frC M M' → Q (some (.int (o_through G a w b v q))) M') : zCon fX11_through [.ref 47, .int a, .int w, .int b, .int v, .int q] M Q := by
  obtain ⟨c1, c2, c3, c4, c5, c6, c7, c8, c9⟩ := id hC
  have hS := zTv_S hV.1
  have hN := zTv_N hV.1
  have unk : (ix a (tS (gT G)) = none ∨ ix w (tN (gT G)) = none ∨ ix b (tS (gT G)) = none ∨ ix v (tN (gT G)) = none) → Q (some (.int cUNK)) M := fun e => by
    have h' := hq M hC (fun _ _ => rfl)
    unfold o_through at h'
    rw [if_pos e] at h'
    exact h'
  refine zc_of zkX11_through [] 80 (Nat.le_of_ble_eq_true rfl) ?_
  refine k_X11_isStreet (by omega) c1.2.1 (fun a' la ea => bT ?_) (fun ho => bF (unk (Or.inl (ix_out (by omega) ho))))
  refine k_X11_isStreet (by omega) c1.2.1 (fun b' lb eb => bT ?_) (fun ho => bF (unk (Or.inr (Or.inr (Or.inl (ix_out (by omega) ho))))))
  refine k_X11_isWord (by omega) c1.1 (fun w' lw ew => bT ?_) (fun ho => bF (unk (Or.inr (Or.inl (ix_out (by omega) ho)))))
  refine k_X11_isWord (by omega) c1.1 (fun v' lv ev => cT ?_) (fun ho => cF (unk (Or.inr (Or.inr (Or.inr (ix_out (by omega) ho))))))
  have ok : ¬ (ix a (tS (gT G)) = none ∨ ix w (tN (gT G)) = none ∨ ix b (tS (gT G)) = none ∨ ix v (tN (gT G)) = none) := fun r => by
    rcases r with r | r | r | r
    · exact ix_ne ea la (by omega) r
    · exact ix_ne ew lw (by omega) r
    · exact ix_ne eb lb (by omega) r
    · exact ix_ne ev lv (by omega) r
  unfold o_through at hq
  rw [if_neg ok] at hq
  refine k_in (S := 2) (by omega) l0_ (by decide) (fun k hk e5 => cT ?_) (fun ho => cF ?_)
  · rw [show ix q 2 = some k by rw [e5]; exact ix_in hk (by omega), ea, ew, eb, ev, nt_I (by omega), nt_I (by omega), nt_I (by omega), nt_I (by omega)] at hq
    dsimp only at hq
    have m56 : b' * 8 + v' < 56 := by omega
    have ei : (8 : Int32) * b + v = nI (b' * 8 + v') := by rw [a_add (a_mul n_8 eb) ev]; exact congrArg nI (by omega)
    refine k_X11_clearCosts (zix (a' * 8 + w') (by rw [a_add (a_mul n_8 ea) ew]; exact congrArg nI (by omega)) (show a' * 8 + w' < 56 by omega) ?_)
    have hg0 : ∀ c, c < 56 → upd (zfill (M 69) 56 1000000) (a' * 8 + w') 0 c = nI (d0m 1000000 (sT a' w') 0 c) := fun c hc => by
      unfold d0m sT
      by_cases q : c = a' * 8 + w'
      · rw [q, pk_us, beqT rfl]; rfl
      · rw [pk_un q, beqF q]; unfold zfill; rw [if_pos hc]; rfl
    rw [zsetset]
    have fin : ∀ p, p = Nat.beq k 1 → ∀ g, Q (some (.int (if mm (gT G) (gA G) p (sT a' w') 0 (b' * 8 + v') < 1000000 then nI (mm (gT G) (gA G) p (sT a' w') 0 (b' * 8 + v')) else -1))) (zset M 69 g) := fun p hp g => by
      rw [← mAns_m hV.1 (by omega), hp]
      exact hq _ (zD_fr (fun k hk => zset_n _ _ (by unfold zown2 at hk; omega)) hC) (fun k hk => zset_n _ _ (by omega))
    have ml := fun p => mm_le (T := gT G) (a := gA G) (p := p) (S := sT a' w') (x0 := 0) (by omega) (b' * 8 + v')
    refine iNe e5 n_1 (by omega) (by decide) (fun c => ?_) (fun c => ?_)
    · refine k_X11_spread (p := false) (S := sT a' w') (x0 := 0) hV.1 c1 c2 hV.2.1 (by omega) hg0 (fun g' hg' => zix _ ei m56 ?_)
      have h' := fin false (beqF c).symm g'
      have l := ml false
      refine iLt (hg' _ m56) n_1000000 (by omega) (by decide) (fun d => ?_) (fun d => ?_)
      · rw [if_pos d, ← hg' _ m56] at h'; exact h'
      · rw [if_neg (by omega)] at h'; exact h'
    · refine k_X11_spread (p := true) (S := sT a' w') (x0 := 0) hV.1 c1 c2 hV.2.1 (by omega) hg0 (fun g' hg' => zix _ ei m56 ?_)
      have h' := fin true (beqT c).symm g'
      have l := ml true
      refine iLt (hg' _ m56) n_1000000 (by omega) (by decide) (fun d => ?_) (fun d => ?_)
      · rw [if_pos d, ← hg' _ m56] at h'; exact h'
      · rw [if_neg (by omega)] at h'; exact h'
  · rw [ix_out (by omega) ho] at hq
    exact hq M hC (fun _ _ => rfl)
def o_ring (G : zG) (a w v : Int32) : Int32 := if ix a (tS (gT G)) = none ∨ ix w (tN (gT G)) = none ∨ ix v (tN (gT G)) = none then cUNK else mAns (gT G) (gA G) false (rgS (gT G) (gA G) (nt a) (nt w) (tC (gT G))) 1 (nt a * 8 + nt v)
theorem kc_ring {Q : Option Value → zM → Prop} {G : zG} {M : zM} {a w v : Int32} (hC : zC G M) (hV : zV G) (hq : ∀ M', zC G M' → frM M M' → Q (some (.int (o_ring G a w v))) M') : zCon fX10_ring [.ref 0, .int a, .int w, .int v] M Q := by
  obtain ⟨c1, c2, c3, c4, c5, c6, c7, c8, c9⟩ := id hC
  have hS := zTv_S hV.1
  have hN := zTv_N hV.1
  have unk : (ix a (tS (gT G)) = none ∨ ix w (tN (gT G)) = none ∨ ix v (tN (gT G)) = none) → Q (some (.int cUNK)) M := fun e => by
    have h' := hq M hC (fun _ _ => rfl)
    unfold o_ring at h'
    rw [if_pos e] at h'
    exact h'
  refine zc_of zkX10_ring [] 60 (Nat.le_of_ble_eq_true rfl) ?_
  refine k_X8_hasStreet (by omega) c1.2.1 (fun a' la ea => bT ?_) (fun ho => bF (unk (Or.inl (ix_out (by omega) ho))))
  refine k_X8_hasWord (by omega) c1.1 (fun w' lw ew => bT ?_) (fun ho => bF (unk (Or.inr (Or.inl (ix_out (by omega) ho)))))
  refine k_X8_hasWord (by omega) c1.1 (fun v' lv ev => cT ?_) (fun ho => cF (unk (Or.inr (Or.inr (ix_out (by omega) ho)))))
  have ok : ¬ (ix a (tS (gT G)) = none ∨ ix w (tN (gT G)) = none ∨ ix v (tN (gT G)) = none) := fun r => by
    rcases r with r | r | r
    · exact ix_ne ea la (by omega) r
    · exact ix_ne ew lw (by omega) r
    · exact ix_ne ev lv (by omega) r
  unfold o_ring at hq
  rw [if_neg ok, ea, ew, ev, nt_I (by omega), nt_I (by omega), nt_I (by omega)] at hq
  exact k_X4_shortestRing hV.1 c1 c2 hV.2.1 ea ew ev la lw lv (fun g => hq _ (zC_fr (fun k hk => zset_n _ _ (by unfold zown1 at hk; omega)) hC) (fun k hk => zset_n _ _ (by omega)))
theorem km_ring {Q : Option Value → zM → Prop} {G : zG} {M : zM} {a w v : Int32} (hC : zD G M) (hV : zV G) (hq : ∀ M', zD G M' → frC M M' → Q (some (.int (o_ring G a w v))) M') : zCon fX11_ring [.ref 47, .int a, .int w, .int v] M Q := by
  obtain ⟨c1, c2, c3, c4, c5, c6, c7, c8, c9⟩ := id hC
  have hS := zTv_S hV.1
  have hN := zTv_N hV.1
  have hCc := zTv_C hV.1
  have hsh := vA_S hV.1 hV.2.1
  have unk : (ix a (tS (gT G)) = none ∨ ix w (tN (gT G)) = none ∨ ix v (tN (gT G)) = none) → Q (some (.int cUNK)) M := fun e => by
    have h' := hq M hC (fun _ _ => rfl)
    unfold o_ring at h'
    rw [if_pos e] at h'
    exact h'
  refine zc_of zkX11_ring [34] 60 (Nat.le_of_ble_eq_true rfl) ?_
  refine k_X11_isStreet (by omega) c1.2.1 (fun a' la ea => bT ?_) (fun ho => bF (unk (Or.inl (ix_out (by omega) ho))))
  refine k_X11_isWord (by omega) c1.1 (fun w' lw ew => bT ?_) (fun ho => bF (unk (Or.inr (Or.inl (ix_out (by omega) ho)))))
  refine k_X11_isWord (by omega) c1.1 (fun v' lv ev => cT ?_) (fun ho => cF (unk (Or.inr (Or.inr (ix_out (by omega) ho)))))
  have ok : ¬ (ix a (tS (gT G)) = none ∨ ix w (tN (gT G)) = none ∨ ix v (tN (gT G)) = none) := fun r => by
    rcases r with r | r | r
    · exact ix_ne ea la (by omega) r
    · exact ix_ne ew lw (by omega) r
    · exact ix_ne ev lv (by omega) r
  unfold o_ring at hq
  rw [if_neg ok, ea, ew, ev, nt_I (by omega), nt_I (by omega), nt_I (by omega), mAns_m hV.1 (by omega)] at hq
  have hT' : ∀ g, zTm (gT G) (zset M 69 g) := fun g => zTm_fr (M := M) (M' := zset M 69 g) ⟨rfl, rfl, rfl⟩ (fun k h1 h2 => zset_n _ _ (by omega)) c1
  have m56 : a' * 8 + v' < 56 := by omega
  have ei : (8 : Int32) * a + v = nI (a' * 8 + v') := by rw [a_add (a_mul n_8 ea) ev]; exact congrArg nI (by omega)
  have L : ∀ i, i ≤ tC (gT G) → ∀ y (g : Nat → Int32), y = nI i → (∀ c, c < 56 → g c = nI (d0m 1000000 (rgS (gT G) (gA G) a' w' i) 1 c)) → zEv fX11_ring Q 34 [(0, .ref 47), (1, .int a), (2, .int w), (3, .int v), (4, .int y)] [] (zset M 69 g) := by
    refine zloop (tC (gT G)) ?_ ?_
    · intro y g hy hg
      refine zev_go zkX11_ring [34] 60 (iGe hy (hT' g).2.2.1 (by omega) (by omega) (fun _ => ?_) (fun q => absurd q (by omega)))
      refine k_X11_spread (p := false) (S := rgS (gT G) (gA G) a' w' (tC (gT G))) (x0 := 1) hV.1 c1 c2 hV.2.1 (by omega) hg (fun g' hg' => zix _ ei m56 ?_)
      have h' := hq (zset M 69 g') (zD_fr (fun k hk => zset_n _ _ (by unfold zown2 at hk; omega)) hC) (fun k hk => zset_n _ _ (by omega))
      have l := mm_le (T := gT G) (a := gA G) (p := false) (S := rgS (gT G) (gA G) a' w' (tC (gT G))) (x0 := 1) (by omega) (a' * 8 + v')
      refine iLt (hg' _ m56) n_1000000 (by omega) (by decide) (fun d => ?_) (fun d => ?_)
      · rw [if_pos d, ← hg' _ m56] at h'; exact h'
      · rw [if_neg (by omega)] at h'; exact h'
    · intro i hi ih y g hy hg
      obtain ⟨i1, i2, i3, i4, i5, i6⟩ := zTv_i hV.1 hi
      have i10 : i < 10 := by omega
      have eA := (hT' g).2.2.2.2.2.1 i hi
      have eB := (hT' g).2.2.2.2.2.2.1 i hi
      have pl := rgP_lt (f := gA G) (a := a') hV.1 hi lw
      have no : ((aS (gA G)).testBit i = true ∨ ¬ (tA (gT G) i = a' ∨ tB (gT G) i = a')) → zEv fX11_ring Q 133 [(0, .ref 47), (1, .int a), (2, .int w), (3, .int v), (4, .int y)] [] (zset M 69 g) := fun q =>
        zev_go zkX11_ring [34] 60 (ih _ g (by rw [hy, nI_1]) (by rw [rgS_n q]; exact hg))
      have J : (aS (gA G)).testBit i = false → (tA (gT G) i = a' ∨ tB (gT G) i = a') → zEv fX11_ring Q 74 [(0, .ref 47), (1, .int a), (2, .int w), (3, .int v), (4, .int y)] [] (zset M 69 g) := by
        intro r q
        have fin : ∀ z, z = rgP (gT G) (gA G) a' w' i → ∀ u, zEv fX11_ring Q 133 [(0, .ref 47), (1, .int a), (2, .int w), (3, .int v), (4, .int y), (5, .int u)] [] (zset M 69 (upd g z 1)) := by
          intro z hz u
          subst hz
          exact zev_go zkX11_ring [34] 60 (zev_pick [0, 1, 2, 3, 4] (ih _ _ (by rw [hy, nI_1]) (d0m_up r q hg)))
        refine zev_go zkX11_ring [133] 60 (zix i hy i10 (iNe eB ea (by omega) (by omega) (fun c => bF (zix i hy i10 ?_)) (fun c => bT (zix i hy i10 ?_))))
        · refine k_X11_overAt (b := false) (T := gT G) (a := gA G) hV.1 (hT' g) c2 hV.2.1 hy hi ew lw (zix (rgP (gT G) (gA G) a' w' i) ?_ pl ?_)
          · rw [a_add (a_mul n_8 eB) rfl]
            unfold rgP oe
            rw [beqF c, if_pos (by rcases q with q | q; exact q; exact absurd q c)]
            exact congrArg nI (by omega)
          · rw [zsetset]; exact fin _ rfl _
        · refine k_X11_overAt (b := true) (T := gT G) (a := gA G) hV.1 (hT' g) c2 hV.2.1 hy hi ew lw (zix (rgP (gT G) (gA G) a' w' i) ?_ pl ?_)
          · rw [a_add (a_mul n_8 eA) rfl]
            unfold rgP oe
            rw [beqT c, if_neg (by omega)]
            exact congrArg nI (by omega)
          · rw [zsetset]; exact fin _ rfl _
      refine zev_go zkX11_ring [34, 74, 133] 60 (iGe hy (hT' g).2.2.1 (by omega) (by omega) (fun q => absurd q (by omega)) (fun _ => ?_))
      refine k_X11_isOpen hy (by omega) (show (zset M 69 g) 56 10 = nI (aS (gA G)) from c2.2.2.1) (by omega) (fun r => bT (zix i hy i10 ?_)) (fun r => bF (no (Or.inl r)))
      refine iEq eA ea (by omega) (by omega) (fun c => J r (Or.inl c)) (fun c => zix i hy i10 ?_)
      exact iNe eB ea (by omega) (by omega) (fun d => no (Or.inr (fun t => by rcases t with t | t; exact c t; exact d t))) (fun d => J r (Or.inr d))
  refine k_X11_clearCosts ?_
  refine L 0 (by omega) 0 _ rfl (fun c hc => ?_)
  unfold zfill d0m rgS exB
  rw [if_pos hc]
  rfl
