/-! write, judge, over, holds -/
theorem kc_write {Q : Option Value → zM → Prop} {G : zG} {M : zM} {a s : Int32} (hC : zC G M) (hV : zV G) (hq : ∀ M', zC (o_write G a s).2 M' → frM M M' → Q (some (.int (o_write G a s).1)) M') : zCon fX10_write [.ref 0, .int a, .int s] M Q := by
  obtain ⟨c1, c2, c3, c4, c5, c6, c7, c8, c9⟩ := id hC
  have hN := zTv_N hV.1
  have hS := zTv_S hV.1
  have hn := hV.2.2.2.2.2.2.2.1
  refine zc_of zkX10_write [32] 60 (Nat.le_of_ble_eq_true rfl) ?_
  refine k_X8_hasStreet (by omega) c1.2.1 (fun i hi ei => cT ?_) (fun ho => cF ?_)
  · have eo : o_write G a s = if s ≠ 0 ∧ sayB (tN (gT G)) s = false then (cOUT, G) else if (gBk G).1 = 15 then (cFUL, G) else (nI ((gBk G).1 + 1), sBk G ((gBk G).1 + 1, nup (gBk G).2.1 (gBk G).1 i, nup (gBk G).2.2 (gBk G).1 (sayN s))) := by unfold o_write; rw [ei, ix_in hi (by omega)]
    rw [eo] at hq
    have J : ¬ (s ≠ 0 ∧ sayB (tN (gT G)) s = false) → zEv fX10_write Q 32 [(0, .ref 0), (1, .int a), (2, .int s)] [] M := by
      intro hs
      rw [if_neg hs] at hq
      refine zev_go zkX10_write [32] 60 ?_
      refine iLt c9.1 n_15 (by omega) (by decide) (fun d => ?_) (fun d => ?_)
      · rw [if_neg (by omega)] at hq
        refine zc_of zkX1_append [] 60 (Nat.le_of_ble_eq_true rfl) ?_
        refine iGe c9.1 n_15 (by omega) (by decide) (fun q => absurd q (by omega)) (fun _ => ?_)
        refine zix (gBk G).1 c9.1 d (zix (gBk G).1 c9.1 d ?_)
        have key : ∀ x, x = nI ((gBk G).1 + 1) → Q (some (.int (zu (zu (zu M 45 (gBk G).1 a) 46 (gBk G).1 s) 44 2 x 44 2))) (zu (zu (zu M 45 (gBk G).1 a) 46 (gBk G).1 s) 44 2 x) := by
          intro x hx
          subst hx
          rw [zu_at]
          refine hq _ ⟨c1, c2, cU_fr rfl rfl rfl c3, cIm_fr rfl rfl rfl c4, c5, c6, cX_fr rfl rfl c7, cSn_fr rfl rfl rfl c8, ⟨rfl, ?_⟩⟩ (fun k hk => by rw [zu_n _ _ _ (by omega), zu_n _ _ _ (by omega), zu_n _ _ _ (by omega)])
          exact fun j hj => ⟨upd_nup ei (fun j hj => (c9.2 j hj).1) j hj, upd_nup (say_val hs) (fun j hj => (c9.2 j hj).2) j hj⟩
        exact key _ (a_add c9.1 n_1)
      · rw [if_pos (by omega)] at hq
        exact hq M hC (fun _ _ => rfl)
    refine br (fun s0 => J (fun q => q.1 s0)) (fun s0 => ?_)
    refine k_X8_hasSaying hN c1.1 (fun v e hs => cT (J (fun q => ?_))) (fun hno => cF ?_)
    · rw [(sayB_in e hs).1] at q; exact absurd q.2 (by decide)
    · rw [if_pos ⟨s0, sayB_out hno⟩] at hq
      exact hq M hC (fun _ _ => rfl)
  · have eo : o_write G a s = (cUNK, G) := by unfold o_write; rw [ix_out (by omega) ho]
    rw [eo] at hq
    exact hq M hC (fun _ _ => rfl)
theorem km_write {Q : Option Value → zM → Prop} {G : zG} {M : zM} {a s : Int32} (hC : zD G M) (hV : zV G) (hq : ∀ M', zD (o_write G a s).2 M' → frC M M' → Q (some (.int (o_write G a s).1)) M') : zCon fX11_write [.ref 47, .int a, .int s] M Q := by
  obtain ⟨c1, c2, c3, c4, c5, c6, c7, c8, c9⟩ := id hC
  have hN := zTv_N hV.1
  have hS := zTv_S hV.1
  have hn := hV.2.2.2.2.2.2.2.1
  refine zc_of zkX11_write [26] 60 (Nat.le_of_ble_eq_true rfl) ?_
  refine k_X11_isStreet (by omega) c1.2.1 (fun i hi ei => cT ?_) (fun ho => cF ?_)
  · have eo : o_write G a s = if s ≠ 0 ∧ sayB (tN (gT G)) s = false then (cOUT, G) else if (gBk G).1 = 15 then (cFUL, G) else (nI ((gBk G).1 + 1), sBk G ((gBk G).1 + 1, nup (gBk G).2.1 (gBk G).1 i, nup (gBk G).2.2 (gBk G).1 (sayN s))) := by unfold o_write; rw [ei, ix_in hi (by omega)]
    rw [eo] at hq
    have J : ¬ (s ≠ 0 ∧ sayB (tN (gT G)) s = false) → zEv fX11_write Q 26 [(0, .ref 47), (1, .int a), (2, .int s)] [] M := by
      intro hs
      rw [if_neg hs] at hq
      refine zev_go zkX11_write [26] 60 ?_
      refine iNe c9.1 n_15 (by omega) (by decide) (fun d => ?_) (fun d => ?_)
      · rw [if_neg d] at hq
        refine zix (gBk G).1 c9.1 (show (gBk G).1 < 15 by omega) (zix (gBk G).1 c9.1 (show (gBk G).1 < 15 by omega) ?_)
        have key : ∀ x, x = nI ((gBk G).1 + 1) → Q (some (.int (zu (zu (zu M 76 (gBk G).1 a) 77 (gBk G).1 s) 47 42 x 47 42))) (zu (zu (zu M 76 (gBk G).1 a) 77 (gBk G).1 s) 47 42 x) := by
          intro x hx
          subst hx
          rw [zu_at]
          refine hq _ ⟨zTm_fr ⟨rfl, rfl, rfl⟩ (fun k h1 h2 => by rw [zu_n _ _ _ (by omega), zu_n _ _ _ (by omega), zu_n _ _ _ (by omega)]) c1, c2, mU_fr rfl rfl c3, mIm_fr rfl rfl c4, c5, c6, mX_fr rfl rfl c7, mSn_fr rfl rfl rfl c8, ⟨rfl, ?_⟩⟩ (fun k hk => by rw [zu_n _ _ _ (by omega), zu_n _ _ _ (by omega), zu_n _ _ _ (by omega)])
          exact fun j hj => ⟨upd_nup ei (fun j hj => (c9.2 j hj).1) j hj, upd_nup (say_val hs) (fun j hj => (c9.2 j hj).2) j hj⟩
        exact key _ (a_add c9.1 n_1)
      · rw [if_pos d] at hq
        exact hq M hC (fun _ _ => rfl)
    refine br (fun s0 => J (fun q => q.1 s0)) (fun s0 => ?_)
    refine k_X11_isSaying hN c1.1 (fun v e hs => cT (J (fun q => ?_))) (fun hno => cF ?_)
    · rw [(sayB_in e hs).1] at q; exact absurd q.2 (by decide)
    · rw [if_pos ⟨s0, sayB_out hno⟩] at hq
      exact hq M hC (fun _ _ => rfl)
  · have eo : o_write G a s = (cUNK, G) := by unfold o_write; rw [ix_out (by omega) ho]
    rw [eo] at hq
    exact hq M hC (fun _ _ => rfl)
/-- the first entry of the book that is otherwise -/
def fw (a : zAf) (b : Nat × (Nat → Nat) × (Nat → Nat)) : Nat → Nat → Int32
  | 0, _ => -1
  | n + 1, i => if aHe a (b.2.1 i) = b.2.2 i then fw a b n (i + 1) else nI i
def o_judge (G : zG) : Int32 := fw (gA G) (gBk G) (gBk G).1 0
theorem kc_judge {Q : Option Value → zM → Prop} {G : zG} {M : zM} (hC : zC G M) (hV : zV G) (hq : Q (some (.int (o_judge G))) M) : zCon fX10_judge [.ref 0] M Q := by
  obtain ⟨c1, c2, c3, c4, c5, c6, c7, c8, c9⟩ := id hC
  have hS := zTv_S hV.1
  have hb := hV.2.2.2.2.2.2.2
  have hva := hV.2.1
  refine zc_of zkX10_judge [] 60 (Nat.le_of_ble_eq_true rfl) ?_
  have L : ∀ (Q : Option Value → zM → Prop) i, i ≤ (gBk G).1 → ∀ x, x = nI i → Q (some (.int (fw (gA G) (gBk G) ((gBk G).1 - i) i))) M → zEv fX1_firstWrong Q 2 [(0, .ref 44), (1, .ref 21), (2, .int x)] [] M := by
    intro Q
    refine zloop (gBk G).1 ?_ ?_
    · intro x hx h
      refine zev_go zkX1_firstWrong [2] 60 ?_
      refine iGe hx c9.1 (by omega) (by omega) (fun _ => ?_) (fun q => absurd q (by omega))
      rw [Nat.sub_self] at h
      exact h
    · intro i hi ih x hx h
      have e1 := (c9.2 i hi).1
      have e2 := (c9.2 i hi).2
      have b1 := (hb.2 i hi).1
      have b2 := (hb.2 i hi).2
      have he := hva.2.2.2.2.1 ((gBk G).2.1 i) (by omega)
      rw [show (gBk G).1 - i = ((gBk G).1 - (i + 1)) + 1 by omega] at h
      refine zev_go zkX1_firstWrong [2] 60 ?_
      refine iGe hx c9.1 (by omega) (by omega) (fun q => absurd q (by omega)) (fun _ => ?_)
      refine zix i hx (show i < 15 by omega) ?_
      refine k_X0_heardBy e1 (by omega) (zix i hx (show i < 15 by omega) ?_)
      refine iEq (c2.2.2.2.2.1 _ (by omega)) e2 (by omega) (by omega) (fun q => ?_) (fun q => ?_)
      · refine ih (x + 1) (by rw [hx, nI_1]) ?_
        unfold fw at h
        rw [if_pos q] at h
        exact h
      · unfold fw at h
        rw [if_neg q, ← hx] at h
        exact h
  exact zc_of zkX1_firstWrong [2] 60 (Nat.le_of_ble_eq_true rfl) (L _ 0 (by omega) 0 rfl hq)
theorem km_judge {Q : Option Value → zM → Prop} {G : zG} {M : zM} (hC : zD G M) (hV : zV G) (hq : Q (some (.int (o_judge G))) M) : zCon fX11_judge [.ref 47] M Q := by
  obtain ⟨c1, c2, c3, c4, c5, c6, c7, c8, c9⟩ := id hC
  have hS := zTv_S hV.1
  have hb := hV.2.2.2.2.2.2.2
  have hva := hV.2.1
  have L : ∀ i, i ≤ (gBk G).1 → ∀ x, x = nI i → Q (some (.int (fw (gA G) (gBk G) ((gBk G).1 - i) i))) M → zEv fX11_judge Q 2 [(0, .ref 47), (1, .int x)] [] M := by
    refine zloop (gBk G).1 ?_ ?_
    · intro x hx h
      refine zev_go zkX11_judge [2] 60 ?_
      refine iGe hx c9.1 (by omega) (by omega) (fun _ => ?_) (fun q => absurd q (by omega))
      rw [Nat.sub_self] at h
      exact h
    · intro i hi ih x hx h
      have e1 := (c9.2 i hi).1
      have e2 := (c9.2 i hi).2
      have b1 := (hb.2 i hi).1
      have b2 := (hb.2 i hi).2
      have he := hva.2.2.2.2.1 ((gBk G).2.1 i) (by omega)
      rw [show (gBk G).1 - i = ((gBk G).1 - (i + 1)) + 1 by omega] at h
      refine zev_go zkX11_judge [2] 60 ?_
      refine iGe hx c9.1 (by omega) (by omega) (fun q => absurd q (by omega)) (fun _ => ?_)
      refine zix i hx (show i < 15 by omega) (zix (11 + (gBk G).2.1 i) (a_add rfl e1) (show 11 + (gBk G).2.1 i < 88 by omega) (zix i hx (show i < 15 by omega) ?_))
      refine iEq (c2.2.2.2.2.1 _ (by omega)) e2 (by omega) (by omega) (fun q => ?_) (fun q => ?_)
      · refine ih (x + 1) (by rw [hx, nI_1]) ?_
        unfold fw at h
        rw [if_pos q] at h
        exact h
      · unfold fw at h
        rw [if_neg q, ← hx] at h
        exact h
  exact zc_of zkX11_judge [2] 60 (Nat.le_of_ble_eq_true rfl) (L 0 (by omega) 0 rfl hq)
def o_over (G : zG) (i : Int32) (b : Bool) (w : Int32) : Int32 := match ix i (tC (gT G)), ix w (tN (gT G)) with
  | some i, some w => nI (ovr (gT G) (gA G) i b w)
  | _, _ => cUNK
theorem o_over_u1 {G : zG} {i w : Int32} {b : Bool} (h : ix i (tC (gT G)) = none) : o_over G i b w = cUNK := by unfold o_over; rw [h]
theorem o_over_u2 {G : zG} {i w : Int32} {b : Bool} (h : ix w (tN (gT G)) = none) : o_over G i b w = cUNK := by unfold o_over; rw [h]; cases ix i (tC (gT G)) <;> rfl
theorem kc_over {Q : Option Value → zM → Prop} {G : zG} {M : zM} {i w : Int32} {b : Bool} (hC : zC G M) (hV : zV G) (hq : Q (some (.int (o_over G i b w))) M) : zCon fX10_over [.ref 0, .int i, .int (zbl b), .int w] M Q := by
  obtain ⟨c1, c2, c3, c4, c5, c6, c7, c8, c9⟩ := id hC
  have hN := zTv_N hV.1
  have hCc := zTv_C hV.1
  refine zc_of zkX10_over [] 60 (Nat.le_of_ble_eq_true rfl) ?_
  refine k_X8_hasCorner (by omega) c1.2.2.1 (fun j hj ej => bT ?_) (fun ho => bF ?_)
  · refine k_X8_hasWord (by omega) c1.1 (fun k hk ek => cT ?_) (fun ho => cF ?_)
    · have eo : o_over G i b w = nI (ovr (gT G) (gA G) j b k) := by unfold o_over; rw [ej, ek, ix_in hj (by omega), ix_in hk (by omega)]
      rw [eo] at hq
      exact k_X2_wordOver hV.1 c1 c2 hV.2.1 ej hj ek hk hq
    · rw [o_over_u2 (ix_out (by omega) ho)] at hq; exact hq
  · rw [o_over_u1 (ix_out (by omega) ho)] at hq; exact hq
theorem km_over {Q : Option Value → zM → Prop} {G : zG} {M : zM} {i w : Int32} {b : Bool} (hC : zD G M) (hV : zV G) (hq : Q (some (.int (o_over G i b w))) M) : zCon fX11_over [.ref 47, .int i, .int (zbl b), .int w] M Q := by
  obtain ⟨c1, c2, c3, c4, c5, c6, c7, c8, c9⟩ := id hC
  have hN := zTv_N hV.1
  have hCc := zTv_C hV.1
  refine zc_of zkX11_over [] 60 (Nat.le_of_ble_eq_true rfl) ?_
  refine k_X11_isCorner (by omega) c1.2.2.1 (fun j hj ej => bT ?_) (fun ho => bF ?_)
  · refine k_X11_isWord (by omega) c1.1 (fun k hk ek => bT ?_) (fun ho => bF ?_)
    · have eo : o_over G i b w = nI (ovr (gT G) (gA G) j b k) := by unfold o_over; rw [ej, ek, ix_in hj (by omega), ix_in hk (by omega)]
      rw [eo] at hq
      exact k_X11_overAt hV.1 c1 c2 hV.2.1 ej hj ek hk hq
    · rw [o_over_u2 (ix_out (by omega) ho)] at hq; exact hq
  · rw [o_over_u1 (ix_out (by omega) ho)] at hq; exact hq
/-- odds -/
def odds (q : Nat) : Nat → Nat
  | 0 => 1000000000
  | n + 1 => odds q n * q / 100
theorem odds_le {q : Nat} (hq : q ≤ 100) : ∀ n, odds q n ≤ 1000000000 := by
  intro n
  induction n with
  | zero => exact Nat.le_refl _
  | succ n ih =>
    show odds q n * q / 100 ≤ _
    have : odds q n * q ≤ 1000000000 * 100 := Nat.mul_le_mul ih hq
    omega
def o_holds (n q : Int32) : Int32 := match ix n 61, ix q 101 with
  | some n, some q => nI (odds q n)
  | _, _ => cOUT
theorem o_holds_u1 {n q : Int32} (h : ix n 61 = none) : o_holds n q = cOUT := by unfold o_holds; rw [h]
theorem o_holds_u2 {n q : Int32} (h : ix q 101 = none) : o_holds n q = cOUT := by unfold o_holds; rw [h]; cases ix n 61 <;> rfl
theorem odds_step {q n : Nat} {y : Int32} {x : Int64} (hq : q ≤ 100) (hy : y = nI q) (hx : x = lN (odds q n)) : x * y.toInt64 / lN 100 = lN (odds q (n + 1)) := by
  have h1 := odds_le hq n
  have h2 : odds q n * q ≤ 1000000000 * 100 := Nat.mul_le_mul h1 hq
  rw [hx, hy, nI_l (by omega), lN_mul, pk_lDiv (by omega) (by omega) (by omega)]
  rfl
