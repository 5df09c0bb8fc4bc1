/-! more of the model -/
theorem zTm_R {T : zTn} {M M' : zM} {lo hi : Nat} (hl : 56 ≤ lo) (h : frR lo hi M M') (hT : zTm T M) : zTm T M' := zTm_fr (M := M) (by rw [h 47 (by omega)]; exact ⟨rfl, rfl, rfl⟩) (fun k h1 h2 => h k (by omega)) hT
theorem k_X11_findFares {Q : Option Value → zM → Prop} {M : zM} {T : zTn} {f : zAf} {x y : Int32} {p q : Nat} (hv : zTv T) (hT : zTm T M) (hf : mA T f (M 56)) (hvf : vA T f) (hx : x = nI p) (hy : y = nI q) (hp : p < tS T) (hq : q < tS T) (hpq : p ≠ q) (h : ∀ M', frR 72 72 M M' → (∀ u v, u < 7 → v < 7 → M' 72 (7 * u + v) = nI (feM T (aS f) p q u v)) → Q none M') : zCon fX11_findFares [.ref 47, .int x, .int y] M Q := by
  have hS := zTv_S hv
  have hC := zTv_C hv
  have hsh := vA_S hv hvf
  refine zc_of zkX11_findFares [2] 60 (Nat.le_of_ble_eq_true rfl) ?_
  have wb : ∀ m, m ≤ 7 → ∀ u v, fwN (wz (wW T (aS f)) p q) m u v ≤ 1000000 := fun m hm u v => by
    have a1 := fw_le (wz (wW T (aS f)) p q) u v m
    have a2 := wz_le (wW T (aS f)) p q u v
    have r := wm_rel (s := aS f) hv u v (tC T) (Nat.le_refl _)
    unfold fR at r
    unfold wW at a1 a2 ⊢
    omega
  have wz0 : ∀ m, fwN (wz (wW T (aS f)) p q) m m m = 0 := fun m => fw_z (wz_z (fun a => wm_z hv a _ (Nat.le_refl _)) p q) m m
  have L3 : ∀ m, m ≤ tS T → ∀ z M', z = nI m → frR 72 72 M M' → (∀ u v, u < 7 → v < 7 → M' 72 (7 * u + v) = nI (fwN (wz (wW T (aS f)) p q) m u v)) → zEv fX11_findFares Q 141 [(0, .ref 47), (1, .int x), (2, .int y), (3, .int z)] [] M' := by
    refine zloop (tS T) ?_ ?_
    · intro z M' hz hfr hg
      exact zev_go zkX11_findFares [141] 60 (iGe hz (zTm_R (by omega) hfr hT).2.1 (by omega) (by omega) (fun _ => h M' hfr hg) (fun q => absurd q (by omega)))
    · intro m hm ih z M' hz hfr hg
      have bd := wb m (by omega)
      have zz := wz0 m
      rw [show fwN (wz (wW T (aS f)) p q) (m + 1) = fwS (fwN (wz (wW T (aS f)) p q) m) m from rfl] at ih
      generalize fwN (wz (wW T (aS f)) p q) m = D at bd zz ih hg
      refine zev_go zkX11_findFares [152] 60 (iGe hz (zTm_R (by omega) hfr hT).2.1 (by omega) (by omega) (fun q => absurd q (by omega)) (fun _ => ?_))
      have I : ∀ k, k ≤ 49 → ∀ w M', w = nI k → frR 72 72 M M' → (∀ u v, u < 7 → v < 7 → M' 72 (7 * u + v) = nI (if 7 * u + v < k then fwS D m u v else D u v)) → zEv fX11_findFares Q 152 [(0, .ref 47), (1, .int x), (2, .int y), (3, .int z), (4, .int w)] [] M' := by
        refine zloop 49 ?_ ?_
        · intro w M' hw hfr hg
          refine zev_go zkX11_findFares [141] 60 (iGe hw n_49 (by omega) (by decide) (fun _ => ?_) (fun q => absurd q (by omega)))
          refine zev_pick [0, 1, 2, 3] (ih _ M' (by rw [hz, nI_1]) hfr (fun u v hu hv => ?_))
          rw [hg u v hu hv, if_pos (by omega)]
        · intro k hk ihI w M' hw hfr hg
          obtain ⟨a, b, ha, hb, ek⟩ : ∃ a b, a < 7 ∧ b < 7 ∧ k = 7 * a + b := ⟨k / 7, k % 7, by omega, by omega, by omega⟩
          have ed : w / 7 = nI a := by rw [a_div hw n_7 (by omega) (by decide) (by decide)]; congr 1; omega
          have er : zrem w 7 = nI b := by rw [a_rem hw n_7 (by omega) (by decide) (by decide)]; congr 1; omega
          subst ek
          have r1 : M' 72 (7 * a + m) = nI (D a m) := by
            rw [hg a m ha (by omega), fwS_r zz]
            split <;> rfl
          have r2 : M' 72 (7 * m + b) = nI (D m b) := by
            rw [hg m b (by omega) hb, fwS_l zz]
            split <;> rfl
          have r3 : M' 72 (7 * a + b) = nI (D a b) := by rw [hg a b ha hb, if_neg (by omega)]
          have b1 := bd a m
          have b2 := bd m b
          have b3 := bd a b
          have nx : ∀ v, v = nI (fwS D m a b) → zEv fX11_findFares Q 152 [(0, .ref 47), (1, .int x), (2, .int y), (3, .int z), (4, .int (w + 1))] [] (zu M' 72 (7 * a + b) v) := fun v hv => ihI _ _ (by rw [hw, nI_1]) (frR_u (by omega) (by omega) hfr) (fun u t hu ht => by
            rw [zu_s, upd_if]
            by_cases c : u = a ∧ t = b
            · rw [if_pos (by rw [c.1, c.2]), c.1, c.2, if_pos (by omega)]; exact hv
            · rw [if_neg (by omega), hg u t hu ht]
              by_cases c2 : 7 * u + t < 7 * a + b
              · rw [if_pos c2, if_pos (by omega)]
              · rw [if_neg c2, if_neg (by omega)])
          refine zev_go zkX11_findFares [152] 60 (iGe hw n_49 (by omega) (by decide) (fun q => absurd q (by omega)) (fun _ => ?_))
          refine ⟨by decide, zix (7 * a + m) (a_add (a_mul n_7 ed) hz) (show _ < 49 by omega) ?_⟩
          refine ⟨by decide, zix (7 * m + b) (a_add (a_mul n_7 hz) er) (show _ < 49 by omega) (zix (7 * a + b) hw (show _ < 49 by omega) ?_)⟩
          refine iGe (a_add r1 r2) r3 (by omega) (by omega) (fun c => zix (7 * a + b) hw (show _ < 49 by omega) (zix (7 * a + b) hw (show _ < 49 by omega) ?_)) (fun c => zix (7 * a + b) hw (show _ < 49 by omega) ?_)
          · exact zev_pick [0, 1, 2, 3, 4] (nx _ (r3.trans (by rw [fwS_e, Nat.min_eq_left c])))
          · exact zev_pick [0, 1, 2, 3, 4] (nx _ ((a_add r1 r2).trans (by rw [fwS_e, Nat.min_eq_right (by omega)])))
      refine I 0 (Nat.zero_le _) 0 M' n_0 hfr (fun u v hu hv => ?_)
      rw [hg u v hu hv, if_neg (by omega)]
  have L2 : ∀ i, i ≤ tC T → ∀ z M', z = nI i → frR 72 72 M M' → (∀ u v, u < 7 → v < 7 → M' 72 (7 * u + v) = nI (wm 1000000 T (aS f) i u v)) → zEv fX11_findFares Q 39 [(0, .ref 47), (1, .int x), (2, .int y), (3, .int z)] [] M' := by
    refine zloop (tC T) ?_ ?_
    · intro z M' hz hfr hg
      refine zev_go zkX11_findFares [141] 60 (iGe hz (zTm_R (by omega) hfr hT).2.2.1 (by omega) (by omega) (fun _ => ?_) (fun q => absurd q (by omega)))
      refine zix (7 * p + q) (a_add (a_mul n_7 hx) hy) (show _ < 49 by omega) (zix (7 * q + p) (a_add (a_mul n_7 hy) hx) (show _ < 49 by omega) ?_)
      refine L3 0 (Nat.zero_le _) 0 _ n_0 (frR_u (by omega) (by omega) (frR_u (by omega) (by omega) hfr)) (fun u v hu hv => ?_)
      show _ = nI (wz (wW T (aS f)) p q u v)
      rw [zu_s, upd_if, zu_s, upd_if]
      unfold wz
      by_cases c1 : u = p ∧ v = q
      · rw [if_neg (by omega), if_pos (by rw [c1.1, c1.2]), if_pos (Or.inl c1)]; rfl
      · by_cases c2 : u = q ∧ v = p
        · rw [if_pos (by rw [c2.1, c2.2]), if_pos (Or.inr c2)]; rfl
        · rw [if_neg (by omega), if_neg (by omega), if_neg (fun r => r.elim c1 c2)]
          exact hg u v hu hv
    · intro i hi ih z M' hz hfr hg
      obtain ⟨i1, i2, i3, i4, i5, i6⟩ := zTv_i hv hi
      have hT' := zTm_R (by omega) hfr hT
      have eA := hT'.2.2.2.2.2.1 i hi
      have eB := hT'.2.2.2.2.2.2.1 i hi
      have eP := hT'.2.2.2.2.2.2.2.2.2 i hi
      have i10 : i < 10 := by omega
      refine zev_go zkX11_findFares [39] 60 (iGe hz hT'.2.2.1 (by omega) (by omega) (fun q => absurd q (by omega)) (fun _ => ?_))
      refine k_X11_isOpen hz (by omega) (show M' 56 10 = nI (aS f) by rw [hfr 56 (by omega)]; exact hf.2.2.1) (by omega) (fun r => bT ?_) (fun r => bF ?_)
      · refine zix i hz i10 (zix i hz i10 (zix i hz i10 (zix (7 * tA T i + tB T i) (a_add (a_mul n_7 eA) eB) (show _ < 49 by omega) ?_)))
        refine zix i hz i10 (zix i hz i10 (zix i hz i10 (zix (7 * tB T i + tA T i) (a_add (a_mul n_7 eB) eA) (show _ < 49 by omega) ?_)))
        refine ih _ _ (by rw [hz, nI_1]) (frR_u (by omega) (by omega) (frR_u (by omega) (by omega) hfr)) (fun u v hu hv => ?_)
        rw [wm_s, if_neg (by rw [r]; decide), zu_s, upd_if, zu_s, upd_if]
        by_cases c1 : u = tB T i ∧ v = tA T i
        · rw [if_pos c1, if_pos (by rw [c1.1, c1.2])]; exact eP
        · rw [if_neg c1, if_neg (by omega)]
          by_cases c2 : u = tA T i ∧ v = tB T i
          · rw [if_pos c2, if_pos (by rw [c2.1, c2.2])]; exact eP
          · rw [if_neg c2, if_neg (by omega)]; exact hg u v hu hv
      · exact ih _ M' (by rw [hz, nI_1]) hfr (fun u v hu hv => by rw [wm_s, if_pos r]; exact hg u v hu hv)
  have L1 : ∀ k, k ≤ 49 → ∀ z M', z = nI k → frR 72 72 M M' → (∀ u v, u < 7 → v < 7 → 7 * u + v < k → M' 72 (7 * u + v) = nI (if u = v then 0 else 1000000)) → zEv fX11_findFares Q 2 [(0, .ref 47), (1, .int x), (2, .int y), (3, .int z)] [] M' := by
    refine zloop 49 ?_ ?_
    · intro z M' hz hfr hg
      exact zev_go zkX11_findFares [39] 60 (iGe hz n_49 (by omega) (by decide) (fun _ => L2 0 (Nat.zero_le _) 0 M' n_0 hfr (fun u v hu hv => hg u v hu hv (by omega))) (fun q => absurd q (by omega)))
    · intro k hk ih z M' hz hfr hg
      have nx : ∀ v, v = nI (if k / 7 = k % 7 then 0 else 1000000) → zEv fX11_findFares Q 2 [(0, .ref 47), (1, .int x), (2, .int y), (3, .int (z + 1))] [] (zu M' 72 k v) := fun v hv => ih _ _ (by rw [hz, nI_1]) (frR_u (by omega) (by omega) hfr) (fun u t hu ht hl => by
        rw [zu_s, upd_if]
        by_cases c : 7 * u + t = k
        · rw [if_pos c, hv]
          congr 1
          by_cases d : u = t
          · rw [if_pos d, if_pos (by omega)]
          · rw [if_neg d, if_neg (by omega)]
        · rw [if_neg c]; exact hg u t hu ht (by omega))
      refine zev_go zkX11_findFares [2] 60 (iGe hz n_49 (by omega) (by decide) (fun q => absurd q (by omega)) (fun _ => ⟨by decide, ⟨by decide, ?_⟩⟩))
      refine iNe (a_div hz n_7 (by omega) (by decide) (by decide)) (a_rem hz n_7 (by omega) (by decide) (by decide)) (by omega) (by omega) (fun c => zix k hz hk ?_) (fun c => zix k hz hk ?_)
      · exact nx _ (by rw [if_neg c]; rfl)
      · exact nx _ (by rw [if_pos c]; rfl)
  exact L1 0 (Nat.zero_le _) 0 M n_0 (frR_r _ _ _) (fun u v hu hv hl => absurd hl (by omega))
theorem k_X11_allFares {Q : Option Value → zM → Prop} {M : zM} {T : zTn} {s p q : Nat} (hv : zTv T) (hT : zTm T M) (hg : ∀ u v, u < 7 → v < 7 → M 72 (7 * u + v) = nI (feM T s p q u v)) (h : Q (some (.int (nI (tot T s p q)))) M) : zCon fX11_allFares [.ref 47] M Q := by
  have hS := zTv_S hv
  obtain ⟨t1, t2⟩ := tot_b (s := s) hv p q
  refine zc_of zkX11_allFares [4] 60 (Nat.le_of_ble_eq_true rfl) ?_
  have L : ∀ a, a ≤ tS T → ∀ t z, t = nI (fsm (fun a => fsm (fun b => capV (feM T s p q a b)) (tS T)) a) → z = nI a → zEv fX11_allFares Q 4 [(0, .ref 47), (1, .int t), (2, .int z)] [] M := by
    refine zloop (tS T) ?_ ?_
    · intro t z ht hz
      refine zev_go zkX11_allFares [4] 60 (iGe hz hT.2.1 (by omega) (by omega) (fun _ => ?_) (fun q => absurd q (by omega)))
      rw [ht]
      exact h
    · intro a ha ih t z ht hz
      refine zev_go zkX11_allFares [14] 60 (iGe hz hT.2.1 (by omega) (by omega) (fun q => absurd q (by omega)) (fun _ => ?_))
      have I : ∀ b, b ≤ tS T → ∀ t w, t = nI (fsm (fun a => fsm (fun b => capV (feM T s p q a b)) (tS T)) a + fsm (fun b => capV (feM T s p q a b)) b) → w = nI b → zEv fX11_allFares Q 14 [(0, .ref 47), (1, .int t), (2, .int z), (3, .int w)] [] M := by
        refine zloop (tS T) ?_ ?_
        · intro t w ht hw
          refine zev_go zkX11_allFares [4] 60 (iGe hw hT.2.1 (by omega) (by omega) (fun _ => ?_) (fun q => absurd q (by omega)))
          exact zev_pick [0, 1, 2] (ih _ _ ht (by rw [hz, nI_1]))
        · intro b hb ihI t w ht hw
          have e1 := hg a b (by omega) (by omega)
          have bb := feM_b (s := s) hv p q a b
          have ei := a_add (a_mul n_7 hz) hw
          refine zev_go zkX11_allFares [14] 60 (iGe hw hT.2.1 (by omega) (by omega) (fun q => absurd q (by omega)) (fun _ => zix (7 * a + b) ei (show _ < 49 by omega) ?_))
          refine iLt e1 n_1000000 (by omega) (by decide) (fun c => zix (7 * a + b) ei (show _ < 49 by omega) ?_) (fun c => ?_)
          · refine zev_pick [0, 1, 2, 3] (ihI _ _ (a_add ht e1 |>.trans ?_) (by rw [hw, nI_1]))
            rw [fsm_s, show capV (feM T s p q a b) = feM T s p q a b from if_pos c, Nat.add_assoc]
          · refine zev_pick [0, 1, 2, 3] (ihI _ _ (a_add ht n_100 |>.trans ?_) (by rw [hw, nI_1]))
            rw [fsm_s, show capV (feM T s p q a b) = 100 from if_neg (by omega), Nat.add_assoc]
      exact I 0 (Nat.zero_le _) _ 0 (by rw [ht]; rfl) n_0
  exact L 0 (Nat.zero_le _) 0 0 n_0 n_0
theorem k_X11_haveCorner {Q : Option Value → zM → Prop} {M : zM} {T : zTn} {x y : Int32} {a b : Nat} (hv : zTv T) (hT : zTm T M) (hx : x = nI a) (hy : y = nI b) (ha : a < 2 ^ 31) (hb : b < 2 ^ 31) (h1 : jn T a b (tC T) = true → Q (some (.int 1)) M) (h0 : jn T a b (tC T) = false → Q (some (.int 0)) M) : zCon fX11_haveCorner [.ref 47, .int x, .int y] M Q := by
  have hC := zTv_C hv
  have hS := zTv_S hv
  refine zc_of zkX11_haveCorner [5] 60 (Nat.le_of_ble_eq_true rfl) ?_
  have L : ∀ i, i ≤ tC T → ∀ t z, t = zbl (jn T a b i) → z = nI i → zEv fX11_haveCorner Q 5 [(0, .ref 47), (1, .int x), (2, .int y), (3, .int t), (4, .int z)] [] M := by
    refine zloop (tC T) ?_ ?_
    · intro t z ht hz
      refine zev_go zkX11_haveCorner [5] 60 (iGe hz hT.2.2.1 (by omega) (by omega) (fun _ => ?_) (fun q => absurd q (by omega)))
      subst ht
      cases q : jn T a b (tC T) with
      | true => exact ⟨Or.inr rfl, h1 q⟩
      | false => exact ⟨Or.inl rfl, h0 q⟩
    · intro i hi ih t z ht hz
      obtain ⟨i1, i2, i3, i4, i5, i6⟩ := zTv_i hv hi
      have eA := hT.2.2.2.2.2.1 i hi
      have eB := hT.2.2.2.2.2.2.1 i hi
      have i10 : i < 10 := by omega
      have yes : (jn T a b i = true ∨ (tA T i = a ∧ tB T i = b ∨ tA T i = b ∧ tB T i = a)) → zEv fX11_haveCorner Q 5 [(0, .ref 47), (1, .int x), (2, .int y), (3, .int 1), (4, .int (z + 1))] [] M := fun q => ih _ _ (by
        rw [jn_s]
        rcases q with q | q
        · rw [q]; rfl
        · rw [decide_eq_true q, Bool.or_true]; rfl) (by rw [hz, nI_1])
      have no : jn T a b i = false → ¬ (tA T i = a ∧ tB T i = b ∨ tA T i = b ∧ tB T i = a) → zEv fX11_haveCorner Q 5 [(0, .ref 47), (1, .int x), (2, .int y), (3, .int 0), (4, .int (z + 1))] [] M := fun q r => ih _ _ (by rw [jn_s, q, decide_eq_false r]; rfl) (by rw [hz, nI_1])
      subst ht
      refine zev_go zkX11_haveCorner [5] 60 (iGe hz hT.2.2.1 (by omega) (by omega) (fun q => absurd q (by omega)) (fun _ => ?_))
      cases j : jn T a b i with
      | true => exact cT (yes (Or.inl j))
      | false =>
        have second : ¬ (tA T i = a ∧ tB T i = b) → (tA T i = b → tB T i = a → False) → True := fun _ _ => trivial
        refine cF (zix i hz i10 ?_)
        refine iNe eA hx (by omega) ha (fun c => zix i hz i10 ?_) (fun c => zix i hz i10 ?_)
        · refine iNe eA hy (by omega) hb (fun d => no j (by omega)) (fun d => zix i hz i10 ?_)
          exact iNe eB hx (by omega) ha (fun e => no j (by omega)) (fun e => yes (Or.inr (by omega)))
        · refine iEq eB hy (by omega) hb (fun d => yes (Or.inr (by omega))) (fun d => zix i hz i10 ?_)
          refine iNe eA hy (by omega) hb (fun d => no j (by omega)) (fun d => zix i hz i10 ?_)
          exact iNe eB hx (by omega) ha (fun e => no j (by omega)) (fun e => yes (Or.inr (by omega)))
  exact L 0 (Nat.zero_le _) 0 0 rfl n_0
def stL : Option (Nat × Nat) → Int32
  | none => 1000000
  | some (_, t) => nI t
theorem km_more {Q : Option Value → zM → Prop} {G : zG} {M : zM} {w : Int32} (hC : zD G M) (hV : zV G) (hq : ∀ M', zD G M' → frC M M' → Q (some (.int (o_more G w))) M') : zCon fX11_more [.ref 47, .int w] M Q := by
  obtain ⟨c1, c2, c3, c4, c5, c6, c7, c8, c9⟩ := id hC
  have hS := zTv_S hV.1
  have hN := zTv_N hV.1
  refine zc_of zkX11_more [32] 60 (Nat.le_of_ble_eq_true rfl) ?_
  refine k_in (S := 2) (by omega) l0_ (by decide) (fun m hm e3 => cT ?_) (fun ho => cF ?_)
  · unfold o_more at hq
    rw [show ix w 2 = some m by rw [e3]; exact ix_in hm (by omega)] at hq
    dsimp only at hq
    refine iNe c1.1 n_0 (by omega) (by decide) (fun z => ?_) (fun z => ?_)
    · rw [if_neg z] at hq
      have hq' : ∀ M', frR 72 72 M M' → Q (some (.int (match mo (gT G) (aS (gA G)) (tS (gT G)) with | none => -1 | some (p, t) => if m = 0 then nI p else nI t))) M' := fun M' hf => hq M' (zD_fr (fun k hk => hf k (by unfold zown2 at hk; omega)) hC) (fun k hk => hf k (by omega))
      generalize eT : gT G = T at *
      generalize ef : gA G = f at *
      have hv := hV.1
      have hvf := hV.2.1
      rw [eT] at hv hvf
      rw [ef] at hvf
      have L : ∀ a, a ≤ tS T → ∀ u t y M', y = nI a → frR 72 72 M M' → u = stP (mo T (aS f) a) → t = stL (mo T (aS f) a) → stB (mo T (aS f) a) → zEv fX11_more Q 32 [(0, .ref 47), (1, .int w), (2, .int u), (3, .int t), (4, .int y)] [] M' := by
        refine zloop (tS T) ?_ ?_
        · intro u t y M' hy hfr eu et hb
          have h' := hq' M' hfr
          refine zev_go zkX11_more [32] 60 (iGe hy (zTm_R (by omega) hfr c1).2.1 (by omega) (by omega) (fun _ => ?_) (fun q => absurd q (by omega)))
          cases st : mo T (aS f) (tS T) with
          | none =>
            rw [st] at h' eu
            rw [eu]
            exact bt_ (by decide) h'
          | some pt =>
            obtain ⟨p, t⟩ := pt
            rw [st] at h' eu et hb
            have hb' : p < 100 ∧ t < 1000000 := hb
            have h2 : Q (some (.int (if m = 0 then nI p else nI t))) M' := h'
            rw [eu, et]
            refine bf_ (nI_pos (n := p) (by omega)) (iNe e3 n_0 (by omega) (by decide) (fun d => ?_) (fun d => ?_))
            · rw [if_neg d] at h2; exact h2
            · rw [if_pos d] at h2; exact h2
        · intro a ha ih u t y M' hy hfr eu et hb
          refine zev_go zkX11_more [47] 60 (iGe hy (zTm_R (by omega) hfr c1).2.1 (by omega) (by omega) (fun q => absurd q (by omega)) (fun _ => ?_))
          have I : ∀ n, n ≤ tS T - 1 - a → ∀ u t z M', z = nI (a + 1 + n) → frR 72 72 M M' → u = stP (mi T (aS f) (mo T (aS f) a) a n) → t = stL (mi T (aS f) (mo T (aS f) a) a n) → stB (mi T (aS f) (mo T (aS f) a) a n) → zEv fX11_more Q 47 [(0, .ref 47), (1, .int w), (2, .int u), (3, .int t), (4, .int y), (5, .int z)] [] M' := by
            refine zloop (tS T - 1 - a) ?_ ?_
            · intro u t z M' hz hfr eu et hb
              refine zev_go zkX11_more [32] 60 (iGe hz (zTm_R (by omega) hfr c1).2.1 (by omega) (by omega) (fun _ => ?_) (fun q => absurd q (by omega)))
              exact zev_pick [0, 1, 2, 3, 4] (ih _ _ _ M' (by rw [hy, nI_1]) hfr eu et hb)
            · intro n hn ihI u t z M' hz hfr eu et hb
              have hT' := zTm_R (by omega) hfr c1
              generalize est : mi T (aS f) (mo T (aS f) a) a n = st at eu et hb
              have es : mi T (aS f) (mo T (aS f) a) a (n + 1) = mst T (aS f) st a (a + 1 + n) := by rw [mi_s, est]
              rw [es] at ihI
              have tb : tot T (aS f) a (a + 1 + n) < 1000000 := Nat.lt_of_le_of_lt ((tot_b (s := aS f) hv a (a + 1 + n)).2 (tS T) hS) (by omega)
              have ez : z + 1 = nI (a + 1 + (n + 1)) := by rw [hz, nI_1]; rfl
              refine zev_go zkX11_more [47] 60 (iGe hz hT'.2.1 (by omega) (by omega) (fun q => absurd q (by omega)) (fun _ => ?_))
              refine k_X11_haveCorner hv hT' hy hz (by omega) (by omega) (fun j => cT ?_) (fun j => cF ?_)
              · unfold mst at ihI
                rw [if_pos j] at ihI
                exact ihI _ _ _ M' ez hfr eu et hb
              · unfold mst at ihI
                rw [if_neg (by rw [j]; decide)] at ihI
                refine k_X11_findFares hv hT' (show mA T f (M' 56) by rw [hfr 56 (by omega)]; exact c2) hvf hy hz (by omega) (by omega) (by omega) (fun M2 hf2 hg2 => ?_)
                have hfr2 := frR_t hfr hf2
                refine k_X11_allFares hv (zTm_R (by omega) hfr2 c1) hg2 ?_
                cases st with
                | none =>
                  rw [eu, et]
                  refine iGe rfl n_1000000 (by omega) (by decide) (fun c => absurd c (by omega)) (fun _ => iGe rfl n_1000000 (by omega) (by decide) (fun c => absurd c (by omega)) (fun _ => ?_))
                  exact zev_pick [0, 1, 2, 3, 4, 5] (ihI _ _ _ M2 ez hfr2 (a_add (a_mul n_10 hy) hz) rfl ⟨by omega, tb⟩)
                | some pt =>
                  obtain ⟨p, t'⟩ := pt
                  have hb' : p < 100 ∧ t' < 1000000 := hb
                  refine iGe rfl et (by omega) (by omega) (fun c => iGe rfl et (by omega) (by omega) (fun _ => ?_) (fun d => absurd d (by omega))) (fun c => iGe rfl et (by omega) (by omega) (fun d => absurd d (by omega)) (fun _ => ?_))
                  · dsimp only at ihI
                    rw [if_neg (by omega)] at ihI
                    exact zev_pick [0, 1, 2, 3, 4, 5] (ihI _ _ _ M2 ez hfr2 eu et hb)
                  · dsimp only at ihI
                    rw [if_pos c] at ihI
                    exact zev_pick [0, 1, 2, 3, 4, 5] (ihI _ _ _ M2 ez hfr2 (a_add (a_mul n_10 hy) hz) rfl ⟨by omega, tb⟩)
          exact I 0 (Nat.zero_le _) _ _ _ M' (by rw [hy, nI_1]) hfr eu et hb
      exact L 0 (Nat.zero_le _) _ _ 0 M n_0 (frR_r _ _ _) rfl rfl trivial
    · rw [if_pos z] at hq
      exact hq M hC (fun _ _ => rfl)
  · unfold o_more at hq
    rw [ix_out (by omega) ho] at hq
    exact hq M hC (fun _ _ => rfl)
