/-! more of the class -/
def frR (lo hi : Nat) (M M' : zM) : Prop := ∀ j, (j < lo ∨ hi < j) → M' j = M j
theorem frR_r (lo hi : Nat) (M : zM) : frR lo hi M M := fun _ _ => rfl
theorem frR_u {lo hi : Nat} {M M' : zM} {k t : Nat} {v : Int32} (h1 : lo ≤ k) (h2 : k ≤ hi) (h : frR lo hi M M') : frR lo hi M (zu M' k t v) := fun j hj => by rw [zu_n M' t v (by omega)]; exact h j hj
theorem frR_z {lo hi : Nat} {M M' : zM} {k : Nat} {g : Nat → Int32} (h1 : lo ≤ k) (h2 : k ≤ hi) (h : frR lo hi M M') : frR lo hi M (zset M' k g) := fun j hj => by rw [zset_n M' g (by omega)]; exact h j hj
theorem frR_t {lo hi : Nat} {M M' M'' : zM} (h : frR lo hi M M') (h' : frR lo hi M' M'') : frR lo hi M M'' := fun j hj => by rw [h' j hj, h j hj]
theorem upd_if (g : Nat → Int32) (t : Nat) (v : Int32) (j : Nat) : upd g t v j = if j = t then v else g j := rfl
theorem nI_m1 {p : Nat} (hp : p < 2 ^ 31) : ¬ nI p = -1 := fun e => nI_pos hp (by rw [e]; decide)
theorem fwS_r {D : mX2} {m : Nat} (hz : D m m = 0) (a : Nat) : fwS D m a m = D a m := by rw [fwS_e]; omega
theorem fwS_l {D : mX2} {m : Nat} (hz : D m m = 0) (b : Nat) : fwS D m m b = D m b := by rw [fwS_e]; omega
theorem zTc_R {T : zTn} {M M' : zM} {lo hi : Nat} (hl : 10 ≤ lo) (h : frR lo hi M M') (hT : zTc T M) : zTc T M' := zTc_fr (fun k h1 h2 => h k (by omega)) hT
theorem k_X6_penceOf {Q : Option Value → zM → Prop} {M : zM} {x y : Int32} {a b : Nat} (hx : x = nI a) (hy : y = nI b) (ha : a < 7) (hb : b < 7) (h : Q (some (.int (M 36 (a * 7 + b)))) M) : zCon fX6_penceOf [.ref 35, .int x, .int y] M Q := zc_of zkX6_penceOf [] 60 (Nat.le_of_ble_eq_true rfl) (zix (a * 7 + b) (a_add (a_mul hx n_7) hy) (show a * 7 + b < 49 by omega) h)
theorem k_X6_measureBy {Q : Option Value → zM → Prop} {M : zM} {D : mX2} {N m : Nat} {x : Int32} (hN7 : N ≤ 7) (hN : M 1 2 = nI N) (hx : x = nI m) (hm : m < N) (hz : D m m = 0) (hD : ∀ a b, D a b ≤ 100000000) (hg : ∀ a b, a < N → b < N → M 36 (a * 7 + b) = nI (D a b)) (h : ∀ M', frR 36 36 M M' → (∀ a b, a < N → b < N → M' 36 (a * 7 + b) = nI (fwS D m a b)) → Q none M') : zCon fX6_measureBy [.ref 35, .int x] M Q := by
  refine zc_of zkX6_measureBy [2] 60 (Nat.le_of_ble_eq_true rfl) ?_
  have L : ∀ a, a ≤ N → ∀ y M', y = nI a → frR 36 36 M M' → (∀ u v, u < N → v < N → M' 36 (u * 7 + v) = nI (if u < a then fwS D m u v else D u v)) → zEv fX6_measureBy Q 2 [(0, .ref 35), (1, .int x), (2, .int y)] [] M' := by
    refine zloop N ?_ ?_
    · intro y M' hy hf hg
      refine zev_go zkX6_measureBy [2] 60 (iGe hy (show M' 1 2 = nI N by rw [hf 1 (by omega)]; exact hN) (by omega) (by omega) (fun _ => h M' hf (fun u v hu hv => by rw [hg u v hu hv, if_pos hu])) (fun q => absurd q (by omega)))
    · intro a ha ih y M' hy hf hg
      refine zev_go zkX6_measureBy [15] 60 (iGe hy (show M' 1 2 = nI N by rw [hf 1 (by omega)]; exact hN) (by omega) (by omega) (fun q => absurd q (by omega)) (fun _ => ?_))
      have I : ∀ b, b ≤ N → ∀ z M', z = nI b → frR 36 36 M M' → (∀ u v, u < N → v < N → M' 36 (u * 7 + v) = nI (if u < a ∨ (u = a ∧ v < b) then fwS D m u v else D u v)) → zEv fX6_measureBy Q 15 [(0, .ref 35), (1, .int x), (2, .int y), (3, .int z)] [] M' := by
        refine zloop N ?_ ?_
        · intro z M' hz' hf hg
          refine zev_go zkX6_measureBy [2] 60 (iGe hz' (show M' 1 2 = nI N by rw [hf 1 (by omega)]; exact hN) (by omega) (by omega) (fun _ => ?_) (fun q => absurd q (by omega)))
          refine zev_pick [0, 1, 2] (ih _ M' (by rw [hy, nI_1]) hf (fun u v hu hv => ?_))
          rw [hg u v hu hv]
          by_cases c : u < a + 1
          · rw [if_pos c, if_pos (by omega)]
          · rw [if_neg c, if_neg (by omega)]
        · intro b hb ihI z M' hz' hf hg
          have r1 : M' 36 (a * 7 + m) = nI (D a m) := by
            rw [hg a m ha hm, fwS_r hz]
            split <;> rfl
          have r2 : M' 36 (m * 7 + b) = nI (D m b) := by
            rw [hg m b hm hb, fwS_l hz]
            split <;> rfl
          have r3 : M' 36 (a * 7 + b) = nI (D a b) := by rw [hg a b ha hb, if_neg (by omega)]
          have b1 := hD a m
          have b2 := hD m b
          have b3 := hD a b
          refine zev_go zkX6_measureBy [15] 60 (iGe hz' (show M' 1 2 = nI N by rw [hf 1 (by omega)]; exact hN) (by omega) (by omega) (fun q => absurd q (by omega)) (fun _ => ?_))
          refine k_X6_penceOf hy hx (by omega) (by omega) (k_X6_penceOf hx hz' (by omega) (by omega) (k_X6_penceOf hy hz' (by omega) (by omega) ?_))
          refine iGe (a_add r1 r2) r3 (by omega) (by omega) (fun c => ?_) (fun c => ?_)
          · refine zev_pick [0, 1, 2, 3] (ihI _ M' (by rw [hz', nI_1]) hf (fun u v hu hv => ?_))
            rw [hg u v hu hv]
            by_cases q : u = a ∧ v = b
            · rw [q.1, q.2, if_neg (by omega), if_pos (by omega), fwS_e, Nat.min_eq_left c]
            · by_cases q2 : u < a ∨ (u = a ∧ v < b)
              · rw [if_pos q2, if_pos (by omega)]
              · rw [if_neg q2, if_neg (by omega)]
          · refine zix (a * 7 + b) (a_add (a_mul hy n_7) hz') (show a * 7 + b < 49 by omega) ?_
            refine zev_pick [0, 1, 2, 3] (ihI _ _ (by rw [hz', nI_1]) (frR_u (by omega) (by omega) hf) (fun u v hu hv => ?_))
            rw [zu_s, upd_if]
            by_cases q : u = a ∧ v = b
            · rw [q.1, q.2, if_pos rfl, if_pos (by omega), fwS_e, Nat.min_eq_right (by omega)]
              exact a_add r1 r2
            · rw [if_neg (by omega), hg u v hu hv]
              by_cases q2 : u < a ∨ (u = a ∧ v < b)
              · rw [if_pos q2, if_pos (by omega)]
              · rw [if_neg q2, if_neg (by omega)]
      refine I 0 (Nat.zero_le _) 0 M' n_0 hf (fun u v hu hv => ?_)
      rw [hg u v hu hv]
      by_cases c : u < a
      · rw [if_pos c, if_pos (by omega)]
      · rw [if_neg c, if_neg (by omega)]
  exact L 0 (Nat.zero_le _) 0 M n_0 (frR_r _ _ _) (fun u v hu hv => by rw [hg u v hu hv, if_neg (by omega)])
abbrev dA (T : zTn) (s : Nat) : mX2 := fwN (wm 100000000 T s (tC T)) (tS T)
theorem k_X6_measureAll {Q : Option Value → zM → Prop} {M : zM} {T : zTn} {a : zAf} (hv : zTv T) (hT : zTc T M) (ha : cA T a (M 22)) (hva : vA T a) (h : ∀ M', frR 36 36 M M' → (∀ u v, u < tS T → v < tS T → M' 36 (u * 7 + v) = nI (dA T (aS a) u v)) → Q none M') : zCon fX6_measureAll [.ref 35] M Q := by
  have hS := zTv_S hv
  have hC := zTv_C hv
  have hsh := vA_S hv hva
  refine zc_of zkX6_measureAll [11] 60 (Nat.le_of_ble_eq_true rfl) (k_fill_36 ?_)
  have L3 : ∀ m, m ≤ tS T → ∀ y M', y = nI m → frR 36 36 M M' → (∀ u v, u < tS T → v < tS T → M' 36 (u * 7 + v) = nI (fwN (wm 100000000 T (aS a) (tC T)) m u v)) → zEv fX6_measureAll Q 139 [(0, .ref 35), (1, .int y)] [] M' := by
    refine zloop (tS T) ?_ ?_
    · intro y M' hy hf hg
      exact zev_go zkX6_measureAll [139] 60 (iGe hy (zTc_R (by omega) hf hT).2.1 (by omega) (by omega) (fun _ => h M' hf hg) (fun q => absurd q (by omega)))
    · intro m hm ih y M' hy hf hg
      refine zev_go zkX6_measureAll [139] 60 (iGe hy (zTc_R (by omega) hf hT).2.1 (by omega) (by omega) (fun q => absurd q (by omega)) (fun _ => ?_))
      refine k_X6_measureBy (D := fwN (wm 100000000 T (aS a) (tC T)) m) hS (zTc_R (by omega) hf hT).2.1 hy hm (fw_z (fun a => wm_z hv a _ (Nat.le_refl _)) m m) (fun u v => ?_) hg (fun M2 hf2 hg2 => ih _ M2 (by rw [hy, nI_1]) (frR_t hf hf2) hg2)
      have q := fw_le (wm 100000000 T (aS a) (tC T)) u v m
      have r := wm_rel (s := aS a) hv u v (tC T) (Nat.le_refl _)
      unfold fR at r
      omega
  have L2 : ∀ i, i ≤ tC T → ∀ y M', y = nI i → frR 36 36 M M' → (∀ u v, u < 7 → v < 7 → M' 36 (u * 7 + v) = nI (wm 100000000 T (aS a) i u v)) → zEv fX6_measureAll Q 37 [(0, .ref 35), (1, .int y)] [] M' := by
    refine zloop (tC T) ?_ ?_
    · intro y M' hy hf hg
      exact zev_go zkX6_measureAll [139] 60 (iGe hy (zTc_R (by omega) hf hT).2.2.1 (by omega) (by omega) (fun _ => L3 0 (Nat.zero_le _) 0 M' n_0 hf (fun u v hu hv => hg u v (by omega) (by omega))) (fun q => absurd q (by omega)))
    · intro i hi ih y M' hy hf hg
      obtain ⟨i1, i2, i3, i4, i5, i6⟩ := zTv_i hv hi
      have hT' := zTc_R (by omega) hf hT
      have eA := hT'.2.2.2.2.2.2.1 i hi
      have eB := hT'.2.2.2.2.2.2.2.1 i hi
      have eP := hT'.2.2.2.2.2.2.2.2.2.2 i hi
      have i10 : i < 10 := by omega
      refine zev_go zkX6_measureAll [37] 60 (iGe hy hT'.2.2.1 (by omega) (by omega) (fun q => absurd q (by omega)) (fun _ => ?_))
      refine k_X0_isShut hy (by omega) (show M' 22 2 = nI (aS a) by rw [hf 22 (by omega)]; exact ha.2.2.1) hsh (fun q => cT ?_) (fun q => cF ?_)
      · exact ih _ M' (by rw [hy, nI_1]) hf (fun u v hu hv => by rw [wm_s, if_pos q]; exact hg u v hu hv)
      · refine zix i hy i10 (zix i hy i10 (zix i hy i10 (zix (tA T i * 7 + tB T i) (a_add (a_mul eA n_7) eB) (show _ < 49 by omega) ?_)))
        refine zix i hy i10 (zix i hy i10 (zix i hy i10 (zix (tB T i * 7 + tA T i) (a_add (a_mul eB n_7) eA) (show _ < 49 by omega) ?_)))
        refine ih _ _ (by rw [hy, nI_1]) (frR_u (by omega) (by omega) (frR_u (by omega) (by omega) hf)) (fun u v hu hv => ?_)
        rw [wm_s, if_neg (by rw [q]; decide), zu_s, upd_if, zu_s, upd_if]
        by_cases c1 : u = tB T i ∧ v = tA T i
        · rw [if_pos c1, if_pos (by rw [c1.1, c1.2])]; exact eP
        · rw [if_neg c1, if_neg (by omega)]
          by_cases c2 : u = tA T i ∧ v = tB T i
          · rw [if_pos c2, if_pos (by rw [c2.1, c2.2])]; exact eP
          · rw [if_neg c2, if_neg (by omega)]; exact hg u v hu hv
  have L1 : ∀ n, n ≤ 7 → ∀ y M', y = nI n → frR 36 36 M M' → (∀ u v, u < 7 → v < 7 → M' 36 (u * 7 + v) = nI (if u = v ∧ u < n then 0 else 100000000)) → zEv fX6_measureAll Q 11 [(0, .ref 35), (1, .int y)] [] M' := by
    refine zloop 7 ?_ ?_
    · intro y M' hy hf hg
      refine zev_go zkX6_measureAll [37] 60 (iGe hy n_7 (by omega) (by decide) (fun _ => L2 0 (Nat.zero_le _) 0 M' n_0 hf (fun u v hu hv => ?_)) (fun q => absurd q (by omega)))
      rw [hg u v hu hv]
      show _ = nI (if u = v then 0 else 100000000)
      by_cases c : u = v
      · rw [if_pos c, if_pos ⟨c, hu⟩]
      · rw [if_neg c, if_neg (fun q => c q.1)]
    · intro n hn ih y M' hy hf hg
      refine zev_go zkX6_measureAll [11] 60 (iGe hy n_7 (by omega) (by decide) (fun q => absurd q (by omega)) (fun _ => zix (n * 7 + n) (a_add (a_mul hy n_7) hy) (show _ < 49 by omega) ?_))
      refine ih _ _ (by rw [hy, nI_1]) (frR_u (by omega) (by omega) hf) (fun u v hu hv => ?_)
      rw [zu_s, upd_if]
      by_cases c : u = n ∧ v = n
      · rw [if_pos (by rw [c.1, c.2]), if_pos (by omega)]; rfl
      · rw [if_neg (by omega), hg u v hu hv]
        by_cases c2 : u = v ∧ u < n
        · rw [if_pos c2, if_pos (by omega)]
        · rw [if_neg c2, if_neg (by omega)]
  refine L1 0 (Nat.zero_le _) 0 _ n_0 (frR_z (by omega) (by omega) (frR_r _ _ _)) (fun u v hu hv => ?_)
  rw [zset_s, if_neg (by omega)]
  unfold zfill
  rw [if_pos (by omega)]
  rfl
theorem k_X6_totalWith {Q : Option Value → zM → Prop} {M : zM} {T : zTn} {s p q : Nat} {x y : Int32} (hv : zTv T) (hT : zTc T M) (hg : ∀ u v, u < tS T → v < tS T → M 36 (u * 7 + v) = nI (dA T s u v)) (hx : x = nI p) (hy : y = nI q) (hp : p < tS T) (hq : q < tS T) (h : Q (some (.int (nI (tot T s p q)))) M) : zCon fX6_totalWith [.ref 35, .int x, .int y] M Q := by
  have hS := zTv_S hv
  obtain ⟨t1, t2⟩ := tot_b (s := s) hv p q
  have hg : ∀ u v, u < tS T → v < tS T → M 36 (u * 7 + v) = nI (fwN (wm 100000000 T s (tC T)) (tS T) u v) := hg
  refine zc_of zkX6_totalWith [5] 60 (Nat.le_of_ble_eq_true rfl) ?_
  have L : ∀ a, a ≤ tS T → ∀ t z, t = nI (fsm (fun a => fsm (fun b => capV (feM T s p q a b)) (tS T)) a) → z = nI a → zEv fX6_totalWith Q 5 [(0, .ref 35), (1, .int x), (2, .int y), (3, .int t), (4, .int z)] [] M := by
    refine zloop (tS T) ?_ ?_
    · intro t z ht hz
      refine zev_go zkX6_totalWith [5] 60 (iGe hz hT.2.1 (by omega) (by omega) (fun _ => ?_) (fun q => absurd q (by omega)))
      rw [ht]
      exact h
    · intro a ha ih t z ht hz
      refine zev_go zkX6_totalWith [20] 60 (iGe hz hT.2.1 (by omega) (by omega) (fun q => absurd q (by omega)) (fun _ => ?_))
      have I : ∀ b, b ≤ tS T → ∀ t w, t = nI (fsm (fun a => fsm (fun b => capV (feM T s p q a b)) (tS T)) a + fsm (fun b => capV (feM T s p q a b)) b) → w = nI b → zEv fX6_totalWith Q 20 [(0, .ref 35), (1, .int x), (2, .int y), (3, .int t), (4, .int z), (5, .int w)] [] M := by
        refine zloop (tS T) ?_ ?_
        · intro t w ht hw
          refine zev_go zkX6_totalWith [5] 60 (iGe hw hT.2.1 (by omega) (by omega) (fun _ => ?_) (fun q => absurd q (by omega)))
          exact zev_pick [0, 1, 2, 3, 4] (ih _ _ ht (by rw [hz, nI_1]))
        · intro b hb ihI t w ht hw
          obtain ⟨ce, cb⟩ := cap_eq (s := s) (a := a) (b := b) hv hp hq
          have b1 := cb a p
          have b2 := cb q b
          have b3 := cb a q
          have b4 := cb p b
          have b5 := cb a b
          refine zev_go zkX6_totalWith [20] 60 (iGe hw hT.2.1 (by omega) (by omega) (fun q => absurd q (by omega)) (fun _ => ?_))
          refine k_X6_penceOf hz hx (by omega) (by omega) (k_X6_penceOf hy hw (by omega) (by omega) (k_X6_penceOf hz hy (by omega) (by omega) (k_X6_penceOf hx hw (by omega) (by omega) (k_X6_penceOf hz hw (by omega) (by omega) ?_))))
          have e1 := a_min (a_add (hg a p ha hp) (hg q b hq hb)) (a_add (hg a q ha hq) (hg p b hp hb)) (by omega) (by omega)
          have e2 := a_min (hg a b ha hb) e1 (by omega) (by omega)
          refine iGe e2 n_100000000 (by omega) (by decide) (fun c => ?_) (fun c => ?_)
          · refine zev_pick [0, 1, 2, 3, 4, 5] (ihI _ _ (a_add ht n_100 |>.trans ?_) (by rw [hw, nI_1]))
            rw [fsm_s, ← ce, if_neg (by rw [byN_e]; omega), Nat.add_assoc]
          · refine zev_pick [0, 1, 2, 3, 4, 5] (ihI _ _ (a_add ht e2 |>.trans ?_) (by rw [hw, nI_1]))
            rw [fsm_s, ← ce, if_pos (by rw [byN_e]; omega), Nat.add_assoc, byN_e]
      exact I 0 (Nat.zero_le _) _ 0 (by rw [ht]; rfl) n_0
  exact L 0 (Nat.zero_le _) 0 0 n_0 n_0
theorem k_X8_areJoined {Q : Option Value → zM → Prop} {M : zM} {T : zTn} {x y : Int32} {a b : Nat} (hv : zTv T) (hT : zTc T M) (hx : x = nI a) (hy : y = nI b) (ha : a < 2 ^ 31) (hb : b < 2 ^ 31) (h1 : jn T a b (tC T) = true → Q (some (.int 1)) M) (h0 : jn T a b (tC T) = false → Q (some (.int 0)) M) : zCon fX8_areJoined [.ref 1, .int x, .int y] M Q := by
  have hC := zTv_C hv
  have hS := zTv_S hv
  refine zc_of zkX8_areJoined [2] 60 (Nat.le_of_ble_eq_true rfl) ?_
  have mono : ∀ k i, jn T a b i = true → jn T a b (i + k) = true := by
    intro k
    induction k with
    | zero => intro i h; exact h
    | succ k ih => intro i h; rw [show i + (k + 1) = (i + k) + 1 by omega, jn_s, ih i h]; rfl
  have L : ∀ i, i ≤ tC T → ∀ z, z = nI i → jn T a b i = false → zEv fX8_areJoined Q 2 [(0, .ref 1), (1, .int x), (2, .int y), (3, .int z)] [] M := by
    refine zloop (tC T) ?_ ?_
    · intro z hz hj
      exact zev_go zkX8_areJoined [2] 60 (iGe hz hT.2.2.1 (by omega) (by omega) (fun _ => ⟨Or.inl rfl, h0 hj⟩) (fun q => absurd q (by omega)))
    · intro i hi ih z hz hj
      obtain ⟨i1, i2, i3, i4, i5, i6⟩ := zTv_i hv hi
      have yes : (tA T i = a ∧ tB T i = b ∨ tA T i = b ∧ tB T i = a) → Q (some (.int 1)) M := fun q => h1 (by
        have := mono (tC T - (i + 1)) (i + 1) (by rw [jn_s, decide_eq_true q, Bool.or_true])
        rw [show i + 1 + (tC T - (i + 1)) = tC T by omega] at this
        exact this)
      have no : ¬ (tA T i = a ∧ tB T i = b ∨ tA T i = b ∧ tB T i = a) → zEv fX8_areJoined Q 2 [(0, .ref 1), (1, .int x), (2, .int y), (3, .int (z + 1))] [] M := fun q => ih _ (by rw [hz, nI_1]) (by rw [jn_s, hj, decide_eq_false q]; rfl)
      refine zev_go zkX8_areJoined [2] 60 (iGe hz hT.2.2.1 (by omega) (by omega) (fun q => absurd q (by omega)) (fun _ => ?_))
      refine k_X8_otherEnd hv hT hz hi hx ha (fun q => ?_) (fun q => ?_)
      · have hl : oe T i a < 2 ^ 31 := by unfold oe; split <;> omega
        refine iNe rfl hy hl hb (fun c => no (fun r => c ?_)) (fun c => ⟨Or.inr rfl, yes ?_⟩)
        · unfold oe; split <;> omega
        · unfold oe at c; split at c <;> omega
      · exact nt_ (fun e => nI_m1 hb (by rw [← hy]; exact e.symm)) (no (fun r => q (by omega)))
  exact L 0 (Nat.zero_le _) 0 n_0 rfl
def stP : Option (Nat × Nat) → Int32
  | none => -1
  | some (p, _) => nI p
def stT : Option (Nat × Nat) → Int32
  | none => -1
  | some (_, t) => nI t
def stB : Option (Nat × Nat) → Prop
  | none => True
  | some (p, t) => p < 100 ∧ t < 1000000
theorem k_X6_findNewCorner {Q : Option Value → zM → Prop} {M : zM} {T : zTn} {f : zAf} (hv : zTv T) (hT : zTc T M) (hf : cA T f (M 22)) (hvf : vA T f) (h : ∀ M', frR 35 36 M M' → M' 35 6 = stP (mo T (aS f) (tS T)) → M' 35 7 = stT (mo T (aS f) (tS T)) → Q none M') : zCon fX6_findNewCorner [.ref 35] M Q := by
  have hS := zTv_S hv
  have hC := zTv_C hv
  refine zc_of zkX6_findNewCorner [16] 60 (Nat.le_of_ble_eq_true rfl) (k_X6_measureAll hv hT hf hvf (fun M1 hM1 hg1 => ?_))
  have L : ∀ a, a ≤ tS T → ∀ y M', y = nI a → frR 35 36 M M' → (∀ u v, u < tS T → v < tS T → M' 36 (u * 7 + v) = nI (dA T (aS f) u v)) → M' 35 6 = stP (mo T (aS f) a) → M' 35 7 = stT (mo T (aS f) a) → stB (mo T (aS f) a) → zEv fX6_findNewCorner Q 16 [(0, .ref 35), (1, .int y)] [] M' := by
    refine zloop (tS T) ?_ ?_
    · intro y M' hy hfr hg e6 e7 hb
      exact zev_go zkX6_findNewCorner [16] 60 (iGe hy (zTc_R (by omega) hfr hT).2.1 (by omega) (by omega) (fun _ => h M' hfr e6 e7) (fun q => absurd q (by omega)))
    · intro a ha ih y M' hy hfr hg e6 e7 hb
      refine zev_go zkX6_findNewCorner [31] 60 (iGe hy (zTc_R (by omega) hfr hT).2.1 (by omega) (by omega) (fun q => absurd q (by omega)) (fun _ => ?_))
      have I : ∀ n, n ≤ tS T - 1 - a → ∀ z M', z = nI (a + 1 + n) → frR 35 36 M M' → (∀ u v, u < tS T → v < tS T → M' 36 (u * 7 + v) = nI (dA T (aS f) u v)) → M' 35 6 = stP (mi T (aS f) (mo T (aS f) a) a n) → M' 35 7 = stT (mi T (aS f) (mo T (aS f) a) a n) → stB (mi T (aS f) (mo T (aS f) a) a n) → zEv fX6_findNewCorner Q 31 [(0, .ref 35), (1, .int y), (2, .int z)] [] M' := by
        refine zloop (tS T - 1 - a) ?_ ?_
        · intro z M' hz hfr hg e6 e7 hb
          refine zev_go zkX6_findNewCorner [16] 60 (iGe hz (zTc_R (by omega) hfr hT).2.1 (by omega) (by omega) (fun _ => ?_) (fun q => absurd q (by omega)))
          exact zev_pick [0, 1] (ih _ M' (by rw [hy, nI_1]) hfr hg e6 e7 hb)
        · intro n hn ihI z M' hz hfr hg e6 e7 hb
          have hT' := zTc_R (by omega) hfr hT
          generalize est : mi T (aS f) (mo T (aS f) a) a n = st at e6 e7 hb
          have es : mi T (aS f) (mo T (aS f) a) a (n + 1) = mst T (aS f) st a (a + 1 + n) := by rw [mi_s, est]
          rw [es] at ihI
          have tb : tot T (aS f) a (a + 1 + n) < 1000000 := Nat.lt_of_le_of_lt ((tot_b (s := aS f) hv a (a + 1 + n)).2 (tS T) hS) (by omega)
          refine zev_go zkX6_findNewCorner [31, 77] 60 (iGe hz hT'.2.1 (by omega) (by omega) (fun q => absurd q (by omega)) (fun _ => ?_))
          have ez : z + 1 = nI (a + 1 + (n + 1)) := by rw [hz, nI_1]; rfl
          refine k_X8_areJoined hv hT' hy hz (by omega) (by omega) (fun j => cT ?_) (fun j => cF ?_)
          · unfold mst at ihI
            rw [if_pos j] at ihI
            exact ihI _ M' ez hfr hg e6 e7 hb
          · unfold mst at ihI
            rw [if_neg (by rw [j]; decide)] at ihI
            refine k_X6_totalWith hv hT' hg hy hz (by omega) (by omega) ?_
            have W : ∀ t, t = nI (tot T (aS f) a (a + 1 + n)) → (∀ z M', z = nI (a + 1 + (n + 1)) → frR 35 36 M M' → (∀ u v, u < tS T → v < tS T → M' 36 (u * 7 + v) = nI (dA T (aS f) u v)) → M' 35 6 = nI (10 * a + (a + 1 + n)) → M' 35 7 = nI (tot T (aS f) a (a + 1 + n)) → zEv fX6_findNewCorner Q 31 [(0, .ref 35), (1, .int y), (2, .int z)] [] M') → zEv fX6_findNewCorner Q 77 [(0, .ref 35), (1, .int y), (2, .int z), (3, .int t)] [] M' := by
              intro t ht K
              refine zev_go zkX6_findNewCorner [31] 60 (zev_pick [0, 1, 2] (K _ _ ez (frR_u (by omega) (by omega) (frR_u (by omega) (by omega) hfr)) (fun u v hu hv => ?_) ?_ ?_))
              · rw [zu_n _ _ _ (by decide), zu_n _ _ _ (by decide)]; exact hg u v hu hv
              · rw [zu_ne _ _ (by decide), zu_at]; exact a_add (a_mul n_10 hy) hz
              · rw [zu_at]; exact ht
            cases st with
            | none => exact bt_ e6 (W _ rfl (fun z M' ez hfr hg e6 e7 => ihI z M' ez hfr hg e6 e7 ⟨by omega, tb⟩))
            | some pt =>
              obtain ⟨p, t⟩ := pt
              have hb' : p < 100 ∧ t < 1000000 := hb
              refine bf_ (fun q => nI_m1 (p := p) (by omega) (e6.symm.trans q)) (iGe rfl e7 (by omega) (by omega) (fun c => ?_) (fun c => ?_))
              · dsimp only at ihI
                rw [if_neg (by omega)] at ihI
                exact zev_pick [0, 1, 2] (ihI _ M' ez hfr hg e6 e7 hb)
              · dsimp only at ihI
                rw [if_pos c] at ihI
                exact W _ rfl (fun z M' ez hfr hg e6 e7 => ihI z M' ez hfr hg e6 e7 ⟨by omega, tb⟩)
      exact I 0 (Nat.zero_le _) _ M' (by rw [hy, nI_1]) hfr hg e6 e7 hb
  refine L 0 (Nat.zero_le _) 0 _ n_0 (frR_u (by omega) (by omega) (frR_u (by omega) (by omega) (fun j hj => hM1 j (by omega)))) (fun u v hu hv => ?_) ?_ ?_ trivial
  · rw [zu_n _ _ _ (by decide), zu_n _ _ _ (by decide)]; exact hg1 u v hu hv
  · rw [zu_ne _ _ (by decide), zu_at]; rfl
  · rw [zu_at]; rfl
theorem kc_more {Q : Option Value → zM → Prop} {G : zG} {M : zM} {w : Int32} (hC : zC G M) (hV : zV G) (hq : ∀ M', zC G M' → frM M M' → Q (some (.int (o_more G w))) M') : zCon fX10_more [.ref 0, .int w] M Q := by
  obtain ⟨c1, c2, c3, c4, c5, c6, c7, c8, c9⟩ := id hC
  refine zc_of zkX10_more [] 60 (Nat.le_of_ble_eq_true rfl) ?_
  have bad : zout w 2 → Q (some (.int cOUT)) M := fun ho => by
    unfold o_more at hq; rw [ix_out (by omega) ho] at hq; exact hq M hC (fun _ _ => rfl)
  refine br (fun d => bad (outLe (n := 1) (by omega) (Or.inl d))) (fun d1 => nr (fun d2 => ?_) (fun d => bad (outLe (n := 1) (by omega) (Or.inr d))))
  obtain ⟨k, hk, ek⟩ := numLe (n := 1) (by omega) d1 d2
  unfold o_more at hq
  rw [show ix w 2 = some k by rw [ek]; exact ix_in hk (by omega)] at hq
  dsimp only at hq
  have e0 := c1.2.2.2.1
  by_cases z : tN (gT G) = 0
  · rw [if_pos z] at hq e0
    exact nf_ e0 (hq M hC (fun _ _ => rfl))
  · rw [if_neg z] at hq e0
    refine nt_ (by rw [e0]; decide) (k_X6_findNewCorner hV.1 c1 c2 hV.2.1 (fun M' hf e6 e7 => ?_))
    have h' := hq M' (zC_fr (fun k hk => hf k (by unfold zown1 at hk; omega)) hC) (fun k hk => hf k (by omega))
    generalize mo (gT G) (aS (gA G)) (tS (gT G)) = st at h' e6 e7
    refine iNe ek n_0 (by omega) (by decide) (fun d => ?_) (fun d => ?_)
    · cases st with
      | none => rw [show (-1 : Int32) = M' 35 7 from e7.symm] at h'; exact h'
      | some pt => obtain ⟨p, t⟩ := pt; dsimp only at h'; rw [if_neg d, show nI t = M' 35 7 from e7.symm] at h'; exact h'
    · cases st with
      | none => rw [show (-1 : Int32) = M' 35 6 from e6.symm] at h'; exact h'
      | some pt => obtain ⟨p, t⟩ := pt; dsimp only at h'; rw [if_pos d, show nI p = M' 35 6 from e6.symm] at h'; exact h'
