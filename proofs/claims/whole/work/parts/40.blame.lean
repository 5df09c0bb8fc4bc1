/-! blame, told -/
def insB (T : zTn) (a : zAf) (w e : Nat) : Nat := (Nat.beq (tI T (a.2 4 e)) w && hd w 4 (a.2 6 e)).toNat
def insN (T : zTn) (a : zAf) (w : Nat) : Nat := sm (insB T a w) (aL a)
/-- the first greatest: so far (best, most) -/
def bst (f : Nat → Nat) : Nat → Int32 × Nat
  | 0 => (-1, 0)
  | n + 1 => if (bst f n).2 < f n then (nI n, f n) else bst f n
def o_blame (T : zTn) (a : zAf) : Int32 := (bst (insN T a) (tN T)).1
theorem insB_le (T : zTn) (a : zAf) (w e : Nat) : insB T a w e ≤ 1 := by unfold insB; cases (Nat.beq (tI T (a.2 4 e)) w && hd w 4 (a.2 6 e)) <;> decide
theorem insN_le {T : zTn} {a : zAf} (w : Nat) (h : aL a ≤ 20) : insN T a w ≤ 20 := by
  have : insN T a w ≤ aL a * 1 := sm_le (fun k _ => insB_le T a w k)
  omega
theorem bst_le {f : Nat → Nat} {c : Nat} (h : ∀ k, f k ≤ c) : ∀ n, (bst f n).2 ≤ c
  | 0 => Nat.zero_le _
  | n + 1 => by
    unfold bst
    split
    · exact h n
    · exact bst_le h n
theorem k_X0_countInsults {Q : Option Value → zM → Prop} {M : zM} {T : zTn} {a : zAf} {y : Int32} {w : Nat} (hv : zTv T) (hT : zTc T M) (ha : cA T a (M 22)) (hva : vA T a) (hy : y = nI w) (hw : w < tN T) (h : Q (some (.int (nI (insN T a w)))) M) : zCon fX0_countInsults [.ref 21, .ref 1, .int y] M Q := by
  have hN := zTv_N hv
  have hS := zTv_S hv
  have hL := hva.2.2.2.1
  have L : ∀ e, e ≤ aL a → ∀ x n, x = nI e → n = nI (sm (insB T a w) e) → zEv fX0_countInsults Q 5 [(0, .ref 21), (1, .ref 1), (2, .int y), (3, .int n), (4, .int x)] [] M := by
    refine zloop (aL a) ?_ ?_
    · intro x n hx hn
      refine zev_go zkX0_countInsults [5] 60 (k_X0_logCount ?_)
      refine iGe hx ha.2.2.2.1 (by omega) (by omega) (fun _ => ?_) (fun q => absurd q (by omega))
      have h' := h
      unfold insN at h'
      rw [← hn] at h'
      exact h'
    · intro e he ih x n hx hn
      obtain ⟨w1, w2, w3, w4⟩ := hva.2.2.2.2.2.2.2.1 e he
      have hI := zTv_a hv w2
      have eT := hT.2.2.2.2.1 _ w2
      refine zev_go zkX0_countInsults [5] 60 (k_X0_logCount ?_)
      refine iGe hx ha.2.2.2.1 (by omega) (by omega) (fun q => absurd q (by omega)) (fun _ => ?_)
      refine k_X0_logEntry hx n_1 (by omega) (by omega) ?_
      have e1 := ha.2.2.2.2.2.2.2 e he 1 (by omega)
      have e3 := ha.2.2.2.2.2.2.2 e he 3 (by omega)
      refine k_X8_hasStreet (by omega) hT.2.1 (fun j hj ej => bT ?_) (fun ho => absurd e1 (ho _ w2))
      have ej2 : a.2 4 e = j := (nI_eq (by omega) (by omega)).mp (e1.symm.trans ej)
      refine zix (a.2 4 e) e1 (show a.2 4 e < 7 by omega) ?_
      have fin : ∀ v, v = n + nI (insB T a w e) → zEv fX0_countInsults Q 5 [(0, .ref 21), (1, .ref 1), (2, .int y), (3, .int v), (4, .int (x + 1))] [] M := by
        intro v hv2
        refine ih _ _ (by rw [hx, nI_1]) ?_
        rw [hv2, hn, nI_add]; rfl
      have z0 : insB T a w e = 0 → zEv fX0_countInsults Q 5 [(0, .ref 21), (1, .ref 1), (2, .int y), (3, .int n), (4, .int (x + 1))] [] M := fun q => fin n (by rw [q, hn, nI_add, Nat.add_zero])
      refine iNe eT hy (by omega) (by omega) (fun c => zev_pick [0, 1, 2, 3, 4] (z0 ?_)) (fun c => ?_)
      · unfold insB; rw [beqF c]; rfl
      · refine k_X0_logEntry hx n_3 (by omega) (by omega) ?_
        refine k_X10_holdsWord e3 hy (show a.2 6 e < 2 ^ 30 by omega) (by omega) (fun q => bT (zev_pick [0, 1, 2, 3, 4] (fin _ ?_))) (fun q => bF (zev_pick [0, 1, 2, 3, 4] (z0 ?_)))
        · have : insB T a w e = 1 := by unfold insB; rw [beqT c]; rw [show hd w 4 (a.2 6 e) = true from q]; rfl
          rw [this]; rfl
        · unfold insB; rw [show hd w 4 (a.2 6 e) = false from q, Bool.and_false]; rfl
  exact zc_of zkX0_countInsults [5] 60 (Nat.le_of_ble_eq_true rfl) (L 0 (by omega) 0 0 rfl rfl)
theorem k_X0_blame {Q : Option Value → zM → Prop} {M : zM} {T : zTn} {a : zAf} (hv : zTv T) (hT : zTc T M) (ha : cA T a (M 22)) (hva : vA T a) (h : Q (some (.int (o_blame T a))) M) : zCon fX0_blame [.ref 21, .ref 1] M Q := by
  have hN := zTv_N hv
  have hL := hva.2.2.2.1
  have L : ∀ w, w ≤ tN T → ∀ x b n, x = nI w → b = (bst (insN T a) w).1 → n = nI (bst (insN T a) w).2 → zEv fX0_blame Q 7 [(0, .ref 21), (1, .ref 1), (2, .int b), (3, .int n), (4, .int x)] [] M := by
    refine zloop (tN T) ?_ ?_
    · intro x b n hx hb hn
      refine zev_go zkX0_blame [7] 60 (iGe hx hT.1 (by omega) (by omega) (fun _ => ?_) (fun q => absurd q (by omega)))
      have h' := h
      unfold o_blame at h'
      rw [← hb] at h'
      exact h'
    · intro w hw ih x b n hx hb hn
      have l1 := insN_le (T := T) (a := a) w hL
      have l2 := bst_le (fun k => insN_le (T := T) (a := a) k hL) w
      refine zev_go zkX0_blame [7] 60 (iGe hx hT.1 (by omega) (by omega) (fun q => absurd q (by omega)) (fun _ => ?_))
      refine k_X0_countInsults hv hT ha hva hx hw ?_
      refine iGe hn rfl (by omega) (by omega) (fun c => zev_pick [0, 1, 2, 3, 4] (ih _ _ _ (by rw [hx, nI_1]) ?_ ?_)) (fun c => zev_pick [0, 1, 2, 3, 4] (ih _ _ _ (by rw [hx, nI_1]) ?_ ?_))
      · unfold bst; rw [if_neg (by omega)]; exact hb
      · unfold bst; rw [if_neg (by omega)]; exact hn
      · unfold bst; rw [if_pos c]; exact hx
      · unfold bst; rw [if_pos c]
  exact zc_of zkX0_blame [7] 60 (Nat.le_of_ble_eq_true rfl) (L 0 (by omega) 0 (-1) 0 rfl rfl rfl)
theorem k_X11_blame {Q : Option Value → zM → Prop} {M : zM} {T : zTn} {a : zAf} (hv : zTv T) (hT : zTm T M) (ha : mA T a (M 56)) (hva : vA T a) (h : ∀ g, Q (some (.int (o_blame T a))) (zset M 66 g)) : zCon fX11_blame [.ref 47] M Q := by
  have hN := zTv_N hv
  have hS := zTv_S hv
  have hL := hva.2.2.2.1
  -- the last loop
  have L3 : ∀ g, (∀ w, w < tN T → g w = nI (insN T a w)) → ∀ w, w ≤ tN T → ∀ x b n, x = nI w → b = (bst (insN T a) w).1 → n = nI (bst (insN T a) w).2 → zEv fX11_blame Q 97 [(0, .ref 47), (1, .int b), (2, .int n), (3, .int x)] [] (zset M 66 g) := by
    intro g hg
    refine zloop (tN T) ?_ ?_
    · intro x b n hx hb hn
      refine zev_go zkX11_blame [97] 60 (iGe hx hT.1 (by omega) (by omega) (fun _ => ?_) (fun q => absurd q (by omega)))
      have h' := h g
      unfold o_blame at h'
      rw [← hb] at h'
      exact h'
    · intro w hw ih x b n hx hb hn
      have l1 := insN_le (T := T) (a := a) w hL
      have l2 := bst_le (fun k => insN_le (T := T) (a := a) k hL) w
      have eg : (zset M 66 g) 66 w = nI (insN T a w) := by rw [zset_s]; exact hg w hw
      refine zev_go zkX11_blame [97] 60 (iGe hx hT.1 (by omega) (by omega) (fun q => absurd q (by omega)) (fun _ => ?_))
      refine zix w hx (show w < 9 by omega) ?_
      refine iGe hn eg (by omega) (by omega) (fun c => ?_) (fun c => ?_)
      · refine zix w hx (show w < 9 by omega) (iGe hn eg (by omega) (by omega) (fun _ => ?_) (fun q => absurd q (by omega)))
        refine ih _ _ _ (by rw [hx, nI_1]) ?_ ?_
        · unfold bst; rw [if_neg (by omega)]; exact hb
        · unfold bst; rw [if_neg (by omega)]; exact hn
      · refine zix w hx (show w < 9 by omega) (iGe hn eg (by omega) (by omega) (fun q => absurd q (by omega)) (fun _ => zix w hx (show w < 9 by omega) ?_))
        refine ih _ _ _ (by rw [hx, nI_1]) ?_ ?_
        · unfold bst; rw [if_pos c]; exact hx
        · unfold bst; rw [if_pos c]; exact eg
  -- the middle loop: the oldest first
  have L2 : ∀ k, k ≤ aL a → ∀ x g, x = nI k → (∀ w, w < 9 → g w = nI (sm (fun k => insB T a w (aL a - 1 - k)) k)) → zEv fX11_blame Q 27 [(0, .ref 47), (1, .int (-1)), (2, .int 0), (3, .int x)] [] (zset M 66 g) := by
    refine zloop (aL a) ?_ ?_
    · intro x g hx hg
      refine zev_go zkX11_blame [97] 60 (zix 27 rfl (by decide) (iGe hx ha.2.2.2.1 (by omega) (by omega) (fun _ => ?_) (fun q => absurd q (by omega))))
      refine L3 g (fun w hw => ?_) 0 (by omega) 0 (-1) 0 rfl rfl rfl
      rw [hg w (by omega), sm_rev (insB T a w) (aL a)]; rfl
    · intro k hk ih x g hx hg
      obtain ⟨w1, w2, w3, w4⟩ := hva.2.2.2.2.2.2.2.1 (aL a - 1 - k) (by omega)
      obtain ⟨q1, q2, q3⟩ := ha.2.2.2.2.2.2.2 (aL a - 1 - k) (by omega)
      rw [show aL a - 1 - (aL a - 1 - k) = k by omega] at q1 q2 q3
      have hI := zTv_a hv w2
      have eT := hT.2.2.2.1 _ w2
      refine zev_go zkX11_blame [27] 60 (zix 27 rfl (by decide) (iGe hx ha.2.2.2.1 (by omega) (by omega) (fun q => absurd q (by omega)) (fun _ => ?_)))
      refine zix (28 + k) (a_add rfl hx) (show 28 + k < 88 by omega) ⟨by decide, ?_⟩
      have er : zrem (M 56 (28 + k)) 10 = nI (a.2 4 (aL a - 1 - k)) := by rw [a_rem q1 n_10 (by omega) (by omega) (by omega)]; congr 1; omega
      refine zix (a.2 4 (aL a - 1 - k)) er (show a.2 4 (aL a - 1 - k) < 7 by omega) ?_
      have hc : (zset M 66 g) 66 (tI T (a.2 4 (aL a - 1 - k))) = nI (sm (fun kk => insB T a (tI T (a.2 4 (aL a - 1 - k))) (aL a - 1 - kk)) k) := by rw [zset_s]; exact hg _ (by omega)
      refine zix (tI T (a.2 4 (aL a - 1 - k))) eT (show tI T (a.2 4 (aL a - 1 - k)) < 9 by omega) ?_
      refine zix (68 + k) (a_add rfl hx) (show 68 + k < 88 by omega) ?_
      have fin : ∀ v : Nat, v = (hd (tI T (a.2 4 (aL a - 1 - k))) 4 (a.2 6 (aL a - 1 - k))).toNat → ∀ y, y = nI v → zEv fX11_blame Q 27 [(0, .ref 47), (1, .int (-1)), (2, .int 0), (3, .int (x + 1))] [] (zu (zset M 66 g) 66 (tI T (a.2 4 (aL a - 1 - k))) ((zset M 66 g) 66 (tI T (a.2 4 (aL a - 1 - k))) + y)) := by
        intro v hvv y hy
        rw [a_add hc hy]
        have e : ∀ z, zu (zset M 66 g) 66 (tI T (a.2 4 (aL a - 1 - k))) z = zset M 66 (upd g (tI T (a.2 4 (aL a - 1 - k))) z) := fun z => by unfold zu; rw [zset_s, zset_u]
        rw [e]
        refine ih _ _ (by rw [hx, nI_1]) (fun w hw => ?_)
        show _ = nI (sm _ k + insB T a w (aL a - 1 - k))
        by_cases c : w = tI T (a.2 4 (aL a - 1 - k))
        · subst c
          rw [pk_us, hvv]
          unfold insB
          rw [beqT rfl, Bool.true_and]
        · rw [pk_un c, hg w hw]
          unfold insB
          rw [beqF (fun q => c q.symm)]
          rfl
      refine k_X11_hasWord q3 eT (by omega) (by omega) (fun q => bT (zix (tI T (a.2 4 (aL a - 1 - k))) eT (show tI T (a.2 4 (aL a - 1 - k)) < 9 by omega) ?_)) (fun q => bF (zix (tI T (a.2 4 (aL a - 1 - k))) eT (show tI T (a.2 4 (aL a - 1 - k)) < 9 by omega) ?_))
      · exact zev_pick [0, 1, 2, 3] (fin 1 (by rw [q]; rfl) 1 rfl)
      · exact zev_pick [0, 1, 2, 3] (fin 0 (by rw [q]; rfl) 0 rfl)
  -- the first loop
  have L1 : ∀ k, k ≤ 9 → ∀ x, x = nI k → zEv fX11_blame Q 2 [(0, .ref 47), (1, .int x)] [] (zset M 66 (zfill (M 66) k 0)) := by
    refine zloop 9 ?_ ?_
    · intro x hx
      refine zev_go zkX11_blame [27] 60 (iGe hx n_9 (by omega) (by decide) (fun _ => ?_) (fun q => absurd q (by omega)))
      refine L2 0 (by omega) 0 _ rfl (fun w hw => ?_)
      unfold zfill; rw [if_pos hw]; rfl
    · intro k hk ih x hx
      refine zev_go zkX11_blame [2] 60 (iGe hx n_9 (by omega) (by decide) (fun q => absurd q (by omega)) (fun _ => zix k hx hk ?_))
      rw [zfill_s]
      exact ih _ (by rw [hx, nI_1])
  refine zc_of zkX11_blame [2] 60 (Nat.le_of_ble_eq_true rfl) ?_
  rw [zfill_0 M 66 0]
  exact L1 0 (by omega) 0 rfl
