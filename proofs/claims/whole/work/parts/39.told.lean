/-! feuds, everywhere, blame, told -/
def sm (f : Nat → Nat) : Nat → Nat
  | 0 => 0
  | n + 1 => sm f n + f n
theorem sm_cong {f g : Nat → Nat} : ∀ {n : Nat}, (∀ k, k < n → f k = g k) → sm f n = sm g n
  | 0, _ => rfl
  | n + 1, h => by
    show sm f n + f n = sm g n + g n
    rw [sm_cong (fun k hk => h k (by omega)), h n (by omega)]
theorem sm_shift (f : Nat → Nat) : ∀ n, sm f (n + 1) = f 0 + sm (fun k => f (k + 1)) n
  | 0 => by show 0 + f 0 = f 0 + 0; omega
  | n + 1 => by
    show sm f (n + 1) + f (n + 1) = f 0 + (sm (fun k => f (k + 1)) n + f (n + 1))
    rw [sm_shift f n]; omega
theorem sm_rev (f : Nat → Nat) : ∀ n, sm (fun k => f (n - 1 - k)) n = sm f n := by
  intro n
  induction n generalizing f with
  | zero => rfl
  | succ n ih =>
    rw [sm_shift f n]
    show sm (fun k => f (n + 1 - 1 - k)) n + f (n + 1 - 1 - n) = _
    rw [show n + 1 - 1 - n = 0 by omega, ← ih (fun k => f (k + 1)), Nat.add_comm]
    congr 1
    apply sm_cong
    intro k hk
    exact congrArg f (by omega)
theorem sm_le {f : Nat → Nat} {c : Nat} : ∀ {n : Nat}, (∀ k, k < n → f k ≤ c) → sm f n ≤ n * c
  | 0, _ => by show 0 ≤ _; omega
  | n + 1, h => by
    have h1 := sm_le (f := f) (c := c) (n := n) (fun k hk => h k (by omega))
    have h2 := h n (by omega)
    show sm f n + f n ≤ (n + 1) * c
    rw [Nat.succ_mul]; omega
theorem pc_le (s : Nat) : ∀ n, pc s n ≤ n
  | 0 => Nat.le_refl 0
  | n + 1 => by
    have := pc_le s n
    show pc s n + (s.testBit n).toNat ≤ n + 1
    have h2 : (s.testBit n).toNat ≤ 1 := by cases s.testBit n <;> decide
    omega
theorem pc_0 : ∀ n, pc 0 n = 0
  | 0 => rfl
  | n + 1 => by show pc 0 n + ((0 : Nat).testBit n).toNat = 0; rw [pc_0 n, Nat.zero_testBit]; rfl
def o_feuds (T : zTn) (a : zAf) : Nat := sm (fun x => pc (aFe a x) 10) (tS T) / 2
theorem feuds_7 {T : zTn} {a : zAf} (hv : zTv T) (ha : vA T a) : sm (fun x => pc (aFe a x) 10) 7 = sm (fun x => pc (aFe a x) 10) (tS T) := by
  have hS := zTv_S hv
  have L : ∀ n, tS T ≤ n → n ≤ 7 → sm (fun x => pc (aFe a x) 10) n = sm (fun x => pc (aFe a x) 10) (tS T) := by
    intro n
    induction n with
    | zero => intro h1 h2; have : tS T = 0 := by omega
              rw [this]
    | succ n ih =>
      intro h1 h2
      by_cases q : tS T = n + 1
      · rw [q]
      · show sm _ n + pc (aFe a n) 10 = _
        rw [(ha.2.2.2.2.2.1 n (by omega)).2 (by omega), pc_0, ih (by omega) (by omega)]
        rfl
  exact L 7 hS (Nat.le_refl 7)
theorem k_X0_countFeuds {Q : Option Value → zM → Prop} {M : zM} {T : zTn} {a : zAf} (hv : zTv T) (ha : cA T a (M 22)) (hva : vA T a) (h : Q (some (.int (nI (o_feuds T a)))) M) : zCon fX0_countFeuds [.ref 21] M Q := by
  have L : ∀ i, i ≤ 7 → ∀ x y, x = nI i → y = nI (sm (fun x => pc (aFe a x) 10) i) → zEv fX0_countFeuds Q 4 [(0, .ref 21), (1, .int y), (2, .int x)] [] M := by
    refine zloop 7 ?_ ?_
    · intro x y hx hy
      refine zev_go zkX0_countFeuds [4] 60 (iGe hx n_7 (by omega) (by decide) (fun _ => ⟨by decide, ?_⟩) (fun q => absurd q (by omega)))
      rw [feuds_7 hv hva] at hy
      have hb : sm (fun x => pc (aFe a x) 10) (tS T) ≤ tS T * 10 := sm_le (fun k hk => pc_le _ _)
      have hS := zTv_S hv
      rw [a_div hy n_2 (by omega) (by omega) (by omega)]
      exact h
    · intro i hi ih x y hx hy
      refine zev_go zkX0_countFeuds [4] 60 (iGe hx n_7 (by omega) (by decide) (fun q => absurd q (by omega)) (fun _ => ?_))
      refine zix (11 + i) (a_add rfl hx) (show 11 + i < 108 by omega) (k_bitCount ?_)
      have hF := vA_F hv hva hi
      exact ih _ _ (by rw [hx, nI_1]) (by rw [ha.2.2.2.2.2.1 i hi, bc_pc _ (by omega), hy, nI_add]; rfl)
  exact zc_of zkX0_countFeuds [4] 60 (Nat.le_of_ble_eq_true rfl) (L 0 (by omega) 0 0 rfl rfl)
theorem k_X11_feuds {Q : Option Value → zM → Prop} {M : zM} {T : zTn} {a : zAf} (hv : zTv T) (hT : zTm T M) (ha : mA T a (M 56)) (hva : vA T a) (h : Q (some (.int (nI (o_feuds T a)))) M) : zCon fX11_feuds [.ref 47] M Q := by
  have hS := zTv_S hv
  have L : ∀ i, i ≤ tS T → ∀ x y, x = nI i → y = nI (sm (fun x => pc (aFe a x) 10) i) → zEv fX11_feuds Q 4 [(0, .ref 47), (1, .int y), (2, .int x)] [] M := by
    refine zloop (tS T) ?_ ?_
    · intro x y hx hy
      refine zev_go zkX11_feuds [4] 60 (iGe hx hT.2.1 (by omega) (by omega) (fun _ => ⟨by decide, ?_⟩) (fun q => absurd q (by omega)))
      have hb : sm (fun x => pc (aFe a x) 10) (tS T) ≤ tS T * 10 := sm_le (fun k hk => pc_le _ _)
      rw [a_div hy n_2 (by omega) (by omega) (by omega)]
      exact h
    · intro i hi ih x y hx hy
      refine zev_go zkX11_feuds [4] 60 (iGe hx hT.2.1 (by omega) (by omega) (fun q => absurd q (by omega)) (fun _ => ?_))
      have hF := vA_F hv hva (x := i) (by omega)
      refine zix (18 + i) (a_add rfl hx) (show 18 + i < 88 by omega) (k_X11_bits (ha.2.2.2.2.2.1 i (by omega)) (by omega) ?_)
      exact ih _ _ (by rw [hx, nI_1]) (by rw [hy, nI_add]; rfl)
  exact zc_of zkX11_feuds [4] 60 (Nat.le_of_ble_eq_true rfl) (L 0 (by omega) 0 0 rfl rfl)
def allB (p : Nat → Bool) : Nat → Bool
  | 0 => true
  | n + 1 => allB p n && p n
theorem allB_false {p : Nat → Bool} {i : Nat} (h : p i = false) : ∀ {n : Nat}, i < n → allB p n = false
  | 0, hi => absurd hi (Nat.not_lt_zero i)
  | n + 1, hi => by
    show (allB p n && p n) = false
    by_cases q : i = n
    · rw [← q, h, Bool.and_false]
    · rw [allB_false h (by omega), Bool.false_and]
def bset (p : Nat → Bool) : Nat → Nat
  | 0 => 0
  | n + 1 => bif p n then bset p n ||| 2 ^ n else bset p n
theorem bset_lt (p : Nat → Bool) : ∀ n, bset p n < 2 ^ n
  | 0 => by show 0 < 1; omega
  | n + 1 => by
    have h := bset_lt p n
    have h2 : bset p n < 2 ^ (n + 1) := Nat.lt_trans h (Nat.pow_lt_pow_right (by omega) (by omega))
    show (bif p n then bset p n ||| 2 ^ n else bset p n) < _
    cases p n with
    | true => exact set_lt h2 (by omega)
    | false => exact h2
def stays (T : zTn) (a : zAf) (w i : Nat) : Bool := Nat.beq (ovr T a i false w) w && Nat.beq (ovr T a i true w) w
def o_every (T : zTn) (a : zAf) : Nat := bset (fun w => allB (stays T a w) (tC T)) (tN T)
theorem k_X2_stays {Q : Option Value → zM → Prop} {M : zM} {T : zTn} {a : zAf} {y : Int32} {w : Nat} (hv : zTv T) (hT : zTc T M) (ha : cA T a (M 22)) (hva : vA T a) (hy : y = nI w) (hw : w < tN T) (h1 : allB (stays T a w) (tC T) = true → Q (some (.int 1)) M) (h0 : allB (stays T a w) (tC T) = false → Q (some (.int 0)) M) : zCon fX2_staysEverywhere [.ref 27, .int y] M Q := by
  have hN := zTv_N hv
  have hC := zTv_C hv
  have L : ∀ i, i ≤ tC T → ∀ x, x = nI i → allB (stays T a w) i = true → zEv fX2_staysEverywhere Q 2 [(0, .ref 27), (1, .int y), (2, .int x)] [] M := by
    refine zloop (tC T) ?_ ?_
    · intro x hx hal
      exact zev_go zkX2_staysEverywhere [2] 60 (iGe hx hT.2.2.1 (by omega) (by omega) (fun _ => ⟨Or.inr rfl, h1 hal⟩) (fun q => absurd q (by omega)))
    · intro i hi ih x hx hal
      refine zev_go zkX2_staysEverywhere [2] 60 (iGe hx hT.2.2.1 (by omega) (by omega) (fun q => absurd q (by omega)) (fun _ => ?_))
      have l1 := ovr_lt (a := a) (b := false) hv hi hw
      have l2 := ovr_lt (a := a) (b := true) hv hi hw
      refine k_X2_wordOver (b := false) hv hT ha hva hx hi hy hw ?_
      refine iNe rfl hy (by omega) (by omega) (fun c => ⟨Or.inl rfl, h0 (allB_false ?_ hi)⟩) (fun c => ?_)
      · unfold stays; rw [beqF c, Bool.false_and]
      · refine k_X2_wordOver (b := true) hv hT ha hva hx hi hy hw ?_
        refine iEq rfl hy (by omega) (by omega) (fun d => ?_) (fun d => ⟨Or.inl rfl, h0 (allB_false ?_ hi)⟩)
        · refine ih _ (by rw [hx, nI_1]) ?_
          show (allB (stays T a w) i && stays T a w i) = true
          rw [hal]; unfold stays; rw [beqT c, beqT d]; rfl
        · unfold stays; rw [beqF d, Bool.and_false]
  exact zc_of zkX2_staysEverywhere [2] 60 (Nat.le_of_ble_eq_true rfl) (L 0 (by omega) 0 rfl rfl)
theorem k_X2_everywhere {Q : Option Value → zM → Prop} {M : zM} {T : zTn} {a : zAf} (hv : zTv T) (hT : zTc T M) (ha : cA T a (M 22)) (hva : vA T a) (h : Q (some (.int (nI (o_every T a)))) M) : zCon fX2_everywhere [.ref 27] M Q := by
  have hN := zTv_N hv
  have L : ∀ w, w ≤ tN T → ∀ x y, x = nI w → y = nI (bset (fun w => allB (stays T a w) (tC T)) w) → zEv fX2_everywhere Q 4 [(0, .ref 27), (1, .int y), (2, .int x)] [] M := by
    refine zloop (tN T) ?_ ?_
    · intro x y hx hy
      refine zev_go zkX2_everywhere [4] 60 (iGe hx hT.1 (by omega) (by omega) (fun _ => ?_) (fun q => absurd q (by omega)))
      have h' := h
      unfold o_every at h'
      rw [← hy] at h'
      exact h'
    · intro w hw ih x y hx hy
      refine zev_go zkX2_everywhere [4] 60 (iGe hx hT.1 (by omega) (by omega) (fun q => absurd q (by omega)) (fun _ => ?_))
      refine k_X2_stays hv hT ha hva hx hw (fun q => bT ?_) (fun q => bF ?_)
      · refine ih _ _ (by rw [hx, nI_1]) ?_
        rw [a_set hy hx (by omega)]
        show _ = nI (bif allB (stays T a w) (tC T) then _ else _)
        rw [q]; rfl
      · refine ih _ _ (by rw [hx, nI_1]) ?_
        show _ = nI (bif allB (stays T a w) (tC T) then _ else _)
        rw [q]; exact hy
  exact zc_of zkX2_everywhere [4] 60 (Nat.le_of_ble_eq_true rfl) (L 0 (by omega) 0 0 rfl rfl)
theorem k_X11_everywhere {Q : Option Value → zM → Prop} {M : zM} {T : zTn} {a : zAf} (hv : zTv T) (hT : zTm T M) (ha : mA T a (M 56)) (hva : vA T a) (h : Q (some (.int (nI (o_every T a)))) M) : zCon fX11_everywhere [.ref 47] M Q := by
  have hN := zTv_N hv
  have hC := zTv_C hv
  have L : ∀ w, w ≤ tN T → ∀ x y, x = nI w → y = nI (bset (fun w => allB (stays T a w) (tC T)) w) → zEv fX11_everywhere Q 4 [(0, .ref 47), (1, .int y), (2, .int x)] [] M := by
    refine zloop (tN T) ?_ ?_
    · intro x y hx hy
      refine zev_go zkX11_everywhere [4] 60 (iGe hx hT.1 (by omega) (by omega) (fun _ => ?_) (fun q => absurd q (by omega)))
      have h' := h
      unfold o_every at h'
      rw [← hy] at h'
      exact h'
    · intro w hw ih x y hx hy
      refine zev_go zkX11_everywhere [17] 60 (iGe hx hT.1 (by omega) (by omega) (fun q => absurd q (by omega)) (fun _ => ?_))
      have I : ∀ i, i ≤ tC T → ∀ z, z = nI i → ∀ b, b = allB (stays T a w) i → zEv fX11_everywhere Q 17 [(0, .ref 47), (1, .int y), (2, .int x), (3, .int (zbl b)), (4, .int z)] [] M := by
        refine zloop (tC T) ?_ ?_
        · intro z hz b hb
          refine zev_go zkX11_everywhere [4] 60 (iGe hz hT.2.2.1 (by omega) (by omega) (fun _ => ?_) (fun q => absurd q (by omega)))
          cases b with
          | true =>
            refine bT (zev_pick [0, 1, 2] (ih _ _ (by rw [hx, nI_1]) ?_))
            rw [a_set hy hx (by omega)]
            show _ = nI (bif allB (stays T a w) (tC T) then _ else _)
            rw [← hb]; rfl
          | false =>
            refine bF (zev_pick [0, 1, 2] (ih _ _ (by rw [hx, nI_1]) ?_))
            rw [a_or hy n_0, Nat.or_zero]
            show _ = nI (bif allB (stays T a w) (tC T) then _ else _)
            rw [← hb]; rfl
        · intro i hi ihI z hz b hb
          refine zev_go zkX11_everywhere [17] 60 (iGe hz hT.2.2.1 (by omega) (by omega) (fun q => absurd q (by omega)) (fun _ => ?_))
          have l1 := ovr_lt (a := a) (b := false) hv hi hw
          have l2 := ovr_lt (a := a) (b := true) hv hi hw
          have fin : ∀ c, c = (b && stays T a w i) → zEv fX11_everywhere Q 17 [(0, .ref 47), (1, .int y), (2, .int x), (3, .int (zbl c)), (4, .int (z + 1))] [] M := by
            intro c hc
            refine ihI _ (by rw [hz, nI_1]) c ?_
            rw [hc, hb]; rfl
          cases b with
          | false => exact bF (fin false rfl)
          | true =>
            refine bT (k_X11_overAt (b := false) hv hT ha hva hz hi hx hw ?_)
            refine iNe rfl hx (by omega) (by omega) (fun c => fin false (by unfold stays; rw [beqF c]; rfl)) (fun c => ?_)
            refine k_X11_overAt (b := true) hv hT ha hva hz hi hx hw ?_
            refine iNe rfl hx (by omega) (by omega) (fun d => fin false (by unfold stays; rw [beqF d, Bool.and_false]; rfl)) (fun d => fin true (by unfold stays; rw [beqT c, beqT d]; rfl))
      exact I 0 (by omega) 0 rfl true rfl
  exact zc_of zkX11_everywhere [4] 60 (Nat.le_of_ble_eq_true rfl) (L 0 (by omega) 0 0 rfl rfl)
