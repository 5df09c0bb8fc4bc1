/-! cuts -/
theorem bset_tb (p : Nat → Bool) (i : Nat) : ∀ n, (bset p n).testBit i = (decide (i < n) && p i)
  | 0 => by show (0 : Nat).testBit i = _; simp
  | n + 1 => by
    rw [bset_s]
    have ih := bset_tb p i n
    cases q : p n with
    | true =>
      show (bset p n ||| 2 ^ n).testBit i = _
      rw [set_tb, ih]
      by_cases c : i = n
      · subst c; simp [q]
      · by_cases d : i < n
        · have : i < n + 1 := by omega
          simp [c, d, this]
        · have : ¬ i < n + 1 := by omega
          simp [c, d, this]
    | false =>
      show (bset p n).testBit i = _
      rw [ih]
      by_cases c : i = n
      · subst c; simp [q]
      · by_cases d : i < n
        · have : i < n + 1 := by omega
          simp [d, this]
        · have : ¬ i < n + 1 := by omega
          simp [d, this]
def key (s : Nat) : Nat := pc s 10 * 1024 + s
theorem pc_sub {s t : Nat} (h : ∀ i, s.testBit i = true → t.testBit i = true) : ∀ n, pc s n ≤ pc t n
  | 0 => Nat.le_refl _
  | n + 1 => by
    have ih := pc_sub h n
    show pc s n + (s.testBit n).toNat ≤ pc t n + (t.testBit n).toNat
    cases q : s.testBit n with
    | false => show pc s n + 0 ≤ _; omega
    | true => rw [h n q]; show pc s n + 1 ≤ pc t n + 1; omega
theorem sub_le {s t : Nat} (h : ∀ i, s.testBit i = true → t.testBit i = true) : s ≤ t := by
  have e : s &&& t = s := by
    apply Nat.eq_of_testBit_eq
    intro i
    rw [Nat.testBit_and]
    cases q : s.testBit i with
    | false => rfl
    | true => rw [h i q]; rfl
  rw [← e]
  exact Nat.and_le_right
theorem key_sub {s t : Nat} (h : ∀ i, s.testBit i = true → t.testBit i = true) : key s ≤ key t := by
  have a := pc_sub h 10
  have b := sub_le h
  unfold key
  omega
theorem key_inj {s t : Nat} (hs : s < 1024) (ht : t < 1024) (h : key s = key t) : s = t := by
  unfold key at h
  omega
def bnd (T : zTn) (f : zAf) (σ : Nat) : Nat := bset (fun i => (!((aS f).testBit i)) && (σ.testBit (tA T i) != σ.testBit (tB T i))) (tC T)
theorem bnd_lt {T : zTn} {f : zAf} {σ : Nat} (hv : zTv T) : bnd T f σ < 1024 := Nat.lt_of_lt_of_le (bset_lt _ _) (Nat.pow_le_pow_right (by omega) (zTv_C hv))
def okD (a b σ : Nat) : Bool := σ.testBit a && !(σ.testBit b)
def cutF (T : zTn) (f : zAf) (a b : Nat) : Nat → Option Nat
  | 0 => none
  | n + 1 => bif okD a b n then (match cutF T f a b n with
      | none => some (bnd T f n)
      | some r => if key (bnd T f n) < key r then some (bnd T f n) else some r) else cutF T f a b n
theorem cutF_s (T : zTn) (f : zAf) (a b n : Nat) : cutF T f a b (n + 1) = bif okD a b n then (match cutF T f a b n with
      | none => some (bnd T f n)
      | some r => if key (bnd T f n) < key r then some (bnd T f n) else some r) else cutF T f a b n := rfl
theorem cutF_ok {T : zTn} {f : zAf} {a b : Nat} : ∀ n, (∀ r, cutF T f a b n = some r → (∃ σ, σ < n ∧ okD a b σ = true ∧ r = bnd T f σ) ∧ ∀ σ, σ < n → okD a b σ = true → key r ≤ key (bnd T f σ)) ∧ (cutF T f a b n = none → ∀ σ, σ < n → okD a b σ = false)
  | 0 => ⟨fun r h => (by cases h), fun _ σ h => absurd h (by omega)⟩
  | n + 1 => by
    have ih := cutF_ok (T := T) (f := f) (a := a) (b := b) n
    rw [cutF_s]
    cases q : okD a b n with
    | false =>
      rw [cond_false]
      refine ⟨fun r h => ?_, fun h σ hs => ?_⟩
      · obtain ⟨⟨σ, s1, s2, s3⟩, h2⟩ := ih.1 r h
        refine ⟨⟨σ, by omega, s2, s3⟩, fun σ' h3 h4 => ?_⟩
        by_cases c : σ' = n
        · rw [c, q] at h4; cases h4
        · exact h2 σ' (by omega) h4
      · by_cases c : σ = n
        · rw [c]; exact q
        · exact ih.2 h σ (by omega)
    | true =>
      rw [cond_true]
      cases e : cutF T f a b n with
      | none =>
        refine ⟨fun r h => ?_, fun h => by cases h⟩
        cases h
        refine ⟨⟨n, by omega, q, rfl⟩, fun σ h3 h4 => ?_⟩
        by_cases c : σ = n
        · rw [c]; exact Nat.le_refl _
        · have := ih.2 e σ (by omega)
          rw [this] at h4; cases h4
      | some r0 =>
        obtain ⟨⟨σ, s1, s2, s3⟩, h2⟩ := ih.1 r0 e
        dsimp only
        by_cases c : key (bnd T f n) < key r0
        · rw [if_pos c]
          refine ⟨fun r h => ?_, fun h => by cases h⟩
          cases h
          refine ⟨⟨n, by omega, q, rfl⟩, fun σ' h3 h4 => ?_⟩
          by_cases d : σ' = n
          · rw [d]; exact Nat.le_refl _
          · have := h2 σ' (by omega) h4
            omega
        · rw [if_neg c]
          refine ⟨fun r h => ?_, fun h => by cases h⟩
          cases h
          refine ⟨⟨σ, by omega, s2, s3⟩, fun σ' h3 h4 => ?_⟩
          by_cases d : σ' = n
          · rw [d]; omega
          · exact h2 σ' (by omega) h4
theorem a_has0 {x y : Int32} {a k : Nat} (hx : x = nI a) (hy : y = nI k) (ha : a < 2 ^ 31) (hk : k < 32) {A B : Prop} (h1 : a.testBit k = true → A) (h0 : a.testBit k = false → B) : (¬ (zshr x y &&& 1) = 0 → A) ∧ ((zshr x y &&& 1) = 0 → B) := by
  have e := a_bit hx hy ha hk
  rw [tb_eq] at e
  rw [e]
  cases h : a.testBit k with
  | true => exact ⟨fun _ => h1 h, fun q => absurd q (by decide)⟩
  | false => exact ⟨fun q => absurd rfl q, fun _ => h0 h⟩
theorem tnI : ∀ b c : Bool, b.toNat = c.toNat → b = c := by decide
theorem tnN : ∀ b c : Bool, b.toNat ≠ c.toNat → (b != c) = true := by decide
theorem k_X6_cornersOutOf {Q : Option Value → zM → Prop} {M : zM} {T : zTn} {f : zAf} {x : Int32} {σ : Nat} (hv : zTv T) (hT : zTc T M) (ha : cA T f (M 22)) (hva : vA T f) (hx : x = nI σ) (hσ : σ < 128) (h : Q (some (.int (nI (bnd T f σ)))) M) : zCon fX6_cornersOutOf [.ref 35, .int x] M Q := by
  have hS := zTv_S hv
  have hC := zTv_C hv
  have hsh := vA_S hv hva
  have L : ∀ i, i ≤ tC T → ∀ u y, u = nI (bset (fun i => (!((aS f).testBit i)) && (σ.testBit (tA T i) != σ.testBit (tB T i))) i) → y = nI i → zEv fX6_cornersOutOf Q 4 [(0, .ref 35), (1, .int x), (2, .int u), (3, .int y)] [] M := by
    refine zloop (tC T) ?_ ?_
    · intro u y hu hy
      refine zev_go zkX6_cornersOutOf [4] 60 (iGe hy hT.2.2.1 (by omega) (by omega) (fun _ => ?_) (fun q => absurd q (by omega)))
      unfold bnd at h
      rw [← hu] at h
      exact h
    · intro i hi ih u y hu hy
      obtain ⟨i1, i2, i3, i4, i5, i6⟩ := zTv_i hv hi
      have i10 : i < 10 := by omega
      refine zev_go zkX6_cornersOutOf [4] 60 (iGe hy hT.2.2.1 (by omega) (by omega) (fun q => absurd q (by omega)) (fun _ => ?_))
      refine k_X0_isShut hy (by omega) ha.2.2.1 hsh (fun r => cT (ih _ _ ?_ (by rw [hy, nI_1]))) (fun r => cF (zix i hy i10 (zix i hy i10 ?_)))
      · rw [bset_s, r]; exact hu
      · have e1 := a_bit hx (hT.2.2.2.2.2.2.1 i hi) (by omega) (by omega)
        have e2 := a_bit hx (hT.2.2.2.2.2.2.2.1 i hi) (by omega) (by omega)
        rw [tb_eq] at e1 e2
        have t1 := Bool.toNat_le (σ.testBit (tA T i))
        have t2 := Bool.toNat_le (σ.testBit (tB T i))
        refine iEq e1 e2 (by omega) (by omega) (fun c => ih _ _ ?_ (by rw [hy, nI_1])) (fun c => ih _ _ ?_ (by rw [hy, nI_1]))
        · rw [bset_s, r]
          have c2 := tnI _ _ c
          rw [c2]
          simp
          exact hu
        · rw [bset_s, r]
          have c2 := tnN _ _ c
          rw [c2]
          exact a_set hu hy (by omega)
  exact zc_of zkX6_cornersOutOf [4] 60 (Nat.le_of_ble_eq_true rfl) (L 0 (by omega) 0 0 rfl rfl)
theorem few_lt : ∀ p, p < 11 → ∀ q, q < 11 → ((nI p - nI q < 0) ↔ p < q) ∧ ((nI p - nI q = 0) ↔ p = q) := by decide +kernel
theorem k_X6_isLesserCut {Q : Option Value → zM → Prop} {M : zM} {x y : Int32} {s r : Nat} (hx : x = nI s) (hy : y = nI r) (hs : s < 1024) (hr : r < 1024) (h1 : key s < key r → Q (some (.int 1)) M) (h0 : ¬ key s < key r → Q (some (.int 0)) M) : zCon fX6_isLesserCut [.int x, .int y] M Q := by
  have p1 := pc_le s 10
  have p2 := pc_le r 10
  obtain ⟨f1, f2⟩ := few_lt (pc s 10) (by omega) (pc r 10) (by omega)
  refine zc_of zkX6_isLesserCut [10] 60 (Nat.le_of_ble_eq_true rfl) (k_bitCount (k_bitCount ?_))
  have J : ∀ v, v = nI (pc s 10) - nI (pc r 10) → zEv fX6_isLesserCut Q 10 [(0, .int x), (1, .int y), (2, .int v)] [] M := by
    intro v hv'
    subst hv'
    refine zev_go zkX6_isLesserCut [] 60 (br (fun c => ⟨Or.inr rfl, h1 ?_⟩) (fun c => nr (fun d => ⟨Or.inl rfl, h0 ?_⟩) (fun d => ?_)))
    · have := f1.mp c
      unfold key; omega
    · have g1 : ¬ pc s 10 < pc r 10 := fun q => c (f1.mpr q)
      have g2 : ¬ pc s 10 = pc r 10 := fun q => d (f2.mpr q)
      unfold key; omega
    · have g2 := f2.mp d
      refine iGe hx hy (by omega) (by omega) (fun q => ⟨Or.inl rfl, h0 ?_⟩) (fun q => ⟨Or.inr rfl, h1 ?_⟩)
      · unfold key; omega
      · unfold key; omega
  exact J _ (by rw [hx, hy, bc_pc s hs, bc_pc r hr])
def oI (o : Option Nat) : Int32 := match o with
  | none => -1
  | some r => nI r
theorem oI_m1 {r n : Nat} (hr : r < n) (hn : n < 2 ^ 31) : ¬ nI r = -1 := fun q => by
  have h2 := m1_out hn q
  rw [ix_in hr hn] at h2
  cases h2
theorem cutF_lt {T : zTn} {f : zAf} {a b n r : Nat} (hv : zTv T) (h : cutF T f a b n = some r) : r < 1024 := by
  obtain ⟨⟨σ, _, _, e⟩, _⟩ := (cutF_ok n).1 r h
  rw [e]
  exact bnd_lt hv
theorem k_X6_leastCut {Q : Option Value → zM → Prop} {M : zM} {T : zTn} {f : zAf} {x y : Int32} {a b : Nat} (hv : zTv T) (hT : zTc T M) (ha : cA T f (M 22)) (hva : vA T f) (hx : x = nI a) (hy : y = nI b) (la : a < tS T) (lb : b < tS T) (h : Q (some (.int (oI (cutF T f a b (2 ^ tS T))))) M) : zCon fX6_leastCut [.ref 35, .int x, .int y] M Q := by
  have hS := zTv_S hv
  have h128 : 2 ^ tS T ≤ 128 := Nat.pow_le_pow_right (n := 2) (by omega) hS
  have e1 : zshl 1 (M 1 2) = nI (2 ^ tS T) := a_shl1 hT.2.1 (by omega)
  have L : ∀ n, n ≤ 2 ^ tS T → ∀ u z, u = oI (cutF T f a b n) → z = nI n → zEv fX6_leastCut Q 5 [(0, .ref 35), (1, .int x), (2, .int y), (3, .int u), (4, .int z)] [] M := by
    refine zloop (2 ^ tS T) ?_ ?_
    · intro u z hu hz
      refine zev_go zkX6_leastCut [5] 60 (iGe hz e1 (by omega) (by omega) (fun _ => ?_) (fun q => absurd q (by omega)))
      rw [← hu] at h
      exact h
    · intro n hn ih u z hu hz
      have no : okD a b n = false → zEv fX6_leastCut Q 5 [(0, .ref 35), (1, .int x), (2, .int y), (3, .int u), (4, .int (z + 1))] [] M := fun q => ih _ _ (by rw [cutF_s, q]; exact hu) (by rw [hz, nI_1])
      refine zev_go zkX6_leastCut [5] 60 (iGe hz e1 (by omega) (by omega) (fun q => absurd q (by omega)) (fun _ => ?_))
      refine a_has hz hx (by omega) (by omega) (fun c1 => ?_) (fun c1 => no (by unfold okD; rw [c1]; rfl))
      refine a_has0 hz hy (by omega) (by omega) (fun c2 => no (by unfold okD; rw [c2]; simp)) (fun c2 => ?_)
      have ok : okD a b n = true := by unfold okD; rw [c1, c2]; rfl
      have bl := bnd_lt (f := f) (σ := n) hv
      refine k_X6_cornersOutOf hv hT ha hva hz (by omega) ?_
      cases e : cutF T f a b n with
      | none =>
        rw [e] at hu
        refine bt_ hu (zev_pick [0, 1, 2, 3, 4] (ih _ _ ?_ (by rw [hz, nI_1])))
        rw [cutF_s, ok, cond_true, e]
        rfl
      | some r =>
        rw [e] at hu
        have rl := cutF_lt hv e
        refine bf_ (by rw [hu]; exact oI_m1 rl (by omega)) ?_
        refine k_X6_isLesserCut rfl hu bl rl (fun c => bT (zev_pick [0, 1, 2, 3, 4] (ih _ _ ?_ (by rw [hz, nI_1])))) (fun c => bF (zev_pick [0, 1, 2, 3, 4] (ih _ _ ?_ (by rw [hz, nI_1]))))
        · rw [cutF_s, ok, cond_true, e]; dsimp only; rw [if_pos c]; rfl
        · rw [cutF_s, ok, cond_true, e]; dsimp only; rw [if_neg c]; exact hu
  exact zc_of zkX6_leastCut [5] 60 (Nat.le_of_ble_eq_true rfl) (L 0 (Nat.zero_le _) (-1) 0 rfl rfl)
