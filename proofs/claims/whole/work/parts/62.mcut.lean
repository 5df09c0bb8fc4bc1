/-! who is reached, in the model; cut -/
def eZ (T : zTn) (s : Nat) : Nat → List eE
  | 0 => []
  | i + 1 => if s.testBit i = true then eZ T s i else (tA T i, tB T i, 0) :: (tB T i, tA T i, 0) :: eZ T s i
theorem eZ_s (T : zTn) (s i : Nat) : eZ T s (i + 1) = if s.testBit i = true then eZ T s i else (tA T i, tB T i, 0) :: (tB T i, tA T i, 0) :: eZ T s i := rfl
theorem eZ_mem {T : zTn} {s : Nat} {e : eE} : ∀ {n : Nat}, e ∈ eZ T s n ↔ ∃ i, i < n ∧ s.testBit i = false ∧ (e = (tA T i, tB T i, 0) ∨ e = (tB T i, tA T i, 0))
  | 0 => ⟨fun h => absurd h (by simp [eZ]), fun ⟨i, h, _⟩ => absurd h (by omega)⟩
  | n + 1 => by
    have ih := eZ_mem (T := T) (s := s) (e := e) (n := n)
    rw [eZ_s]
    constructor
    · intro h
      split at h
      · obtain ⟨i, h1, h2⟩ := ih.mp h
        exact ⟨i, by omega, h2⟩
      · next q =>
        have q2 : s.testBit n = false := by cases r : s.testBit n with
          | true => exact absurd r q
          | false => rfl
        rcases List.mem_cons.mp h with r | r
        · exact ⟨n, by omega, q2, Or.inl r⟩
        · rcases List.mem_cons.mp r with r | r
          · exact ⟨n, by omega, q2, Or.inr r⟩
          · obtain ⟨i, h1, h2⟩ := ih.mp r
            exact ⟨i, by omega, h2⟩
    · intro ⟨i, h1, h2, h3⟩
      by_cases c : i = n
      · subst c
        rw [if_neg (by rw [h2]; decide)]
        rcases h3 with r | r
        · rw [r]; exact List.mem_cons_self
        · rw [r]; exact List.mem_cons_of_mem _ List.mem_cons_self
      · have m := ih.mpr ⟨i, by omega, h2, h3⟩
        split
        · exact m
        · exact List.mem_cons_of_mem _ (List.mem_cons_of_mem _ m)
theorem eZ_bd {T : zTn} {s : Nat} (hv : zTv T) : ∀ e, e ∈ eZ T s (tC T) → e.1 < tS T ∧ e.2.1 < tS T := by
  intro e h
  obtain ⟨i, h1, h2, h3⟩ := eZ_mem.mp h
  have := zTv_i hv h1
  rcases h3 with r | r
  · subst r; exact ⟨this.1, this.2.1⟩
  · subst r; exact ⟨this.2.1, this.1⟩
def rk (T : zTn) (s a : Nat) : Nat → Nat → Nat := jr (eZ T s (tC T)) (fun v => if v = a then 0 else 1)
def rc (T : zTn) (s a v : Nat) : Nat := rk T s a (tS T) v
theorem rc_a {T : zTn} {s a : Nat} : rc T s a a = 0 := by
  have : rc T s a a ≤ (if a = a then 0 else 1) := jr_an (r := 0) (Nat.zero_le _) a
  rw [if_pos rfl] at this
  omega
theorem rc_e {T : zTn} {s a i : Nat} (hv : zTv T) (hi : i < tC T) (h : s.testBit i = false) : rc T s a (tA T i) = 0 ↔ rc T s a (tB T i) = 0 := by
  have c1 : rc T s a (tB T i) ≤ rc T s a (tA T i) + 0 := jr_cd (eZ_bd hv) (eZ_mem.mpr ⟨i, hi, h, Or.inl rfl⟩)
  have c2 : rc T s a (tA T i) ≤ rc T s a (tB T i) + 0 := jr_cd (eZ_bd hv) (eZ_mem.mpr ⟨i, hi, h, Or.inr rfl⟩)
  omega
theorem rc_min {T : zTn} {s a : Nat} {Z : Nat → Bool} (ha : Z a = true) (hz : ∀ i, i < tC T → s.testBit i = false → Z (tA T i) = Z (tB T i)) {v : Nat} (h : rc T s a v = 0) : Z v = true := by
  have m : ∀ r v, (bif Z v then 0 else 1) ≤ jr (eZ T s (tC T)) (fun v => if v = a then 0 else 1) r v := jr_min (c := fun v => bif Z v then 0 else 1) (fun e he => by
    obtain ⟨i, h1, h2, h3⟩ := eZ_mem.mp he
    have q := hz i h1 h2
    rcases h3 with r | r
    · subst r
      show (bif Z (tB T i) then 0 else 1) ≤ (bif Z (tA T i) then 0 else 1) + 0
      rw [q]; omega
    · subst r
      show (bif Z (tA T i) then 0 else 1) ≤ (bif Z (tB T i) then 0 else 1) + 0
      rw [q]; omega) (fun v => by
    show (bif Z v then 0 else 1) ≤ (if v = a then 0 else 1)
    by_cases c : v = a
    · rw [if_pos c, c, ha]; exact Nat.le_refl _
    · rw [if_neg c]; cases Z v <;> simp)
  have m2 := m (tS T) v
  have h' : jr (eZ T s (tC T)) (fun v => if v = a then 0 else 1) (tS T) v = 0 := h
  rw [h'] at m2
  cases q : Z v with
  | true => rfl
  | false => rw [q] at m2; exact absurd m2 (by decide)
theorem k_X11_getsTo {Q : Option Value → zM → Prop} {M : zM} {T : zTn} {x y : Int32} {a sh : Nat} (hv : zTv T) (hT : zTm T M) (hx : x = nI a) (hy : y = nI sh) (ha : a < tS T) (hsh : sh < 1024) (h : ∀ s, s < 128 → (∀ v, s.testBit v = true ↔ rc T sh a v = 0) → Q (some (.int (nI s))) M) : zCon fX11_getsTo [.ref 47, .int x, .int y] M Q := by
  have hS := zTv_S hv
  have hC := zTv_C hv
  have L : ∀ k, k ≤ tS T → ∀ u y4 s, u = nI s → y4 = nI k → s < 128 → (∀ v, s.testBit v = true → rc T sh a v = 0) → (∀ v, rk T sh a k v = 0 → s.testBit v = true) → zEv fX11_getsTo Q 7 [(0, .ref 47), (1, .int x), (2, .int y), (3, .int u), (4, .int y4)] [] M := by
    refine zloop (tS T) ?_ ?_
    · intro u y4 s hu h4 hs hlo hhi
      refine zev_go zkX11_getsTo [7] 60 (iGe h4 hT.2.1 (by omega) (by omega) (fun _ => ?_) (fun q => absurd q (by omega)))
      have h' := h s hs (fun v => ⟨hlo v, hhi v⟩)
      rw [← hu] at h'
      exact h'
    · intro k hk ih u y4 s hu h4 hs hlo hhi
      refine zev_go zkX11_getsTo [19] 60 (iGe h4 hT.2.1 (by omega) (by omega) (fun q => absurd q (by omega)) (fun _ => ?_))
      have I : ∀ i, i ≤ tC T → ∀ u z s, u = nI s → z = nI i → s < 128 → (∀ v, s.testBit v = true → rc T sh a v = 0) → (∀ v, rk T sh a k v = 0 → s.testBit v = true) → (∀ e, e ∈ eZ T sh i → rk T sh a k e.1 = 0 → s.testBit e.2.1 = true) → zEv fX11_getsTo Q 19 [(0, .ref 47), (1, .int x), (2, .int y), (3, .int u), (4, .int y4), (5, .int z)] [] M := by
        refine zloop (tC T) ?_ ?_
        · intro u z s hu hz hs hlo hhi hpr
          refine zev_go zkX11_getsTo [7] 60 (iGe hz hT.2.2.1 (by omega) (by omega) (fun _ => ?_) (fun q => absurd q (by omega)))
          refine zev_pick [0, 1, 2, 3, 4] (ih _ _ s hu (by rw [h4, nI_1]) hs hlo (fun v hv0 => ?_))
          rcases jr_c (L := eZ T sh (tC T)) (d0 := fun v => if v = a then 0 else 1) k v with q | ⟨e, e1, e2, e3⟩
          · exact hhi v (by have q' : rk T sh a (k + 1) v = rk T sh a k v := q; rw [← q']; exact hv0)
          · rw [← e2]
            refine hpr e e1 ?_
            have e3' : rk T sh a (k + 1) v = rk T sh a k e.1 + e.2.2 := e3
            omega
        · intro i hi ihI u z s hu hz hs hlo hhi hpr
          obtain ⟨i1, i2, i3, i4, i5, i6⟩ := zTv_i hv hi
          have i10 : i < 10 := by omega
          have eA := hT.2.2.2.2.2.1 i hi
          have eB := hT.2.2.2.2.2.2.1 i hi
          have J0 : (sh.testBit i = true ∨ (s.testBit (tA T i) = false ∧ s.testBit (tB T i) = false)) → zEv fX11_getsTo Q 69 [(0, .ref 47), (1, .int x), (2, .int y), (3, .int u), (4, .int y4), (5, .int z)] [] M := by
            intro q
            refine zev_go zkX11_getsTo [19] 60 (bF ?_)
            refine zev_pick [0, 1, 2, 3, 4, 5] (ihI _ _ s (by rw [a_or hu n_0, Nat.or_zero]) (by rw [hz, nI_1]) hs hlo hhi (fun e he h0 => ?_))
            rw [eZ_s] at he
            rcases q with q | ⟨q1, q2⟩
            · rw [if_pos q] at he; exact hpr e he h0
            · split at he
              · exact hpr e he h0
              · rcases List.mem_cons.mp he with r | r
                · subst r
                  have := hhi _ h0
                  rw [q1] at this
                  cases this
                · rcases List.mem_cons.mp r with r | r
                  · subst r
                    have := hhi _ h0
                    rw [q2] at this
                    cases this
                  · exact hpr e r h0
          have J1 : sh.testBit i = false → (s.testBit (tA T i) = true ∨ s.testBit (tB T i) = true) → zEv fX11_getsTo Q 65 [(0, .ref 47), (1, .int x), (2, .int y), (3, .int u), (4, .int y4), (5, .int z)] [] M := by
            intro r q
            have zA : rc T sh a (tA T i) = 0 := by
              rcases q with q | q
              · exact hlo _ q
              · exact (rc_e hv hi r).mpr (hlo _ q)
            have zB : rc T sh a (tB T i) = 0 := (rc_e hv hi r).mp zA
            refine zev_go zkX11_getsTo [19] 60 (bT (zix i hz i10 (zix i hz i10 ?_)))
            have ev : u ||| (zshl 1 (M 50 i) ||| zshl 1 (M 51 i)) = nI (s ||| (2 ^ tA T i ||| 2 ^ tB T i)) := a_or hu (a_or (a_shl1 eA (by omega)) (a_shl1 eB (by omega)))
            have tb : ∀ v, (s ||| (2 ^ tA T i ||| 2 ^ tB T i)).testBit v = (s.testBit v || (decide (v = tA T i) || decide (v = tB T i))) := by
              intro v
              rw [← Nat.or_assoc, set_tb, set_tb, Bool.or_assoc]
            refine zev_pick [0, 1, 2, 3, 4, 5] (ihI _ _ _ ev (by rw [hz, nI_1]) ?_ (fun v hv0 => ?_) (fun v hv0 => ?_) (fun e he h0 => ?_))
            · rw [← Nat.or_assoc]; exact set_lt (n := 7) (set_lt (n := 7) hs (by omega)) (by omega)
            · rw [tb] at hv0
              rw [Bool.or_eq_true, Bool.or_eq_true, decide_eq_true_eq, decide_eq_true_eq] at hv0
              rcases hv0 with q | q | q
              · exact hlo v q
              · rw [q]; exact zA
              · rw [q]; exact zB
            · rw [tb, hhi v hv0]; rfl
            · rw [eZ_s, if_neg (by rw [r]; decide)] at he
              rcases List.mem_cons.mp he with r | r
              · subst r
                show (s ||| (2 ^ tA T i ||| 2 ^ tB T i)).testBit (tB T i) = true
                rw [tb]; simp
              · rcases List.mem_cons.mp r with r | r
                · subst r
                  show (s ||| (2 ^ tA T i ||| 2 ^ tB T i)).testBit (tA T i) = true
                  rw [tb]; simp
                · rw [tb, hpr e r h0]; rfl
          refine zev_go zkX11_getsTo [65, 69] 60 (iGe hz hT.2.2.1 (by omega) (by omega) (fun q => absurd q (by omega)) (fun _ => ?_))
          refine k_X11_has hy hz (by omega) (by omega) (fun r => cT (J0 (Or.inl r))) (fun r => cF (zix i hz i10 ?_))
          refine k_X11_has hu eA (by omega) (by omega) (fun q => cT (J1 r (Or.inl q))) (fun q => cF (zix i hz i10 ?_))
          exact k_X11_has hu eB (by omega) (by omega) (fun q2 => bT (J1 r (Or.inr q2))) (fun q2 => bF (J0 (Or.inr ⟨q, q2⟩)))
      exact I 0 (by omega) u 0 s hu rfl hs hlo hhi (fun e he => absurd he (by simp [eZ]))
  refine zc_of zkX11_getsTo [7] 60 (Nat.le_of_ble_eq_true rfl) ?_
  refine L 0 (by omega) _ 0 (2 ^ a) (a_shl1 hx (by omega)) rfl (Nat.pow_lt_pow_right (n := 7) (a := 2) (by omega) (by omega)) (fun v hv0 => ?_) (fun v hv0 => ?_)
  · rw [Nat.testBit_two_pow] at hv0
    rw [← of_decide_eq_true hv0]
    exact rc_a
  · rw [Nat.testBit_two_pow]
    have h0 : (if v = a then 0 else 1) = 0 := hv0
    split at h0
    · next q => rw [q]; simp
    · cases h0
/-- a set that cuts -/
def sep (T : zTn) (f : zAf) (a b s : Nat) : Prop := s &&& aS f = 0 ∧ rc T (s ||| aS f) a b ≠ 0
theorem sep_bnd {T : zTn} {f : zAf} {a b σ : Nat} (h : okD a b σ = true) : sep T f a b (bnd T f σ) := by
  unfold okD at h
  rw [Bool.and_eq_true] at h
  have tb : ∀ i, (bnd T f σ).testBit i = (decide (i < tC T) && ((!((aS f).testBit i)) && (σ.testBit (tA T i) != σ.testBit (tB T i)))) := fun i => bset_tb _ i _
  refine ⟨?_, fun q => ?_⟩
  · apply Nat.eq_of_testBit_eq
    intro i
    rw [Nat.testBit_and, tb]
    cases (aS f).testBit i <;> simp
  · have := rc_min (Z := fun v => σ.testBit v) h.1 (fun i hi hs => by
      rw [Nat.testBit_or, tb, Bool.or_eq_false_iff] at hs
      rw [hs.2] at hs
      have e := hs.1
      simp [hi] at e
      exact e) q
    have h2 := h.2
    rw [this] at h2
    cases h2
theorem sep_sub {T : zTn} {f : zAf} {a b s : Nat} (hv : zTv T) (ha : a < tS T) (h : sep T f a b s) : ∃ σ, σ < 2 ^ tS T ∧ okD a b σ = true ∧ ∀ i, (bnd T f σ).testBit i = true → s.testBit i = true := by
  refine ⟨bset (fun v => Nat.beq (rc T (s ||| aS f) a v) 0) (tS T), bset_lt _ _, ?_, fun i hi => ?_⟩
  · unfold okD
    rw [bset_tb, bset_tb, rc_a, beqF h.2]
    simp [ha]
  · have tb : (bnd T f (bset (fun v => Nat.beq (rc T (s ||| aS f) a v) 0) (tS T))).testBit i = _ := bset_tb _ i _
    rw [tb, Bool.and_eq_true, decide_eq_true_eq] at hi
    obtain ⟨h1, h2⟩ := hi
    cases q : s.testBit i with
    | true => rfl
    | false =>
      exfalso
      rw [Bool.and_eq_true] at h2
      obtain ⟨h3, h4⟩ := h2
      have no : (s ||| aS f).testBit i = false := by
        rw [Nat.testBit_or, q]
        cases r : (aS f).testBit i with
        | true => rw [r] at h3; cases h3
        | false => rfl
      have e := rc_e (a := a) hv h1 no
      obtain ⟨i1, i2, i3, i4, i5, i6⟩ := zTv_i hv h1
      rw [bset_tb, bset_tb] at h4
      have e2 : Nat.beq (rc T (s ||| aS f) a (tA T i)) 0 = Nat.beq (rc T (s ||| aS f) a (tB T i)) 0 := by
        by_cases c : rc T (s ||| aS f) a (tA T i) = 0
        · rw [beqT c, beqT (e.mp c)]
        · rw [beqF c, beqF (fun d => c (e.mpr d))]
      rw [e2] at h4
      simp [i1, i2] at h4
theorem cut_eq {T : zTn} {f : zAf} {a b r : Nat} (hv : zTv T) (ha : a < tS T) (hab : a ≠ b) (hr : r < 2 ^ tC T) (h1 : sep T f a b r) (h2 : ∀ s, s < 2 ^ tC T → sep T f a b s → key r ≤ key s) : cutF T f a b (2 ^ tS T) = some r := by
  have hC := zTv_C hv
  have h1024 : 2 ^ tC T ≤ 1024 := Nat.pow_le_pow_right (n := 2) (by omega) hC
  obtain ⟨σ, s1, s2, s3⟩ := sep_sub hv ha h1
  obtain ⟨k1, k2⟩ := cutF_ok (T := T) (f := f) (a := a) (b := b) (2 ^ tS T)
  cases e : cutF T f a b (2 ^ tS T) with
  | none =>
    have := k2 e σ s1
    rw [this] at s2
    cases s2
  | some r' =>
    obtain ⟨⟨σ', t1, t2, t3⟩, t4⟩ := k1 r' e
    have l1 := t4 σ s1 s2
    have l2 := key_sub s3
    have hr' : r' < 2 ^ tC T := by rw [t3]; exact bset_lt _ _
    have l3 := h2 r' hr' (by rw [t3]; exact sep_bnd t2)
    rw [key_inj (s := r') (t := r) (by omega) (by omega) (by omega)]
theorem cut_some {T : zTn} {f : zAf} {a b : Nat} (ha : a < tS T) (hab : a ≠ b) : ∃ r, cutF T f a b (2 ^ tS T) = some r ∧ r < 2 ^ tC T ∧ sep T f a b r := by
  obtain ⟨k1, k2⟩ := cutF_ok (T := T) (f := f) (a := a) (b := b) (2 ^ tS T)
  cases e : cutF T f a b (2 ^ tS T) with
  | none =>
    have := k2 e (2 ^ a) (Nat.pow_lt_pow_right (by omega) ha)
    unfold okD at this
    rw [Nat.testBit_two_pow, Nat.testBit_two_pow] at this
    simp [hab] at this
  | some r =>
    obtain ⟨⟨σ', t1, t2, t3⟩, t4⟩ := k1 r e
    exact ⟨r, rfl, by rw [t3]; exact bset_lt _ _, by rw [t3]; exact sep_bnd t2⟩
def cutR (T : zTn) (f : zAf) (a b : Nat) : Nat := match cutF T f a b (2 ^ tS T) with
  | some r => r
  | none => 0
def o_cut (G : zG) (a b w : Int32) : Int32 := match ix2 a b (tS (gT G)) with
  | none => cUNK
  | some (x, y) => match ix w 2 with
    | none => cOUT
    | some w => if w = 0 then nI (cutR (gT G) (gA G) x y) else nI (pc (cutR (gT G) (gA G) x y) 10)
theorem kc_cut {Q : Option Value → zM → Prop} {G : zG} {M : zM} {a b w : Int32} (hC : zC G M) (hV : zV G) (hq : ∀ M', zC G M' → frM M M' → Q (some (.int (o_cut G a b w))) M') : zCon fX10_cut [.ref 0, .int a, .int b, .int w] M Q := by
  obtain ⟨c1, c2, c3, c4, c5, c6, c7, c8, c9⟩ := id hC
  have hS := zTv_S hV.1
  refine zc_of zkX10_cut [] 60 (Nat.le_of_ble_eq_true rfl) ?_
  refine k_X8_hasTwoStreets (by omega) c1.2.1 (fun f t hf ht hft ef et => cT ?_) (fun ho => cF ?_)
  · unfold o_cut at hq
    rw [show ix2 a b (tS (gT G)) = some (f, t) by rw [ef, et]; exact ix2_in hf ht (by omega) hft] at hq
    dsimp only at hq
    have out : zout w 2 → Q (some (.int cOUT)) M := fun ho => by
      have h' := hq M hC (fun _ _ => rfl)
      rw [ix_out (by omega) ho] at h'
      exact h'
    refine br (fun d0 => out (outLe (n := 1) (by omega) (Or.inl d0))) (fun d0 => nr (fun d1 => ?_) (fun d1 => out (outLe (n := 1) (by omega) (Or.inr d1))))
    obtain ⟨m, hm, e3⟩ := numLe (n := 1) (by omega) d0 d1
    rw [show ix w 2 = some m by rw [e3]; exact ix_in hm (by omega)] at hq
    dsimp only at hq
    obtain ⟨r, r1, r2, r3⟩ := cut_some (f := gA G) hf hft
    have er : cutR (gT G) (gA G) f t = r := by unfold cutR; rw [r1]
    have rl := cutF_lt hV.1 r1
    rw [er] at hq
    have h' := hq M hC (fun _ _ => rfl)
    refine k_X6_leastCut hV.1 c1 c2 hV.2.1 ef et hf ht ?_
    rw [r1]
    refine iNe e3 n_0 (by omega) (by decide) (fun d => k_bitCount ?_) (fun d => ?_)
    · rw [if_neg d] at h'
      have e : bc (oI (some r)) = nI (pc r 10) := bc_pc r rl
      rw [← e] at h'
      exact h'
    · rw [if_pos d] at h'
      exact h'
  · unfold o_cut at hq
    rw [ix2_out (by omega) ho] at hq
    exact hq M hC (fun _ _ => rfl)
