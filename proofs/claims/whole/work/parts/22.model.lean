/-! the model's small ones -/
theorem i64 (x : Int32) : x.toInt64.toInt = x.toInt := Int32.toInt_toInt64 x
theorem in_num {x : Int32} {lo hi : Int64} {S : Nat} (hS : S < 2 ^ 30) (hlo : lo.toInt = 0) (hhi : hi.toInt = (S : Int) - 1) (h1 : lo ≤ x.toInt64) (h2 : x.toInt64 ≤ hi) : ∃ j, j < S ∧ x = nI j := by
  rw [Int64.le_iff_toInt_le, i64, hlo] at h1
  rw [Int64.le_iff_toInt_le, i64, hhi] at h2
  refine ⟨x.toInt.toNat, by omega, ?_⟩
  apply Int32.toInt_inj.mp
  rw [nI_toInt (by omega)]
  omega
theorem in_out {x : Int32} {lo hi : Int64} {S : Nat} (hS : S < 2 ^ 30) (hlo : lo.toInt = 0) (hhi : hi.toInt = (S : Int) - 1) (h : x.toInt64 < lo ∨ hi < x.toInt64) : zout x S := by
  intro j hj e
  rw [Int64.lt_iff_toInt_lt, Int64.lt_iff_toInt_lt, i64, hlo, hhi, e, nI_toInt (by omega)] at h
  omega
theorem k_in {Q : Option Value → zM → Prop} {M : zM} {x : Int32} {lo hi : Int64} {S : Nat} (hS : S < 2 ^ 30) (hlo : lo.toInt = 0) (hhi : hi.toInt = (S : Int) - 1) (h1 : ∀ j, j < S → x = nI j → Q (some (.int 1)) M) (h0 : zout x S → Q (some (.int 0)) M) : zCon fX11_in [.long x.toInt64, .long lo, .long hi] M Q :=
  k_X11_in (fun a b => by obtain ⟨j, hj, e⟩ := in_num hS hlo hhi a b; exact h1 j hj e) (fun a => h0 (in_out hS hlo hhi a))
theorem l0_ : (lN 0).toInt = 0 := by decide
theorem sub1 {y : Int32} {S : Nat} (hS : S < 2 ^ 30) (hy : y = nI S) : ((y - 1).toInt64).toInt = (S : Int) - 1 := by
  rw [i64, hy, n_1, pk_sub_toInt hS (by omega)]
  omega
theorem zret01 {Q : Option Value → zM → Prop} {M : zM} {v : Int32} (h : v = 0 ∨ v = 1) (hq : Q (some (.int v)) M) : (v = 0 ∨ v = 1) ∧ Q (some (.int v)) M := ⟨h, hq⟩
theorem k_X11_isStreet {Q : Option Value → zM → Prop} {M : zM} {x : Int32} {S : Nat} (hS : S < 2 ^ 30) (hM : M 47 1 = nI S) (h1 : ∀ j, j < S → x = nI j → Q (some (.int 1)) M) (h0 : zout x S → Q (some (.int 0)) M) : zCon fX11_isStreet [.ref 47, .int x] M Q :=
  zc_of zkX11_isStreet [] 60 (Nat.le_of_ble_eq_true rfl) (k_in hS l0_ (sub1 hS hM) (fun j hj e => ⟨Or.inr rfl, h1 j hj e⟩) (fun o => ⟨Or.inl rfl, h0 o⟩))
theorem k_X11_isWord {Q : Option Value → zM → Prop} {M : zM} {x : Int32} {S : Nat} (hS : S < 2 ^ 30) (hM : M 47 0 = nI S) (h1 : ∀ j, j < S → x = nI j → Q (some (.int 1)) M) (h0 : zout x S → Q (some (.int 0)) M) : zCon fX11_isWord [.ref 47, .int x] M Q :=
  zc_of zkX11_isWord [] 60 (Nat.le_of_ble_eq_true rfl) (k_in hS l0_ (sub1 hS hM) (fun j hj e => ⟨Or.inr rfl, h1 j hj e⟩) (fun o => ⟨Or.inl rfl, h0 o⟩))
theorem k_X11_isCorner {Q : Option Value → zM → Prop} {M : zM} {x : Int32} {S : Nat} (hS : S < 2 ^ 30) (hM : M 47 4 = nI S) (h1 : ∀ j, j < S → x = nI j → Q (some (.int 1)) M) (h0 : zout x S → Q (some (.int 0)) M) : zCon fX11_isCorner [.ref 47, .int x] M Q :=
  zc_of zkX11_isCorner [] 60 (Nat.le_of_ble_eq_true rfl) (k_in hS l0_ (sub1 hS hM) (fun j hj e => ⟨Or.inr rfl, h1 j hj e⟩) (fun o => ⟨Or.inl rfl, h0 o⟩))
theorem k_X11_areTwo {Q : Option Value → zM → Prop} {M : zM} {a b : Int32} {n : Nat} (hn : n < 2 ^ 30) (hS : M 47 1 = nI n) (h1 : ∀ i j, i < n → j < n → i ≠ j → a = nI i → b = nI j → Q (some (.int 1)) M) (h0 : (zout a n ∨ zout b n ∨ a = b) → Q (some (.int 0)) M) : zCon fX11_areTwo [.ref 47, .int a, .int b] M Q := by
  refine zc_of zkX11_areTwo [] 60 (Nat.le_of_ble_eq_true rfl) ?_
  refine k_X11_isStreet hn hS (fun i hi e => bT ?_) (fun ho => bF ⟨Or.inl rfl, h0 (Or.inl ho)⟩)
  refine k_X11_isStreet hn hS (fun j hj e2 => bT ?_) (fun ho => bF ⟨Or.inl rfl, h0 (Or.inr (Or.inl ho))⟩)
  exact br (fun c => ⟨Or.inl rfl, h0 (Or.inr (Or.inr c))⟩) (fun c => ⟨Or.inr rfl, h1 i j hi hj (fun q => c (by rw [e, e2, q])) e e2⟩)
theorem k_X11_isOpen {Q : Option Value → zM → Prop} {M : zM} {x : Int32} {i s : Nat} (hx : x = nI i) (hi : i < 32) (hs : M 56 10 = nI s) (hs2 : s < 2 ^ 31) (h1 : s.testBit i = false → Q (some (.int 1)) M) (h0 : s.testBit i = true → Q (some (.int 0)) M) : zCon fX11_isOpen [.ref 47, .int x] M Q := by
  refine zc_of zkX11_isOpen [] 60 (Nat.le_of_ble_eq_true rfl) (zix 10 rfl (by decide) ?_)
  exact k_X11_has hs hx hs2 hi (fun q => cT ⟨Or.inl rfl, h0 q⟩) (fun q => cF ⟨Or.inr rfl, h1 q⟩)
theorem k_X11_overAt {Q : Option Value → zM → Prop} {M : zM} {T : zTn} {a : zAf} {x y : Int32} {i w : Nat} {b : Bool} (hv : zTv T) (hT : zTm T M) (ha : mA T a (M 56)) (hva : vA T a) (hx : x = nI i) (hi : i < tC T) (hy : y = nI w) (hw : w < tN T) (h : Q (some (.int (nI (ovr T a i b w)))) M) : zCon fX11_overAt [.ref 47, .int x, .int (zbl b), .int y] M Q := by
  have hC := zTv_C hv
  have hN := zTv_N hv
  have hi2 := zTv_i hv hi
  have eS := ha.2.2.2.2.2.2.1 i hi
  have eK := hT.2.2.2.2.2.2.2.1 i hi
  have eL := hT.2.2.2.2.2.2.2.2.1 i hi
  have hs := hva.2.2.2.2.2.2.1 i hi
  have e0 : (0 : Int32) + x = nI i := by rw [hx, n_0, nI_add, Nat.zero_add]
  refine zc_of zkX11_overAt [] 60 (Nat.le_of_ble_eq_true rfl) (zix i e0 (show i < 88 by omega) ?_)
  have rest : ∀ (Q' : Option Value → zM → Prop) (hb : aSo a i = 2 → b = false), Q' (some (.int (nI (ovr T a i b w)))) M → zCon fX11_slipBy [.ref 47, .int (M 56 i), .int (M 53 i), .int (M 54 i), .int y] M Q' := by
    intro Q' hb h
    refine k_slipBy eS eK eL hy hs (by omega) hN hT.1 hi2.2.2.2.1 hi2.2.2.2.2.1 hw ?_
    have e : ov (tN T) (aSo a i) (tK T i) (tL T i) false w = ovr T a i b w := by
      unfold ovr ov
      by_cases q : aSo a i = 2
      · rw [hb q]
      · simp [q]
    rw [e]
    exact h
  refine iNe eS n_2 (by omega) (by omega) (fun c => ?_) (fun c => ?_)
  · refine zix i e0 (show i < 88 by omega) (zix i hx (by omega) (zix i hx (by omega) ?_))
    exact rest _ (fun q => absurd q c) h
  · cases b with
    | false =>
      refine bF (zix i e0 (show i < 88 by omega) (zix i hx (by omega) (zix i hx (by omega) ?_)))
      exact rest _ (fun _ => rfl) h
    | true =>
      refine bT (zix i hx (by omega) ⟨a_ne0 hT.1 (by omega) (by omega), ?_⟩)
      rw [a_rem (a_sub (a_add hy hT.1) eK (by omega)) hT.1 (by omega) (by omega) (by omega)]
      have e : ovr T a i true w = (w + tN T - tK T i) % tN T := by unfold ovr ov; simp [c]
      rw [e] at h
      exact h
theorem k_X11_hasWord {Q : Option Value → zM → Prop} {M : zM} {x y : Int32} {v w : Nat} (hx : x = nI v) (hy : y = nI w) (hv : v < 10000) (hw : w < 2 ^ 30) (h1 : hd w 4 v = true → Q (some (.int 1)) M) (h0 : hd w 4 v = false → Q (some (.int 0)) M) : zCon fX11_hasWord [.int x, .int y] M Q := by
  have L : ∀ d b r r', r < 10 ^ d → r < 10000 → r' = nI r → ((b || hd w d r) = true → Q (some (.int 1)) M) → ((b || hd w d r) = false → Q (some (.int 0)) M) → zEv fX11_hasWord Q 4 [(0, .int x), (1, .int y), (2, .int (zbl b)), (3, .int r')] [] M := by
    intro d
    induction d with
    | zero =>
      intro b r r' hr hr2 er h1 h0
      have : r = 0 := by omega
      subst this
      refine zev_go zkX11_hasWord [4] 60 (iGe n_0 er (by omega) (by omega) (fun _ => ?_) (fun q => absurd q (by omega)))
      cases b with
      | true => exact ⟨Or.inr rfl, h1 rfl⟩
      | false => exact ⟨Or.inl rfl, h0 rfl⟩
    | succ d ih =>
      intro b r r' hr hr2 er h1 h0
      refine zev_go zkX11_hasWord [4] 60 (iGe n_0 er (by omega) (by omega) (fun q => ?_) (fun q => ?_))
      · have : r = 0 := by omega
        subst this
        rw [hd_0, Bool.or_false] at h1 h0
        cases b with
        | true => exact ⟨Or.inr rfl, h1 rfl⟩
        | false => exact ⟨Or.inl rfl, h0 rfl⟩
      · have er2 : hd w (d + 1) r = (Nat.beq (r % 10) (w + 1) || hd w d (r / 10)) := by
          show (bif Nat.beq r 0 then false else _) = _
          rw [beqF (by omega)]
          rfl
        rw [er2] at h1 h0
        have hr3 : r / 10 < 10 ^ d := by rw [Nat.pow_succ] at hr; omega
        have ed := a_div er n_10 (by omega) (by omega) (by omega)
        cases b with
        | true =>
          refine cT ⟨by decide, ?_⟩
          refine ih true (r / 10) _ hr3 (by omega) ed (fun _ => h1 rfl) (fun q => absurd q (by simp))
        | false =>
          refine cF ⟨by decide, ?_⟩
          rw [a_rem er n_10 (by omega) (by omega) (by omega)]
          rw [Bool.false_or] at h1 h0
          refine iNe rfl (a_add hy n_1) (by omega) (by omega) (fun c => ⟨by decide, ?_⟩) (fun c => ⟨by decide, ?_⟩)
          · rw [beqF c, Bool.false_or] at h1 h0
            exact ih false (r / 10) _ hr3 (by omega) ed h1 h0
          · rw [beqT c, Bool.true_or] at h1
            exact ih true (r / 10) _ hr3 (by omega) ed (fun _ => h1 rfl) (fun q => absurd q (by simp))
  exact zc_of zkX11_hasWord [4] 60 (Nat.le_of_ble_eq_true rfl) (L 4 false v x hv hv hx h1 h0)
