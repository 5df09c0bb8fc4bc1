/-! sayings in the model, sayings put over -/
theorem zev_pick {f : zF} {Q : Option Value → zM → Prop} {pc : Nat} {E : zE} {st : List Value} {M : zM} (ks : List Nat) (h : zEv f Q pc (lv_pick E ks) st M) : zEv f Q pc E st M := by
  refine zev_sub (fun q hq => ?_) h
  obtain ⟨k, -, hk⟩ := List.mem_filterMap.mp hq
  exact List.mem_of_getElem? hk
theorem k_in2 {Q : Option Value → zM → Prop} {M : zM} {x : Int32} (lo hi : Nat) (hh : hi < 2 ^ 31) (hl : lo < 2 ^ 31) (h1 : ∀ v, lo ≤ v → v ≤ hi → x = nI v → Q (some (.int 1)) M) (h0 : (∀ v, lo ≤ v → v ≤ hi → x ≠ nI v) → Q (some (.int 0)) M) : zCon fX11_in [.long x.toInt64, .long (lN lo), .long (lN hi)] M Q := by
  refine k_X11_in (fun c1 c2 => ?_) (fun c => h0 (fun v a1 a2 e => ?_))
  · rw [Int64.le_iff_toInt_le, lN_toInt hl, i64] at c1
    rw [Int64.le_iff_toInt_le, lN_toInt hh, i64] at c2
    refine h1 x.toInt.toNat (by omega) (by omega) ?_
    apply Int32.toInt_inj.mp
    rw [nI_toInt (by omega)]
    omega
  · rw [Int64.lt_iff_toInt_lt, Int64.lt_iff_toInt_lt, lN_toInt hl, lN_toInt hh, i64, e, nI_toInt (by omega)] at c
    omega
theorem ltoInt {a : Nat} (h : a < 2 ^ 31) : (lN a).toInt = (a : Int) := lN_toInt h
theorem k_X11_isSaying {Q : Option Value → zM → Prop} {M : zM} {x : Int32} {N : Nat} (hN : N ≤ 8) (hM : M 47 0 = nI N) (h1 : ∀ v, x = nI v → isSay N v → Q (some (.int 1)) M) (h0 : (∀ v, x = nI v → ¬ isSay N v) → Q (some (.int 0)) M) : zCon fX11_isSaying [.ref 47, .int x] M Q := by
  have L : ∀ d b r r', r < 10 ^ d → r < 10000 → r' = nI r → ((b && sok N d r) = true → Q (some (.int 1)) M) → ((b && sok N d r) = false → Q (some (.int 0)) M) → zEv fX11_isSaying Q 12 [(0, .ref 47), (1, .int x), (2, .int (zbl b)), (3, .int r')] [] M := by
    intro d
    induction d with
    | zero =>
      intro b r r' hr hr2 er h1 h0
      have : r = 0 := by omega
      subst this
      refine zev_go zkX11_isSaying [12] 60 (iGe n_0 er (by omega) (by omega) (fun _ => ?_) (fun q => absurd q (by omega)))
      cases b with
      | true => exact ⟨Or.inr rfl, h1 rfl⟩
      | false => exact ⟨Or.inl rfl, h0 rfl⟩
    | succ d ih =>
      intro b r r' hr hr2 er h1 h0
      refine zev_go zkX11_isSaying [12] 60 (iGe n_0 er (by omega) (by omega) (fun q => ?_) (fun q => ?_))
      · have : r = 0 := by omega
        subst this
        rw [sok_0, Bool.and_true] at h1 h0
        cases b with
        | true => exact ⟨Or.inr rfl, h1 rfl⟩
        | false => exact ⟨Or.inl rfl, h0 rfl⟩
      · rw [sok_s N d (by omega)] at h1 h0
        cases b with
        | false => exact bF ⟨Or.inl rfl, h0 rfl⟩
        | true =>
          refine bT ⟨by decide, ?_⟩
          rw [Bool.true_and] at h1 h0
          have hr3 : r / 10 < 10 ^ d := by rw [Nat.pow_succ] at hr; omega
          have ed := a_div er n_10 (by omega) (by omega) (by omega)
          rw [a_rem er n_10 (by omega) (by omega) (by omega)]
          refine k_X11_in (fun c1 c2 => ⟨by decide, ?_⟩) (fun c => ⟨by decide, ?_⟩)
          · rw [Int64.le_iff_toInt_le, ltoInt (by omega), i64, nI_toInt (by omega)] at c1
            rw [Int64.le_iff_toInt_le, i64, i64, hM, nI_toInt (by omega), nI_toInt (by omega)] at c2
            rw [show (decide (1 ≤ r % 10) && decide (r % 10 ≤ N)) = true by simp; omega] at h1 h0
            exact ih true (r / 10) _ hr3 (by omega) ed h1 h0
          · rw [Int64.lt_iff_toInt_lt, Int64.lt_iff_toInt_lt, ltoInt (by omega), i64, i64, hM, nI_toInt (by omega), nI_toInt (by omega)] at c
            rw [show (decide (1 ≤ r % 10) && decide (r % 10 ≤ N)) = false by simp only [Bool.and_eq_false_iff, decide_eq_false_iff_not]; omega] at h0
            exact ih false (r / 10) _ hr3 (by omega) ed (fun q => absurd q (by simp)) (fun _ => h0 rfl)
  refine zc_of zkX11_isSaying [12] 60 (Nat.le_of_ble_eq_true rfl) ?_
  refine k_in2 1 9999 (by omega) (by omega) (fun v a1 a2 e => ?_) (fun no => ?_)
  · refine L 4 true v x (by omega) (by omega) e (fun q => h1 _ e ⟨by omega, by omega, by simpa using q⟩) (fun q => h0 (fun v' e' hs => ?_))
    have : v = v' := by
      have a2 := hs.2.1
      exact (nI_eq (by omega) (by omega)).mp (e.symm.trans e')
    rw [this, hs.2.2] at q
    cases q
  · have no' : ∀ v, x = nI v → ¬ isSay N v := fun v e hs => no v hs.1 hs.2.1 e
    by_cases hp : 0 < x
    · exact zev_go zkX11_isSaying [12] 60 (nf_ hp (bF ⟨Or.inl rfl, h0 no'⟩))
    · exact zev_go zkX11_isSaying [12] 60 (nt_ hp ⟨Or.inl rfl, h0 no'⟩)
theorem k_X2_sayingOver {Q : Option Value → zM → Prop} {M : zM} {T : zTn} {a : zAf} {x y : Int32} {i v : Nat} {b : Bool} (hv : zTv T) (hT : zTc T M) (ha : cA T a (M 22)) (hva : vA T a) (hx : x = nI i) (hi : i < tC T) (hy : y = nI v) (hs : isSay (tN T) v) (h : Q (some (.int (nI (mpd (ovr T a i b) 4 v)))) M) : zCon fX2_sayingOver [.ref 27, .int x, .int (zbl b), .int y] M Q := by
  have hN := zTv_N hv
  have hφ : ∀ w, w < tN T → ovr T a i b w < tN T := fun w hw => ovr_lt hv hi hw
  have L : ∀ f, f ≤ 4 → ∀ z R sc r' res r, z = nI f → R = nI res → sc = nI (10 ^ f) → r' = nI r → r < 10000 → res < 10 ^ f → sok (tN T) (4 - f) r = true → res + 10 ^ f * mpd (ovr T a i b) (4 - f) r = mpd (ovr T a i b) 4 v → zEv fX2_sayingOver Q 12 [(0, .ref 27), (1, .int x), (2, .int (zbl b)), (3, .int y), (4, .int R), (5, .int sc), (6, .int r'), (7, .int z)] [] M := by
    refine zloop 4 ?_ ?_
    · intro z R sc r' res r hz hR hsc hr hr2 hres hso he
      refine zev_go zkX2_sayingOver [12] 60 ?_
      refine iGe hz n_4 (by omega) (by omega) (fun _ => ?_) (fun q => absurd q (by omega))
      have e : res = mpd (ovr T a i b) 4 v := by rw [← he]; show res = res + 10 ^ 4 * 0; omega
      rw [← e, ← hR] at h
      exact h
    · intro f hf ih z R sc r' res r hz hR hsc hr hr2 hres hso he
      have e4 : 4 - f = (4 - (f + 1)) + 1 := by omega
      rw [e4] at hso he
      have hp4 : 10 ^ f ≤ 1000 := by
        have : (10 : Nat) ^ f ≤ 10 ^ 3 := Nat.pow_le_pow_right (by omega) (by omega)
        omega
      refine zev_go zkX2_sayingOver [12] 60 ?_
      refine iGe hz n_4 (by omega) (by omega) (fun q => absurd q (by omega)) (fun _ => ?_)
      refine iGe n_0 hr (by omega) (by omega) (fun q => ?_) (fun q => ⟨by decide, ?_⟩)
      · have : r = 0 := by omega
        subst this
        have e : res = mpd (ovr T a i b) 4 v := by rw [← he, mpd_0]; omega
        rw [← e, ← hR] at h
        exact h
      · have h0 : r ≠ 0 := by omega
        rw [sok_s _ _ h0, Bool.and_eq_true, Bool.and_eq_true, decide_eq_true_eq, decide_eq_true_eq] at hso
        rw [mpd_s _ _ h0] at he
        rw [a_rem hr n_10 (by omega) (by omega) (by omega)]
        have hw := hφ (r % 10 - 1) (by omega)
        refine k_X2_wordOver hv hT ha hva hx hi (a_sub rfl n_1 (by omega)) (by omega) ⟨by decide, ?_⟩
        refine ih _ _ _ _ (res + 10 ^ f * (ovr T a i b (r % 10 - 1) + 1)) (r / 10) (by rw [hz, nI_1]) (a_add hR (a_mul hsc (a_add rfl n_1))) (by rw [a_mul hsc n_10]; rfl) (a_div hr n_10 (by omega) (by omega) (by omega)) (by omega) ?_ hso.2 ?_
        · rw [Nat.pow_succ]
          have h9 : 10 ^ f * (ovr T a i b (r % 10 - 1) + 1) ≤ 10 ^ f * 9 := Nat.mul_le_mul_left _ (by omega)
          omega
        · rw [← he, Nat.pow_succ, Nat.mul_add, Nat.mul_add]
          rw [show 10 ^ f * 10 * mpd (ovr T a i b) (4 - (f + 1)) (r / 10) = 10 ^ f * (10 * mpd (ovr T a i b) (4 - (f + 1)) (r / 10)) by rw [Nat.mul_assoc], Nat.mul_add]
          omega
  refine zc_of zkX2_sayingOver [12] 60 (Nat.le_of_ble_eq_true rfl) ?_
  exact L 0 (by omega) 0 0 1 y 0 v rfl rfl rfl hy (by have := hs.2.1; omega) (by omega) hs.2.2 (by show 0 + 1 * mpd (ovr T a i b) 4 v = _; omega)
theorem sok_dig {N : Nat} : ∀ n v, sok N n v = true → ∀ k, k < n → v / 10 ^ k ≠ 0 → 1 ≤ v / 10 ^ k % 10 ∧ v / 10 ^ k % 10 ≤ N := by
  intro n
  induction n with
  | zero => intro v _ k hk; omega
  | succ n ih =>
    intro v hv k hk hne
    have h0 : v ≠ 0 := fun q => hne (by rw [q]; exact Nat.zero_div _)
    rw [sok_s N n h0, Bool.and_eq_true, Bool.and_eq_true, decide_eq_true_eq, decide_eq_true_eq] at hv
    cases k with
    | zero => simpa using hv.1
    | succ k =>
      rw [Nat.pow_succ, Nat.mul_comm, ← Nat.div_div_eq_div_mul] at hne ⊢
      exact ih (v / 10) hv.2 k (by omega) hne
theorem k_X11_sayingOver {Q : Option Value → zM → Prop} {M : zM} {T : zTn} {a : zAf} {x y : Int32} {i v : Nat} {b : Bool} (hv : zTv T) (hT : zTm T M) (ha : mA T a (M 56)) (hva : vA T a) (hx : x = nI i) (hi : i < tC T) (hy : y = nI v) (hs : isSay (tN T) v) (h : Q (some (.int (nI (mpd (ovr T a i b) 4 v)))) M) : zCon fX11_sayingOver [.ref 47, .int x, .int (zbl b), .int y] M Q := by
  have hN := zTv_N hv
  have hv4 : v < 10000 := by have := hs.2.1; omega
  have hφ : ∀ w, w < tN T → ovr T a i b w < tN T := fun w hw => ovr_lt hv hi hw
  have L : ∀ k, k ≤ 4 → ∀ R un acc, R = nI acc → acc < 10 ^ k → un = nI (1000 / 10 ^ k) → acc = mpd (ovr T a i b) k (v / 10 ^ (4 - k)) → zEv fX11_sayingOver Q 8 [(0, .ref 47), (1, .int x), (2, .int (zbl b)), (3, .int y), (4, .int R), (5, .int un)] [] M := by
    refine zloop 4 ?_ ?_
    · intro R un acc hR hac hun he
      refine zev_go zkX11_sayingOver [8] 60 ?_
      refine iGe n_0 hun (by omega) (by decide) (fun _ => ?_) (fun q => absurd q (by decide))
      have e : acc = mpd (ovr T a i b) 4 v := by rw [he]; simp
      rw [← e, ← hR] at h
      exact h
    · intro k hk ih R un acc hR hac hun he
      have hu : (1000 : Nat) / 10 ^ k = 10 ^ (3 - k) := by
        have : k = 0 ∨ k = 1 ∨ k = 2 ∨ k = 3 := by omega
        rcases this with rfl | rfl | rfl | rfl <;> rfl
      have hu1 : 0 < 10 ^ (3 - k) := Nat.pow_pos (by omega)
      have hu2 : 10 ^ (3 - k) ≤ 1000 := by
        have : (10 : Nat) ^ (3 - k) ≤ 10 ^ 3 := Nat.pow_le_pow_right (by omega) (by omega)
        omega
      have hk3 : 10 ^ k ≤ 1000 := by
        have : (10 : Nat) ^ k ≤ 10 ^ 3 := Nat.pow_le_pow_right (by omega) (by omega)
        omega
      have hq4 : v / 10 ^ (4 - k) = v / 10 ^ (3 - k) / 10 := by
        rw [Nat.div_div_eq_div_mul, ← Nat.pow_succ]
        congr 2
        omega
      have hsd := sok_dig 4 v hs.2.2 (3 - k) (by omega)
      rw [hu] at hun
      have hle : v / 10 ^ (3 - k) ≤ v := Nat.div_le_self _ _
      have hun' : un / 10 = nI (1000 / 10 ^ (k + 1)) := by
        rw [a_div hun n_10 (by omega) (by omega) (by omega), ← hu, Nat.div_div_eq_div_mul, ← Nat.pow_succ]
      refine zev_go zkX11_sayingOver [8] 60 ?_
      refine iGe n_0 hun (by omega) (by omega) (fun q => absurd q (by omega)) (fun _ => ⟨a_ne0 hun (by omega) (by omega), by decide, ?_⟩)
      rw [a_rem (a_div hy hun (by omega) hu1 (by omega)) n_10 (by omega) (by omega) (by omega)]
      refine iGe n_0 rfl (by omega) (by omega) (fun q => ⟨by decide, ?_⟩) (fun q => ?_)
      · have hz : v / 10 ^ (3 - k) = 0 := by
          rcases Nat.eq_zero_or_pos (v / 10 ^ (3 - k)) with e | e
          · exact e
          · have := hsd (by omega); omega
        have ha0 : acc = 0 := by rw [he, hq4, hz]; simp [mpd_0]
        refine zev_pick [0, 1, 2, 3, 4, 5] (ih R _ 0 (by rw [hR, ha0]) (Nat.pow_pos (by omega)) hun' ?_)
        · rw [show 4 - (k + 1) = 3 - k by omega, hz, mpd_0]
      · have hne : v / 10 ^ (3 - k) ≠ 0 := fun e => by rw [e] at q; simp at q
        have hd2 := hsd hne
        have hw := hφ (v / 10 ^ (3 - k) % 10 - 1) (by omega)
        refine k_X11_overAt hv hT ha hva hx hi (a_sub rfl n_1 (by omega)) (by omega) ⟨by decide, ?_⟩
        refine zev_pick [0, 1, 2, 3, 4, 5] (ih _ _ (10 * acc + ovr T a i b (v / 10 ^ (3 - k) % 10 - 1) + 1) (a_add (a_add (a_mul n_10 hR) rfl) n_1) (by rw [Nat.pow_succ]; omega) hun' ?_)
        · rw [show 4 - (k + 1) = 3 - k by omega, mpd_s _ _ hne, ← hq4, ← he]
          omega
  refine zc_of zkX11_sayingOver [8] 60 (Nat.le_of_ble_eq_true rfl) ?_
  exact L 0 (by omega) 0 1000 0 rfl (by omega) rfl (by rw [show v / 10 ^ (4 - 0) = 0 from Nat.div_eq_of_lt hv4, mpd_0])
