/-! spreading, in the class -/
theorem k_X4_spread {Q : Option Value → zM → Prop} {M : zM} {T : zTn} {a : zAf} {p : Bool} {S : Nat → Bool} {x0 : Nat} {g : Nat → Int32} (hv : zTv T) (hT : zTc T M) (ha : cA T a (M 22)) (hva : vA T a) (hx0 : x0 ≤ 1) (hg : ∀ c, c < 56 → g c = nI (d0m 100000000 S x0 c)) (h : ∀ g', (∀ c, c < 56 → g' c = nI (mc T a p S x0 c)) → Q none (zset M 32 g')) : zCon fX4_spread [.ref 31, .int (zbl p)] (zset M 32 g) Q := by
  have hN := zTv_N hv
  have hS := zTv_S hv
  have hC := zTv_C hv
  have hsh := vA_S hv hva
  have bd := eM_bd (a := a) (p := p) hv
  have hT' : ∀ g, zTc T (zset M 32 g) := fun g => zTc_fr (fun k h1 h2 => zset_n _ _ (by omega)) hT
  have d0le : ∀ (d : Nat → Nat) k, (∀ v, d v ≤ dm 100000000 T a p S x0 k v) → ∀ v, d v ≤ 100000000 := fun d k hd v => by
    have h1 := hd v
    have h2 : dm 100000000 T a p S x0 k v ≤ d0m 100000000 S x0 v := jr_an (r := 0) (Nat.zero_le _) v
    have h3 := d0m_le (F := 100000000) (S := S) (x0 := x0) (by omega) v
    omega
  have L : ∀ k, k ≤ 57 → ∀ y fl (ch : Bool) (g : Nat → Int32) (d : Nat → Nat), y = nI k → fl = zbl ch → (∀ c, c < 56 → g c = nI (d c)) → (∀ v, mc T a p S x0 v ≤ d v) → (∀ v, d v ≤ dm 100000000 T a p S x0 k v) → (ch = false → ∀ e, e ∈ eM T a p (tC T) → d e.2.1 ≤ d e.1 + e.2.2) → zEv fX4_spread Q 4 [(0, .ref 31), (1, .int (zbl p)), (2, .int fl), (3, .int y)] [] (zset M 32 g) := by
    refine zloop 57 ?_ ?_
    · intro y fl ch g d hy hfl hg hlo hhi hcl
      refine zev_go zkX4_spread [4] 60 (iLt n_56 hy (by omega) (by omega) (fun _ => ?_) (fun q => absurd q (by omega)))
      refine h g (fun c hc => ?_)
      rw [hg c hc]
      exact congrArg nI (jr_eq bd hlo (Or.inl (fun v => Nat.le_trans (hhi v) (jr_an (by omega) v))) c)
    · intro k hk ih y fl ch g d hy hfl hg hlo hhi hcl
      refine zev_go zkX4_spread [19] 60 (iLt n_56 hy (by omega) (by omega) (fun q => absurd q (by omega)) (fun _ => ?_))
      cases ch with
      | false =>
        subst hfl
        refine bF (h g (fun c hc => ?_))
        rw [hg c hc]
        exact congrArg nI (jr_eq bd hlo (Or.inr ⟨hcl rfl, fun v => Nat.le_trans (hhi v) (jr_an (r := 0) (Nat.zero_le _) v)⟩) c)
      | true =>
        subst hfl
        refine bT ?_
        have I : ∀ i, i ≤ tC T → ∀ z fl (ch : Bool) (g : Nat → Int32) (d : Nat → Nat), fl = zbl ch → z = nI i → (∀ c, c < 56 → g c = nI (d c)) → (∀ v, mc T a p S x0 v ≤ d v) → (∀ v, d v ≤ dm 100000000 T a p S x0 k v) → (∀ e, e ∈ eM T a p i → d e.2.1 ≤ dm 100000000 T a p S x0 k e.1 + e.2.2) → (ch = false → ∀ e, e ∈ eM T a p i → d e.2.1 ≤ d e.1 + e.2.2) → zEv fX4_spread Q 19 [(0, .ref 31), (1, .int (zbl p)), (2, .int fl), (3, .int y), (4, .int z)] [] (zset M 32 g) := by
          refine zloop (tC T) ?_ ?_
          · intro z fl ch g d hfl hz hg hlo hhi hpr hcl
            refine zev_go zkX4_spread [4] 60 (iGe hz (hT' g).2.2.1 (by omega) (by omega) (fun _ => ?_) (fun q => absurd q (by omega)))
            exact zev_pick [0, 1, 2, 3] (ih _ _ ch g d (by rw [hy, nI_1]) hfl hg hlo (jr_up hhi hpr) hcl)
          · intro i hi ihI z fl ch g d hfl hz hg hlo hhi hpr hcl
            have i10 : i < 10 := by omega
            refine zev_go zkX4_spread [19, 70] 60 (iGe hz (hT' g).2.2.1 (by omega) (by omega) (fun q => absurd q (by omega)) (fun _ => ?_))
            refine k_X0_isShut hz (by omega) (show (zset M 32 g) 22 2 = nI (aS a) from ha.2.2.1) hsh (fun q => cT ?_) (fun q => cF ?_)
            · have e : eM T a p (i + 1) = eM T a p i := by rw [eM_s, if_pos q]
              exact ihI _ _ ch g d hfl (by rw [hz, nI_1]) hg hlo hhi (by rw [e]; exact hpr) (by rw [e]; exact hcl)
            · have cl : ∀ b w, w < tN T → mc T a p S x0 (ed T a p i b w).2.1 ≤ mc T a p S x0 (ed T a p i b w).1 + (ed T a p i b w).2.2 := fun b w hw => jr_cd bd (eM_mem.mpr ⟨i, hi, q, b, w, hw, rfl⟩)
              have e : eM T a p (i + 1) = mE T a p i false (tN T) ++ (mE T a p i true (tN T) ++ eM T a p i) := by rw [eM_s, if_neg (by rw [q]; decide)]
              have J : ∀ u, u = nI (eC T p i) → zEv fX4_spread Q 70 [(0, .ref 31), (1, .int (zbl p)), (2, .int fl), (3, .int y), (4, .int z)] [.int u] (zset M 32 g) := by
                intro u hu
                refine zev_go zkX4_spread [19] 60 ?_
                refine k_X4_spreadBy (b := false) (p := p) (d := d) hv hT ha hva hz hi hu hg (d0le d k hhi) (fun c1 g1 d1 hg1 le1 lo1 pr1 ch1 => ?_)
                refine k_X4_spreadBy (b := true) (p := p) (d := d1) hv hT ha hva hz hi hu hg1 (fun v => Nat.le_trans (le1 v) (d0le d k hhi v)) (fun c2 g2 d2 hg2 le2 lo2 pr2 ch2 => ?_)
                refine zev_pick [0, 1, 2, 3, 4] (ihI _ _ (ch || c1 || c2) g2 d2 (by rw [hfl]; cases ch <;> cases c1 <;> cases c2 <;> rfl) (by rw [hz, nI_1]) hg2 (lo2 _ (cl true) (lo1 _ (cl false) hlo)) (fun v => Nat.le_trans (le2 v) (Nat.le_trans (le1 v) (hhi v))) (fun f hf => ?_) (fun hch f hf => ?_))
                · rw [e, List.mem_append, List.mem_append] at hf
                  rcases hf with hf | hf | hf
                  · obtain ⟨w, h1, h2⟩ := mE_mem.mp hf
                    have k1 := pr1 w h1
                    have k2 := le2 (ed T a p i false w).2.1
                    have k3 := hhi (ed T a p i false w).1
                    rw [h2]
                    omega
                  · obtain ⟨w, h1, h2⟩ := mE_mem.mp hf
                    have k1 := pr2 w h1
                    have k2 := le1 (ed T a p i true w).1
                    have k3 := hhi (ed T a p i true w).1
                    rw [h2]
                    omega
                  · exact Nat.le_trans (le2 _) (Nat.le_trans (le1 _) (hpr f hf))
                · have hc0 : ch = false := by cases ch; rfl; cases c1 <;> cases c2 <;> cases hch
                  have hc1 : c1 = false := by cases c1; rfl; cases ch <;> cases c2 <;> cases hch
                  have hc2 : c2 = false := by cases c2; rfl; cases ch <;> cases c1 <;> cases hch
                  have e1 := ch1 hc1
                  have e2 := ch2 hc2
                  rw [e2, e1]
                  rw [e2, e1] at pr2
                  rw [e1] at pr1
                  rw [e, List.mem_append, List.mem_append] at hf
                  rcases hf with hf | hf | hf
                  · obtain ⟨w, h1, h2⟩ := mE_mem.mp hf
                    rw [h2]; exact pr1 w h1
                  · obtain ⟨w, h1, h2⟩ := mE_mem.mp hf
                    rw [h2]; exact pr2 w h1
                  · exact hcl hc0 f hf
              cases p with
              | true => exact bT (zix i hz i10 (J _ ((hT' g).2.2.2.2.2.2.2.2.2.2 i hi)))
              | false => exact bF (J _ rfl)
        exact I 0 (by omega) 0 0 false g d rfl rfl hg hlo hhi (fun e he => absurd he (by simp [eM])) (fun _ e he => absurd he (by simp [eM]))
  refine zc_of zkX4_spread [4] 60 (Nat.le_of_ble_eq_true rfl) ?_
  exact L 0 (by omega) 0 1 true g (d0m 100000000 S x0) rfl rfl hg (fun v => jr_an (r := 0) (Nat.zero_le _) v) (fun v => Nat.le_refl _) (fun q => absurd q (by decide))
theorem k_X4_known {Q : Option Value → zM → Prop} {M : zM} {T : zTn} {a : zAf} {p : Bool} {S : Nat → Bool} {x0 b v : Nat} {x y : Int32} (hc : ∀ c, c < 56 → M 32 c = nI (mc T a p S x0 c)) (hl : ∀ c, mc T a p S x0 c ≤ 100000000) (hx : x = nI b) (hy : y = nI v) (hb : b < 7) (hw : v < 8) (h : Q (some (.int (mAns T a p S x0 (b * 8 + v)))) M) : zCon fX4_known [.ref 31, .int x, .int y] M Q := by
  have l := hl (b * 8 + v)
  refine zc_of zkX4_known [] 60 (Nat.le_of_ble_eq_true rfl) (zix (b * 8 + v) (a_add (a_mul hx n_8) hy) (show b * 8 + v < 56 by omega) ?_)
  unfold mAns at h
  refine iGe (hc _ (by omega)) n_100000000 (by omega) (by decide) (fun c => ?_) (fun c => ?_)
  · rw [if_neg (by omega)] at h
    exact h
  · rw [if_pos c, ← hc _ (by omega)] at h
    exact h
theorem mc_le {T : zTn} {a : zAf} {p : Bool} {S : Nat → Bool} {x0 : Nat} (hx0 : x0 ≤ 1) (c : Nat) : mc T a p S x0 c ≤ 100000000 := by
  have h2 : mc T a p S x0 c ≤ d0m 100000000 S x0 c := jr_an (r := 0) (Nat.zero_le _) c
  have h3 := d0m_le (F := 100000000) (S := S) (x0 := x0) (by omega) c
  omega
theorem mm_le {T : zTn} {a : zAf} {p : Bool} {S : Nat → Bool} {x0 : Nat} (hx0 : x0 ≤ 1) (c : Nat) : mm T a p S x0 c ≤ 1000000 := by
  have h2 : mm T a p S x0 c ≤ d0m 1000000 S x0 c := jr_an (r := 0) (Nat.zero_le _) c
  have h3 := d0m_le (F := 1000000) (S := S) (x0 := x0) (by omega) c
  omega
def sT (a w : Nat) : Nat → Bool := fun v => Nat.beq v (a * 8 + w)
theorem k_X4_leastThrough {Q : Option Value → zM → Prop} {M : zM} {T : zTn} {f : zAf} {p : Bool} {a w b v : Nat} {x1 x2 x3 x4 : Int32} (hv : zTv T) (hT : zTc T M) (ha : cA T f (M 22)) (hva : vA T f) (h1 : x1 = nI a) (h2 : x2 = nI w) (h3 : x3 = nI b) (h4 : x4 = nI v) (l1 : a < tS T) (l2 : w < tN T) (l3 : b < tS T) (l4 : v < tN T) (h : ∀ g, Q (some (.int (mAns T f p (sT a w) 0 (b * 8 + v)))) (zset M 32 g)) : zCon fX4_leastThrough [.ref 31, .int x1, .int x2, .int x3, .int x4, .int (zbl p)] M Q := by
  have hN := zTv_N hv
  have hS := zTv_S hv
  refine zc_of zkX4_leastThrough [] 60 (Nat.le_of_ble_eq_true rfl) (k_fill_32 (zix (a * 8 + w) (a_add (a_mul h1 n_8) h2) (show a * 8 + w < 56 by omega) ?_))
  rw [zsetset]
  refine k_X4_spread (p := p) (S := sT a w) (x0 := 0) hv hT ha hva (by omega) (fun c hc => ?_) (fun g' hg' => ?_)
  · unfold d0m sT
    by_cases q : c = a * 8 + w
    · rw [q, pk_us, beqT rfl]; rfl
    · rw [pk_un q, beqF q]; unfold zfill; rw [if_pos hc]; rfl
  · exact k_X4_known (T := T) (a := f) (p := p) (S := sT a w) (x0 := 0) (by rw [zset_s]; exact hg') (mc_le (by omega)) h3 h4 (by omega) (by omega) (h g')
def exB (p : Nat → Bool) : Nat → Bool
  | 0 => false
  | n + 1 => exB p n || p n
/-- the places right after the first corner -/
def rgP (T : zTn) (f : zAf) (a w i : Nat) : Nat := oe T i a * 8 + ovr T f i (Nat.beq (tB T i) a) w
def rgS (T : zTn) (f : zAf) (a w n : Nat) : Nat → Bool := fun v => exB (fun i => (!((aS f).testBit i)) && (adj T i a && Nat.beq v (rgP T f a w i))) n
theorem rgP_lt {T : zTn} {f : zAf} {a w i : Nat} (hv : zTv T) (hi : i < tC T) (hw : w < tN T) : rgP T f a w i < 56 := by
  have hN := zTv_N hv
  have hS := zTv_S hv
  have l := ovr_lt (a := f) (b := Nat.beq (tB T i) a) hv hi hw
  have o := oe_lt (v := a) hv hi
  unfold rgP
  omega
theorem rgS_n {T : zTn} {f : zAf} {a w i : Nat} (h : (aS f).testBit i = true ∨ ¬ (tA T i = a ∨ tB T i = a)) : rgS T f a w (i + 1) = rgS T f a w i := by
  funext v
  show (rgS T f a w i v || ((!((aS f).testBit i)) && (adj T i a && Nat.beq v (rgP T f a w i)))) = _
  rcases h with h | h
  · rw [h]; simp
  · have : adj T i a = false := by cases q : adj T i a with
      | false => rfl
      | true => exact absurd (adj_iff.mp q) h
    rw [this]; simp
theorem rgS_y {T : zTn} {f : zAf} {a w i : Nat} (h1 : (aS f).testBit i = false) (h2 : tA T i = a ∨ tB T i = a) (v : Nat) : rgS T f a w (i + 1) v = (rgS T f a w i v || Nat.beq v (rgP T f a w i)) := by
  show (rgS T f a w i v || ((!((aS f).testBit i)) && (adj T i a && Nat.beq v (rgP T f a w i)))) = _
  rw [h1, adj_iff.mpr h2]
  simp
theorem d0m_up {F : Nat} {T : zTn} {f : zAf} {a w i : Nat} {g : Nat → Int32} (h1 : (aS f).testBit i = false) (h2 : tA T i = a ∨ tB T i = a) (hg : ∀ c, c < 56 → g c = nI (d0m F (rgS T f a w i) 1 c)) : ∀ c, c < 56 → upd g (rgP T f a w i) 1 c = nI (d0m F (rgS T f a w (i + 1)) 1 c) := by
  intro c hc
  unfold d0m
  rw [rgS_y h1 h2]
  by_cases q : c = rgP T f a w i
  · rw [q, pk_us, beqT rfl, Bool.or_true]; rfl
  · rw [pk_un q, beqF q, Bool.or_false]; exact hg c hc
theorem k_X4_shortestRing {Q : Option Value → zM → Prop} {M : zM} {T : zTn} {f : zAf} {a w v : Nat} {x1 x2 x3 : Int32} (hv : zTv T) (hT : zTc T M) (ha : cA T f (M 22)) (hva : vA T f) (h1 : x1 = nI a) (h2 : x2 = nI w) (h3 : x3 = nI v) (l1 : a < tS T) (l2 : w < tN T) (l3 : v < tN T) (h : ∀ g, Q (some (.int (mAns T f false (rgS T f a w (tC T)) 1 (a * 8 + v)))) (zset M 32 g)) : zCon fX4_shortestRing [.ref 31, .int x1, .int x2, .int x3] M Q := by
  have hN := zTv_N hv
  have hS := zTv_S hv
  have hC := zTv_C hv
  have hsh := vA_S hv hva
  have hT' : ∀ g, zTc T (zset M 32 g) := fun g => zTc_fr (fun k h1 h2 => zset_n _ _ (by omega)) hT
  have L : ∀ i, i ≤ tC T → ∀ y (g : Nat → Int32), y = nI i → (∀ c, c < 56 → g c = nI (d0m 100000000 (rgS T f a w i) 1 c)) → zEv fX4_shortestRing Q 12 [(0, .ref 31), (1, .int x1), (2, .int x2), (3, .int x3), (4, .int y)] [] (zset M 32 g) := by
    refine zloop (tC T) ?_ ?_
    · intro y g hy hg
      refine zev_go zkX4_shortestRing [12] 60 (iGe hy (hT' g).2.2.1 (by omega) (by omega) (fun _ => ?_) (fun q => absurd q (by omega)))
      refine k_X4_spread (p := false) (S := rgS T f a w (tC T)) (x0 := 1) hv hT ha hva (by omega) hg (fun g' hg' => ?_)
      exact k_X4_known (T := T) (a := f) (p := false) (S := rgS T f a w (tC T)) (x0 := 1) (by rw [zset_s]; exact hg') (mc_le (by omega)) h1 h3 (by omega) (by omega) (h g')
    · intro i hi ih y g hy hg
      obtain ⟨i1, i2, i3, i4, i5, i6⟩ := zTv_i hv hi
      have i10 : i < 10 := by omega
      have no : ∀ u, ((aS f).testBit i = true ∨ ¬ (tA T i = a ∨ tB T i = a)) → zEv fX4_shortestRing Q 107 [(0, .ref 31), (1, .int x1), (2, .int x2), (3, .int x3), (4, .int y), (5, .int u)] [] (zset M 32 g) := fun u q =>
        zev_go zkX4_shortestRing [12] 60 (zev_pick [0, 1, 2, 3, 4] (ih _ g (by rw [hy, nI_1]) (by rw [rgS_n q]; exact hg)))
      refine zev_go zkX4_shortestRing [12, 107] 60 (iGe hy (hT' g).2.2.1 (by omega) (by omega) (fun q => absurd q (by omega)) (fun _ => ?_))
      refine k_X8_otherEnd hv (hT' g) hy hi h1 (by omega) (fun q => bf_ (fun r => ?_) ?_) (fun q => bt_ rfl (no _ (Or.inr q)))
      · have h2 := m1_out (n := 7) (by omega) r
        rw [ix_in (by have := oe_lt (v := a) hv hi; omega) (by omega)] at h2
        cases h2
      · refine k_X0_isShut hy (by omega) (show (zset M 32 g) 22 2 = nI (aS f) from ha.2.2.1) hsh (fun r => cT (no _ (Or.inl r))) (fun r => cF (zix i hy i10 ?_))
        have pl := rgP_lt (f := f) (a := a) hv hi l2
        have fin : ∀ z, z = rgP T f a w i → ∀ u, zEv fX4_shortestRing Q 107 [(0, .ref 31), (1, .int x1), (2, .int x2), (3, .int x3), (4, .int y), (5, .int u)] [] (zset M 32 (upd g z 1)) := by
          intro z hz u
          subst hz
          exact zev_go zkX4_shortestRing [12] 60 (zev_pick [0, 1, 2, 3, 4] (ih _ _ (by rw [hy, nI_1]) (d0m_up r q hg)))
        refine iNe ((hT' g).2.2.2.2.2.2.2.1 i hi) h1 (by omega) (by omega) (fun c => ?_) (fun c => ?_)
        · refine k_X2_wordOver (b := false) hv (hT' g) ha hva hy hi h2 l2 (zix (rgP T f a w i) ?_ pl ?_)
          · unfold rgP; rw [beqF c]; exact a_add (a_mul rfl n_8) rfl
          · rw [zsetset]; exact fin _ rfl _
        · refine k_X2_wordOver (b := true) hv (hT' g) ha hva hy hi h2 l2 (zix (rgP T f a w i) ?_ pl ?_)
          · unfold rgP; rw [beqT c]; exact a_add (a_mul rfl n_8) rfl
          · rw [zsetset]; exact fin _ rfl _
  refine zc_of zkX4_shortestRing [12] 60 (Nat.le_of_ble_eq_true rfl) (k_fill_32 ?_)
  refine L 0 (by omega) 0 _ rfl (fun c hc => ?_)
  unfold zfill d0m rgS exB
  rw [if_pos hc]
  rfl
