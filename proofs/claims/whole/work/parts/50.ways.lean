/-! Ways of the class -/
theorem rx_lo {c d : Nat → Nat} {f t w : Nat} (hc : c t ≤ c f + w) (h : ∀ v, c v ≤ d v) : ∀ v, c v ≤ nup d t (d f + w) v := by
  intro v
  by_cases q : v = t
  · rw [q, nup_s]; have := h f; omega
  · rw [nup_n _ _ q]; exact h v
theorem rx_hi {d : Nat → Nat} {f t w : Nat} (hl : d f + w < d t) : ∀ v, nup d t (d f + w) v ≤ d v := by
  intro v
  by_cases q : v = t
  · rw [q, nup_s]; omega
  · rw [nup_n _ _ q]; exact Nat.le_refl _
theorem upd_nu {g : Nat → Int32} {d : Nat → Nat} {n t x : Nat} (h : ∀ c, c < n → g c = nI (d c)) : ∀ c, c < n → upd g t (nI x) c = nI (nup d t x c) := by
  intro c hc
  by_cases q : c = t
  · rw [q, pk_us, nup_s]
  · rw [pk_un q, nup_n _ _ q]; exact h c hc
theorem k_X9_price {Q : Option Value → zM → Prop} {M : zM} {T : zTn} {x : Int32} {i : Nat} (hv : zTv T) (hT : zTc T M) (hx : x = nI i) (hi : i < tC T) (h : Q (some (.int (nI (16 * tP T i + 1)))) M) : zCon fX9_price [.ref 28, .int x] M Q := by
  have hC := zTv_C hv
  refine zc_of zkX9_price [] 60 (Nat.le_of_ble_eq_true rfl) (zix i hx (show i < 10 by omega) ?_)
  have e : M 9 i * 16 + 1 = nI (16 * tP T i + 1) := by rw [a_add (a_mul (hT.2.2.2.2.2.2.2.2.2.2 i hi) n_16) n_1, Nat.mul_comm]
  rw [← e] at h
  exact h
theorem k_X9_lower {Q : Option Value → zM → Prop} {M : zM} {x y z : Int32} {f t w : Nat} {d : Nat → Nat} (hg : ∀ c, c < 7 → M 29 c = nI (d c)) (hd : ∀ c, d c ≤ 100000000) (hx : x = nI f) (hy : y = nI t) (hz : z = nI w) (hf : f < 7) (ht : t < 7) (hw : w ≤ 10000) (h1 : d f + w < d t → Q (some (.int 1)) (zu M 29 t (nI (d f + w)))) (h0 : d t ≤ d f + w → Q (some (.int 0)) M) : zCon fX9_lower [.ref 28, .int x, .int y, .int z] M Q := by
  have a := hd f
  have b := hd t
  refine zc_of zkX9_lower [] 60 (Nat.le_of_ble_eq_true rfl) (zix f hx hf (zix t hy ht ?_))
  refine iLt (a_add (hg f hf) hz) (hg t ht) (by omega) (by omega) (fun c => zix f hx hf (zix t hy ht ⟨Or.inr rfl, ?_⟩)) (fun c => ⟨Or.inl rfl, h0 c⟩)
  rw [a_add (hg f hf) hz]
  exact h1 c
theorem k_X8_otherEnd {Q : Option Value → zM → Prop} {M : zM} {T : zTn} {x y : Int32} {i v : Nat} (hv : zTv T) (hT : zTc T M) (hx : x = nI i) (hi : i < tC T) (hy : y = nI v) (hvl : v < 2 ^ 31) (h1 : (tA T i = v ∨ tB T i = v) → Q (some (.int (nI (oe T i v)))) M) (h0 : ¬ (tA T i = v ∨ tB T i = v) → Q (some (.int (-1))) M) : zCon fX8_otherEnd [.ref 1, .int x, .int y] M Q := by
  have hC := zTv_C hv
  have hS := zTv_S hv
  obtain ⟨i1, i2, i3, i4, i5, i6⟩ := zTv_i hv hi
  have eA := hT.2.2.2.2.2.2.1 i hi
  have eB := hT.2.2.2.2.2.2.2.1 i hi
  refine zc_of zkX8_otherEnd [] 60 (Nat.le_of_ble_eq_true rfl) (zix i hx (show i < 10 by omega) ?_)
  refine iNe eA hy (by omega) hvl (fun c => zix i hx (show i < 10 by omega) ?_) (fun c => zix i hx (show i < 10 by omega) ?_)
  · refine iNe eB hy (by omega) hvl (fun d => h0 (fun q => by rcases q with q | q; exact c q; exact d q)) (fun d => zix i hx (show i < 10 by omega) ?_)
    have h := h1 (Or.inr d)
    unfold oe at h
    rw [if_neg c, ← eA] at h
    exact h
  · have h := h1 (Or.inl c)
    unfold oe at h
    rw [if_pos c, ← eB] at h
    exact h
theorem zsetset {M : zM} {k t : Nat} {g : Nat → Int32} {v : Int32} : zu (zset M k g) k t v = zset M k (upd g t v) := by unfold zu; rw [zset_s, zset_u]
theorem k_X9_measure {Q : Option Value → zM → Prop} {M : zM} {T : zTn} {a : zAf} {x : Int32} {b : Nat} (hv : zTv T) (hT : zTc T M) (ha : cA T a (M 22)) (hva : vA T a) (hx : x = nI b) (hb : b < tS T) (h : ∀ g, (∀ c, c < 7 → g c = nI (dC T (aS a) b c)) → Q none (zset M 29 g)) : zCon fX9_measure [.ref 28, .int x] M Q := by
  have hS := zTv_S hv
  have hC := zTv_C hv
  have hsh := vA_S hv hva
  have bd := eW_bd (K := 16) (s := aS a) hv
  have hT' : ∀ g, zTc T (zset M 29 g) := fun g => zTc_fr (fun k h1 h2 => zset_n _ _ (by omega)) hT
  have d0le : ∀ (d : Nat → Nat) k, (∀ v, d v ≤ dw 16 100000000 T (aS a) b k v) → ∀ v, d v ≤ 100000000 := fun d k hd v => by
    have h1 := hd v
    have h2 : dw 16 100000000 T (aS a) b k v ≤ (if v = b then 0 else 100000000) := jr_an (r := 0) (Nat.zero_le _) v
    split at h2 <;> omega
  have L : ∀ k, k ≤ 7 → ∀ y (ch : Bool) (g : Nat → Int32) (d : Nat → Nat), y = nI k → (∀ c, c < 7 → g c = nI (d c)) → (∀ v, dC T (aS a) b v ≤ d v) → (∀ v, d v ≤ dw 16 100000000 T (aS a) b k v) → (ch = false → ∀ e, e ∈ eW 16 T (aS a) (tC T) → d e.2.1 ≤ d e.1 + e.2.2) → zEv fX9_measure Q 29 [(0, .ref 28), (1, .int x), (2, .ref 1), (3, .int (zbl ch)), (4, .int y)] [] (zset M 29 g) := by
    refine zloop 7 ?_ ?_
    · intro y ch g d hy hg hlo hhi hcl
      refine zev_go zkX9_measure [29] 60 (iGe hy n_7 (by omega) (by decide) (fun _ => ?_) (fun q => absurd q (by omega)))
      refine h g (fun c hc => ?_)
      rw [hg c hc]
      exact congrArg nI (jr_eq bd hlo (Or.inl (fun v => Nat.le_trans (hhi v) (jr_an (by omega) v))) c)
    · intro k hk ih y ch g d hy hg hlo hhi hcl
      refine zev_go zkX9_measure [45] 60 (iGe hy n_7 (by omega) (by decide) (fun q => absurd q (by omega)) (fun _ => ?_))
      cases ch with
      | false =>
        refine bF (h g (fun c hc => ?_))
        rw [hg c hc]
        exact congrArg nI (jr_eq bd hlo (Or.inr ⟨hcl rfl, fun v => Nat.le_trans (hhi v) (jr_an (r := 0) (Nat.zero_le _) v)⟩) c)
      | true =>
        refine bT ?_
        have I : ∀ i, i ≤ tC T → ∀ z fl (ch : Bool) (g : Nat → Int32) (d : Nat → Nat), fl = zbl ch → z = nI i → (∀ c, c < 7 → g c = nI (d c)) → (∀ v, dC T (aS a) b v ≤ d v) → (∀ v, d v ≤ dw 16 100000000 T (aS a) b k v) → (∀ e, e ∈ eW 16 T (aS a) i → d e.2.1 ≤ dw 16 100000000 T (aS a) b k e.1 + e.2.2) → (ch = false → ∀ e, e ∈ eW 16 T (aS a) i → d e.2.1 ≤ d e.1 + e.2.2) → zEv fX9_measure Q 45 [(0, .ref 28), (1, .int x), (2, .ref 1), (3, .int fl), (4, .int y), (5, .int z)] [] (zset M 29 g) := by
          refine zloop (tC T) ?_ ?_
          · intro z fl ch g d hfl hz hg hlo hhi hpr hcl
            subst hfl
            refine zev_go zkX9_measure [29] 60 (iGe hz (show (zset M 29 g) 1 3 = nI (tC T) from (hT' g).2.2.1) (by omega) (by omega) (fun _ => ?_) (fun q => absurd q (by omega)))
            exact zev_pick [0, 1, 2, 3, 4] (ih _ ch g d (by rw [hy, nI_1]) hg hlo (jr_up hhi hpr) hcl)
          · intro i hi ihI z fl ch g d hfl hz hg hlo hhi hpr hcl
            obtain ⟨i1, i2, i3, i4, i5, i6⟩ := zTv_i hv hi
            refine zev_go zkX9_measure [45, 96] 60 (iGe hz (show (zset M 29 g) 1 3 = nI (tC T) from (hT' g).2.2.1) (by omega) (by omega) (fun q => absurd q (by omega)) (fun _ => ?_))
            refine k_X0_isShut hz (by omega) (show (zset M 29 g) 22 2 = nI (aS a) from ha.2.2.1) hsh (fun q => cT ?_) (fun q => cF ?_)
            · have e : eW 16 T (aS a) (i + 1) = eW 16 T (aS a) i := by rw [eW_s, if_pos q]
              exact ihI _ _ ch g d hfl (by rw [hz, nI_1]) hg hlo hhi (by rw [e]; exact hpr) (by rw [e]; exact hcl)
            · have e : eW 16 T (aS a) (i + 1) = (tA T i, tB T i, 16 * tP T i + 1) :: (tB T i, tA T i, 16 * tP T i + 1) :: eW 16 T (aS a) i := by rw [eW_s, if_neg (by rw [q]; decide)]
              have c1 : dC T (aS a) b (tB T i) ≤ dC T (aS a) b (tA T i) + (16 * tP T i + 1) := jr_cd bd (eW_mem.mpr ⟨i, hi, q, Or.inl rfl⟩)
              have c2 : dC T (aS a) b (tA T i) ≤ dC T (aS a) b (tB T i) + (16 * tP T i + 1) := jr_cd bd (eW_mem.mpr ⟨i, hi, q, Or.inr rfl⟩)
              have eA := fun g => (hT' g).2.2.2.2.2.2.1 i hi
              have eB := fun g => (hT' g).2.2.2.2.2.2.2.1 i hi
              have J : ∀ fl (ch : Bool) (g : Nat → Int32) (d : Nat → Nat), fl = zbl ch → (∀ c, c < 7 → g c = nI (d c)) → (∀ v, dC T (aS a) b v ≤ d v) → (∀ v, d v ≤ dw 16 100000000 T (aS a) b k v) → (∀ e, e ∈ (tA T i, tB T i, 16 * tP T i + 1) :: eW 16 T (aS a) i → d e.2.1 ≤ dw 16 100000000 T (aS a) b k e.1 + e.2.2) → (ch = false → ∀ e, e ∈ (tA T i, tB T i, 16 * tP T i + 1) :: eW 16 T (aS a) i → d e.2.1 ≤ d e.1 + e.2.2) → zEv fX9_measure Q 96 [(0, .ref 28), (1, .int x), (2, .ref 1), (3, .int fl), (4, .int y), (5, .int z)] [] (zset M 29 g) := by
                intro fl ch g d hfl hg hlo hhi hpr hcl
                refine zev_go zkX9_measure [45] 60 (zix i hz (show i < 10 by omega) (zix i hz (show i < 10 by omega) ?_))
                refine k_X9_price hv (hT' g) hz hi ?_
                refine k_X9_lower (d := d) (by rw [zset_s]; exact hg) (d0le d k hhi) (eB g) (eA g) rfl (by omega) (by omega) (by omega) (fun c => ?_) (fun c => ?_)
                · rw [zsetset]
                  have nh := rx_hi c
                  have t1 : fl ||| 1 = zbl true := by rw [hfl]; cases ch <;> rfl
                  refine ihI _ _ true _ (nup d (tA T i) (d (tB T i) + (16 * tP T i + 1))) t1 (by rw [hz, nI_1]) (upd_nu hg) (rx_lo c2 hlo) (fun v => Nat.le_trans (nh v) (hhi v)) (fun f hf => ?_) (fun q => absurd q (by decide))
                  rw [e] at hf
                  rcases List.mem_cons.mp hf with r | r
                  · exact Nat.le_trans (nh _) (hpr f (by rw [r]; exact List.mem_cons_self))
                  · rcases List.mem_cons.mp r with r | r
                    · subst r
                      show nup d (tA T i) (d (tB T i) + (16 * tP T i + 1)) (tA T i) ≤ _
                      rw [nup_s]
                      have := hhi (tB T i)
                      show _ ≤ dw 16 100000000 T (aS a) b k (tB T i) + (16 * tP T i + 1)
                      omega
                    · exact Nat.le_trans (nh _) (hpr f (List.mem_cons_of_mem _ r))
                · have t1 : fl ||| 0 = zbl ch := by rw [hfl]; cases ch <;> rfl
                  refine ihI _ _ ch g d t1 (by rw [hz, nI_1]) hg hlo hhi (fun f hf => ?_) (fun hch f hf => ?_)
                  · rw [e] at hf
                    rcases List.mem_cons.mp hf with r | r
                    · exact hpr f (by rw [r]; exact List.mem_cons_self)
                    · rcases List.mem_cons.mp r with r | r
                      · subst r
                        have := hhi (tB T i)
                        show d (tA T i) ≤ dw 16 100000000 T (aS a) b k (tB T i) + (16 * tP T i + 1)
                        omega
                      · exact hpr f (List.mem_cons_of_mem _ r)
                  · rw [e] at hf
                    rcases List.mem_cons.mp hf with r | r
                    · exact hcl hch f (by rw [r]; exact List.mem_cons_self)
                    · rcases List.mem_cons.mp r with r | r
                      · subst r; exact c
                      · exact hcl hch f (List.mem_cons_of_mem _ r)
              refine zix i hz (show i < 10 by omega) (zix i hz (show i < 10 by omega) ?_)
              refine k_X9_price hv (hT' g) hz hi ?_
              refine k_X9_lower (d := d) (by rw [zset_s]; exact hg) (d0le d k hhi) (eA g) (eB g) rfl (by omega) (by omega) (by omega) (fun c => ?_) (fun c => ?_)
              · rw [zsetset]
                have nh := rx_hi c
                have t1 : fl ||| 1 = zbl true := by rw [hfl]; cases ch <;> rfl
                refine J _ true _ (nup d (tB T i) (d (tA T i) + (16 * tP T i + 1))) t1 (upd_nu hg) (rx_lo c1 hlo) (fun v => Nat.le_trans (nh v) (hhi v)) (fun f hf => ?_) (fun q => absurd q (by decide))
                rcases List.mem_cons.mp hf with r | r
                · subst r
                  show nup d (tB T i) (d (tA T i) + (16 * tP T i + 1)) (tB T i) ≤ _
                  rw [nup_s]
                  have := hhi (tA T i)
                  show _ ≤ dw 16 100000000 T (aS a) b k (tA T i) + (16 * tP T i + 1)
                  omega
                · exact Nat.le_trans (nh _) (hpr f r)
              · have t1 : fl ||| 0 = zbl ch := by rw [hfl]; cases ch <;> rfl
                refine J _ ch g d t1 hg hlo hhi (fun f hf => ?_) (fun hch f hf => ?_)
                · rcases List.mem_cons.mp hf with r | r
                  · subst r
                    have := hhi (tA T i)
                    show d (tB T i) ≤ dw 16 100000000 T (aS a) b k (tA T i) + (16 * tP T i + 1)
                    omega
                  · exact hpr f r
                · rcases List.mem_cons.mp hf with r | r
                  · subst r; exact c
                  · exact hcl hch f r
        exact I 0 (by omega) 0 0 false g d rfl rfl hg hlo hhi (fun e he => absurd he (by simp [eW])) (fun _ e he => absurd he (by simp [eW]))
  refine zc_of zkX9_measure [29] 60 (Nat.le_of_ble_eq_true rfl) (k_fill_29 (zix b hx (show b < 7 by omega) ?_))
  rw [zsetset]
  refine L 0 (by omega) 0 true _ (fun v => if v = b then 0 else 100000000) rfl (fun c hc => ?_) (fun v => jr_an (r := 0) (Nat.zero_le _) v) (fun v => Nat.le_refl _) (fun q => absurd q (by decide))
  by_cases q : c = b
  · rw [if_pos q, q, pk_us]; rfl
  · rw [if_neg q, pk_un q]; unfold zfill; rw [if_pos hc]; rfl
