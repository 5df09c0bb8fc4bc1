/-! spreading, in the model; through and ring -/
theorem k_X11_stepOver {Q : Option Value → zM → Prop} {M : zM} {T : zTn} {a : zAf} {x y : Int32} {i w : Nat} {b p : Bool} {g : Nat → Int32} {d : Nat → Nat} (hv : zTv T) (hT : zTm T M) (ha : mA T a (M 56)) (hva : vA T a) (hx : x = nI i) (hi : i < tC T) (hy : y = nI w) (hw : w < tN T) (hg : ∀ c, c < 56 → g c = nI (d c)) (hd : ∀ v, d v ≤ 1000000) (hq : ∀ g', (∀ c, c < 56 → g' c = nI (nup d (ed T a p i b w).2.1 (min (d (ed T a p i b w).1 + (ed T a p i b w).2.2) (d (ed T a p i b w).2.1)) c)) → Q none (zset M 69 g')) : zCon fX11_stepOver [.ref 47, .int x, .int (zbl b), .int y, .int (zbl p)] (zset M 69 g) Q := by
  have hN := zTv_N hv
  have hS := zTv_S hv
  have hC := zTv_C hv
  obtain ⟨i1, i2, i3, i4, i5, i6⟩ := zTv_i hv hi
  obtain ⟨b1, b2, b3, b4, b5, b6⟩ := ed_bd (a := a) (p := p) (b := b) hv hi hw
  have b1' : eF T i b * 8 + w < 56 := b1
  have b2' : eT T i b * 8 + ovr T a i b w < 56 := b2
  have b3' : eC T p i ≤ 99 := b3
  have i10 : i < 10 := by omega
  have hT' : zTm T (zset M 69 g) := zTm_fr (M := M) ⟨rfl, rfl, rfl⟩ (fun k h1 h2 => zset_n _ _ (by omega)) hT
  have eA := hT'.2.2.2.2.2.1 i hi
  have eB := hT'.2.2.2.2.2.2.1 i hi
  have eP := hT'.2.2.2.2.2.2.2.2.2 i hi
  have h1 := hd (eF T i b * 8 + w)
  have h2 := hd (eT T i b * 8 + ovr T a i b w)
  have g1 : (zset M 69 g) 69 (eF T i b * 8 + w) = nI (d (eF T i b * 8 + w)) := by rw [zset_s]; exact hg _ b1'
  have g2 : (zset M 69 g) 69 (eT T i b * 8 + ovr T a i b w) = nI (d (eT T i b * 8 + ovr T a i b w)) := by rw [zset_s]; exact hg _ b2'
  have J4 : ∀ v u5 u6 u7, u6 = nI (eT T i b * 8 + ovr T a i b w) → v = nI (min (d (eF T i b * 8 + w) + eC T p i) (d (eT T i b * 8 + ovr T a i b w))) → zEv fX11_stepOver Q 113 [(0, .ref 47), (1, .int x), (2, .int (zbl b)), (3, .int y), (4, .int (zbl p)), (5, .int u5), (6, .int u6), (7, .int u7)] [.int v, .int u6, .ref 69] (zset M 69 g) := by
    intro v u5 u6 u7 h6 hv'
    refine zev_go zkX11_stepOver [] 60 (zix _ h6 b2' ?_)
    rw [zsetset, hv']
    exact hq _ (upd_nu hg)
  have J3 : ∀ v c u5 u6, u6 = nI (eT T i b * 8 + ovr T a i b w) → c = nI (d (eF T i b * 8 + w)) → v = nI (eC T p i) → zEv fX11_stepOver Q 80 [(0, .ref 47), (1, .int x), (2, .int (zbl b)), (3, .int y), (4, .int (zbl p)), (5, .int u5), (6, .int u6)] [.int v, .int c] (zset M 69 g) := by
    intro v c u5 u6 h6 hc hv'
    have e := a_add hc hv'
    refine zev_go zkX11_stepOver [113] 60 (zix _ h6 b2' ?_)
    refine iGe e g2 (by omega) (by omega) (fun q => zix _ h6 b2' (J4 _ _ _ _ h6 ?_)) (fun q => J4 _ _ _ _ h6 ?_)
    · rw [g2, Nat.min_eq_right q]
    · rw [e, Nat.min_eq_left (by omega)]
  have J2 : ∀ v u5, u5 = nI (eF T i b * 8 + w) → v = nI (eT T i b) → zEv fX11_stepOver Q 47 [(0, .ref 47), (1, .int x), (2, .int (zbl b)), (3, .int y), (4, .int (zbl p)), (5, .int u5)] [.int v, .int 8] (zset M 69 g) := by
    intro v u5 h5 hv'
    refine zev_go zkX11_stepOver [80] 60 ?_
    refine k_X11_overAt (b := b) (T := T) (a := a) hv hT' ha hva hx hi hy hw ?_
    have e6 : (8 : Int32) * v + nI (ovr T a i b w) = nI (eT T i b * 8 + ovr T a i b w) := by rw [a_add (a_mul n_8 hv') rfl]; exact congrArg nI (by omega)
    refine zix _ h5 b1' ?_
    cases p with
    | true => exact bT (zix i hx i10 (J3 _ _ _ _ e6 g1 eP))
    | false => exact bF (J3 _ _ _ _ e6 g1 rfl)
  have J1 : ∀ v, v = nI (eF T i b) → zEv fX11_stepOver Q 21 [(0, .ref 47), (1, .int x), (2, .int (zbl b)), (3, .int y), (4, .int (zbl p))] [.int v, .int 8] (zset M 69 g) := by
    intro v hv'
    have e5 : (8 : Int32) * v + y = nI (eF T i b * 8 + w) := by rw [a_add (a_mul n_8 hv') hy]; exact congrArg nI (by omega)
    refine zev_go zkX11_stepOver [47] 60 ?_
    cases b with
    | true => exact bT (zix i hx i10 (J2 _ _ e5 eA))
    | false => exact bF (zix i hx i10 (J2 _ _ e5 eB))
  refine zc_of zkX11_stepOver [21] 60 (Nat.le_of_ble_eq_true rfl) ?_
  cases b with
  | true => exact bT (zix i hx i10 (J1 _ eB))
  | false => exact bF (zix i hx i10 (J1 _ eA))
theorem rxm_lo {c d : Nat → Nat} {e : eE} (hc : c e.2.1 ≤ c e.1 + e.2.2) (h : ∀ v, c v ≤ d v) : ∀ v, c v ≤ nup d e.2.1 (min (d e.1 + e.2.2) (d e.2.1)) v := by
  intro v
  by_cases q : v = e.2.1
  · rw [q, nup_s]; have h1 := h e.1; have h2 := h e.2.1; omega
  · rw [nup_n _ _ q]; exact h v
theorem rxm_hi {d : Nat → Nat} {e : eE} : ∀ v, nup d e.2.1 (min (d e.1 + e.2.2) (d e.2.1)) v ≤ d v := by
  intro v
  by_cases q : v = e.2.1
  · rw [q, nup_s]; omega
  · rw [nup_n _ _ q]; exact Nat.le_refl _
theorem k_X11_spread {Q : Option Value → zM → Prop} {M : zM} {T : zTn} {a : zAf} {p : Bool} {S : Nat → Bool} {x0 : Nat} {g : Nat → Int32} (hv : zTv T) (hT : zTm T M) (ha : mA T a (M 56)) (hva : vA T a) (hx0 : x0 ≤ 1) (hg : ∀ c, c < 56 → g c = nI (d0m 1000000 S x0 c)) (h : ∀ g', (∀ c, c < 56 → g' c = nI (mm T a p S x0 c)) → Q none (zset M 69 g')) : zCon fX11_spread [.ref 47, .int (zbl p)] (zset M 69 g) Q := by
  have hN := zTv_N hv
  have hS := zTv_S hv
  have hC := zTv_C hv
  have hsh := vA_S hv hva
  have bd := eM_bd (a := a) (p := p) hv
  have hT' : ∀ g, zTm T (zset M 69 g) := fun g => zTm_fr (M := M) (M' := zset M 69 g) ⟨rfl, rfl, rfl⟩ (fun k h1 h2 => zset_n _ _ (by omega)) hT
  have d0le : ∀ (d : Nat → Nat) k, (∀ v, d v ≤ dm 1000000 T a p S x0 k v) → ∀ v, d v ≤ 1000000 := fun d k hd v => by
    have h1 := hd v
    have h2 : dm 1000000 T a p S x0 k v ≤ d0m 1000000 S x0 v := jr_an (r := 0) (Nat.zero_le _) v
    have h3 := d0m_le (F := 1000000) (S := S) (x0 := x0) (by omega) v
    omega
  have L : ∀ k, k ≤ 56 → ∀ y (g : Nat → Int32) (d : Nat → Nat), y = nI k → (∀ c, c < 56 → g c = nI (d c)) → (∀ v, mm T a p S x0 v ≤ d v) → (∀ v, d v ≤ dm 1000000 T a p S x0 k v) → zEv fX11_spread Q 2 [(0, .ref 47), (1, .int (zbl p)), (2, .int y)] [] (zset M 69 g) := by
    refine zloop 56 ?_ ?_
    · intro y g d hy hg hlo hhi
      refine zev_go zkX11_spread [2] 60 (iGe hy n_56 (by omega) (by omega) (fun _ => ?_) (fun q => absurd q (by omega)))
      refine h g (fun c hc => ?_)
      rw [hg c hc]
      exact congrArg nI (jr_eq bd hlo (Or.inl hhi) c)
    · intro k hk ih y g d hy hg hlo hhi
      refine zev_go zkX11_spread [10] 60 (iGe hy n_56 (by omega) (by omega) (fun q => absurd q (by omega)) (fun _ => ?_))
      have I : ∀ i, i ≤ tC T → ∀ z (g : Nat → Int32) (d : Nat → Nat), z = nI i → (∀ c, c < 56 → g c = nI (d c)) → (∀ v, mm T a p S x0 v ≤ d v) → (∀ v, d v ≤ dm 1000000 T a p S x0 k v) → (∀ e, e ∈ eM T a p i → d e.2.1 ≤ dm 1000000 T a p S x0 k e.1 + e.2.2) → zEv fX11_spread Q 10 [(0, .ref 47), (1, .int (zbl p)), (2, .int y), (3, .int z)] [] (zset M 69 g) := by
        refine zloop (tC T) ?_ ?_
        · intro z g d hz hg hlo hhi hpr
          refine zev_go zkX11_spread [2] 60 (iGe hz (hT' g).2.2.1 (by omega) (by omega) (fun _ => ?_) (fun q => absurd q (by omega)))
          exact zev_pick [0, 1, 2] (ih _ g d (by rw [hy, nI_1]) hg hlo (jr_up hhi hpr))
        · intro i hi ihI z g d hz hg hlo hhi hpr
          refine zev_go zkX11_spread [21] 60 (iGe hz (hT' g).2.2.1 (by omega) (by omega) (fun q => absurd q (by omega)) (fun _ => ?_))
          cases q : (aS a).testBit i with
          | true =>
            have e : eM T a p (i + 1) = eM T a p i := by rw [eM_s, if_pos q]
            have nx := ihI (z + 1) g d (by rw [hz, nI_1]) hg hlo hhi (by rw [e]; exact hpr)
            refine zev_go zkX11_spread [10] 60 (iGe n_0 (hT' g).1 (by omega) (by omega) (fun _ => zev_pick [0, 1, 2, 3] nx) (fun _ => ?_))
            exact k_X11_isOpen hz (by omega) (show (zset M 69 g) 56 10 = nI (aS a) from ha.2.2.1) (by omega) (fun r => absurd r (by rw [q]; decide)) (fun _ => bF (zev_pick [0, 1, 2, 3] nx))
          | false =>
            have cl : ∀ b w, w < tN T → mm T a p S x0 (ed T a p i b w).2.1 ≤ mm T a p S x0 (ed T a p i b w).1 + (ed T a p i b w).2.2 := fun b w hw => jr_cd bd (eM_mem.mpr ⟨i, hi, q, b, w, hw, rfl⟩)
            have W : ∀ w, w ≤ tN T → ∀ u (g : Nat → Int32) (d : Nat → Nat), u = nI w → (∀ c, c < 56 → g c = nI (d c)) → (∀ v, mm T a p S x0 v ≤ d v) → (∀ v, d v ≤ dm 1000000 T a p S x0 k v) → (∀ e, e ∈ eM T a p i → d e.2.1 ≤ dm 1000000 T a p S x0 k e.1 + e.2.2) → (∀ b w', w' < w → d (ed T a p i b w').2.1 ≤ dm 1000000 T a p S x0 k (ed T a p i b w').1 + (ed T a p i b w').2.2) → zEv fX11_spread Q 21 [(0, .ref 47), (1, .int (zbl p)), (2, .int y), (3, .int z), (4, .int u)] [] (zset M 69 g) := by
              refine zloop (tN T) ?_ ?_
              · intro u g d hu hg hlo hhi hpr hpw
                refine zev_go zkX11_spread [10] 60 (iGe hu (hT' g).1 (by omega) (by omega) (fun _ => ?_) (fun q => absurd q (by omega)))
                refine zev_pick [0, 1, 2, 3] (ihI _ g d (by rw [hz, nI_1]) hg hlo hhi (fun f hf => ?_))
                obtain ⟨i', h1, h2, b, w, h3, h4⟩ := eM_mem.mp hf
                by_cases c : i' = i
                · rw [h4, c]; exact hpw b w h3
                · exact hpr f (eM_mem.mpr ⟨i', by omega, h2, b, w, h3, h4⟩)
              · intro w hw ihW u g d hu hg hlo hhi hpr hpw
                refine zev_go zkX11_spread [21] 60 (iGe hu (hT' g).1 (by omega) (by omega) (fun q => absurd q (by omega)) (fun _ => ?_))
                refine k_X11_isOpen hz (by omega) (show (zset M 69 g) 56 10 = nI (aS a) from ha.2.2.1) (by omega) (fun _ => bT ?_) (fun r => absurd r (by rw [q]; decide))
                refine k_X11_stepOver (b := false) (p := p) (d := d) hv hT ha hva hz hi hu hw hg (d0le d k hhi) (fun g1 hg1 => ?_)
                refine k_X11_stepOver (b := true) (p := p) (d := _) hv hT ha hva hz hi hu hw hg1 (fun v => Nat.le_trans (rxm_hi v) (d0le d k hhi v)) (fun g2 hg2 => ?_)
                refine ihW _ g2 _ (by rw [hu, nI_1]) hg2 (rxm_lo (cl true w hw) (rxm_lo (cl false w hw) hlo)) (fun v => Nat.le_trans (rxm_hi v) (Nat.le_trans (rxm_hi v) (hhi v))) (fun f hf => Nat.le_trans (rxm_hi _) (Nat.le_trans (rxm_hi _) (hpr f hf))) (fun b w' hw' => ?_)
                by_cases c : w' = w
                · rw [c]
                  cases b with
                  | false =>
                    refine Nat.le_trans (rxm_hi _) ?_
                    rw [nup_s]
                    have := hhi (ed T a p i false w).1
                    omega
                  | true =>
                    rw [nup_s]
                    have t1 := hhi (ed T a p i true w).1
                    have t2 := rxm_hi (d := d) (e := ed T a p i false w) (ed T a p i true w).1
                    omega
                · exact Nat.le_trans (rxm_hi _) (Nat.le_trans (rxm_hi _) (hpw b w' (by omega)))
            exact W 0 (by omega) 0 g d rfl hg hlo hhi hpr (fun b w hw => absurd hw (by omega))
      exact I 0 (by omega) 0 g d rfl hg hlo hhi (fun e he => absurd he (by simp [eM]))
  refine zc_of zkX11_spread [2] 60 (Nat.le_of_ble_eq_true rfl) ?_
  exact L 0 (by omega) 0 g (d0m 1000000 S x0) rfl hg (fun v => jr_an (r := 0) (Nat.zero_le _) v) (fun v => Nat.le_refl _)
theorem k_X11_clearCosts {Q : Option Value → zM → Prop} {M : zM} (h : Q none (zset M 69 (zfill (M 69) 56 1000000))) : zCon fX11_clearCosts [.ref 47] M Q := by
  have L : ∀ i, i ≤ 56 → ∀ x, x = nI i → zEv fX11_clearCosts Q 2 [(0, .ref 47), (1, .int x)] [] (zset M 69 (zfill (M 69) i 1000000)) := by
    refine zloop 56 ?_ ?_
    · intro x hx
      exact zev_go zkX11_clearCosts [2] 60 (iGe hx n_56 (by omega) (by omega) (fun _ => h) (fun q => absurd q (by omega)))
    · intro i hi ih x hx
      refine zev_go zkX11_clearCosts [2] 60 (iGe hx n_56 (by omega) (by omega) (fun q => absurd q (by omega)) (fun _ => zix i hx hi ?_))
      rw [zfill_s]
      exact ih _ (by rw [hx, nI_1])
  refine zc_of zkX11_clearCosts [2] 60 (Nat.le_of_ble_eq_true rfl) ?_
  rw [zfill_0 M 69 1000000]
  exact L 0 (by omega) 0 rfl
