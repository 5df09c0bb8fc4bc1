/-! affairs stay valid; shut, mend, quarrel, say -/
theorem vA_setS {T : zTn} {a : zAf} {s : Nat} (h : vA T a) (hs : s < 2 ^ tC T) : vA T (aSetS a s) := ⟨h.1, h.2.1, hs, h.2.2.2.1, h.2.2.2.2.1, h.2.2.2.2.2.1, h.2.2.2.2.2.2.1, h.2.2.2.2.2.2.2.1, h.2.2.2.2.2.2.2.2⟩
theorem vA_pay {T : zTn} {a : zAf} {p : Nat} (h : vA T a) : vA T (aPay a p) := ⟨Nat.min_le_left _ _, h.2.1, h.2.2.1, h.2.2.2.1, h.2.2.2.2.1, h.2.2.2.2.2.1, h.2.2.2.2.2.2.1, h.2.2.2.2.2.2.2.1, h.2.2.2.2.2.2.2.2⟩
theorem vA_so {T : zTn} {a : zAf} {i v : Nat} (h : vA T a) (hv : v < 4) : vA T (aCol a 2 (nup (aSo a) i v)) := by
  obtain ⟨v1, v2, v3, v4, v5, v6, v7, v8, v9⟩ := h
  refine ⟨v1, v2, v3, v4, v5, v6, fun x hx => ?_, v8, v9⟩
  show nup (aSo a) i v x < 4
  by_cases q : x = i
  · rw [q, nup_s]; exact hv
  · rw [nup_n _ _ q]; exact v7 x hx
theorem fS_tb {fe : Nat → Nat} {f t : Nat} {b : Bool} (hft : f ≠ t) (hb1 : fe f < 2 ^ 32) (hb2 : fe t < 2 ^ 32) (x y : Nat) : (fS fe f t b x).testBit y = if (x = f ∧ y = t) ∨ (x = t ∧ y = f) then b else (fe x).testBit y := by
  unfold fS
  by_cases c1 : x = t
  · subst c1
    rw [if_pos rfl]
    cases b with
    | true =>
      show (fe x ||| 2 ^ f).testBit y = _
      rw [set_tb]
      by_cases d : y = f
      · simp [d]
      · have hxf : ¬ x = f := fun q => hft q.symm
        simp [d, hxf]
    | false =>
      show (clr (fe x) f).testBit y = _
      rw [clr_tb hb2]
      by_cases d : y = f
      · simp [d]
      · have hxf : ¬ x = f := fun q => hft q.symm
        simp [d, hxf]
  · rw [if_neg c1]
    by_cases c2 : x = f
    · subst c2
      rw [if_pos rfl]
      cases b with
      | true =>
        show (fe x ||| 2 ^ t).testBit y = _
        rw [set_tb]
        by_cases d : y = t
        · simp [d]
        · simp [d, c1]
      | false =>
        show (clr (fe x) t).testBit y = _
        rw [clr_tb hb1]
        by_cases d : y = t
        · simp [d]
        · simp [d, c1]
    · rw [if_neg c2]
      simp [c1, c2]
theorem fS_lt {fe : Nat → Nat} {f t n : Nat} {b : Bool} (hf : f < n) (ht : t < n) (h : ∀ x, x < 7 → fe x < 2 ^ n ∧ (n ≤ x → fe x = 0)) (hn : n ≤ 7) : ∀ x, x < 7 → fS fe f t b x < 2 ^ n ∧ (n ≤ x → fS fe f t b x = 0) := by
  intro x hx
  unfold fS
  by_cases c1 : x = t
  · rw [if_pos c1]
    refine ⟨?_, fun q => absurd q (by omega)⟩
    cases b with
    | true => exact set_lt (h t (by omega)).1 hf
    | false => exact Nat.lt_of_le_of_lt (clr_le _ _) (h t (by omega)).1
  · rw [if_neg c1]
    by_cases c2 : x = f
    · rw [if_pos c2]
      refine ⟨?_, fun q => absurd q (by omega)⟩
      cases b with
      | true => exact set_lt (h f (by omega)).1 ht
      | false => exact Nat.lt_of_le_of_lt (clr_le _ _) (h f (by omega)).1
    · rw [if_neg c2]; exact h x hx
theorem fS_sym {fe : Nat → Nat} {f t : Nat} {b : Bool} (hft : f ≠ t) (hb1 : fe f < 2 ^ 32) (hb2 : fe t < 2 ^ 32) (h : ∀ x y, x < 7 → y < 7 → (fe x).testBit y = (fe y).testBit x) : ∀ x y, x < 7 → y < 7 → (fS fe f t b x).testBit y = (fS fe f t b y).testBit x := by
  intro x y hx hy
  rw [fS_tb hft hb1 hb2, fS_tb hft hb1 hb2]
  by_cases c : (x = f ∧ y = t) ∨ (x = t ∧ y = f)
  · rw [if_pos c, if_pos (by omega)]
  · rw [if_neg c, if_neg (by omega)]; exact h x y hx hy
theorem vA_fe {T : zTn} {a : zAf} {f t : Nat} {b : Bool} (hv : zTv T) (h : vA T a) (hft : f ≠ t) (hf : f < tS T) (ht : t < tS T) : vA T (aCol a 1 (fS (aFe a) f t b)) := by
  have hS := zTv_S hv
  have b1 := vA_F hv h (x := f) (by omega)
  have b2 := vA_F hv h (x := t) (by omega)
  obtain ⟨v1, v2, v3, v4, v5, v6, v7, v8, v9⟩ := h
  exact ⟨v1, v2, v3, v4, v5, fS_lt hf ht v6 hS, v7, v8, fS_sym hft (by omega) (by omega) v9⟩
theorem vA_hear {T : zTn} {a : zAf} {f t s h : Nat} (hv : zTv T) (hva : vA T a) (hft : f ≠ t) (hf : f < tS T) (ht : t < tS T) (hs : s ≤ 9999) (hh : h ≤ 9999) : vA T (aHear T a f t s h) := by
  have hS := zTv_S hv
  have b1 := vA_F hv hva (x := f) (by omega)
  have b2 := vA_F hv hva (x := t) (by omega)
  obtain ⟨v1, v2, v3, v4, v5, v6, v7, v8, v9⟩ := hva
  refine ⟨v1, ?_, v3, Nat.min_le_left _ _, ?_, ?_, v7, ?_, ?_⟩
  · show aHus T a f t h ≤ 999999
    unfold aHus
    cases hd (tI T t) 4 h with
    | true => exact v2
    | false =>
      cases (hd (tY T t) 4 h && !((aFe a f).testBit t)) with
      | true => exact Nat.min_le_left _ _
      | false => exact v2
  · intro x hx
    show (if x = t then h else aHe a x) ≤ 9999
    split
    · exact hh
    · exact v5 x hx
  · show ∀ x, x < 7 → aFeud T a f t h x < 2 ^ tS T ∧ (tS T ≤ x → aFeud T a f t h x = 0)
    unfold aFeud
    cases hd (tI T t) 4 h with
    | true => exact fS_lt hf ht v6 hS
    | false =>
      cases (hd (tY T t) 4 h && (aFe a f).testBit t) with
      | true => exact fS_lt hf ht v6 hS
      | false => exact v6
  · intro e he
    have he' : e < min 20 (aL a + 1) := he
    show sft (a.2 3) f e < _ ∧ sft (a.2 4) t e < _ ∧ sft (a.2 5) s e ≤ _ ∧ sft (a.2 6) h e ≤ _
    unfold sft
    by_cases q : e = 0
    · rw [if_pos q, if_pos q, if_pos q, if_pos q]; exact ⟨hf, ht, hs, hh⟩
    · rw [if_neg q, if_neg q, if_neg q, if_neg q]; exact v8 (e - 1) (by omega)
  · show ∀ x y, x < 7 → y < 7 → (aFeud T a f t h x).testBit y = (aFeud T a f t h y).testBit x
    unfold aFeud
    cases hd (tI T t) 4 h with
    | true => exact fS_sym hft (by omega) (by omega) v9
    | false =>
      cases (hd (tY T t) 4 h && (aFe a f).testBit t) with
      | true => exact fS_sym hft (by omega) (by omega) v9
      | false => exact v9
/-- a step that can be undone -/
def stp (G : zG) (a : zAf) : zG := sAU G a (remU (gA G) (gU G))
theorem v_stp {G : zG} {a : zAf} (h : zV G) (ha : vA (gT G) a) : zV (stp G a) := by
  obtain ⟨v1, v2, v3, v4, v5, v6, v7, v8⟩ := h
  exact ⟨v1, ha, v_remU v2 v3, v4, v5, v6, v7, v8⟩
theorem zC_stp {G : zG} {M M1 : zM} {a : zAf} {g : Nat → Int32} (hC : zC G M) (h1 : cU (gT G) (remU (gA G) (gU G)) M1) (h2 : ∀ k, k ≠ 23 → k ≠ 24 → M1 k = M k) (h3 : M1 23 3 = M 23 3) (ha : cA (gT G) a g) : zC (stp G a) (zset M1 22 g) := by
  obtain ⟨c1, c2, c3, c4, c5, c6, c7, c8, c9⟩ := hC
  have o : ∀ k, k ≠ 22 → k ≠ 23 → k ≠ 24 → zset M1 22 g k = M k := fun k a b c => by rw [zset_n _ _ a, h2 k b c]
  refine ⟨zTc_fr (fun k a b => o k (by omega) (by omega) (by omega)) c1, ?_, cU_fr rfl rfl rfl h1, cIm_fr h3 (o 25 (by omega) (by omega) (by omega)) (o 26 (by omega) (by omega) (by omega)) c4, ?_, ?_, cX_fr ?_ (o 11 (by omega) (by omega) (by omega)) c7, cSn_fr (o 39 (by omega) (by omega) (by omega)) (o 40 (by omega) (by omega) (by omega)) (o 41 (by omega) (by omega) (by omega)) c8, cBk_fr (o 44 (by omega) (by omega) (by omega)) (o 45 (by omega) (by omega) (by omega)) (o 46 (by omega) (by omega) (by omega)) c9⟩
  · rw [zset_s]; exact ha
  · rw [o 0 (by omega) (by omega) (by omega)]; exact c5
  · rw [o 10 (by omega) (by omega) (by omega)]; exact c6
  · rw [o 10 (by omega) (by omega) (by omega)]
theorem zD_stp {G : zG} {M M1 : zM} {a : zAf} {g : Nat → Int32} (hC : zD G M) (h1 : mU (gT G) (remU (gA G) (gU G)) M1) (h2 : ∀ k, k ≠ 47 → k ≠ 68 → M1 k = M k) (h3 : ∀ j, j ≠ 32 → M1 47 j = M 47 j) (ha : mA (gT G) a g) : zD (stp G a) (zset M1 56 g) := by
  obtain ⟨c1, c2, c3, c4, c5, c6, c7, c8, c9⟩ := hC
  have o : ∀ k, k ≠ 47 → k ≠ 68 → k ≠ 56 → zset M1 56 g k = M k := fun k a b c => by rw [zset_n _ _ c, h2 k a b]
  have o47 : ∀ j, j ≠ 32 → zset M1 56 g 47 j = M 47 j := fun j hj => by rw [zset_n _ _ (by decide)]; exact h3 j hj
  refine ⟨zTm_fr ⟨o47 _ (by omega), o47 _ (by omega), o47 _ (by omega)⟩ (fun k a b => o k (by omega) (by omega) (by omega)) c1, ?_, mU_fr rfl rfl h1, mIm_fr (o 79 (by omega) (by omega) (by omega)) (o 78 (by omega) (by omega) (by omega)) c4, ?_, ?_, mX_fr (o47 _ (by omega)) (o 57 (by omega) (by omega) (by omega)) c7, mSn_fr (o47 _ (by omega)) (o 74 (by omega) (by omega) (by omega)) (o 75 (by omega) (by omega) (by omega)) c8, mBk_fr (o47 _ (by omega)) (o 76 (by omega) (by omega) (by omega)) (o 77 (by omega) (by omega) (by omega)) c9⟩
  · rw [zset_s]; exact ha
  · rw [o47 _ (by omega)]; exact c5
  · rw [o47 _ (by omega)]; exact c6
def sMv (s i : Nat) (b : Bool) : Nat := bif b then s ||| 2 ^ i else clr s i
theorem sMv_lt {s i n : Nat} {b : Bool} (h : s < 2 ^ n) (hi : i < n) : sMv s i b < 2 ^ n := by
  cases b with
  | true => exact set_lt h hi
  | false => exact Nat.lt_of_le_of_lt (clr_le _ _) h
def o_shut (G : zG) (i : Int32) (b : Bool) : Int32 × zG := match ix i (tC (gT G)) with
  | none => (cUNK, G)
  | some i => (zbl ((aS (gA G)).testBit i), stp G (aSetS (gA G) (sMv (aS (gA G)) i b)))
theorem v_shut {G : zG} {i : Int32} {b : Bool} (h : zV G) : zV (o_shut G i b).2 := by
  unfold o_shut
  split
  · exact h
  · next i hi => exact v_stp h (vA_setS h.2.1 (sMv_lt h.2.1.2.2.1 (ix_some hi)))
theorem kc_shut {Q : Option Value → zM → Prop} {G : zG} {M : zM} {i : Int32} {b : Bool} (hC : zC G M) (hV : zV G) (hq : ∀ M', zC (o_shut G i b).2 M' → frM M M' → Q (some (.int (o_shut G i b).1)) M') : zCon fX10_shut [.ref 0, .int i, .int (zbl b)] M Q := by
  obtain ⟨c1, c2, c3, c4, c5, c6, c7, c8, c9⟩ := id hC
  have hCc := zTv_C hV.1
  refine zc_of zkX10_shut [31] 60 (Nat.le_of_ble_eq_true rfl) ?_
  refine k_X8_hasCorner (by omega) c1.2.2.1 (fun j hj ej => cT ?_) (fun ho => cF ?_)
  · unfold o_shut at hq
    rw [show ix i (tC (gT G)) = some j by rw [ej]; exact ix_in hj (by omega)] at hq
    dsimp only at hq
    have J : ∀ t, (aS (gA G)).testBit j = t → zEv fX10_shut Q 31 [(0, .ref 0), (1, .int i), (2, .int (zbl b)), (3, .int (zbl t))] [] M := by
      intro t ht
      refine zev_go zkX10_shut [31] 60 ?_
      refine k_X5_remember hV.1 c2 hV.2.1 c3 hV.2.2.1 (fun M1 h1 h2 h3 => ?_)
      refine k_X0_setShut ej (by omega) (s := aS (gA G)) (by rw [h2 22 (by omega) (by omega)]; exact c2.2.2.1) ?_
      have h := hq (zset M1 22 (upd (M1 22) 2 (nI (sMv (aS (gA G)) j b)))) (zC_stp hC h1 h2 h3 (by rw [h2 22 (by omega) (by omega)]; exact cA_S c2)) (fun k hk => by rw [zset_n _ _ (by omega), h2 k (by omega) (by omega)])
      rw [ht] at h
      exact h
    refine k_X0_isShut ej (by omega) c2.2.2.1 (vA_S hV.1 hV.2.1) (fun q => bT ?_) (fun q => bF ?_)
    · exact J true q
    · exact J false q
  · unfold o_shut at hq
    rw [ix_out (by omega) ho] at hq
    exact hq M hC (fun _ _ => rfl)
theorem k_X11_turn {Q : Option Value → zM → Prop} {M : zM} {x : Int32} {i s : Nat} (hx : x = nI i) (hi : i < 10) (hs : M 56 10 = nI s) (hs2 : s < 1024) (h : Q none (zset M 56 (upd (M 56) 10 (nI (sMv s i (!(s.testBit i))))))) : zCon fX11_turn [.ref 47, .int x] M Q := by
  refine zc_of zkX11_turn [] 60 (Nat.le_of_ble_eq_true rfl) (zix 10 rfl (by decide) (zix 10 rfl (by decide) ?_))
  rw [a_xor hs (a_shl1 hx (by omega))]
  have e : s ^^^ 2 ^ i = sMv s i (!(s.testBit i)) := by
    cases q : s.testBit i with
    | true => exact xor_clr (by omega) q
    | false => exact xor_set q
  rw [e]
  exact h
theorem km_shut {Q : Option Value → zM → Prop} {G : zG} {M : zM} {i : Int32} {b : Bool} (hC : zD G M) (hV : zV G) (hq : ∀ M', zD (o_shut G i b).2 M' → frC M M' → Q (some (.int (o_shut G i b).1)) M') : zCon fX11_shut [.ref 47, .int i, .int (zbl b)] M Q := by
  obtain ⟨c1, c2, c3, c4, c5, c6, c7, c8, c9⟩ := id hC
  have hCc := zTv_C hV.1
  have hs := vA_S hV.1 hV.2.1
  refine zc_of zkX11_shut [] 60 (Nat.le_of_ble_eq_true rfl) ?_
  refine k_X11_isCorner (by omega) c1.2.2.1 (fun j hj ej => cT ?_) (fun ho => cF ?_)
  · unfold o_shut at hq
    rw [show ix i (tC (gT G)) = some j by rw [ej]; exact ix_in hj (by omega)] at hq
    dsimp only at hq
    refine k_X11_remember hV.1 c2 hV.2.1 c3 hV.2.2.1 (fun M1 h1 h2 h3 => ?_)
    have e56 := h2 56 (by omega) (by omega)
    have hs1 : M1 56 10 = nI (aS (gA G)) := by rw [e56]; exact c2.2.2.1
    have fin := hq (zset M1 56 (upd (M1 56) 10 (nI (sMv (aS (gA G)) j b)))) (zD_stp hC h1 h2 h3 (by rw [e56]; exact mA_S hCc c2)) (fun k hk => by rw [zset_n _ _ (by omega), h2 k (by omega) (by omega)])
    have same : ∀ t, (aS (gA G)).testBit j = t → b = t → Q (some (.int (zbl t))) M1 := by
      intro t ht hb
      subst hb
      have e : sMv (aS (gA G)) j b = aS (gA G) := by
        cases b with
        | true => exact set_same ht
        | false => exact clr_same (by omega) ht
      rw [e, ← hs1] at fin
      have e2 : upd (M1 56) 10 (M1 56 10) = M1 56 := by
        funext q; unfold upd; by_cases c : q = 10
        · rw [if_pos c, c]
        · rw [if_neg c]
      rw [e2, zset_id, ht] at fin
      exact fin
    have turn : ∀ t (Q' : Option Value → zM → Prop), (aS (gA G)).testBit j = t → b = !t → ((∀ M', M' = zset M1 56 (upd (M1 56) 10 (nI (sMv (aS (gA G)) j b))) → Q' none M')) → zCon fX11_turn [.ref 47, .int i] M1 Q' := by
      intro t Q' ht hb hk
      refine k_X11_turn ej (by omega) hs1 hs (hk _ ?_)
      rw [ht, hb]
    refine k_X11_isOpen ej (by omega) hs1 (by omega) (fun q => bT ?_) (fun q => bF ?_)
    · refine nt_ (by decide) ?_
      cases b with
      | false => exact bt_ rfl (same false q rfl)
      | true =>
        refine bf_ (by decide) (turn false _ q rfl (fun M' e => ?_))
        subst e
        rw [q] at fin
        exact fin
    · refine nf_ rfl ?_
      cases b with
      | true => exact bt_ rfl (same true q rfl)
      | false =>
        refine bf_ (by decide) (turn true _ q rfl (fun M' e => ?_))
        subst e
        rw [q] at fin
        exact fin
  · unfold o_shut at hq
    rw [ix_out (by omega) ho] at hq
    exact hq M hC (fun _ _ => rfl)
def o_mend (G : zG) (i : Int32) : Int32 × zG := match ix i (tC (gT G)) with
  | none => (cUNK, G)
  | some i => (nI (aSo (gA G) i), stp G (aCol (gA G) 2 (nup (aSo (gA G)) i 3)))
theorem v_mend {G : zG} {i : Int32} (h : zV G) : zV (o_mend G i).2 := by
  unfold o_mend
  split
  · exact h
  · next i hi => exact v_stp h (vA_so h.2.1 (by omega))
theorem kc_mend {Q : Option Value → zM → Prop} {G : zG} {M : zM} {i : Int32} (hC : zC G M) (hV : zV G) (hq : ∀ M', zC (o_mend G i).2 M' → frM M M' → Q (some (.int (o_mend G i).1)) M') : zCon fX10_mend [.ref 0, .int i] M Q := by
  obtain ⟨c1, c2, c3, c4, c5, c6, c7, c8, c9⟩ := id hC
  have hCc := zTv_C hV.1
  refine zc_of zkX10_mend [] 60 (Nat.le_of_ble_eq_true rfl) ?_
  refine k_X8_hasCorner (by omega) c1.2.2.1 (fun j hj ej => cT ?_) (fun ho => cF ?_)
  · unfold o_mend at hq
    rw [show ix i (tC (gT G)) = some j by rw [ej]; exact ix_in hj (by omega)] at hq
    dsimp only at hq
    refine k_X0_sortOf ej (by omega) ?_
    refine k_X5_remember hV.1 c2 hV.2.1 c3 hV.2.2.1 (fun M1 h1 h2 h3 => ?_)
    refine k_X0_setSort ej (by omega) ?_
    have h := hq (zset M1 22 (upd (M1 22) (18 + j) (nI 3))) (zC_stp hC h1 h2 h3 (by rw [h2 22 (by omega) (by omega)]; exact cA_So hCc (by omega) c2)) (fun k hk => by rw [zset_n _ _ (by omega), h2 k (by omega) (by omega)])
    rw [← c2.2.2.2.2.2.2.1 j hj] at h
    exact h
  · unfold o_mend at hq
    rw [ix_out (by omega) ho] at hq
    exact hq M hC (fun _ _ => rfl)
theorem km_mend {Q : Option Value → zM → Prop} {G : zG} {M : zM} {i : Int32} (hC : zD G M) (hV : zV G) (hq : ∀ M', zD (o_mend G i).2 M' → frC M M' → Q (some (.int (o_mend G i).1)) M') : zCon fX11_mend [.ref 47, .int i] M Q := by
  obtain ⟨c1, c2, c3, c4, c5, c6, c7, c8, c9⟩ := id hC
  have hCc := zTv_C hV.1
  refine zc_of zkX11_mend [] 60 (Nat.le_of_ble_eq_true rfl) ?_
  refine k_X11_isCorner (by omega) c1.2.2.1 (fun j hj ej => cT ?_) (fun ho => cF ?_)
  · unfold o_mend at hq
    rw [show ix i (tC (gT G)) = some j by rw [ej]; exact ix_in hj (by omega)] at hq
    dsimp only at hq
    refine k_X11_remember hV.1 c2 hV.2.1 c3 hV.2.2.1 (fun M1 h1 h2 h3 => ?_)
    have e0 : (0 : Int32) + i = nI j := by rw [ej, n_0, nI_add, Nat.zero_add]
    refine zix j e0 (show j < 88 by omega) (zix j e0 (show j < 88 by omega) ?_)
    have h := hq (zset M1 56 (upd (M1 56) j (nI 3))) (zD_stp hC h1 h2 h3 (by rw [h2 56 (by omega) (by omega)]; exact mA_So hCc (by omega) c2)) (fun k hk => by rw [zset_n _ _ (by omega), h2 k (by omega) (by omega)])
    rw [← c2.2.2.2.2.2.2.1 j hj, ← h2 56 (by omega) (by omega)] at h
    exact h
  · unfold o_mend at hq
    rw [ix_out (by omega) ho] at hq
    exact hq M hC (fun _ _ => rfl)
/-- two unlike streets -/
def ix2 (a b : Int32) (n : Nat) : Option (Nat × Nat) := match ix a n, ix b n with
  | some i, some j => if i = j then none else some (i, j)
  | _, _ => none
theorem ix2_in {i j n : Nat} (hi : i < n) (hj : j < n) (hn : n < 2 ^ 31) (hij : i ≠ j) : ix2 (nI i) (nI j) n = some (i, j) := by
  unfold ix2; rw [ix_in hi hn, ix_in hj hn]; dsimp only; rw [if_neg hij]
theorem ix2_out {a b : Int32} {n : Nat} (hn : n < 2 ^ 31) (h : zout a n ∨ zout b n ∨ a = b) : ix2 a b n = none := by
  unfold ix2
  rcases h with h | h | h
  · rw [ix_out hn h]
  · rw [ix_out hn h]; cases ix a n <;> rfl
  · subst h
    cases ix a n with
    | none => rfl
    | some i => dsimp only; rw [if_pos rfl]
theorem ix2_some {a b : Int32} {n i j : Nat} (h : ix2 a b n = some (i, j)) : i < n ∧ j < n ∧ i ≠ j := by
  unfold ix2 at h
  cases h1 : ix a n with
  | none => rw [h1] at h; cases h
  | some x =>
    rw [h1] at h
    cases h2 : ix b n with
    | none => rw [h2] at h; cases h
    | some y =>
      rw [h2] at h
      dsimp only at h
      split at h
      · cases h
      · next q => cases h; exact ⟨ix_some h1, ix_some h2, q⟩
def o_quarrel (G : zG) (a b : Int32) (is : Bool) : Int32 × zG := match ix2 a b (tS (gT G)) with
  | none => (cUNK, G)
  | some (f, t) => (zbl ((aFe (gA G) f).testBit t), stp G (aCol (gA G) 1 (fS (aFe (gA G)) f t is)))
theorem v_quarrel {G : zG} {a b : Int32} {is : Bool} (h : zV G) : zV (o_quarrel G a b is).2 := by
  unfold o_quarrel
  split
  · exact h
  · next f t hft =>
    obtain ⟨q1, q2, q3⟩ := ix2_some hft
    exact v_stp h (vA_fe h.1 h.2.1 q3 q1 q2)
theorem kc_quarrel {Q : Option Value → zM → Prop} {G : zG} {M : zM} {a b : Int32} {is : Bool} (hC : zC G M) (hV : zV G) (hq : ∀ M', zC (o_quarrel G a b is).2 M' → frM M M' → Q (some (.int (o_quarrel G a b is).1)) M') : zCon fX10_quarrel [.ref 0, .int a, .int b, .int (zbl is)] M Q := by
  obtain ⟨c1, c2, c3, c4, c5, c6, c7, c8, c9⟩ := id hC
  have hS := zTv_S hV.1
  refine zc_of zkX10_quarrel [34] 60 (Nat.le_of_ble_eq_true rfl) ?_
  refine k_X8_hasTwoStreets (by omega) c1.2.1 (fun f t hf ht hft ef et => cT ?_) (fun ho => cF ?_)
  · unfold o_quarrel at hq
    rw [show ix2 a b (tS (gT G)) = some (f, t) by rw [ef, et]; exact ix2_in hf ht (by omega) hft] at hq
    dsimp only at hq
    have J : ∀ w, (aFe (gA G) f).testBit t = w → zEv fX10_quarrel Q 34 [(0, .ref 0), (1, .int a), (2, .int b), (3, .int (zbl is)), (4, .int (zbl w))] [] M := by
      intro w hw
      refine zev_go zkX10_quarrel [34] 60 ?_
      refine k_X5_remember hV.1 c2 hV.2.1 c3 hV.2.2.1 (fun M1 h1 h2 h3 => ?_)
      have e22 := h2 22 (by omega) (by omega)
      refine k_X0_setFeud ef et (by omega) (by omega) hft (s := aFe (gA G) f) (t := aFe (gA G) t) (by rw [e22]; exact c2.2.2.2.2.2.1 f (by omega)) (by rw [e22]; exact c2.2.2.2.2.2.1 t (by omega)) ?_
      have h := hq (zset M1 22 (fput (M1 22) 11 f t (nI (bif is then aFe (gA G) f ||| 2 ^ t else clr (aFe (gA G) f) t)) (nI (bif is then aFe (gA G) t ||| 2 ^ f else clr (aFe (gA G) t) f)))) (zC_stp hC h1 h2 h3 (by rw [e22]; exact cA_Fe hft (by omega) (by omega) (zTv_C hV.1) c2)) (fun k hk => by rw [zset_n _ _ (by omega), h2 k (by omega) (by omega)])
      rw [hw] at h
      exact h
    refine k_X0_inFeud ef et (by omega) (by omega) (c2.2.2.2.2.2.1 f (by omega)) (vA_F hV.1 hV.2.1 (by omega)) (fun q => bT ?_) (fun q => bF ?_)
    · exact J true q
    · exact J false q
  · unfold o_quarrel at hq
    rw [ix2_out (by omega) ho] at hq
    exact hq M hC (fun _ _ => rfl)
theorem km_quarrel {Q : Option Value → zM → Prop} {G : zG} {M : zM} {a b : Int32} {is : Bool} (hC : zD G M) (hV : zV G) (hq : ∀ M', zD (o_quarrel G a b is).2 M' → frC M M' → Q (some (.int (o_quarrel G a b is).1)) M') : zCon fX11_quarrel [.ref 47, .int a, .int b, .int (zbl is)] M Q := by
  obtain ⟨c1, c2, c3, c4, c5, c6, c7, c8, c9⟩ := id hC
  have hS := zTv_S hV.1
  refine zc_of zkX11_quarrel [39] 60 (Nat.le_of_ble_eq_true rfl) ?_
  refine k_X11_areTwo (by omega) c1.2.1 (fun f t hf ht hft ef et => cT ?_) (fun ho => cF ?_)
  · unfold o_quarrel at hq
    rw [show ix2 a b (tS (gT G)) = some (f, t) by rw [ef, et]; exact ix2_in hf ht (by omega) hft] at hq
    dsimp only at hq
    refine k_X11_remember hV.1 c2 hV.2.1 c3 hV.2.2.1 (fun M1 h1 h2 h3 => ?_)
    have e56 := h2 56 (by omega) (by omega)
    have J : ∀ w, (aFe (gA G) f).testBit t = w → zEv fX11_quarrel Q 39 [(0, .ref 47), (1, .int a), (2, .int b), (3, .int (zbl is)), (4, .int (zbl w))] [] M1 := by
      intro w hw
      refine zev_go zkX11_quarrel [39] 60 ?_
      refine k_X11_setFeud ef et (by omega) (by omega) hft (s := aFe (gA G) f) (t := aFe (gA G) t) (by rw [e56]; exact c2.2.2.2.2.2.1 f (by omega)) (by rw [e56]; exact c2.2.2.2.2.2.1 t (by omega)) ?_
      have h := hq (zset M1 56 (fput (M1 56) 18 f t (nI (bif is then aFe (gA G) f ||| 2 ^ t else clr (aFe (gA G) f) t)) (nI (bif is then aFe (gA G) t ||| 2 ^ f else clr (aFe (gA G) t) f)))) (zD_stp hC h1 h2 h3 (by rw [e56]; exact mA_Fe hft (by omega) (by omega) (zTv_C hV.1) c2)) (fun k hk => by rw [zset_n _ _ (by omega), h2 k (by omega) (by omega)])
      rw [hw] at h
      exact h
    have hF := vA_F hV.1 hV.2.1 (x := f) (by omega)
    refine zix (18 + f) (a_add rfl ef) (show 18 + f < 88 by omega) ?_
    refine k_X11_has (s := aFe (gA G) f) (by rw [e56]; exact c2.2.2.2.2.2.1 f (by omega)) et (by omega) (by omega) (fun q => bT ?_) (fun q => bF ?_)
    · exact J true q
    · exact J false q
  · unfold o_quarrel at hq
    rw [ix2_out (by omega) ho] at hq
    exact hq M hC (fun _ _ => rfl)
