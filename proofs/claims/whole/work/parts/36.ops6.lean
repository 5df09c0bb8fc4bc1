/-! goBack, shut, mend, quarrel, say -/
def o_goBack (G : zG) (i : Int32) : Int32 × zG := match ix i 2 with
  | none => (cUNK, G)
  | some i => if (gI G).1 i = false then (cNOT, G) else (1, sSd (sAU G ((gI G).2.1 i) (0, (gU G).2)) ((gI G).2.2 i))
theorem v_goBack {G : zG} {i : Int32} (h : zV G) : zV (o_goBack G i).2 := by
  unfold o_goBack
  split
  · exact h
  · next i hi =>
    split
    · exact h
    · next q =>
      obtain ⟨v1, v2, v3, v4, v5, v6, v7, v8⟩ := h
      have hk := v4 i (ix_some hi) (by simpa using q)
      exact ⟨v1, hk.1, ⟨Nat.zero_le _, fun e he => absurd he (Nat.not_lt_zero e)⟩, v4, hk.2, v6, v7, v8⟩
theorem kc_goBack {Q : Option Value → zM → Prop} {G : zG} {M : zM} {i : Int32} (hC : zC G M) (hV : zV G) (hq : ∀ M', zC (o_goBack G i).2 M' → frM M M' → Q (some (.int (o_goBack G i).1)) M') : zCon fX10_goBack [.ref 0, .int i] M Q := by
  obtain ⟨c1, c2, c3, c4, c5, c6, c7, c8, c9⟩ := id hC
  obtain ⟨s, hs, s1, s2⟩ := id c4
  refine zc_of zkX10_goBack [] 60 (Nat.le_of_ble_eq_true rfl) ?_
  have bad : zout i 2 → Q (some (.int cUNK)) M := fun ho => by
    unfold o_goBack at hq; rw [ix_out (by omega) ho] at hq; exact hq M hC (fun _ _ => rfl)
  refine br (fun d => bad (zout_of (by omega) (Or.inl d))) (fun d1 => br (fun d2 => ?_) (fun d => bad (zout_of (by omega) (Or.inr d))))
  obtain ⟨k, hk, ek⟩ := numLt (n := 2) (by omega) d1 d2
  unfold o_goBack at hq
  rw [show ix i 2 = some k by rw [ek]; exact ix_in hk (by omega)] at hq
  dsimp only at hq
  refine zc_of zkX5_hasImage [] 60 (Nat.le_of_ble_eq_true rfl) (a_has s1 ek (by omega) (by omega) (fun q => ⟨Or.inr rfl, cT ?_⟩) (fun q => ⟨Or.inl rfl, cF ?_⟩))
  · rw [(s2 k hk).1] at q
    rw [if_neg (by rw [q]; decide)] at hq
    obtain ⟨w1, w2⟩ := (s2 k hk).2 q
    refine zc_of zkX5_showImage [] 60 (Nat.le_of_ble_eq_true rfl) ?_
    refine ⟨k * 108, 0, 108, a_mul ek n_108, rfl, rfl, by omega, by decide, ?_⟩
    refine zix k ek hk ?_
    refine hq (zu (zu (zset M 22 (va_cpy (M 25) (M 22) (k * 108) 0 108)) 23 5 0) 0 10 (M 26 k)) ⟨c1, ?_, ⟨rfl, ?_⟩, cIm_fr rfl rfl rfl c4, w2, c6, cX_fr rfl rfl c7, cSn_fr rfl rfl rfl c8, cBk_fr rfl rfl rfl c9⟩ (fun k hk => by rw [zu_n _ _ _ (by omega), zu_n _ _ _ (by omega), zset_n _ _ (by omega)])
    · show cA (gT G) ((gI G).2.1 k) (va_cpy (M 25) (M 22) (k * 108) 0 108)
      refine cA_ext (zTv_C hV.1) (hV.2.2.2.1 k hk q).1.2.2.2.1 (fun jj hjj => ?_) w1
      rw [pk_cpy_in (by omega) (by omega)]
      exact congrArg _ (by omega)
    · obtain ⟨u1, nw, hnw, u2, u3⟩ := c3
      exact ⟨nw, hnw, u2, fun e he => absurd he (Nat.not_lt_zero e)⟩
  · rw [(s2 k hk).1] at q
    rw [if_pos q] at hq
    exact hq M hC (fun _ _ => rfl)
theorem km_goBack {Q : Option Value → zM → Prop} {G : zG} {M : zM} {i : Int32} (hC : zD G M) (hV : zV G) (hq : ∀ M', zD (o_goBack G i).2 M' → frC M M' → Q (some (.int (o_goBack G i).1)) M') : zCon fX11_goBack [.ref 47, .int i] M Q := by
  obtain ⟨c1, c2, c3, c4, c5, c6, c7, c8, c9⟩ := id hC
  refine zc_of zkX11_goBack [28] 60 (Nat.le_of_ble_eq_true rfl) ?_
  refine k_in (S := 2) (by omega) l0_ (by decide) (fun k hk ek => cT ?_) (fun ho => cF ?_)
  · unfold o_goBack at hq
    rw [show ix i 2 = some k by rw [ek]; exact ix_in hk (by omega)] at hq
    dsimp only at hq
    refine zix k ek hk ?_
    have e79 := (c4 k hk).1
    cases hb : (gI G).1 k with
    | false =>
      rw [if_pos hb] at hq
      rw [hb] at e79
      exact nf_ e79 (hq M hC (fun _ _ => rfl))
    | true =>
      rw [if_neg (by rw [hb]; decide)] at hq
      rw [hb] at e79
      refine nt_ (by rw [e79]; decide) ?_
      obtain ⟨w1, w2⟩ := (c4 k hk).2 hb
      have L : ∀ m, m ≤ 88 → ∀ y, y = nI m → zEv fX11_goBack Q 28 [(0, .ref 47), (1, .int i), (2, .int y)] [] (zset M 56 (pt88 (M 56) (fun j => M 78 (89 * k + j)) 0 m)) := by
        refine zloop 88 ?_ ?_
        · intro y hy
          refine zev_go zkX11_goBack [28] 60 (iGe hy n_88 (by omega) (by decide) (fun _ => ?_) (fun q => absurd q (by omega)))
          refine zix (89 * k + 88) (a_add (a_mul n_89 ek) n_88) (show 89 * k + 88 < 178 by omega) ?_
          refine hq (zu (zu (zset M 56 (pt88 (M 56) (fun j => M 78 (89 * k + j)) 0 88)) 47 12 (M 78 (89 * k + 88))) 47 32 0) ⟨zTm_fr ⟨rfl, rfl, rfl⟩ (fun k h1 h2 => by rw [zu_n _ _ _ (by omega), zu_n _ _ _ (by omega), zset_n _ _ (by omega)]) c1, ?_, ⟨rfl, fun e he => absurd he (Nat.not_lt_zero e)⟩, mIm_fr rfl rfl c4, w2, c6, mX_fr rfl rfl c7, mSn_fr rfl rfl rfl c8, mBk_fr rfl rfl rfl c9⟩ (fun k hk => by rw [zu_n _ _ _ (by omega), zu_n _ _ _ (by omega), zset_n _ _ (by omega)])
          show mA (gT G) ((gI G).2.1 k) (pt88 (M 56) (fun j => M 78 (89 * k + j)) 0 88)
          refine mA_ext (zTv_C hV.1) (hV.2.2.2.1 k hk hb).1.2.2.2.1 (fun jj hjj => ?_) w1
          unfold pt88
          rw [if_pos (by omega)]
          rfl
        · intro m hm ih y hy
          refine zev_go zkX11_goBack [28] 60 (iGe hy n_88 (by omega) (by decide) (fun q => absurd q (by omega)) (fun _ => ?_))
          refine zix (89 * k + m) (a_add (a_mul n_89 ek) hy) (show 89 * k + m < 178 by omega) (zix m hy hm ?_)
          have e : zu (zset M 56 (pt88 (M 56) (fun j => M 78 (89 * k + j)) 0 m)) 56 m (M 78 (89 * k + m)) = zset M 56 (pt88 (M 56) (fun j => M 78 (89 * k + j)) 0 (m + 1)) := by
            rw [← pt88_s (M 56) (fun j => M 78 (89 * k + j)) 0 m, Nat.zero_add]
            unfold zu; rw [zset_s, zset_u]
          have e2 : (zset M 56 (pt88 (M 56) (fun j => M 78 (89 * k + j)) 0 m)) 78 (89 * k + m) = M 78 (89 * k + m) := rfl
          rw [e2, e]
          exact ih _ (by rw [hy, nI_1])
      have L0 := L 0 (by omega) 0 rfl
      rw [pt88_0, zset_id] at L0
      exact L0
  · unfold o_goBack at hq; rw [ix_out (by omega) ho] at hq; exact hq M hC (fun _ _ => rfl)
/-- affairs with another part -/
def aSetS (a : zAf) (s : Nat) : zAf := ((aP a, aH a, s, aL a), a.2)
def aCol (a : zAf) (c : Nat) (g : Nat → Nat) : zAf := (a.1, fun k => if k = c then g else a.2 k)
def aPay (a : zAf) (p : Nat) : zAf := ((min 999999 (aP a + p), aH a, aS a, aL a), a.2)
theorem cA_S {T : zTn} {a : zAf} {g : Nat → Int32} {s : Nat} (h : cA T a g) : cA T (aSetS a s) (upd g 2 (nI s)) := by
  obtain ⟨a1, a2, a3, a4, a5, a6, a7, a8⟩ := h
  exact ⟨a1, a2, rfl, a4, fun x hx => by rw [pk_un (by omega)]; exact a5 x hx, fun x hx => by rw [pk_un (by omega)]; exact a6 x hx, fun x hx => by rw [pk_un (by omega)]; exact a7 x hx, fun e he w hw => by rw [pk_un (by omega)]; exact a8 e he w hw⟩
theorem mA_S {T : zTn} {a : zAf} {g : Nat → Int32} {s : Nat} (hC : tC T ≤ 10) (h : mA T a g) : mA T (aSetS a s) (upd g 10 (nI s)) := by
  obtain ⟨a1, a2, a3, a4, a5, a6, a7, a8⟩ := h
  refine ⟨a1, a2, rfl, a4, fun x hx => by rw [pk_un (by omega)]; exact a5 x hx, fun x hx => by rw [pk_un (by omega)]; exact a6 x hx, fun x hx => by rw [pk_un (by omega)]; exact a7 x hx, fun e he => ?_⟩
  obtain ⟨b1, b2, b3⟩ := a8 e he
  exact ⟨by rw [pk_un (by omega)]; exact b1, by rw [pk_un (by omega)]; exact b2, by rw [pk_un (by omega)]; exact b3⟩
theorem cA_P {T : zTn} {a : zAf} {g : Nat → Int32} {p : Nat} (h : cA T a g) : cA T (aPay a p) (upd g 0 (nI (min 999999 (aP a + p)))) := by
  obtain ⟨a1, a2, a3, a4, a5, a6, a7, a8⟩ := h
  exact ⟨rfl, a2, a3, a4, fun x hx => by rw [pk_un (by omega)]; exact a5 x hx, fun x hx => by rw [pk_un (by omega)]; exact a6 x hx, fun x hx => by rw [pk_un (by omega)]; exact a7 x hx, fun e he w hw => by rw [pk_un (by omega)]; exact a8 e he w hw⟩
theorem mA_P {T : zTn} {a : zAf} {g : Nat → Int32} {p : Nat} (hC : tC T ≤ 10) (h : mA T a g) : mA T (aPay a p) (upd g 25 (nI (min 999999 (aP a + p)))) := by
  obtain ⟨a1, a2, a3, a4, a5, a6, a7, a8⟩ := h
  refine ⟨rfl, a2, a3, a4, fun x hx => by rw [pk_un (by omega)]; exact a5 x hx, fun x hx => by rw [pk_un (by omega)]; exact a6 x hx, fun x hx => by rw [pk_un (by omega)]; exact a7 x hx, fun e he => ?_⟩
  obtain ⟨b1, b2, b3⟩ := a8 e he
  exact ⟨by rw [pk_un (by omega)]; exact b1, by rw [pk_un (by omega)]; exact b2, by rw [pk_un (by omega)]; exact b3⟩
theorem cA_So {T : zTn} {a : zAf} {g : Nat → Int32} {i v : Nat} (hC : tC T ≤ 10) (hi : i < 10) (h : cA T a g) : cA T (aCol a 2 (nup (aSo a) i v)) (upd g (18 + i) (nI v)) := by
  obtain ⟨a1, a2, a3, a4, a5, a6, a7, a8⟩ := h
  refine ⟨by rw [pk_un (by omega)]; exact a1, by rw [pk_un (by omega)]; exact a2, by rw [pk_un (by omega)]; exact a3, by rw [pk_un (by omega)]; exact a4, fun x hx => by rw [pk_un (by omega)]; exact a5 x hx, fun x hx => by rw [pk_un (by omega)]; exact a6 x hx, fun x hx => ?_, fun e he w hw => ?_⟩
  · show _ = nI (nup (aSo a) i v x)
    by_cases q : x = i
    · rw [q, pk_us, nup_s]
    · rw [pk_un (by omega), nup_n _ _ q]; exact a7 x hx
  · rw [pk_un (by omega)]
    show _ = nI ((if 3 + w = 2 then nup (aSo a) i v else a.2 (3 + w)) e)
    rw [if_neg (by omega)]
    exact a8 e he w hw
theorem mA_So {T : zTn} {a : zAf} {g : Nat → Int32} {i v : Nat} (hC : tC T ≤ 10) (hi : i < 10) (h : mA T a g) : mA T (aCol a 2 (nup (aSo a) i v)) (upd g i (nI v)) := by
  obtain ⟨a1, a2, a3, a4, a5, a6, a7, a8⟩ := h
  refine ⟨by rw [pk_un (by omega)]; exact a1, by rw [pk_un (by omega)]; exact a2, by rw [pk_un (by omega)]; exact a3, by rw [pk_un (by omega)]; exact a4, fun x hx => by rw [pk_un (by omega)]; exact a5 x hx, fun x hx => by rw [pk_un (by omega)]; exact a6 x hx, fun x hx => ?_, fun e he => ?_⟩
  · show _ = nI (nup (aSo a) i v x)
    by_cases q : x = i
    · rw [q, pk_us, nup_s]
    · rw [pk_un q, nup_n _ _ q]; exact a7 x hx
  · obtain ⟨b1, b2, b3⟩ := a8 e he
    exact ⟨by rw [pk_un (by omega)]; exact b1, by rw [pk_un (by omega)]; exact b2, by rw [pk_un (by omega)]; exact b3⟩
theorem cA_Fe {T : zTn} {a : zAf} {g : Nat → Int32} {f t : Nat} {b : Bool} (hft : f ≠ t) (hf : f < 7) (ht : t < 7) (hC : tC T ≤ 10) (h : cA T a g) : cA T (aCol a 1 (fS (aFe a) f t b)) (fput g 11 f t (nI (bif b then aFe a f ||| 2 ^ t else clr (aFe a f) t)) (nI (bif b then aFe a t ||| 2 ^ f else clr (aFe a t) f))) := by
  obtain ⟨a1, a2, a3, a4, a5, a6, a7, a8⟩ := h
  have o : ∀ j v w, (j < 11 ∨ 18 ≤ j) → fput g 11 f t v w j = g j := fun j v w hj => by unfold fput; rw [pk_un (by omega), pk_un (by omega)]
  refine ⟨by rw [o _ _ _ (by omega)]; exact a1, by rw [o _ _ _ (by omega)]; exact a2, by rw [o _ _ _ (by omega)]; exact a3, by rw [o _ _ _ (by omega)]; exact a4, fun x hx => by rw [o _ _ _ (by omega)]; exact a5 x hx, fun x hx => fput_at hft a6 hx, fun x hx => by rw [o _ _ _ (by omega)]; exact a7 x hx, fun e he w hw => ?_⟩
  rw [o _ _ _ (by omega)]
  show _ = nI ((if 3 + w = 1 then fS (aFe a) f t b else a.2 (3 + w)) e)
  rw [if_neg (by omega)]
  exact a8 e he w hw
theorem mA_Fe {T : zTn} {a : zAf} {g : Nat → Int32} {f t : Nat} {b : Bool} (hft : f ≠ t) (hf : f < 7) (ht : t < 7) (hC : tC T ≤ 10) (h : mA T a g) : mA T (aCol a 1 (fS (aFe a) f t b)) (fput g 18 f t (nI (bif b then aFe a f ||| 2 ^ t else clr (aFe a f) t)) (nI (bif b then aFe a t ||| 2 ^ f else clr (aFe a t) f))) := by
  obtain ⟨a1, a2, a3, a4, a5, a6, a7, a8⟩ := h
  have o : ∀ j v w, (j < 18 ∨ 25 ≤ j) → fput g 18 f t v w j = g j := fun j v w hj => by unfold fput; rw [pk_un (by omega), pk_un (by omega)]
  refine ⟨by rw [o _ _ _ (by omega)]; exact a1, by rw [o _ _ _ (by omega)]; exact a2, by rw [o _ _ _ (by omega)]; exact a3, by rw [o _ _ _ (by omega)]; exact a4, fun x hx => by rw [o _ _ _ (by omega)]; exact a5 x hx, fun x hx => fput_at hft a6 hx, fun x hx => by rw [o _ _ _ (by omega)]; exact a7 x hx, fun e he => ?_⟩
  obtain ⟨b1, b2, b3⟩ := a8 e he
  exact ⟨by rw [o _ _ _ (by omega)]; exact b1, by rw [o _ _ _ (by omega)]; exact b2, by rw [o _ _ _ (by omega)]; exact b3⟩
