/-! town -/
def af0 (s : Nat → Nat) : zAf := ((0, 0, 0, 0), fun k => if k = 2 then s else fun _ => 0)
theorem af0_v {T : zTn} {s : Nat → Nat} (hs : ∀ i, i < tC T → s i < 4) : vA T (af0 s) := by
  refine ⟨Nat.zero_le _, Nat.zero_le _, Nat.two_pow_pos _, Nat.zero_le _, fun x _ => Nat.zero_le _, fun x _ => ⟨Nat.two_pow_pos _, fun _ => rfl⟩, hs, fun e h => absurd h (Nat.not_lt_zero _), fun x y _ _ => ?_⟩
  show (0 : Nat).testBit y = (0 : Nat).testBit x
  rw [Nat.zero_testBit, Nat.zero_testBit]
def gF (G : zG) (w : Nat) : zG := (G.1, G.2.1, G.2.2.1, (gSd G, nI w), (0, (gX G).2), G.2.2.2.2.2.1, G.2.2.2.2.2.2)
def gN (G : zG) (D : rD) : zG := ((D.1, af0 D.2), (0, (gU G).2), ((fun _ => false), (gI G).2.1, (gI G).2.2), (gSd G, -1), (0, (gX G).2), (0, (gSn G).2), (0, (gBk G).2))
def o_town (G : zG) : Int32 × zG := match rdA (gX G) 241 r0 0 with
  | .inl (f, w) => (-10 - nI f, gF G w)
  | .inr D => (nI (tS D.1), gN G D)
theorem rdA_ok {X : rX} : ∀ k D p D', vD D → p ≤ X.1 → rdA X k D p = .inr D' → vD D'
  | 0, D, p, D', hv, _, h => by
    have : D = D' := Sum.inr.inj h
    rw [← this]; exact hv
  | k + 1, D, p, D', hv, hp, h => by
    rw [rdA_s] at h
    by_cases c : sB X p < X.1
    · rw [if_pos c] at h
      cases e : rdC X D (sB X p) with
      | inl f => rw [e] at h; exact absurd h (by simp)
      | inr r =>
        obtain ⟨D2, p2⟩ := r
        rw [e] at h
        obtain ⟨a1, a2, a3⟩ := rdC_ok hv c e
        exact rdA_ok k D2 p2 D' a1 a3 h
    · rw [if_neg c] at h
      have : D = D' := Sum.inr.inj h
      rw [← this]; exact hv
theorem v_town {G : zG} (h : zV G) : zV (o_town G).2 := by
  obtain ⟨h1, h2, h3, h4, h5, h6, h7, h8⟩ := h
  unfold o_town
  split
  · exact ⟨h1, h2, h3, h4, h5, ⟨Nat.zero_le _, fun j hj => absurd hj (Nat.not_lt_zero _)⟩, h7, h8⟩
  · next D e =>
    have hv := rdA_ok 241 r0 0 D vD_0 (Nat.zero_le _) e
    exact ⟨hv.1, af0_v hv.2, ⟨Nat.zero_le _, fun e he => absurd he (Nat.not_lt_zero _)⟩, fun i hi q => absurd (show (false : Bool) = true from q) Bool.false_ne_true, h5, ⟨Nat.zero_le _, fun j hj => absurd hj (Nat.not_lt_zero _)⟩, ⟨Nat.zero_le _, fun j hj => absurd hj (Nat.not_lt_zero _)⟩, ⟨Nat.zero_le _, fun j hj => absurd hj (Nat.not_lt_zero _)⟩⟩
theorem kc_town {Q : Option Value → zM → Prop} {G : zG} {M : zM} (hC : zC G M) (hV : zV G) (hq : ∀ M', zC (o_town G).2 M' → frM M M' → Q (some (.int (o_town G).1)) M') : zCon fX10_town [.ref 0] M Q := by
  obtain ⟨c1, c2, c3, c4, c5, c6, c7, c8, c9⟩ := id hC
  refine zc_of zkX10_town [] 60 (Nat.le_of_ble_eq_true rfl) (k_X7_read (X := gX G) hV.2.2.2.2.2.1 c7.1 c7.2 (fun f w e b1 b2 M1 f1 e2 e5 e6 => ?_) (fun D e hv M1 f1 e2 e5 e6 hd => ?_))
  · unfold o_town at hq
    rw [e] at hq
    dsimp only at hq
    refine bf_ (by rw [e5]; exact nI_ne0 b1 (by omega)) ?_
    have hh := hq M1 ⟨zTc_fr (fun k h1 h2 => f1 k (by omega)) c1, by rw [f1 22 (by omega)]; exact c2, cU_fr (by rw [f1 23 (by omega)]) (by rw [f1 23 (by omega)]) (f1 24 (by omega)) c3, cIm_fr (by rw [f1 23 (by omega)]) (f1 25 (by omega)) (f1 26 (by omega)) c4, by rw [f1 0 (by omega)]; exact c5, e6, ⟨e2, fun j hj => absurd hj (Nat.not_lt_zero _)⟩, cSn_fr (f1 39 (by omega)) (f1 40 (by omega)) (f1 41 (by omega)) c8, cBk_fr (f1 44 (by omega)) (f1 45 (by omega)) (f1 46 (by omega)) c9⟩ (fun k hk => f1 k (by omega))
    rw [← e5] at hh
    exact hh
  · unfold o_town at hq
    rw [e] at hq
    dsimp only at hq
    have hCc := zTv_C hv.1
    refine bt_ e5 (k_X8_copyFrom hd hv (fun M2 f2 hT2 hs2 => ?_))
    refine zc_of zkX0_begin [] 60 (Nat.le_of_ble_eq_true rfl) (k_fill_22 ⟨0, 18, 10, rfl, rfl, rfl, by decide, by decide, ?_⟩)
    have o : ∀ k, (k < 1 ∨ 20 < k) → M2 k = M k := fun k hk => by rw [f2 k (by omega), f1 k (by omega)]
    refine zc_of zkX5_forgetAll [] 60 (Nat.le_of_ble_eq_true rfl) (zc_of zkX3_clear [] 60 (Nat.le_of_ble_eq_true rfl) (zc_of zkX1_clear [] 60 (Nat.le_of_ble_eq_true rfl) ?_))
    have key : ∀ v, v = nI (tS D.1) → Q (some (.int v)) (zu (zu (zu (zu (zset (zset M2 22 (zfill (M2 22) 108 0)) 22 (va_cpy (M2 6) (zfill (M2 22) 108 0) 0 18 10)) 23 5 0) 23 3 0) 39 5 0) 44 2 0) := by
      intro v hv'
      subst hv'
      have e10 : M2 10 = M1 10 := f2 10 (by omega)
      obtain ⟨u1, nw, u2, u3, u4⟩ := c3
      refine hq _ ⟨zTc_fr (M := M2) (fun k h1 h2 => by rw [zu_n _ _ _ (by omega), zu_n _ _ _ (by omega), zu_n _ _ _ (by omega), zu_n _ _ _ (by omega), zset_n _ _ (by omega), zset_n _ _ (by omega)]) hT2, ?_, ⟨rfl, nw, u2, ?_, fun e he => absurd he (Nat.not_lt_zero _)⟩, ⟨0, by omega, rfl, fun i hi => ⟨by show (0 : Nat).testBit i = false; rw [Nat.zero_testBit], fun q => absurd (show (false : Bool) = true from q) Bool.false_ne_true⟩⟩, ?_, ?_, ⟨?_, fun j hj => absurd hj (Nat.not_lt_zero _)⟩, ⟨rfl, fun j hj => absurd hj (Nat.not_lt_zero _)⟩, ⟨rfl, fun j hj => absurd hj (Nat.not_lt_zero _)⟩⟩ (fun k hk => ?_)
      · show cA D.1 (af0 D.2) (va_cpy (M2 6) (zfill (M2 22) 108 0) 0 18 10)
        have z : ∀ j, (j < 18 ∨ 28 ≤ j) → j < 108 → va_cpy (M2 6) (zfill (M2 22) 108 0) 0 18 10 j = nI 0 := fun j h1 h2 => by
          unfold va_cpy
          rw [if_neg (by omega)]
          unfold zfill
          rw [if_pos h2]
          rfl
        refine ⟨z 0 (by omega) (by omega), z 1 (by omega) (by omega), z 2 (by omega) (by omega), z 3 (by omega) (by omega), fun x hx => z _ (by omega) (by omega), fun x hx => z _ (by omega) (by omega), fun i hi => ?_, fun e he => absurd he (Nat.not_lt_zero _)⟩
        unfold va_cpy
        rw [if_pos (by omega), show 0 + (18 + i - 18) = i by omega]
        exact hs2 i hi
      · show M2 23 4 = nI nw
        rw [o 23 (by omega)]; exact u3
      · show M2 0 10 = nI (gSd G)
        rw [o 0 (by omega)]; exact c5
      · show M2 10 6 = -1
        rw [e10]; exact e6
      · show M2 10 2 = nI 0
        rw [e10]; exact e2
      · rw [zu_n _ _ _ (by omega), zu_n _ _ _ (by omega), zu_n _ _ _ (by omega), zu_n _ _ _ (by omega), zset_n _ _ (by omega), zset_n _ _ (by omega), o k (by omega)]
    exact key _ hT2.2.1
