/-! town of the class -/
theorem rdT_ok {X : rX} {D D' : rD} {p e : Nat} (hv : vD D) (h0 : tN D.1 = 0) (hp : p ≤ X.1) (h : rdT X D p = .inr (D', e)) : vD D' ∧ p < e ∧ e ≤ X.1 := by
  unfold rdT at h
  cases e1 : rdN X 2 9 p with
  | inl f => rw [e1] at h; exact absurd h (by simp)
  | inr r =>
    obtain ⟨v, q, e2⟩ := r
    rw [e1] at h
    dsimp only at h
    obtain ⟨a1, a2, a3, a4, a5⟩ := rdN_ok hp e1
    cases e3 : rdE X e2 with
    | inl f => rw [e3] at h; exact absurd h (by simp)
    | inr e4 =>
      rw [e3] at h
      have := Sum.inr.inj h
      rw [Prod.mk.injEq] at this
      obtain ⟨k1, k2⟩ := rdE_ok a5 e3
      rw [← this.1]
      exact ⟨vD_N hv h0 (by omega) a1, by omega, by omega⟩
theorem rdS_ok {X : rX} {D D' : rD} {p e : Nat} (hv : vD D) (h0 : tS D.1 < 7) (hp : p ≤ X.1) (h : rdS X D p = .inr (D', e)) : vD D' ∧ p < e ∧ e ≤ X.1 := by
  unfold rdS at h
  cases e1 : rdN X 0 (tN D.1) p with
  | inl f => rw [e1] at h; exact absurd h (by simp)
  | inr r =>
    obtain ⟨a, q, e2⟩ := r
    rw [e1] at h
    dsimp only at h
    obtain ⟨a1, a2, a3, a4, a5⟩ := rdN_ok hp e1
    cases e3 : rdN X 0 (tN D.1) e2 with
    | inl f => rw [e3] at h; exact absurd h (by simp)
    | inr r =>
      obtain ⟨b, q2, e4⟩ := r
      rw [e3] at h
      dsimp only at h
      obtain ⟨b1, b2, b3, b4, b5⟩ := rdN_ok a5 e3
      by_cases c : b = a
      · rw [if_pos c] at h; exact absurd h (by simp)
      · rw [if_neg c] at h
        cases e5 : rdE X e4 with
        | inl f => rw [e5] at h; exact absurd h (by simp)
        | inr e6 =>
          rw [e5] at h
          have := Sum.inr.inj h
          rw [Prod.mk.injEq] at this
          obtain ⟨k1, k2⟩ := rdE_ok b5 e5
          rw [← this.1]
          exact ⟨vD_S hv h0 a2 b2, by omega, by omega⟩
theorem rdK_ok {X : rX} {D D' : rD} {p e : Nat} (hv : vD D) (h0 : tC D.1 < 10) (hp : p ≤ X.1) (h : rdK X D p = .inr (D', e)) : vD D' ∧ p < e ∧ e ≤ X.1 := by
  unfold rdK at h
  cases e1 : rdN X 0 (tS D.1) p with
  | inl f => rw [e1] at h; exact absurd h (by simp)
  | inr r =>
    obtain ⟨a, q, e2⟩ := r
    rw [e1] at h
    dsimp only at h
    obtain ⟨a1, a2, a3, a4, a5⟩ := rdN_ok hp e1
    cases e3 : rdN X 0 (tS D.1) e2 with
    | inl f => rw [e3] at h; exact absurd h (by simp)
    | inr r =>
      obtain ⟨b, q2, e4⟩ := r
      rw [e3] at h
      dsimp only at h
      obtain ⟨b1, b2, b3, b4, b5⟩ := rdN_ok a5 e3
      by_cases c : b = a ∨ jn D.1 a b (tC D.1) = true
      · rw [if_pos c] at h; exact absurd h (by simp)
      · rw [if_neg c] at h
        unfold rdK2 at h
        cases e5 : rdN X 0 4 e4 with
        | inl f => rw [e5] at h; exact absurd h (by simp)
        | inr r =>
          obtain ⟨s, q3, e6⟩ := r
          rw [e5] at h
          dsimp only at h
          obtain ⟨c1, c2, c3, c4, c5⟩ := rdN_ok b5 e5
          cases e7 : rdN X 0 (tN D.1) e6 with
          | inl f => rw [e7] at h; exact absurd h (by simp)
          | inr r =>
            obtain ⟨k, q4, e8⟩ := r
            rw [e7] at h
            dsimp only at h
            obtain ⟨d1, d2, d3, d4, d5⟩ := rdN_ok c5 e7
            cases e9 : rdN X 0 (tN D.1) e8 with
            | inl f => rw [e9] at h; exact absurd h (by simp)
            | inr r =>
              obtain ⟨l, q5, ea⟩ := r
              rw [e9] at h
              dsimp only at h
              obtain ⟨f1, f2, f3, f4, f5⟩ := rdN_ok d5 e9
              cases eb : rdN X 0 100 ea with
              | inl f => rw [eb] at h; exact absurd h (by simp)
              | inr r =>
                obtain ⟨g, q6, ec⟩ := r
                rw [eb] at h
                dsimp only at h
                obtain ⟨g1, g2, g3, g4, g5⟩ := rdN_ok f5 eb
                cases ed : rdE X ec with
                | inl f => rw [ed] at h; exact absurd h (by simp)
                | inr ee =>
                  rw [ed] at h
                  have := Sum.inr.inj h
                  rw [Prod.mk.injEq] at this
                  obtain ⟨k1, k2⟩ := rdE_ok g5 ed
                  rw [← this.1]
                  refine ⟨vD_K hv h0 a2 b2 (fun q => c (Or.inl q)) ?_ c2 d2 f2 g2, by omega, by omega⟩
                  cases j : jn D.1 a b (tC D.1) with
                  | true => exact absurd (Or.inr j) c
                  | false => rfl
theorem rdC_ok {X : rX} {D D' : rD} {q e : Nat} (hv : vD D) (hq : q < X.1) (h : rdC X D q = .inr (D', e)) : vD D' ∧ q < e ∧ e ≤ X.1 := by
  have key : vD D' ∧ q + 1 < e ∧ e ≤ X.1 := by
    unfold rdC at h
    split at h
    · split at h
      · next c => exact rdT_ok hv c (by omega) h
      · exact absurd h (by simp)
    · split at h
      · split at h
        · next c => exact rdS_ok hv c (by omega) h
        · exact absurd h (by simp)
      · split at h
        · split at h
          · next c => exact rdK_ok hv c (by omega) h
          · exact absurd h (by simp)
        · exact absurd h (by simp)
  exact ⟨key.1, by omega, key.2.2⟩
abbrev fOK {α : Type} (R : rF ⊕ α) : Prop := ∀ f w, R = .inl (f, w) → 0 < f ∧ f < 5
theorem fOK_N {X : rX} {lo h p : Nat} : fOK (rdN X lo h p) := fun f w e => by
  unfold rdN at e
  split at e
  · split at e
    · have := Sum.inl.inj e; rw [Prod.mk.injEq] at this; omega
    · exact absurd e (by simp)
  · have := Sum.inl.inj e; rw [Prod.mk.injEq] at this; omega
theorem fOK_E {X : rX} {p : Nat} : fOK (rdE X p) := fun f w e => by
  unfold rdE at e
  split at e
  · exact absurd e (by simp)
  · have := Sum.inl.inj e; rw [Prod.mk.injEq] at this; omega
theorem fOK_i {α : Type} {f w : Nat} (h1 : 0 < f) (h2 : f < 5) : fOK (α := α) (.inl (f, w)) := fun f' w' e => by
  have := Sum.inl.inj e; rw [Prod.mk.injEq] at this; omega
theorem fOK_r {α : Type} {a : α} : fOK (.inr a) := fun f' w' e => absurd e (by simp)
theorem fOK_T {X : rX} {D : rD} {p : Nat} : fOK (rdT X D p) := by
  unfold rdT
  split
  · next f e => exact fun f' w' e' => fOK_N f' w' (e.trans (congrArg Sum.inl (Sum.inl.inj e')))
  · split
    · next f e => exact fun f' w' e' => fOK_E f' w' (e.trans (congrArg Sum.inl (Sum.inl.inj e')))
    · exact fOK_r
theorem fOK_S {X : rX} {D : rD} {p : Nat} : fOK (rdS X D p) := by
  unfold rdS
  split
  · next f e => exact fun f' w' e' => fOK_N f' w' (e.trans (congrArg Sum.inl (Sum.inl.inj e')))
  · split
    · next f e => exact fun f' w' e' => fOK_N f' w' (e.trans (congrArg Sum.inl (Sum.inl.inj e')))
    · split
      · exact fOK_i (by omega) (by omega)
      · split
        · next f e => exact fun f' w' e' => fOK_E f' w' (e.trans (congrArg Sum.inl (Sum.inl.inj e')))
        · exact fOK_r
theorem fOK_K {X : rX} {D : rD} {p : Nat} : fOK (rdK X D p) := by
  unfold rdK
  split
  · next f e => exact fun f' w' e' => fOK_N f' w' (e.trans (congrArg Sum.inl (Sum.inl.inj e')))
  · split
    · next f e => exact fun f' w' e' => fOK_N f' w' (e.trans (congrArg Sum.inl (Sum.inl.inj e')))
    · split
      · exact fOK_i (by omega) (by omega)
      · unfold rdK2
        split
        · next f e => exact fun f' w' e' => fOK_N f' w' (e.trans (congrArg Sum.inl (Sum.inl.inj e')))
        · split
          · next f e => exact fun f' w' e' => fOK_N f' w' (e.trans (congrArg Sum.inl (Sum.inl.inj e')))
          · split
            · next f e => exact fun f' w' e' => fOK_N f' w' (e.trans (congrArg Sum.inl (Sum.inl.inj e')))
            · split
              · next f e => exact fun f' w' e' => fOK_N f' w' (e.trans (congrArg Sum.inl (Sum.inl.inj e')))
              · split
                · next f e => exact fun f' w' e' => fOK_E f' w' (e.trans (congrArg Sum.inl (Sum.inl.inj e')))
                · exact fOK_r
theorem fOK_C {X : rX} {D : rD} {q : Nat} : fOK (rdC X D q) := by
  unfold rdC
  split
  · split
    · exact fOK_T
    · exact fOK_i (by omega) (by omega)
  · split
    · split
      · exact fOK_S
      · exact fOK_i (by omega) (by omega)
    · split
      · split
        · exact fOK_K
        · exact fOK_i (by omega) (by omega)
      · exact fOK_i (by omega) (by omega)
theorem k_X7_readClause {Q : Option Value → zM → Prop} {M : zM} {X : rX} {D : rD} {q : Nat} {na : Int32} (hX : vX X) (hr : rC X q na none M) (hq : q < X.1) (hd : dC0 D M) (hv : vD D) (h : clQ Q X M (rdC X D q)) : zCon fX7_readClause [.ref 10] M Q := by
  have x1 := hX.1
  have g0 : flG none := fun f w e => by cases e
  have lb := hX.2 q hq
  have d0 := hd.2.2.2.1
  refine zc_of zkX7_readClause [64] 60 (Nat.le_of_ble_eq_true rfl) (k_X7_letter hX hr (by omega) (fun _ c ec => ?_) (fun c => absurd c (by omega)))
  have bad : rdC X D q = .inl (1, q) → zEv fX7_readClause Q 64 [(0, .ref 10), (1, .int c)] [] M := fun e =>
    zev_go zkX7_readClause [] 60 (k_X7_blameAt g0 hr n_1 hr.2.2.1 (fun M' f1 hr1 => h.1 1 q e M' q na (frR_w (by omega) (by omega) f1) (by omega) hr1))
  refine iNe ec n_116 (by omega) (by decide) (fun c1 => ?_) (fun c1 => ?_)
  · refine iNe ec n_115 (by omega) (by decide) (fun c2 => ?_) (fun c2 => ?_)
    · refine iNe ec (show (105 : Int32) = nI 105 from rfl) (by omega) (by decide) (fun c3 => bad ?_) (fun c3 => ?_)
      · unfold rdC; rw [if_neg c1, if_neg (fun r => c2 r.1), if_neg (fun r => c3 r.1)]
      · by_cases z : tN D.1 = 0
        · rw [if_pos z] at d0
          refine bt_ d0 (bad ?_)
          unfold rdC; rw [if_neg c1, if_neg (fun r => c2 r.1), if_neg (fun r => r.2 z)]
        · rw [if_neg z] at d0
          refine bf_ (by rw [d0]; decide) (k_X7_readCorner hX hr hq hd hv ?_)
          unfold rdC at h; rw [if_neg c1, if_neg (fun r => c2 r.1), if_pos ⟨c3, z⟩] at h
          exact h
    · by_cases z : tN D.1 = 0
      · rw [if_pos z] at d0
        refine bt_ d0 ?_
        refine iNe ec (show (105 : Int32) = nI 105 from rfl) (by omega) (by decide) (fun c3 => bad ?_) (fun c3 => absurd c3 (by omega))
        unfold rdC; rw [if_neg c1, if_neg (fun r => r.2 z), if_neg (fun r => r.2 z)]
      · rw [if_neg z] at d0
        refine bf_ (by rw [d0]; decide) (k_X7_readStreet hX hr hq hd hv ?_)
        unfold rdC at h; rw [if_neg c1, if_pos ⟨c2, z⟩] at h
        exact h
  · refine k_X7_readWords hX hr hq hd hv ?_
    unfold rdC at h; rw [if_pos c1] at h
    exact h
theorem rdA_s (X : rX) (k : Nat) (D : rD) (p : Nat) : rdA X (k + 1) D p = if sB X p < X.1 then (match rdC X D (sB X p) with
    | .inl f => .inl f
    | .inr (D, p) => rdA X k D p) else .inr D := rfl
theorem k_X7_read {Q : Option Value → zM → Prop} {M : zM} {X : rX} (hX : vX X) (h2' : M 10 2 = nI X.1) (h11 : ∀ j, j < X.1 → M 11 j = nI (X.2 j)) (h1 : ∀ f w, rdA X 241 r0 0 = .inl (f, w) → 0 < f → f < 5 → ∀ M', frR 10 20 M M' → M' 10 2 = 0 → M' 10 5 = nI f → M' 10 6 = nI w → Q none M') (h2 : ∀ D, rdA X 241 r0 0 = .inr D → vD D → ∀ M', frR 10 20 M M' → M' 10 2 = 0 → M' 10 5 = 0 → M' 10 6 = -1 → dC0 D M' → Q none M') : zCon fX7_read [.ref 10] M Q := by
  have x1 := hX.1
  refine zc_of zkX7_read [28] 60 (Nat.le_of_ble_eq_true rfl) (zc_of zkX8_clear [] 60 (Nat.le_of_ble_eq_true rfl) ⟨Or.inl rfl, ?_⟩)
  have L : ∀ k D p c y M' na, 241 ≤ p + k → p ≤ X.1 → c ≤ p → y = nI c → vD D → rdA X k D p = rdA X 241 r0 0 → frR 10 20 M M' → rC X (sB X p) na none M' → dC0 D M' → zEv fX7_read Q 28 [(0, .ref 10), (1, .int y)] [] M' := by
    intro k
    induction k with
    | zero => intro D p c y M' na hk hp; omega
    | succ k ih =>
      intro D p c y M' na hk hp hc hy hv hA hf hr hd
      obtain ⟨s1, s2⟩ := sB_le hp
      obtain ⟨r1, r2, r3, r4, r5, r6⟩ := id hr
      rw [rdA_s] at hA
      have fin : ¬ sB X p < X.1 → zEv fX7_read Q 67 [(0, .ref 10), (1, .int y)] [] M' := fun q => by
        rw [if_neg q] at hA
        refine zev_go zkX7_read [] 60 (h2 D hA.symm hv _ (frR_u (by omega) (by omega) hf) ?_ ?_ ?_ (dC0_fr (fun k h1 h2 => zu_n _ _ _ (by omega)) hd))
        · rw [zu_at]
        · rw [zu_ne _ _ (by decide)]; exact r5
        · rw [zu_ne _ _ (by decide)]; exact r6
      refine zev_go zkX7_read [28, 67] 60 (iGe hy n_240 (by omega) (by decide) (fun q => fin (by omega)) (fun _ => nf_ r5 (iGe r3 r1 (by omega) (by omega) (fun q => fin (by omega)) (fun q => ?_))))
      rw [if_pos q] at hA
      refine k_X7_readClause hX hr q hd hv ⟨fun f w e M2 p2 na2 f2 hp2 hr2 => ?_, fun D2 e2 e M2 na2 f2 hr2 hd2 => ?_⟩
      · rw [e] at hA
        dsimp only at hA
        obtain ⟨b1, b2⟩ := fOK_C f w e
        refine k_X7_skipBlanks hX hr2 hp2 (fun M3 f3 hr3 => ?_)
        have f23 : frR 10 20 M M3 := frR_t hf (frR_t f2 (frR_w (by omega) (by omega) f3))
        obtain ⟨t1, t2, t3, t4, t5, t6⟩ := id hr3
        have n := flN_ne (fl4 (w := w) b1 b2) rfl
        rw [← t5] at n
        have fin2 : ∀ y, zEv fX7_read Q 67 [(0, .ref 10), (1, .int y)] [] M3 := fun y => by
          refine zev_go zkX7_read [] 60 (h1 f w hA.symm b1 b2 _ (frR_u (by omega) (by omega) f23) ?_ ?_ ?_)
          · rw [zu_at]
          · rw [zu_ne _ _ (by decide)]; exact t5
          · rw [zu_ne _ _ (by decide)]; exact t6
        exact zev_go zkX7_read [67] 60 (nr (fun _ => fin2 _) (fun _ => nt_ n (fin2 _)))
      · rw [e] at hA
        dsimp only at hA
        obtain ⟨b1, b2, b3⟩ := rdC_ok hv q e
        have hA' : rdA X k D2 e2 = rdA X 241 r0 0 := hA
        refine k_X7_skipBlanks hX hr2 b3 (fun M3 f3 hr3 => ?_)
        have f23 : frR 10 20 M M3 := frR_t hf (frR_t f2 (frR_w (by omega) (by omega) f3))
        exact ih D2 e2 (c + 1) _ M3 _ (by omega) b3 (by omega) (by rw [hy, nI_1]) b1 hA' f23 hr3 (dC0_fr (fun k h1 h2 => f3 k (by omega)) hd2)
  have r0' : rC X 0 (M 10 4) none (zu (zu (zu (zu (zu (zu (zu M 12 0 0) 12 1 0) 12 2 0) 12 3 0) 10 3 0) 10 5 0) 10 6 (-1)) := by
    refine ⟨?_, ?_, ?_, ?_, ?_, ?_⟩
    · rw [zu_lo (by omega), zu_lo (by omega), zu_lo (by omega), zu_lo (by omega), zu_lo (by omega), zu_lo (by omega), zu_lo (by omega)]; exact h2'
    · intro j hj
      rw [zu_lo (by omega), zu_lo (by omega), zu_lo (by omega), zu_lo (by omega), zu_lo (by omega), zu_lo (by omega), zu_lo (by omega)]; exact h11 j hj
    · rw [zu_lo (by omega), zu_lo (by omega), zu_at]; rfl
    · rw [zu_lo (by omega), zu_lo (by omega), zu_lo (by omega), zu_lo (by omega), zu_lo (by omega), zu_lo (by omega), zu_lo (by omega)]
    · rw [zu_lo (by omega), zu_at]; rfl
    · rw [zu_at]; rfl
  have d0' : dC0 r0 (zu (zu (zu (zu (zu (zu (zu M 12 0 0) 12 1 0) 12 2 0) 12 3 0) 10 3 0) 10 5 0) 10 6 (-1)) := by
    refine ⟨?_, ?_, ?_, ?_, fun i hi => absurd hi (Nat.not_lt_zero _), fun i hi => absurd hi (Nat.not_lt_zero _), fun i hi => absurd hi (Nat.not_lt_zero _), fun i hi => absurd hi (Nat.not_lt_zero _), fun i hi => absurd hi (Nat.not_lt_zero _), fun i hi => absurd hi (Nat.not_lt_zero _), fun i hi => absurd hi (Nat.not_lt_zero _), fun i hi => absurd hi (Nat.not_lt_zero _)⟩
    · rw [zu_lo (by omega), zu_lo (by omega), zu_lo (by omega), zu_lo (by omega), zu_lo (by omega), zu_at]; rfl
    · rw [zu_lo (by omega), zu_lo (by omega), zu_lo (by omega), zu_lo (by omega), zu_at]; rfl
    · rw [zu_lo (by omega), zu_lo (by omega), zu_lo (by omega), zu_at]; rfl
    · rw [zu_lo (by omega), zu_lo (by omega), zu_lo (by omega), zu_lo (by omega), zu_lo (by omega), zu_lo (by omega), zu_at]; rfl
  refine k_X7_skipBlanks hX r0' (Nat.zero_le _) (fun M1 f1 hr1 => ?_)
  refine L 241 r0 0 0 0 M1 _ (by omega) (Nat.zero_le _) (Nat.le_refl _) n_0 vD_0 rfl ?_ hr1 (dC0_fr (fun k h1 h2 => f1 k (by omega)) d0')
  refine frR_t ?_ (frR_w (by omega) (by omega) f1)
  exact frR_u (by omega) (by omega) (frR_u (by omega) (by omega) (frR_u (by omega) (by omega) (frR_u (by omega) (by omega) (frR_u (by omega) (by omega) (frR_u (by omega) (by omega) (frR_u (by omega) (by omega) (frR_r _ _ _)))))))
theorem cpy0 {f g : Nat → Int32} {n a : Nat} (h : a < n) : va_cpy f g 0 0 n a = f a := by
  unfold va_cpy
  rw [if_pos ⟨Nat.zero_le _, by omega⟩]
  congr 1
  omega
theorem k_X8_copyFrom {Q : Option Value → zM → Prop} {M : zM} {D : rD} (hd : dC0 D M) (hv : vD D) (h : ∀ M', frR 1 9 M M' → zTc D.1 M' → (∀ i, i < tC D.1 → M' 6 i = nI (D.2 i)) → Q none M') : zCon fX8_copyFrom [.ref 1, .ref 12] M Q := by
  have hS := zTv_S hv.1
  have hC := zTv_C hv.1
  obtain ⟨d1, d2, d3, d4, d5, d6, d7, d8, d9, d10, d11, d12⟩ := hd
  refine zc_of zkX8_copyFrom [] 120 (Nat.le_of_ble_eq_true rfl) ⟨by rw [d4]; split; exact Or.inl rfl; exact Or.inr rfl, ?_⟩
  refine ⟨0, 0, 7, rfl, rfl, rfl, by decide, by decide, ?_⟩
  refine ⟨0, 0, 7, rfl, rfl, rfl, by decide, by decide, ?_⟩
  refine ⟨0, 0, 10, rfl, rfl, rfl, by decide, by decide, ?_⟩
  refine ⟨0, 0, 10, rfl, rfl, rfl, by decide, by decide, ?_⟩
  refine ⟨0, 0, 10, rfl, rfl, rfl, by decide, by decide, ?_⟩
  refine ⟨0, 0, 10, rfl, rfl, rfl, by decide, by decide, ?_⟩
  refine ⟨0, 0, 10, rfl, rfl, rfl, by decide, by decide, ?_⟩
  refine ⟨0, 0, 10, rfl, rfl, rfl, by decide, by decide, ?_⟩
  refine h _ (frR_z (by omega) (by omega) (frR_z (by omega) (by omega) (frR_z (by omega) (by omega) (frR_z (by omega) (by omega) (frR_z (by omega) (by omega) (frR_z (by omega) (by omega) (frR_z (by omega) (by omega) (frR_z (by omega) (by omega) (frR_u (by omega) (by omega) (frR_u (by omega) (by omega) (frR_u (by omega) (by omega) (frR_u (by omega) (by omega) (frR_r _ _ _))))))))))))) ⟨d1, d2, d3, d4, fun a ha => ?_, fun a ha => ?_, fun a ha => ?_, fun a ha => ?_, fun a ha => ?_, fun a ha => ?_, fun a ha => ?_⟩ (fun a ha => ?_)
  · exact (cpy0 (show a < 7 by omega)).trans (d5 a ha)
  · exact (cpy0 (show a < 7 by omega)).trans (d6 a ha)
  · exact (cpy0 (show a < 10 by omega)).trans (d7 a ha)
  · exact (cpy0 (show a < 10 by omega)).trans (d8 a ha)
  · exact (cpy0 (show a < 10 by omega)).trans (d10 a ha)
  · exact (cpy0 (show a < 10 by omega)).trans (d11 a ha)
  · exact (cpy0 (show a < 10 by omega)).trans (d12 a ha)
  · exact (cpy0 (show a < 10 by omega)).trans (d9 a ha)
