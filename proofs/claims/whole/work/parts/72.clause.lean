/-! the class's clauses -/
theorem frR_w {lo hi lo' hi' : Nat} {M M' : zM} (h1 : lo' ≤ lo) (h2 : hi ≤ hi') (h : frR lo hi M M') : frR lo' hi' M M' := fun j hj => h j (by omega)
theorem zu_lo {M : zM} {k t j i : Nat} {v : Int32} (h : i ≠ t ∨ j ≠ k) : zu M k t v j i = M j i := by
  by_cases c : j = k
  · subst c; rw [zu_ne _ _ (by omega)]
  · rw [zu_n _ _ _ c]
def dC0 (D : rD) (M : zM) : Prop :=
  M 12 1 = nI (tN D.1) ∧ M 12 2 = nI (tS D.1) ∧ M 12 3 = nI (tC D.1) ∧ M 12 0 = (if tN D.1 = 0 then 0 else 1) ∧
  (∀ a, a < tS D.1 → M 13 a = nI (tI D.1 a)) ∧ (∀ a, a < tS D.1 → M 14 a = nI (tY D.1 a)) ∧
  (∀ i, i < tC D.1 → M 15 i = nI (tA D.1 i)) ∧ (∀ i, i < tC D.1 → M 16 i = nI (tB D.1 i)) ∧ (∀ i, i < tC D.1 → M 17 i = nI (D.2 i)) ∧
  (∀ i, i < tC D.1 → M 18 i = nI (tK D.1 i)) ∧ (∀ i, i < tC D.1 → M 19 i = nI (tL D.1 i)) ∧ (∀ i, i < tC D.1 → M 20 i = nI (tP D.1 i))
theorem dC0_fr {D : rD} {M M' : zM} (h : ∀ k, 12 ≤ k → k ≤ 20 → M' k = M k) (hd : dC0 D M) : dC0 D M' := by
  unfold dC0 at hd ⊢
  rw [h 12 (by omega) (by omega), h 13 (by omega) (by omega), h 14 (by omega) (by omega), h 15 (by omega) (by omega), h 16 (by omega) (by omega), h 17 (by omega) (by omega), h 18 (by omega) (by omega), h 19 (by omega) (by omega), h 20 (by omega) (by omega)]
  exact hd
theorem dC0_u {D : rD} {M : zM} {k t : Nat} {v : Int32} (hk : 13 ≤ k) (hs : k ≤ 14 → tS D.1 ≤ t) (hc : 15 ≤ k → tC D.1 ≤ t) (hd : dC0 D M) : dC0 D (zu M k t v) := by
  obtain ⟨d1, d2, d3, d4, d5, d6, d7, d8, d9, d10, d11, d12⟩ := hd
  refine ⟨?_, ?_, ?_, ?_, fun i hi => ?_, fun i hi => ?_, fun i hi => ?_, fun i hi => ?_, fun i hi => ?_, fun i hi => ?_, fun i hi => ?_, fun i hi => ?_⟩
  · rw [zu_lo (by omega)]; exact d1
  · rw [zu_lo (by omega)]; exact d2
  · rw [zu_lo (by omega)]; exact d3
  · rw [zu_lo (by omega)]; exact d4
  · rw [zu_lo (by omega)]; exact d5 i hi
  · rw [zu_lo (by omega)]; exact d6 i hi
  · rw [zu_lo (by omega)]; exact d7 i hi
  · rw [zu_lo (by omega)]; exact d8 i hi
  · rw [zu_lo (by omega)]; exact d9 i hi
  · rw [zu_lo (by omega)]; exact d10 i hi
  · rw [zu_lo (by omega)]; exact d11 i hi
  · rw [zu_lo (by omega)]; exact d12 i hi
theorem dC0_S {D : rD} {M : zM} {a b : Nat} {x : Int32} (hd : dC0 D M) (ha : M 13 (tS D.1) = nI a) (hb : M 14 (tS D.1) = nI b) (hx : x = nI (tS D.1 + 1)) : dC0 (rS D a b) (zu M 12 2 x) := by
  obtain ⟨d1, d2, d3, d4, d5, d6, d7, d8, d9, d10, d11, d12⟩ := hd
  refine ⟨?_, ?_, ?_, ?_, fun i hi => ?_, fun i hi => ?_, fun i hi => ?_, fun i hi => ?_, fun i hi => ?_, fun i hi => ?_, fun i hi => ?_, fun i hi => ?_⟩
  · rw [zu_lo (by omega)]; exact d1
  · rw [zu_at]; exact hx
  · rw [zu_lo (by omega)]; exact d3
  · rw [zu_lo (by omega)]; exact d4
  · have hi' : i < tS D.1 + 1 := hi
    rw [zu_lo (by omega)]
    show _ = nI (nup (tI D.1) (tS D.1) a i)
    by_cases c : i = tS D.1
    · rw [c, nup_s]; exact ha
    · rw [nup_n _ _ c]; exact d5 i (by omega)
  · have hi' : i < tS D.1 + 1 := hi
    rw [zu_lo (by omega)]
    show _ = nI (nup (tY D.1) (tS D.1) b i)
    by_cases c : i = tS D.1
    · rw [c, nup_s]; exact hb
    · rw [nup_n _ _ c]; exact d6 i (by omega)
  · rw [zu_lo (by omega)]; exact d7 i hi
  · rw [zu_lo (by omega)]; exact d8 i hi
  · rw [zu_lo (by omega)]; exact d9 i hi
  · rw [zu_lo (by omega)]; exact d10 i hi
  · rw [zu_lo (by omega)]; exact d11 i hi
  · rw [zu_lo (by omega)]; exact d12 i hi
theorem dC0_K {D : rD} {M : zM} {a b s k l p : Nat} {x : Int32} (hd : dC0 D M) (h1 : M 15 (tC D.1) = nI a) (h2 : M 16 (tC D.1) = nI b) (h3 : M 17 (tC D.1) = nI s) (h4 : M 18 (tC D.1) = nI k) (h5 : M 19 (tC D.1) = nI l) (h6 : M 20 (tC D.1) = nI p) (hx : x = nI (tC D.1 + 1)) : dC0 (rK D a b s k l p) (zu M 12 3 x) := by
  obtain ⟨d1, d2, d3, d4, d5, d6, d7, d8, d9, d10, d11, d12⟩ := hd
  have E : ∀ (c : Nat) (g : Nat → Nat) (v : Nat), c ≠ 12 → M c (tC D.1) = nI v → (∀ i, i < tC D.1 → M c i = nI (g i)) → ∀ i, i < tC D.1 + 1 → zu M 12 3 x c i = nI (nup g (tC D.1) v i) := by
    intro c g v hc hv hg i hi
    rw [zu_lo (by omega)]
    by_cases e : i = tC D.1
    · rw [e, nup_s]; exact hv
    · rw [nup_n _ _ e]; exact hg i (by omega)
  refine ⟨?_, ?_, ?_, ?_, fun i hi => ?_, fun i hi => ?_, fun i hi => ?_, fun i hi => ?_, fun i hi => ?_, fun i hi => ?_, fun i hi => ?_, fun i hi => ?_⟩
  · rw [zu_lo (by omega)]; exact d1
  · rw [zu_lo (by omega)]; exact d2
  · rw [zu_at]; exact hx
  · rw [zu_lo (by omega)]; exact d4
  · rw [zu_lo (by omega)]; exact d5 i hi
  · rw [zu_lo (by omega)]; exact d6 i hi
  · exact E 15 (tA D.1) a (by omega) h1 d7 i hi
  · exact E 16 (tB D.1) b (by omega) h2 d8 i hi
  · exact E 17 D.2 s (by omega) h3 d9 i hi
  · exact E 18 (tK D.1) k (by omega) h4 d10 i hi
  · exact E 19 (tL D.1) l (by omega) h5 d11 i hi
  · exact E 20 (tP D.1) p (by omega) h6 d12 i hi
theorem rC_at {X : rX} {p p' : Nat} {na x : Int32} {fl : Option rF} {M : zM} (hx : x = nI p') (h : rC X p na fl M) : rC X p' na fl (zu M 10 3 x) := by
  obtain ⟨r1, r2, r3, r4, r5, r6⟩ := h
  refine ⟨?_, ?_, ?_, ?_, ?_, ?_⟩
  · rw [zu_ne _ _ (by decide)]; exact r1
  · rw [zu_n _ _ _ (by decide)]; exact r2
  · rw [zu_at]; exact hx
  · rw [zu_ne _ _ (by decide)]; exact r4
  · rw [zu_ne _ _ (by decide)]; exact r5
  · rw [zu_ne _ _ (by decide)]; exact r6
theorem rC_u {X : rX} {p k t : Nat} {na x : Int32} {fl : Option rF} {M : zM} (hk : 12 ≤ k) (h : rC X p na fl M) : rC X p na fl (zu M k t x) := rC_fr (zu_n _ _ _ (by omega)) (zu_n _ _ _ (by omega)) h
/-- what a clause leaves -/
abbrev clQ (Q : Option Value → zM → Prop) (X : rX) (M : zM) (R : rF ⊕ (rD × Nat)) : Prop :=
  (∀ f w, R = .inl (f, w) → ∀ M' p' na', frR 10 20 M M' → p' ≤ X.1 → rC X p' na' (some (f, w)) M' → Q none M') ∧
  (∀ D' e, R = .inr (D', e) → ∀ M' na', frR 10 20 M M' → rC X e na' none M' → dC0 D' M' → Q none M')
theorem fl4 {f w : Nat} (h1 : 0 < f) (h2 : f < 5) : flG (some (f, w)) := fun f' w' e => by
  have := Option.some.inj e
  rw [Prod.mk.injEq] at this
  omega
theorem k_X7_blameAtF {Q : Option Value → zM → Prop} {M : zM} {X : rX} {p : Nat} {na : Int32} {z : rF} {x y : Int32} (hg : flG (some z)) (hr : rC X p na (some z) M) (h : Q none M) : zCon fX7_blameAt [.ref 10, .int x, .int y] M Q := by
  have n := flN_ne hg rfl
  rw [← hr.2.2.2.2.1] at n
  exact zc_of zkX7_blameAt [] 60 (Nat.le_of_ble_eq_true rfl) (nt_ n h)
theorem k_X7_readWords {Q : Option Value → zM → Prop} {M : zM} {X : rX} {D : rD} {q : Nat} {na : Int32} (hX : vX X) (hr : rC X q na none M) (hq : q < X.1) (hd : dC0 D M) (hv : vD D) (h : clQ Q X M (if tN D.1 = 0 then rdT X D (q + 1) else .inl (3, q))) : zCon fX7_readWords [.ref 10] M Q := by
  have x1 := hX.1
  have g0 : flG none := fun f w e => by cases e
  have d0 := hd.2.2.2.1
  refine zc_of zkX7_readWords [] 60 (Nat.le_of_ble_eq_true rfl) ?_
  by_cases c : tN D.1 = 0
  · rw [if_pos c] at h d0
    refine bt_ d0 ?_
    have s0 := hv.1.2.2.2.1 c
    have c0 := hv.1.2.2.2.2.1 s0
    have fin : ∀ M' : zM, ∀ v x, x = nI v → 2 ≤ v → dC0 D M' → dC0 (rN D v) (zu (zu M' 12 0 1) 12 1 x) := fun M' v x hx hv2 hd' => by
      obtain ⟨d1, d2, d3, d4, d5, d6, d7, d8, d9, d10, d11, d12⟩ := hd'
      have es : tS (rN D v).1 = 0 := s0
      have ec : tC (rN D v).1 = 0 := c0
      refine ⟨?_, ?_, ?_, ?_, fun i hi => absurd hi (by omega), fun i hi => absurd hi (by omega), fun i hi => absurd hi (by omega), fun i hi => absurd hi (by omega), fun i hi => absurd hi (by omega), fun i hi => absurd hi (by omega), fun i hi => absurd hi (by omega), fun i hi => absurd hi (by omega)⟩
      · rw [zu_at]; exact hx
      · rw [zu_lo (by omega), zu_lo (by omega)]; exact d2
      · rw [zu_lo (by omega), zu_lo (by omega)]; exact d3
      · rw [zu_lo (by omega), zu_at]
        show _ = if v = 0 then _ else _
        rw [if_neg (by omega)]
    refine k_X7_readNumber (lo := 2) (hi := 9) hX (rC_at ((congrArg (· + 1) hr.2.2.1).trans (nI_1 q)) hr) (by omega) n_2 (by decide) (by omega) (by omega) (fun f w e M1 p1 na1 f1 hp1 hr1 => ?_) (fun v q1 e1 e M1 c1 f1 hr1 ec => ?_)
    · obtain ⟨b1, b2, b3⟩ := rdN_f (show q + 1 ≤ X.1 by omega) e
      refine k_X7_readEndF hX (fl4 b1 b2) hr1 hp1 (fun M2 p2 f2 hp2 hr2 => ?_)
      refine ⟨Or.inr rfl, ?_⟩
      refine h.1 f w (by unfold rdT; rw [e]) _ p2 na1 ?_ hp2 (rC_u (k := 12) (by omega) (rC_u (k := 12) (by omega) hr2))
      exact frR_u (by omega) (by omega) (frR_u (by omega) (by omega) (frR_t (frR_t (frR_u (by omega) (by omega) (frR_r _ _ _)) (frR_w (by omega) (by omega) f1)) (frR_w (by omega) (by omega) f2)))
    · obtain ⟨b1, b2, b3, b4, b5⟩ := rdN_ok (show q + 1 ≤ X.1 by omega) e
      have fr1 : frR 10 20 M M1 := frR_t (frR_u (by omega) (by omega) (frR_r _ _ _)) (frR_w (by omega) (by omega) f1)
      refine k_X7_readEnd hX hr1 b5 (fun f w e2 M2 p2 f2 hp2 hr2 => ?_) (fun e' e2 M2 f2 hr2 => ?_)
      · refine ⟨Or.inr rfl, ?_⟩
        refine h.1 f w (by unfold rdT; rw [e]; dsimp only; rw [e2]) _ p2 _ ?_ hp2 (rC_u (k := 12) (by omega) (rC_u (k := 12) (by omega) hr2))
        exact frR_u (by omega) (by omega) (frR_u (by omega) (by omega) (frR_t fr1 (frR_w (by omega) (by omega) f2)))
      · refine ⟨Or.inr rfl, ?_⟩
        refine h.2 (rN D v) e' (by unfold rdT; rw [e]; dsimp only; rw [e2]) _ _ ?_ (rC_u (k := 12) (by omega) (rC_u (k := 12) (by omega) hr2)) (fin M2 v _ ec b1 (dC0_fr (fun k h1 h2 => ?_) hd))
        · exact frR_u (by omega) (by omega) (frR_u (by omega) (by omega) (frR_t fr1 (frR_w (by omega) (by omega) f2)))
        · rw [f2 k (by omega), f1 k (by omega), zu_n _ _ _ (by omega)]
  · rw [if_neg c] at h d0
    refine bf_ (by rw [d0]; decide) (k_X7_blameAt g0 hr n_3 hr.2.2.1 (fun M' f1 hr1 => ?_))
    exact h.1 3 q rfl M' q na (frR_w (by omega) (by omega) f1) (by omega) hr1
theorem k_X7_readStreet {Q : Option Value → zM → Prop} {M : zM} {X : rX} {D : rD} {q : Nat} {na : Int32} (hX : vX X) (hr : rC X q na none M) (hq : q < X.1) (hd : dC0 D M) (hv : vD D) (h : clQ Q X M (if tS D.1 < 7 then rdS X D (q + 1) else .inl (3, q))) : zCon fX7_readStreet [.ref 10] M Q := by
  have x1 := hX.1
  have g0 : flG none := fun f w e => by cases e
  have hS := zTv_S hv.1
  have hN := zTv_N hv.1
  have d2 := hd.2.1
  refine zc_of zkX7_readStreet [57, 80, 110] 60 (Nat.le_of_ble_eq_true rfl) ?_
  refine iLt d2 n_7 (by omega) (by decide) (fun c => ?_) (fun c => ?_)
  · rw [if_pos c] at h
    have F110 : ∀ f w, rdS X D (q + 1) = .inl (f, w) → 0 < f → f < 5 → ∀ M' p' na', frR 10 20 M M' → p' ≤ X.1 → rC X p' na' (some (f, w)) M' → zEv fX7_readStreet Q 110 [(0, .ref 10), (1, .int (M 12 2))] [] M' := by
      intro f w e b1 b2 M' p' na' hf hp' hr'
      refine zev_go zkX7_readStreet [] 60 (k_X7_readEndF hX (fl4 b1 b2) hr' hp' (fun M2 p2 f2 hp2 hr2 => ?_))
      exact h.1 f w e _ p2 na' (frR_u (by omega) (by omega) (frR_t hf (frR_w (by omega) (by omega) f2))) hp2 (rC_u (by omega) hr2)
    have F80 : ∀ f w, rdS X D (q + 1) = .inl (f, w) → 0 < f → f < 5 → ∀ M' p' na', frR 10 20 M M' → p' ≤ X.1 → rC X p' na' (some (f, w)) M' → zEv fX7_readStreet Q 80 [(0, .ref 10), (1, .int (M 12 2))] [] M' := by
      intro f w e b1 b2 M' p' na' hf hp' hr'
      have G := F110 f w e b1 b2 M' p' na' hf hp' hr'
      exact zev_go zkX7_readStreet [110] 60 (zix (tS D.1) d2 (show _ < 7 from c) (zix (tS D.1) d2 (show _ < 7 from c) (nr (fun _ => G) (fun _ => k_X7_blameAtF (fl4 b1 b2) hr' G))))
    have F57 : ∀ f w, rdS X D (q + 1) = .inl (f, w) → 0 < f → f < 5 → ∀ M' p' na', frR 10 20 M M' → p' ≤ X.1 → rC X p' na' (some (f, w)) M' → zEv fX7_readStreet Q 57 [(0, .ref 10), (1, .int (M 12 2))] [] M' := by
      intro f w e b1 b2 M' p' na' hf hp' hr'
      refine zev_go zkX7_readStreet [80] 60 (k_X7_readNumberF hX (fl4 b1 b2) hr' hp' (fun M2 p2 f2 hp2 hr2 => zix (tS D.1) d2 (show _ < 7 from c) ?_))
      exact F80 f w e b1 b2 _ p2 na' (frR_u (by omega) (by omega) (frR_t hf (frR_w (by omega) (by omega) f2))) hp2 (rC_u (by omega) hr2)
    have hr0 := rC_at ((congrArg (· + 1) hr.2.2.1).trans (nI_1 q)) hr
    have f0 : frR 10 20 M (zu M 10 3 (M 10 3 + 1)) := frR_u (by omega) (by omega) (frR_r _ _ _)
    have hd0 : dC0 D (zu M 10 3 (M 10 3 + 1)) := dC0_fr (fun k h1 h2 => zu_n _ _ _ (by omega)) hd
    refine k_X7_readNumber (lo := 0) (hi := tN D.1) hX hr0 (by omega) n_0 (congrArg (· - 1) hd0.1) (by omega) (by omega) (fun f w e M1 p1 na1 f1 hp1 hr1 => zix (tS D.1) d2 (show _ < 7 from c) ?_) (fun a q1 e1 e M1 c1 f1 hr1 ec => zix (tS D.1) d2 (show _ < 7 from c) ?_)
    · obtain ⟨b1, b2, b3⟩ := rdN_f (show q + 1 ≤ X.1 by omega) e
      exact F57 f w (by unfold rdS; rw [e]) b1 b2 _ p1 na1 (frR_u (by omega) (by omega) (frR_t f0 (frR_w (by omega) (by omega) f1))) hp1 (rC_u (by omega) hr1)
    · obtain ⟨b1, b2, b3, b4, b5⟩ := rdN_ok (show q + 1 ≤ X.1 by omega) e
      have fr1 : frR 10 20 M (zu M1 13 (tS D.1) c1) := frR_u (by omega) (by omega) (frR_t f0 (frR_w (by omega) (by omega) f1))
      have hd1 : dC0 D (zu M1 13 (tS D.1) c1) := dC0_u (by omega) (fun _ => Nat.le_refl _) (fun h => absurd h (by omega)) (dC0_fr (fun k h1 h2 => f1 k (by omega)) hd0)
      have hr1' : rC X e1 (nI q1) none (zu M1 13 (tS D.1) c1) := rC_u (by omega) hr1
      have e13 : (zu M1 13 (tS D.1) c1) 13 (tS D.1) = nI a := by rw [zu_at]; exact ec
      generalize zu M1 13 (tS D.1) c1 = M2 at fr1 hd1 hr1' e13 ⊢
      refine zev_go zkX7_readStreet [80] 60 (k_X7_readNumber (lo := 0) (hi := tN D.1) hX hr1' b5 n_0 (congrArg (· - 1) hd1.1) (by omega) (by omega) (fun f w e2 M3 p3 na3 f3 hp3 hr3 => zix (tS D.1) d2 (show _ < 7 from c) ?_) (fun b q3 e3 e2 M3 c3 f3 hr3 ec3 => zix (tS D.1) d2 (show _ < 7 from c) ?_))
      · obtain ⟨b1, b2, b3⟩ := rdN_f b5 e2
        exact F80 f w (by unfold rdS; rw [e]; dsimp only; rw [e2]) b1 b2 _ p3 na3 (frR_u (by omega) (by omega) (frR_t fr1 (frR_w (by omega) (by omega) f3))) hp3 (rC_u (by omega) hr3)
      · obtain ⟨k1, k2, k3, k4, k5⟩ := rdN_ok b5 e2
        have fr3 : frR 10 20 M (zu M3 14 (tS D.1) c3) := frR_u (by omega) (by omega) (frR_t fr1 (frR_w (by omega) (by omega) f3))
        have hd3 : dC0 D (zu M3 14 (tS D.1) c3) := dC0_u (by omega) (fun _ => Nat.le_refl _) (fun h => absurd h (by omega)) (dC0_fr (fun k h1 h2 => f3 k (by omega)) hd1)
        have hr3' : rC X e3 (nI q3) none (zu M3 14 (tS D.1) c3) := rC_u (by omega) hr3
        have e14 : (zu M3 14 (tS D.1) c3) 14 (tS D.1) = nI b := by rw [zu_at]; exact ec3
        have e13' : (zu M3 14 (tS D.1) c3) 13 (tS D.1) = nI a := by rw [zu_lo (by omega), f3 13 (by omega)]; exact e13
        generalize zu M3 14 (tS D.1) c3 = M4 at fr3 hd3 hr3' e13' e14 ⊢
        refine zev_go zkX7_readStreet [110] 60 (zix (tS D.1) d2 (show _ < 7 from c) (zix (tS D.1) d2 (show _ < 7 from c) (iNe e14 e13' (by omega) (by omega) (fun ne => ?_) (fun eq => ?_))))
        · refine zev_go zkX7_readStreet [] 60 (k_X7_readEnd hX hr3' k5 (fun f w e4 M5 p5 f5 hp5 hr5 => ?_) (fun e5 e4 M5 f5 hr5 => ?_))
          · exact h.1 f w (by unfold rdS; rw [e]; dsimp only; rw [e2]; dsimp only; rw [if_neg ne, e4]) _ p5 _ (frR_u (by omega) (by omega) (frR_t fr3 (frR_w (by omega) (by omega) f5))) hp5 (rC_u (by omega) hr5)
          · have hd5 : dC0 D M5 := dC0_fr (fun k h1 h2 => f5 k (by omega)) hd3
            exact h.2 (rS D a b) e5 (by unfold rdS; rw [e]; dsimp only; rw [e2]; dsimp only; rw [if_neg ne, e4]) _ _ (frR_u (by omega) (by omega) (frR_t fr3 (frR_w (by omega) (by omega) f5))) (rC_u (by omega) hr5) (dC0_S hd5 (by rw [f5 13 (by omega)]; exact e13') (by rw [f5 14 (by omega)]; exact e14) ((congrArg (· + 1) hd5.2.1).trans (nI_1 _)))
        · refine k_X7_blameAt g0 hr3' n_4 hr3'.2.2.2.1 (fun M5 f5 hr5 => ?_)
          exact F110 4 q3 (by unfold rdS; rw [e]; dsimp only; rw [e2]; dsimp only; rw [if_pos eq]) (by omega) (by omega) M5 e3 _ (frR_t fr3 (frR_w (by omega) (by omega) f5)) k5 hr5
  · rw [if_neg (by omega)] at h
    refine k_X7_blameAt g0 hr n_3 hr.2.2.1 (fun M' f1 hr1 => ?_)
    exact h.1 3 q rfl M' q na (frR_w (by omega) (by omega) f1) (by omega) hr1
