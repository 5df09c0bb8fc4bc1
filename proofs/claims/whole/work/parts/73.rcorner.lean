/-! the class's corner clause -/
theorem k_X8_otherEnd12 {Q : Option Value → zM → Prop} {M : zM} {T : zTn} {s : Nat → Nat} {x y : Int32} {i v : Nat} (hv : zTv T) (hT : dC0 (T, s) M) (hx : x = nI i) (hi : i < tC T) (hy : y = nI v) (hvl : v < 2 ^ 31) (h1 : (tA T i = v ∨ tB T i = v) → ∀ c, c = nI (oe T i v) → Q (some (.int c)) M) (h0 : ¬ (tA T i = v ∨ tB T i = v) → Q (some (.int (-1))) M) : zCon fX8_otherEnd [.ref 12, .int x, .int y] M Q := by
  have hC := zTv_C hv
  have hS := zTv_S hv
  obtain ⟨i1, i2, i3, i4, i5, i6⟩ := zTv_i hv hi
  have eA := hT.2.2.2.2.2.2.1 i hi
  have eB := hT.2.2.2.2.2.2.2.1 i hi
  refine zc_of zkX8_otherEnd [] 60 (Nat.le_of_ble_eq_true rfl) (zix i hx (show i < 10 by omega) ?_)
  refine iNe eA hy (show tA T i < _ by omega) hvl (fun c => zix i hx (show i < 10 by omega) ?_) (fun c => zix i hx (show i < 10 by omega) ?_)
  · refine iNe eB hy (show tB T i < _ by omega) hvl (fun d => h0 (fun q => by rcases q with q | q; exact c q; exact d q)) (fun d => zix i hx (show i < 10 by omega) ?_)
    exact h1 (Or.inr d) _ (by unfold oe; rw [if_neg c]; exact eA)
  · exact h1 (Or.inl c) _ (by unfold oe; rw [if_pos c]; exact eB)
theorem k_X8_areJoined12 {Q : Option Value → zM → Prop} {M : zM} {T : zTn} {s : Nat → Nat} {x y : Int32} {a b : Nat} (hv : zTv T) (hT : dC0 (T, s) M) (hx : x = nI a) (hy : y = nI b) (ha : a < 2 ^ 31) (hb : b < 2 ^ 31) (h1 : jn T a b (tC T) = true → Q (some (.int 1)) M) (h0 : jn T a b (tC T) = false → Q (some (.int 0)) M) : zCon fX8_areJoined [.ref 12, .int x, .int y] M Q := by
  have hC := zTv_C hv
  have hS := zTv_S hv
  have h3 : M 12 3 = nI (tC T) := hT.2.2.1
  refine zc_of zkX8_areJoined [2] 60 (Nat.le_of_ble_eq_true rfl) ?_
  have mono : ∀ k i, jn T a b i = true → jn T a b (i + k) = true := by
    intro k
    induction k with
    | zero => intro i h; exact h
    | succ k ih => intro i h; rw [show i + (k + 1) = (i + k) + 1 by omega, jn_s, ih i h]; rfl
  have L : ∀ i, i ≤ tC T → ∀ z, z = nI i → jn T a b i = false → zEv fX8_areJoined Q 2 [(0, .ref 12), (1, .int x), (2, .int y), (3, .int z)] [] M := by
    refine zloop (tC T) ?_ ?_
    · intro z hz hj
      exact zev_go zkX8_areJoined [2] 60 (iGe hz h3 (by omega) (by omega) (fun _ => ⟨Or.inl rfl, h0 hj⟩) (fun q => absurd q (by omega)))
    · intro i hi ih z hz hj
      obtain ⟨i1, i2, i3, i4, i5, i6⟩ := zTv_i hv hi
      have yes : (tA T i = a ∧ tB T i = b ∨ tA T i = b ∧ tB T i = a) → Q (some (.int 1)) M := fun q => h1 (by
        have := mono (tC T - (i + 1)) (i + 1) (by rw [jn_s, decide_eq_true q, Bool.or_true])
        rw [show i + 1 + (tC T - (i + 1)) = tC T by omega] at this
        exact this)
      have no : ¬ (tA T i = a ∧ tB T i = b ∨ tA T i = b ∧ tB T i = a) → zEv fX8_areJoined Q 2 [(0, .ref 12), (1, .int x), (2, .int y), (3, .int (z + 1))] [] M := fun q => ih _ (by rw [hz, nI_1]) (by rw [jn_s, hj, decide_eq_false q]; rfl)
      refine zev_go zkX8_areJoined [2] 60 (iGe hz h3 (by omega) (by omega) (fun q => absurd q (by omega)) (fun _ => ?_))
      refine k_X8_otherEnd12 hv hT hz hi hx ha (fun q c ec => ?_) (fun q => ?_)
      · have hl : oe T i a < 2 ^ 31 := by unfold oe; split <;> omega
        refine iNe ec hy hl hb (fun c => no (fun r => c ?_)) (fun c => ⟨Or.inr rfl, yes ?_⟩)
        · unfold oe; split <;> omega
        · unfold oe at c; split at c <;> omega
      · exact nt_ (fun e => nI_m1 hb (by rw [← hy]; exact e.symm)) (no (fun r => q (by omega)))
  exact L 0 (Nat.zero_le _) 0 n_0 rfl
theorem k_X8_otherEnd12F {Q : Option Value → zM → Prop} {M : zM} {x y : Int32} {i : Nat} (hx : x = nI i) (hi : i < 10) (h : ∀ c, Q (some (.int c)) M) : zCon fX8_otherEnd [.ref 12, .int x, .int y] M Q := by
  refine zc_of zkX8_otherEnd [] 60 (Nat.le_of_ble_eq_true rfl) (zix i hx hi ?_)
  exact nr (fun _ => zix i hx hi (nr (fun _ => h _) (fun _ => zix i hx hi (h _)))) (fun _ => zix i hx hi (h _))
theorem k_X8_areJoined12F {Q : Option Value → zM → Prop} {M : zM} {x y : Int32} {C : Nat} (h3 : M 12 3 = nI C) (hC : C ≤ 10) (h1 : Q (some (.int 1)) M) (h0 : Q (some (.int 0)) M) : zCon fX8_areJoined [.ref 12, .int x, .int y] M Q := by
  refine zc_of zkX8_areJoined [2] 60 (Nat.le_of_ble_eq_true rfl) ?_
  have L : ∀ i, i ≤ C → ∀ z, z = nI i → zEv fX8_areJoined Q 2 [(0, .ref 12), (1, .int x), (2, .int y), (3, .int z)] [] M := by
    refine zloop C ?_ ?_
    · intro z hz
      exact zev_go zkX8_areJoined [2] 60 (iGe hz h3 (by omega) (by omega) (fun _ => ⟨Or.inl rfl, h0⟩) (fun q => absurd q (by omega)))
    · intro i hi ih z hz
      refine zev_go zkX8_areJoined [2] 60 (iGe hz h3 (by omega) (by omega) (fun q => absurd q (by omega)) (fun _ => ?_))
      exact k_X8_otherEnd12F hz (by omega) (fun c => nr (fun _ => ih _ (by rw [hz, nI_1])) (fun _ => ⟨Or.inr rfl, h1⟩))
  exact L 0 (Nat.zero_le _) 0 n_0
theorem k_X7_readCorner {Q : Option Value → zM → Prop} {M : zM} {X : rX} {D : rD} {q : Nat} {na : Int32} (hX : vX X) (hr : rC X q na none M) (hq : q < X.1) (hd : dC0 D M) (hv : vD D) (h : clQ Q X M (if tC D.1 < 10 then rdK X D (q + 1) else .inl (3, q))) : zCon fX7_readCorner [.ref 10] M Q := by
  have x1 := hX.1
  have g0 : flG none := fun f w e => by cases e
  have hS := zTv_S hv.1
  have hN := zTv_N hv.1
  have hC := zTv_C hv.1
  have d3 := hd.2.2.1
  refine zc_of zkX7_readCorner [57] 60 (Nat.le_of_ble_eq_true rfl) ?_
  refine iLt d3 n_10 (by omega) (by decide) (fun c => ?_) (fun c => ?_)
  · rw [if_pos c] at h
    have i10 : tC D.1 < 10 := c
    have F215 : ∀ f w, rdK X D (q + 1) = .inl (f, w) → 0 < f → f < 5 → ∀ M' p' na', frR 10 20 M M' → p' ≤ X.1 → rC X p' na' (some (f, w)) M' → M' 12 = M 12 → zEv fX7_readCorner Q 215 [(0, .ref 10), (1, .int (M 12 3))] [] M' := by
      intro f w e b1 b2 M' p' na' hf hp' hr' h12
      refine zev_go zkX7_readCorner [] 60 (k_X7_readEndF hX (fl4 b1 b2) hr' hp' (fun M2 p2 f2 hp2 hr2 => ?_))
      exact h.1 f w e _ p2 na' (frR_u (by omega) (by omega) (frR_t hf (frR_w (by omega) (by omega) f2))) hp2 (rC_u (by omega) hr2)
    have F199 : ∀ f w, rdK X D (q + 1) = .inl (f, w) → 0 < f → f < 5 → ∀ M' p' na', frR 10 20 M M' → p' ≤ X.1 → rC X p' na' (some (f, w)) M' → M' 12 = M 12 → zEv fX7_readCorner Q 199 [(0, .ref 10), (1, .int (M 12 3))] [] M' := by
      intro f w e b1 b2 M' p' na' hf hp' hr' h12
      refine zev_go zkX7_readCorner [215] 60 (k_X7_readNumberF hX (fl4 b1 b2) hr' hp' (fun M2 p2 f2 hp2 hr2 => zix (tC D.1) d3 i10 ?_))
      exact F215 f w e b1 b2 _ p2 na' (frR_u (by omega) (by omega) (frR_t hf (frR_w (by omega) (by omega) f2))) hp2 (rC_u (by omega) hr2) (by rw [zu_n _ _ _ (by decide), f2 12 (by omega)]; exact h12)
    have F176 : ∀ f w, rdK X D (q + 1) = .inl (f, w) → 0 < f → f < 5 → ∀ M' p' na', frR 10 20 M M' → p' ≤ X.1 → rC X p' na' (some (f, w)) M' → M' 12 = M 12 → zEv fX7_readCorner Q 176 [(0, .ref 10), (1, .int (M 12 3))] [] M' := by
      intro f w e b1 b2 M' p' na' hf hp' hr' h12
      refine zev_go zkX7_readCorner [199] 60 (k_X7_readNumberF hX (fl4 b1 b2) hr' hp' (fun M2 p2 f2 hp2 hr2 => zix (tC D.1) d3 i10 ?_))
      exact F199 f w e b1 b2 _ p2 na' (frR_u (by omega) (by omega) (frR_t hf (frR_w (by omega) (by omega) f2))) hp2 (rC_u (by omega) hr2) (by rw [zu_n _ _ _ (by decide), f2 12 (by omega)]; exact h12)
    have F153 : ∀ f w, rdK X D (q + 1) = .inl (f, w) → 0 < f → f < 5 → ∀ M' p' na', frR 10 20 M M' → p' ≤ X.1 → rC X p' na' (some (f, w)) M' → M' 12 = M 12 → zEv fX7_readCorner Q 153 [(0, .ref 10), (1, .int (M 12 3))] [] M' := by
      intro f w e b1 b2 M' p' na' hf hp' hr' h12
      refine zev_go zkX7_readCorner [176] 60 (k_X7_readNumberF hX (fl4 b1 b2) hr' hp' (fun M2 p2 f2 hp2 hr2 => zix (tC D.1) d3 i10 ?_))
      exact F176 f w e b1 b2 _ p2 na' (frR_u (by omega) (by omega) (frR_t hf (frR_w (by omega) (by omega) f2))) hp2 (rC_u (by omega) hr2) (by rw [zu_n _ _ _ (by decide), f2 12 (by omega)]; exact h12)
    have F138 : ∀ f w, rdK X D (q + 1) = .inl (f, w) → 0 < f → f < 5 → ∀ M' p' na', frR 10 20 M M' → p' ≤ X.1 → rC X p' na' (some (f, w)) M' → M' 12 = M 12 → zEv fX7_readCorner Q 138 [(0, .ref 10), (1, .int (M 12 3))] [] M' := by
      intro f w e b1 b2 M' p' na' hf hp' hr' h12
      refine zev_go zkX7_readCorner [153] 60 (k_X7_readNumberF hX (fl4 b1 b2) hr' hp' (fun M2 p2 f2 hp2 hr2 => zix (tC D.1) d3 i10 ?_))
      exact F153 f w e b1 b2 _ p2 na' (frR_u (by omega) (by omega) (frR_t hf (frR_w (by omega) (by omega) f2))) hp2 (rC_u (by omega) hr2) (by rw [zu_n _ _ _ (by decide), f2 12 (by omega)]; exact h12)
    have F129 : ∀ f w, rdK X D (q + 1) = .inl (f, w) → 0 < f → f < 5 → ∀ M' p' na', frR 10 20 M M' → p' ≤ X.1 → rC X p' na' (some (f, w)) M' → M' 12 = M 12 → zEv fX7_readCorner Q 129 [(0, .ref 10), (1, .int (M 12 3))] [] M' := by
      intro f w e b1 b2 M' p' na' hf hp' hr' h12
      exact zev_go zkX7_readCorner [138] 60 (k_X7_blameAtF (fl4 b1 b2) hr' (F138 f w e b1 b2 M' p' na' hf hp' hr' h12))
    have F80 : ∀ f w, rdK X D (q + 1) = .inl (f, w) → 0 < f → f < 5 → ∀ M' p' na', frR 10 20 M M' → p' ≤ X.1 → rC X p' na' (some (f, w)) M' → M' 12 = M 12 → zEv fX7_readCorner Q 80 [(0, .ref 10), (1, .int (M 12 3))] [] M' := by
      intro f w e b1 b2 M' p' na' hf hp' hr' h12
      have G1 := F129 f w e b1 b2 M' p' na' hf hp' hr' h12
      have G2 := F138 f w e b1 b2 M' p' na' hf hp' hr' h12
      refine zev_go zkX7_readCorner [129, 138] 60 (zix (tC D.1) d3 i10 (zix (tC D.1) d3 i10 (br (fun _ => G1) (fun _ => zix (tC D.1) d3 i10 (zix (tC D.1) d3 i10 ?_)))))
      exact k_X8_areJoined12F (C := tC D.1) (by rw [h12]; exact d3) hC (bT G1) (bF G2)
    have F57 : ∀ f w, rdK X D (q + 1) = .inl (f, w) → 0 < f → f < 5 → ∀ M' p' na', frR 10 20 M M' → p' ≤ X.1 → rC X p' na' (some (f, w)) M' → M' 12 = M 12 → zEv fX7_readCorner Q 57 [(0, .ref 10), (1, .int (M 12 3))] [] M' := by
      intro f w e b1 b2 M' p' na' hf hp' hr' h12
      refine zev_go zkX7_readCorner [80] 60 (k_X7_readNumberF hX (fl4 b1 b2) hr' hp' (fun M2 p2 f2 hp2 hr2 => zix (tC D.1) d3 i10 ?_))
      exact F80 f w e b1 b2 _ p2 na' (frR_u (by omega) (by omega) (frR_t hf (frR_w (by omega) (by omega) f2))) hp2 (rC_u (by omega) hr2) (by rw [zu_n _ _ _ (by decide), f2 12 (by omega)]; exact h12)
    -- one number read into a row
    have stp : ∀ (M2 : zM) (k t : Nat) (v : Int32) (M3 : zM) (p' : Nat) (na' : Int32) (fl : Option rF), 13 ≤ k → k ≤ 20 → frR 10 20 M M2 → M2 12 = M 12 → frR 10 10 M2 M3 → rC X p' na' fl M3 → frR 10 20 M (zu M3 k t v) ∧ (zu M3 k t v) 12 = M 12 ∧ rC X p' na' fl (zu M3 k t v) := by
      intro M2 k t v M3 p' na' fl h1 h2 f2 h12 f3 hr3
      exact ⟨frR_u (by omega) (by omega) (frR_t f2 (frR_w (by omega) (by omega) f3)), by rw [zu_n _ _ _ (by omega), f3 12 (by omega)]; exact h12, rC_u (by omega) hr3⟩
    have dstp : ∀ (M2 : zM) (k : Nat) (v : Int32) (M3 : zM), 15 ≤ k → k ≤ 20 → frR 10 10 M2 M3 → dC0 D M2 → dC0 D (zu M3 k (tC D.1) v) := by
      intro M2 k v M3 h1 h2 f3 hd2
      exact dC0_u (by omega) (fun h => absurd h (by omega)) (fun _ => Nat.le_refl _) (dC0_fr (fun k h1 h2 => f3 k (by omega)) hd2)
    have kp : ∀ (M2 : zM) (k j : Nat) (v w : Int32) (M3 : zM), 15 ≤ k → k ≤ 20 → j ≠ k → 12 ≤ j → frR 10 10 M2 M3 → M2 j (tC D.1) = w → (zu M3 k (tC D.1) v) j (tC D.1) = w := by
      intro M2 k j v w M3 h1 h2 h3 h4 f3 e
      rw [zu_lo (Or.inr h3), f3 j (by omega)]; exact e
    have hr0 := rC_at ((congrArg (· + 1) hr.2.2.1).trans (nI_1 q)) hr
    have f0 : frR 10 20 M (zu M 10 3 (M 10 3 + 1)) := frR_u (by omega) (by omega) (frR_r _ _ _)
    have hd0 : dC0 D (zu M 10 3 (M 10 3 + 1)) := dC0_fr (fun k h1 h2 => zu_n _ _ _ (by omega)) hd
    have h120 : (zu M 10 3 (M 10 3 + 1)) 12 = M 12 := zu_n _ _ _ (by decide)
    refine k_X7_readNumber (lo := 0) (hi := tS D.1) hX hr0 (by omega) n_0 (congrArg (· - 1) hd0.2.1) (by omega) (by omega) (fun f w e M1 p1 na1 f1 hp1 hr1 => zix (tC D.1) d3 i10 ?_) (fun a q1 e1 e M1 c1 f1 hr1 ec => zix (tC D.1) d3 i10 ?_)
    · obtain ⟨b1, b2, b3⟩ := rdN_f (show q + 1 ≤ X.1 by omega) e
      obtain ⟨z1, z2, z3⟩ := stp _ 15 (tC D.1) 0 M1 p1 na1 _ (by omega) (by omega) f0 h120 f1 hr1
      exact F57 f w (by unfold rdK; rw [e]) b1 b2 _ p1 na1 z1 hp1 z3 z2
    obtain ⟨a1, a2, a3, a4, a5⟩ := rdN_ok (show q + 1 ≤ X.1 by omega) e
    obtain ⟨z1, z2, z3⟩ := stp _ 15 (tC D.1) c1 M1 _ _ _ (by omega) (by omega) f0 h120 f1 hr1
    have hd1 := dstp _ 15 c1 M1 (by omega) (by omega) f1 hd0
    have e15 : (zu M1 15 (tC D.1) c1) 15 (tC D.1) = nI a := by rw [zu_at]; exact ec
    generalize zu M1 15 (tC D.1) c1 = M2 at z1 z2 z3 hd1 e15 ⊢
    clear f1 hr1 ec
    refine zev_go zkX7_readCorner [80] 60 (k_X7_readNumber (lo := 0) (hi := tS D.1) hX z3 a5 n_0 (congrArg (· - 1) hd1.2.1) (by omega) (by omega) (fun f w e2 M3 p3 na3 f3 hp3 hr3 => zix (tC D.1) d3 i10 ?_) (fun b q3 e3 e2 M3 c3 f3 hr3 ec3 => zix (tC D.1) d3 i10 ?_))
    · obtain ⟨b1, b2, b3⟩ := rdN_f a5 e2
      obtain ⟨y1, y2, y3⟩ := stp _ 16 (tC D.1) 0 M3 p3 na3 _ (by omega) (by omega) z1 z2 f3 hr3
      exact F80 f w (by unfold rdK; rw [e]; dsimp only; rw [e2]) b1 b2 _ p3 na3 y1 hp3 y3 y2
    obtain ⟨k1, k2, k3, k4, k5⟩ := rdN_ok a5 e2
    obtain ⟨y1, y2, y3⟩ := stp _ 16 (tC D.1) c3 M3 _ _ _ (by omega) (by omega) z1 z2 f3 hr3
    have hd3 := dstp _ 16 c3 M3 (by omega) (by omega) f3 hd1
    have g15 := kp _ 16 15 c3 _ M3 (by omega) (by omega) (by omega) (by omega) f3 e15
    have g16 : (zu M3 16 (tC D.1) c3) 16 (tC D.1) = nI b := by rw [zu_at]; exact ec3
    generalize zu M3 16 (tC D.1) c3 = M4 at y1 y2 y3 hd3 g15 g16 ⊢
    clear f3 hr3 ec3 z1 z2 z3 hd1 e15
    have bad : (b = a ∨ jn D.1 a b (tC D.1) = true) → zEv fX7_readCorner Q 129 [(0, .ref 10), (1, .int (M 12 3))] [] M4 := fun w => by
      refine zev_go zkX7_readCorner [138] 60 (k_X7_blameAt g0 y3 n_4 y3.2.2.2.1 (fun M5 f5 hr5 => ?_))
      exact F138 4 q3 (by unfold rdK; rw [e]; dsimp only; rw [e2]; dsimp only; rw [if_pos w]) (by omega) (by omega) M5 e3 _ (frR_t y1 (frR_w (by omega) (by omega) f5)) k5 hr5 (by rw [f5 12 (by omega)]; exact y2)
    have good : ¬ (b = a ∨ jn D.1 a b (tC D.1) = true) → zEv fX7_readCorner Q 138 [(0, .ref 10), (1, .int (M 12 3))] [] M4 := fun w => by
      have eK : rdK X D (q + 1) = rdK2 X D a b e3 := by unfold rdK; rw [e]; dsimp only; rw [e2]; dsimp only; rw [if_neg w]
      refine zev_go zkX7_readCorner [153] 60 (k_X7_readNumber (lo := 0) (hi := 4) hX y3 k5 n_0 (by decide) (by omega) (by omega) (fun f w e4 M5 p5 na5 f5 hp5 hr5 => zix (tC D.1) d3 i10 ?_) (fun s q5 e5 e4 M5 c5 f5 hr5 ec5 => zix (tC D.1) d3 i10 ?_))
      · obtain ⟨b1, b2, b3⟩ := rdN_f k5 e4
        obtain ⟨w1, w2, w3⟩ := stp _ 17 (tC D.1) 0 M5 p5 na5 _ (by omega) (by omega) y1 y2 f5 hr5
        exact F153 f w (by rw [eK]; unfold rdK2; rw [e4]) b1 b2 _ p5 na5 w1 hp5 w3 w2
      obtain ⟨l1, l2, l3, l4, l5⟩ := rdN_ok k5 e4
      obtain ⟨w1, w2, w3⟩ := stp _ 17 (tC D.1) c5 M5 _ _ _ (by omega) (by omega) y1 y2 f5 hr5
      have hd5 := dstp _ 17 c5 M5 (by omega) (by omega) f5 hd3
      have h15 := kp _ 17 15 c5 _ M5 (by omega) (by omega) (by omega) (by omega) f5 g15
      have h16 := kp _ 17 16 c5 _ M5 (by omega) (by omega) (by omega) (by omega) f5 g16
      have h17 : (zu M5 17 (tC D.1) c5) 17 (tC D.1) = nI s := by rw [zu_at]; exact ec5
      generalize zu M5 17 (tC D.1) c5 = M6 at w1 w2 w3 hd5 h15 h16 h17 ⊢
      clear f5 hr5 ec5
      refine zev_go zkX7_readCorner [176] 60 (k_X7_readNumber (lo := 0) (hi := tN D.1) hX w3 l5 n_0 (congrArg (· - 1) hd5.1) (by omega) (by omega) (fun f w e6 M7 p7 na7 f7 hp7 hr7 => zix (tC D.1) d3 i10 ?_) (fun k q7 e7 e6 M7 c7 f7 hr7 ec7 => zix (tC D.1) d3 i10 ?_))
      · obtain ⟨b1, b2, b3⟩ := rdN_f l5 e6
        obtain ⟨v1, v2, v3⟩ := stp _ 18 (tC D.1) 0 M7 p7 na7 _ (by omega) (by omega) w1 w2 f7 hr7
        exact F176 f w (by rw [eK]; unfold rdK2; rw [e4]; dsimp only; rw [e6]) b1 b2 _ p7 na7 v1 hp7 v3 v2
      obtain ⟨m1, m2, m3, m4, m5⟩ := rdN_ok l5 e6
      obtain ⟨v1, v2, v3⟩ := stp _ 18 (tC D.1) c7 M7 _ _ _ (by omega) (by omega) w1 w2 f7 hr7
      have hd7 := dstp _ 18 c7 M7 (by omega) (by omega) f7 hd5
      have i15 := kp _ 18 15 c7 _ M7 (by omega) (by omega) (by omega) (by omega) f7 h15
      have i16 := kp _ 18 16 c7 _ M7 (by omega) (by omega) (by omega) (by omega) f7 h16
      have i17 := kp _ 18 17 c7 _ M7 (by omega) (by omega) (by omega) (by omega) f7 h17
      have i18 : (zu M7 18 (tC D.1) c7) 18 (tC D.1) = nI k := by rw [zu_at]; exact ec7
      generalize zu M7 18 (tC D.1) c7 = M8 at v1 v2 v3 hd7 i15 i16 i17 i18 ⊢
      clear f7 hr7 ec7
      refine zev_go zkX7_readCorner [199] 60 (k_X7_readNumber (lo := 0) (hi := tN D.1) hX v3 m5 n_0 (congrArg (· - 1) hd7.1) (by omega) (by omega) (fun f w e8 M9 p9 na9 f9 hp9 hr9 => zix (tC D.1) d3 i10 ?_) (fun l q9 e9 e8 M9 c9 f9 hr9 ec9 => zix (tC D.1) d3 i10 ?_))
      · obtain ⟨b1, b2, b3⟩ := rdN_f m5 e8
        obtain ⟨u1, u2, u3⟩ := stp _ 19 (tC D.1) 0 M9 p9 na9 _ (by omega) (by omega) v1 v2 f9 hr9
        exact F199 f w (by rw [eK]; unfold rdK2; rw [e4]; dsimp only; rw [e6]; dsimp only; rw [e8]) b1 b2 _ p9 na9 u1 hp9 u3 u2
      obtain ⟨o1, o2, o3, o4, o5⟩ := rdN_ok m5 e8
      obtain ⟨u1, u2, u3⟩ := stp _ 19 (tC D.1) c9 M9 _ _ _ (by omega) (by omega) v1 v2 f9 hr9
      have hd9 := dstp _ 19 c9 M9 (by omega) (by omega) f9 hd7
      have j15 := kp _ 19 15 c9 _ M9 (by omega) (by omega) (by omega) (by omega) f9 i15
      have j16 := kp _ 19 16 c9 _ M9 (by omega) (by omega) (by omega) (by omega) f9 i16
      have j17 := kp _ 19 17 c9 _ M9 (by omega) (by omega) (by omega) (by omega) f9 i17
      have j18 := kp _ 19 18 c9 _ M9 (by omega) (by omega) (by omega) (by omega) f9 i18
      have j19 : (zu M9 19 (tC D.1) c9) 19 (tC D.1) = nI l := by rw [zu_at]; exact ec9
      generalize zu M9 19 (tC D.1) c9 = M10 at u1 u2 u3 hd9 j15 j16 j17 j18 j19 ⊢
      clear f9 hr9 ec9
      refine zev_go zkX7_readCorner [215] 60 (k_X7_readNumber (lo := 0) (hi := 100) hX u3 o5 n_0 (by decide) (by omega) (by omega) (fun f w ea Ma pa naa fa hpa hra => zix (tC D.1) d3 i10 ?_) (fun p qa ea' ea Ma ca fa hra eca => zix (tC D.1) d3 i10 ?_))
      · obtain ⟨b1, b2, b3⟩ := rdN_f o5 ea
        obtain ⟨t1, t2, t3⟩ := stp _ 20 (tC D.1) 0 Ma pa naa _ (by omega) (by omega) u1 u2 fa hra
        exact F215 f w (by rw [eK]; unfold rdK2; rw [e4]; dsimp only; rw [e6]; dsimp only; rw [e8]; dsimp only; rw [ea]) b1 b2 _ pa naa t1 hpa t3 t2
      obtain ⟨r1, r2, r3, r4, r5⟩ := rdN_ok o5 ea
      obtain ⟨t1, t2, t3⟩ := stp _ 20 (tC D.1) ca Ma _ _ _ (by omega) (by omega) u1 u2 fa hra
      have hda := dstp _ 20 ca Ma (by omega) (by omega) fa hd9
      have k15 := kp _ 20 15 ca _ Ma (by omega) (by omega) (by omega) (by omega) fa j15
      have k16 := kp _ 20 16 ca _ Ma (by omega) (by omega) (by omega) (by omega) fa j16
      have k17 := kp _ 20 17 ca _ Ma (by omega) (by omega) (by omega) (by omega) fa j17
      have k18 := kp _ 20 18 ca _ Ma (by omega) (by omega) (by omega) (by omega) fa j18
      have k19 := kp _ 20 19 ca _ Ma (by omega) (by omega) (by omega) (by omega) fa j19
      have k20 : (zu Ma 20 (tC D.1) ca) 20 (tC D.1) = nI p := by rw [zu_at]; exact eca
      generalize zu Ma 20 (tC D.1) ca = Mb at t1 t2 t3 hda k15 k16 k17 k18 k19 k20 ⊢
      clear fa hra eca
      refine zev_go zkX7_readCorner [] 60 (k_X7_readEnd hX t3 r5 (fun f w eb Mc pc' fc hpc hrc => ?_) (fun ec' eb Mc fc hrc => ?_))
      · exact h.1 f w (by rw [eK]; unfold rdK2; rw [e4]; dsimp only; rw [e6]; dsimp only; rw [e8]; dsimp only; rw [ea]; dsimp only; rw [eb]) _ pc' _ (frR_u (by omega) (by omega) (frR_t t1 (frR_w (by omega) (by omega) fc))) hpc (rC_u (by omega) hrc)
      · have hdc : dC0 D Mc := dC0_fr (fun k h1 h2 => fc k (by omega)) hda
        exact h.2 (rK D a b s k l p) ec' (by rw [eK]; unfold rdK2; rw [e4]; dsimp only; rw [e6]; dsimp only; rw [e8]; dsimp only; rw [ea]; dsimp only; rw [eb]) _ _ (frR_u (by omega) (by omega) (frR_t t1 (frR_w (by omega) (by omega) fc))) (rC_u (by omega) hrc) (dC0_K hdc (by rw [fc 15 (by omega)]; exact k15) (by rw [fc 16 (by omega)]; exact k16) (by rw [fc 17 (by omega)]; exact k17) (by rw [fc 18 (by omega)]; exact k18) (by rw [fc 19 (by omega)]; exact k19) (by rw [fc 20 (by omega)]; exact k20) ((congrArg (· + 1) hdc.2.2.1).trans (nI_1 _)))
    refine zev_go zkX7_readCorner [129, 138] 60 (zix (tC D.1) d3 i10 (zix (tC D.1) d3 i10 (iEq g16 g15 (by omega) (by omega) (fun eq => bad (Or.inl eq)) (fun ne => zix (tC D.1) d3 i10 (zix (tC D.1) d3 i10 ?_)))))
    exact k_X8_areJoined12 (T := D.1) (s := D.2) hv.1 hd3 g15 g16 (by omega) (by omega) (fun w => bT (bad (Or.inr w))) (fun w => bF (good (fun r => by rcases r with r | r; exact ne r; rw [w] at r; exact absurd r (by decide))))
  · rw [if_neg (by omega)] at h
    refine k_X7_blameAt g0 hr n_3 hr.2.2.1 (fun M' f1 hr1 => ?_)
    exact h.1 3 q rfl M' q na (frR_w (by omega) (by omega) f1) (by omega) hr1
