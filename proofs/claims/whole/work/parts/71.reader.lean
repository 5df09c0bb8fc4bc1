/-! the class's reader, letter by letter -/
def flN : Option rF → Int32
  | none => 0
  | some (f, _) => nI f
def flW : Option rF → Int32
  | none => -1
  | some (_, w) => nI w
abbrev flG (fl : Option rF) : Prop := ∀ f w, fl = some (f, w) → 0 < f ∧ f < 5
def blm (fl : Option rF) (f w : Nat) : Option rF := match fl with
  | none => some (f, w)
  | some x => some x
abbrev vX (X : rX) : Prop := X.1 ≤ 240 ∧ ∀ j, j < X.1 → X.2 j < 256
def rC (X : rX) (p : Nat) (na : Int32) (fl : Option rF) (M : zM) : Prop := M 10 2 = nI X.1 ∧ (∀ j, j < X.1 → M 11 j = nI (X.2 j)) ∧ M 10 3 = nI p ∧ M 10 4 = na ∧ M 10 5 = flN fl ∧ M 10 6 = flW fl
theorem flN_ne {fl : Option rF} {x : rF} (h : flG fl) (e : fl = some x) : ¬ flN fl = 0 := by
  obtain ⟨f, w⟩ := x
  have := h f w e
  rw [e]
  exact nI_ne0 this.1 (by omega)
theorem rC_fr {X : rX} {p : Nat} {na : Int32} {fl : Option rF} {M M' : zM} (h10 : M' 10 = M 10) (h11 : M' 11 = M 11) (h : rC X p na fl M) : rC X p na fl M' := by
  unfold rC at h ⊢; rw [h10, h11]; exact h
theorem k_X7_letter {Q : Option Value → zM → Prop} {M : zM} {X : rX} {p : Nat} {na : Int32} {fl : Option rF} (hX : vX X) (hr : rC X p na fl M) (hp : p ≤ X.1) (h1 : p < X.1 → ∀ c, c = nI (X.2 p) → Q (some (.int c)) M) (h0 : X.1 ≤ p → Q (some (.int (-1))) M) : zCon fX7_letter [.ref 10] M Q := by
  obtain ⟨r1, r2, r3, r4, r5, r6⟩ := hr
  have x1 := hX.1
  refine zc_of zkX7_letter [] 60 (Nat.le_of_ble_eq_true rfl) (iGe r3 r1 (by omega) (by omega) (fun c => h0 c) (fun c => ?_))
  exact iGe r3 (n_240) (by omega) (by decide) (fun d => absurd d (by omega)) (fun _ => zix p r3 (show p < 240 by omega) (h1 c _ (r2 p c)))
theorem k_X7_skipBlanks {Q : Option Value → zM → Prop} {M : zM} {X : rX} {p : Nat} {na : Int32} {fl : Option rF} (hX : vX X) (hr : rC X p na fl M) (hp : p ≤ X.1) (h : ∀ M', frR 10 10 M M' → rC X (sB X p) na fl M' → Q none M') : zCon fX7_skipBlanks [.ref 10] M Q := by
  have x1 := hX.1
  have L : ∀ k p M', p + k = X.1 → frR 10 10 M M' → rC X p na fl M' → (∀ M', frR 10 10 M M' → rC X (sB X p) na fl M' → Q none M') → zEv fX7_skipBlanks Q 0 [(0, .ref 10)] [] M' := by
    intro k
    induction k with
    | zero =>
      intro p M' hk hf hr h
      obtain ⟨r1, r2, r3, r4, r5, r6⟩ := id hr
      refine zev_go zkX7_skipBlanks [] 60 (iGe r3 r1 (by omega) (by omega) (fun c => h M' hf ?_) (fun c => absurd c (by omega)))
      rw [sB_st (by omega)]; exact hr
    | succ k ih =>
      intro p M' hk hf hr h
      obtain ⟨r1, r2, r3, r4, r5, r6⟩ := id hr
      have b := hX.2 p (by omega)
      refine zev_go zkX7_skipBlanks [0] 60 (iGe r3 r1 (by omega) (by omega) (fun c => absurd c (by omega)) (fun c => ?_))
      refine k_X7_letter hX hr (by omega) (fun _ c ec => iNe ec n_32 (by omega) (by decide) (fun d => h M' hf ?_) (fun d => ?_)) (fun c => absurd c (by omega))
      · rw [sB_st (fun q => d q.2)]; exact hr
      · refine ih (p + 1) _ (by omega) (frR_u (by omega) (by omega) hf) ⟨?_, ?_, ?_, ?_, ?_, ?_⟩ (fun M2 hf2 hr2 => h M2 hf2 (by rw [sB_go (by omega) d]; exact hr2))
        · rw [zu_ne _ _ (by decide)]; exact r1
        · rw [zu_n _ _ _ (by decide)]; exact r2
        · rw [zu_at]; exact (congrArg (· + 1) r3).trans (nI_1 p)
        · rw [zu_ne _ _ (by decide)]; exact r4
        · rw [zu_ne _ _ (by decide)]; exact r5
        · rw [zu_ne _ _ (by decide)]; exact r6
  exact zcon_of zkX7_skipBlanks.1 (Nat.le_of_ble_eq_true rfl) (L (X.1 - p) p M (by omega) (frR_r _ _ _) hr h)
theorem k_X7_blameAt {Q : Option Value → zM → Prop} {M : zM} {X : rX} {p : Nat} {na : Int32} {fl : Option rF} {x y : Int32} {f w : Nat} (hg : flG fl) (hr : rC X p na fl M) (hx : x = nI f) (hy : y = nI w) (h : ∀ M', frR 10 10 M M' → rC X p na (blm fl f w) M' → Q none M') : zCon fX7_blameAt [.ref 10, .int x, .int y] M Q := by
  obtain ⟨r1, r2, r3, r4, r5, r6⟩ := id hr
  refine zc_of zkX7_blameAt [] 60 (Nat.le_of_ble_eq_true rfl) ?_
  cases e : fl with
  | none =>
    rw [e] at h r5
    refine nf_ r5 (h _ (frR_u (by omega) (by omega) (frR_u (by omega) (by omega) (frR_r _ _ _))) ⟨?_, ?_, ?_, ?_, ?_, ?_⟩)
    · rw [zu_ne _ _ (by decide), zu_ne _ _ (by decide)]; exact r1
    · rw [zu_n _ _ _ (by decide), zu_n _ _ _ (by decide)]; exact r2
    · rw [zu_ne _ _ (by decide), zu_ne _ _ (by decide)]; exact r3
    · rw [zu_ne _ _ (by decide), zu_ne _ _ (by decide)]; exact r4
    · rw [zu_ne _ _ (by decide), zu_at]; exact hx
    · rw [zu_at]; exact hy
  | some z =>
    have n := flN_ne hg e
    rw [← r5] at n
    refine nt_ n (h M (frR_r _ _ _) ?_)
    rw [e]
    rw [e] at hr
    exact hr
theorem k_X7_isFigure {Q : Option Value → zM → Prop} {M : zM} {x : Int32} {c : Nat} (hx : x = nI c) (hc : c < 2 ^ 31) (h1 : 48 ≤ c → c ≤ 57 → Q (some (.int 1)) M) (h0 : ¬ (48 ≤ c ∧ c ≤ 57) → Q (some (.int 0)) M) : zCon fX7_isFigure [.int x] M Q := by
  refine zc_of zkX7_isFigure [] 60 (Nat.le_of_ble_eq_true rfl) (iLt hx n_48 hc (by decide) (fun d => ⟨Or.inl rfl, h0 (by omega)⟩) (fun d => ?_))
  exact iLt n_57 hx (by decide) hc (fun e => ⟨Or.inl rfl, h0 (by omega)⟩) (fun e => ⟨Or.inr rfl, h1 d e⟩)
theorem k_X7_isFigure0 {Q : Option Value → zM → Prop} {M : zM} (h0 : Q (some (.int 0)) M) : zCon fX7_isFigure [.int (-1)] M Q := by
  refine zc_of zkX7_isFigure [] 60 (Nat.le_of_ble_eq_true rfl) (bt_ (by decide) ⟨Or.inl rfl, h0⟩)
/-- letter and test in one -/
theorem hiLt {y : Int32} {h v : Nat} (hy : y = nI h - 1) (hh : h < 2 ^ 30) (hv : v < 2 ^ 30) : y < nI v ↔ h ≤ v := by
  rw [hy, Int32.lt_iff_toInt_lt, n_1, pk_sub_toInt hh (by omega), nI_toInt (by omega)]
  omega
theorem k_X7_readNumber {Q : Option Value → zM → Prop} {M : zM} {X : rX} {p : Nat} {na : Int32} {x y : Int32} {lo hi : Nat} (hX : vX X) (hr : rC X p na none M) (hp : p ≤ X.1) (hx : x = nI lo) (hy : y = nI hi - 1) (hlo : lo < 2 ^ 30) (hhi : hi < 2 ^ 30) (h1 : ∀ f w, rdN X lo hi p = .inl (f, w) → ∀ M' p' na', frR 10 10 M M' → p' ≤ X.1 → rC X p' na' (some (f, w)) M' → Q (some (.int 0)) M') (h2 : ∀ v q e, rdN X lo hi p = .inr (v, q, e) → ∀ M' c, frR 10 10 M M' → rC X e (nI q) none M' → c = nI v → Q (some (.int c)) M') : zCon fX7_readNumber [.ref 10, .int x, .int y] M Q := by
  have x1 := hX.1
  have g0 : flG none := fun f w e => by cases e
  obtain ⟨s1, s2⟩ := sB_le hp
  refine zc_of zkX7_readNumber [21, 42] 60 (Nat.le_of_ble_eq_true rfl) (k_X7_skipBlanks hX hr hp (fun M1 f1 hr1 => ?_))
  obtain ⟨r1, r2, r3, r4, r5, r6⟩ := id hr1
  generalize es : sB X p = q at *
  have bad : ¬ fig X q → zEv fX7_readNumber Q 21 [(0, .ref 10), (1, .int x), (2, .int y)] [] M1 := fun c => by
    refine zev_go zkX7_readNumber [] 60 (k_X7_blameAt g0 hr1 n_1 r3 (fun M2 f2 hr2 => ?_))
    exact h1 1 q (by rw [rdN_1 (by rw [es]; exact c), es]) M2 q na (frR_t f1 f2) s2 hr2
  refine nf_ r5 (k_X7_letter hX hr1 s2 (fun hq c ec => k_X7_isFigure ec (by have := hX.2 q hq; omega) (fun d1 d2 => cT ?_) (fun d => cF (bad (fun f => d f.2)))) (fun hq => k_X7_isFigure0 (cF (bad (fun f => absurd f.1 (by omega))))))
  have fq : fig X q := ⟨hq, d1, d2⟩
  have L : ∀ k c, q + c + k = X.1 → (∀ j, j < c → fig X (q + j)) → eN X (q + c) = eN X q → ∀ v M', v = nI (vN X q (min 3 c)) → frR 10 10 M M' → rC X (q + c) (nI q) none M' → zEv fX7_readNumber Q 42 [(0, .ref 10), (1, .int x), (2, .int y), (3, .int v)] [] M' := by
    have fin : ∀ c, q + c ≤ X.1 → (∀ j, j < c → fig X (q + j)) → eN X q = q + c → ∀ v M', v = nI (vN X q (min 3 c)) → frR 10 10 M M' → rC X (q + c) (nI q) none M' → zEv fX7_readNumber Q 102 [(0, .ref 10), (1, .int x), (2, .int y), (3, .int v)] [] M' := by
      intro c hc hfg ee v M' hv hf hr
      obtain ⟨t1, t2, t3, t4, t5, t6⟩ := id hr
      have vb := vN_3 (X := X) (q := q) (k := min 3 c) (by omega) (fun j hj => hfg j (by omega))
      have es' : eN X q - q = c := by omega
      have bd : (3 < c ∨ vN X q (min 3 c) < lo ∨ hi ≤ vN X q (min 3 c)) → zEv fX7_readNumber Q 125 [(0, .ref 10), (1, .int x), (2, .int y), (3, .int v)] [] M' := fun d => by
        refine zev_go zkX7_readNumber [] 60 (k_X7_blameAt g0 hr n_2 t4 (fun M2 f2 hr2 => ?_))
        exact h1 2 q (by rw [rdN_2 (by rw [es]; exact fq) (by rw [es, es']; exact d), es]) M2 (q + c) (nI q) (frR_t hf f2) hc hr2
      refine zev_go zkX7_readNumber [125] 60 (iLt n_3 (a_sub t3 t4 (by omega)) (by decide) (by omega) (fun d => bd (Or.inl (by omega))) (fun d => ?_))
      refine iLt hv hx (by omega) (by omega) (fun d2 => bd (Or.inr (Or.inl d2))) (fun d2 => nr (fun d3 => ?_) (fun d3 => bd (Or.inr (Or.inr ?_))))
      · rw [hv, hiLt hy hhi (by omega)] at d3
        refine h2 (vN X q (min 3 c)) q (q + c) ?_ M' v hf hr hv
        rw [rdN_3 (by rw [es]; exact fq) (by rw [es, es']; omega), es, es', ee]
      · rw [hv] at d3
        exact (hiLt hy hhi (by omega)).mp d3
    intro k
    induction k with
    | zero =>
      intro c hc hfg ee v M' hv hf hr
      obtain ⟨t1, t2, t3, t4, t5, t6⟩ := id hr
      refine zev_go zkX7_readNumber [102] 60 (iGe t3 t1 (by omega) (by omega) (fun _ => fin c (by omega) hfg ?_ v M' hv hf hr) (fun d => absurd d (by omega)))
      rw [← ee, eN_st (fun f => absurd f.1 (by omega))]
    | succ k ih =>
      intro c hc hfg ee v M' hv hf hr
      obtain ⟨t1, t2, t3, t4, t5, t6⟩ := id hr
      have lb := hX.2 (q + c) (by omega)
      refine zev_go zkX7_readNumber [42, 89, 102] 60 (iGe t3 t1 (by omega) (by omega) (fun d => absurd d (by omega)) (fun _ => ?_))
      refine k_X7_letter hX hr (by omega) (fun hq c' ec => k_X7_isFigure ec (by omega) (fun d1 d2 => bT ?_) (fun d => bF (fin c (by omega) hfg (by rw [← ee, eN_st (fun f => d f.2)]) v M' hv hf hr))) (fun hq => absurd hq (by omega))
      have fc : fig X (q + c) := ⟨hq, d1, d2⟩
      have nx : ∀ v', v' = nI (vN X q (min 3 (c + 1))) → zEv fX7_readNumber Q 89 [(0, .ref 10), (1, .int x), (2, .int y), (3, .int v')] [] M' := fun v' hv' => by
        refine zev_go zkX7_readNumber [42] 60 (ih (c + 1) (by omega) (fun j hj => ?_) (by rw [← ee]; exact (eN_go fc).symm) v' _ hv' (frR_u (by omega) (by omega) hf) ⟨?_, ?_, ?_, ?_, ?_, ?_⟩)
        · by_cases e : j = c
          · rw [e]; exact fc
          · exact hfg j (by omega)
        · rw [zu_ne _ _ (by decide)]; exact t1
        · rw [zu_n _ _ _ (by decide)]; exact t2
        · rw [zu_at]; exact (congrArg (· + 1) t3).trans (nI_1 _)
        · rw [zu_ne _ _ (by decide)]; exact t4
        · rw [zu_ne _ _ (by decide)]; exact t5
        · rw [zu_ne _ _ (by decide)]; exact t6
      refine iGe (a_sub t3 t4 (by omega)) n_3 (by omega) (by decide) (fun d => nx _ ?_) (fun d => ?_)
      · rw [hv, show min 3 (c + 1) = min 3 c by omega]
      · refine k_X7_letter hX hr (by omega) (fun _ c2 ec2 => nx _ ?_) (fun hq => absurd hq (by omega))
        rw [show min 3 (c + 1) = c + 1 by omega, vN_s]
        rw [show min 3 c = c by omega] at hv
        have := a_sub (a_add (a_mul n_10 hv) ec2) n_48 (by omega)
        rw [show 10 * vN X q c + X.2 (q + c) - 48 = 10 * vN X q c + (X.2 (q + c) - 48) by omega] at this
        exact this
  refine L (X.1 - q) 0 (by omega) (fun j hj => absurd hj (by omega)) rfl 0 _ n_0 (frR_t f1 (frR_u (by omega) (by omega) (frR_r _ _ _))) ⟨?_, ?_, ?_, ?_, ?_, ?_⟩
  · rw [zu_ne _ _ (by decide)]; exact r1
  · rw [zu_n _ _ _ (by decide)]; exact r2
  · rw [zu_ne _ _ (by decide)]; exact r3
  · rw [zu_at]; exact r3
  · rw [zu_ne _ _ (by decide)]; exact r5
  · rw [zu_ne _ _ (by decide)]; exact r6
theorem k_X7_readNumberF {Q : Option Value → zM → Prop} {M : zM} {X : rX} {p : Nat} {na : Int32} {x y : Int32} {z : rF} (hX : vX X) (hg : flG (some z)) (hr : rC X p na (some z) M) (hp : p ≤ X.1) (h : ∀ M' p', frR 10 10 M M' → p' ≤ X.1 → rC X p' na (some z) M' → Q (some (.int 0)) M') : zCon fX7_readNumber [.ref 10, .int x, .int y] M Q := by
  obtain ⟨s1, s2⟩ := sB_le hp
  refine zc_of zkX7_readNumber [42] 60 (Nat.le_of_ble_eq_true rfl) (k_X7_skipBlanks hX hr hp (fun M1 f1 hr1 => ?_))
  obtain ⟨r1, r2, r3, r4, r5, r6⟩ := id hr1
  have n := flN_ne hg rfl
  rw [← r5] at n
  exact nt_ n (k_X7_blameAt hg hr1 n_1 r3 (fun M2 f2 hr2 => h M2 _ (frR_t f1 f2) s2 hr2))
theorem k_X7_readEnd {Q : Option Value → zM → Prop} {M : zM} {X : rX} {p : Nat} {na : Int32} (hX : vX X) (hr : rC X p na none M) (hp : p ≤ X.1) (h1 : ∀ f w, rdE X p = .inl (f, w) → ∀ M' p', frR 10 10 M M' → p' ≤ X.1 → rC X p' na (some (f, w)) M' → Q none M') (h2 : ∀ e, rdE X p = .inr e → ∀ M', frR 10 10 M M' → rC X e na none M' → Q none M') : zCon fX7_readEnd [.ref 10] M Q := by
  have x1 := hX.1
  have g0 : flG none := fun f w e => by cases e
  obtain ⟨s1, s2⟩ := sB_le hp
  refine zc_of zkX7_readEnd [26] 60 (Nat.le_of_ble_eq_true rfl) (k_X7_skipBlanks hX hr hp (fun M1 f1 hr1 => ?_))
  obtain ⟨r1, r2, r3, r4, r5, r6⟩ := id hr1
  have bad : ¬ (sB X p < X.1 ∧ X.2 (sB X p) = 59) → zEv fX7_readEnd Q 26 [(0, .ref 10)] [] M1 := fun c => by
    refine zev_go zkX7_readEnd [] 60 (k_X7_blameAt g0 hr1 n_1 r3 (fun M2 f2 hr2 => ?_))
    exact h1 1 (sB X p) (by unfold rdE; rw [if_neg c]) M2 _ (frR_t f1 f2) s2 hr2
  refine k_X7_letter hX hr1 s2 (fun hq c ec => iNe ec (show (59 : Int32) = nI 59 from rfl) (by have := hX.2 _ hq; omega) (by decide) (fun d => bad (fun q => d q.2)) (fun d => ?_)) (fun hq => nt_ (by decide) (bad (fun q => absurd q.1 (by omega))))
  refine h2 (sB X p + 1) (by unfold rdE; rw [if_pos ⟨hq, d⟩]) _ (frR_t f1 (frR_u (by omega) (by omega) (frR_r _ _ _))) ⟨?_, ?_, ?_, ?_, ?_, ?_⟩
  · rw [zu_ne _ _ (by decide)]; exact r1
  · rw [zu_n _ _ _ (by decide)]; exact r2
  · rw [zu_at]; exact (congrArg (· + 1) r3).trans (nI_1 _)
  · rw [zu_ne _ _ (by decide)]; exact r4
  · rw [zu_ne _ _ (by decide)]; exact r5
  · rw [zu_ne _ _ (by decide)]; exact r6
theorem k_X7_readEndF {Q : Option Value → zM → Prop} {M : zM} {X : rX} {p : Nat} {na : Int32} {z : rF} (hX : vX X) (hg : flG (some z)) (hr : rC X p na (some z) M) (hp : p ≤ X.1) (h : ∀ M' p', frR 10 10 M M' → p' ≤ X.1 → rC X p' na (some z) M' → Q none M') : zCon fX7_readEnd [.ref 10] M Q := by
  have x1 := hX.1
  obtain ⟨s1, s2⟩ := sB_le hp
  refine zc_of zkX7_readEnd [26] 60 (Nat.le_of_ble_eq_true rfl) (k_X7_skipBlanks hX hr hp (fun M1 f1 hr1 => ?_))
  obtain ⟨r1, r2, r3, r4, r5, r6⟩ := id hr1
  have bad : zEv fX7_readEnd Q 26 [(0, .ref 10)] [] M1 := zev_go zkX7_readEnd [] 60 (k_X7_blameAt hg hr1 n_1 r3 (fun M2 f2 hr2 => h M2 _ (frR_t f1 f2) s2 hr2))
  refine k_X7_letter hX hr1 s2 (fun hq c ec => iNe ec (show (59 : Int32) = nI 59 from rfl) (by have := hX.2 _ hq; omega) (by decide) (fun d => bad) (fun d => ?_)) (fun hq => nt_ (by decide) bad)
  refine h _ (sB X p + 1) (frR_t f1 (frR_u (by omega) (by omega) (frR_r _ _ _))) hq ⟨?_, ?_, ?_, ?_, ?_, ?_⟩
  · rw [zu_ne _ _ (by decide)]; exact r1
  · rw [zu_n _ _ _ (by decide)]; exact r2
  · rw [zu_at]; exact (congrArg (· + 1) r3).trans (nI_1 _)
  · rw [zu_ne _ _ (by decide)]; exact r4
  · rw [zu_ne _ _ (by decide)]; exact r5
  · rw [zu_ne _ _ (by decide)]; exact r6
