/-! the model's reading, letter by letter -/
theorem k_inR {Q : Option Value → zM → Prop} {M : zM} {x : Int32} {lo hi : Int64} {c a b : Nat} (hx : x = nI c) (hc : c < 2 ^ 30) (ha : lo.toInt = (a : Int)) (hb : hi.toInt = (b : Int) - 1) (h1 : a ≤ c → c < b → Q (some (.int 1)) M) (h0 : (c < a ∨ b ≤ c) → Q (some (.int 0)) M) : zCon fX11_in [.long x.toInt64, .long lo, .long hi] M Q := by
  refine k_X11_in (fun p q => ?_) (fun p => h0 ?_)
  · rw [Int64.le_iff_toInt_le, i64, ha, hx, nI_toInt (by omega)] at p
    rw [Int64.le_iff_toInt_le, i64, hb, hx, nI_toInt (by omega)] at q
    exact h1 (by omega) (by omega)
  · rw [Int64.lt_iff_toInt_lt, Int64.lt_iff_toInt_lt, i64, ha, hb, hx, nI_toInt (by omega)] at p
    omega
theorem k_inM {Q : Option Value → zM → Prop} {M : zM} {x : Int32} {lo hi : Int64} {a : Nat} (hx : x = -1) (ha : lo.toInt = (a : Int)) (h0 : Q (some (.int 0)) M) : zCon fX11_in [.long x.toInt64, .long lo, .long hi] M Q := by
  refine k_X11_in (fun p q => ?_) (fun p => h0)
  rw [Int64.le_iff_toInt_le, i64, ha, hx, show (-1 : Int32).toInt = -1 from by decide] at p
  omega
def mF (lo hi a b : Nat) (M M' : zM) : Prop := (∀ j, j ≠ 47 → (j < a ∨ b < j) → M' j = M j) ∧ ∀ t, (t < lo ∨ hi < t) → M' 47 t = M 47 t
theorem mF_r (lo hi a b : Nat) (M : zM) : mF lo hi a b M M := ⟨fun _ _ _ => rfl, fun _ _ => rfl⟩
theorem mF_t {lo hi a b : Nat} {M M' M'' : zM} (h : mF lo hi a b M M') (h' : mF lo hi a b M' M'') : mF lo hi a b M M'' := ⟨fun j h1 h2 => by rw [h'.1 j h1 h2, h.1 j h1 h2], fun t ht => by rw [h'.2 t ht, h.2 t ht]⟩
theorem mF_w {lo hi a b lo' hi' a' b' : Nat} {M M' : zM} (h1 : lo' ≤ lo) (h2 : hi ≤ hi') (h3 : ∀ j, (j < a' ∨ b' < j) → (j < a ∨ b < j)) (h : mF lo hi a b M M') : mF lo' hi' a' b' M M' := ⟨fun j h4 h5 => h.1 j h4 (h3 j h5), fun t ht => h.2 t (by omega)⟩
theorem mF_u {lo hi a b t : Nat} {M M' : zM} {v : Int32} (h1 : lo ≤ t) (h2 : t ≤ hi) (h : mF lo hi a b M M') : mF lo hi a b M (zu M' 47 t v) := ⟨fun j h4 h5 => by rw [zu_n _ _ _ h4]; exact h.1 j h4 h5, fun s hs => by rw [zu_ne _ _ (by omega)]; exact h.2 s hs⟩
theorem mF_a {lo hi a b k t : Nat} {M M' : zM} {v : Int32} (h1 : a ≤ k) (h2 : k ≤ b) (hk : k ≠ 47) (h : mF lo hi a b M M') : mF lo hi a b M (zu M' k t v) := ⟨fun j h4 h5 => by rw [zu_n _ _ _ (by omega)]; exact h.1 j h4 h5, fun s hs => by rw [zu_n _ _ _ (fun e => hk e.symm)]; exact h.2 s hs⟩
def rM (X : rX) (p : Nat) (M : zM) : Prop := M 47 14 = nI X.1 ∧ (∀ j, j < X.1 → M 57 j = nI (X.2 j)) ∧ M 47 16 = nI p
theorem rM_f {X : rX} {p p' lo hi a b : Nat} {M M' : zM} (hl : 14 < lo) (ha : 57 < a ∨ b < 57) (hp : M' 47 16 = nI p') (hf : mF lo hi a b M M') (h : rM X p M) : rM X p' M' := by
  refine ⟨?_, ?_, hp⟩
  · rw [hf.2 14 (by omega)]; exact h.1
  · rw [hf.1 57 (by omega) (by omega)]; exact h.2.1
theorem k_X11_here {Q : Option Value → zM → Prop} {M : zM} {X : rX} {p : Nat} (hX : vX X) (hr : rM X p M) (hp : p ≤ X.1) (h1 : sB X p < X.1 → ∀ c M', c = nI (X.2 (sB X p)) → mF 16 16 58 57 M M' → M' 47 16 = nI (sB X p) → Q (some (.int c)) M') (h0 : X.1 ≤ sB X p → ∀ M', mF 16 16 58 57 M M' → M' 47 16 = nI (sB X p) → Q (some (.int (-1))) M') : zCon fX11_here [.ref 47] M Q := by
  have x1 := hX.1
  have L : ∀ k p' M', p' + k = X.1 → mF 16 16 58 57 M M' → rM X p' M' → sB X p' = sB X p → zEv fX11_here Q 0 [(0, .ref 47)] [] M' := by
    intro k
    induction k with
    | zero =>
      intro p' M' hk hf hr es
      have e : p' = X.1 := by omega
      have es' := es
      rw [sB_st (by omega)] at es
      refine zev_go zkX11_here [] 60 (iGe hr.2.2 hr.1 (by omega) (by omega) (fun c => ?_) (fun c => absurd c (by omega)))
      exact iGe hr.2.2 hr.1 (by omega) (by omega) (fun c => h0 (by omega) M' hf (by rw [← es]; exact hr.2.2)) (fun c => absurd c (by omega))
    | succ k ih =>
      intro p' M' hk hf hr es
      have b := hX.2 p' (by omega)
      have l := hr.2.1 p' (by omega)
      refine zev_go zkX11_here [0] 60 (iGe hr.2.2 hr.1 (by omega) (by omega) (fun c => absurd c (by omega)) (fun c => zix p' hr.2.2 (show p' < 240 by omega) ?_))
      refine iNe l n_32 (by omega) (by decide) (fun d => ?_) (fun d => ?_)
      · rw [sB_st (fun q => d q.2)] at es
        refine iGe hr.2.2 hr.1 (by omega) (by omega) (fun c => absurd c (by omega)) (fun c => zix p' hr.2.2 (show p' < 240 by omega) ?_)
        exact h1 (by omega) _ M' (by rw [← es]; exact l) hf (by rw [← es]; exact hr.2.2)
      · rw [sB_go (by omega) d] at es
        have e16 : (zu M' 47 16 (M' 47 16 + 1)) 47 16 = nI (p' + 1) := by rw [zu_at]; exact (congrArg (· + 1) hr.2.2).trans (nI_1 _)
        exact ih (p' + 1) (zu M' 47 16 (M' 47 16 + 1)) (by omega) (mF_u (by omega) (by omega) hf) (rM_f (M := M') (lo := 16) (hi := 16) (a := 58) (b := 57) (by omega) (by omega) e16 (mF_u (by omega) (by omega) (mF_r _ _ _ _ _)) hr) es
  exact zcon_of zkX11_here.1 (Nat.le_of_ble_eq_true rfl) (L (X.1 - p) p M (by omega) (mF_r _ _ _ _ _) hr rfl)
theorem k_X11_fails {Q : Option Value → zM → Prop} {M : zM} {x y : Int32} (h : Q (some (.int x)) (zu M 47 15 y)) : zCon fX11_fails [.ref 47, .int x, .int y] M Q := zc_of zkX11_fails [] 60 (Nat.le_of_ble_eq_true rfl) h
theorem k_X11_takeNumber {Q : Option Value → zM → Prop} {M : zM} {X : rX} {p : Nat} {x y : Int32} {lo hi : Nat} (hX : vX X) (hr : rM X p M) (hp : p ≤ X.1) (hx : x = nI lo) (hy : y = nI hi - 1) (hlo : lo < 2 ^ 30) (hhi : hi < 2 ^ 30) (h1 : ∀ f w, rdN X lo hi p = .inl (f, w) → ∀ M' c, mF 15 18 58 57 M M' → c = nI f → M' 47 15 = nI w → Q (some (.int c)) M') (h2 : ∀ v q e, rdN X lo hi p = .inr (v, q, e) → ∀ M', mF 15 18 58 57 M M' → rM X e M' → M' 47 17 = nI v → M' 47 18 = nI q → M' 47 15 = M 47 15 → Q (some (.int 0)) M') : zCon fX11_takeNumber [.ref 47, .int x, .int y] M Q := by
  have x1 := hX.1
  obtain ⟨s1, s2⟩ := sB_le hp
  have eb : (y.toInt64).toInt = (hi : Int) - 1 := by rw [hy]; exact sub1 hhi rfl
  have ea : (x.toInt64).toInt = (lo : Int) := by rw [i64, hx, nI_toInt (by omega)]
  have bad : ∀ M', mF 16 16 58 57 M M' → M' 47 16 = nI (sB X p) → ¬ fig X (sB X p) → ∀ c, zEv fX11_takeNumber Q 19 [(0, .ref 47), (1, .int x), (2, .int y), (3, .int c)] [] M' := fun M' hf e16 nf c => by
    refine zev_go zkX11_takeNumber [] 60 (k_X11_fails ?_)
    exact h1 1 (sB X p) (rdN_1 nf) _ _ (mF_u (by omega) (by omega) (mF_w (by omega) (by omega) (fun j hj => by omega) hf)) n_1 (by rw [zu_at]; exact e16)
  refine zc_of zkX11_takeNumber [19, 42] 60 (Nat.le_of_ble_eq_true rfl) (k_X11_here hX hr hp (fun hq c M1 ec f1 e16 => ?_) (fun hq M1 f1 e16 => k_inM (a := 48) rfl (by decide) (cF (bad M1 f1 e16 (fun q => absurd q.1 (by omega)) _))))
  have lb := hX.2 (sB X p) hq
  refine k_inR (a := 48) (b := 58) ec (by omega) (by decide) (by decide) (fun d1 d2 => cT ?_) (fun d => cF (bad M1 f1 e16 (fun q => by have := q.2; omega) _))
  have fq : fig X (sB X p) := ⟨hq, d1, by omega⟩
  have hr1 : rM X (sB X p) M1 := rM_f (by omega) (by omega) e16 f1 hr
  generalize es : sB X p = q at *
  have fin : ∀ cc m, q + cc ≤ X.1 → (∀ j, j < cc → fig X (q + j)) → eN X q = q + cc → (cc ≤ 3 → m = vN X q cc) → m ≤ 200000 → ∀ c3 M', mF 15 18 58 57 M M' → rM X (q + cc) M' → M' 47 17 = nI m → M' 47 18 = nI q → M' 47 15 = M 47 15 → zEv fX11_takeNumber Q 129 [(0, .ref 47), (1, .int x), (2, .int y), (3, .int c3)] [] M' := by
    intro cc m hcc hfg ee hm hm2 c3 M' hf hr' e17 e18 e15
    have es' : eN X q - q = cc := by omega
    have bd : (3 < cc ∨ vN X q (min 3 cc) < lo ∨ hi ≤ vN X q (min 3 cc)) → zEv fX11_takeNumber Q 157 [(0, .ref 47), (1, .int x), (2, .int y), (3, .int c3)] [] M' := fun d => by
      refine zev_go zkX11_takeNumber [] 60 (k_X11_fails ?_)
      exact h1 2 q (by rw [rdN_2 (by rw [es]; exact fq) (by rw [es, es']; exact d), es]) _ _ (mF_u (by omega) (by omega) hf) n_2 (by rw [zu_at]; exact e18)
    refine zev_go zkX11_takeNumber [157] 60 (iLt n_3 (a_sub hr'.2.2 e18 (by omega)) (by decide) (by omega) (fun d => bd (Or.inl (by omega))) (fun d => ?_))
    have em := hm (by omega)
    have mn : min 3 cc = cc := by omega
    refine k_inR (c := m) e17 (by omega) ea eb (fun d1 d2 => cT ?_) (fun d1 => cF (bd ?_))
    · refine h2 m q (q + cc) ?_ M' hf hr' e17 e18 e15
      rw [rdN_3 (by rw [es]; exact fq) (by rw [es, es', mn, ← em]; omega), es, es', ee, mn, ← em]
    · rw [mn, ← em]; omega
  have L : ∀ k cc m, q + cc + k = X.1 → (∀ j, j < cc → fig X (q + j)) → eN X (q + cc) = eN X q → (cc ≤ 3 → m = vN X q cc) → m ≤ 200000 → ∀ c3 M', mF 15 18 58 57 M M' → rM X (q + cc) M' → M' 47 17 = nI m → M' 47 18 = nI q → M' 47 15 = M 47 15 → zEv fX11_takeNumber Q 42 [(0, .ref 47), (1, .int x), (2, .int y), (3, .int c3)] [] M' := by
    intro k
    induction k with
    | zero =>
      intro cc m hc hfg ee hm hm2 c3 M' hf hr' e17 e18 e15
      refine zev_go zkX11_takeNumber [129] 60 (iGe hr'.2.2 hr'.1 (by omega) (by omega) (fun _ => fin cc m (by omega) hfg ?_ hm hm2 c3 M' hf hr' e17 e18 e15) (fun d => absurd d (by omega)))
      rw [← ee, eN_st (fun f => absurd f.1 (by omega))]
    | succ k ih =>
      intro cc m hc hfg ee hm hm2 c3 M' hf hr' e17 e18 e15
      have lb := hX.2 (q + cc) (by omega)
      have l := hr'.2.1 (q + cc) (by omega)
      have pl : q + cc < 240 := by omega
      refine zev_go zkX11_takeNumber [42, 129] 60 (iGe hr'.2.2 hr'.1 (by omega) (by omega) (fun d => absurd d (by omega)) (fun _ => zix (q + cc) hr'.2.2 pl ?_))
      refine k_inR (a := 48) (b := 58) l (by omega) (by decide) (by decide) (fun d1 d2 => bT ?_) (fun d => bF (fin cc m (by omega) hfg (by rw [← ee, eN_st (fun f => by have := f.2; omega)]) hm hm2 c3 M' hf hr' e17 e18 e15))
      have fc : fig X (q + cc) := ⟨by omega, d1, by omega⟩
      have v3 : cc ≤ 3 → vN X q cc ≤ 999 := fun h => vN_3 h hfg
      have nx : ∀ m' w, w = nI m' → (cc + 1 ≤ 3 → m' = vN X q (cc + 1)) → m' ≤ 200000 → zEv fX11_takeNumber Q 42 [(0, .ref 47), (1, .int x), (2, .int y), (3, .int c3)] [] (zu (zu M' 47 17 w) 47 16 ((zu M' 47 17 w) 47 16 + 1)) := fun m' w hw hm' hm2' => by
        have e16' : (zu (zu M' 47 17 w) 47 16 ((zu M' 47 17 w) 47 16 + 1)) 47 16 = nI (q + (cc + 1)) := by rw [zu_at, zu_ne _ _ (by decide)]; exact (congrArg (· + 1) hr'.2.2).trans (nI_1 _)
        have ff : mF 15 18 58 57 M' (zu (zu M' 47 17 w) 47 16 ((zu M' 47 17 w) 47 16 + 1)) := mF_u (by omega) (by omega) (mF_u (by omega) (by omega) (mF_r _ _ _ _ _))
        refine ih (cc + 1) m' (by omega) (fun j hj => ?_) (by rw [← ee]; exact (eN_go fc).symm) hm' hm2' c3 _ (mF_t hf ff) (rM_f (by omega) (by omega) e16' ff hr') ?_ ?_ ?_
        · by_cases e : j = cc
          · rw [e]; exact fc
          · exact hfg j (by omega)
        · rw [zu_ne _ _ (by decide), zu_at]; exact hw
        · rw [zu_ne _ _ (by decide), zu_ne _ _ (by decide)]; exact e18
        · rw [zu_ne _ _ (by decide), zu_ne _ _ (by decide)]; exact e15
      refine ⟨fun d => ?_, fun d => ?_⟩
      · refine zix (q + cc) hr'.2.2 pl ?_
        have d' : m ≤ 10000 := by
          rw [e17] at d
          rcases Nat.lt_or_ge 10000 m with c | c
          · exact absurd (show (10000 : Int32) < nI m from nI_lt c (by omega)) d
          · exact c
        refine nx (10 * m + X.2 (q + cc) - 48) _ (a_sub (a_add (a_mul n_10 e17) l) n_48 (by omega)) (fun h => ?_) (by omega)
        rw [hm (by omega), vN_s]
        omega
      · have d' : 10000 < m := by
          rw [e17] at d
          rcases Nat.lt_or_ge 10000 m with c | c
          · exact c
          · exact absurd d (show ¬ (nI 10000 < nI m) from nI_nlt c (by omega))
        refine nx m _ e17 (fun h => ?_) hm2
        have a1 := hm (by omega)
        have a2 := v3 (by omega)
        omega
  have ff : mF 15 18 58 57 M (zu (zu M1 47 18 (M1 47 16)) 47 17 0) := mF_u (by omega) (by omega) (mF_u (by omega) (by omega) (mF_w (by omega) (by omega) (fun j hj => by omega) f1))
  refine L (X.1 - q) 0 0 (by omega) (fun j hj => absurd hj (by omega)) rfl (fun _ => rfl) (by omega) _ _ ff (rM_f (by omega) (by omega) ?_ ff hr) ?_ ?_ ?_
  · rw [zu_ne _ _ (by decide), zu_ne _ _ (by decide)]; exact e16
  · rw [zu_at]; rfl
  · rw [zu_ne _ _ (by decide), zu_at]; exact e16
  · rw [zu_ne _ _ (by decide), zu_ne _ _ (by decide)]; exact f1.2 15 (by omega)
