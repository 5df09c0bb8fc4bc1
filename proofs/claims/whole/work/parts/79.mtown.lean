/-! town of the model -/
theorem fE_1 {X : rX} {D : rD} {e : Nat} (h : ¬ (sB X e < X.1 ∧ X.2 (sB X e) = 59)) : fE X D e = .inl (1, sB X e) := by
  have q : rdE X e = .inl (1, sB X e) := if_neg h
  unfold fE
  rw [q]
theorem fE_2 {X : rX} {D : rD} {e : Nat} (h : sB X e < X.1 ∧ X.2 (sB X e) = 59) : fE X D e = .inr (D, sB X e + 1) := by
  have q : rdE X e = .inr (sB X e + 1) := if_pos h
  unfold fE
  rw [q]
theorem k_X11_takeClause {Q : Option Value → zM → Prop} {M : zM} {X : rX} {D : rD} {p : Nat} (hX : vX X) (hr : rM X p M) (hp : p ≤ X.1) (hq : sB X p < X.1) (hd : dM0 D M) (hv : vD D) (h1 : ∀ f w, rdC X D (sB X p) = .inl (f, w) → ∀ M' c, mF 15 23 58 65 M M' → c = nI f → M' 47 15 = nI w → Q (some (.int c)) M') (h2 : ∀ D' e, rdC X D (sB X p) = .inr (D', e) → ∀ M', mF 15 23 58 65 M M' → rM X e M' → M' 47 15 = M 47 15 → dM0 D' M' → Q (some (.int 0)) M') : zCon fX11_takeClause [.ref 47] M Q := by
  have x1 := hX.1
  have hN := zTv_N hv.1
  have hS := zTv_S hv.1
  have hC := zTv_C hv.1
  have fb : ∀ {M1 M2 : zM}, mF 16 16 58 57 M1 M2 → mF 15 23 58 65 M1 M2 := fun g => mF_w (by omega) (by omega) (fun j hj => by omega) g
  have J0 : ∀ f w, rdC X D (sB X p) = .inl (f, w) → ∀ c1 c2 c3 c M', c = nI f → mF 15 23 58 65 M M' → M' 47 15 = nI w → zEv fX11_takeClause Q 171 [(0, .ref 47), (1, .int c1), (2, .int c2), (3, .int c3), (4, .int c)] [] M' := fun f w e c1 c2 c3 c M' hc hf e15 => by
    obtain ⟨b1, b2⟩ := fOK_C f w e
    refine zev_go zkX11_takeClause [] 60 (nt_ (by rw [hc]; exact nI_ne0 b1 (by omega)) ?_)
    exact h1 f w e _ c (mF_u (t := 16) (by omega) (by omega) hf) hc (by rw [zu_ne _ _ (by decide)]; exact e15)
  have J1 : ∀ D' e, rdC X D (sB X p) = fE X D' e → e ≤ X.1 → ∀ c1 c2 c3 M', mF 15 23 58 65 M M' → rM X e M' → M' 47 15 = M 47 15 → dM0 D' M' → zEv fX11_takeClause Q 171 [(0, .ref 47), (1, .int c1), (2, .int c2), (3, .int c3), (4, .int 0)] [] M' := fun D' e eR he c1 c2 c3 M' hf hr' e15 hd' => by
    have bad : ¬ (sB X e < X.1 ∧ X.2 (sB X e) = 59) → ∀ M2, mF 16 16 58 57 M' M2 → M2 47 16 = nI (sB X e) → zEv fX11_takeClause Q 185 [(0, .ref 47), (1, .int c1), (2, .int c2), (3, .int c3), (4, .int 0)] [] M2 := fun nb M2 f2 e16 => by
      refine zev_go zkX11_takeClause [] 60 (k_X11_fails ?_)
      exact h1 1 (sB X e) (eR.trans (fE_1 nb)) _ _ (mF_u (by omega) (by omega) (mF_t hf (fb f2))) n_1 (by rw [zu_at]; exact e16)
    refine zev_go zkX11_takeClause [185] 60 (nf_ rfl (k_X11_here hX hr' he (fun hs c M2 ec f2 e16 => ?_) (fun hs M2 f2 e16 => bf_ (by decide) (bad (fun q => absurd q.1 (by omega)) M2 f2 e16))))
    refine iEq ec (show (59 : Int32) = nI 59 from rfl) (by have := hX.2 _ hs; omega) (by decide) (fun d => ?_) (fun d => bad (fun q => d q.2) M2 f2 e16)
    have ff : mF 15 23 58 65 M (zu M2 47 16 (M2 47 16 + 1)) := mF_u (by omega) (by omega) (mF_t hf (fb f2))
    refine h2 D' (sB X e + 1) (eR.trans (fE_2 ⟨hs, d⟩)) (zu M2 47 16 (M2 47 16 + 1)) ff (rM_f (by omega) (by omega) ?_ ff hr) ?_ ⟨?_, ?_, ?_, dMa_fr (fun k h1 h2 => ?_) hd'.2.2.2⟩
    · rw [zu_at]; exact (congrArg (· + 1) e16).trans (nI_1 _)
    · rw [zu_ne _ _ (by decide), f2.2 15 (by omega)]; exact e15
    · rw [zu_ne _ _ (by decide), f2.2 19 (by omega)]; exact hd'.1
    · rw [zu_ne _ _ (by decide), f2.2 20 (by omega)]; exact hd'.2.1
    · rw [zu_ne _ _ (by decide), f2.2 23 (by omega)]; exact hd'.2.2.1
    · rw [zu_n _ _ _ (by omega), f2.1 k (by omega) (by omega)]
  refine zc_of zkX11_takeClause [52, 122, 171] 60 (Nat.le_of_ble_eq_true rfl) (k_X11_here hX hr hp (fun _ c M1 ec f1 e16 => ?_) (fun q => absurd q (by omega)))
  have lb := hX.2 _ hq
  have hr1 : rM X (sB X p) M1 := rM_f (by omega) (by omega) e16 f1 hr
  have hd1 : dM0 D M1 := ⟨by rw [f1.2 19 (by omega)]; exact hd.1, by rw [f1.2 20 (by omega)]; exact hd.2.1, by rw [f1.2 23 (by omega)]; exact hd.2.2.1, dMa_fr (fun k h1 h2 => f1.1 k (by omega) (by omega)) hd.2.2.2⟩
  have odd : rdC X D (sB X p) = .inl (1, sB X p) → ∀ c2, zEv fX11_takeClause Q 52 [(0, .ref 47), (1, .int c), (2, .int c2)] [] M1 := fun e c2 => by
    refine zev_go zkX11_takeClause [] 60 (k_X11_fails ?_)
    exact h1 1 _ e _ _ (mF_u (by omega) (by omega) (fb f1)) n_1 (by rw [zu_at]; exact e16)
  have many : rdC X D (sB X p) = .inl (3, sB X p) → ∀ c2 c3, zEv fX11_takeClause Q 122 [(0, .ref 47), (1, .int c), (2, .int c2), (3, .int c3)] [] M1 := fun e c2 c3 => by
    refine zev_go zkX11_takeClause [] 60 (k_X11_fails ?_)
    exact h1 3 _ e _ _ (mF_u (by omega) (by omega) (fb f1)) n_3 (by rw [zu_at]; exact e16)
  -- past the letter
  have f2 : mF 15 23 58 65 M (zu M1 47 16 (M1 47 16 + 1)) := mF_u (by omega) (by omega) (fb f1)
  have hr2 : rM X (sB X p + 1) (zu M1 47 16 (M1 47 16 + 1)) := rM_f (by omega) (by omega) (by rw [zu_at]; exact (congrArg (· + 1) e16).trans (nI_1 _)) f2 hr
  have hd2 : dM0 D (zu M1 47 16 (M1 47 16 + 1)) := ⟨by rw [zu_ne _ _ (by decide)]; exact hd1.1, by rw [zu_ne _ _ (by decide)]; exact hd1.2.1, by rw [zu_ne _ _ (by decide)]; exact hd1.2.2.1, dMa_fr (fun k h1 h2 => zu_n _ _ _ (by omega)) hd1.2.2.2⟩
  have e15 : (zu M1 47 16 (M1 47 16 + 1)) 47 15 = M 47 15 := by rw [zu_ne _ _ (by decide), f1.2 15 (by omega)]
  refine iNe ec n_116 (by omega) (by decide) (fun c1 => ?_) (fun c1 => ?_)
  · refine iNe ec n_115 (by omega) (by decide) (fun c2 => ?_) (fun c2 => ?_)
    · refine iNe ec (show (105 : Int32) = nI 105 from rfl) (by omega) (by decide) (fun c3 => ?_) (fun c3 => ?_)
      · refine bt_ (by decide) (odd ?_ _)
        unfold rdC; rw [if_neg c1, if_neg (fun r => c2 r.1), if_neg (fun r => c3 r.1)]
      · refine bf_ (by decide) (nf_ (by decide) (iNe hd1.1 n_0 (by omega) (by decide) (fun z => ?_) (fun z => odd ?_ _)))
        · have eR : rdC X D (sB X p) = if tC D.1 < 10 then rdK X D (sB X p + 1) else .inl (3, sB X p) := by
            unfold rdC; rw [if_neg c1, if_neg (fun r => c2 r.1), if_pos ⟨c3, z⟩]
          refine nt_ (by decide) (nt_ (by decide) (iNe hd1.2.2.1 n_10 (by omega) (by decide) (fun m => ?_) (fun m => ?_)))
          · rw [if_pos (by omega)] at eR
            refine bt_ rfl (nt_ (by decide) (nt_ (by decide) (k_X11_takeCorner hX hr2 (by omega) hd2 hv (by omega) ⟨fun f w e M3 c' f3 ec' e15' => ?_, fun D' e' e he M3 f3 hr3 e15' hd3 => ?_⟩)))
            · exact J0 f w (eR.trans e) _ _ _ _ M3 ec' (mF_t f2 f3) e15'
            · exact J1 D' e' (eR.trans e) he _ _ _ M3 (mF_t f2 f3) hr3 (e15'.trans e15) hd3
          · rw [if_neg (by omega)] at eR
            exact bf_ (by decide) (many eR _ _)
        · unfold rdC; rw [if_neg c1, if_neg (fun r => r.2 z), if_neg (fun r => r.2 z)]
    · refine bf_ (by decide) (nf_ (by decide) (iNe hd1.1 n_0 (by omega) (by decide) (fun z => ?_) (fun z => odd ?_ _)))
      · have eR : rdC X D (sB X p) = if tS D.1 < 7 then rdS X D (sB X p + 1) else .inl (3, sB X p) := by
          unfold rdC; rw [if_neg c1, if_pos ⟨c2, z⟩]
        refine nt_ (by decide) (nf_ rfl (iNe hd1.2.1 n_7 (by omega) (by decide) (fun m => ?_) (fun m => ?_)))
        · rw [if_pos (by omega)] at eR
          refine bt_ rfl (nt_ (by decide) (nf_ rfl (k_X11_takeStreet hX hr2 (by omega) hd2 hv (by omega) ⟨fun f w e M3 c' f3 ec' e15' => ?_, fun D' e' e he M3 f3 hr3 e15' hd3 => ?_⟩)))
          · exact J0 f w (eR.trans e) _ _ _ _ M3 ec' (mF_t f2 f3) e15'
          · exact J1 D' e' (eR.trans e) he _ _ _ M3 (mF_t f2 f3) hr3 (e15'.trans e15) hd3
        · rw [if_neg (by omega)] at eR
          exact bf_ (by decide) (many eR _ _)
      · unfold rdC; rw [if_neg c1, if_neg (fun r => r.2 z), if_neg (fun r => r.2 z)]
  · have eR : rdC X D (sB X p) = if tN D.1 = 0 then rdT X D (sB X p + 1) else .inl (3, sB X p) := by
      unfold rdC; rw [if_pos c1]
    refine bf_ (by decide) (nt_ (by decide) (nf_ rfl ⟨fun m => ?_, fun m => ?_⟩))
    · have z : tN D.1 = 0 := by
        rw [hd1.1] at m
        rcases Nat.eq_zero_or_pos (tN D.1) with z | z
        · exact z
        · exact absurd (show (0 : Int32) < nI (tN D.1) from nI_lt z (by omega)) m
      rw [if_pos z] at eR
      refine bt_ rfl (nf_ rfl (k_X11_takeWords hX hr2 (by omega) hd2 ⟨fun f w e M3 c' f3 ec' e15' => ?_, fun D' e' e he M3 f3 hr3 e15' hd3 => ?_⟩))
      · exact J0 f w (eR.trans e) _ _ _ _ M3 ec' (mF_t f2 f3) e15'
      · exact J1 D' e' (eR.trans e) he _ _ _ M3 (mF_t f2 f3) hr3 (e15'.trans e15) hd3
    · have z : tN D.1 ≠ 0 := fun z => by
        rw [hd1.1, z] at m
        exact absurd m (by decide)
      rw [if_neg z] at eR
      exact bf_ (by decide) (many eR _ _)
theorem pt0 {g h : Nat → Int32} {m j : Nat} (hj : j < m) : pt88 g h 0 m j = h j := by
  unfold pt88
  rw [if_pos ⟨Nat.zero_le _, by omega⟩]
  rfl
theorem k_X11_takeRead {Q : Option Value → zM → Prop} {M : zM} {D : rD} (hd : dM0 D M) (hv : vD D) (h : ∀ M', (∀ j, (j < 47 ∨ 56 < j) → M' j = M j) → (∀ t, 4 < t → M' 47 t = M 47 t) → zTm D.1 M' → mA D.1 (af0 D.2) (M' 56) → Q none M') : zCon fX11_takeRead [.ref 47] M Q := by
  have hS := zTv_S hv.1
  have hC := zTv_C hv.1
  obtain ⟨d1, d2, d3, t1, t2, t3, t4, t5, t6, t7, t8⟩ := hd
  have L : ∀ k, k ≤ 88 → ∀ z M', z = nI k → (∀ j, (j < 47 ∨ 56 < j) → M' j = M j) → (∀ t, 4 < t → M' 47 t = M 47 t) → zTm D.1 M' → (∀ i, i < tC D.1 → M' 52 i = nI (D.2 i)) → (∀ j, j < k → M' 56 j = 0) → zEv fX11_takeRead Q 146 [(0, .ref 47), (1, .int z)] [] M' := by
    refine zloop 88 ?_ ?_
    · intro z M' hz hf hf2 hT hs h0
      refine zev_go zkX11_takeRead [] 60 (iGe hz n_88 (by omega) (by decide) (fun _ => k_copyRow_52 hT.2.2.1 hC ?_) (fun q => absurd q (by omega)))
      have z : ∀ j, tC D.1 ≤ j → j < 88 → pt88 (M' 56) (M' 52) 0 (tC D.1) j = nI 0 := fun j h1 h2 => by
        unfold pt88
        rw [if_neg (by omega)]
        exact h0 j h2
      refine h _ (fun j hj => by rw [zset_n _ _ (by omega)]; exact hf j hj) (fun t ht => by rw [zset_n _ _ (by decide)]; exact hf2 t ht) (zTm_fr (M := M') ⟨rfl, rfl, rfl⟩ (fun k h1 h2 => zset_n _ _ (by omega)) hT) ?_
      rw [zset_s]
      refine ⟨z 25 (by omega) (by omega), z 26 (by omega) (by omega), z 10 (by omega) (by omega), z 27 (by omega) (by omega), fun x hx => z _ (by omega) (by omega), fun x hx => z _ (by omega) (by omega), fun i hi => ?_, fun e he => absurd he (Nat.not_lt_zero _)⟩
      exact (pt0 hi).trans (hs i hi)
    · intro k hk ih z M' hz hf hf2 hT hs h0
      refine zev_go zkX11_takeRead [146] 60 (iGe hz n_88 (by omega) (by decide) (fun q => absurd q (by omega)) (fun _ => zix k hz hk ?_))
      refine ih _ _ (by rw [hz, nI_1]) (fun j hj => by rw [zu_n _ _ _ (by omega)]; exact hf j hj) (fun t ht => by rw [zu_n _ _ _ (by decide)]; exact hf2 t ht) (zTm_fr (M := M') ⟨rfl, rfl, rfl⟩ (fun k h1 h2 => zu_n _ _ _ (by omega)) hT) (fun i hi => by rw [zu_n _ _ _ (by decide)]; exact hs i hi) (fun j hj => ?_)
      rw [zu_s, upd_if]
      by_cases c : j = k
      · rw [if_pos c]
      · rw [if_neg c]; exact h0 j (by omega)
  refine zc_of zkX11_takeRead [146] 120 (Nat.le_of_ble_eq_true rfl) ?_
  refine k_copyRow_58 d2 hS (k_copyRow_59 d2 hS (k_copyRow_60 d3 hC (k_copyRow_61 d3 hC (k_copyRow_62 d3 hC (k_copyRow_63 d3 hC (k_copyRow_64 d3 hC (k_copyRow_65 d3 hC ?_)))))))
  refine L 0 (Nat.zero_le _) 0 _ n_0 (fun j hj => ?_) (fun t ht => ?_) ⟨d1, d2, d3, fun a ha => ?_, fun a ha => ?_, fun a ha => ?_, fun a ha => ?_, fun a ha => ?_, fun a ha => ?_, fun a ha => ?_⟩ (fun a ha => ?_) (fun j hj => absurd hj (by omega))
  · rw [zset_n _ _ (by omega), zset_n _ _ (by omega), zset_n _ _ (by omega), zset_n _ _ (by omega), zset_n _ _ (by omega), zset_n _ _ (by omega), zset_n _ _ (by omega), zset_n _ _ (by omega), zu_n _ _ _ (by omega), zu_n _ _ _ (by omega), zu_n _ _ _ (by omega)]
  · rw [zset_n _ _ (by decide), zset_n _ _ (by decide), zset_n _ _ (by decide), zset_n _ _ (by decide), zset_n _ _ (by decide), zset_n _ _ (by decide), zset_n _ _ (by decide), zset_n _ _ (by decide), zu_ne _ _ (show t ≠ 4 by omega), zu_ne _ _ (show t ≠ 1 by omega), zu_ne _ _ (show t ≠ 0 by omega)]
  · exact (pt0 ha).trans (t1 a ha)
  · exact (pt0 ha).trans (t2 a ha)
  · exact (pt0 ha).trans (t3 a ha)
  · exact (pt0 ha).trans (t4 a ha)
  · exact (pt0 ha).trans (t6 a ha)
  · exact (pt0 ha).trans (t7 a ha)
  · exact (pt0 ha).trans (t8 a ha)
  · exact (pt0 ha).trans (t5 a ha)
