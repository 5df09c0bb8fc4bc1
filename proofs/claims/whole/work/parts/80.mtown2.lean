/-! town of the model, the whole -/
theorem km_town {Q : Option Value → zM → Prop} {G : zG} {M : zM} (hC : zD G M) (hV : zV G) (hq : ∀ M', zD (o_town G).2 M' → frC M M' → Q (some (.int (o_town G).1)) M') : zCon fX11_town [.ref 47] M Q := by
  obtain ⟨c1, c2, c3, c4, c5, c6, c7, c8, c9⟩ := id hC
  have hX : vX (gX G) := hV.2.2.2.2.2.1
  have x1 := hX.1
  -- the ends
  have E1 : ∀ f w, rdA (gX G) 241 r0 0 = .inl (f, w) → 0 < f → f < 5 → ∀ c M', c = nI f → mF 15 23 58 65 M M' → M' 47 15 = nI w → zEv fX11_town Q 46 [(0, .ref 47), (1, .int c)] [] M' := by
    intro f w e b1 b2 c M' hc hf e15
    unfold o_town at hq
    rw [e] at hq
    dsimp only at hq
    refine zev_go zkX11_town [] 60 (nf_ (by rw [hc]; exact nI_lt b1 (by omega)) ?_)
    have o : ∀ k, k ≠ 47 → (k < 58 ∨ 65 < k) → (zu M' 47 14 0) k = M k := fun k h1 h2 => by rw [zu_n _ _ _ h1]; exact hf.1 k h1 h2
    have p : ∀ t, t ≠ 14 → (t < 15 ∨ 23 < t) → (zu M' 47 14 0) 47 t = M 47 t := fun t h1 h2 => by rw [zu_ne _ _ h1]; exact hf.2 t h2
    have hh := hq (zu M' 47 14 0) ⟨zTm_fr (M := M) ⟨p 0 (by omega) (by omega), p 1 (by omega) (by omega), p 4 (by omega) (by omega)⟩ (fun k h1 h2 => o k (by omega) (by omega)) c1, by rw [o 56 (by omega) (by omega)]; exact c2, mU_fr (p 32 (by omega) (by omega)) (o 68 (by omega) (by omega)) c3, mIm_fr (o 79 (by omega) (by omega)) (o 78 (by omega) (by omega)) c4, (p 12 (by omega) (by omega)).trans c5, by rw [zu_ne _ _ (by decide)]; exact e15, ⟨zu_at _ _ _ _, fun j hj => absurd hj (Nat.not_lt_zero _)⟩, mSn_fr (p 39 (by omega) (by omega)) (o 74 (by omega) (by omega)) (o 75 (by omega) (by omega)) c8, mBk_fr (p 42 (by omega) (by omega)) (o 76 (by omega) (by omega)) (o 77 (by omega) (by omega)) c9⟩ (fun k hk => o k (by omega) (by omega))
    rw [← hc] at hh
    exact hh
  have E2 : ∀ D, rdA (gX G) 241 r0 0 = .inr D → vD D → ∀ M', mF 15 23 58 65 M M' → M' 47 15 = -1 → dM0 D M' → zEv fX11_town Q 46 [(0, .ref 47), (1, .int 0)] [] M' := by
    intro D e hv M' hf e15 hd
    unfold o_town at hq
    rw [e] at hq
    dsimp only at hq
    have hd1 : dM0 D (zu M' 47 14 0) := ⟨by rw [zu_ne _ _ (by decide)]; exact hd.1, by rw [zu_ne _ _ (by decide)]; exact hd.2.1, by rw [zu_ne _ _ (by decide)]; exact hd.2.2.1, dMa_fr (fun k h1 h2 => zu_n _ _ _ (by omega)) hd.2.2.2⟩
    refine zev_go zkX11_town [] 60 (nt_ (by decide) (k_X11_takeRead hd1 hv (fun M2 f2 g2 hT2 hA2 => ?_)))
    refine ⟨Or.inl rfl, zix 0 rfl (by decide) ⟨Or.inl rfl, zix 1 rfl (by decide) ?_⟩⟩
    have key : ∀ v, v = nI (tS D.1) → Q (some (.int v)) (zu (zu (zu (zu (zu M2 47 39 0) 47 42 0) 47 32 0) 79 0 0) 79 1 0) := by
      intro v hv'
      subst hv'
      have p : ∀ t, 4 < t → t ≠ 14 → (t < 15 ∨ 23 < t) → M2 47 t = M 47 t := fun t h1 h2 h3 => by rw [g2 t h1, zu_ne _ _ h2]; exact hf.2 t h3
      refine hq _ ⟨zTm_fr (M := M2) ⟨rfl, rfl, rfl⟩ (fun k h1 h2 => by rw [zu_n _ _ _ (by omega), zu_n _ _ _ (by omega), zu_n _ _ _ (by omega), zu_n _ _ _ (by omega), zu_n _ _ _ (by omega)]) hT2, hA2, ⟨rfl, fun e he => absurd he (Nat.not_lt_zero _)⟩, fun i hi => ⟨?_, fun q => absurd (show (false : Bool) = true from q) Bool.false_ne_true⟩, ?_, ?_, ⟨?_, fun j hj => absurd hj (Nat.not_lt_zero _)⟩, ⟨rfl, fun j hj => absurd hj (Nat.not_lt_zero _)⟩, ⟨rfl, fun j hj => absurd hj (Nat.not_lt_zero _)⟩⟩ (fun k hk => ?_)
      · rw [zu_s, upd_if, zu_s, upd_if]
        by_cases d : i = 1
        · rw [if_pos d]; rfl
        · rw [if_neg d, if_pos (by omega)]; rfl
      · show M2 47 12 = nI (gSd G)
        rw [p 12 (by omega) (by omega) (by omega)]; exact c5
      · show M2 47 15 = -1
        rw [g2 15 (by omega), zu_ne _ _ (by decide)]; exact e15
      · show M2 47 14 = nI 0
        rw [g2 14 (by omega), zu_at]; rfl
      · rw [zu_n _ _ _ (by omega), zu_n _ _ _ (by omega), zu_n _ _ _ (by omega), zu_n _ _ _ (by omega), zu_n _ _ _ (by omega), f2 k (by omega), zu_n _ _ _ (by omega), hf.1 k (by omega) (by omega)]
    exact key _ hT2.2.1
  have fb : ∀ {M1 M2 : zM}, mF 16 16 58 57 M1 M2 → mF 15 23 58 65 M1 M2 := fun g => mF_w (by omega) (by omega) (fun j hj => by omega) g
  have L : ∀ k D p M', 241 ≤ p + k → p ≤ (gX G).1 → vD D → rdA (gX G) k D p = rdA (gX G) 241 r0 0 → mF 15 23 58 65 M M' → rM (gX G) p M' → M' 47 15 = -1 → dM0 D M' → zEv fX11_town Q 27 [(0, .ref 47), (1, .int 0)] [] M' := by
    intro k
    induction k with
    | zero => intro D p M' hk hp; omega
    | succ k ih =>
      intro D p M' hk hp hv hA hf hr e15 hd
      obtain ⟨s1, s2⟩ := sB_le hp
      rw [rdA_s] at hA
      refine zev_go zkX11_town [27, 46] 60 (nf_ rfl (k_X11_here hX hr hp (fun hs c M1 ec f1 e16 => ?_) (fun hs M1 f1 e16 => ?_)))
      · rw [if_pos hs] at hA
        have lb := hX.2 _ hs
        have hd1 : dM0 D M1 := ⟨by rw [f1.2 19 (by omega)]; exact hd.1, by rw [f1.2 20 (by omega)]; exact hd.2.1, by rw [f1.2 23 (by omega)]; exact hd.2.2.1, dMa_fr (fun k h1 h2 => f1.1 k (by omega) (by omega)) hd.2.2.2⟩
        refine bf_ (by rw [ec]; exact nI_pos (by omega)) (k_X11_takeClause hX (rM_f (by omega) (by omega) e16 f1 hr) s2 (by rw [sB_sB hp]; exact hs) hd1 hv (fun f w e M2 c2 f2 ec2 e15' => ?_) (fun D' e' e M2 f2 hr2 e15' hd2 => ?_))
        · rw [sB_sB hp] at e
          obtain ⟨b1, b2⟩ := fOK_C f w e
          rw [e] at hA
          dsimp only at hA
          refine zev_go zkX11_town [46] 60 (nt_ (by rw [ec2]; exact nI_ne0 b1 (by omega)) ?_)
          exact E1 f w hA.symm b1 b2 c2 M2 ec2 (mF_t hf (mF_t (fb f1) f2)) e15'
        · rw [sB_sB hp] at e
          rw [e] at hA
          obtain ⟨b1, b2, b3⟩ := rdC_ok hv hs e
          exact ih D' e' M2 (by omega) b3 b1 hA (mF_t hf (mF_t (fb f1) f2)) hr2 (by rw [e15', f1.2 15 (by omega)]; exact e15) hd2
      · rw [if_neg (by omega)] at hA
        have hd1 : dM0 D M1 := ⟨by rw [f1.2 19 (by omega)]; exact hd.1, by rw [f1.2 20 (by omega)]; exact hd.2.1, by rw [f1.2 23 (by omega)]; exact hd.2.2.1, dMa_fr (fun k h1 h2 => f1.1 k (by omega) (by omega)) hd.2.2.2⟩
        exact bt_ (by decide) (E2 D hA.symm hv M1 (mF_t hf (fb f1)) (by rw [f1.2 15 (by omega)]; exact e15) hd1)
  refine zc_of zkX11_town [27] 60 (Nat.le_of_ble_eq_true rfl) ?_
  have W : mF 15 23 58 65 M (zu (zu (zu (zu (zu M 47 15 (-1)) 47 16 0) 47 19 0) 47 20 0) 47 23 0) := mF_u (by omega) (by omega) (mF_u (by omega) (by omega) (mF_u (by omega) (by omega) (mF_u (by omega) (by omega) (mF_u (by omega) (by omega) (mF_r _ _ _ _ _)))))
  refine L 241 r0 0 (zu (zu (zu (zu (zu M 47 15 (-1)) 47 16 0) 47 19 0) 47 20 0) 47 23 0) (by omega) (Nat.zero_le _) vD_0 rfl W ⟨?_, ?_, rfl⟩ rfl ⟨rfl, rfl, rfl, ?_⟩
  · rw [W.2 14 (by omega)]; exact c7.1
  · rw [W.1 57 (by omega) (by omega)]; exact c7.2
  · exact ⟨fun i hi => absurd hi (Nat.not_lt_zero _), fun i hi => absurd hi (Nat.not_lt_zero _), fun i hi => absurd hi (Nat.not_lt_zero _), fun i hi => absurd hi (Nat.not_lt_zero _), fun i hi => absurd hi (Nat.not_lt_zero _), fun i hi => absurd hi (Nat.not_lt_zero _), fun i hi => absurd hi (Nat.not_lt_zero _), fun i hi => absurd hi (Nat.not_lt_zero _)⟩
