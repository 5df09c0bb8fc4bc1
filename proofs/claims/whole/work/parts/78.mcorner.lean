/-! the model's corner clause, and a whole clause -/
theorem k_X11_takeCorner {Q : Option Value → zM → Prop} {M : zM} {X : rX} {D : rD} {p : Nat} (hX : vX X) (hr : rM X p M) (hp : p ≤ X.1) (hd : dM0 D M) (hv : vD D) (hC : tC D.1 < 10) (h : mQ Q X M (rdK X D p)) : zCon fX11_takeCorner [.ref 47] M Q := by
  have hN := zTv_N hv.1
  have hS := zTv_S hv.1
  obtain ⟨d1, d2, d3, d4⟩ := hd
  refine zc_of zkX11_takeCorner [47, 129, 154] 60 (Nat.le_of_ble_eq_true rfl) ?_
  have F174 : ∀ f w, rdK X D p = .inl (f, w) → ∀ c M', c = nI f → mF 15 23 58 65 M M' → M' 47 15 = nI w → Q (some (.int c)) M' := fun f w e c M' hc hf e15 => h.1 f w e M' c hf hc e15
  have F154 : ∀ f w, rdK X D p = .inl (f, w) → 0 < f → f < 5 → ∀ c M', c = nI f → mF 15 23 58 65 M M' → M' 47 15 = nI w → zEv fX11_takeCorner Q 154 [(0, .ref 47), (1, .int (M 47 23)), (2, .int c)] [] M' := fun f w e b1 b2 c M' hc hf e15 =>
    zev_go zkX11_takeCorner [] 60 (nf_ (by rw [hc]; exact nI_lt b1 (by omega)) (F174 f w e c M' hc hf e15))
  have F129 : ∀ f w, rdK X D p = .inl (f, w) → 0 < f → f < 5 → ∀ c M', c = nI f → mF 15 23 58 65 M M' → M' 47 15 = nI w → zEv fX11_takeCorner Q 129 [(0, .ref 47), (1, .int (M 47 23)), (2, .int c)] [] M' := fun f w e b1 b2 c M' hc hf e15 =>
    zev_go zkX11_takeCorner [154] 60 (nf_ (by rw [hc]; exact nI_lt b1 (by omega)) (F154 f w e b1 b2 c M' hc hf e15))
  have F47 : ∀ f w, rdK X D p = .inl (f, w) → 0 < f → f < 5 → ∀ c M', c = nI f → mF 15 23 58 65 M M' → M' 47 15 = nI w → zEv fX11_takeCorner Q 47 [(0, .ref 47), (1, .int (M 47 23)), (2, .int c)] [] M' := fun f w e b1 b2 c M' hc hf e15 =>
    zev_go zkX11_takeCorner [] 60 (nf_ (by rw [hc]; exact nI_lt b1 (by omega)) (F174 f w e c M' hc hf e15))
  have W : ∀ {k : Nat} {M1 M2 : zM}, 58 ≤ k → k ≤ 65 → mF 15 23 58 65 M M1 → mF 15 18 k k M1 M2 → mF 15 23 58 65 M M2 := fun h1 h2 g1 g2 => mF_t g1 (mF_w (by omega) (by omega) (fun j hj => by omega) g2)
  have U : ∀ {k : Nat} {M1 M2 : zM} {v : Int32}, 60 ≤ k → k ≤ 65 → mF 15 18 k k M1 M2 → M2 k = upd (M1 k) (tC D.1) v → dMa D M1 → dMa D M2 := fun h1 h2 g2 e g => dMa_u (fun h => absurd h (by omega)) (fun _ => Nat.le_refl _) (fun j h1 h2 h3 => g2.1 j (by omega) (by omega)) e g
  have K : ∀ {k j : Nat} {M1 M2 : zM} {v : Int32}, mF 15 18 k k M1 M2 → j ≠ 47 → j ≠ k → M1 j (tC D.1) = v → M2 j (tC D.1) = v := fun g2 h1 h2 e => by rw [g2.1 _ h1 (by omega)]; exact e
  refine k_into_60 (lo := 0) (hi := tS D.1) hX hr hp d3 hC n_0 (congrArg (· - 1) d2) (by omega) (by omega) (fun f w e M1 c f1 ec e15 => ?_) (fun a q1 e1 e M1 f1 hr1 e18 e15 e60 => ?_)
  · obtain ⟨b1, b2, b3⟩ := rdN_f hp e
    exact nf_ (by rw [ec]; exact nI_lt b1 (by omega)) (F47 f w (by unfold rdK; rw [e]) b1 b2 c M1 ec (mF_w (by omega) (by omega) (fun j hj => by omega) f1) e15)
  obtain ⟨a1, a2, a3, a4, a5⟩ := rdN_ok hp e
  have g1 : mF 15 23 58 65 M M1 := mF_w (by omega) (by omega) (fun j hj => by omega) f1
  have hd1 := U (by omega) (by omega) f1 e60 d4
  have g60 : M1 60 (tC D.1) = nI a := by rw [e60, pk_us]
  refine nt_ (by decide) (k_into_61 (lo := 0) (hi := tS D.1) hX hr1 a5 d3 hC n_0 (congrArg (· - 1) (show M1 47 20 = nI (tS D.1) by rw [f1.2 20 (by omega)]; exact d2)) (by omega) (by omega) (fun f w e3 M2 c f2 ec e15' => ?_) (fun b q2 e4 e3 M2 f2 hr2 e18' e15' e61 => ?_))
  · obtain ⟨b1, b2, b3⟩ := rdN_f a5 e3
    exact F47 f w (by unfold rdK; rw [e]; dsimp only; rw [e3]) b1 b2 c M2 ec (W (by omega) (by omega) g1 f2) e15'
  obtain ⟨b1, b2, b3, b4, b5⟩ := rdN_ok a5 e3
  have g2 := W (by omega) (by omega) g1 f2
  have hd2 := U (by omega) (by omega) f2 e61 hd1
  have h60 := K f2 (by omega) (by omega) g60
  have h61 : M2 61 (tC D.1) = nI b := by rw [e61, pk_us]
  have k23 : M2 47 23 = nI (tC D.1) := by rw [f2.2 23 (by omega), f1.2 23 (by omega)]; exact d3
  refine zev_go zkX11_takeCorner [129] 60 (nt_ (by decide) (zix (tC D.1) d3 hC (zix (tC D.1) d3 hC ?_)))
  refine k_X11_isJoined hv k23 hd2 h60 h61 (by omega) (by omega) (fun w => bT (k_X11_fails ?_)) (fun w => bF ?_)
  · exact h.1 4 q2 (by unfold rdK; rw [e]; dsimp only; rw [e3]; dsimp only; rw [if_pos w]) _ _ (mF_u (by omega) (by omega) g2) n_4 (by rw [zu_at]; exact e18')
  have eK : rdK X D p = rdK2 X D a b e4 := by unfold rdK; rw [e]; dsimp only; rw [e3]; dsimp only; rw [if_neg w]
  have f0 : mF 15 23 58 65 M (zu M2 47 23 (M2 47 23 + 1)) := mF_u (by omega) (by omega) g2
  have hr0 : rM X e4 (zu M2 47 23 (M2 47 23 + 1)) := rM_f (lo := 23) (hi := 23) (a := 58) (b := 57) (by omega) (by omega) (by rw [zu_ne _ _ (by decide)]; exact hr2.2.2) (mF_u (by omega) (by omega) (mF_r _ _ _ _ _)) hr2
  have c19 : (zu M2 47 23 (M2 47 23 + 1)) 47 19 = nI (tN D.1) := by rw [zu_ne _ _ (by decide), f2.2 19 (by omega), f1.2 19 (by omega)]; exact d1
  have c20 : (zu M2 47 23 (M2 47 23 + 1)) 47 20 = nI (tS D.1) := by rw [zu_ne _ _ (by decide), f2.2 20 (by omega), f1.2 20 (by omega)]; exact d2
  have c23 : (zu M2 47 23 (M2 47 23 + 1)) 47 23 = nI (tC D.1 + 1) := by rw [zu_at]; exact (congrArg (· + 1) k23).trans (nI_1 _)
  have c15 : (zu M2 47 23 (M2 47 23 + 1)) 47 15 = M 47 15 := by rw [zu_ne _ _ (by decide), e15', e15]
  have hd0 : dMa D (zu M2 47 23 (M2 47 23 + 1)) := dMa_fr (fun k h1 h2 => zu_n _ _ _ (by omega)) hd2
  have i60 : (zu M2 47 23 (M2 47 23 + 1)) 60 (tC D.1) = nI a := by rw [zu_n _ _ _ (by decide)]; exact h60
  have i61 : (zu M2 47 23 (M2 47 23 + 1)) 61 (tC D.1) = nI b := by rw [zu_n _ _ _ (by decide)]; exact h61
  refine k_into_62 (lo := 0) (hi := 4) hX hr0 b5 d3 hC n_0 (by decide) (by omega) (by omega) (fun f w e5 M3 c f3 ec e15'' => ?_) (fun s q3 e6 e5 M3 f3 hr3 e18'' e15'' e62 => ?_)
  · obtain ⟨b1, b2, b3⟩ := rdN_f b5 e5
    exact nf_ (by rw [ec]; exact nI_lt b1 (by omega)) (F129 f w (by rw [eK]; unfold rdK2; rw [e5]) b1 b2 c M3 ec (W (by omega) (by omega) f0 f3) e15'')
  obtain ⟨l1, l2, l3, l4, l5⟩ := rdN_ok b5 e5
  have g3 := W (by omega) (by omega) f0 f3
  have hd3 := U (by omega) (by omega) f3 e62 hd0
  have j60 := K f3 (by omega) (by omega) i60
  have j61 := K f3 (by omega) (by omega) i61
  have j62 : M3 62 (tC D.1) = nI s := by rw [e62, pk_us]
  refine nt_ (by decide) (k_into_63 (lo := 0) (hi := tN D.1) hX hr3 l5 d3 hC n_0 (congrArg (· - 1) (show M3 47 19 = nI (tN D.1) by rw [f3.2 19 (by omega)]; exact c19)) (by omega) (by omega) (fun f w e7 M4 c f4 ec e15 => ?_) (fun k q4 e8 e7 M4 f4 hr4 e18 e15c e63 => ?_))
  · obtain ⟨b1, b2, b3⟩ := rdN_f l5 e7
    exact F129 f w (by rw [eK]; unfold rdK2; rw [e5]; dsimp only; rw [e7]) b1 b2 c M4 ec (W (by omega) (by omega) g3 f4) e15
  obtain ⟨m1, m2, m3, m4, m5⟩ := rdN_ok l5 e7
  have g4 := W (by omega) (by omega) g3 f4
  have hd4 := U (by omega) (by omega) f4 e63 hd3
  have k60 := K f4 (by omega) (by omega) j60
  have k61 := K f4 (by omega) (by omega) j61
  have k62 := K f4 (by omega) (by omega) j62
  have k63 : M4 63 (tC D.1) = nI k := by rw [e63, pk_us]
  refine zev_go zkX11_takeCorner [154] 60 (nt_ (by decide) (k_into_64 (lo := 0) (hi := tN D.1) hX hr4 m5 d3 hC n_0 (congrArg (· - 1) (show M4 47 19 = nI (tN D.1) by rw [f4.2 19 (by omega), f3.2 19 (by omega)]; exact c19)) (by omega) (by omega) (fun f w e9 M5 c f5 ec e15 => ?_) (fun l q5 ea e9 M5 f5 hr5 e18d e15d e64 => ?_)))
  · obtain ⟨b1, b2, b3⟩ := rdN_f m5 e9
    exact F154 f w (by rw [eK]; unfold rdK2; rw [e5]; dsimp only; rw [e7]; dsimp only; rw [e9]) b1 b2 c M5 ec (W (by omega) (by omega) g4 f5) e15
  obtain ⟨o1, o2, o3, o4, o5⟩ := rdN_ok m5 e9
  have g5 := W (by omega) (by omega) g4 f5
  have hd5 := U (by omega) (by omega) f5 e64 hd4
  have l60 := K f5 (by omega) (by omega) k60
  have l61 := K f5 (by omega) (by omega) k61
  have l62 := K f5 (by omega) (by omega) k62
  have l63 := K f5 (by omega) (by omega) k63
  have l64 : M5 64 (tC D.1) = nI l := by rw [e64, pk_us]
  refine zev_go zkX11_takeCorner [] 60 (nt_ (by decide) (k_into_65 (lo := 0) (hi := 100) hX hr5 o5 d3 hC n_0 (by decide) (by omega) (by omega) (fun f w eb M6 c f6 ec e15 => ?_) (fun g q6 ed eb M6 f6 hr6 e18e e15e e65 => ?_)))
  · obtain ⟨b1, b2, b3⟩ := rdN_f o5 eb
    exact F174 f w (by rw [eK]; unfold rdK2; rw [e5]; dsimp only; rw [e7]; dsimp only; rw [e9]; dsimp only; rw [eb]) c M6 ec (W (by omega) (by omega) g5 f6) e15
  obtain ⟨r1, r2, r3, r4, r5⟩ := rdN_ok o5 eb
  have g6 := W (by omega) (by omega) g5 f6
  have hd6 := U (by omega) (by omega) f6 e65 hd5
  have n60 := K f6 (by omega) (by omega) l60
  have n61 := K f6 (by omega) (by omega) l61
  have n62 := K f6 (by omega) (by omega) l62
  have n63 := K f6 (by omega) (by omega) l63
  have n64 := K f6 (by omega) (by omega) l64
  have n65 : M6 65 (tC D.1) = nI g := by rw [e65, pk_us]
  refine h.2 (rK D a b s k l g) ed (by rw [eK]; unfold rdK2; rw [e5]; dsimp only; rw [e7]; dsimp only; rw [e9]; dsimp only; rw [eb]; rfl) r5 M6 g6 hr6 (by rw [e15e, e15d, e15c, e15'']; exact c15) ⟨?_, ?_, ?_, ?_⟩
  · rw [f6.2 19 (by omega), f5.2 19 (by omega), f4.2 19 (by omega), f3.2 19 (by omega)]; exact c19
  · rw [f6.2 20 (by omega), f5.2 20 (by omega), f4.2 20 (by omega), f3.2 20 (by omega)]; exact c20
  · rw [f6.2 23 (by omega), f5.2 23 (by omega), f4.2 23 (by omega), f3.2 23 (by omega)]; exact c23
  · obtain ⟨t1, t2, t3, t4, t5, t6, t7, t8⟩ := hd6
    have E : ∀ (c : Nat) (g : Nat → Nat) (v : Nat), M6 c (tC D.1) = nI v → (∀ i, i < tC D.1 → M6 c i = nI (g i)) → ∀ i, i < tC D.1 + 1 → M6 c i = nI (nup g (tC D.1) v i) := by
      intro c g v hv hg i hi
      by_cases e : i = tC D.1
      · rw [e, nup_s]; exact hv
      · rw [nup_n _ _ e]; exact hg i (by omega)
    exact ⟨t1, t2, E 60 (tA D.1) a n60 t3, E 61 (tB D.1) b n61 t4, E 62 D.2 s n62 t5, E 63 (tK D.1) k n63 t6, E 64 (tL D.1) l n64 t7, E 65 (tP D.1) g n65 t8⟩
