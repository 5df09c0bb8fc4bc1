/-! one call of the law, in both -/
def lcaseB (pc : Nat) (as : List (Nat × Bool)) (n1 n2 off : Nat) : Bool := dq pc (.aload_n 1) 1 && (lblk (pc + 1) as && (dq (pc + 1 + llen as) (.invokevirtual n1) 3 && (dq (pc + 1 + llen as + 3) (.aload_n 2) 1 && (lblk (pc + 1 + llen as + 3 + 1) as && (dq (pc + 1 + llen as + 3 + 1 + llen as) (.invokevirtual n2) 3 && (dq (pc + 1 + llen as + 3 + 1 + llen as + 3) (.if_icmp .eq (Int.ofNat off)) 3 && Nat.beq (pc + 1 + llen as + 3 + 1 + llen as + 3 + off) 1290))))))
theorem lval_zv (xs : Nat → Int32) (x : Int32) (ad : Nat → Nat) : ∀ as : List (Nat × Bool), (as.map (lval xs x)).map (zv ad) = as.map (lval xs x)
  | [] => rfl
  | (k, false) :: r => by rw [List.map_cons, List.map_cons, lval_zv xs x ad r]; rfl
  | (k, true) :: r => by rw [List.map_cons, List.map_cons, lval_zv xs x ad r]; rfl
abbrev lgood (g : zF) (k n len : Nat) : Prop := zokF g ∧ zflv g false ∧ (∃ fl, zget zlay k = some (.inl (g.1.1, fl))) ∧ .methodLink R_law n g.1.2.1 ∈ zt ∧ (parseMethodDescriptor g.1.2.1.desc).map (fun d => d.parameters.length) = some len ∧ ((zrm g).frames + 1 ≤ 9 ∧ 8 + (g.2.1.1 + 11) + (zrm g).locals ≤ 342)
section LC
variable {p : Program} {l : Launch} {e : Env} {s : State} {m : MethodId} {below : List Frame} {meth : Method} {c : Code} {b L : Nat} {xs : Nat → Int32} {D : va_G} {cI cZ : ClassId} {ad : Nat → Nat} {x : Int32} {M : zM}
theorem l_case (X : lX p s m meth c b L xs D cI cZ ad) {j : Nat} (hx : x = nI j) (hj : j + 6 ≤ L) {G : zG} (o : Int32 × zG) {g1 g2 : zF} {pc n1 n2 off : Nat} (as : List (Nat × Bool)) (hB : lcaseB pc as n1 n2 off = true) (hg1 : lgood g1 0 n1 as.length) (hg2 : lgood g2 47 n2 as.length)
    (hkc : ∀ Q : Option Value → zM → Prop, (∀ M', zC o.2 M' → frM M M' → Q (some (.int o.1)) M') → zCon g1 (.ref 0 :: as.map (lval xs x)) M Q)
    (hkm : ∀ (M : zM) (Q : Option Value → zM → Prop), zD G M → (∀ M', zD o.2 M' → frC M M' → Q (some (.int o.1)) M') → zCon g2 (.ref 47 :: as.map (lval xs x)) M Q)
    (hD : zD G M) (K : ∀ M', zC o.2 M' → zD o.2 M' → lEv p l e s m below meth c b D cI cZ ad x 1290 [] M') : lEv p l e s m below meth c b D cI cZ ad x pc [] M := by
  have hB' := hB
  unfold lcaseB at hB'
  simp only [Bool.and_eq_true] at hB'
  obtain ⟨h1, h2, h3, h4, h5, h6, h7, h8⟩ := hB'
  have h8' := Nat.eq_of_beq_eq_true h8
  obtain ⟨a1, a2, ⟨fl1, a3⟩, a4, a5, a6⟩ := hg1
  obtain ⟨b1, b2, ⟨fl2, b3⟩, b4, b5, b6⟩ := hg2
  have X' := X
  obtain ⟨hx', hb, hr, hml, hown, hts, hX, hbl, hlocks, hK, hin, hAd, hN, hL⟩ := X'
  have K1 : lEv p l e s m below meth c b D cI cZ ad x (pc + 1) [.ref (ad 0)] M := by
    refine l_args X hx hj as h2 (l_call X a1 a2 a3 a4 (lval_zv xs x ad as) (by rw [List.length_map]; exact a5) a6 (by decide) h3 (hkc _ (fun M1 hC1 hf1 => ?_)))
    have hD1 : zD G M1 := zD_frM hf1 hD
    have K2 : lEv p l e s m below meth c b D cI cZ ad x (pc + 1 + llen as + 3 + 1) [.ref (ad 47), .int o.1] M1 := by
      refine l_args X hx hj as h5 (l_call X b1 b2 b3 b4 (lval_zv xs x ad as) (by rw [List.length_map]; exact b5) b6 (Nat.le_of_ble_eq_true rfl) h6 (hkm M1 _ hD1 (fun M2 hD2 hf2 => ?_)))
      intro H locs ls hP hS hl
      refine lv_icmp_eq (x := o.1) (y := o.1) (tgt := 1290) hx' hb (dq_of h7) (by show (((pc + 1 + llen as + 3 + 1 + llen as + 3 : Nat) : Int) + (off : Int)) = _; omega) (fun _ => ?_) (fun q => absurd rfl q)
      exact K M2 (zC_frC hf2 hC1) hD2 H locs ls hP hS hl
    intro H locs ls hP hS hl
    exact lv_aload_n hx' hb (dq_of h4) rfl (lv_at hl 2 rfl) (K2 H locs ls hP hS hl)
  intro H locs ls hP hS hl
  exact lv_aload_n hx' hb (dq_of h1) rfl (lv_at hl 1 rfl) (K1 H locs ls hP hS hl)

theorem lb_feed : lcaseB 184 [(1, false)] 13 17 1088 = true := by decide +kernel
theorem lg1_feed : lgood fX10_feed 0 13 1 := ⟨zkX10_feed.1, (zmb_of zpX10_feed).1, ⟨_, rfl⟩, (zin_of (p := (2, 122)) (by decide +kernel)), by decide +kernel, by decide +kernel⟩
theorem lg2_feed : lgood fX11_feed 47 17 1 := ⟨zkX11_feed.1, (zmb_of zpX11_feed).1, ⟨_, rfl⟩, (zin_of (p := (5, 120)) (by decide +kernel)), by decide +kernel, by decide +kernel⟩
theorem lc_feed (X : lX p s m meth c b L xs D cI cZ ad) {j : Nat} (hx : x = nI j) (hj : j + 6 ≤ L) {G : zG} (hC : zC G M) (hD : zD G M) (hV : zV G) (K : ∀ G M', zC G M' → zD G M' → zV G → lEv p l e s m below meth c b D cI cZ ad x 1290 [] M') : lEv p l e s m below meth c b D cI cZ ad x 184 [] M :=
  l_case X hx hj (G := G) (o_feed G (lv1 xs x 1)) [(1, false)] lb_feed lg1_feed lg2_feed (fun Q hq => kc_feed hC hV hq) (fun M Q hC hq => km_feed hC hV hq) hD (fun M' h1 h2 => K _ M' h1 h2 (v_feed hV))
theorem lb_town : lcaseB 207 [] 18 22 1075 = true := by decide +kernel
theorem lg1_town : lgood fX10_town 0 18 0 := ⟨zkX10_town.1, (zmb_of zpX10_town).1, ⟨_, rfl⟩, (zin_of (p := (2, 136)) (by decide +kernel)), by decide +kernel, by decide +kernel⟩
theorem lg2_town : lgood fX11_town 47 22 0 := ⟨zkX11_town.1, (zmb_of zpX11_town).1, ⟨_, rfl⟩, (zin_of (p := (5, 130)) (by decide +kernel)), by decide +kernel, by decide +kernel⟩
theorem lc_town (X : lX p s m meth c b L xs D cI cZ ad) {j : Nat} (hx : x = nI j) (hj : j + 6 ≤ L) {G : zG} (hC : zC G M) (hD : zD G M) (hV : zV G) (K : ∀ G M', zC G M' → zD G M' → zV G → lEv p l e s m below meth c b D cI cZ ad x 1290 [] M') : lEv p l e s m below meth c b D cI cZ ad x 207 [] M :=
  l_case X hx hj (G := G) (o_town G) [] lb_town lg1_town lg2_town (fun Q hq => kc_town hC hV hq) (fun M Q hC hq => km_town hC hV hq) hD (fun M' h1 h2 => K _ M' h1 h2 (v_town hV))
theorem lb_fault : lcaseB 220 [] 23 26 1062 = true := by decide +kernel
theorem lg1_fault : lgood fX10_fault 0 23 0 := ⟨zkX10_fault.1, (zmb_of zpX10_fault).1, ⟨_, rfl⟩, (zin_of (p := (2, 222)) (by decide +kernel)), by decide +kernel, by decide +kernel⟩
theorem lg2_fault : lgood fX11_fault 47 26 0 := ⟨zkX11_fault.1, (zmb_of zpX11_fault).1, ⟨_, rfl⟩, (zin_of (p := (5, 179)) (by decide +kernel)), by decide +kernel, by decide +kernel⟩
theorem lc_fault (X : lX p s m meth c b L xs D cI cZ ad) {j : Nat} (hx : x = nI j) (hj : j + 6 ≤ L) {G : zG} (hC : zC G M) (hD : zD G M) (hV : zV G) (K : ∀ G M', zC G M' → zD G M' → zV G → lEv p l e s m below meth c b D cI cZ ad x 1290 [] M') : lEv p l e s m below meth c b D cI cZ ad x 220 [] M :=
  l_case X hx hj (G := G) (gFp G, G) [] lb_fault lg1_fault lg2_fault (fun Q hq => kc_fault hC (hq M hC (fun _ _ => rfl))) (fun M Q hC hq => km_fault hC (hq M hC (fun _ _ => rfl))) hD (fun M' h1 h2 => K _ M' h1 h2 (hV))
theorem lb_told : lcaseB 233 [(1, false)] 27 30 1039 = true := by decide +kernel
theorem lg1_told : lgood fX10_told 0 27 1 := ⟨zkX10_told.1, (zmb_of zpX10_told).1, ⟨_, rfl⟩, (zin_of (p := (2, 226)) (by decide +kernel)), by decide +kernel, by decide +kernel⟩
theorem lg2_told : lgood fX11_told 47 30 1 := ⟨zkX11_told.1, (zmb_of zpX11_told).1, ⟨_, rfl⟩, (zin_of (p := (5, 183)) (by decide +kernel)), by decide +kernel, by decide +kernel⟩
theorem lc_told (X : lX p s m meth c b L xs D cI cZ ad) {j : Nat} (hx : x = nI j) (hj : j + 6 ≤ L) {G : zG} (hC : zC G M) (hD : zD G M) (hV : zV G) (K : ∀ G M', zC G M' → zD G M' → zV G → lEv p l e s m below meth c b D cI cZ ad x 1290 [] M') : lEv p l e s m below meth c b D cI cZ ad x 233 [] M :=
  l_case X hx hj (G := G) (o_told G (lv1 xs x 1), G) [(1, false)] lb_told lg1_told lg2_told (fun Q hq => kc_told hC hV hq) (fun M Q hC hq => km_told hC hV hq) hD (fun M' h1 h2 => K _ M' h1 h2 (hV))
theorem lb_street : lcaseB 256 [(1, false), (2, false)] 31 35 1006 = true := by decide +kernel
theorem lg1_street : lgood fX10_street 0 31 2 := ⟨zkX10_street.1, (zmb_of zpX10_street).1, ⟨_, rfl⟩, (zin_of (p := (3, 55)) (by decide +kernel)), by decide +kernel, by decide +kernel⟩
theorem lg2_street : lgood fX11_street 47 35 2 := ⟨zkX11_street.1, (zmb_of zpX11_street).1, ⟨_, rfl⟩, (zin_of (p := (5, 213)) (by decide +kernel)), by decide +kernel, by decide +kernel⟩
theorem lc_street (X : lX p s m meth c b L xs D cI cZ ad) {j : Nat} (hx : x = nI j) (hj : j + 6 ≤ L) {G : zG} (hC : zC G M) (hD : zD G M) (hV : zV G) (K : ∀ G M', zC G M' → zD G M' → zV G → lEv p l e s m below meth c b D cI cZ ad x 1290 [] M') : lEv p l e s m below meth c b D cI cZ ad x 256 [] M :=
  l_case X hx hj (G := G) (o_street G (lv1 xs x 1) (lv1 xs x 2), G) [(1, false), (2, false)] lb_street lg1_street lg2_street (fun Q hq => kc_street hC hV (hq M hC (fun _ _ => rfl))) (fun M Q hC hq => km_street hC hV (hq M hC (fun _ _ => rfl))) hD (fun M' h1 h2 => K _ M' h1 h2 (hV))
theorem lb_corner : lcaseB 289 [(1, false), (2, false)] 36 39 973 = true := by decide +kernel
theorem lg1_corner : lgood fX10_corner 0 36 2 := ⟨zkX10_corner.1, (zmb_of zpX10_corner).1, ⟨_, rfl⟩, (zin_of (p := (3, 69)) (by decide +kernel)), by decide +kernel, by decide +kernel⟩
theorem lg2_corner : lgood fX11_corner 47 39 2 := ⟨zkX11_corner.1, (zmb_of zpX11_corner).1, ⟨_, rfl⟩, (zin_of (p := (5, 222)) (by decide +kernel)), by decide +kernel, by decide +kernel⟩
theorem lc_corner (X : lX p s m meth c b L xs D cI cZ ad) {j : Nat} (hx : x = nI j) (hj : j + 6 ≤ L) {G : zG} (hC : zC G M) (hD : zD G M) (hV : zV G) (K : ∀ G M', zC G M' → zD G M' → zV G → lEv p l e s m below meth c b D cI cZ ad x 1290 [] M') : lEv p l e s m below meth c b D cI cZ ad x 289 [] M :=
  l_case X hx hj (G := G) (o_corner G (lv1 xs x 1) (lv1 xs x 2), G) [(1, false), (2, false)] lb_corner lg1_corner lg2_corner (fun Q hq => kc_corner hC hV (hq M hC (fun _ _ => rfl))) (fun M Q hC hq => km_corner hC hV (hq M hC (fun _ _ => rfl))) hD (fun M' h1 h2 => K _ M' h1 h2 (hV))
theorem lb_logged : lcaseB 322 [(1, false), (2, false)] 40 43 940 = true := by decide +kernel
theorem lg1_logged : lgood fX10_logged 0 40 2 := ⟨zkX10_logged.1, (zmb_of zpX10_logged).1, ⟨_, rfl⟩, (zin_of (p := (3, 82)) (by decide +kernel)), by decide +kernel, by decide +kernel⟩
theorem lg2_logged : lgood fX11_logged 47 43 2 := ⟨zkX11_logged.1, (zmb_of zpX11_logged).1, ⟨_, rfl⟩, (zin_of (p := (5, 237)) (by decide +kernel)), by decide +kernel, by decide +kernel⟩
theorem lc_logged (X : lX p s m meth c b L xs D cI cZ ad) {j : Nat} (hx : x = nI j) (hj : j + 6 ≤ L) {G : zG} (hC : zC G M) (hD : zD G M) (hV : zV G) (K : ∀ G M', zC G M' → zD G M' → zV G → lEv p l e s m below meth c b D cI cZ ad x 1290 [] M') : lEv p l e s m below meth c b D cI cZ ad x 322 [] M :=
  l_case X hx hj (G := G) (o_logged G (lv1 xs x 1) (lv1 xs x 2), G) [(1, false), (2, false)] lb_logged lg1_logged lg2_logged (fun Q hq => kc_logged hC hV (hq M hC (fun _ _ => rfl))) (fun M Q hC hq => km_logged hC hV (hq M hC (fun _ _ => rfl))) hD (fun M' h1 h2 => K _ M' h1 h2 (hV))
theorem lb_say : lcaseB 355 [(1, false), (2, true), (3, false)] 44 48 881 = true := by decide +kernel
theorem lg1_say : lgood fX10_say 0 44 3 := ⟨zkX10_say.1, (zmb_of zpX10_say).1, ⟨_, rfl⟩, (zin_of (p := (3, 87)) (by decide +kernel)), by decide +kernel, by decide +kernel⟩
theorem lg2_say : lgood fX11_say 47 48 3 := ⟨zkX11_say.1, (zmb_of zpX11_say).1, ⟨_, rfl⟩, (zin_of (p := (6, 2)) (by decide +kernel)), by decide +kernel, by decide +kernel⟩
theorem lc_say (X : lX p s m meth c b L xs D cI cZ ad) {j : Nat} (hx : x = nI j) (hj : j + 6 ≤ L) {G : zG} (hC : zC G M) (hD : zD G M) (hV : zV G) (K : ∀ G M', zC G M' → zD G M' → zV G → lEv p l e s m below meth c b D cI cZ ad x 1290 [] M') : lEv p l e s m below meth c b D cI cZ ad x 355 [] M :=
  l_case X hx hj (G := G) (o_say G (lv1 xs x 1) (!decide (lv1 xs x 2 = 0)) (lv1 xs x 3)) [(1, false), (2, true), (3, false)] lb_say lg1_say lg2_say (fun Q hq => kc_say hC hV hq) (fun M Q hC hq => km_say hC hV hq) hD (fun M' h1 h2 => K _ M' h1 h2 (v_say hV))
theorem lb_send : lcaseB 414 [(1, false), (2, false), (3, false)] 49 53 838 = true := by decide +kernel
theorem lg1_send : lgood fX10_send 0 49 3 := ⟨zkX10_send.1, (zmb_of zpX10_send).1, ⟨_, rfl⟩, (zin_of (p := (3, 138)) (by decide +kernel)), by decide +kernel, by decide +kernel⟩
theorem lg2_send : lgood fX11_send 47 53 3 := ⟨zkX11_send.1, (zmb_of zpX11_send).1, ⟨_, rfl⟩, (zin_of (p := (6, 37)) (by decide +kernel)), by decide +kernel, by decide +kernel⟩
theorem lc_send (X : lX p s m meth c b L xs D cI cZ ad) {j : Nat} (hx : x = nI j) (hj : j + 6 ≤ L) {G : zG} (hC : zC G M) (hD : zD G M) (hV : zV G) (K : ∀ G M', zC G M' → zD G M' → zV G → lEv p l e s m below meth c b D cI cZ ad x 1290 [] M') : lEv p l e s m below meth c b D cI cZ ad x 414 [] M :=
  l_case X hx hj (G := G) (o_send G (lv1 xs x 1) (lv1 xs x 2) (lv1 xs x 3)) [(1, false), (2, false), (3, false)] lb_send lg1_send lg2_send (fun Q hq => kc_send hC hV hq) (fun M Q hC hq => km_send hC hV hq) hD (fun M' h1 h2 => K _ M' h1 h2 (v_send hV))
theorem lb_shut : lcaseB 457 [(1, false), (2, true)] 54 58 789 = true := by decide +kernel
theorem lg1_shut : lgood fX10_shut 0 54 2 := ⟨zkX10_shut.1, (zmb_of zpX10_shut).1, ⟨_, rfl⟩, (zin_of (p := (3, 180)) (by decide +kernel)), by decide +kernel, by decide +kernel⟩
theorem lg2_shut : lgood fX11_shut 47 58 2 := ⟨zkX11_shut.1, (zmb_of zpX11_shut).1, ⟨_, rfl⟩, (zin_of (p := (6, 66)) (by decide +kernel)), by decide +kernel, by decide +kernel⟩
theorem lc_shut (X : lX p s m meth c b L xs D cI cZ ad) {j : Nat} (hx : x = nI j) (hj : j + 6 ≤ L) {G : zG} (hC : zC G M) (hD : zD G M) (hV : zV G) (K : ∀ G M', zC G M' → zD G M' → zV G → lEv p l e s m below meth c b D cI cZ ad x 1290 [] M') : lEv p l e s m below meth c b D cI cZ ad x 457 [] M :=
  l_case X hx hj (G := G) (o_shut G (lv1 xs x 1) (!decide (lv1 xs x 2 = 0))) [(1, false), (2, true)] lb_shut lg1_shut lg2_shut (fun Q hq => kc_shut hC hV hq) (fun M Q hC hq => km_shut hC hV hq) hD (fun M' h1 h2 => K _ M' h1 h2 (v_shut hV))
theorem lb_mend : lcaseB 506 [(1, false)] 59 62 766 = true := by decide +kernel
theorem lg1_mend : lgood fX10_mend 0 59 1 := ⟨zkX10_mend.1, (zmb_of zpX10_mend).1, ⟨_, rfl⟩, (zin_of (p := (3, 188)) (by decide +kernel)), by decide +kernel, by decide +kernel⟩
theorem lg2_mend : lgood fX11_mend 47 62 1 := ⟨zkX11_mend.1, (zmb_of zpX11_mend).1, ⟨_, rfl⟩, (zin_of (p := (6, 74)) (by decide +kernel)), by decide +kernel, by decide +kernel⟩
theorem lc_mend (X : lX p s m meth c b L xs D cI cZ ad) {j : Nat} (hx : x = nI j) (hj : j + 6 ≤ L) {G : zG} (hC : zC G M) (hD : zD G M) (hV : zV G) (K : ∀ G M', zC G M' → zD G M' → zV G → lEv p l e s m below meth c b D cI cZ ad x 1290 [] M') : lEv p l e s m below meth c b D cI cZ ad x 506 [] M :=
  l_case X hx hj (G := G) (o_mend G (lv1 xs x 1)) [(1, false)] lb_mend lg1_mend lg2_mend (fun Q hq => kc_mend hC hV hq) (fun M Q hC hq => km_mend hC hV hq) hD (fun M' h1 h2 => K _ M' h1 h2 (v_mend hV))
theorem lb_quarrel : lcaseB 529 [(1, false), (2, false), (3, true)] 63 67 707 = true := by decide +kernel
theorem lg1_quarrel : lgood fX10_quarrel 0 63 3 := ⟨zkX10_quarrel.1, (zmb_of zpX10_quarrel).1, ⟨_, rfl⟩, (zin_of (p := (3, 196)) (by decide +kernel)), by decide +kernel, by decide +kernel⟩
theorem lg2_quarrel : lgood fX11_quarrel 47 67 3 := ⟨zkX11_quarrel.1, (zmb_of zpX11_quarrel).1, ⟨_, rfl⟩, (zin_of (p := (6, 78)) (by decide +kernel)), by decide +kernel, by decide +kernel⟩
theorem lc_quarrel (X : lX p s m meth c b L xs D cI cZ ad) {j : Nat} (hx : x = nI j) (hj : j + 6 ≤ L) {G : zG} (hC : zC G M) (hD : zD G M) (hV : zV G) (K : ∀ G M', zC G M' → zD G M' → zV G → lEv p l e s m below meth c b D cI cZ ad x 1290 [] M') : lEv p l e s m below meth c b D cI cZ ad x 529 [] M :=
  l_case X hx hj (G := G) (o_quarrel G (lv1 xs x 1) (lv1 xs x 2) (!decide (lv1 xs x 3 = 0))) [(1, false), (2, false), (3, true)] lb_quarrel lg1_quarrel lg2_quarrel (fun Q hq => kc_quarrel hC hV hq) (fun M Q hC hq => km_quarrel hC hV hq) hD (fun M' h1 h2 => K _ M' h1 h2 (v_quarrel hV))
theorem lb_drift : lcaseB 588 [(1, false)] 68 71 684 = true := by decide +kernel
theorem lg1_drift : lgood fX10_drift 0 68 1 := ⟨zkX10_drift.1, (zmb_of zpX10_drift).1, ⟨_, rfl⟩, (zin_of (p := (3, 202)) (by decide +kernel)), by decide +kernel, by decide +kernel⟩
theorem lg2_drift : lgood fX11_drift 47 71 1 := ⟨zkX11_drift.1, (zmb_of zpX11_drift).1, ⟨_, rfl⟩, (zin_of (p := (6, 82)) (by decide +kernel)), by decide +kernel, by decide +kernel⟩
theorem lc_drift (X : lX p s m meth c b L xs D cI cZ ad) {j : Nat} (hx : x = nI j) (hj : j + 6 ≤ L) {G : zG} (hC : zC G M) (hD : zD G M) (hV : zV G) (K : ∀ G M', zC G M' → zD G M' → zV G → lEv p l e s m below meth c b D cI cZ ad x 1290 [] M') : lEv p l e s m below meth c b D cI cZ ad x 588 [] M :=
  l_case X hx hj (G := G) (o_drift G (lv1 xs x 1)) [(1, false)] lb_drift lg1_drift lg2_drift (fun Q hq => kc_drift hC hV hq) (fun M Q hC hq => km_drift hC hV hq) hD (fun M' h1 h2 => K _ M' h1 h2 (v_drift hV))
theorem lb_undo : lcaseB 611 [] 72 75 671 = true := by decide +kernel
theorem lg1_undo : lgood fX10_undo 0 72 0 := ⟨zkX10_undo.1, (zmb_of zpX10_undo).1, ⟨_, rfl⟩, (zin_of (p := (3, 218)) (by decide +kernel)), by decide +kernel, by decide +kernel⟩
theorem lg2_undo : lgood fX11_undo 47 75 0 := ⟨zkX11_undo.1, (zmb_of zpX11_undo).1, ⟨_, rfl⟩, (zin_of (p := (6, 99)) (by decide +kernel)), by decide +kernel, by decide +kernel⟩
theorem lc_undo (X : lX p s m meth c b L xs D cI cZ ad) {j : Nat} (hx : x = nI j) (hj : j + 6 ≤ L) {G : zG} (hC : zC G M) (hD : zD G M) (hV : zV G) (K : ∀ G M', zC G M' → zD G M' → zV G → lEv p l e s m below meth c b D cI cZ ad x 1290 [] M') : lEv p l e s m below meth c b D cI cZ ad x 611 [] M :=
  l_case X hx hj (G := G) (o_undo G) [] lb_undo lg1_undo lg2_undo (fun Q hq => kc_undo hC hV hq) (fun M Q hC hq => km_undo hC hV hq) hD (fun M' h1 h2 => K _ M' h1 h2 (v_undo hV))
theorem lb_over : lcaseB 624 [(1, false), (2, true), (3, false)] 76 79 612 = true := by decide +kernel
theorem lg1_over : lgood fX10_over 0 76 3 := ⟨zkX10_over.1, (zmb_of zpX10_over).1, ⟨_, rfl⟩, (zin_of (p := (3, 226)) (by decide +kernel)), by decide +kernel, by decide +kernel⟩
theorem lg2_over : lgood fX11_over 47 79 3 := ⟨zkX11_over.1, (zmb_of zpX11_over).1, ⟨_, rfl⟩, (zin_of (p := (6, 103)) (by decide +kernel)), by decide +kernel, by decide +kernel⟩
theorem lc_over (X : lX p s m meth c b L xs D cI cZ ad) {j : Nat} (hx : x = nI j) (hj : j + 6 ≤ L) {G : zG} (hC : zC G M) (hD : zD G M) (hV : zV G) (K : ∀ G M', zC G M' → zD G M' → zV G → lEv p l e s m below meth c b D cI cZ ad x 1290 [] M') : lEv p l e s m below meth c b D cI cZ ad x 624 [] M :=
  l_case X hx hj (G := G) (o_over G (lv1 xs x 1) (!decide (lv1 xs x 2 = 0)) (lv1 xs x 3), G) [(1, false), (2, true), (3, false)] lb_over lg1_over lg2_over (fun Q hq => kc_over hC hV (hq M hC (fun _ _ => rfl))) (fun M Q hC hq => km_over hC hV (hq M hC (fun _ _ => rfl))) hD (fun M' h1 h2 => K _ M' h1 h2 (hV))
theorem lb_becomes : lcaseB 683 [(1, false), (2, false), (3, false)] 80 83 569 = true := by decide +kernel
theorem lg1_becomes : lgood fX10_becomes 0 80 3 := ⟨zkX10_becomes.1, (zmb_of zpX10_becomes).1, ⟨_, rfl⟩, (zin_of (p := (3, 232)) (by decide +kernel)), by decide +kernel, by decide +kernel⟩
theorem lg2_becomes : lgood fX11_becomes 47 83 3 := ⟨zkX11_becomes.1, (zmb_of zpX11_becomes).1, ⟨_, rfl⟩, (zin_of (p := (6, 111)) (by decide +kernel)), by decide +kernel, by decide +kernel⟩
theorem lc_becomes (X : lX p s m meth c b L xs D cI cZ ad) {j : Nat} (hx : x = nI j) (hj : j + 6 ≤ L) {G : zG} (hC : zC G M) (hD : zD G M) (hV : zV G) (K : ∀ G M', zC G M' → zD G M' → zV G → lEv p l e s m below meth c b D cI cZ ad x 1290 [] M') : lEv p l e s m below meth c b D cI cZ ad x 683 [] M :=
  l_case X hx hj (G := G) (o_becomes G (lv1 xs x 1) (lv1 xs x 2) (lv1 xs x 3), G) [(1, false), (2, false), (3, false)] lb_becomes lg1_becomes lg2_becomes (fun Q hq => kc_becomes hC hV hq) (fun M Q hC hq => km_becomes hC hV hq) hD (fun M' h1 h2 => K _ M' h1 h2 (hV))
theorem lb_way : lcaseB 726 [(1, false), (2, false), (3, false)] 84 87 526 = true := by decide +kernel
theorem lg1_way : lgood fX10_way 0 84 3 := ⟨zkX10_way.1, (zmb_of zpX10_way).1, ⟨_, rfl⟩, (zin_of (p := (4, 1)) (by decide +kernel)), by decide +kernel, by decide +kernel⟩
theorem lg2_way : lgood fX11_way 47 87 3 := ⟨zkX11_way.1, (zmb_of zpX11_way).1, ⟨_, rfl⟩, (zin_of (p := (6, 115)) (by decide +kernel)), by decide +kernel, by decide +kernel⟩
theorem lc_way (X : lX p s m meth c b L xs D cI cZ ad) {j : Nat} (hx : x = nI j) (hj : j + 6 ≤ L) {G : zG} (hC : zC G M) (hD : zD G M) (hV : zV G) (K : ∀ G M', zC G M' → zD G M' → zV G → lEv p l e s m below meth c b D cI cZ ad x 1290 [] M') : lEv p l e s m below meth c b D cI cZ ad x 726 [] M :=
  l_case X hx hj (G := G) (o_way G (lv1 xs x 1) (lv1 xs x 2) (lv1 xs x 3), G) [(1, false), (2, false), (3, false)] lb_way lg1_way lg2_way (fun Q hq => kc_way hC hV hq) (fun M Q hC hq => km_way hC hV hq) hD (fun M' h1 h2 => K _ M' h1 h2 (hV))
theorem lb_through : lcaseB 769 [(1, false), (2, false), (3, false), (4, false), (5, false)] 88 92 463 = true := by decide +kernel
theorem lg1_through : lgood fX10_through 0 88 5 := ⟨zkX10_through.1, (zmb_of zpX10_through).1, ⟨_, rfl⟩, (zin_of (p := (4, 5)) (by decide +kernel)), by decide +kernel, by decide +kernel⟩
theorem lg2_through : lgood fX11_through 47 92 5 := ⟨zkX11_through.1, (zmb_of zpX11_through).1, ⟨_, rfl⟩, (zin_of (p := (6, 120)) (by decide +kernel)), by decide +kernel, by decide +kernel⟩
theorem lc_through (X : lX p s m meth c b L xs D cI cZ ad) {j : Nat} (hx : x = nI j) (hj : j + 6 ≤ L) {G : zG} (hC : zC G M) (hD : zD G M) (hV : zV G) (K : ∀ G M', zC G M' → zD G M' → zV G → lEv p l e s m below meth c b D cI cZ ad x 1290 [] M') : lEv p l e s m below meth c b D cI cZ ad x 769 [] M :=
  l_case X hx hj (G := G) (o_through G (lv1 xs x 1) (lv1 xs x 2) (lv1 xs x 3) (lv1 xs x 4) (lv1 xs x 5), G) [(1, false), (2, false), (3, false), (4, false), (5, false)] lb_through lg1_through lg2_through (fun Q hq => kc_through hC hV hq) (fun M Q hC hq => km_through hC hV hq) hD (fun M' h1 h2 => K _ M' h1 h2 (hV))
theorem lb_code : lcaseB 832 [(1, false), (2, false), (3, false)] 93 96 420 = true := by decide +kernel
theorem lg1_code : lgood fX10_code 0 93 3 := ⟨zkX10_code.1, (zmb_of zpX10_code).1, ⟨_, rfl⟩, (zin_of (p := (4, 29)) (by decide +kernel)), by decide +kernel, by decide +kernel⟩
theorem lg2_code : lgood fX11_code 47 96 3 := ⟨zkX11_code.1, (zmb_of zpX11_code).1, ⟨_, rfl⟩, (zin_of (p := (6, 136)) (by decide +kernel)), by decide +kernel, by decide +kernel⟩
theorem lc_code (X : lX p s m meth c b L xs D cI cZ ad) {j : Nat} (hx : x = nI j) (hj : j + 6 ≤ L) {G : zG} (hC : zC G M) (hD : zD G M) (hV : zV G) (K : ∀ G M', zC G M' → zD G M' → zV G → lEv p l e s m below meth c b D cI cZ ad x 1290 [] M') : lEv p l e s m below meth c b D cI cZ ad x 832 [] M :=
  l_case X hx hj (G := G) (o_code G (lv1 xs x 1) (lv1 xs x 2) (lv1 xs x 3), G) [(1, false), (2, false), (3, false)] lb_code lg1_code lg2_code (fun Q hq => kc_code hC hV hq) (fun M Q hC hq => km_code hC hV hq) hD (fun M' h1 h2 => K _ M' h1 h2 (hV))
theorem lb_origin : lcaseB 875 [(1, false), (2, false), (3, false), (4, false)] 97 101 367 = true := by decide +kernel
theorem lg1_origin : lgood fX10_origin 0 97 4 := ⟨zkX10_origin.1, (zmb_of zpX10_origin).1, ⟨_, rfl⟩, (zin_of (p := (4, 33)) (by decide +kernel)), by decide +kernel, by decide +kernel⟩
theorem lg2_origin : lgood fX11_origin 47 101 4 := ⟨zkX11_origin.1, (zmb_of zpX11_origin).1, ⟨_, rfl⟩, (zin_of (p := (6, 140)) (by decide +kernel)), by decide +kernel, by decide +kernel⟩
theorem lc_origin (X : lX p s m meth c b L xs D cI cZ ad) {j : Nat} (hx : x = nI j) (hj : j + 6 ≤ L) {G : zG} (hC : zC G M) (hD : zD G M) (hV : zV G) (K : ∀ G M', zC G M' → zD G M' → zV G → lEv p l e s m below meth c b D cI cZ ad x 1290 [] M') : lEv p l e s m below meth c b D cI cZ ad x 875 [] M :=
  l_case X hx hj (G := G) (o_origin G (lv1 xs x 1) (lv1 xs x 2) (lv1 xs x 3) (lv1 xs x 4), G) [(1, false), (2, false), (3, false), (4, false)] lb_origin lg1_origin lg2_origin (fun Q hq => kc_origin hC hV hq) (fun M Q hC hq => km_origin hC hV hq) hD (fun M' h1 h2 => K _ M' h1 h2 (hV))
theorem lb_ring : lcaseB 928 [(1, false), (2, false), (3, false)] 102 105 324 = true := by decide +kernel
theorem lg1_ring : lgood fX10_ring 0 102 3 := ⟨zkX10_ring.1, (zmb_of zpX10_ring).1, ⟨_, rfl⟩, (zin_of (p := (4, 51)) (by decide +kernel)), by decide +kernel, by decide +kernel⟩
theorem lg2_ring : lgood fX11_ring 47 105 3 := ⟨zkX11_ring.1, (zmb_of zpX11_ring).1, ⟨_, rfl⟩, (zin_of (p := (6, 149)) (by decide +kernel)), by decide +kernel, by decide +kernel⟩
theorem lc_ring (X : lX p s m meth c b L xs D cI cZ ad) {j : Nat} (hx : x = nI j) (hj : j + 6 ≤ L) {G : zG} (hC : zC G M) (hD : zD G M) (hV : zV G) (K : ∀ G M', zC G M' → zD G M' → zV G → lEv p l e s m below meth c b D cI cZ ad x 1290 [] M') : lEv p l e s m below meth c b D cI cZ ad x 928 [] M :=
  l_case X hx hj (G := G) (o_ring G (lv1 xs x 1) (lv1 xs x 2) (lv1 xs x 3), G) [(1, false), (2, false), (3, false)] lb_ring lg1_ring lg2_ring (fun Q hq => kc_ring hC hV hq) (fun M Q hC hq => km_ring hC hV hq) hD (fun M' h1 h2 => K _ M' h1 h2 (hV))
theorem lb_more : lcaseB 971 [(1, false)] 106 109 301 = true := by decide +kernel
theorem lg1_more : lgood fX10_more 0 106 1 := ⟨zkX10_more.1, (zmb_of zpX10_more).1, ⟨_, rfl⟩, (zin_of (p := (4, 60)) (by decide +kernel)), by decide +kernel, by decide +kernel⟩
theorem lg2_more : lgood fX11_more 47 109 1 := ⟨zkX11_more.1, (zmb_of zpX11_more).1, ⟨_, rfl⟩, (zin_of (p := (6, 153)) (by decide +kernel)), by decide +kernel, by decide +kernel⟩
theorem lc_more (X : lX p s m meth c b L xs D cI cZ ad) {j : Nat} (hx : x = nI j) (hj : j + 6 ≤ L) {G : zG} (hC : zC G M) (hD : zD G M) (hV : zV G) (K : ∀ G M', zC G M' → zD G M' → zV G → lEv p l e s m below meth c b D cI cZ ad x 1290 [] M') : lEv p l e s m below meth c b D cI cZ ad x 971 [] M :=
  l_case X hx hj (G := G) (o_more G (lv1 xs x 1), G) [(1, false)] lb_more lg1_more lg2_more (fun Q hq => kc_more hC hV hq) (fun M Q hC hq => km_more hC hV hq) hD (fun M' h1 h2 => K _ M' h1 h2 (hV))
theorem lb_cut : lcaseB 994 [(1, false), (2, false), (3, false)] 110 113 258 = true := by decide +kernel
theorem lg1_cut : lgood fX10_cut 0 110 3 := ⟨zkX10_cut.1, (zmb_of zpX10_cut).1, ⟨_, rfl⟩, (zin_of (p := (4, 89)) (by decide +kernel)), by decide +kernel, by decide +kernel⟩
theorem lg2_cut : lgood fX11_cut 47 113 3 := ⟨zkX11_cut.1, (zmb_of zpX11_cut).1, ⟨_, rfl⟩, (zin_of (p := (6, 169)) (by decide +kernel)), by decide +kernel, by decide +kernel⟩
theorem lc_cut (X : lX p s m meth c b L xs D cI cZ ad) {j : Nat} (hx : x = nI j) (hj : j + 6 ≤ L) {G : zG} (hC : zC G M) (hD : zD G M) (hV : zV G) (K : ∀ G M', zC G M' → zD G M' → zV G → lEv p l e s m below meth c b D cI cZ ad x 1290 [] M') : lEv p l e s m below meth c b D cI cZ ad x 994 [] M :=
  l_case X hx hj (G := G) (o_cut G (lv1 xs x 1) (lv1 xs x 2) (lv1 xs x 3), G) [(1, false), (2, false), (3, false)] lb_cut lg1_cut lg2_cut (fun Q hq => kc_cut hC hV hq) (fun M Q hC hq => km_cut hC hV hq) hD (fun M' h1 h2 => K _ M' h1 h2 (hV))
theorem lb_walk : lcaseB 1037 [(1, false)] 114 117 235 = true := by decide +kernel
theorem lg1_walk : lgood fX10_walk 0 114 1 := ⟨zkX10_walk.1, (zmb_of zpX10_walk).1, ⟨_, rfl⟩, (zin_of (p := (4, 106)) (by decide +kernel)), by decide +kernel, by decide +kernel⟩
theorem lg2_walk : lgood fX11_walk 47 117 1 := ⟨zkX11_walk.1, (zmb_of zpX11_walk).1, ⟨_, rfl⟩, (zin_of (p := (6, 177)) (by decide +kernel)), by decide +kernel, by decide +kernel⟩
theorem lc_walk (X : lX p s m meth c b L xs D cI cZ ad) {j : Nat} (hx : x = nI j) (hj : j + 6 ≤ L) {G : zG} (hC : zC G M) (hD : zD G M) (hV : zV G) (K : ∀ G M', zC G M' → zD G M' → zV G → lEv p l e s m below meth c b D cI cZ ad x 1290 [] M') : lEv p l e s m below meth c b D cI cZ ad x 1037 [] M :=
  l_case X hx hj (G := G) (o_walk G (lv1 xs x 1), G) [(1, false)] lb_walk lg1_walk lg2_walk (fun Q hq => kc_walk hC hV hq) (fun M Q hC hq => km_walk hC hV hq) hD (fun M' h1 h2 => K _ M' h1 h2 (hV))
theorem lb_holds : lcaseB 1060 [(1, false), (2, false)] 118 121 202 = true := by decide +kernel
theorem lg1_holds : lgood fX10_holds 0 118 2 := ⟨zkX10_holds.1, (zmb_of zpX10_holds).1, ⟨_, rfl⟩, (zin_of (p := (4, 119)) (by decide +kernel)), by decide +kernel, by decide +kernel⟩
theorem lg2_holds : lgood fX11_holds 47 121 2 := ⟨zkX11_holds.1, (zmb_of zpX11_holds).1, ⟨_, rfl⟩, (zin_of (p := (6, 181)) (by decide +kernel)), by decide +kernel, by decide +kernel⟩
theorem lc_holds (X : lX p s m meth c b L xs D cI cZ ad) {j : Nat} (hx : x = nI j) (hj : j + 6 ≤ L) {G : zG} (hC : zC G M) (hD : zD G M) (hV : zV G) (K : ∀ G M', zC G M' → zD G M' → zV G → lEv p l e s m below meth c b D cI cZ ad x 1290 [] M') : lEv p l e s m below meth c b D cI cZ ad x 1060 [] M :=
  l_case X hx hj (G := G) (o_holds (lv1 xs x 1) (lv1 xs x 2), G) [(1, false), (2, false)] lb_holds lg1_holds lg2_holds (fun Q hq => kc_holds (hq M hC (fun _ _ => rfl))) (fun M Q hC hq => km_holds (hq M hC (fun _ _ => rfl))) hD (fun M' h1 h2 => K _ M' h1 h2 (hV))
theorem lb_see : lcaseB 1093 [(1, false), (2, false)] 122 125 169 = true := by decide +kernel
theorem lg1_see : lgood fX10_see 0 122 2 := ⟨zkX10_see.1, (zmb_of zpX10_see).1, ⟨_, rfl⟩, (zin_of (p := (4, 125)) (by decide +kernel)), by decide +kernel, by decide +kernel⟩
theorem lg2_see : lgood fX11_see 47 125 2 := ⟨zkX11_see.1, (zmb_of zpX11_see).1, ⟨_, rfl⟩, (zin_of (p := (6, 187)) (by decide +kernel)), by decide +kernel, by decide +kernel⟩
theorem lc_see (X : lX p s m meth c b L xs D cI cZ ad) {j : Nat} (hx : x = nI j) (hj : j + 6 ≤ L) {G : zG} (hC : zC G M) (hD : zD G M) (hV : zV G) (K : ∀ G M', zC G M' → zD G M' → zV G → lEv p l e s m below meth c b D cI cZ ad x 1290 [] M') : lEv p l e s m below meth c b D cI cZ ad x 1093 [] M :=
  l_case X hx hj (G := G) (o_see G (lv1 xs x 1) (lv1 xs x 2)) [(1, false), (2, false)] lb_see lg1_see lg2_see (fun Q hq => kc_see hC hV hq) (fun M Q hC hq => km_see hC hV hq) hD (fun M' h1 h2 => K _ M' h1 h2 (v_see hV))
theorem lb_slips : lcaseB 1126 [(1, false)] 126 129 146 = true := by decide +kernel
theorem lg1_slips : lgood fX10_slips 0 126 1 := ⟨zkX10_slips.1, (zmb_of zpX10_slips).1, ⟨_, rfl⟩, (zin_of (p := (4, 133)) (by decide +kernel)), by decide +kernel, by decide +kernel⟩
theorem lg2_slips : lgood fX11_slips 47 129 1 := ⟨zkX11_slips.1, (zmb_of zpX11_slips).1, ⟨_, rfl⟩, (zin_of (p := (6, 191)) (by decide +kernel)), by decide +kernel, by decide +kernel⟩
theorem lc_slips (X : lX p s m meth c b L xs D cI cZ ad) {j : Nat} (hx : x = nI j) (hj : j + 6 ≤ L) {G : zG} (hC : zC G M) (hD : zD G M) (hV : zV G) (K : ∀ G M', zC G M' → zD G M' → zV G → lEv p l e s m below meth c b D cI cZ ad x 1290 [] M') : lEv p l e s m below meth c b D cI cZ ad x 1126 [] M :=
  l_case X hx hj (G := G) (o_slips G (lv1 xs x 1), G) [(1, false)] lb_slips lg1_slips lg2_slips (fun Q hq => kc_slips hC hV hq) (fun M Q hC hq => km_slips hC hV (hq M hC (fun _ _ => rfl))) hD (fun M' h1 h2 => K _ M' h1 h2 (hV))
theorem lb_tryNext : lcaseB 1149 [] 130 133 133 = true := by decide +kernel
theorem lg1_tryNext : lgood fX10_tryNext 0 130 0 := ⟨zkX10_tryNext.1, (zmb_of zpX10_tryNext).1, ⟨_, rfl⟩, (zin_of (p := (4, 149)) (by decide +kernel)), by decide +kernel, by decide +kernel⟩
theorem lg2_tryNext : lgood fX11_tryNext 47 133 0 := ⟨zkX11_tryNext.1, (zmb_of zpX11_tryNext).1, ⟨_, rfl⟩, (zin_of (p := (6, 199)) (by decide +kernel)), by decide +kernel, by decide +kernel⟩
theorem lc_tryNext (X : lX p s m meth c b L xs D cI cZ ad) {j : Nat} (hx : x = nI j) (hj : j + 6 ≤ L) {G : zG} (hC : zC G M) (hD : zD G M) (hV : zV G) (K : ∀ G M', zC G M' → zD G M' → zV G → lEv p l e s m below meth c b D cI cZ ad x 1290 [] M') : lEv p l e s m below meth c b D cI cZ ad x 1149 [] M :=
  l_case X hx hj (G := G) (o_try G, G) [] lb_tryNext lg1_tryNext lg2_tryNext (fun Q hq => kc_try hC hV hq) (fun M Q hC hq => km_try hC hV hq) hD (fun M' h1 h2 => K _ M' h1 h2 (hV))
theorem lb_write : lcaseB 1162 [(1, false), (2, false)] 134 137 100 = true := by decide +kernel
theorem lg1_write : lgood fX10_write 0 134 2 := ⟨zkX10_write.1, (zmb_of zpX10_write).1, ⟨_, rfl⟩, (zin_of (p := (4, 166)) (by decide +kernel)), by decide +kernel, by decide +kernel⟩
theorem lg2_write : lgood fX11_write 47 137 2 := ⟨zkX11_write.1, (zmb_of zpX11_write).1, ⟨_, rfl⟩, (zin_of (p := (6, 208)) (by decide +kernel)), by decide +kernel, by decide +kernel⟩
theorem lc_write (X : lX p s m meth c b L xs D cI cZ ad) {j : Nat} (hx : x = nI j) (hj : j + 6 ≤ L) {G : zG} (hC : zC G M) (hD : zD G M) (hV : zV G) (K : ∀ G M', zC G M' → zD G M' → zV G → lEv p l e s m below meth c b D cI cZ ad x 1290 [] M') : lEv p l e s m below meth c b D cI cZ ad x 1162 [] M :=
  l_case X hx hj (G := G) (o_write G (lv1 xs x 1) (lv1 xs x 2)) [(1, false), (2, false)] lb_write lg1_write lg2_write (fun Q hq => kc_write hC hV hq) (fun M Q hC hq => km_write hC hV hq) hD (fun M' h1 h2 => K _ M' h1 h2 (v_write hV))
theorem lb_tear : lcaseB 1195 [] 138 141 87 = true := by decide +kernel
theorem lg1_tear : lgood fX10_tear 0 138 0 := ⟨zkX10_tear.1, (zmb_of zpX10_tear).1, ⟨_, rfl⟩, (zin_of (p := (4, 174)) (by decide +kernel)), by decide +kernel, by decide +kernel⟩
theorem lg2_tear : lgood fX11_tear 47 141 0 := ⟨zkX11_tear.1, (zmb_of zpX11_tear).1, ⟨_, rfl⟩, (zin_of (p := (6, 212)) (by decide +kernel)), by decide +kernel, by decide +kernel⟩
theorem lc_tear (X : lX p s m meth c b L xs D cI cZ ad) {j : Nat} (hx : x = nI j) (hj : j + 6 ≤ L) {G : zG} (hC : zC G M) (hD : zD G M) (hV : zV G) (K : ∀ G M', zC G M' → zD G M' → zV G → lEv p l e s m below meth c b D cI cZ ad x 1290 [] M') : lEv p l e s m below meth c b D cI cZ ad x 1195 [] M :=
  l_case X hx hj (G := G) (o_tear G) [] lb_tear lg1_tear lg2_tear (fun Q hq => kc_tear hC hq) (fun M Q hC hq => km_tear hC hq) hD (fun M' h1 h2 => K _ M' h1 h2 (v_tear hV))
theorem lb_judge : lcaseB 1208 [] 142 145 74 = true := by decide +kernel
theorem lg1_judge : lgood fX10_judge 0 142 0 := ⟨zkX10_judge.1, (zmb_of zpX10_judge).1, ⟨_, rfl⟩, (zin_of (p := (4, 178)) (by decide +kernel)), by decide +kernel, by decide +kernel⟩
theorem lg2_judge : lgood fX11_judge 47 145 0 := ⟨zkX11_judge.1, (zmb_of zpX11_judge).1, ⟨_, rfl⟩, (zin_of (p := (6, 216)) (by decide +kernel)), by decide +kernel, by decide +kernel⟩
theorem lc_judge (X : lX p s m meth c b L xs D cI cZ ad) {j : Nat} (hx : x = nI j) (hj : j + 6 ≤ L) {G : zG} (hC : zC G M) (hD : zD G M) (hV : zV G) (K : ∀ G M', zC G M' → zD G M' → zV G → lEv p l e s m below meth c b D cI cZ ad x 1290 [] M') : lEv p l e s m below meth c b D cI cZ ad x 1208 [] M :=
  l_case X hx hj (G := G) (o_judge G, G) [] lb_judge lg1_judge lg2_judge (fun Q hq => kc_judge hC hV (hq M hC (fun _ _ => rfl))) (fun M Q hC hq => km_judge hC hV (hq M hC (fun _ _ => rfl))) hD (fun M' h1 h2 => K _ M' h1 h2 (hV))
theorem lb_seed : lcaseB 1221 [(1, false)] 146 149 51 = true := by decide +kernel
theorem lg1_seed : lgood fX10_seed 0 146 1 := ⟨zkX10_seed.1, (zmb_of zpX10_seed).1, ⟨_, rfl⟩, (zin_of (p := (4, 187)) (by decide +kernel)), by decide +kernel, by decide +kernel⟩
theorem lg2_seed : lgood fX11_seed 47 149 1 := ⟨zkX11_seed.1, (zmb_of zpX11_seed).1, ⟨_, rfl⟩, (zin_of (p := (6, 220)) (by decide +kernel)), by decide +kernel, by decide +kernel⟩
theorem lc_seed (X : lX p s m meth c b L xs D cI cZ ad) {j : Nat} (hx : x = nI j) (hj : j + 6 ≤ L) {G : zG} (hC : zC G M) (hD : zD G M) (hV : zV G) (K : ∀ G M', zC G M' → zD G M' → zV G → lEv p l e s m below meth c b D cI cZ ad x 1290 [] M') : lEv p l e s m below meth c b D cI cZ ad x 1221 [] M :=
  l_case X hx hj (G := G) (o_seed G (lv1 xs x 1)) [(1, false)] lb_seed lg1_seed lg2_seed (fun Q hq => kc_seed hC hq) (fun M Q hC hq => km_seed hC hq) hD (fun M' h1 h2 => K _ M' h1 h2 (v_seed hV))
theorem lb_keep : lcaseB 1244 [(1, false)] 150 153 28 = true := by decide +kernel
theorem lg1_keep : lgood fX10_keep 0 150 1 := ⟨zkX10_keep.1, (zmb_of zpX10_keep).1, ⟨_, rfl⟩, (zin_of (p := (4, 191)) (by decide +kernel)), by decide +kernel, by decide +kernel⟩
theorem lg2_keep : lgood fX11_keep 47 153 1 := ⟨zkX11_keep.1, (zmb_of zpX11_keep).1, ⟨_, rfl⟩, (zin_of (p := (6, 224)) (by decide +kernel)), by decide +kernel, by decide +kernel⟩
theorem lc_keep (X : lX p s m meth c b L xs D cI cZ ad) {j : Nat} (hx : x = nI j) (hj : j + 6 ≤ L) {G : zG} (hC : zC G M) (hD : zD G M) (hV : zV G) (K : ∀ G M', zC G M' → zD G M' → zV G → lEv p l e s m below meth c b D cI cZ ad x 1290 [] M') : lEv p l e s m below meth c b D cI cZ ad x 1244 [] M :=
  l_case X hx hj (G := G) (o_keep G (lv1 xs x 1)) [(1, false)] lb_keep lg1_keep lg2_keep (fun Q hq => kc_keep hC hV hq) (fun M Q hC hq => km_keep hC hV hq) hD (fun M' h1 h2 => K _ M' h1 h2 (v_keep hV))
theorem lb_goBack : lcaseB 1267 [(1, false)] 154 157 5 = true := by decide +kernel
theorem lg1_goBack : lgood fX10_goBack 0 154 1 := ⟨zkX10_goBack.1, (zmb_of zpX10_goBack).1, ⟨_, rfl⟩, (zin_of (p := (4, 199)) (by decide +kernel)), by decide +kernel, by decide +kernel⟩
theorem lg2_goBack : lgood fX11_goBack 47 157 1 := ⟨zkX11_goBack.1, (zmb_of zpX11_goBack).1, ⟨_, rfl⟩, (zin_of (p := (6, 228)) (by decide +kernel)), by decide +kernel, by decide +kernel⟩
theorem lc_goBack (X : lX p s m meth c b L xs D cI cZ ad) {j : Nat} (hx : x = nI j) (hj : j + 6 ≤ L) {G : zG} (hC : zC G M) (hD : zD G M) (hV : zV G) (K : ∀ G M', zC G M' → zD G M' → zV G → lEv p l e s m below meth c b D cI cZ ad x 1290 [] M') : lEv p l e s m below meth c b D cI cZ ad x 1267 [] M :=
  l_case X hx hj (G := G) (o_goBack G (lv1 xs x 1)) [(1, false)] lb_goBack lg1_goBack lg2_goBack (fun Q hq => kc_goBack hC hV hq) (fun M Q hC hq => km_goBack hC hV hq) hD (fun M' h1 h2 => K _ M' h1 h2 (v_goBack hV))
end LC
