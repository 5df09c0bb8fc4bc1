/-! slips: which rows fit -/
def rowB (s k l : Nat) : Bool := if s = 0 then decide (k < l) else if s = 1 then decide (k ≠ l) else if s = 2 then (decide (0 < k) && decide (l = 0)) else (decide (k = 0) && decide (l = 0))
def fitB (N : Nat) (sn : Nat × (Nat → Nat) × (Nat → Nat)) (s k l j : Nat) : Bool := Nat.beq (ov N s k l false (sn.2.1 j)) (sn.2.2 j)
def okS (N : Nat) (sn : Nat × (Nat → Nat) × (Nat → Nat)) (c : Nat) : Bool := rowB (c / 100) (c / 10 % 10) (c % 10) && ((decide (c / 10 % 10 < N) && decide (c % 10 < N)) && allB (fitB N sn (c / 100) (c / 10 % 10) (c % 10)) sn.1)
def Fl (N : Nat) (sn : Nat × (Nat → Nat) × (Nat → Nat)) : Nat → List Nat
  | 0 => []
  | c + 1 => bif okS N sn c then Fl N sn c ++ [c] else Fl N sn c
theorem Fl_skip {N : Nat} {sn : Nat × (Nat → Nat) × (Nat → Nat)} {c : Nat} : ∀ d, (∀ e, c ≤ e → e < c + d → okS N sn e = false) → Fl N sn (c + d) = Fl N sn c
  | 0, _ => rfl
  | d + 1, h => by
    show (bif okS N sn (c + d) then _ else _) = _
    rw [h (c + d) (by omega) (by omega)]
    exact Fl_skip d (fun e h1 h2 => h e h1 (by omega))
theorem okS_big {N : Nat} {sn : Nat × (Nat → Nat) × (Nat → Nat)} {c : Nat} (h : N ≤ c / 10 % 10 ∨ N ≤ c % 10) : okS N sn c = false := by
  unfold okS
  rcases h with h | h
  · rw [show decide (c / 10 % 10 < N) = false from decide_eq_false (by omega), Bool.false_and, Bool.false_and, Bool.and_false]
  · rw [show decide (c % 10 < N) = false from decide_eq_false (by omega), Bool.and_false, Bool.false_and, Bool.and_false]
theorem k_X3_isRow {Q : Option Value → zM → Prop} {M : zM} {x y z : Int32} {s k l : Nat} (hx : x = nI s) (hy : y = nI k) (hz : z = nI l) (hs : s < 4) (hk : k < 10) (hl : l < 10) (h1 : rowB s k l = true → Q (some (.int 1)) M) (h0 : rowB s k l = false → Q (some (.int 0)) M) : zCon fX3_isRow [.int x, .int y, .int z] M Q := by
  refine zc_of zkX3_isRow [] 60 (Nat.le_of_ble_eq_true rfl) ?_
  refine sw3 (swE hx (by omega) (by omega) (fun e => ?_)) (swE hx (by omega) (by omega) (fun e => ?_)) (swE hx (by omega) (by omega) (fun e => ?_)) (swN hx (by omega) (by omega) (fun e => ?_))
  · refine iGe hy hz (by omega) (by omega) (fun c => ⟨Or.inl rfl, h0 ?_⟩) (fun c => ⟨Or.inr rfl, h1 ?_⟩) <;> (unfold rowB; rw [if_pos e]; simp; omega)
  · refine iEq hy hz (by omega) (by omega) (fun c => ⟨Or.inl rfl, h0 ?_⟩) (fun c => ⟨Or.inr rfl, h1 ?_⟩) <;> (unfold rowB; rw [if_neg (by omega), if_pos e]; simp; exact c)
  · refine iGe n_0 hy (by omega) (by omega) (fun c => ⟨Or.inl rfl, h0 ?_⟩) (fun c => iNe hz n_0 (by omega) (by omega) (fun d => ⟨Or.inl rfl, h0 ?_⟩) (fun d => ⟨Or.inr rfl, h1 ?_⟩)) <;> (unfold rowB; rw [if_neg (by omega), if_neg (by omega), if_pos e]; simp; omega)
  · refine iNe hy n_0 (by omega) (by omega) (fun c => ⟨Or.inl rfl, h0 ?_⟩) (fun c => iNe hz n_0 (by omega) (by omega) (fun d => ⟨Or.inl rfl, h0 ?_⟩) (fun d => ⟨Or.inr rfl, h1 ?_⟩)) <;> (unfold rowB; rw [if_neg (by omega), if_neg (by omega), if_neg (by omega)]; simp; omega)
theorem k_X3_fits {Q : Option Value → zM → Prop} {M : zM} {x y z : Int32} {N s k l : Nat} {sn : Nat × (Nat → Nat) × (Nat → Nat)} (hN : 0 < N) (hN8 : N ≤ 8) (hM : M 1 1 = nI N) (hS : cSn sn M) (hn : sn.1 ≤ 6) (hv : ∀ j, j < sn.1 → sn.2.1 j < N ∧ sn.2.2 j < N) (hx : x = nI s) (hy : y = nI k) (hz : z = nI l) (hs : s < 4) (hk : k < N) (hl : l < N) (h1 : allB (fitB N sn s k l) sn.1 = true → Q (some (.int 1)) M) (h0 : allB (fitB N sn s k l) sn.1 = false → Q (some (.int 0)) M) : zCon fX3_fits [.ref 39, .int x, .int y, .int z] M Q := by
  have L : ∀ j, j ≤ sn.1 → ∀ u, u = nI j → allB (fitB N sn s k l) j = true → zEv fX3_fits Q 3 [(0, .ref 39), (1, .int x), (2, .int y), (3, .int z), (4, .int u)] [] M := by
    refine zloop sn.1 ?_ ?_
    · intro u hu ha
      exact zev_go zkX3_fits [3] 60 (iGe hu hS.1 (by omega) (by omega) (fun _ => ⟨Or.inr rfl, h1 ha⟩) (fun q => absurd q (by omega)))
    · intro j hj ih u hu ha
      have e1 := (hS.2 j hj).1
      have e2 := (hS.2 j hj).2
      have b1 := (hv j hj).1
      have b2 := (hv j hj).2
      refine zev_go zkX3_fits [3] 60 (iGe hu hS.1 (by omega) (by omega) (fun q => absurd q (by omega)) (fun _ => ?_))
      refine zix j hu (show j < 6 by omega) (k_putOver (b := false) hx hy hz hM e1 hs hN hN8 hk hl b1 (zix j hu (show j < 6 by omega) ?_))
      have ol := ov_lt (s := s) (b := false) hN hk hl b1
      refine iEq rfl e2 (by omega) (by omega) (fun c => ih _ (by rw [hu, nI_1]) ?_) (fun c => ⟨Or.inl rfl, h0 (allB_false (i := j) ?_ hj)⟩)
      · show (allB (fitB N sn s k l) j && fitB N sn s k l j) = true
        rw [ha]; unfold fitB; rw [beqT c]; rfl
      · unfold fitB; exact beqF c
  exact zc_of zkX3_fits [3] 60 (Nat.le_of_ble_eq_true rfl) (L 0 (by omega) 0 rfl rfl)
/-- the rows hold the list -/
def rwH (l : List Nat) (g : Nat → Int32) : Prop := ∀ j c, l[j]? = some c → g j = nI c
theorem rwH_put {l : List Nat} {g : Nat → Int32} {c : Nat} {x : Int32} (h : rwH l g) (hx : x = nI c) : rwH (l ++ [c]) (upd g l.length x) := by
  intro j d hj
  by_cases q : j = l.length
  · subst q
    rw [List.getElem?_append_right (Nat.le_refl _)] at hj
    simp at hj
    rw [pk_us, hx, hj]
  · rw [pk_un q]
    refine h j d ?_
    by_cases r : j < l.length
    · rw [List.getElem?_append_left r] at hj; exact hj
    · rw [List.getElem?_append_right (by omega), List.getElem?_eq_none (by show 1 ≤ _; omega)] at hj
      cases hj
theorem k_X3_findRows {Q : Option Value → zM → Prop} {M : zM} {N : Nat} {sn : Nat × (Nat → Nat) × (Nat → Nat)} (hN8 : N ≤ 8) (hM : M 1 1 = nI N) (hS : cSn sn M) (hn : sn.1 ≤ 6) (hv : ∀ j, j < sn.1 → sn.2.1 j < N ∧ sn.2.2 j < N) (h : ∀ g, rwH (Fl N sn 400) g → (Fl N sn 400).length ≤ 256 → Q (some (.int (nI (Fl N sn 400).length))) (zset M 42 g)) : zCon fX3_findRows [.ref 39] M Q := by
  have L1 : ∀ s, s ≤ 4 → ∀ x y g, x = nI s → y = nI (Fl N sn (100 * s)).length → (Fl N sn (100 * s)).length ≤ 64 * s → rwH (Fl N sn (100 * s)) g → zEv fX3_findRows Q 4 [(0, .ref 39), (1, .int y), (2, .int x)] [] (zset M 42 g) := by
    refine zloop 4 ?_ ?_
    · intro x y g hx hy hle hg
      refine zev_go zkX3_findRows [4] 60 ?_
      refine iLt n_3 hx (by omega) (by omega) (fun _ => ?_) (fun q => absurd q (by omega))
      have h' := h g hg hle
      rw [← hy] at h'
      exact h'
    · intro s hs ih1 x y g hx hy hle hg
      refine zev_go zkX3_findRows [11] 60 (iLt n_3 hx (by omega) (by omega) (fun q => absurd q (by omega)) (fun _ => ?_))
      have L2 : ∀ k, k ≤ N → ∀ u y g, u = nI k → y = nI (Fl N sn (100 * s + 10 * k)).length → (Fl N sn (100 * s + 10 * k)).length ≤ 64 * s + 8 * k → rwH (Fl N sn (100 * s + 10 * k)) g → zEv fX3_findRows Q 11 [(0, .ref 39), (1, .int y), (2, .int x), (3, .int u)] [] (zset M 42 g) := by
        refine zloop N ?_ ?_
        · intro u y g hu hy hle hg
          refine zev_go zkX3_findRows [4] 60 (iGe hu hM (by omega) (by omega) (fun _ => ?_) (fun q => absurd q (by omega)))
          have e : Fl N sn (100 * (s + 1)) = Fl N sn (100 * s + 10 * N) := by
            have := Fl_skip (N := N) (sn := sn) (c := 100 * s + 10 * N) (100 - 10 * N) (fun e h1 h2 => okS_big (Or.inl (by omega)))
            rw [← this]
            exact congrArg _ (by omega)
          refine zev_pick [0, 1, 2] (ih1 _ _ g (by rw [hx, nI_1]) ?_ ?_ ?_)
          · rw [e]; exact hy
          · rw [e]; omega
          · rw [e]; exact hg
        · intro k hk ih2 u y g hu hy hle hg
          refine zev_go zkX3_findRows [25] 60 (iGe hu hM (by omega) (by omega) (fun q => absurd q (by omega)) (fun _ => ?_))
          have L3 : ∀ l, l ≤ N → ∀ v y g, v = nI l → y = nI (Fl N sn (100 * s + 10 * k + l)).length → (Fl N sn (100 * s + 10 * k + l)).length ≤ 64 * s + 8 * k + l → rwH (Fl N sn (100 * s + 10 * k + l)) g → zEv fX3_findRows Q 25 [(0, .ref 39), (1, .int y), (2, .int x), (3, .int u), (4, .int v)] [] (zset M 42 g) := by
            refine zloop N ?_ ?_
            · intro v y g hv2 hy hle hg
              refine zev_go zkX3_findRows [11] 60 (iGe hv2 hM (by omega) (by omega) (fun _ => ?_) (fun q => absurd q (by omega)))
              have e : Fl N sn (100 * s + 10 * (k + 1)) = Fl N sn (100 * s + 10 * k + N) := by
                have := Fl_skip (N := N) (sn := sn) (c := 100 * s + 10 * k + N) (10 - N) (fun e h1 h2 => okS_big (Or.inr (by omega)))
                rw [← this]
                exact congrArg _ (by omega)
              refine zev_pick [0, 1, 2, 3] (ih2 _ _ g (by rw [hu, nI_1]) ?_ ?_ ?_)
              · rw [e]; exact hy
              · rw [e]; omega
              · rw [e]; exact hg
            · intro l hl ih3 v y g hv2 hy hle hg
              have d1 : (100 * s + 10 * k + l) / 100 = s := by omega
              have d2 : (100 * s + 10 * k + l) / 10 % 10 = k := by omega
              have d3 : (100 * s + 10 * k + l) % 10 = l := by omega
              have eok : okS N sn (100 * s + 10 * k + l) = (rowB s k l && allB (fitB N sn s k l) sn.1) := by
                unfold okS; rw [d1, d2, d3, decide_eq_true hk, decide_eq_true hl]; rfl
              have no : okS N sn (100 * s + 10 * k + l) = false → zEv fX3_findRows Q 25 [(0, .ref 39), (1, .int y), (2, .int x), (3, .int u), (4, .int (v + 1))] [] (zset M 42 g) := by
                intro q
                have e : Fl N sn (100 * s + 10 * k + (l + 1)) = Fl N sn (100 * s + 10 * k + l) := by
                  show (bif okS N sn (100 * s + 10 * k + l) then _ else _) = _
                  rw [q]; rfl
                refine ih3 _ _ g (by rw [hv2, nI_1]) ?_ ?_ ?_
                · rw [e]; exact hy
                · rw [e]; omega
                · rw [e]; exact hg
              refine zev_go zkX3_findRows [25] 60 (iGe hv2 hM (by omega) (by omega) (fun q => absurd q (by omega)) (fun _ => ?_))
              refine k_X3_isRow hx hu hv2 hs (by omega) (by omega) (fun q1 => bT ?_) (fun q1 => bF (no (by rw [eok, q1]; rfl)))
              refine k_X3_fits (N := N) (sn := sn) (by omega) hN8 hM (cSn_fr rfl rfl rfl hS) hn hv hx hu hv2 hs hk hl (fun q2 => bT ?_) (fun q2 => bF (no (by rw [eok, q2, Bool.and_false])))
              refine zix (Fl N sn (100 * s + 10 * k + l)).length hy (show (Fl N sn (100 * s + 10 * k + l)).length < 256 by omega) ?_
              have e : Fl N sn (100 * s + 10 * k + (l + 1)) = Fl N sn (100 * s + 10 * k + l) ++ [100 * s + 10 * k + l] := by
                show (bif okS N sn (100 * s + 10 * k + l) then _ else _) = _
                rw [eok, q1, q2]; rfl
              have eu : ∀ z, zu (zset M 42 g) 42 (Fl N sn (100 * s + 10 * k + l)).length z = zset M 42 (upd g (Fl N sn (100 * s + 10 * k + l)).length z) := fun z => by unfold zu; rw [zset_s, zset_u]
              rw [eu]
              refine ih3 _ _ _ (by rw [hv2, nI_1]) ?_ ?_ ?_
              · rw [e, hy, nI_1, List.length_append]; rfl
              · rw [e, List.length_append]; show _ + 1 ≤ _; omega
              · rw [e]; exact rwH_put hg (a_add (a_add (a_mul n_100 hx) (a_mul n_10 hu)) hv2)
          exact L3 0 (by omega) 0 y g rfl hy hle hg
      exact L2 0 (by omega) 0 y g rfl hy hle hg
  refine zc_of zkX3_findRows [4] 60 (Nat.le_of_ble_eq_true rfl) ?_
  rw [← zset_id M 42]
  exact L1 0 (by omega) 0 0 (M 42) rfl rfl (Nat.le_refl 0) (fun j c hj => by simp [Fl] at hj)
def fstF (l : List Nat) : Int32 := match l with
  | [] => -1
  | c :: _ => nI c
def o_slips (G : zG) (w : Int32) : Int32 := match ix w 2 with
  | none => cOUT
  | some 0 => nI (Fl (tN (gT G)) (gSn G) 400).length
  | some _ => fstF (Fl (tN (gT G)) (gSn G) 400)
theorem kc_slips {Q : Option Value → zM → Prop} {G : zG} {M : zM} {w : Int32} (hC : zC G M) (hV : zV G) (hq : ∀ M', zC G M' → frM M M' → Q (some (.int (o_slips G w))) M') : zCon fX10_slips [.ref 0, .int w] M Q := by
  obtain ⟨c1, c2, c3, c4, c5, c6, c7, c8, c9⟩ := id hC
  refine zc_of zkX10_slips [] 60 (Nat.le_of_ble_eq_true rfl) ?_
  have bad : zout w 2 → Q (some (.int cOUT)) M := fun ho => by
    unfold o_slips at hq; rw [ix_out (by omega) ho] at hq; exact hq M hC (fun _ _ => rfl)
  refine br (fun d => bad (outLe (n := 1) (by omega) (Or.inl d))) (fun d1 => nr (fun d2 => ?_) (fun d => bad (outLe (n := 1) (by omega) (Or.inr d))))
  obtain ⟨k, hk, ek⟩ := numLe (n := 1) (by omega) d1 d2
  unfold o_slips at hq
  rw [show ix w 2 = some k by rw [ek]; exact ix_in hk (by omega)] at hq
  refine k_X3_findRows (zTv_N hV.1) c1.1 c8 hV.2.2.2.2.2.2.1.1 hV.2.2.2.2.2.2.1.2 (fun g hg hle => ?_)
  have hC' : zC G (zset M 42 g) := zC_fr (fun k hk => zset_n _ _ (by unfold zown1 at hk; omega)) hC
  have hf' : frM M (zset M 42 g) := fun k hk => zset_n _ _ (by omega)
  refine iNe ek n_0 (by omega) (by omega) (fun d => ?_) (fun d => ?_)
  · have : k = 1 := by omega
    subst this
    have hq : Q (some (.int (fstF (Fl (tN (gT G)) (gSn G) 400)))) (zset M 42 g) := hq _ hC' hf'
    refine iGe n_0 rfl (by omega) (by omega) (fun q => ?_) (fun q => ?_)
    · have e : Fl (tN (gT G)) (gSn G) 400 = [] := List.eq_nil_of_length_eq_zero (by omega)
      rw [e] at hq
      exact hq
    · refine zix 0 rfl (by decide) ?_
      cases e : Fl (tN (gT G)) (gSn G) 400 with
      | nil => rw [e] at q; exact absurd q (by decide)
      | cons c r =>
        have h0 := hg 0 c (by rw [e]; rfl)
        rw [e] at hq
        have hq : Q (some (.int (nI c))) (zset M 42 g) := hq
        rw [← h0] at hq
        exact hq
  · subst d
    exact hq _ hC' hf'
