/-! slips in the model; which word to try next -/
theorem k_X11_couldSlip {Q : Option Value → zM → Prop} {M : zM} {x : Int32} {N c : Nat} {sn : Nat × (Nat → Nat) × (Nat → Nat)} (hN8 : N ≤ 8) (hM : M 47 0 = nI N) (hS : mSn sn M) (hn : sn.1 ≤ 6) (hv : ∀ j, j < sn.1 → sn.2.1 j < N ∧ sn.2.2 j < N) (hx : x = nI c) (hc : c < 400) (h1 : okS N sn c = true → Q (some (.int 1)) M) (h0 : okS N sn c = false → Q (some (.int 0)) M) : zCon fX11_couldSlip [.ref 47, .int x] M Q := by
  have e1 : x / 100 = nI (c / 100) := a_div hx n_100 (by omega) (by omega) (by omega)
  have e2 : zrem (x / 10) 10 = nI (c / 10 % 10) := a_rem (a_div hx n_10 (by omega) (by omega) (by omega)) n_10 (by omega) (by omega) (by omega)
  have e3 : zrem x 10 = nI (c % 10) := a_rem hx n_10 (by omega) (by omega) (by omega)
  have eo : okS N sn c = ((rowB (c / 100) (c / 10 % 10) (c % 10) && (decide (c / 10 % 10 < N) && decide (c % 10 < N))) && allB (fitB N sn (c / 100) (c / 10 % 10) (c % 10)) sn.1) := by unfold okS; simp only [Bool.and_assoc]
  rw [eo] at h1 h0
  clear eo
  have b1 : c / 100 < 4 := by omega
  have b2 : c / 10 % 10 < 10 := by omega
  have b3 : c % 10 < 10 := by omega
  generalize c / 100 = s at *
  generalize c / 10 % 10 = k at *
  generalize c % 10 = l at *
  have L : ∀ j, j ≤ sn.1 → ∀ u, u = nI j → ∀ b, b = ((rowB s k l && (decide (k < N) && decide (l < N))) && allB (fitB N sn s k l) j) → zEv fX11_couldSlip Q 142 [(0, .ref 47), (1, .int x), (2, .int (x / 100)), (3, .int (zrem (x / 10) 10)), (4, .int (zrem x 10)), (5, .int (zbl b)), (6, .int u)] [] M := by
    refine zloop sn.1 ?_ ?_
    · intro u hu b hb
      refine zev_go zkX11_couldSlip [142] 60 (iGe hu hS.1 (by omega) (by omega) (fun _ => ?_) (fun q => absurd q (by omega)))
      cases b with
      | true => exact ⟨Or.inr rfl, h1 hb.symm⟩
      | false => exact ⟨Or.inl rfl, h0 hb.symm⟩
    · intro j hj ih u hu b hb
      refine zev_go zkX11_couldSlip [142] 60 (iGe hu hS.1 (by omega) (by omega) (fun q => absurd q (by omega)) (fun _ => ?_))
      cases b with
      | false =>
        refine bF ⟨Or.inl rfl, h0 ?_⟩
        cases q : (rowB s k l && (decide (k < N) && decide (l < N))) with
        | false => rfl
        | true =>
          rw [q, Bool.true_and] at hb
          rw [Bool.true_and]
          have L0 : ∀ n, j ≤ n → allB (fitB N sn s k l) n = false := by
            intro n
            induction n with
            | zero => intro hjn; have : j = 0 := by omega
                      subst this; exact hb.symm
            | succ n ihn =>
              intro hjn
              by_cases r : j = n + 1
              · rw [← r]; exact hb.symm
              · show (allB _ n && _) = false
                rw [ihn (by omega), Bool.false_and]
          exact L0 sn.1 (by omega)
      | true =>
        have hb' := hb.symm
        rw [Bool.and_eq_true, Bool.and_eq_true, Bool.and_eq_true, decide_eq_true_eq, decide_eq_true_eq] at hb'
        obtain ⟨⟨r1, r2, r3⟩, r4⟩ := hb'
        have q1 := (hS.2 j hj).1
        have q2 := (hS.2 j hj).2
        have p1 := (hv j hj).1
        have p2 := (hv j hj).2
        have ol := ov_lt (s := s) (b := false) (show 0 < N by omega) r2 r3 p1
        have st : ∀ d, d = fitB N sn s k l j → d = ((rowB s k l && (decide (k < N) && decide (l < N))) && allB (fitB N sn s k l) (j + 1)) := by
          intro d hd
          show d = (_ && (allB (fitB N sn s k l) j && fitB N sn s k l j))
          rw [r1, decide_eq_true r2, decide_eq_true r3, r4, ← hd]; cases d <;> rfl
        refine bT (zix j hu (show j < 6 by omega) (k_slipBy e1 e2 e3 q1 b1 (by omega) hN8 hM r2 r3 p1 (zix j hu (show j < 6 by omega) ?_)))
        refine iNe rfl q2 (by omega) (by omega) (fun d => ?_) (fun d => ?_)
        · exact ih _ (by rw [hu, nI_1]) false (st false (beqF d).symm)
        · exact ih _ (by rw [hu, nI_1]) true (st true (beqT d).symm)
  have J : ∀ b, b = (rowB s k l && (decide (k < N) && decide (l < N))) → zEv fX11_couldSlip Q 142 [(0, .ref 47), (1, .int x), (2, .int (x / 100)), (3, .int (zrem (x / 10) 10)), (4, .int (zrem x 10)), (5, .int (zbl b)), (6, .int 0)] [] M := fun b hb => L 0 (by omega) 0 rfl b (by rw [hb]; show _ = (_ && true); rw [Bool.and_true])
  refine zc_of zkX11_couldSlip [142] 90 (Nat.le_of_ble_eq_true rfl) ⟨by decide, by decide, by decide, by decide, ?_⟩
  refine iNe e1 n_0 (by omega) (by omega) (fun d0 => ?_) (fun d0 => ?_)
  · refine iNe e1 n_1 (by omega) (by omega) (fun d1 => ?_) (fun d1 => ?_)
    · refine iNe e1 n_2 (by omega) (by omega) (fun d2 => ?_) (fun d2 => ?_)
      · have er : rowB s k l = (decide (k = 0) && decide (l = 0)) := by unfold rowB; rw [if_neg d0, if_neg d1, if_neg d2]
        rw [er] at J
        refine iGe n_0 hM (by omega) (by omega) (fun q => J false ?_) (fun q => iNe e2 n_0 (by omega) (by omega) (fun q2 => J false ?_) (fun q2 => iNe e3 n_0 (by omega) (by omega) (fun q3 => J false ?_) (fun q3 => J true ?_)))
        · symm; simp; omega
        · symm; simp [q2]
        · symm; simp [q3]
        · symm; simp [q2, q3]; omega
      · have er : rowB s k l = (decide (0 < k) && decide (l = 0)) := by unfold rowB; rw [if_neg d0, if_neg d1, if_pos d2]
        rw [er] at J
        refine k_X11_in (fun c1 c2 => bT ?_) (fun c => bF (J false ?_))
        · rw [Int64.le_iff_toInt_le, ltoInt (by omega), i64, e2, nI_toInt (by omega)] at c1
          rw [Int64.le_iff_toInt_le, i64, e2, nI_toInt (by omega), sub1 (by omega) hM] at c2
          refine iNe e3 n_0 (by omega) (by omega) (fun q3 => J false ?_) (fun q3 => J true ?_)
          · symm; simp [q3]
          · symm; simp [q3]; omega
        · rw [Int64.lt_iff_toInt_lt, Int64.lt_iff_toInt_lt, ltoInt (by omega), i64, e2, nI_toInt (by omega), sub1 (by omega) hM] at c
          symm; simp; omega
    · have er : rowB s k l = decide (k ≠ l) := by unfold rowB; rw [if_neg d0, if_pos d1]
      rw [er] at J
      refine iEq e2 e3 (by omega) (by omega) (fun q => J false ?_) (fun q => iGe e2 hM (by omega) (by omega) (fun q2 => J false ?_) (fun q2 => iGe e3 hM (by omega) (by omega) (fun q3 => J false ?_) (fun q3 => J true ?_)))
      · symm; simp [q]
      · symm; simp; omega
      · symm; simp; omega
      · symm; simp; omega
  · have er : rowB s k l = decide (k < l) := by unfold rowB; rw [if_pos d0]
    rw [er] at J
    refine iGe e2 e3 (by omega) (by omega) (fun q => J false ?_) (fun q => iGe e3 hM (by omega) (by omega) (fun q2 => J false ?_) (fun q2 => J true ?_))
    · symm; simp; omega
    · symm; simp; omega
    · symm; simp; omega
theorem Fl_len {N : Nat} {sn : Nat × (Nat → Nat) × (Nat → Nat)} : ∀ c, (Fl N sn c).length ≤ c
  | 0 => Nat.le_refl 0
  | c + 1 => by
    have h := Fl_len (N := N) (sn := sn) c
    show (bif okS N sn c then Fl N sn c ++ [c] else Fl N sn c).length ≤ c + 1
    cases okS N sn c with
    | true => show (Fl N sn c ++ [c]).length ≤ _; rw [List.length_append]; show _ + 1 ≤ _; omega
    | false => show (Fl N sn c).length ≤ _; omega
theorem fstF_app (l : List Nat) (c : Nat) : fstF (l ++ [c]) = if l.length = 0 then nI c else fstF l := by
  cases l with
  | nil => rfl
  | cons a r => rfl
theorem k_X11_slips {Q : Option Value → zM → Prop} {M : zM} {w : Int32} {N k : Nat} {sn : Nat × (Nat → Nat) × (Nat → Nat)} (hN8 : N ≤ 8) (hM : M 47 0 = nI N) (hS : mSn sn M) (hn : sn.1 ≤ 6) (hv : ∀ j, j < sn.1 → sn.2.1 j < N ∧ sn.2.2 j < N) (hw : w = nI k) (hk : k < 2) (h : Q (some (.int (if k = 0 then nI (Fl N sn 400).length else fstF (Fl N sn 400)))) M) : zCon fX11_slips [.ref 47, .int w] M Q := by
  have L : ∀ c, c ≤ 400 → ∀ x m f, x = nI c → m = nI (Fl N sn c).length → f = fstF (Fl N sn c) → zEv fX11_slips Q 20 [(0, .ref 47), (1, .int w), (2, .int m), (3, .int f), (4, .int x)] [] M := by
    refine zloop 400 ?_ ?_
    · intro x m f hx hm hf
      refine zev_go zkX11_slips [20] 60 (iGe hx n_400 (by omega) (by decide) (fun _ => ?_) (fun q => absurd q (by omega)))
      refine iNe hw n_0 (by omega) (by omega) (fun d => ?_) (fun d => ?_)
      · rw [if_neg d, ← hf] at h; exact h
      · rw [if_pos d, ← hm] at h; exact h
    · intro c hc ih x m f hx hm hf
      have hlen := Fl_len (N := N) (sn := sn) c
      refine zev_go zkX11_slips [20] 60 (iGe hx n_400 (by omega) (by decide) (fun q => absurd q (by omega)) (fun _ => ?_))
      refine k_X11_couldSlip hN8 hM hS hn hv hx hc (fun q => bT ?_) (fun q => bF ?_)
      · have e : Fl N sn (c + 1) = Fl N sn c ++ [c] := by show (bif okS N sn c then _ else _) = _; rw [q]; rfl
        refine iNe hm n_0 (by omega) (by omega) (fun d => ?_) (fun d => ?_)
        · refine ih _ _ _ (by rw [hx, nI_1]) ?_ ?_
          · rw [e, List.length_append, hm, nI_1]; rfl
          · rw [e, fstF_app, if_neg d]; exact hf
        · refine ih _ _ _ (by rw [hx, nI_1]) ?_ ?_
          · rw [e, List.length_append, hm, nI_1]; rfl
          · rw [e, fstF_app, if_pos d]; exact hx
      · have e : Fl N sn (c + 1) = Fl N sn c := by show (bif okS N sn c then _ else _) = _; rw [q]; rfl
        refine ih _ _ _ (by rw [hx, nI_1]) ?_ ?_
        · rw [e]; exact hm
        · rw [e]; exact hf
  refine zc_of zkX11_slips [20] 60 (Nat.le_of_ble_eq_true rfl) ?_
  refine k_in (S := 2) (by omega) l0_ (by decide) (fun j hj e => cT ?_) (fun ho => absurd hw (ho k hk))
  exact L 0 (by omega) 0 0 (-1) rfl rfl rfl
theorem km_slips {Q : Option Value → zM → Prop} {G : zG} {M : zM} {w : Int32} (hC : zD G M) (hV : zV G) (hq : Q (some (.int (o_slips G w))) M) : zCon fX11_slips [.ref 47, .int w] M Q := by
  obtain ⟨c1, c2, c3, c4, c5, c6, c7, c8, c9⟩ := id hC
  rcases znum w (n := 2) (by omega) with ⟨k, hk, e⟩ | ho
  · refine k_X11_slips (zTv_N hV.1) c1.1 c8 hV.2.2.2.2.2.2.1.1 hV.2.2.2.2.2.2.1.2 e hk ?_
    unfold o_slips at hq
    rw [show ix w 2 = some k by rw [e]; exact ix_in hk (by omega)] at hq
    match k, hk, hq with
    | 0, _, hq => exact hq
    | 1, _, hq => exact hq
  · unfold o_slips at hq
    rw [ix_out (by omega) (zout_of (by omega) ho)] at hq
    refine zc_of zkX11_slips [20] 60 (Nat.le_of_ble_eq_true rfl) ?_
    exact k_in (S := 2) (by omega) l0_ (by decide) (fun j hj e => absurd e (zout_of (by omega) ho j hj)) (fun _ => cF hq)
/-- the parts, and the greatest, row by row -/
def gpS (N w : Nat) (p : (Nat → Nat) × Nat) (c : Nat) : (Nat → Nat) × Nat := (nup p.1 (ov N (c / 100) (c / 10 % 10) (c % 10) false w) (p.1 (ov N (c / 100) (c / 10 % 10) (c % 10) false w) + 1), max p.2 (p.1 (ov N (c / 100) (c / 10 % 10) (c % 10) false w) + 1))
def gp (N w : Nat) (l : List Nat) : (Nat → Nat) × Nat := l.foldl (gpS N w) (fun _ => 0, 0)
theorem gp_app (N w : Nat) (l : List Nat) (c : Nat) : gp N w (l ++ [c]) = gpS N w (gp N w l) c := by unfold gp; rw [List.foldl_append]; rfl
theorem gp_le (N w : Nat) : ∀ (l : List Nat) (p : (Nat → Nat) × Nat) (b : Nat), (∀ v, p.1 v ≤ b) → p.2 ≤ b → (∀ v, (l.foldl (gpS N w) p).1 v ≤ b + l.length) ∧ (l.foldl (gpS N w) p).2 ≤ b + l.length := by
  intro l
  induction l with
  | nil => intro p b h1 h2; exact ⟨h1, h2⟩
  | cons c r ih =>
    intro p b h1 h2
    have h := ih (gpS N w p c) (b + 1) (fun v => ?_) ?_
    · rw [show b + (c :: r).length = b + 1 + r.length by show b + (r.length + 1) = _; omega]; exact h
    · show nup p.1 _ (p.1 _ + 1) v ≤ b + 1
      by_cases q : v = ov N (c / 100) (c / 10 % 10) (c % 10) false w
      · rw [q, nup_s]; have := h1 (ov N (c / 100) (c / 10 % 10) (c % 10) false w); omega
      · rw [nup_n _ _ q]; have := h1 v; omega
    · show max p.2 (p.1 _ + 1) ≤ b + 1
      have := h1 (ov N (c / 100) (c / 10 % 10) (c % 10) false w)
      omega
theorem gp_bd (N w : Nat) (l : List Nat) : (∀ v, (gp N w l).1 v ≤ l.length) ∧ (gp N w l).2 ≤ l.length := by
  have h := gp_le N w l (fun _ => 0, 0) 0 (fun _ => Nat.le_refl 0) (Nat.le_refl 0)
  rw [Nat.zero_add] at h
  exact h
theorem Fl_ok {N : Nat} {sn : Nat × (Nat → Nat) × (Nat → Nat)} : ∀ {n c : Nat}, c ∈ Fl N sn n → okS N sn c = true ∧ c < n
  | 0, c, h => by cases h
  | n + 1, c, h => by
    have h' : c ∈ (bif okS N sn n then Fl N sn n ++ [n] else Fl N sn n) := h
    cases q : okS N sn n with
    | true =>
      rw [q] at h'
      rcases List.mem_append.mp h' with h' | h'
      · have := Fl_ok h'; exact ⟨this.1, by omega⟩
      · have : c = n := by simpa using h'
        subst this; exact ⟨q, by omega⟩
    | false =>
      rw [q] at h'
      have := Fl_ok (n := n) h'
      exact ⟨this.1, by omega⟩
theorem okS_bd {N : Nat} {sn : Nat × (Nat → Nat) × (Nat → Nat)} {c : Nat} (h : okS N sn c = true) : c / 10 % 10 < N ∧ c % 10 < N := by
  unfold okS at h
  simp only [Bool.and_eq_true, decide_eq_true_eq] at h
  exact h.2.1
