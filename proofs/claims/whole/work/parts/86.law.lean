/-! THE CLAIM OUT OF ONE WALK OF THE LAW'S BODY. Your part is whole_start (and what it stands on); all else here is the same for every law, but numbers. -/
def R_law : String := "StreetTonguesLaw"
def lw_P (b : Addr) (xs : List Int32) (args : Array Value) (s : State) : Prop := args = #[.ref b] ∧ s.IntsAt b xs ∧ xs.length ≤ 3072 ∧ (Jvm.Cond.and given_1 narrow_1).before args s = true
def lw_Q (_ : Array Value) (s : State) (o : Outcome) (t : State) : Prop := o = .returned (some (.int 1)) ∧ Framed s o t [] 80 7935
def lw_Z (below : List Frame) (a : Array Value) (s : State) : State → Prop := fun t => ∃ o, t.status = .running ∧ Ended t below o ∧ lw_Q a s o t
/-- the law's own end, with 1 on the stack, nothing written that was there before, its room as the claim has it -/
theorem lw_ret {p : Program} {l : Launch} {e : Env} {s : State} {m : MethodId} {below : List Frame} {meth : Method} {c : Code} {b : Nat} (hx : p.tables.exec = Jvm.exec) (hb : c.code = code) (hr : meth.sig.returnType = ret) (hlocks : meth.locks = false) {pc : Nat} {H : Heap} {ls : Array Slot} (hdg : decode code pc = .ok (.ireturn, 1)) : W p l e room_1 s m #[Value.ref b] below meth c H [] 80 7935 (lw_Z below #[Value.ref b] s) (F0 m pc ls [.int 1]) := by
  intro T hT X
  obtain ⟨fs, hret, hrun, hended, hW, hframe⟩ := X.leave (v := some (.int 1)) (hlocks := hlocks) (fun h => by rw [hr] at h; cases h)
  have hmeth' : T.vm.method? m = some meth := X.method'
  refine ⟨T.setFrames fs, ?_, .returned (some (.int 1)), hrun, hended, rfl, ⟨_, rfl⟩, hW, hframe⟩
  jvm_step X.here [X.here.top, hx, hb, hdg, hmeth', hr, ret, narrow_b1]
  (try refine ⟨rfl, ?_⟩); (try refine ⟨rfl, ?_⟩)
  first | (intro acts; rw [hret _ acts rfl rfl rfl]) | rw [hret _ _ rfl rfl rfl]
  exact Steps.refl _
/-- what holds at the law's entry: the machine, the code, the tables' words (any of lw_tbl by 'hts w (by decide +kernel)'), the script of L ints xs at the cell b, what the Statement gives of the start (any of its parts by flat_of_before) -/
def lw_At (p : Program) (s : State) (m : MethodId) (meth : Method) (c : Code) (b L : Nat) (xs : Nat → Int32) : Prop :=
  p.tables.exec = Jvm.exec ∧ c.code = code ∧ meth.sig.returnType = ret ∧ c.maxLocals = 4 ∧ s.vm.findClass R_law = some m.cls ∧ (∀ w ∈ lw_tbl, w.before #[Value.ref b] s = true) ∧ va_X b L xs s s.heap ∧ b < s.heap.size ∧ meth.locks = false ∧ (Jvm.Cond.and given_1 narrow_1).before #[Value.ref b] s = true
/-- what stands fast while the law runs -/
def lX (p : Program) (s : State) (m : MethodId) (meth : Method) (c : Code) (b L : Nat) (xs : Nat → Int32) (D : va_G) (cI cZ : ClassId) (ad : Nat → Nat) : Prop :=
  p.tables.exec = Jvm.exec ∧ c.code = code ∧ meth.sig.returnType = ret ∧ c.maxLocals = 4 ∧ s.vm.findClass R_law = some m.cls ∧ (∀ w ∈ zt, w.before #[Value.ref b] s = true) ∧ va_X b L xs s s.heap ∧ b < s.heap.size ∧ meth.locks = false ∧ va_K D vwCl (ztys cI cZ) s ∧ zInj ad ∧ (∀ i : Nat, i < 80 → s.heap.size ≤ ad i) ∧ zN s ∧ L ≤ 3072
def lEv (p : Program) (l : Launch) (e : Env) (s : State) (m : MethodId) (below : List Frame) (meth : Method) (c : Code) (b : Nat) (D : va_G) (cI cZ : ClassId) (ad : Nat → Nat) (x : Int32) (pc : Nat) (st : List Value) (M : zM) : Prop :=
  ∀ (H : Heap) (locs : List Loc) (ls : Array Slot), va_P D vwCl (zWd cI cZ ad M) H → va_S (fun q : Nat => s.heap.size ≤ q) s.heap H locs → lv_has ls 4 [(0, .ref b), (1, .ref (ad 0)), (2, .ref (ad 47)), (3, .int x)] → W p l e room_1 s m #[Value.ref b] below meth c H locs 80 7935 (lw_Z below #[Value.ref b] s) (F0 m pc ls st)
def dq (pc : Nat) (i : Instr) (n : Nat) : Bool := match decode code pc with
  | .ok (j, k) => decide (j = i) && Nat.beq k n
  | _ => false
theorem dq_of {pc : Nat} {i : Instr} {n : Nat} (h : dq pc i n = true) : decode code pc = .ok (i, n) := by
  unfold dq at h
  split at h
  · next j k hd =>
    rw [Bool.and_eq_true, decide_eq_true_eq] at h
    rw [hd, h.1, Nat.eq_of_beq_eq_true h.2]
  · cases h
/-- an argument out of the script: as it is, or as a truth -/
def lblk : Nat → List (Nat × Bool) → Bool
  | _, [] => true
  | pc, (k, false) :: r => dq pc (.aload_n 0) 1 && (dq (pc + 1) (.iload_n 3) 1 && (dq (pc + 2) (.iconst (Int.ofNat k)) 1 && (dq (pc + 3) .iadd 1 && (dq (pc + 4) .iaload 1 && (Nat.blt k 6 && lblk (pc + 5) r)))))
  | pc, (k, true) :: r => dq pc (.aload_n 0) 1 && (dq (pc + 1) (.iload_n 3) 1 && (dq (pc + 2) (.iconst (Int.ofNat k)) 1 && (dq (pc + 3) .iadd 1 && (dq (pc + 4) .iaload 1 && (Nat.blt k 6 && (dq (pc + 5) (.ifCond .eq 7) 3 && (dq (pc + 8) (.iconst 1) 1 && (dq (pc + 9) (.goto 4) 3 && (dq (pc + 12) (.iconst 0) 1 && lblk (pc + 13) r)))))))))
def llen : List (Nat × Bool) → Nat
  | [] => 0
  | (_, false) :: r => 5 + llen r
  | (_, true) :: r => 13 + llen r
def lv1 (xs : Nat → Int32) (x : Int32) (k : Nat) : Int32 := xs (x + Int32.ofInt (Int.ofNat k)).toNatClampNeg
def lval (xs : Nat → Int32) (x : Int32) : Nat × Bool → Value
  | (k, false) => .int (lv1 xs x k)
  | (k, true) => .int (zbl (!decide (lv1 xs x k = 0)))
section LW
variable {p : Program} {l : Launch} {e : Env} {s : State} {m : MethodId} {below : List Frame} {meth : Method} {c : Code} {b L : Nat} {xs : Nat → Int32} {D : va_G} {cI cZ : ClassId} {ad : Nat → Nat} {x : Int32} {M : zM}
theorem l_arg (X : lX p s m meth c b L xs D cI cZ ad) {j k pc : Nat} {st : List Value} (hx : x = nI j) (hj : j + 6 ≤ L) (hk : k < 6) (h1 : dq pc (.aload_n 0) 1 = true) (h2 : dq (pc + 1) (.iload_n 3) 1 = true) (h3 : dq (pc + 2) (.iconst (Int.ofNat k)) 1 = true) (h4 : dq (pc + 3) .iadd 1 = true) (h5 : dq (pc + 4) .iaload 1 = true) (K : lEv p l e s m below meth c b D cI cZ ad x (pc + 5) (.int (lv1 xs x k) :: st) M) : lEv p l e s m below meth c b D cI cZ ad x pc st M := by
  obtain ⟨hx', hb, hr, hml, hown, hts, hX, hbl, hlocks, hK, hin, hAd, hN, hL⟩ := X
  intro H locs ls hP hS hl
  have hbA : ¬ (fun q : Nat => s.heap.size ≤ q) b := Nat.not_le.mpr hbl
  have e1 : x + Int32.ofInt (Int.ofNat k) = nI (j + k) := by rw [hx]; exact nI_add j k
  refine lv_aload_n hx' hb (dq_of h1) rfl (lv_at hl 0 rfl) ?_
  refine lv_iload_n hx' hb (dq_of h2) rfl (lv_at hl 3 rfl) ?_
  refine lv_iconst hx' hb (dq_of h3) rfl ?_
  refine lv_iadd hx' hb (dq_of h4) ?_
  refine va_sld hx' hb hX hbl hbA hS (by rw [e1]; exact vp_in_nI (by omega) (by omega)) (dq_of h5) ?_
  exact K H locs ls hP hS hl
theorem l_args (X : lX p s m meth c b L xs D cI cZ ad) {j : Nat} (hx : x = nI j) (hj : j + 6 ≤ L) : ∀ (as : List (Nat × Bool)) {pc : Nat} {st : List Value}, lblk pc as = true → lEv p l e s m below meth c b D cI cZ ad x (pc + llen as) ((as.map (lval xs x)).reverse ++ st) M → lEv p l e s m below meth c b D cI cZ ad x pc st M := by
  intro as
  induction as with
  | nil => intro pc st _ K; exact K
  | cons a r ih =>
  obtain ⟨k, tf⟩ := a
  cases tf with
  | false =>
    intro pc st h K
    have h' : (dq pc (.aload_n 0) 1 && (dq (pc + 1) (.iload_n 3) 1 && (dq (pc + 2) (.iconst (Int.ofNat k)) 1 && (dq (pc + 3) .iadd 1 && (dq (pc + 4) .iaload 1 && (Nat.blt k 6 && lblk (pc + 5) r)))))) = true := h
    simp only [Bool.and_eq_true] at h'
    obtain ⟨h1, h2, h3, h4, h5, h6, h7⟩ := h'
    refine l_arg X hx hj (Nat.blt_eq.mp h6) h1 h2 h3 h4 h5 (ih h7 ?_)
    have e1 : pc + llen ((k, false) :: r) = pc + 5 + llen r := by show pc + (5 + llen r) = _; omega
    rw [e1] at K
    have e2 : (List.map (lval xs x) ((k, false) :: r)).reverse ++ st = (List.map (lval xs x) r).reverse ++ (.int (lv1 xs x k) :: st) := by
      rw [List.map_cons, List.reverse_cons, List.append_assoc]; rfl
    rw [e2] at K
    exact K
  | true =>
    intro pc st h K
    have h' : (dq pc (.aload_n 0) 1 && (dq (pc + 1) (.iload_n 3) 1 && (dq (pc + 2) (.iconst (Int.ofNat k)) 1 && (dq (pc + 3) .iadd 1 && (dq (pc + 4) .iaload 1 && (Nat.blt k 6 && (dq (pc + 5) (.ifCond .eq 7) 3 && (dq (pc + 8) (.iconst 1) 1 && (dq (pc + 9) (.goto 4) 3 && (dq (pc + 12) (.iconst 0) 1 && lblk (pc + 13) r)))))))))) = true := h
    simp only [Bool.and_eq_true] at h'
    obtain ⟨h1, h2, h3, h4, h5, h6, g1, g2, g3, g4, h7⟩ := h'
    have X' := X
    obtain ⟨hx', hb, hr, hml, hown, hts, hX, hbl, hlocks, hK, hin, hAd, hN, hL⟩ := X'
    have e1 : pc + llen ((k, true) :: r) = pc + 13 + llen r := by show pc + (13 + llen r) = _; omega
    rw [e1] at K
    have e2 : (List.map (lval xs x) ((k, true) :: r)).reverse ++ st = (List.map (lval xs x) r).reverse ++ (.int (zbl (!decide (lv1 xs x k = 0))) :: st) := by
      rw [List.map_cons, List.reverse_cons, List.append_assoc]; rfl
    rw [e2] at K
    have K' := ih h7 K
    refine l_arg X hx hj (Nat.blt_eq.mp h6) h1 h2 h3 h4 h5 ?_
    intro H locs ls hP hS hl
    refine lv_if_eq (tgt := pc + 12) hx' hb (dq_of g1) (by omega) (fun z => ?_) (fun z => ?_)
    · refine lv_iconst (v := 0) hx' hb (dq_of g4) (by decide) ?_
      rw [z] at K'
      exact K' H locs ls hP hS hl
    · refine lv_iconst (v := 1) hx' hb (dq_of g2) (by decide) ?_
      refine lv_goto (tgt := pc + 13) hx' hb (dq_of g3) (by omega) ?_
      rw [decide_eq_false z] at K'
      exact K' H locs ls hP hS hl
theorem lback {H : Heap} {locs : List Loc} {pc : Nat} {ls : Array Slot} {rest st0 : List Value} {a : Array Value} {Q' : Option Value → zM → Prop} {Qf : State → Prop} {A : Nat → Prop}
    (hr : va_Run p l e room_1 s m #[Value.ref b] below meth c H locs 80 7935 0 0 (F0 m pc ls st0) rest (zQc D cI cZ ad (zA ad H.size) Q' a) (zA ad H.size)) (hS : va_S A s.heap H locs) (hAd : ∀ i : Nat, i < 80 → A (ad i)) (hA : ∀ q : Nat, s.heap.size ≤ q → A q)
    (kk : ∀ (v : Option Value) (M' : zM) (H1 : Heap) (locs1 : List Loc), zInt v → Q' v M' → va_P D vwCl (zWd cI cZ ad M') H1 → va_S A s.heap H1 locs1 → W p l e room_1 s m #[Value.ref b] below meth c H1 locs1 80 7935 Qf (F0 m (pc + 3) ls (v.toList ++ rest))) : W p l e room_1 s m #[Value.ref b] below meth c H locs 80 7935 Qf (F0 m pc ls st0) := by
  intro T hT X
  obtain ⟨v, st₀, t, T', L, h0, X', hL, e1, e2, ⟨⟨v', M', hv, hi, hq, hP⟩, hz, hk⟩, st⟩ := hr T hT X
  cases hv
  rw [h0] at hz hk
  have hin := zA_in hAd hA hS
  obtain ⟨t2, a1, b1⟩ := kk v M' T'.heap (locs ++ L) hi hq (by rw [e1]; exact hP)
    ⟨Nat.le_trans hS.1 (by rw [e1]; exact hz), fun q h1 h2 => by rw [e1, hk q (Nat.lt_of_lt_of_le h1 hS.1) (fun z => h2 (hin q z))]; exact hS.2.1 q h1 h2, fun q hq => by
      rcases List.mem_append.mp hq with h | h
      · exact hS.2.2 q h
      · exact hin _ (hL q h)⟩ T' rfl X'
  exact ⟨t2, st t2 a1, b1⟩
theorem l_call (X : lX p s m meth c b L xs D cI cZ ad) {g : zF} (hg : zokF g) (hfl : zflv g false) {n k pc : Nat} {fl : List (Option Nat)} (hk : zget zlay k = some (.inl (g.1.1, fl))) (hL : .methodLink R_law n g.1.2.1 ∈ zt) {vs rest : List Value} (hvs : vs.map (zv ad) = vs) (hlen : (parseMethodDescriptor g.1.2.1.desc).map (fun d => d.parameters.length) = some vs.length) (hro : (zrm g).frames + 1 ≤ 9 ∧ 8 + (g.2.1.1 + 11) + (zrm g).locals ≤ 342) (hrest : (rest.map fun v => v.category).sum ≤ 8) (hd : dq pc (.invokevirtual n) 3 = true) (hC : zCon g (.ref k :: vs) M (fun v M' => lEv p l e s m below meth c b D cI cZ ad x (pc + 3) (v.toList ++ rest) M')) : lEv p l e s m below meth c b D cI cZ ad x pc (vs.reverse ++ .ref (ad k) :: rest) M := by
  obtain ⟨⟨hcode, hpl, hcls, hmh, hini⟩, -⟩ := hg
  have hL2 : .instanceMethod g.1.2.1 ∈ zt ∧ .selects g.1.2.1.cls g.1.2.1 g.1.2.1 ∈ zt := hfl
  obtain ⟨hx', hb, hr, hml, hown, hts, hX, hbl, hlocks, hK, hin, hAd, hN, hLL⟩ := X
  intro H locs ls hP hS hl
  have hci12 : g.1.1 < 12 := by
    have h2 := zlay_cls _ (List.mem_of_getElem? (by rw [← zget_eq]; exact hk))
    simpa using h2
  obtain ⟨q, hq, hqn⟩ := zcls hci12
  have hC' := hC l D cI cZ ad H.size
  rw [List.map_cons, hvs] at hC'
  have hrun := va_runV (l := l) (e := e) (below := below) (meth := meth) (R := room_1) (H := H) (locs := locs) (cells := 80) (slots := 7935) (n := vs.length) (index := n) (own := R_law) (C := g.1.2.1.cls) (b := ad k) (As := vs) (rest := rest) (g := F0 m pc ls (vs.reverse ++ .ref (ad k) :: rest)) ⟨hx', hb, hml, hown, hts⟩ hC'
    ⟨callB_of vs.length hts (zws_good hcode) rfl rfl rfl (hts _ hini) (hts _ hL) ⟨hmh.1, hmh.2, hlen⟩ hro, hts _ hL2.1, hts _ hL2.2⟩
    ⟨by
      have := zPcB (vs := .ref k :: vs) (D := D) (cI := cI) (cZ := cZ) (ad := ad) (M := M) (sz := H.size)
      intro a U g mk q
      obtain ⟨q0, q1, qP, qK, qI, qN⟩ := q
      exact ⟨q0, q1, qP, va_K.moved (u := U) (U := U.calling g mk a) (Vm.Alike.refl U.vm) qK, qI, fun w hw => va_Nw.same (u := U) (U := U.calling g mk a) rfl rfl (qN w hw)⟩, by
      have hrc := va_recv hK hP (ci := g.1.1) (q0 := k) hq (by rw [zWd_at _ _ _ _ (zlay_lt hk), zcell_obj hk])
      rw [hqn] at hrc
      rw [hcls]
      exact hrc, fun U hU hW => ⟨rfl, by rw [hU], by rw [hU]; exact hP, va_K.moved hW.alike hK, hin, fun w hw => va_Nw.warmM hW (hN w hw)⟩⟩
    rfl rfl hl.1 rfl (lv_room hrest) (dq_of hd) ⟨Nat.le_refl 80, Nat.le_refl 7935⟩
  refine lback hrun hS hAd (fun _ h => h) (fun v M' H1 locs1 hi hq1 hP1 hS1 => ?_)
  exact hq1 H1 locs1 ls hP1 hS1 hl
end LW
