/-! calls, and the step as a whole -/
theorem zgood : ∀ w ∈ zt, goodWord w = true := fun w hw => (List.mem_filter.mp hw).2
theorem zws_good {g : zF} (h : .code g.1.2.1 g.1.2.2 g.2.1.1 g.2.1.2 ∈ zt) : GoodIn zt (zws g) := by
  intro w hw
  have hm : w ∈ zt := by
    rcases List.mem_cons.mp hw with h1 | h1
    · rw [h1]; exact h
    · exact h1
  exact ⟨hm, good_of_word (zgood w hm)⟩
theorem zA_in {ad : Nat → Nat} {A : Nat → Prop} {s : State} {H : Heap} {locs : List Loc} (hAd : ∀ i : Nat, i < 80 → A (ad i)) (hA : ∀ q : Nat, s.heap.size ≤ q → A q) (hS : va_S A s.heap H locs) : ∀ q : Nat, zA ad H.size q → A q := by
  intro q h
  rcases h with ⟨k, hk, rfl⟩ | h
  · exact hAd k hk
  · exact hA q (Nat.le_trans hS.1 h)
theorem zback {p : Program} {l : Launch} {e : Env} {R : Room} {s : State} {m : MethodId} {args : Array Value} {below : List Frame} {meth : Method} {c : Code} {H : Heap} {locs : List Loc} {Qf : State → Prop} {pc : Nat} {ls : Array Slot} {rest st0 : List Value} {a : Array Value} {D : va_G} {cI cZ : ClassId} {ad : Nat → Nat} {A : Nat → Prop} {Q' : Option Value → zM → Prop}
    (hr : va_Run p l e R s m args below meth c H locs 0 0 0 0 (F0 m pc ls st0) rest (zQc D cI cZ ad (zA ad H.size) Q' a) (zA ad H.size)) (hS : va_S A s.heap H locs) (hAd : ∀ i : Nat, i < 80 → A (ad i)) (hA : ∀ q : Nat, s.heap.size ≤ q → A q)
    (kk : ∀ (v : Option Value) (M' : zM) (H1 : Heap) (locs1 : List Loc), zInt v → Q' v M' → va_P D vwCl (zWd cI cZ ad M') H1 → va_S A s.heap H1 locs1 → W p l e R s m args below meth c H1 locs1 0 0 Qf (F0 m (pc + 3) ls (v.toList ++ rest))) : W p l e R s m args below meth c H locs 0 0 Qf (F0 m pc ls st0) := by
  intro T hT X
  obtain ⟨v, st₀, t, T', L, h0, X', hL, e1, e2, ⟨⟨v', M', hv, hi, hq, hP⟩, hz, hk⟩, st⟩ := hr T hT X
  cases hv
  rw [h0] at hz hk
  have hin := zA_in hAd hA hS
  obtain ⟨t2, a1, b1⟩ := kk v M' T'.heap (locs ++ L) hi hq (by rw [e1]; exact hP)
    ⟨Nat.le_trans hS.1 (by rw [e1]; exact hz), fun q h1 h2 => by rw [e1, hk q (Nat.lt_of_lt_of_le h1 hS.1) (fun z => h2 (hin q z))]; exact hS.2.1 q h1 h2, fun q hq => by
      rcases List.mem_append.mp hq with h | h
      · exact hS.2.2 q h
      · exact hin _ (hL q h)⟩ T' rfl X'
  exact ⟨t2, st t2 a1, b1⟩
theorem zPcB {vs : List Value} {D : va_G} {cI cZ : ClassId} {ad : Nat → Nat} {M : zM} {sz : Nat} : FrameBlind (va_Pc vs (fun U => U.heap.size = sz ∧ va_P D vwCl (zWd cI cZ ad M) U.heap ∧ va_K D vwCl (ztys cI cZ) U ∧ zInj ad ∧ zN U)) := by
  intro a U g mk q
  obtain ⟨q0, q1, qP, qK, qI, qN⟩ := q
  exact ⟨q0, q1, qP, va_K.moved (u := U) (U := U.calling g mk a) (Vm.Alike.refl U.vm) qK, qI, fun w hw => va_Nw.same (u := U) (U := U.calling g mk a) rfl rfl (qN w hw)⟩
theorem zint_map {ad : Nat → Nat} {v : Option Value} (h : zInt v) (r : List Value) : (v.toList ++ r).map (zv ad) = v.toList ++ r.map (zv ad) := by
  rcases h with rfl | ⟨x, rfl⟩ <;> rfl
theorem zroom_of {f g : zF} {r : List Value} (h : zroom f g r = true) : (zrm g).frames + 1 ≤ (zrm f).frames ∧ 8 + (g.2.1.1 + 11) + (zrm g).locals ≤ (zrm f).locals ∧ zcat r ≤ 8 := by
  unfold zroom at h
  rw [Bool.and_eq_true, Bool.and_eq_true] at h
  exact ⟨Nat.le_of_ble_eq_true h.1, Nat.le_of_ble_eq_true h.2.1, Nat.le_of_ble_eq_true h.2.2⟩
theorem zinvV_of {f : zF} {C : zF → List Value → Prop} {a b : Nat} {st : List Value} (h : zinvV f C a b st) : ∃ g k r ci fl, zget zAll a = some g ∧ st.drop b = .ref k :: r ∧ zget zlay k = some (.inl (ci, fl)) ∧ ci = g.1.1 ∧ zroom f g r = true ∧ (st.take b).length = b ∧ C g (.ref k :: (st.take b).reverse) := by
  unfold zinvV at h
  split at h
  · next g hg =>
    obtain ⟨k, r, hst, h2⟩ := zr1_of h
    split at h2
    · next ci fl hk =>
      obtain ⟨hc, h3⟩ := zbif_of h2
      rw [Bool.and_eq_true, Bool.and_eq_true] at hc
      exact ⟨g, k, r, ci, fl, hg, hst, hk, Nat.eq_of_beq_eq_true hc.1, hc.2.1, Nat.eq_of_beq_eq_true hc.2.2, h3⟩
    · exact h2.elim
  · exact h.elim
theorem zinvS_of {f : zF} {C : zF → List Value → Prop} {a b : Nat} {st : List Value} (h : zinvS f C a b st) : ∃ g, zget zAll a = some g ∧ zroom f g (st.drop b) = true ∧ (st.take b).length = b ∧ C g (st.take b).reverse := by
  unfold zinvS at h
  split at h
  · next g hg =>
    obtain ⟨hc, h3⟩ := zbif_of h
    rw [Bool.and_eq_true] at hc
    exact ⟨g, hg, hc.1, Nat.eq_of_beq_eq_true hc.2, h3⟩
  · exact h.elim
theorem zcls {ci : Nat} (h : ci < 12) : ∃ q : vw_C, vwCl[ci]? = some q ∧ q.1 = zown ci := by
  match ci, h with
  | 0, _ => exact ⟨_, rfl, rfl⟩
  | 1, _ => exact ⟨_, rfl, rfl⟩
  | 2, _ => exact ⟨_, rfl, rfl⟩
  | 3, _ => exact ⟨_, rfl, rfl⟩
  | 4, _ => exact ⟨_, rfl, rfl⟩
  | 5, _ => exact ⟨_, rfl, rfl⟩
  | 6, _ => exact ⟨_, rfl, rfl⟩
  | 7, _ => exact ⟨_, rfl, rfl⟩
  | 8, _ => exact ⟨_, rfl, rfl⟩
  | 9, _ => exact ⟨_, rfl, rfl⟩
  | 10, _ => exact ⟨_, rfl, rfl⟩
  | 11, _ => exact ⟨_, rfl, rfl⟩
theorem zlay_cls : ∀ x ∈ zlay, (match x with | .inl q => decide (q.1 < 12) | .inr _ => true) = true := by decide +kernel
theorem zs_virtual {f : zF} {Q : Option Value → zM → Prop} {pc : Nat} {E : zE} {st : List Value} {M : zM} {n a b : Nat} (hd : decode f.1.2.2 pc = .ok (.invokevirtual n, 3)) (hL : zokML (f.1.1, n, a, 0)) (hb2 : ∀ g, zget zAll a = some g → (parseMethodDescriptor g.1.2.1.desc).map (fun d => d.parameters.length) = some b) (hg : ∀ g, zget zAll a = some g → zokF g) (ha : a < 1000)
    (h : zinvV f (fun g vs => zCon g vs M (fun v M' => zEv f Q (pc + 3) E (v.toList ++ st.drop (b + 1)) M')) a b st) : zEv f Q pc E st M := by
  obtain ⟨g, k, r, ci, fl, hga, hst, hk, hci, hro, hlen, hC⟩ := zinvV_of h
  obtain ⟨⟨hcode, hpl, hcls, hmh, hini⟩, -⟩ := hg g hga
  obtain ⟨hr1, hr2, hr3⟩ := zroom_of hro
  have hL' : .methodLink (zown f.1.1) n g.1.2.1 ∈ zt ∧ .instanceMethod g.1.2.1 ∈ zt ∧ .selects g.1.2.1.cls g.1.2.1 g.1.2.1 ∈ zt := by
    unfold zokML at hL
    split at hL
    · next h1 => exact absurd h1 (by show ¬ a = 1003; omega)
    · next h1 => exact absurd h1 (by show ¬ a = 1004; omega)
    · next h1 => exact absurd h1 (by show ¬ a = 1005; omega)
    · have e : zget zAll (f.1.1, n, a, 0).2.2.1 = some g := hga
      rw [e] at hL
      exact hL
  have hdr : st.drop (b + 1) = r := by rw [← List.drop_drop, hst]; rfl
  rw [hdr] at hC
  have hsp : st = (st.take b) ++ .ref k :: r := by rw [← hst, List.take_append_drop]
  intro p l e s m args below meth c D cI cZ ad A X H locs ls hP hS hl
  obtain ⟨hx, hb, hr, hml, hown, hts, hlocks, hK, hin, hAd, hA, hN⟩ := id X
  have hci12 : ci < 12 := by
    have h2 := zlay_cls _ (List.mem_of_getElem? (by rw [← zget_eq]; exact hk))
    simpa using h2
  obtain ⟨q, hq, hqn⟩ := zcls hci12
  have hD := zWd_D cI cZ ad M hin hAd
  have hrun := va_runV (l := l) (e := e) (below := below) (meth := meth) (R := zrm f) (H := H) (locs := locs) (cells := 0) (slots := 0) (n := b) (index := n) (own := zown f.1.1) (C := g.1.2.1.cls) (b := ad k) (As := ((st.take b).reverse).map (zv ad)) (rest := r.map (zv ad)) (g := F0 m pc ls (st.map (zv ad))) ⟨hx, hb, hml, hown, hts⟩ (hC l D cI cZ ad H.size)
    ⟨callB_of b hts (zws_good hcode) rfl rfl rfl (hts _ hini) (hts _ hL'.1) ⟨hmh.1, hmh.2, hb2 g hga⟩ ⟨hr1, hr2⟩, hts _ hL'.2.1, hts _ hL'.2.2⟩
    ⟨zPcB, by
      have hrc := va_recv hK hP (ci := ci) (q0 := k) hq (by rw [zWd_at _ _ _ _ (zlay_lt hk), zcell_obj hk])
      rw [hqn, hci] at hrc
      rw [hcls]
      exact hrc, fun U hU hW => ⟨by simp [zv], by rw [hU], by rw [hU]; exact hP, va_K.moved hW.alike hK, hin, fun w hw => va_Nw.warmM hW (hN w hw)⟩⟩
    rfl (by rw [List.length_map, List.length_reverse]; exact hlen) hl.1 (by
      show st.map (zv ad) = _
      conv => lhs; rw [hsp]
      simp [List.map_append, List.map_reverse, zv]) (lv_room (by rw [zcat_map]; exact hr3)) hd ⟨Nat.le_refl 0, Nat.le_refl 0⟩
  refine zback hrun hS hAd hA (fun v M' H1 locs1 hi hq1 hP1 hS1 => ?_)
  rw [← zint_map hi]
  exact hq1 p l e s m args below meth c D cI cZ ad A X H1 locs1 ls hP1 hS1 hl
theorem zs_static {f : zF} {Q : Option Value → zM → Prop} {pc : Nat} {E : zE} {st : List Value} {M : zM} {n a b fv : Nat} (hd : decode f.1.2.2 pc = .ok (.invokestatic n, 3)) (hfv : fv = 1 ∨ fv = 2) (hL : zokML (f.1.1, n, a, fv)) (hb2 : ∀ g, zget zAll a = some g → (parseMethodDescriptor g.1.2.1.desc).map (fun d => d.parameters.length) = some b) (hg : ∀ g, zget zAll a = some g → zokF g) (ha : a < 1000)
    (h : zinvS f (fun g vs => zCon g vs M (fun v M' => zEv f Q (pc + 3) E (v.toList ++ st.drop b) M')) a b st) : zEv f Q pc E st M := by
  obtain ⟨g, hga, hro, hlen, hC⟩ := zinvS_of h
  obtain ⟨⟨hcode, hpl, hcls, hmh, hini⟩, -⟩ := hg g hga
  obtain ⟨hr1, hr2, hr3⟩ := zroom_of hro
  have hL' : (.methodLink (zown f.1.1) n g.1.2.1 ∈ zt ∧ .static g.1.2.1 ∈ zt) ∨ ((f.1.1, n, g.1.2.1) ∈ zNest ∧ .static g.1.2.1 ∈ zt) := by
    unfold zokML at hL
    split at hL
    · next h1 => exact absurd h1 (by show ¬ a = 1003; omega)
    · next h1 => exact absurd h1 (by show ¬ a = 1004; omega)
    · next h1 => exact absurd h1 (by show ¬ a = 1005; omega)
    · have e : zget zAll (f.1.1, n, a, fv).2.2.1 = some g := hga
      rw [e] at hL
      rcases hfv with rfl | rfl
      · exact Or.inl hL
      · exact Or.inr hL
  intro p l e s m args below meth c D cI cZ ad A X H locs ls hP hS hl
  obtain ⟨hx, hb, hr, hml, hown, hts, hlocks, hK, hin, hAd, hA, hN⟩ := id X
  have hD := zWd_D cI cZ ad M hin hAd
  have hst : st.map (zv ad) = (((st.take b).reverse).map (zv ad)).reverse ++ (st.drop b).map (zv ad) := by
    rw [← List.map_reverse, List.reverse_reverse, ← List.map_append, List.take_append_drop]
  have hpre : PreS s H (va_Pc (((st.take b).reverse).map (zv ad)) (fun U => U.heap.size = H.size ∧ va_P D vwCl (zWd cI cZ ad M) U.heap ∧ va_K D vwCl (ztys cI cZ) U ∧ zInj ad ∧ zN U)) (((st.take b).reverse).map (zv ad)) := ⟨zPcB, fun U hU hW => ⟨rfl, by rw [hU], by rw [hU]; exact hP, va_K.moved hW.alike hK, hin, fun w hw => va_Nw.warmM hW (hN w hw)⟩⟩
  have hrun : va_Run p l e (zrm f) s m args below meth c H locs 0 0 0 0 (F0 m pc ls (st.map (zv ad))) ((st.drop b).map (zv ad)) (zQc D cI cZ ad (zA ad H.size) (fun v M' => zEv f Q (pc + 3) E (v.toList ++ st.drop b) M') (((st.take b).reverse).map (zv ad)).toArray) (zA ad H.size) := by
    rcases hL' with hL' | hL'
    · exact va_runS (n := b) (index := n) (own := zown f.1.1) ⟨hx, hb, hml, hown, hts⟩ (hC l D cI cZ ad H.size)
        ⟨callB_of b hts (zws_good hcode) rfl rfl rfl (hts _ hini) (hts _ hL'.1) ⟨hmh.1, hmh.2, hb2 g hga⟩ ⟨hr1, hr2⟩, hts _ hL'.2⟩
        hpre rfl (by rw [List.length_map, List.length_reverse]; exact hlen) hl.1 hst (lv_room (by rw [zcat_map]; exact hr3)) hd ⟨Nat.le_refl 0, Nat.le_refl 0⟩
    · exact va_runSN (n := b) (index := n) (own := zown f.1.1) (host := zhost) ⟨hx, hb, hml, hown, hts⟩ (hC l D cI cZ ad H.size)
        ⟨⟨⟨rfl, rfl, hr1, hr2, pay_in hts (zws_good hcode), List.mem_cons_self⟩, hts _ hcode, hts _ hini, hmh, fun sig hs => by have h2 := hb2 g hga; rw [hs] at h2; exact (Option.some.inj h2).symm, va_Nw.use rfl (hN _ hL'.1)⟩, hts _ hL'.2, trivial⟩
        hpre rfl (by rw [List.length_map, List.length_reverse]; exact hlen) hl.1 hst (lv_room (by rw [zcat_map]; exact hr3)) hd ⟨Nat.le_refl 0, Nat.le_refl 0⟩
  refine zback hrun hS hAd hA (fun v M' H1 locs1 hi hq1 hP1 hS1 => ?_)
  rw [← zint_map hi]
  exact hq1 p l e s m args below meth c D cI cZ ad A X H1 locs1 ls hP1 hS1 hl
/-- a contract out of the walk from the entry -/
theorem zcon_of {f : zF} {Q : Option Value → zM → Prop} {vs : List Value} {M : zM} (hf : zokF f) (hn : (lg_sl vs).length ≤ f.2.1.1) (h : zEv f Q 0 (lv_args 0 vs) [] M) : zCon f vs M Q := by
  intro l D cI cZ ad sz
  obtain ⟨⟨hcode, hpl, hcls, hmh, hini⟩, -⟩ := hf
  refine Met.ofW (cc := f.1.2.2) (maxL := f.2.1.1) (ret := f.2.1.2) hpl rfl ?_
  intro p e s m args below meth c s₁ B hml hv
  obtain ⟨rfl, hsz, hP, hK, hin, hN⟩ := hv
  have hts0 := atoms_spec (ws := zws f) B.pre
  have hts : ∀ w ∈ zt, w.before _ s = true := fun w hw => hts0 w (List.mem_cons_of_mem _ hw)
  have hown : s.vm.findClass (zown f.1.1) = some m.cls := by rw [← hcls]; exact findClass_of_methodNamed B.named
  subst hsz
  have hlen : (lg_sl (vs.map (zv ad))).length = (lg_sl vs).length := by
    clear hn h hP hts hts0 B hK
    induction vs with
    | nil => rfl
    | cons v r ih => 
      have e1 : ∀ (a : Value) (t : List Value), (lg_sl (a :: t)).length = a.category + (lg_sl t).length := by
        intro a t
        rcases lv_cat a with h | h <;> simp [lg_sl, h] <;> omega
      rw [List.map_cons, e1, e1, zv_cat, ih]
  have hl := lv_entry (vs.map (zv ad)) (n := f.2.1.1) (by rw [hlen]; exact hn)
  rw [lg_entry_eq]
  generalize (lg_sl (vs.map (zv ad)) ++ List.replicate (f.2.1.1 - (lg_sl (vs.map (zv ad))).length) Slot.unset).toArray = ls at hl ⊢
  have he : ∀ (vs : List Value) (i : Nat), lv_args i (vs.map (zv ad)) = zEm ad (lv_args i vs) := by
    intro vs
    induction vs with
    | nil => intro i; rfl
    | cons v r ih => intro i; simp only [List.map_cons, lv_args, zEm, zv_cat]; rw [ih]; rfl
  rw [he] at hl
  exact h p l e s m _ below meth c D cI cZ ad (zA ad s.heap.size) ⟨B.exec, B.bytes, B.returns, hml, hown, hts, B.notSynchronized, hK, hin, fun i hi => Or.inl ⟨i, hi, rfl⟩, fun q hq => Or.inr hq, hN⟩ s.heap [] ls hP va_S.rf hl
theorem zev_sub {f : zF} {Q : Option Value → zM → Prop} {pc : Nat} {E E' : zE} {st : List Value} {M : zM} (hs : ∀ q ∈ E', q ∈ E) (h : zEv f Q pc E' st M) : zEv f Q pc E st M := by
  intro p l e s m args below meth c D cI cZ ad A X H locs ls hP hS hl
  obtain ⟨hx, hb, hr, hml, hown, hts, hlocks, hK, hin, hAd, hA, hN⟩ := id X
  refine h p l e s m args below meth c D cI cZ ad A X H locs ls hP hS ⟨hl.1, hl.2.1, fun q hq => ?_⟩
  obtain ⟨a, ha, rfl⟩ := List.mem_map.mp hq
  exact hl.2.2 _ (List.mem_map.mpr ⟨a, hs a ha, rfl⟩)
