/-! constructors: the rows that they are made of -/
def nws (y : MethodName) (b : ByteArray) (mx : Nat) : List Cond := .code y b mx none :: zt
theorem nws_good {y : MethodName} {b : ByteArray} {mx : Nat} (h : .code y b mx none ∈ zt) : GoodIn zt (nws y b mx) := by
  intro w hw
  have hm : w ∈ zt := by
    rcases List.mem_cons.mp hw with h1 | h1
    · rw [h1]; exact h
    · exact h1
  exact ⟨hm, good_of_word (zgood w hm)⟩
def nNest : List (String × Nat × MethodName) := [(RX10, 9, yX8_init), (RX10, 18, yX7_init), (RX7, 17, yX8_init), (RX10, 25, yX0_init), (RX10, 32, yX5_init), (RX10, 80, yX1_init)]
def nN (U : State) : Prop := ∀ q ∈ nNest, va_Nw (.methodLinkNest q.1 q.2.1 q.2.2 zhost) U
theorem nN_warm {s U : State} (hW : s.WarmedH U.vm) (h : nN s) : nN U := fun w hw => va_Nw.warmM hW (h w hw)
abbrev nA (cI : ClassId) (q n : Nat) : Nat × va_E := (q, .inl (cI, n, .inl (fun _ => 0)))
abbrev nO (q ci : Nat) (fs : List Value) : Nat × va_E := (q, .inr (ci, fs))
/-- what a constructor begins with -/
abbrev nPc (args : List Value) (D : va_G) (cI cZ : ClassId) (sz : Nat) (ws : va_W) : Array Value → State → Prop := va_Pc args (fun U => U.heap.size = sz ∧ va_P D vwCl ws U.heap ∧ va_K D vwCl (ztys cI cZ) U ∧ va_D (fun _ => True) ws ∧ nN U)
abbrev nQc (D : va_G) (sz : Nat) (ws : va_W) (w1 : (Nat → Nat) → va_W) : Array Value → State → Outcome → State → Prop := va_Qv (fun _ : Nat → Nat => True) (fun u t => va_P D vwCl (w1 u) t.heap ∧ va_D (va_A ws sz) (w1 u)) (va_A ws sz)
theorem nPcB {vs : List Value} {D : va_G} {cI cZ : ClassId} {sz : Nat} {ws : va_W} : FrameBlind (nPc vs D cI cZ sz ws) := by
  intro a U g mk q
  obtain ⟨q0, q1, qP, qK, qD, qN⟩ := q
  exact ⟨q0, q1, qP, va_K.moved (u := U) (U := U.calling g mk a) (Vm.Alike.refl U.vm) qK, qD, fun w hw => va_Nw.same (u := U) (U := U.calling g mk a) rfl rfl (qN w hw)⟩
def nX (own : String) (cc : ByteArray) (mx : Nat) (p : Program) (s : State) (m : MethodId) (args : Array Value) (meth : Method) (c : Code) (D : va_G) (cI cZ : ClassId) (A : Nat → Prop) : Prop :=
  p.tables.exec = Jvm.exec ∧ c.code = cc ∧ meth.sig.returnType = none ∧ c.maxLocals = mx ∧ s.vm.findClass own = some m.cls ∧ (∀ w ∈ zt, w.before args s = true) ∧ meth.locks = false ∧ meth.name = "<init>" ∧ va_K D vwCl (ztys cI cZ) s ∧ (∀ q : Nat, s.heap.size ≤ q → A q) ∧ nN s
section NW
variable {own : String} {cc : ByteArray} {mx : Nat} {p : Program} {l : Launch} {e : Env} {R : Room} {s : State} {m : MethodId} {args : Array Value} {below : List Frame} {meth : Method} {c : Code} {D : va_G} {cI cZ : ClassId} {A : Nat → Prop} {H : Heap} {locs : List Loc} {cells slots : Nat} {Qf : State → Prop} {pc : Nat} {ls : Array Slot} {rest : List Value} {ws : va_W}
theorem nw_arr (X : nX own cc mx p s m args meth c D cI cZ A) (hP : va_P D vwCl ws H) (hD : va_D A ws) (hS : va_S A s.heap H locs) {n : Int32} {N : Nat} (hn : ¬ n < 0) (hN : n.toNatClampNeg = N) (hNb : N ≤ 100000) (hw : .arrayClass .int ∈ zt) (hcells : cells + 1 ≤ R.cells) (hslots : slots + N ≤ R.slots) (hdg : decode cc pc = .ok (.newarray .int, 2))
    (kk : ∀ (q : Nat) (H1 : Heap), va_P D vwCl (ws ++ [nA cI q N]) H1 → va_D A (ws ++ [nA cI q N]) → va_S A s.heap H1 locs → W p l e R s m args below meth c H1 locs (cells + 1) (slots + N) Qf (F0 m (pc + 2) ls (.ref q :: rest))) : W p l e R s m args below meth c H locs cells slots Qf (F0 m pc ls (.int n :: rest)) := by
  obtain ⟨hx, hb, hr, hml, hown, hts, hlocks, hin, hK, hA, hN'⟩ := X
  refine va_newa hx hb (atype := .int) (ty := .int) (hts _ hw) rfl hK hP hD hS hA (a0 := (N, .inl (fun _ => 0))) (fun _ => rfl) hn hN (by show N * 4 ≤ _; omega) hcells hslots hdg (fun q cA H1 hK1 hP1 hD1 hS1 => ?_)
  have e1 : s.vm.findClass ("[" ++ FieldType.int.toString) = some cI := (hK.2 0 (cI, .int) rfl).2
  have e2 : s.vm.findClass ("[" ++ FieldType.int.toString) = some cA := (hK1.2 2 (cA, .int) rfl).2
  rw [e1] at e2
  cases e2
  exact kk q H1 hP1 hD1 hS1
theorem nw_arrZ (X : nX own cc mx p s m args meth c D cI cZ A) (hP : va_P D vwCl ws H) (hD : va_D A ws) (hS : va_S A s.heap H locs) {n : Int32} {N : Nat} (hn : ¬ n < 0) (hN : n.toNatClampNeg = N) (hNb : N ≤ 100000) (hw : .arrayClass .boolean ∈ zt) (hcells : cells + 1 ≤ R.cells) (hslots : slots + N ≤ R.slots) (hdg : decode cc pc = .ok (.newarray .boolean, 2))
    (kk : ∀ (q : Nat) (H1 : Heap), va_P D vwCl (ws ++ [nA cZ q N]) H1 → va_D A (ws ++ [nA cZ q N]) → va_S A s.heap H1 locs → W p l e R s m args below meth c H1 locs (cells + 1) (slots + N) Qf (F0 m (pc + 2) ls (.ref q :: rest))) : W p l e R s m args below meth c H locs cells slots Qf (F0 m pc ls (.int n :: rest)) := by
  obtain ⟨hx, hb, hr, hml, hown, hts, hlocks, hin, hK, hA, hN'⟩ := X
  refine va_newa hx hb (atype := .boolean) (ty := .boolean) (hts _ hw) rfl hK hP hD hS hA (a0 := (N, .inl (fun _ => 0))) (fun _ => rfl) hn hN (by show N * 1 ≤ _; omega) hcells hslots hdg (fun q cA H1 hK1 hP1 hD1 hS1 => ?_)
  have e1 : s.vm.findClass ("[" ++ FieldType.boolean.toString) = some cZ := (hK.2 1 (cZ, .boolean) rfl).2
  have e2 : s.vm.findClass ("[" ++ FieldType.boolean.toString) = some cA := (hK1.2 2 (cA, .boolean) rfl).2
  rw [e1] at e2
  cases e2
  exact kk q H1 hP1 hD1 hS1
theorem nw_put (X : nX own cc mx p s m args meth c D cI cZ A) (hP : va_P D vwCl ws H) (hD : va_D A ws) (hS : va_S A s.heap H locs) (q0 : Nat) {a ci : Nat} {fs : List Value} (he : ws[q0]? = some (a, .inr (ci, fs))) {q : vw_C} (hq : vwCl[ci]? = some q) (k : Nat) (hk : k < q.2.2) {idx : Nat} (hl : .fieldLink own idx (q.2.1 k).1 (q.2.1 k).2.1 (q.2.1 k).2.2.1 ∈ zt) (hfin : (q.2.1 k).2.2.2 = true) (hdecl : (q.2.1 k).1 = own) {ty : FieldType} {v : Value} (hd : parseFieldDescriptor (q.2.1 k).2.2.1 = some ty) (hn : narrow ty v = v) (hf : fits ty v = true) (hlen : k < fs.length) (hdg : decode cc pc = .ok (.putfield idx, 3))
    (kk : ∀ (H1 : Heap) (locs1 : List Loc), va_P D vwCl (ws.set q0 (a, .inr (ci, fs.set k v))) H1 → va_D A (ws.set q0 (a, .inr (ci, fs.set k v))) → va_S A s.heap H1 locs1 → W p l e R s m args below meth c H1 locs1 cells slots Qf (F0 m (pc + 3) ls rest)) : W p l e R s m args below meth c H locs cells slots Qf (F0 m pc ls (v :: .ref a :: rest)) := by
  obtain ⟨hx, hb, hr, hml, hown, hts, hlocks, hin, hK, hA, hN'⟩ := X
  obtain ⟨h1, ⟨ty0, h2⟩, h3⟩ := zvw hq
  exact va_putF (C := q.1) (T := q.2.1) (N := q.2.2) (ref := (q.2.1 k).1) hx hb hts h1 ty0 h2 h3 hown hK hP hD hS q0 he hq k hk (hts _ hl) (fun _ h => h) hfin hin hdecl hd hn hf hlen hdg kk
theorem nw_putI (X : nX own cc mx p s m args meth c D cI cZ A) (hP : va_P D vwCl ws H) (hD : va_D A ws) (hS : va_S A s.heap H locs) (q0 : Nat) {a ci : Nat} {fs : List Value} (he : ws[q0]? = some (a, .inr (ci, fs))) {q : vw_C} (hq : vwCl[ci]? = some q) (k : Nat) (hk : k < q.2.2) {idx : Nat} (hl : .fieldLink own idx (q.2.1 k).1 (q.2.1 k).2.1 (q.2.1 k).2.2.1 ∈ zt) (hfin : (q.2.1 k).2.2.2 = false) {ty : FieldType} {v : Value} (hd : parseFieldDescriptor (q.2.1 k).2.2.1 = some ty) (hn : narrow ty v = v) (hf : fits ty v = true) (hlen : k < fs.length) (hdg : decode cc pc = .ok (.putfield idx, 3))
    (kk : ∀ (H1 : Heap) (locs1 : List Loc), va_P D vwCl (ws.set q0 (a, .inr (ci, fs.set k v))) H1 → va_D A (ws.set q0 (a, .inr (ci, fs.set k v))) → va_S A s.heap H1 locs1 → W p l e R s m args below meth c H1 locs1 cells slots Qf (F0 m (pc + 3) ls rest)) : W p l e R s m args below meth c H locs cells slots Qf (F0 m pc ls (v :: .ref a :: rest)) := by
  obtain ⟨hx, hb, hr, hml, hown, hts, hlocks, hin, hK, hA, hN'⟩ := X
  obtain ⟨h1, ⟨ty0, h2⟩, h3⟩ := zvw hq
  exact va_put (C := q.1) (T := q.2.1) (N := q.2.2) (ref := (q.2.1 k).1) hx hb hts h1 ty0 h2 h3 hown hK hP hD hS q0 he hq k hk (hts _ hl) (fun _ h => h) hfin hd hn hf hlen hdg kk
theorem nw_obj (X : nX own cc mx p s m args meth c D cI cZ A) {a idx : Nat} (hl : .methodLink own idx objectInit ∈ zt) (h2 : .instanceMethod objectInit ∈ zt) (h3 : .code objectInit ⟨#[0xb1]⟩ 1 none ∈ zt) (hsz : ls.size = mx) (hdg : decode cc pc = .ok (.invokespecial idx, 3)) (hfr : 1 ≤ R.frames) (hlo : 12 ≤ R.locals) (kk : W p l e R s m args below meth c H locs cells slots Qf (F0 m (pc + 3) ls [])) : W p l e R s m args below meth c H locs cells slots Qf (F0 m pc ls [.ref a]) := by
  obtain ⟨hx, hb, hr, hml, hown, hts, hlocks, hin, hK, hA, hN'⟩ := X
  refine W.objInit hx hb hown (hts _ hl) (hts _ h2) (hts _ h3) rfl (by rw [hml]; exact hsz) rfl hdg hfr hlo ?_
  exact kk
end NW
