/-! the machine does what the step says -/
def zrm (f : zF) : Room := { frames := f.2.2.1.1, cells := 0, slots := 0, locals := f.2.2.1.2 }
def zws (f : zF) : List Cond := .code f.1.2.1 f.1.2.2 f.2.1.1 f.2.1.2 :: zt
abbrev ztys (cI cZ : ClassId) : List (ClassId × FieldType) := [(cI, .int), (cZ, .boolean)]
def zInt (v : Option Value) : Prop := v = none ∨ ∃ r : Int32, v = some (.int r)
def zQc (D : va_G) (cI cZ : ClassId) (ad : Nat → Nat) (A : Nat → Prop) (Q : Option Value → zM → Prop) : Array Value → State → Outcome → State → Prop :=
  fun _ st oc t => (∃ (v : Option Value) (M : zM), oc = .returned v ∧ zInt v ∧ Q v M ∧ va_P D vwCl (zWd cI cZ ad M) t.heap) ∧ va_F A st t
def zA (ad : Nat → Nat) (sz : Nat) : Nat → Prop := fun q => (∃ k : Nat, k < 80 ∧ q = ad k) ∨ sz ≤ q
def zInj (ad : Nat → Nat) : Prop := ∀ i j : Nat, i < 80 → j < 80 → ad i = ad j → i = j
def zX (f : zF) (p : Program) (s : State) (m : MethodId) (args : Array Value) (meth : Method) (c : Code) (D : va_G) (cI cZ : ClassId) (ad : Nat → Nat) (A : Nat → Prop) : Prop :=
  p.tables.exec = Jvm.exec ∧ c.code = f.1.2.2 ∧ meth.sig.returnType = f.2.1.2 ∧ c.maxLocals = f.2.1.1 ∧ s.vm.findClass (zown f.1.1) = some m.cls ∧ (∀ w ∈ zt, w.before args s = true) ∧ meth.locks = false ∧ va_K D vwCl (ztys cI cZ) s ∧ zInj ad ∧ (∀ i : Nat, i < 80 → A (ad i)) ∧ (∀ q : Nat, s.heap.size ≤ q → A q) ∧ zN s
def zEv (f : zF) (Q : Option Value → zM → Prop) (pc : Nat) (E : zE) (st : List Value) (M : zM) : Prop :=
  ∀ (p : Program) (l : Launch) (e : Env) (s : State) (m : MethodId) (args : Array Value) (below : List Frame) (meth : Method) (c : Code) (D : va_G) (cI cZ : ClassId) (ad : Nat → Nat) (A : Nat → Prop), zX f p s m args meth c D cI cZ ad A →
  ∀ (H : Heap) (locs : List Loc) (ls : Array Slot), va_P D vwCl (zWd cI cZ ad M) H → va_S A s.heap H locs → lv_has ls f.2.1.1 (zEm ad E) →
  W p l e (zrm f) s m args below meth c H locs 0 0 (MQ below (zQc D cI cZ ad A Q) args s 0 0 A) (F0 m pc ls (st.map (zv ad)))
def zCon (f : zF) (vs : List Value) (M : zM) (Q : Option Value → zM → Prop) : Prop :=
  ∀ (l : Launch) (D : va_G) (cI cZ : ClassId) (ad : Nat → Nat) (sz : Nat), Met l f.1.2.1 (zws f) (zrm f) (va_Pc (vs.map (zv ad)) (fun U => U.heap.size = sz ∧ va_P D vwCl (zWd cI cZ ad M) U.heap ∧ va_K D vwCl (ztys cI cZ) U ∧ zInj ad ∧ zN U)) (zQc D cI cZ ad (zA ad sz) Q) 0 0 (zA ad sz)
/-! the world's cells -/
theorem zget_eq {α : Type} (l : List α) : ∀ n : Nat, zget l n = l[n]? := by
  induction l with
  | nil => intro n; cases n <;> rfl
  | cons a r ih =>
    intro n
    cases n with
    | zero => rfl
    | succ n => show zget r n = _; rw [ih n]; rfl
theorem zWd_at (cI cZ : ClassId) (ad : Nat → Nat) (M : zM) {k : Nat} (h : k < 80) : (zWd cI cZ ad M)[k]? = some (ad k, zcell cI cZ ad M k) := by simp [zWd, h]
theorem zlay_lt {k : Nat} {x : (Nat × List (Option Nat)) ⊕ (Bool × Nat)} (h : zget zlay k = some x) : k < 80 := by
  rw [zget_eq] at h
  exact (List.getElem?_eq_some_iff.mp h).1
theorem zcell_obj {cI cZ : ClassId} {ad : Nat → Nat} {M : zM} {k ci : Nat} {fl : List (Option Nat)} (h : zget zlay k = some (.inl (ci, fl))) : zcell cI cZ ad M k = .inr (ci, zfs ad (M k) 0 fl) := by simp [zcell, h]
theorem zcell_arr {cI cZ : ClassId} {ad : Nat → Nat} {M : zM} {k n : Nat} {b : Bool} (h : zget zlay k = some (.inr (b, n))) : zcell cI cZ ad M k = .inl (cond b cZ cI, n, .inl (M k)) := by simp [zcell, h]
theorem zfs_at (ad : Nat → Nat) (g : Nat → Int32) : ∀ (fl : List (Option Nat)) (j b : Nat), (zfs ad g j fl)[b]? = (fl[b]?).map (fun o => zfv ad (g (j + b)) o) := by
  intro fl
  induction fl with
  | nil => intro j b; simp [zfs]
  | cons o r ih =>
    intro j b
    cases b with
    | zero => simp [zfs]
    | succ b => simp only [zfs, List.getElem?_cons_succ, ih]; rw [show j + 1 + b = j + (b + 1) by omega]
theorem zfs_len (ad : Nat → Nat) (g : Nat → Int32) : ∀ (fl : List (Option Nat)) (j : Nat), (zfs ad g j fl).length = fl.length := by
  intro fl
  induction fl with
  | nil => intro j; rfl
  | cons o r ih => intro j; simp [zfs, ih]
theorem zfs_set (ad : Nat → Nat) (g : Nat → Int32) (x : Int32) : ∀ (fl : List (Option Nat)) (j b : Nat), fl[b]? = some none → (zfs ad g j fl).set b (.int x) = zfs ad (upd g (j + b) x) j fl := by
  intro fl j b hb
  apply List.ext_getElem?
  intro i
  rw [zfs_at, List.getElem?_set, zfs_at, zfs_len]
  by_cases hib : b = i
  · subst hib
    have hl : b < fl.length := (List.getElem?_eq_some_iff.mp hb).1
    rw [if_pos rfl, if_pos hl, hb]
    simp [zfv, upd]
  · rw [if_neg hib]
    cases fl[i]? with
    | none => rfl
    | some o => cases o with
      | some k => rfl
      | none => simp only [Option.map_some, zfv, upd]; rw [if_neg (by omega)]
theorem zWd_set (cI cZ : ClassId) (ad : Nat → Nat) (M : zM) (k : Nat) (g : Nat → Int32) : (zWd cI cZ ad M).set k (ad k, zcell cI cZ ad (zset M k g) k) = zWd cI cZ ad (zset M k g) := by
  apply List.ext_getElem?
  intro i
  rw [List.getElem?_set]
  by_cases hki : k = i
  · subst hki
    by_cases h : k < 80
    · simp [zWd, h]
    · simp [zWd, h]
  · rw [if_neg hki]
    by_cases h : i < 80
    · rw [zWd_at _ _ _ _ h, zWd_at _ _ _ _ h]
      have e : zset M k g i = M i := by unfold zset; rw [if_neg (fun q : i = k => hki q.symm)]
      simp only [zcell, e]
    · simp [zWd, h]
theorem zWd_D (cI cZ : ClassId) (ad : Nat → Nat) (M : zM) {A : Nat → Prop} (hi : zInj ad) (hA : ∀ i : Nat, i < 80 → A (ad i)) : va_D A (zWd cI cZ ad M) := by
  refine ⟨fun i j p q hp hq e => ?_, fun k q hq => ?_⟩
  · have h1 : i < 80 := by have h := (List.getElem?_eq_some_iff.mp hp).1; simpa [zWd] using h
    have h2 : j < 80 := by have h := (List.getElem?_eq_some_iff.mp hq).1; simpa [zWd] using h
    rw [zWd_at _ _ _ _ h1] at hp
    rw [zWd_at _ _ _ _ h2] at hq
    cases hp; cases hq
    exact hi i j h1 h2 e
  · have h1 : k < 80 := by have h := (List.getElem?_eq_some_iff.mp hq).1; simpa [zWd] using h
    rw [zWd_at _ _ _ _ h1] at hq
    cases hq
    exact hA k h1
/-! the locals -/
theorem zl_has {ad : Nat → Nat} {E : zE} {ls : Array Slot} {n k : Nat} {v : Value} (h : lv_has ls n (zEm ad E)) (hv : zl E k = some v) : ls[k]? = some (.val (zv ad v)) := by
  refine h.2.2 (k, zv ad v) ?_
  clear h
  induction E with
  | nil => cases hv
  | cons q r ih =>
    simp only [zl] at hv
    by_cases hq : Nat.beq q.1 k = true
    · rw [hq] at hv
      have e : q.1 = k := Nat.eq_of_beq_eq_true hq
      cases hv
      rw [← e]
      exact List.mem_cons_self
    · rw [Bool.not_eq_true] at hq
      rw [hq] at hv
      exact List.mem_cons_of_mem _ (ih hv)
theorem zins_mem {i : Nat} {v : Value} : ∀ {E : zE} {q : Nat × Value}, q ∈ zins i v E → q = (i, v) ∨ q ∈ E := by
  intro E
  induction E with
  | nil => intro q h; simp [zins] at h; exact Or.inl h
  | cons a r ih =>
    intro q h
    simp only [zins] at h
    cases hb : Nat.blt i a.1 with
    | true => rw [hb] at h; simpa using h
    | false =>
      rw [hb] at h
      rcases List.mem_cons.mp h with h | h
      · exact Or.inr (by rw [h]; exact List.mem_cons_self)
      · rcases ih h with h | h
        · exact Or.inl h
        · exact Or.inr (List.mem_cons_of_mem _ h)
theorem znb {a b c d : Nat} (h : (Nat.beq a b && Nat.beq c d) = false) : (!(a == b && c == d)) = true := by
  rw [Bool.and_eq_false_iff] at h
  rcases h with h | h
  · have := Nat.ne_of_beq_eq_false h; simp [this]
  · have := Nat.ne_of_beq_eq_false h; simp [this]
theorem zdel_mem {i : Nat} : ∀ {E : zE} {q : Nat × Value}, q ∈ zdel i E → q ∈ E ∧ (!(q.1 == i) && !(q.1 + 1 == i && q.2.category == 2)) = true := by
  intro E
  induction E with
  | nil => intro q h; cases h
  | cons a r ih =>
    intro q h
    simp only [zdel] at h
    cases hb : (Nat.beq a.1 i || (Nat.beq (a.1 + 1) i && Nat.beq a.2.category 2)) with
    | true => rw [hb] at h; exact ⟨List.mem_cons_of_mem _ (ih h).1, (ih h).2⟩
    | false =>
      rw [hb] at h
      rcases List.mem_cons.mp h with h | h
      · subst h
        refine ⟨List.mem_cons_self, ?_⟩
        rw [Bool.or_eq_false_iff] at hb
        rw [Bool.and_eq_true]
        refine ⟨?_, ?_⟩
        · have := Nat.ne_of_beq_eq_false hb.1; simp [this]
        · exact znb hb.2
      · exact ⟨List.mem_cons_of_mem _ (ih h).1, (ih h).2⟩
theorem zdel2_mem {i : Nat} : ∀ {E : zE} {q : Nat × Value}, q ∈ zdel2 i E → q ∈ E ∧ (!(q.1 == i) && (!(q.1 == i + 1) && !(q.1 + 1 == i && q.2.category == 2))) = true := by
  intro E
  induction E with
  | nil => intro q h; cases h
  | cons a r ih =>
    intro q h
    simp only [zdel2] at h
    cases hb : (Nat.beq a.1 i || (Nat.beq a.1 (i + 1) || (Nat.beq (a.1 + 1) i && Nat.beq a.2.category 2))) with
    | true => rw [hb] at h; exact ⟨List.mem_cons_of_mem _ (ih h).1, (ih h).2⟩
    | false =>
      rw [hb] at h
      rcases List.mem_cons.mp h with h | h
      · subst h
        refine ⟨List.mem_cons_self, ?_⟩
        rw [Bool.or_eq_false_iff, Bool.or_eq_false_iff] at hb
        rw [Bool.and_eq_true, Bool.and_eq_true]
        refine ⟨?_, ?_, ?_⟩
        · have := Nat.ne_of_beq_eq_false hb.1; simp [this]
        · have := Nat.ne_of_beq_eq_false hb.2.1; simp [this]
        · exact znb hb.2.2
      · exact ⟨List.mem_cons_of_mem _ (ih h).1, (ih h).2⟩
theorem zv_cat (ad : Nat → Nat) (v : Value) : (zv ad v).category = v.category := by cases v <;> rfl
theorem zst_has {ad : Nat → Nat} {E : zE} {ls : Array Slot} {n i : Nat} {v : Value} (h : lv_has ls n ((i, zv ad v) :: (zEm ad E).filter (fun q => !(q.1 == i) && !(q.1 + 1 == i && q.2.category == 2)))) : lv_has ls n (zEm ad (zins i v (zdel i E))) := by
  refine ⟨h.1, h.2.1, fun q hq => h.2.2 q ?_⟩
  obtain ⟨a, ha, rfl⟩ := List.mem_map.mp hq
  rcases zins_mem ha with rfl | ha
  · exact List.mem_cons_self
  · obtain ⟨h1, h2⟩ := zdel_mem ha
    refine List.mem_cons_of_mem _ (List.mem_filter.mpr ⟨List.mem_map.mpr ⟨a, h1, rfl⟩, ?_⟩)
    simpa only [zv_cat] using h2
theorem zst2_has {ad : Nat → Nat} {E : zE} {ls : Array Slot} {n i : Nat} {v : Value} (h : lv_has ls n ((i, zv ad v) :: (zEm ad E).filter (fun q => !(q.1 == i) && (!(q.1 == i + 1) && !(q.1 + 1 == i && q.2.category == 2))))) : lv_has ls n (zEm ad (zins i v (zdel2 i E))) := by
  refine ⟨h.1, h.2.1, fun q hq => h.2.2 q ?_⟩
  obtain ⟨a, ha, rfl⟩ := List.mem_map.mp hq
  rcases zins_mem ha with rfl | ha
  · exact List.mem_cons_self
  · obtain ⟨h1, h2⟩ := zdel2_mem ha
    refine List.mem_cons_of_mem _ (List.mem_filter.mpr ⟨List.mem_map.mpr ⟨a, h1, rfl⟩, ?_⟩)
    simpa only [zv_cat] using h2
/-! what the helpers say -/
theorem zi1_of {K : Int32 → List Value → Prop} {st : List Value} (h : zi1 K st) : ∃ x r, st = .int x :: r ∧ K x r := by
  unfold zi1 at h; split at h
  · exact ⟨_, _, rfl, h⟩
  · exact h.elim
theorem zi2_of {K : Int32 → Int32 → List Value → Prop} {st : List Value} (h : zi2 K st) : ∃ x y r, st = .int y :: .int x :: r ∧ K x y r := by
  unfold zi2 at h; split at h
  · exact ⟨_, _, _, rfl, h⟩
  · exact h.elim
theorem zj1_of {K : Int64 → List Value → Prop} {st : List Value} (h : zj1 K st) : ∃ x r, st = .long x :: r ∧ K x r := by
  unfold zj1 at h; split at h
  · exact ⟨_, _, rfl, h⟩
  · exact h.elim
theorem zj2_of {K : Int64 → Int64 → List Value → Prop} {st : List Value} (h : zj2 K st) : ∃ x y r, st = .long y :: .long x :: r ∧ K x y r := by
  unfold zj2 at h; split at h
  · exact ⟨_, _, _, rfl, h⟩
  · exact h.elim
theorem zr1_of {K : Nat → List Value → Prop} {st : List Value} (h : zr1 K st) : ∃ x r, st = .ref x :: r ∧ K x r := by
  unfold zr1 at h; split at h
  · exact ⟨_, _, rfl, h⟩
  · exact h.elim
theorem zir_of {K : Int32 → Nat → List Value → Prop} {st : List Value} (h : zir K st) : ∃ x k r, st = .int x :: .ref k :: r ∧ K x k r := by
  unfold zir at h; split at h
  · exact ⟨_, _, _, rfl, h⟩
  · exact h.elim
theorem ziir_of {K : Int32 → Int32 → Nat → List Value → Prop} {st : List Value} (h : ziir K st) : ∃ x i k r, st = .int x :: .int i :: .ref k :: r ∧ K x i k r := by
  unfold ziir at h; split at h
  · exact ⟨_, _, _, _, rfl, h⟩
  · exact h.elim
theorem zgeti_of {K : Int32 → Prop} {v : Option Value} (h : zgeti K v) : ∃ x, v = some (.int x) ∧ K x := by
  unfold zgeti at h; split at h
  · exact ⟨_, rfl, h⟩
  · exact h.elim
theorem zgetl_of {K : Int64 → Prop} {v : Option Value} (h : zgetl K v) : ∃ x, v = some (.long x) ∧ K x := by
  unfold zgetl at h; split at h
  · exact ⟨_, rfl, h⟩
  · exact h.elim
theorem zgetr_of {K : Nat → Prop} {v : Option Value} (h : zgetr K v) : ∃ x, v = some (.ref x) ∧ K x := by
  unfold zgetr at h; split at h
  · exact ⟨_, rfl, h⟩
  · exact h.elim
theorem zbif_of {b : Bool} {P : Prop} (h : bif b then P else False) : b = true ∧ P := by
  cases b
  · exact h.elim
  · exact ⟨rfl, h⟩
theorem zcat_map (ad : Nat → Nat) (r : List Value) : ((r.map (zv ad)).map fun v => v.category).sum = zcat r := by
  induction r with
  | nil => rfl
  | cons v r ih => simp only [List.map_cons, List.sum_cons, zcat, ih, zv_cat]
