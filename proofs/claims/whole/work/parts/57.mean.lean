/-! meanings: places are streets with words -/
def eF (T : zTn) (i : Nat) (b : Bool) : Nat := bif b then tB T i else tA T i
def eT (T : zTn) (i : Nat) (b : Bool) : Nat := bif b then tA T i else tB T i
def eC (T : zTn) (p : Bool) (i : Nat) : Nat := bif p then tP T i else 1
def ed (T : zTn) (a : zAf) (p : Bool) (i : Nat) (b : Bool) (w : Nat) : eE := (eF T i b * 8 + w, eT T i b * 8 + ovr T a i b w, eC T p i)
def mE (T : zTn) (a : zAf) (p : Bool) (i : Nat) (b : Bool) : Nat → List eE
  | 0 => []
  | w + 1 => ed T a p i b w :: mE T a p i b w
def eM (T : zTn) (a : zAf) (p : Bool) : Nat → List eE
  | 0 => []
  | i + 1 => if (aS a).testBit i = true then eM T a p i else mE T a p i false (tN T) ++ (mE T a p i true (tN T) ++ eM T a p i)
theorem mE_mem {T : zTn} {a : zAf} {p : Bool} {i : Nat} {b : Bool} {e : eE} : ∀ {n : Nat}, e ∈ mE T a p i b n ↔ ∃ w, w < n ∧ e = ed T a p i b w
  | 0 => ⟨fun h => absurd h (by simp [mE]), fun ⟨w, h, _⟩ => absurd h (by omega)⟩
  | n + 1 => by
    have ih := mE_mem (T := T) (a := a) (p := p) (i := i) (b := b) (e := e) (n := n)
    show e ∈ ed T a p i b n :: mE T a p i b n ↔ _
    rw [List.mem_cons, ih]
    constructor
    · intro h
      rcases h with h | ⟨w, h1, h2⟩
      · exact ⟨n, by omega, h⟩
      · exact ⟨w, by omega, h2⟩
    · intro ⟨w, h1, h2⟩
      by_cases q : w = n
      · rw [← q]; exact Or.inl h2
      · exact Or.inr ⟨w, by omega, h2⟩
theorem eM_s (T : zTn) (a : zAf) (p : Bool) (i : Nat) : eM T a p (i + 1) = if (aS a).testBit i = true then eM T a p i else mE T a p i false (tN T) ++ (mE T a p i true (tN T) ++ eM T a p i) := rfl
theorem eM_mem {T : zTn} {a : zAf} {p : Bool} {e : eE} : ∀ {n : Nat}, e ∈ eM T a p n ↔ ∃ i, i < n ∧ (aS a).testBit i = false ∧ ∃ b w, w < tN T ∧ e = ed T a p i b w
  | 0 => ⟨fun h => absurd h (by simp [eM]), fun ⟨w, h, _⟩ => absurd h (by omega)⟩
  | n + 1 => by
    have ih := eM_mem (T := T) (a := a) (p := p) (e := e) (n := n)
    rw [eM_s]
    constructor
    · intro h
      split at h
      · obtain ⟨i, h1, h2⟩ := ih.mp h
        exact ⟨i, by omega, h2⟩
      · next q =>
        have q2 : (aS a).testBit n = false := by cases r : (aS a).testBit n with
          | true => exact absurd r q
          | false => rfl
        rw [List.mem_append, List.mem_append] at h
        rcases h with h | h | h
        · obtain ⟨w, h1, h2⟩ := mE_mem.mp h
          exact ⟨n, by omega, q2, false, w, h1, h2⟩
        · obtain ⟨w, h1, h2⟩ := mE_mem.mp h
          exact ⟨n, by omega, q2, true, w, h1, h2⟩
        · obtain ⟨i, h1, h2⟩ := ih.mp h
          exact ⟨i, by omega, h2⟩
    · intro ⟨i, h1, h2, b, w, h3, h4⟩
      by_cases c : i = n
      · subst c
        rw [if_neg (by rw [h2]; decide), List.mem_append, List.mem_append]
        cases b with
        | false => exact Or.inl (mE_mem.mpr ⟨w, h3, h4⟩)
        | true => exact Or.inr (Or.inl (mE_mem.mpr ⟨w, h3, h4⟩))
      · have m := ih.mpr ⟨i, by omega, h2, b, w, h3, h4⟩
        split
        · exact m
        · rw [List.mem_append, List.mem_append]; exact Or.inr (Or.inr m)
theorem ed_bd {T : zTn} {a : zAf} {p : Bool} {i w : Nat} {b : Bool} (hv : zTv T) (hi : i < tC T) (hw : w < tN T) : (ed T a p i b w).1 < 56 ∧ (ed T a p i b w).2.1 < 56 ∧ (ed T a p i b w).2.2 ≤ 99 ∧ eF T i b < tS T ∧ eT T i b < tS T ∧ (ed T a p i b w).1 ≠ (ed T a p i b w).2.1 := by
  obtain ⟨i1, i2, i3, i4, i5, i6⟩ := zTv_i hv hi
  have hN := zTv_N hv
  have hS := zTv_S hv
  have l := ovr_lt (a := a) (b := b) hv hi hw
  show eF T i b * 8 + w < 56 ∧ eT T i b * 8 + ovr T a i b w < 56 ∧ eC T p i ≤ 99 ∧ eF T i b < tS T ∧ eT T i b < tS T ∧ eF T i b * 8 + w ≠ eT T i b * 8 + ovr T a i b w
  have hc : eC T p i ≤ 99 := by unfold eC; cases p <;> dsimp only [cond] <;> omega
  have hf : eF T i b < tS T := by unfold eF; cases b <;> dsimp only [cond] <;> omega
  have ht : eT T i b < tS T := by unfold eT; cases b <;> dsimp only [cond] <;> omega
  have hne : eF T i b ≠ eT T i b := by
    unfold eF eT
    cases b with
    | true => exact fun q => i3 q.symm
    | false => exact i3
  exact ⟨by omega, by omega, hc, hf, ht, by omega⟩
theorem eM_bd {T : zTn} {a : zAf} {p : Bool} (hv : zTv T) : ∀ e, e ∈ eM T a p (tC T) → e.1 < 56 ∧ e.2.1 < 56 := by
  intro e h
  obtain ⟨i, h1, h2, b, w, h3, h4⟩ := eM_mem.mp h
  have := ed_bd (a := a) (p := p) (b := b) hv h1 h3
  rw [h4]
  exact ⟨this.1, this.2.1⟩
theorem eM_wt {T : zTn} {a : zAf} {p : Bool} (hv : zTv T) : ∀ e, e ∈ eM T a p (tC T) → e.2.2 ≤ 99 := by
  intro e h
  obtain ⟨i, h1, h2, b, w, h3, h4⟩ := eM_mem.mp h
  have := ed_bd (a := a) (p := p) (b := b) hv h1 h3
  rw [h4]
  exact this.2.2.1
def mR (r x y : Nat) : Prop := (x = y ∧ x ≤ 99 * r + 1) ∨ (x = 100000000 ∧ y = 1000000)
theorem mR_jac {d1 d2 : Nat → Nat} {r : Nat} (h : ∀ v, mR r (d1 v) (d2 v)) (hr : r ≤ 100) (v : Nat) : ∀ (L : List eE), (∀ e, e ∈ L → e.2.2 ≤ 99) → mR (r + 1) (jac d1 L v) (jac d2 L v)
  | [], _ => by
    show mR (r + 1) (d1 v) (d2 v)
    rcases h v with q | q
    · exact Or.inl ⟨q.1, by omega⟩
    · exact Or.inr q
  | e :: l, hl => by
    have ih := mR_jac h hr v l (fun e he => hl e (List.mem_cons_of_mem _ he))
    have hw := hl e List.mem_cons_self
    rw [jac_s, jac_s]
    split
    · rcases ih with ⟨i1, i2⟩ | ⟨i1, i2⟩
      · rcases h e.1 with ⟨g1, g2⟩ | ⟨g1, g2⟩
        · exact Or.inl ⟨by omega, by omega⟩
        · exact Or.inl ⟨by omega, by omega⟩
      · rcases h e.1 with ⟨g1, g2⟩ | ⟨g1, g2⟩
        · exact Or.inl ⟨by omega, by omega⟩
        · exact Or.inr ⟨by omega, by omega⟩
    · exact ih
def d0m (F : Nat) (S : Nat → Bool) (x0 : Nat) : Nat → Nat := fun v => bif S v then x0 else F
def dm (F : Nat) (T : zTn) (a : zAf) (p : Bool) (S : Nat → Bool) (x0 : Nat) : Nat → Nat → Nat := jr (eM T a p (tC T)) (d0m F S x0)
theorem dm_rel {T : zTn} {a : zAf} {p : Bool} {S : Nat → Bool} {x0 : Nat} (hv : zTv T) (hx : x0 ≤ 1) : ∀ r, r ≤ 100 → ∀ v, mR r (dm 100000000 T a p S x0 r v) (dm 1000000 T a p S x0 r v)
  | 0, _, v => by
    show mR 0 (d0m _ S x0 v) (d0m _ S x0 v)
    unfold d0m
    cases S v with
    | true => exact Or.inl ⟨rfl, by show x0 ≤ _; omega⟩
    | false => exact Or.inr ⟨rfl, rfl⟩
  | r + 1, hr, v => mR_jac (fun v => dm_rel hv hx r (by omega) v) (by omega) v _ (eM_wt hv)
def mc (T : zTn) (a : zAf) (p : Bool) (S : Nat → Bool) (x0 v : Nat) : Nat := dm 100000000 T a p S x0 56 v
def mm (T : zTn) (a : zAf) (p : Bool) (S : Nat → Bool) (x0 v : Nat) : Nat := dm 1000000 T a p S x0 56 v
theorem mc_mm {T : zTn} {a : zAf} {p : Bool} {S : Nat → Bool} {x0 : Nat} (hv : zTv T) (hx : x0 ≤ 1) (v : Nat) : (mc T a p S x0 v = mm T a p S x0 v ∧ mc T a p S x0 v < 1000000) ∨ (mc T a p S x0 v = 100000000 ∧ mm T a p S x0 v = 1000000) := by
  rcases dm_rel (a := a) (p := p) (S := S) hv hx 56 (by omega) v with q | q
  · exact Or.inl ⟨q.1, by have := q.2; unfold mc; omega⟩
  · exact Or.inr q
/-- what is answered of a place -/
def mAns (T : zTn) (a : zAf) (p : Bool) (S : Nat → Bool) (x0 v : Nat) : Int32 := if mc T a p S x0 v < 100000000 then nI (mc T a p S x0 v) else -1
theorem d0m_le {F : Nat} {S : Nat → Bool} {x0 : Nat} (h : x0 ≤ F) (v : Nat) : d0m F S x0 v ≤ F := by
  unfold d0m
  cases S v with
  | true => exact h
  | false => exact Nat.le_refl _
/-- Meanings of the class -/
theorem k_X4_spreadBy {Q : Option Value → zM → Prop} {M : zM} {T : zTn} {a : zAf} {x z : Int32} {i : Nat} {b p : Bool} {g : Nat → Int32} {d : Nat → Nat} (hv : zTv T) (hT : zTc T M) (ha : cA T a (M 22)) (hva : vA T a) (hx : x = nI i) (hi : i < tC T) (hz : z = nI (eC T p i)) (hg : ∀ c, c < 56 → g c = nI (d c)) (hd : ∀ v, d v ≤ 100000000)
    (hq : ∀ (ch : Bool) (g' : Nat → Int32) (d' : Nat → Nat), (∀ c, c < 56 → g' c = nI (d' c)) → (∀ v, d' v ≤ d v) → (∀ c : Nat → Nat, (∀ w, w < tN T → c (ed T a p i b w).2.1 ≤ c (ed T a p i b w).1 + (ed T a p i b w).2.2) → (∀ v, c v ≤ d v) → ∀ v, c v ≤ d' v) → (∀ w, w < tN T → d' (ed T a p i b w).2.1 ≤ d (ed T a p i b w).1 + (ed T a p i b w).2.2) → (ch = false → d' = d) → Q (some (.int (zbl ch))) (zset M 32 g')) : zCon fX4_spreadBy [.ref 31, .int x, .int (zbl b), .int z] (zset M 32 g) Q := by
  have hN := zTv_N hv
  have hS := zTv_S hv
  have hC := zTv_C hv
  obtain ⟨i1, i2, i3, i4, i5, i6⟩ := zTv_i hv hi
  have i10 : i < 10 := by omega
  have hT' : ∀ g, zTc T (zset M 32 g) := fun g => zTc_fr (fun k h1 h2 => zset_n _ _ (by omega)) hT
  have L : ∀ w, w ≤ tN T → ∀ f t y u (ch : Bool) (g' : Nat → Int32) (d' : Nat → Nat), f = nI (eF T i b) → t = nI (eT T i b) → y = zbl ch → u = nI w → (∀ c, c < 56 → g' c = nI (d' c)) → (∀ v, d' v ≤ d v) → (∀ c : Nat → Nat, (∀ w, w < tN T → c (ed T a p i b w).2.1 ≤ c (ed T a p i b w).1 + (ed T a p i b w).2.2) → (∀ v, c v ≤ d v) → ∀ v, c v ≤ d' v) → (∀ w', w' < w → d' (ed T a p i b w').2.1 ≤ d (ed T a p i b w').1 + (ed T a p i b w').2.2) → (ch = false → d' = d) → zEv fX4_spreadBy Q 72 [(0, .ref 31), (1, .int x), (2, .int (zbl b)), (3, .int z), (4, .int f), (5, .int t), (6, .int y), (7, .int u)] [] (zset M 32 g') := by
    refine zloop (tN T) ?_ ?_
    · intro f t y u ch g' d' hf ht hy hu hg' hle hlo hpr hch
      refine zev_go zkX4_spreadBy [72] 60 (iGe hu (hT' g').1 (by omega) (by omega) (fun _ => zret01 ?_ ?_) (fun q => absurd q (by omega)))
      · rw [hy]; cases ch
        · exact Or.inl rfl
        · exact Or.inr rfl
      · rw [hy]; exact hq ch g' d' hg' hle hlo hpr hch
    · intro w hw ih f t y u ch g' d' hf ht hy hu hg' hle hlo hpr hch
      obtain ⟨b1, b2, b3, b4, b5, b6⟩ := ed_bd (a := a) (p := p) (b := b) hv hi hw
      have b1' : eF T i b * 8 + w < 56 := b1
      have b2' : eT T i b * 8 + ovr T a i b w < 56 := b2
      have b3' : eC T p i ≤ 99 := b3
      have l := ovr_lt (a := a) (b := b) hv hi hw
      have h1 := Nat.le_trans (hle (eF T i b * 8 + w)) (hd _)
      have h2 := Nat.le_trans (hle (eT T i b * 8 + ovr T a i b w)) (hd _)
      refine zev_go zkX4_spreadBy [72] 60 (iGe hu (hT' g').1 (by omega) (by omega) (fun q => absurd q (by omega)) (fun _ => ?_))
      refine zix (eF T i b * 8 + w) (a_add (a_mul hf n_8) hu) b1' ?_
      refine k_X2_wordOver (b := b) hv (hT' g') ha hva hx hi hu hw ?_
      refine zix (eT T i b * 8 + ovr T a i b w) (a_add (a_mul ht n_8) rfl) b2' ?_
      refine iGe (a_add (hg' _ b1') hz) (hg' _ b2') (by omega) (by omega) (fun c => ?_) (fun c => zix (eT T i b * 8 + ovr T a i b w) (a_add (a_mul ht n_8) rfl) b2' ?_)
      · refine zev_pick [0, 1, 2, 3, 4, 5, 6, 7] (ih _ _ _ _ ch g' d' hf ht hy (by rw [hu, nI_1]) hg' hle hlo (fun w' hw' => ?_) hch)
        by_cases q : w' = w
        · subst q
          have := hle (eF T i b * 8 + w')
          show d' (eT T i b * 8 + ovr T a i b w') ≤ d (eF T i b * 8 + w') + eC T p i
          omega
        · exact hpr w' (by omega)
      · have ev : (zset M 32 g') 32 (eF T i b * 8 + w) + z = nI (d' (eF T i b * 8 + w) + eC T p i) := a_add (by rw [zset_s]; exact hg' _ b1') hz
        rw [zsetset, ev]
        have nh := rx_hi (d := d') c
        refine zev_pick [0, 1, 2, 3, 4, 5, 6, 7] (ih _ _ _ _ true _ (nup d' (eT T i b * 8 + ovr T a i b w) (d' (eF T i b * 8 + w) + eC T p i)) hf ht rfl (by rw [hu, nI_1]) (upd_nu hg') (fun v => Nat.le_trans (nh v) (hle v)) (fun c hc hcd => ?_) (fun w' hw' => ?_) (fun q => absurd q (by decide)))
        · exact rx_lo (hc w hw) (hlo c hc hcd)
        · by_cases q : w' = w
          · subst q
            show nup d' (eT T i b * 8 + ovr T a i b w') (d' (eF T i b * 8 + w') + eC T p i) (eT T i b * 8 + ovr T a i b w') ≤ d (eF T i b * 8 + w') + eC T p i
            rw [nup_s]
            have := hle (eF T i b * 8 + w')
            omega
          · exact Nat.le_trans (nh _) (hpr w' (by omega))
  have start : ∀ f t, f = nI (eF T i b) → t = nI (eT T i b) → zEv fX4_spreadBy Q 72 [(0, .ref 31), (1, .int x), (2, .int (zbl b)), (3, .int z), (4, .int f), (5, .int t), (6, .int 0), (7, .int 0)] [] (zset M 32 g) := fun f t hf ht => L 0 (by omega) f t 0 0 false g d hf ht rfl rfl hg (fun _ => Nat.le_refl _) (fun c _ h => h) (fun w hw => absurd hw (by omega)) (fun _ => rfl)
  have eA := (hT' g).2.2.2.2.2.2.1 i hi
  have eB := (hT' g).2.2.2.2.2.2.2.1 i hi
  refine zc_of zkX4_spreadBy [72] 60 (Nat.le_of_ble_eq_true rfl) ?_
  cases b with
  | true => exact bT (zix i hx i10 (bT (zix i hx i10 (start _ _ eB eA))))
  | false => exact bF (zix i hx i10 (bF (zix i hx i10 (start _ _ eA eB))))
