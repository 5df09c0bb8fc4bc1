/-! the model: remember, undo -/
def sh88 (g : Nat → Int32) (m : Nat) : Nat → Int32 := fun j => if j < m then g (j + 88) else g j
theorem sh88_s (g : Nat → Int32) (m : Nat) : upd (sh88 g m) m (g (m + 88)) = sh88 g (m + 1) := by
  funext j
  unfold sh88
  by_cases c : j = m
  · subst c; rw [pk_us, if_pos (by omega)]
  · rw [pk_un c]
    by_cases d : j < m
    · rw [if_pos d, if_pos (by omega)]
    · rw [if_neg d, if_neg (by omega)]
def pt88 (g h : Nat → Int32) (o m : Nat) : Nat → Int32 := fun j => if o ≤ j ∧ j < o + m then h (j - o) else g j
theorem pt88_s (g h : Nat → Int32) (o m : Nat) : upd (pt88 g h o m) (o + m) (h m) = pt88 g h o (m + 1) := by
  funext j
  unfold pt88
  by_cases c : j = o + m
  · subst c; rw [pk_us, if_pos (by omega)]; exact congrArg h (by omega)
  · rw [pk_un c]
    by_cases d : o ≤ j ∧ j < o + m
    · rw [if_pos d, if_pos (by omega)]
    · rw [if_neg d, if_neg (by omega)]
theorem pt88_0 (g h : Nat → Int32) (o : Nat) : pt88 g h o 0 = g := by
  funext j; unfold pt88; rw [if_neg (by omega)]
theorem sh88_0 (g : Nat → Int32) : sh88 g 0 = g := by
  funext j; unfold sh88; rw [if_neg (by omega)]
theorem k_X11_remember {Q : Option Value → zM → Prop} {M : zM} {T : zTn} {a : zAf} {u : Nat × (Nat → zAf)} (hv : zTv T) (ha : mA T a (M 56)) (hva : vA T a) (hU : mU T u M) (hvU : vU T u) (hq : ∀ M', mU T (remU a u) M' → (∀ k, k ≠ 47 → k ≠ 68 → M' k = M k) → (∀ j, j ≠ 32 → M' 47 j = M 47 j) → Q none M') : zCon fX11_remember [.ref 47] M Q := by
  obtain ⟨u1, u2⟩ := hU
  have hu := hvU.1
  have J : ∀ (E0 : zE), (∀ q ∈ [((0 : Nat), Value.ref 47)], q ∈ E0) → ∀ m (M1 : zM), m < 16 → M1 47 32 = nI m → M1 56 = M 56 → (∀ M', M' = zu (zset M1 68 (pt88 (M1 68) (M 56) (88 * m) 88)) 47 32 (nI (m + 1)) → Q none M') → zEv fX11_remember Q 50 E0 [] M1 := by
    intro E0 hE m M1 hm h32 h56 hk
    refine zev_sub hE (zev_go zkX11_remember [52] 60 ?_)
    have L : ∀ k, k ≤ 88 → ∀ x, x = nI k → zEv fX11_remember Q 52 [(0, .ref 47), (1, .int x)] [] (zset M1 68 (pt88 (M1 68) (M 56) (88 * m) k)) := by
      refine zloop 88 ?_ ?_
      · intro x hx
        refine zev_go zkX11_remember [52] 60 (iGe hx n_88 (by omega) (by decide) (fun _ => ?_) (fun q => absurd q (by omega)))
        refine hk _ ?_
        have e : zset M1 68 (pt88 (M1 68) (M 56) (88 * m) 88) 47 32 + 1 = nI (m + 1) := a_add h32 n_1
        rw [← e]
      · intro k hk ih x hx
        refine zev_go zkX11_remember [52] 60 (iGe hx n_88 (by omega) (by decide) (fun q => absurd q (by omega)) (fun _ => ?_))
        refine zix k hx hk (zix (88 * m + k) (a_add (a_mul n_88 h32) hx) (show 88 * m + k < 1408 by omega) ?_)
        have e : zu (zset M1 68 (pt88 (M1 68) (M 56) (88 * m) k)) 68 (88 * m + k) (M1 56 k) = zset M1 68 (pt88 (M1 68) (M 56) (88 * m) (k + 1)) := by
          unfold zu; rw [zset_s, zset_u, h56, pt88_s]
        have e2 : (zset M1 68 (pt88 (M1 68) (M 56) (88 * m) k)) 56 k = M1 56 k := rfl
        rw [e2, e]
        exact ih _ (by rw [hx, nI_1])
    have L0 := L 0 (by omega) 0 rfl
    rw [pt88_0, zset_id] at L0
    exact L0
  refine zc_of zkX11_remember [12, 50] 60 (Nat.le_of_ble_eq_true rfl) ?_
  refine iNe u1 n_16 (by omega) (by decide) (fun c => ?_) (fun c => ?_)
  · refine J _ (fun _ h => h) u.1 M (by omega) u1 rfl (fun M' hM' => ?_)
    subst hM'
    refine hq _ ⟨?_, fun e he => ?_⟩ (fun k h1 h2 => by rw [zu_n _ _ _ h1, zset_n _ _ h2]) (fun j hj => by rw [zu_ne _ _ hj]; rfl)
    · show nI (u.1 + 1) = nI (min 16 (u.1 + 1))
      rw [Nat.min_eq_right (by omega)]
    · have he' : e < min 16 (u.1 + 1) := he
      have hm : (remU a u).1 = u.1 + 1 := Nat.min_eq_right (by omega)
      rw [hm]
      show mA T (if e = 0 then a else u.2 (e - 1)) (fun j => pt88 (M 68) (M 56) (88 * u.1) 88 (88 * (u.1 + 1 - 1 - e) + j))
      by_cases q : e = 0
      · subst q
        rw [if_pos rfl]
        refine mA_ext (zTv_C hv) hva.2.2.2.1 (fun j hj => ?_) ha
        unfold pt88
        rw [if_pos (by omega)]
        exact congrArg _ (by omega)
      · rw [if_neg q]
        refine mA_ext (zTv_C hv) (hvU.2 (e - 1) (by omega)).2.2.2.1 (fun j hj => ?_) (u2 (e - 1) (by omega))
        unfold pt88
        rw [if_neg (by omega)]
        exact congrArg _ (by omega)
  · have L : ∀ m, m ≤ 1320 → ∀ x, x = nI (88 + m) → zEv fX11_remember Q 12 [(0, .ref 47), (1, .int x)] [] (zset M 68 (sh88 (M 68) m)) := by
      refine zloop 1320 ?_ ?_
      · intro x hx
        refine zev_go zkX11_remember [12, 50] 60 (iGe hx n_1408 (by omega) (by decide) (fun _ => ?_) (fun q => absurd q (by omega)))
        refine J _ ?_ 15 _ (by omega) ?_ rfl (fun M' hM' => ?_)
        · intro q hq; simp only [List.mem_cons, List.not_mem_nil, or_false] at hq; subst hq; simp
        · show M 47 32 - 1 = nI 15
          exact a_sub (u1.trans (by rw [c])) n_1 (by omega)
        · subst hM'
          refine hq _ ⟨?_, fun e he => ?_⟩ (fun k h1 h2 => by rw [zu_n _ _ _ h1, zset_n _ _ h2, zu_n _ _ _ h1, zset_n _ _ h2]) (fun j hj => by rw [zu_ne _ _ hj]; show zu _ 47 32 _ 47 j = _; rw [zu_ne _ _ hj]; rfl)
          · show nI 16 = nI (min 16 (u.1 + 1))
            rw [c]; rfl
          · have he' : e < min 16 (u.1 + 1) := he
            have hm : (remU a u).1 = 16 := by show min 16 (u.1 + 1) = 16; omega
            rw [hm]
            show mA T (if e = 0 then a else u.2 (e - 1)) (fun j => pt88 (sh88 (M 68) 1320) (M 56) (88 * 15) 88 (88 * (16 - 1 - e) + j))
            by_cases q : e = 0
            · subst q
              rw [if_pos rfl]
              refine mA_ext (zTv_C hv) hva.2.2.2.1 (fun j hj => ?_) ha
              unfold pt88
              rw [if_pos (by omega)]
              exact congrArg _ (by omega)
            · rw [if_neg q]
              refine mA_ext (zTv_C hv) (hvU.2 (e - 1) (by omega)).2.2.2.1 (fun j hj => ?_) (u2 (e - 1) (by omega))
              unfold pt88
              rw [if_neg (by omega)]
              unfold sh88
              rw [if_pos (by omega)]
              exact congrArg _ (by omega)
      · intro m hm ih x hx
        refine zev_go zkX11_remember [12, 50] 60 (iGe hx n_1408 (by omega) (by decide) (fun q => absurd q (by omega)) (fun _ => ?_))
        refine zix (88 + m) hx (show 88 + m < 1408 by omega) (zix m (by rw [a_sub hx n_88 (by omega)]; congr 1; omega) (show m < 1408 by omega) ?_)
        have e1 : (zset M 68 (sh88 (M 68) m)) 68 (88 + m) = M 68 (m + 88) := by
          rw [zset_s]; unfold sh88; rw [if_neg (by omega)]; exact congrArg _ (by omega)
        have e2 : zu (zset M 68 (sh88 (M 68) m)) 68 m (M 68 (m + 88)) = zset M 68 (sh88 (M 68) (m + 1)) := by
          unfold zu; rw [zset_s, zset_u, sh88_s]
        rw [e1, e2]
        exact ih _ (by rw [hx, nI_1, Nat.add_assoc])
    have L0 := L 0 (by omega) 88 rfl
    rw [sh88_0, zset_id] at L0
    exact L0
