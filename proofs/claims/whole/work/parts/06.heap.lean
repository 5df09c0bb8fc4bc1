/-! fields, arrays, calls, returns -/
def zlsm (x : (Nat × List (Option Nat)) ⊕ (Bool × Nat)) : Bool := match x with
  | .inr q => decide (q.2 < 2 ^ 31)
  | .inl _ => true
theorem zlay_small : ∀ x ∈ zlay, zlsm x = true := by decide +kernel
theorem zlay_n {k n : Nat} {b : Bool} (h : zget zlay k = some (.inr (b, n))) : n < 2 ^ 31 := by
  rw [zget_eq] at h
  have h2 := zlay_small _ (List.mem_of_getElem? h)
  simpa [zlsm] using h2
theorem zt_in {w : Cond} (h : w ∈ lw_tbl) (hg : goodWord w = true) : w ∈ zt := List.mem_filter.mpr ⟨h, hg⟩
theorem zvw {ci : Nat} {q : vw_C} (h : vwCl[ci]? = some q) : (∀ w ∈ u_ws q.1 q.2.1 q.2.2, w ∈ zt) ∧ (∃ ty0 : Nat → FieldType, ∀ k, k < q.2.2 → parseFieldDescriptor (q.2.1 k).2.2.1 = some (ty0 k)) ∧ (∀ a, a < q.2.2 → ∀ b, b < q.2.2 → a ≠ b → (q.2.1 a).2.1 ≠ (q.2.1 b).2.1) := by
  match ci, h with
  | 0, h => cases h; exact ⟨fun w hw => zt_in (inX0 w hw) ((List.all_eq_true.mp (by decide +kernel : wsX00.all goodWord = true)) w hw), ⟨tyX0, tyX0_ok⟩, nmX0⟩
  | 1, h => cases h; exact ⟨fun w hw => zt_in (inX1 w hw) ((List.all_eq_true.mp (by decide +kernel : wsX10.all goodWord = true)) w hw), ⟨tyX1, tyX1_ok⟩, nmX1⟩
  | 2, h => cases h; exact ⟨fun w hw => zt_in (inX2 w hw) ((List.all_eq_true.mp (by decide +kernel : wsX20.all goodWord = true)) w hw), ⟨tyX2, tyX2_ok⟩, nmX2⟩
  | 3, h => cases h; exact ⟨fun w hw => zt_in (inX3 w hw) ((List.all_eq_true.mp (by decide +kernel : wsX30.all goodWord = true)) w hw), ⟨tyX3, tyX3_ok⟩, nmX3⟩
  | 4, h => cases h; exact ⟨fun w hw => zt_in (inX4 w hw) ((List.all_eq_true.mp (by decide +kernel : wsX40.all goodWord = true)) w hw), ⟨tyX4, tyX4_ok⟩, nmX4⟩
  | 5, h => cases h; exact ⟨fun w hw => zt_in (inX5 w hw) ((List.all_eq_true.mp (by decide +kernel : wsX50.all goodWord = true)) w hw), ⟨tyX5, tyX5_ok⟩, nmX5⟩
  | 6, h => cases h; exact ⟨fun w hw => zt_in (inX6 w hw) ((List.all_eq_true.mp (by decide +kernel : wsX60.all goodWord = true)) w hw), ⟨tyX6, tyX6_ok⟩, nmX6⟩
  | 7, h => cases h; exact ⟨fun w hw => zt_in (inX7 w hw) ((List.all_eq_true.mp (by decide +kernel : wsX70.all goodWord = true)) w hw), ⟨tyX7, tyX7_ok⟩, nmX7⟩
  | 8, h => cases h; exact ⟨fun w hw => zt_in (inX8 w hw) ((List.all_eq_true.mp (by decide +kernel : wsX80.all goodWord = true)) w hw), ⟨tyX8, tyX8_ok⟩, nmX8⟩
  | 9, h => cases h; exact ⟨fun w hw => zt_in (inX9 w hw) ((List.all_eq_true.mp (by decide +kernel : wsX90.all goodWord = true)) w hw), ⟨tyX9, tyX9_ok⟩, nmX9⟩
  | 10, h => cases h; exact ⟨fun w hw => zt_in (inX10 w hw) ((List.all_eq_true.mp (by decide +kernel : wsX100.all goodWord = true)) w hw), ⟨tyX10, tyX10_ok⟩, nmX10⟩
  | 11, h => cases h; exact ⟨fun w hw => zt_in (inX11 w hw) ((List.all_eq_true.mp (by decide +kernel : wsX110.all goodWord = true)) w hw), ⟨tyX11, tyX11_ok⟩, nmX11⟩
  | n + 12, h => simp [vwCl] at h
theorem zfld_of {K : Value → Prop} {M : zM} {k a b : Nat} (h : zfld K M k a b) : ∃ fl o, zget zlay k = some (.inl (a, fl)) ∧ fl[b]? = some o ∧ ((∃ t, o = some t ∧ K (.ref t)) ∨ (o = none ∧ K (.int (M k b)))) := by
  unfold zfld at h
  split at h
  · next ci fl hk =>
    obtain ⟨hc, h2⟩ := zbif_of h
    clear h
    have e := Nat.eq_of_beq_eq_true hc
    subst e
    split at h2
    · next t ht => exact ⟨fl, some t, hk, by rw [← zget_eq]; exact ht, Or.inl ⟨t, rfl, h2⟩⟩
    · next ht => exact ⟨fl, none, hk, by rw [← zget_eq]; exact ht, Or.inr ⟨rfl, h2⟩⟩
    · exact h2.elim
  · exact h.elim
def zvo (x : Int32) : Option Nat → Value
  | some t => .ref t
  | none => .int x
theorem zvo_v (ad : Nat → Nat) (x : Int32) (o : Option Nat) : zfv ad x o = zv ad (zvo x o) := by cases o <;> rfl
theorem zs_getfield {f : zF} {Q : Option Value → zM → Prop} {pc : Nat} {E : zE} {st : List Value} {M : zM} {n a b : Nat} (hd : decode f.1.2.2 pc = .ok (.getfield n, 3)) (hL : zokFL (f.1.1, n, a, b)) (h : zr1 (fun k st => zfld (fun v => zEv f Q (pc + 3) E (v :: st) M) M k a b) st) : zEv f Q pc E st M := by
  obtain ⟨k, r, hst, h2⟩ := zr1_of h
  clear h
  subst hst
  obtain ⟨fl, o, hk, hb', h⟩ := zfld_of h2
  clear h2
  obtain ⟨-, hL0⟩ := hL
  split at hL0
  · next q hq =>
    obtain ⟨hlt, hL⟩ := hL0
    obtain ⟨h1, -, -⟩ := zvw hq
    have h' : zEv f Q (pc + 3) E ((zvo (M k b) o) :: r) M := by
      rcases h with ⟨t, rfl, h⟩ | ⟨rfl, h⟩ <;> exact h
    intro p l e s m args below meth c D cI cZ ad A X H locs ls hP hS hl
    obtain ⟨hx, hb, hr, hml, hown, hts, hlocks, hK, hin, hAd, hA, hN⟩ := id X
    refine va_get (C := q.1) (T := q.2.1) (N := q.2.2) (ci := a) (ref := (q.2.1 b).1) (v := zv ad (zvo (M k b) o)) hx hb hts h1 hown hK hP k (fs := zfs ad (M k) 0 fl) ?_ hq b hlt (hts _ hL) (fun _ h => h) ?_ hd (h' p l e s m args below meth c D cI cZ ad A X H locs ls hP hS hl)
    · rw [zWd_at _ _ _ _ (zlay_lt hk), zcell_obj hk]
    · rw [zfs_at, hb', Nat.zero_add]
      exact congrArg some (zvo_v ad (M k b) o)
  · exact hL0.elim
theorem zfput_of {K : Prop} {k a b : Nat} {x : Int32} (h : zfput K k a b x) : ∃ fl, zget zlay k = some (.inl (a, fl)) ∧ fl[b]? = some none ∧ ((Nat.beq a 8 && Nat.beq b 0) = true → x = 0 ∨ x = 1) ∧ K := by
  unfold zfput at h
  split at h
  · next ci fl hk =>
    obtain ⟨hc, h2⟩ := zbif_of h
    clear h
    have e := Nat.eq_of_beq_eq_true hc
    subst e
    split at h2
    · next ht =>
      refine ⟨fl, hk, by rw [← zget_eq]; exact ht, ?_⟩
      cases hz : (Nat.beq ci 8 && Nat.beq b 0) with
      | true => rw [hz] at h2; exact ⟨fun _ => h2.1, h2.2⟩
      | false => rw [hz] at h2; exact ⟨fun q => absurd q (by decide), h2⟩
    · exact h2.elim
  · exact h.elim
theorem zs_putfield {f : zF} {Q : Option Value → zM → Prop} {pc : Nat} {E : zE} {st : List Value} {M : zM} {n a b : Nat} (hd : decode f.1.2.2 pc = .ok (.putfield n, 3)) (hL : zokFL (f.1.1, n, a, b)) (hfin : (zTd a b).2.2.2 = false) (hty : (zTd a b).2.2.1 = bif Nat.beq a 8 && Nat.beq b 0 then "Z" else "I") (h : zir (fun x k st => zfput (zEv f Q (pc + 3) E st (zu M k b x)) k a b x) st) : zEv f Q pc E st M := by
  obtain ⟨x, k, r, hst, h2⟩ := zir_of h
  clear h
  subst hst
  obtain ⟨fl, hk, hb', hx01, h⟩ := zfput_of h2
  clear h2
  obtain ⟨-, hL0⟩ := hL
  split at hL0
  · next q hq =>
    obtain ⟨hlt, hL⟩ := hL0
    obtain ⟨h1, ⟨ty0, h2⟩, h3⟩ := zvw hq
    have eT : zTd a b = q.2.1 b := by
      have hq' : vwCl[a]? = some q := hq
      unfold zTd; rw [hq']
    rw [eT] at hfin hty
    obtain ⟨ty, hdt, hn, hf⟩ : ∃ ty : FieldType, parseFieldDescriptor (q.2.1 b).2.2.1 = some ty ∧ narrow ty (.int x) = .int x ∧ fits ty (.int x) = true := by
      cases hz : (Nat.beq a 8 && Nat.beq b 0) with
      | true =>
        rw [hty, hz]
        refine ⟨.boolean, by decide +kernel, ?_⟩
        rcases hx01 hz with rfl | rfl
        · exact ⟨rfl, rfl⟩
        · exact ⟨rfl, rfl⟩
      | false =>
        rw [hty, hz]
        exact ⟨.int, by decide +kernel, rfl, rfl⟩
    intro p l e s m args below meth c D cI cZ ad A X H locs ls hP hS hl
    obtain ⟨hx, hb, hr, hml, hown, hts, hlocks, hK, hin, hAd, hA, hN⟩ := id X
    have hD := zWd_D cI cZ ad M hin hAd
    refine va_put (C := q.1) (T := q.2.1) (N := q.2.2) (ci := a) (ref := (q.2.1 b).1) (v := .int x) hx hb hts h1 ty0 h2 h3 hown hK hP hD hS k (fs := zfs ad (M k) 0 fl) ?_ hq b hlt (hts _ hL) (fun _ h => h) hfin hdt hn hf ?_ hd (fun H1 locs1 hP1 hD1 hS1 => ?_)
    · rw [zWd_at _ _ _ _ (zlay_lt hk), zcell_obj hk]
    · rw [zfs_len]; exact (List.getElem?_eq_some_iff.mp hb').1
    · refine h p l e s m args below meth c D cI cZ ad A X H1 locs1 ls ?_ hS1 hl
      have e : (zfs ad (M k) 0 fl).set b (.int x) = zfs ad (upd (M k) b x) 0 fl := by rw [zfs_set ad (M k) x fl 0 b hb', Nat.zero_add]
      rw [e] at hP1
      have e2 : zcell cI cZ ad (zset M k (upd (M k) b x)) k = .inr (a, zfs ad (upd (M k) b x) 0 fl) := by rw [zcell_obj hk]; simp [zset]
      rw [← e2, zWd_set] at hP1
      exact hP1
  · exact hL0.elim
theorem zarr_of {K : Nat → Prop} {z : Bool} {k : Nat} {i : Int32} (h : zarr K z k i) : ∃ n j, zget zlay k = some (.inr (z, n)) ∧ i = nI j ∧ j < n ∧ K j := by
  unfold zarr at h
  split at h
  · next y n hk =>
    obtain ⟨hc, j, h1, h2, h3⟩ := zbif_of h
    have e : y = z := by simpa using hc
    subst e
    exact ⟨n, j, hk, h1, h2, h3⟩
  · exact h.elim
theorem zlen_of {K : Nat → Prop} {k : Nat} (h : zlen K k) : ∃ z n, zget zlay k = some (.inr (z, n)) ∧ K n := by
  unfold zlen at h
  split at h
  · next y n hk => exact ⟨y, n, hk, h⟩
  · exact h.elim
theorem zs_iaload {f : zF} {Q : Option Value → zM → Prop} {pc : Nat} {E : zE} {st : List Value} {M : zM} (hd : decode f.1.2.2 pc = .ok (.iaload, 1)) (h : zir (fun i k st => zarr (fun j => zEv f Q (pc + 1) E (.int (M k j) :: st) M) false k i) st) : zEv f Q pc E st M := by
  obtain ⟨i, k, r, rfl, h⟩ := zir_of h
  obtain ⟨n, j, hk, rfl, hj, h⟩ := zarr_of h
  intro p l e s m args below meth c D cI cZ ad A X H locs ls hP hS hl
  obtain ⟨hx, hb, hr, hml, hown, hts, hlocks, hK, hin, hAd, hA, hN⟩ := id X
  have hn := zlay_n hk
  refine va_iald hx hb hK hP k 0 (cA := cI) (n := n) (f := M k) (by rw [zWd_at _ _ _ _ (zlay_lt hk), zcell_arr hk]; rfl) rfl (vp_in_nI hj hn) hd ?_
  rw [nI_clamp (Nat.lt_trans hj hn)]
  exact (h p l e s m args below meth c D cI cZ ad A X H locs ls hP hS hl)
theorem zs_baload {f : zF} {Q : Option Value → zM → Prop} {pc : Nat} {E : zE} {st : List Value} {M : zM} (hd : decode f.1.2.2 pc = .ok (.baload, 1)) (h : zir (fun i k st => zarr (fun j => zEv f Q (pc + 1) E (.int (M k j) :: st) M) true k i) st) : zEv f Q pc E st M := by
  obtain ⟨i, k, r, rfl, h⟩ := zir_of h
  obtain ⟨n, j, hk, rfl, hj, h⟩ := zarr_of h
  intro p l e s m args below meth c D cI cZ ad A X H locs ls hP hS hl
  obtain ⟨hx, hb, hr, hml, hown, hts, hlocks, hK, hin, hAd, hA, hN⟩ := id X
  have hn := zlay_n hk
  refine va_zald hx hb hK hP k 1 (cA := cZ) (n := n) (f := M k) (by rw [zWd_at _ _ _ _ (zlay_lt hk), zcell_arr hk]; rfl) rfl (vp_in_nI hj hn) hd ?_
  rw [nI_clamp (Nat.lt_trans hj hn)]
  exact (h p l e s m args below meth c D cI cZ ad A X H locs ls hP hS hl)
theorem zs_iastore {f : zF} {Q : Option Value → zM → Prop} {pc : Nat} {E : zE} {st : List Value} {M : zM} (hd : decode f.1.2.2 pc = .ok (.iastore, 1)) (h : ziir (fun x i k st => zarr (fun j => zEv f Q (pc + 1) E st (zu M k j x)) false k i) st) : zEv f Q pc E st M := by
  obtain ⟨x, i, k, r, rfl, h⟩ := ziir_of h
  obtain ⟨n, j, hk, rfl, hj, h⟩ := zarr_of h
  intro p l e s m args below meth c D cI cZ ad A X H locs ls hP hS hl
  obtain ⟨hx, hb, hr, hml, hown, hts, hlocks, hK, hin, hAd, hA, hN⟩ := id X
  have hn := zlay_n hk
  have hD := zWd_D cI cZ ad M hin hAd
  refine va_iast hx hb hK hP hD hS k 0 (cA := cI) (n := n) (f := M k) (by rw [zWd_at _ _ _ _ (zlay_lt hk), zcell_arr hk]; rfl) rfl (vp_in_nI hj hn) hd (fun H1 locs1 hP1 hD1 hS1 => ?_)
  rw [nI_clamp (Nat.lt_trans hj hn)] at hP1
  refine h p l e s m args below meth c D cI cZ ad A X H1 locs1 ls ?_ hS1 hl
  have e2 : zcell cI cZ ad (zset M k (upd (M k) j x)) k = .inl (cI, n, .inl (upd (M k) j x)) := by rw [zcell_arr hk]; simp [zset]
  rw [← e2, zWd_set] at hP1
  exact hP1
theorem zs_bastore {f : zF} {Q : Option Value → zM → Prop} {pc : Nat} {E : zE} {st : List Value} {M : zM} (hd : decode f.1.2.2 pc = .ok (.bastore, 1)) (h : ziir (fun x i k st => (x = 0 ∨ x = 1) ∧ zarr (fun j => zEv f Q (pc + 1) E st (zu M k j x)) true k i) st) : zEv f Q pc E st M := by
  obtain ⟨x, i, k, r, rfl, hx01, h⟩ := ziir_of h
  obtain ⟨n, j, hk, rfl, hj, h⟩ := zarr_of h
  intro p l e s m args below meth c D cI cZ ad A X H locs ls hP hS hl
  obtain ⟨hx, hb, hr, hml, hown, hts, hlocks, hK, hin, hAd, hA, hN⟩ := id X
  have hn := zlay_n hk
  have hD := zWd_D cI cZ ad M hin hAd
  refine va_zast hx hb hK hP hD hS k 1 (cA := cZ) (n := n) (f := M k) (by rw [zWd_at _ _ _ _ (zlay_lt hk), zcell_arr hk]; rfl) rfl (vp_in_nI hj hn) hd (fun H1 locs1 hP1 hD1 hS1 => ?_)
  rw [nI_clamp (Nat.lt_trans hj hn), show vp_nar .boolean x = x by rcases hx01 with rfl | rfl <;> rfl] at hP1
  refine h p l e s m args below meth c D cI cZ ad A X H1 locs1 ls ?_ hS1 hl
  have e2 : zcell cI cZ ad (zset M k (upd (M k) j x)) k = .inl (cZ, n, .inl (upd (M k) j x)) := by rw [zcell_arr hk]; simp [zset]
  rw [← e2, zWd_set] at hP1
  exact hP1
theorem zs_arraylength {f : zF} {Q : Option Value → zM → Prop} {pc : Nat} {E : zE} {st : List Value} {M : zM} (hd : decode f.1.2.2 pc = .ok (.arraylength, 1)) (h : zr1 (fun k st => zlen (fun n => zEv f Q (pc + 1) E (.int (nI n) :: st) M) k) st) : zEv f Q pc E st M := by
  obtain ⟨k, r, rfl, h⟩ := zr1_of h
  obtain ⟨z, n, hk, h⟩ := zlen_of h
  intro p l e s m args below meth c D cI cZ ad A X H locs ls hP hS hl
  obtain ⟨hx, hb, hr, hml, hown, hts, hlocks, hK, hin, hAd, hA, hN⟩ := id X
  cases z with
  | false => exact va_alen hx hb hK hP k 0 (cA := cI) (x := (n, .inl (M k))) (by rw [zWd_at _ _ _ _ (zlay_lt hk), zcell_arr hk]; rfl) (ty := .int) rfl rfl hd (h p l e s m args below meth c D cI cZ ad A X H locs ls hP hS hl)
  | true => exact va_alen hx hb hK hP k 1 (cA := cZ) (x := (n, .inl (M k))) (by rw [zWd_at _ _ _ _ (zlay_lt hk), zcell_arr hk]; rfl) (ty := .boolean) rfl rfl hd (h p l e s m args below meth c D cI cZ ad A X H locs ls hP hS hl)
theorem zs_min {f : zF} {Q : Option Value → zM → Prop} {pc : Nat} {E : zE} {st : List Value} {M : zM} {n : Nat} (hd : decode f.1.2.2 pc = .ok (.invokestatic n, 3)) (hL : .methodLink (zown f.1.1) n Lib.Math.min.name ∈ zt) (h : zi2 (fun x y st => bif Nat.ble 1 f.2.2.1.1 && Nat.ble (zcat st + 13) f.2.2.1.2 then zEv f Q (pc + 3) E (.int (zmin x y) :: st) M else False) st) : zEv f Q pc E st M := by
  obtain ⟨x, y, r, rfl, h⟩ := zi2_of h
  obtain ⟨hc, h⟩ := zbif_of h
  rw [Bool.and_eq_true] at hc
  intro p l e s m args below meth c D cI cZ ad A X H locs ls hP hS hl
  obtain ⟨hx, hb, hr, hml, hown, hts, hlocks, hK, hin, hAd, hA, hN⟩ := id X
  exact va_mmin hx hb (hml.trans hl.1.symm) hown (hts _ hL) (hts _ (zt_in (by decide +kernel) (by decide +kernel))) (hts _ (zt_in (by decide +kernel) (by decide +kernel))) (hts _ (zt_in (by decide +kernel) (by decide +kernel))) (Nat.le_of_ble_eq_true hc.1) (by rw [zcat_map]; exact Nat.le_of_ble_eq_true hc.2) (Nat.le_refl 0) (Nat.le_refl 0) hd (h p l e s m args below meth c D cI cZ ad A X H locs ls hP hS hl)
theorem zs_max {f : zF} {Q : Option Value → zM → Prop} {pc : Nat} {E : zE} {st : List Value} {M : zM} {n : Nat} (hd : decode f.1.2.2 pc = .ok (.invokestatic n, 3)) (hL : .methodLink (zown f.1.1) n Lib.Math.max.name ∈ zt) (h : zi2 (fun x y st => bif Nat.ble 1 f.2.2.1.1 && Nat.ble (zcat st + 13) f.2.2.1.2 then zEv f Q (pc + 3) E (.int (zmax x y) :: st) M else False) st) : zEv f Q pc E st M := by
  obtain ⟨x, y, r, rfl, h⟩ := zi2_of h
  obtain ⟨hc, h⟩ := zbif_of h
  rw [Bool.and_eq_true] at hc
  intro p l e s m args below meth c D cI cZ ad A X H locs ls hP hS hl
  obtain ⟨hx, hb, hr, hml, hown, hts, hlocks, hK, hin, hAd, hA, hN⟩ := id X
  exact va_mmax hx hb (hml.trans hl.1.symm) hown (hts _ hL) (hts _ (zt_in (by decide +kernel) (by decide +kernel))) (hts _ (zt_in (by decide +kernel) (by decide +kernel))) (hts _ (zt_in (by decide +kernel) (by decide +kernel))) (Nat.le_of_ble_eq_true hc.1) (by rw [zcat_map]; exact Nat.le_of_ble_eq_true hc.2) (Nat.le_refl 0) (Nat.le_refl 0) hd (h p l e s m args below meth c D cI cZ ad A X H locs ls hP hS hl)
theorem zcpy_of {K : List Value → zM → Prop} {lo : Nat} {M : zM} {st : List Value} (h : zcpy K lo M st) : ∃ n dp k1 sp k0 r n0 n1 a b d, st = .int n :: .int dp :: .ref k1 :: .int sp :: .ref k0 :: r ∧ zget zlay k0 = some (.inr (false, n0)) ∧ zget zlay k1 = some (.inr (false, n1)) ∧ zcat r + 18 ≤ lo ∧ sp = nI a ∧ dp = nI b ∧ n = nI d ∧ a + d ≤ n0 ∧ b + d ≤ n1 ∧ K r (zset M k1 (va_cpy (M k0) (M k1) a b d)) := by
  unfold zcpy at h
  split at h
  · next n dp k1 sp k0 r =>
    split at h
    · next n0 n1 h0 h1 =>
      obtain ⟨hc, a, b, d, h⟩ := zbif_of h
      exact ⟨n, dp, k1, sp, k0, r, n0, n1, a, b, d, rfl, h0, h1, Nat.le_of_ble_eq_true hc, h⟩
    · exact h.elim
  · exact h.elim
theorem zs_copy {f : zF} {Q : Option Value → zM → Prop} {pc : Nat} {E : zE} {st : List Value} {M : zM} {n : Nat} (hd : decode f.1.2.2 pc = .ok (.invokestatic n, 3)) (hL : .methodLink (zown f.1.1) n arraycopyName ∈ zt) (h : bif Nat.ble 1 f.2.2.1.1 then zcpy (fun st M => zEv f Q (pc + 3) E st M) f.2.2.1.2 M st else False) : zEv f Q pc E st M := by
  obtain ⟨hc, h⟩ := zbif_of h
  obtain ⟨nn, dp, k1, sp, k0, r, n0, n1, a, b, d, rfl, hk0, hk1, hlo, rfl, rfl, rfl, ha, hb', h⟩ := zcpy_of h
  intro p l e s m args below meth c D cI cZ ad A X H locs ls hP hS hl
  obtain ⟨hx, hb, hr, hml, hown, hts, hlocks, hK, hin, hAd, hA, hN⟩ := id X
  have hn0 := zlay_n hk0
  have hn1 := zlay_n hk1
  have hD := zWd_D cI cZ ad M hin hAd
  have ca : (nI a).toNatClampNeg = a := nI_clamp (by omega)
  have cb : (nI b).toNatClampNeg = b := nI_clamp (by omega)
  have cd : (nI d).toNatClampNeg = d := nI_clamp (by omega)
  refine va_copyi hx hb (hml.trans hl.1.symm) hown (hts _ hL) (hts _ (zt_in (by decide +kernel) (by decide +kernel))) (hts _ (zt_in (by decide +kernel) (by decide +kernel))) (hts _ (zt_in (by decide +kernel) (by decide +kernel))) hK hP hD hS k0 k1 0 0 (c0 := cI) (c1 := cI) (n0 := n0) (n1 := n1) (f := M k0) (g := M k1) (ty := .int) (by rw [zWd_at _ _ _ _ (zlay_lt hk0), zcell_arr hk0]; rfl) (by rw [zWd_at _ _ _ _ (zlay_lt hk1), zcell_arr hk1]; rfl) rfl rfl rfl (nI_pos (by omega)) (nI_pos (by omega)) (nI_pos (by omega)) (by rw [ca, cd]; exact ha) (by rw [cb, cd]; exact hb') (fun i _ => rfl) (Nat.le_of_ble_eq_true hc) (by rw [zcat_map]; exact hlo) hd (fun H1 locs1 hP1 hD1 hS1 => ?_)
  rw [ca, cb, cd] at hP1
  refine h p l e s m args below meth c D cI cZ ad A X H1 locs1 ls ?_ hS1 hl
  have e2 : zcell cI cZ ad (zset M k1 (va_cpy (M k0) (M k1) a b d)) k1 = .inl (cI, n1, .inl (va_cpy (M k0) (M k1) a b d)) := by rw [zcell_arr hk1]; simp [zset]
  rw [← e2, zWd_set] at hP1
  exact hP1
theorem zs_ireturn {f : zF} {Q : Option Value → zM → Prop} {pc : Nat} {E : zE} {st : List Value} {M : zM} (hd : decode f.1.2.2 pc = .ok (.ireturn, 1)) (h : zretI (fun v => Q v M) f.2.1.2 st) : zEv f Q pc E st M := by
  unfold zretI at h
  split at h
  · next v =>
    have h' : ∃ ty : FieldType, f.2.1.2 = some ty ∧ narrow ty (.int v) = .int v ∧ Q (some (.int v)) M := by
      split at h
      · next e => exact ⟨.int, e, rfl, h⟩
      · next e =>
        refine ⟨.boolean, e, ?_, h.2⟩
        rcases h.1 with rfl | rfl <;> rfl
      · exact h.elim
    obtain ⟨ty, e1, e2, hq⟩ := h'
    intro p l e s m args below meth c D cI cZ ad A X H locs ls hP hS hl
    obtain ⟨hx, hb, hr, hml, hown, hts, hlocks, hK, hin, hAd, hA, hN⟩ := id X
    exact W.zret (v := v) (ty := ty) hx hb (by rw [hr]; exact e1) e2 (fun t ht hW => ⟨⟨_, M, rfl, Or.inr ⟨v, rfl⟩, hq, by rw [ht]; exact hP⟩, hS.F ht⟩) hS.2.2 hd
  · exact h.elim
theorem zs_return {f : zF} {Q : Option Value → zM → Prop} {pc : Nat} {E : zE} {st : List Value} {M : zM} (hd : decode f.1.2.2 pc = .ok (.return_, 1)) (h : zretV (Q none M) f.2.1.2 st) : zEv f Q pc E st M := by
  unfold zretV at h
  split at h
  · split at h
    · next er =>
      intro p l e s m args below meth c D cI cZ ad A X H locs ls hP hS hl
      obtain ⟨hx, hb, hr, hml, hown, hts, hlocks, hK, hin, hAd, hA, hN⟩ := id X
      exact W.vret hx hb (by rw [hr]; exact er) (fun t ht hW => ⟨⟨_, M, rfl, Or.inl rfl, h, by rw [ht]; exact hP⟩, hS.F ht⟩) hS.2.2 hd
    · exact h.elim
  · exact h.elim
