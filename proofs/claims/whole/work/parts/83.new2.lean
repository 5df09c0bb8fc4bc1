/-! constructors (by a program) -/
theorem dN_X4_0 : decode cX4_init 0 = .ok (.aload_n 0, 1) := by decide +kernel
theorem dN_X4_1 : decode cX4_init 1 = .ok (.invokespecial 3, 3) := by decide +kernel
theorem dN_X4_4 : decode cX4_init 4 = .ok (.aload_n 0, 1) := by decide +kernel
theorem dN_X4_5 : decode cX4_init 5 = .ok (.bipush 56, 2) := by decide +kernel
theorem dN_X4_7 : decode cX4_init 7 = .ok (.newarray .int, 2) := by decide +kernel
theorem dN_X4_9 : decode cX4_init 9 = .ok (.putfield 11, 3) := by decide +kernel
theorem dN_X4_12 : decode cX4_init 12 = .ok (.aload_n 0, 1) := by decide +kernel
theorem dN_X4_13 : decode cX4_init 13 = .ok (.bipush 7, 2) := by decide +kernel
theorem dN_X4_15 : decode cX4_init 15 = .ok (.newarray .int, 2) := by decide +kernel
theorem dN_X4_17 : decode cX4_init 17 = .ok (.putfield 15, 3) := by decide +kernel
theorem dN_X4_20 : decode cX4_init 20 = .ok (.aload_n 0, 1) := by decide +kernel
theorem dN_X4_21 : decode cX4_init 21 = .ok (.bipush 7, 2) := by decide +kernel
theorem dN_X4_23 : decode cX4_init 23 = .ok (.newarray .int, 2) := by decide +kernel
theorem dN_X4_25 : decode cX4_init 25 = .ok (.putfield 18, 3) := by decide +kernel
theorem dN_X4_28 : decode cX4_init 28 = .ok (.aload_n 0, 1) := by decide +kernel
theorem dN_X4_29 : decode cX4_init 29 = .ok (.aload_n 1, 1) := by decide +kernel
theorem dN_X4_30 : decode cX4_init 30 = .ok (.putfield 21, 3) := by decide +kernel
theorem dN_X4_33 : decode cX4_init 33 = .ok (.return_, 1) := by decide +kernel
theorem nfX4 : ∀ j, j < 4 → defaultValue (tyX4 j) = vp_V [.null, .null, .null, .null] j := fun j hj => match j, hj with | 0, _ => rfl | 1, _ => rfl | 2, _ => rfl | 3, _ => rfl | n + 4, h => absurd h (by omega)
set_option maxHeartbeats 4000000 in
set_option maxRecDepth 100000 in
theorem n_X4 (l : Launch) (D : va_G) (cI cZ : ClassId) (h0 a1 sz : Nat) : Met l yX4_init (nws yX4_init cX4_init 2) ({ frames := 1, cells := 3, slots := 70, locals := 12 }) (nPc [.ref h0, .ref a1] D cI cZ sz [nO h0 4 [.null, .null, .null, .null]]) (nQc D sz [nO h0 4 [.null, .null, .null, .null]] (fun u => [nO h0 4 [.ref a1, .ref (u 1), .ref (u 2), .ref (u 3)], nA cI (u 1) 56, nA cI (u 2) 7, nA cI (u 3) 7])) 3 70 (va_A [nO h0 4 [.null, .null, .null, .null]] sz) := by
  refine Met.ofW (cc := cX4_init) (maxL := 2) (ret := none) (by decide +kernel) rfl ?_
  intro p e s m args below meth c s1 B hml hv
  obtain ⟨rfl, hsz, hP, hK, hD0, hN⟩ := hv
  have hx := B.exec
  have hb := B.bytes
  have hr := B.returns
  have hts0 := atoms_spec (ws := nws yX4_init cX4_init 2) B.pre
  have hts : ∀ w ∈ zt, w.before _ s = true := fun w hw => hts0 w (List.mem_cons_of_mem _ hw)
  have hown : s.vm.findClass RX4 = some m.cls := findClass_of_methodNamed B.named
  have hlocks := B.notSynchronized
  have hin : meth.name = "<init>" := (name_of_methodNamed B.named B.method).1
  subst hsz
  have hD := hD0.self (sz := s.heap.size)
  generalize hAe : va_A [nO h0 4 [.null, .null, .null, .null]] s.heap.size = A at hD ⊢
  have hA : ∀ q : Nat, s.heap.size ≤ q → A q := fun q h => by rw [← hAe]; exact Or.inr h
  have X : nX RX4 cX4_init 2 p s m _ meth c D cI cZ A := ⟨hx, hb, hr, hml, hown, hts, hlocks, hin, hK, hA, hN⟩
  have hS : va_S A s.heap s.heap [] := va_S.rf
  have hl := lv_entry ([.ref h0, .ref a1]) (n := 2) (Nat.le_of_ble_eq_true rfl)
  rw [lg_entry_eq]
  generalize (lg_sl ([.ref h0, .ref a1]) ++ List.replicate (2 - (lg_sl ([.ref h0, .ref a1])).length) Slot.unset).toArray = ls at hl ⊢
  have hl : lv_has ls 2 [(0, .ref h0), (1, .ref a1)] := hl
  refine lv_aload_n hx hb dN_X4_0 rfl (lv_at hl 0 rfl) ?_
  refine nw_obj X (zin_of (p := (1, 236)) (by decide +kernel)) (zin_of (p := (1, 23)) (by decide +kernel)) (zin_of (p := (1, 24)) (by decide +kernel)) hl.1 dN_X4_1 (by decide) (by decide) ?_
  refine lv_aload_n hx hb dN_X4_4 rfl (lv_at hl 0 rfl) ?_
  refine lv_bipush (v := 56) hx hb dN_X4_5 (by decide) ?_
  refine nw_arr X hP hD hS (N := 56) (by decide) (by decide) (by decide) (zin_of (p := (1, 114)) (by decide +kernel)) (by decide) (by decide) dN_X4_7 (fun q1 H hP hD hS => ?_)
  have hP : va_P D vwCl [nO h0 4 [.null, .null, .null, .null], nA cI q1 56] H := hP
  have hD : va_D A [nO h0 4 [.null, .null, .null, .null], nA cI q1 56] := hD
  refine nw_put X hP hD hS 0 rfl (q := (RX4, TX4, 4)) rfl 1 (by decide) (idx := 11) (zin_of (p := (1, 238)) (by decide +kernel)) rfl rfl (ty := (.array .int)) (by decide +kernel) rfl rfl (Nat.le_of_ble_eq_true rfl) dN_X4_9 (fun H locs hP hD hS => ?_)
  have hP : va_P D vwCl [nO h0 4 [.null, .ref q1, .null, .null], nA cI q1 56] H := hP
  have hD : va_D A [nO h0 4 [.null, .ref q1, .null, .null], nA cI q1 56] := hD
  refine lv_aload_n hx hb dN_X4_12 rfl (lv_at hl 0 rfl) ?_
  refine lv_bipush (v := 7) hx hb dN_X4_13 (by decide) ?_
  refine nw_arr X hP hD hS (N := 7) (by decide) (by decide) (by decide) (zin_of (p := (1, 114)) (by decide +kernel)) (by decide) (by decide) dN_X4_15 (fun q2 H hP hD hS => ?_)
  have hP : va_P D vwCl [nO h0 4 [.null, .ref q1, .null, .null], nA cI q1 56, nA cI q2 7] H := hP
  have hD : va_D A [nO h0 4 [.null, .ref q1, .null, .null], nA cI q1 56, nA cI q2 7] := hD
  refine nw_put X hP hD hS 0 rfl (q := (RX4, TX4, 4)) rfl 2 (by decide) (idx := 15) (zin_of (p := (1, 239)) (by decide +kernel)) rfl rfl (ty := (.array .int)) (by decide +kernel) rfl rfl (Nat.le_of_ble_eq_true rfl) dN_X4_17 (fun H locs hP hD hS => ?_)
  have hP : va_P D vwCl [nO h0 4 [.null, .ref q1, .ref q2, .null], nA cI q1 56, nA cI q2 7] H := hP
  have hD : va_D A [nO h0 4 [.null, .ref q1, .ref q2, .null], nA cI q1 56, nA cI q2 7] := hD
  refine lv_aload_n hx hb dN_X4_20 rfl (lv_at hl 0 rfl) ?_
  refine lv_bipush (v := 7) hx hb dN_X4_21 (by decide) ?_
  refine nw_arr X hP hD hS (N := 7) (by decide) (by decide) (by decide) (zin_of (p := (1, 114)) (by decide +kernel)) (by decide) (by decide) dN_X4_23 (fun q3 H hP hD hS => ?_)
  have hP : va_P D vwCl [nO h0 4 [.null, .ref q1, .ref q2, .null], nA cI q1 56, nA cI q2 7, nA cI q3 7] H := hP
  have hD : va_D A [nO h0 4 [.null, .ref q1, .ref q2, .null], nA cI q1 56, nA cI q2 7, nA cI q3 7] := hD
  refine nw_put X hP hD hS 0 rfl (q := (RX4, TX4, 4)) rfl 3 (by decide) (idx := 18) (zin_of (p := (2, 1)) (by decide +kernel)) rfl rfl (ty := (.array .int)) (by decide +kernel) rfl rfl (Nat.le_of_ble_eq_true rfl) dN_X4_25 (fun H locs hP hD hS => ?_)
  have hP : va_P D vwCl [nO h0 4 [.null, .ref q1, .ref q2, .ref q3], nA cI q1 56, nA cI q2 7, nA cI q3 7] H := hP
  have hD : va_D A [nO h0 4 [.null, .ref q1, .ref q2, .ref q3], nA cI q1 56, nA cI q2 7, nA cI q3 7] := hD
  refine lv_aload_n hx hb dN_X4_28 rfl (lv_at hl 0 rfl) ?_
  refine lv_aload_n hx hb dN_X4_29 rfl (lv_at hl 1 rfl) ?_
  refine nw_put X hP hD hS 0 rfl (q := (RX4, TX4, 4)) rfl 0 (by decide) (idx := 21) (zin_of (p := (1, 237)) (by decide +kernel)) rfl rfl (ty := (.object "StreetTongues$Chairs")) (by decide +kernel) rfl rfl (Nat.le_of_ble_eq_true rfl) dN_X4_30 (fun H locs hP hD hS => ?_)
  have hP : va_P D vwCl [nO h0 4 [.ref a1, .ref q1, .ref q2, .ref q3], nA cI q1 56, nA cI q2 7, nA cI q3 7] H := hP
  have hD : va_D A [nO h0 4 [.ref a1, .ref q1, .ref q2, .ref q3], nA cI q1 56, nA cI q2 7, nA cI q3 7] := hD
  exact W.vret hx hb hr (fun t ht hW => ⟨⟨(fun k => match k with | 1 => q1 | 2 => q2 | 3 => q3 | _ => 0 : Nat → Nat), rfl, trivial, by rw [ht]; exact hP, by rw [hAe]; exact hD⟩, by rw [hAe]; exact hS.F ht⟩) hS.2.2 dN_X4_33 hlocks
theorem dN_X6_0 : decode cX6_init 0 = .ok (.aload_n 0, 1) := by decide +kernel
theorem dN_X6_1 : decode cX6_init 1 = .ok (.invokespecial 3, 3) := by decide +kernel
theorem dN_X6_4 : decode cX6_init 4 = .ok (.aload_n 0, 1) := by decide +kernel
theorem dN_X6_5 : decode cX6_init 5 = .ok (.bipush 49, 2) := by decide +kernel
theorem dN_X6_7 : decode cX6_init 7 = .ok (.newarray .int, 2) := by decide +kernel
theorem dN_X6_9 : decode cX6_init 9 = .ok (.putfield 9, 3) := by decide +kernel
theorem dN_X6_12 : decode cX6_init 12 = .ok (.aload_n 0, 1) := by decide +kernel
theorem dN_X6_13 : decode cX6_init 13 = .ok (.sipush 896, 3) := by decide +kernel
theorem dN_X6_16 : decode cX6_init 16 = .ok (.newarray .int, 2) := by decide +kernel
theorem dN_X6_18 : decode cX6_init 18 = .ok (.putfield 15, 3) := by decide +kernel
theorem dN_X6_21 : decode cX6_init 21 = .ok (.aload_n 0, 1) := by decide +kernel
theorem dN_X6_22 : decode cX6_init 22 = .ok (.sipush 896, 3) := by decide +kernel
theorem dN_X6_25 : decode cX6_init 25 = .ok (.newarray .int, 2) := by decide +kernel
theorem dN_X6_27 : decode cX6_init 27 = .ok (.putfield 18, 3) := by decide +kernel
theorem dN_X6_30 : decode cX6_init 30 = .ok (.aload_n 0, 1) := by decide +kernel
theorem dN_X6_31 : decode cX6_init 31 = .ok (.aload_n 1, 1) := by decide +kernel
theorem dN_X6_32 : decode cX6_init 32 = .ok (.putfield 21, 3) := by decide +kernel
theorem dN_X6_35 : decode cX6_init 35 = .ok (.aload_n 0, 1) := by decide +kernel
theorem dN_X6_36 : decode cX6_init 36 = .ok (.aload_n 2, 1) := by decide +kernel
theorem dN_X6_37 : decode cX6_init 37 = .ok (.putfield 25, 3) := by decide +kernel
theorem dN_X6_40 : decode cX6_init 40 = .ok (.return_, 1) := by decide +kernel
theorem nfX6 : ∀ j, j < 8 → defaultValue (tyX6 j) = vp_V [.null, .null, .null, .null, .null, .int 0, .int 0, .int 0] j := fun j hj => match j, hj with | 0, _ => rfl | 1, _ => rfl | 2, _ => rfl | 3, _ => rfl | 4, _ => rfl | 5, _ => rfl | 6, _ => rfl | 7, _ => rfl | n + 8, h => absurd h (by omega)
set_option maxHeartbeats 4000000 in
set_option maxRecDepth 100000 in
theorem n_X6 (l : Launch) (D : va_G) (cI cZ : ClassId) (h0 a1 a2 sz : Nat) : Met l yX6_init (nws yX6_init cX6_init 3) ({ frames := 1, cells := 3, slots := 1841, locals := 12 }) (nPc [.ref h0, .ref a1, .ref a2] D cI cZ sz [nO h0 6 [.null, .null, .null, .null, .null, .int 0, .int 0, .int 0]]) (nQc D sz [nO h0 6 [.null, .null, .null, .null, .null, .int 0, .int 0, .int 0]] (fun u => [nO h0 6 [.ref a1, .ref a2, .ref (u 1), .ref (u 2), .ref (u 3), .int 0, .int 0, .int 0], nA cI (u 1) 49, nA cI (u 2) 896, nA cI (u 3) 896])) 3 1841 (va_A [nO h0 6 [.null, .null, .null, .null, .null, .int 0, .int 0, .int 0]] sz) := by
  refine Met.ofW (cc := cX6_init) (maxL := 3) (ret := none) (by decide +kernel) rfl ?_
  intro p e s m args below meth c s1 B hml hv
  obtain ⟨rfl, hsz, hP, hK, hD0, hN⟩ := hv
  have hx := B.exec
  have hb := B.bytes
  have hr := B.returns
  have hts0 := atoms_spec (ws := nws yX6_init cX6_init 3) B.pre
  have hts : ∀ w ∈ zt, w.before _ s = true := fun w hw => hts0 w (List.mem_cons_of_mem _ hw)
  have hown : s.vm.findClass RX6 = some m.cls := findClass_of_methodNamed B.named
  have hlocks := B.notSynchronized
  have hin : meth.name = "<init>" := (name_of_methodNamed B.named B.method).1
  subst hsz
  have hD := hD0.self (sz := s.heap.size)
  generalize hAe : va_A [nO h0 6 [.null, .null, .null, .null, .null, .int 0, .int 0, .int 0]] s.heap.size = A at hD ⊢
  have hA : ∀ q : Nat, s.heap.size ≤ q → A q := fun q h => by rw [← hAe]; exact Or.inr h
  have X : nX RX6 cX6_init 3 p s m _ meth c D cI cZ A := ⟨hx, hb, hr, hml, hown, hts, hlocks, hin, hK, hA, hN⟩
  have hS : va_S A s.heap s.heap [] := va_S.rf
  have hl := lv_entry ([.ref h0, .ref a1, .ref a2]) (n := 3) (Nat.le_of_ble_eq_true rfl)
  rw [lg_entry_eq]
  generalize (lg_sl ([.ref h0, .ref a1, .ref a2]) ++ List.replicate (3 - (lg_sl ([.ref h0, .ref a1, .ref a2])).length) Slot.unset).toArray = ls at hl ⊢
  have hl : lv_has ls 3 [(0, .ref h0), (1, .ref a1), (2, .ref a2)] := hl
  refine lv_aload_n hx hb dN_X6_0 rfl (lv_at hl 0 rfl) ?_
  refine nw_obj X (zin_of (p := (2, 16)) (by decide +kernel)) (zin_of (p := (1, 23)) (by decide +kernel)) (zin_of (p := (1, 24)) (by decide +kernel)) hl.1 dN_X6_1 (by decide) (by decide) ?_
  refine lv_aload_n hx hb dN_X6_4 rfl (lv_at hl 0 rfl) ?_
  refine lv_bipush (v := 49) hx hb dN_X6_5 (by decide) ?_
  refine nw_arr X hP hD hS (N := 49) (by decide) (by decide) (by decide) (zin_of (p := (1, 114)) (by decide +kernel)) (by decide) (by decide) dN_X6_7 (fun q1 H hP hD hS => ?_)
  have hP : va_P D vwCl [nO h0 6 [.null, .null, .null, .null, .null, .int 0, .int 0, .int 0], nA cI q1 49] H := hP
  have hD : va_D A [nO h0 6 [.null, .null, .null, .null, .null, .int 0, .int 0, .int 0], nA cI q1 49] := hD
  refine nw_put X hP hD hS 0 rfl (q := (RX6, TX6, 8)) rfl 2 (by decide) (idx := 9) (zin_of (p := (2, 19)) (by decide +kernel)) rfl rfl (ty := (.array .int)) (by decide +kernel) rfl rfl (Nat.le_of_ble_eq_true rfl) dN_X6_9 (fun H locs hP hD hS => ?_)
  have hP : va_P D vwCl [nO h0 6 [.null, .null, .ref q1, .null, .null, .int 0, .int 0, .int 0], nA cI q1 49] H := hP
  have hD : va_D A [nO h0 6 [.null, .null, .ref q1, .null, .null, .int 0, .int 0, .int 0], nA cI q1 49] := hD
  refine lv_aload_n hx hb dN_X6_12 rfl (lv_at hl 0 rfl) ?_
  refine lv_sipush (v := 896) hx hb dN_X6_13 (by decide) ?_
  refine nw_arr X hP hD hS (N := 896) (by decide) (by decide) (by decide) (zin_of (p := (1, 114)) (by decide +kernel)) (by decide) (by decide) dN_X6_16 (fun q2 H hP hD hS => ?_)
  have hP : va_P D vwCl [nO h0 6 [.null, .null, .ref q1, .null, .null, .int 0, .int 0, .int 0], nA cI q1 49, nA cI q2 896] H := hP
  have hD : va_D A [nO h0 6 [.null, .null, .ref q1, .null, .null, .int 0, .int 0, .int 0], nA cI q1 49, nA cI q2 896] := hD
  refine nw_put X hP hD hS 0 rfl (q := (RX6, TX6, 8)) rfl 3 (by decide) (idx := 15) (zin_of (p := (2, 20)) (by decide +kernel)) rfl rfl (ty := (.array .int)) (by decide +kernel) rfl rfl (Nat.le_of_ble_eq_true rfl) dN_X6_18 (fun H locs hP hD hS => ?_)
  have hP : va_P D vwCl [nO h0 6 [.null, .null, .ref q1, .ref q2, .null, .int 0, .int 0, .int 0], nA cI q1 49, nA cI q2 896] H := hP
  have hD : va_D A [nO h0 6 [.null, .null, .ref q1, .ref q2, .null, .int 0, .int 0, .int 0], nA cI q1 49, nA cI q2 896] := hD
  refine lv_aload_n hx hb dN_X6_21 rfl (lv_at hl 0 rfl) ?_
  refine lv_sipush (v := 896) hx hb dN_X6_22 (by decide) ?_
  refine nw_arr X hP hD hS (N := 896) (by decide) (by decide) (by decide) (zin_of (p := (1, 114)) (by decide +kernel)) (by decide) (by decide) dN_X6_25 (fun q3 H hP hD hS => ?_)
  have hP : va_P D vwCl [nO h0 6 [.null, .null, .ref q1, .ref q2, .null, .int 0, .int 0, .int 0], nA cI q1 49, nA cI q2 896, nA cI q3 896] H := hP
  have hD : va_D A [nO h0 6 [.null, .null, .ref q1, .ref q2, .null, .int 0, .int 0, .int 0], nA cI q1 49, nA cI q2 896, nA cI q3 896] := hD
  refine nw_put X hP hD hS 0 rfl (q := (RX6, TX6, 8)) rfl 4 (by decide) (idx := 18) (zin_of (p := (2, 21)) (by decide +kernel)) rfl rfl (ty := (.array .int)) (by decide +kernel) rfl rfl (Nat.le_of_ble_eq_true rfl) dN_X6_27 (fun H locs hP hD hS => ?_)
  have hP : va_P D vwCl [nO h0 6 [.null, .null, .ref q1, .ref q2, .ref q3, .int 0, .int 0, .int 0], nA cI q1 49, nA cI q2 896, nA cI q3 896] H := hP
  have hD : va_D A [nO h0 6 [.null, .null, .ref q1, .ref q2, .ref q3, .int 0, .int 0, .int 0], nA cI q1 49, nA cI q2 896, nA cI q3 896] := hD
  refine lv_aload_n hx hb dN_X6_30 rfl (lv_at hl 0 rfl) ?_
  refine lv_aload_n hx hb dN_X6_31 rfl (lv_at hl 1 rfl) ?_
  refine nw_put X hP hD hS 0 rfl (q := (RX6, TX6, 8)) rfl 0 (by decide) (idx := 21) (zin_of (p := (2, 17)) (by decide +kernel)) rfl rfl (ty := (.object "StreetTongues$Town")) (by decide +kernel) rfl rfl (Nat.le_of_ble_eq_true rfl) dN_X6_32 (fun H locs hP hD hS => ?_)
  have hP : va_P D vwCl [nO h0 6 [.ref a1, .null, .ref q1, .ref q2, .ref q3, .int 0, .int 0, .int 0], nA cI q1 49, nA cI q2 896, nA cI q3 896] H := hP
  have hD : va_D A [nO h0 6 [.ref a1, .null, .ref q1, .ref q2, .ref q3, .int 0, .int 0, .int 0], nA cI q1 49, nA cI q2 896, nA cI q3 896] := hD
  refine lv_aload_n hx hb dN_X6_35 rfl (lv_at hl 0 rfl) ?_
  refine lv_aload_n hx hb dN_X6_36 rfl (lv_at hl 2 rfl) ?_
  refine nw_put X hP hD hS 0 rfl (q := (RX6, TX6, 8)) rfl 1 (by decide) (idx := 25) (zin_of (p := (2, 18)) (by decide +kernel)) rfl rfl (ty := (.object "StreetTongues$Affairs")) (by decide +kernel) rfl rfl (Nat.le_of_ble_eq_true rfl) dN_X6_37 (fun H locs hP hD hS => ?_)
  have hP : va_P D vwCl [nO h0 6 [.ref a1, .ref a2, .ref q1, .ref q2, .ref q3, .int 0, .int 0, .int 0], nA cI q1 49, nA cI q2 896, nA cI q3 896] H := hP
  have hD : va_D A [nO h0 6 [.ref a1, .ref a2, .ref q1, .ref q2, .ref q3, .int 0, .int 0, .int 0], nA cI q1 49, nA cI q2 896, nA cI q3 896] := hD
  exact W.vret hx hb hr (fun t ht hW => ⟨⟨(fun k => match k with | 1 => q1 | 2 => q2 | 3 => q3 | _ => 0 : Nat → Nat), rfl, trivial, by rw [ht]; exact hP, by rw [hAe]; exact hD⟩, by rw [hAe]; exact hS.F ht⟩) hS.2.2 dN_X6_40 hlocks
theorem dN_X3_0 : decode cX3_init 0 = .ok (.aload_n 0, 1) := by decide +kernel
theorem dN_X3_1 : decode cX3_init 1 = .ok (.invokespecial 3, 3) := by decide +kernel
theorem dN_X3_4 : decode cX3_init 4 = .ok (.aload_n 0, 1) := by decide +kernel
theorem dN_X3_5 : decode cX3_init 5 = .ok (.bipush 6, 2) := by decide +kernel
theorem dN_X3_7 : decode cX3_init 7 = .ok (.newarray .int, 2) := by decide +kernel
theorem dN_X3_9 : decode cX3_init 9 = .ok (.putfield 9, 3) := by decide +kernel
theorem dN_X3_12 : decode cX3_init 12 = .ok (.aload_n 0, 1) := by decide +kernel
theorem dN_X3_13 : decode cX3_init 13 = .ok (.bipush 6, 2) := by decide +kernel
theorem dN_X3_15 : decode cX3_init 15 = .ok (.newarray .int, 2) := by decide +kernel
theorem dN_X3_17 : decode cX3_init 17 = .ok (.putfield 15, 3) := by decide +kernel
theorem dN_X3_20 : decode cX3_init 20 = .ok (.aload_n 0, 1) := by decide +kernel
theorem dN_X3_21 : decode cX3_init 21 = .ok (.sipush 256, 3) := by decide +kernel
theorem dN_X3_24 : decode cX3_init 24 = .ok (.newarray .int, 2) := by decide +kernel
theorem dN_X3_26 : decode cX3_init 26 = .ok (.putfield 18, 3) := by decide +kernel
theorem dN_X3_29 : decode cX3_init 29 = .ok (.aload_n 0, 1) := by decide +kernel
theorem dN_X3_30 : decode cX3_init 30 = .ok (.bipush 8, 2) := by decide +kernel
theorem dN_X3_32 : decode cX3_init 32 = .ok (.newarray .int, 2) := by decide +kernel
theorem dN_X3_34 : decode cX3_init 34 = .ok (.putfield 21, 3) := by decide +kernel
theorem dN_X3_37 : decode cX3_init 37 = .ok (.aload_n 0, 1) := by decide +kernel
theorem dN_X3_38 : decode cX3_init 38 = .ok (.aload_n 1, 1) := by decide +kernel
theorem dN_X3_39 : decode cX3_init 39 = .ok (.putfield 24, 3) := by decide +kernel
theorem dN_X3_42 : decode cX3_init 42 = .ok (.return_, 1) := by decide +kernel
theorem nfX3 : ∀ j, j < 6 → defaultValue (tyX3 j) = vp_V [.null, .null, .null, .null, .null, .int 0] j := fun j hj => match j, hj with | 0, _ => rfl | 1, _ => rfl | 2, _ => rfl | 3, _ => rfl | 4, _ => rfl | 5, _ => rfl | n + 6, h => absurd h (by omega)
set_option maxHeartbeats 4000000 in
set_option maxRecDepth 100000 in
theorem n_X3 (l : Launch) (D : va_G) (cI cZ : ClassId) (h0 a1 sz : Nat) : Met l yX3_init (nws yX3_init cX3_init 2) ({ frames := 1, cells := 4, slots := 276, locals := 12 }) (nPc [.ref h0, .ref a1] D cI cZ sz [nO h0 3 [.null, .null, .null, .null, .null, .int 0]]) (nQc D sz [nO h0 3 [.null, .null, .null, .null, .null, .int 0]] (fun u => [nO h0 3 [.ref a1, .ref (u 1), .ref (u 2), .ref (u 3), .ref (u 4), .int 0], nA cI (u 1) 6, nA cI (u 2) 6, nA cI (u 3) 256, nA cI (u 4) 8])) 4 276 (va_A [nO h0 3 [.null, .null, .null, .null, .null, .int 0]] sz) := by
  refine Met.ofW (cc := cX3_init) (maxL := 2) (ret := none) (by decide +kernel) rfl ?_
  intro p e s m args below meth c s1 B hml hv
  obtain ⟨rfl, hsz, hP, hK, hD0, hN⟩ := hv
  have hx := B.exec
  have hb := B.bytes
  have hr := B.returns
  have hts0 := atoms_spec (ws := nws yX3_init cX3_init 2) B.pre
  have hts : ∀ w ∈ zt, w.before _ s = true := fun w hw => hts0 w (List.mem_cons_of_mem _ hw)
  have hown : s.vm.findClass RX3 = some m.cls := findClass_of_methodNamed B.named
  have hlocks := B.notSynchronized
  have hin : meth.name = "<init>" := (name_of_methodNamed B.named B.method).1
  subst hsz
  have hD := hD0.self (sz := s.heap.size)
  generalize hAe : va_A [nO h0 3 [.null, .null, .null, .null, .null, .int 0]] s.heap.size = A at hD ⊢
  have hA : ∀ q : Nat, s.heap.size ≤ q → A q := fun q h => by rw [← hAe]; exact Or.inr h
  have X : nX RX3 cX3_init 2 p s m _ meth c D cI cZ A := ⟨hx, hb, hr, hml, hown, hts, hlocks, hin, hK, hA, hN⟩
  have hS : va_S A s.heap s.heap [] := va_S.rf
  have hl := lv_entry ([.ref h0, .ref a1]) (n := 2) (Nat.le_of_ble_eq_true rfl)
  rw [lg_entry_eq]
  generalize (lg_sl ([.ref h0, .ref a1]) ++ List.replicate (2 - (lg_sl ([.ref h0, .ref a1])).length) Slot.unset).toArray = ls at hl ⊢
  have hl : lv_has ls 2 [(0, .ref h0), (1, .ref a1)] := hl
  refine lv_aload_n hx hb dN_X3_0 rfl (lv_at hl 0 rfl) ?_
  refine nw_obj X (zin_of (p := (2, 49)) (by decide +kernel)) (zin_of (p := (1, 23)) (by decide +kernel)) (zin_of (p := (1, 24)) (by decide +kernel)) hl.1 dN_X3_1 (by decide) (by decide) ?_
  refine lv_aload_n hx hb dN_X3_4 rfl (lv_at hl 0 rfl) ?_
  refine lv_bipush (v := 6) hx hb dN_X3_5 (by decide) ?_
  refine nw_arr X hP hD hS (N := 6) (by decide) (by decide) (by decide) (zin_of (p := (1, 114)) (by decide +kernel)) (by decide) (by decide) dN_X3_7 (fun q1 H hP hD hS => ?_)
  have hP : va_P D vwCl [nO h0 3 [.null, .null, .null, .null, .null, .int 0], nA cI q1 6] H := hP
  have hD : va_D A [nO h0 3 [.null, .null, .null, .null, .null, .int 0], nA cI q1 6] := hD
  refine nw_put X hP hD hS 0 rfl (q := (RX3, TX3, 6)) rfl 1 (by decide) (idx := 9) (zin_of (p := (2, 51)) (by decide +kernel)) rfl rfl (ty := (.array .int)) (by decide +kernel) rfl rfl (Nat.le_of_ble_eq_true rfl) dN_X3_9 (fun H locs hP hD hS => ?_)
  have hP : va_P D vwCl [nO h0 3 [.null, .ref q1, .null, .null, .null, .int 0], nA cI q1 6] H := hP
  have hD : va_D A [nO h0 3 [.null, .ref q1, .null, .null, .null, .int 0], nA cI q1 6] := hD
  refine lv_aload_n hx hb dN_X3_12 rfl (lv_at hl 0 rfl) ?_
  refine lv_bipush (v := 6) hx hb dN_X3_13 (by decide) ?_
  refine nw_arr X hP hD hS (N := 6) (by decide) (by decide) (by decide) (zin_of (p := (1, 114)) (by decide +kernel)) (by decide) (by decide) dN_X3_15 (fun q2 H hP hD hS => ?_)
  have hP : va_P D vwCl [nO h0 3 [.null, .ref q1, .null, .null, .null, .int 0], nA cI q1 6, nA cI q2 6] H := hP
  have hD : va_D A [nO h0 3 [.null, .ref q1, .null, .null, .null, .int 0], nA cI q1 6, nA cI q2 6] := hD
  refine nw_put X hP hD hS 0 rfl (q := (RX3, TX3, 6)) rfl 2 (by decide) (idx := 15) (zin_of (p := (2, 52)) (by decide +kernel)) rfl rfl (ty := (.array .int)) (by decide +kernel) rfl rfl (Nat.le_of_ble_eq_true rfl) dN_X3_17 (fun H locs hP hD hS => ?_)
  have hP : va_P D vwCl [nO h0 3 [.null, .ref q1, .ref q2, .null, .null, .int 0], nA cI q1 6, nA cI q2 6] H := hP
  have hD : va_D A [nO h0 3 [.null, .ref q1, .ref q2, .null, .null, .int 0], nA cI q1 6, nA cI q2 6] := hD
  refine lv_aload_n hx hb dN_X3_20 rfl (lv_at hl 0 rfl) ?_
  refine lv_sipush (v := 256) hx hb dN_X3_21 (by decide) ?_
  refine nw_arr X hP hD hS (N := 256) (by decide) (by decide) (by decide) (zin_of (p := (1, 114)) (by decide +kernel)) (by decide) (by decide) dN_X3_24 (fun q3 H hP hD hS => ?_)
  have hP : va_P D vwCl [nO h0 3 [.null, .ref q1, .ref q2, .null, .null, .int 0], nA cI q1 6, nA cI q2 6, nA cI q3 256] H := hP
  have hD : va_D A [nO h0 3 [.null, .ref q1, .ref q2, .null, .null, .int 0], nA cI q1 6, nA cI q2 6, nA cI q3 256] := hD
  refine nw_put X hP hD hS 0 rfl (q := (RX3, TX3, 6)) rfl 3 (by decide) (idx := 18) (zin_of (p := (2, 53)) (by decide +kernel)) rfl rfl (ty := (.array .int)) (by decide +kernel) rfl rfl (Nat.le_of_ble_eq_true rfl) dN_X3_26 (fun H locs hP hD hS => ?_)
  have hP : va_P D vwCl [nO h0 3 [.null, .ref q1, .ref q2, .ref q3, .null, .int 0], nA cI q1 6, nA cI q2 6, nA cI q3 256] H := hP
  have hD : va_D A [nO h0 3 [.null, .ref q1, .ref q2, .ref q3, .null, .int 0], nA cI q1 6, nA cI q2 6, nA cI q3 256] := hD
  refine lv_aload_n hx hb dN_X3_29 rfl (lv_at hl 0 rfl) ?_
  refine lv_bipush (v := 8) hx hb dN_X3_30 (by decide) ?_
  refine nw_arr X hP hD hS (N := 8) (by decide) (by decide) (by decide) (zin_of (p := (1, 114)) (by decide +kernel)) (by decide) (by decide) dN_X3_32 (fun q4 H hP hD hS => ?_)
  have hP : va_P D vwCl [nO h0 3 [.null, .ref q1, .ref q2, .ref q3, .null, .int 0], nA cI q1 6, nA cI q2 6, nA cI q3 256, nA cI q4 8] H := hP
  have hD : va_D A [nO h0 3 [.null, .ref q1, .ref q2, .ref q3, .null, .int 0], nA cI q1 6, nA cI q2 6, nA cI q3 256, nA cI q4 8] := hD
  refine nw_put X hP hD hS 0 rfl (q := (RX3, TX3, 6)) rfl 4 (by decide) (idx := 21) (zin_of (p := (2, 55)) (by decide +kernel)) rfl rfl (ty := (.array .int)) (by decide +kernel) rfl rfl (Nat.le_of_ble_eq_true rfl) dN_X3_34 (fun H locs hP hD hS => ?_)
  have hP : va_P D vwCl [nO h0 3 [.null, .ref q1, .ref q2, .ref q3, .ref q4, .int 0], nA cI q1 6, nA cI q2 6, nA cI q3 256, nA cI q4 8] H := hP
  have hD : va_D A [nO h0 3 [.null, .ref q1, .ref q2, .ref q3, .ref q4, .int 0], nA cI q1 6, nA cI q2 6, nA cI q3 256, nA cI q4 8] := hD
  refine lv_aload_n hx hb dN_X3_37 rfl (lv_at hl 0 rfl) ?_
  refine lv_aload_n hx hb dN_X3_38 rfl (lv_at hl 1 rfl) ?_
  refine nw_put X hP hD hS 0 rfl (q := (RX3, TX3, 6)) rfl 0 (by decide) (idx := 24) (zin_of (p := (2, 50)) (by decide +kernel)) rfl rfl (ty := (.object "StreetTongues$Town")) (by decide +kernel) rfl rfl (Nat.le_of_ble_eq_true rfl) dN_X3_39 (fun H locs hP hD hS => ?_)
  have hP : va_P D vwCl [nO h0 3 [.ref a1, .ref q1, .ref q2, .ref q3, .ref q4, .int 0], nA cI q1 6, nA cI q2 6, nA cI q3 256, nA cI q4 8] H := hP
  have hD : va_D A [nO h0 3 [.ref a1, .ref q1, .ref q2, .ref q3, .ref q4, .int 0], nA cI q1 6, nA cI q2 6, nA cI q3 256, nA cI q4 8] := hD
  exact W.vret hx hb hr (fun t ht hW => ⟨⟨(fun k => match k with | 1 => q1 | 2 => q2 | 3 => q3 | 4 => q4 | _ => 0 : Nat → Nat), rfl, trivial, by rw [ht]; exact hP, by rw [hAe]; exact hD⟩, by rw [hAe]; exact hS.F ht⟩) hS.2.2 dN_X3_42 hlocks
theorem dN_X7_0 : decode cX7_init 0 = .ok (.aload_n 0, 1) := by decide +kernel
theorem dN_X7_1 : decode cX7_init 1 = .ok (.invokespecial 3, 3) := by decide +kernel
theorem dN_X7_4 : decode cX7_init 4 = .ok (.aload_n 0, 1) := by decide +kernel
theorem dN_X7_5 : decode cX7_init 5 = .ok (.sipush 240, 3) := by decide +kernel
theorem dN_X7_8 : decode cX7_init 8 = .ok (.newarray .int, 2) := by decide +kernel
theorem dN_X7_10 : decode cX7_init 10 = .ok (.putfield 9, 3) := by decide +kernel
theorem dN_X7_13 : decode cX7_init 13 = .ok (.aload_n 0, 1) := by decide +kernel
theorem dN_X7_14 : decode cX7_init 14 = .ok (.new 15, 3) := by decide +kernel
theorem dN_X7_17 : decode cX7_init 17 = .ok (.dup, 1) := by decide +kernel
theorem dN_X7_18 : decode cX7_init 18 = .ok (.invokespecial 17, 3) := by decide +kernel
theorem dN_X7_21 : decode cX7_init 21 = .ok (.putfield 18, 3) := by decide +kernel
theorem dN_X7_24 : decode cX7_init 24 = .ok (.aload_n 0, 1) := by decide +kernel
theorem dN_X7_25 : decode cX7_init 25 = .ok (.iconst (-1), 1) := by decide +kernel
theorem dN_X7_26 : decode cX7_init 26 = .ok (.putfield 22, 3) := by decide +kernel
theorem dN_X7_29 : decode cX7_init 29 = .ok (.return_, 1) := by decide +kernel
theorem nfX7 : ∀ j, j < 7 → defaultValue (tyX7 j) = vp_V [.null, .null, .int 0, .int 0, .int 0, .int 0, .int 0] j := fun j hj => match j, hj with | 0, _ => rfl | 1, _ => rfl | 2, _ => rfl | 3, _ => rfl | 4, _ => rfl | 5, _ => rfl | 6, _ => rfl | n + 7, h => absurd h (by omega)
set_option maxHeartbeats 4000000 in
set_option maxRecDepth 100000 in
theorem n_X7 (l : Launch) (D : va_G) (cI cZ : ClassId) (h0 sz : Nat) : Met l yX7_init (nws yX7_init cX7_init 1) ({ frames := 2, cells := 10, slots := 326, locals := 32 }) (nPc [.ref h0] D cI cZ sz [nO h0 7 [.null, .null, .int 0, .int 0, .int 0, .int 0, .int 0]]) (nQc D sz [nO h0 7 [.null, .null, .int 0, .int 0, .int 0, .int 0, .int 0]] (fun u => [nO h0 7 [.ref (u 1), .ref (u 2), .int 0, .int 0, .int 0, .int 0, .int (-1)], nA cI (u 1) 240, nO (u 2) 8 [.int 0, .int 0, .int 0, .int 0, .ref (u 3), .ref (u 4), .ref (u 5), .ref (u 6), .ref (u 7), .ref (u 8), .ref (u 9), .ref (u 10)], nA cI (u 3) 7, nA cI (u 4) 7, nA cI (u 5) 10, nA cI (u 6) 10, nA cI (u 7) 10, nA cI (u 8) 10, nA cI (u 9) 10, nA cI (u 10) 10])) 10 326 (va_A [nO h0 7 [.null, .null, .int 0, .int 0, .int 0, .int 0, .int 0]] sz) := by
  refine Met.ofW (cc := cX7_init) (maxL := 1) (ret := none) (by decide +kernel) rfl ?_
  intro p e s m args below meth c s1 B hml hv
  obtain ⟨rfl, hsz, hP, hK, hD0, hN⟩ := hv
  have hx := B.exec
  have hb := B.bytes
  have hr := B.returns
  have hts0 := atoms_spec (ws := nws yX7_init cX7_init 1) B.pre
  have hts : ∀ w ∈ zt, w.before _ s = true := fun w hw => hts0 w (List.mem_cons_of_mem _ hw)
  have hown : s.vm.findClass RX7 = some m.cls := findClass_of_methodNamed B.named
  have hlocks := B.notSynchronized
  have hin : meth.name = "<init>" := (name_of_methodNamed B.named B.method).1
  subst hsz
  have hD := hD0.self (sz := s.heap.size)
  generalize hAe : va_A [nO h0 7 [.null, .null, .int 0, .int 0, .int 0, .int 0, .int 0]] s.heap.size = A at hD ⊢
  have hA : ∀ q : Nat, s.heap.size ≤ q → A q := fun q h => by rw [← hAe]; exact Or.inr h
  have X : nX RX7 cX7_init 1 p s m _ meth c D cI cZ A := ⟨hx, hb, hr, hml, hown, hts, hlocks, hin, hK, hA, hN⟩
  have hS : va_S A s.heap s.heap [] := va_S.rf
  have hl := lv_entry ([.ref h0]) (n := 1) (Nat.le_of_ble_eq_true rfl)
  rw [lg_entry_eq]
  generalize (lg_sl ([.ref h0]) ++ List.replicate (1 - (lg_sl ([.ref h0])).length) Slot.unset).toArray = ls at hl ⊢
  have hl : lv_has ls 1 [(0, .ref h0)] := hl
  refine lv_aload_n hx hb dN_X7_0 rfl (lv_at hl 0 rfl) ?_
  refine nw_obj X (zin_of (p := (1, 120)) (by decide +kernel)) (zin_of (p := (1, 23)) (by decide +kernel)) (zin_of (p := (1, 24)) (by decide +kernel)) hl.1 dN_X7_1 (by decide) (by decide) ?_
  refine lv_aload_n hx hb dN_X7_4 rfl (lv_at hl 0 rfl) ?_
  refine lv_sipush (v := 240) hx hb dN_X7_5 (by decide) ?_
  refine nw_arr X hP hD hS (N := 240) (by decide) (by decide) (by decide) (zin_of (p := (1, 114)) (by decide +kernel)) (by decide) (by decide) dN_X7_8 (fun q1 H hP hD hS => ?_)
  have hP : va_P D vwCl [nO h0 7 [.null, .null, .int 0, .int 0, .int 0, .int 0, .int 0], nA cI q1 240] H := hP
  have hD : va_D A [nO h0 7 [.null, .null, .int 0, .int 0, .int 0, .int 0, .int 0], nA cI q1 240] := hD
  refine nw_put X hP hD hS 0 rfl (q := (RX7, TX7, 7)) rfl 0 (by decide) (idx := 9) (zin_of (p := (1, 123)) (by decide +kernel)) rfl rfl (ty := (.array .int)) (by decide +kernel) rfl rfl (Nat.le_of_ble_eq_true rfl) dN_X7_10 (fun H locs hP hD hS => ?_)
  have hP : va_P D vwCl [nO h0 7 [.ref q1, .null, .int 0, .int 0, .int 0, .int 0, .int 0], nA cI q1 240] H := hP
  have hD : va_D A [nO h0 7 [.ref q1, .null, .int 0, .int 0, .int 0, .int 0, .int 0], nA cI q1 240] := hD
  refine lv_aload_n hx hb dN_X7_13 rfl (lv_at hl 0 rfl) ?_
  refine va_new (ci := 8) (fs := [.int 0, .int 0, .int 0, .int 0, .null, .null, .null, .null, .null, .null, .null, .null]) (C := RX8) (T := TX8) (N := 12) hx hb hts (zvw (ci := 8) rfl).1 tyX8 tyX8_ok hown (hts _ (zin_of (p := (1, 121)) (by decide +kernel))) (hts _ (zin_of (p := (1, 26)) (by decide +kernel))) (hts _ (zin_of (p := (1, 2)) (by decide +kernel))) hK hP hD hS hA rfl nfX8 (by decide) (by decide) dN_X7_14 (fun q2 H hP hD hS => ?_)
  have hP : va_P D vwCl [nO h0 7 [.ref q1, .null, .int 0, .int 0, .int 0, .int 0, .int 0], nA cI q1 240, nO q2 8 [.int 0, .int 0, .int 0, .int 0, .null, .null, .null, .null, .null, .null, .null, .null]] H := hP
  have hD : va_D A [nO h0 7 [.ref q1, .null, .int 0, .int 0, .int 0, .int 0, .int 0], nA cI q1 240, nO q2 8 [.int 0, .int 0, .int 0, .int 0, .null, .null, .null, .null, .null, .null, .null, .null]] := hD
  refine lv_dup hx hb dN_X7_17 rfl ?_
  have hPc := hP.sub (ws' := [nO q2 8 [.int 0, .int 0, .int 0, .int 0, .null, .null, .null, .null, .null, .null, .null, .null]]) [2] rfl
  have hDc := hD.sub (ws' := [nO q2 8 [.int 0, .int 0, .int 0, .int 0, .null, .null, .null, .null, .null, .null, .null, .null]]) [2] (by decide) rfl
  have hFc := va_free (wc := [nO q2 8 [.int 0, .int 0, .int 0, .int 0, .null, .null, .null, .null, .null, .null, .null, .null]]) hD hS hA [2] rfl
  refine va_callv (va_runIN (As := []) (rest := [.ref q2, .ref h0]) (host := zhost) ⟨hx, hb, hml, hown, hts⟩ (n_X8 l D cI cZ q2 H.size) ⟨va_cnB 0 hts (nws_good (zin_of (p := (1, 29)) (by decide +kernel))) rfl rfl rfl (hN (RX7, 17, yX8_init) (by decide +kernel)) (hts _ (zin_of (p := (1, 2)) (by decide +kernel))) ⟨by decide +kernel, by decide +kernel, by decide +kernel⟩ ⟨by decide, by decide⟩, rfl, hts _ (zin_of (p := (1, 28)) (by decide +kernel))⟩ ⟨nPcB, fun U hU hW => ⟨rfl, by rw [hU], by rw [hU]; exact hPc, va_K.moved hW.alike hK, hDc.weaken (fun _ _ _ _ => trivial), nN_warm hW hN⟩⟩ rfl rfl hl.1 rfl (lv_room (Nat.le_of_ble_eq_true rfl)) dN_X7_18 ⟨by decide, by decide⟩) hS (fun q _ h => hFc q h) hFc (fun u3 t H1 locs ht hvm hw hB hz1 hk1 hS => ?_)
  obtain ⟨hP1, hD1⟩ := hB
  rw [ht] at hP1
  obtain ⟨hP, hD⟩ := va_join (wr := [nO h0 7 [.ref q1, .null, .int 0, .int 0, .int 0, .int 0, .int 0], nA cI q1 240]) (w1 := [nO q2 8 [.int 0, .int 0, .int 0, .int 0, .ref (u3 1), .ref (u3 2), .ref (u3 3), .ref (u3 4), .ref (u3 5), .ref (u3 6), .ref (u3 7), .ref (u3 8)], nA cI (u3 1) 7, nA cI (u3 2) 7, nA cI (u3 3) 10, nA cI (u3 4) 10, nA cI (u3 5) 10, nA cI (u3 6) 10, nA cI (u3 7) 10, nA cI (u3 8) 10]) hP hD [2] [0, 1] rfl rfl (by decide) (by decide) hk1 hFc hP1 hD1
  generalize H1 = H at hP hS ⊢
  have hP : va_P D vwCl [nO h0 7 [.ref q1, .null, .int 0, .int 0, .int 0, .int 0, .int 0], nA cI q1 240, nO q2 8 [.int 0, .int 0, .int 0, .int 0, .ref (u3 1), .ref (u3 2), .ref (u3 3), .ref (u3 4), .ref (u3 5), .ref (u3 6), .ref (u3 7), .ref (u3 8)], nA cI (u3 1) 7, nA cI (u3 2) 7, nA cI (u3 3) 10, nA cI (u3 4) 10, nA cI (u3 5) 10, nA cI (u3 6) 10, nA cI (u3 7) 10, nA cI (u3 8) 10] H := hP
  have hD : va_D A [nO h0 7 [.ref q1, .null, .int 0, .int 0, .int 0, .int 0, .int 0], nA cI q1 240, nO q2 8 [.int 0, .int 0, .int 0, .int 0, .ref (u3 1), .ref (u3 2), .ref (u3 3), .ref (u3 4), .ref (u3 5), .ref (u3 6), .ref (u3 7), .ref (u3 8)], nA cI (u3 1) 7, nA cI (u3 2) 7, nA cI (u3 3) 10, nA cI (u3 4) 10, nA cI (u3 5) 10, nA cI (u3 6) 10, nA cI (u3 7) 10, nA cI (u3 8) 10] := hD
  refine nw_put X hP hD hS 0 rfl (q := (RX7, TX7, 7)) rfl 1 (by decide) (idx := 18) (zin_of (p := (1, 124)) (by decide +kernel)) rfl rfl (ty := (.object "StreetTongues$Town")) (by decide +kernel) rfl rfl (Nat.le_of_ble_eq_true rfl) dN_X7_21 (fun H locs hP hD hS => ?_)
  have hP : va_P D vwCl [nO h0 7 [.ref q1, .ref q2, .int 0, .int 0, .int 0, .int 0, .int 0], nA cI q1 240, nO q2 8 [.int 0, .int 0, .int 0, .int 0, .ref (u3 1), .ref (u3 2), .ref (u3 3), .ref (u3 4), .ref (u3 5), .ref (u3 6), .ref (u3 7), .ref (u3 8)], nA cI (u3 1) 7, nA cI (u3 2) 7, nA cI (u3 3) 10, nA cI (u3 4) 10, nA cI (u3 5) 10, nA cI (u3 6) 10, nA cI (u3 7) 10, nA cI (u3 8) 10] H := hP
  have hD : va_D A [nO h0 7 [.ref q1, .ref q2, .int 0, .int 0, .int 0, .int 0, .int 0], nA cI q1 240, nO q2 8 [.int 0, .int 0, .int 0, .int 0, .ref (u3 1), .ref (u3 2), .ref (u3 3), .ref (u3 4), .ref (u3 5), .ref (u3 6), .ref (u3 7), .ref (u3 8)], nA cI (u3 1) 7, nA cI (u3 2) 7, nA cI (u3 3) 10, nA cI (u3 4) 10, nA cI (u3 5) 10, nA cI (u3 6) 10, nA cI (u3 7) 10, nA cI (u3 8) 10] := hD
  refine lv_aload_n hx hb dN_X7_24 rfl (lv_at hl 0 rfl) ?_
  refine lv_iconst (v := (-1)) hx hb dN_X7_25 (by decide) ?_
  refine nw_putI X hP hD hS 0 rfl (q := (RX7, TX7, 7)) rfl 6 (by decide) (idx := 22) (zin_of (p := (1, 132)) (by decide +kernel)) rfl (ty := .int) (by decide +kernel) rfl rfl (Nat.le_of_ble_eq_true rfl) dN_X7_26 (fun H locs hP hD hS => ?_)
  have hP : va_P D vwCl [nO h0 7 [.ref q1, .ref q2, .int 0, .int 0, .int 0, .int 0, .int (-1)], nA cI q1 240, nO q2 8 [.int 0, .int 0, .int 0, .int 0, .ref (u3 1), .ref (u3 2), .ref (u3 3), .ref (u3 4), .ref (u3 5), .ref (u3 6), .ref (u3 7), .ref (u3 8)], nA cI (u3 1) 7, nA cI (u3 2) 7, nA cI (u3 3) 10, nA cI (u3 4) 10, nA cI (u3 5) 10, nA cI (u3 6) 10, nA cI (u3 7) 10, nA cI (u3 8) 10] H := hP
  have hD : va_D A [nO h0 7 [.ref q1, .ref q2, .int 0, .int 0, .int 0, .int 0, .int (-1)], nA cI q1 240, nO q2 8 [.int 0, .int 0, .int 0, .int 0, .ref (u3 1), .ref (u3 2), .ref (u3 3), .ref (u3 4), .ref (u3 5), .ref (u3 6), .ref (u3 7), .ref (u3 8)], nA cI (u3 1) 7, nA cI (u3 2) 7, nA cI (u3 3) 10, nA cI (u3 4) 10, nA cI (u3 5) 10, nA cI (u3 6) 10, nA cI (u3 7) 10, nA cI (u3 8) 10] := hD
  exact W.vret hx hb hr (fun t ht hW => ⟨⟨(fun k => match k with | 1 => q1 | 2 => q2 | 3 => u3 1 | 4 => u3 2 | 5 => u3 3 | 6 => u3 4 | 7 => u3 5 | 8 => u3 6 | 9 => u3 7 | 10 => u3 8 | _ => 0 : Nat → Nat), rfl, trivial, by rw [ht]; exact hP, by rw [hAe]; exact hD⟩, by rw [hAe]; exact hS.F ht⟩) hS.2.2 dN_X7_29 hlocks
