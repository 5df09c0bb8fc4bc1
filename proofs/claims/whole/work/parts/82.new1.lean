/-! constructors (by a program) -/
theorem dN_X8_0 : decode cX8_init 0 = .ok (.aload_n 0, 1) := by decide +kernel
theorem dN_X8_1 : decode cX8_init 1 = .ok (.invokespecial 3, 3) := by decide +kernel
theorem dN_X8_4 : decode cX8_init 4 = .ok (.aload_n 0, 1) := by decide +kernel
theorem dN_X8_5 : decode cX8_init 5 = .ok (.bipush 7, 2) := by decide +kernel
theorem dN_X8_7 : decode cX8_init 7 = .ok (.newarray .int, 2) := by decide +kernel
theorem dN_X8_9 : decode cX8_init 9 = .ok (.putfield 9, 3) := by decide +kernel
theorem dN_X8_12 : decode cX8_init 12 = .ok (.aload_n 0, 1) := by decide +kernel
theorem dN_X8_13 : decode cX8_init 13 = .ok (.bipush 7, 2) := by decide +kernel
theorem dN_X8_15 : decode cX8_init 15 = .ok (.newarray .int, 2) := by decide +kernel
theorem dN_X8_17 : decode cX8_init 17 = .ok (.putfield 15, 3) := by decide +kernel
theorem dN_X8_20 : decode cX8_init 20 = .ok (.aload_n 0, 1) := by decide +kernel
theorem dN_X8_21 : decode cX8_init 21 = .ok (.bipush 10, 2) := by decide +kernel
theorem dN_X8_23 : decode cX8_init 23 = .ok (.newarray .int, 2) := by decide +kernel
theorem dN_X8_25 : decode cX8_init 25 = .ok (.putfield 18, 3) := by decide +kernel
theorem dN_X8_28 : decode cX8_init 28 = .ok (.aload_n 0, 1) := by decide +kernel
theorem dN_X8_29 : decode cX8_init 29 = .ok (.bipush 10, 2) := by decide +kernel
theorem dN_X8_31 : decode cX8_init 31 = .ok (.newarray .int, 2) := by decide +kernel
theorem dN_X8_33 : decode cX8_init 33 = .ok (.putfield 21, 3) := by decide +kernel
theorem dN_X8_36 : decode cX8_init 36 = .ok (.aload_n 0, 1) := by decide +kernel
theorem dN_X8_37 : decode cX8_init 37 = .ok (.bipush 10, 2) := by decide +kernel
theorem dN_X8_39 : decode cX8_init 39 = .ok (.newarray .int, 2) := by decide +kernel
theorem dN_X8_41 : decode cX8_init 41 = .ok (.putfield 24, 3) := by decide +kernel
theorem dN_X8_44 : decode cX8_init 44 = .ok (.aload_n 0, 1) := by decide +kernel
theorem dN_X8_45 : decode cX8_init 45 = .ok (.bipush 10, 2) := by decide +kernel
theorem dN_X8_47 : decode cX8_init 47 = .ok (.newarray .int, 2) := by decide +kernel
theorem dN_X8_49 : decode cX8_init 49 = .ok (.putfield 27, 3) := by decide +kernel
theorem dN_X8_52 : decode cX8_init 52 = .ok (.aload_n 0, 1) := by decide +kernel
theorem dN_X8_53 : decode cX8_init 53 = .ok (.bipush 10, 2) := by decide +kernel
theorem dN_X8_55 : decode cX8_init 55 = .ok (.newarray .int, 2) := by decide +kernel
theorem dN_X8_57 : decode cX8_init 57 = .ok (.putfield 30, 3) := by decide +kernel
theorem dN_X8_60 : decode cX8_init 60 = .ok (.aload_n 0, 1) := by decide +kernel
theorem dN_X8_61 : decode cX8_init 61 = .ok (.bipush 10, 2) := by decide +kernel
theorem dN_X8_63 : decode cX8_init 63 = .ok (.newarray .int, 2) := by decide +kernel
theorem dN_X8_65 : decode cX8_init 65 = .ok (.putfield 33, 3) := by decide +kernel
theorem dN_X8_68 : decode cX8_init 68 = .ok (.return_, 1) := by decide +kernel
theorem nfX8 : ∀ j, j < 12 → defaultValue (tyX8 j) = vp_V [.int 0, .int 0, .int 0, .int 0, .null, .null, .null, .null, .null, .null, .null, .null] j := fun j hj => match j, hj with | 0, _ => rfl | 1, _ => rfl | 2, _ => rfl | 3, _ => rfl | 4, _ => rfl | 5, _ => rfl | 6, _ => rfl | 7, _ => rfl | 8, _ => rfl | 9, _ => rfl | 10, _ => rfl | 11, _ => rfl | n + 12, h => absurd h (by omega)
set_option maxHeartbeats 4000000 in
set_option maxRecDepth 100000 in
theorem n_X8 (l : Launch) (D : va_G) (cI cZ : ClassId) (h0 sz : Nat) : Met l yX8_init (nws yX8_init cX8_init 1) ({ frames := 1, cells := 8, slots := 74, locals := 12 }) (nPc [.ref h0] D cI cZ sz [nO h0 8 [.int 0, .int 0, .int 0, .int 0, .null, .null, .null, .null, .null, .null, .null, .null]]) (nQc D sz [nO h0 8 [.int 0, .int 0, .int 0, .int 0, .null, .null, .null, .null, .null, .null, .null, .null]] (fun u => [nO h0 8 [.int 0, .int 0, .int 0, .int 0, .ref (u 1), .ref (u 2), .ref (u 3), .ref (u 4), .ref (u 5), .ref (u 6), .ref (u 7), .ref (u 8)], nA cI (u 1) 7, nA cI (u 2) 7, nA cI (u 3) 10, nA cI (u 4) 10, nA cI (u 5) 10, nA cI (u 6) 10, nA cI (u 7) 10, nA cI (u 8) 10])) 8 74 (va_A [nO h0 8 [.int 0, .int 0, .int 0, .int 0, .null, .null, .null, .null, .null, .null, .null, .null]] sz) := by
  refine Met.ofW (cc := cX8_init) (maxL := 1) (ret := none) (by decide +kernel) rfl ?_
  intro p e s m args below meth c s1 B hml hv
  obtain ⟨rfl, hsz, hP, hK, hD0, hN⟩ := hv
  have hx := B.exec
  have hb := B.bytes
  have hr := B.returns
  have hts0 := atoms_spec (ws := nws yX8_init cX8_init 1) B.pre
  have hts : ∀ w ∈ zt, w.before _ s = true := fun w hw => hts0 w (List.mem_cons_of_mem _ hw)
  have hown : s.vm.findClass RX8 = some m.cls := findClass_of_methodNamed B.named
  have hlocks := B.notSynchronized
  have hin : meth.name = "<init>" := (name_of_methodNamed B.named B.method).1
  subst hsz
  have hD := hD0.self (sz := s.heap.size)
  generalize hAe : va_A [nO h0 8 [.int 0, .int 0, .int 0, .int 0, .null, .null, .null, .null, .null, .null, .null, .null]] s.heap.size = A at hD ⊢
  have hA : ∀ q : Nat, s.heap.size ≤ q → A q := fun q h => by rw [← hAe]; exact Or.inr h
  have X : nX RX8 cX8_init 1 p s m _ meth c D cI cZ A := ⟨hx, hb, hr, hml, hown, hts, hlocks, hin, hK, hA, hN⟩
  have hS : va_S A s.heap s.heap [] := va_S.rf
  have hl := lv_entry ([.ref h0]) (n := 1) (Nat.le_of_ble_eq_true rfl)
  rw [lg_entry_eq]
  generalize (lg_sl ([.ref h0]) ++ List.replicate (1 - (lg_sl ([.ref h0])).length) Slot.unset).toArray = ls at hl ⊢
  have hl : lv_has ls 1 [(0, .ref h0)] := hl
  refine lv_aload_n hx hb dN_X8_0 rfl (lv_at hl 0 rfl) ?_
  refine nw_obj X (zin_of (p := (1, 30)) (by decide +kernel)) (zin_of (p := (1, 23)) (by decide +kernel)) (zin_of (p := (1, 24)) (by decide +kernel)) hl.1 dN_X8_1 (by decide) (by decide) ?_
  refine lv_aload_n hx hb dN_X8_4 rfl (lv_at hl 0 rfl) ?_
  refine lv_bipush (v := 7) hx hb dN_X8_5 (by decide) ?_
  refine nw_arr X hP hD hS (N := 7) (by decide) (by decide) (by decide) (zin_of (p := (1, 114)) (by decide +kernel)) (by decide) (by decide) dN_X8_7 (fun q1 H hP hD hS => ?_)
  have hP : va_P D vwCl [nO h0 8 [.int 0, .int 0, .int 0, .int 0, .null, .null, .null, .null, .null, .null, .null, .null], nA cI q1 7] H := hP
  have hD : va_D A [nO h0 8 [.int 0, .int 0, .int 0, .int 0, .null, .null, .null, .null, .null, .null, .null, .null], nA cI q1 7] := hD
  refine nw_put X hP hD hS 0 rfl (q := (RX8, TX8, 12)) rfl 4 (by decide) (idx := 9) (zin_of (p := (1, 52)) (by decide +kernel)) rfl rfl (ty := (.array .int)) (by decide +kernel) rfl rfl (Nat.le_of_ble_eq_true rfl) dN_X8_9 (fun H locs hP hD hS => ?_)
  have hP : va_P D vwCl [nO h0 8 [.int 0, .int 0, .int 0, .int 0, .ref q1, .null, .null, .null, .null, .null, .null, .null], nA cI q1 7] H := hP
  have hD : va_D A [nO h0 8 [.int 0, .int 0, .int 0, .int 0, .ref q1, .null, .null, .null, .null, .null, .null, .null], nA cI q1 7] := hD
  refine lv_aload_n hx hb dN_X8_12 rfl (lv_at hl 0 rfl) ?_
  refine lv_bipush (v := 7) hx hb dN_X8_13 (by decide) ?_
  refine nw_arr X hP hD hS (N := 7) (by decide) (by decide) (by decide) (zin_of (p := (1, 114)) (by decide +kernel)) (by decide) (by decide) dN_X8_15 (fun q2 H hP hD hS => ?_)
  have hP : va_P D vwCl [nO h0 8 [.int 0, .int 0, .int 0, .int 0, .ref q1, .null, .null, .null, .null, .null, .null, .null], nA cI q1 7, nA cI q2 7] H := hP
  have hD : va_D A [nO h0 8 [.int 0, .int 0, .int 0, .int 0, .ref q1, .null, .null, .null, .null, .null, .null, .null], nA cI q1 7, nA cI q2 7] := hD
  refine nw_put X hP hD hS 0 rfl (q := (RX8, TX8, 12)) rfl 5 (by decide) (idx := 15) (zin_of (p := (1, 56)) (by decide +kernel)) rfl rfl (ty := (.array .int)) (by decide +kernel) rfl rfl (Nat.le_of_ble_eq_true rfl) dN_X8_17 (fun H locs hP hD hS => ?_)
  have hP : va_P D vwCl [nO h0 8 [.int 0, .int 0, .int 0, .int 0, .ref q1, .ref q2, .null, .null, .null, .null, .null, .null], nA cI q1 7, nA cI q2 7] H := hP
  have hD : va_D A [nO h0 8 [.int 0, .int 0, .int 0, .int 0, .ref q1, .ref q2, .null, .null, .null, .null, .null, .null], nA cI q1 7, nA cI q2 7] := hD
  refine lv_aload_n hx hb dN_X8_20 rfl (lv_at hl 0 rfl) ?_
  refine lv_bipush (v := 10) hx hb dN_X8_21 (by decide) ?_
  refine nw_arr X hP hD hS (N := 10) (by decide) (by decide) (by decide) (zin_of (p := (1, 114)) (by decide +kernel)) (by decide) (by decide) dN_X8_23 (fun q3 H hP hD hS => ?_)
  have hP : va_P D vwCl [nO h0 8 [.int 0, .int 0, .int 0, .int 0, .ref q1, .ref q2, .null, .null, .null, .null, .null, .null], nA cI q1 7, nA cI q2 7, nA cI q3 10] H := hP
  have hD : va_D A [nO h0 8 [.int 0, .int 0, .int 0, .int 0, .ref q1, .ref q2, .null, .null, .null, .null, .null, .null], nA cI q1 7, nA cI q2 7, nA cI q3 10] := hD
  refine nw_put X hP hD hS 0 rfl (q := (RX8, TX8, 12)) rfl 6 (by decide) (idx := 18) (zin_of (p := (1, 60)) (by decide +kernel)) rfl rfl (ty := (.array .int)) (by decide +kernel) rfl rfl (Nat.le_of_ble_eq_true rfl) dN_X8_25 (fun H locs hP hD hS => ?_)
  have hP : va_P D vwCl [nO h0 8 [.int 0, .int 0, .int 0, .int 0, .ref q1, .ref q2, .ref q3, .null, .null, .null, .null, .null], nA cI q1 7, nA cI q2 7, nA cI q3 10] H := hP
  have hD : va_D A [nO h0 8 [.int 0, .int 0, .int 0, .int 0, .ref q1, .ref q2, .ref q3, .null, .null, .null, .null, .null], nA cI q1 7, nA cI q2 7, nA cI q3 10] := hD
  refine lv_aload_n hx hb dN_X8_28 rfl (lv_at hl 0 rfl) ?_
  refine lv_bipush (v := 10) hx hb dN_X8_29 (by decide) ?_
  refine nw_arr X hP hD hS (N := 10) (by decide) (by decide) (by decide) (zin_of (p := (1, 114)) (by decide +kernel)) (by decide) (by decide) dN_X8_31 (fun q4 H hP hD hS => ?_)
  have hP : va_P D vwCl [nO h0 8 [.int 0, .int 0, .int 0, .int 0, .ref q1, .ref q2, .ref q3, .null, .null, .null, .null, .null], nA cI q1 7, nA cI q2 7, nA cI q3 10, nA cI q4 10] H := hP
  have hD : va_D A [nO h0 8 [.int 0, .int 0, .int 0, .int 0, .ref q1, .ref q2, .ref q3, .null, .null, .null, .null, .null], nA cI q1 7, nA cI q2 7, nA cI q3 10, nA cI q4 10] := hD
  refine nw_put X hP hD hS 0 rfl (q := (RX8, TX8, 12)) rfl 7 (by decide) (idx := 21) (zin_of (p := (1, 66)) (by decide +kernel)) rfl rfl (ty := (.array .int)) (by decide +kernel) rfl rfl (Nat.le_of_ble_eq_true rfl) dN_X8_33 (fun H locs hP hD hS => ?_)
  have hP : va_P D vwCl [nO h0 8 [.int 0, .int 0, .int 0, .int 0, .ref q1, .ref q2, .ref q3, .ref q4, .null, .null, .null, .null], nA cI q1 7, nA cI q2 7, nA cI q3 10, nA cI q4 10] H := hP
  have hD : va_D A [nO h0 8 [.int 0, .int 0, .int 0, .int 0, .ref q1, .ref q2, .ref q3, .ref q4, .null, .null, .null, .null], nA cI q1 7, nA cI q2 7, nA cI q3 10, nA cI q4 10] := hD
  refine lv_aload_n hx hb dN_X8_36 rfl (lv_at hl 0 rfl) ?_
  refine lv_bipush (v := 10) hx hb dN_X8_37 (by decide) ?_
  refine nw_arr X hP hD hS (N := 10) (by decide) (by decide) (by decide) (zin_of (p := (1, 114)) (by decide +kernel)) (by decide) (by decide) dN_X8_39 (fun q5 H hP hD hS => ?_)
  have hP : va_P D vwCl [nO h0 8 [.int 0, .int 0, .int 0, .int 0, .ref q1, .ref q2, .ref q3, .ref q4, .null, .null, .null, .null], nA cI q1 7, nA cI q2 7, nA cI q3 10, nA cI q4 10, nA cI q5 10] H := hP
  have hD : va_D A [nO h0 8 [.int 0, .int 0, .int 0, .int 0, .ref q1, .ref q2, .ref q3, .ref q4, .null, .null, .null, .null], nA cI q1 7, nA cI q2 7, nA cI q3 10, nA cI q4 10, nA cI q5 10] := hD
  refine nw_put X hP hD hS 0 rfl (q := (RX8, TX8, 12)) rfl 8 (by decide) (idx := 24) (zin_of (p := (1, 72)) (by decide +kernel)) rfl rfl (ty := (.array .int)) (by decide +kernel) rfl rfl (Nat.le_of_ble_eq_true rfl) dN_X8_41 (fun H locs hP hD hS => ?_)
  have hP : va_P D vwCl [nO h0 8 [.int 0, .int 0, .int 0, .int 0, .ref q1, .ref q2, .ref q3, .ref q4, .ref q5, .null, .null, .null], nA cI q1 7, nA cI q2 7, nA cI q3 10, nA cI q4 10, nA cI q5 10] H := hP
  have hD : va_D A [nO h0 8 [.int 0, .int 0, .int 0, .int 0, .ref q1, .ref q2, .ref q3, .ref q4, .ref q5, .null, .null, .null], nA cI q1 7, nA cI q2 7, nA cI q3 10, nA cI q4 10, nA cI q5 10] := hD
  refine lv_aload_n hx hb dN_X8_44 rfl (lv_at hl 0 rfl) ?_
  refine lv_bipush (v := 10) hx hb dN_X8_45 (by decide) ?_
  refine nw_arr X hP hD hS (N := 10) (by decide) (by decide) (by decide) (zin_of (p := (1, 114)) (by decide +kernel)) (by decide) (by decide) dN_X8_47 (fun q6 H hP hD hS => ?_)
  have hP : va_P D vwCl [nO h0 8 [.int 0, .int 0, .int 0, .int 0, .ref q1, .ref q2, .ref q3, .ref q4, .ref q5, .null, .null, .null], nA cI q1 7, nA cI q2 7, nA cI q3 10, nA cI q4 10, nA cI q5 10, nA cI q6 10] H := hP
  have hD : va_D A [nO h0 8 [.int 0, .int 0, .int 0, .int 0, .ref q1, .ref q2, .ref q3, .ref q4, .ref q5, .null, .null, .null], nA cI q1 7, nA cI q2 7, nA cI q3 10, nA cI q4 10, nA cI q5 10, nA cI q6 10] := hD
  refine nw_put X hP hD hS 0 rfl (q := (RX8, TX8, 12)) rfl 9 (by decide) (idx := 27) (zin_of (p := (1, 75)) (by decide +kernel)) rfl rfl (ty := (.array .int)) (by decide +kernel) rfl rfl (Nat.le_of_ble_eq_true rfl) dN_X8_49 (fun H locs hP hD hS => ?_)
  have hP : va_P D vwCl [nO h0 8 [.int 0, .int 0, .int 0, .int 0, .ref q1, .ref q2, .ref q3, .ref q4, .ref q5, .ref q6, .null, .null], nA cI q1 7, nA cI q2 7, nA cI q3 10, nA cI q4 10, nA cI q5 10, nA cI q6 10] H := hP
  have hD : va_D A [nO h0 8 [.int 0, .int 0, .int 0, .int 0, .ref q1, .ref q2, .ref q3, .ref q4, .ref q5, .ref q6, .null, .null], nA cI q1 7, nA cI q2 7, nA cI q3 10, nA cI q4 10, nA cI q5 10, nA cI q6 10] := hD
  refine lv_aload_n hx hb dN_X8_52 rfl (lv_at hl 0 rfl) ?_
  refine lv_bipush (v := 10) hx hb dN_X8_53 (by decide) ?_
  refine nw_arr X hP hD hS (N := 10) (by decide) (by decide) (by decide) (zin_of (p := (1, 114)) (by decide +kernel)) (by decide) (by decide) dN_X8_55 (fun q7 H hP hD hS => ?_)
  have hP : va_P D vwCl [nO h0 8 [.int 0, .int 0, .int 0, .int 0, .ref q1, .ref q2, .ref q3, .ref q4, .ref q5, .ref q6, .null, .null], nA cI q1 7, nA cI q2 7, nA cI q3 10, nA cI q4 10, nA cI q5 10, nA cI q6 10, nA cI q7 10] H := hP
  have hD : va_D A [nO h0 8 [.int 0, .int 0, .int 0, .int 0, .ref q1, .ref q2, .ref q3, .ref q4, .ref q5, .ref q6, .null, .null], nA cI q1 7, nA cI q2 7, nA cI q3 10, nA cI q4 10, nA cI q5 10, nA cI q6 10, nA cI q7 10] := hD
  refine nw_put X hP hD hS 0 rfl (q := (RX8, TX8, 12)) rfl 10 (by decide) (idx := 30) (zin_of (p := (1, 79)) (by decide +kernel)) rfl rfl (ty := (.array .int)) (by decide +kernel) rfl rfl (Nat.le_of_ble_eq_true rfl) dN_X8_57 (fun H locs hP hD hS => ?_)
  have hP : va_P D vwCl [nO h0 8 [.int 0, .int 0, .int 0, .int 0, .ref q1, .ref q2, .ref q3, .ref q4, .ref q5, .ref q6, .ref q7, .null], nA cI q1 7, nA cI q2 7, nA cI q3 10, nA cI q4 10, nA cI q5 10, nA cI q6 10, nA cI q7 10] H := hP
  have hD : va_D A [nO h0 8 [.int 0, .int 0, .int 0, .int 0, .ref q1, .ref q2, .ref q3, .ref q4, .ref q5, .ref q6, .ref q7, .null], nA cI q1 7, nA cI q2 7, nA cI q3 10, nA cI q4 10, nA cI q5 10, nA cI q6 10, nA cI q7 10] := hD
  refine lv_aload_n hx hb dN_X8_60 rfl (lv_at hl 0 rfl) ?_
  refine lv_bipush (v := 10) hx hb dN_X8_61 (by decide) ?_
  refine nw_arr X hP hD hS (N := 10) (by decide) (by decide) (by decide) (zin_of (p := (1, 114)) (by decide +kernel)) (by decide) (by decide) dN_X8_63 (fun q8 H hP hD hS => ?_)
  have hP : va_P D vwCl [nO h0 8 [.int 0, .int 0, .int 0, .int 0, .ref q1, .ref q2, .ref q3, .ref q4, .ref q5, .ref q6, .ref q7, .null], nA cI q1 7, nA cI q2 7, nA cI q3 10, nA cI q4 10, nA cI q5 10, nA cI q6 10, nA cI q7 10, nA cI q8 10] H := hP
  have hD : va_D A [nO h0 8 [.int 0, .int 0, .int 0, .int 0, .ref q1, .ref q2, .ref q3, .ref q4, .ref q5, .ref q6, .ref q7, .null], nA cI q1 7, nA cI q2 7, nA cI q3 10, nA cI q4 10, nA cI q5 10, nA cI q6 10, nA cI q7 10, nA cI q8 10] := hD
  refine nw_put X hP hD hS 0 rfl (q := (RX8, TX8, 12)) rfl 11 (by decide) (idx := 33) (zin_of (p := (1, 83)) (by decide +kernel)) rfl rfl (ty := (.array .int)) (by decide +kernel) rfl rfl (Nat.le_of_ble_eq_true rfl) dN_X8_65 (fun H locs hP hD hS => ?_)
  have hP : va_P D vwCl [nO h0 8 [.int 0, .int 0, .int 0, .int 0, .ref q1, .ref q2, .ref q3, .ref q4, .ref q5, .ref q6, .ref q7, .ref q8], nA cI q1 7, nA cI q2 7, nA cI q3 10, nA cI q4 10, nA cI q5 10, nA cI q6 10, nA cI q7 10, nA cI q8 10] H := hP
  have hD : va_D A [nO h0 8 [.int 0, .int 0, .int 0, .int 0, .ref q1, .ref q2, .ref q3, .ref q4, .ref q5, .ref q6, .ref q7, .ref q8], nA cI q1 7, nA cI q2 7, nA cI q3 10, nA cI q4 10, nA cI q5 10, nA cI q6 10, nA cI q7 10, nA cI q8 10] := hD
  exact W.vret hx hb hr (fun t ht hW => ⟨⟨(fun k => match k with | 1 => q1 | 2 => q2 | 3 => q3 | 4 => q4 | 5 => q5 | 6 => q6 | 7 => q7 | 8 => q8 | _ => 0 : Nat → Nat), rfl, trivial, by rw [ht]; exact hP, by rw [hAe]; exact hD⟩, by rw [hAe]; exact hS.F ht⟩) hS.2.2 dN_X8_68 hlocks
theorem dN_X0_0 : decode cX0_init 0 = .ok (.aload_n 0, 1) := by decide +kernel
theorem dN_X0_1 : decode cX0_init 1 = .ok (.invokespecial 5, 3) := by decide +kernel
theorem dN_X0_4 : decode cX0_init 4 = .ok (.aload_n 0, 1) := by decide +kernel
theorem dN_X0_5 : decode cX0_init 5 = .ok (.bipush 108, 2) := by decide +kernel
theorem dN_X0_7 : decode cX0_init 7 = .ok (.newarray .int, 2) := by decide +kernel
theorem dN_X0_9 : decode cX0_init 9 = .ok (.putfield 11, 3) := by decide +kernel
theorem dN_X0_12 : decode cX0_init 12 = .ok (.return_, 1) := by decide +kernel
theorem nfX0 : ∀ j, j < 1 → defaultValue (tyX0 j) = vp_V [.null] j := fun j hj => match j, hj with | 0, _ => rfl | n + 1, h => absurd h (by omega)
set_option maxHeartbeats 4000000 in
set_option maxRecDepth 100000 in
theorem n_X0 (l : Launch) (D : va_G) (cI cZ : ClassId) (h0 sz : Nat) : Met l yX0_init (nws yX0_init cX0_init 1) ({ frames := 1, cells := 1, slots := 108, locals := 12 }) (nPc [.ref h0] D cI cZ sz [nO h0 0 [.null]]) (nQc D sz [nO h0 0 [.null]] (fun u => [nO h0 0 [.ref (u 1)], nA cI (u 1) 108])) 1 108 (va_A [nO h0 0 [.null]] sz) := by
  refine Met.ofW (cc := cX0_init) (maxL := 1) (ret := none) (by decide +kernel) rfl ?_
  intro p e s m args below meth c s1 B hml hv
  obtain ⟨rfl, hsz, hP, hK, hD0, hN⟩ := hv
  have hx := B.exec
  have hb := B.bytes
  have hr := B.returns
  have hts0 := atoms_spec (ws := nws yX0_init cX0_init 1) B.pre
  have hts : ∀ w ∈ zt, w.before _ s = true := fun w hw => hts0 w (List.mem_cons_of_mem _ hw)
  have hown : s.vm.findClass RX0 = some m.cls := findClass_of_methodNamed B.named
  have hlocks := B.notSynchronized
  have hin : meth.name = "<init>" := (name_of_methodNamed B.named B.method).1
  subst hsz
  have hD := hD0.self (sz := s.heap.size)
  generalize hAe : va_A [nO h0 0 [.null]] s.heap.size = A at hD ⊢
  have hA : ∀ q : Nat, s.heap.size ≤ q → A q := fun q h => by rw [← hAe]; exact Or.inr h
  have X : nX RX0 cX0_init 1 p s m _ meth c D cI cZ A := ⟨hx, hb, hr, hml, hown, hts, hlocks, hin, hK, hA, hN⟩
  have hS : va_S A s.heap s.heap [] := va_S.rf
  have hl := lv_entry ([.ref h0]) (n := 1) (Nat.le_of_ble_eq_true rfl)
  rw [lg_entry_eq]
  generalize (lg_sl ([.ref h0]) ++ List.replicate (1 - (lg_sl ([.ref h0])).length) Slot.unset).toArray = ls at hl ⊢
  have hl : lv_has ls 1 [(0, .ref h0)] := hl
  refine lv_aload_n hx hb dN_X0_0 rfl (lv_at hl 0 rfl) ?_
  refine nw_obj X (zin_of (p := (1, 154)) (by decide +kernel)) (zin_of (p := (1, 23)) (by decide +kernel)) (zin_of (p := (1, 24)) (by decide +kernel)) hl.1 dN_X0_1 (by decide) (by decide) ?_
  refine lv_aload_n hx hb dN_X0_4 rfl (lv_at hl 0 rfl) ?_
  refine lv_bipush (v := 108) hx hb dN_X0_5 (by decide) ?_
  refine nw_arr X hP hD hS (N := 108) (by decide) (by decide) (by decide) (zin_of (p := (1, 114)) (by decide +kernel)) (by decide) (by decide) dN_X0_7 (fun q1 H hP hD hS => ?_)
  have hP : va_P D vwCl [nO h0 0 [.null], nA cI q1 108] H := hP
  have hD : va_D A [nO h0 0 [.null], nA cI q1 108] := hD
  refine nw_put X hP hD hS 0 rfl (q := (RX0, TX0, 1)) rfl 0 (by decide) (idx := 11) (zin_of (p := (1, 155)) (by decide +kernel)) rfl rfl (ty := (.array .int)) (by decide +kernel) rfl rfl (Nat.le_of_ble_eq_true rfl) dN_X0_9 (fun H locs hP hD hS => ?_)
  have hP : va_P D vwCl [nO h0 0 [.ref q1], nA cI q1 108] H := hP
  have hD : va_D A [nO h0 0 [.ref q1], nA cI q1 108] := hD
  exact W.vret hx hb hr (fun t ht hW => ⟨⟨(fun k => match k with | 1 => q1 | _ => 0 : Nat → Nat), rfl, trivial, by rw [ht]; exact hP, by rw [hAe]; exact hD⟩, by rw [hAe]; exact hS.F ht⟩) hS.2.2 dN_X0_12 hlocks
theorem dN_X5_0 : decode cX5_init 0 = .ok (.aload_n 0, 1) := by decide +kernel
theorem dN_X5_1 : decode cX5_init 1 = .ok (.invokespecial 3, 3) := by decide +kernel
theorem dN_X5_4 : decode cX5_init 4 = .ok (.aload_n 0, 1) := by decide +kernel
theorem dN_X5_5 : decode cX5_init 5 = .ok (.sipush 1728, 3) := by decide +kernel
theorem dN_X5_8 : decode cX5_init 8 = .ok (.newarray .int, 2) := by decide +kernel
theorem dN_X5_10 : decode cX5_init 10 = .ok (.putfield 11, 3) := by decide +kernel
theorem dN_X5_13 : decode cX5_init 13 = .ok (.aload_n 0, 1) := by decide +kernel
theorem dN_X5_14 : decode cX5_init 14 = .ok (.sipush 216, 3) := by decide +kernel
theorem dN_X5_17 : decode cX5_init 17 = .ok (.newarray .int, 2) := by decide +kernel
theorem dN_X5_19 : decode cX5_init 19 = .ok (.putfield 17, 3) := by decide +kernel
theorem dN_X5_22 : decode cX5_init 22 = .ok (.aload_n 0, 1) := by decide +kernel
theorem dN_X5_23 : decode cX5_init 23 = .ok (.iconst 2, 1) := by decide +kernel
theorem dN_X5_24 : decode cX5_init 24 = .ok (.newarray .int, 2) := by decide +kernel
theorem dN_X5_26 : decode cX5_init 26 = .ok (.putfield 20, 3) := by decide +kernel
theorem dN_X5_29 : decode cX5_init 29 = .ok (.return_, 1) := by decide +kernel
theorem nfX5 : ∀ j, j < 6 → defaultValue (tyX5 j) = vp_V [.null, .null, .null, .int 0, .int 0, .int 0] j := fun j hj => match j, hj with | 0, _ => rfl | 1, _ => rfl | 2, _ => rfl | 3, _ => rfl | 4, _ => rfl | 5, _ => rfl | n + 6, h => absurd h (by omega)
set_option maxHeartbeats 4000000 in
set_option maxRecDepth 100000 in
theorem n_X5 (l : Launch) (D : va_G) (cI cZ : ClassId) (h0 sz : Nat) : Met l yX5_init (nws yX5_init cX5_init 1) ({ frames := 1, cells := 3, slots := 1946, locals := 12 }) (nPc [.ref h0] D cI cZ sz [nO h0 5 [.null, .null, .null, .int 0, .int 0, .int 0]]) (nQc D sz [nO h0 5 [.null, .null, .null, .int 0, .int 0, .int 0]] (fun u => [nO h0 5 [.ref (u 1), .ref (u 2), .ref (u 3), .int 0, .int 0, .int 0], nA cI (u 1) 1728, nA cI (u 2) 216, nA cI (u 3) 2])) 3 1946 (va_A [nO h0 5 [.null, .null, .null, .int 0, .int 0, .int 0]] sz) := by
  refine Met.ofW (cc := cX5_init) (maxL := 1) (ret := none) (by decide +kernel) rfl ?_
  intro p e s m args below meth c s1 B hml hv
  obtain ⟨rfl, hsz, hP, hK, hD0, hN⟩ := hv
  have hx := B.exec
  have hb := B.bytes
  have hr := B.returns
  have hts0 := atoms_spec (ws := nws yX5_init cX5_init 1) B.pre
  have hts : ∀ w ∈ zt, w.before _ s = true := fun w hw => hts0 w (List.mem_cons_of_mem _ hw)
  have hown : s.vm.findClass RX5 = some m.cls := findClass_of_methodNamed B.named
  have hlocks := B.notSynchronized
  have hin : meth.name = "<init>" := (name_of_methodNamed B.named B.method).1
  subst hsz
  have hD := hD0.self (sz := s.heap.size)
  generalize hAe : va_A [nO h0 5 [.null, .null, .null, .int 0, .int 0, .int 0]] s.heap.size = A at hD ⊢
  have hA : ∀ q : Nat, s.heap.size ≤ q → A q := fun q h => by rw [← hAe]; exact Or.inr h
  have X : nX RX5 cX5_init 1 p s m _ meth c D cI cZ A := ⟨hx, hb, hr, hml, hown, hts, hlocks, hin, hK, hA, hN⟩
  have hS : va_S A s.heap s.heap [] := va_S.rf
  have hl := lv_entry ([.ref h0]) (n := 1) (Nat.le_of_ble_eq_true rfl)
  rw [lg_entry_eq]
  generalize (lg_sl ([.ref h0]) ++ List.replicate (1 - (lg_sl ([.ref h0])).length) Slot.unset).toArray = ls at hl ⊢
  have hl : lv_has ls 1 [(0, .ref h0)] := hl
  refine lv_aload_n hx hb dN_X5_0 rfl (lv_at hl 0 rfl) ?_
  refine nw_obj X (zin_of (p := (1, 165)) (by decide +kernel)) (zin_of (p := (1, 23)) (by decide +kernel)) (zin_of (p := (1, 24)) (by decide +kernel)) hl.1 dN_X5_1 (by decide) (by decide) ?_
  refine lv_aload_n hx hb dN_X5_4 rfl (lv_at hl 0 rfl) ?_
  refine lv_sipush (v := 1728) hx hb dN_X5_5 (by decide) ?_
  refine nw_arr X hP hD hS (N := 1728) (by decide) (by decide) (by decide) (zin_of (p := (1, 114)) (by decide +kernel)) (by decide) (by decide) dN_X5_8 (fun q1 H hP hD hS => ?_)
  have hP : va_P D vwCl [nO h0 5 [.null, .null, .null, .int 0, .int 0, .int 0], nA cI q1 1728] H := hP
  have hD : va_D A [nO h0 5 [.null, .null, .null, .int 0, .int 0, .int 0], nA cI q1 1728] := hD
  refine nw_put X hP hD hS 0 rfl (q := (RX5, TX5, 6)) rfl 0 (by decide) (idx := 11) (zin_of (p := (1, 166)) (by decide +kernel)) rfl rfl (ty := (.array .int)) (by decide +kernel) rfl rfl (Nat.le_of_ble_eq_true rfl) dN_X5_10 (fun H locs hP hD hS => ?_)
  have hP : va_P D vwCl [nO h0 5 [.ref q1, .null, .null, .int 0, .int 0, .int 0], nA cI q1 1728] H := hP
  have hD : va_D A [nO h0 5 [.ref q1, .null, .null, .int 0, .int 0, .int 0], nA cI q1 1728] := hD
  refine lv_aload_n hx hb dN_X5_13 rfl (lv_at hl 0 rfl) ?_
  refine lv_sipush (v := 216) hx hb dN_X5_14 (by decide) ?_
  refine nw_arr X hP hD hS (N := 216) (by decide) (by decide) (by decide) (zin_of (p := (1, 114)) (by decide +kernel)) (by decide) (by decide) dN_X5_17 (fun q2 H hP hD hS => ?_)
  have hP : va_P D vwCl [nO h0 5 [.ref q1, .null, .null, .int 0, .int 0, .int 0], nA cI q1 1728, nA cI q2 216] H := hP
  have hD : va_D A [nO h0 5 [.ref q1, .null, .null, .int 0, .int 0, .int 0], nA cI q1 1728, nA cI q2 216] := hD
  refine nw_put X hP hD hS 0 rfl (q := (RX5, TX5, 6)) rfl 1 (by decide) (idx := 17) (zin_of (p := (1, 167)) (by decide +kernel)) rfl rfl (ty := (.array .int)) (by decide +kernel) rfl rfl (Nat.le_of_ble_eq_true rfl) dN_X5_19 (fun H locs hP hD hS => ?_)
  have hP : va_P D vwCl [nO h0 5 [.ref q1, .ref q2, .null, .int 0, .int 0, .int 0], nA cI q1 1728, nA cI q2 216] H := hP
  have hD : va_D A [nO h0 5 [.ref q1, .ref q2, .null, .int 0, .int 0, .int 0], nA cI q1 1728, nA cI q2 216] := hD
  refine lv_aload_n hx hb dN_X5_22 rfl (lv_at hl 0 rfl) ?_
  refine lv_iconst (v := 2) hx hb dN_X5_23 (by decide) ?_
  refine nw_arr X hP hD hS (N := 2) (by decide) (by decide) (by decide) (zin_of (p := (1, 114)) (by decide +kernel)) (by decide) (by decide) dN_X5_24 (fun q3 H hP hD hS => ?_)
  have hP : va_P D vwCl [nO h0 5 [.ref q1, .ref q2, .null, .int 0, .int 0, .int 0], nA cI q1 1728, nA cI q2 216, nA cI q3 2] H := hP
  have hD : va_D A [nO h0 5 [.ref q1, .ref q2, .null, .int 0, .int 0, .int 0], nA cI q1 1728, nA cI q2 216, nA cI q3 2] := hD
  refine nw_put X hP hD hS 0 rfl (q := (RX5, TX5, 6)) rfl 2 (by decide) (idx := 20) (zin_of (p := (1, 168)) (by decide +kernel)) rfl rfl (ty := (.array .int)) (by decide +kernel) rfl rfl (Nat.le_of_ble_eq_true rfl) dN_X5_26 (fun H locs hP hD hS => ?_)
  have hP : va_P D vwCl [nO h0 5 [.ref q1, .ref q2, .ref q3, .int 0, .int 0, .int 0], nA cI q1 1728, nA cI q2 216, nA cI q3 2] H := hP
  have hD : va_D A [nO h0 5 [.ref q1, .ref q2, .ref q3, .int 0, .int 0, .int 0], nA cI q1 1728, nA cI q2 216, nA cI q3 2] := hD
  exact W.vret hx hb hr (fun t ht hW => ⟨⟨(fun k => match k with | 1 => q1 | 2 => q2 | 3 => q3 | _ => 0 : Nat → Nat), rfl, trivial, by rw [ht]; exact hP, by rw [hAe]; exact hD⟩, by rw [hAe]; exact hS.F ht⟩) hS.2.2 dN_X5_29 hlocks
theorem dN_X2_0 : decode cX2_init 0 = .ok (.aload_n 0, 1) := by decide +kernel
theorem dN_X2_1 : decode cX2_init 1 = .ok (.invokespecial 3, 3) := by decide +kernel
theorem dN_X2_4 : decode cX2_init 4 = .ok (.aload_n 0, 1) := by decide +kernel
theorem dN_X2_5 : decode cX2_init 5 = .ok (.aload_n 1, 1) := by decide +kernel
theorem dN_X2_6 : decode cX2_init 6 = .ok (.putfield 9, 3) := by decide +kernel
theorem dN_X2_9 : decode cX2_init 9 = .ok (.aload_n 0, 1) := by decide +kernel
theorem dN_X2_10 : decode cX2_init 10 = .ok (.aload_n 2, 1) := by decide +kernel
theorem dN_X2_11 : decode cX2_init 11 = .ok (.putfield 15, 3) := by decide +kernel
theorem dN_X2_14 : decode cX2_init 14 = .ok (.return_, 1) := by decide +kernel
theorem nfX2 : ∀ j, j < 2 → defaultValue (tyX2 j) = vp_V [.null, .null] j := fun j hj => match j, hj with | 0, _ => rfl | 1, _ => rfl | n + 2, h => absurd h (by omega)
set_option maxHeartbeats 4000000 in
set_option maxRecDepth 100000 in
theorem n_X2 (l : Launch) (D : va_G) (cI cZ : ClassId) (h0 a1 a2 sz : Nat) : Met l yX2_init (nws yX2_init cX2_init 3) ({ frames := 1, cells := 0, slots := 0, locals := 12 }) (nPc [.ref h0, .ref a1, .ref a2] D cI cZ sz [nO h0 2 [.null, .null]]) (nQc D sz [nO h0 2 [.null, .null]] (fun u => [nO h0 2 [.ref a1, .ref a2]])) 0 0 (va_A [nO h0 2 [.null, .null]] sz) := by
  refine Met.ofW (cc := cX2_init) (maxL := 3) (ret := none) (by decide +kernel) rfl ?_
  intro p e s m args below meth c s1 B hml hv
  obtain ⟨rfl, hsz, hP, hK, hD0, hN⟩ := hv
  have hx := B.exec
  have hb := B.bytes
  have hr := B.returns
  have hts0 := atoms_spec (ws := nws yX2_init cX2_init 3) B.pre
  have hts : ∀ w ∈ zt, w.before _ s = true := fun w hw => hts0 w (List.mem_cons_of_mem _ hw)
  have hown : s.vm.findClass RX2 = some m.cls := findClass_of_methodNamed B.named
  have hlocks := B.notSynchronized
  have hin : meth.name = "<init>" := (name_of_methodNamed B.named B.method).1
  subst hsz
  have hD := hD0.self (sz := s.heap.size)
  generalize hAe : va_A [nO h0 2 [.null, .null]] s.heap.size = A at hD ⊢
  have hA : ∀ q : Nat, s.heap.size ≤ q → A q := fun q h => by rw [← hAe]; exact Or.inr h
  have X : nX RX2 cX2_init 3 p s m _ meth c D cI cZ A := ⟨hx, hb, hr, hml, hown, hts, hlocks, hin, hK, hA, hN⟩
  have hS : va_S A s.heap s.heap [] := va_S.rf
  have hl := lv_entry ([.ref h0, .ref a1, .ref a2]) (n := 3) (Nat.le_of_ble_eq_true rfl)
  rw [lg_entry_eq]
  generalize (lg_sl ([.ref h0, .ref a1, .ref a2]) ++ List.replicate (3 - (lg_sl ([.ref h0, .ref a1, .ref a2])).length) Slot.unset).toArray = ls at hl ⊢
  have hl : lv_has ls 3 [(0, .ref h0), (1, .ref a1), (2, .ref a2)] := hl
  refine lv_aload_n hx hb dN_X2_0 rfl (lv_at hl 0 rfl) ?_
  refine nw_obj X (zin_of (p := (1, 191)) (by decide +kernel)) (zin_of (p := (1, 23)) (by decide +kernel)) (zin_of (p := (1, 24)) (by decide +kernel)) hl.1 dN_X2_1 (by decide) (by decide) ?_
  refine lv_aload_n hx hb dN_X2_4 rfl (lv_at hl 0 rfl) ?_
  refine lv_aload_n hx hb dN_X2_5 rfl (lv_at hl 1 rfl) ?_
  refine nw_put X hP hD hS 0 rfl (q := (RX2, TX2, 2)) rfl 0 (by decide) (idx := 9) (zin_of (p := (1, 192)) (by decide +kernel)) rfl rfl (ty := (.object "StreetTongues$Town")) (by decide +kernel) rfl rfl (Nat.le_of_ble_eq_true rfl) dN_X2_6 (fun H locs hP hD hS => ?_)
  have hP : va_P D vwCl [nO h0 2 [.ref a1, .null]] H := hP
  have hD : va_D A [nO h0 2 [.ref a1, .null]] := hD
  refine lv_aload_n hx hb dN_X2_9 rfl (lv_at hl 0 rfl) ?_
  refine lv_aload_n hx hb dN_X2_10 rfl (lv_at hl 2 rfl) ?_
  refine nw_put X hP hD hS 0 rfl (q := (RX2, TX2, 2)) rfl 1 (by decide) (idx := 15) (zin_of (p := (1, 195)) (by decide +kernel)) rfl rfl (ty := (.object "StreetTongues$Affairs")) (by decide +kernel) rfl rfl (Nat.le_of_ble_eq_true rfl) dN_X2_11 (fun H locs hP hD hS => ?_)
  have hP : va_P D vwCl [nO h0 2 [.ref a1, .ref a2]] H := hP
  have hD : va_D A [nO h0 2 [.ref a1, .ref a2]] := hD
  exact W.vret hx hb hr (fun t ht hW => ⟨⟨(fun k => match k with  | _ => 0 : Nat → Nat), rfl, trivial, by rw [ht]; exact hP, by rw [hAe]; exact hD⟩, by rw [hAe]; exact hS.F ht⟩) hS.2.2 dN_X2_14 hlocks
theorem dN_X1_0 : decode cX1_init 0 = .ok (.aload_n 0, 1) := by decide +kernel
theorem dN_X1_1 : decode cX1_init 1 = .ok (.invokespecial 3, 3) := by decide +kernel
theorem dN_X1_4 : decode cX1_init 4 = .ok (.aload_n 0, 1) := by decide +kernel
theorem dN_X1_5 : decode cX1_init 5 = .ok (.bipush 15, 2) := by decide +kernel
theorem dN_X1_7 : decode cX1_init 7 = .ok (.newarray .int, 2) := by decide +kernel
theorem dN_X1_9 : decode cX1_init 9 = .ok (.putfield 9, 3) := by decide +kernel
theorem dN_X1_12 : decode cX1_init 12 = .ok (.aload_n 0, 1) := by decide +kernel
theorem dN_X1_13 : decode cX1_init 13 = .ok (.bipush 15, 2) := by decide +kernel
theorem dN_X1_15 : decode cX1_init 15 = .ok (.newarray .int, 2) := by decide +kernel
theorem dN_X1_17 : decode cX1_init 17 = .ok (.putfield 15, 3) := by decide +kernel
theorem dN_X1_20 : decode cX1_init 20 = .ok (.return_, 1) := by decide +kernel
theorem nfX1 : ∀ j, j < 3 → defaultValue (tyX1 j) = vp_V [.null, .null, .int 0] j := fun j hj => match j, hj with | 0, _ => rfl | 1, _ => rfl | 2, _ => rfl | n + 3, h => absurd h (by omega)
set_option maxHeartbeats 4000000 in
set_option maxRecDepth 100000 in
theorem n_X1 (l : Launch) (D : va_G) (cI cZ : ClassId) (h0 sz : Nat) : Met l yX1_init (nws yX1_init cX1_init 1) ({ frames := 1, cells := 2, slots := 30, locals := 12 }) (nPc [.ref h0] D cI cZ sz [nO h0 1 [.null, .null, .int 0]]) (nQc D sz [nO h0 1 [.null, .null, .int 0]] (fun u => [nO h0 1 [.ref (u 1), .ref (u 2), .int 0], nA cI (u 1) 15, nA cI (u 2) 15])) 2 30 (va_A [nO h0 1 [.null, .null, .int 0]] sz) := by
  refine Met.ofW (cc := cX1_init) (maxL := 1) (ret := none) (by decide +kernel) rfl ?_
  intro p e s m args below meth c s1 B hml hv
  obtain ⟨rfl, hsz, hP, hK, hD0, hN⟩ := hv
  have hx := B.exec
  have hb := B.bytes
  have hr := B.returns
  have hts0 := atoms_spec (ws := nws yX1_init cX1_init 1) B.pre
  have hts : ∀ w ∈ zt, w.before _ s = true := fun w hw => hts0 w (List.mem_cons_of_mem _ hw)
  have hown : s.vm.findClass RX1 = some m.cls := findClass_of_methodNamed B.named
  have hlocks := B.notSynchronized
  have hin : meth.name = "<init>" := (name_of_methodNamed B.named B.method).1
  subst hsz
  have hD := hD0.self (sz := s.heap.size)
  generalize hAe : va_A [nO h0 1 [.null, .null, .int 0]] s.heap.size = A at hD ⊢
  have hA : ∀ q : Nat, s.heap.size ≤ q → A q := fun q h => by rw [← hAe]; exact Or.inr h
  have X : nX RX1 cX1_init 1 p s m _ meth c D cI cZ A := ⟨hx, hb, hr, hml, hown, hts, hlocks, hin, hK, hA, hN⟩
  have hS : va_S A s.heap s.heap [] := va_S.rf
  have hl := lv_entry ([.ref h0]) (n := 1) (Nat.le_of_ble_eq_true rfl)
  rw [lg_entry_eq]
  generalize (lg_sl ([.ref h0]) ++ List.replicate (1 - (lg_sl ([.ref h0])).length) Slot.unset).toArray = ls at hl ⊢
  have hl : lv_has ls 1 [(0, .ref h0)] := hl
  refine lv_aload_n hx hb dN_X1_0 rfl (lv_at hl 0 rfl) ?_
  refine nw_obj X (zin_of (p := (2, 76)) (by decide +kernel)) (zin_of (p := (1, 23)) (by decide +kernel)) (zin_of (p := (1, 24)) (by decide +kernel)) hl.1 dN_X1_1 (by decide) (by decide) ?_
  refine lv_aload_n hx hb dN_X1_4 rfl (lv_at hl 0 rfl) ?_
  refine lv_bipush (v := 15) hx hb dN_X1_5 (by decide) ?_
  refine nw_arr X hP hD hS (N := 15) (by decide) (by decide) (by decide) (zin_of (p := (1, 114)) (by decide +kernel)) (by decide) (by decide) dN_X1_7 (fun q1 H hP hD hS => ?_)
  have hP : va_P D vwCl [nO h0 1 [.null, .null, .int 0], nA cI q1 15] H := hP
  have hD : va_D A [nO h0 1 [.null, .null, .int 0], nA cI q1 15] := hD
  refine nw_put X hP hD hS 0 rfl (q := (RX1, TX1, 3)) rfl 0 (by decide) (idx := 9) (zin_of (p := (2, 77)) (by decide +kernel)) rfl rfl (ty := (.array .int)) (by decide +kernel) rfl rfl (Nat.le_of_ble_eq_true rfl) dN_X1_9 (fun H locs hP hD hS => ?_)
  have hP : va_P D vwCl [nO h0 1 [.ref q1, .null, .int 0], nA cI q1 15] H := hP
  have hD : va_D A [nO h0 1 [.ref q1, .null, .int 0], nA cI q1 15] := hD
  refine lv_aload_n hx hb dN_X1_12 rfl (lv_at hl 0 rfl) ?_
  refine lv_bipush (v := 15) hx hb dN_X1_13 (by decide) ?_
  refine nw_arr X hP hD hS (N := 15) (by decide) (by decide) (by decide) (zin_of (p := (1, 114)) (by decide +kernel)) (by decide) (by decide) dN_X1_15 (fun q2 H hP hD hS => ?_)
  have hP : va_P D vwCl [nO h0 1 [.ref q1, .null, .int 0], nA cI q1 15, nA cI q2 15] H := hP
  have hD : va_D A [nO h0 1 [.ref q1, .null, .int 0], nA cI q1 15, nA cI q2 15] := hD
  refine nw_put X hP hD hS 0 rfl (q := (RX1, TX1, 3)) rfl 1 (by decide) (idx := 15) (zin_of (p := (2, 78)) (by decide +kernel)) rfl rfl (ty := (.array .int)) (by decide +kernel) rfl rfl (Nat.le_of_ble_eq_true rfl) dN_X1_17 (fun H locs hP hD hS => ?_)
  have hP : va_P D vwCl [nO h0 1 [.ref q1, .ref q2, .int 0], nA cI q1 15, nA cI q2 15] H := hP
  have hD : va_D A [nO h0 1 [.ref q1, .ref q2, .int 0], nA cI q1 15, nA cI q2 15] := hD
  exact W.vret hx hb hr (fun t ht hW => ⟨⟨(fun k => match k with | 1 => q1 | 2 => q2 | _ => 0 : Nat → Nat), rfl, trivial, by rw [ht]; exact hP, by rw [hAe]; exact hD⟩, by rw [hAe]; exact hS.F ht⟩) hS.2.2 dN_X1_20 hlocks
theorem dN_X9_0 : decode cX9_init 0 = .ok (.aload_n 0, 1) := by decide +kernel
theorem dN_X9_1 : decode cX9_init 1 = .ok (.invokespecial 3, 3) := by decide +kernel
theorem dN_X9_4 : decode cX9_init 4 = .ok (.aload_n 0, 1) := by decide +kernel
theorem dN_X9_5 : decode cX9_init 5 = .ok (.bipush 7, 2) := by decide +kernel
theorem dN_X9_7 : decode cX9_init 7 = .ok (.newarray .int, 2) := by decide +kernel
theorem dN_X9_9 : decode cX9_init 9 = .ok (.putfield 9, 3) := by decide +kernel
theorem dN_X9_12 : decode cX9_init 12 = .ok (.aload_n 0, 1) := by decide +kernel
theorem dN_X9_13 : decode cX9_init 13 = .ok (.bipush 7, 2) := by decide +kernel
theorem dN_X9_15 : decode cX9_init 15 = .ok (.newarray .int, 2) := by decide +kernel
theorem dN_X9_17 : decode cX9_init 17 = .ok (.putfield 15, 3) := by decide +kernel
theorem dN_X9_20 : decode cX9_init 20 = .ok (.aload_n 0, 1) := by decide +kernel
theorem dN_X9_21 : decode cX9_init 21 = .ok (.aload_n 1, 1) := by decide +kernel
theorem dN_X9_22 : decode cX9_init 22 = .ok (.putfield 18, 3) := by decide +kernel
theorem dN_X9_25 : decode cX9_init 25 = .ok (.return_, 1) := by decide +kernel
theorem nfX9 : ∀ j, j < 6 → defaultValue (tyX9 j) = vp_V [.null, .null, .null, .int 0, .int 0, .int 0] j := fun j hj => match j, hj with | 0, _ => rfl | 1, _ => rfl | 2, _ => rfl | 3, _ => rfl | 4, _ => rfl | 5, _ => rfl | n + 6, h => absurd h (by omega)
set_option maxHeartbeats 4000000 in
set_option maxRecDepth 100000 in
theorem n_X9 (l : Launch) (D : va_G) (cI cZ : ClassId) (h0 a1 sz : Nat) : Met l yX9_init (nws yX9_init cX9_init 2) ({ frames := 1, cells := 2, slots := 14, locals := 12 }) (nPc [.ref h0, .ref a1] D cI cZ sz [nO h0 9 [.null, .null, .null, .int 0, .int 0, .int 0]]) (nQc D sz [nO h0 9 [.null, .null, .null, .int 0, .int 0, .int 0]] (fun u => [nO h0 9 [.ref a1, .ref (u 1), .ref (u 2), .int 0, .int 0, .int 0], nA cI (u 1) 7, nA cI (u 2) 7])) 2 14 (va_A [nO h0 9 [.null, .null, .null, .int 0, .int 0, .int 0]] sz) := by
  refine Met.ofW (cc := cX9_init) (maxL := 2) (ret := none) (by decide +kernel) rfl ?_
  intro p e s m args below meth c s1 B hml hv
  obtain ⟨rfl, hsz, hP, hK, hD0, hN⟩ := hv
  have hx := B.exec
  have hb := B.bytes
  have hr := B.returns
  have hts0 := atoms_spec (ws := nws yX9_init cX9_init 2) B.pre
  have hts : ∀ w ∈ zt, w.before _ s = true := fun w hw => hts0 w (List.mem_cons_of_mem _ hw)
  have hown : s.vm.findClass RX9 = some m.cls := findClass_of_methodNamed B.named
  have hlocks := B.notSynchronized
  have hin : meth.name = "<init>" := (name_of_methodNamed B.named B.method).1
  subst hsz
  have hD := hD0.self (sz := s.heap.size)
  generalize hAe : va_A [nO h0 9 [.null, .null, .null, .int 0, .int 0, .int 0]] s.heap.size = A at hD ⊢
  have hA : ∀ q : Nat, s.heap.size ≤ q → A q := fun q h => by rw [← hAe]; exact Or.inr h
  have X : nX RX9 cX9_init 2 p s m _ meth c D cI cZ A := ⟨hx, hb, hr, hml, hown, hts, hlocks, hin, hK, hA, hN⟩
  have hS : va_S A s.heap s.heap [] := va_S.rf
  have hl := lv_entry ([.ref h0, .ref a1]) (n := 2) (Nat.le_of_ble_eq_true rfl)
  rw [lg_entry_eq]
  generalize (lg_sl ([.ref h0, .ref a1]) ++ List.replicate (2 - (lg_sl ([.ref h0, .ref a1])).length) Slot.unset).toArray = ls at hl ⊢
  have hl : lv_has ls 2 [(0, .ref h0), (1, .ref a1)] := hl
  refine lv_aload_n hx hb dN_X9_0 rfl (lv_at hl 0 rfl) ?_
  refine nw_obj X (zin_of (p := (1, 208)) (by decide +kernel)) (zin_of (p := (1, 23)) (by decide +kernel)) (zin_of (p := (1, 24)) (by decide +kernel)) hl.1 dN_X9_1 (by decide) (by decide) ?_
  refine lv_aload_n hx hb dN_X9_4 rfl (lv_at hl 0 rfl) ?_
  refine lv_bipush (v := 7) hx hb dN_X9_5 (by decide) ?_
  refine nw_arr X hP hD hS (N := 7) (by decide) (by decide) (by decide) (zin_of (p := (1, 114)) (by decide +kernel)) (by decide) (by decide) dN_X9_7 (fun q1 H hP hD hS => ?_)
  have hP : va_P D vwCl [nO h0 9 [.null, .null, .null, .int 0, .int 0, .int 0], nA cI q1 7] H := hP
  have hD : va_D A [nO h0 9 [.null, .null, .null, .int 0, .int 0, .int 0], nA cI q1 7] := hD
  refine nw_put X hP hD hS 0 rfl (q := (RX9, TX9, 6)) rfl 1 (by decide) (idx := 9) (zin_of (p := (1, 210)) (by decide +kernel)) rfl rfl (ty := (.array .int)) (by decide +kernel) rfl rfl (Nat.le_of_ble_eq_true rfl) dN_X9_9 (fun H locs hP hD hS => ?_)
  have hP : va_P D vwCl [nO h0 9 [.null, .ref q1, .null, .int 0, .int 0, .int 0], nA cI q1 7] H := hP
  have hD : va_D A [nO h0 9 [.null, .ref q1, .null, .int 0, .int 0, .int 0], nA cI q1 7] := hD
  refine lv_aload_n hx hb dN_X9_12 rfl (lv_at hl 0 rfl) ?_
  refine lv_bipush (v := 7) hx hb dN_X9_13 (by decide) ?_
  refine nw_arr X hP hD hS (N := 7) (by decide) (by decide) (by decide) (zin_of (p := (1, 114)) (by decide +kernel)) (by decide) (by decide) dN_X9_15 (fun q2 H hP hD hS => ?_)
  have hP : va_P D vwCl [nO h0 9 [.null, .ref q1, .null, .int 0, .int 0, .int 0], nA cI q1 7, nA cI q2 7] H := hP
  have hD : va_D A [nO h0 9 [.null, .ref q1, .null, .int 0, .int 0, .int 0], nA cI q1 7, nA cI q2 7] := hD
  refine nw_put X hP hD hS 0 rfl (q := (RX9, TX9, 6)) rfl 2 (by decide) (idx := 15) (zin_of (p := (1, 211)) (by decide +kernel)) rfl rfl (ty := (.array .int)) (by decide +kernel) rfl rfl (Nat.le_of_ble_eq_true rfl) dN_X9_17 (fun H locs hP hD hS => ?_)
  have hP : va_P D vwCl [nO h0 9 [.null, .ref q1, .ref q2, .int 0, .int 0, .int 0], nA cI q1 7, nA cI q2 7] H := hP
  have hD : va_D A [nO h0 9 [.null, .ref q1, .ref q2, .int 0, .int 0, .int 0], nA cI q1 7, nA cI q2 7] := hD
  refine lv_aload_n hx hb dN_X9_20 rfl (lv_at hl 0 rfl) ?_
  refine lv_aload_n hx hb dN_X9_21 rfl (lv_at hl 1 rfl) ?_
  refine nw_put X hP hD hS 0 rfl (q := (RX9, TX9, 6)) rfl 0 (by decide) (idx := 18) (zin_of (p := (1, 209)) (by decide +kernel)) rfl rfl (ty := (.object "StreetTongues$Chairs")) (by decide +kernel) rfl rfl (Nat.le_of_ble_eq_true rfl) dN_X9_22 (fun H locs hP hD hS => ?_)
  have hP : va_P D vwCl [nO h0 9 [.ref a1, .ref q1, .ref q2, .int 0, .int 0, .int 0], nA cI q1 7, nA cI q2 7] H := hP
  have hD : va_D A [nO h0 9 [.ref a1, .ref q1, .ref q2, .int 0, .int 0, .int 0], nA cI q1 7, nA cI q2 7] := hD
  exact W.vret hx hb hr (fun t ht hW => ⟨⟨(fun k => match k with | 1 => q1 | 2 => q2 | _ => 0 : Nat → Nat), rfl, trivial, by rw [ht]; exact hP, by rw [hAe]; exact hD⟩, by rw [hAe]; exact hS.F ht⟩) hS.2.2 dN_X9_25 hlocks
