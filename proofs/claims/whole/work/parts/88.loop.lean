/-! the law's loop -/
theorem d33 : decode code 33 = .ok (.tableswitch 1257 0 33 #[151, 174, 187, 200, 223, 256, 289, 322, 381, 424, 473, 496, 555, 578, 591, 650, 693, 736, 799, 842, 895, 938, 961, 1004, 1027, 1060, 1093, 1116, 1129, 1162, 1175, 1188, 1211, 1234], 151) := by decide +kernel
theorem dl_18 : dq 18 (.iload_n 3) 1 = true := by decide +kernel
theorem dl_19 : dq 19 (.aload_n 0) 1 = true := by decide +kernel
theorem dl_20 : dq 20 .arraylength 1 = true := by decide +kernel
theorem dl_21 : dq 21 (.bipush 6) 2 = true := by decide +kernel
theorem dl_23 : dq 23 .isub 1 = true := by decide +kernel
theorem dl_24 : dq 24 (.if_icmp .gt 1272) 3 = true := by decide +kernel
theorem dl_27 : dq 27 (.aload_n 0) 1 = true := by decide +kernel
theorem dl_28 : dq 28 (.iload_n 3) 1 = true := by decide +kernel
theorem dl_29 : dq 29 .iaload 1 = true := by decide +kernel
theorem dl_30 : dq 30 (.bipush 63) 2 = true := by decide +kernel
theorem dl_32 : dq 32 .iand 1 = true := by decide +kernel
theorem dl_1290 : dq 1290 (.iinc 3 6) 3 = true := by decide +kernel
theorem dl_1293 : dq 1293 (.goto (-1275)) 3 = true := by decide +kernel
theorem dl_1296 : dq 1296 (.iconst 1) 1 = true := by decide +kernel
theorem dl_1297 : dq 1297 .ireturn 1 = true := by decide +kernel
theorem and63 (x : Int32) : ∃ t, t < 64 ∧ x &&& 63 = nI t := by
  refine ⟨(x &&& 63).toBitVec.toNat, ?_, ?_⟩
  · show (x.toBitVec &&& (63 : Int32).toBitVec).toNat < 64
    rw [BitVec.toNat_and]
    exact Nat.lt_of_le_of_lt Nat.and_le_right (by decide)
  · apply Int32.toBitVec_inj.1
    show _ = BitVec.ofNat 32 _
    rw [BitVec.ofNat_toNat, BitVec.setWidth_eq]
section LL
variable {p : Program} {l : Launch} {e : Env} {s : State} {m : MethodId} {below : List Frame} {meth : Method} {c : Code} {b L : Nat} {xs : Nat → Int32} {D : va_G} {cI cZ : ClassId} {ad : Nat → Nat}
theorem l_switch (X : lX p s m meth c b L xs D cI cZ ad) {x : Int32} {j t : Nat} {v : Int32} {G : zG} {M : zM} (hx : x = nI j) (hj : j + 6 ≤ L) (hC : zC G M) (hD : zD G M) (hV : zV G) (ht : t < 64) (ev : v = nI t) (K : ∀ G M', zC G M' → zD G M' → zV G → lEv p l e s m below meth c b D cI cZ ad x 1290 [] M') : lEv p l e s m below meth c b D cI cZ ad x 33 [.int v] M := by
  have X' := X
  obtain ⟨hx', hb, hr, hml, hown, hts, hX, hbl, hlocks, hK, hin, hAd, hN, hL⟩ := X'
  intro H locs ls hP hS hl
  subst ev
  by_cases h34 : t < 34
  · match t, h34 with
    | 0, _ => exact lv_tableIn (off := 151) (tgt := 184) hx' hb d33 (by decide) (by decide) rfl (by decide) (lc_feed X hx hj hC hD hV K H locs ls hP hS hl)
    | 1, _ => exact lv_tableIn (off := 174) (tgt := 207) hx' hb d33 (by decide) (by decide) rfl (by decide) (lc_town X hx hj hC hD hV K H locs ls hP hS hl)
    | 2, _ => exact lv_tableIn (off := 187) (tgt := 220) hx' hb d33 (by decide) (by decide) rfl (by decide) (lc_fault X hx hj hC hD hV K H locs ls hP hS hl)
    | 3, _ => exact lv_tableIn (off := 200) (tgt := 233) hx' hb d33 (by decide) (by decide) rfl (by decide) (lc_told X hx hj hC hD hV K H locs ls hP hS hl)
    | 4, _ => exact lv_tableIn (off := 223) (tgt := 256) hx' hb d33 (by decide) (by decide) rfl (by decide) (lc_street X hx hj hC hD hV K H locs ls hP hS hl)
    | 5, _ => exact lv_tableIn (off := 256) (tgt := 289) hx' hb d33 (by decide) (by decide) rfl (by decide) (lc_corner X hx hj hC hD hV K H locs ls hP hS hl)
    | 6, _ => exact lv_tableIn (off := 289) (tgt := 322) hx' hb d33 (by decide) (by decide) rfl (by decide) (lc_logged X hx hj hC hD hV K H locs ls hP hS hl)
    | 7, _ => exact lv_tableIn (off := 322) (tgt := 355) hx' hb d33 (by decide) (by decide) rfl (by decide) (lc_say X hx hj hC hD hV K H locs ls hP hS hl)
    | 8, _ => exact lv_tableIn (off := 381) (tgt := 414) hx' hb d33 (by decide) (by decide) rfl (by decide) (lc_send X hx hj hC hD hV K H locs ls hP hS hl)
    | 9, _ => exact lv_tableIn (off := 424) (tgt := 457) hx' hb d33 (by decide) (by decide) rfl (by decide) (lc_shut X hx hj hC hD hV K H locs ls hP hS hl)
    | 10, _ => exact lv_tableIn (off := 473) (tgt := 506) hx' hb d33 (by decide) (by decide) rfl (by decide) (lc_mend X hx hj hC hD hV K H locs ls hP hS hl)
    | 11, _ => exact lv_tableIn (off := 496) (tgt := 529) hx' hb d33 (by decide) (by decide) rfl (by decide) (lc_quarrel X hx hj hC hD hV K H locs ls hP hS hl)
    | 12, _ => exact lv_tableIn (off := 555) (tgt := 588) hx' hb d33 (by decide) (by decide) rfl (by decide) (lc_drift X hx hj hC hD hV K H locs ls hP hS hl)
    | 13, _ => exact lv_tableIn (off := 578) (tgt := 611) hx' hb d33 (by decide) (by decide) rfl (by decide) (lc_undo X hx hj hC hD hV K H locs ls hP hS hl)
    | 14, _ => exact lv_tableIn (off := 591) (tgt := 624) hx' hb d33 (by decide) (by decide) rfl (by decide) (lc_over X hx hj hC hD hV K H locs ls hP hS hl)
    | 15, _ => exact lv_tableIn (off := 650) (tgt := 683) hx' hb d33 (by decide) (by decide) rfl (by decide) (lc_becomes X hx hj hC hD hV K H locs ls hP hS hl)
    | 16, _ => exact lv_tableIn (off := 693) (tgt := 726) hx' hb d33 (by decide) (by decide) rfl (by decide) (lc_way X hx hj hC hD hV K H locs ls hP hS hl)
    | 17, _ => exact lv_tableIn (off := 736) (tgt := 769) hx' hb d33 (by decide) (by decide) rfl (by decide) (lc_through X hx hj hC hD hV K H locs ls hP hS hl)
    | 18, _ => exact lv_tableIn (off := 799) (tgt := 832) hx' hb d33 (by decide) (by decide) rfl (by decide) (lc_code X hx hj hC hD hV K H locs ls hP hS hl)
    | 19, _ => exact lv_tableIn (off := 842) (tgt := 875) hx' hb d33 (by decide) (by decide) rfl (by decide) (lc_origin X hx hj hC hD hV K H locs ls hP hS hl)
    | 20, _ => exact lv_tableIn (off := 895) (tgt := 928) hx' hb d33 (by decide) (by decide) rfl (by decide) (lc_ring X hx hj hC hD hV K H locs ls hP hS hl)
    | 21, _ => exact lv_tableIn (off := 938) (tgt := 971) hx' hb d33 (by decide) (by decide) rfl (by decide) (lc_more X hx hj hC hD hV K H locs ls hP hS hl)
    | 22, _ => exact lv_tableIn (off := 961) (tgt := 994) hx' hb d33 (by decide) (by decide) rfl (by decide) (lc_cut X hx hj hC hD hV K H locs ls hP hS hl)
    | 23, _ => exact lv_tableIn (off := 1004) (tgt := 1037) hx' hb d33 (by decide) (by decide) rfl (by decide) (lc_walk X hx hj hC hD hV K H locs ls hP hS hl)
    | 24, _ => exact lv_tableIn (off := 1027) (tgt := 1060) hx' hb d33 (by decide) (by decide) rfl (by decide) (lc_holds X hx hj hC hD hV K H locs ls hP hS hl)
    | 25, _ => exact lv_tableIn (off := 1060) (tgt := 1093) hx' hb d33 (by decide) (by decide) rfl (by decide) (lc_see X hx hj hC hD hV K H locs ls hP hS hl)
    | 26, _ => exact lv_tableIn (off := 1093) (tgt := 1126) hx' hb d33 (by decide) (by decide) rfl (by decide) (lc_slips X hx hj hC hD hV K H locs ls hP hS hl)
    | 27, _ => exact lv_tableIn (off := 1116) (tgt := 1149) hx' hb d33 (by decide) (by decide) rfl (by decide) (lc_tryNext X hx hj hC hD hV K H locs ls hP hS hl)
    | 28, _ => exact lv_tableIn (off := 1129) (tgt := 1162) hx' hb d33 (by decide) (by decide) rfl (by decide) (lc_write X hx hj hC hD hV K H locs ls hP hS hl)
    | 29, _ => exact lv_tableIn (off := 1162) (tgt := 1195) hx' hb d33 (by decide) (by decide) rfl (by decide) (lc_tear X hx hj hC hD hV K H locs ls hP hS hl)
    | 30, _ => exact lv_tableIn (off := 1175) (tgt := 1208) hx' hb d33 (by decide) (by decide) rfl (by decide) (lc_judge X hx hj hC hD hV K H locs ls hP hS hl)
    | 31, _ => exact lv_tableIn (off := 1188) (tgt := 1221) hx' hb d33 (by decide) (by decide) rfl (by decide) (lc_seed X hx hj hC hD hV K H locs ls hP hS hl)
    | 32, _ => exact lv_tableIn (off := 1211) (tgt := 1244) hx' hb d33 (by decide) (by decide) rfl (by decide) (lc_keep X hx hj hC hD hV K H locs ls hP hS hl)
    | 33, _ => exact lv_tableIn (off := 1234) (tgt := 1267) hx' hb d33 (by decide) (by decide) rfl (by decide) (lc_goBack X hx hj hC hD hV K H locs ls hP hS hl)
    | n + 34, h => exact absurd h (by omega)
  · refine lv_tableOut (tgt := 1290) hx' hb d33 (Or.inr ?_) (by decide) (K G M hC hD hV H locs ls hP hS hl)
    rw [nI_toInt (by omega)]
    omega
theorem law_loop (X : lX p s m meth c b L xs D cI cZ ad) : ∀ n j x G M, L ≤ j + n → j ≤ L + 6 → x = nI j → zC G M → zD G M → zV G → lEv p l e s m below meth c b D cI cZ ad x 18 [] M := by
  have X' := X
  obtain ⟨hx', hb, hr, hml, hown, hts, hX, hbl, hlocks, hK, hin, hAd, hN, hL⟩ := X'
  have hbA : ¬ (fun q : Nat => s.heap.size ≤ q) b := Nat.not_le.mpr hbl
  have e6 : (Int32.ofNat L - 6).toInt = (L : Int) - 6 := by
    have := pk_sub_toInt (a := L) (b := 6) (by omega) (by omega)
    exact this
  have fin : ∀ j x M, L < j + 6 → j ≤ L + 6 → x = nI j → lEv p l e s m below meth c b D cI cZ ad x 18 [] M := by
    intro j x M hj hj2 hx H locs ls hP hS hl
    refine lv_iload_n hx' hb (dq_of dl_18) rfl (lv_at hl 3 rfl) ?_
    refine lv_aload_n hx' hb (dq_of dl_19) rfl (lv_at hl 0 rfl) ?_
    refine va_slen hx' hb hX hbl hbA hS (dq_of dl_20) ?_
    refine lv_bipush (v := 6) hx' hb (dq_of dl_21) (by decide) ?_
    refine lv_isub hx' hb (dq_of dl_23) ?_
    refine lv_icmp_gt (tgt := 1296) hx' hb (dq_of dl_24) (by decide) (fun _ => ?_) (fun q => ?_)
    · refine va_forget hS.2.2 ?_
      refine lv_iconst (v := 1) hx' hb (dq_of dl_1296) (by decide) ?_
      exact lw_ret hx' hb hr hlocks (dq_of dl_1297)
    · exfalso
      apply q
      rw [Int32.lt_iff_toInt_lt, e6, hx, nI_toInt (by omega)]
      omega
  intro n
  induction n with
  | zero => intro j x G M h1 h2 hx hC hD hV; exact fin j x M (by omega) h2 hx
  | succ n ih =>
    intro j x G M h1 h2 hx hC hD hV
    by_cases hj : j + 6 ≤ L
    · have K : ∀ G M', zC G M' → zD G M' → zV G → lEv p l e s m below meth c b D cI cZ ad x 1290 [] M' := by
        intro G M' hC hD hV H locs ls hP hS hl
        refine lv_iinc (v := x + 6) (lv' := [(3, .int (x + 6)), (0, .ref b), (1, .ref (ad 0)), (2, .ref (ad 47))]) hx' hb (dq_of dl_1290) hl (k := 3) rfl rfl (by decide) rfl (fun ls hl => ?_)
        refine lv_goto (tgt := 18) hx' hb (dq_of dl_1293) (by decide) ?_
        exact ih (j + 6) (x + 6) G M' (by omega) (by omega) (by rw [hx]; exact nI_add j 6) hC hD hV H locs ls hP hS (lv_sub hl [1, 2, 3, 0] rfl)
      obtain ⟨t, ht, ev⟩ := and63 (xs x.toNatClampNeg)
      have S := l_switch (l := l) (e := e) (below := below) X hx hj hC hD hV ht ev K
      intro H locs ls hP hS hl
      refine lv_iload_n hx' hb (dq_of dl_18) rfl (lv_at hl 3 rfl) ?_
      refine lv_aload_n hx' hb (dq_of dl_19) rfl (lv_at hl 0 rfl) ?_
      refine va_slen hx' hb hX hbl hbA hS (dq_of dl_20) ?_
      refine lv_bipush (v := 6) hx' hb (dq_of dl_21) (by decide) ?_
      refine lv_isub hx' hb (dq_of dl_23) ?_
      refine lv_icmp_gt (tgt := 1296) hx' hb (dq_of dl_24) (by decide) (fun q => ?_) (fun _ => ?_)
      · exfalso
        rw [Int32.lt_iff_toInt_lt, e6, hx, nI_toInt (by omega)] at q
        omega
      · refine lv_aload_n hx' hb (dq_of dl_27) rfl (lv_at hl 0 rfl) ?_
        refine lv_iload_n hx' hb (dq_of dl_28) rfl (lv_at hl 3 rfl) ?_
        refine va_sld hx' hb hX hbl hbA hS (by rw [hx]; exact vp_in_nI (by omega) (by omega)) (dq_of dl_29) ?_
        refine lv_bipush (v := 63) hx' hb (dq_of dl_30) (by decide) ?_
        refine lv_iand hx' hb (dq_of dl_32) ?_
        exact S H locs ls hP hS hl
    · exact fin j x M (by omega) h2 hx
end LL
