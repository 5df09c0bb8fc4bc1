/-! draws and days -/
theorem lN_and (a b : Nat) : lN a &&& lN b = lN (a &&& b) := by
  apply Int64.toBitVec_inj.1
  show BitVec.ofNat 64 a &&& BitVec.ofNat 64 b = BitVec.ofNat 64 (a &&& b)
  apply BitVec.eq_of_getLsbD_eq
  intro i hi
  simp [hi]
def drS (s : Nat) : Nat := (s * 1103515245 + 12345) % 2147483648
theorem drS_lt (s : Nat) : drS s < 2 ^ 31 := Nat.mod_lt _ (by decide)
theorem dr_c {y : Int32} {s : Nat} (hy : y = nI s) (hs : s < 2 ^ 31) : ((y.toInt64 * lN 1103515245 + lN 12345) &&& lN 2147483647).toInt32 = nI (drS s) := by
  rw [hy, nI_l hs, lN_mul, lN_add, lN_and, lN_i, show (2147483647 : Nat) = 2 ^ 31 - 1 from rfl, Nat.and_two_pow_sub_one_eq_mod]
  rfl
theorem dr_m {y : Int32} {s : Nat} (hy : y = nI s) (hs : s < 2 ^ 31) : (zremL (y.toInt64 * lN 1103515245 + lN 12345) (lN 2147483648)).toInt32 = nI (drS s) := by
  unfold zremL
  rw [hy, nI_l hs, lN_mul, lN_add, pk_lRem (by omega) (by omega) (by omega), lN_i]
  rfl
theorem k_X10_draw {Q : Option Value → zM → Prop} {M : zM} {x : Int32} {s n : Nat} (hs' : M 0 10 = nI s) (hs : s < 2 ^ 31) (hx : x = nI n) (h0 : 0 < n) (hn : n < 2 ^ 31) (h : Q (some (.int (nI (drS s / 65536 % n)))) (zu M 0 10 (nI (drS s)))) : zCon fX10_draw [.ref 0, .int x] M Q := by
  have dl := drS_lt s
  have key : ∀ v, v = nI (drS s) → zEv fX10_draw Q 22 [(0, .ref 0), (1, .int x)] [] (zu M 0 10 v) := by
    intro v hv
    subst hv
    refine zev_go zkX10_draw [] 60 (iGe n_0 hx (by omega) hn (fun q => absurd q (by omega)) (fun _ => ⟨by decide, a_ne0 hx h0 hn, ?_⟩))
    have e : zrem (zu M 0 10 (nI (drS s)) 0 10 / 65536) x = nI (drS s / 65536 % n) := by
      rw [zu_at, a_rem (a_div rfl n_65536 (by omega) (by omega) (by decide)) hx (by omega) h0 hn]
    rw [← e] at h
    exact h
  refine zc_of zkX10_draw [22] 60 (Nat.le_of_ble_eq_true rfl) ?_
  exact key _ (dr_c hs' hs)
theorem k_X11_draw {Q : Option Value → zM → Prop} {M : zM} {x : Int32} {s n : Nat} (hs' : M 47 12 = nI s) (hs : s < 2 ^ 31) (hx : x = nI n) (h0 : 0 < n) (hn : n < 2 ^ 31) (h : Q (some (.int (nI (drS s / 65536 % n)))) (zu M 47 12 (nI (drS s)))) : zCon fX11_draw [.ref 47, .int x] M Q := by
  have dl := drS_lt s
  have key : ∀ v, v = nI (drS s) → zEv fX11_draw Q 22 [(0, .ref 47), (1, .int x)] [] (zu M 47 12 v) := by
    intro v hv
    subst hv
    refine zev_go zkX11_draw [] 60 ⟨by decide, a_ne0 hx h0 hn, ?_⟩
    have e : zrem (zu M 47 12 (nI (drS s)) 47 12 / 65536) x = nI (drS s / 65536 % n) := by
      rw [zu_at, a_rem (a_div rfl n_65536 (by omega) (by omega) (by decide)) hx (by omega) h0 hn]
    rw [← e] at h
    exact h
  refine zc_of zkX11_draw [22] 60 (Nat.le_of_ble_eq_true rfl) ⟨by decide, ?_⟩
  exact key _ (dr_m hs' hs)
theorem k_drawC {Q : Option Value → zM → Prop} {M : zM} {x : Int32} {s t n : Nat} (hs' : M 0 10 = nI s) (hs : s < 2 ^ 31) (hd : drS s = t) (hx : x = nI n) (h0 : 0 < n) (hn : n < 2 ^ 31) (h : Q (some (.int (nI (t / 65536 % n)))) (zu M 0 10 (nI t))) : zCon fX10_draw [.ref 0, .int x] M Q := by
  rw [← hd] at h
  exact k_X10_draw hs' hs hx h0 hn h
theorem k_drawM {Q : Option Value → zM → Prop} {M : zM} {x : Int32} {s t n : Nat} (hs' : M 47 12 = nI s) (hs : s < 2 ^ 31) (hd : drS s = t) (hx : x = nI n) (h0 : 0 < n) (hn : n < 2 ^ 31) (h : Q (some (.int (nI (t / 65536 % n)))) (zu M 47 12 (nI t))) : zCon fX11_draw [.ref 47, .int x] M Q := by
  rw [← hd] at h
  exact k_X11_draw hs' hs hx h0 hn h
