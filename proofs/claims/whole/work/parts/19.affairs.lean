/-! Affairs, the small ones: row is the cell 22 -/
theorem k_X0_pence {Q : Option Value → zM → Prop} {M : zM} (h : Q (some (.int (M 22 0))) M) : zCon fX0_pence [.ref 21] M Q := zc_of zkX0_pence [] 60 (Nat.le_of_ble_eq_true rfl) (zix 0 rfl (by decide) h)
theorem k_X0_husbands {Q : Option Value → zM → Prop} {M : zM} (h : Q (some (.int (M 22 1))) M) : zCon fX0_husbands [.ref 21] M Q := zc_of zkX0_husbands [] 60 (Nat.le_of_ble_eq_true rfl) (zix 1 rfl (by decide) h)
theorem k_X0_shutSet {Q : Option Value → zM → Prop} {M : zM} (h : Q (some (.int (M 22 2))) M) : zCon fX0_shutSet [.ref 21] M Q := zc_of zkX0_shutSet [] 60 (Nat.le_of_ble_eq_true rfl) (zix 2 rfl (by decide) h)
theorem k_X0_logCount {Q : Option Value → zM → Prop} {M : zM} (h : Q (some (.int (M 22 3))) M) : zCon fX0_logCount [.ref 21] M Q := zc_of zkX0_logCount [] 60 (Nat.le_of_ble_eq_true rfl) (zix 3 rfl (by decide) h)
theorem k_X0_heardBy {Q : Option Value → zM → Prop} {M : zM} {x : Int32} {a : Nat} (hx : x = nI a) (ha : a < 7) (h : Q (some (.int (M 22 (4 + a)))) M) : zCon fX0_heardBy [.ref 21, .int x] M Q := zc_of zkX0_heardBy [] 60 (Nat.le_of_ble_eq_true rfl) (zix (4 + a) (a_add rfl hx) (show 4 + a < 108 by omega) h)
theorem k_X0_feudsOf {Q : Option Value → zM → Prop} {M : zM} {x : Int32} {a : Nat} (hx : x = nI a) (ha : a < 7) (h : Q (some (.int (M 22 (11 + a)))) M) : zCon fX0_feudsOf [.ref 21, .int x] M Q := zc_of zkX0_feudsOf [] 60 (Nat.le_of_ble_eq_true rfl) (zix (11 + a) (a_add rfl hx) (show 11 + a < 108 by omega) h)
theorem k_X0_sortOf {Q : Option Value → zM → Prop} {M : zM} {x : Int32} {a : Nat} (hx : x = nI a) (ha : a < 10) (h : Q (some (.int (M 22 (18 + a)))) M) : zCon fX0_sortOf [.ref 21, .int x] M Q := zc_of zkX0_sortOf [] 60 (Nat.le_of_ble_eq_true rfl) (zix (18 + a) (a_add rfl hx) (show 18 + a < 108 by omega) h)
theorem k_X0_logEntry {Q : Option Value → zM → Prop} {M : zM} {x y : Int32} {i w : Nat} (hx : x = nI i) (hy : y = nI w) (hi : i < 20) (hw : w < 4) (h : Q (some (.int (M 22 (28 + i * 4 + w)))) M) : zCon fX0_logEntry [.ref 21, .int x, .int y] M Q := zc_of zkX0_logEntry [] 60 (Nat.le_of_ble_eq_true rfl) (zix (28 + i * 4 + w) (a_add (a_add rfl (a_mul hx rfl)) hy) (show 28 + i * 4 + w < 108 by omega) h)
theorem k_X0_isShut {Q : Option Value → zM → Prop} {M : zM} {x : Int32} {i s : Nat} (hx : x = nI i) (hi : i < 10) (hs : M 22 2 = nI s) (hs2 : s < 1024) (h1 : s.testBit i = true → Q (some (.int 1)) M) (h0 : s.testBit i = false → Q (some (.int 0)) M) : zCon fX0_isShut [.ref 21, .int x] M Q := by
  refine zc_of zkX0_isShut [] 60 (Nat.le_of_ble_eq_true rfl) (zix 2 rfl (by decide) ?_)
  exact a_has hs hx (by omega) (by omega) (fun q => ⟨Or.inr rfl, h1 q⟩) (fun q => ⟨Or.inl rfl, h0 q⟩)
theorem k_X0_inFeud {Q : Option Value → zM → Prop} {M : zM} {x y : Int32} {a b s : Nat} (hx : x = nI a) (hy : y = nI b) (ha : a < 7) (hb : b < 7) (hs : M 22 (11 + a) = nI s) (hs2 : s < 128) (h1 : s.testBit b = true → Q (some (.int 1)) M) (h0 : s.testBit b = false → Q (some (.int 0)) M) : zCon fX0_inFeud [.ref 21, .int x, .int y] M Q := by
  refine zc_of zkX0_inFeud [] 60 (Nat.le_of_ble_eq_true rfl) (zix (11 + a) (a_add rfl hx) (show 11 + a < 108 by omega) ?_)
  exact a_has hs hy (by omega) (by omega) (fun q => ⟨Or.inr rfl, h1 q⟩) (fun q => ⟨Or.inl rfl, h0 q⟩)
theorem k_X0_setShut {Q : Option Value → zM → Prop} {M : zM} {x : Int32} {i s : Nat} {b : Bool} (hx : x = nI i) (hi : i < 10) (hs : M 22 2 = nI s) (h : Q none (zu M 22 2 (nI (bif b then s ||| 2 ^ i else clr s i)))) : zCon fX0_setShut [.ref 21, .int x, .int (zbl b)] M Q := by
  cases b with
  | true =>
    refine zc_of zkX0_setShut [] 60 (Nat.le_of_ble_eq_true rfl) (bT (zix 2 rfl (by decide) (zix 2 rfl (by decide) ?_)))
    rw [a_set hs hx (by omega)]
    exact h
  | false =>
    refine zc_of zkX0_setShut [] 60 (Nat.le_of_ble_eq_true rfl) (bF (zix 2 rfl (by decide) (zix 2 rfl (by decide) ?_)))
    rw [a_clr hs hx (by omega)]
    exact h
theorem k_X0_setSort {Q : Option Value → zM → Prop} {M : zM} {x y : Int32} {i : Nat} (hx : x = nI i) (hi : i < 10) (h : Q none (zu M 22 (18 + i) y)) : zCon fX0_setSort [.ref 21, .int x, .int y] M Q := zc_of zkX0_setSort [] 60 (Nat.le_of_ble_eq_true rfl) (zix (18 + i) (a_add rfl hx) (show 18 + i < 108 by omega) h)
/-- feuds both ways -/
def fput (g : Nat → Int32) (o a b : Nat) (s : Int32) (t : Int32) : Nat → Int32 := upd (upd g (o + a) s) (o + b) t
theorem k_X0_setFeud {Q : Option Value → zM → Prop} {M : zM} {x y : Int32} {a c s t : Nat} {b : Bool} (hx : x = nI a) (hy : y = nI c) (ha : a < 7) (hc : c < 7) (hac : a ≠ c) (hs : M 22 (11 + a) = nI s) (ht : M 22 (11 + c) = nI t) (h : Q none (zset M 22 (fput (M 22) 11 a c (nI (bif b then s ||| 2 ^ c else clr s c)) (nI (bif b then t ||| 2 ^ a else clr t a))))) : zCon fX0_setFeud [.ref 21, .int x, .int y, .int (zbl b)] M Q := by
  have e2 : ∀ v, zu M 22 (11 + a) v 22 (11 + c) = nI t := fun v => by rw [zu_ne _ _ (by omega)]; exact ht
  have e3 : ∀ v w, zu (zu M 22 (11 + a) v) 22 (11 + c) w = zset M 22 (fput (M 22) 11 a c v w) := fun v w => by
    unfold zu fput; rw [zset_s, zset_u]
  cases b with
  | true =>
    refine zc_of zkX0_setFeud [] 60 (Nat.le_of_ble_eq_true rfl) (bT (zix (11 + a) (a_add rfl hx) (show 11 + a < 108 by omega) (zix (11 + a) (a_add rfl hx) (show 11 + a < 108 by omega) (zix (11 + c) (a_add rfl hy) (show 11 + c < 108 by omega) (zix (11 + c) (a_add rfl hy) (show 11 + c < 108 by omega) ?_)))))
    rw [a_set hs hy (by omega), a_set (e2 _) hx (by omega), e3]
    exact h
  | false =>
    refine zc_of zkX0_setFeud [] 60 (Nat.le_of_ble_eq_true rfl) (bF (zix (11 + a) (a_add rfl hx) (show 11 + a < 108 by omega) (zix (11 + a) (a_add rfl hx) (show 11 + a < 108 by omega) (zix (11 + c) (a_add rfl hy) (show 11 + c < 108 by omega) (zix (11 + c) (a_add rfl hy) (show 11 + c < 108 by omega) ?_)))))
    rw [a_clr hs hy (by omega), a_clr (e2 _) hx (by omega), e3]
    exact h
theorem k_X0_pay {Q : Option Value → zM → Prop} {M : zM} {x : Int32} {p q : Nat} (hx : x = nI p) (hq : M 22 0 = nI q) (hp : p < 2 ^ 30) (hq2 : q < 2 ^ 30) (h : Q none (zu M 22 0 (nI (min 999999 (q + p))))) : zCon fX0_pay [.ref 21, .int x] M Q := by
  refine zc_of zkX0_pay [] 60 (Nat.le_of_ble_eq_true rfl) (zix 0 rfl (by decide) (zix 0 rfl (by decide) ?_))
  rw [a_min (rfl : (999999 : Int32) = nI 999999) (a_add hq hx) (by decide) (by omega)]
  exact h
