/-! copyRow; origins -/
theorem k_copyRow_71 {Q : Option Value → zM → Prop} {M : zM} {x : Int32} {n : Nat} (hx : x = nI n) (hn : n ≤ 7) (h : Q none (zset M 70 (pt88 (M 70) (M 71) 0 n))) : zCon fX11_copyRow [.ref 71, .ref 70, .int x] M Q := by
  have L : ∀ i, i ≤ n → ∀ y, y = nI i → zEv fX11_copyRow Q 2 [(0, .ref 71), (1, .ref 70), (2, .int x), (3, .int y)] [] (zset M 70 (pt88 (M 70) (M 71) 0 i)) := by
    refine zloop n ?_ ?_
    · intro y hy
      exact zev_go zkX11_copyRow [2] 60 (iGe hy hx (by omega) (by omega) (fun _ => h) (fun q => absurd q (by omega)))
    · intro i hi ih y hy
      refine zev_go zkX11_copyRow [2] 60 (iGe hy hx (by omega) (by omega) (fun q => absurd q (by omega)) (fun _ => ?_))
      refine zix i hy (show i < 7 by omega) (zix i hy (show i < 7 by omega) ?_)
      have e : zu (zset M 70 (pt88 (M 70) (M 71) 0 i)) 70 i (M 71 i) = zset M 70 (pt88 (M 70) (M 71) 0 (i + 1)) := by
        rw [← pt88_s (M 70) (M 71) 0 i, Nat.zero_add]
        unfold zu; rw [zset_s, zset_u]
      have e2 : (zset M 70 (pt88 (M 70) (M 71) 0 i)) 71 i = M 71 i := rfl
      rw [e2, e]
      exact ih _ (by rw [hy, nI_1])
  have L0 := L 0 (by omega) 0 rfl
  rw [pt88_0, zset_id] at L0
  exact zc_of zkX11_copyRow [2] 60 (Nat.le_of_ble_eq_true rfl) L0
theorem k_copyRow_58 {Q : Option Value → zM → Prop} {M : zM} {x : Int32} {n : Nat} (hx : x = nI n) (hn : n ≤ 7) (h : Q none (zset M 48 (pt88 (M 48) (M 58) 0 n))) : zCon fX11_copyRow [.ref 58, .ref 48, .int x] M Q := by
  have L : ∀ i, i ≤ n → ∀ y, y = nI i → zEv fX11_copyRow Q 2 [(0, .ref 58), (1, .ref 48), (2, .int x), (3, .int y)] [] (zset M 48 (pt88 (M 48) (M 58) 0 i)) := by
    refine zloop n ?_ ?_
    · intro y hy
      exact zev_go zkX11_copyRow [2] 60 (iGe hy hx (by omega) (by omega) (fun _ => h) (fun q => absurd q (by omega)))
    · intro i hi ih y hy
      refine zev_go zkX11_copyRow [2] 60 (iGe hy hx (by omega) (by omega) (fun q => absurd q (by omega)) (fun _ => ?_))
      refine zix i hy (show i < 7 by omega) (zix i hy (show i < 7 by omega) ?_)
      have e : zu (zset M 48 (pt88 (M 48) (M 58) 0 i)) 48 i (M 58 i) = zset M 48 (pt88 (M 48) (M 58) 0 (i + 1)) := by
        rw [← pt88_s (M 48) (M 58) 0 i, Nat.zero_add]
        unfold zu; rw [zset_s, zset_u]
      have e2 : (zset M 48 (pt88 (M 48) (M 58) 0 i)) 58 i = M 58 i := rfl
      rw [e2, e]
      exact ih _ (by rw [hy, nI_1])
  have L0 := L 0 (by omega) 0 rfl
  rw [pt88_0, zset_id] at L0
  exact zc_of zkX11_copyRow [2] 60 (Nat.le_of_ble_eq_true rfl) L0
theorem k_copyRow_59 {Q : Option Value → zM → Prop} {M : zM} {x : Int32} {n : Nat} (hx : x = nI n) (hn : n ≤ 7) (h : Q none (zset M 49 (pt88 (M 49) (M 59) 0 n))) : zCon fX11_copyRow [.ref 59, .ref 49, .int x] M Q := by
  have L : ∀ i, i ≤ n → ∀ y, y = nI i → zEv fX11_copyRow Q 2 [(0, .ref 59), (1, .ref 49), (2, .int x), (3, .int y)] [] (zset M 49 (pt88 (M 49) (M 59) 0 i)) := by
    refine zloop n ?_ ?_
    · intro y hy
      exact zev_go zkX11_copyRow [2] 60 (iGe hy hx (by omega) (by omega) (fun _ => h) (fun q => absurd q (by omega)))
    · intro i hi ih y hy
      refine zev_go zkX11_copyRow [2] 60 (iGe hy hx (by omega) (by omega) (fun q => absurd q (by omega)) (fun _ => ?_))
      refine zix i hy (show i < 7 by omega) (zix i hy (show i < 7 by omega) ?_)
      have e : zu (zset M 49 (pt88 (M 49) (M 59) 0 i)) 49 i (M 59 i) = zset M 49 (pt88 (M 49) (M 59) 0 (i + 1)) := by
        rw [← pt88_s (M 49) (M 59) 0 i, Nat.zero_add]
        unfold zu; rw [zset_s, zset_u]
      have e2 : (zset M 49 (pt88 (M 49) (M 59) 0 i)) 59 i = M 59 i := rfl
      rw [e2, e]
      exact ih _ (by rw [hy, nI_1])
  have L0 := L 0 (by omega) 0 rfl
  rw [pt88_0, zset_id] at L0
  exact zc_of zkX11_copyRow [2] 60 (Nat.le_of_ble_eq_true rfl) L0
theorem k_copyRow_60 {Q : Option Value → zM → Prop} {M : zM} {x : Int32} {n : Nat} (hx : x = nI n) (hn : n ≤ 10) (h : Q none (zset M 50 (pt88 (M 50) (M 60) 0 n))) : zCon fX11_copyRow [.ref 60, .ref 50, .int x] M Q := by
  have L : ∀ i, i ≤ n → ∀ y, y = nI i → zEv fX11_copyRow Q 2 [(0, .ref 60), (1, .ref 50), (2, .int x), (3, .int y)] [] (zset M 50 (pt88 (M 50) (M 60) 0 i)) := by
    refine zloop n ?_ ?_
    · intro y hy
      exact zev_go zkX11_copyRow [2] 60 (iGe hy hx (by omega) (by omega) (fun _ => h) (fun q => absurd q (by omega)))
    · intro i hi ih y hy
      refine zev_go zkX11_copyRow [2] 60 (iGe hy hx (by omega) (by omega) (fun q => absurd q (by omega)) (fun _ => ?_))
      refine zix i hy (show i < 10 by omega) (zix i hy (show i < 10 by omega) ?_)
      have e : zu (zset M 50 (pt88 (M 50) (M 60) 0 i)) 50 i (M 60 i) = zset M 50 (pt88 (M 50) (M 60) 0 (i + 1)) := by
        rw [← pt88_s (M 50) (M 60) 0 i, Nat.zero_add]
        unfold zu; rw [zset_s, zset_u]
      have e2 : (zset M 50 (pt88 (M 50) (M 60) 0 i)) 60 i = M 60 i := rfl
      rw [e2, e]
      exact ih _ (by rw [hy, nI_1])
  have L0 := L 0 (by omega) 0 rfl
  rw [pt88_0, zset_id] at L0
  exact zc_of zkX11_copyRow [2] 60 (Nat.le_of_ble_eq_true rfl) L0
theorem k_copyRow_61 {Q : Option Value → zM → Prop} {M : zM} {x : Int32} {n : Nat} (hx : x = nI n) (hn : n ≤ 10) (h : Q none (zset M 51 (pt88 (M 51) (M 61) 0 n))) : zCon fX11_copyRow [.ref 61, .ref 51, .int x] M Q := by
  have L : ∀ i, i ≤ n → ∀ y, y = nI i → zEv fX11_copyRow Q 2 [(0, .ref 61), (1, .ref 51), (2, .int x), (3, .int y)] [] (zset M 51 (pt88 (M 51) (M 61) 0 i)) := by
    refine zloop n ?_ ?_
    · intro y hy
      exact zev_go zkX11_copyRow [2] 60 (iGe hy hx (by omega) (by omega) (fun _ => h) (fun q => absurd q (by omega)))
    · intro i hi ih y hy
      refine zev_go zkX11_copyRow [2] 60 (iGe hy hx (by omega) (by omega) (fun q => absurd q (by omega)) (fun _ => ?_))
      refine zix i hy (show i < 10 by omega) (zix i hy (show i < 10 by omega) ?_)
      have e : zu (zset M 51 (pt88 (M 51) (M 61) 0 i)) 51 i (M 61 i) = zset M 51 (pt88 (M 51) (M 61) 0 (i + 1)) := by
        rw [← pt88_s (M 51) (M 61) 0 i, Nat.zero_add]
        unfold zu; rw [zset_s, zset_u]
      have e2 : (zset M 51 (pt88 (M 51) (M 61) 0 i)) 61 i = M 61 i := rfl
      rw [e2, e]
      exact ih _ (by rw [hy, nI_1])
  have L0 := L 0 (by omega) 0 rfl
  rw [pt88_0, zset_id] at L0
  exact zc_of zkX11_copyRow [2] 60 (Nat.le_of_ble_eq_true rfl) L0
theorem k_copyRow_62 {Q : Option Value → zM → Prop} {M : zM} {x : Int32} {n : Nat} (hx : x = nI n) (hn : n ≤ 10) (h : Q none (zset M 52 (pt88 (M 52) (M 62) 0 n))) : zCon fX11_copyRow [.ref 62, .ref 52, .int x] M Q := by
  have L : ∀ i, i ≤ n → ∀ y, y = nI i → zEv fX11_copyRow Q 2 [(0, .ref 62), (1, .ref 52), (2, .int x), (3, .int y)] [] (zset M 52 (pt88 (M 52) (M 62) 0 i)) := by
    refine zloop n ?_ ?_
    · intro y hy
      exact zev_go zkX11_copyRow [2] 60 (iGe hy hx (by omega) (by omega) (fun _ => h) (fun q => absurd q (by omega)))
    · intro i hi ih y hy
      refine zev_go zkX11_copyRow [2] 60 (iGe hy hx (by omega) (by omega) (fun q => absurd q (by omega)) (fun _ => ?_))
      refine zix i hy (show i < 10 by omega) (zix i hy (show i < 10 by omega) ?_)
      have e : zu (zset M 52 (pt88 (M 52) (M 62) 0 i)) 52 i (M 62 i) = zset M 52 (pt88 (M 52) (M 62) 0 (i + 1)) := by
        rw [← pt88_s (M 52) (M 62) 0 i, Nat.zero_add]
        unfold zu; rw [zset_s, zset_u]
      have e2 : (zset M 52 (pt88 (M 52) (M 62) 0 i)) 62 i = M 62 i := rfl
      rw [e2, e]
      exact ih _ (by rw [hy, nI_1])
  have L0 := L 0 (by omega) 0 rfl
  rw [pt88_0, zset_id] at L0
  exact zc_of zkX11_copyRow [2] 60 (Nat.le_of_ble_eq_true rfl) L0
theorem k_copyRow_63 {Q : Option Value → zM → Prop} {M : zM} {x : Int32} {n : Nat} (hx : x = nI n) (hn : n ≤ 10) (h : Q none (zset M 53 (pt88 (M 53) (M 63) 0 n))) : zCon fX11_copyRow [.ref 63, .ref 53, .int x] M Q := by
  have L : ∀ i, i ≤ n → ∀ y, y = nI i → zEv fX11_copyRow Q 2 [(0, .ref 63), (1, .ref 53), (2, .int x), (3, .int y)] [] (zset M 53 (pt88 (M 53) (M 63) 0 i)) := by
    refine zloop n ?_ ?_
    · intro y hy
      exact zev_go zkX11_copyRow [2] 60 (iGe hy hx (by omega) (by omega) (fun _ => h) (fun q => absurd q (by omega)))
    · intro i hi ih y hy
      refine zev_go zkX11_copyRow [2] 60 (iGe hy hx (by omega) (by omega) (fun q => absurd q (by omega)) (fun _ => ?_))
      refine zix i hy (show i < 10 by omega) (zix i hy (show i < 10 by omega) ?_)
      have e : zu (zset M 53 (pt88 (M 53) (M 63) 0 i)) 53 i (M 63 i) = zset M 53 (pt88 (M 53) (M 63) 0 (i + 1)) := by
        rw [← pt88_s (M 53) (M 63) 0 i, Nat.zero_add]
        unfold zu; rw [zset_s, zset_u]
      have e2 : (zset M 53 (pt88 (M 53) (M 63) 0 i)) 63 i = M 63 i := rfl
      rw [e2, e]
      exact ih _ (by rw [hy, nI_1])
  have L0 := L 0 (by omega) 0 rfl
  rw [pt88_0, zset_id] at L0
  exact zc_of zkX11_copyRow [2] 60 (Nat.le_of_ble_eq_true rfl) L0
theorem k_copyRow_64 {Q : Option Value → zM → Prop} {M : zM} {x : Int32} {n : Nat} (hx : x = nI n) (hn : n ≤ 10) (h : Q none (zset M 54 (pt88 (M 54) (M 64) 0 n))) : zCon fX11_copyRow [.ref 64, .ref 54, .int x] M Q := by
  have L : ∀ i, i ≤ n → ∀ y, y = nI i → zEv fX11_copyRow Q 2 [(0, .ref 64), (1, .ref 54), (2, .int x), (3, .int y)] [] (zset M 54 (pt88 (M 54) (M 64) 0 i)) := by
    refine zloop n ?_ ?_
    · intro y hy
      exact zev_go zkX11_copyRow [2] 60 (iGe hy hx (by omega) (by omega) (fun _ => h) (fun q => absurd q (by omega)))
    · intro i hi ih y hy
      refine zev_go zkX11_copyRow [2] 60 (iGe hy hx (by omega) (by omega) (fun q => absurd q (by omega)) (fun _ => ?_))
      refine zix i hy (show i < 10 by omega) (zix i hy (show i < 10 by omega) ?_)
      have e : zu (zset M 54 (pt88 (M 54) (M 64) 0 i)) 54 i (M 64 i) = zset M 54 (pt88 (M 54) (M 64) 0 (i + 1)) := by
        rw [← pt88_s (M 54) (M 64) 0 i, Nat.zero_add]
        unfold zu; rw [zset_s, zset_u]
      have e2 : (zset M 54 (pt88 (M 54) (M 64) 0 i)) 64 i = M 64 i := rfl
      rw [e2, e]
      exact ih _ (by rw [hy, nI_1])
  have L0 := L 0 (by omega) 0 rfl
  rw [pt88_0, zset_id] at L0
  exact zc_of zkX11_copyRow [2] 60 (Nat.le_of_ble_eq_true rfl) L0
theorem k_copyRow_65 {Q : Option Value → zM → Prop} {M : zM} {x : Int32} {n : Nat} (hx : x = nI n) (hn : n ≤ 10) (h : Q none (zset M 55 (pt88 (M 55) (M 65) 0 n))) : zCon fX11_copyRow [.ref 65, .ref 55, .int x] M Q := by
  have L : ∀ i, i ≤ n → ∀ y, y = nI i → zEv fX11_copyRow Q 2 [(0, .ref 65), (1, .ref 55), (2, .int x), (3, .int y)] [] (zset M 55 (pt88 (M 55) (M 65) 0 i)) := by
    refine zloop n ?_ ?_
    · intro y hy
      exact zev_go zkX11_copyRow [2] 60 (iGe hy hx (by omega) (by omega) (fun _ => h) (fun q => absurd q (by omega)))
    · intro i hi ih y hy
      refine zev_go zkX11_copyRow [2] 60 (iGe hy hx (by omega) (by omega) (fun q => absurd q (by omega)) (fun _ => ?_))
      refine zix i hy (show i < 10 by omega) (zix i hy (show i < 10 by omega) ?_)
      have e : zu (zset M 55 (pt88 (M 55) (M 65) 0 i)) 55 i (M 65 i) = zset M 55 (pt88 (M 55) (M 65) 0 (i + 1)) := by
        rw [← pt88_s (M 55) (M 65) 0 i, Nat.zero_add]
        unfold zu; rw [zset_s, zset_u]
      have e2 : (zset M 55 (pt88 (M 55) (M 65) 0 i)) 65 i = M 65 i := rfl
      rw [e2, e]
      exact ih _ (by rw [hy, nI_1])
  have L0 := L 0 (by omega) 0 rfl
  rw [pt88_0, zset_id] at L0
  exact zc_of zkX11_copyRow [2] 60 (Nat.le_of_ble_eq_true rfl) L0
theorem k_copyRow_52 {Q : Option Value → zM → Prop} {M : zM} {x : Int32} {n : Nat} (hx : x = nI n) (hn : n ≤ 10) (h : Q none (zset M 56 (pt88 (M 56) (M 52) 0 n))) : zCon fX11_copyRow [.ref 52, .ref 56, .int x] M Q := by
  have L : ∀ i, i ≤ n → ∀ y, y = nI i → zEv fX11_copyRow Q 2 [(0, .ref 52), (1, .ref 56), (2, .int x), (3, .int y)] [] (zset M 56 (pt88 (M 56) (M 52) 0 i)) := by
    refine zloop n ?_ ?_
    · intro y hy
      exact zev_go zkX11_copyRow [2] 60 (iGe hy hx (by omega) (by omega) (fun _ => h) (fun q => absurd q (by omega)))
    · intro i hi ih y hy
      refine zev_go zkX11_copyRow [2] 60 (iGe hy hx (by omega) (by omega) (fun q => absurd q (by omega)) (fun _ => ?_))
      refine zix i hy (show i < 10 by omega) (zix i hy (show i < 88 by omega) ?_)
      have e : zu (zset M 56 (pt88 (M 56) (M 52) 0 i)) 56 i (M 52 i) = zset M 56 (pt88 (M 56) (M 52) 0 (i + 1)) := by
        rw [← pt88_s (M 56) (M 52) 0 i, Nat.zero_add]
        unfold zu; rw [zset_s, zset_u]
      have e2 : (zset M 56 (pt88 (M 56) (M 52) 0 i)) 52 i = M 52 i := rfl
      rw [e2, e]
      exact ih _ (by rw [hy, nI_1])
  have L0 := L 0 (by omega) 0 rfl
  rw [pt88_0, zset_id] at L0
  exact zc_of zkX11_copyRow [2] 60 (Nat.le_of_ble_eq_true rfl) L0
def wI (T : zTn) (a : zAf) (s i : Nat) (b : Bool) : Nat := bset (fun w => s.testBit (ovr T a i b w)) (tN T)
theorem wI_lt {T : zTn} {a : zAf} {s i : Nat} {b : Bool} (hv : zTv T) : wI T a s i b < 256 := Nat.lt_of_lt_of_le (bset_lt _ _) (Nat.pow_le_pow_right (by omega) (zTv_N hv))
def orC (T : zTn) (a : zAf) (s : Nat → Nat) : Nat → Nat → Nat
  | 0 => fun _ => 0
  | i + 1 => if (aS a).testBit i = true then orC T a s i else fun x => if x = tB T i then orC T a s i x ||| wI T a (s (tA T i)) i true else if x = tA T i then orC T a s i x ||| wI T a (s (tB T i)) i false else orC T a s i x
def orS (T : zTn) (a : zAf) (b v : Nat) : Nat → Nat → Nat
  | 0 => fun x => if x = b then 2 ^ v else 0
  | n + 1 => orC T a (orS T a b v n) (tC T)
theorem orC_s (T : zTn) (a : zAf) (s : Nat → Nat) (i : Nat) : orC T a s (i + 1) = if (aS a).testBit i = true then orC T a s i else fun x => if x = tB T i then orC T a s i x ||| wI T a (s (tA T i)) i true else if x = tA T i then orC T a s i x ||| wI T a (s (tB T i)) i false else orC T a s i x := rfl
theorem orC_bd {T : zTn} {a : zAf} {s : Nat → Nat} (hv : zTv T) : ∀ i, i ≤ tC T → ∀ x, orC T a s i x < 256 ∧ (tS T ≤ x → orC T a s i x = 0) := by
  intro i
  induction i with
  | zero => intro _ x; exact ⟨by show 0 < 256; omega, fun _ => rfl⟩
  | succ i ih =>
    intro hi x
    have h := ih (by omega) x
    have hh := zTv_i hv (i := i) (by omega)
    rw [orC_s]
    split
    · exact h
    · dsimp only
      split
      · next q => exact ⟨Nat.or_lt_two_pow (n := 8) h.1 (wI_lt hv), fun r => absurd r (by omega)⟩
      · split
        · next q => exact ⟨Nat.or_lt_two_pow (n := 8) h.1 (wI_lt hv), fun r => absurd r (by omega)⟩
        · exact h
theorem orS_bd {T : zTn} {a : zAf} {b v : Nat} (hv : zTv T) (hb : b < tS T) (hw : v < tN T) : ∀ n x, orS T a b v n x < 256 ∧ (tS T ≤ x → orS T a b v n x = 0) := by
  intro n x
  cases n with
  | zero =>
    unfold orS
    have hN := zTv_N hv
    split
    · have : (2 : Nat) ^ v < 2 ^ 8 := Nat.pow_lt_pow_right (by omega) (by omega)
      exact ⟨by omega, fun r => absurd r (by omega)⟩
    · exact ⟨by omega, fun _ => rfl⟩
  | succ n => exact orC_bd hv _ (Nat.le_refl _) x
theorem k_X4_wordsInto {Q : Option Value → zM → Prop} {M : zM} {T : zTn} {a : zAf} {x z : Int32} {i s : Nat} {b : Bool} (hv : zTv T) (hT : zTc T M) (ha : cA T a (M 22)) (hva : vA T a) (hx : x = nI i) (hi : i < tC T) (hz : z = nI s) (hs : s < 256) (h : Q (some (.int (nI (wI T a s i b)))) M) : zCon fX4_wordsInto [.ref 31, .int x, .int (zbl b), .int z] M Q := by
  have hN := zTv_N hv
  have L : ∀ w, w ≤ tN T → ∀ u y, u = nI w → y = nI (bset (fun w => s.testBit (ovr T a i b w)) w) → zEv fX4_wordsInto Q 6 [(0, .ref 31), (1, .int x), (2, .int (zbl b)), (3, .int z), (4, .int y), (5, .int u)] [] M := by
    refine zloop (tN T) ?_ ?_
    · intro u y hu hy
      refine zev_go zkX4_wordsInto [6] 60 (iGe hu hT.1 (by omega) (by omega) (fun _ => ?_) (fun q => absurd q (by omega)))
      have h' := h
      unfold wI at h'
      rw [← hy] at h'
      exact h'
    · intro w hw ih u y hu hy
      have l1 := ovr_lt (a := a) (b := b) hv hi hw
      refine zev_go zkX4_wordsInto [6] 60 (iGe hu hT.1 (by omega) (by omega) (fun q => absurd q (by omega)) (fun _ => ?_))
      refine k_X2_wordOver hv hT ha hva hx hi hu hw ?_
      refine a_has hz rfl (by omega) (by omega) (fun q => ?_) (fun q => ?_)
      · refine ih _ _ (by rw [hu, nI_1]) ?_
        rw [a_set hy hu (by omega)]
        show _ = nI (bif s.testBit (ovr T a i b w) then _ else _)
        rw [q]; rfl
      · refine ih _ _ (by rw [hu, nI_1]) ?_
        show _ = nI (bif s.testBit (ovr T a i b w) then _ else _)
        rw [q]; exact hy
  exact zc_of zkX4_wordsInto [6] 60 (Nat.le_of_ble_eq_true rfl) (L 0 (by omega) 0 0 rfl rfl)
theorem k_X4_findOrigins {Q : Option Value → zM → Prop} {M : zM} {T : zTn} {a : zAf} {x y z : Int32} {b v n : Nat} (hv : zTv T) (hT : zTc T M) (ha : cA T a (M 22)) (hva : vA T a) (hx : x = nI b) (hb : b < tS T) (hy : y = nI v) (hw : v < tN T) (hz : z = nI n) (hn : n < 10) (h : ∀ M', (∀ k, k ≠ 33 → k ≠ 34 → M' k = M k) → (∀ c, c < 7 → M' 33 c = nI (orS T a b v n c)) → Q none M') : zCon fX4_findOrigins [.ref 31, .int x, .int y, .int z] M Q := by
  have hN := zTv_N hv
  have hS := zTv_S hv
  have hC := zTv_C hv
  have hsh := vA_S hv hva
  have L : ∀ m, m ≤ n → ∀ u M1, u = nI m → (∀ k, k ≠ 33 → k ≠ 34 → M1 k = M k) → (∀ c, c < 7 → M1 33 c = nI (orS T a b v m c)) → zEv fX4_findOrigins Q 20 [(0, .ref 31), (1, .int x), (2, .int y), (3, .int z), (4, .int u)] [] M1 := by
    refine zloop n ?_ ?_
    · intro u M1 hu hf hg
      exact zev_go zkX4_findOrigins [20] 60 (iGe hu hz (by omega) (by omega) (fun _ => h M1 hf hg) (fun q => absurd q (by omega)))
    · intro m hm ih u M1 hu hf hg
      refine zev_go zkX4_findOrigins [37] 60 (iGe hu hz (by omega) (by omega) (fun q => absurd q (by omega)) (fun _ => k_fill_34 ?_))
      have I : ∀ i, i ≤ tC T → ∀ t g, t = nI i → (∀ c, c < 7 → g c = nI (orC T a (orS T a b v m) i c)) → zEv fX4_findOrigins Q 37 [(0, .ref 31), (1, .int x), (2, .int y), (3, .int z), (4, .int u), (5, .int t)] [] (zset M1 34 g) := by
        refine zloop (tC T) ?_ ?_
        · intro t g ht hg2
          have e13 : (zset M1 34 g) 1 3 = nI (tC T) := by rw [zset_n _ _ (by decide), hf 1 (by omega) (by omega)]; exact hT.2.2.1
          refine zev_go zkX4_findOrigins [20] 60 (iGe ht e13 (by omega) (by omega) (fun _ => ⟨0, 0, 7, rfl, rfl, rfl, by decide, by decide, ?_⟩) (fun q => absurd q (by omega)))
          refine zev_pick [0, 1, 2, 3, 4] (ih _ _ (by rw [hu, nI_1]) (fun k h1 h2 => by rw [zset_n _ _ h1, zset_n _ _ h2]; exact hf k h1 h2) (fun c hc => ?_))
          rw [zset_s, pk_cpy_in (by omega) (by omega), zset_s]
          show g (0 + (c - 0)) = nI (orC T a (orS T a b v m) (tC T) c)
          rw [show 0 + (c - 0) = c by omega]
          exact hg2 c hc
        · intro i hi ihI t g ht hg2
          obtain ⟨i1, i2, i3, i4, i5, i6⟩ := zTv_i hv hi
          have oA := (orS_bd (a := a) hv hb hw m (tA T i)).1
          have oB := (orS_bd (a := a) hv hb hw m (tB T i)).1
          have fr : ∀ k, k ≠ 33 → k ≠ 34 → (zset M1 34 g) k = M k := fun k h1 h2 => by rw [zset_n _ _ h2]; exact hf k h1 h2
          have e13 : (zset M1 34 g) 1 3 = nI (tC T) := by rw [fr 1 (by omega) (by omega)]; exact hT.2.2.1
          have eA : (zset M1 34 g) 4 i = nI (tA T i) := by rw [fr 4 (by omega) (by omega)]; exact hT.2.2.2.2.2.2.1 i hi
          have eB : (zset M1 34 g) 5 i = nI (tB T i) := by rw [fr 5 (by omega) (by omega)]; exact hT.2.2.2.2.2.2.2.1 i hi
          refine zev_go zkX4_findOrigins [37] 90 (iGe ht e13 (by omega) (by omega) (fun q => absurd q (by omega)) (fun _ => ?_))
          refine k_X0_isShut ht (by omega) (s := aS a) (by rw [fr 22 (by omega) (by omega)]; exact ha.2.2.1) hsh (fun q => cT ?_) (fun q => cF ?_)
          · refine ihI _ g (by rw [ht, nI_1]) (fun c hc => ?_)
            rw [orC_s, if_pos q]; exact hg2 c hc
          · refine zix i ht (show i < 10 by omega) (zix (tA T i) eA (show tA T i < 7 by omega) (zix i ht (show i < 10 by omega) (zix (tB T i) eB (show tB T i < 7 by omega) ?_)))
            have e33B : (zset M1 34 g) 33 (tB T i) = nI (orS T a b v m (tB T i)) := hg _ (by omega)
            refine k_X4_wordsInto (b := false) (T := T) (a := a) hv (zTc_fr (fun k h1 h2 => fr k (by omega) (by omega)) hT) (by rw [fr 22 (by omega) (by omega)]; exact ha) hva ht hi e33B oB ?_
            have eg1 : (zset M1 34 g) 34 (tA T i) ||| nI (wI T a (orS T a b v m (tB T i)) i false) = nI (orC T a (orS T a b v m) i (tA T i) ||| wI T a (orS T a b v m (tB T i)) i false) := a_or (by rw [zset_s]; exact hg2 _ (by omega)) rfl
            refine zix (tA T i) eA (show tA T i < 7 by omega) ?_
            rw [eg1]
            have u1 : zu (zset M1 34 g) 34 (tA T i) (nI (orC T a (orS T a b v m) i (tA T i) ||| wI T a (orS T a b v m (tB T i)) i false)) = zset M1 34 (upd g (tA T i) (nI (orC T a (orS T a b v m) i (tA T i) ||| wI T a (orS T a b v m (tB T i)) i false))) := by unfold zu; rw [zset_s, zset_u]
            rw [u1]
            have fr2 : ∀ g', ∀ k, k ≠ 33 → k ≠ 34 → (zset M1 34 g') k = M k := fun g' k h1 h2 => by rw [zset_n _ _ h2]; exact hf k h1 h2
            have eA2 : ∀ g', (zset M1 34 g') 4 i = nI (tA T i) := fun g' => by rw [fr2 g' 4 (by omega) (by omega)]; exact hT.2.2.2.2.2.2.1 i hi
            have eB2 : ∀ g', (zset M1 34 g') 5 i = nI (tB T i) := fun g' => by rw [fr2 g' 5 (by omega) (by omega)]; exact hT.2.2.2.2.2.2.2.1 i hi
            refine zix i ht (show i < 10 by omega) (zix (tB T i) (eB2 _) (show tB T i < 7 by omega) (zix i ht (show i < 10 by omega) (zix (tA T i) (eA2 _) (show tA T i < 7 by omega) ?_)))
            refine k_X4_wordsInto (b := true) (T := T) (a := a) hv (zTc_fr (fun k h1 h2 => fr2 _ k (by omega) (by omega)) hT) (by rw [fr2 _ 22 (by omega) (by omega)]; exact ha) hva ht hi (s := orS T a b v m (tA T i)) (hg _ (by omega)) oA ?_
            refine zix (tB T i) (eB2 _) (show tB T i < 7 by omega) ?_
            have eg2 : ∀ y0, (zset M1 34 (upd g (tA T i) y0)) 34 (tB T i) ||| nI (wI T a (orS T a b v m (tA T i)) i true) = nI (orC T a (orS T a b v m) i (tB T i) ||| wI T a (orS T a b v m (tA T i)) i true) := fun y0 => a_or (by rw [zset_s, pk_un (fun q => i3 q.symm)]; exact hg2 _ (by omega)) rfl
            rw [eg2]
            have u2 : ∀ y0 y1, zu (zset M1 34 (upd g (tA T i) y0)) 34 (tB T i) y1 = zset M1 34 (upd (upd g (tA T i) y0) (tB T i) y1) := fun y0 y1 => by unfold zu; rw [zset_s, zset_u]
            rw [u2]
            refine ihI _ _ (by rw [ht, nI_1]) (fun c hc => ?_)
            rw [orC_s, if_neg (by rw [q]; decide)]
            by_cases d1 : c = tB T i
            · rw [if_pos d1, d1, pk_us]
            · rw [if_neg d1, pk_un d1]
              by_cases d2 : c = tA T i
              · rw [if_pos d2, d2, pk_us]
              · rw [if_neg d2, pk_un d2]; exact hg2 c hc
      refine I 0 (by omega) 0 _ rfl (fun c hc => ?_)
      unfold zfill; rw [if_pos hc]; rfl
  refine zc_of zkX4_findOrigins [20] 60 (Nat.le_of_ble_eq_true rfl) (k_fill_33 (zix b hx (show b < 7 by omega) ?_))
  rw [a_shl1 hy (by omega)]
  refine L 0 (by omega) 0 _ rfl (fun k h1 h2 => by rw [zu_n _ _ _ h1, zset_n _ _ h1]) (fun c hc => ?_)
  unfold orS
  by_cases d : c = b
  · rw [if_pos d, d, zu_at]
  · rw [if_neg d, zu_ne _ _ d, zset_s]; unfold zfill; rw [if_pos hc]; rfl
