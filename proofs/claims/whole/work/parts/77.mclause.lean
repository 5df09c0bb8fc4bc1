/-! the model's clauses -/
theorem k_into_58 {Q : Option Value → zM → Prop} {M : zM} {X : rX} {p : Nat} {x y z : Int32} {lo hi t : Nat} (hX : vX X) (hr : rM X p M) (hp : p ≤ X.1) (hz : z = nI t) (ht : t < 7) (hx : x = nI lo) (hy : y = nI hi - 1) (hlo : lo < 2 ^ 30) (hhi : hi < 2 ^ 30) (h1 : ∀ f w, rdN X lo hi p = .inl (f, w) → ∀ M' c, mF 15 18 58 58 M M' → c = nI f → M' 47 15 = nI w → Q (some (.int c)) M') (h2 : ∀ v q e, rdN X lo hi p = .inr (v, q, e) → ∀ M', mF 15 18 58 58 M M' → rM X e M' → M' 47 18 = nI q → M' 47 15 = M 47 15 → M' 58 = upd (M 58) t (nI v) → Q (some (.int 0)) M') : zCon fX11_into [.ref 47, .ref 58, .int z, .int x, .int y] M Q := by
  refine zc_of zkX11_into [] 60 (Nat.le_of_ble_eq_true rfl) (k_X11_takeNumber hX hr hp hx hy hlo hhi (fun f w e M1 c f1 ec e15 => zix t hz ht ?_) (fun v q e2 e M1 f1 hr1 e17 e18 e15 => zix t hz ht ?_))
  · exact h1 f w e _ _ (mF_a (by omega) (by omega) (by omega) (mF_w (by omega) (by omega) (fun j hj => by omega) f1)) ec (by rw [zu_n _ _ _ (by decide)]; exact e15)
  · refine h2 v q e2 e _ (mF_a (by omega) (by omega) (by omega) (mF_w (by omega) (by omega) (fun j hj => by omega) f1)) ⟨?_, ?_, ?_⟩ ?_ ?_ ?_
    · rw [zu_n _ _ _ (by decide)]; exact hr1.1
    · rw [zu_n _ _ _ (by decide)]; exact hr1.2.1
    · rw [zu_n _ _ _ (by decide)]; exact hr1.2.2
    · rw [zu_n _ _ _ (by decide)]; exact e18
    · rw [zu_n _ _ _ (by decide)]; exact e15
    · rw [zu_s, f1.1 58 (by decide) (by decide)]; exact congrArg (upd (M 58) t) e17
theorem k_into_59 {Q : Option Value → zM → Prop} {M : zM} {X : rX} {p : Nat} {x y z : Int32} {lo hi t : Nat} (hX : vX X) (hr : rM X p M) (hp : p ≤ X.1) (hz : z = nI t) (ht : t < 7) (hx : x = nI lo) (hy : y = nI hi - 1) (hlo : lo < 2 ^ 30) (hhi : hi < 2 ^ 30) (h1 : ∀ f w, rdN X lo hi p = .inl (f, w) → ∀ M' c, mF 15 18 59 59 M M' → c = nI f → M' 47 15 = nI w → Q (some (.int c)) M') (h2 : ∀ v q e, rdN X lo hi p = .inr (v, q, e) → ∀ M', mF 15 18 59 59 M M' → rM X e M' → M' 47 18 = nI q → M' 47 15 = M 47 15 → M' 59 = upd (M 59) t (nI v) → Q (some (.int 0)) M') : zCon fX11_into [.ref 47, .ref 59, .int z, .int x, .int y] M Q := by
  refine zc_of zkX11_into [] 60 (Nat.le_of_ble_eq_true rfl) (k_X11_takeNumber hX hr hp hx hy hlo hhi (fun f w e M1 c f1 ec e15 => zix t hz ht ?_) (fun v q e2 e M1 f1 hr1 e17 e18 e15 => zix t hz ht ?_))
  · exact h1 f w e _ _ (mF_a (by omega) (by omega) (by omega) (mF_w (by omega) (by omega) (fun j hj => by omega) f1)) ec (by rw [zu_n _ _ _ (by decide)]; exact e15)
  · refine h2 v q e2 e _ (mF_a (by omega) (by omega) (by omega) (mF_w (by omega) (by omega) (fun j hj => by omega) f1)) ⟨?_, ?_, ?_⟩ ?_ ?_ ?_
    · rw [zu_n _ _ _ (by decide)]; exact hr1.1
    · rw [zu_n _ _ _ (by decide)]; exact hr1.2.1
    · rw [zu_n _ _ _ (by decide)]; exact hr1.2.2
    · rw [zu_n _ _ _ (by decide)]; exact e18
    · rw [zu_n _ _ _ (by decide)]; exact e15
    · rw [zu_s, f1.1 59 (by decide) (by decide)]; exact congrArg (upd (M 59) t) e17
theorem k_into_60 {Q : Option Value → zM → Prop} {M : zM} {X : rX} {p : Nat} {x y z : Int32} {lo hi t : Nat} (hX : vX X) (hr : rM X p M) (hp : p ≤ X.1) (hz : z = nI t) (ht : t < 10) (hx : x = nI lo) (hy : y = nI hi - 1) (hlo : lo < 2 ^ 30) (hhi : hi < 2 ^ 30) (h1 : ∀ f w, rdN X lo hi p = .inl (f, w) → ∀ M' c, mF 15 18 60 60 M M' → c = nI f → M' 47 15 = nI w → Q (some (.int c)) M') (h2 : ∀ v q e, rdN X lo hi p = .inr (v, q, e) → ∀ M', mF 15 18 60 60 M M' → rM X e M' → M' 47 18 = nI q → M' 47 15 = M 47 15 → M' 60 = upd (M 60) t (nI v) → Q (some (.int 0)) M') : zCon fX11_into [.ref 47, .ref 60, .int z, .int x, .int y] M Q := by
  refine zc_of zkX11_into [] 60 (Nat.le_of_ble_eq_true rfl) (k_X11_takeNumber hX hr hp hx hy hlo hhi (fun f w e M1 c f1 ec e15 => zix t hz ht ?_) (fun v q e2 e M1 f1 hr1 e17 e18 e15 => zix t hz ht ?_))
  · exact h1 f w e _ _ (mF_a (by omega) (by omega) (by omega) (mF_w (by omega) (by omega) (fun j hj => by omega) f1)) ec (by rw [zu_n _ _ _ (by decide)]; exact e15)
  · refine h2 v q e2 e _ (mF_a (by omega) (by omega) (by omega) (mF_w (by omega) (by omega) (fun j hj => by omega) f1)) ⟨?_, ?_, ?_⟩ ?_ ?_ ?_
    · rw [zu_n _ _ _ (by decide)]; exact hr1.1
    · rw [zu_n _ _ _ (by decide)]; exact hr1.2.1
    · rw [zu_n _ _ _ (by decide)]; exact hr1.2.2
    · rw [zu_n _ _ _ (by decide)]; exact e18
    · rw [zu_n _ _ _ (by decide)]; exact e15
    · rw [zu_s, f1.1 60 (by decide) (by decide)]; exact congrArg (upd (M 60) t) e17
theorem k_into_61 {Q : Option Value → zM → Prop} {M : zM} {X : rX} {p : Nat} {x y z : Int32} {lo hi t : Nat} (hX : vX X) (hr : rM X p M) (hp : p ≤ X.1) (hz : z = nI t) (ht : t < 10) (hx : x = nI lo) (hy : y = nI hi - 1) (hlo : lo < 2 ^ 30) (hhi : hi < 2 ^ 30) (h1 : ∀ f w, rdN X lo hi p = .inl (f, w) → ∀ M' c, mF 15 18 61 61 M M' → c = nI f → M' 47 15 = nI w → Q (some (.int c)) M') (h2 : ∀ v q e, rdN X lo hi p = .inr (v, q, e) → ∀ M', mF 15 18 61 61 M M' → rM X e M' → M' 47 18 = nI q → M' 47 15 = M 47 15 → M' 61 = upd (M 61) t (nI v) → Q (some (.int 0)) M') : zCon fX11_into [.ref 47, .ref 61, .int z, .int x, .int y] M Q := by
  refine zc_of zkX11_into [] 60 (Nat.le_of_ble_eq_true rfl) (k_X11_takeNumber hX hr hp hx hy hlo hhi (fun f w e M1 c f1 ec e15 => zix t hz ht ?_) (fun v q e2 e M1 f1 hr1 e17 e18 e15 => zix t hz ht ?_))
  · exact h1 f w e _ _ (mF_a (by omega) (by omega) (by omega) (mF_w (by omega) (by omega) (fun j hj => by omega) f1)) ec (by rw [zu_n _ _ _ (by decide)]; exact e15)
  · refine h2 v q e2 e _ (mF_a (by omega) (by omega) (by omega) (mF_w (by omega) (by omega) (fun j hj => by omega) f1)) ⟨?_, ?_, ?_⟩ ?_ ?_ ?_
    · rw [zu_n _ _ _ (by decide)]; exact hr1.1
    · rw [zu_n _ _ _ (by decide)]; exact hr1.2.1
    · rw [zu_n _ _ _ (by decide)]; exact hr1.2.2
    · rw [zu_n _ _ _ (by decide)]; exact e18
    · rw [zu_n _ _ _ (by decide)]; exact e15
    · rw [zu_s, f1.1 61 (by decide) (by decide)]; exact congrArg (upd (M 61) t) e17
theorem k_into_62 {Q : Option Value → zM → Prop} {M : zM} {X : rX} {p : Nat} {x y z : Int32} {lo hi t : Nat} (hX : vX X) (hr : rM X p M) (hp : p ≤ X.1) (hz : z = nI t) (ht : t < 10) (hx : x = nI lo) (hy : y = nI hi - 1) (hlo : lo < 2 ^ 30) (hhi : hi < 2 ^ 30) (h1 : ∀ f w, rdN X lo hi p = .inl (f, w) → ∀ M' c, mF 15 18 62 62 M M' → c = nI f → M' 47 15 = nI w → Q (some (.int c)) M') (h2 : ∀ v q e, rdN X lo hi p = .inr (v, q, e) → ∀ M', mF 15 18 62 62 M M' → rM X e M' → M' 47 18 = nI q → M' 47 15 = M 47 15 → M' 62 = upd (M 62) t (nI v) → Q (some (.int 0)) M') : zCon fX11_into [.ref 47, .ref 62, .int z, .int x, .int y] M Q := by
  refine zc_of zkX11_into [] 60 (Nat.le_of_ble_eq_true rfl) (k_X11_takeNumber hX hr hp hx hy hlo hhi (fun f w e M1 c f1 ec e15 => zix t hz ht ?_) (fun v q e2 e M1 f1 hr1 e17 e18 e15 => zix t hz ht ?_))
  · exact h1 f w e _ _ (mF_a (by omega) (by omega) (by omega) (mF_w (by omega) (by omega) (fun j hj => by omega) f1)) ec (by rw [zu_n _ _ _ (by decide)]; exact e15)
  · refine h2 v q e2 e _ (mF_a (by omega) (by omega) (by omega) (mF_w (by omega) (by omega) (fun j hj => by omega) f1)) ⟨?_, ?_, ?_⟩ ?_ ?_ ?_
    · rw [zu_n _ _ _ (by decide)]; exact hr1.1
    · rw [zu_n _ _ _ (by decide)]; exact hr1.2.1
    · rw [zu_n _ _ _ (by decide)]; exact hr1.2.2
    · rw [zu_n _ _ _ (by decide)]; exact e18
    · rw [zu_n _ _ _ (by decide)]; exact e15
    · rw [zu_s, f1.1 62 (by decide) (by decide)]; exact congrArg (upd (M 62) t) e17
theorem k_into_63 {Q : Option Value → zM → Prop} {M : zM} {X : rX} {p : Nat} {x y z : Int32} {lo hi t : Nat} (hX : vX X) (hr : rM X p M) (hp : p ≤ X.1) (hz : z = nI t) (ht : t < 10) (hx : x = nI lo) (hy : y = nI hi - 1) (hlo : lo < 2 ^ 30) (hhi : hi < 2 ^ 30) (h1 : ∀ f w, rdN X lo hi p = .inl (f, w) → ∀ M' c, mF 15 18 63 63 M M' → c = nI f → M' 47 15 = nI w → Q (some (.int c)) M') (h2 : ∀ v q e, rdN X lo hi p = .inr (v, q, e) → ∀ M', mF 15 18 63 63 M M' → rM X e M' → M' 47 18 = nI q → M' 47 15 = M 47 15 → M' 63 = upd (M 63) t (nI v) → Q (some (.int 0)) M') : zCon fX11_into [.ref 47, .ref 63, .int z, .int x, .int y] M Q := by
  refine zc_of zkX11_into [] 60 (Nat.le_of_ble_eq_true rfl) (k_X11_takeNumber hX hr hp hx hy hlo hhi (fun f w e M1 c f1 ec e15 => zix t hz ht ?_) (fun v q e2 e M1 f1 hr1 e17 e18 e15 => zix t hz ht ?_))
  · exact h1 f w e _ _ (mF_a (by omega) (by omega) (by omega) (mF_w (by omega) (by omega) (fun j hj => by omega) f1)) ec (by rw [zu_n _ _ _ (by decide)]; exact e15)
  · refine h2 v q e2 e _ (mF_a (by omega) (by omega) (by omega) (mF_w (by omega) (by omega) (fun j hj => by omega) f1)) ⟨?_, ?_, ?_⟩ ?_ ?_ ?_
    · rw [zu_n _ _ _ (by decide)]; exact hr1.1
    · rw [zu_n _ _ _ (by decide)]; exact hr1.2.1
    · rw [zu_n _ _ _ (by decide)]; exact hr1.2.2
    · rw [zu_n _ _ _ (by decide)]; exact e18
    · rw [zu_n _ _ _ (by decide)]; exact e15
    · rw [zu_s, f1.1 63 (by decide) (by decide)]; exact congrArg (upd (M 63) t) e17
theorem k_into_64 {Q : Option Value → zM → Prop} {M : zM} {X : rX} {p : Nat} {x y z : Int32} {lo hi t : Nat} (hX : vX X) (hr : rM X p M) (hp : p ≤ X.1) (hz : z = nI t) (ht : t < 10) (hx : x = nI lo) (hy : y = nI hi - 1) (hlo : lo < 2 ^ 30) (hhi : hi < 2 ^ 30) (h1 : ∀ f w, rdN X lo hi p = .inl (f, w) → ∀ M' c, mF 15 18 64 64 M M' → c = nI f → M' 47 15 = nI w → Q (some (.int c)) M') (h2 : ∀ v q e, rdN X lo hi p = .inr (v, q, e) → ∀ M', mF 15 18 64 64 M M' → rM X e M' → M' 47 18 = nI q → M' 47 15 = M 47 15 → M' 64 = upd (M 64) t (nI v) → Q (some (.int 0)) M') : zCon fX11_into [.ref 47, .ref 64, .int z, .int x, .int y] M Q := by
  refine zc_of zkX11_into [] 60 (Nat.le_of_ble_eq_true rfl) (k_X11_takeNumber hX hr hp hx hy hlo hhi (fun f w e M1 c f1 ec e15 => zix t hz ht ?_) (fun v q e2 e M1 f1 hr1 e17 e18 e15 => zix t hz ht ?_))
  · exact h1 f w e _ _ (mF_a (by omega) (by omega) (by omega) (mF_w (by omega) (by omega) (fun j hj => by omega) f1)) ec (by rw [zu_n _ _ _ (by decide)]; exact e15)
  · refine h2 v q e2 e _ (mF_a (by omega) (by omega) (by omega) (mF_w (by omega) (by omega) (fun j hj => by omega) f1)) ⟨?_, ?_, ?_⟩ ?_ ?_ ?_
    · rw [zu_n _ _ _ (by decide)]; exact hr1.1
    · rw [zu_n _ _ _ (by decide)]; exact hr1.2.1
    · rw [zu_n _ _ _ (by decide)]; exact hr1.2.2
    · rw [zu_n _ _ _ (by decide)]; exact e18
    · rw [zu_n _ _ _ (by decide)]; exact e15
    · rw [zu_s, f1.1 64 (by decide) (by decide)]; exact congrArg (upd (M 64) t) e17
theorem k_into_65 {Q : Option Value → zM → Prop} {M : zM} {X : rX} {p : Nat} {x y z : Int32} {lo hi t : Nat} (hX : vX X) (hr : rM X p M) (hp : p ≤ X.1) (hz : z = nI t) (ht : t < 10) (hx : x = nI lo) (hy : y = nI hi - 1) (hlo : lo < 2 ^ 30) (hhi : hi < 2 ^ 30) (h1 : ∀ f w, rdN X lo hi p = .inl (f, w) → ∀ M' c, mF 15 18 65 65 M M' → c = nI f → M' 47 15 = nI w → Q (some (.int c)) M') (h2 : ∀ v q e, rdN X lo hi p = .inr (v, q, e) → ∀ M', mF 15 18 65 65 M M' → rM X e M' → M' 47 18 = nI q → M' 47 15 = M 47 15 → M' 65 = upd (M 65) t (nI v) → Q (some (.int 0)) M') : zCon fX11_into [.ref 47, .ref 65, .int z, .int x, .int y] M Q := by
  refine zc_of zkX11_into [] 60 (Nat.le_of_ble_eq_true rfl) (k_X11_takeNumber hX hr hp hx hy hlo hhi (fun f w e M1 c f1 ec e15 => zix t hz ht ?_) (fun v q e2 e M1 f1 hr1 e17 e18 e15 => zix t hz ht ?_))
  · exact h1 f w e _ _ (mF_a (by omega) (by omega) (by omega) (mF_w (by omega) (by omega) (fun j hj => by omega) f1)) ec (by rw [zu_n _ _ _ (by decide)]; exact e15)
  · refine h2 v q e2 e _ (mF_a (by omega) (by omega) (by omega) (mF_w (by omega) (by omega) (fun j hj => by omega) f1)) ⟨?_, ?_, ?_⟩ ?_ ?_ ?_
    · rw [zu_n _ _ _ (by decide)]; exact hr1.1
    · rw [zu_n _ _ _ (by decide)]; exact hr1.2.1
    · rw [zu_n _ _ _ (by decide)]; exact hr1.2.2
    · rw [zu_n _ _ _ (by decide)]; exact e18
    · rw [zu_n _ _ _ (by decide)]; exact e15
    · rw [zu_s, f1.1 65 (by decide) (by decide)]; exact congrArg (upd (M 65) t) e17
/-- the rows read so far -/
def dMa (D : rD) (M : zM) : Prop :=
  (∀ a, a < tS D.1 → M 58 a = nI (tI D.1 a)) ∧ (∀ a, a < tS D.1 → M 59 a = nI (tY D.1 a)) ∧
  (∀ i, i < tC D.1 → M 60 i = nI (tA D.1 i)) ∧ (∀ i, i < tC D.1 → M 61 i = nI (tB D.1 i)) ∧ (∀ i, i < tC D.1 → M 62 i = nI (D.2 i)) ∧
  (∀ i, i < tC D.1 → M 63 i = nI (tK D.1 i)) ∧ (∀ i, i < tC D.1 → M 64 i = nI (tL D.1 i)) ∧ (∀ i, i < tC D.1 → M 65 i = nI (tP D.1 i))
def dM0 (D : rD) (M : zM) : Prop := M 47 19 = nI (tN D.1) ∧ M 47 20 = nI (tS D.1) ∧ M 47 23 = nI (tC D.1) ∧ dMa D M
theorem dMa_fr {D : rD} {M M' : zM} (h : ∀ k, 58 ≤ k → k ≤ 65 → M' k = M k) (hd : dMa D M) : dMa D M' := by
  unfold dMa at hd ⊢
  rw [h 58 (by omega) (by omega), h 59 (by omega) (by omega), h 60 (by omega) (by omega), h 61 (by omega) (by omega), h 62 (by omega) (by omega), h 63 (by omega) (by omega), h 64 (by omega) (by omega), h 65 (by omega) (by omega)]
  exact hd
theorem dMa_u {D : rD} {M M' : zM} {k t : Nat} {v : Int32} (hs : k ≤ 59 → tS D.1 ≤ t) (hc : 60 ≤ k → tC D.1 ≤ t) (h : ∀ j, 58 ≤ j → j ≤ 65 → j ≠ k → M' j = M j) (hk : M' k = upd (M k) t v) (hd : dMa D M) : dMa D M' := by
  have E : ∀ (c n : Nat) (g : Nat → Nat), 58 ≤ c → c ≤ 65 → (c = k → n ≤ t) → (∀ i, i < n → M c i = nI (g i)) → ∀ i, i < n → M' c i = nI (g i) := by
    intro c n g h1 h2 h3 hg i hi
    by_cases e : c = k
    · subst e
      have := h3 rfl
      rw [hk, pk_un (by omega)]; exact hg i hi
    · rw [h c h1 h2 e]; exact hg i hi
  obtain ⟨d1, d2, d3, d4, d5, d6, d7, d8⟩ := hd
  exact ⟨E 58 _ _ (by omega) (by omega) (fun e => hs (by omega)) d1, E 59 _ _ (by omega) (by omega) (fun e => hs (by omega)) d2, E 60 _ _ (by omega) (by omega) (fun e => hc (by omega)) d3, E 61 _ _ (by omega) (by omega) (fun e => hc (by omega)) d4, E 62 _ _ (by omega) (by omega) (fun e => hc (by omega)) d5, E 63 _ _ (by omega) (by omega) (fun e => hc (by omega)) d6, E 64 _ _ (by omega) (by omega) (fun e => hc (by omega)) d7, E 65 _ _ (by omega) (by omega) (fun e => hc (by omega)) d8⟩
/-- what the model's parts of a clause leave, before its end -/
abbrev fE (X : rX) (D : rD) (e : Nat) : rF ⊕ (rD × Nat) := match rdE X e with
  | .inl f => .inl f
  | .inr e => .inr (D, e)
abbrev mQ (Q : Option Value → zM → Prop) (X : rX) (M : zM) (R : rF ⊕ (rD × Nat)) : Prop :=
  (∀ f w, R = .inl (f, w) → ∀ M' c, mF 15 23 58 65 M M' → c = nI f → M' 47 15 = nI w → Q (some (.int c)) M') ∧
  (∀ D' e, R = fE X D' e → e ≤ X.1 → ∀ M', mF 15 23 58 65 M M' → rM X e M' → M' 47 15 = M 47 15 → dM0 D' M' → Q (some (.int 0)) M')
theorem k_X11_takeWords {Q : Option Value → zM → Prop} {M : zM} {X : rX} {D : rD} {p : Nat} (hX : vX X) (hr : rM X p M) (hp : p ≤ X.1) (hd : dM0 D M) (h : mQ Q X M (rdT X D p)) : zCon fX11_takeWords [.ref 47] M Q := by
  refine zc_of zkX11_takeWords [] 60 (Nat.le_of_ble_eq_true rfl) (k_X11_takeNumber (lo := 2) (hi := 9) hX hr hp n_2 (by decide) (by omega) (by omega) (fun f w e M1 c f1 ec e15 => ?_) (fun v q e2 e M1 f1 hr1 e17 e18 e15 => ?_))
  · exact h.1 f w (by unfold rdT; rw [e]) _ _ (mF_u (t := 19) (by omega) (by omega) (mF_w (by omega) (by omega) (fun j hj => by omega) f1)) ec (by rw [zu_ne _ _ (by decide)]; exact e15)
  · obtain ⟨a1, a2, a3, a4, a5⟩ := rdN_ok hp e
    refine h.2 (rN D v) e2 (by unfold rdT; rw [e]; rfl) a5 _ (mF_u (t := 19) (by omega) (by omega) (mF_w (by omega) (by omega) (fun j hj => by omega) f1)) ⟨?_, ?_, ?_⟩ ?_ ⟨?_, ?_, ?_, dMa_fr (D := D) (fun k h1 h2 => ?_) hd.2.2.2⟩
    · rw [zu_ne _ _ (by decide)]; exact hr1.1
    · rw [zu_n _ _ _ (by decide)]; exact hr1.2.1
    · rw [zu_ne _ _ (by decide)]; exact hr1.2.2
    · rw [zu_ne _ _ (by decide)]; exact e15
    · rw [zu_at]; exact e17
    · rw [zu_ne _ _ (by decide), f1.2 20 (by omega)]; exact hd.2.1
    · rw [zu_ne _ _ (by decide), f1.2 23 (by omega)]; exact hd.2.2.1
    · rw [zu_n _ _ _ (by omega), f1.1 k (by omega) (by omega)]
theorem k_X11_takeStreet {Q : Option Value → zM → Prop} {M : zM} {X : rX} {D : rD} {p : Nat} (hX : vX X) (hr : rM X p M) (hp : p ≤ X.1) (hd : dM0 D M) (hv : vD D) (hS : tS D.1 < 7) (h : mQ Q X M (rdS X D p)) : zCon fX11_takeStreet [.ref 47] M Q := by
  have hN := zTv_N hv.1
  obtain ⟨d1, d2, d3, d4⟩ := hd
  refine zc_of zkX11_takeStreet [57, 88] 60 (Nat.le_of_ble_eq_true rfl) ?_
  have f0 : mF 15 23 58 65 M (zu M 47 20 (M 47 20 + 1)) := mF_u (by omega) (by omega) (mF_r _ _ _ _ _)
  have hr0 : rM X p (zu M 47 20 (M 47 20 + 1)) := rM_f (by omega) (by omega) (by rw [zu_ne _ _ (by decide)]; exact hr.2.2) f0 hr
  have e19 : (zu M 47 20 (M 47 20 + 1)) 47 19 = nI (tN D.1) := by rw [zu_ne _ _ (by decide)]; exact d1
  have e20 : (zu M 47 20 (M 47 20 + 1)) 47 20 = nI (tS D.1 + 1) := by rw [zu_at]; exact (congrArg (· + 1) d2).trans (nI_1 _)
  have e23 : (zu M 47 20 (M 47 20 + 1)) 47 23 = nI (tC D.1) := by rw [zu_ne _ _ (by decide)]; exact d3
  have e15 : (zu M 47 20 (M 47 20 + 1)) 47 15 = M 47 15 := zu_ne _ _ (by decide)
  have hd0 : dMa D (zu M 47 20 (M 47 20 + 1)) := dMa_fr (fun k h1 h2 => zu_n _ _ _ (by omega)) d4
  have F : ∀ f w, rdS X D p = .inl (f, w) → 0 < f → f < 5 → ∀ c M', c = nI f → mF 15 23 58 65 M M' → M' 47 15 = nI w → zEv fX11_takeStreet Q 57 [(0, .ref 47), (1, .int (M 47 20)), (2, .int c)] [] M' := fun f w e b1 b2 c M' hc hf e15 =>
    zev_go zkX11_takeStreet [] 60 (nt_ (by rw [hc]; exact nI_ne0 b1 (by omega)) (h.1 f w e M' c hf hc e15))
  refine k_into_58 (lo := 0) (hi := tN D.1) hX hr0 hp d2 hS n_0 (congrArg (· - 1) e19) (by omega) (by omega) (fun f w e M1 c f1 ec e15' => ?_) (fun a q1 e1 e M1 f1 hr1 e18 e15' e58 => ?_)
  · obtain ⟨b1, b2, b3⟩ := rdN_f hp e
    exact nf_ (by rw [ec]; exact nI_lt b1 (by omega)) (F f w (by unfold rdS; rw [e]) b1 b2 c M1 ec (mF_t f0 (mF_w (by omega) (by omega) (fun j hj => by omega) f1)) e15')
  obtain ⟨a1, a2, a3, a4, a5⟩ := rdN_ok hp e
  have f1' : mF 15 23 58 65 M M1 := mF_t f0 (mF_w (by omega) (by omega) (fun j hj => by omega) f1)
  have hd1 : dMa D M1 := dMa_u (fun _ => Nat.le_refl _) (fun h => absurd h (by omega)) (fun j h1 h2 h3 => f1.1 j (by omega) (by omega)) e58 hd0
  refine nt_ (by decide) (k_into_59 (lo := 0) (hi := tN D.1) hX hr1 a5 d2 hS n_0 (congrArg (· - 1) (show M1 47 19 = nI (tN D.1) by rw [f1.2 19 (by omega)]; exact e19)) (by omega) (by omega) (fun f w e3 M2 c f2 ec e15'' => ?_) (fun b q2 e4 e3 M2 f2 hr2 e18' e15'' e59 => ?_))
  · obtain ⟨b1, b2, b3⟩ := rdN_f a5 e3
    exact F f w (by unfold rdS; rw [e]; dsimp only; rw [e3]) b1 b2 c M2 ec (mF_t f1' (mF_w (by omega) (by omega) (fun j hj => by omega) f2)) e15''
  obtain ⟨b1, b2, b3, b4, b5⟩ := rdN_ok a5 e3
  have f2' : mF 15 23 58 65 M M2 := mF_t f1' (mF_w (by omega) (by omega) (fun j hj => by omega) f2)
  have hd2 : dMa D M2 := dMa_u (fun _ => Nat.le_refl _) (fun h => absurd h (by omega)) (fun j h1 h2 h3 => f2.1 j (by omega) (by omega)) e59 hd1
  have g58 : M2 58 (tS D.1) = nI a := by rw [f2.1 58 (by omega) (by omega), e58, pk_us]
  have g59 : M2 59 (tS D.1) = nI b := by rw [e59, pk_us]
  have g15 : M2 47 15 = M 47 15 := by rw [e15'', e15', e15]
  refine zev_go zkX11_takeStreet [88] 60 (nf_ rfl (zix (tS D.1) d2 hS (zix (tS D.1) d2 hS (iNe g59 g58 (by omega) (by omega) (fun ne => ?_) (fun eq => ?_)))))
  · refine zev_go zkX11_takeStreet [] 60 (h.2 (rS D a b) e4 (by unfold rdS; rw [e]; dsimp only; rw [e3]; dsimp only; rw [if_neg ne]; rfl) b5 M2 f2' hr2 g15 ⟨?_, ?_, ?_, ?_⟩)
    · rw [f2.2 19 (by omega), f1.2 19 (by omega)]; exact e19
    · rw [f2.2 20 (by omega), f1.2 20 (by omega)]; exact e20
    · rw [f2.2 23 (by omega), f1.2 23 (by omega)]; exact e23
    · obtain ⟨t1, t2, t3, t4, t5, t6, t7, t8⟩ := hd2
      refine ⟨fun i hi => ?_, fun i hi => ?_, t3, t4, t5, t6, t7, t8⟩
      · have hi' : i < tS D.1 + 1 := hi
        show _ = nI (nup (tI D.1) (tS D.1) a i)
        by_cases c : i = tS D.1
        · rw [c, nup_s]; exact g58
        · rw [nup_n _ _ c]; exact t1 i (by omega)
      · have hi' : i < tS D.1 + 1 := hi
        show _ = nI (nup (tY D.1) (tS D.1) b i)
        by_cases c : i = tS D.1
        · rw [c, nup_s]; exact g59
        · rw [nup_n _ _ c]; exact t2 i (by omega)
  · refine k_X11_fails ?_
    exact h.1 4 q2 (by unfold rdS; rw [e]; dsimp only; rw [e3]; dsimp only; rw [if_pos eq]) _ _ (mF_u (by omega) (by omega) f2') n_4 (by rw [zu_at]; exact e18')
theorem k_X11_isJoined {Q : Option Value → zM → Prop} {M : zM} {D : rD} {x y : Int32} {a b : Nat} (hv : vD D) (h23 : M 47 23 = nI (tC D.1)) (hd : dMa D M) (hx : x = nI a) (hy : y = nI b) (ha : a < 2 ^ 31) (hb : b < 2 ^ 31) (h1 : (b = a ∨ jn D.1 a b (tC D.1) = true) → Q (some (.int 1)) M) (h0 : ¬ (b = a ∨ jn D.1 a b (tC D.1) = true) → Q (some (.int 0)) M) : zCon fX11_isJoined [.ref 47, .int x, .int y] M Q := by
  have hC := zTv_C hv.1
  have hS := zTv_S hv.1
  obtain ⟨t1, t2, t3, t4, t5, t6, t7, t8⟩ := hd
  have hv1 := hv.1
  clear hv
  generalize D.1 = T at *
  refine zc_of zkX11_isJoined [14] 60 (Nat.le_of_ble_eq_true rfl) ?_
  have L : ∀ i, i ≤ tC T → ∀ t z, t = zbl (decide (b = a) || jn T a b i) → z = nI i → zEv fX11_isJoined Q 14 [(0, .ref 47), (1, .int x), (2, .int y), (3, .int t), (4, .int z)] [] M := by
    refine zloop (tC T) ?_ ?_
    · intro t z ht hz
      refine zev_go zkX11_isJoined [14] 60 (iGe hz h23 (by omega) (by omega) (fun _ => ?_) (fun q => absurd q (by omega)))
      subst ht
      cases q : (decide (b = a) || jn T a b (tC T)) with
      | true =>
        refine ⟨Or.inr rfl, h1 ?_⟩
        rw [Bool.or_eq_true, decide_eq_true_eq] at q
        exact q
      | false =>
        refine ⟨Or.inl rfl, h0 ?_⟩
        rw [Bool.or_eq_false_iff, decide_eq_false_iff_not] at q
        intro r
        rcases r with r | r
        · exact q.1 r
        · rw [q.2] at r; exact absurd r (by decide)
    · intro i hi ih t z ht hz
      obtain ⟨i1, i2, i3, i4, i5, i6⟩ := zTv_i hv1 hi
      have eA := t3 i hi
      have eB := t4 i hi
      have i10 : i < 10 := by omega
      have yes : ((decide (b = a) || jn T a b i) = true ∨ (tA T i = a ∧ tB T i = b ∨ tA T i = b ∧ tB T i = a)) → zEv fX11_isJoined Q 14 [(0, .ref 47), (1, .int x), (2, .int y), (3, .int 1), (4, .int (z + 1))] [] M := fun q => ih _ _ (by
        rw [jn_s, ← Bool.or_assoc]
        rcases q with q | q
        · rw [q]; rfl
        · rw [decide_eq_true q, Bool.or_true]; rfl) (by rw [hz, nI_1])
      have no : (decide (b = a) || jn T a b i) = false → ¬ (tA T i = a ∧ tB T i = b ∨ tA T i = b ∧ tB T i = a) → zEv fX11_isJoined Q 14 [(0, .ref 47), (1, .int x), (2, .int y), (3, .int 0), (4, .int (z + 1))] [] M := fun q r => ih _ _ (by rw [jn_s, ← Bool.or_assoc, q, decide_eq_false r]; rfl) (by rw [hz, nI_1])
      subst ht
      refine zev_go zkX11_isJoined [14] 60 (iGe hz h23 (by omega) (by omega) (fun q => absurd q (by omega)) (fun _ => ?_))
      cases j : (decide (b = a) || jn T a b i) with
      | true => exact cT (yes (Or.inl j))
      | false =>
        refine cF (zix i hz i10 ?_)
        refine iNe eA hx (by omega) ha (fun c => zix i hz i10 ?_) (fun c => zix i hz i10 ?_)
        · refine iNe eA hy (by omega) hb (fun d => no j (by omega)) (fun d => zix i hz i10 ?_)
          exact iNe eB hx (by omega) ha (fun e => no j (by omega)) (fun e => yes (Or.inr (by omega)))
        · refine iEq eB hy (by omega) hb (fun d => yes (Or.inr (by omega))) (fun d => zix i hz i10 ?_)
          refine iNe eA hy (by omega) hb (fun d => no j (by omega)) (fun d => zix i hz i10 ?_)
          exact iNe eB hx (by omega) ha (fun e => no j (by omega)) (fun e => yes (Or.inr (by omega)))
  refine iNe hx hy ha hb (fun c => ?_) (fun c => ?_)
  · exact L 0 (Nat.zero_le _) 0 0 (by rw [decide_eq_false (fun q => c q.symm)]; rfl) n_0
  · exact L 0 (Nat.zero_le _) 1 0 (by rw [decide_eq_true c.symm]; rfl) n_0
