/-! Town: hasStreet and its like -/
theorem k_X8_hasStreet {Q : Option Value → zM → Prop} {M : zM} {a : Int32} {n : Nat} (hn : n < 2 ^ 31) (hS : M 1 2 = nI n) (h1 : ∀ j, j < n → a = nI j → Q (some (.int 1)) M) (h0 : zout a n → Q (some (.int 0)) M) : zCon fX8_hasStreet [.ref 1, .int a] M Q := by
  refine zc_of zkX8_hasStreet [] 60 (Nat.le_of_ble_eq_true rfl) ?_
  have h := iIn hn h1 h0
  rw [← hS] at h
  exact ⟨fun c => ⟨Or.inl rfl, h.1 c⟩, fun c => ⟨fun d => ⟨Or.inl rfl, (h.2 c).1 d⟩, fun d => ⟨Or.inr rfl, (h.2 c).2 d⟩⟩⟩
theorem k_X8_hasCorner {Q : Option Value → zM → Prop} {M : zM} {a : Int32} {n : Nat} (hn : n < 2 ^ 31) (hS : M 1 3 = nI n) (h1 : ∀ j, j < n → a = nI j → Q (some (.int 1)) M) (h0 : zout a n → Q (some (.int 0)) M) : zCon fX8_hasCorner [.ref 1, .int a] M Q := by
  refine zc_of zkX8_hasCorner [] 60 (Nat.le_of_ble_eq_true rfl) ?_
  have h := iIn hn h1 h0
  rw [← hS] at h
  exact ⟨fun c => ⟨Or.inl rfl, h.1 c⟩, fun c => ⟨fun d => ⟨Or.inl rfl, (h.2 c).1 d⟩, fun d => ⟨Or.inr rfl, (h.2 c).2 d⟩⟩⟩
theorem k_X8_hasWord {Q : Option Value → zM → Prop} {M : zM} {a : Int32} {n : Nat} (hn : n < 2 ^ 31) (hS : M 1 1 = nI n) (h1 : ∀ j, j < n → a = nI j → Q (some (.int 1)) M) (h0 : zout a n → Q (some (.int 0)) M) : zCon fX8_hasWord [.ref 1, .int a] M Q := by
  refine zc_of zkX8_hasWord [] 60 (Nat.le_of_ble_eq_true rfl) ?_
  have h := iIn hn h1 h0
  rw [← hS] at h
  exact ⟨fun c => ⟨Or.inl rfl, h.1 c⟩, fun c => ⟨fun d => ⟨Or.inl rfl, (h.2 c).1 d⟩, fun d => ⟨Or.inr rfl, (h.2 c).2 d⟩⟩⟩
theorem k_X8_hasTwoStreets {Q : Option Value → zM → Prop} {M : zM} {a b : Int32} {n : Nat} (hn : n < 2 ^ 31) (hS : M 1 2 = nI n) (h1 : ∀ i j, i < n → j < n → i ≠ j → a = nI i → b = nI j → Q (some (.int 1)) M) (h0 : (zout a n ∨ zout b n ∨ a = b) → Q (some (.int 0)) M) : zCon fX8_hasTwoStreets [.ref 1, .int a, .int b] M Q := by
  refine zc_of zkX8_hasTwoStreets [] 60 (Nat.le_of_ble_eq_true rfl) ?_
  refine br (fun c => ?_) (fun c => ?_)
  · exact ⟨Or.inl rfl, h0 (Or.inr (Or.inr c))⟩
  · refine k_X8_hasStreet hn hS (fun i hi e => ?_) (fun ho => ?_)
    · refine bT ?_
      refine k_X8_hasStreet hn hS (fun j hj e2 => ?_) (fun ho => ?_)
      · exact bT ⟨Or.inr rfl, h1 i j hi hj (fun q => c (by rw [e, e2, q])) e e2⟩
      · exact bF ⟨Or.inl rfl, h0 (Or.inr (Or.inl ho))⟩
    · exact bF ⟨Or.inl rfl, h0 (Or.inl ho)⟩
