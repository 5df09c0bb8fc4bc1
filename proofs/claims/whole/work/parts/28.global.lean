/-! the whole state: town and affairs; what can be undone; images; seed and fault; the text; what is seen; the book -/
abbrev zG : Type := (zTn × zAf) × (Nat × (Nat → zAf)) × ((Nat → Bool) × (Nat → zAf) × (Nat → Nat)) × (Nat × Int32) × (Nat × (Nat → Nat)) × (Nat × (Nat → Nat) × (Nat → Nat)) × (Nat × (Nat → Nat) × (Nat → Nat))
abbrev gT (G : zG) : zTn := G.1.1
abbrev gA (G : zG) : zAf := G.1.2
abbrev gU (G : zG) : Nat × (Nat → zAf) := G.2.1
abbrev gI (G : zG) : (Nat → Bool) × (Nat → zAf) × (Nat → Nat) := G.2.2.1
abbrev gSd (G : zG) : Nat := G.2.2.2.1.1
abbrev gFp (G : zG) : Int32 := G.2.2.2.1.2
abbrev gX (G : zG) : Nat × (Nat → Nat) := G.2.2.2.2.1
abbrev gSn (G : zG) : Nat × (Nat → Nat) × (Nat → Nat) := G.2.2.2.2.2.1
abbrev gBk (G : zG) : Nat × (Nat → Nat) × (Nat → Nat) := G.2.2.2.2.2.2
def cU (T : zTn) (u : Nat × (Nat → zAf)) (M : zM) : Prop := M 23 5 = nI u.1 ∧ ∃ nw, nw < 16 ∧ M 23 4 = nI nw ∧ ∀ e, e < u.1 → cA T (u.2 e) (fun j => M 24 ((nw + 16 - e) % 16 * 108 + j))
def cIm (T : zTn) (I : (Nat → Bool) × (Nat → zAf) × (Nat → Nat)) (M : zM) : Prop := ∃ s, s < 4 ∧ M 23 3 = nI s ∧ ∀ i, i < 2 → s.testBit i = I.1 i ∧ (I.1 i = true → cA T (I.2.1 i) (fun j => M 25 (i * 108 + j)) ∧ M 26 i = nI (I.2.2 i))
def cX (X : Nat × (Nat → Nat)) (M : zM) : Prop := M 10 2 = nI X.1 ∧ ∀ j, j < X.1 → M 11 j = nI (X.2 j)
def cSn (S : Nat × (Nat → Nat) × (Nat → Nat)) (M : zM) : Prop := M 39 5 = nI S.1 ∧ ∀ j, j < S.1 → M 40 j = nI (S.2.1 j) ∧ M 41 j = nI (S.2.2 j)
def cBk (S : Nat × (Nat → Nat) × (Nat → Nat)) (M : zM) : Prop := M 44 2 = nI S.1 ∧ ∀ j, j < S.1 → M 45 j = nI (S.2.1 j) ∧ M 46 j = nI (S.2.2 j)
def zC (G : zG) (M : zM) : Prop := zTc (gT G) M ∧ cA (gT G) (gA G) (M 22) ∧ cU (gT G) (gU G) M ∧ cIm (gT G) (gI G) M ∧ M 0 10 = nI (gSd G) ∧ M 10 6 = gFp G ∧ cX (gX G) M ∧ cSn (gSn G) M ∧ cBk (gBk G) M
def mU (T : zTn) (u : Nat × (Nat → zAf)) (M : zM) : Prop := M 47 32 = nI u.1 ∧ ∀ e, e < u.1 → mA T (u.2 e) (fun j => M 68 (88 * (u.1 - 1 - e) + j))
def mIm (T : zTn) (I : (Nat → Bool) × (Nat → zAf) × (Nat → Nat)) (M : zM) : Prop := ∀ i, i < 2 → M 79 i = zbl (I.1 i) ∧ (I.1 i = true → mA T (I.2.1 i) (fun j => M 78 (89 * i + j)) ∧ M 78 (89 * i + 88) = nI (I.2.2 i))
def mX (X : Nat × (Nat → Nat)) (M : zM) : Prop := M 47 14 = nI X.1 ∧ ∀ j, j < X.1 → M 57 j = nI (X.2 j)
def mSn (S : Nat × (Nat → Nat) × (Nat → Nat)) (M : zM) : Prop := M 47 39 = nI S.1 ∧ ∀ j, j < S.1 → M 74 j = nI (S.2.1 j) ∧ M 75 j = nI (S.2.2 j)
def mBk (S : Nat × (Nat → Nat) × (Nat → Nat)) (M : zM) : Prop := M 47 42 = nI S.1 ∧ ∀ j, j < S.1 → M 76 j = nI (S.2.1 j) ∧ M 77 j = nI (S.2.2 j)
def zD (G : zG) (M : zM) : Prop := zTm (gT G) M ∧ mA (gT G) (gA G) (M 56) ∧ mU (gT G) (gU G) M ∧ mIm (gT G) (gI G) M ∧ M 47 12 = nI (gSd G) ∧ M 47 15 = gFp G ∧ mX (gX G) M ∧ mSn (gSn G) M ∧ mBk (gBk G) M
def vU (T : zTn) (u : Nat × (Nat → zAf)) : Prop := u.1 ≤ 16 ∧ ∀ e, e < u.1 → vA T (u.2 e)
def vIm (T : zTn) (I : (Nat → Bool) × (Nat → zAf) × (Nat → Nat)) : Prop := ∀ i, i < 2 → I.1 i = true → vA T (I.2.1 i) ∧ I.2.2 i < 2 ^ 31
def zV (G : zG) : Prop := zTv (gT G) ∧ vA (gT G) (gA G) ∧ vU (gT G) (gU G) ∧ vIm (gT G) (gI G) ∧ gSd G < 2 ^ 31 ∧ ((gX G).1 ≤ 240 ∧ ∀ j, j < (gX G).1 → (gX G).2 j < 256) ∧ ((gSn G).1 ≤ 6 ∧ ∀ j, j < (gSn G).1 → (gSn G).2.1 j < tN (gT G) ∧ (gSn G).2.2 j < tN (gT G)) ∧ ((gBk G).1 ≤ 15 ∧ ∀ j, j < (gBk G).1 → (gBk G).2.1 j < tS (gT G) ∧ (gBk G).2.2 j ≤ 9999)
/-- frames -/
def frM (M M' : zM) : Prop := ∀ k, 47 ≤ k → M' k = M k
def frC (M M' : zM) : Prop := ∀ k, k < 47 → M' k = M k
theorem zTc_fr {T : zTn} {M M' : zM} (h : ∀ k, 1 ≤ k → k ≤ 9 → M' k = M k) (hT : zTc T M) : zTc T M' := by
  unfold zTc at hT ⊢
  rw [h 1 (by omega) (by omega), h 2 (by omega) (by omega), h 3 (by omega) (by omega), h 4 (by omega) (by omega), h 5 (by omega) (by omega), h 7 (by omega) (by omega), h 8 (by omega) (by omega), h 9 (by omega) (by omega)]
  exact hT
theorem cU_fr {T : zTn} {u : Nat × (Nat → zAf)} {M M' : zM} (h1 : M' 23 5 = M 23 5) (h2 : M' 23 4 = M 23 4) (h3 : M' 24 = M 24) (h : cU T u M) : cU T u M' := by
  unfold cU at h ⊢; rw [h1, h2, h3]; exact h
theorem cIm_fr {T : zTn} {I : (Nat → Bool) × (Nat → zAf) × (Nat → Nat)} {M M' : zM} (h1 : M' 23 3 = M 23 3) (h2 : M' 25 = M 25) (h3 : M' 26 = M 26) (h : cIm T I M) : cIm T I M' := by
  unfold cIm at h ⊢; rw [h1, h2, h3]; exact h
theorem cX_fr {X : Nat × (Nat → Nat)} {M M' : zM} (h1 : M' 10 2 = M 10 2) (h2 : M' 11 = M 11) (h : cX X M) : cX X M' := by
  unfold cX at h ⊢; rw [h1, h2]; exact h
theorem cSn_fr {S : Nat × (Nat → Nat) × (Nat → Nat)} {M M' : zM} (h1 : M' 39 = M 39) (h2 : M' 40 = M 40) (h3 : M' 41 = M 41) (h : cSn S M) : cSn S M' := by
  unfold cSn at h ⊢; rw [h1, h2, h3]; exact h
theorem cBk_fr {S : Nat × (Nat → Nat) × (Nat → Nat)} {M M' : zM} (h1 : M' 44 = M 44) (h2 : M' 45 = M 45) (h3 : M' 46 = M 46) (h : cBk S M) : cBk S M' := by
  unfold cBk at h ⊢; rw [h1, h2, h3]; exact h
/-- the class's state stands where its own cells stand (the scratch ones are 12..20, 28..38, 42, 43) -/
def zown1 (k : Nat) : Prop := k ≤ 11 ∨ (21 ≤ k ∧ k ≤ 27) ∨ (39 ≤ k ∧ k ≤ 41) ∨ (44 ≤ k ∧ k ≤ 46)
theorem zC_fr {G : zG} {M M' : zM} (h : ∀ k, zown1 k → M' k = M k) (hC : zC G M) : zC G M' := by
  obtain ⟨c1, c2, c3, c4, c5, c6, c7, c8, c9⟩ := hC
  have o : ∀ k, (k ≤ 11 ∨ (21 ≤ k ∧ k ≤ 27) ∨ (39 ≤ k ∧ k ≤ 41) ∨ (44 ≤ k ∧ k ≤ 46)) → M' k = M k := h
  refine ⟨zTc_fr (fun k h1 h2 => o k (by omega)) c1, ?_, cU_fr (by rw [o 23 (by omega)]) (by rw [o 23 (by omega)]) (o 24 (by omega)) c3, cIm_fr (by rw [o 23 (by omega)]) (o 25 (by omega)) (o 26 (by omega)) c4, ?_, ?_, cX_fr (by rw [o 10 (by omega)]) (o 11 (by omega)) c7, cSn_fr (o 39 (by omega)) (o 40 (by omega)) (o 41 (by omega)) c8, cBk_fr (o 44 (by omega)) (o 45 (by omega)) (o 46 (by omega)) c9⟩
  · rw [o 22 (by omega)]; exact c2
  · rw [o 0 (by omega)]; exact c5
  · rw [o 10 (by omega)]; exact c6
theorem zC_frC {G : zG} {M M' : zM} (h : frC M M') (hC : zC G M) : zC G M' := zC_fr (fun k hk => h k (by unfold zown1 at hk; omega)) hC
theorem zTm_fr {T : zTn} {M M' : zM} (h47 : M' 47 0 = M 47 0 ∧ M' 47 1 = M 47 1 ∧ M' 47 4 = M 47 4) (h : ∀ k, 48 ≤ k → k ≤ 55 → M' k = M k) (hT : zTm T M) : zTm T M' := by
  unfold zTm at hT ⊢
  rw [h47.1, h47.2.1, h47.2.2, h 48 (by omega) (by omega), h 49 (by omega) (by omega), h 50 (by omega) (by omega), h 51 (by omega) (by omega), h 53 (by omega) (by omega), h 54 (by omega) (by omega), h 55 (by omega) (by omega)]
  exact hT
theorem mU_fr {T : zTn} {u : Nat × (Nat → zAf)} {M M' : zM} (h1 : M' 47 32 = M 47 32) (h3 : M' 68 = M 68) (h : mU T u M) : mU T u M' := by
  unfold mU at h ⊢; rw [h1, h3]; exact h
theorem mIm_fr {T : zTn} {I : (Nat → Bool) × (Nat → zAf) × (Nat → Nat)} {M M' : zM} (h1 : M' 79 = M 79) (h2 : M' 78 = M 78) (h : mIm T I M) : mIm T I M' := by
  unfold mIm at h ⊢; rw [h1, h2]; exact h
theorem mX_fr {X : Nat × (Nat → Nat)} {M M' : zM} (h1 : M' 47 14 = M 47 14) (h2 : M' 57 = M 57) (h : mX X M) : mX X M' := by
  unfold mX at h ⊢; rw [h1, h2]; exact h
theorem mSn_fr {S : Nat × (Nat → Nat) × (Nat → Nat)} {M M' : zM} (h1 : M' 47 39 = M 47 39) (h2 : M' 74 = M 74) (h3 : M' 75 = M 75) (h : mSn S M) : mSn S M' := by
  unfold mSn at h ⊢; rw [h1, h2, h3]; exact h
theorem mBk_fr {S : Nat × (Nat → Nat) × (Nat → Nat)} {M M' : zM} (h1 : M' 47 42 = M 47 42) (h2 : M' 76 = M 76) (h3 : M' 77 = M 77) (h : mBk S M) : mBk S M' := by
  unfold mBk at h ⊢; rw [h1, h2, h3]; exact h
/-- the model's own cells (the scratch ones are 58..67, 69..73) -/
def zown2 (k : Nat) : Prop := (47 ≤ k ∧ k ≤ 57) ∨ k = 68 ∨ (74 ≤ k ∧ k ≤ 79)
theorem zD_fr {G : zG} {M M' : zM} (h : ∀ k, zown2 k → M' k = M k) (hC : zD G M) : zD G M' := by
  obtain ⟨c1, c2, c3, c4, c5, c6, c7, c8, c9⟩ := hC
  have o : ∀ k, ((47 ≤ k ∧ k ≤ 57) ∨ k = 68 ∨ (74 ≤ k ∧ k ≤ 79)) → M' k = M k := h
  have o47 := o 47 (by omega)
  refine ⟨zTm_fr (by rw [o47]; exact ⟨rfl, rfl, rfl⟩) (fun k h1 h2 => o k (by omega)) c1, ?_, mU_fr (by rw [o47]) (o 68 (by omega)) c3, mIm_fr (o 79 (by omega)) (o 78 (by omega)) c4, ?_, ?_, mX_fr (by rw [o47]) (o 57 (by omega)) c7, mSn_fr (by rw [o47]) (o 74 (by omega)) (o 75 (by omega)) c8, mBk_fr (by rw [o47]) (o 76 (by omega)) (o 77 (by omega)) c9⟩
  · rw [o 56 (by omega)]; exact c2
  · rw [o47]; exact c5
  · rw [o47]; exact c6
theorem zD_frM {G : zG} {M M' : zM} (h : frM M M') (hC : zD G M) : zD G M' := zD_fr (fun k hk => h k (by unfold zown2 at hk; omega)) hC
/-- the place of an argument -/
def ix (i : Int32) (n : Nat) : Option Nat := if 0 ≤ i.toInt ∧ i.toInt < (n : Int) then some i.toInt.toNat else none
theorem ix_in {j n : Nat} (h : j < n) (hn : n < 2 ^ 31) : ix (nI j) n = some j := by
  unfold ix
  rw [nI_toInt (by omega), if_pos (by omega)]
  simp
theorem ix_out {i : Int32} {n : Nat} (hn : n < 2 ^ 31) (h : zout i n) : ix i n = none := by
  unfold ix
  rw [if_neg]
  intro q
  refine h i.toInt.toNat (by omega) ?_
  apply Int32.toInt_inj.mp
  rw [nI_toInt (by omega)]
  omega
def cUNK : Int32 := -1000000001
def cOUT : Int32 := -1000000002
def cNOT : Int32 := -1000000003
def cFUL : Int32 := -1000000004
