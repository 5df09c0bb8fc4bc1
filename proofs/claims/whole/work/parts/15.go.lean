/-! a run up to stops -/
def zmemb (k : Nat) : List Nat → Bool
  | [] => false
  | a :: r => bif Nat.beq a k then true else zmemb k r
def zrunS (f : zF) (Q : Option Value → zM → Prop) (K : Nat → zE → List Value → zM → Prop) (S : List Nat) : Nat → Nat → zE → List Value → zM → Prop
  | 0, pc, E, st, M => K pc E st M
  | n + 1, pc, E, st, M => bif zmemb pc S then K pc E st M else match zat f.2.2.2 pc with
    | some e => zstep f (zrunS f Q K S n) zCon Q e E st M
    | none => False
def zgo (f : zF) (Q : Option Value → zM → Prop) (S : List Nat) (n pc : Nat) (E : zE) (st : List Value) (M : zM) : Prop := match zat f.2.2.2 pc with
    | some e => zstep f (zrunS f Q (zEv f Q) S n) zCon Q e E st M
    | none => False
theorem zev_runS {f : zF} {Q : Option Value → zM → Prop} (hf : zOK f) {S : List Nat} : ∀ (n : Nat) {pc : Nat} {E : zE} {st : List Value} {M : zM}, zrunS f Q (zEv f Q) S n pc E st M → zEv f Q pc E st M := by
  intro n
  induction n with
  | zero => intro pc E st M h; exact h
  | succ n ih =>
    intro pc E st M h
    unfold zrunS at h
    cases hs : zmemb pc S with
    | true => rw [hs] at h; exact h
    | false =>
      rw [hs] at h
      simp only [cond_false] at h
      split at h
      · next e he =>
        obtain ⟨h1, h2⟩ := zat_of he
        rw [← h2]
        exact zstep_ok hf h1 (zstep_m (fun _ _ _ _ => ih) h)
      · exact h.elim
theorem zev_go {f : zF} {Q : Option Value → zM → Prop} (hf : zOK f) (S : List Nat) (n : Nat) {pc : Nat} {E : zE} {st : List Value} {M : zM} (h : zgo f Q S n pc E st M) : zEv f Q pc E st M := by
  unfold zgo at h
  split at h
  · next e he =>
    obtain ⟨h1, h2⟩ := zat_of he
    rw [← h2]
    exact zstep_ok hf h1 (zstep_m (fun _ _ _ _ => zev_runS hf n) h)
  · exact h.elim
theorem zix {P : Nat → Prop} {i : Int32} {n : Nat} (j : Nat) (e : i = nI j) (h : j < n) (k : P j) : ∃ j : Nat, i = nI j ∧ j < n ∧ P j := ⟨j, e, h, k⟩
