/-! each instruction by its row of the kit -/
theorem zs_iconst {f : zF} {Q : Option Value → zM → Prop} {pc : Nat} {E : zE} {st : List Value} {M : zM} {n : Int} {w : Int32} (hd : decode f.1.2.2 pc = .ok (.iconst n, 1)) (hw : Int32.ofInt n = w) (h : zEv f Q (pc + 1) E (.int w :: st) M) : zEv f Q pc E st M := by
  intro p l e s m args below meth c D cI cZ ad A X H locs ls hP hS hl
  obtain ⟨hx, hb, hr, hml, hown, hts, hlocks, hK, hin, hAd, hA, hN⟩ := id X
  exact lv_iconst hx hb hd hw (h p l e s m args below meth c D cI cZ ad A X H locs ls hP hS hl)
theorem zs_bipush {f : zF} {Q : Option Value → zM → Prop} {pc : Nat} {E : zE} {st : List Value} {M : zM} {n : Int} {w : Int32} (hd : decode f.1.2.2 pc = .ok (.bipush n, 2)) (hw : (Int8.ofInt n).toInt32 = w) (h : zEv f Q (pc + 2) E (.int w :: st) M) : zEv f Q pc E st M := by
  intro p l e s m args below meth c D cI cZ ad A X H locs ls hP hS hl
  obtain ⟨hx, hb, hr, hml, hown, hts, hlocks, hK, hin, hAd, hA, hN⟩ := id X
  exact lv_bipush hx hb hd hw (h p l e s m args below meth c D cI cZ ad A X H locs ls hP hS hl)
theorem zs_sipush {f : zF} {Q : Option Value → zM → Prop} {pc : Nat} {E : zE} {st : List Value} {M : zM} {n : Int} {w : Int32} (hd : decode f.1.2.2 pc = .ok (.sipush n, 3)) (hw : (Int16.ofInt n).toInt32 = w) (h : zEv f Q (pc + 3) E (.int w :: st) M) : zEv f Q pc E st M := by
  intro p l e s m args below meth c D cI cZ ad A X H locs ls hP hS hl
  obtain ⟨hx, hb, hr, hml, hown, hts, hlocks, hK, hin, hAd, hA, hN⟩ := id X
  exact lv_sipush hx hb hd hw (h p l e s m args below meth c D cI cZ ad A X H locs ls hP hS hl)
theorem zs_ldc {f : zF} {Q : Option Value → zM → Prop} {pc : Nat} {E : zE} {st : List Value} {M : zM} {n : Nat} {w : Int32} (hd : decode f.1.2.2 pc = .ok (.ldc n, 2)) (hw : .constant (zown f.1.1) n w ∈ zt) (h : zEv f Q (pc + 2) E (.int w :: st) M) : zEv f Q pc E st M := by
  intro p l e s m args below meth c D cI cZ ad A X H locs ls hP hS hl
  obtain ⟨hx, hb, hr, hml, hown, hts, hlocks, hK, hin, hAd, hA, hN⟩ := id X
  exact lv_ldc hx hb hown (hts _ hw) hd (h p l e s m args below meth c D cI cZ ad A X H locs ls hP hS hl)
theorem zs_ldc_w {f : zF} {Q : Option Value → zM → Prop} {pc : Nat} {E : zE} {st : List Value} {M : zM} {n : Nat} {w : Int32} (hd : decode f.1.2.2 pc = .ok (.ldc_w n, 3)) (hw : .constant (zown f.1.1) n w ∈ zt) (h : zEv f Q (pc + 3) E (.int w :: st) M) : zEv f Q pc E st M := by
  intro p l e s m args below meth c D cI cZ ad A X H locs ls hP hS hl
  obtain ⟨hx, hb, hr, hml, hown, hts, hlocks, hK, hin, hAd, hA, hN⟩ := id X
  exact lv_ldcw hx hb hown (hts _ hw) hd (h p l e s m args below meth c D cI cZ ad A X H locs ls hP hS hl)
theorem zs_ldc2 {f : zF} {Q : Option Value → zM → Prop} {pc : Nat} {E : zE} {st : List Value} {M : zM} {n : Nat} {a : Nat} (hd : decode f.1.2.2 pc = .ok (.ldc2_w n, 3)) (hw : .constantLong (zown f.1.1) n (lN a) ∈ zt) (h : zEv f Q (pc + 3) E (.long (lN a) :: st) M) : zEv f Q pc E st M := by
  intro p l e s m args below meth c D cI cZ ad A X H locs ls hP hS hl
  obtain ⟨hx, hb, hr, hml, hown, hts, hlocks, hK, hin, hAd, hA, hN⟩ := id X
  exact lv_ldc2 hx hb hown (hts _ hw) hd (h p l e s m args below meth c D cI cZ ad A X H locs ls hP hS hl)
theorem zs_lconst {f : zF} {Q : Option Value → zM → Prop} {pc : Nat} {E : zE} {st : List Value} {M : zM} {n : Fin 2} (hd : decode f.1.2.2 pc = .ok (.lconst n, 1)) (h : zEv f Q (pc + 1) E (.long (lN n.val) :: st) M) : zEv f Q pc E st M := by
  intro p l e s m args below meth c D cI cZ ad A X H locs ls hP hS hl
  obtain ⟨hx, hb, hr, hml, hown, hts, hlocks, hK, hin, hAd, hA, hN⟩ := id X
  exact lv_lconst hx hb hd rfl (h p l e s m args below meth c D cI cZ ad A X H locs ls hP hS hl)
theorem zs_iload {f : zF} {Q : Option Value → zM → Prop} {pc : Nat} {E : zE} {st : List Value} {M : zM} {k : Nat} (hd : decode f.1.2.2 pc = .ok (.iload k, 2)) (h : zgeti (fun x => zEv f Q (pc + 2) E (.int x :: st) M) (zl E k)) : zEv f Q pc E st M := by
  obtain ⟨x, hv, h⟩ := zgeti_of h
  intro p l e s m args below meth c D cI cZ ad A X H locs ls hP hS hl
  obtain ⟨hx, hb, hr, hml, hown, hts, hlocks, hK, hin, hAd, hA, hN⟩ := id X
  exact lv_iload hx hb hd (zl_has hl hv) (h p l e s m args below meth c D cI cZ ad A X H locs ls hP hS hl)
theorem zs_iload_n {f : zF} {Q : Option Value → zM → Prop} {pc : Nat} {E : zE} {st : List Value} {M : zM} {k : Fin 4} (hd : decode f.1.2.2 pc = .ok (.iload_n k, 1)) (h : zgeti (fun x => zEv f Q (pc + 1) E (.int x :: st) M) (zl E k.val)) : zEv f Q pc E st M := by
  obtain ⟨x, hv, h⟩ := zgeti_of h
  intro p l e s m args below meth c D cI cZ ad A X H locs ls hP hS hl
  obtain ⟨hx, hb, hr, hml, hown, hts, hlocks, hK, hin, hAd, hA, hN⟩ := id X
  exact lv_iload_n hx hb hd rfl (zl_has hl hv) (h p l e s m args below meth c D cI cZ ad A X H locs ls hP hS hl)
theorem zs_lload {f : zF} {Q : Option Value → zM → Prop} {pc : Nat} {E : zE} {st : List Value} {M : zM} {k : Nat} (hd : decode f.1.2.2 pc = .ok (.lload k, 2)) (h : zgetl (fun x => zEv f Q (pc + 2) E (.long x :: st) M) (zl E k)) : zEv f Q pc E st M := by
  obtain ⟨x, hv, h⟩ := zgetl_of h
  intro p l e s m args below meth c D cI cZ ad A X H locs ls hP hS hl
  obtain ⟨hx, hb, hr, hml, hown, hts, hlocks, hK, hin, hAd, hA, hN⟩ := id X
  exact lv_lload hx hb hd (zl_has hl hv) (h p l e s m args below meth c D cI cZ ad A X H locs ls hP hS hl)
theorem zs_lload_n {f : zF} {Q : Option Value → zM → Prop} {pc : Nat} {E : zE} {st : List Value} {M : zM} {k : Fin 4} (hd : decode f.1.2.2 pc = .ok (.lload_n k, 1)) (h : zgetl (fun x => zEv f Q (pc + 1) E (.long x :: st) M) (zl E k.val)) : zEv f Q pc E st M := by
  obtain ⟨x, hv, h⟩ := zgetl_of h
  intro p l e s m args below meth c D cI cZ ad A X H locs ls hP hS hl
  obtain ⟨hx, hb, hr, hml, hown, hts, hlocks, hK, hin, hAd, hA, hN⟩ := id X
  exact lv_lload_n hx hb hd rfl (zl_has hl hv) (h p l e s m args below meth c D cI cZ ad A X H locs ls hP hS hl)
theorem zs_aload_n {f : zF} {Q : Option Value → zM → Prop} {pc : Nat} {E : zE} {st : List Value} {M : zM} {k : Fin 4} (hd : decode f.1.2.2 pc = .ok (.aload_n k, 1)) (h : zgetr (fun x => zEv f Q (pc + 1) E (.ref x :: st) M) (zl E k.val)) : zEv f Q pc E st M := by
  obtain ⟨x, hv, h⟩ := zgetr_of h
  intro p l e s m args below meth c D cI cZ ad A X H locs ls hP hS hl
  obtain ⟨hx, hb, hr, hml, hown, hts, hlocks, hK, hin, hAd, hA, hN⟩ := id X
  exact lv_aload_n hx hb hd rfl (zl_has hl hv) (h p l e s m args below meth c D cI cZ ad A X H locs ls hP hS hl)
theorem zs_istore {f : zF} {Q : Option Value → zM → Prop} {pc : Nat} {E : zE} {st : List Value} {M : zM} {k : Nat} (hd : decode f.1.2.2 pc = .ok (.istore k, 2)) (h : zi1 (fun x st => bif Nat.blt k f.2.1.1 then zEv f Q (pc + 2) (zins k (.int x) (zdel k E)) st M else False) st) : zEv f Q pc E st M := by
  obtain ⟨x, r, rfl, h⟩ := zi1_of h
  obtain ⟨hn, h⟩ := zbif_of h
  intro p l e s m args below meth c D cI cZ ad A X H locs ls hP hS hl
  obtain ⟨hx, hb, hr, hml, hown, hts, hlocks, hK, hin, hAd, hA, hN⟩ := id X
  exact lv_istore hx hb hd hl (Nat.blt_eq.mp hn) rfl (fun ls' hl' => h p l e s m args below meth c D cI cZ ad A X H locs ls' hP hS (zst_has (v := .int x) hl'))
theorem zs_istore_n {f : zF} {Q : Option Value → zM → Prop} {pc : Nat} {E : zE} {st : List Value} {M : zM} {k : Fin 4} (hd : decode f.1.2.2 pc = .ok (.istore_n k, 1)) (h : zi1 (fun x st => bif Nat.blt k.val f.2.1.1 then zEv f Q (pc + 1) (zins k.val (.int x) (zdel k.val E)) st M else False) st) : zEv f Q pc E st M := by
  obtain ⟨x, r, rfl, h⟩ := zi1_of h
  obtain ⟨hn, h⟩ := zbif_of h
  intro p l e s m args below meth c D cI cZ ad A X H locs ls hP hS hl
  obtain ⟨hx, hb, hr, hml, hown, hts, hlocks, hK, hin, hAd, hA, hN⟩ := id X
  exact lv_istore_n hx hb hd rfl hl (Nat.blt_eq.mp hn) rfl (fun ls' hl' => h p l e s m args below meth c D cI cZ ad A X H locs ls' hP hS (zst_has (v := .int x) hl'))
theorem zs_astore_n {f : zF} {Q : Option Value → zM → Prop} {pc : Nat} {E : zE} {st : List Value} {M : zM} {k : Fin 4} (hd : decode f.1.2.2 pc = .ok (.astore_n k, 1)) (h : zr1 (fun x st => bif Nat.blt k.val f.2.1.1 then zEv f Q (pc + 1) (zins k.val (.ref x) (zdel k.val E)) st M else False) st) : zEv f Q pc E st M := by
  obtain ⟨x, r, rfl, h⟩ := zr1_of h
  obtain ⟨hn, h⟩ := zbif_of h
  intro p l e s m args below meth c D cI cZ ad A X H locs ls hP hS hl
  obtain ⟨hx, hb, hr, hml, hown, hts, hlocks, hK, hin, hAd, hA, hN⟩ := id X
  exact lv_astore_n hx hb hd rfl hl (Nat.blt_eq.mp hn) rfl (fun ls' hl' => h p l e s m args below meth c D cI cZ ad A X H locs ls' hP hS (zst_has (v := .ref x) hl'))
theorem zs_lstore_n {f : zF} {Q : Option Value → zM → Prop} {pc : Nat} {E : zE} {st : List Value} {M : zM} {k : Fin 4} (hd : decode f.1.2.2 pc = .ok (.lstore_n k, 1)) (h : zj1 (fun x st => bif Nat.blt (k.val + 1) f.2.1.1 then zEv f Q (pc + 1) (zins k.val (.long x) (zdel2 k.val E)) st M else False) st) : zEv f Q pc E st M := by
  obtain ⟨x, r, rfl, h⟩ := zj1_of h
  obtain ⟨hn, h⟩ := zbif_of h
  intro p l e s m args below meth c D cI cZ ad A X H locs ls hP hS hl
  obtain ⟨hx, hb, hr, hml, hown, hts, hlocks, hK, hin, hAd, hA, hN⟩ := id X
  exact lv_lstore_n hx hb hd rfl hl (Nat.blt_eq.mp hn) rfl (fun ls' hl' => h p l e s m args below meth c D cI cZ ad A X H locs ls' hP hS (zst2_has (v := .long x) hl'))
theorem zl_mem {E : zE} {k : Nat} {v : Value} (hv : zl E k = some v) : (k, v) ∈ E := by
  induction E with
  | nil => cases hv
  | cons q r ih =>
    simp only [zl] at hv
    by_cases hq : Nat.beq q.1 k = true
    · rw [hq] at hv
      have e : q.1 = k := Nat.eq_of_beq_eq_true hq
      cases hv
      rw [← e]
      exact List.mem_cons_self
    · rw [Bool.not_eq_true] at hq
      rw [hq] at hv
      exact List.mem_cons_of_mem _ (ih hv)
theorem zs_iinc {f : zF} {Q : Option Value → zM → Prop} {pc : Nat} {E : zE} {st : List Value} {M : zM} {k : Nat} {n : Int} {w : Int32} (hd : decode f.1.2.2 pc = .ok (.iinc k n, 3)) (hw : Int32.ofInt n = w) (h : zgeti (fun x => bif Nat.blt k f.2.1.1 then zEv f Q (pc + 3) (zins k (.int (x + w)) (zdel k E)) st M else False) (zl E k)) : zEv f Q pc E st M := by
  obtain ⟨x, hv, h⟩ := zgeti_of h
  obtain ⟨hn, h⟩ := zbif_of h
  intro p l e s m args below meth c D cI cZ ad A X H locs ls hP hS hl
  obtain ⟨hx, hb, hr, hml, hown, hts, hlocks, hK, hin, hAd, hA, hN⟩ := id X
  have hm : (k, Value.int x) ∈ zEm ad E := List.mem_map.mpr ⟨(k, .int x), zl_mem hv, rfl⟩
  obtain ⟨j, hj⟩ := List.getElem?_of_mem hm
  exact lv_iinc (v := x + w) hx hb hd hl hj (by rw [hw]) (Nat.blt_eq.mp hn) rfl (fun ls' hl' => h p l e s m args below meth c D cI cZ ad A X H locs ls' hP hS (zst_has (v := .int (x + w)) hl'))
theorem zs_iadd {f : zF} {Q : Option Value → zM → Prop} {pc : Nat} {E : zE} {st : List Value} {M : zM} (hd : decode f.1.2.2 pc = .ok (.iadd, 1)) (h : zi2 (fun x y st => zEv f Q (pc + 1) E (.int (x + y) :: st) M) st) : zEv f Q pc E st M := by
  obtain ⟨x, y, r, rfl, h⟩ := zi2_of h
  intro p l e s m args below meth c D cI cZ ad A X H locs ls hP hS hl
  obtain ⟨hx, hb, hr, hml, hown, hts, hlocks, hK, hin, hAd, hA, hN⟩ := id X
  exact lv_iadd hx hb hd (h p l e s m args below meth c D cI cZ ad A X H locs ls hP hS hl)
theorem zs_isub {f : zF} {Q : Option Value → zM → Prop} {pc : Nat} {E : zE} {st : List Value} {M : zM} (hd : decode f.1.2.2 pc = .ok (.isub, 1)) (h : zi2 (fun x y st => zEv f Q (pc + 1) E (.int (x - y) :: st) M) st) : zEv f Q pc E st M := by
  obtain ⟨x, y, r, rfl, h⟩ := zi2_of h
  intro p l e s m args below meth c D cI cZ ad A X H locs ls hP hS hl
  obtain ⟨hx, hb, hr, hml, hown, hts, hlocks, hK, hin, hAd, hA, hN⟩ := id X
  exact lv_isub hx hb hd (h p l e s m args below meth c D cI cZ ad A X H locs ls hP hS hl)
theorem zs_imul {f : zF} {Q : Option Value → zM → Prop} {pc : Nat} {E : zE} {st : List Value} {M : zM} (hd : decode f.1.2.2 pc = .ok (.imul, 1)) (h : zi2 (fun x y st => zEv f Q (pc + 1) E (.int (x * y) :: st) M) st) : zEv f Q pc E st M := by
  obtain ⟨x, y, r, rfl, h⟩ := zi2_of h
  intro p l e s m args below meth c D cI cZ ad A X H locs ls hP hS hl
  obtain ⟨hx, hb, hr, hml, hown, hts, hlocks, hK, hin, hAd, hA, hN⟩ := id X
  exact lv_imul hx hb hd (h p l e s m args below meth c D cI cZ ad A X H locs ls hP hS hl)
theorem zs_iand {f : zF} {Q : Option Value → zM → Prop} {pc : Nat} {E : zE} {st : List Value} {M : zM} (hd : decode f.1.2.2 pc = .ok (.iand, 1)) (h : zi2 (fun x y st => zEv f Q (pc + 1) E (.int (x &&& y) :: st) M) st) : zEv f Q pc E st M := by
  obtain ⟨x, y, r, rfl, h⟩ := zi2_of h
  intro p l e s m args below meth c D cI cZ ad A X H locs ls hP hS hl
  obtain ⟨hx, hb, hr, hml, hown, hts, hlocks, hK, hin, hAd, hA, hN⟩ := id X
  exact lv_iand hx hb hd (h p l e s m args below meth c D cI cZ ad A X H locs ls hP hS hl)
theorem zs_ior {f : zF} {Q : Option Value → zM → Prop} {pc : Nat} {E : zE} {st : List Value} {M : zM} (hd : decode f.1.2.2 pc = .ok (.ior, 1)) (h : zi2 (fun x y st => zEv f Q (pc + 1) E (.int (x ||| y) :: st) M) st) : zEv f Q pc E st M := by
  obtain ⟨x, y, r, rfl, h⟩ := zi2_of h
  intro p l e s m args below meth c D cI cZ ad A X H locs ls hP hS hl
  obtain ⟨hx, hb, hr, hml, hown, hts, hlocks, hK, hin, hAd, hA, hN⟩ := id X
  exact lv_ior hx hb hd (h p l e s m args below meth c D cI cZ ad A X H locs ls hP hS hl)
theorem zs_ixor {f : zF} {Q : Option Value → zM → Prop} {pc : Nat} {E : zE} {st : List Value} {M : zM} (hd : decode f.1.2.2 pc = .ok (.ixor, 1)) (h : zi2 (fun x y st => zEv f Q (pc + 1) E (.int (x ^^^ y) :: st) M) st) : zEv f Q pc E st M := by
  obtain ⟨x, y, r, rfl, h⟩ := zi2_of h
  intro p l e s m args below meth c D cI cZ ad A X H locs ls hP hS hl
  obtain ⟨hx, hb, hr, hml, hown, hts, hlocks, hK, hin, hAd, hA, hN⟩ := id X
  exact lv_ixor hx hb hd (h p l e s m args below meth c D cI cZ ad A X H locs ls hP hS hl)
theorem zs_ishl {f : zF} {Q : Option Value → zM → Prop} {pc : Nat} {E : zE} {st : List Value} {M : zM} (hd : decode f.1.2.2 pc = .ok (.ishl, 1)) (h : zi2 (fun x y st => zEv f Q (pc + 1) E (.int (zshl x y) :: st) M) st) : zEv f Q pc E st M := by
  obtain ⟨x, y, r, rfl, h⟩ := zi2_of h
  intro p l e s m args below meth c D cI cZ ad A X H locs ls hP hS hl
  obtain ⟨hx, hb, hr, hml, hown, hts, hlocks, hK, hin, hAd, hA, hN⟩ := id X
  exact lv_ishl hx hb hd (h p l e s m args below meth c D cI cZ ad A X H locs ls hP hS hl)
theorem zs_ishr {f : zF} {Q : Option Value → zM → Prop} {pc : Nat} {E : zE} {st : List Value} {M : zM} (hd : decode f.1.2.2 pc = .ok (.ishr, 1)) (h : zi2 (fun x y st => zEv f Q (pc + 1) E (.int (zshr x y) :: st) M) st) : zEv f Q pc E st M := by
  obtain ⟨x, y, r, rfl, h⟩ := zi2_of h
  intro p l e s m args below meth c D cI cZ ad A X H locs ls hP hS hl
  obtain ⟨hx, hb, hr, hml, hown, hts, hlocks, hK, hin, hAd, hA, hN⟩ := id X
  exact lv_ishr hx hb hd (h p l e s m args below meth c D cI cZ ad A X H locs ls hP hS hl)
theorem zs_iushr {f : zF} {Q : Option Value → zM → Prop} {pc : Nat} {E : zE} {st : List Value} {M : zM} (hd : decode f.1.2.2 pc = .ok (.iushr, 1)) (h : zi2 (fun x y st => zEv f Q (pc + 1) E (.int (zushr x y) :: st) M) st) : zEv f Q pc E st M := by
  obtain ⟨x, y, r, rfl, h⟩ := zi2_of h
  intro p l e s m args below meth c D cI cZ ad A X H locs ls hP hS hl
  obtain ⟨hx, hb, hr, hml, hown, hts, hlocks, hK, hin, hAd, hA, hN⟩ := id X
  exact lv_iushr (v := zushr x y) hx hb hd rfl (h p l e s m args below meth c D cI cZ ad A X H locs ls hP hS hl)
theorem zs_idiv {f : zF} {Q : Option Value → zM → Prop} {pc : Nat} {E : zE} {st : List Value} {M : zM} (hd : decode f.1.2.2 pc = .ok (.idiv, 1)) (h : zi2 (fun x y st => ¬ y = 0 ∧ zEv f Q (pc + 1) E (.int (x / y) :: st) M) st) : zEv f Q pc E st M := by
  obtain ⟨x, y, r, rfl, h0, h⟩ := zi2_of h
  intro p l e s m args below meth c D cI cZ ad A X H locs ls hP hS hl
  obtain ⟨hx, hb, hr, hml, hown, hts, hlocks, hK, hin, hAd, hA, hN⟩ := id X
  exact lv_idiv hx hb hd h0 (h p l e s m args below meth c D cI cZ ad A X H locs ls hP hS hl)
theorem zs_irem {f : zF} {Q : Option Value → zM → Prop} {pc : Nat} {E : zE} {st : List Value} {M : zM} (hd : decode f.1.2.2 pc = .ok (.irem, 1)) (h : zi2 (fun x y st => ¬ y = 0 ∧ zEv f Q (pc + 1) E (.int (zrem x y) :: st) M) st) : zEv f Q pc E st M := by
  obtain ⟨x, y, r, rfl, h0, h⟩ := zi2_of h
  intro p l e s m args below meth c D cI cZ ad A X H locs ls hP hS hl
  obtain ⟨hx, hb, hr, hml, hown, hts, hlocks, hK, hin, hAd, hA, hN⟩ := id X
  exact lv_irem hx hb hd h0 (h p l e s m args below meth c D cI cZ ad A X H locs ls hP hS hl)
theorem zs_ladd {f : zF} {Q : Option Value → zM → Prop} {pc : Nat} {E : zE} {st : List Value} {M : zM} (hd : decode f.1.2.2 pc = .ok (.ladd, 1)) (h : zj2 (fun x y st => zEv f Q (pc + 1) E (.long (x + y) :: st) M) st) : zEv f Q pc E st M := by
  obtain ⟨x, y, r, rfl, h⟩ := zj2_of h
  intro p l e s m args below meth c D cI cZ ad A X H locs ls hP hS hl
  obtain ⟨hx, hb, hr, hml, hown, hts, hlocks, hK, hin, hAd, hA, hN⟩ := id X
  exact lv_ladd hx hb hd (h p l e s m args below meth c D cI cZ ad A X H locs ls hP hS hl)
theorem zs_lmul {f : zF} {Q : Option Value → zM → Prop} {pc : Nat} {E : zE} {st : List Value} {M : zM} (hd : decode f.1.2.2 pc = .ok (.lmul, 1)) (h : zj2 (fun x y st => zEv f Q (pc + 1) E (.long (x * y) :: st) M) st) : zEv f Q pc E st M := by
  obtain ⟨x, y, r, rfl, h⟩ := zj2_of h
  intro p l e s m args below meth c D cI cZ ad A X H locs ls hP hS hl
  obtain ⟨hx, hb, hr, hml, hown, hts, hlocks, hK, hin, hAd, hA, hN⟩ := id X
  exact lv_lmul hx hb hd (h p l e s m args below meth c D cI cZ ad A X H locs ls hP hS hl)
theorem zs_land {f : zF} {Q : Option Value → zM → Prop} {pc : Nat} {E : zE} {st : List Value} {M : zM} (hd : decode f.1.2.2 pc = .ok (.land, 1)) (h : zj2 (fun x y st => zEv f Q (pc + 1) E (.long (x &&& y) :: st) M) st) : zEv f Q pc E st M := by
  obtain ⟨x, y, r, rfl, h⟩ := zj2_of h
  intro p l e s m args below meth c D cI cZ ad A X H locs ls hP hS hl
  obtain ⟨hx, hb, hr, hml, hown, hts, hlocks, hK, hin, hAd, hA, hN⟩ := id X
  exact lv_land hx hb hd (h p l e s m args below meth c D cI cZ ad A X H locs ls hP hS hl)
theorem zs_ldiv {f : zF} {Q : Option Value → zM → Prop} {pc : Nat} {E : zE} {st : List Value} {M : zM} (hd : decode f.1.2.2 pc = .ok (.ldiv, 1)) (h : zj2 (fun x y st => ¬ y = 0 ∧ zEv f Q (pc + 1) E (.long (x / y) :: st) M) st) : zEv f Q pc E st M := by
  obtain ⟨x, y, r, rfl, h0, h⟩ := zj2_of h
  intro p l e s m args below meth c D cI cZ ad A X H locs ls hP hS hl
  obtain ⟨hx, hb, hr, hml, hown, hts, hlocks, hK, hin, hAd, hA, hN⟩ := id X
  exact lv_ldiv hx hb hd h0 (h p l e s m args below meth c D cI cZ ad A X H locs ls hP hS hl)
theorem zs_lrem {f : zF} {Q : Option Value → zM → Prop} {pc : Nat} {E : zE} {st : List Value} {M : zM} (hd : decode f.1.2.2 pc = .ok (.lrem, 1)) (h : zj2 (fun x y st => ¬ y = 0 ∧ zEv f Q (pc + 1) E (.long (zremL x y) :: st) M) st) : zEv f Q pc E st M := by
  obtain ⟨x, y, r, rfl, h0, h⟩ := zj2_of h
  intro p l e s m args below meth c D cI cZ ad A X H locs ls hP hS hl
  obtain ⟨hx, hb, hr, hml, hown, hts, hlocks, hK, hin, hAd, hA, hN⟩ := id X
  exact lv_lrem hx hb hd h0 (h p l e s m args below meth c D cI cZ ad A X H locs ls hP hS hl)
theorem zs_lcmp {f : zF} {Q : Option Value → zM → Prop} {pc : Nat} {E : zE} {st : List Value} {M : zM} (hd : decode f.1.2.2 pc = .ok (.lcmp, 1)) (h : zj2 (fun x y st => zEv f Q (pc + 1) E (.int (lg_cmp x y) :: st) M) st) : zEv f Q pc E st M := by
  obtain ⟨x, y, r, rfl, h⟩ := zj2_of h
  intro p l e s m args below meth c D cI cZ ad A X H locs ls hP hS hl
  obtain ⟨hx, hb, hr, hml, hown, hts, hlocks, hK, hin, hAd, hA, hN⟩ := id X
  exact W.lcmp hx hb hd (h p l e s m args below meth c D cI cZ ad A X H locs ls hP hS hl)
theorem zs_i2l {f : zF} {Q : Option Value → zM → Prop} {pc : Nat} {E : zE} {st : List Value} {M : zM} (hd : decode f.1.2.2 pc = .ok (.i2l, 1)) (h : zi1 (fun x st => zEv f Q (pc + 1) E (.long x.toInt64 :: st) M) st) : zEv f Q pc E st M := by
  obtain ⟨x, r, rfl, h⟩ := zi1_of h
  intro p l e s m args below meth c D cI cZ ad A X H locs ls hP hS hl
  obtain ⟨hx, hb, hr, hml, hown, hts, hlocks, hK, hin, hAd, hA, hN⟩ := id X
  exact lv_i2l hx hb hd rfl (h p l e s m args below meth c D cI cZ ad A X H locs ls hP hS hl)
theorem zs_l2i {f : zF} {Q : Option Value → zM → Prop} {pc : Nat} {E : zE} {st : List Value} {M : zM} (hd : decode f.1.2.2 pc = .ok (.l2i, 1)) (h : zj1 (fun x st => zEv f Q (pc + 1) E (.int x.toInt32 :: st) M) st) : zEv f Q pc E st M := by
  obtain ⟨x, r, rfl, h⟩ := zj1_of h
  intro p l e s m args below meth c D cI cZ ad A X H locs ls hP hS hl
  obtain ⟨hx, hb, hr, hml, hown, hts, hlocks, hK, hin, hAd, hA, hN⟩ := id X
  exact lv_l2i hx hb hd rfl (h p l e s m args below meth c D cI cZ ad A X H locs ls hP hS hl)
theorem zs_dup {f : zF} {Q : Option Value → zM → Prop} {pc : Nat} {E : zE} {st : List Value} {M : zM} (hd : decode f.1.2.2 pc = .ok (.dup, 1)) (h : zdup (fun st => zEv f Q (pc + 1) E st M) st) : zEv f Q pc E st M := by
  unfold zdup at h; split at h
  · next x r =>
    intro p l e s m args below meth c D cI cZ ad A X H locs ls hP hS hl
    obtain ⟨hx, hb, hr, hml, hown, hts, hlocks, hK, hin, hAd, hA, hN⟩ := id X
    exact lv_dup hx hb hd rfl (h p l e s m args below meth c D cI cZ ad A X H locs ls hP hS hl)
  · next x r =>
    intro p l e s m args below meth c D cI cZ ad A X H locs ls hP hS hl
    obtain ⟨hx, hb, hr, hml, hown, hts, hlocks, hK, hin, hAd, hA, hN⟩ := id X
    exact lv_dup hx hb hd rfl (h p l e s m args below meth c D cI cZ ad A X H locs ls hP hS hl)
  · exact h.elim
theorem zs_dup2 {f : zF} {Q : Option Value → zM → Prop} {pc : Nat} {E : zE} {st : List Value} {M : zM} (hd : decode f.1.2.2 pc = .ok (.dup2, 1)) (h : zir (fun y x st => zEv f Q (pc + 1) E (.int y :: .ref x :: .int y :: .ref x :: st) M) st) : zEv f Q pc E st M := by
  obtain ⟨y, x, r, rfl, h⟩ := zir_of h
  intro p l e s m args below meth c D cI cZ ad A X H locs ls hP hS hl
  obtain ⟨hx, hb, hr, hml, hown, hts, hlocks, hK, hin, hAd, hA, hN⟩ := id X
  exact lv_dup2_11 hx hb hd rfl rfl (h p l e s m args below meth c D cI cZ ad A X H locs ls hP hS hl)
theorem zs_pop {f : zF} {Q : Option Value → zM → Prop} {pc : Nat} {E : zE} {st : List Value} {M : zM} (hd : decode f.1.2.2 pc = .ok (.pop, 1)) (h : zi1 (fun _ st => zEv f Q (pc + 1) E st M) st) : zEv f Q pc E st M := by
  obtain ⟨x, r, rfl, h⟩ := zi1_of h
  intro p l e s m args below meth c D cI cZ ad A X H locs ls hP hS hl
  obtain ⟨hx, hb, hr, hml, hown, hts, hlocks, hK, hin, hAd, hA, hN⟩ := id X
  exact lv_pop hx hb hd rfl (h p l e s m args below meth c D cI cZ ad A X H locs ls hP hS hl)
theorem zs_goto {f : zF} {Q : Option Value → zM → Prop} {pc : Nat} {E : zE} {st : List Value} {M : zM} {n : Int} {a : Nat} (hd : decode f.1.2.2 pc = .ok (.goto n, 3)) (ha : (pc : Int) + n = (a : Int)) (h : zEv f Q a E st M) : zEv f Q pc E st M := by
  intro p l e s m args below meth c D cI cZ ad A X H locs ls hP hS hl
  obtain ⟨hx, hb, hr, hml, hown, hts, hlocks, hK, hin, hAd, hA, hN⟩ := id X
  exact lv_goto hx hb hd ha (h p l e s m args below meth c D cI cZ ad A X H locs ls hP hS hl)
theorem zs_ifCond {f : zF} {Q : Option Value → zM → Prop} {pc : Nat} {E : zE} {st : List Value} {M : zM} {cn : ClassFile.Cond} {n : Int} {a : Nat} (hd : decode f.1.2.2 pc = .ok (.ifCond cn n, 3)) (ha : (pc : Int) + n = (a : Int)) (h : zi1 (fun x st => zcmp cn x 0 (zEv f Q a E st M) (zEv f Q (pc + 3) E st M)) st) : zEv f Q pc E st M := by
  obtain ⟨x, r, rfl, h⟩ := zi1_of h
  intro p l e s m args below meth c D cI cZ ad A X H locs ls hP hS hl
  obtain ⟨hx, hb, hr, hml, hown, hts, hlocks, hK, hin, hAd, hA, hN⟩ := id X
  cases cn with
  | eq => exact lv_if_eq hx hb hd ha (fun k => h.1 k p l e s m args below meth c D cI cZ ad A X H locs ls hP hS hl) (fun k => h.2 k p l e s m args below meth c D cI cZ ad A X H locs ls hP hS hl)
  | ne => exact lv_if_ne hx hb hd ha (fun k => h.1 k p l e s m args below meth c D cI cZ ad A X H locs ls hP hS hl) (fun k => h.2 k p l e s m args below meth c D cI cZ ad A X H locs ls hP hS hl)
  | lt => exact lv_if_lt hx hb hd ha (fun k => h.1 k p l e s m args below meth c D cI cZ ad A X H locs ls hP hS hl) (fun k => h.2 k p l e s m args below meth c D cI cZ ad A X H locs ls hP hS hl)
  | ge => exact lv_if_ge hx hb hd ha (fun k => h.1 (Int32.not_lt.mpr k) p l e s m args below meth c D cI cZ ad A X H locs ls hP hS hl) (fun k => h.2 (Int32.not_le.mp k) p l e s m args below meth c D cI cZ ad A X H locs ls hP hS hl)
  | gt => exact lv_if_gt hx hb hd ha (fun k => h.1 k p l e s m args below meth c D cI cZ ad A X H locs ls hP hS hl) (fun k => h.2 k p l e s m args below meth c D cI cZ ad A X H locs ls hP hS hl)
  | le => exact lv_if_le hx hb hd ha (fun k => h.1 (Int32.not_lt.mpr k) p l e s m args below meth c D cI cZ ad A X H locs ls hP hS hl) (fun k => h.2 (Int32.not_le.mp k) p l e s m args below meth c D cI cZ ad A X H locs ls hP hS hl)
theorem zs_if_icmp {f : zF} {Q : Option Value → zM → Prop} {pc : Nat} {E : zE} {st : List Value} {M : zM} {cn : ClassFile.Cond} {n : Int} {a : Nat} (hd : decode f.1.2.2 pc = .ok (.if_icmp cn n, 3)) (ha : (pc : Int) + n = (a : Int)) (h : zi2 (fun x y st => zcmp cn x y (zEv f Q a E st M) (zEv f Q (pc + 3) E st M)) st) : zEv f Q pc E st M := by
  obtain ⟨x, y, r, rfl, h⟩ := zi2_of h
  intro p l e s m args below meth c D cI cZ ad A X H locs ls hP hS hl
  obtain ⟨hx, hb, hr, hml, hown, hts, hlocks, hK, hin, hAd, hA, hN⟩ := id X
  cases cn with
  | eq => exact lv_icmp_eq hx hb hd ha (fun k => h.1 k p l e s m args below meth c D cI cZ ad A X H locs ls hP hS hl) (fun k => h.2 k p l e s m args below meth c D cI cZ ad A X H locs ls hP hS hl)
  | ne => exact lv_icmp_ne hx hb hd ha (fun k => h.1 k p l e s m args below meth c D cI cZ ad A X H locs ls hP hS hl) (fun k => h.2 k p l e s m args below meth c D cI cZ ad A X H locs ls hP hS hl)
  | lt => exact lv_icmp_lt hx hb hd ha (fun k => h.1 k p l e s m args below meth c D cI cZ ad A X H locs ls hP hS hl) (fun k => h.2 k p l e s m args below meth c D cI cZ ad A X H locs ls hP hS hl)
  | ge => exact lv_icmp_ge hx hb hd ha (fun k => h.1 (Int32.not_lt.mpr k) p l e s m args below meth c D cI cZ ad A X H locs ls hP hS hl) (fun k => h.2 (Int32.not_le.mp k) p l e s m args below meth c D cI cZ ad A X H locs ls hP hS hl)
  | gt => exact lv_icmp_gt hx hb hd ha (fun k => h.1 k p l e s m args below meth c D cI cZ ad A X H locs ls hP hS hl) (fun k => h.2 k p l e s m args below meth c D cI cZ ad A X H locs ls hP hS hl)
  | le => exact lv_icmp_le hx hb hd ha (fun k => h.1 (Int32.not_lt.mpr k) p l e s m args below meth c D cI cZ ad A X H locs ls hP hS hl) (fun k => h.2 (Int32.not_le.mp k) p l e s m args below meth c D cI cZ ad A X H locs ls hP hS hl)
theorem zsw_of {K : Nat → Prop} {x : Int32} {pc : Nat} : ∀ {l : List Int} {j i : Nat} {o : Int}, zsw K x pc l j → l[i]? = some o → x = nI (j + i) → K ((pc : Int) + o).toNat := by
  intro l
  induction l with
  | nil => intro j i o h hi hx; simp at hi
  | cons a r ih =>
    intro j i o h hi hx
    cases i with
    | zero => cases hi; exact h.1 hx
    | succ i => exact ih h.2 hi (by rw [hx, show j + 1 + i = j + (i + 1) by omega])
theorem zs_tableswitch {f : zF} {Q : Option Value → zM → Prop} {pc : Nat} {E : zE} {st : List Value} {M : zM} {d lo hi : Int} {offs : Array Int} {len a : Nat} (hd : decode f.1.2.2 pc = .ok (.tableswitch d lo hi offs, len)) (h0 : lo = 0) (h1 : hi + 1 = offs.size) (ha : (pc : Int) + d = (a : Int)) (ho : ∀ o ∈ offs.toList, 0 ≤ (pc : Int) + o) (hz : offs.size < 2 ^ 31) (h : zi1 (fun x st => zsw (fun t => zEv f Q t E st M) x pc offs.toList 0 ∧ ((x < 0 ∨ nI offs.size ≤ x) → zEv f Q a E st M)) st) : zEv f Q pc E st M := by
  obtain ⟨x, r, rfl, h, h'⟩ := zi1_of h
  intro p l e s m args below meth c D cI cZ ad A X H locs ls hP hS hl
  obtain ⟨hx, hb, hr, hml, hown, hts, hlocks, hK, hin, hAd, hA, hN⟩ := id X
  subst h0
  by_cases hc : x.toInt < 0 ∨ hi < x.toInt
  · refine lv_tableOut hx hb hd hc ha (h' ?_ p l e s m args below meth c D cI cZ ad A X H locs ls hP hS hl)
    rcases hc with hc | hc
    · exact Or.inl (Int32.lt_iff_toInt_lt.mpr (by simpa using hc))
    · exact Or.inr (Int32.le_iff_toInt_le.mpr (by rw [nI_toInt hz]; omega))
  · have hc1 : ¬ x.toInt < 0 := fun q => hc (Or.inl q)
    have hc2 : ¬ hi < x.toInt := fun q => hc (Or.inr q)
    have hi' : (x.toInt - 0).toNat < offs.toList.length := by rw [Array.length_toList]; omega
    obtain ⟨o, hoo⟩ : ∃ o, offs.toList[(x.toInt - 0).toNat]? = some o := ⟨_, List.getElem?_eq_getElem hi'⟩
    have hpos := ho o (List.mem_of_getElem? hoo)
    have hxe : x = nI (0 + (x.toInt - 0).toNat) := by
      apply Int32.toInt_inj.mp
      rw [nI_toInt (by rw [Array.length_toList] at hi'; omega)]
      omega
    refine lv_tableIn (off := o) (tgt := ((pc : Int) + o).toNat) hx hb hd hc1 hc2 (by rw [← Array.getElem?_toList]; exact hoo) (by omega) ?_
    exact (zsw_of h hoo hxe) p l e s m args below meth c D cI cZ ad A X H locs ls hP hS hl
