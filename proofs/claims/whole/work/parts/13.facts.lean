/-! the methods are as the tables say; a run of steps -/
theorem zip_mem {α β : Type} {P : α × β → Prop} : ∀ {l1 : List α} {l2 : List β}, l1.length ≤ l2.length → (∀ q ∈ l1.zip l2, P q) → ∀ x ∈ l1, ∃ p, P (x, p) := by
  intro l1
  induction l1 with
  | nil => intro l2 _ _ x hx; cases hx
  | cons a r ih =>
    intro l2 hl h x hx
    cases l2 with
    | nil => simp at hl
    | cons b t =>
      rcases List.mem_cons.mp hx with rfl | hx
      · exact ⟨b, h (x, b) (by simp)⟩
      · exact ih (by simpa using hl) (fun q hq => h q (by simp [hq])) x hx
theorem zKL_in : ∀ q ∈ zKL, .constant (zown q.1) q.2.1 q.2.2 ∈ zt := fun q hq => by
  obtain ⟨p, h⟩ := zip_mem (by decide +kernel) zKL_ok q hq
  exact zin_of h
theorem zKLL_in : ∀ q ∈ zKLL, .constantLong (zown q.1) q.2.1 (lN q.2.2) ∈ zt := fun q hq => by
  obtain ⟨p, h⟩ := zip_mem (by decide +kernel) zKLL_ok q hq
  exact zin_of h
theorem zFL_in : ∀ q ∈ zFL, zokFL q := by
  intro q hq
  obtain ⟨p, h⟩ := zip_mem (by decide +kernel) zFL_okb q hq
  unfold zokFLb at h
  rw [Bool.and_eq_true, decide_eq_true_eq] at h
  refine ⟨h.1, ?_⟩
  have h2 := h.2
  split at h2
  · next r hr =>
    rw [Bool.and_eq_true, decide_eq_true_eq] at h2
    have hr' : vwCl[q.2.2.1]? = some r := hr
    rw [hr']
    exact ⟨h2.1, zin_of h2.2⟩
  · cases h2
def zswb (e : zI) : Bool := match e.2.1 with
  | .tableswitch _ _ _ offs => decide (offs.size < 2 ^ 31)
  | _ => true
def zOK (f : zF) : Prop := zokF f ∧ f.2.2.2.all zswb = true
def zflv (g : zF) (s : Bool) : Prop := bif s then .static g.1.2.1 ∈ zt else (.instanceMethod g.1.2.1 ∈ zt ∧ .selects g.1.2.1.cls g.1.2.1 g.1.2.1 ∈ zt)
theorem zmb_of {g : zF} {s : Bool} {p1 p2 p3 p4 : Nat × Nat} (h : zmb g s p1 p2 p3 p4 = true) : zflv g s ∧ (.code g.1.2.1 g.1.2.2 g.2.1.1 g.2.1.2 ∈ zt ∧ plainName g.1.2.1.cls = true ∧ g.1.2.1.cls = zown g.1.1 ∧ (g.1.2.1.cls ≠ "java/lang/invoke/MethodHandle" ∧ g.1.2.1.cls ≠ "java/lang/invoke/VarHandle") ∧ .initialized g.1.2.1.cls ∈ zt) := by
  unfold zmb at h
  simp only [Bool.and_eq_true, decide_eq_true_eq] at h
  obtain ⟨h1, h2, h3, h4, h5, h6, h7⟩ := h
  refine ⟨?_, zin_of h2, h4, h5, ⟨h6, h7⟩, zin_of h3⟩
  unfold zflv
  cases s with
  | true => exact zin_of h1
  | false =>
    have h1' : (zin p1 (.instanceMethod g.1.2.1) && zin p2 (.selects g.1.2.1.cls g.1.2.1 g.1.2.1)) = true := h1
    rw [Bool.and_eq_true] at h1'
    exact ⟨zin_of h1'.1, zin_of h1'.2⟩
theorem zmb_at {l : List Bool} (h : l.all id = true) (j : Nat) {b : Bool} (hj : l[j]? = some b) : b = true := List.all_eq_true.mp h b (List.mem_of_getElem? hj)
theorem zok_mk {g : zF} {s : Bool} {p1 p2 p3 p4 : Nat × Nat} (h : zmb g s p1 p2 p3 p4 = true) (hd : g.2.2.2.all (fun e => zdec g e && zext g e) = true) (hz : g.2.2.2.all zswb = true) : zOK g := ⟨⟨(zmb_of h).2, hd⟩, hz⟩
theorem zall_c {P : zF → Prop} {a : zF} {l : List zF} (h : P a) (t : ∀ g ∈ l, P g) : ∀ g ∈ a :: l, P g := List.forall_mem_cons.mpr ⟨h, t⟩
theorem zall_z {a : zF} {s : Bool} {l : List zF} {t : List Bool} (h : zflv a s) (r : ∀ q ∈ l.zip t, zflv q.1 q.2) : ∀ q ∈ (a :: l).zip (s :: t), zflv q.1 q.2 := List.forall_mem_cons.mpr ⟨h, r⟩
theorem zpX0_begin : zmb fX0_begin false (2, 203) (2, 204) (2, 205) (1, 4) = true := zmb_at zmb_0 0 rfl
theorem zkX0_begin : zOK fX0_begin := zok_mk zpX0_begin zdX0_begin (by decide +kernel)
theorem zpX0_pence : zmb fX0_pence false (2, 231) (2, 232) (2, 233) (1, 4) = true := zmb_at zmb_0 1 rfl
theorem zkX0_pence : zOK fX0_pence := zok_mk zpX0_pence zdX0_pence (by decide +kernel)
theorem zpX0_husbands : zmb fX0_husbands false (2, 235) (2, 236) (2, 237) (1, 4) = true := zmb_at zmb_0 2 rfl
theorem zkX0_husbands : zOK fX0_husbands := zok_mk zpX0_husbands zdX0_husbands (by decide +kernel)
theorem zpX0_shutSet : zmb fX0_shutSet false (3, 9) (3, 10) (3, 11) (1, 4) = true := zmb_at zmb_0 3 rfl
theorem zkX0_shutSet : zOK fX0_shutSet := zok_mk zpX0_shutSet zdX0_shutSet (by decide +kernel)
theorem zpX0_logCount : zmb fX0_logCount false (3, 40) (3, 41) (3, 42) (1, 4) = true := zmb_at zmb_0 4 rfl
theorem zkX0_logCount : zOK fX0_logCount := zok_mk zpX0_logCount zdX0_logCount (by decide +kernel)
theorem zpX0_heardBy : zmb fX0_heardBy false (3, 62) (3, 63) (3, 64) (1, 4) = true := zmb_at zmb_0 5 rfl
theorem zkX0_heardBy : zOK fX0_heardBy := zok_mk zpX0_heardBy zdX0_heardBy (by decide +kernel)
theorem zpX0_feudsOf : zmb fX0_feudsOf false (3, 66) (3, 67) (3, 68) (1, 4) = true := zmb_at zmb_0 6 rfl
theorem zkX0_feudsOf : zOK fX0_feudsOf := zok_mk zpX0_feudsOf zdX0_feudsOf (by decide +kernel)
theorem zpX0_sortOf : zmb fX0_sortOf false (3, 25) (3, 26) (3, 27) (1, 4) = true := zmb_at zmb_0 7 rfl
theorem zkX0_sortOf : zOK fX0_sortOf := zok_mk zpX0_sortOf zdX0_sortOf (by decide +kernel)
theorem zpX0_logEntry : zmb fX0_logEntry false (3, 44) (3, 45) (3, 46) (1, 4) = true := zmb_at zmb_0 8 rfl
theorem zkX0_logEntry : zOK fX0_logEntry := zok_mk zpX0_logEntry zdX0_logEntry (by decide +kernel)
theorem zpX0_isShut : zmb fX0_isShut false (3, 79) (3, 80) (3, 81) (1, 4) = true := zmb_at zmb_0 9 rfl
theorem zkX0_isShut : zOK fX0_isShut := zok_mk zpX0_isShut zdX0_isShut (by decide +kernel)
theorem zpX0_inFeud : zmb fX0_inFeud false (3, 131) (3, 132) (3, 133) (1, 4) = true := zmb_at zmb_0 10 rfl
theorem zkX0_inFeud : zOK fX0_inFeud := zok_mk zpX0_inFeud zdX0_inFeud (by decide +kernel)
theorem zpX0_setShut : zmb fX0_setShut false (3, 185) (3, 186) (3, 187) (1, 4) = true := zmb_at zmb_0 11 rfl
theorem zkX0_setShut : zOK fX0_setShut := zok_mk zpX0_setShut zdX0_setShut (by decide +kernel)
theorem zpX0_setSort : zmb fX0_setSort false (3, 193) (3, 194) (3, 195) (1, 4) = true := zmb_at zmb_0 12 rfl
theorem zkX0_setSort : zOK fX0_setSort := zok_mk zpX0_setSort zdX0_setSort (by decide +kernel)
theorem zpX0_setFeud : zmb fX0_setFeud false (3, 123) (3, 124) (3, 125) (1, 4) = true := zmb_at zmb_0 13 rfl
theorem zkX0_setFeud : zOK fX0_setFeud := zok_mk zpX0_setFeud zdX0_setFeud (by decide +kernel)
theorem zpX0_countFeuds : zmb fX0_countFeuds false (2, 239) (3, 0) (3, 1) (1, 4) = true := zmb_at zmb_0 14 rfl
theorem zkX0_countFeuds : zOK fX0_countFeuds := zok_mk zpX0_countFeuds zdX0_countFeuds (by decide +kernel)
theorem zpX0_pay : zmb fX0_pay false (3, 113) (3, 114) (3, 115) (1, 4) = true := zmb_at zmb_0 15 rfl
theorem zkX0_pay : zOK fX0_pay := zok_mk zpX0_pay zdX0_pay (by decide +kernel)
theorem zpX0_hear : zmb fX0_hear false (3, 119) (3, 120) (3, 121) (1, 4) = true := zmb_at zmb_0 16 rfl
theorem zkX0_hear : zOK fX0_hear := zok_mk zpX0_hear zdX0_hear (by decide +kernel)
theorem zpX0_makePeace : zmb fX0_makePeace false (3, 128) (0, 11) (3, 129) (1, 4) = true := zmb_at zmb_0 17 rfl
theorem zkX0_makePeace : zOK fX0_makePeace := zok_mk zpX0_makePeace zdX0_makePeace (by decide +kernel)
theorem zpX0_enter : zmb fX0_enter false (3, 136) (0, 12) (3, 137) (1, 4) = true := zmb_at zmb_0 18 rfl
theorem zkX0_enter : zOK fX0_enter := zok_mk zpX0_enter zdX0_enter (by decide +kernel)
theorem zpX0_blame : zmb fX0_blame false (3, 32) (3, 33) (3, 34) (1, 4) = true := zmb_at zmb_0 19 rfl
theorem zkX0_blame : zOK fX0_blame := zok_mk zpX0_blame zdX0_blame (by decide +kernel)
theorem zpX0_countInsults : zmb fX0_countInsults false (3, 37) (0, 10) (3, 38) (1, 4) = true := zmb_at zmb_0 20 rfl
theorem zkX0_countInsults : zOK fX0_countInsults := zok_mk zpX0_countInsults zdX0_countInsults (by decide +kernel)
theorem zpX1_clear : zmb fX1_clear false (2, 219) (2, 220) (2, 221) (1, 11) = true := zmb_at zmb_0 21 rfl
theorem zkX1_clear : zOK fX1_clear := zok_mk zpX1_clear zdX1_clear (by decide +kernel)
theorem zpX1_append : zmb fX1_append false (4, 171) (4, 172) (4, 173) (1, 11) = true := zmb_at zmb_0 22 rfl
theorem zkX1_append : zOK fX1_append := zok_mk zpX1_append zdX1_append (by decide +kernel)
theorem zpX1_firstWrong : zmb fX1_firstWrong false (4, 183) (4, 184) (4, 185) (1, 11) = true := zmb_at zmb_0 23 rfl
theorem zkX1_firstWrong : zOK fX1_firstWrong := zok_mk zpX1_firstWrong zdX1_firstWrong (by decide +kernel)
theorem zpX2_wordOver : zmb fX2_wordOver false (3, 21) (3, 22) (3, 23) (1, 6) = true := zmb_at zmb_1 0 rfl
theorem zkX2_wordOver : zOK fX2_wordOver := zok_mk zpX2_wordOver zdX2_wordOver (by decide +kernel)
theorem zpX2_sayingOver : zmb fX2_sayingOver false (3, 109) (3, 110) (3, 111) (1, 6) = true := zmb_at zmb_1 1 rfl
theorem zkX2_sayingOver : zOK fX2_sayingOver := zok_mk zpX2_sayingOver zdX2_sayingOver (by decide +kernel)
theorem zpX2_everywhere : zmb fX2_everywhere false (3, 13) (3, 14) (3, 15) (1, 6) = true := zmb_at zmb_1 2 rfl
theorem zkX2_everywhere : zOK fX2_everywhere := zok_mk zpX2_everywhere zdX2_everywhere (by decide +kernel)
theorem zpX2_staysEverywhere : zmb fX2_staysEverywhere false (3, 18) (0, 9) (3, 19) (1, 6) = true := zmb_at zmb_1 3 rfl
theorem zkX2_staysEverywhere : zOK fX2_staysEverywhere := zok_mk zpX2_staysEverywhere zdX2_staysEverywhere (by decide +kernel)
theorem zpX3_clear : zmb fX3_clear false (2, 215) (2, 216) (2, 217) (1, 10) = true := zmb_at zmb_1 4 rfl
theorem zkX3_clear : zOK fX3_clear := zok_mk zpX3_clear zdX3_clear (by decide +kernel)
theorem zpX3_append : zmb fX3_append false (4, 130) (4, 131) (4, 132) (1, 10) = true := zmb_at zmb_1 5 rfl
theorem zkX3_append : zOK fX3_append := zok_mk zpX3_append zdX3_append (by decide +kernel)
theorem zpX3_findRows : zmb fX3_findRows false (4, 138) (4, 139) (4, 140) (1, 10) = true := zmb_at zmb_1 6 rfl
theorem zkX3_findRows : zOK fX3_findRows := zok_mk zpX3_findRows zdX3_findRows (by decide +kernel)
theorem zpX3_isRow : zmb fX3_isRow true (4, 142) (0, 0) (4, 143) (1, 10) = true := zmb_at zmb_1 7 rfl
theorem zkX3_isRow : zOK fX3_isRow := zok_mk zpX3_isRow zdX3_isRow (by decide +kernel)
theorem zpX3_fits : zmb fX3_fits false (4, 146) (0, 30) (4, 147) (1, 10) = true := zmb_at zmb_1 8 rfl
theorem zkX3_fits : zOK fX3_fits := zok_mk zpX3_fits zdX3_fits (by decide +kernel)
theorem zpX3_bestWord : zmb fX3_bestWord false (4, 154) (4, 155) (4, 156) (1, 10) = true := zmb_at zmb_1 9 rfl
theorem zkX3_bestWord : zOK fX3_bestWord := zok_mk zpX3_bestWord zdX3_bestWord (by decide +kernel)
theorem zpX3_greatestPart : zmb fX3_greatestPart false (4, 160) (0, 31) (4, 161) (1, 10) = true := zmb_at zmb_1 10 rfl
theorem zkX3_greatestPart : zOK fX3_greatestPart := zok_mk zpX3_greatestPart zdX3_greatestPart (by decide +kernel)
theorem zpX4_leastThrough : zmb fX4_leastThrough false (4, 10) (4, 11) (4, 12) (1, 8) = true := zmb_at zmb_1 11 rfl
theorem zkX4_leastThrough : zOK fX4_leastThrough := zok_mk zpX4_leastThrough zdX4_leastThrough (by decide +kernel)
theorem zpX4_shortestRing : zmb fX4_shortestRing false (4, 56) (4, 57) (4, 58) (1, 8) = true := zmb_at zmb_1 12 rfl
theorem zkX4_shortestRing : zOK fX4_shortestRing := zok_mk zpX4_shortestRing zdX4_shortestRing (by decide +kernel)
theorem zpX4_known : zmb fX4_known false (4, 27) (0, 22) (4, 28) (1, 8) = true := zmb_at zmb_1 13 rfl
theorem zkX4_known : zOK fX4_known := zok_mk zpX4_known zdX4_known (by decide +kernel)
theorem zpX4_spread : zmb fX4_spread false (4, 17) (0, 20) (4, 18) (1, 8) = true := zmb_at zmb_1 14 rfl
theorem zkX4_spread : zOK fX4_spread := zok_mk zpX4_spread zdX4_spread (by decide +kernel)
theorem zpX4_spreadBy : zmb fX4_spreadBy false (4, 22) (0, 21) (4, 23) (1, 8) = true := zmb_at zmb_1 15 rfl
theorem zkX4_spreadBy : zOK fX4_spreadBy := zok_mk zpX4_spreadBy zdX4_spreadBy (by decide +kernel)
theorem zpX4_findOrigins : zmb fX4_findOrigins false (4, 38) (4, 39) (4, 40) (1, 8) = true := zmb_at zmb_1 16 rfl
theorem zkX4_findOrigins : zOK fX4_findOrigins := zok_mk zpX4_findOrigins zdX4_findOrigins (by decide +kernel)
theorem zpX4_wordsInto : zmb fX4_wordsInto false (4, 43) (0, 23) (4, 44) (1, 8) = true := zmb_at zmb_1 17 rfl
theorem zkX4_wordsInto : zOK fX4_wordsInto := zok_mk zpX4_wordsInto zdX4_wordsInto (by decide +kernel)
theorem zpX4_countOrigins : zmb fX4_countOrigins false (4, 47) (4, 48) (4, 49) (1, 8) = true := zmb_at zmb_1 18 rfl
theorem zkX4_countOrigins : zOK fX4_countOrigins := zok_mk zpX4_countOrigins zdX4_countOrigins (by decide +kernel)
theorem zpX5_forgetAll : zmb fX5_forgetAll false (2, 211) (2, 212) (2, 213) (1, 5) = true := zmb_at zmb_1 19 rfl
theorem zkX5_forgetAll : zOK fX5_forgetAll := zok_mk zpX5_forgetAll zdX5_forgetAll (by decide +kernel)
theorem zpX5_remember : zmb fX5_remember false (3, 101) (3, 102) (3, 103) (1, 5) = true := zmb_at zmb_1 20 rfl
theorem zkX5_remember : zOK fX5_remember := zok_mk zpX5_remember zdX5_remember (by decide +kernel)
theorem zpX5_takeBack : zmb fX5_takeBack false (3, 223) (3, 224) (3, 225) (1, 5) = true := zmb_at zmb_1 21 rfl
theorem zkX5_takeBack : zOK fX5_takeBack := zok_mk zpX5_takeBack zdX5_takeBack (by decide +kernel)
theorem zpX5_hasImage : zmb fX5_hasImage false (4, 204) (4, 205) (4, 206) (1, 5) = true := zmb_at zmb_1 22 rfl
theorem zkX5_hasImage : zOK fX5_hasImage := zok_mk zpX5_hasImage zdX5_hasImage (by decide +kernel)
theorem zpX5_keepImage : zmb fX5_keepImage false (4, 196) (4, 197) (4, 198) (1, 5) = true := zmb_at zmb_1 23 rfl
theorem zkX5_keepImage : zOK fX5_keepImage := zok_mk zpX5_keepImage zdX5_keepImage (by decide +kernel)
theorem zpX5_showImage : zmb fX5_showImage false (4, 208) (4, 209) (4, 210) (1, 5) = true := zmb_at zmb_2 0 rfl
theorem zkX5_showImage : zOK fX5_showImage := zok_mk zpX5_showImage zdX5_showImage (by decide +kernel)
theorem zpX6_findNewCorner : zmb fX6_findNewCorner false (4, 65) (4, 66) (4, 67) (1, 9) = true := zmb_at zmb_2 1 rfl
theorem zkX6_findNewCorner : zOK fX6_findNewCorner := zok_mk zpX6_findNewCorner zdX6_findNewCorner (by decide +kernel)
theorem zpX6_measureAll : zmb fX6_measureAll false (4, 70) (0, 24) (4, 71) (1, 9) = true := zmb_at zmb_2 2 rfl
theorem zkX6_measureAll : zOK fX6_measureAll := zok_mk zpX6_measureAll zdX6_measureAll (by decide +kernel)
theorem zpX6_measureBy : zmb fX6_measureBy false (4, 77) (0, 25) (4, 78) (1, 9) = true := zmb_at zmb_2 3 rfl
theorem zkX6_measureBy : zOK fX6_measureBy := zok_mk zpX6_measureBy zdX6_measureBy (by decide +kernel)
theorem zpX6_penceOf : zmb fX6_penceOf false (4, 81) (0, 26) (4, 82) (1, 9) = true := zmb_at zmb_2 4 rfl
theorem zkX6_penceOf : zOK fX6_penceOf := zok_mk zpX6_penceOf zdX6_penceOf (by decide +kernel)
theorem zpX6_totalWith : zmb fX6_totalWith false (4, 86) (0, 27) (4, 87) (1, 9) = true := zmb_at zmb_2 5 rfl
theorem zkX6_totalWith : zOK fX6_totalWith := zok_mk zpX6_totalWith zdX6_totalWith (by decide +kernel)
theorem zpX6_leastCut : zmb fX6_leastCut false (4, 94) (4, 95) (4, 96) (1, 9) = true := zmb_at zmb_2 6 rfl
theorem zkX6_leastCut : zOK fX6_leastCut := zok_mk zpX6_leastCut zdX6_leastCut (by decide +kernel)
theorem zpX6_isLesserCut : zmb fX6_isLesserCut true (4, 102) (0, 0) (4, 103) (1, 9) = true := zmb_at zmb_2 7 rfl
theorem zkX6_isLesserCut : zOK fX6_isLesserCut := zok_mk zpX6_isLesserCut zdX6_isLesserCut (by decide +kernel)
theorem zpX6_cornersOutOf : zmb fX6_cornersOutOf false (4, 99) (0, 28) (4, 100) (1, 9) = true := zmb_at zmb_2 8 rfl
theorem zkX6_cornersOutOf : zOK fX6_cornersOutOf := zok_mk zpX6_cornersOutOf zdX6_cornersOutOf (by decide +kernel)
theorem zpX6_shortestWalk : zmb fX6_shortestWalk false (4, 111) (4, 112) (4, 113) (1, 9) = true := zmb_at zmb_2 9 rfl
theorem zkX6_shortestWalk : zOK fX6_shortestWalk := zok_mk zpX6_shortestWalk zdX6_shortestWalk (by decide +kernel)
theorem zpX6_visit : zmb fX6_visit false (4, 116) (0, 29) (4, 117) (1, 9) = true := zmb_at zmb_2 10 rfl
theorem zkX6_visit : zOK fX6_visit := zok_mk zpX6_visit zdX6_visit (by decide +kernel)
theorem zpX7_isFull : zmb fX7_isFull false (2, 128) (2, 129) (2, 130) (1, 3) = true := zmb_at zmb_2 11 rfl
theorem zkX7_isFull : zOK fX7_isFull := zok_mk zpX7_isFull zdX7_isFull (by decide +kernel)
theorem zpX7_append : zmb fX7_append false (2, 133) (2, 134) (2, 135) (1, 3) = true := zmb_at zmb_2 12 rfl
theorem zkX7_append : zOK fX7_append := zok_mk zpX7_append zdX7_append (by decide +kernel)
theorem zpX7_read : zmb fX7_read false (2, 141) (2, 142) (2, 143) (1, 3) = true := zmb_at zmb_2 13 rfl
theorem zkX7_read : zOK fX7_read := zok_mk zpX7_read zdX7_read (by decide +kernel)
theorem zpX7_letter : zmb fX7_letter false (2, 154) (0, 1) (2, 155) (1, 3) = true := zmb_at zmb_2 14 rfl
theorem zkX7_letter : zOK fX7_letter := zok_mk zpX7_letter zdX7_letter (by decide +kernel)
theorem zpX7_skipBlanks : zmb fX7_skipBlanks false (2, 150) (0, 0) (2, 151) (1, 3) = true := zmb_at zmb_2 15 rfl
theorem zkX7_skipBlanks : zOK fX7_skipBlanks := zok_mk zpX7_skipBlanks zdX7_skipBlanks (by decide +kernel)
theorem zpX7_blameAt : zmb fX7_blameAt false (2, 166) (0, 4) (2, 167) (1, 3) = true := zmb_at zmb_2 16 rfl
theorem zkX7_blameAt : zOK fX7_blameAt := zok_mk zpX7_blameAt zdX7_blameAt (by decide +kernel)
theorem zpX7_readClause : zmb fX7_readClause false (2, 158) (0, 2) (2, 159) (1, 3) = true := zmb_at zmb_2 17 rfl
theorem zkX7_readClause : zOK fX7_readClause := zok_mk zpX7_readClause zdX7_readClause (by decide +kernel)
theorem zpX7_readWords : zmb fX7_readWords false (2, 162) (0, 3) (2, 163) (1, 3) = true := zmb_at zmb_2 18 rfl
theorem zkX7_readWords : zOK fX7_readWords := zok_mk zpX7_readWords zdX7_readWords (by decide +kernel)
theorem zpX7_readStreet : zmb fX7_readStreet false (2, 181) (0, 7) (2, 182) (1, 3) = true := zmb_at zmb_2 19 rfl
theorem zkX7_readStreet : zOK fX7_readStreet := zok_mk zpX7_readStreet zdX7_readStreet (by decide +kernel)
theorem zpX7_readCorner : zmb fX7_readCorner false (2, 185) (0, 8) (2, 186) (1, 3) = true := zmb_at zmb_2 20 rfl
theorem zkX7_readCorner : zOK fX7_readCorner := zok_mk zpX7_readCorner zdX7_readCorner (by decide +kernel)
theorem zpX7_readNumber : zmb fX7_readNumber false (2, 170) (0, 5) (2, 171) (1, 3) = true := zmb_at zmb_2 21 rfl
theorem zkX7_readNumber : zOK fX7_readNumber := zok_mk zpX7_readNumber zdX7_readNumber (by decide +kernel)
theorem zpX7_readEnd : zmb fX7_readEnd false (2, 177) (0, 6) (2, 178) (1, 3) = true := zmb_at zmb_2 22 rfl
theorem zkX7_readEnd : zOK fX7_readEnd := zok_mk zpX7_readEnd zdX7_readEnd (by decide +kernel)
theorem zpX7_isFigure : zmb fX7_isFigure true (2, 173) (0, 0) (2, 174) (1, 3) = true := zmb_at zmb_2 23 rfl
theorem zkX7_isFigure : zOK fX7_isFigure := zok_mk zpX7_isFigure zdX7_isFigure (by decide +kernel)
theorem zpX8_clear : zmb fX8_clear false (2, 145) (2, 146) (2, 147) (1, 2) = true := zmb_at zmb_3 0 rfl
theorem zkX8_clear : zOK fX8_clear := zok_mk zpX8_clear zdX8_clear (by decide +kernel)
theorem zpX8_copyFrom : zmb fX8_copyFrom false (2, 196) (2, 197) (2, 198) (1, 2) = true := zmb_at zmb_3 1 rfl
theorem zkX8_copyFrom : zOK fX8_copyFrom := zok_mk zpX8_copyFrom zdX8_copyFrom (by decide +kernel)
theorem zpX8_hasStreet : zmb fX8_hasStreet false (3, 48) (3, 49) (3, 50) (1, 2) = true := zmb_at zmb_3 2 rfl
theorem zkX8_hasStreet : zOK fX8_hasStreet := zok_mk zpX8_hasStreet zdX8_hasStreet (by decide +kernel)
theorem zpX8_hasTwoStreets : zmb fX8_hasTwoStreets false (3, 143) (3, 144) (3, 145) (1, 2) = true := zmb_at zmb_3 3 rfl
theorem zkX8_hasTwoStreets : zOK fX8_hasTwoStreets := zok_mk zpX8_hasTwoStreets zdX8_hasTwoStreets (by decide +kernel)
theorem zpX8_hasCorner : zmb fX8_hasCorner false (3, 74) (3, 75) (3, 76) (1, 2) = true := zmb_at zmb_3 4 rfl
theorem zkX8_hasCorner : zOK fX8_hasCorner := zok_mk zpX8_hasCorner zdX8_hasCorner (by decide +kernel)
theorem zpX8_hasWord : zmb fX8_hasWord false (3, 96) (3, 97) (3, 98) (1, 2) = true := zmb_at zmb_3 5 rfl
theorem zkX8_hasWord : zOK fX8_hasWord := zok_mk zpX8_hasWord zdX8_hasWord (by decide +kernel)
theorem zpX8_hasSaying : zmb fX8_hasSaying false (3, 92) (3, 93) (3, 94) (1, 2) = true := zmb_at zmb_3 6 rfl
theorem zkX8_hasSaying : zOK fX8_hasSaying := zok_mk zpX8_hasSaying zdX8_hasSaying (by decide +kernel)
theorem zpX8_areJoined : zmb fX8_areJoined false (2, 188) (2, 189) (2, 190) (1, 2) = true := zmb_at zmb_3 7 rfl
theorem zkX8_areJoined : zOK fX8_areJoined := zok_mk zpX8_areJoined zdX8_areJoined (by decide +kernel)
theorem zpX8_otherEnd : zmb fX8_otherEnd false (2, 192) (2, 193) (2, 194) (1, 2) = true := zmb_at zmb_3 8 rfl
theorem zkX8_otherEnd : zOK fX8_otherEnd := zok_mk zpX8_otherEnd zdX8_otherEnd (by decide +kernel)
theorem zpX9_find : zmb fX9_find false (3, 148) (3, 149) (3, 150) (1, 7) = true := zmb_at zmb_3 9 rfl
theorem zkX9_find : zOK fX9_find := zok_mk zpX9_find zdX9_find (by decide +kernel)
theorem zpX9_measure : zmb fX9_measure false (3, 153) (0, 13) (3, 154) (1, 7) = true := zmb_at zmb_3 10 rfl
theorem zkX9_measure : zOK fX9_measure := zok_mk zpX9_measure zdX9_measure (by decide +kernel)
theorem zpX9_lower : zmb fX9_lower false (3, 164) (0, 15) (3, 165) (1, 7) = true := zmb_at zmb_3 11 rfl
theorem zkX9_lower : zOK fX9_lower := zok_mk zpX9_lower zdX9_lower (by decide +kernel)
theorem zpX9_price : zmb fX9_price false (3, 160) (0, 14) (3, 161) (1, 7) = true := zmb_at zmb_3 12 rfl
theorem zkX9_price : zOK fX9_price := zok_mk zpX9_price zdX9_price (by decide +kernel)
theorem zpX9_firstCorner : zmb fX9_firstCorner false (3, 168) (0, 16) (3, 169) (1, 7) = true := zmb_at zmb_3 13 rfl
theorem zkX9_firstCorner : zOK fX9_firstCorner := zok_mk zpX9_firstCorner zdX9_firstCorner (by decide +kernel)
theorem zpX9_wordOnWay : zmb fX9_wordOnWay false (3, 237) (3, 238) (3, 239) (1, 7) = true := zmb_at zmb_3 14 rfl
theorem zkX9_wordOnWay : zOK fX9_wordOnWay := zok_mk zpX9_wordOnWay zdX9_wordOnWay (by decide +kernel)
theorem zpX9_sayingOnWay : zmb fX9_sayingOnWay false (3, 176) (3, 177) (3, 178) (1, 7) = true := zmb_at zmb_3 15 rfl
theorem zkX9_sayingOnWay : zOK fX9_sayingOnWay := zok_mk zpX9_sayingOnWay zdX9_sayingOnWay (by decide +kernel)
theorem zpX10_feed : zmb fX10_feed false (2, 123) (2, 124) (2, 125) (1, 1) = true := zmb_at zmb_3 16 rfl
theorem zkX10_feed : zOK fX10_feed := zok_mk zpX10_feed zdX10_feed (by decide +kernel)
theorem zpX10_town : zmb fX10_town false (2, 137) (2, 138) (2, 139) (1, 1) = true := zmb_at zmb_3 17 rfl
theorem zkX10_town : zOK fX10_town := zok_mk zpX10_town zdX10_town (by decide +kernel)
theorem zpX10_fault : zmb fX10_fault false (2, 223) (2, 224) (2, 225) (1, 1) = true := zmb_at zmb_3 18 rfl
theorem zkX10_fault : zOK fX10_fault := zok_mk zpX10_fault zdX10_fault (by decide +kernel)
theorem zpX10_told : zmb fX10_told false (2, 227) (2, 228) (2, 229) (1, 1) = true := zmb_at zmb_3 19 rfl
theorem zkX10_told : zOK fX10_told := zok_mk zpX10_told zdX10_told (by decide +kernel)
theorem zpX10_street : zmb fX10_street false (3, 56) (3, 57) (3, 58) (1, 1) = true := zmb_at zmb_3 20 rfl
theorem zkX10_street : zOK fX10_street := zok_mk zpX10_street zdX10_street (by decide +kernel)
theorem zpX10_corner : zmb fX10_corner false (3, 70) (3, 71) (3, 72) (1, 1) = true := zmb_at zmb_3 21 rfl
theorem zkX10_corner : zOK fX10_corner := zok_mk zpX10_corner zdX10_corner (by decide +kernel)
theorem zpX10_logged : zmb fX10_logged false (3, 83) (3, 84) (3, 85) (1, 1) = true := zmb_at zmb_3 22 rfl
theorem zkX10_logged : zOK fX10_logged := zok_mk zpX10_logged zdX10_logged (by decide +kernel)
theorem zpX10_say : zmb fX10_say false (3, 88) (3, 89) (3, 90) (1, 1) = true := zmb_at zmb_3 23 rfl
theorem zkX10_say : zOK fX10_say := zok_mk zpX10_say zdX10_say (by decide +kernel)
theorem zpX10_send : zmb fX10_send false (3, 139) (3, 140) (3, 141) (1, 1) = true := zmb_at zmb_4 0 rfl
theorem zkX10_send : zOK fX10_send := zok_mk zpX10_send zdX10_send (by decide +kernel)
theorem zpX10_shut : zmb fX10_shut false (3, 181) (3, 182) (3, 183) (1, 1) = true := zmb_at zmb_4 1 rfl
theorem zkX10_shut : zOK fX10_shut := zok_mk zpX10_shut zdX10_shut (by decide +kernel)
theorem zpX10_mend : zmb fX10_mend false (3, 189) (3, 190) (3, 191) (1, 1) = true := zmb_at zmb_4 2 rfl
theorem zkX10_mend : zOK fX10_mend := zok_mk zpX10_mend zdX10_mend (by decide +kernel)
theorem zpX10_quarrel : zmb fX10_quarrel false (3, 197) (3, 198) (3, 199) (1, 1) = true := zmb_at zmb_4 3 rfl
theorem zkX10_quarrel : zOK fX10_quarrel := zok_mk zpX10_quarrel zdX10_quarrel (by decide +kernel)
theorem zpX10_drift : zmb fX10_drift false (3, 203) (3, 204) (3, 205) (1, 1) = true := zmb_at zmb_4 4 rfl
theorem zkX10_drift : zOK fX10_drift := zok_mk zpX10_drift zdX10_drift (by decide +kernel)
theorem zpX10_undo : zmb fX10_undo false (3, 219) (3, 220) (3, 221) (1, 1) = true := zmb_at zmb_4 5 rfl
theorem zkX10_undo : zOK fX10_undo := zok_mk zpX10_undo zdX10_undo (by decide +kernel)
theorem zpX10_over : zmb fX10_over false (3, 227) (3, 228) (3, 229) (1, 1) = true := zmb_at zmb_4 6 rfl
theorem zkX10_over : zOK fX10_over := zok_mk zpX10_over zdX10_over (by decide +kernel)
theorem zpX10_becomes : zmb fX10_becomes false (3, 233) (3, 234) (3, 235) (1, 1) = true := zmb_at zmb_4 7 rfl
theorem zkX10_becomes : zOK fX10_becomes := zok_mk zpX10_becomes zdX10_becomes (by decide +kernel)
theorem zpX10_way : zmb fX10_way false (4, 2) (4, 3) (4, 4) (1, 1) = true := zmb_at zmb_4 8 rfl
theorem zkX10_way : zOK fX10_way := zok_mk zpX10_way zdX10_way (by decide +kernel)
theorem zpX10_through : zmb fX10_through false (4, 6) (4, 7) (4, 8) (1, 1) = true := zmb_at zmb_4 9 rfl
theorem zkX10_through : zOK fX10_through := zok_mk zpX10_through zdX10_through (by decide +kernel)
theorem zpX10_code : zmb fX10_code false (4, 30) (4, 31) (4, 32) (1, 1) = true := zmb_at zmb_4 10 rfl
theorem zkX10_code : zOK fX10_code := zok_mk zpX10_code zdX10_code (by decide +kernel)
theorem zpX10_origin : zmb fX10_origin false (4, 34) (4, 35) (4, 36) (1, 1) = true := zmb_at zmb_4 11 rfl
theorem zkX10_origin : zOK fX10_origin := zok_mk zpX10_origin zdX10_origin (by decide +kernel)
theorem zpX10_ring : zmb fX10_ring false (4, 52) (4, 53) (4, 54) (1, 1) = true := zmb_at zmb_4 12 rfl
theorem zkX10_ring : zOK fX10_ring := zok_mk zpX10_ring zdX10_ring (by decide +kernel)
theorem zpX10_more : zmb fX10_more false (4, 61) (4, 62) (4, 63) (1, 1) = true := zmb_at zmb_4 13 rfl
theorem zkX10_more : zOK fX10_more := zok_mk zpX10_more zdX10_more (by decide +kernel)
theorem zpX10_cut : zmb fX10_cut false (4, 90) (4, 91) (4, 92) (1, 1) = true := zmb_at zmb_4 14 rfl
theorem zkX10_cut : zOK fX10_cut := zok_mk zpX10_cut zdX10_cut (by decide +kernel)
theorem zpX10_walk : zmb fX10_walk false (4, 107) (4, 108) (4, 109) (1, 1) = true := zmb_at zmb_4 15 rfl
theorem zkX10_walk : zOK fX10_walk := zok_mk zpX10_walk zdX10_walk (by decide +kernel)
theorem zpX10_holds : zmb fX10_holds false (4, 120) (4, 121) (4, 122) (1, 1) = true := zmb_at zmb_4 16 rfl
theorem zkX10_holds : zOK fX10_holds := zok_mk zpX10_holds zdX10_holds (by decide +kernel)
theorem zpX10_see : zmb fX10_see false (4, 126) (4, 127) (4, 128) (1, 1) = true := zmb_at zmb_4 17 rfl
theorem zkX10_see : zOK fX10_see := zok_mk zpX10_see zdX10_see (by decide +kernel)
theorem zpX10_slips : zmb fX10_slips false (4, 134) (4, 135) (4, 136) (1, 1) = true := zmb_at zmb_4 18 rfl
theorem zkX10_slips : zOK fX10_slips := zok_mk zpX10_slips zdX10_slips (by decide +kernel)
theorem zpX10_tryNext : zmb fX10_tryNext false (4, 150) (4, 151) (4, 152) (1, 1) = true := zmb_at zmb_4 19 rfl
theorem zkX10_tryNext : zOK fX10_tryNext := zok_mk zpX10_tryNext zdX10_tryNext (by decide +kernel)
theorem zpX10_write : zmb fX10_write false (4, 167) (4, 168) (4, 169) (1, 1) = true := zmb_at zmb_4 20 rfl
theorem zkX10_write : zOK fX10_write := zok_mk zpX10_write zdX10_write (by decide +kernel)
theorem zpX10_tear : zmb fX10_tear false (4, 175) (4, 176) (4, 177) (1, 1) = true := zmb_at zmb_4 21 rfl
theorem zkX10_tear : zOK fX10_tear := zok_mk zpX10_tear zdX10_tear (by decide +kernel)
theorem zpX10_judge : zmb fX10_judge false (4, 179) (4, 180) (4, 181) (1, 1) = true := zmb_at zmb_4 22 rfl
theorem zkX10_judge : zOK fX10_judge := zok_mk zpX10_judge zdX10_judge (by decide +kernel)
theorem zpX10_seed : zmb fX10_seed false (4, 188) (4, 189) (4, 190) (1, 1) = true := zmb_at zmb_4 23 rfl
theorem zkX10_seed : zOK fX10_seed := zok_mk zpX10_seed zdX10_seed (by decide +kernel)
theorem zpX10_keep : zmb fX10_keep false (4, 192) (4, 193) (4, 194) (1, 1) = true := zmb_at zmb_5 0 rfl
theorem zkX10_keep : zOK fX10_keep := zok_mk zpX10_keep zdX10_keep (by decide +kernel)
theorem zpX10_goBack : zmb fX10_goBack false (4, 200) (4, 201) (4, 202) (1, 1) = true := zmb_at zmb_5 1 rfl
theorem zkX10_goBack : zOK fX10_goBack := zok_mk zpX10_goBack zdX10_goBack (by decide +kernel)
theorem zpX10_deliver : zmb fX10_deliver false (3, 173) (0, 17) (3, 174) (1, 1) = true := zmb_at zmb_5 2 rfl
theorem zkX10_deliver : zOK fX10_deliver := zok_mk zpX10_deliver zdX10_deliver (by decide +kernel)
theorem zpX10_passDay : zmb fX10_passDay false (3, 208) (0, 18) (3, 209) (1, 1) = true := zmb_at zmb_5 3 rfl
theorem zkX10_passDay : zOK fX10_passDay := zok_mk zpX10_passDay zdX10_passDay (by decide +kernel)
theorem zpX10_draw : zmb fX10_draw false (3, 212) (0, 19) (3, 213) (1, 1) = true := zmb_at zmb_5 4 rfl
theorem zkX10_draw : zOK fX10_draw := zok_mk zpX10_draw zdX10_draw (by decide +kernel)
theorem zpX10_putOver : zmb fX10_putOver true (3, 29) (0, 0) (3, 30) (1, 1) = true := zmb_at zmb_5 5 rfl
theorem zkX10_putOver : zOK fX10_putOver := zok_mk zpX10_putOver zdX10_putOver (by decide +kernel)
theorem zpX10_holdsWord : zmb fX10_holdsWord true (3, 52) (0, 0) (3, 53) (1, 1) = true := zmb_at zmb_5 6 rfl
theorem zkX10_holdsWord : zOK fX10_holdsWord := zok_mk zpX10_holdsWord zdX10_holdsWord (by decide +kernel)
theorem zpX11_in : zmb fX11_in true (5, 126) (0, 0) (5, 127) (1, 12) = true := zmb_at zmb_5 7 rfl
theorem zkX11_in : zOK fX11_in := zok_mk zpX11_in zdX11_in (by decide +kernel)
theorem zpX11_has : zmb fX11_has true (5, 235) (0, 0) (5, 236) (1, 12) = true := zmb_at zmb_5 8 rfl
theorem zkX11_has : zOK fX11_has := zok_mk zpX11_has zdX11_has (by decide +kernel)
theorem zpX11_bits : zmb fX11_bits true (5, 192) (0, 0) (5, 193) (1, 12) = true := zmb_at zmb_5 9 rfl
theorem zkX11_bits : zOK fX11_bits := zok_mk zpX11_bits zdX11_bits (by decide +kernel)
theorem zpX11_isWord : zmb fX11_isWord false (6, 109) (0, 66) (6, 110) (1, 12) = true := zmb_at zmb_5 10 rfl
theorem zkX11_isWord : zOK fX11_isWord := zok_mk zpX11_isWord zdX11_isWord (by decide +kernel)
theorem zpX11_isStreet : zmb fX11_isStreet false (5, 219) (0, 47) (5, 220) (1, 12) = true := zmb_at zmb_5 11 rfl
theorem zkX11_isStreet : zOK fX11_isStreet := zok_mk zpX11_isStreet zdX11_isStreet (by decide +kernel)
theorem zpX11_areTwo : zmb fX11_areTwo false (6, 43) (0, 57) (6, 44) (1, 12) = true := zmb_at zmb_5 12 rfl
theorem zkX11_areTwo : zOK fX11_areTwo := zok_mk zpX11_areTwo zdX11_areTwo (by decide +kernel)
theorem zpX11_isCorner : zmb fX11_isCorner false (5, 228) (0, 48) (5, 229) (1, 12) = true := zmb_at zmb_5 13 rfl
theorem zkX11_isCorner : zOK fX11_isCorner := zok_mk zpX11_isCorner zdX11_isCorner (by decide +kernel)
theorem zpX11_feed : zmb fX11_feed false (5, 121) (5, 122) (5, 123) (1, 12) = true := zmb_at zmb_5 14 rfl
theorem zkX11_feed : zOK fX11_feed := zok_mk zpX11_feed zdX11_feed (by decide +kernel)
theorem zpX11_here : zmb fX11_here false (5, 136) (0, 32) (5, 137) (1, 12) = true := zmb_at zmb_5 15 rfl
theorem zkX11_here : zOK fX11_here := zok_mk zpX11_here zdX11_here (by decide +kernel)
theorem zpX11_fails : zmb fX11_fails false (5, 144) (0, 34) (5, 145) (1, 12) = true := zmb_at zmb_5 16 rfl
theorem zkX11_fails : zOK fX11_fails := zok_mk zpX11_fails zdX11_fails (by decide +kernel)
theorem zpX11_takeNumber : zmb fX11_takeNumber false (5, 152) (0, 36) (5, 153) (1, 12) = true := zmb_at zmb_5 17 rfl
theorem zkX11_takeNumber : zOK fX11_takeNumber := zok_mk zpX11_takeNumber zdX11_takeNumber (by decide +kernel)
theorem zpX11_into : zmb fX11_into false (5, 162) (0, 38) (5, 163) (1, 12) = true := zmb_at zmb_5 18 rfl
theorem zkX11_into : zOK fX11_into := zok_mk zpX11_into zdX11_into (by decide +kernel)
theorem zpX11_takeWords : zmb fX11_takeWords false (5, 148) (0, 35) (5, 149) (1, 12) = true := zmb_at zmb_5 19 rfl
theorem zkX11_takeWords : zOK fX11_takeWords := zok_mk zpX11_takeWords zdX11_takeWords (by decide +kernel)
theorem zpX11_takeStreet : zmb fX11_takeStreet false (5, 158) (0, 37) (5, 159) (1, 12) = true := zmb_at zmb_5 20 rfl
theorem zkX11_takeStreet : zOK fX11_takeStreet := zok_mk zpX11_takeStreet zdX11_takeStreet (by decide +kernel)
theorem zpX11_isJoined : zmb fX11_isJoined false (5, 170) (0, 40) (5, 171) (1, 12) = true := zmb_at zmb_5 21 rfl
theorem zkX11_isJoined : zOK fX11_isJoined := zok_mk zpX11_isJoined zdX11_isJoined (by decide +kernel)
theorem zpX11_takeCorner : zmb fX11_takeCorner false (5, 166) (0, 39) (5, 167) (1, 12) = true := zmb_at zmb_5 22 rfl
theorem zkX11_takeCorner : zOK fX11_takeCorner := zok_mk zpX11_takeCorner zdX11_takeCorner (by decide +kernel)
theorem zpX11_takeClause : zmb fX11_takeClause false (5, 140) (0, 33) (5, 141) (1, 12) = true := zmb_at zmb_5 23 rfl
theorem zkX11_takeClause : zOK fX11_takeClause := zok_mk zpX11_takeClause zdX11_takeClause (by decide +kernel)
theorem zpX11_copyRow : zmb fX11_copyRow true (5, 177) (0, 0) (5, 178) (1, 12) = true := zmb_at zmb_6 0 rfl
theorem zkX11_copyRow : zOK fX11_copyRow := zok_mk zpX11_copyRow zdX11_copyRow (by decide +kernel)
theorem zpX11_takeRead : zmb fX11_takeRead false (5, 174) (0, 41) (5, 175) (1, 12) = true := zmb_at zmb_6 1 rfl
theorem zkX11_takeRead : zOK fX11_takeRead := zok_mk zpX11_takeRead zdX11_takeRead (by decide +kernel)
theorem zpX11_town : zmb fX11_town false (5, 131) (5, 132) (5, 133) (1, 12) = true := zmb_at zmb_6 2 rfl
theorem zkX11_town : zOK fX11_town := zok_mk zpX11_town zdX11_town (by decide +kernel)
theorem zpX11_fault : zmb fX11_fault false (5, 180) (5, 181) (5, 182) (1, 12) = true := zmb_at zmb_6 3 rfl
theorem zkX11_fault : zOK fX11_fault := zok_mk zpX11_fault zdX11_fault (by decide +kernel)
theorem zpX11_slipBy : zmb fX11_slipBy false (5, 204) (0, 45) (5, 205) (1, 12) = true := zmb_at zmb_6 4 rfl
theorem zkX11_slipBy : zOK fX11_slipBy := zok_mk zpX11_slipBy zdX11_slipBy (by decide +kernel)
theorem zpX11_overAt : zmb fX11_overAt false (5, 200) (0, 44) (5, 201) (1, 12) = true := zmb_at zmb_6 5 rfl
theorem zkX11_overAt : zOK fX11_overAt := zok_mk zpX11_overAt zdX11_overAt (by decide +kernel)
theorem zpX11_isOpen : zmb fX11_isOpen false (5, 232) (0, 49) (5, 233) (1, 12) = true := zmb_at zmb_6 6 rfl
theorem zkX11_isOpen : zOK fX11_isOpen := zok_mk zpX11_isOpen zdX11_isOpen (by decide +kernel)
theorem zpX11_isSaying : zmb fX11_isSaying false (6, 8) (0, 50) (6, 9) (1, 12) = true := zmb_at zmb_6 7 rfl
theorem zkX11_isSaying : zOK fX11_isSaying := zok_mk zpX11_isSaying zdX11_isSaying (by decide +kernel)
theorem zpX11_sayingOver : zmb fX11_sayingOver false (6, 18) (0, 52) (6, 19) (1, 12) = true := zmb_at zmb_6 8 rfl
theorem zkX11_sayingOver : zOK fX11_sayingOver := zok_mk zpX11_sayingOver zdX11_sayingOver (by decide +kernel)
theorem zpX11_hasWord : zmb fX11_hasWord true (5, 211) (0, 0) (5, 212) (1, 12) = true := zmb_at zmb_6 9 rfl
theorem zkX11_hasWord : zOK fX11_hasWord := zok_mk zpX11_hasWord zdX11_hasWord (by decide +kernel)
theorem zpX11_pay : zmb fX11_pay false (6, 22) (0, 53) (6, 23) (1, 12) = true := zmb_at zmb_6 10 rfl
theorem zkX11_pay : zOK fX11_pay := zok_mk zpX11_pay zdX11_pay (by decide +kernel)
theorem zpX11_setFeud : zmb fX11_setFeud false (6, 31) (0, 55) (6, 32) (1, 12) = true := zmb_at zmb_6 11 rfl
theorem zkX11_setFeud : zOK fX11_setFeud := zok_mk zpX11_setFeud zdX11_setFeud (by decide +kernel)
theorem zpX11_log : zmb fX11_log false (6, 35) (0, 56) (6, 36) (1, 12) = true := zmb_at zmb_6 12 rfl
theorem zkX11_log : zOK fX11_log := zok_mk zpX11_log zdX11_log (by decide +kernel)
theorem zpX11_hear : zmb fX11_hear false (6, 27) (0, 54) (6, 28) (1, 12) = true := zmb_at zmb_6 13 rfl
theorem zkX11_hear : zOK fX11_hear := zok_mk zpX11_hear zdX11_hear (by decide +kernel)
theorem zpX11_feuds : zmb fX11_feuds false (5, 189) (0, 42) (5, 190) (1, 12) = true := zmb_at zmb_6 14 rfl
theorem zkX11_feuds : zOK fX11_feuds := zok_mk zpX11_feuds zdX11_feuds (by decide +kernel)
theorem zpX11_everywhere : zmb fX11_everywhere false (5, 196) (0, 43) (5, 197) (1, 12) = true := zmb_at zmb_6 15 rfl
theorem zkX11_everywhere : zOK fX11_everywhere := zok_mk zpX11_everywhere zdX11_everywhere (by decide +kernel)
theorem zpX11_blame : zmb fX11_blame false (5, 208) (0, 46) (5, 209) (1, 12) = true := zmb_at zmb_6 16 rfl
theorem zkX11_blame : zOK fX11_blame := zok_mk zpX11_blame zdX11_blame (by decide +kernel)
theorem zpX11_told : zmb fX11_told false (5, 184) (5, 185) (5, 186) (1, 12) = true := zmb_at zmb_6 17 rfl
theorem zkX11_told : zOK fX11_told := zok_mk zpX11_told zdX11_told (by decide +kernel)
theorem zpX11_street : zmb fX11_street false (5, 214) (5, 215) (5, 216) (1, 12) = true := zmb_at zmb_6 18 rfl
theorem zkX11_street : zOK fX11_street := zok_mk zpX11_street zdX11_street (by decide +kernel)
theorem zpX11_corner : zmb fX11_corner false (5, 223) (5, 224) (5, 225) (1, 12) = true := zmb_at zmb_6 19 rfl
theorem zkX11_corner : zOK fX11_corner := zok_mk zpX11_corner zdX11_corner (by decide +kernel)
theorem zpX11_logged : zmb fX11_logged false (5, 238) (5, 239) (6, 0) (1, 12) = true := zmb_at zmb_6 20 rfl
theorem zkX11_logged : zOK fX11_logged := zok_mk zpX11_logged zdX11_logged (by decide +kernel)
theorem zpX11_keyOf : zmb fX11_keyOf false (6, 52) (0, 59) (6, 53) (1, 12) = true := zmb_at zmb_6 21 rfl
theorem zkX11_keyOf : zOK fX11_keyOf := zok_mk zpX11_keyOf zdX11_keyOf (by decide +kernel)
theorem zpX11_findAway : zmb fX11_findAway false (6, 47) (0, 58) (6, 48) (1, 12) = true := zmb_at zmb_6 22 rfl
theorem zkX11_findAway : zOK fX11_findAway := zok_mk zpX11_findAway zdX11_findAway (by decide +kernel)
theorem zpX11_nextCorner : zmb fX11_nextCorner false (6, 64) (0, 62) (6, 65) (1, 12) = true := zmb_at zmb_6 23 rfl
theorem zkX11_nextCorner : zOK fX11_nextCorner := zok_mk zpX11_nextCorner zdX11_nextCorner (by decide +kernel)
theorem zpX11_sentBy : zmb fX11_sentBy false (6, 60) (0, 61) (6, 61) (1, 12) = true := zmb_at zmb_7 0 rfl
theorem zkX11_sentBy : zOK fX11_sentBy := zok_mk zpX11_sentBy zdX11_sentBy (by decide +kernel)
theorem zpX11_remember : zmb fX11_remember false (6, 14) (0, 51) (6, 15) (1, 12) = true := zmb_at zmb_7 1 rfl
theorem zkX11_remember : zOK fX11_remember := zok_mk zpX11_remember zdX11_remember (by decide +kernel)
theorem zpX11_say : zmb fX11_say false (6, 3) (6, 4) (6, 5) (1, 12) = true := zmb_at zmb_7 2 rfl
theorem zkX11_say : zOK fX11_say := zok_mk zpX11_say zdX11_say (by decide +kernel)
theorem zpX11_sendNow : zmb fX11_sendNow false (6, 56) (0, 60) (6, 57) (1, 12) = true := zmb_at zmb_7 3 rfl
theorem zkX11_sendNow : zOK fX11_sendNow := zok_mk zpX11_sendNow zdX11_sendNow (by decide +kernel)
theorem zpX11_send : zmb fX11_send false (6, 38) (6, 39) (6, 40) (1, 12) = true := zmb_at zmb_7 4 rfl
theorem zkX11_send : zOK fX11_send := zok_mk zpX11_send zdX11_send (by decide +kernel)
theorem zpX11_turn : zmb fX11_turn false (6, 72) (0, 63) (6, 73) (1, 12) = true := zmb_at zmb_7 5 rfl
theorem zkX11_turn : zOK fX11_turn := zok_mk zpX11_turn zdX11_turn (by decide +kernel)
theorem zpX11_shut : zmb fX11_shut false (6, 67) (6, 68) (6, 69) (1, 12) = true := zmb_at zmb_7 6 rfl
theorem zkX11_shut : zOK fX11_shut := zok_mk zpX11_shut zdX11_shut (by decide +kernel)
theorem zpX11_mend : zmb fX11_mend false (6, 75) (6, 76) (6, 77) (1, 12) = true := zmb_at zmb_7 7 rfl
theorem zkX11_mend : zOK fX11_mend := zok_mk zpX11_mend zdX11_mend (by decide +kernel)
theorem zpX11_quarrel : zmb fX11_quarrel false (6, 79) (6, 80) (6, 81) (1, 12) = true := zmb_at zmb_7 8 rfl
theorem zkX11_quarrel : zOK fX11_quarrel := zok_mk zpX11_quarrel zdX11_quarrel (by decide +kernel)
theorem zpX11_draw : zmb fX11_draw false (6, 93) (0, 65) (6, 94) (1, 12) = true := zmb_at zmb_7 9 rfl
theorem zkX11_draw : zOK fX11_draw := zok_mk zpX11_draw zdX11_draw (by decide +kernel)
theorem zpX11_chance : zmb fX11_chance false (6, 89) (0, 64) (6, 90) (1, 12) = true := zmb_at zmb_7 10 rfl
theorem zkX11_chance : zOK fX11_chance := zok_mk zpX11_chance zdX11_chance (by decide +kernel)
theorem zpX11_drift : zmb fX11_drift false (6, 83) (6, 84) (6, 85) (1, 12) = true := zmb_at zmb_7 11 rfl
theorem zkX11_drift : zOK fX11_drift := zok_mk zpX11_drift zdX11_drift (by decide +kernel)
theorem zpX11_undo : zmb fX11_undo false (6, 100) (6, 101) (6, 102) (1, 12) = true := zmb_at zmb_7 12 rfl
theorem zkX11_undo : zOK fX11_undo := zok_mk zpX11_undo zdX11_undo (by decide +kernel)
theorem zpX11_over : zmb fX11_over false (6, 104) (6, 105) (6, 106) (1, 12) = true := zmb_at zmb_7 13 rfl
theorem zkX11_over : zOK fX11_over := zok_mk zpX11_over zdX11_over (by decide +kernel)
theorem zpX11_becomes : zmb fX11_becomes false (6, 112) (6, 113) (6, 114) (1, 12) = true := zmb_at zmb_7 14 rfl
theorem zkX11_becomes : zOK fX11_becomes := zok_mk zpX11_becomes zdX11_becomes (by decide +kernel)
theorem zpX11_way : zmb fX11_way false (6, 116) (6, 117) (6, 118) (1, 12) = true := zmb_at zmb_7 15 rfl
theorem zkX11_way : zOK fX11_way := zok_mk zpX11_way zdX11_way (by decide +kernel)
theorem zpX11_stepOver : zmb fX11_stepOver false (6, 134) (0, 69) (6, 135) (1, 12) = true := zmb_at zmb_7 16 rfl
theorem zkX11_stepOver : zOK fX11_stepOver := zok_mk zpX11_stepOver zdX11_stepOver (by decide +kernel)
theorem zpX11_spread : zmb fX11_spread false (6, 130) (0, 68) (6, 131) (1, 12) = true := zmb_at zmb_7 17 rfl
theorem zkX11_spread : zOK fX11_spread := zok_mk zpX11_spread zdX11_spread (by decide +kernel)
theorem zpX11_clearCosts : zmb fX11_clearCosts false (6, 126) (0, 67) (6, 127) (1, 12) = true := zmb_at zmb_7 18 rfl
theorem zkX11_clearCosts : zOK fX11_clearCosts := zok_mk zpX11_clearCosts zdX11_clearCosts (by decide +kernel)
theorem zpX11_through : zmb fX11_through false (6, 121) (6, 122) (6, 123) (1, 12) = true := zmb_at zmb_7 19 rfl
theorem zkX11_through : zOK fX11_through := zok_mk zpX11_through zdX11_through (by decide +kernel)
theorem zpX11_code : zmb fX11_code false (6, 137) (6, 138) (6, 139) (1, 12) = true := zmb_at zmb_7 20 rfl
theorem zkX11_code : zOK fX11_code := zok_mk zpX11_code zdX11_code (by decide +kernel)
theorem zpX11_stepBack : zmb fX11_stepBack false (6, 147) (0, 70) (6, 148) (1, 12) = true := zmb_at zmb_7 21 rfl
theorem zkX11_stepBack : zOK fX11_stepBack := zok_mk zpX11_stepBack zdX11_stepBack (by decide +kernel)
theorem zpX11_origin : zmb fX11_origin false (6, 141) (6, 142) (6, 143) (1, 12) = true := zmb_at zmb_7 22 rfl
theorem zkX11_origin : zOK fX11_origin := zok_mk zpX11_origin zdX11_origin (by decide +kernel)
theorem zpX11_ring : zmb fX11_ring false (6, 150) (6, 151) (6, 152) (1, 12) = true := zmb_at zmb_7 23 rfl
theorem zkX11_ring : zOK fX11_ring := zok_mk zpX11_ring zdX11_ring (by decide +kernel)
theorem zpX11_findFares : zmb fX11_findFares false (6, 163) (0, 72) (6, 164) (1, 12) = true := zmb_at zmb_8 0 rfl
theorem zkX11_findFares : zOK fX11_findFares := zok_mk zpX11_findFares zdX11_findFares (by decide +kernel)
theorem zpX11_allFares : zmb fX11_allFares false (6, 167) (0, 73) (6, 168) (1, 12) = true := zmb_at zmb_8 1 rfl
theorem zkX11_allFares : zOK fX11_allFares := zok_mk zpX11_allFares zdX11_allFares (by decide +kernel)
theorem zpX11_haveCorner : zmb fX11_haveCorner false (6, 159) (0, 71) (6, 160) (1, 12) = true := zmb_at zmb_8 2 rfl
theorem zkX11_haveCorner : zOK fX11_haveCorner := zok_mk zpX11_haveCorner zdX11_haveCorner (by decide +kernel)
theorem zpX11_more : zmb fX11_more false (6, 154) (6, 155) (6, 156) (1, 12) = true := zmb_at zmb_8 3 rfl
theorem zkX11_more : zOK fX11_more := zok_mk zpX11_more zdX11_more (by decide +kernel)
theorem zpX11_getsTo : zmb fX11_getsTo false (6, 175) (0, 74) (6, 176) (1, 12) = true := zmb_at zmb_8 4 rfl
theorem zkX11_getsTo : zOK fX11_getsTo := zok_mk zpX11_getsTo zdX11_getsTo (by decide +kernel)
theorem zpX11_cut : zmb fX11_cut false (6, 170) (6, 171) (6, 172) (1, 12) = true := zmb_at zmb_8 5 rfl
theorem zkX11_cut : zOK fX11_cut := zok_mk zpX11_cut zdX11_cut (by decide +kernel)
theorem zpX11_walk : zmb fX11_walk false (6, 178) (6, 179) (6, 180) (1, 12) = true := zmb_at zmb_8 6 rfl
theorem zkX11_walk : zOK fX11_walk := zok_mk zpX11_walk zdX11_walk (by decide +kernel)
theorem zpX11_holds : zmb fX11_holds false (6, 182) (6, 183) (6, 184) (1, 12) = true := zmb_at zmb_8 7 rfl
theorem zkX11_holds : zOK fX11_holds := zok_mk zpX11_holds zdX11_holds (by decide +kernel)
theorem zpX11_see : zmb fX11_see false (6, 188) (6, 189) (6, 190) (1, 12) = true := zmb_at zmb_8 8 rfl
theorem zkX11_see : zOK fX11_see := zok_mk zpX11_see zdX11_see (by decide +kernel)
theorem zpX11_couldSlip : zmb fX11_couldSlip false (6, 197) (0, 75) (6, 198) (1, 12) = true := zmb_at zmb_8 9 rfl
theorem zkX11_couldSlip : zOK fX11_couldSlip := zok_mk zpX11_couldSlip zdX11_couldSlip (by decide +kernel)
theorem zpX11_slips : zmb fX11_slips false (6, 192) (6, 193) (6, 194) (1, 12) = true := zmb_at zmb_8 10 rfl
theorem zkX11_slips : zOK fX11_slips := zok_mk zpX11_slips zdX11_slips (by decide +kernel)
theorem zpX11_greatestPart : zmb fX11_greatestPart false (6, 206) (0, 76) (6, 207) (1, 12) = true := zmb_at zmb_8 11 rfl
theorem zkX11_greatestPart : zOK fX11_greatestPart := zok_mk zpX11_greatestPart zdX11_greatestPart (by decide +kernel)
theorem zpX11_tryNext : zmb fX11_tryNext false (6, 200) (6, 201) (6, 202) (1, 12) = true := zmb_at zmb_8 12 rfl
theorem zkX11_tryNext : zOK fX11_tryNext := zok_mk zpX11_tryNext zdX11_tryNext (by decide +kernel)
theorem zpX11_write : zmb fX11_write false (6, 209) (6, 210) (6, 211) (1, 12) = true := zmb_at zmb_8 13 rfl
theorem zkX11_write : zOK fX11_write := zok_mk zpX11_write zdX11_write (by decide +kernel)
theorem zpX11_tear : zmb fX11_tear false (6, 213) (6, 214) (6, 215) (1, 12) = true := zmb_at zmb_8 14 rfl
theorem zkX11_tear : zOK fX11_tear := zok_mk zpX11_tear zdX11_tear (by decide +kernel)
theorem zpX11_judge : zmb fX11_judge false (6, 217) (6, 218) (6, 219) (1, 12) = true := zmb_at zmb_8 15 rfl
theorem zkX11_judge : zOK fX11_judge := zok_mk zpX11_judge zdX11_judge (by decide +kernel)
theorem zpX11_seed : zmb fX11_seed false (6, 221) (6, 222) (6, 223) (1, 12) = true := zmb_at zmb_8 16 rfl
theorem zkX11_seed : zOK fX11_seed := zok_mk zpX11_seed zdX11_seed (by decide +kernel)
theorem zpX11_keep : zmb fX11_keep false (6, 225) (6, 226) (6, 227) (1, 12) = true := zmb_at zmb_8 17 rfl
theorem zkX11_keep : zOK fX11_keep := zok_mk zpX11_keep zdX11_keep (by decide +kernel)
theorem zpX11_goBack : zmb fX11_goBack false (6, 229) (6, 230) (6, 231) (1, 12) = true := zmb_at zmb_8 18 rfl
theorem zkX11_goBack : zOK fX11_goBack := zok_mk zpX11_goBack zdX11_goBack (by decide +kernel)
theorem zpJ6_bitCount_0f7a4 : zmb fJ6_bitCount_0f7a4 true (3, 3) (0, 0) (3, 4) (1, 15) = true := zmb_at zmb_8 19 rfl
theorem zkJ6_bitCount_0f7a4 : zOK fJ6_bitCount_0f7a4 := zok_mk zpJ6_bitCount_0f7a4 zdJ6_bitCount_0f7a4 (by decide +kernel)
theorem zpJ7_fill_53178 : zmb fJ7_fill_53178 true (2, 207) (0, 0) (2, 208) (1, 14) = true := zmb_at zmb_8 20 rfl
theorem zkJ7_fill_53178 : zOK fJ7_fill_53178 := zok_mk zpJ7_fill_53178 zdJ7_fill_53178 (by decide +kernel)
